/-! ===== pure: small methods of the reference ===== -/
theorem t9_glued (i : Int32) (S : MS) (Q : Int32 → Prop) (h : ∀ r, Q r) : w9_glued i S Q := by
  unfold w9_glued w9_glued_b21
  have e0 : (0 : Int32).toInt = 0 := rfl
  have e3 : (63 : Int32).toInt = 63 := rfl
  exact s9_in _ _ _ _ (fun hi => ⟨fun _ => h _, fun _ => ⟨pi_in.mpr (by omega), h _⟩⟩) (fun _ => ⟨fun _ => h _, fun c => absurd rfl c⟩)
theorem t9_corners (k : Int32) (S : MS) (Q : Int32 → Prop) (h : ∀ r, Q r) : w9_corners k S Q := by
  unfold w9_corners w9_corners_b31
  have e0 : (1 : Int32).toInt = 1 := rfl
  have e3 : (4 : Int32).toInt = 4 := rfl
  exact s9_in _ _ _ _ (fun hi => ⟨fun _ => ⟨fun _ => h _, fun _ => ⟨pi_in.mpr (by omega), h _⟩⟩, fun _ => h _⟩) (fun _ => ⟨fun c => absurd rfl c, fun _ => h _⟩)
theorem t9_findings (k : Int32) (S : MS) (Q : Int32 → Prop) (h : ∀ r, Q r) : w9_findings k S Q := by
  unfold w9_findings w9_findings_b19
  have e0 : (1 : Int32).toInt = 1 := rfl
  have e3 : (5 : Int32).toInt = 5 := rfl
  exact s9_in _ _ _ _ (fun hi => ⟨fun _ => h _, fun _ => ⟨pi_in.mpr (by omega), h _⟩⟩) (fun _ => ⟨fun _ => h _, fun c => absurd rfl c⟩)
theorem t9_tries (S : MS) (Q : Int32 → Prop) (h : ∀ r, Q r) : w9_tries S Q := h _
theorem t9_asked (S : MS) (Q : Int64 → Prop) (h : ∀ r, Q r) : w9_asked S Q := h _
theorem t9_finding (S : MS) (Q : Int32 → Prop) (h : ∀ r, Q r) : w9_finding S Q := h _
theorem s9_askedRow (r : Int32) (S : MS) (Q : Int32 → MS → Prop) (hb : ¬ vp_in r 4 → Q (-1) S) (hn : vp_in r 4 → (rA S 40 r).toInt < 0 → ∀ S', Fr [0, 1] S S' → Q (-3) S') (hk : vp_in r 4 → 0 ≤ (rA S 40 r).toInt → Q 0 S) : w9_askedRow r S Q := by
  unfold w9_askedRow w9_askedRow_b29
  have e0 : (0 : Int32).toInt = 0 := rfl
  refine s9_isRow _ _ (fun hr => ⟨fun _ => ⟨hr, fun c => ?_, fun c => ?_⟩, fun c => absurd c (by decide)⟩) (fun hr => ⟨fun c => absurd rfl c, fun _ => hb hr⟩)
  · rw [pi_le] at c
    exact hk hr (by omega)
  · rw [pi_le] at c
    exact s9_meets _ _ _ (by unfold vp_in; decide) (hn hr (by omega) _ (fr_tr (fr_sI (by decide)) (fr_sA (by decide))))
theorem s9_tear (r : Int32) (S : MS) (Q : Int32 → MS → Prop) (hb : ¬ vp_in r 4 → Q (-1) S) (hn : vp_in r 4 → (rA S 40 r).toInt < 0 → ∀ S', Fr [0, 1] S S' → Q (-3) S') (hk : vp_in r 4 → 0 ≤ (rA S 40 r).toInt → ∀ S', Fr [40] S S' → aI S' 40 = upd (aI S 40) r.toNatClampNeg (-9) → Q 1 S') : w9_tear r S Q := by
  unfold w9_tear
  refine s9_askedRow _ _ _ (fun hr => ⟨fun c => absurd c (by decide), fun _ => hb hr⟩) (fun hr hz S' hF => ⟨fun c => absurd c (by decide), fun _ => hn hr hz S' hF⟩) (fun hr hz => ⟨fun _ => ⟨hr, ?_⟩, fun c => absurd (by decide) c⟩)
  rintro _ rfl
  exact hk hr hz _ (fr_sA (by decide)) (rd_A _ _ _ _)

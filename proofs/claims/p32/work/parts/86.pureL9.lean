/-! ===== pure: is it there? ===== -/
theorem s9_looked (f : Int32) (S : MS) (Q : Int32 → MS → Prop) (hb : ¬ vp_in f 6 → Q (-1) S) (hn : vp_in f 6 → rL S 3 f = 0 → ∀ S', Fr [0, 1] S S' → Q (-3) S') (hk : vp_in f 6 → ¬ rL S 3 f = 0 → Q 0 S) : w9_looked f S Q := by
  unfold w9_looked w9_looked_b31
  refine s9_isFigure _ _ (fun hf => ⟨fun _ => ⟨hf, fun c => ?_, fun c => ?_⟩, fun c => absurd c (by decide)⟩) (fun hf => ⟨fun c => absurd rfl c, fun _ => hb hf⟩)
  · rw [lg_cmp_eq] at c
    exact hk hf c
  · rw [lg_cmp_eq] at c
    exact s9_meets _ _ _ (by unfold vp_in; decide) (hn hf c _ (fr_tr (fr_sI (by decide)) (fr_sA (by decide))))
theorem s9_drop (f : Int32) (S : MS) (Q : Int32 → MS → Prop) (hb : ¬ vp_in f 6 → Q (-1) S) (hn : vp_in f 6 → rL S 3 f = 0 → ∀ S', Fr [0, 1] S S' → Q (-3) S') (hk : vp_in f 6 → ¬ rL S 3 f = 0 → ∀ S', Fr [3] S S' → aJ S' 3 = vp_updL (aJ S 3) f.toNatClampNeg 0 → Q 1 S') : w9_drop f S Q := by
  unfold w9_drop
  refine s9_looked _ _ _ (fun hf => ⟨fun c => absurd c (by decide), fun _ => hb hf⟩) (fun hf hz S' hF => ⟨fun c => absurd c (by decide), fun _ => hn hf hz S' hF⟩) (fun hf hz => ⟨fun _ => ⟨hf, ?_⟩, fun c => absurd (by decide) c⟩)
  rintro _ rfl
  exact hk hf hz _ (fr_sL (by decide)) (rd_L _ _ _ _)

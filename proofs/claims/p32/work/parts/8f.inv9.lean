/-! ===== pure: what the reference keeps; figures ===== -/
def tot (d : Nat → Nat) : Nat := 2 * ((d 0 * d 1 + d 1 * d 2) + d 2 * d 0)
def BoxN (S : MS) (b : Nat) (d : Nat → Nat) : Prop := (∀ j, j < 3 → 1 ≤ d j ∧ d j ≤ 5 ∧ dm S b j = nI (d j)) ∧ tot d ≤ 24
def Inv9 (S : MS) : Prop := (∀ b, b < 4 → dm S b 0 = 0 ∨ ∃ d, BoxN S b d) ∧ (∀ f, f < 6 → pc (aJ S 3 f) ≤ 24) ∧ (∀ r, r < 4 → (aI S 40 r).toInt ≤ 24)
def G9 (S S' : MS) : Prop := Inv9 S' ∧ aI S' 40 = aI S 40 ∧ aI S' 41 = aI S 41 ∧ aI S' 7 = aI S 7
theorem boxN_eq {S S' : MS} {b : Nat} {d : Nat → Nat} (e : aI S' 7 = aI S 7) (h : BoxN S b d) : BoxN S' b d := by
  refine ⟨fun j hj => ⟨(h.1 j hj).1, (h.1 j hj).2.1, ?_⟩, h.2⟩
  have := (h.1 j hj).2.2
  unfold dm at this ⊢
  rw [e]; exact this
theorem boxN_fr {ks : List Nat} {S S' : MS} {b : Nat} {d : Nat → Nat} (hF : Fr ks S S') (h7 : 7 ∉ ks) (h : BoxN S b d) : BoxN S' b d := boxN_eq (hF 7 h7).2.2.1 h
theorem inv_box {S S' : MS} (e : aI S' 7 = aI S 7) (h : ∀ b, b < 4 → dm S b 0 = 0 ∨ ∃ d, BoxN S b d) : ∀ b, b < 4 → dm S' b 0 = 0 ∨ ∃ d, BoxN S' b d := by
  intro b hb
  rcases h b hb with q | ⟨d, q⟩
  · left; unfold dm at q ⊢; rw [e]; exact q
  · exact Or.inr ⟨d, boxN_eq e q⟩
theorem g9_fr {ks : List Nat} {S S' : MS} (h : Inv9 S) (hF : Fr ks S S') (h3 : 3 ∉ ks) (h7 : 7 ∉ ks) (h40 : 40 ∉ ks) (h41 : 41 ∉ ks) : G9 S S' := by
  refine ⟨⟨inv_box (hF 7 h7).2.2.1 h.1, ?_, ?_⟩, (hF 40 h40).2.2.1, (hF 41 h41).2.2.1, (hF 7 h7).2.2.1⟩
  · rw [(hF 3 h3).2.2.2]; exact h.2.1
  · rw [(hF 40 h40).2.2.1]; exact h.2.2
theorem g9_fig {ks : List Nat} {S S' : MS} {f : Nat} {v : Int64} (h : Inv9 S) (hF : Fr ks S S') (h7 : 7 ∉ ks) (h40 : 40 ∉ ks) (h41 : 41 ∉ ks) (e : aJ S' 3 = vp_updL (aJ S 3) f v) (hv : pc v ≤ 24) : G9 S S' := by
  refine ⟨⟨inv_box (hF 7 h7).2.2.1 h.1, ?_, ?_⟩, (hF 40 h40).2.2.1, (hF 41 h41).2.2.1, (hF 7 h7).2.2.1⟩
  · intro g hg
    rw [e]
    by_cases q : g = f
    · subst q; rw [pk_uLs]; exact hv
    · rw [pk_uLn q]; exact h.2.1 g hg
  · rw [(hF 40 h40).2.2.1]; exact h.2.2
theorem g9_rf {S : MS} (h : Inv9 S) : G9 S S := ⟨h, rfl, rfl, rfl⟩
theorem g9_tr {S S1 S2 : MS} (h1 : G9 S S1) (h2 : G9 S1 S2) : G9 S S2 := ⟨h2.1, h2.2.1.trans h1.2.1, h2.2.2.1.trans h1.2.2.1, h2.2.2.2.trans h1.2.2.2⟩
theorem inv_fig {S : MS} {f : Int32} (h : Inv9 S) (hf : vp_in f 6) : pc (rL S 3 f) ≤ 24 := by
  obtain ⟨k, hk, rfl⟩ := vp_in_of hf (by decide)
  show pc (aJ S 3 (nI k).toNatClampNeg) ≤ 24
  rw [nI_clamp (by omega)]
  exact h.2.1 k hk
theorem s9_setEnds (x : Int64) (S : MS) (Q : MS → Prop) (h : ∀ S', Fr [6] S S' → Q S') : w9_setEnds x S Q := by
  unfold w9_setEnds
  rintro _ rfl _ rfl _ rfl _ rfl
  unfold w9_setEnds_b32
  refine lp_up 64 (fun z => z.1) (fun k z => Fr [6] S z.2) (by decide) ?_ (Nat.zero_le _) (rfl : (0 : Int32) = nI 0) (fr_tr (fr_tr (fr_tr (fr_sA (by decide)) (fr_sA (by decide))) (fr_sA (by decide))) (fr_sA (by decide)))
  rintro K ⟨y, S1⟩ k hk hc hI hK
  try dsimp only at hc hI hK
  subst hc
  unfold w9_setEnds_F32 w9_setEnds_d32
  try dsimp only
  refine ⟨fun _ => h _ hI, fun c => ?_⟩
  have hlt := nI_go (N := 64) (by decide) hk c
  have k173 : ∀ t S2, Fr [6] S S2 → w9_setEnds_b173 (fun y0 y1 => K (y0, y1)) x (nI k) 3 t S2 Q := by
    intro t S2 hF
    unfold w9_setEnds_b173 w9_setEnds_b174
    refine ⟨by unfold vp_in; decide, ?_⟩
    rintro _ rfl _ rfl
    exact hK (_, _) hlt (nI_1 k) (fr_tr hF (fr_sA (by decide)))
  have k141 : ∀ t S2, Fr [6] S S2 → w9_setEnds_b141 (fun y0 y1 => K (y0, y1)) x (nI k) 2 t S2 Q := by
    intro t S2 hF
    unfold w9_setEnds_b141
    refine ⟨by unfold vp_in; decide, ?_⟩
    rintro _ rfl
    exact ⟨fun _ => k173 _ _ (fr_tr hF (fr_sA (by decide))), fun _ => k173 _ _ (fr_tr hF (fr_sA (by decide)))⟩
  have k109 : ∀ t S2, Fr [6] S S2 → w9_setEnds_b109 (fun y0 y1 => K (y0, y1)) x (nI k) 1 t S2 Q := by
    intro t S2 hF
    unfold w9_setEnds_b109
    refine ⟨by unfold vp_in; decide, ?_⟩
    rintro _ rfl
    exact ⟨fun _ => k141 _ _ (fr_tr hF (fr_sA (by decide))), fun _ => k141 _ _ (fr_tr hF (fr_sA (by decide)))⟩
  have k77 : ∀ t S2, Fr [6] S S2 → w9_setEnds_b77 (fun y0 y1 => K (y0, y1)) x (nI k) 0 t S2 Q := by
    intro t S2 hF
    unfold w9_setEnds_b77
    refine ⟨by unfold vp_in; decide, ?_⟩
    rintro _ rfl
    exact ⟨fun _ => k109 _ _ (fr_tr hF (fr_sA (by decide))), fun _ => k109 _ _ (fr_tr hF (fr_sA (by decide)))⟩
  refine s9_has _ _ _ (fun _ => ⟨fun c => absurd c (by decide), fun _ => ⟨fun _ => k77 _ _ hI, fun _ => k77 _ _ hI⟩⟩) (fun _ => ⟨fun _ => ?_, fun c => absurd rfl c⟩)
  unfold w9_setEnds_b174
  rintro _ rfl
  exact hK (_, _) hlt (nI_1 k) hI
theorem s9_keep (f : Int32) (hf : vp_in f 6) (x : Int64) (S : MS) (Q : MS → Prop) (h : ∀ S', Fr [3, 4, 5, 6] S S' → aJ S' 3 = vp_updL (aJ S 3) f.toNatClampNeg x → Q S') : w9_keep f x S Q := by
  unfold w9_keep w9_keep_b47
  refine s9_setEnds _ _ _ (fun S1 hF1 => ⟨hf, ?_⟩)
  rintro _ rfl
  have key : ∀ v, w9_keep_b52 f f v (sL S1 3 f x) Q := by
    intro v
    unfold w9_keep_b52
    refine ⟨hf, ?_⟩
    rintro _ rfl
    refine ⟨hf, ?_⟩
    rintro _ rfl
    refine h _ (fr_tr (fr_mono hF1 (by decide)) (fr_tr (fr_sL (by decide)) (fr_tr (fr_sA (by decide)) (fr_sA (by decide))))) ?_
    have e1 : aJ (sL S1 3 f x) 3 = vp_updL (aJ S1 3) f.toNatClampNeg x := rd_L _ _ _ _
    rw [(hF1 3 (by decide)).2.2.2] at e1
    exact e1
  exact ⟨fun _ => key _, fun _ => ⟨fun _ => key _, fun _ => key _⟩⟩
theorem t9_figure (f : Int32) (x : Int64) (S : MS) (Q : Int32 → MS → Prop) (hI : Inv9 S) (h : ∀ r S', G9 S S' → Q r S') : w9_figure f x S Q := by
  unfold w9_figure w9_figure_b24
  refine s9_bits x _ (s9_isFigure _ _ (fun hf => ⟨fun c => absurd c (by decide), fun _ => s9_in _ _ _ _ (fun hn => ⟨fun _ => ?_, fun c => absurd c (by decide)⟩) (fun _ => ⟨fun c => absurd rfl c, fun _ => h _ _ (g9_rf hI)⟩)⟩) (fun _ => ⟨fun _ => h _ _ (g9_rf hI), fun c => absurd rfl c⟩))
  have e1 : (1 : Int32).toInt = 1 := rfl
  have e24 : (24 : Int32).toInt = 24 := rfl
  have ep : (nI (pc x)).toInt = (pc x : Int) := nI_toInt (by have := pc_le x; omega)
  have hx : ¬ x = 0 := by
    intro e
    rw [e, pc_0] at ep hn
    rw [show (nI 0).toInt = 0 from rfl] at hn
    omega
  refine t9_hangs x hx _ (fun r _ => ⟨fun _ => s9_keep f hf x S _ (fun S' hF e => h _ _ (g9_fig hI hF (by decide) (by decide) (by decide) e (by omega))), fun _ => h _ _ (g9_rf hI)⟩)
theorem t9_rimOf (x : Int64) (Q : Int32 → Prop) (h : ∀ r, Q r) : w9_rimOf x Q := by
  unfold w9_rimOf w9_rimOf_b4
  refine lp_up 64 (fun z => z.2) (fun _ _ => True) (by decide) ?_ (Nat.zero_le _) (rfl : (0 : Int32) = nI 0) trivial
  rintro K ⟨n, y⟩ k hk hc - hK
  try dsimp only at hc hK
  subst hc
  unfold w9_rimOf_F4 w9_rimOf_d4
  try dsimp only
  refine ⟨fun _ => h _, fun c => ?_⟩
  have hlt := nI_go (N := 64) (by decide) hk c
  unfold w9_rimOf_b13
  refine lp_up 4 (fun z => z.2) (fun _ _ => True) (by decide) ?_ (Nat.zero_le _) (rfl : (0 : Int32) = nI 0) trivial
  rintro K2 ⟨n2, y2⟩ k2 hk2 hc - hK2
  try dsimp only at hc hK2
  subst hc
  unfold w9_rimOf_F13 w9_rimOf_d13 w9_rimOf_b54 w9_rimOf_b46
  try dsimp only
  have hend : ∀ y1 : Int32, y1 = nI k + 1 → K (n2, y1) := by
    rintro _ rfl
    exact hK (_, _) hlt (nI_1 k) trivial
  refine ⟨fun _ => hend, fun c2 => s9_has _ _ _ (fun _ => ⟨fun c => absurd c (by decide), fun _ => t9_beside _ _ _ (fun r _ => s9_has _ _ _ (fun _ => ⟨fun c => absurd c (by decide), fun _ => ?_⟩) (fun _ => ⟨fun _ => ?_, fun c => absurd rfl c⟩))⟩) (fun _ => ⟨fun _ => hend, fun c => absurd rfl c⟩)⟩
  · rintro _ rfl _ rfl
    exact hK2 (_, _) (nI_go (N := 4) (by decide) hk2 c2) (nI_1 k2) trivial
  · rintro _ rfl _ rfl
    exact hK2 (_, _) (nI_go (N := 4) (by decide) hk2 c2) (nI_1 k2) trivial
theorem r0_pos : (0 : Int32) ≤ 0 := by decide
theorem t9_told (f w : Int32) (S : MS) (Q : Int32 → MS → Prop) (hI : Inv9 S) (h : ∀ r S', G9 S S' → Q r S') : w9_told f w S Q := by
  unfold w9_told w9_told_b79
  refine s9_in _ _ _ _ (fun _ => ⟨fun _ => s9_looked _ _ _ (fun _ => ⟨fun c => absurd c (by decide), fun _ => h _ _ (g9_rf hI)⟩) (fun _ _ S' hF => ⟨fun c => absurd c (by decide), fun _ => h _ _ (g9_fr hI hF (by decide) (by decide) (by decide) (by decide))⟩) (fun hf hx => ⟨fun _ => ?_, fun c => absurd r0_pos c⟩), fun c => absurd c (by decide)⟩) (fun _ => ⟨fun c => absurd rfl c, fun _ => h _ _ (g9_rf hI)⟩)
  exact ⟨fun _ => ⟨fun _ => ⟨fun _ => ⟨hf, s9_leastOf _ hx _ (fun _ _ _ _ => h _ _ (g9_rf hI))⟩, fun _ => ⟨hf, t9_rimOf _ _ (fun _ => h _ _ (g9_rf hI))⟩⟩, fun _ => ⟨hf, s9_bits _ _ (h _ _ (g9_rf hI))⟩⟩, fun _ => ⟨hf, h _ _ (g9_rf hI)⟩⟩
theorem t9_mark (f w : Int32) (S : MS) (Q : Int32 → MS → Prop) (hI : Inv9 S) (h : ∀ r S', G9 S S' → Q r S') : w9_mark f w S Q := by
  have k54 : vp_in f 6 → w9_mark_b54 f w S Q := by
    intro hf
    unfold w9_mark_b54 w9_mark_b118
    refine ⟨hf, s9_setEnds _ _ _ (fun S' hF => ?_)⟩
    have hG := g9_fr hI hF (by decide) (by decide) (by decide) (by decide)
    exact ⟨fun _ => ⟨fun _ => h _ _ hG, fun _ => h _ _ hG⟩, fun _ => ⟨fun _ => h _ _ hG, fun _ => h _ _ hG⟩⟩
  have k48 : w9_mark_b48 S Q := by
    unfold w9_mark_b48
    exact s9_meets _ _ _ (by unfold vp_in; decide) (h _ _ (g9_fr (ks := [0, 1]) hI (fr_tr (fr_sI (by decide)) (fr_sA (by decide))) (by decide) (by decide) (by decide) (by decide)))
  unfold w9_mark
  refine s9_in _ _ _ _ (fun _ => ⟨fun _ => s9_looked _ _ _ (fun _ => ⟨fun c => absurd c (by decide), fun _ => h _ _ (g9_rf hI)⟩) (fun _ _ S' hF => ⟨fun c => absurd c (by decide), fun _ => h _ _ (g9_fr hI hF (by decide) (by decide) (by decide) (by decide))⟩) (fun hf hx => ⟨fun _ => ⟨hf, fun _ => k54 hf, fun _ => ⟨fun _ => k48, fun _ => ⟨fun _ => k54 hf, fun _ => k48⟩⟩⟩, fun c => absurd r0_pos c⟩), fun c => absurd c (by decide)⟩) (fun _ => ⟨fun c => absurd rfl c, fun _ => h _ _ (g9_rf hI)⟩)
theorem t9_squares (f : Int32) (S : MS) (Q : Int32 → MS → Prop) (hI : Inv9 S) (h : ∀ r S', G9 S S' → Q r S') : w9_squares f S Q := by
  unfold w9_squares w9_squares_b33 w9_ask
  refine s9_looked _ _ _ (fun _ => ⟨fun c => absurd c (by decide), fun _ => h _ _ (g9_rf hI)⟩) (fun _ _ S' hF => ⟨fun c => absurd c (by decide), fun _ => h _ _ (g9_fr hI hF (by decide) (by decide) (by decide) (by decide))⟩) (fun hf hx => ⟨fun _ => ⟨hf, s9_bits _ _ ?_⟩, fun c => absurd r0_pos c⟩)
  rintro _ rfl
  exact h _ _ (g9_fr (ks := [2]) hI (fr_sJ (by decide)) (by decide) (by decide) (by decide) (by decide))
theorem t9_drop (f : Int32) (S : MS) (Q : Int32 → MS → Prop) (hI : Inv9 S) (h : ∀ r S', G9 S S' → Q r S') : w9_drop f S Q :=
  s9_drop f S Q (fun _ => h _ _ (g9_rf hI)) (fun _ _ S' hF => h _ _ (g9_fr hI hF (by decide) (by decide) (by decide) (by decide))) (fun _ _ S' hF e => h _ _ (g9_fig hI hF (by decide) (by decide) (by decide) e (by rw [pc_0]; omega)))

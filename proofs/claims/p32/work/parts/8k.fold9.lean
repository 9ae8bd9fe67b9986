/-! ===== pure: cell, next, folding of the reference ===== -/
theorem frm_O {s t : Nat} (hs : s < 6) (ht : t < 4) : FrO s (frm s t).1 (frm s t).2 := frm_ok s hs t ht
theorem ok_lt {d p : Nat → Nat} {s : Nat} (hs : s < 6) (hd : ∀ j, j < 3 → d j ≤ 5) (h : Ok d s p) : ∀ j, j < 3 → p j < 100 := by
  intro j hj
  have h1 := hd j hj
  by_cases e : j = s / 2
  · have := h.2
    rw [← e] at this
    split at this <;> omega
  · have := h.1 j hj e
    omega
theorem s9_step {b c t w : Nat} {d : Nat → Nat} (hb : b < 4) (ht : t < 4) (hw : w < 4) (S : MS) (hB : BoxN S b d) (hc : c < tot d) (tf : MS → Int32) (htf : ∀ S', Fr [8, 9] S S' → tf S' = nI t) (R : MS → Prop)
    (h : ∀ S' s' p', s' < 6 → Fr [8, 9, 10, 11] S S' → At S' s' p' → Ok d s' p' → R S') : w9_goTo (nI b) (nI c) S (fun S9 => w9_setFrame (tf S9) S9 (fun S10 => w9_go (nI b) (nI w) S10 R)) := by
  refine s9_goTo hb S hB hc _ (fun S1 s l hs hl _ hF1 hA1 => ?_)
  rw [htf S1 hF1]
  refine s9_setFrame hs ht S1 hA1.1 _ (fun S2 hF2 h10 h11 => ?_)
  have hd1 : ∀ j, j < 3 → 1 ≤ d j := fun j hj => (hB.1 j hj).1
  have hO := posOf_ok hs hd1 hl
  have hA2 : At S2 s (posOf d s l) := ⟨(hF2 8 (by decide)).1.trans hA1.1, fun j hj => by rw [(hF2 9 (by decide)).2.2.1]; exact hA1.2 j hj⟩
  have hB2 : BoxN S2 b d := boxN_fr hF2 (by decide) (boxN_fr hF1 (by decide) hB)
  refine s9_go hb hs hw S2 hB2 hA2 hO (frm_O hs ht) h10 h11 _ (fun S3 hF3 hA3 _ _ => ?_)
  have hk := go_ok hs hd1 hO (frm_O hs ht) hw
  exact h S3 _ _ hk.1 (fr_tr (fr_mono hF1 (by decide)) (fr_tr (fr_mono hF2 (by decide)) hF3)) hA3 hk.2.1
theorem cell_in {S : MS} {b : Nat} {d : Nat → Nat} (hb : b < 4) (hB : BoxN S b d) (x : Int32) (Q : Int32 → Prop) (h1 : ∀ c, c < tot d → x = nI c → Q 1) (h0 : Q 0) : w9_isCell (nI b) x S Q := by
  have h24 := hB.2
  have hd0 := (hB.1 0 (by decide)).1
  have hd1 := (hB.1 1 (by decide)).1
  have hp : 1 ≤ tot d := by
    unfold tot
    have := Nat.mul_le_mul hd0 hd1
    omega
  have e : (cls9 S b).toInt = (tot d : Int) := by rw [cls_N hB, nI_toInt (by omega)]
  refine s9_isCell hb x S (by rw [e]; omega) Q (fun hx => ?_) (fun _ => h0)
  rw [e] at hx
  obtain ⟨c, hc, rfl⟩ := vp_in_of (pi_in.mpr hx) (by omega)
  exact h1 c hc rfl
theorem box_of {S : MS} {b : Nat} (hI : Inv9 S) (hb : b < 4) (h : ¬ dm S b 0 = 0) : ∃ d, BoxN S b d := by
  rcases hI.1 b hb with q | q
  · exact absurd q h
  · exact q
theorem m9_meets (w : Int32) (hw : vp_in w 6) (S : MS) (Q : Int32 → MS → Prop) (hI : Inv9 S) (h : ∀ r S', G9 S S' → Q r S') : w9_meets w S Q :=
  s9_meets _ _ _ hw (h _ _ (g9_fr (ks := [0, 1]) hI (fr_tr (fr_sI (by decide)) (fr_sA (by decide))) (by decide) (by decide) (by decide) (by decide)))
theorem t9_cell (b c w : Int32) (S : MS) (Q : Int32 → MS → Prop) (hI : Inv9 S) (h : ∀ r S', G9 S S' → Q r S') : w9_cell b c w S Q := by
  unfold w9_cell w9_cell_b66
  have e0 : (0 : Int32).toInt = 0 := rfl
  have e3 : (3 : Int32).toInt = 3 := rfl
  refine s9_in _ _ _ _ (fun hw => ⟨fun _ => s9_lookedBox _ _ _ (fun _ => ⟨fun c => absurd c (by decide), fun _ => h _ _ (g9_rf hI)⟩) (fun _ _ _ _ S' hF => ⟨fun c => absurd c (by decide), fun _ => h _ _ (g9_fr hI hF (by decide) (by decide) (by decide) (by decide))⟩) (fun b hb e hd => ⟨fun _ => ?_, fun c => absurd r0_pos c⟩), fun c => absurd c (by decide)⟩) (fun _ => ⟨fun c => absurd rfl c, fun _ => h _ _ (g9_rf hI)⟩)
  subst e
  obtain ⟨d, hB⟩ := box_of hI hb hd
  obtain ⟨k, hk, rfl⟩ := vp_in_of (n := 4) (pi_in.mpr (by omega) : vp_in w 4) (by decide)
  refine cell_in hb hB c _ (fun c hc e => ⟨fun _ => ?_, fun c => absurd c (by decide)⟩) ⟨fun c => absurd rfl c, fun _ => m9_meets _ (by unfold vp_in; decide) _ _ hI h⟩
  subst e
  refine s9_goTo hb S hB hc _ (fun S' s l _ _ _ hF _ => ⟨fun q => ⟨?_, h _ _ (g9_fr hI hF (by decide) (by decide) (by decide) (by decide))⟩, fun _ => h _ _ (g9_fr hI hF (by decide) (by decide) (by decide) (by decide))⟩)
  have : ¬ k = 0 := fun e => q (by rw [e]; rfl)
  rw [show nI k - (1 : Int32) = nI (k - 1) from pk_sub (b := 1) (by omega)]
  exact vp_in_nI (by omega) (by decide)
theorem t9_next (b c t w : Int32) (S : MS) (Q : Int32 → MS → Prop) (hI : Inv9 S) (h : ∀ r S', G9 S S' → Q r S') : w9_next b c t w S Q := by
  unfold w9_next w9_next_b19 w9_ask
  have e0 : (0 : Int32).toInt = 0 := rfl
  have e3 : (3 : Int32).toInt = 3 := rfl
  refine s9_in _ _ _ _ (fun ht => ⟨fun c => absurd c (by decide), fun _ => s9_in _ _ _ _ (fun hw => ⟨fun _ => s9_lookedBox _ _ _ (fun _ => ⟨fun c => absurd c (by decide), fun _ => h _ _ (g9_rf hI)⟩) (fun _ _ _ _ S' hF => ⟨fun c => absurd c (by decide), fun _ => h _ _ (g9_fr hI hF (by decide) (by decide) (by decide) (by decide))⟩) (fun b hb e hd => ⟨fun _ => ?_, fun c => absurd r0_pos c⟩), fun c => absurd c (by decide)⟩) (fun _ => ⟨fun c => absurd rfl c, fun _ => h _ _ (g9_rf hI)⟩)⟩) (fun _ => ⟨fun _ => h _ _ (g9_rf hI), fun c => absurd rfl c⟩)
  subst e
  obtain ⟨d, hB⟩ := box_of hI hb hd
  obtain ⟨k, hk, rfl⟩ := vp_in_of (n := 4) (pi_in.mpr (by omega) : vp_in t 4) (by decide)
  obtain ⟨v, hv, rfl⟩ := vp_in_of (n := 4) (pi_in.mpr (by omega) : vp_in w 4) (by decide)
  refine cell_in hb hB c _ (fun c hc e => ⟨fun _ => ?_, fun c => absurd c (by decide)⟩) ⟨fun c => absurd rfl c, fun _ => m9_meets _ (by unfold vp_in; decide) _ _ hI h⟩
  subst e
  refine s9_step hb hk hv S hB hc (fun _ => nI k) (fun _ _ => rfl) _ (fun S' s p hs hF hA hO => ?_)
  refine s9_turnNow hs S' hA.1 _ (fun t _ => s9_cellNow hb hs S' (boxN_fr hF (by decide) hB) hA (ok_lt hs (fun j hj => (hB.1 j hj).2.1) hO) _ ?_)
  rintro _ rfl
  exact h _ _ (g9_fr (ks := [2, 8, 9, 10, 11]) hI (fr_tr (fr_mono hF (by decide)) (fr_sJ (by decide))) (by decide) (by decide) (by decide) (by decide))
theorem nbool {r : Int32} (h : r = 0 ∨ r = 1) : narrow .boolean (.int r) = .int r := by
  rcases h with rfl | rfl <;> rfl
/-- how many squares have no cell yet -/
def ng (S : MS) : Nat := fb_ct (fun k => decide (aI S 12 k = -9)) 64
def Jf (d : Nat → Nat) (S0 S : MS) : Prop := Fr [8, 9, 10, 11, 12, 13] S0 S ∧ ∀ k, k < 64 → aI S 12 k = -9 ∨ ∃ c t, c < tot d ∧ t < 4 ∧ aI S 12 k = nI c ∧ aI S 13 k = nI t
theorem Jf_fr {d : Nat → Nat} {S0 S S' : MS} (h : Jf d S0 S) (hF : Fr [8, 9, 10, 11] S S') : Jf d S0 S' := by
  refine ⟨fr_tr h.1 (fr_mono hF (by decide)), ?_⟩
  rw [(hF 12 (by decide)).2.2.1, (hF 13 (by decide)).2.2.1]
  exact h.2
theorem ng_eq {S S' : MS} (e : aI S' 12 = aI S 12) : ng S' = ng S := by unfold ng; rw [e]
theorem nI_m9 {c : Nat} (hc : c < 2 ^ 31) : ¬ nI c = -9 := by
  intro e
  have := (pi_eq _ _).mp e
  rw [nI_toInt hc, show (-9 : Int32).toInt = -9 from rfl] at this
  omega
theorem Jf_put {d : Nat → Nat} {S0 S : MS} {m c t : Nat} (h : Jf d S0 S) (hm : m < 64) (hc : c < tot d) (ht : t < 4) : Jf d S0 (sA (sA S 12 (nI m) (nI c)) 13 (nI m) (nI t)) := by
  refine ⟨fr_tr h.1 (fr_tr (fr_sA (by decide)) (fr_sA (by decide))), fun k hk => ?_⟩
  have e12 : aI (sA (sA S 12 (nI m) (nI c)) 13 (nI m) (nI t)) 12 = upd (aI S 12) m (nI c) := by
    have := rd_A S 12 (nI m) (nI c)
    rw [nI_clamp (by omega)] at this
    exact this
  have e13 : aI (sA (sA S 12 (nI m) (nI c)) 13 (nI m) (nI t)) 13 = upd (aI S 13) m (nI t) := by
    have := rd_A (sA S 12 (nI m) (nI c)) 13 (nI m) (nI t)
    rw [nI_clamp (by omega)] at this
    exact this
  rw [e12, e13]
  by_cases e : k = m
  · subst e
    rw [pk_us, pk_us]
    exact Or.inr ⟨c, t, hc, ht, rfl, rfl⟩
  · rw [pk_un e, pk_un e]
    exact h.2 k hk
theorem ng_put {S S' : MS} {m c : Nat} (hm : m < 64) (hc : c < 2 ^ 31) (h9 : aI S 12 m = -9) (e : aI S' 12 = upd (aI S 12) m (nI c)) : ng S' < ng S := by
  unfold ng
  have e1 : fb_ct (fun k => decide (aI S' 12 k = -9)) 64 = fb_ct (fun k => if k = m then false else decide (aI S 12 k = -9)) 64 := by
    apply fb_ct_cong
    intro k _
    rw [e]
    by_cases q : k = m
    · rw [if_pos q, q, pk_us]; exact decide_eq_false (nI_m9 hc)
    · rw [if_neg q, pk_un q]
  have h2 := fb_ct_upd (fun k => decide (aI S 12 k = -9)) false hm
  rw [e1]
  rw [if_pos (decide_eq_true h9), if_neg (by decide : ¬ false = true)] at h2
  omega

theorem t9_isFolded {b c t : Nat} {d : Nat → Nat} (x : Int64) (hx : ¬ x = 0) (hb : b < 4) (S : MS) (hB : BoxN S b d) (hc : c < tot d) (ht : t < 4) (Q : Int32 → MS → Prop) (h : ∀ r S', Fr [8, 9, 10, 11, 12, 13] S S' → Q r S') : w9_isFolded x (nI b) (nI c) (nI t) S Q := by
  have h24 := hB.2
  unfold w9_isFolded w9_isFolded_b3
  refine lp_up 64 (fun z => z.1) (fun k z => Fr [12] S z.2 ∧ ∀ j, j < k → aI z.2 12 j = -9) (by decide) ?_ (Nat.zero_le _) (rfl : (0 : Int32) = nI 0) ⟨fr_rf, fun j hj => absurd hj (Nat.not_lt_zero j)⟩
  rintro K ⟨y, S1⟩ k hk hc1 ⟨hF1, h9⟩ hK
  try dsimp only at hc1 hF1 h9 hK
  subst hc1
  unfold w9_isFolded_F3 w9_isFolded_d3
  try dsimp only
  refine ⟨fun q => ?_, fun q => ?_⟩
  rotate_left
  · have hlt := nI_go (N := 64) (by decide) hk q
    refine ⟨vp_in_nI hlt (by decide), ?_⟩
    rintro _ rfl _ rfl
    refine hK (_, _) hlt (nI_1 k) ⟨fr_tr hF1 (fr_sA (by decide)), fun j hj => ?_⟩
    try dsimp only
    rw [rd_A, nI_clamp (by omega)]
    by_cases e : j = k
    · rw [e, pk_us]
    · rw [pk_un e]; exact h9 j (by omega)
  have ek := nI_end (N := 64) (by decide) hk q
  subst ek
  refine s9_leastOf x hx _ (fun m hm _ _ => ⟨vp_in_nI hm (by decide), ?_⟩)
  rintro _ rfl _ rfl
  have hJ0 : Jf d S S1 := ⟨fr_mono hF1 (by decide), fun k hk => Or.inl (h9 k hk)⟩
  have hJ1 := Jf_put hJ0 hm hc ht
  unfold w9_isFolded_b55
  refine lp_of (fun z : Int32 × Int32 × MS => Jf d S z.2.2 ∧ (z.2.1 = 0 ∨ z.2.1 = 1)) (fun z => if z.1 = 0 then 0 else 1 + ng z.2.2) ?_ (by exact ⟨hJ1, Or.inr rfl⟩)
  clear hK hJ1 hJ0
  rintro K ⟨goes, good, S2⟩ ⟨hJ, hg⟩ hK
  try dsimp only at hJ hg hK
  unfold w9_isFolded_F55 w9_isFolded_d55
  try dsimp only
  have hfin : ∀ g, (g = 0 ∨ g = 1) → w9_isFolded_b247 x g S2 Q := by
    intro g0 hg0
    unfold w9_isFolded_b247 w9_isFolded_b253
    refine lp_up 64 (fun z => z.2.2) (fun _ z => z.1 = 0 ∨ z.1 = 1) (by decide) ?_ (Nat.zero_le _) (rfl : (0 : Int32) = nI 0) hg0
    rintro K1 ⟨g, seen, y⟩ k hk hcc hg hK1
    try dsimp only at hcc hg hK1
    subst hcc
    unfold w9_isFolded_F253 w9_isFolded_d253 w9_isFolded_b316 w9_isFolded_b310
    try dsimp only
    refine ⟨fun _ => ⟨nbool hg, h _ _ hJ.1⟩, fun q => ⟨fun _ => ⟨nbool hg, h _ _ hJ.1⟩, fun _ => ?_⟩⟩
    have hlt := nI_go (N := 64) (by decide) hk q
    refine s9_has _ _ _ (fun _ => ⟨fun c => absurd c (by decide), fun _ => ⟨vp_in_nI hlt (by decide), ?_, ?_⟩⟩) (fun _ => ⟨fun _ => ?_, fun c => absurd rfl c⟩)
    · intro _
      unfold w9_isFolded_b294 w9_isFolded_b310
      refine ⟨vp_in_nI hlt (by decide), ?_⟩
      rintro _ rfl _ rfl
      exact hK1 (_, _, _) hlt (nI_1 k) (Or.inl rfl)
    · intro _
      unfold w9_isFolded_b294 w9_isFolded_b310
      refine ⟨vp_in_nI hlt (by decide), ?_⟩
      rintro _ rfl _ rfl
      exact hK1 (_, _, _) hlt (nI_1 k) (Or.inr rfl)
    · rintro _ rfl
      exact hK1 (_, _, _) hlt (nI_1 k) hg
  refine ⟨fun _ => hfin _ hg, fun cg => ⟨fun _ => hfin _ hg, fun _ => ?_⟩⟩
  unfold w9_isFolded_b71
  refine lp_up 64 (fun z => z.2.2.1) (fun _ z => Jf d S z.2.2.2 ∧ (z.2.1 = 0 ∨ z.2.1 = 1) ∧ ng z.2.2.2 ≤ ng S2 ∧ (¬ z.1 = 0 → ng z.2.2.2 < ng S2)) (by decide) ?_ (Nat.zero_le _) (rfl : (0 : Int32) = nI 0) (by exact ⟨hJ, hg, Nat.le_refl _, fun c => absurd rfl c⟩)
  rintro K1 ⟨go1, g1, y, S3⟩ k hk hcc ⟨hJ3, hg3, hn3, hl3⟩ hK1
  try dsimp only at hcc hJ3 hg3 hn3 hl3 hK1
  subst hcc
  unfold w9_isFolded_F71 w9_isFolded_d71
  try dsimp only
  refine ⟨fun _ => hK (_, _, _) ⟨hJ3, hg3⟩ ?_, fun q => ?_⟩
  · dsimp only
    rw [if_neg cg]
    by_cases e : go1 = 0
    · rw [if_pos e]; omega
    · rw [if_neg e]; have := hl3 e; omega
  have hlt := nI_go (N := 64) (by decide) hk q
  unfold w9_isFolded_b81
  refine lp_up 4 (fun z => z.2.2.1) (fun _ z => Jf d S z.2.2.2 ∧ (z.2.1 = 0 ∨ z.2.1 = 1) ∧ ng z.2.2.2 ≤ ng S2 ∧ (¬ z.1 = 0 → ng z.2.2.2 < ng S2)) (by decide) ?_ (Nat.zero_le _) (rfl : (0 : Int32) = nI 0) (by exact ⟨hJ3, hg3, hn3, hl3⟩)
  clear hJ3 hg3 hn3 hl3
  rintro K2 ⟨go2, g2, y, S4⟩ w hw hcc ⟨hJ4, hg4, hn4, hl4⟩ hK2
  try dsimp only at hcc hJ4 hg4 hn4 hl4 hK2
  subst hcc
  unfold w9_isFolded_F81 w9_isFolded_d81 w9_isFolded_b238
  try dsimp only
  have hend : ∀ y1 : Int32, y1 = nI k + 1 → K1 (go2, g2, y1, S4) := by
    rintro _ rfl
    exact hK1 (_, _, _, _) hlt (nI_1 k) ⟨hJ4, hg4, hn4, hl4⟩
  refine ⟨fun _ => hend, fun q2 => s9_has _ _ _ (fun _ => ⟨fun c => absurd c (by decide), fun _ => ⟨vp_in_nI hlt (by decide), fun _ => hend, fun hneg => ?_⟩⟩) (fun _ => ⟨fun _ => hend, fun c => absurd rfl c⟩)⟩
  have hwlt := nI_go (N := 4) (by decide) hw q2
  have hnext : ∀ go5 g5 S5, Jf d S S5 → (g5 = 0 ∨ g5 = 1) → ng S5 ≤ ng S2 → (¬ go5 = 0 → ng S5 < ng S2) → w9_isFolded_b232 (fun y0 y1 y2 y3 => K2 (y0, y1, y2, y3)) x (nI b) go5 g5 (nI k) (nI w) S5 Q := by
    intro go5 g5 S5 h1 h2 h3 h4
    unfold w9_isFolded_b232
    rintro _ rfl
    exact hK2 (_, _, _, _) hwlt (nI_1 w) ⟨h1, h2, h3, h4⟩
  have ekk : rA S4 12 (nI k) = aI S4 12 k := by
    show aI S4 12 (nI k).toNatClampNeg = _
    rw [nI_clamp (by omega)]
  obtain ⟨c4, t4, hc4, ht4, e12, e13⟩ : ∃ c t, c < tot d ∧ t < 4 ∧ aI S4 12 k = nI c ∧ aI S4 13 k = nI t := by
    rcases hJ4.2 k hlt with q | q
    · rw [ekk, q] at hneg; exact absurd (by decide) hneg
    · exact q
  refine t9_beside _ _ _ (fun r hr => s9_has _ _ _ (fun hb2 => ⟨fun c => absurd c (by decide), fun _ => ?_⟩) (fun _ => ⟨fun _ => hnext _ _ _ hJ4 hg4 hn4 hl4, fun c => absurd rfl c⟩))
  obtain ⟨m2, hm2, rfl, _⟩ := hasB_of hr hb2
  rw [ekk, e12]
  have hB4 : BoxN S4 b d := boxN_fr hJ4.1 (by decide) hB
  refine s9_step hb ht4 hwlt S4 hB4 hc4 (fun S9 => rA S9 13 (nI k)) (fun S' hF => ?_) _ (fun S5 s' p' hs' hF5 hA5 hO5 => ?_)
  · show aI S' 13 (nI k).toNatClampNeg = _
    rw [nI_clamp (by omega), (hF 13 (by decide)).2.2.1]
    exact e13
  have hB5 : BoxN S5 b d := boxN_fr hF5 (by decide) hB4
  refine s9_cellNow hb hs' S5 hB5 hA5 (ok_lt hs' (fun j hj => (hB.1 j hj).2.1) hO5) _ ⟨vp_in_nI hm2 (by decide), ?_⟩
  have hcn := cell_lt hs' hO5
  have hJ5 := Jf_fr hJ4 hF5
  have hn5 : ng S5 ≤ ng S2 := by rw [ng_eq (hF5 12 (by decide)).2.2.1]; exact hn4
  have hl5 : ¬ go2 = 0 → ng S5 < ng S2 := by rw [ng_eq (hF5 12 (by decide)).2.2.1]; exact hl4
  have k194 : ∀ go6 S6, fI S6 8 = nI s' → Jf d S S6 → ng S6 ≤ ng S2 → (¬ go6 = 0 → ng S6 < ng S2) → w9_isFolded_b194 (fun y0 y1 y2 y3 => K2 (y0, y1, y2, y3)) x (nI b) go6 g2 (nI k) (nI w) (nI m2) (nI (cellOf d s' p')) S6 Q := by
    intro go6 S6 h8 h1 h2 h3
    unfold w9_isFolded_b194 w9_isFolded_b229 w9_isFolded_b230
    refine ⟨fun _ => hnext _ _ _ h1 (Or.inl rfl) h2 h3, fun _ => ⟨vp_in_nI hm2 (by decide), fun _ => hnext _ _ _ h1 (Or.inl rfl) h2 h3, fun _ => ?_⟩⟩
    exact s9_turnNow hs' S6 h8 _ (fun t _ => ⟨fun _ => hnext _ _ _ h1 (Or.inl rfl) h2 h3, fun _ => hnext _ _ _ h1 (Or.inr rfl) h2 h3⟩)
  refine ⟨fun _ => k194 _ _ hA5.1 hJ5 hn5 hl5, fun cneg => ?_⟩
  rintro _ rfl
  have h9m : aI S5 12 m2 = -9 := by
    rcases hJ5.2 m2 hm2 with q | ⟨c6, t6, hc6, _, q, _⟩
    · exact q
    · exfalso
      apply cneg
      show (0 : Int32) ≤ aI S5 12 (nI m2).toNatClampNeg
      rw [nI_clamp (by omega), q]
      exact nI_pos' (by omega)
  refine s9_turnNow hs' _ (show fI (sA S5 12 (nI m2) (nI (cellOf d s' p'))) 8 = nI s' from hA5.1) _ (fun t6 ht6 => ?_)
  rintro _ rfl
  have hlt6 : ng (sA (sA S5 12 (nI m2) (nI (cellOf d s' p'))) 13 (nI m2) (nI t6)) < ng S5 := by
    refine ng_put (c := cellOf d s' p') hm2 (by omega) h9m ?_
    have := rd_A S5 12 (nI m2) (nI (cellOf d s' p'))
    rw [nI_clamp (by omega)] at this
    exact this
  exact k194 _ _ hA5.1 (Jf_put hJ5 hm2 hcn ht6) (by omega) (fun _ => by omega)

/-! ===== pure: folds, lies, wholes; laying out of the reference ===== -/
theorem s9_askedBoth (f x : Int32) (S : MS) (Q : Int32 → MS → Prop) (hI : Inv9 S) (h : ∀ r S', r.toInt < 0 → G9 S S' → Q r S') (hk : ∀ b d, b < 4 → x = nI b → BoxN S b d → vp_in f 6 → ¬ rL S 3 f = 0 → Q 0 S) : w9_askedBoth f x S Q := by
  have k38 : w9_askedBoth_b38 S Q := by
    unfold w9_askedBoth_b38 w9_askedBoth_b47
    exact s9_meets _ _ _ (by unfold vp_in; decide) (h _ _ (by decide) (g9_fr (ks := [0, 1]) hI (fr_tr (fr_sI (by decide)) (fr_sA (by decide))) (by decide) (by decide) (by decide) (by decide)))
  unfold w9_askedBoth w9_askedBoth_b14 w9_askedBoth_b47
  refine s9_isFigure _ _ (fun hf => ⟨fun c => absurd c (by decide), fun _ => s9_isBox _ _ (fun hx => ⟨fun _ => ⟨hf, fun _ => k38, fun cz => ?_⟩, fun c => absurd c (by decide)⟩) (fun _ => ⟨fun c => absurd rfl c, fun _ => h _ _ (by decide) (g9_rf hI)⟩)⟩) (fun _ => ⟨fun _ => h _ _ (by decide) (g9_rf hI), fun c => absurd rfl c⟩)
  rw [lg_cmp_eq] at cz
  obtain ⟨b, hb, rfl⟩ := vp_in_of hx (by omega)
  rw [(ix3z hb).1, show rA S 7 (nI (3 * b)) = dm S b 0 from rd_dm hb S 0 (by decide)]
  refine ⟨(ix3z hb).2, fun cd => ?_, fun _ => k38⟩
  obtain ⟨d, hB⟩ := box_of hI hb cd
  exact hk b d hb rfl hB hf cz
theorem t9_foldsTo {b c t : Nat} {d : Nat → Nat} (f : Int32) (hf : vp_in f 6) (hb : b < 4) (S : MS) (hx : ¬ rL S 3 f = 0) (hB : BoxN S b d) (hc : c < tot d) (ht : t < 4) (Q : Int32 → MS → Prop) (h : ∀ r S', Fr [8, 9, 10, 11, 12, 13] S S' → Q r S') : w9_foldsTo f (nI b) (nI c) (nI t) S Q := by
  unfold w9_foldsTo w9_foldsTo_b43
  refine ⟨hf, t9_isFolded _ hx hb S hB hc ht _ (fun r S' hF => ⟨fun _ => s9_bits _ _ (s9_cells hb _ _ ⟨fun _ => h _ _ hF, fun _ => h _ _ hF⟩), fun _ => h _ _ hF⟩)⟩
theorem t9_folds (f b c t : Int32) (S : MS) (Q : Int32 → MS → Prop) (hI : Inv9 S) (h : ∀ r S', G9 S S' → Q r S') : w9_folds f b c t S Q := by
  unfold w9_folds w9_folds_b54
  have e0 : (0 : Int32).toInt = 0 := rfl
  have e3 : (3 : Int32).toInt = 3 := rfl
  refine s9_in _ _ _ _ (fun ht => ⟨fun _ => s9_askedBoth _ _ _ _ hI (fun r S' hr hG => ⟨fun c => ?_, fun _ => h _ _ hG⟩) (fun b d hb e hB hf hx => ⟨fun _ => ?_, fun c => absurd r0_pos c⟩), fun c => absurd c (by decide)⟩) (fun _ => ⟨fun c => absurd rfl c, fun _ => h _ _ (g9_rf hI)⟩)
  · rw [pi_le] at c; omega
  subst e
  obtain ⟨k, hk, rfl⟩ := vp_in_of (n := 4) (pi_in.mpr (by omega) : vp_in t 4) (by decide)
  refine cell_in hb hB c _ (fun c hc e => ⟨fun c => absurd c (by decide), fun _ => ?_⟩) ⟨fun _ => m9_meets _ (by unfold vp_in; decide) _ _ hI h, fun c => absurd rfl c⟩
  subst e
  exact t9_foldsTo f hf hb S hx hB hc hk _ (fun r S' hF => h _ _ (g9_fr hI hF (by decide) (by decide) (by decide) (by decide)))
theorem t9_lies (f b c t q : Int32) (S : MS) (Q : Int32 → MS → Prop) (hI : Inv9 S) (h : ∀ r S', G9 S S' → Q r S') : w9_lies f b c t q S Q := by
  unfold w9_lies w9_lies_b21 w9_lies_b95 w9_lies_b97
  have e0 : (0 : Int32).toInt = 0 := rfl
  have e3 : (3 : Int32).toInt = 3 := rfl
  have e63 : (63 : Int32).toInt = 63 := rfl
  refine s9_in _ _ _ _ (fun ht => ⟨fun c => absurd c (by decide), fun _ => s9_in _ _ _ _ (fun hq => ⟨fun _ => s9_askedBoth _ _ _ _ hI (fun r S' hr hG => ⟨fun c => ?_, fun _ => h _ _ hG⟩) (fun b d hb e hB hf hx => ⟨fun _ => ?_, fun c => absurd r0_pos c⟩), fun c => absurd c (by decide)⟩) (fun _ => ⟨fun c => absurd rfl c, fun _ => h _ _ (g9_rf hI)⟩)⟩) (fun _ => ⟨fun _ => h _ _ (g9_rf hI), fun c => absurd rfl c⟩)
  · rw [pi_le] at c; omega
  subst e
  obtain ⟨k, hk, rfl⟩ := vp_in_of (n := 4) (pi_in.mpr (by omega) : vp_in t 4) (by decide)
  refine cell_in hb hB c _ (fun c hc e => ⟨fun _ => ⟨hf, ?_⟩, fun c => absurd c (by decide)⟩) ⟨fun c => absurd rfl c, fun _ => m9_meets _ (by unfold vp_in; decide) _ _ hI h⟩
  subst e
  refine t9_isFolded _ hx hb S hB hc hk _ (fun r S' hF => ?_)
  have hG := g9_fr hI hF (by decide) (by decide) (by decide) (by decide)
  exact ⟨fun _ => h _ _ hG, fun _ => s9_has _ _ _ (fun _ => ⟨fun c => absurd c (by decide), fun _ => ⟨pi_in.mpr (by omega), h _ _ hG⟩⟩) (fun _ => ⟨fun _ => h _ _ hG, fun c => absurd rfl c⟩)⟩
theorem t9_wholes (f x : Int32) (S : MS) (Q : Int32 → MS → Prop) (hI : Inv9 S) (h : ∀ r S', G9 S S' → Q r S') : w9_wholes f x S Q := by
  unfold w9_wholes
  have e0 : (0 : Int32).toInt = 0 := rfl
  refine s9_askedBoth _ _ _ _ hI (fun r S' hr hG => ⟨fun c => ?_, fun _ => h _ _ hG⟩) (fun b d hb e hB hf hx => ⟨fun _ => ?_, fun c => absurd r0_pos c⟩)
  · rw [pi_le] at c; omega
  subst e
  have h24 := hB.2
  unfold w9_wholes_b19
  refine lp_up (4 * tot d) (fun z => z.2.1) (fun k z => Fr [2, 8, 9, 10, 11, 12, 13] S z.2.2) (by omega) ?_ (Nat.zero_le _) (rfl : (0 : Int32) = nI 0) (by exact fr_rf)
  rintro K ⟨n, y, S1⟩ k hk hc hF hK
  try dsimp only at hc hF hK
  subst hc
  have hB1 : BoxN S1 b d := boxN_fr hF (by decide) hB
  unfold w9_wholes_F19 w9_wholes_d19
  try dsimp only
  refine s9_cells hb _ _ ?_
  rw [cls_N hB1, show (4 : Int32) = nI 4 from rfl, pk_mul]
  refine ⟨fun _ => h _ _ (g9_fr hI hF (by decide) (by decide) (by decide) (by decide)), fun c => ?_⟩
  have hlt := nI_go (by omega) hk c
  rw [pk_rem (by omega) (by decide) (by decide), pk_div (by omega) (by decide) (by decide)]
  have hx1 : ¬ rL S1 3 f = 0 := by
    unfold rL
    rw [(hF 3 (by decide)).2.2.2]
    exact hx
  refine t9_foldsTo f hf hb S1 hx1 hB1 (by omega) (by omega) _ (fun r S2 hF2 => ?_)
  have hF3 : Fr [2, 8, 9, 10, 11, 12, 13] S S2 := fr_tr hF (fr_mono hF2 (by decide))
  have k71 : ∀ a S3, Fr [2, 8, 9, 10, 11, 12, 13] S S3 → w9_wholes_b71 (fun y0 y1 y2 => K (y0, y1, y2)) f (nI b) a (nI k) S3 Q := by
    intro a S3 hF
    unfold w9_wholes_b71
    rintro _ rfl
    exact hK (_, _, _) hlt (nI_1 k) hF
  have k65 : ∀ v, w9_wholes_b65 (fun y0 y1 y2 => K (y0, y1, y2)) f (nI b) n (nI k) v S2 Q := by
    intro v
    unfold w9_wholes_b65
    rintro _ rfl _ rfl
    exact k71 _ _ (fr_tr hF3 (fr_sJ (by decide)))
  exact ⟨fun _ => k71 _ _ hF3, fun _ => ⟨fun _ => k65 _, fun _ => k65 _⟩⟩
theorem rd_sn (S : MS) {j k : Nat} (h : k ≠ j) {i v : Int32} : aI (sA S j i v) k = aI S k := va_up_ne _ _ h
/-- how many cells are not laid out yet -/
def un (S : MS) : Nat := fb_ct (fun k => decide (aI S 15 k = -9)) 24
def Ly (d : Nat → Nat) (S0 S : MS) (n : Nat) (x : Int64) : Prop := Fr [8, 9, 10, 11, 14, 15, 16] S0 S ∧ (1 ≤ n ∧ n + un S = 24) ∧ (∀ i, i < n → ∃ c, c < tot d ∧ aI S 14 i = nI c ∧ ¬ aI S 15 c = -9) ∧ (∀ c, c < 24 → aI S 15 c = -9 ∨ (c < tot d ∧ ∃ q t, q < 64 ∧ t < 4 ∧ aI S 15 c = nI q ∧ aI S 16 c = nI t)) ∧ (∀ q, bt x q = true → ∃ c, c < tot d ∧ aI S 15 c = nI q) ∧ pc x ≤ n ∧ (∃ q, bt x q = true)
theorem Ly_fr {d : Nat → Nat} {S0 S S' : MS} {n : Nat} {x : Int64} (h : Ly d S0 S n x) (hF : Fr [8, 9, 10, 11] S S') : Ly d S0 S' n x := by
  obtain ⟨h1, h2, h3, h4, h5, h6, h7⟩ := h
  have e : un S' = un S := by unfold un; rw [(hF 15 (by decide)).2.2.1]
  refine ⟨fr_tr h1 (fr_mono hF (by decide)), by rw [e]; exact h2, ?_, ?_, ?_, h6, h7⟩
  · rw [(hF 14 (by decide)).2.2.1, (hF 15 (by decide)).2.2.1]; exact h3
  · rw [(hF 15 (by decide)).2.2.1, (hF 16 (by decide)).2.2.1]; exact h4
  · rw [(hF 15 (by decide)).2.2.1]; exact h5
theorem Ly_put {d : Nat → Nat} {S0 S : MS} {n c q t : Nat} {x : Int64} (h24 : tot d ≤ 24) (h : Ly d S0 S n x) (hc : c < tot d) (h9 : aI S 15 c = -9) (hq : q < 64) (ht : t < 4) : n < 24 ∧ Ly d S0 (sA (sA (sA S 15 (nI c) (nI q)) 16 (nI c) (nI t)) 14 (nI n) (nI c)) (n + 1) (x ||| lN (2 ^ q)) := by
  obtain ⟨h1, h2, h3, h4, h5, h6, h7⟩ := h
  have hu : 0 < un S := by
    unfold un
    exact fb_ct_pos.mpr ⟨c, by omega, decide_eq_true h9⟩
  have hn : n < 24 := by omega
  have e15 : aI (sA (sA (sA S 15 (nI c) (nI q)) 16 (nI c) (nI t)) 14 (nI n) (nI c)) 15 = upd (aI S 15) c (nI q) := by
    rw [rd_sn _ (by decide), rd_sn _ (by decide), rd_A, nI_clamp (by omega)]
  have e16 : aI (sA (sA (sA S 15 (nI c) (nI q)) 16 (nI c) (nI t)) 14 (nI n) (nI c)) 16 = upd (aI S 16) c (nI t) := by
    rw [rd_sn _ (by decide), rd_A, rd_sn _ (by decide), nI_clamp (by omega)]
  have e14 : aI (sA (sA (sA S 15 (nI c) (nI q)) 16 (nI c) (nI t)) 14 (nI n) (nI c)) 14 = upd (aI S 14) n (nI c) := by
    rw [rd_A, rd_sn _ (by decide), rd_sn _ (by decide), nI_clamp (by omega)]
  have eu : un (sA (sA (sA S 15 (nI c) (nI q)) 16 (nI c) (nI t)) 14 (nI n) (nI c)) + 1 = un S := by
    unfold un
    rw [e15]
    have e1 : fb_ct (fun k => decide (upd (aI S 15) c (nI q) k = -9)) 24 = fb_ct (fun k => if k = c then false else decide (aI S 15 k = -9)) 24 := by
      apply fb_ct_cong
      intro k _
      by_cases e : k = c
      · rw [if_pos e, e, pk_us]; exact decide_eq_false (nI_m9 (by omega))
      · rw [if_neg e, pk_un e]
    have e2 := fb_ct_upd (fun k => decide (aI S 15 k = -9)) false (show c < 24 by omega)
    rw [if_pos (decide_eq_true h9), if_neg (by decide : ¬ false = true)] at e2
    rw [e1]
    omega
  refine ⟨hn, fr_tr h1 (fr_tr (fr_tr (fr_sA (by decide)) (fr_sA (by decide))) (fr_sA (by decide))), ⟨by omega, by omega⟩, ?_, ?_, ?_, ?_, ?_⟩
  · intro i hi
    rw [e14, e15]
    by_cases e : i = n
    · rw [e, pk_us]
      exact ⟨c, hc, rfl, by rw [pk_us]; exact nI_m9 (by omega)⟩
    · rw [pk_un e]
      obtain ⟨c2, q1, q2, q3⟩ := h3 i (by omega)
      refine ⟨c2, q1, q2, ?_⟩
      rw [pk_un (fun e => q3 (by rw [e]; exact h9))]
      exact q3
  · intro c2 hc2
    rw [e15, e16]
    by_cases e : c2 = c
    · rw [e, pk_us, pk_us]
      exact Or.inr ⟨hc, q, t, hq, ht, rfl, rfl⟩
    · rw [pk_un e, pk_un e]
      exact h4 c2 hc2
  · intro q2 hb
    rw [e15]
    rw [bt_or, bt_p2 hq] at hb
    by_cases e : q2 = q
    · exact ⟨c, hc, by rw [pk_us, e]⟩
    · have hb2 : bt x q2 = true := by simpa [e] using hb
      obtain ⟨c2, w1, w2⟩ := h5 q2 hb2
      refine ⟨c2, w1, ?_⟩
      rw [pk_un (fun e => by rw [e, h9] at w2; exact absurd w2.symm (nI_m9 (by have := bt_lt hb2; omega)))]
      exact w2
  · have := pc_or1 x hq
    omega
  · exact ⟨q, by rw [bt_or, bt_p2 hq]; simp⟩

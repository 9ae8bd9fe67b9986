/-! ===== pure: figures turned by the reference, exactly ===== -/
def E4 (x : Int64) (k : Nat) (v0 v1 v2 v3 : Int32) : Prop := ∃ l r b t : Nat, (v0.toInt = (l : Int) ∧ v1.toInt = (r : Int) - 1 ∧ v2.toInt = (b : Int) ∧ v3.toInt = (t : Int) - 1) ∧ (∀ j, j < k → bt x j = true → l ≤ j % 8 ∧ j % 8 + 1 ≤ r ∧ b ≤ j / 8 ∧ j / 8 + 1 ≤ t) ∧ (l = 8 ∨ ∃ j, j < k ∧ bt x j = true ∧ j % 8 = l) ∧ (r = 0 ∨ ∃ j, j < k ∧ bt x j = true ∧ j % 8 + 1 = r) ∧ (b = 8 ∨ ∃ j, j < k ∧ bt x j = true ∧ j / 8 = b) ∧ (t = 0 ∨ ∃ j, j < k ∧ bt x j = true ∧ j / 8 + 1 = t)
theorem e4_skip {x : Int64} {k : Nat} {v0 v1 v2 v3 : Int32} (h : E4 x k v0 v1 v2 v3) (hb : bt x k = false) : E4 x (k + 1) v0 v1 v2 v3 := by
  obtain ⟨l, r, b, t, hv, ha, h1, h2, h3, h4⟩ := h
  refine ⟨l, r, b, t, hv, fun j hj hbj => ha j ?_ hbj, ?_, ?_, ?_, ?_⟩
  · have : ¬ j = k := fun e => by rw [e, hb] at hbj; exact absurd hbj (by decide)
    omega
  · exact h1.imp id (fun ⟨j, hj, q⟩ => ⟨j, by omega, q⟩)
  · exact h2.imp id (fun ⟨j, hj, q⟩ => ⟨j, by omega, q⟩)
  · exact h3.imp id (fun ⟨j, hj, q⟩ => ⟨j, by omega, q⟩)
  · exact h4.imp id (fun ⟨j, hj, q⟩ => ⟨j, by omega, q⟩)
/-- a square more: each end is kept or set -/
theorem e4_add {x : Int64} {k : Nat} {v0 v1 v2 v3 w0 w1 w2 w3 : Int32} (h : E4 x k v0 v1 v2 v3) (hb : bt x k = true) (c0 : (v0.toInt ≤ ((k % 8 : Nat) : Int) ∧ w0 = v0) ∨ (((k % 8 : Nat) : Int) < v0.toInt ∧ w0.toInt = ((k % 8 : Nat) : Int))) (c1 : (((k % 8 : Nat) : Int) ≤ v1.toInt ∧ w1 = v1) ∨ (v1.toInt < ((k % 8 : Nat) : Int) ∧ w1.toInt = ((k % 8 : Nat) : Int))) (c2 : (v2.toInt ≤ ((k / 8 : Nat) : Int) ∧ w2 = v2) ∨ (((k / 8 : Nat) : Int) < v2.toInt ∧ w2.toInt = ((k / 8 : Nat) : Int))) (c3 : (((k / 8 : Nat) : Int) ≤ v3.toInt ∧ w3 = v3) ∨ (v3.toInt < ((k / 8 : Nat) : Int) ∧ w3.toInt = ((k / 8 : Nat) : Int))) : E4 x (k + 1) w0 w1 w2 w3 := by
  obtain ⟨l, r, b, t, ⟨q0, q1, q2, q3⟩, ha, h1, h2, h3, h4⟩ := h
  have d0 : ∃ l' : Nat, w0.toInt = (l' : Int) ∧ l' ≤ l ∧ l' ≤ k % 8 ∧ (l' = 8 ∨ ∃ j, j < k + 1 ∧ bt x j = true ∧ j % 8 = l') := by
    rcases c0 with ⟨c, rfl⟩ | ⟨c, e⟩
    · exact ⟨l, q0, Nat.le_refl _, by omega, h1.imp id (fun ⟨j, hj, q⟩ => ⟨j, by omega, q⟩)⟩
    · exact ⟨k % 8, e, by omega, Nat.le_refl _, Or.inr ⟨k, by omega, hb, rfl⟩⟩
  have d1 : ∃ r' : Nat, w1.toInt = (r' : Int) - 1 ∧ r ≤ r' ∧ k % 8 + 1 ≤ r' ∧ (r' = 0 ∨ ∃ j, j < k + 1 ∧ bt x j = true ∧ j % 8 + 1 = r') := by
    rcases c1 with ⟨c, rfl⟩ | ⟨c, e⟩
    · exact ⟨r, q1, Nat.le_refl _, by omega, h2.imp id (fun ⟨j, hj, q⟩ => ⟨j, by omega, q⟩)⟩
    · exact ⟨k % 8 + 1, by omega, by omega, Nat.le_refl _, Or.inr ⟨k, by omega, hb, rfl⟩⟩
  have d2 : ∃ b' : Nat, w2.toInt = (b' : Int) ∧ b' ≤ b ∧ b' ≤ k / 8 ∧ (b' = 8 ∨ ∃ j, j < k + 1 ∧ bt x j = true ∧ j / 8 = b') := by
    rcases c2 with ⟨c, rfl⟩ | ⟨c, e⟩
    · exact ⟨b, q2, Nat.le_refl _, by omega, h3.imp id (fun ⟨j, hj, q⟩ => ⟨j, by omega, q⟩)⟩
    · exact ⟨k / 8, e, by omega, Nat.le_refl _, Or.inr ⟨k, by omega, hb, rfl⟩⟩
  have d3 : ∃ t' : Nat, w3.toInt = (t' : Int) - 1 ∧ t ≤ t' ∧ k / 8 + 1 ≤ t' ∧ (t' = 0 ∨ ∃ j, j < k + 1 ∧ bt x j = true ∧ j / 8 + 1 = t') := by
    rcases c3 with ⟨c, rfl⟩ | ⟨c, e⟩
    · exact ⟨t, q3, Nat.le_refl _, by omega, h4.imp id (fun ⟨j, hj, q⟩ => ⟨j, by omega, q⟩)⟩
    · exact ⟨k / 8 + 1, by omega, by omega, Nat.le_refl _, Or.inr ⟨k, by omega, hb, rfl⟩⟩
  obtain ⟨l', e0, u0, s0, g0⟩ := d0
  obtain ⟨r', e1, u1, s1, g1⟩ := d1
  obtain ⟨b', e2, u2, s2, g2⟩ := d2
  obtain ⟨t', e3, u3, s3, g3⟩ := d3
  refine ⟨l', r', b', t', ⟨e0, e1, e2, e3⟩, fun j hj hbj => ?_, g0, g1, g2, g3⟩
  by_cases q : j = k
  · subst q; omega
  · have := ha j (by omega) hbj
    omega
theorem e4_end {x : Int64} (hx : ¬ x = 0) {v0 v1 v2 v3 : Int32} (h : E4 x 64 v0 v1 v2 v3) : ∃ l r b t, Ends x l r b t ∧ v0 = nI l ∧ v1 = nI r ∧ v2 = nI b ∧ v3 = nI t := by
  obtain ⟨l, r, b, t, ⟨q0, q1, q2, q3⟩, ha, h1, h2, h3, h4⟩ := h
  obtain ⟨k0, hk0, hb0⟩ := bt_some hx
  have a0 := ha k0 hk0 hb0
  have r1 : l < 8 ∧ ∃ j, bt x j = true ∧ j % 8 = l := by
    rcases h1 with e | ⟨j, hj, q⟩
    · omega
    · exact ⟨by omega, j, q⟩
  have r2 : ∃ j, bt x j = true ∧ j % 8 = r - 1 := by
    rcases h2 with e | ⟨j, hj, q, q'⟩
    · omega
    · exact ⟨j, q, by omega⟩
  have r3 : ∃ j, bt x j = true ∧ j / 8 = b := by
    rcases h3 with e | ⟨j, hj, q⟩
    · omega
    · exact ⟨j, q⟩
  have r4 : ∃ j, bt x j = true ∧ j / 8 = t - 1 := by
    rcases h4 with e | ⟨j, hj, q, q'⟩
    · omega
    · exact ⟨j, q, by omega⟩
  have e : Ends x l (r - 1) b (t - 1) := ⟨⟨r1.2, r2, r3, r4⟩, fun k hk => by
    have := ha k (bt_lt hk) hk
    omega⟩
  have el := ends_lt e
  refine ⟨l, r - 1, b, t - 1, e, ?_, ?_, ?_, ?_⟩
  · rw [pi_eq, q0, nI_toInt (by omega)]
  · rw [pi_eq, q1, nI_toInt (by omega)]; omega
  · rw [pi_eq, q2, nI_toInt (by omega)]
  · rw [pi_eq, q3, nI_toInt (by omega)]; omega
theorem x9_setEnds (x : Int64) (hx : ¬ x = 0) (S : MS) (Q : MS → Prop) (h : ∀ S' l r b t, Fr [6] S S' → Ends x l r b t → aI S' 6 0 = nI l → aI S' 6 1 = nI r → aI S' 6 2 = nI b → aI S' 6 3 = nI t → Q S') : w9_setEnds x S Q := by
  have c0 : (0 : Int32).toNatClampNeg = 0 := rfl
  have c1 : (1 : Int32).toNatClampNeg = 1 := rfl
  have c2 : (2 : Int32).toNatClampNeg = 2 := rfl
  have c3 : (3 : Int32).toNatClampNeg = 3 := rfl
  unfold w9_setEnds
  rintro _ rfl _ rfl _ rfl _ rfl
  unfold w9_setEnds_b32
  refine lp_up 64 (fun z => z.1) (fun k z => Fr [6] S z.2 ∧ E4 x k (aI z.2 6 0) (aI z.2 6 1) (aI z.2 6 2) (aI z.2 6 3)) (by decide) ?_ (Nat.zero_le _) (rfl : (0 : Int32) = nI 0) ?_
  rotate_left
  · refine ⟨fr_tr (fr_tr (fr_tr (fr_sA (by decide)) (fr_sA (by decide))) (fr_sA (by decide))) (fr_sA (by decide)), ?_⟩
    try dsimp only
    rw [rd_A, rd_A, rd_A, rd_A, c0, c1, c2, c3]
    refine ⟨8, 0, 8, 0, ?_, fun j hj => absurd hj (Nat.not_lt_zero j), Or.inl rfl, Or.inl rfl, Or.inl rfl, Or.inl rfl⟩
    rw [pk_un (by decide), pk_un (by decide), pk_un (by decide), pk_us, pk_un (by decide), pk_un (by decide), pk_us, pk_un (by decide), pk_us, pk_us]
    decide
  rintro K ⟨y, S1⟩ k hk hcc ⟨hF, hE⟩ hK
  try dsimp only at hcc hF hE hK
  subst hcc
  unfold w9_setEnds_F32 w9_setEnds_d32
  try dsimp only
  refine ⟨fun c => ?_, fun c => ?_⟩
  · have ek := nI_end (N := 64) (by decide) hk c
    subst ek
    obtain ⟨l, r, b, t, he, e0, e1, e2, e3⟩ := e4_end hx hE
    exact h S1 l r b t hF he e0 e1 e2 e3
  have hlt := nI_go (N := 64) (by decide) hk c
  have ex : nI k - nI k / (8 : Int32) * (8 : Int32) = nI (k % 8) := pk_rem (by omega) (by decide) (by decide)
  have ey : nI k / (8 : Int32) = nI (k / 8) := pk_div (by omega) (by decide) (by decide)
  have tx : (nI (k % 8)).toInt = ((k % 8 : Nat) : Int) := nI_toInt (by omega)
  have ty : (nI (k / 8)).toInt = ((k / 8 : Nat) : Int) := nI_toInt (by omega)
  refine s9_has _ _ _ (fun hb => ⟨fun c => absurd c (by decide), fun _ => ?_⟩) (fun hb => ⟨fun _ => ?_, fun c => absurd rfl c⟩)
  rotate_left
  · have hbk : bt x k = false := by
      cases e : bt x k
      · rfl
      · exact absurd ((hasB_iff x hlt).mpr e) hb
    unfold w9_setEnds_b174
    rintro _ rfl
    exact hK (_, _) hlt (nI_1 k) ⟨hF, e4_skip hE hbk⟩
  have hbk := (hasB_iff x hlt).mp hb
  have rr : ∀ (T : MS) (j : Nat), j < 4 → rA T 6 (nI j) = aI T 6 j := fun T j hj => rA_n _ _ (by omega)
  have st3 : ∀ S2 w0 w1 w2 w3, Fr [6] S S2 → aI S2 6 0 = w0 → aI S2 6 1 = w1 → aI S2 6 2 = w2 → E4 x (k + 1) w0 w1 w2 w3 → w9_setEnds_b173 (fun y0 y1 => K (y0, y1)) x (nI k) 3 w3 S2 Q := by
    intro S2 w0 w1 w2 w3 hF2 a0 a1 a2 hE2
    unfold w9_setEnds_b173 w9_setEnds_b174
    refine ⟨by unfold vp_in; decide, ?_⟩
    rintro _ rfl _ rfl
    refine hK (_, _) hlt (nI_1 k) ⟨fr_tr hF2 (fr_sA (by decide)), ?_⟩
    try dsimp only
    rw [rd_A, c3, pk_un (by decide), pk_un (by decide), pk_un (by decide), pk_us, a0, a1, a2]
    exact hE2
  have st2 : ∀ S2 w0 w1 w2, Fr [6] S S2 → aI S2 6 0 = w0 → aI S2 6 1 = w1 → aI S2 6 3 = aI S1 6 3 → (∀ w3, (((k / 8 : Nat) : Int) ≤ (aI S1 6 3).toInt ∧ w3 = aI S1 6 3) ∨ ((aI S1 6 3).toInt < ((k / 8 : Nat) : Int) ∧ w3.toInt = ((k / 8 : Nat) : Int)) → E4 x (k + 1) w0 w1 w2 w3) → w9_setEnds_b141 (fun y0 y1 => K (y0, y1)) x (nI k) 2 w2 S2 Q := by
    intro S2 w0 w1 w2 hF2 a0 a1 a3 hE2
    unfold w9_setEnds_b141
    refine ⟨by unfold vp_in; decide, ?_⟩
    rintro _ rfl
    have g3 : rA (sA S2 6 (2 : Int32) w2) 6 (3 : Int32) = aI S1 6 3 := by
      rw [show (3 : Int32) = nI 3 from rfl, rr _ 3 (by decide), rd_A, c2, pk_un (by decide), a3]
    have b0 : aI (sA S2 6 (2 : Int32) w2) 6 0 = w0 := by rw [rd_A, c2, pk_un (by decide), a0]
    have b1 : aI (sA S2 6 (2 : Int32) w2) 6 1 = w1 := by rw [rd_A, c2, pk_un (by decide), a1]
    have b2 : aI (sA S2 6 (2 : Int32) w2) 6 2 = w2 := by rw [rd_A, c2, pk_us]
    rw [g3, ey, pi_le, ty]
    exact ⟨fun q => st3 _ w0 w1 w2 _ (fr_tr hF2 (fr_sA (by decide))) b0 b1 b2 (hE2 _ (Or.inl ⟨q, rfl⟩)), fun q => st3 _ w0 w1 w2 _ (fr_tr hF2 (fr_sA (by decide))) b0 b1 b2 (hE2 _ (Or.inr ⟨by omega, ty⟩))⟩
  have st1 : ∀ S2 w0 w1, Fr [6] S S2 → aI S2 6 0 = w0 → aI S2 6 2 = aI S1 6 2 → aI S2 6 3 = aI S1 6 3 → (∀ w2 w3, ((aI S1 6 2).toInt ≤ ((k / 8 : Nat) : Int) ∧ w2 = aI S1 6 2) ∨ (((k / 8 : Nat) : Int) < (aI S1 6 2).toInt ∧ w2.toInt = ((k / 8 : Nat) : Int)) → (((k / 8 : Nat) : Int) ≤ (aI S1 6 3).toInt ∧ w3 = aI S1 6 3) ∨ ((aI S1 6 3).toInt < ((k / 8 : Nat) : Int) ∧ w3.toInt = ((k / 8 : Nat) : Int)) → E4 x (k + 1) w0 w1 w2 w3) → w9_setEnds_b109 (fun y0 y1 => K (y0, y1)) x (nI k) 1 w1 S2 Q := by
    intro S2 w0 w1 hF2 a0 a2 a3 hE2
    unfold w9_setEnds_b109
    refine ⟨by unfold vp_in; decide, ?_⟩
    rintro _ rfl
    have g2 : rA (sA S2 6 (1 : Int32) w1) 6 (2 : Int32) = aI S1 6 2 := by
      rw [show (2 : Int32) = nI 2 from rfl, rr _ 2 (by decide), rd_A, c1, pk_un (by decide), a2]
    have b0 : aI (sA S2 6 (1 : Int32) w1) 6 0 = w0 := by rw [rd_A, c1, pk_un (by decide), a0]
    have b1 : aI (sA S2 6 (1 : Int32) w1) 6 1 = w1 := by rw [rd_A, c1, pk_us]
    have b3 : aI (sA S2 6 (1 : Int32) w1) 6 3 = aI S1 6 3 := by rw [rd_A, c1, pk_un (by decide), a3]
    rw [g2, ey, pi_le, ty]
    exact ⟨fun q => st2 _ w0 w1 _ (fr_tr hF2 (fr_sA (by decide))) b0 b1 b3 (fun w3 q3 => hE2 _ w3 (Or.inl ⟨q, rfl⟩) q3), fun q => st2 _ w0 w1 _ (fr_tr hF2 (fr_sA (by decide))) b0 b1 b3 (fun w3 q3 => hE2 _ w3 (Or.inr ⟨by omega, ty⟩) q3)⟩
  have st0 : ∀ w0, ((aI S1 6 0).toInt ≤ ((k % 8 : Nat) : Int) ∧ w0 = aI S1 6 0) ∨ (((k % 8 : Nat) : Int) < (aI S1 6 0).toInt ∧ w0.toInt = ((k % 8 : Nat) : Int)) → w9_setEnds_b77 (fun y0 y1 => K (y0, y1)) x (nI k) 0 w0 S1 Q := by
    intro w0 q0
    unfold w9_setEnds_b77
    refine ⟨by unfold vp_in; decide, ?_⟩
    rintro _ rfl
    have g1 : rA (sA S1 6 (0 : Int32) w0) 6 (1 : Int32) = aI S1 6 1 := by
      rw [show (1 : Int32) = nI 1 from rfl, rr _ 1 (by decide), rd_A, c0, pk_un (by decide)]
    have b0 : aI (sA S1 6 (0 : Int32) w0) 6 0 = w0 := by rw [rd_A, c0, pk_us]
    have b2 : aI (sA S1 6 (0 : Int32) w0) 6 2 = aI S1 6 2 := by rw [rd_A, c0, pk_un (by decide)]
    have b3 : aI (sA S1 6 (0 : Int32) w0) 6 3 = aI S1 6 3 := by rw [rd_A, c0, pk_un (by decide)]
    rw [g1, ex, pi_le, tx]
    exact ⟨fun q => st1 _ w0 _ (fr_tr hF (fr_sA (by decide))) b0 b2 b3 (fun w2 w3 q2 q3 => e4_add hE hbk q0 (Or.inl ⟨q, rfl⟩) q2 q3), fun q => st1 _ w0 _ (fr_tr hF (fr_sA (by decide))) b0 b2 b3 (fun w2 w3 q2 q3 => e4_add hE hbk q0 (Or.inr ⟨by omega, tx⟩) q2 q3)⟩
  have g0 : rA S1 6 (0 : Int32) = aI S1 6 0 := by rw [show (0 : Int32) = nI 0 from rfl, rr _ 0 (by decide)]
  rw [g0, ex, pi_le, tx]
  exact ⟨fun q => st0 _ (Or.inl ⟨q, rfl⟩), fun q => st0 _ (Or.inr ⟨by omega, tx⟩)⟩
theorem x9_putDown (x : Int64) (o q : Int32) (hq : q.toInt ≤ 100) (hx : ¬ x = 0) (S : MS) (I : Int → Int64 → Prop) (h0 : I (if o = 0 then 0 else -1) x) (hs : ∀ (t : Int) z z', t < q.toInt → I t z → TnB (decide (t < 0)) z z' → I (t + 1) z') (Q : Int64 → MS → Prop) (h : ∀ (t : Int) z v S', ¬ t < q.toInt → I t z → PD z v → Fr [6] S S' → Q v S') : w9_putDown x o q S Q := by
  have em : (-1 : Int32).toInt = -1 := rfl
  have e0 : (0 : Int32).toInt = 0 := rfl
  have e1 : (1 : Int32).toInt = 1 := rfl
  have rr : ∀ (T : MS) (j : Nat), j < 4 → rA T 6 (nI j) = aI T 6 j := fun T j hj => rA_n _ _ (by omega)
  have main : ∀ t : Int32, -1 ≤ t.toInt ∧ t.toInt ≤ 100 → I t.toInt x → w9_putDown_b14 q x t S Q := by
    intro t0 ht0 hI0
    unfold w9_putDown_b14
    refine lp_of (fun z : Int64 × Int32 × MS => I z.2.1.toInt z.1 ∧ (¬ z.1 = 0) ∧ Fr [6] S z.2.2 ∧ -1 ≤ z.2.1.toInt ∧ z.2.1.toInt ≤ 101) (fun z => (102 - z.2.1.toInt).toNat) ?_ ⟨hI0, hx, fr_rf, ht0.1, by dsimp only; omega⟩
    rintro K ⟨now, t, S1⟩ ⟨hI, hne, hF, ht1, ht2⟩ hK
    try dsimp only at hI hne hF ht1 ht2 hK
    unfold w9_putDown_F14 w9_putDown_d14
    try dsimp only
    rw [pi_le]
    refine ⟨fun c => x9_setEnds _ hne _ _ (fun S2 l r b t' hF2 he a0 a1 a2 a3 => ?_), fun c => x9_setEnds _ hne _ _ (fun S2 l r b t' hF2 he a0 a1 a2 a3 => ?_)⟩
    · have el := ends_lt he
      have e6 : (8 : Int32) * rA S2 6 (2 : Int32) + rA S2 6 (0 : Int32) = nI (8 * b + l) := by
        rw [show (2 : Int32) = nI 2 from rfl, show (0 : Int32) = nI 0 from rfl, rr _ 2 (by decide), rr _ 0 (by decide), a0, a2, show (8 : Int32) = nI 8 from rfl, pk_mul, nI_add]
      rw [e6]
      refine h t.toInt now _ S2 (by omega) hI ⟨l, r, b, t', he, fun i => ?_⟩ (fr_tr hF hF2)
      rw [bt_shr (n := 8 * b + l) (by omega) (sh_amt (by omega)), show 8 * b + l + i = i + 8 * b + l by omega]
    · have et : (t + 1).toInt = t.toInt + 1 := by
        rw [fb_addI (by omega) (by omega), e1]
      have el := ends_lt he
      unfold w9_putDown_b33
      refine lp_up 64 (fun z => z.2) (fun k z => ∀ i, i < 64 → (bt z.1 i = true ↔ ∃ j, j < k ∧ bt now j = true ∧ pos (decide (t.toInt < 0)) l r b t' j = i)) (by decide) ?_ (Nat.zero_le _) (rfl : (0 : Int32) = nI 0) ?_
      rotate_left
      · intro i _
        show bt 0 i = true ↔ _
        rw [bt_0]
        exact ⟨fun q => absurd q (by decide), fun ⟨j, hj, _⟩ => absurd hj (Nat.not_lt_zero j)⟩
      rintro K1 ⟨next, y⟩ k hk hc hI1 hK1
      try dsimp only at hc hI1 hK1
      subst hc
      unfold w9_putDown_F33 w9_putDown_d33
      try dsimp only
      refine ⟨fun c2 => ?_, fun c2 => ?_⟩
      · have e := nI_end (N := 64) (by decide) hk c2
        subst e
        have hTB : TnB (decide (t.toInt < 0)) now next := ⟨l, r, b, t', he, fun i hi => by
          rw [hI1 i hi]
          exact ⟨fun ⟨j, _, q⟩ => ⟨j, q⟩, fun ⟨j, q⟩ => ⟨j, bt_lt q.1, q⟩⟩⟩
        rintro _ rfl
        refine hK (_, _, _) ⟨?_, tb_ne hTB, fr_tr hF hF2, ?_, ?_⟩ ?_
        · try dsimp only
          rw [et]
          exact hs _ _ _ (by omega) hI hTB
        · try dsimp only
          omega
        · try dsimp only
          omega
        · try dsimp only
          omega
      · have hlt := nI_go (N := 64) (by decide) hk c2
        have ex : nI k - nI k / (8 : Int32) * (8 : Int32) = nI (k % 8) := pk_rem (by omega) (by decide) (by decide)
        have ey : nI k / (8 : Int32) = nI (k / 8) := pk_div (by omega) (by decide) (by decide)
        have k106 : ∀ a d : Int32, (bt now k = true → (8 : Int32) * d + a = nI (pos (decide (t.toInt < 0)) l r b t' k)) → w9_putDown_b106 (fun y0 y1 => K1 (y0, y1)) q now t next (nI k) a d S2 Q := by
          intro a d hval
          unfold w9_putDown_b106 w9_putDown_b134
          refine s9_has _ _ _ (fun hb => ⟨fun c => absurd c (by decide), fun _ => ?_⟩) (fun hb => ⟨fun _ => ?_, fun c => absurd rfl c⟩)
          · have hbk := (hasB_iff now hlt).mp hb
            have hp := pos_lt (m := decide (t.toInt < 0)) he hbk
            rw [hval hbk, one_sh hp]
            rintro _ rfl _ rfl
            refine hK1 (_, _) hlt (nI_1 k) (fun i hi => ?_)
            show bt (next ||| lN (2 ^ pos (decide (t.toInt < 0)) l r b t' k)) i = true ↔ _
            rw [bt_or, bt_p2 hp, Bool.or_eq_true, hI1 i hi, decide_eq_true_iff]
            constructor
            · rintro (⟨j, hj, q⟩ | q)
              · exact ⟨j, by omega, q⟩
              · exact ⟨k, by omega, hbk, q.symm⟩
            · rintro ⟨j, hj, q1, q2⟩
              by_cases ej : j = k
              · right; rw [ej] at q2; exact q2.symm
              · exact Or.inl ⟨j, by omega, q1, q2⟩
          · have hbk : bt now k = false := by
              cases e : bt now k
              · rfl
              · exact absurd ((hasB_iff now hlt).mpr e) hb
            rintro _ rfl _ rfl
            refine hK1 (_, _) hlt (nI_1 k) (fun i hi => ?_)
            show bt (next ||| 0) i = true ↔ _
            rw [or_z, hI1 i hi]
            constructor
            · rintro ⟨j, hj, q⟩
              exact ⟨j, by omega, q⟩
            · rintro ⟨j, hj, q1, q2⟩
              have : ¬ j = k := fun ej => by rw [ej, hbk] at q1; exact absurd q1 (by decide)
              exact ⟨j, by omega, q1, q2⟩
        unfold w9_putDown_b72
        rw [show (3 : Int32) = nI 3 from rfl, show (2 : Int32) = nI 2 from rfl, show (1 : Int32) = nI 1 from rfl, rr _ 3 (by decide), rr _ 2 (by decide), rr _ 1 (by decide), show rA S2 6 (0 : Int32) = nI l from (rr S2 0 (by decide)).trans a0, a1, a2, a3, ex, ey, pi_le, e0]
        have hval0 : 0 ≤ t.toInt → bt now k = true → (8 : Int32) * (nI (k % 8) - nI l) + (nI t' - nI (k / 8)) = nI (pos (decide (t.toInt < 0)) l r b t' k) := by
          intro ht hbk
          have := he.2 k hbk
          rw [pk_sub (by omega), pk_sub (by omega), show (8 : Int32) = nI 8 from rfl, pk_mul, nI_add, decide_eq_false (by omega)]
          rfl
        have hval1 : ¬ 0 ≤ t.toInt → bt now k = true → (8 : Int32) * (nI (k / 8) - nI b) + (nI r - nI (k % 8)) = nI (pos (decide (t.toInt < 0)) l r b t' k) := by
          intro ht hbk
          have := he.2 k hbk
          rw [pk_sub (by omega), pk_sub (by omega), show (8 : Int32) = nI 8 from rfl, pk_mul, nI_add, decide_eq_true (by omega)]
          rfl
        exact ⟨fun c0 => ⟨fun _ => k106 _ _ (hval0 c0), fun c => absurd c0 c⟩, fun c0 => ⟨fun c => absurd c c0, fun _ => k106 _ _ (hval1 c0)⟩⟩
  unfold w9_putDown w9_putDown_b12
  refine ⟨fun c => main _ (by omega) ?_, fun c => main _ (by omega) ?_⟩
  · rw [if_pos c] at h0; exact h0
  · rw [if_neg c] at h0; exact h0
/-- what is turned once lies put down already -/
theorem pd_tb {m : Bool} {x z v : Int64} (h : TnB m x z) (h' : PD z v) : v = z := by
  obtain ⟨l, r, b, t, e, h⟩ := h
  obtain ⟨zl, zr, zb, zt, ze, h'⟩ := h'
  have el := ends_lt e
  obtain ⟨⟨⟨k1, a1, b1⟩, ⟨k2, a2, b2⟩, ⟨k3, a3, b3⟩, ⟨k4, a4, b4⟩⟩, he⟩ := id e
  have to : ∀ j, bt x j = true → bt z (pos m l r b t j) = true := fun j hj => (h _ (pos_lt (m := m) e hj)).mpr ⟨j, hj, rfl⟩
  have key : zb = 0 ∧ zl = 0 := by
    have q1 := ze.2 _ (to k1 a1)
    have q2 := ze.2 _ (to k2 a2)
    have q3 := ze.2 _ (to k3 a3)
    have q4 := ze.2 _ (to k4 a4)
    have p1 := he k1 a1
    have p2 := he k2 a2
    have p3 := he k3 a3
    have p4 := he k4 a4
    unfold pos at *
    cases m
    · simp only [Bool.false_eq_true, if_false] at *
      omega
    · simp only [if_true] at *
      omega
  apply bt_ext
  intro k _
  rw [h' k, key.1, key.2]
  rfl
/-- turn() of the reference: the figure is turned once -/
theorem x9_once (x : Int64) (o : Int32) (hx : ¬ x = 0) (S : MS) (Q : Int64 → MS → Prop) (h : ∀ y S', TnB (decide (¬ o = 0)) x y → Fr [6] S S' → Q y S') : w9_putDown x o (if o = 0 then 1 else 0) S Q := by
  have e0 : (0 : Int32).toInt = 0 := rfl
  have e1 : (1 : Int32).toInt = 1 := rfl
  by_cases c : o = 0
  · rw [if_pos c]
    rw [decide_eq_false (fun q => q c)] at h
    refine x9_putDown x o 1 (by decide) hx S (fun t z => (t = 0 ∧ z = x) ∨ (t = 1 ∧ TnB false x z)) (by rw [if_pos c]; exact Or.inl ⟨rfl, rfl⟩) (fun t z z' ht hI hT => ?_) Q (fun t z v S' ht hI hP hF => ?_)
    · rw [e1] at ht
      rcases hI with ⟨q1, q2⟩ | ⟨q1, q2⟩
      · subst q1 q2
        exact Or.inr ⟨rfl, hT⟩
      · omega
    · rw [e1] at ht
      rcases hI with ⟨q1, q2⟩ | ⟨q1, q2⟩
      · omega
      · rw [pd_tb q2 hP]; exact h z S' q2 hF
  · rw [if_neg c]
    rw [decide_eq_true c] at h
    refine x9_putDown x o 0 (by decide) hx S (fun t z => (t = -1 ∧ z = x) ∨ (t = 0 ∧ TnB true x z)) (by rw [if_neg c]; exact Or.inl ⟨rfl, rfl⟩) (fun t z z' ht hI hT => ?_) Q (fun t z v S' ht hI hP hF => ?_)
    · rw [e0] at ht
      rcases hI with ⟨q1, q2⟩ | ⟨q1, q2⟩
      · subst q1 q2
        exact Or.inr ⟨rfl, hT⟩
      · omega
    · rw [e0] at ht
      rcases hI with ⟨q1, q2⟩ | ⟨q1, q2⟩
      · omega
      · rw [pd_tb q2 hP]; exact h z S' q2 hF

/-! ===== pure: figures turned, on both sides ===== -/
def Ends (x : Int64) (l r b t : Nat) : Prop := ((∃ k, bt x k = true ∧ k % 8 = l) ∧ (∃ k, bt x k = true ∧ k % 8 = r) ∧ (∃ k, bt x k = true ∧ k / 8 = b) ∧ (∃ k, bt x k = true ∧ k / 8 = t)) ∧ ∀ k, bt x k = true → l ≤ k % 8 ∧ k % 8 ≤ r ∧ b ≤ k / 8 ∧ k / 8 ≤ t
theorem ends_lt {x : Int64} {l r b t : Nat} (h : Ends x l r b t) : l < 8 ∧ r < 8 ∧ b < 8 ∧ t < 8 ∧ l ≤ r ∧ b ≤ t := by
  obtain ⟨⟨⟨k1, a1, b1⟩, ⟨k2, a2, b2⟩, ⟨k3, a3, b3⟩, ⟨k4, a4, b4⟩⟩, h2⟩ := h
  have := bt_lt a1
  have := bt_lt a2
  have := bt_lt a3
  have := bt_lt a4
  have := h2 k1 a1
  have := h2 k3 a3
  omega
theorem ends_fun {x : Int64} {l r b t l' r' b' t' : Nat} (h : Ends x l r b t) (h' : Ends x l' r' b' t') : l = l' ∧ r = r' ∧ b = b' ∧ t = t' := by
  obtain ⟨⟨⟨k1, a1, b1⟩, ⟨k2, a2, b2⟩, ⟨k3, a3, b3⟩, ⟨k4, a4, b4⟩⟩, h2⟩ := h
  obtain ⟨⟨⟨j1, c1, d1⟩, ⟨j2, c2, d2⟩, ⟨j3, c3, d3⟩, ⟨j4, c4, d4⟩⟩, g2⟩ := h'
  have := h2 j1 c1
  have := h2 j2 c2
  have := h2 j3 c3
  have := h2 j4 c4
  have := g2 k1 a1
  have := g2 k2 a2
  have := g2 k3 a3
  have := g2 k4 a4
  omega
theorem ends_ex {x : Int64} (hx : ¬ x = 0) : ∃ l r b t, Ends x l r b t := by
  obtain ⟨k0, _, h0⟩ := bt_some hx
  obtain ⟨l, ⟨k1, a1, b1⟩, hl⟩ := pk_least (fun l => ∃ k, bt x k = true ∧ k % 8 = l) ⟨_, k0, h0, rfl⟩
  obtain ⟨r, ⟨k2, a2, b2⟩, hr⟩ := pk_least (fun r => ∃ k, bt x k = true ∧ k % 8 + r = 7) ⟨7 - k0 % 8, k0, h0, by omega⟩
  obtain ⟨b, ⟨k3, a3, b3⟩, hb⟩ := pk_least (fun b => ∃ k, bt x k = true ∧ k / 8 = b) ⟨_, k0, h0, rfl⟩
  obtain ⟨t, ⟨k4, a4, b4⟩, ht⟩ := pk_least (fun t => ∃ k, bt x k = true ∧ k / 8 + t = 7) ⟨7 - k0 / 8, k0, h0, by have := bt_lt h0; omega⟩
  refine ⟨l, 7 - r, b, 7 - t, ⟨⟨k1, a1, b1⟩, ⟨k2, a2, by omega⟩, ⟨k3, a3, b3⟩, ⟨k4, a4, by omega⟩⟩, fun k hk => ⟨?_, ?_, ?_, ?_⟩⟩
  · rcases Nat.lt_or_ge (k % 8) l with q | q
    · exact absurd ⟨k, hk, rfl⟩ (hl _ q)
    · exact q
  · rcases Nat.lt_or_ge (7 - r) (k % 8) with q | q
    · exact absurd ⟨k, hk, by omega⟩ (hr (7 - k % 8) (by omega))
    · exact q
  · rcases Nat.lt_or_ge (k / 8) b with q | q
    · exact absurd ⟨k, hk, rfl⟩ (hb _ q)
    · exact q
  · have := bt_lt hk
    rcases Nat.lt_or_ge (7 - t) (k / 8) with q | q
    · exact absurd ⟨k, hk, by omega⟩ (ht (7 - k / 8) (by omega))
    · exact q
/-- where a square goes: turned (false), turned over (true) -/
def pos (m : Bool) (l r b t k : Nat) : Nat := if m then 8 * (k / 8 - b) + (r - k % 8) else 8 * (k % 8 - l) + (t - k / 8)
def TnB (m : Bool) (x y : Int64) : Prop := ∃ l r b t, Ends x l r b t ∧ ∀ i, i < 64 → (bt y i = true ↔ ∃ j, bt x j = true ∧ pos m l r b t j = i)
def PD (x y : Int64) : Prop := ∃ l r b t, Ends x l r b t ∧ ∀ i, bt y i = bt x (i + 8 * b + l)
theorem tb_fun {m : Bool} {x y z : Int64} (h : TnB m x y) (h' : TnB m x z) : y = z := by
  obtain ⟨l, r, b, t, e, h⟩ := h
  obtain ⟨l', r', b', t', e', h'⟩ := h'
  obtain ⟨rfl, rfl, rfl, rfl⟩ := ends_fun e e'
  exact bt_ext fun k hk => b_iff ((h k hk).trans (h' k hk).symm)
theorem pos_lt {m : Bool} {x : Int64} {l r b t j : Nat} (e : Ends x l r b t) (hj : bt x j = true) : pos m l r b t j < 64 := by
  have := ends_lt e
  have := e.2 j hj
  unfold pos
  split <;> omega
theorem pos_inj {m : Bool} {x : Int64} {l r b t j j' : Nat} (e : Ends x l r b t) (hj : bt x j = true) (hj' : bt x j' = true) (h : pos m l r b t j = pos m l r b t j') : j = j' := by
  have := ends_lt e
  have := e.2 j hj
  have := e.2 j' hj'
  unfold pos at h
  split at h <;> omega
theorem tb_ne {m : Bool} {x y : Int64} (h : TnB m x y) : ¬ y = 0 := by
  obtain ⟨l, r, b, t, e, h⟩ := h
  obtain ⟨k, hk, _⟩ := e.1.1
  exact bt_ne ((h _ (pos_lt (m := m) e hk)).mpr ⟨k, hk, rfl⟩)
/-- as many squares as before -/
theorem ct_img (p : Nat → Bool) (f : Nat → Nat) (hf : ∀ j, p j = true → f j < 64) (hi : ∀ j j', p j = true → p j' = true → f j = f j' → j = j') : ∀ (n : Nat) (q : Nat → Bool), (∀ i, i < 64 → (q i = true ↔ ∃ j, j < n ∧ p j = true ∧ f j = i)) → fb_ct q 64 = fb_ct p n
  | 0, q, hq => by
    refine fb_ct_zero.mpr fun i hi2 => ?_
    cases e : q i
    · rfl
    · obtain ⟨j, hj, _⟩ := (hq i hi2).mp e
      exact absurd hj (Nat.not_lt_zero j)
  | n + 1, q, hq => by
    by_cases hp : p n = true
    · have hlt := hf n hp
      have ih := ct_img p f hf hi n (fun i => q i && !(f n == i)) (fun i hi2 => by
        rw [Bool.and_eq_true, hq i hi2]
        constructor
        · rintro ⟨⟨j, hj, hpj, e⟩, hne⟩
          have : ¬ j = n := fun ej => by
            rw [← e, ej] at hne
            rw [show (f n == f n) = true from beq_iff_eq.mpr rfl] at hne
            exact absurd hne (by decide)
          exact ⟨j, by omega, hpj, e⟩
        · rintro ⟨j, hj, hpj, e⟩
          refine ⟨⟨j, by omega, hpj, e⟩, ?_⟩
          rw [show (f n == i) = false from beq_eq_false_iff_ne.mpr (fun q2 => by
            have := hi n j hp hpj (by rw [q2, e])
            omega)]
          rfl)
      rw [fb_ct_succ p n, if_pos hp, ← ih]
      have hqn : q (f n) = true := (hq _ hlt).mpr ⟨n, by omega, hp, rfl⟩
      refine ct_add (f := fun i => q i && !(f n == i)) (i := f n) hlt ?_ (fun k hk => ?_)
      · rw [show (f n == f n) = true from beq_iff_eq.mpr rfl]
        cases q (f n) <;> rfl
      · by_cases e : f n = k
        · rw [show (f n == k) = true from beq_iff_eq.mpr e, ← e, hqn]; rfl
        · rw [show (f n == k) = false from beq_eq_false_iff_ne.mpr e]
          cases q k <;> rfl
    · rw [fb_ct_succ p n, if_neg hp, Nat.add_zero]
      refine ct_img p f hf hi n q (fun i hi2 => ?_)
      rw [hq i hi2]
      constructor
      · rintro ⟨j, hj, hpj, e⟩
        have : ¬ j = n := fun ej => hp (by rw [← ej]; exact hpj)
        exact ⟨j, by omega, hpj, e⟩
      · rintro ⟨j, hj, r⟩
        exact ⟨j, by omega, r⟩
theorem tb_pc {m : Bool} {x y : Int64} (h : TnB m x y) : pc y = pc x := by
  obtain ⟨l, r, b, t, e, h⟩ := h
  unfold pc
  refine ct_img (bt x) (pos m l r b t) (fun j hj => pos_lt e hj) (fun j j' hj hj' q => pos_inj e hj hj' q) 64 (bt y) (fun i hi => ?_)
  rw [h i hi]
  constructor
  · rintro ⟨j, hj, q⟩
    exact ⟨j, bt_lt hj, hj, q⟩
  · rintro ⟨j, _, hj, q⟩
    exact ⟨j, hj, q⟩
/-! the class -/
theorem bt_255 : ∀ k, k < 64 → bt 255 k = decide (k < 8) := by decide +kernel
theorem bt_left : ∀ k, k < 64 → bt 72340172838076673 k = decide (k % 8 = 0) := by decide +kernel
theorem and_0 {x y : Int64} : x &&& y = 0 ↔ ∀ k, k < 64 → ¬ (bt x k = true ∧ bt y k = true) := by
  constructor
  · intro h k _ q
    have : bt (x &&& y) k = true := by rw [bt_and, q.1, q.2]; rfl
    rw [h, bt_0] at this
    exact absurd this (by decide)
  · intro h
    apply bt_ext
    intro k hk
    rw [bt_0, bt_and]
    cases e1 : bt x k
    · rfl
    · cases e2 : bt y k
      · rfl
      · exact absurd ⟨e1, e2⟩ (h k hk)
theorem x0_putDown (x : Int64) (hx : ¬ x = 0) (Q : Int64 → Prop) (h : ∀ y, PD x y → Q y) : w0_putDown x Q := by
  obtain ⟨l, r, b, t, e⟩ := ends_ex hx
  have hlt := ends_lt e
  obtain ⟨⟨⟨k1, a1, b1⟩, _, ⟨k3, a3, b3⟩, _⟩, he⟩ := id e
  unfold w0_putDown w0_putDown_b5
  refine lp_up 8 (fun z => z.2) (fun k z => ∃ a, k = a + 1 ∧ a ≤ b ∧ ∀ i, bt z.1 i = bt x (i + 8 * a)) (by decide) ?_ (by decide : 1 ≤ 8) (rfl : (1 : Int32) = nI 1) (by exact ⟨0, rfl, Nat.zero_le _, fun i => rfl⟩)
  rintro K ⟨v, y⟩ k hk hcc ⟨a, ka, hab, hv⟩ hK
  try dsimp only at hcc hv hK
  subst hcc
  subst ka
  have fin : a = b → w0_putDown_b33 v Q := by
    rintro rfl
    unfold w0_putDown_b33 w0_putDown_b36
    refine lp_up 8 (fun z => z.2) (fun k z => ∃ c, k = c + 1 ∧ c ≤ l ∧ ∀ i, bt z.1 i = bt v (i + c)) (by decide) ?_ (by decide : 1 ≤ 8) (rfl : (1 : Int32) = nI 1) (by exact ⟨0, rfl, Nat.zero_le _, fun i => rfl⟩)
    rintro K2 ⟨u, y⟩ k2 hk2 hcc ⟨c, kc, hcl, hu⟩ hK2
    try dsimp only at hcc hu hK2
    subst hcc
    subst kc
    have fin2 : c = l → Q u := by
      rintro rfl
      refine h u ⟨_, _, _, _, e, fun i => ?_⟩
      rw [hu, hv, show i + c + 8 * a = i + 8 * a + c by omega]
    unfold w0_putDown_F36 w0_putDown_d36 w0_putDown_b63
    try dsimp only
    rw [lg_cmp_eq]
    refine ⟨fun c2 => fin2 ?_, fun c2 => ⟨fun cz => fin2 ?_, fun cz => ?_⟩⟩
    · have := nI_end (N := 8) (by decide) hk2 c2
      omega
    · rcases Nat.lt_or_ge c l with q | q
      · exfalso
        apply cz
        refine and_0.mpr (fun k hk64 q2 => ?_)
        rw [bt_left k hk64] at q2
        have q3 := of_decide_eq_true q2.2
        have q4 : bt x (k + c + 8 * a) = true := by rw [← hv, ← hu]; exact q2.1
        have := he _ q4
        omega
      · omega
    · have hlt2 := nI_go (N := 8) (by decide) hk2 c2
      rintro _ rfl _ rfl
      have hcl2 : c < l := by
        rcases Nat.lt_or_ge c l with q | q
        · exact q
        · exfalso
          have ec : c = l := by omega
          have hk64 := bt_lt a1
          have hq : bt u (k1 - 8 * a - c) = true := by
            rw [hu, hv]
            have := he k1 a1
            rw [show k1 - 8 * a - c + c + 8 * a = k1 by omega]; exact a1
          refine and_0.mp cz (k1 - 8 * a - c) (by omega) ⟨hq, ?_⟩
          rw [bt_left _ (by omega)]
          have := he k1 a1
          exact decide_eq_true (by omega)
      refine hK2 (_, _) hlt2 (nI_1 _) ⟨c + 1, rfl, by omega, fun i => ?_⟩
      show bt (u.toUInt64 >>> ((nI 1).toInt64.toUInt64 &&& Int64.toUInt64 63)).toInt64 i = _
      rw [bt_shr (n := 1) (by decide) (sh_amt (by decide)), hu, show 1 + i + c = i + (c + 1) by omega]
  unfold w0_putDown_F5 w0_putDown_d5
  try dsimp only
  rw [lg_cmp_eq]
  refine ⟨fun c2 => fin ?_, fun c2 => ⟨fun cz => fin ?_, fun cz => ?_⟩⟩
  · have := nI_end (N := 8) (by decide) hk c2
    omega
  · rcases Nat.lt_or_ge a b with q | q
    · exfalso
      apply cz
      refine and_0.mpr (fun k hk64 q2 => ?_)
      rw [bt_255 k hk64] at q2
      have q3 := of_decide_eq_true q2.2
      have q4 : bt x (k + 8 * a) = true := by rw [← hv]; exact q2.1
      have := he _ q4
      omega
    · omega
  · have hlt2 := nI_go (N := 8) (by decide) hk c2
    rintro _ rfl _ rfl
    have hab2 : a < b := by
      rcases Nat.lt_or_ge a b with q | q
      · exact q
      · exfalso
        have hk64 := bt_lt a3
        have hq : bt v (k3 - 8 * a) = true := by
          rw [hv, show k3 - 8 * a + 8 * a = k3 by omega]; exact a3
        refine and_0.mp cz (k3 - 8 * a) (by omega) ⟨hq, ?_⟩
        rw [bt_255 _ (by omega)]
        exact decide_eq_true (by omega)
    refine hK (_, _) hlt2 (nI_1 _) ⟨a + 1, rfl, by omega, fun i => ?_⟩
    show bt (v.toUInt64 >>> ((nI 8).toInt64.toUInt64 &&& Int64.toUInt64 63)).toInt64 i = _
    rw [bt_shr (n := 8) (by decide) (sh_amt (by decide)), hv, show 8 + i + 8 * a = i + 8 * (a + 1) by omega]
def raw (m : Bool) (j : Nat) : Nat := if m then 8 * (j / 8) + 7 - j % 8 else 8 * (j % 8) + 7 - j / 8
theorem raw_lt {m : Bool} {j : Nat} (hj : j < 64) : raw m j < 64 := by
  unfold raw
  split <;> omega
/-- a set of which each square went to its raw place, put down -/
theorem raw_tb {m : Bool} {x z y : Int64} (hz : ∀ i, i < 64 → (bt z i = true ↔ ∃ j, bt x j = true ∧ raw m j = i)) (h : PD z y) {l r b t : Nat} (e : Ends x l r b t) : TnB m x y := by
  obtain ⟨zl, zr, zb, zt, ze, h⟩ := h
  have el := ends_lt e
  obtain ⟨⟨⟨k1, a1, b1⟩, ⟨k2, a2, b2⟩, ⟨k3, a3, b3⟩, ⟨k4, a4, b4⟩⟩, he⟩ := id e
  have to : ∀ j, bt x j = true → bt z (raw m j) = true := fun j hj => (hz _ (raw_lt (bt_lt hj))).mpr ⟨j, hj, rfl⟩
  have key : zb = (if m then b else l) ∧ zl = (if m then 7 - r else 7 - t) := by
    obtain ⟨⟨⟨j1, c1, d1⟩, _, ⟨j3, c3, d3⟩, _⟩, g2⟩ := id ze
    obtain ⟨i1, u1, v1⟩ := (hz j1 (bt_lt c1)).mp c1
    obtain ⟨i3, u3, v3⟩ := (hz j3 (bt_lt c3)).mp c3
    have p1 := he i1 u1
    have p3 := he i3 u3
    have q1 := g2 _ (to k1 a1)
    have q2 := g2 _ (to k2 a2)
    have q3 := g2 _ (to k3 a3)
    have q4 := g2 _ (to k4 a4)
    have := bt_lt u1
    have := bt_lt u3
    have := bt_lt a1
    have := bt_lt a2
    have := bt_lt a3
    have := bt_lt a4
    unfold raw at *
    cases m
    · simp only [Bool.false_eq_true, if_false] at *
      omega
    · simp only [if_true] at *
      omega
  refine ⟨l, r, b, t, e, fun i hi => ?_⟩
  rw [h i, key.1, key.2]
  constructor
  · intro q
    obtain ⟨j, hj, ej⟩ := (hz _ (bt_lt q)).mp q
    refine ⟨j, hj, ?_⟩
    have := he j hj
    have := bt_lt hj
    unfold raw at ej
    unfold pos
    cases m
    · simp only [Bool.false_eq_true, if_false] at *
      omega
    · simp only [if_true] at *
      omega
  · rintro ⟨j, hj, ej⟩
    have := he j hj
    have := bt_lt hj
    have e2 : raw m j = i + 8 * (if m then b else l) + (if m then 7 - r else 7 - t) := by
      unfold raw
      unfold pos at ej
      cases m
      · simp only [Bool.false_eq_true, if_false] at *
        omega
      · simp only [if_true] at *
        omega
    rw [← e2]
    exact to j hj
theorem x0_turned (x : Int64) (o : Int32) (hx : ¬ x = 0) (Q : Int64 → Prop) (h : ∀ y, TnB (decide (¬ o = 0)) x y → Q y) : w0_turned x o Q := by
  obtain ⟨l, r, b, t, e⟩ := ends_ex hx
  unfold w0_turned w0_turned_b5
  refine lp_up 64 (fun z => z.2) (fun k z => ∀ i, i < 64 → (bt z.1 i = true ↔ ∃ j, j < k ∧ bt x j = true ∧ raw (decide (¬ o = 0)) j = i)) (by decide) ?_ (Nat.zero_le _) (rfl : (0 : Int32) = nI 0) ?_
  rotate_left
  · intro i _
    show bt 0 i = true ↔ _
    rw [bt_0]
    exact ⟨fun q => absurd q (by decide), fun ⟨j, hj, _⟩ => absurd hj (Nat.not_lt_zero j)⟩
  rintro K ⟨z, y⟩ k hk hcc hI hK
  try dsimp only at hcc hI hK
  subst hcc
  unfold w0_turned_F5 w0_turned_d5
  try dsimp only
  refine ⟨fun c => ?_, fun c => ?_⟩
  · have ek := nI_end (N := 64) (by decide) hk c
    subst ek
    have hz : ∀ i, i < 64 → (bt z i = true ↔ ∃ j, bt x j = true ∧ raw (decide (¬ o = 0)) j = i) := fun i hi => by
      rw [hI i hi]
      exact ⟨fun ⟨j, _, q⟩ => ⟨j, q⟩, fun ⟨j, q⟩ => ⟨j, bt_lt q.1, q⟩⟩
    obtain ⟨k1, a1, _⟩ := e.1.1
    have hz0 : ¬ z = 0 := bt_ne ((hz _ (raw_lt (bt_lt a1))).mpr ⟨k1, a1, rfl⟩)
    exact x0_putDown z hz0 _ (fun y hy => h y (raw_tb hz hy e))
  have hlt := nI_go (N := 64) (by decide) hk c
  unfold w0_turned_b63 w0_turned_b72
  refine s0_hasK x hlt _ (fun hb => ⟨fun c => absurd c (by decide), fun _ => ?_⟩) (fun hb => ⟨fun _ => ?_, fun c => absurd rfl c⟩)
  · rw [sh_3 (by omega), show nI k &&& (7 : Int32) = nI (k % 8) from pk_andN (by omega) 3 (by decide)]
    rintro _ rfl _ rfl
    have step : ∀ m, raw (decide (¬ o = 0)) k = m → ∀ y : Int64, y = z ||| lN (2 ^ m) → ∀ y1 : Int32, y1 = nI k + 1 → K (y, y1) := by
      rintro m em _ rfl _ rfl
      have hm : m < 64 := by rw [← em]; exact raw_lt hlt
      refine hK (_, _) hlt (nI_1 k) (fun i hi => ?_)
      show bt (z ||| lN (2 ^ m)) i = true ↔ _
      rw [bt_or, bt_p2 hm, Bool.or_eq_true, hI i hi, decide_eq_true_iff]
      constructor
      · rintro (⟨j, hj, q⟩ | q)
        · exact ⟨j, by omega, q⟩
        · exact ⟨k, by omega, hb, by rw [em, q]⟩
      · rintro ⟨j, hj, q1, q2⟩
        by_cases ej : j = k
        · right; rw [ej, em] at q2; exact q2.symm
        · exact Or.inl ⟨j, by omega, q1, q2⟩
    rw [show (8 : Int32) = nI 8 from rfl, show (7 : Int32) = nI 7 from rfl, pk_mul, pk_mul, nI_add, nI_add, pk_sub (by omega), pk_sub (by omega)]
    refine ⟨fun c0 => ?_, fun c0 => ?_⟩
    · rw [one_sh (by omega)]
      exact step _ (by rw [decide_eq_false (fun q => q c0)]; rfl)
    · rw [one_sh (by omega)]
      exact step _ (by rw [decide_eq_true c0]; rfl)
  · rintro _ rfl
    refine hK (_, _) hlt (nI_1 k) (fun i hi => ?_)
    show bt z i = true ↔ _
    rw [hI i hi]
    constructor
    · rintro ⟨j, hj, q⟩
      exact ⟨j, by omega, q⟩
    · rintro ⟨j, hj, q1, q2⟩
      have : ¬ j = k := fun ej => by rw [ej, hb] at q1; exact absurd q1 (by decide)
      exact ⟨j, by omega, q1, q2⟩

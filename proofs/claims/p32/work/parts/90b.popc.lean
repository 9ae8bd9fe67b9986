/-! ===== pure: Long.bitCount counts the bits ===== -/
/-- a byte, three times -/
def gb1 (b : Nat) : Nat := b - (b / 2 &&& 85)
def gb2 (b : Nat) : Nat := (b &&& 51) + (b / 4 &&& 51)
def gb3 (b : Nat) : Nat := (b + b / 16) % 16
/-- so many bytes of one kind -/
def Mk (m : Nat) : Nat → Nat
  | 0 => 0
  | k + 1 => m + 256 * Mk m k
def Bs (f : Nat → Nat) : Nat → Nat → Nat
  | 0, _ => 0
  | k + 1, n => f (n % 256) + 256 * Bs f k (n / 256)
theorem and_b {lo hi m M : Nat} (hl : lo < 256) (hm : m < 256) : (lo + 256 * hi) &&& (m + 256 * M) = (lo &&& m) + 256 * (hi &&& M) := by
  have h1 : lo &&& m < 256 := Nat.lt_of_le_of_lt Nat.and_le_left hl
  apply Nat.eq_of_testBit_eq
  intro i
  rw [Nat.testBit_and, Nat.add_comm lo, Nat.add_comm m, Nat.add_comm (lo &&& m), show (256 : Nat) = 2 ^ 8 from rfl, Nat.testBit_two_pow_mul_add hi (i := 8) hl i, Nat.testBit_two_pow_mul_add M (i := 8) hm i, Nat.testBit_two_pow_mul_add (hi &&& M) (i := 8) h1 i]
  by_cases q : i < 8
  · rw [if_pos q, if_pos q, if_pos q, Nat.testBit_and]
  · rw [if_neg q, if_neg q, if_neg q, Nat.testBit_and]
theorem gb_1 : ∀ b, b < 256 → (b / 2 &&& 85) ≤ b ∧ (b / 2 + 128 &&& 85) = (b / 2 &&& 85) ∧ gb1 b < 256 := by decide +kernel
theorem gb_2 : ∀ b, b < 256 → (b / 4 + 64 &&& 51) = (b / 4 &&& 51) ∧ (b / 4 + 128 &&& 51) = (b / 4 &&& 51) ∧ (b / 4 + 192 &&& 51) = (b / 4 &&& 51) ∧ gb2 b < 256 := by decide +kernel
theorem gb_3 : ∀ b, b < 256 → gb2 (gb1 b) % 16 ≤ 4 ∧ gb2 (gb1 b) / 16 ≤ 4 ∧ gb3 (gb2 (gb1 b)) = fb_ct (fun k => b.testBit k) 8 ∧ gb3 (gb2 (gb1 b)) ≤ 8 := by decide +kernel
theorem and_15 : ∀ b, b < 256 → b &&& 15 = b % 16 := by decide +kernel
theorem f1_B : ∀ (k n : Nat), n < 256 ^ k → n - (n / 2 &&& Mk 85 k) = Bs gb1 k n ∧ (n / 2 &&& Mk 85 k) ≤ n
  | 0, n, h => by
    have : n = 0 := by simpa using h
    subst this
    exact ⟨rfl, Nat.and_le_left⟩
  | k + 1, n, h => by
    have hk : n / 256 < 256 ^ k := by
      rw [Nat.pow_succ] at h
      exact Nat.div_lt_of_lt_mul (by rw [Nat.mul_comm]; exact h)
    obtain ⟨ih, ih2⟩ := f1_B k (n / 256) hk
    have hb := gb_1 (n % 256) (Nat.mod_lt _ (by decide))
    have e : n / 2 = (n % 256 / 2 + 128 * (n / 256 % 2)) + 256 * (n / 256 / 2) := by omega
    have e2 : n / 2 &&& Mk 85 (k + 1) = (n % 256 / 2 &&& 85) + 256 * (n / 256 / 2 &&& Mk 85 k) := by
      show n / 2 &&& (85 + 256 * Mk 85 k) = _
      rw [e, and_b (by omega) (by decide)]
      rcases (show n / 256 % 2 = 0 ∨ n / 256 % 2 = 1 by omega) with q | q
      · rw [q, Nat.mul_zero, Nat.add_zero]
      · rw [q, Nat.mul_one, hb.2.1]
    rw [e2]
    show n - _ = gb1 (n % 256) + 256 * Bs gb1 k (n / 256) ∧ _
    rw [← ih]
    unfold gb1
    omega
theorem Bs_mod {f : Nat → Nat} (hf : ∀ b, b < 256 → f b < 256) (k n : Nat) : Bs f (k + 1) n % 256 = f (n % 256) ∧ Bs f (k + 1) n / 256 = Bs f k (n / 256) := by
  have := hf (n % 256) (Nat.mod_lt _ (by decide))
  show (f (n % 256) + 256 * Bs f k (n / 256)) % 256 = _ ∧ (f (n % 256) + 256 * Bs f k (n / 256)) / 256 = _
  omega
theorem f2_B : ∀ (k n : Nat), (Bs gb1 k n &&& Mk 51 k) + (Bs gb1 k n / 4 &&& Mk 51 k) = Bs (fun b => gb2 (gb1 b)) k n
  | 0, n => by
    show (0 &&& 0) + (0 / 4 &&& 0) = 0
    rfl
  | k + 1, n => by
    have ih := f2_B k (n / 256)
    have hb : n % 256 < 256 := Nat.mod_lt _ (by decide)
    have hg := (gb_1 _ hb).2.2
    have h2 := gb_2 _ hg
    show (gb1 (n % 256) + 256 * Bs gb1 k (n / 256) &&& (51 + 256 * Mk 51 k)) + ((gb1 (n % 256) + 256 * Bs gb1 k (n / 256)) / 4 &&& (51 + 256 * Mk 51 k)) = gb2 (gb1 (n % 256)) + 256 * Bs (fun b => gb2 (gb1 b)) k (n / 256)
    generalize gb1 (n % 256) = lo at hg h2
    rw [← ih]
    generalize Bs gb1 k (n / 256) = hi
    have e : (lo + 256 * hi) / 4 = (lo / 4 + 64 * (hi % 4)) + 256 * (hi / 4) := by omega
    rw [e, and_b hg (by decide), and_b (by omega) (by decide)]
    have e3 : (lo / 4 + 64 * (hi % 4) &&& 51) = (lo / 4 &&& 51) := by
      rcases (show hi % 4 = 0 ∨ hi % 4 = 1 ∨ hi % 4 = 2 ∨ hi % 4 = 3 by omega) with q | q | q | q
      · rw [q, Nat.mul_zero, Nat.add_zero]
      · rw [q, Nat.mul_one]; exact h2.1
      · rw [q]; exact h2.2.1
      · rw [q]; exact h2.2.2.1
    rw [e3]
    unfold gb2
    omega
theorem f3_B : ∀ (k n : Nat), (Bs (fun b => gb2 (gb1 b)) k n + Bs (fun b => gb2 (gb1 b)) k n / 16 &&& Mk 15 k) = Bs (fun b => gb3 (gb2 (gb1 b))) k n ∧ Bs (fun b => gb2 (gb1 b)) k n % 16 ≤ 4
  | 0, n => by
    show (0 + 0 / 16 &&& 0) = 0 ∧ 0 % 16 ≤ 4
    exact ⟨rfl, by decide⟩
  | k + 1, n => by
    obtain ⟨ih, ih2⟩ := f3_B k (n / 256)
    have hb : n % 256 < 256 := Nat.mod_lt _ (by decide)
    have h3 := gb_3 _ hb
    show ((gb2 (gb1 (n % 256)) + 256 * Bs (fun b => gb2 (gb1 b)) k (n / 256)) + (gb2 (gb1 (n % 256)) + 256 * Bs (fun b => gb2 (gb1 b)) k (n / 256)) / 16 &&& (15 + 256 * Mk 15 k)) = gb3 (gb2 (gb1 (n % 256))) + 256 * Bs (fun b => gb3 (gb2 (gb1 b))) k (n / 256) ∧ (gb2 (gb1 (n % 256)) + 256 * Bs (fun b => gb2 (gb1 b)) k (n / 256)) % 16 ≤ 4
    rw [← ih]
    generalize gb2 (gb1 (n % 256)) = lo at h3
    generalize Bs (fun b => gb2 (gb1 b)) k (n / 256) = hi at ih2
    refine ⟨?_, by omega⟩
    have e : lo + 256 * hi + (lo + 256 * hi) / 16 = (lo + lo / 16 + 16 * (hi % 16)) + 256 * (hi + hi / 16) := by omega
    rw [e, and_b (by omega) (by decide), and_15 _ (by omega)]
    unfold gb3
    omega
/-- how many bits, by bytes -/
theorem ct_8 (n : Nat) : ∀ k, fb_ct (fun i => n.testBit i) (8 * k) = fb_sm (fun j => fb_ct (fun i => (n / 256 ^ j % 256).testBit i) 8) k
  | 0 => rfl
  | k + 1 => by
    rw [show 8 * (k + 1) = 8 * k + 8 by omega, fb_ct_split, ct_8 n k, fb_sm_succ]
    congr 1
    apply fb_ct_cong
    intro i hi
    rw [show (256 : Nat) ^ k = 2 ^ (8 * k) by rw [show (256 : Nat) = 2 ^ 8 from rfl, ← Nat.pow_mul], show (256 : Nat) = 2 ^ 8 from rfl, Nat.testBit_mod_two_pow, Nat.testBit_div_two_pow, decide_eq_true hi, Bool.true_and]
    congr 1
    omega
theorem Bs_8 (f : Nat → Nat) (n : Nat) : Bs f 8 n = f (n % 256) + 256 * (f (n / 256 % 256) + 256 * (f (n / 256 / 256 % 256) + 256 * (f (n / 256 / 256 / 256 % 256) + 256 * (f (n / 256 / 256 / 256 / 256 % 256) + 256 * (f (n / 256 / 256 / 256 / 256 / 256 % 256) + 256 * (f (n / 256 / 256 / 256 / 256 / 256 / 256 % 256) + 256 * (f (n / 256 / 256 / 256 / 256 / 256 / 256 / 256 % 256) + 256 * 0))))))) := rfl
theorem f8a {p0 p1 w w1 w2 a : Nat} (h0 : w = p0 + 256 * w1) (h1 : w1 = p1 + 256 * w2) (l0 : p0 < 256) (ha : a = w + w / 256) : a = (p0 + p1) + 256 * (w1 + w2) := by omega
theorem f8s {p q x y x' y' : Nat} (h : x = p + 256 * x') (h' : y = q + 256 * y') : x + y = (p + q) + 256 * (x' + y') := by omega
theorem f8b {s0 s1 a a1 a2 b : Nat} (h0 : a = s0 + 256 * a1) (h1 : a1 = s1 + 256 * a2) (l0 : s0 < 256) (l1 : s1 < 256) (hb : b = a + a / 65536) : b = a + a2 := by omega
theorem f8e {t x y : Nat} (h : x = t + 256 * y) (l : t < 256) : x / 256 = y := by omega
theorem f8d {t s x y c : Nat} (h : c = (t + 256 * x) + (s + 256 * y)) (l : t + s < 128) : c % 128 = t + s := by omega
theorem fold_8 {p0 p1 p2 p3 p4 p5 p6 p7 w a b c : Nat} (h : p0 ≤ 8 ∧ p1 ≤ 8 ∧ p2 ≤ 8 ∧ p3 ≤ 8 ∧ p4 ≤ 8 ∧ p5 ≤ 8 ∧ p6 ≤ 8 ∧ p7 ≤ 8) (hw : w = p0 + 256 * (p1 + 256 * (p2 + 256 * (p3 + 256 * (p4 + 256 * (p5 + 256 * (p6 + 256 * (p7 + 256 * 0)))))))) (ha : a = w + w / 256) (hb : b = a + a / 65536) (hc : c = b + b / 4294967296) : c % 128 = p0 + p1 + p2 + p3 + p4 + p5 + p6 + p7 := by
  obtain ⟨w8, e8⟩ : ∃ x, x = 0 := ⟨_, rfl⟩
  rw [← e8] at hw
  obtain ⟨w7, e7⟩ : ∃ x, x = p7 + 256 * w8 := ⟨_, rfl⟩
  rw [← e7] at hw
  obtain ⟨w6, e6⟩ : ∃ x, x = p6 + 256 * w7 := ⟨_, rfl⟩
  rw [← e6] at hw
  obtain ⟨w5, e5⟩ : ∃ x, x = p5 + 256 * w6 := ⟨_, rfl⟩
  rw [← e5] at hw
  obtain ⟨w4, e4⟩ : ∃ x, x = p4 + 256 * w5 := ⟨_, rfl⟩
  rw [← e4] at hw
  obtain ⟨w3, e3⟩ : ∃ x, x = p3 + 256 * w4 := ⟨_, rfl⟩
  rw [← e3] at hw
  obtain ⟨w2, e2⟩ : ∃ x, x = p2 + 256 * w3 := ⟨_, rfl⟩
  rw [← e2] at hw
  obtain ⟨w1, e1⟩ : ∃ x, x = p1 + 256 * w2 := ⟨_, rfl⟩
  rw [← e1] at hw
  obtain ⟨l0, l1, l2, l3, l4, l5, l6, l7⟩ := h
  have ea := f8a hw e1 (Nat.lt_of_le_of_lt l0 (by decide)) ha
  have a1 := f8s e1 e2
  have a2 := f8s e2 e3
  have a3 := f8s e3 e4
  have a4 := f8s e4 e5
  have a5 := f8s e5 e6
  have a6 := f8s e6 e7
  have s2 : ∀ {x y : Nat}, x ≤ 8 → y ≤ 8 → x + y ≤ 16 := fun h1 h2 => Nat.add_le_add h1 h2
  have s4 : ∀ {x y : Nat}, x ≤ 16 → y ≤ 16 → x + y ≤ 32 := fun h1 h2 => Nat.add_le_add h1 h2
  have lt6 : ∀ {x : Nat}, x ≤ 16 → x < 256 := fun h => Nat.lt_of_le_of_lt h (by decide)
  have lt7 : ∀ {x : Nat}, x ≤ 32 → x < 256 := fun h => Nat.lt_of_le_of_lt h (by decide)
  have eb := f8b ea a1 (lt6 (s2 l0 l1)) (lt6 (s2 l1 l2)) hb
  have b0 := f8s ea a2
  have b1 := f8s a1 a3
  have b2 := f8s a2 a4
  have b3 := f8s a3 a5
  have b4 := f8s a4 a6
  rw [← eb] at b0
  have d1 := f8e b0 (lt7 (s4 (s2 l0 l1) (s2 l2 l3)))
  have d2 := f8e b1 (lt7 (s4 (s2 l1 l2) (s2 l3 l4)))
  have d3 := f8e b2 (lt7 (s4 (s2 l2 l3) (s2 l4 l5)))
  have d4 := f8e b3 (lt7 (s4 (s2 l3 l4) (s2 l5 l6)))
  have dd : b / 4294967296 = w4 + w5 + (w6 + w7) := by
    rw [show (4294967296 : Nat) = 256 * 256 * 256 * 256 from rfl, ← Nat.div_div_eq_div_mul, ← Nat.div_div_eq_div_mul, ← Nat.div_div_eq_div_mul, d1, d2, d3, d4]
  rw [dd, b0, b4] at hc
  have hs := s4 (s2 l0 l1) (s2 l2 l3)
  have hs2 := s4 (s2 l4 l5) (s2 l6 l7)
  have := f8d hc (Nat.lt_of_le_of_lt (Nat.add_le_add hs hs2) (by decide))
  rw [this]
  clear this hc dd d1 d2 d3 d4 b0 b1 b2 b3 b4 eb ea a1 a2 a3 a4 a5 a6 e1 e2 e3 e4 e5 e6 e7 hw ha hb
  omega
theorem and_127 (c : Nat) : nI c &&& (127 : Int32) = nI (c % 128) := by
  rw [pk_and (nI c) (m := 127) 7 (by decide)]
  have e : (nI c).toBitVec.toNat = c % 2 ^ 32 := by
    show (BitVec.ofNat 32 c).toNat = _
    rw [BitVec.toNat_ofNat]
  rw [e]
  congr 1
  omega
theorem s13_bitCount (x : Int64) (Q : Int32 → Prop) (h : Q (nI (pc x))) : w13_bitCount_95d88 x Q := by
  obtain ⟨n, hn, rfl⟩ := wb_of x
  have hpc : pc (lN n) = fb_ct (fun i => n.testBit i) (8 * 8) := fb_ct_cong fun k _ => bt_lN hn k
  have s1 : ∀ {a : Nat}, a < 2 ^ 64 → ((lN a).toUInt64 >>> ((1 : Int32).toInt64.toUInt64 &&& Int64.toUInt64 63)).toInt64 = lN (a / 2) := fun ha => wb_shr (k := 1) ha (by decide)
  have s2 : ∀ {a : Nat}, a < 2 ^ 64 → ((lN a).toUInt64 >>> ((2 : Int32).toInt64.toUInt64 &&& Int64.toUInt64 63)).toInt64 = lN (a / 4) := fun ha => wb_shr (k := 2) ha (by decide)
  have s4 : ∀ {a : Nat}, a < 2 ^ 64 → ((lN a).toUInt64 >>> ((4 : Int32).toInt64.toUInt64 &&& Int64.toUInt64 63)).toInt64 = lN (a / 16) := fun ha => wb_shr (k := 4) ha (by decide)
  have s8 : ∀ {a : Nat}, a < 2 ^ 64 → ((lN a).toUInt64 >>> ((8 : Int32).toInt64.toUInt64 &&& Int64.toUInt64 63)).toInt64 = lN (a / 256) := fun ha => wb_shr (k := 8) ha (by decide)
  have s16 : ∀ {a : Nat}, a < 2 ^ 64 → ((lN a).toUInt64 >>> ((16 : Int32).toInt64.toUInt64 &&& Int64.toUInt64 63)).toInt64 = lN (a / 65536) := fun ha => wb_shr (k := 16) ha (by decide)
  have s32 : ∀ {a : Nat}, a < 2 ^ 64 → ((lN a).toUInt64 >>> ((32 : Int32).toInt64.toUInt64 &&& Int64.toUInt64 63)).toInt64 = lN (a / 4294967296) := fun ha => wb_shr (k := 32) ha (by decide)
  have m1 : (6148914691236517205 : Int64) = lN (Mk 85 8) := by decide +kernel
  have m2 : (3689348814741910323 : Int64) = lN (Mk 51 8) := by decide +kernel
  have m4 : (1085102592571150095 : Int64) = lN (Mk 15 8) := by decide +kernel
  obtain ⟨f1, f1l⟩ := f1_B 8 n (by rw [show (256 : Nat) ^ 8 = 2 ^ 64 from by decide]; exact hn)
  have f2 := f2_B 8 n
  obtain ⟨f3, _⟩ := f3_B 8 n
  have b1 : Bs gb1 8 n < 2 ^ 64 := by rw [← f1]; omega
  have hv : ∀ k, gb2 (gb1 (k % 256)) < 256 := fun k => (gb_2 _ (gb_1 _ (Nat.mod_lt _ (by decide))).2.2).2.2.2
  have b2 : Bs (fun b => gb2 (gb1 b)) 8 n < 2 ^ 63 := by
    have hq : ∀ k, gb2 (gb1 (k % 256)) ≤ 68 := fun k => by
      have := gb_3 _ (Nat.mod_lt k (by decide : 256 > 0))
      omega
    rw [Bs_8]
    have q0 := hq n
    have q1 := hq (n / 256)
    have q2 := hq (n / 256 / 256)
    have q3 := hq (n / 256 / 256 / 256)
    have q4 := hq (n / 256 / 256 / 256 / 256)
    have q5 := hq (n / 256 / 256 / 256 / 256 / 256)
    have q6 := hq (n / 256 / 256 / 256 / 256 / 256 / 256)
    have q7 := hq (n / 256 / 256 / 256 / 256 / 256 / 256 / 256)
    try dsimp only
    omega
  unfold w13_bitCount_95d88
  rw [s1 hn, m1, fb_andL, lN_sub f1l, f1]
  rintro _ rfl
  rw [s2 b1, m2, fb_andL, fb_andL, lN_add, f2]
  rintro _ rfl
  rw [s4 (by omega), m4, lN_add, fb_andL, f3]
  rintro _ rfl
  have g3 : ∀ k, gb3 (gb2 (gb1 (k % 256))) = fb_ct (fun i => (k % 256).testBit i) 8 ∧ gb3 (gb2 (gb1 (k % 256))) ≤ 8 := fun k => (gb_3 _ (Nat.mod_lt k (by decide : 256 > 0))).2.2
  have hW := Bs_8 (fun b => gb3 (gb2 (gb1 b))) n
  try dsimp only at hW
  have c0 := g3 n
  have c1 := g3 (n / 256)
  have c2 := g3 (n / 256 / 256)
  have c3 := g3 (n / 256 / 256 / 256)
  have c4 := g3 (n / 256 / 256 / 256 / 256)
  have c5 := g3 (n / 256 / 256 / 256 / 256 / 256)
  have c6 := g3 (n / 256 / 256 / 256 / 256 / 256 / 256)
  have c7 := g3 (n / 256 / 256 / 256 / 256 / 256 / 256 / 256)
  have hsum : pc (lN n) = gb3 (gb2 (gb1 (n % 256))) + gb3 (gb2 (gb1 (n / 256 % 256))) + gb3 (gb2 (gb1 (n / 256 / 256 % 256))) + gb3 (gb2 (gb1 (n / 256 / 256 / 256 % 256))) + gb3 (gb2 (gb1 (n / 256 / 256 / 256 / 256 % 256))) + gb3 (gb2 (gb1 (n / 256 / 256 / 256 / 256 / 256 % 256))) + gb3 (gb2 (gb1 (n / 256 / 256 / 256 / 256 / 256 / 256 % 256))) + gb3 (gb2 (gb1 (n / 256 / 256 / 256 / 256 / 256 / 256 / 256 % 256))) := by
    rw [hpc, ct_8 n 8, c0.1, c1.1, c2.1, c3.1, c4.1, c5.1, c6.1, c7.1]
    have d0 : n / 256 ^ 0 = n := by rw [show (256 : Nat) ^ 0 = 1 from rfl]; omega
    have d1 : n / 256 ^ 1 = n / 256 := by rw [show (256 : Nat) ^ 1 = 256 from rfl]
    have d2 : n / 256 ^ 2 = n / 256 / 256 := by rw [show (256 : Nat) ^ 2 = 65536 from rfl]; omega
    have d3 : n / 256 ^ 3 = n / 256 / 256 / 256 := by rw [show (256 : Nat) ^ 3 = 16777216 from rfl]; omega
    have d4 : n / 256 ^ 4 = n / 256 / 256 / 256 / 256 := by rw [show (256 : Nat) ^ 4 = 4294967296 from rfl]; omega
    have d5 : n / 256 ^ 5 = n / 256 / 256 / 256 / 256 / 256 := by rw [show (256 : Nat) ^ 5 = 1099511627776 from rfl]; omega
    have d6 : n / 256 ^ 6 = n / 256 / 256 / 256 / 256 / 256 / 256 := by rw [show (256 : Nat) ^ 6 = 281474976710656 from rfl]; omega
    have d7 : n / 256 ^ 7 = n / 256 / 256 / 256 / 256 / 256 / 256 / 256 := by rw [show (256 : Nat) ^ 7 = 72057594037927936 from rfl]; omega
    rw [fb_sm_succ, fb_sm_succ, fb_sm_succ, fb_sm_succ, fb_sm_succ, fb_sm_succ, fb_sm_succ, fb_sm_succ, d0, d1, d2, d3, d4, d5, d6, d7]
    show 0 + _ + _ + _ + _ + _ + _ + _ + _ = _
    omega
  rw [hsum] at h
  generalize gb3 (gb2 (gb1 (n % 256))) = p0 at *
  generalize gb3 (gb2 (gb1 (n / 256 % 256))) = p1 at *
  generalize gb3 (gb2 (gb1 (n / 256 / 256 % 256))) = p2 at *
  generalize gb3 (gb2 (gb1 (n / 256 / 256 / 256 % 256))) = p3 at *
  generalize gb3 (gb2 (gb1 (n / 256 / 256 / 256 / 256 % 256))) = p4 at *
  generalize gb3 (gb2 (gb1 (n / 256 / 256 / 256 / 256 / 256 % 256))) = p5 at *
  generalize gb3 (gb2 (gb1 (n / 256 / 256 / 256 / 256 / 256 / 256 % 256))) = p6 at *
  generalize gb3 (gb2 (gb1 (n / 256 / 256 / 256 / 256 / 256 / 256 / 256 % 256))) = p7 at *
  generalize Bs (fun b => gb3 (gb2 (gb1 b))) 8 n = W at *
  have bW : W < 2 ^ 60 := by omega
  rw [s8 (by omega), lN_add]
  rintro _ rfl
  rw [s16 (by omega), lN_add]
  rintro _ rfl
  rw [s32 (by omega), lN_add]
  rintro _ rfl
  rw [lN_i, and_127, fold_8 (p0 := p0) (p1 := p1) (p2 := p2) (p3 := p3) (p4 := p4) (p5 := p5) (p6 := p6) (p7 := p7) ⟨c0.2, c1.2, c2.2, c3.2, c4.2, c5.2, c6.2, c7.2⟩ hW rfl rfl rfl]
  exact h

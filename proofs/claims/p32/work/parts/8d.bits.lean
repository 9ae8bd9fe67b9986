/-! ===== pure: sets of squares, bit by bit ===== -/
def bt (x : Int64) (k : Nat) : Bool := x.toBitVec.toNat.testBit k
def pc (x : Int64) : Nat := fb_ct (bt x) 64
theorem bt_ge (x : Int64) {k : Nat} (h : 64 ≤ k) : bt x k = false := by
  unfold bt
  exact Nat.testBit_lt_two_pow (Nat.lt_of_lt_of_le x.toBitVec.isLt (Nat.pow_le_pow_right (by decide) h))
theorem bt_lt {x : Int64} {k : Nat} (h : bt x k = true) : k < 64 := by
  rcases Nat.lt_or_ge k 64 with q | q
  · exact q
  · rw [bt_ge x q] at h; exact absurd h (by decide)
theorem bt_or (x y : Int64) (k : Nat) : bt (x ||| y) k = (bt x k || bt y k) := by
  unfold bt
  rw [Int64.toBitVec_or, BitVec.toNat_or, Nat.testBit_or]
theorem bt_and (x y : Int64) (k : Nat) : bt (x &&& y) k = (bt x k && bt y k) := by
  unfold bt
  rw [Int64.toBitVec_and, BitVec.toNat_and, Nat.testBit_and]
theorem bt_0 (k : Nat) : bt 0 k = false := by
  unfold bt
  rw [show (0 : Int64).toBitVec.toNat = 0 from rfl, Nat.zero_testBit]
theorem bt_ext {x y : Int64} (h : ∀ k, k < 64 → bt x k = bt y k) : x = y := by
  apply wb_inj
  apply BitVec.eq_of_toNat_eq
  apply Nat.eq_of_testBit_eq
  intro k
  rcases Nat.lt_or_ge k 64 with q | q
  · exact h k q
  · have h1 := bt_ge x q
    have h2 := bt_ge y q
    unfold bt at h1 h2
    rw [h1, h2]
theorem bt_lN {n : Nat} (hn : n < 2 ^ 64) (k : Nat) : bt (lN n) k = n.testBit k := by
  unfold bt
  rw [wb_tn hn]
/-- one square -/
theorem bt_p2 {s : Nat} (hs : s < 64) (k : Nat) : bt (lN (2 ^ s)) k = decide (k = s) := by
  rw [bt_lN (wb_lt2 hs), Nat.testBit_two_pow]
  by_cases h : s = k
  · subst h; simp
  · have h2 : ¬ k = s := fun e => h e.symm
    simp [h, h2]
theorem one_sh {s : Nat} (hs : s < 64) : (1 : Int64) <<< ((nI s).toInt64 &&& 63) = lN (2 ^ s) := by
  have := wb_shl 1 hs
  rw [Nat.one_mul] at this
  exact this
theorem one_any (v : Int32) : ∃ s, s < 64 ∧ (1 : Int64) <<< (v.toInt64 &&& 63) = lN (2 ^ s) := by
  obtain ⟨n, hn, e, _⟩ := cr_amt v.toInt64
  refine ⟨n, hn, ?_⟩
  rw [e, ← wb_c n hn]
  exact one_sh hn
theorem bt_shr {x : Int64} {s : UInt64} {n : Nat} (hn : n < 64) (hs : s.toNat % 64 = n) (k : Nat) : bt (x.toUInt64 >>> s).toInt64 k = bt x (n + k) := by
  unfold bt
  have e : (x.toUInt64 >>> s).toInt64.toBitVec.toNat = x.toBitVec.toNat >>> n := by
    show (x.toUInt64 >>> s).toNat = _
    rw [UInt64.toNat_shiftRight, hs]
    rfl
  rw [e, Nat.testBit_shiftRight]
theorem sh_amt {k : Nat} (hk : k < 64) : ((nI k).toInt64.toUInt64 &&& Int64.toUInt64 63).toNat % 64 = k := by
  rw [wb_cu k hk]
  have h1 : (UInt64.ofNat k).toNat = k := by
    show (BitVec.ofNat 64 k).toNat = k
    rw [BitVec.toNat_ofNat, Nat.mod_eq_of_lt (by omega)]
  rw [h1, Nat.mod_eq_of_lt hk]
theorem bt_bit (x : Int64) {k : Nat} (hk : k < 64) : ((x.toUInt64 >>> ((nI k).toInt64.toUInt64 &&& Int64.toUInt64 63)).toInt64 &&& (1 : Int64)) = if bt x k then 1 else 0 := by
  apply bt_ext
  intro j hj
  rw [bt_and, bt_shr hk (sh_amt hk)]
  have e1 : bt (1 : Int64) j = decide (j = 0) := bt_p2 (s := 0) (by decide) j
  rw [e1]
  by_cases h : j = 0
  · subst h
    by_cases q : bt x k = true
    · rw [if_pos q, e1]; simp [q]
    · rw [if_neg q, bt_0]; simp [q]
  · by_cases q : bt x k = true
    · rw [if_pos q, e1]; simp [h]
    · rw [if_neg q, bt_0]; simp [h]
theorem hasB_iff (x : Int64) {k : Nat} (hk : k < 64) : hasB x (nI k) ↔ bt x k = true := by
  unfold hasB
  rw [bt_bit x hk, lg_cmp_eq]
  constructor
  · intro h
    by_cases q : bt x k = true
    · exact q
    · rw [if_neg q] at h; exact absurd h.2 (by decide)
  · intro h
    rw [if_pos h]
    exact ⟨nI_pos (by omega), rfl⟩
theorem hasB_of {x : Int64} {r : Int32} (hr : r = -9 ∨ vp_in r 64) (h : hasB x r) : ∃ k, k < 64 ∧ r = nI k ∧ bt x k = true := by
  rcases hr with rfl | hr
  · exact absurd (hasB_nneg h) (by decide)
  · obtain ⟨k, hk, rfl⟩ := vp_in_of hr (by decide)
    exact ⟨k, hk, rfl, (hasB_iff x hk).mp h⟩
theorem bt_some {x : Int64} (h : ¬ x = 0) : ∃ k, k < 64 ∧ bt x k = true := by
  refine Classical.byContradiction fun q => h (bt_ext fun k hk => ?_)
  rw [bt_0]
  cases e : bt x k
  · rfl
  · exact absurd ⟨k, hk, e⟩ q
theorem bt_ne {x : Int64} {k : Nat} (h : bt x k = true) : ¬ x = 0 := by
  intro e
  rw [e, bt_0] at h
  exact absurd h (by decide)
/-- how many squares -/
theorem pc_or1 (x : Int64) {s : Nat} (hs : s < 64) : pc (x ||| lN (2 ^ s)) ≤ pc x + 1 := by
  unfold pc
  have e : fb_ct (bt (x ||| lN (2 ^ s))) 64 = fb_ct (fun k => if k = s then true else bt x k) 64 := by
    apply fb_ct_cong
    intro k _
    rw [bt_or, bt_p2 hs]
    by_cases h : k = s
    · simp [h]
    · simp [h]
  rw [e]
  have := fb_ct_upd (bt x) true hs
  rw [if_pos (rfl : true = true)] at this
  split at this <;> omega
theorem pc_shr (x : Int64) {s : UInt64} {n : Nat} (hn : n < 64) (hs : s.toNat % 64 = n) : pc (x.toUInt64 >>> s).toInt64 ≤ pc x := by
  unfold pc
  have e : fb_ct (bt (x.toUInt64 >>> s).toInt64) 64 = fb_ct (fun k => bt x (n + k)) 64 := fb_ct_cong fun k _ => bt_shr hn hs k
  rw [e]
  have h1 := fb_ct_split (bt x) n 64
  have h2 := fb_ct_split (bt x) 64 n
  have h3 : fb_ct (fun k => bt x (64 + k)) n = 0 := fb_ct_zero.mpr fun k _ => bt_ge x (by omega)
  rw [Nat.add_comm 64 n] at h2
  omega
theorem pc_le (x : Int64) : pc x ≤ 64 := fb_ct_le _ _
theorem pc_0 : pc 0 = 0 := fb_ct_zero.mpr fun k _ => bt_0 k

/-! ===== pure: both sides' floods are one ===== -/
/-- one step of the flood: what is reached, and all beside it, within the set -/
def FL (x r : Int64) (k : Nat) : Bool := bt x k && (bt r k || bt r (bs k 0) || bt r (bs k 1) || bt r (bs k 2) || bt r (bs k 3))
def Stq (x a b : Int64) : Prop := ∀ k, k < 64 → bt b k = FL x a k
theorem stp_fun {x a b c : Int64} (h1 : Stq x a b) (h2 : Stq x a c) : b = c := bt_ext fun k hk => (h1 k hk).trans (h2 k hk).symm
def Rch (x r : Int64) : Nat → Int64 → Prop
  | 0, a => a = r
  | n + 1, b => ∃ a, Rch x r n a ∧ Stq x a b
theorem rch_fun {x r : Int64} : ∀ {n : Nat} {a b : Int64}, Rch x r n a → Rch x r n b → a = b
  | 0, _, _, h1, h2 => h1.trans h2.symm
  | n + 1, _, _, ⟨a1, p1, q1⟩, ⟨a2, p2, q2⟩ => by
    have := rch_fun p1 p2
    subst this
    exact stp_fun q1 q2
theorem rch_fix {x r a : Int64} {m : Nat} (h : Rch x r m a) (hf : Stq x a a) : ∀ k, Rch x r (m + k) a
  | 0 => h
  | k + 1 => ⟨a, rch_fix h hf k, hf⟩
theorem FL_any (x r : Int64) (k : Nat) : FL x r k = true ↔ bt x k = true ∧ (bt r k = true ∨ ∃ w, w < 4 ∧ bt r (bs k w) = true) := by
  unfold FL
  simp only [Bool.and_eq_true, Bool.or_eq_true]
  constructor
  · rintro ⟨h1, (((h | h) | h) | h) | h⟩
    · exact ⟨h1, Or.inl h⟩
    · exact ⟨h1, Or.inr ⟨0, by decide, h⟩⟩
    · exact ⟨h1, Or.inr ⟨1, by decide, h⟩⟩
    · exact ⟨h1, Or.inr ⟨2, by decide, h⟩⟩
    · exact ⟨h1, Or.inr ⟨3, by decide, h⟩⟩
  · rintro ⟨h1, h | ⟨w, hw, h⟩⟩
    · exact ⟨h1, Or.inl (Or.inl (Or.inl (Or.inl h)))⟩
    · rcases (show w = 0 ∨ w = 1 ∨ w = 2 ∨ w = 3 by omega) with rfl | rfl | rfl | rfl
      · exact ⟨h1, Or.inl (Or.inl (Or.inl (Or.inr h)))⟩
      · exact ⟨h1, Or.inl (Or.inl (Or.inr h))⟩
      · exact ⟨h1, Or.inl (Or.inr h)⟩
      · exact ⟨h1, Or.inr h⟩
theorem b_iff {a b : Bool} (h : a = true ↔ b = true) : a = b := by
  cases a
  · cases b
    · rfl
    · exact (h.mpr rfl)
  · exact (h.mp rfl).symm
theorem low_bit {x : Int64} {k : Nat} (hk : bt x k = true) (hl : ∀ j, j < k → bt x j = false) : x &&& -x = lN (2 ^ k) := by
  have h64 := bt_lt hk
  apply bt_ext
  intro i hi
  rw [bt_and, bt_p2 h64]
  have en : bt (-x) i = (bt x i ^^ (decide (i < 64) && decide (∃ j, j < i ∧ x.toBitVec.getLsbD j = true))) := by
    show (-x).toBitVec.getLsbD i = _
    rw [Int64.toBitVec_neg, BitVec.getLsbD_neg]
    rfl
  rw [en, decide_eq_true hi, Bool.true_and]
  by_cases e : i = k
  · subst e
    have hno : ¬ ∃ j, j < i ∧ x.toBitVec.getLsbD j = true := by
      rintro ⟨j, hj, q⟩
      have := hl j hj
      have q2 : bt x j = true := q
      rw [this] at q2
      exact absurd q2 (by decide)
    rw [hk, decide_eq_false hno]
    simp
  · rw [decide_eq_false e]
    rcases Nat.lt_or_ge i k with q | q
    · rw [hl i q]; rfl
    · have hyes : ∃ j, j < i ∧ x.toBitVec.getLsbD j = true := ⟨k, by omega, hk⟩
      rw [decide_eq_true hyes]
      cases bt x i <;> rfl
theorem pc_one {k : Nat} (hk : k < 64) : 1 ≤ pc (lN (2 ^ k)) := fb_ct_pos.mpr ⟨k, hk, by rw [bt_p2 hk]; simp⟩
theorem stp_sb {x a b : Int64} (h : Stq x a b) : sb b x := by
  intro k hk
  have := h k (bt_lt hk)
  rw [hk] at this
  exact ((FL_any x a k).mp this.symm).1
theorem stp_grow {x a b : Int64} (ha : sb a x) (h : Stq x a b) : sb a b := by
  intro k hk
  rw [h k (bt_lt hk)]
  exact (FL_any x a k).mpr ⟨ha k hk, Or.inl hk⟩
/-- the flood of the reference -/
theorem s9_hangs (x : Int64) (hx : ¬ x = 0) (h24 : pc x ≤ 24) (Q : Int32 → Prop) (h : ∀ k a m, bt x k = true → (∀ j, j < k → bt x j = false) → m ≤ 24 → Rch x (lN (2 ^ k)) m a → Stq x a a → Q (if a = x then 1 else 0)) : w9_hangs x Q := by
  unfold w9_hangs
  refine s9_leastOf x hx _ (fun k0 hk0 hb0 hl0 => ?_)
  rw [one_sh hk0]
  rintro _ rfl
  unfold w9_hangs_b10
  refine lp_of (fun z : Int64 × Int32 => (∃ m, Rch x (lN (2 ^ k0)) m z.1 ∧ sb z.1 x ∧ m + 1 ≤ pc z.1 ∧ (z.2 = 0 → Stq x z.1 z.1))) (fun z => if z.2 = 0 then 0 else 65 - pc z.1) ?_ ?_
  rotate_left
  · refine ⟨0, rfl, fun k hk => ?_, pc_one hk0, fun c => absurd c (show ¬ (1 : Int32) = 0 by decide)⟩
    have hk2 : bt (lN (2 ^ k0)) k = true := hk
    rw [bt_p2 hk0] at hk2
    rw [of_decide_eq_true hk2]; exact hb0
  rintro K ⟨seen, goes⟩ ⟨m, hm, hsb, hpc, hfix⟩ hK
  try dsimp only at hm hsb hpc hfix hK
  have hm24 : m ≤ 24 := by
    have := pc_sb hsb
    omega
  unfold w9_hangs_F10 w9_hangs_d10 w9_hangs_b120
  try dsimp only
  refine ⟨fun cg => ⟨fun c => ?_, fun c => ?_⟩, fun cg => ?_⟩
  · rw [lg_cmp_eq] at c
    have := h k0 seen m hb0 hl0 hm24 hm (hfix cg)
    rw [if_neg c] at this
    exact ⟨rfl, this⟩
  · rw [lg_cmp_eq] at c
    have := h k0 seen m hb0 hl0 hm24 hm (hfix cg)
    rw [if_pos c] at this
    exact ⟨rfl, this⟩
  unfold w9_hangs_b21
  refine lp_up 64 (fun z => z.2) (fun k z => ∀ i, bt z.1 i = true ↔ bt seen i = true ∨ (bt x i = true ∧ ∃ j w, j < k ∧ w < 4 ∧ bt seen j = true ∧ bs j w = i)) (by decide) ?_ (Nat.zero_le _) (rfl : (0 : Int32) = nI 0) ?_
  rotate_left
  · intro i
    refine ⟨fun q => Or.inl q, fun q => ?_⟩
    rcases q with q | ⟨_, j, w, hj, _⟩
    · exact q
    · exact absurd hj (Nat.not_lt_zero j)
  rintro K1 ⟨more, y⟩ k hk hcc hI hK1
  try dsimp only at hcc hI hK1
  subst hcc
  unfold w9_hangs_F21 w9_hangs_d21 w9_hangs_b101
  try dsimp only
  refine ⟨fun c => ?_, fun c => ?_⟩
  · have e := nI_end (N := 64) (by decide) hk c
    subst e
    have hst : Stq x seen more := by
      intro i hi
      refine b_iff ?_
      rw [hI i, FL_any]
      constructor
      · rintro (q | ⟨q, j, w, hj, hw, hs, e⟩)
        · exact ⟨hsb i q, Or.inl q⟩
        · refine ⟨q, Or.inr ⟨(w + 2) % 4, by omega, ?_⟩⟩
          have := bs_back j hj w hw (by rw [e]; exact hi)
          rw [e] at this
          rw [this]; exact hs
      · rintro ⟨q, p | ⟨w, hw, p⟩⟩
        · exact Or.inl p
        · have hl := bt_lt p
          have := bs_back i hi w hw hl
          exact Or.inr ⟨q, bs i w, (w + 2) % 4, hl, by omega, p, this⟩
    refine ⟨fun cm => hK (_, _) ?_ ?_, fun cm => hK (_, _) ?_ ?_⟩
    · rw [lg_cmp_eq] at cm
      subst cm
      exact ⟨m, hm, hsb, hpc, fun _ => hst⟩
    · try dsimp only
      rw [if_pos rfl, if_neg cg]
      have := pc_le seen
      omega
    · rw [lg_cmp_eq] at cm
      have := pc_lt (stp_grow hsb hst) cm
      exact ⟨m + 1, ⟨seen, hm, hst⟩, stp_sb hst, by show m + 1 + 1 ≤ pc more; omega, fun c => absurd c (show ¬ (1 : Int32) = 0 by decide)⟩
    · rw [lg_cmp_eq] at cm
      have := pc_lt (stp_grow hsb hst) cm
      have := pc_le more
      try dsimp only
      rw [if_neg (by decide), if_neg cg]
      omega
  have hlt := nI_go (N := 64) (by decide) hk c
  unfold w9_hangs_b31
  refine lp_up 4 (fun z => z.2) (fun v z => ∀ i, bt z.1 i = true ↔ bt seen i = true ∨ (bt x i = true ∧ ∃ j w, (j < k ∨ (j = k ∧ w < v)) ∧ w < 4 ∧ bt seen j = true ∧ bs j w = i)) (by decide) ?_ (Nat.zero_le _) (rfl : (0 : Int32) = nI 0) ?_
  rotate_left
  · intro i
    show bt more i = true ↔ _
    rw [hI i]
    constructor
    · rintro (q | ⟨q, j, w, hj, r⟩)
      · exact Or.inl q
      · exact Or.inr ⟨q, j, w, Or.inl hj, r⟩
    · rintro (q | ⟨q, j, w, hj, r⟩)
      · exact Or.inl q
      · refine Or.inr ⟨q, j, w, ?_, r⟩
        rcases hj with hj | ⟨_, hj⟩
        · exact hj
        · exact absurd hj (Nat.not_lt_zero w)
  clear hI
  rintro K2 ⟨more2, y2⟩ v hv hcc hI2 hK2
  try dsimp only at hcc hI2 hK2
  subst hcc
  unfold w9_hangs_F31 w9_hangs_d31 w9_hangs_b83 w9_hangs_b74
  try dsimp only
  have hend : (v = 4 ∨ bt seen k = false) → ∀ y1 : Int32, y1 = nI k + 1 → K1 (more2, y1) := by
    rintro hv4 _ rfl
    refine hK1 (_, _) hlt (nI_1 k) (fun i => ?_)
    show bt more2 i = true ↔ _
    rw [hI2 i]
    constructor
    · rintro (q | ⟨q, j, w, hj, r⟩)
      · exact Or.inl q
      · exact Or.inr ⟨q, j, w, by omega, r⟩
    · rintro (q | ⟨q, j, w, hj, hw, hs, r⟩)
      · exact Or.inl q
      · refine Or.inr ⟨q, j, w, ?_, hw, hs, r⟩
        rcases Nat.lt_or_ge j k with p | p
        · exact Or.inl p
        · have ej : j = k := by omega
          rcases hv4 with p2 | p2
          · exact Or.inr ⟨ej, by omega⟩
          · rw [ej, p2] at hs; exact absurd hs (by decide)
  refine ⟨fun c2 => hend (Or.inl (nI_end (N := 4) (by decide) hv c2)), fun c2 => s9_has _ _ _ (fun hb => ⟨fun c => absurd c (by decide), fun _ => ?_⟩) (fun hb => ⟨fun _ => hend (Or.inr ?_), fun c => absurd rfl c⟩)⟩
  rotate_left
  · cases q : bt seen k
    · rfl
    · exact absurd ((hasB_iff seen hlt).mpr q) hb
  have hbk := (hasB_iff seen hlt).mp hb
  have hvlt := nI_go (N := 4) (by decide) hv c2
  refine s9_besideN hlt hvlt _ (s9_has _ _ _ (fun hb2 => ⟨fun c => absurd c (by decide), fun _ => ?_⟩) (fun hb2 => ⟨fun _ => ?_, fun c => absurd rfl c⟩))
  · rw [hasB_sq] at hb2
    have h64 := bt_lt hb2
    rw [sqI_lt h64, one_sh h64]
    rintro _ rfl _ rfl
    refine hK2 (_, _) hvlt (nI_1 v) (fun i => ?_)
    show bt (more2 ||| lN (2 ^ bs k v)) i = true ↔ _
    rw [bt_or, bt_p2 h64, Bool.or_eq_true, hI2 i, decide_eq_true_iff]
    constructor
    · rintro ((q | ⟨q, j, w, hj, r⟩) | q)
      · exact Or.inl q
      · exact Or.inr ⟨q, j, w, by omega, r⟩
      · refine Or.inr ⟨by rw [q]; exact hb2, k, v, Or.inr ⟨rfl, by omega⟩, hvlt, hbk, q.symm⟩
    · rintro (q | ⟨q, j, w, hj, hw, hs, r⟩)
      · exact Or.inl (Or.inl q)
      · by_cases p : j < k ∨ (j = k ∧ w < v)
        · exact Or.inl (Or.inr ⟨q, j, w, p, hw, hs, r⟩)
        · right
          have e1 : j = k := by omega
          have e2 : w = v := by omega
          rw [← r, e1, e2]
  · rw [hasB_sq] at hb2
    rintro _ rfl _ rfl
    refine hK2 (_, _) hvlt (nI_1 v) (fun i => ?_)
    show bt (more2 ||| 0) i = true ↔ _
    rw [or_z, hI2 i]
    constructor
    · rintro (q | ⟨q, j, w, hj, r⟩)
      · exact Or.inl q
      · exact Or.inr ⟨q, j, w, by omega, r⟩
    · rintro (q | ⟨q, j, w, hj, hw, hs, r⟩)
      · exact Or.inl q
      · by_cases p : j < k ∨ (j = k ∧ w < v)
        · exact Or.inr ⟨q, j, w, p, hw, hs, r⟩
        · exfalso
          have e1 : j = k := by omega
          have e2 : w = v := by omega
          rw [e1, e2] at r
          rw [r] at hb2
          exact hb2 q
theorem bt_shl (x : Int64) {s k : Nat} (hs : s < 64) (hk : k < 64) : bt (x <<< ((nI s).toInt64 &&& 63)) k = (decide (s ≤ k) && bt x (k - s)) := by
  obtain ⟨n, hn, rfl⟩ := wb_of x
  rw [wb_shl n hs, bt_lN hn]
  have e : bt (lN (n * 2 ^ s)) k = (n * 2 ^ s).testBit k := by
    rw [wb_mod, bt_lN (Nat.mod_lt _ (by decide)), Nat.testBit_mod_two_pow, decide_eq_true hk, Bool.true_and]
  rw [e, ← Nat.shiftLeft_eq, Nat.testBit_shiftLeft]
theorem bt_mask : ∀ k, k < 64 → bt (-72340172838076674) k = decide (0 < k % 8) := by decide +kernel
theorem bs_is : ∀ k, k < 64 → bs k 0 = (if k % 8 < 7 then k + 1 else 64) ∧ bs k 1 = (if k / 8 < 7 then k + 8 else 64) ∧ bs k 2 = (if 0 < k % 8 then k - 1 else 64) ∧ bs k 3 = (if 0 < k / 8 then k - 8 else 64) := by
  intro k hk
  unfold bs
  have h : ¬ 64 ≤ k := by omega
  simp only [if_neg h]
  exact ⟨rfl, rfl, rfl, rfl⟩
theorem i_0' {n : Nat} (h : n < 2 ^ 31) : nI n = 0 ↔ n = 0 := nI_eq (b := 0) h (by decide)
/-- all squares moved one step -/
theorem s0_moved (r : Int64) {w : Nat} (hw : w < 4) (Q : Int64 → Prop) (h : ∀ m : Int64, (∀ k, k < 64 → bt m k = bt r (bs k ((w + 2) % 4))) → Q m) : w0_moved r (nI w) Q := by
  have b64 : bt r 64 = false := bt_ge r (Nat.le_refl _)
  unfold w0_moved
  refine ⟨fun c => ?_, fun c => ?_, fun c => ?_, fun c0 c1 c2 => ?_⟩
  · have e : w = 0 := (i_0' (by omega)).mp c
    subst e
    refine h _ (fun k hk => ?_)
    have := (bs_is k hk).2.2.1
    show _ = bt r (bs k 2)
    rw [this, bt_and, bt_mask k hk, show (1 : Int32) = nI 1 from rfl, bt_shl r (by decide) hk]
    by_cases q : 0 < k % 8
    · rw [if_pos q, decide_eq_true q, decide_eq_true (show 1 ≤ k by omega), Bool.true_and, Bool.and_true]
    · rw [if_neg q, decide_eq_false q, Bool.and_false, b64]
  · have e : w = 1 := (nI_eq (a := w) (b := 1) (by omega) (by decide)).mp c
    subst e
    refine h _ (fun k hk => ?_)
    have := (bs_is k hk).2.2.2
    show _ = bt r (bs k 3)
    rw [this, show (8 : Int32) = nI 8 from rfl, bt_shl r (by decide) hk]
    by_cases q : 0 < k / 8
    · rw [if_pos q, decide_eq_true (show 8 ≤ k by omega), Bool.true_and]
    · rw [if_neg q, decide_eq_false (show ¬ 8 ≤ k by omega), Bool.false_and, b64]
  · have e : w = 2 := (nI_eq (a := w) (b := 2) (by omega) (by decide)).mp c
    subst e
    refine h _ (fun k hk => ?_)
    have := (bs_is k hk).1
    show _ = bt r (bs k 0)
    rw [this, show (1 : Int32) = nI 1 from rfl, bt_shr (n := 1) (by decide) (sh_amt (by decide)), bt_and]
    rw [Nat.add_comm 1 k]
    by_cases q : k % 8 < 7
    · rw [if_pos q, bt_mask (k + 1) (by omega), decide_eq_true (show 0 < (k + 1) % 8 by omega), Bool.and_true]
    · rw [if_neg q, b64]
      rcases Nat.lt_or_ge (k + 1) 64 with p | p
      · rw [bt_mask (k + 1) p, decide_eq_false (show ¬ 0 < (k + 1) % 8 by omega), Bool.and_false]
      · rw [bt_ge r p, Bool.false_and]
  · have e : w = 3 := by
      have a0 : ¬ w = 0 := fun q => c0 (by rw [q]; rfl)
      have a1 : ¬ w = 1 := fun q => c1 (by rw [q]; rfl)
      have a2 : ¬ w = 2 := fun q => c2 (by rw [q]; rfl)
      omega
    subst e
    refine h _ (fun k hk => ?_)
    have := (bs_is k hk).2.1
    show _ = bt r (bs k 1)
    rw [this, show (8 : Int32) = nI 8 from rfl, bt_shr (n := 8) (by decide) (sh_amt (by decide)), Nat.add_comm 8 k]
    by_cases q : k / 8 < 7
    · rw [if_pos q]
    · rw [if_neg q, b64, bt_ge r (by omega)]
theorem s0_hangs (x : Int64) {k0 : Nat} (hb : bt x k0 = true) (hl : ∀ j, j < k0 → bt x j = false) (Q : Int32 → Prop) (h : ∀ a, Rch x (lN (2 ^ k0)) 24 a → Q (if a = x then 1 else 0)) : w0_hangsTogether x Q := by
  unfold w0_hangsTogether
  rw [low_bit hb hl]
  rintro _ rfl
  unfold w0_hangsTogether_b8
  refine lp_up 24 (fun z => z.2) (fun k z => Rch x (lN (2 ^ k0)) k z.1) (by decide) ?_ (Nat.zero_le _) (rfl : (0 : Int32) = nI 0) (by exact rfl)
  rintro K ⟨a, y⟩ k hk hcc hI hK
  try dsimp only at hcc hI hK
  subst hcc
  unfold w0_hangsTogether_F8 w0_hangsTogether_d8 w0_hangsTogether_b66
  try dsimp only
  refine ⟨fun c => ?_, fun c => ?_⟩
  · have e := nI_end (N := 24) (by decide) hk c
    subst e
    have good := h a hI
    rw [lg_cmp_eq]
    refine ⟨fun q => ?_, fun q => ?_⟩
    · rw [if_neg q] at good; exact ⟨rfl, good⟩
    · rw [if_pos q] at good; exact ⟨rfl, good⟩
  have hlt := nI_go (N := 24) (by decide) hk c
  unfold w0_hangsTogether_b21
  refine lp_up 4 (fun z => z.2) (fun v z => ∀ i, i < 64 → (bt z.1 i = true ↔ bt a i = true ∨ ∃ w, w < v ∧ bt a (bs i ((w + 2) % 4)) = true)) (by decide) ?_ (Nat.zero_le _) (rfl : (0 : Int32) = nI 0) ?_
  rotate_left
  · intro i _
    refine ⟨fun q => Or.inl q, fun q => ?_⟩
    rcases q with q | ⟨w, hw, _⟩
    · exact q
    · exact absurd hw (Nat.not_lt_zero w)
  rintro K2 ⟨wd, y⟩ v hv hcc hI2 hK2
  try dsimp only at hcc hI2 hK2
  subst hcc
  unfold w0_hangsTogether_F21 w0_hangsTogether_d21
  try dsimp only
  refine ⟨fun c2 => ?_, fun c2 => ?_⟩
  · have e := nI_end (N := 4) (by decide) hv c2
    subst e
    rintro _ rfl _ rfl
    refine hK (_, _) hlt (nI_1 k) ⟨a, hI, fun i hi => b_iff ?_⟩
    show bt (wd &&& x) i = true ↔ _
    rw [bt_and, Bool.and_eq_true, hI2 i hi, FL_any]
    constructor
    · rintro ⟨q | ⟨w, hw, q⟩, p⟩
      · exact ⟨p, Or.inl q⟩
      · exact ⟨p, Or.inr ⟨(w + 2) % 4, by omega, q⟩⟩
    · rintro ⟨p, q | ⟨w, hw, q⟩⟩
      · exact ⟨Or.inl q, p⟩
      · refine ⟨Or.inr ⟨(w + 2) % 4, by omega, ?_⟩, p⟩
        rw [show ((w + 2) % 4 + 2) % 4 = w by omega]; exact q
  · have hvlt := nI_go (N := 4) (by decide) hv c2
    refine s0_moved a hvlt _ (fun m hm => ?_)
    rintro _ rfl _ rfl
    refine hK2 (_, _) hvlt (nI_1 v) (fun i hi => ?_)
    show bt (wd ||| m) i = true ↔ _
    rw [bt_or, Bool.or_eq_true, hI2 i hi, hm i hi]
    constructor
    · rintro ((q | ⟨w, hw, q⟩) | q)
      · exact Or.inl q
      · exact Or.inr ⟨w, by omega, q⟩
      · exact Or.inr ⟨v, by omega, q⟩
    · rintro (q | ⟨w, hw, q⟩)
      · exact Or.inl (Or.inl q)
      · by_cases e : w = v
        · rw [e] at q; exact Or.inr q
        · exact Or.inl (Or.inr ⟨w, by omega, q⟩)
/-- both sides say alike whether a set hangs together -/
theorem e_hangs (x : Int64) (hx : ¬ x = 0) (h24 : pc x ≤ 24) (Q : Int32 → Prop) (h : ∀ v, (∀ R : Int32 → Prop, R v → w9_hangs x R) → Q v) : w0_hangsTogether x Q := by
  obtain ⟨k0, hb, hl⟩ : ∃ k, bt x k = true ∧ ∀ j, j < k → bt x j = false := by
    obtain ⟨m, _, hm⟩ := bt_some hx
    obtain ⟨k, hk1, hk2⟩ := pk_least (fun k => bt x k = true) ⟨m, hm⟩
    refine ⟨k, hk1, fun j hj => ?_⟩
    cases e : bt x j
    · rfl
    · exact absurd e (hk2 j hj)
  refine s0_hangs x hb hl _ (fun a ha => h _ (fun R hR => s9_hangs x hx h24 _ (fun k a' m hb' hl' hm hRc hf => ?_)))
  have ek : k = k0 := by
    rcases Nat.lt_trichotomy k k0 with q | q | q
    · rw [hl k q] at hb'; exact absurd hb' (by decide)
    · exact q
    · rw [hl' k0 q] at hb; exact absurd hb (by decide)
  subst ek
  have h2 := rch_fix hRc hf (24 - m)
  rw [show m + (24 - m) = 24 by omega] at h2
  have ea := rch_fun ha h2
  rw [← ea]
  exact hR

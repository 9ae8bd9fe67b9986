/-! ===== pure: loops that count up; bits, leastOf, hangs of the reference ===== -/
theorem lp_up {α : Type} {F : (α → Prop) → α → Prop} (N : Nat) (c : α → Int32) (I : Nat → α → Prop) (hN : N < 2 ^ 31) (hs : ∀ (K : α → Prop) (a : α) (k : Nat), k ≤ N → c a = nI k → I k a → (∀ b, k < N → c b = nI (k + 1) → I (k + 1) b → K b) → F K a) {a : α} {k0 : Nat} (hk : k0 ≤ N) (hc : c a = nI k0) (h : I k0 a) : lp F a := by
  refine lp_of (fun a => ∃ k, k ≤ N ∧ c a = nI k ∧ I k a) (fun a => N - (c a).toNatClampNeg) ?_ ⟨k0, hk, hc, h⟩
  rintro K a ⟨k, h1, h2, h3⟩ hK
  refine hs K a k h1 h2 h3 (fun b hlt hb hI => hK b ⟨k + 1, hlt, hb, hI⟩ ?_)
  rw [h2, hb, nI_clamp (by omega), nI_clamp (by omega)]
  omega
theorem nI_end {N k : Nat} (hN : N < 2 ^ 31) (hk : k ≤ N) (h : nI N ≤ nI k) : k = N := by
  have := (nI_leI hN (by omega : k < 2 ^ 31)).mp h
  omega
theorem nI_go {N k : Nat} (hN : N < 2 ^ 31) (hk : k ≤ N) (h : ¬ nI N ≤ nI k) : k < N := by
  rcases Nat.lt_or_ge k N with q | q
  · exact q
  · exact absurd (nI_le q (by omega)) h
theorem s9_bits (x : Int64) (Q : Int32 → Prop) (h : Q (nI (pc x))) : w9_bits x Q := by
  unfold w9_bits w9_bits_b4
  refine lp_up 64 (fun z => z.2) (fun k z => z.1 = nI (fb_ct (bt x) k)) (by decide) ?_ (Nat.zero_le _) (rfl : (0 : Int32) = nI 0) rfl
  rintro K ⟨n, y⟩ k hk hc hI hK
  try dsimp only at hc hI hK
  subst hc hI
  unfold w9_bits_F4 w9_bits_d4
  refine ⟨fun c => ?_, fun c => ?_⟩
  · have e := nI_end (N := 64) (by decide) hk c
    subst e
    exact h
  · have hlt := nI_go (N := 64) (by decide) hk c
    rintro _ rfl _ rfl
    refine hK (_, _) hlt (nI_1 k) ?_
    try dsimp only
    rw [bt_bit x hlt, fb_ct_succ]
    by_cases q : bt x k = true
    · rw [if_pos q, if_pos q]
      exact nI_1 _
    · rw [if_neg q, if_neg q]
      exact Int32.add_zero _
theorem s9_leastOf (x : Int64) (hx : ¬ x = 0) (Q : Int32 → Prop) (h : ∀ k, k < 64 → bt x k = true → (∀ j, j < k → bt x j = false) → Q (nI k)) : w9_leastOf x Q := by
  obtain ⟨m, hm, hb⟩ := bt_some hx
  unfold w9_leastOf w9_leastOf_b2
  refine lp_up 64 (fun z => z) (fun k _ => ∀ j, j < k → bt x j = false) (by decide) ?_ (Nat.zero_le _) (rfl : (0 : Int32) = nI 0) (fun j hj => absurd hj (Nat.not_lt_zero j))
  rintro K y k hk hc hI hK
  try dsimp only at hc hI hK
  subst hc
  have hlt : k < 64 := by
    rcases Nat.lt_or_ge m k with q | q
    · rw [hI m q] at hb; exact absurd hb (by decide)
    · omega
  unfold w9_leastOf_F2 w9_leastOf_d2
  refine s9_has _ _ _ (fun hb => ⟨fun _ => h k hlt ((hasB_iff x hlt).mp hb) hI, fun c => absurd c (by decide)⟩) (fun hb => ⟨fun c => absurd rfl c, fun _ => ?_⟩)
  rintro _ rfl
  refine hK _ hlt (nI_1 k) (fun j hj => ?_)
  rcases Nat.lt_or_ge j k with q | q
  · exact hI j q
  · have e : j = k := by omega
    subst e
    cases q : bt x j
    · rfl
    · exact absurd ((hasB_iff x hlt).mpr q) hb
/-- one set within another -/
def sb (x y : Int64) : Prop := ∀ k, bt x k = true → bt y k = true
theorem sb_rf (x : Int64) : sb x x := fun _ h => h
theorem sb_or {x y z : Int64} (h : sb x y) : sb x (y ||| z) := fun k hk => by rw [bt_or, h k hk]; rfl
theorem pc_sb {x y : Int64} (h : sb x y) : pc x ≤ pc y := fb_ct_sub fun k _ hk => h k hk
theorem pc_lt {x y : Int64} (h : sb x y) (hn : ¬ y = x) : pc x < pc y := by
  have : ∃ k, k < 64 ∧ bt y k = true ∧ bt x k = false := by
    refine Classical.byContradiction fun q => hn (bt_ext fun k hk => ?_)
    cases e : bt x k
    · cases e2 : bt y k
      · rfl
      · exact absurd ⟨k, hk, e2, e⟩ q
    · exact h k e
  obtain ⟨i, hi, h1, h2⟩ := this
  have h3 := fb_ct_upd (bt x) true hi
  have h4 : fb_ct (fun k => if k = i then true else bt x k) 64 ≤ fb_ct (bt y) 64 := by
    refine fb_ct_sub fun k _ hk => ?_
    by_cases e : k = i
    · rw [e]; exact h1
    · rw [if_neg e] at hk; exact h k hk
  rw [h2, if_pos (rfl : true = true), if_neg (by decide : ¬ false = true)] at h3
  unfold pc
  omega
theorem t9_hangs (x : Int64) (hx : ¬ x = 0) (Q : Int32 → Prop) (h : ∀ r, (r = 0 ∨ r = 1) → Q r) : w9_hangs x Q := by
  unfold w9_hangs
  refine s9_leastOf x hx _ (fun k0 _ _ _ => ?_)
  rintro y2 -
  unfold w9_hangs_b10
  refine lp_of (fun _ : Int64 × Int32 => True) (fun z => if z.2 = 0 then 0 else 65 - pc z.1) ?_ trivial
  rintro K ⟨seen, goes⟩ - hK
  unfold w9_hangs_F10 w9_hangs_d10 w9_hangs_b120
  try dsimp only
  refine ⟨fun _ => ⟨fun _ => ⟨rfl, h _ (Or.inl rfl)⟩, fun _ => ⟨rfl, h _ (Or.inr rfl)⟩⟩, fun cg => ?_⟩
  unfold w9_hangs_b21
  refine lp_up 64 (fun z => z.2) (fun k z => sb seen z.1) (by decide) ?_ (Nat.zero_le _) (rfl : (0 : Int32) = nI 0) (sb_rf seen)
  rintro K1 ⟨more, y⟩ k hk hc hI hK1
  try dsimp only at hc hI hK1
  subst hc
  unfold w9_hangs_F21 w9_hangs_d21 w9_hangs_b101
  try dsimp only
  refine ⟨fun _ => ⟨fun _ => hK (_, _) trivial ?_, fun cm => hK (_, _) trivial ?_⟩, fun c => ?_⟩
  · dsimp only
    rw [if_pos rfl, if_neg cg]
    have := pc_le seen
    omega
  · rw [lg_cmp_eq] at cm
    have := pc_lt hI cm
    have := pc_le more
    try dsimp only
    rw [if_neg (by decide), if_neg cg]
    omega
  · have hlt := nI_go (N := 64) (by decide) hk c
    unfold w9_hangs_b31
    refine lp_up 4 (fun z => z.2) (fun k z => sb seen z.1) (by decide) ?_ (Nat.zero_le _) (rfl : (0 : Int32) = nI 0) hI
    rintro K2 ⟨more2, y2⟩ k2 hk2 hc hI2 hK2
    try dsimp only at hc hI2 hK2
    subst hc
    unfold w9_hangs_F31 w9_hangs_d31 w9_hangs_b83 w9_hangs_b74
    try dsimp only
    have hend : ∀ y1 : Int32, y1 = nI k + 1 → K1 (more2, y1) := by
      rintro _ rfl
      exact hK1 (_, _) hlt (nI_1 k) hI2
    refine ⟨fun _ => hend, fun c2 => s9_has _ _ _ (fun _ => ⟨fun c => absurd c (by decide), fun _ => t9_beside _ _ _ (fun r _ => s9_has _ _ _ (fun _ => ⟨fun c => absurd c (by decide), fun _ => ?_⟩) (fun _ => ⟨fun _ => ?_, fun c => absurd rfl c⟩))⟩) (fun _ => ⟨fun _ => hend, fun c => absurd rfl c⟩)⟩
    · rintro _ rfl _ rfl
      exact hK2 (_, _) (nI_go (N := 4) (by decide) hk2 c2) (nI_1 k2) (sb_or hI2)
    · rintro _ rfl _ rfl
      exact hK2 (_, _) (nI_go (N := 4) (by decide) hk2 c2) (nI_1 k2) (sb_or hI2)

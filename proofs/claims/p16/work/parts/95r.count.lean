/-! ===== pure: count on both sides ===== -/
def sa (a : Int32) (f : Nat → Int32) : Nat → Int32
  | 0 => a
  | k + 1 => sa a f k + f k
theorem sa_0 {a : Int32} {f : Nat → Int32} : ∀ {n : Nat}, (∀ k, k < n → f k = 0) → sa a f n = a
  | 0, _ => rfl
  | n + 1, h => by
    show sa a f n + f n = a
    rw [sa_0 (fun k hk => h k (by omega)), h n (by omega)]
    exact Int32.add_zero _
theorem sa_eq {a : Int32} {f g : Nat → Int32} : ∀ {n : Nat}, (∀ k, k < n → f k = g k) → sa a f n = sa a g n
  | 0, _ => rfl
  | n + 1, h => by
    show sa a f n + f n = sa a g n + g n
    rw [sa_eq (fun k hk => h k (by omega)), h n (by omega)]
def cF (x : Int32) (S : MS) (f : Nat) : Int32 := if x = 0 then (if aJ S 3 f = 0 then 0 else 1) else if x = 1 then nI (pc (aJ S 3 f)) else 0
def cB (x : Int32) (S : MS) (b : Nat) : Int32 := if dm S b 0 = 0 then 0 else if x = 2 then 1 else if x = 3 then cls9 S b else 0
def cR (x : Int32) (S : MS) (r : Nat) : Int32 := if x = 4 then (if (aI S 40 r).toInt < 0 then 0 else 1) else 0
theorem s9_countN (x : Int32) (S : MS) (Q : Int32 → Prop) (hb : ¬ (0 ≤ x.toInt ∧ x.toInt ≤ 4) → Q (-1)) (hk : (0 ≤ x.toInt ∧ x.toInt ≤ 4) → Q (sa (sa (sa 0 (cF x S) 6) (cB x S) 4) (cR x S) 4)) : w9_count x S Q := by
  have e0 : (0 : Int32).toInt = 0 := rfl
  have e4 : (4 : Int32).toInt = 4 := rfl
  unfold w9_count w9_count_b4
  refine lp_up 6 (fun z => z.2) (fun k z => z.1 = sa 0 (cF x S) k) (by decide) ?_ (Nat.zero_le _) (rfl : (0 : Int32) = nI 0) (by exact rfl)
  rintro K ⟨a, y⟩ k hk6 hcc ha hK
  try dsimp only at hcc ha hK
  subst hcc
  unfold w9_count_F4 w9_count_d4
  try dsimp only
  refine ⟨fun c => ?_, fun c => ?_⟩
  rotate_left
  · have hlt := nI_go (N := 6) (by decide) hk6 c
    have hv := vp_in_nI hlt (by decide)
    have k48 : ∀ b, b = cF x S k → w9_count_b48 (fun y0 y1 => K (y0, y1)) x (nI k) a b S Q := by
      rintro b eb
      unfold w9_count_b48
      rintro _ rfl _ rfl
      refine hK (_, _) hlt (nI_1 k) ?_
      show a + b = sa 0 (cF x S) k + cF x S k
      rw [ha, eb]
    have k30 : (x = 0 → aJ S 3 k = 0) → w9_count_b30 (fun y0 y1 => K (y0, y1)) x (nI k) a S Q := by
      intro hx0
      unfold w9_count_b30
      rw [rL_n S hlt]
      refine ⟨fun c1 => k48 _ ?_, fun c1 => ⟨hv, s9_bits _ _ (k48 _ ?_)⟩⟩
      · unfold cF
        by_cases q : x = 0
        · rw [if_pos q, if_pos (hx0 q)]
        · rw [if_neg q, if_neg c1]
      · unfold cF
        rw [if_neg (by rw [c1]; decide), if_pos c1]
    rw [rL_n S hlt, lg_cmp_eq]
    refine ⟨fun c1 => k30 (fun q => absurd q c1), fun c1 => ⟨hv, fun c2 => k30 (fun _ => c2), fun c2 => k48 _ ?_⟩⟩
    unfold cF
    rw [if_pos c1, if_neg c2]
  have e6 := nI_end (N := 6) (by decide) hk6 c
  subst e6
  clear hK c hk6
  unfold w9_count_b58
  refine lp_up 4 (fun z => z.2) (fun k z => z.1 = sa a (cB x S) k) (by decide) ?_ (Nat.zero_le _) (rfl : (0 : Int32) = nI 0) (by exact rfl)
  rintro K ⟨a2, y⟩ k hk4 hcc ha2 hK
  try dsimp only at hcc ha2 hK
  subst hcc
  unfold w9_count_F58 w9_count_d58
  try dsimp only
  refine ⟨fun c => ?_, fun c => ?_⟩
  rotate_left
  · have hlt := nI_go (N := 4) (by decide) hk4 c
    have k102 : ∀ b, b = cB x S k → w9_count_b102 (fun y0 y1 => K (y0, y1)) x (nI k) a2 b S Q := by
      rintro b eb
      unfold w9_count_b102
      rintro _ rfl _ rfl
      refine hK (_, _) hlt (nI_1 k) ?_
      show a2 + b = sa a (cB x S) k + cB x S k
      rw [ha2, eb]
    rw [(ix3z hlt).1, show rA S 7 (nI (3 * k)) = dm S k 0 from rd_dm hlt S 0 (by decide)]
    refine ⟨(ix3z hlt).2, fun cz => ⟨fun c2 => ⟨fun c3 => k102 _ ?_, fun c3 => s9_cells hlt _ _ (k102 _ ?_)⟩, fun c2 => k102 _ ?_⟩, fun cz => k102 _ ?_⟩
    · unfold cB; rw [if_neg cz, if_neg c2, if_neg c3]
    · unfold cB; rw [if_neg cz, if_neg c2, if_pos c3]
    · unfold cB; rw [if_neg cz, if_pos c2]
    · unfold cB; rw [if_pos cz]
  have e44 := nI_end (N := 4) (by decide) hk4 c
  subst e44
  clear hK c hk4
  unfold w9_count_b112
  refine lp_up 4 (fun z => z.2) (fun k z => z.1 = sa a2 (cR x S) k) (by decide) ?_ (Nat.zero_le _) (rfl : (0 : Int32) = nI 0) (by exact rfl)
  rintro K ⟨a3, y⟩ k hk4 hcc ha3 hK
  try dsimp only at hcc ha3 hK
  subst hcc
  unfold w9_count_F112 w9_count_d112 w9_count_b159 w9_count_b136
  try dsimp only
  refine ⟨fun c => ?_, fun c => ?_⟩
  · have e44 := nI_end (N := 4) (by decide) hk4 c
    subst e44
    refine s9_in _ _ _ _ (fun hr => ⟨fun c => absurd c (by decide), fun _ => ?_⟩) (fun hr => ⟨fun _ => hb (by omega), fun c => absurd rfl c⟩)
    have := hk (by omega)
    rw [← ha, ← ha2, ← ha3] at this
    exact this
  have hlt := nI_go (N := 4) (by decide) hk4 c
  have k137 : ∀ b, b = cR x S k → w9_count_b137 (fun y0 y1 => K (y0, y1)) x (nI k) a3 b S Q := by
    rintro b eb
    unfold w9_count_b137
    rintro _ rfl _ rfl
    refine hK (_, _) hlt (nI_1 k) ?_
    show a3 + b = sa a2 (cR x S) k + cR x S k
    rw [ha3, eb]
  rw [rA_n _ _ (by omega), pi_lt, e0]
  refine ⟨fun c4 => k137 _ ?_, fun c4 => ⟨vp_in_nI hlt (by decide), fun c5 => k137 _ ?_, fun c5 => k137 _ ?_⟩⟩
  · unfold cR; rw [if_neg c4]
  · unfold cR; rw [if_pos c4, if_pos c5]
  · unfold cR; rw [if_pos c4, if_neg c5]
theorem e_count (x : Int32) (Z : MS) (X : Nat → MS) (S : MS) (hA : All X S) (P : Int32 → Int32 → Prop) (h : ∀ v, P v v) : w8_count x Z X (fun r1 => w9_count x S (fun r4 => P r1 r4)) := by
  have e0 : (0 : Int32).toInt = 0 := rfl
  have hin : ∀ {n : Int32} {v : Int32}, (0 ≤ n.toInt ∧ n.toInt ≤ 4) → x = n → v = sa (sa (sa 0 (cF n S) 6) (cB n S) 4) (cR n S) 4 → w9_count x S (fun r4 => P v r4) := by
    rintro n v hn rfl ev
    refine s9_countN x S _ (fun c => absurd hn c) (fun _ => ?_)
    rw [ev]; exact h _
  have zF : ∀ {n : Int32}, ¬ n = 0 → ¬ n = 1 → ∀ a, sa a (cF n S) 6 = a := fun h0 h1 a => sa_0 (fun k _ => by unfold cF; rw [if_neg h0, if_neg h1])
  have zB : ∀ {n : Int32}, ¬ n = 2 → ¬ n = 3 → ∀ a, sa a (cB n S) 4 = a := fun h0 h1 a => sa_0 (fun k _ => by
    unfold cB
    by_cases q : dm S k 0 = 0
    · rw [if_pos q]
    · rw [if_neg q, if_neg h0, if_neg h1])
  have zR : ∀ {n : Int32}, ¬ n = 4 → ∀ a, sa a (cR n S) 4 = a := fun h0 a => sa_0 (fun k _ => by unfold cR; rw [if_neg h0])
  unfold w8_count
  refine ⟨fun c => ?_, fun c => ?_, fun c => ?_, fun c => ?_, fun c => ?_, fun c0 c1 c2 c3 c4 => ?_⟩
  · unfold w8_figuresThere w8_figuresThere_b4
    refine lp_up 6 (fun z => z.2) (fun k z => z.1 = sa 0 (cF 0 S) k) (by decide) ?_ (Nat.zero_le _) (rfl : (0 : Int32) = nI 0) (by exact rfl)
    rintro K ⟨a, y⟩ k hk hcc ha hK
    try dsimp only at hcc ha hK
    subst hcc
    unfold w8_figuresThere_F4 w8_figuresThere_d4 w8_figuresThere_b28
    try dsimp only
    refine ⟨fun ce => hin (n := 0) (by decide) c ?_, fun ce => ?_⟩
    · have e := nI_end (N := 6) (by decide) hk ce
      subst e
      rw [zB (by decide) (by decide), zR (by decide)]; exact ha
    have hlt := nI_go (N := 6) (by decide) hk ce
    rw [nI_clamp (by omega)]
    have hth := ff_there hA hlt
    refine ⟨vp_in_nI hlt (by decide), ⟨by omega, hlt⟩, s2_isThere _ _ (fun hi => ⟨fun c => absurd c (by decide), fun _ => ?_⟩) (fun hi => ⟨fun _ => ?_, fun c => absurd rfl c⟩)⟩
    · rintro _ rfl _ rfl
      refine hK (_, _) hlt (nI_1 k) ?_
      show a + 1 = sa 0 (cF 0 S) k + cF 0 S k
      rw [ha, show cF 0 S k = 1 from (if_pos rfl).trans (if_neg (fun q => hi (hth.mpr q)))]
    · rintro _ rfl _ rfl
      refine hK (_, _) hlt (nI_1 k) ?_
      show a + 0 = sa 0 (cF 0 S) k + cF 0 S k
      rw [ha, show cF 0 S k = 0 from (if_pos rfl).trans (if_pos (hth.mp hi))]
  · unfold w8_squaresInAll w8_squaresInAll_b4
    refine lp_up 6 (fun z => z.2) (fun k z => z.1 = sa 0 (cF 1 S) k) (by decide) ?_ (Nat.zero_le _) (rfl : (0 : Int32) = nI 0) (by exact rfl)
    rintro K ⟨a, y⟩ k hk hcc ha hK
    try dsimp only at hcc ha hK
    subst hcc
    unfold w8_squaresInAll_F4 w8_squaresInAll_d4
    try dsimp only
    refine ⟨fun ce => hin (n := 1) (by decide) c ?_, fun ce => ?_⟩
    · have e := nI_end (N := 6) (by decide) hk ce
      subst e
      rw [zB (by decide) (by decide), zR (by decide)]; exact ha
    have hlt := nI_go (N := 6) (by decide) hk ce
    rw [nI_clamp (by omega)]
    refine ⟨vp_in_nI hlt (by decide), ⟨by omega, hlt⟩, s13_bitCount _ _ ?_⟩
    rintro _ rfl _ rfl
    refine hK (_, _) hlt (nI_1 k) ?_
    show a + nI (pc (fJ (X k) 1)) = sa 0 (cF 1 S) k + cF 1 S k
    rw [ha, sim_pc (hA.2.2.2.2.2.2 k hlt).1]
    rfl
  · unfold w8_boxesThere w8_boxesThere_b4
    refine lp_up 4 (fun z => z.2) (fun k z => z.1 = sa 0 (cB 2 S) k) (by decide) ?_ (Nat.zero_le _) (rfl : (0 : Int32) = nI 0) (by exact rfl)
    rintro K ⟨a, y⟩ k hk hcc ha hK
    try dsimp only at hcc ha hK
    subst hcc
    unfold w8_boxesThere_F4 w8_boxesThere_d4 w8_boxesThere_b27
    try dsimp only
    refine ⟨fun ce => hin (n := 2) (by decide) c ?_, fun ce => ?_⟩
    · have e := nI_end (N := 4) (by decide) hk ce
      subst e
      rw [zF (by decide) (by decide), zR (by decide)]; exact ha
    have hlt := nI_go (N := 4) (by decide) hk ce
    rw [nI_clamp (by omega)]
    have hB := hA.2.2.2.1 k hlt
    refine ⟨vp_in_nI hlt (by decide), ⟨by omega, by omega⟩, s1_isThere _ _ (fun hi => ⟨fun c => absurd c (by decide), fun _ => ?_⟩) (fun hi => ⟨fun _ => ?_, fun c => absurd rfl c⟩)⟩
    · rintro _ rfl _ rfl
      refine hK (_, _) hlt (nI_1 k) ?_
      show a + 1 = sa 0 (cB 2 S) k + cB 2 S k
      have hd : ¬ dm S k 0 = 0 := fun q => by
        have := bb_0 hA.2.2.2.1 hlt q
        omega
      rw [ha, show cB 2 S k = 1 from (if_neg hd).trans (if_pos rfl)]
    · rintro _ rfl _ rfl
      refine hK (_, _) hlt (nI_1 k) ?_
      show a + 0 = sa 0 (cB 2 S) k + cB 2 S k
      have hd : dm S k 0 = 0 := by
        rcases hB with ⟨_, q⟩ | ⟨d, hN, hC⟩
        · exact q
        · exfalso
          apply hi
          rw [bc_tot hN.2 hC]
          have h0 := (hN.1 0 (by decide)).1
          have h1 := (hN.1 1 (by decide)).1
          have : 1 ≤ tot d := by
            unfold tot
            have := Nat.mul_le_mul h0 h1
            omega
          omega
      rw [ha, show cB 2 S k = 0 from if_pos hd]
  · unfold w8_cellsInAll w8_cellsInAll_b4
    refine lp_up 4 (fun z => z.2) (fun k z => z.1 = sa 0 (cB 3 S) k) (by decide) ?_ (Nat.zero_le _) (rfl : (0 : Int32) = nI 0) (by exact rfl)
    rintro K ⟨a, y⟩ k hk hcc ha hK
    try dsimp only at hcc ha hK
    subst hcc
    unfold w8_cellsInAll_F4 w8_cellsInAll_d4
    try dsimp only
    refine ⟨fun ce => hin (n := 3) (by decide) c ?_, fun ce => ?_⟩
    · have e := nI_end (N := 4) (by decide) hk ce
      subst e
      rw [zF (by decide) (by decide), zR (by decide)]; exact ha
    have hlt := nI_go (N := 4) (by decide) hk ce
    rw [nI_clamp (by omega)]
    have hB := hA.2.2.2.1 k hlt
    refine ⟨vp_in_nI hlt (by decide), ⟨by omega, by omega⟩, ?_⟩
    rintro _ rfl _ rfl
    refine hK (_, _) hlt (nI_1 k) ?_
    show a + fI (X (6 + k)) 6 = sa 0 (cB 3 S) k + cB 3 S k
    have ev : fI (X (6 + k)) 6 = cB 3 S k := by
      rcases hB with ⟨q1, q2⟩ | ⟨d, hN, hC⟩
      · rw [q1, show cB 3 S k = 0 from if_pos q2]
      · have hd : ¬ dm S k 0 = 0 := by
          have h0 := hN.1 0 (by decide)
          rw [h0.2.2]
          exact nI_ne0 (by omega) (by omega)
        rw [hC.2.1, show cB 3 S k = cls9 S k from (if_neg hd).trans ((if_neg (by decide)).trans (if_pos rfl)), cls_N hN]
    rw [ha, ev]
  · unfold w8_rowsThere w8_rowsThere_b4
    refine lp_up 4 (fun z => z.2) (fun k z => z.1 = sa 0 (cR 4 S) k) (by decide) ?_ (Nat.zero_le _) (rfl : (0 : Int32) = nI 0) (by exact rfl)
    rintro K ⟨a, y⟩ k hk hcc ha hK
    try dsimp only at hcc ha hK
    subst hcc
    unfold w8_rowsThere_F4 w8_rowsThere_d4 w8_rowsThere_b27
    try dsimp only
    refine ⟨fun ce => hin (n := 4) (by decide) c ?_, fun ce => ?_⟩
    · have e := nI_end (N := 4) (by decide) hk ce
      subst e
      rw [zF (by decide) (by decide), zB (by decide) (by decide)]; exact ha
    have hlt := nI_go (N := 4) (by decide) hk ce
    rw [nI_clamp (by omega)]
    have hR := hA.2.2.1 k hlt
    refine ⟨vp_in_nI hlt (by decide), ⟨by omega, by omega⟩, s5_isThere _ _ (fun hi => ⟨fun c => absurd c (by decide), fun _ => ?_⟩) (fun hi => ⟨fun _ => ?_, fun c => absurd rfl c⟩)⟩
    · rintro _ rfl _ rfl
      refine hK (_, _) hlt (nI_1 k) ?_
      show a + 1 = sa 0 (cR 4 S) k + cR 4 S k
      have hd : ¬ (aI S 40 k).toInt < 0 := fun q => hi (fI_m1.mpr (by omega))
      rw [ha, show cR 4 S k = 1 from (if_pos rfl).trans (if_neg hd)]
    · rintro _ rfl _ rfl
      refine hK (_, _) hlt (nI_1 k) ?_
      show a + 0 = sa 0 (cR 4 S) k + cR 4 S k
      have hd : (aI S 40 k).toInt < 0 := by
        have := fI_m1.mp hi
        omega
      rw [ha, show cR 4 S k = 0 from (if_pos rfl).trans (if_pos hd)]
  · refine s9_countN x S _ (fun _ => h _) (fun hr => ?_)
    exfalso
    have : x.toInt = 0 ∨ x.toInt = 1 ∨ x.toInt = 2 ∨ x.toInt = 3 ∨ x.toInt = 4 := by omega
    rcases this with q | q | q | q | q
    · exact c0 ((pi_eq _ _).mpr q)
    · exact c1 ((pi_eq _ _).mpr q)
    · exact c2 ((pi_eq _ _).mpr q)
    · exact c3 ((pi_eq _ _).mpr q)
    · exact c4 ((pi_eq _ _).mpr q)

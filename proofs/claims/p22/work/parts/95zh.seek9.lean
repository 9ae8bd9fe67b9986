/-! ===== pure: seeking gluings: the reference ===== -/
theorem x9_end (lg v : Int32) (hv : v = 0 ∨ v = 1) (S1 : MS) (Q : Int32 → MS → Prop) (h : ∀ S', Fr [34, 35, 36] S1 S' → Q lg S') : w9_gluings_b346 lg v S1 Q := by
  have nb : narrow .boolean (.int v) = .int v ∧ fits .boolean (.int v) = true := by
    rcases hv with rfl | rfl
    · exact ⟨rfl, rfl⟩
    · exact ⟨rfl, rfl⟩
  unfold w9_gluings_b346
  refine ⟨nb, ?_⟩
  rintro _ rfl
  unfold w9_gluings_b352
  refine lp_up 64 (fun z => z.1) (fun _ z => Fr [34, 35, 36] S1 z.2) (by decide) ?_ (Nat.zero_le _) (rfl : (0 : Int32) = nI 0) (by exact fr_sI (by decide))
  rintro K2 ⟨y, S2⟩ k2 hk2 hcc hF2 hK2
  try dsimp only at hcc hF2 hK2
  subst hcc
  unfold w9_gluings_F352 w9_gluings_d352
  try dsimp only
  refine ⟨fun _ => ?_, fun c => ?_⟩
  · unfold w9_gluings_b394
    refine lp_up 5 (fun z => z.1) (fun _ z => Fr [34, 35, 36] S1 z.2) (by decide) ?_ (Nat.zero_le _) (rfl : (0 : Int32) = nI 0) (by exact hF2)
    rintro K3 ⟨y, S3⟩ k3 hk3 hcc hF3 hK3
    try dsimp only at hcc hF3 hK3
    subst hcc
    unfold w9_gluings_F394 w9_gluings_d394
    try dsimp only
    refine ⟨fun _ => h _ hF3, fun c => ?_⟩
    have hlt := nI_go (N := 5) (by decide) hk3 c
    refine ⟨vp_in_nI hlt (by decide), ?_⟩
    rintro _ rfl _ rfl
    exact hK3 (_, _) hlt (nI_1 k3) (fr_tr hF3 (fr_sA (by decide)))
  · have hlt := nI_go (N := 64) (by decide) hk2 c
    have k384 : ∀ v, w9_gluings_b384 (fun y0 y1 => K2 (y0, y1)) lg (nI k2) (nI k2) v S2 Q := by
      intro v
      unfold w9_gluings_b384
      refine ⟨vp_in_nI hlt (by decide), ?_⟩
      rintro _ rfl _ rfl
      exact hK2 (_, _) hlt (nI_1 k2) (fr_tr hF2 (fr_sA (by decide)))
    exact ⟨fun _ => k384 _, fun _ => ⟨vp_in_nI hlt (by decide), k384 _⟩⟩
/-- a node of the search -/
def Nd (n : Nat) (S : MS) (P : Nat → Nat) (a s l : Nat) : Prop := a = lf P n ∧ a < n ∧ PI n P ∧ cpr n P = 2 * l ∧ a ≤ s ∧ (s - a) % 2 = 0 ∧ s ≤ n + 1 ∧ aI S 37 l = nI a
theorem nd_eq {n : Nat} {S S' : MS} {P : Nat → Nat} {a s l : Nat} (h : Nd n S P a s l) (e : aI S' 37 l = aI S 37 l) : Nd n S' P a s l := by
  obtain ⟨h1, h2, h3, h4, h5, h6, h7, h8⟩ := h
  exact ⟨h1, h2, h3, h4, h5, h6, h7, e.trans h8⟩
/-- the search on its way: nodes from the root, what was tried, what is still to come -/
def Wy (n N : Nat) (a : Nat → Nat) (lg lv to : Int32) (S : MS) (m : Nat) (Ps : Nat → Nat → Nat) (As Ss : Nat → Nat) (T Lg : Nat) : Prop :=
  lv + 1 = nI m ∧ lg = nI Lg ∧ fI S 33 = nI T ∧ T ≤ N ∧ (∀ l, l < m → Nd n S (Ps l) (As l) (Ss l) l) ∧ (∀ l, l + 1 < m → 1 ≤ Ss l ∧ Opt n (Ps l) (As l) (Ss l - 1) ∧ Ps (l + 1) = u2 (Ps l) (As l) (Ss l - 1)) ∧ (∀ l, l + 1 = m → to + 1 = nI (Ss l) ∧ ∀ k, k < n → aI S 29 k = pv (Ps l k)) ∧ T + fb_sm (fun l => RS n 1 (fun _ => false) (29 - l) (Ps l) (As l) (Ss l)) m = TTt n ∧ Lg + fb_sm (fun l => RS n 0 (JB n a) (29 - l) (Ps l) (As l) (Ss l)) m = LLt n a
theorem nd_l {n : Nat} {S : MS} {P : Nat → Nat} {a s l : Nat} (hn : n ≤ 50) (h : Nd n S P a s l) : l < 25 := by
  obtain ⟨h1, h2, h3, h4, _⟩ := h
  have hf := (lf_ok P n).2.2 (by omega)
  rw [← h1] at hf
  have g2 := fb_ct_sub (p := fun j => decide (¬ P j = 99)) (q := fun j => if j = a then false else true) (n := n) (fun j hj w => by
    try dsimp only
    by_cases q : j = a
    · rw [q] at w
      exact absurd hf (of_decide_eq_true w)
    · rw [if_neg q])
  have g3 := fb_ct_upd (n := n) (fun _ => true) false h2
  have g4 : fb_ct (fun _ => true) n = n := fb_ct_all.mpr (fun _ _ => rfl)
  rw [if_pos rfl, if_neg (by decide)] at g3
  unfold cpr at h4
  try dsimp only at g2 g3
  omega
theorem p2_I (x : Int32) : x + 2 = x + 1 + 1 := by
  rw [Int32.add_assoc]
  rfl
set_option maxHeartbeats 4000000 in
theorem x9_gluL {n N : Nat} {a : Nat → Nat} (S0 : MS) (hn : n ≤ 50) (h1n : 1 ≤ n) (hN : N ≤ 20000) (e25 : fI S0 25 = nI n) (h28 : ∀ k, k < n → 1 ≤ a k ∧ a k ≤ 3 ∧ aI S0 28 k = nI (a k)) (e33 : fI S0 33 = nI 0) (hP0 : ∀ k, k < n → aI S0 29 k = -9) (e37 : aI S0 37 0 = nI 0) (Q : Int32 → MS → Prop) (h1 : TTt n ≤ N → ∀ S', Fr [29, 30, 31, 32, 33, 34, 35, 36, 37, 38, 39] S0 S' → fI S' 33 = nI (TTt n) → Q (nI (LLt n a)) S') (h0 : N < TTt n → ∀ S', Fr [29, 30, 31, 32, 33, 34, 35, 36, 37, 38, 39] S0 S' → fI S' 33 = nI N → Q (-6) S') : w9_gluings_b83 (nI N) (0 : Int32) (0 : Int32) (-1 : Int32) S0 Q := by
  have hlf0 : lf (fun _ => 99) n = 0 := (lf_one (Nat.zero_le n) (fun k hk => absurd hk (Nat.not_lt_zero k)) (fun _ => rfl)).symm
  have h01 : ¬ (1 : Int32) = 0 := by decide
  unfold w9_gluings_b83
  refine lp_of (fun z : Int32 × Int32 × Int32 × MS => Fr [29, 30, 31, 32, 33, 37, 38, 39] S0 z.2.2.2 ∧ ∃ m Ps As Ss T Lg, Wy n N a z.1 z.2.1 z.2.2.1 z.2.2.2 m Ps As Ss T Lg) (fun z => 3 * (TTt n - (fI z.2.2.2 33).toNatClampNeg) + (z.2.1 + 1).toNatClampNeg) ?_ ?_
  rotate_left
  · refine ⟨fr_rf, 1, fun _ _ => 99, fun _ => 0, fun _ => 0, 0, 0, rfl, rfl, e33, Nat.zero_le _, fun l hl => ?_, fun l hl => by omega, fun l hl => ⟨(by decide : (-1 : Int32) + 1 = nI 0), fun k hk => hP0 k hk⟩, ?_, ?_⟩
    · have e : l = 0 := by omega
      subst e
      exact ⟨hlf0.symm, h1n, pi_0 n, cpr_0 n, Nat.le_refl _, rfl, Nat.zero_le _, e37⟩
    · have := rs_all (n := n) (c := 1) (J := fun _ => false) (f := 29) (P := fun _ => 99) (by rw [hlf0]; omega)
      rw [hlf0] at this
      show 0 + (0 + RS n 1 (fun _ => false) (29 - 0) (fun _ => 99) 0 0) = TTt n
      rw [Nat.zero_add, Nat.zero_add, this]
      rfl
    · have := rs_all (n := n) (c := 0) (J := JB n a) (f := 29) (P := fun _ => 99) (by rw [hlf0]; omega)
      rw [hlf0] at this
      show 0 + (0 + RS n 0 (JB n a) (29 - 0) (fun _ => 99) 0 0) = LLt n a
      rw [Nat.zero_add, Nat.zero_add, this]
      rfl
  clear e33 hP0 e37
  rintro K ⟨lg, lv, to, S⟩ ⟨hF, m, Ps, As, Ss, T, Lg, w1, w2, w3, w4, w5, w6, w7, w8, w9⟩ hK
  try dsimp only at hF w1 w2 w3 w7 hK
  have e25s : fI S 25 = nI n := (hF 25 (by decide)).1.trans e25
  unfold w9_gluings_F83 w9_gluings_d83
  try dsimp only
  have hTt : T ≤ TTt n := by omega
  have hTc : (nI T).toNatClampNeg = T := nI_clamp (by omega)
  refine ⟨fun hneg => ?_, fun hneg => ?_⟩
  · have hm0 : m = 0 := by
      rcases Nat.eq_zero_or_pos m with q | q
      · exact q
      · exfalso
        obtain ⟨L, rfl⟩ : ∃ L, m = L + 1 := ⟨m - 1, by omega⟩
        have hl := nd_l hn (w5 L (by omega))
        rw [i_pred w1] at hneg
        exact nI_pos (by omega) hneg
    subst hm0
    have eT : T = TTt n := w8
    have eL : Lg = LLt n a := w9
    have fin : ∀ v, (v = 0 ∨ v = 1) → w9_gluings_b346 lg v S Q := by
      intro v hv
      refine x9_end lg v hv S Q (fun S' hF' => ?_)
      rw [w2, eL]
      exact h1 (by omega) S' (fr_tr (fr_mono hF (by decide)) (fr_mono hF' (by decide))) ((hF' 33 (by decide)).1.trans (by rw [w3, eT]))
    exact ⟨fun _ => fin _ (Or.inl rfl), fun _ => fin _ (Or.inr rfl)⟩
  obtain ⟨L, rfl⟩ : ∃ L, m = L + 1 := by
    rcases Nat.eq_zero_or_pos m with q | q
    · subst q
      exfalso
      have hx2 : lv = -1 := by
        have := congrArg (fun z => z - 1) w1
        simp only [Int32.add_sub_cancel] at this
        rw [this]; rfl
      rw [hx2] at hneg
      exact hneg (by decide)
    · exact ⟨m - 1, by omega⟩
  have elv := i_pred w1
  subst elv
  clear hneg
  have hNd := w5 L (by omega)
  have hL25 := nd_l hn hNd
  obtain ⟨d1, d2, d3, d4, d5, d6, d7, d8⟩ := id hNd
  obtain ⟨eto, eP⟩ := w7 L rfl
  generalize hPe : Ps L = P at *
  generalize hae : As L = b at *
  generalize hse : Ss L = s at *
  have hPb : ∀ k, k < n → P k < 2 ^ 31 := fun k hk => by
    rcases d3 k hk with q | q
    · omega
    · have := q.1; omega
  rw [rA_n S 37 (by omega), d8]
  refine ⟨vp_in_nI (by omega) (by decide), ?_⟩
  rintro _ rfl
  rw [p2_I, eto, nI_1, e25s]
  rintro _ rfl
  refine ⟨fun c => ?_, fun _ => ?_⟩
  · exfalso
    have := (nI_leI (a := n) (b := b) (by omega) (by omega)).mp c
    omega
  -- the sums at this node
  have sum1 : ∀ c J, fb_sm (fun l => RS n c J (29 - l) (Ps l) (As l) (Ss l)) (L + 1) = fb_sm (fun l => RS n c J (29 - l) (Ps l) (As l) (Ss l)) L + RS n c J (29 - L) P b s := by
    intro c J
    rw [fb_sm_succ, hPe, hae, hse]
  rw [sum1] at w8 w9
  have hmu : ∀ (lv' : Int32) (S' : MS) (T' m' : Nat), fI S' 33 = nI T' → T' ≤ 20001 → lv' + 1 = nI m' → m' ≤ 100 → 3 * (TTt n - T') + m' < 3 * (TTt n - T) + (L + 1) → 3 * (TTt n - (fI S' 33).toNatClampNeg) + (lv' + 1).toNatClampNeg < 3 * (TTt n - (fI S 33).toNatClampNeg) + (nI L + 1).toNatClampNeg := by
    intro lv' S' T' m' e1 e2 e3 e4 e5
    rw [e1, e3, w3, nI_1, nI_clamp (by omega), nI_clamp (by omega), nI_clamp (by omega), nI_clamp (by omega)]
    exact e5
  -- nothing more at this node: back
  have back : ¬ Opt n P b (s + 1) → w9_gluings_b166 (fun y0 y1 y2 y3 => K (y0, y1, y2, y3)) (nI N) lg (nI L) (nI (s + 1)) (nI b) (0 : Int32) S Q := by
    intro hno
    have z1 := rs_none (c := 1) (J := fun _ => false) (f := 29 - L) d6 d5 hno
    have z2 := rs_none (c := 0) (J := JB n a) (f := 29 - L) d6 d5 hno
    rw [z1, Nat.add_zero] at w8
    rw [z2, Nat.add_zero] at w9
    unfold w9_gluings_b166
    refine ⟨fun c => absurd rfl c, fun _ => ?_⟩
    rintro _ rfl
    rcases Nat.eq_zero_or_pos L with q | q
    · subst q
      refine ⟨fun _ => hK (_, _, _, _) ⟨hF, 0, Ps, As, Ss, T, Lg, m1p1 0, w2, w3, w4, fun l hl => absurd hl (Nat.not_lt_zero l), fun l hl => absurd hl (Nat.not_lt_zero _), fun l hl => absurd hl (by omega), w8, w9⟩ (hmu _ _ T 0 w3 (by omega) (m1p1 0) (by omega) (by omega)), fun c => absurd (by decide) c⟩
    · obtain ⟨L', rfl⟩ : ∃ L', L = L' + 1 := ⟨L - 1, by omega⟩
      have epr : nI (L' + 1) + (-1 : Int32) = nI L' := by
        rw [← nI_1, Int32.add_assoc]
        exact Int32.add_zero _
      rw [epr]
      obtain ⟨o1, o2, o3⟩ := w6 L' (by omega)
      have hN' := w5 L' (by omega)
      obtain ⟨f1, f2, f3, f4, f5, f6, f7, f8⟩ := id hN'
      obtain ⟨g1, g2, g3, g4⟩ := id o2
      rw [hPe] at o3
      have ep : pv (P (As L')) = nI (Ss L' - 1) := by
        rw [o3]
        unfold u2
        rw [if_pos rfl, pv_n (by omega)]
      refine ⟨fun c => absurd c (nI_pos (by omega)), fun _ => ⟨vp_in_nI (by omega) (by decide), ?_⟩⟩
      rw [rA_n S 37 (by omega), f8]
      refine ⟨vp_in_nI (by omega) (by decide), ?_⟩
      rw [rA_n S 29 (by omega), eP _ f2, ep]
      rintro _ rfl
      refine ⟨vp_in_nI (by omega) (by decide), ?_⟩
      rintro _ rfl
      rw [rA_n _ 37 (by omega), rd_sn _ (by decide), f8]
      refine ⟨vp_in_nI (by omega) (by decide), ?_⟩
      rintro _ rfl
      have e29 : aI (sA (sA S 29 (nI (Ss L' - 1)) (-9)) 29 (nI (As L')) (-9)) 29 = upd (upd (aI S 29) (Ss L' - 1) (-9)) (As L') (-9) := by
        rw [rd_A, rd_A, nI_clamp (by omega), nI_clamp (by omega)]
      have k37 : aI (sA (sA S 29 (nI (Ss L' - 1)) (-9)) 29 (nI (As L')) (-9)) 37 = aI S 37 := by rw [rd_sn _ (by decide), rd_sn _ (by decide)]
      refine hK (_, _, _, _) ⟨fr_tr hF (fr_tr (fr_sA (by decide)) (fr_sA (by decide))), L' + 1, Ps, As, Ss, T, Lg, nI_1 L', w2, w3, w4, fun l hl => nd_eq (w5 l (by omega)) (by rw [k37]), fun l hl => w6 l (by omega), fun l hl => ⟨?_, fun k hk => ?_⟩, w8, w9⟩ (hmu _ _ T (L' + 1) w3 (by omega) (nI_1 L') (by omega) (by omega))
      · have el : l = L' := by omega
        rw [el]
        show nI (Ss L' - 1) + 1 = nI (Ss L')
        rw [nI_1]; congr 1; omega
      · have el : l = L' := by omega
        rw [el]
        show aI (sA (sA S 29 (nI (Ss L' - 1)) (-9)) 29 (nI (As L')) (-9)) 29 k = _
        rw [e29]
        have hfa : Ps L' (As L') = 99 := by
          have := (lf_ok (Ps L') n).2.2 (by omega)
          rw [← f1] at this
          exact this
        by_cases c1 : k = As L'
        · rw [c1, pk_us, hfa]; rfl
        · rw [pk_un c1]
          by_cases c2 : k = Ss L' - 1
          · rw [c2, pk_us, g4 _ g1 (Nat.le_refl _)]; rfl
          · rw [pk_un c2, eP k hk, o3]
            unfold u2
            rw [if_neg c1, if_neg c2]
  -- a try
  have go : Opt n P b (s + 1) → w9_gluings_b166 (fun y0 y1 y2 y3 => K (y0, y1, y2, y3)) (nI N) lg (nI L) (nI (s + 1)) (nI b) (1 : Int32) S Q := by
    intro ho
    obtain ⟨o1, o2, o3, o4⟩ := id ho
    have r1 := rs_step (c := 1) (J := fun _ => false) (f := 29 - L) d6 d5 ho
    have r2 := rs_step (c := 0) (J := JB n a) (f := 29 - L) d6 d5 ho
    rw [r1] at w8
    rw [r2] at w9
    have hfb : P b = 99 := by
      have := (lf_ok P n).2.2 (by omega)
      rw [← d1] at this
      exact this
    have hft := o4 (s + 1) o1 (Nat.le_refl _)
    unfold w9_gluings_b166
    refine ⟨fun _ => ⟨fun cN => ?_, fun cN => ?_⟩, fun c => absurd c h01⟩
    rotate_left
    · rw [w3] at cN
      have eTN : T = N := (nI_eq (by omega) (by omega)).mp cN
      exact h0 (by omega) S (fr_mono hF (by decide)) (by rw [w3, eTN])
    have hTN : T < N := by
      have : ¬ T = N := fun e => cN (by rw [w3, e])
      omega
    rw [w3, nI_1]
    rintro _ rfl
    refine ⟨vp_in_nI (by omega) (by decide), ?_⟩
    rintro _ rfl
    refine ⟨vp_in_nI (by omega) (by decide), ?_⟩
    rintro _ rfl
    have hF7 : Fr [29, 33] S (sA (sA (sI S 33 (nI (T + 1))) 29 (nI b) (nI (s + 1))) 29 (nI (s + 1)) (nI b)) := fr_tr (fr_sI (by decide)) (fr_tr (fr_sA (by decide)) (fr_sA (by decide)))
    have x33 : fI (sA (sA (sI S 33 (nI (T + 1))) 29 (nI b) (nI (s + 1))) 29 (nI (s + 1)) (nI b)) 33 = nI (T + 1) := (fi_sA _ _ _ _ _).trans ((fi_sA _ _ _ _ _).trans (rd_fI _ _ _))
    have x29 : ∀ k, k < n → aI (sA (sA (sI S 33 (nI (T + 1))) 29 (nI b) (nI (s + 1))) 29 (nI (s + 1)) (nI b)) 29 k = pv (u2 P b (s + 1) k) := by
      intro k hk
      rw [rd_A, rd_A, nI_clamp (by omega), nI_clamp (by omega)]
      unfold u2
      by_cases c1 : k = s + 1
      · rw [c1, pk_us, if_neg (by omega), if_pos rfl, pv_n (by omega)]
      · rw [pk_un c1]
        by_cases c2 : k = b
        · rw [c2, pk_us, if_pos rfl, pv_n (by omega)]
        · rw [pk_un c2, if_neg c2, if_neg c1]
          exact eP k hk
    generalize sA (sA (sI S 33 (nI (T + 1))) 29 (nI b) (nI (s + 1))) 29 (nI (s + 1)) (nI b) = S7 at hF7 x33 x29
    have x25 : fI S7 25 = nI n := (hF7 25 (by decide)).1.trans e25s
    have hPI7 : PI n (u2 P b (s + 1)) := by
      have := pi_u2 (n := n) (P := P) (t := s + 1) (by omega) d3 (by omega) (by rw [← d1]; exact ho)
      rw [← d1] at this
      exact this
    have hcp7 : cpr n (u2 P b (s + 1)) = 2 * (L + 1) := by
      rw [cpr_u2 (by omega) d2 o2 (by omega) hfb hft, d4]
      omega
    have hb7 : ∀ k, k < n → u2 P b (s + 1) k < 2 ^ 31 := fun k hk => by
      rcases hPI7 k hk with q | q
      · omega
      · have := q.1; omega
    obtain ⟨f, hfL⟩ : ∃ f, 29 - L = f + 1 := ⟨28 - L, by omega⟩
    rw [hfL] at w8 w9
    -- back at this node, one step on
    have again : ∀ (lg' : Int32) (Lg' : Nat) (S8 : MS), lg' = nI Lg' → Fr [29, 30, 31, 32, 33, 38, 39] S7 S8 → fI S8 33 = nI (T + 1) → (∀ k, k < n → aI S8 29 k = pv (u2 P b (s + 1) k)) → VV n 1 (fun _ => false) (f + 1) (u2 P b (s + 1)) = 0 → Lg' = Lg + VV n 0 (JB n a) (f + 1) (u2 P b (s + 1)) → w9_gluings_b314 (fun y0 y1 y2 y3 => K (y0, y1, y2, y3)) (nI N) lg' (nI L) (nI (s + 1)) (nI b) S8 Q := by
      intro lg' Lg' S8 e1 hF8 y33 y29 v1 v2
      unfold w9_gluings_b314
      refine ⟨vp_in_nI (by omega) (by decide), ?_⟩
      rintro _ rfl
      refine ⟨vp_in_nI (by omega) (by decide), ?_⟩
      rintro _ rfl
      have e29 : aI (sA (sA S8 29 (nI (s + 1)) (-9)) 29 (nI b) (-9)) 29 = upd (upd (aI S8 29) (s + 1) (-9)) b (-9) := by
        rw [rd_A, rd_A, nI_clamp (by omega), nI_clamp (by omega)]
      have k37 : aI (sA (sA S8 29 (nI (s + 1)) (-9)) 29 (nI b) (-9)) 37 = aI S 37 := by rw [rd_sn _ (by decide), rd_sn _ (by decide), (hF8 37 (by decide)).2.2.1, (hF7 37 (by decide)).2.2.1]
      have k33 : fI (sA (sA S8 29 (nI (s + 1)) (-9)) 29 (nI b) (-9)) 33 = nI (T + 1) := (fi_sA _ _ _ _ _).trans ((fi_sA _ _ _ _ _).trans y33)
      obtain ⟨Ss', oS, nS⟩ : ∃ Ss' : Nat → Nat, (∀ l, ¬ l = L → Ss' l = Ss l) ∧ Ss' L = s + 2 := ⟨fun l => if l = L then s + 2 else Ss l, fun l hl => if_neg hl, if_pos rfl⟩
      have esum : ∀ c J, fb_sm (fun l => RS n c J (29 - l) (Ps l) (As l) (Ss' l)) (L + 1) = fb_sm (fun l => RS n c J (29 - l) (Ps l) (As l) (Ss l)) L + RS n c J (29 - L) P b (s + 2) := by
        intro c J
        rw [fb_sm_succ, hPe, hae, nS]
        rw [fb_sm_cong (fun l hl => by rw [oS l (by omega)])]
      refine hK (_, _, _, _) ⟨fr_tr (fr_tr hF (fr_mono hF7 (by decide))) (fr_tr (fr_mono hF8 (by decide)) (fr_tr (fr_sA (by decide)) (fr_sA (by decide)))), L + 1, Ps, As, Ss', T + 1, Lg', nI_1 L, e1, k33, by omega, fun l hl => ?_, fun l hl => ?_, fun l hl => ⟨?_, fun k hk => ?_⟩, ?_, ?_⟩ (hmu _ _ (T + 1) (L + 1) k33 (by omega) (nI_1 L) (by omega) (by omega))
      · by_cases q : l = L
        · rw [q, nS, hPe, hae]
          exact ⟨d1, d2, d3, d4, by omega, by omega, by omega, by rw [k37]; exact d8⟩
        · rw [oS l q]
          exact nd_eq (w5 l hl) (by rw [k37])
      · rw [oS l (by omega)]
        exact w6 l hl
      · have el : l = L := by omega
        rw [el, nS]
        exact nI_1 (s + 1)
      · have el : l = L := by omega
        rw [el, hPe]
        show aI (sA (sA S8 29 (nI (s + 1)) (-9)) 29 (nI b) (-9)) 29 k = _
        rw [e29]
        by_cases c1 : k = b
        · rw [c1, pk_us, hfb]; rfl
        · rw [pk_un c1]
          by_cases c2 : k = s + 1
          · rw [c2, pk_us, hft]; rfl
          · rw [pk_un c2, y29 k hk]
            unfold u2
            rw [if_neg c1, if_neg c2]
      · rw [esum, hfL]
        rw [v1] at w8
        omega
      · rw [esum, hfL]
        omega
    refine s9_firstFree (by omega) S7 x25 _ (fun i hi hlow hfree => ?_)
    have eli : i = lf (u2 P b (s + 1)) n := lf_one hi (fun j hj q => hlow j hj (by rw [x29 j (by omega), q]; decide)) (fun q => by
      have := hfree q
      rw [x29 i q, pv_neg (hb7 i q)] at this
      exact this)
    rw [x25]
    refine ⟨fun ci => ?_, fun ci => ?_⟩
    · -- all edges have partners
      have ein := nI_end (by omega) hi ci
      have hl : ¬ lf (u2 P b (s + 1)) n < n := by omega
      have hG := pi_glu hPI7 hl
      have v1 : VV n 1 (fun _ => false) (f + 1) (u2 P b (s + 1)) = 0 := by
        show (if lf (u2 P b (s + 1)) n < n then _ else if (fun _ => false) (u2 P b (s + 1)) = true then 1 else 0) = 0
        rw [if_neg hl]
        rfl
      have v2 : VV n 0 (JB n a) (f + 1) (u2 P b (s + 1)) = if JB n a (u2 P b (s + 1)) then 1 else 0 := by
        show (if lf (u2 P b (s + 1)) n < n then _ else if JB n a (u2 P b (s + 1)) = true then 1 else 0) = _
        rw [if_neg hl]
      refine x9_isLegal (p := u2 P b (s + 1)) (a := a) S7 h1n (by omega) x25 (fun k hk => ?_) (fun k hk => ⟨(hG k hk).1, by rw [x29 k hk, pv_n (by have := (hG k hk).1; omega)]⟩) _ (fun r S8 La hF8 hLab _ hr => ?_)
      · rw [(hF7 28 (by decide)).2.2.1, (hF 28 (by decide)).2.2.1]
        exact h28 k hk
      have y33 : fI S8 33 = nI (T + 1) := (hF8 33 (by decide)).1.trans x33
      have y29 : ∀ k, k < n → aI S8 29 k = pv (u2 P b (s + 1) k) := fun k hk => by rw [(hF8 29 (by decide)).2.2.1]; exact x29 k hk
      rcases hr with ⟨q1, q2⟩ | ⟨q1, q2⟩
      · have hj : JB n a (u2 P b (s + 1)) = true := jb_iff.mpr ((jl_of hLab).mpr q2)
        rw [if_pos hj] at v2
        refine ⟨fun c => absurd (q1.symm.trans c) h01, fun _ => ?_⟩
        rw [w2, nI_1]
        rintro _ rfl
        refine ⟨fun _ => again _ (Lg + 1) S8 rfl (fr_mono hF8 (by decide)) y33 y29 v1 (by rw [v2]), fun _ => t9_keepFirst _ _ (fun S9 hF9 => again _ (Lg + 1) S9 rfl (fr_tr (fr_mono hF8 (by decide)) (fr_mono hF9 (by decide))) ((hF9 33 (by decide)).1.trans y33) (fun k hk => by rw [(hF9 29 (by decide)).2.2.1]; exact y29 k hk) v1 (by rw [v2]))⟩
      · have hj : ¬ JB n a (u2 P b (s + 1)) = true := fun w => q2 ((jl_of hLab).mp (jb_iff.mp w))
        rw [if_neg hj] at v2
        refine ⟨fun _ => again _ Lg S8 w2 (fr_mono hF8 (by decide)) y33 y29 v1 (by rw [v2, Nat.add_zero]), fun c => absurd q1 c⟩
    · -- deeper
      have hin := nI_go (by omega) hi ci
      have hil : lf (u2 P b (s + 1)) n < n := by omega
      rw [nI_1]
      rintro _ rfl
      refine ⟨vp_in_nI (by omega) (by decide), ?_⟩
      rintro _ rfl _ rfl
      obtain ⟨Ps', oP, nP⟩ : ∃ Ps' : Nat → Nat → Nat, (∀ l, ¬ l = L + 1 → Ps' l = Ps l) ∧ Ps' (L + 1) = u2 P b (s + 1) := ⟨fun l => if l = L + 1 then u2 P b (s + 1) else Ps l, fun l hl => if_neg hl, if_pos rfl⟩
      obtain ⟨As', oA, nA⟩ : ∃ As' : Nat → Nat, (∀ l, ¬ l = L + 1 → As' l = As l) ∧ As' (L + 1) = i := ⟨fun l => if l = L + 1 then i else As l, fun l hl => if_neg hl, if_pos rfl⟩
      obtain ⟨Ss', oS, mS, nS⟩ : ∃ Ss' : Nat → Nat, (∀ l, l < L → Ss' l = Ss l) ∧ Ss' L = s + 2 ∧ Ss' (L + 1) = i := ⟨fun l => if l = L + 1 then i else if l = L then s + 2 else Ss l, fun l hl => by
        show (if l = L + 1 then i else if l = L then s + 2 else Ss l) = Ss l
        rw [if_neg (by omega), if_neg (by omega)], by
        show (if L = L + 1 then i else if L = L then s + 2 else Ss L) = s + 2
        rw [if_neg (by omega), if_pos rfl], if_pos rfl⟩
      have k37 : aI (sA S7 37 (nI (L + 1)) (nI i)) 37 = upd (aI S 37) (L + 1) (nI i) := by rw [rd_A, nI_clamp (by omega), (hF7 37 (by decide)).2.2.1]
      have k29 : aI (sA S7 37 (nI (L + 1)) (nI i)) 29 = aI S7 29 := rd_sn _ (by decide)
      have k33 : fI (sA S7 37 (nI (L + 1)) (nI i)) 33 = nI (T + 1) := (fi_sA _ _ _ _ _).trans x33
      have hNd' : Nd n (sA S7 37 (nI (L + 1)) (nI i)) (u2 P b (s + 1)) i i (L + 1) := ⟨eli, hin, hPI7, hcp7, Nat.le_refl _, by omega, by omega, by rw [k37, pk_us]⟩
      have hL24 := nd_l hn hNd'
      have esum : ∀ c J, fb_sm (fun l => RS n c J (29 - l) (Ps' l) (As' l) (Ss' l)) (L + 1 + 1) = fb_sm (fun l => RS n c J (29 - l) (Ps l) (As l) (Ss l)) L + RS n c J (29 - L) P b (s + 2) + VV n c J (f + 1) (u2 P b (s + 1)) := by
        intro c J
        rw [fb_sm_succ, fb_sm_succ, nP, nA, nS, oP L (by omega), oA L (by omega), mS, hPe, hae]
        rw [fb_sm_cong (f := fun l => RS n c J (29 - l) (Ps' l) (As' l) (Ss' l)) (g := fun l => RS n c J (29 - l) (Ps l) (As l) (Ss l)) (fun l hl => by rw [oP l (by omega), oA l (by omega), oS l hl])]
        have := rs_all (n := n) (c := c) (J := J) (f := f) (P := u2 P b (s + 1)) hil
        rw [← eli] at this
        rw [show 29 - (L + 1) = f by omega, this]
      refine hK (_, _, _, _) ⟨fr_tr (fr_tr hF (fr_mono hF7 (by decide))) (fr_sA (by decide)), L + 1 + 1, Ps', As', Ss', T + 1, Lg, nI_1 (L + 1), w2, k33, by omega, fun l hl => ?_, fun l hl => ?_, fun l hl => ⟨?_, fun k hk => ?_⟩, ?_, ?_⟩ (hmu _ _ (T + 1) (L + 1 + 1) k33 (by omega) (nI_1 (L + 1)) (by omega) (by omega))
      · rcases (show l < L ∨ l = L ∨ l = L + 1 by omega) with q | q | q
        · rw [oP l (by omega), oA l (by omega), oS l q]
          exact nd_eq (w5 l (by omega)) (by rw [k37, pk_un (by omega)])
        · rw [q, oP L (by omega), oA L (by omega), mS, hPe, hae]
          exact ⟨d1, d2, d3, d4, by omega, by omega, by omega, by rw [k37, pk_un (by omega)]; exact d8⟩
        · rw [q, nP, nA, nS]
          exact hNd'
      · rcases (show l < L ∨ l = L by omega) with q | q
        · rw [oS l q, oP l (by omega), oA l (by omega), oP (l + 1) (by omega)]
          exact w6 l (by omega)
        · rw [q, mS, oP L (by omega), oA L (by omega), nP, hPe, hae, show s + 2 - 1 = s + 1 by omega]
          exact ⟨by omega, ho, rfl⟩
      · have el : l = L + 1 := by omega
        rw [el, nS]
        show nI i - 1 + 1 = nI i
        rw [Int32.sub_add_cancel]
      · have el : l = L + 1 := by omega
        rw [el, nP]
        show aI (sA S7 37 (nI (L + 1)) (nI i)) 29 k = _
        rw [k29]
        exact x29 k hk
      · rw [esum, hfL]
        omega
      · rw [esum, hfL]
        omega
  -- may it be tried?
  have b131 : ∀ (v : Int32) (k : Nat), b < k → k ≤ s + 2 → v = 0 → (¬ Opt n P b (s + 1)) → w9_gluings_b131 (fun y0 y1 y2 y3 => K (y0, y1, y2, y3)) (nI N) lg (nI L) (nI (s + 1)) (nI b) v (nI k) S Q := by
    intro v k hk1 hk2 hv hno
    unfold w9_gluings_b131
    refine lp_up k (fun z => z.2) (fun _ z => z.1 = 0) (by omega) ?_ (Nat.le_refl _) rfl (by exact hv)
    rintro K1 ⟨v1, y1⟩ j hj hcc hI1 hK1
    try dsimp only at hcc hI1 hK1
    subst hcc hI1
    unfold w9_gluings_F131 w9_gluings_d131
    try dsimp only
    exact ⟨fun _ => back hno, fun _ => ⟨fun _ => back hno, fun c => absurd rfl c⟩⟩
  refine ⟨fun c => ?_, fun c => ?_⟩
  · have hge := (nI_leI (a := n) (b := s + 1) (by omega) (by omega)).mp c
    unfold w9_gluings_b122 w9_gluings_b123
    rintro _ rfl
    rw [nI_1]
    exact b131 0 (b + 1) (by omega) (by omega) rfl (fun o => by have := o.2.1; omega)
  · have hlt : s + 1 < n := by
      have : ¬ n ≤ s + 1 := fun q => c (nI_le q (by omega))
      omega
    unfold w9_gluings_b123
    rintro _ rfl
    rw [nI_1]
    unfold w9_gluings_b131
    refine lp_up (s + 2) (fun z => z.2) (fun j z => b < j ∧ ((z.1 = 1 ∧ ∀ k, b < k → k < j → P k = 99) ∨ (z.1 = 0 ∧ ¬ Opt n P b (s + 1)))) (by omega) ?_ (k0 := b + 1) (by omega) rfl (by exact ⟨by omega, Or.inl ⟨rfl, fun k q1 q2 => by omega⟩⟩)
    rintro K1 ⟨v1, y1⟩ j hj hcc ⟨hbj, hI1⟩ hK1
    try dsimp only at hcc hI1 hK1
    subst hcc
    unfold w9_gluings_F131 w9_gluings_d131
    try dsimp only
    refine ⟨fun c1 => ?_, fun c1 => ⟨fun c2 => ?_, fun c2 => ?_⟩⟩
    · have hjs := (nI_ltI (a := s + 1) (b := j) (by omega) (by omega)).mp c1
      rcases hI1 with ⟨q1, q2⟩ | ⟨q1, q2⟩
      · rw [q1]
        exact go ⟨by omega, hlt, by omega, fun k e1 e2 => q2 k e1 (by omega)⟩
      · rw [q1]
        exact back q2
    · rw [c2]
      rcases hI1 with ⟨q1, _⟩ | ⟨_, q2⟩
      · rw [c2] at q1; exact absurd q1.symm h01
      · exact back q2
    · have hjs : j ≤ s + 1 := by
        rcases Nat.lt_or_ge (s + 1) j with q | q
        · exact absurd (nI_lt q (by omega)) c1
        · exact q
      have hq2 : ∀ k, b < k → k < j → P k = 99 := by
        rcases hI1 with ⟨_, q2⟩ | ⟨q1, _⟩
        · exact q2
        · exact absurd q1 c2
      have k158 : ∀ v, ((v = 1 ∧ ∀ k, b < k → k < j + 1 → P k = 99) ∨ (v = 0 ∧ ¬ Opt n P b (s + 1))) → w9_gluings_b158 (fun y0 y1 => K1 (y0, y1)) (nI N) lg (nI L) (nI (s + 1)) (nI b) (nI j) v S Q := by
        intro v hv
        unfold w9_gluings_b158
        rintro _ rfl
        exact hK1 (_, _) (by omega) (nI_1 j) ⟨by omega, hv⟩
      rw [rA_n S 29 (by omega), eP j (by omega)]
      have hpj := pv_neg (hPb j (by omega))
      refine ⟨vp_in_nI (by omega) (by decide), fun c3 => k158 _ (Or.inr ⟨rfl, fun o => ?_⟩), fun c3 => k158 _ (Or.inl ⟨rfl, fun k e1 e2 => ?_⟩)⟩
      · have hfree := o.2.2.2 j hbj hjs
        have hneg2 := hpj.mpr hfree
        rw [pi_le] at c3
        rw [pi_lt] at hneg2
        omega
      · rcases Nat.lt_or_ge k j with q | q
        · exact hq2 k e1 q
        · have ek : k = j := by omega
          rw [ek]
          refine hpj.mp ?_
          rw [pi_lt]
          rw [pi_le] at c3
          omega

/-! ===== pure: gluings, glue of the reference ===== -/
theorem fi_sA (S : MS) (k : Nat) (i v : Int32) (j : Nat) : fI (sA S k i v) j = fI S j := rfl
/-- pairs made one after the other -/
def Pm (n : Nat) (g : Nat → Nat) : Nat → (Nat → Int32) → Prop
  | 0, p => ∀ i, i < n → p i = -9
  | l + 1, p => ∃ (p' : Nat → Int32) (t : Nat), Pm n g l p' ∧ g l < t ∧ t < n ∧ p' (g l) = -9 ∧ p' t = -9 ∧ ∀ i, i < n → p i = if i = g l then nI t else if i = t then nI (g l) else p' i
theorem Pm_cong {n : Nat} {g : Nat → Nat} {l : Nat} {p q : Nat → Int32} (e : ∀ i, i < n → q i = p i) (h : Pm n g l p) : Pm n g l q := by
  cases l with
  | zero => exact fun i hi => (e i hi).trans (h i hi)
  | succ l =>
    obtain ⟨p', t, h1, h2, h3, h4, h5, h6⟩ := h
    exact ⟨p', t, h1, h2, h3, h4, h5, fun i hi => (e i hi).trans (h6 i hi)⟩
theorem Pm_g {n : Nat} {g g' : Nat → Nat} : ∀ {l : Nat} {p : Nat → Int32}, (∀ k, k < l → g' k = g k) → Pm n g l p → Pm n g' l p
  | 0, _, _, h => h
  | l + 1, p, e, h => by
    obtain ⟨p', t, h1, h2, h3, h4, h5, h6⟩ := h
    have el := e l (Nat.lt_succ_self l)
    refine ⟨p', t, Pm_g (fun k hk => e k (by omega)) h1, ?_⟩
    rw [el]
    exact ⟨h2, h3, h4, h5, h6⟩
theorem Pm_val {n : Nat} {g : Nat → Nat} : ∀ {l : Nat} {p : Nat → Int32}, Pm n g l p → ∀ i, i < n → p i = -9 ∨ ∃ j, j < n ∧ p i = nI j
  | 0, _, h, i, hi => Or.inl (h i hi)
  | l + 1, p, h, i, hi => by
    obtain ⟨p', t, h1, h2, h3, h4, h5, h6⟩ := h
    rw [h6 i hi]
    by_cases e1 : i = g l
    · rw [if_pos e1]; exact Or.inr ⟨t, h3, rfl⟩
    · rw [if_neg e1]
      by_cases e2 : i = t
      · rw [if_pos e2]; exact Or.inr ⟨g l, by omega, rfl⟩
      · rw [if_neg e2]; exact Pm_val h1 i hi
theorem Pm_ct {n : Nat} (hn : n < 1000) {g : Nat → Nat} : ∀ {l : Nat} {p : Nat → Int32}, Pm n g l p → fb_ct (fun i => decide (p i = -9)) n + 2 * l = n
  | 0, p, h => by
    have := (fb_ct_all (p := fun i => decide (p i = -9)) (n := n)).mpr (fun k hk => decide_eq_true (h k hk))
    omega
  | l + 1, p, h => by
    obtain ⟨p', t, h1, h2, h3, h4, h5, h6⟩ := h
    have ih := Pm_ct hn h1
    have e1 : fb_ct (fun i => decide (p i = -9)) n = fb_ct (fun k => if k = g l then false else if k = t then false else decide (p' k = -9)) n := by
      apply fb_ct_cong
      intro k hk
      show decide (p k = -9) = _
      rw [h6 k hk]
      by_cases q1 : k = g l
      · rw [if_pos q1, if_pos q1]; exact decide_eq_false (nI_m9 (by omega))
      · rw [if_neg q1, if_neg q1]
        by_cases q2 : k = t
        · rw [if_pos q2, if_pos q2]; exact decide_eq_false (nI_m9 (by omega))
        · rw [if_neg q2, if_neg q2]
    have e2 := fb_ct_upd (fun k => if k = t then false else decide (p' k = -9)) false (show g l < n by omega)
    have e3 := fb_ct_upd (fun k => decide (p' k = -9)) false h3
    rw [if_pos (decide_eq_true h5), if_neg (by decide : ¬ false = true)] at e3
    rw [if_neg (show ¬ g l = t by omega), if_pos (decide_eq_true h4), if_neg (by decide : ¬ false = true)] at e2
    rw [e1]
    omega
theorem s9_firstFree {n : Nat} (hn : n ≤ 128) (S : MS) (h25 : fI S 25 = nI n) (Q : Int32 → Prop) (h : ∀ i, i ≤ n → (∀ j, j < i → ¬ aI S 29 j < 0) → (i < n → aI S 29 i < 0) → Q (nI i)) : w9_firstFree S Q := by
  unfold w9_firstFree w9_firstFree_b2
  refine lp_up n (fun z => z) (fun k _ => ∀ j, j < k → ¬ aI S 29 j < 0) (by omega) ?_ (Nat.zero_le _) (rfl : (0 : Int32) = nI 0) (by exact fun j hj => absurd hj (Nat.not_lt_zero j))
  rintro K y k hk hcc hj hK
  try dsimp only at hcc hj hK
  subst hcc
  unfold w9_firstFree_F2 w9_firstFree_d2 w9_firstFree_b25
  try dsimp only
  rw [h25]
  refine ⟨fun c => ?_, fun c => ?_⟩
  · have e := nI_end (by omega) hk c
    subst e
    exact h k (Nat.le_refl _) hj (fun c => absurd c (Nat.lt_irrefl _))
  have hlt := nI_go (by omega) hk c
  rw [rA_n _ _ (by omega)]
  refine ⟨vp_in_nI (by omega) (by decide), fun q => h k hk hj (fun _ => q), fun q => ?_⟩
  rintro _ rfl
  refine hK _ hlt (nI_1 k) (fun j hj2 => ?_)
  by_cases e : j = k
  · rw [e]; exact q
  · exact hj j (by omega)
theorem t9_keepFirst (S : MS) (Q : MS → Prop) (h : ∀ S', Fr [38, 39] S S' → Q S') : w9_keepFirst S Q := by
  unfold w9_keepFirst w9_keepFirst_b2
  refine lp_up 64 (fun z => z.1) (fun _ z => Fr [38, 39] S z.2) (by decide) ?_ (Nat.zero_le _) (rfl : (0 : Int32) = nI 0) (by exact fr_rf)
  rintro K ⟨y, S1⟩ k hk hcc hF hK
  try dsimp only at hcc hF hK
  subst hcc
  unfold w9_keepFirst_F2 w9_keepFirst_d2
  try dsimp only
  refine ⟨fun _ => ?_, fun c => ?_⟩
  · unfold w9_keepFirst_b41
    refine lp_up 5 (fun z => z.1) (fun _ z => Fr [38, 39] S z.2) (by decide) ?_ (Nat.zero_le _) (rfl : (0 : Int32) = nI 0) (by exact hF)
    rintro K2 ⟨y, S2⟩ k2 hk2 hcc hF2 hK2
    try dsimp only at hcc hF2 hK2
    subst hcc
    unfold w9_keepFirst_F41 w9_keepFirst_d41
    try dsimp only
    refine ⟨fun _ => h _ hF2, fun c => ?_⟩
    have hlt := nI_go (N := 5) (by decide) hk2 c
    refine ⟨vp_in_nI hlt (by decide), ?_⟩
    rintro _ rfl _ rfl
    exact hK2 (_, _) hlt (nI_1 k2) (fr_tr hF2 (fr_sA (by decide)))
  have hlt := nI_go (N := 64) (by decide) hk c
  have k32 : ∀ v, w9_keepFirst_b32 (fun y0 y1 => K (y0, y1)) (nI k) (nI k) v S1 Q := by
    intro v
    unfold w9_keepFirst_b32
    refine ⟨vp_in_nI hlt (by decide), ?_⟩
    rintro _ rfl _ rfl
    exact hK (_, _) hlt (nI_1 k) (fr_tr hF (fr_sA (by decide)))
  exact ⟨fun _ => k32 _, fun _ => ⟨vp_in_nI (by omega) (by decide), k32 _⟩⟩
theorem i_zero {x : Int32} (h : x + 1 = nI 0) : x = -1 := by
  have := congrArg (fun z => z - 1) h
  simp only [Int32.add_sub_cancel] at this
  rw [this]; rfl
theorem m9_neg : (-9 : Int32) < 0 := by decide
/-- what the search stands on -/
def Gi (S0 S : MS) (n N : Nat) (x5 x6 : Int32) : Prop := Fr [29, 30, 31, 32, 33, 34, 35, 36, 37, 38, 39] S0 S ∧ (∃ T, T ≤ N ∧ fI S 33 = nI T) ∧ ∃ m, x5 + 1 = nI m ∧ m ≤ 50 ∧ ∀ L, m = L + 1 → ∃ g, Pm n g L (aI S 29) ∧ (∀ l, l ≤ L → g l < n ∧ aI S 37 l = nI (g l)) ∧ aI S 29 (g L) = -9 ∧ ∃ τ, g L ≤ τ ∧ τ ≤ n ∧ x6 + 1 = nI τ
set_option maxHeartbeats 4000000 in
theorem t9_glLoop {n N : Nat} (S0 S : MS) (hN : N ≤ 20000) (hR : Rim9 S0 n) (x4 x5 x6 : Int32) (hG0 : Gi S0 S n N x5 x6) (Q : Int32 → MS → Prop) (h : ∀ r S', Fr [29, 30, 31, 32, 33, 34, 35, 36, 37, 38, 39] S0 S' → Q r S') : w9_gluings_b83 (nI N) x4 x5 x6 S Q := by
  obtain ⟨h1, h2, h3, h4⟩ := hR
  unfold w9_gluings_b83
  refine lp_of (fun z : Int32 × Int32 × Int32 × MS => Gi S0 z.2.2.2 n N z.2.1 z.2.2.1) (fun z => 2 * (N - (fI z.2.2.2 33).toNatClampNeg) + (z.2.1 + 1).toNatClampNeg) ?_ (by exact hG0)
  clear hG0
  rintro K ⟨lg, x5, x6, S1⟩ ⟨hF, ⟨T, hT, eT⟩, m, hm, hm50, hL⟩ hK
  try dsimp only at hF eT hm hL hK
  have e25 : fI S1 25 = nI n := (hF 25 (by decide)).1.trans h3
  unfold w9_gluings_F83 w9_gluings_d83
  try dsimp only
  refine ⟨fun _ => ?_, fun hneg => ?_⟩
  · have k346 : ∀ v, (v = 0 ∨ v = 1) → w9_gluings_b346 lg v S1 Q := by
      intro v hv
      unfold w9_gluings_b346
      refine ⟨⟨nbool hv, by rcases hv with rfl | rfl <;> rfl⟩, ?_⟩
      rintro _ rfl
      unfold w9_gluings_b352
      refine lp_up 64 (fun z => z.1) (fun _ z => Fr [29, 30, 31, 32, 33, 34, 35, 36, 37, 38, 39] S0 z.2) (by decide) ?_ (Nat.zero_le _) (rfl : (0 : Int32) = nI 0) (by exact fr_tr hF (fr_sI (by decide)))
      rintro K1 ⟨y, S2⟩ k hk hcc hF2 hK1
      try dsimp only at hcc hF2 hK1
      subst hcc
      unfold w9_gluings_F352 w9_gluings_d352
      try dsimp only
      refine ⟨fun _ => ?_, fun c => ?_⟩
      · unfold w9_gluings_b394
        refine lp_up 5 (fun z => z.1) (fun _ z => Fr [29, 30, 31, 32, 33, 34, 35, 36, 37, 38, 39] S0 z.2) (by decide) ?_ (Nat.zero_le _) (rfl : (0 : Int32) = nI 0) (by exact hF2)
        rintro K2 ⟨y, S3⟩ k2 hk2 hcc hF3 hK2
        try dsimp only at hcc hF3 hK2
        subst hcc
        unfold w9_gluings_F394 w9_gluings_d394
        try dsimp only
        refine ⟨fun _ => h _ _ hF3, fun c => ?_⟩
        have hlt := nI_go (N := 5) (by decide) hk2 c
        refine ⟨vp_in_nI hlt (by decide), ?_⟩
        rintro _ rfl _ rfl
        exact hK2 (_, _) hlt (nI_1 k2) (fr_tr hF3 (fr_sA (by decide)))
      have hlt := nI_go (N := 64) (by decide) hk c
      have k384 : ∀ v, w9_gluings_b384 (fun y0 y1 => K1 (y0, y1)) lg (nI k) (nI k) v S2 Q := by
        intro v
        unfold w9_gluings_b384
        refine ⟨vp_in_nI hlt (by decide), ?_⟩
        rintro _ rfl _ rfl
        exact hK1 (_, _) hlt (nI_1 k) (fr_tr hF2 (fr_sA (by decide)))
      exact ⟨fun _ => k384 _, fun _ => ⟨vp_in_nI hlt (by decide), k384 _⟩⟩
    exact ⟨fun _ => k346 _ (Or.inl rfl), fun _ => k346 _ (Or.inr rfl)⟩
  obtain ⟨L, rfl⟩ : ∃ L, m = L + 1 := by
    rcases Nat.eq_zero_or_pos m with q | q
    · subst q
      rw [i_zero hm] at hneg
      exact absurd (by decide) hneg
    · exact ⟨m - 1, by omega⟩
  have ex := i_pred hm
  subst ex
  clear hm hneg
  obtain ⟨g, hPm, hg, hfree, τ, hτ1, hτ2, hτ⟩ := hL L rfl
  clear hL
  obtain ⟨hgL, egL⟩ := hg L (Nat.le_refl _)
  have hct := Pm_ct (by omega) hPm
  rw [rA_n _ _ (by omega), egL]
  refine ⟨vp_in_nI (by omega) (by decide), ?_⟩
  rintro _ rfl
  have e6 : x6 + 2 = nI (τ + 1) := by
    rw [← nI_1, ← hτ, Int32.add_assoc]; rfl
  rw [e6, e25]
  rintro _ rfl
  have k166 : ∀ may, (may = 0 ∨ (may = 1 ∧ τ + 1 < n ∧ aI S1 29 (τ + 1) = -9)) → w9_gluings_b166 (fun y0 y1 y2 y3 => K (y0, y1, y2, y3)) (nI N) lg (nI L) (nI (τ + 1)) (nI (g L)) may S1 Q := by
    intro may hmay
    unfold w9_gluings_b166
    refine ⟨fun hm1 => ?_, fun hm0 => ?_⟩
    · obtain ⟨_, hto, hfto⟩ : may = 1 ∧ τ + 1 < n ∧ aI S1 29 (τ + 1) = -9 := by
        rcases hmay with q | q
        · exact absurd q hm1
        · exact q
      rw [eT]
      refine ⟨fun hsp => ?_, fun _ => h _ _ hF⟩
      have hTN : T < N := by
        have : ¬ T = N := fun e => hsp (by rw [e])
        omega
      rw [nI_1]
      rintro _ rfl
      refine ⟨vp_in_nI (by omega) (by decide), ?_⟩
      rintro _ rfl
      refine ⟨vp_in_nI (by omega) (by decide), ?_⟩
      rintro _ rfl
      have e29 : aI (sA (sA (sI S1 33 (nI (T + 1))) 29 (nI (g L)) (nI (τ + 1))) 29 (nI (τ + 1)) (nI (g L))) 29 = upd (upd (aI S1 29) (g L) (nI (τ + 1))) (τ + 1) (nI (g L)) := by
        rw [rd_A, rd_A, nI_clamp (by omega), nI_clamp (by omega)]
        rfl
      have hF2 : Fr [29, 30, 31, 32, 33, 34, 35, 36, 37, 38, 39] S0 (sA (sA (sI S1 33 (nI (T + 1))) 29 (nI (g L)) (nI (τ + 1))) 29 (nI (τ + 1)) (nI (g L))) := fr_tr hF (fr_tr (fr_tr (fr_sI (by decide)) (fr_sA (by decide))) (fr_sA (by decide)))
      have e33 : fI (sA (sA (sI S1 33 (nI (T + 1))) 29 (nI (g L)) (nI (τ + 1))) 29 (nI (τ + 1)) (nI (g L))) 33 = nI (T + 1) := by
        show fI (sI S1 33 (nI (T + 1))) 33 = _
        exact rd_fI _ _ _
      have e37 : aI (sA (sA (sI S1 33 (nI (T + 1))) 29 (nI (g L)) (nI (τ + 1))) 29 (nI (τ + 1)) (nI (g L))) 37 = aI S1 37 := by
        rw [rd_sn _ (by decide), rd_sn _ (by decide)]
        rfl
      generalize sA (sA (sI S1 33 (nI (T + 1))) 29 (nI (g L)) (nI (τ + 1))) 29 (nI (τ + 1)) (nI (g L)) = S2 at e29 hF2 e33 e37
      have e25b : fI S2 25 = nI n := (hF2 25 (by decide)).1.trans h3
      have hPm2 : Pm n g (L + 1) (aI S2 29) := by
        refine ⟨aI S1 29, τ + 1, hPm, by omega, hto, hfree, hfto, fun i hi => ?_⟩
        rw [e29]
        unfold upd
        by_cases q1 : i = g L
        · rw [if_neg (by omega), if_pos q1, if_pos q1]
        · by_cases q2 : i = τ + 1
          · rw [if_pos q2, if_neg q1, if_pos q2]
          · rw [if_neg q2, if_neg q1, if_neg q1, if_neg q2]
      have hct2 := Pm_ct (by omega) hPm2
      rw [e25b]
      refine s9_firstFree (by omega) S2 e25b _ (fun i hi hlow hfr => ⟨fun hge => ?_, fun hge => ?_⟩)
      · have ei := nI_end (by omega) hi hge
        subst ei
        have hP : Prt S2 i := by
          intro k hk
          rcases Pm_val hPm2 k hk with q | q
          · have := hlow k hk
            rw [q] at this
            exact absurd m9_neg this
          · exact q
        have hR2 : Rim9 S2 i := ⟨h1, h2, e25b, fun k hk => by rw [(hF2 28 (by decide)).2.2.1]; exact h4 k hk⟩
        refine t9_isLegal S2 hR2 hP _ (fun r S3 hF3 => ?_)
        have k314 : ∀ v S4, Fr [30, 31, 32, 38, 39] S2 S4 → w9_gluings_b314 (fun y0 y1 y2 y3 => K (y0, y1, y2, y3)) (nI N) v (nI L) (nI (τ + 1)) (nI (g L)) S4 Q := by
          intro v S4 hF4
          unfold w9_gluings_b314
          refine ⟨vp_in_nI (by omega) (by decide), ?_⟩
          rintro _ rfl
          refine ⟨vp_in_nI (by omega) (by decide), ?_⟩
          rintro _ rfl
          have f29 : aI (sA (sA S4 29 (nI (τ + 1)) (-9 : Int32)) 29 (nI (g L)) (-9 : Int32)) 29 = upd (upd (aI S2 29) (τ + 1) (-9)) (g L) (-9) := by
            rw [rd_A, rd_A, nI_clamp (by omega), nI_clamp (by omega), (hF4 29 (by decide)).2.2.1]
          have f33 : fI (sA (sA S4 29 (nI (τ + 1)) (-9 : Int32)) 29 (nI (g L)) (-9 : Int32)) 33 = nI (T + 1) := (fi_sA _ _ _ _ _).trans ((fi_sA _ _ _ _ _).trans ((hF4 33 (by decide)).1.trans e33))
          have f37 : aI (sA (sA S4 29 (nI (τ + 1)) (-9 : Int32)) 29 (nI (g L)) (-9 : Int32)) 37 = aI S1 37 := by
            rw [rd_sn _ (by decide), rd_sn _ (by decide), (hF4 37 (by decide)).2.2.1, e37]
          have hF5 : Fr [29, 30, 31, 32, 33, 34, 35, 36, 37, 38, 39] S0 (sA (sA S4 29 (nI (τ + 1)) (-9 : Int32)) 29 (nI (g L)) (-9 : Int32)) := fr_tr hF2 (fr_tr (fr_mono hF4 (by decide)) (fr_tr (fr_sA (by decide)) (fr_sA (by decide))))
          generalize sA (sA S4 29 (nI (τ + 1)) (-9 : Int32)) 29 (nI (g L)) (-9 : Int32) = S5 at f29 f33 f37 hF5
          have hback : ∀ k, k < i → aI S5 29 k = aI S1 29 k := by
            intro k hk
            rw [f29, e29]
            unfold upd
            by_cases q1 : k = g L
            · rw [if_pos q1, q1]; exact hfree.symm
            · rw [if_neg q1]
              by_cases q2 : k = τ + 1
              · rw [if_pos q2, q2]; exact hfto.symm
              · rw [if_neg q2, if_neg q2, if_neg q1]
          refine hK (_, _, _, _) ⟨hF5, ⟨T + 1, by omega, f33⟩, L + 1, nI_1 L, hm50, fun L' eL => ?_⟩ ?_
          · have eL2 : L' = L := by omega
            subst eL2
            refine ⟨g, Pm_cong hback hPm, fun l hl => ⟨(hg l hl).1, ?_⟩, ?_, τ + 2, by omega, by omega, nI_1 (τ + 1)⟩
            · show aI S5 37 l = nI (g l)
              rw [f37]; exact (hg l hl).2
            · show aI S5 29 (g L') = -9
              rw [hback _ hgL]; exact hfree
          · show 2 * (N - (fI S5 33).toNatClampNeg) + (nI L + 1).toNatClampNeg < 2 * (N - (fI S1 33).toNatClampNeg) + (nI L + 1).toNatClampNeg
            rw [f33, eT, nI_clamp (by omega), nI_clamp (by omega)]
            omega
        refine ⟨fun _ => k314 _ _ (fr_mono hF3 (by decide)), fun _ => ?_⟩
        rintro _ rfl
        exact ⟨fun _ => k314 _ _ (fr_mono hF3 (by decide)), fun _ => t9_keepFirst _ _ (fun S4 hF4 => k314 _ _ (fr_tr (fr_mono hF3 (by decide)) (fr_mono hF4 (by decide))))⟩
      · have hin := nI_go (by omega) hi hge
        have hfri := hfr hin
        have hfi : aI S2 29 i = -9 := by
          rcases Pm_val hPm2 i hin with q | ⟨j, hj, q⟩
          · exact q
          · rw [q] at hfri; exact absurd hfri (nI_pos (by omega))
        rw [nI_1]
        rintro _ rfl
        refine ⟨vp_in_nI (by omega) (by decide), ?_⟩
        rintro _ rfl _ rfl
        have f37 : aI (sA S2 37 (nI (L + 1)) (nI i)) 37 = upd (aI S1 37) (L + 1) (nI i) := by
          rw [rd_A, nI_clamp (by omega), e37]
        have f29 : aI (sA S2 37 (nI (L + 1)) (nI i)) 29 = aI S2 29 := rd_sn _ (by decide)
        have f33 : fI (sA S2 37 (nI (L + 1)) (nI i)) 33 = nI (T + 1) := (fi_sA _ _ _ _ _).trans e33
        have hF5 : Fr [29, 30, 31, 32, 33, 34, 35, 36, 37, 38, 39] S0 (sA S2 37 (nI (L + 1)) (nI i)) := fr_tr hF2 (fr_sA (by decide))
        generalize sA S2 37 (nI (L + 1)) (nI i) = S5 at f37 f29 f33 hF5
        refine hK (_, _, _, _) ⟨hF5, ⟨T + 1, by omega, f33⟩, L + 2, nI_1 (L + 1), by omega, fun L' eL => ?_⟩ ?_
        · have eL2 : L' = L + 1 := by omega
          subst eL2
          refine ⟨fun l => if l = L + 1 then i else g l, ?_, fun l hl => ?_, ?_, i, ?_, by omega, ?_⟩
          · show Pm n _ (L + 1) (aI S5 29)
            rw [f29]
            exact Pm_g (fun k hk => if_neg (by omega)) hPm2
          · show (if l = L + 1 then i else g l) < n ∧ aI S5 37 l = nI (if l = L + 1 then i else g l)
            rw [f37]
            by_cases q : l = L + 1
            · rw [if_pos q, q, pk_us]; exact ⟨hin, rfl⟩
            · rw [if_neg q, pk_un q]; exact hg l (by omega)
          · show aI S5 29 (if L + 1 = L + 1 then i else g (L + 1)) = -9
            rw [if_pos rfl, f29]; exact hfi
          · show (if L + 1 = L + 1 then i else g (L + 1)) ≤ i
            rw [if_pos rfl]; exact Nat.le_refl _
          · show nI i - 1 + 1 = nI i
            rw [Int32.sub_add_cancel]
        · show 2 * (N - (fI S5 33).toNatClampNeg) + (nI (L + 1) + 1).toNatClampNeg < 2 * (N - (fI S1 33).toNatClampNeg) + (nI L + 1).toNatClampNeg
          rw [f33, eT, nI_1, nI_1, nI_clamp (by omega), nI_clamp (by omega), nI_clamp (by omega), nI_clamp (by omega)]
          omega
    · rintro _ rfl
      refine ⟨fun hlt0 => ?_, fun hge0 => ?_⟩
      · refine hK (_, _, _, _) ⟨hF, ⟨T, hT, eT⟩, 0, ?_, by omega, fun L' eL => absurd eL (by omega)⟩ ?_
        · show nI L + (-1) + 1 = nI 0
          rcases Nat.eq_zero_or_pos L with q | q
          · rw [m1p1, q]
          · rw [sb_m1 q] at hlt0
            exact absurd hlt0 (nI_pos (by omega))
        · show 2 * (N - (fI S1 33).toNatClampNeg) + (nI L + (-1) + 1).toNatClampNeg < 2 * (N - (fI S1 33).toNatClampNeg) + (nI L + 1).toNatClampNeg
          rw [m1p1, nI_1, nI_clamp (by omega), nI_clamp (by omega)]
          omega
      · obtain ⟨L', rfl⟩ : ∃ L', L = L' + 1 := by
          rcases Nat.eq_zero_or_pos L with q | q
          · rw [q] at hge0
            exact absurd (by decide) hge0
          · exact ⟨L - 1, by omega⟩
        clear hge0
        rw [pk_m1]
        obtain ⟨p', t, hp', hgt, htn, hf1, hf2, hp⟩ := hPm
        obtain ⟨hgL', egL'⟩ := hg L' (by omega)
        rw [rA_n _ 37 (by omega), egL', rA_n _ 29 (by omega), hp _ hgL', if_pos rfl]
        refine ⟨vp_in_nI (by omega) (by decide), vp_in_nI (by omega) (by decide), ?_⟩
        rintro _ rfl
        refine ⟨vp_in_nI (by omega) (by decide), ?_⟩
        rintro _ rfl
        have e37 : aI (sA S1 29 (nI t) (-9 : Int32)) 37 = aI S1 37 := rd_sn _ (by decide)
        rw [rA_n _ 37 (by omega), e37, egL']
        refine ⟨vp_in_nI (by omega) (by decide), ?_⟩
        rintro _ rfl
        have f29 : aI (sA (sA S1 29 (nI t) (-9 : Int32)) 29 (nI (g L')) (-9 : Int32)) 29 = upd (upd (aI S1 29) t (-9)) (g L') (-9) := by
          rw [rd_A, rd_A, nI_clamp (by omega), nI_clamp (by omega)]
        have f33 : fI (sA (sA S1 29 (nI t) (-9 : Int32)) 29 (nI (g L')) (-9 : Int32)) 33 = nI T := (fi_sA _ _ _ _ _).trans ((fi_sA _ _ _ _ _).trans eT)
        have f37 : aI (sA (sA S1 29 (nI t) (-9 : Int32)) 29 (nI (g L')) (-9 : Int32)) 37 = aI S1 37 := by
          rw [rd_sn _ (by decide), rd_sn _ (by decide)]
        have hF5 : Fr [29, 30, 31, 32, 33, 34, 35, 36, 37, 38, 39] S0 (sA (sA S1 29 (nI t) (-9 : Int32)) 29 (nI (g L')) (-9 : Int32)) := fr_tr hF (fr_tr (fr_sA (by decide)) (fr_sA (by decide)))
        generalize sA (sA S1 29 (nI t) (-9 : Int32)) 29 (nI (g L')) (-9 : Int32) = S5 at f29 f33 f37 hF5
        have hback : ∀ k, k < n → aI S5 29 k = p' k := by
          intro k hk
          rw [f29]
          unfold upd
          by_cases q1 : k = g L'
          · rw [if_pos q1, q1]; exact hf1.symm
          · rw [if_neg q1]
            by_cases q2 : k = t
            · rw [if_pos q2, q2]; exact hf2.symm
            · rw [if_neg q2, hp k hk, if_neg q1, if_neg q2]
        refine hK (_, _, _, _) ⟨hF5, ⟨T, hT, f33⟩, L' + 1, nI_1 L', by omega, fun L2 eL => ?_⟩ ?_
        · have eL2 : L2 = L' := by omega
          subst eL2
          refine ⟨g, Pm_cong hback hp', fun l hl => ⟨(hg l (by omega)).1, ?_⟩, ?_, t + 1, by omega, by omega, nI_1 t⟩
          · show aI S5 37 l = nI (g l)
            rw [f37]; exact (hg l (by omega)).2
          · show aI S5 29 (g L2) = -9
            rw [hback _ hgL']; exact hf1
        · show 2 * (N - (fI S5 33).toNatClampNeg) + (nI L' + 1).toNatClampNeg < 2 * (N - (fI S1 33).toNatClampNeg) + (nI (L' + 1) + 1).toNatClampNeg
          rw [f33, eT, nI_1, nI_1, nI_clamp (by omega), nI_clamp (by omega), nI_clamp (by omega)]
          omega
  have k131 : ∀ may, (may = 0 ∨ (may = 1 ∧ τ + 1 < n)) → w9_gluings_b131 (fun y0 y1 y2 y3 => K (y0, y1, y2, y3)) (nI N) lg (nI L) (nI (τ + 1)) (nI (g L)) may (nI (g L + 1)) S1 Q := by
    intro may hmay
    unfold w9_gluings_b131
    refine lp_up (τ + 2) (fun z => z.2) (fun k z => z.1 = 0 ∨ (z.1 = 1 ∧ τ + 1 < n ∧ ∀ j, g L < j → j < k → aI S1 29 j = -9)) (by omega) ?_ (by omega) (rfl : nI (g L + 1) = nI (g L + 1)) ?_
    rotate_left
    · show may = 0 ∨ (may = 1 ∧ τ + 1 < n ∧ ∀ j, g L < j → j < g L + 1 → aI S1 29 j = -9)
      rcases hmay with q | q
      · exact Or.inl q
      · exact Or.inr ⟨q.1, q.2, fun j q1 q2 => absurd q2 (by omega)⟩
    rintro K1 ⟨may1, y⟩ k hk hcc hI hK1
    try dsimp only at hcc hI hK1
    subst hcc
    unfold w9_gluings_F131 w9_gluings_d131
    try dsimp only
    refine ⟨fun c => k166 _ ?_, fun c => ⟨fun q => k166 _ (Or.inl q), fun q => ?_⟩⟩
    · have := (nI_ltI (a := τ + 1) (b := k) (by omega) (by omega)).mp c
      rcases hI with q | ⟨q1, q2, q3⟩
      · exact Or.inl q
      · exact Or.inr ⟨q1, q2, q3 _ (by omega) (by omega)⟩
    · have hklt : ¬ τ + 1 < k := fun q => c (nI_lt q (by omega))
      obtain ⟨q1, q2, q3⟩ : may1 = 1 ∧ τ + 1 < n ∧ ∀ j, g L < j → j < k → aI S1 29 j = -9 := by
        rcases hI with r | r
        · exact absurd r q
        · exact r
      rw [rA_n _ _ (by omega)]
      unfold w9_gluings_b158
      refine ⟨vp_in_nI (by omega) (by decide), fun _ => ?_, fun hn => ?_⟩
      · rintro _ rfl
        exact hK1 (_, _) (by omega) (nI_1 k) (Or.inl rfl)
      · rintro _ rfl
        refine hK1 (_, _) (by omega) (nI_1 k) (Or.inr ⟨rfl, q2, fun j r1 r2 => ?_⟩)
        by_cases e : j = k
        · subst e
          rcases Pm_val hPm j (by omega) with r | ⟨v, hv, r⟩
          · exact r
          · rw [r] at hn; exact absurd (nI_pos' (by omega)) hn
        · exact q3 j r1 (by omega)
  unfold w9_gluings_b122 w9_gluings_b123
  rw [nI_1]
  refine ⟨fun _ => ?_, fun _ => ⟨fun _ => ?_, fun c => ?_⟩⟩
  · rintro _ rfl
    exact k131 _ (Or.inl rfl)
  · rintro _ rfl
    exact k131 _ (Or.inl rfl)
  · rintro _ rfl
    refine k131 _ (Or.inr ⟨rfl, ?_⟩)
    rcases Nat.lt_or_ge (τ + 1) n with q | q
    · exact q
    · exact absurd (nI_le q (by omega)) c
theorem t9_gluings (f x : Int32) (S : MS) (Q : Int32 → MS → Prop) (hI : Inv9 S) (h : ∀ r S', G9 S S' → Q r S') : w9_gluings f x S Q := by
  have e0 : (0 : Int32).toInt = 0 := rfl
  have e1 : (1 : Int32).toInt = 1 := rfl
  have e2 : (20000 : Int32).toInt = 20000 := rfl
  unfold w9_gluings
  refine s9_in _ _ _ _ (fun hx => ⟨fun _ => s9_askedRim f S _ hI (fun r S' hr hG => ⟨fun c => ?_, fun _ => h _ _ hG⟩) (fun S1 n hF1 hR => ⟨fun _ => ?_, fun c => absurd r0_pos c⟩), fun c => absurd c (by decide)⟩) (fun _ => ⟨fun c => absurd rfl c, fun _ => h _ _ (g9_rf hI)⟩)
  · rw [pi_le] at c; omega
  obtain ⟨N, hN, rfl⟩ := vp_in_of (n := 20001) (pi_in.mpr (by omega) : vp_in x 20001) (by decide)
  obtain ⟨h1, h2, h3, h4⟩ := id hR
  rintro _ rfl
  unfold w9_gluings_b33
  refine lp_up n (fun z => z.1) (fun k z => Fr [29, 33] S1 z.2 ∧ fI z.2 33 = nI 0 ∧ ∀ j, j < k → aI z.2 29 j = -9) (by omega) ?_ (Nat.zero_le _) (rfl : (0 : Int32) = nI 0) (by exact ⟨fr_sI (by decide), rd_fI _ _ _, fun j hj => absurd hj (Nat.not_lt_zero j)⟩)
  rintro K ⟨y, S2⟩ k hk hcc ⟨hF2, h33, hj⟩ hK
  try dsimp only at hcc hF2 h33 hj hK
  subst hcc
  have e25 : fI S2 25 = nI n := (hF2 25 (by decide)).1.trans h3
  unfold w9_gluings_F33 w9_gluings_d33
  try dsimp only
  rw [e25]
  refine ⟨fun c => ?_, fun c => ?_⟩
  · have ek := nI_end (by omega) hk c
    subst ek
    refine s9_firstFree (by omega) S2 e25 _ (fun i hi hlow hfr => ?_)
    have ei : i = 0 := by
      rcases Nat.eq_zero_or_pos i with q | q
      · exact q
      · have := hlow 0 q
        rw [hj 0 (by omega)] at this
        exact absurd m9_neg this
    subst ei
    rintro _ rfl
    have f37 : aI (sA S2 37 (0 : Int32) (nI 0)) 37 = upd (aI S2 37) 0 (nI 0) := rd_A _ _ _ _
    have g37 : rA (sA S2 37 (0 : Int32) (nI 0)) 37 (0 : Int32) = nI 0 := by
      show aI (sA S2 37 (0 : Int32) (nI 0)) 37 0 = nI 0
      rw [f37, pk_us]
    rw [g37]
    rintro _ rfl
    have hF3 : Fr [29, 33, 37] S1 (sA S2 37 (0 : Int32) (nI 0)) := fr_tr (fr_mono hF2 (by decide)) (fr_sA (by decide))
    have f33 : fI (sA S2 37 (0 : Int32) (nI 0)) 33 = nI 0 := (fi_sA _ _ _ _ _).trans h33
    have f29 : aI (sA S2 37 (0 : Int32) (nI 0)) 29 = aI S2 29 := rd_sn _ (by decide)
    generalize sA S2 37 (0 : Int32) (nI 0) = S3 at hF3 f33 f29 f37
    refine t9_glLoop S1 S3 (by omega) hR _ _ _ ⟨fr_mono hF3 (by decide), ⟨0, Nat.zero_le _, f33⟩, 1, rfl, by decide, fun L eL => ?_⟩ Q (fun r S4 hF4 => h _ _ (g9_rim hI (fr_tr (fr_mono hF1 (by decide)) (fr_mono hF4 (by decide)))))
    have eL2 : L = 0 := by omega
    subst eL2
    refine ⟨fun _ => 0, fun i hi => by rw [f29]; exact hj i hi, fun l hl => ⟨(show 0 < k by omega), ?_⟩, by rw [f29]; exact hj 0 (by omega), 0, Nat.le_refl _, Nat.zero_le _, rfl⟩
    rw [f37, show l = 0 by omega, pk_us]
  · have hlt := nI_go (by omega) hk c
    refine ⟨vp_in_nI (by omega) (by decide), ?_⟩
    rintro _ rfl _ rfl
    refine hK (_, _) hlt (nI_1 k) ⟨fr_tr hF2 (fr_sA (by decide)), (fi_sA _ _ _ _ _).trans h33, fun j hj2 => ?_⟩
    try dsimp only
    rw [rd_A, nI_clamp (by omega)]
    by_cases e : j = k
    · rw [e, pk_us]
    · rw [pk_un e]; exact hj j (by omega)
theorem t9_isGluing {r n : Nat} (hr : r < 4) (S : MS) (h24 : (aI S 40 r).toInt ≤ 24) (h1 : 1 ≤ n) (h96 : n ≤ 96) (h25 : fI S 25 = nI n) (Q : Int32 → Prop) (h0 : Q 0) (hk : n ≤ 24 → (∀ i, i < n → ∃ p, p < n ∧ aI S 41 (24 * r + i) = nI p) → Q 1) : w9_isGluing (nI r) S Q := by
  unfold w9_isGluing w9_isGluing_b18
  rw [rA_n _ _ (by omega), h25]
  have main : ∀ g, (g = 0 ∨ (g = 1 ∧ n ≤ 24)) → w9_isGluing_b21 (nI r) g 0 S Q := by
    intro g0 hg0
    unfold w9_isGluing_b21
    refine lp_up n (fun z => z.2) (fun k z => z.1 = 0 ∨ (z.1 = 1 ∧ n ≤ 24 ∧ ∀ i, i < k → ∃ p, p < n ∧ aI S 41 (24 * r + i) = nI p)) (by omega) ?_ (Nat.zero_le _) (rfl : (0 : Int32) = nI 0) ?_
    rotate_left
    · show g0 = 0 ∨ (g0 = 1 ∧ n ≤ 24 ∧ ∀ i, i < 0 → ∃ p, p < n ∧ aI S 41 (24 * r + i) = nI p)
      rcases hg0 with q | q
      · exact Or.inl q
      · exact Or.inr ⟨q.1, q.2, fun i hi => absurd hi (Nat.not_lt_zero i)⟩
    rintro K ⟨g, y⟩ k hk2 hcc hI hK
    try dsimp only at hcc hI hK
    subst hcc
    unfold w9_isGluing_F21 w9_isGluing_d21 w9_isGluing_b144
    try dsimp only
    rw [h25]
    refine ⟨fun c => ?_, fun c => ⟨fun q => ?_, fun q => ?_⟩⟩
    · have e := nI_end (by omega) hk2 c
      subst e
      rcases hI with q | ⟨q1, q2, q3⟩
      · rw [q]; exact ⟨rfl, h0⟩
      · rw [q1]; exact ⟨rfl, hk q2 q3⟩
    · rw [q]; exact ⟨rfl, h0⟩
    have hlt := nI_go (by omega) hk2 c
    obtain ⟨q1, q2, q3⟩ : g = 1 ∧ n ≤ 24 ∧ ∀ i, i < k → ∃ p, p < n ∧ aI S 41 (24 * r + i) = nI p := by
      rcases hI with w | w
      · exact absurd w q
      · exact w
    have ix : ∀ j, (24 : Int32) * nI r + nI j = nI (24 * r + j) := fun j => by rw [show (24 : Int32) = nI 24 from rfl, pk_mul, nI_add]
    have k94 : ∀ (j : Int32) (t0 : Int32), (t0 = 0 ∨ (t0 = 1 ∧ ∃ p, p < n ∧ j = nI p ∧ aI S 41 (24 * r + k) = nI p)) → w9_isGluing_b88 (fun y0 y1 => K (y0, y1)) (nI r) (nI k) j t0 S Q := by
      intro j t0 ht0
      unfold w9_isGluing_b88 w9_isGluing_b94
      rw [nI_1]
      rintro _ rfl
      refine lp_of (fun z : Int32 × Int32 => (z.1 = 0 ∨ (z.1 = 1 ∧ ∃ p, p < n ∧ j = nI p ∧ aI S 41 (24 * r + k) = nI p)) ∧ ∃ a, k < a ∧ a ≤ 200 ∧ z.2 = nI a) (fun z => if z.1 = 0 then 0 else 300 - z.2.toNatClampNeg) ?_ (by exact ⟨ht0, k + 1, by omega, by omega, rfl⟩)
      rintro K2 ⟨t, y⟩ ⟨ht, a, ha1, ha2, ea⟩ hK2
      try dsimp only at ht ea hK2
      subst ea
      unfold w9_isGluing_F94 w9_isGluing_d94 w9_isGluing_b138
      try dsimp only
      have hend : ∀ y1 : Int32, y1 = nI k + 1 → K (t, y1) := by
        rintro _ rfl
        refine hK (_, _) hlt (nI_1 k) ?_
        rcases ht with w | ⟨w1, p, w2, _, w3⟩
        · exact Or.inl w
        · refine Or.inr ⟨w1, q2, fun i hi => ?_⟩
          by_cases e : i = k
          · rw [e]; exact ⟨p, w2, w3⟩
          · exact q3 i (by omega)
      refine ⟨fun _ => hend, fun cj => ⟨fun _ => hend, fun ct => ?_⟩⟩
      obtain ⟨w1, p, w2, w3, w4⟩ : t = 1 ∧ ∃ p, p < n ∧ j = nI p ∧ aI S 41 (24 * r + k) = nI p := by
        rcases ht with w | w
        · exact absurd w ct
        · exact w
      have hap : a < p := by
        rcases Nat.lt_or_ge a p with w | w
        · exact w
        · rw [w3] at cj
          exact absurd (nI_le w (by omega)) cj
      rw [ix]
      refine ⟨vp_in_nI (by omega) (by decide), ?_⟩
      rintro _ rfl
      have e300 : ∀ v : Int32, (v = 0 ∨ v = 1) → (if v = 0 then 0 else 300 - (nI (a + 1)).toNatClampNeg) < if t = 0 then 0 else 300 - (nI a).toNatClampNeg := by
        intro v _
        rw [if_neg ct, nI_clamp (by omega), nI_clamp (by omega)]
        split <;> omega
      refine s9_in _ _ _ _ (fun _ => ?_) (fun _ => ?_)
      · rintro _ rfl
        rw [nI_1]
        exact hK2 (_, _) ⟨Or.inr ⟨rfl, p, w2, w3, w4⟩, a + 1, by omega, by omega, rfl⟩ (e300 _ (Or.inr rfl))
      · rintro _ rfl
        rw [nI_1]
        exact hK2 (_, _) ⟨Or.inl rfl, a + 1, by omega, by omega, rfl⟩ (e300 _ (Or.inl rfl))
    have k87 : ∀ j, w9_isGluing_b87 (fun y0 y1 => K (y0, y1)) (nI r) (nI k) j S Q := by
      intro j
      unfold w9_isGluing_b87
      exact k94 j 0 (Or.inl rfl)
    rw [ix]
    refine ⟨vp_in_nI (by omega) (by decide), ?_⟩
    rw [rA_n _ _ (by omega)]
    rintro _ rfl
    rw [show nI n - (1 : Int32) = nI (n - 1) from pk_sub (b := 1) (by omega)]
    have en : (nI (n - 1)).toInt = ((n - 1 : Nat) : Int) := nI_toInt (by omega)
    have e0 : (0 : Int32).toInt = 0 := rfl
    refine s9_in _ _ _ _ (fun hj => ⟨fun c => absurd c (by decide), fun _ => ⟨fun _ => k87 _, fun _ => ?_⟩⟩) (fun _ => ⟨fun _ => k87 _, fun c => absurd rfl c⟩)
    obtain ⟨p, hp, ep⟩ := vp_in_of (n := n) (pi_in.mpr (by omega) : vp_in (aI S 41 (24 * r + k)) n) (by omega)
    rw [ep, ix]
    exact ⟨vp_in_nI (by omega) (by decide), fun _ => k87 _, fun _ => k94 _ 1 (Or.inr ⟨rfl, p, hp, rfl, ep⟩)⟩
  refine ⟨vp_in_nI hr (by decide), fun _ => main _ (Or.inl rfl), fun q => main _ (Or.inr ⟨rfl, ?_⟩)⟩
  rw [q, nI_toInt (by omega)] at h24
  omega
theorem t9_glue (f x : Int32) (S : MS) (Q : Int32 → MS → Prop) (hI : Inv9 S) (h : ∀ r S', G9 S S' → Q r S') : w9_glue f x S Q := by
  have k36 : w9_glue_b36 S Q := by
    unfold w9_glue_b36
    exact m9_meets _ (by unfold vp_in; decide) _ _ hI h
  unfold w9_glue w9_glue_b14 w9_glue_b63
  refine s9_isFigure _ _ (fun hf => ⟨fun c => absurd c (by decide), fun _ => s9_isRow _ _ (fun hx => ⟨fun _ => ⟨hf, fun _ => k36, fun cz => ⟨hx, fun _ => ?_, fun _ => k36⟩⟩, fun c => absurd c (by decide)⟩) (fun _ => ⟨fun c => absurd rfl c, fun _ => h _ _ (g9_rf hI)⟩)⟩) (fun _ => ⟨fun _ => h _ _ (g9_rf hI), fun c => absurd rfl c⟩)
  rw [lg_cmp_eq] at cz
  obtain ⟨r, hr, rfl⟩ := vp_in_of hx (by decide)
  refine t9_isWalked _ cz (inv_fig hI hf) S _ (fun v S1 n hF1 hR => ⟨fun _ => h _ _ (g9_rim hI (fr_mono hF1 (by decide))), fun _ => ?_⟩)
  obtain ⟨h1, h2, h3, h4⟩ := id hR
  refine t9_isGluing hr S1 (by rw [(hF1 40 (by decide)).2.2.1]; exact hI.2.2 r hr) h1 h2 h3 _ ⟨fun c => absurd rfl c, fun _ => h _ _ (g9_rim hI (fr_mono hF1 (by decide)))⟩ (fun h24 hp => ⟨fun _ => ?_, fun c => absurd c (by decide)⟩)
  unfold w9_glue_b68
  refine lp_up n (fun z => z.1) (fun k z => Fr [29] S1 z.2 ∧ ∀ j, j < k → ∃ p, p < n ∧ aI z.2 29 j = nI p) (by omega) ?_ (Nat.zero_le _) (rfl : (0 : Int32) = nI 0) (by exact ⟨fr_rf, fun j hj => absurd hj (Nat.not_lt_zero j)⟩)
  rintro K ⟨y, S2⟩ k hk hcc ⟨hF2, hj⟩ hK
  try dsimp only at hcc hF2 hj hK
  subst hcc
  have e25 : fI S2 25 = nI n := (hF2 25 (by decide)).1.trans h3
  unfold w9_glue_F68 w9_glue_d68
  try dsimp only
  rw [e25]
  refine ⟨fun c => ?_, fun c => ?_⟩
  · have e := nI_end (by omega) hk c
    subst e
    refine t9_isLegal S2 ⟨h1, h2, e25, fun i hi => by rw [(hF2 28 (by decide)).2.2.1]; exact h4 i hi⟩ hj _ (fun r S3 hF3 => ?_)
    have hG : ∀ v, G9 S (sJ S3 2 v) := fun v => g9_rim hI (fr_tr (fr_mono hF1 (by decide)) (fr_tr (fr_mono hF2 (by decide)) (fr_tr (fr_mono hF3 (by decide)) (fr_sJ (by decide)))))
    unfold w9_glue_b114 w9_ask
    refine ⟨fun _ => ?_, fun _ => ?_⟩
    · rintro _ rfl; exact h _ _ (hG _)
    · rintro _ rfl; exact h _ _ (hG _)
  · have hlt := nI_go (by omega) hk c
    rw [show (24 : Int32) = nI 24 from rfl, pk_mul, nI_add]
    refine ⟨vp_in_nI (by omega) (by decide), vp_in_nI (by omega) (by decide), ?_⟩
    rintro _ rfl _ rfl
    refine hK (_, _) hlt (nI_1 k) ⟨fr_tr hF2 (fr_sA (by decide)), fun j hj2 => ?_⟩
    try dsimp only
    rw [rd_A, nI_clamp (by omega)]
    by_cases e : j = k
    · rw [e, pk_us, rA_n _ _ (by omega), (hF2 41 (by decide)).2.2.1]; exact hp k hlt
    · rw [pk_un e]; exact hj j (by omega)

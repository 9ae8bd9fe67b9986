/-! ===== pure: the start and the law ===== -/
theorem s9_init (Q : MS → Prop) (h : ∀ S, Inv9 S → (∀ r, r < 4 → aI S 40 r = -9) → (∀ b, b < 4 → dm S b 0 = 0) → Q S) : w9_init Q := by
  unfold w9_init w9_init_b276
  refine lp_up 4 (fun z => z.1) (fun k z => Fr [40] i9 z.2 ∧ ∀ j, j < k → aI z.2 40 j = -9) (by decide) ?_ (Nat.zero_le _) (rfl : (0 : Int32) = nI 0) (by exact ⟨fr_rf, fun j hj => absurd hj (Nat.not_lt_zero j)⟩)
  rintro K ⟨y, S1⟩ k hk hcc ⟨hF, hj⟩ hK
  try dsimp only at hcc hF hj hK
  subst hcc
  unfold w9_init_F276 w9_init_d276
  try dsimp only
  refine ⟨fun c => ?_, fun c => ?_⟩
  rotate_left
  · have hlt := nI_go (N := 4) (by decide) hk c
    refine ⟨vp_in_nI hlt (by decide), ?_⟩
    rintro _ rfl _ rfl
    refine hK (_, _) hlt (nI_1 k) ⟨fr_tr hF (fr_sA (by decide)), fun j hj2 => ?_⟩
    try dsimp only
    rw [rd_A, nI_clamp (by omega)]
    by_cases e : j = k
    · rw [e, pk_us]
    · rw [pk_un e]; exact hj j (by omega)
  have e := nI_end (N := 4) (by decide) hk c
  subst e
  unfold w9_init_b297
  refine lp_up 64 (fun z => z.1) (fun _ z => Fr [34] S1 z.2) (by decide) ?_ (Nat.zero_le _) (rfl : (0 : Int32) = nI 0) (by exact fr_rf)
  rintro K2 ⟨y, S2⟩ k2 hk2 hcc hF2 hK2
  try dsimp only at hcc hF2 hK2
  subst hcc
  unfold w9_init_F297 w9_init_d297
  try dsimp only
  refine ⟨fun _ => ?_, fun c => ?_⟩
  · have e40 : ∀ r, r < 4 → aI S2 40 r = -9 := fun r hr => by rw [(hF2 40 (by decide)).2.2.1]; exact hj r hr
    have edm : ∀ b, b < 4 → dm S2 b 0 = 0 := fun b _ => by
      unfold dm
      rw [(hF2 7 (by decide)).2.2.1, (hF 7 (by decide)).2.2.1]
      rfl
    refine h S2 ⟨fun b hb => Or.inl (edm b hb), fun f _ => ?_, fun r hr => ?_⟩ e40 edm
    · rw [(hF2 3 (by decide)).2.2.2, (hF 3 (by decide)).2.2.2]
      show pc 0 ≤ 24
      rw [pc_0]; omega
    · rw [e40 r hr, show (-9 : Int32).toInt = -9 from rfl]; omega
  · have hlt := nI_go (N := 64) (by decide) hk2 c
    refine ⟨vp_in_nI hlt (by decide), ?_⟩
    rintro _ rfl _ rfl
    exact hK2 (_, _) hlt (nI_1 k2) (fr_tr hF2 (fr_sA (by decide)))
theorem X8i_ok (T : MS) (hT : fI T 1 = 0) : Inv8 (va_up X8i 14 T) ∧ (∀ r, r < 4 → (fI (va_up X8i 14 T (10 + r)) 1).toInt = -1) ∧ ∀ b, b < 4 → fI (va_up X8i 14 T (6 + b)) 6 = 0 := by
  have ne : ∀ j, j ≠ 14 → va_up X8i 14 T j = X8i j := fun j h1 => va_up_ne _ _ h1
  have row : ∀ r, r < 4 → va_up X8i 14 T (10 + r) = i5 := fun r hr => by
    rw [ne _ (by omega)]
    unfold X8i
    rw [if_neg (by omega), if_neg (by omega), if_pos (by omega)]
  have box : ∀ b, b < 4 → va_up X8i 14 T (6 + b) = i1 := fun b hb => by
    rw [ne _ (by omega)]
    unfold X8i
    rw [if_neg (by omega), if_pos (by omega)]
  have m1 : (fI i5 1).toInt = -1 := rfl
  have z1 : (fI i1 6).toInt = 0 := rfl
  refine ⟨⟨fun r hr => ?_, fun b hb => ?_, ?_, ?_, ?_⟩, fun r hr => by rw [row r hr]; exact m1, fun b hb => by rw [box b hb]; rfl⟩
  · by_cases e : r = 4
    · rw [e, show 10 + 4 = 14 from rfl, va_up_self]
      unfold RowI
      rw [hT, show (0 : Int32).toInt = 0 from rfl]; omega
    · rw [row r (by omega)]
      unfold RowI
      omega
  · rw [box b hb]
    refine ⟨by omega, by omega, fun c hc => ?_⟩
    omega
  · rw [ne _ (by decide)]; exact ⟨0, by decide, rfl⟩
  · rw [ne _ (by decide)]; exact ⟨0, by decide, rfl⟩
  · rw [ne _ (by decide)]; exact ⟨0, by decide, rfl⟩
set_option maxHeartbeats 4000000 in
theorem pure_all {L : Nat} (hL : L ≤ 3072) (xs : Nat → Int32) : PURE L xs := by
  unfold PURE
  refine s5_begin 0 i5 _ (by decide) (by decide) (fun S1 _ h1 => s9_init _ (fun S9 h9 hs hz => ?_))
  obtain ⟨h8, hm, hb0⟩ := X8i_ok S1 h1
  refine lp_of (fun z : Int32 × MS × (Nat → MS) × MS => ∃ k, z.1 = nI k ∧ k ≤ L + 6 ∧ Inv8 z.2.2.1 ∧ Inv9 z.2.2.2 ∧ RR z.2.2.1 z.2.2.2 ∧ BB z.2.2.1 z.2.2.2 ∧ fI (z.2.2.1 14) 1 = 0) (fun z => L + 6 - z.1.toNatClampNeg) ?_ ?_
  rotate_left
  · refine ⟨0, rfl, Nat.zero_le _, h8, h9, fun r hr => Or.inl ⟨hm r hr, ?_⟩, fun b hb => Or.inl ⟨hb0 b hb, hz b hb⟩, by show fI (va_up X8i 14 S1 14) 1 = 0; rw [va_up_self]; exact h1⟩
    show (aI S9 40 r).toInt < 0
    rw [hs r hr]; decide
  clear h8 hm h9 hs h1 hz hb0
  rintro K ⟨x3, Z, X, S⟩ ⟨k, hk, hkL, h8, h9, hR, hB, hA⟩ hK
  try dsimp only at hk h8 h9 hR hB hA hK
  subst hk
  unfold wL_F18 wL_d18
  try dsimp only
  intro c
  have hk6 : k + 6 ≤ L := by
    rw [pi_lt, nI_toInt (by omega), show Int32.ofNat L - (6 : Int32) = nI L - nI 6 from rfl, pk_sub_toInt (by omega) (by decide)] at c
    omega
  have hgo0 : ∀ Z' X' S', Inv8 X' → Inv9 S' → RR X' S' → BB X' S' → fI (X' 14) 1 = 0 → ∀ y6 : Int32, y6 = nI k + 6 → K (y6, Z', X', S') := by
    rintro Z' X' S' a b d f e _ rfl
    refine hK (_, _, _, _) ⟨k + 6, nI_add k 6, by omega, a, b, d, f, e⟩ ?_
    show L + 6 - (nI k + 6).toNatClampNeg < L + 6 - (nI k).toNatClampNeg
    rw [show nI k + 6 = nI (k + 6) from nI_add k 6, nI_clamp (by omega), nI_clamp (by omega)]
    omega
  have hgo : ∀ Z' X' S', Nx X X' S S' → ∀ y6 : Int32, y6 = nI k + 6 → K (y6, Z', X', S') := fun Z' X' S' n => hgo0 Z' X' S' n.1 n.2.1 n.2.2.1 (bb_nx hB n) (by rw [show X' 14 = X 14 from n.2.2.2.1 8 (Or.inr rfl)]; exact hA)
  have hvp : ∀ j, j < 6 → vp_in (nI (k + j)) L := fun j hj => vp_in_nI (by omega) (by omega)
  refine ⟨⟨hvp 0 (by decide), (nI_add k 1 : nI k + (1 : Int32) = nI (k + 1)) ▸ hvp 1 (by decide), (nI_add k 2 : nI k + (2 : Int32) = nI (k + 2)) ▸ hvp 2 (by decide), (nI_add k 3 : nI k + (3 : Int32) = nI (k + 3)) ▸ hvp 3 (by decide), (nI_add k 4 : nI k + (4 : Int32) = nI (k + 4)) ▸ hvp 4 (by decide), (nI_add k 5 : nI k + (5 : Int32) = nI (k + 5)) ▸ hvp 5 (by decide)⟩, fun _ => ?_, fun _ => ?_, fun _ => ?_, fun _ => ?_, fun _ => ?_, fun _ => ?_, fun _ => ?_, fun _ => ?_, fun _ => ?_, fun _ => ?_, fun _ => ?_, fun _ => ?_, fun _ => ?_, fun _ => ?_, fun _ => ?_, fun _ => ?_, fun _ => ?_, fun _ => ?_, fun _ => ?_, fun _ => ?_, fun _ => ?_, fun _ => ?_, fun _ => ?_, fun _ => ?_, fun _ => ?_, fun _ => ?_, fun _ => ?_, fun _ => ?_, fun _ => ?_, fun _ => ?_, fun _ => ?_, fun _ => ?_, fun _ => ?_, fun _ => ?_, fun _ => ?_, fun _ => ?_, ?_⟩
  · unfold wL_c0
    exact t8_figure _ _ _ _ _ h8 (fun _ _ g8 => t9_figure _ _ _ _ h9 (fun _ _ g9 => hgo _ _ _ (nx_g hR g8 g9)))
  · unfold wL_c1
    exact t8_drop _ _ _ _ h8 (fun _ _ _ g8 => t9_drop _ _ _ h9 (fun _ _ g9 => hgo _ _ _ (nx_g hR g8 g9)))
  · unfold wL_c2
    exact e_box _ _ _ _ _ _ _ h8 h9 hR hB _ (fun _ _ _ a b d f e => hgo0 _ _ _ a b d f (by rw [e]; exact hA))
  · unfold wL_c3
    exact t8_told _ _ _ _ _ (fun _ _ => t9_told _ _ _ _ h9 (fun _ _ g9 => hgo _ _ _ (nx_g hR (g8_rf h8) g9)))
  · unfold wL_c4
    exact t8_mark _ _ _ _ _ (fun _ _ => t9_mark _ _ _ _ h9 (fun _ _ g9 => hgo _ _ _ (nx_g hR (g8_rf h8) g9)))
  · unfold wL_c5
    exact t8_squares _ _ _ _ (fun _ _ => t9_squares _ _ _ h9 (fun _ _ g9 => hgo _ _ _ (nx_g hR (g8_rf h8) g9)))
  · unfold wL_c6
    exact ⟨fun _ => t8_turn _ _ _ _ _ _ h8 (fun _ _ _ g8 => ⟨fun _ => t9_turn _ _ _ _ _ h9 (fun _ _ g9 => hgo _ _ _ (nx_g hR g8 g9)), fun _ => t9_turn _ _ _ _ _ h9 (fun _ _ g9 => hgo _ _ _ (nx_g hR g8 g9))⟩), fun _ => t8_turn _ _ _ _ _ _ h8 (fun _ _ _ g8 => ⟨fun _ => t9_turn _ _ _ _ _ h9 (fun _ _ g9 => hgo _ _ _ (nx_g hR g8 g9)), fun _ => t9_turn _ _ _ _ _ h9 (fun _ _ g9 => hgo _ _ _ (nx_g hR g8 g9))⟩)⟩
  · unfold wL_c7
    exact t8_alike _ _ _ _ _ (fun _ _ => t9_alike _ _ _ _ h9 (fun _ _ g9 => hgo _ _ _ (nx_g hR (g8_rf h8) g9)))
  · unfold wL_c8
    exact e_cell _ _ _ _ _ _ h8 h9 hR hB _ (fun _ _ _ n => hgo _ _ _ n)
  · unfold wL_c9
    exact e_next _ _ _ _ _ _ _ h8 h9 hR hB _ (fun _ _ _ n => hgo _ _ _ n)
  · unfold wL_c10
    exact t8_folds _ _ _ _ _ _ _ h8 (fun _ _ _ g8 => t9_folds _ _ _ _ _ _ h9 (fun _ _ g9 => hgo _ _ _ (nx_g hR g8 g9)))
  · unfold wL_c11
    exact t8_lies _ _ _ _ _ _ _ _ h8 (fun _ _ _ g8 => t9_lies _ _ _ _ _ _ _ h9 (fun _ _ g9 => hgo _ _ _ (nx_g hR g8 g9)))
  · unfold wL_c12
    exact t8_wholes _ _ _ _ _ h8 (fun _ _ _ g8 => t9_wholes _ _ _ _ h9 (fun _ _ g9 => hgo _ _ _ (nx_g hR g8 g9)))
  · unfold wL_c13
    exact t8_layOut _ _ _ _ _ _ _ h8 (fun _ _ _ g8 => t9_layOut _ _ _ _ _ _ h9 (fun _ _ g9 => hgo _ _ _ (nx_g hR g8 g9)))
  · unfold wL_c14
    exact t8_layOutBy _ _ _ _ _ _ _ _ h8 (fun _ _ _ g8 => t9_layOutBy _ _ _ _ _ _ _ h9 (fun _ _ g9 => hgo _ _ _ (nx_g hR g8 g9)))
  · unfold wL_c15
    exact e_way _ _ _ _ _ _ h8 h9 hR hB _ (fun _ _ _ _ n => hgo _ _ _ n)
  · unfold wL_c16
    exact e_farthest _ _ _ _ _ h8 h9 hR hB _ (fun _ _ _ _ n => hgo _ _ _ n)
  · unfold wL_c17
    exact e_mean _ _ _ _ _ h8 h9 hR hB _ (fun _ _ _ _ n => hgo _ _ _ n)
  · unfold wL_c18
    exact t8_rim _ _ _ _ h8 (fun _ _ _ g8 => t9_rim _ _ _ h9 (fun _ _ g9 => hgo _ _ _ (nx_g hR g8 g9)))
  · unfold wL_c19
    exact t8_edge _ _ _ _ _ _ h8 (fun _ _ _ g8 => t9_edge _ _ _ _ _ h9 (fun _ _ g9 => hgo _ _ _ (nx_g hR g8 g9)))
  · unfold wL_c20
    exact t8_gluings _ _ _ _ _ h8 (fun _ _ _ g8 => t9_gluings _ _ _ _ h9 (fun _ _ g9 => hgo _ _ _ (nx_g hR g8 g9)))
  · unfold wL_c21
    exact t8_glued _ _ _ _ h8 (fun _ => t9_glued _ _ _ (fun _ => hgo _ _ _ (nx_rf h8 h9 hR)))
  · unfold wL_c22
    exact t8_corners _ _ _ _ (fun _ => t9_corners _ _ _ (fun _ => hgo _ _ _ (nx_rf h8 h9 hR)))
  · unfold wL_c23
    exact t8_glue _ _ _ _ _ h8 (fun _ _ _ g8 => t9_glue _ _ _ _ h9 (fun _ _ g9 => hgo _ _ _ (nx_g hR g8 g9)))
  · unfold wL_c24 w8_tries w9_tries
    exact hgo _ _ _ (nx_rf h8 h9 hR)
  · unfold wL_c25
    exact t8_meanAngle _ _ _ _ h8 (fun _ _ _ g8 => t9_meanAngle _ _ _ h9 (fun _ _ g9 => hgo _ _ _ (nx_g hR g8 g9)))
  · unfold wL_c26
    exact e_row _ _ _ _ _ h8 h9 hR _ (fun _ _ _ _ n => hgo _ _ _ n)
  · unfold wL_c27
    exact e_lay _ _ _ _ _ _ h8 h9 hR _ (fun _ _ _ _ n => hgo _ _ _ n)
  · unfold wL_c28
    exact e_tear _ _ _ _ h8 h9 hR _ (fun _ _ _ _ n => hgo _ _ _ n)
  · unfold wL_c29
    exact e_copy _ _ _ _ _ _ _ _ h8 h9 hR _ (fun _ _ _ _ n => hgo _ _ _ n)
  · unfold wL_c30
    exact e_meanRow _ _ _ _ h8 h9 hR _ (fun _ _ _ n => ⟨fun _ => hgo _ _ _ n, fun c => absurd rfl c⟩)
  · unfold wL_c31 w8_asked w9_asked
    exact hgo _ _ _ (nx_rf h8 h9 hR)
  · unfold wL_c32
    exact t8_count _ _ _ _ (fun _ => t9_count _ _ _ (fun _ => hgo _ _ _ (nx_rf h8 h9 hR)))
  · unfold wL_c33 w8_finding w9_finding
    exact hgo _ _ _ (nx_rf h8 h9 hR)
  · unfold wL_c34
    exact t8_findings _ _ _ _ (fun _ => t9_findings _ _ _ (fun _ => hgo _ _ _ (nx_rf h8 h9 hR)))
  · unfold wL_c35
    exact t8_digest _ _ h8 _ (fun _ => t9_digest _ h9.2.2 _ (fun _ => hgo _ _ _ (nx_rf h8 h9 hR)))
  · intros
    unfold wL_cd
    exact hgo _ _ _ (nx_rf h8 h9 hR)

/-! ===== pure: glue on both sides ===== -/
theorem ix_24 (r j : Nat) : (24 : Int32) * nI r + nI j = nI (24 * r + j) := by
  rw [show (24 : Int32) = nI 24 from rfl, pk_mul, nI_add]
set_option maxHeartbeats 1000000 in
theorem x9_isGluing {n r : Nat} {v : Nat → Int32} (S : MS) (h1n : 1 ≤ n) (hn : n ≤ 96) (hr : r < 4) (e25 : fI S 25 = nI n) (hR : (aI S 40 r).toInt ≤ 24) (hv : aI S 40 r = nI n → ∀ k, k < n → aI S 41 (24 * r + k) = v k) (Q : Int32 → Prop) (h0 : ¬ (aI S 40 r = nI n ∧ GI n v) → Q 0) (h1 : aI S 40 r = nI n → GI n v → Q 1) : w9_isGluing (nI r) S Q := by
  have h01 : ¬ (1 : Int32) = 0 := by decide
  unfold w9_isGluing w9_isGluing_b18
  rw [rA_n _ 40 (by omega), e25]
  refine ⟨vp_in_nI hr (by decide), fun c => ?_, fun ce => ?_⟩
  · unfold w9_isGluing_b21
    refine lp_up 1 (fun z => z.2) (fun _ z => z.1 = 0) (by decide) ?_ (Nat.zero_le _) (rfl : (0 : Int32) = nI 0) (by exact rfl)
    rintro K ⟨g, y⟩ i hi hcc hI hK
    try dsimp only at hcc hI hK
    subst hcc hI
    unfold w9_isGluing_F21 w9_isGluing_d21 w9_isGluing_b144
    try dsimp only
    exact ⟨fun _ => ⟨rfl, h0 (fun w => c w.1)⟩, fun _ => ⟨fun _ => ⟨rfl, h0 (fun w => c w.1)⟩, fun q => absurd rfl q⟩⟩
  have hn24 : n ≤ 24 := by
    rw [ce, nI_toInt (by omega)] at hR
    omega
  have ev := hv ce
  unfold w9_isGluing_b21
  refine lp_up n (fun z => z.2) (fun i z => (z.1 = 1 ∧ ∀ k, k < i → GI1 n v k) ∨ (z.1 = 0 ∧ ¬ GI n v)) (by omega) ?_ (Nat.zero_le _) (rfl : (0 : Int32) = nI 0) (by exact Or.inl ⟨rfl, fun k hk => absurd hk (Nat.not_lt_zero k)⟩)
  rintro K ⟨g, y⟩ i hi hcc hI hK
  try dsimp only at hcc hI hK
  subst hcc
  unfold w9_isGluing_F21 w9_isGluing_d21 w9_isGluing_b144
  try dsimp only
  rw [e25]
  refine ⟨fun c => ?_, fun c => ⟨fun c0 => ?_, fun c0 => ?_⟩⟩
  · have ei := nI_end (by omega) hi c
    subst ei
    rcases hI with ⟨q, hg⟩ | ⟨q, hg⟩
    · rw [q]; exact ⟨rfl, h1 ce hg⟩
    · rw [q]; exact ⟨rfl, h0 (fun w => hg w.2)⟩
  · rcases hI with ⟨q, _⟩ | ⟨q, hg⟩
    · rw [c0] at q; exact absurd q.symm h01
    · rw [q]; exact ⟨rfl, h0 (fun w => hg w.2)⟩
  have hlt := nI_go (by omega) hi c
  have hg : ∀ k, k < i → GI1 n v k := by
    rcases hI with ⟨_, hg⟩ | ⟨q, _⟩
    · exact hg
    · exact absurd q c0
  clear hI
  rw [ix_24, rA_n _ 41 (by omega), ev i hlt]
  refine ⟨vp_in_nI (by omega) (by decide), ?_⟩
  rintro _ rfl
  -- out of it: no gluing
  have bad : ¬ GI n v → w9_isGluing_b87 (fun y0 y1 => K (y0, y1)) (nI r) (nI i) (v i) S Q := by
    intro hno
    unfold w9_isGluing_b87 w9_isGluing_b88
    rintro _ rfl
    rw [nI_1]
    unfold w9_isGluing_b94
    refine lp_up (i + 1) (fun z => z.2) (fun k z => z.1 = 0) (by omega) ?_ (Nat.le_refl _) rfl (by exact rfl)
    rintro K1 ⟨g1, y1⟩ k hk hcc hI1 hK1
    try dsimp only at hcc hI1 hK1
    subst hcc hI1
    unfold w9_isGluing_F94 w9_isGluing_d94 w9_isGluing_b138
    try dsimp only
    have go : ∀ y1 : Int32, y1 = nI i + 1 → K (0, y1) := by
      rintro _ rfl
      exact hK (_, _) hlt (nI_1 i) (Or.inr ⟨rfl, hno⟩)
    exact ⟨fun _ => go, fun _ => ⟨fun _ => go, fun q => absurd rfl q⟩⟩
  have e0 : (0 : Int32).toInt = 0 := rfl
  have en : (nI n - (1 : Int32)).toInt = (n : Int) - 1 := by
    rw [show nI n - (1 : Int32) = nI (n - 1) from pk_sub (b := 1) (by omega), nI_toInt (by omega)]
    omega
  refine s9_in _ _ _ _ (fun hin => ⟨fun c => absurd c h01, fun _ => ?_⟩) (fun hin => ⟨fun _ => bad (fun w => hin ?_), fun c => absurd rfl c⟩)
  rotate_left
  · obtain ⟨j, hj, e, _⟩ := w i hlt
    rw [e0, en, e, nI_toInt (by omega)]
    omega
  rw [e0, en] at hin
  obtain ⟨j, hj, e⟩ := vp_in_of (n := n) (pi_in.mpr (by omega) : vp_in (v i) n) (by omega)
  have only : ∀ (P : Prop), (∀ j', j' = j → P) → (GI1 n v i → P) := by
    intro P hP ⟨j', hj', e', _⟩
    rw [e] at e'
    exact hP j' ((nI_eq (by omega) (by omega)).mp e').symm
  rw [e] at bad ⊢
  rw [ix_24, rA_n _ 41 (by omega), ev j hj]
  refine ⟨fun c => bad (fun w => ?_), fun c => ⟨vp_in_nI (by omega) (by decide), fun c2 => bad (fun w => ?_), fun c2 => ?_⟩⟩
  · obtain ⟨j', hj', e', hne, _⟩ := w i hlt
    rw [e] at e'
    have := (nI_eq (by omega) (by omega)).mp e'
    have := (nI_eq (by omega) (by omega)).mp c
    omega
  · obtain ⟨j', hj', e', hne, ej, _⟩ := w i hlt
    rw [e] at e'
    have := (nI_eq (by omega) (by omega)).mp e'
    rw [← this] at ej
    exact c2 ej
  have hji : ¬ j = i := fun q => c (by rw [q])
  unfold w9_isGluing_b88
  rintro _ rfl
  rw [nI_1]
  unfold w9_isGluing_b94
  refine lp_up (if i + 1 ≤ j then j else i + 1) (fun z => z.2) (fun k z => i < k ∧ ((z.1 = 1 ∧ ∀ k', i < k' → k' < k → ∃ m, v k' = nI m ∧ i < m ∧ m < j) ∨ (z.1 = 0 ∧ ¬ GI n v))) (by split <;> omega) ?_ (k0 := i + 1) (by split <;> omega) rfl (by exact ⟨by omega, Or.inl ⟨rfl, fun k' q1 q2 => by omega⟩⟩)
  rintro K1 ⟨g1, y1⟩ k hk hcc ⟨hik, hI1⟩ hK1
  try dsimp only at hcc hI1 hK1
  subst hcc
  have hkb : k < 100 := by split at hk <;> omega
  unfold w9_isGluing_F94 w9_isGluing_d94 w9_isGluing_b138
  try dsimp only
  have go : ((g1 = 1 ∧ GI1 n v i) ∨ (g1 = 0 ∧ ¬ GI n v)) → ∀ y1 : Int32, y1 = nI i + 1 → K (g1, y1) := by
    rintro hg1 _ rfl
    refine hK (_, _) hlt (nI_1 i) ?_
    show (g1 = 1 ∧ ∀ k, k < i + 1 → GI1 n v k) ∨ (g1 = 0 ∧ ¬ GI n v)
    rcases hg1 with ⟨q1, q2⟩ | q
    · refine Or.inl ⟨q1, fun k hk => ?_⟩
      rcases Nat.lt_or_ge k i with w | w
      · exact hg k w
      · have ek : k = i := by omega
        rw [ek]; exact q2
    · exact Or.inr q
  refine ⟨fun c3 => go ?_, fun c3 => ⟨fun c4 => go ?_, fun c4 => ?_⟩⟩
  · have hjk := (nI_leI (a := j) (b := k) (by omega) (by omega)).mp c3
    rcases hI1 with ⟨q1, q2⟩ | q
    · exact Or.inl ⟨q1, j, hj, e, hji, c2, fun k' w1 w2 => q2 k' w1 (by omega)⟩
    · exact Or.inr q
  · rcases hI1 with ⟨q1, _⟩ | q
    · rw [c4] at q1; exact absurd q1.symm h01
    · exact Or.inr q
  · have hkj : k < j := by
      have : ¬ j ≤ k := fun q => c3 (nI_le q (by omega))
      omega
    have hq2 : ∀ k', i < k' → k' < k → ∃ m, v k' = nI m ∧ i < m ∧ m < j := by
      rcases hI1 with ⟨_, q2⟩ | ⟨q, _⟩
      · exact q2
      · exact absurd q c4
    rw [ix_24, rA_n _ 41 (by omega), ev k (by omega), nI_1, show nI j - (1 : Int32) = nI (j - 1) from pk_sub (b := 1) (by omega)]
    have t1 : (nI (i + 1)).toInt = ((i + 1 : Nat) : Int) := nI_toInt (by omega)
    have t2 : (nI (j - 1)).toInt = ((j - 1 : Nat) : Int) := nI_toInt (by omega)
    refine ⟨vp_in_nI (by omega) (by decide), ?_⟩
    rintro _ rfl
    refine s9_in _ _ _ _ (fun w => ?_) (fun w => ?_)
    · rw [t1, t2] at w
      obtain ⟨m, hm, em⟩ := vp_in_of (n := j) (pi_in.mpr (by omega) : vp_in (v k) j) (by omega)
      rw [em, nI_toInt (by omega)] at w
      rintro _ rfl
      refine hK1 (_, _) (by rw [if_pos (by omega)]; exact hkj) (nI_1 k) ⟨by omega, Or.inl ⟨rfl, fun k' q1 q2 => ?_⟩⟩
      rcases Nat.lt_or_ge k' k with q3 | q3
      · exact hq2 k' q1 q3
      · have ek : k' = k := by omega
        rw [ek]; exact ⟨m, em, by omega, hm⟩
    · rintro _ rfl
      refine hK1 (_, _) (by rw [if_pos (by omega)]; exact hkj) (nI_1 k) ⟨by omega, Or.inr ⟨rfl, fun hG => w ?_⟩⟩
      obtain ⟨j', hj', e', _, _, hk'⟩ := hG i hlt
      rw [e] at e'
      have ej := (nI_eq (by omega) (by omega)).mp e'
      obtain ⟨m, em, q1, q2⟩ := hk' k hik (by omega)
      rw [em, t1, t2, nI_toInt (by omega)]
      omega
theorem x9_glueL {n r : Nat} {p a : Nat → Nat} {v : Nat → Int32} (S : MS) (h1n : 1 ≤ n) (hn : n ≤ 24) (hr : r < 4) (e25 : fI S 25 = nI n) (h4 : ∀ k, k < n → 1 ≤ a k ∧ a k ≤ 3 ∧ aI S 28 k = nI (a k)) (ev : ∀ k, k < n → aI S 41 (24 * r + k) = v k) (hp : ∀ i, i < n → p i < n ∧ v i = nI (p i)) (Q : Int32 → MS → Prop) (h : ∀ S' L, Fr [2, 29, 30, 31, 32] S S' → Lab n p L → Q (nI (cnr n L)) S') : w9_glue_b68 (nI r) (0 : Int32) S Q := by
  unfold w9_glue_b68
  refine lp_up n (fun z => z.1) (fun i z => Fr [29] S z.2 ∧ ∀ k, k < i → aI z.2 29 k = v k) (by omega) ?_ (Nat.zero_le _) (rfl : (0 : Int32) = nI 0) (by exact ⟨fr_rf, fun k hk => absurd hk (Nat.not_lt_zero k)⟩)
  rintro K ⟨y, S1⟩ i hi hcc ⟨hF, hI⟩ hK
  try dsimp only at hcc hF hI hK
  subst hcc
  unfold w9_glue_F68 w9_glue_d68
  try dsimp only
  rw [(hF 25 (by decide)).1, e25]
  refine ⟨fun c => ?_, fun c => ?_⟩
  · have ei := nI_end (by omega) hi c
    subst ei
    refine x9_isLegal (p := p) (a := a) S1 h1n (by omega) ((hF 25 (by decide)).1.trans e25) (fun k hk => by rw [(hF 28 (by decide)).2.2.1]; exact h4 k hk) (fun k hk => ⟨(hp k hk).1, by rw [hI k hk]; exact (hp k hk).2⟩) _ (fun r2 S2 L hF2 hL e32 _ => ?_)
    have hF3 : Fr [2, 29, 30, 31, 32] S S2 := fr_tr (fr_mono hF (by decide)) (fr_mono hF2 (by decide))
    have k114 : ∀ t1, w9_glue_b114 t1 S2 Q := by
      intro t1
      unfold w9_glue_b114 w9_ask
      rintro _ rfl
      rw [e32]
      exact h _ L (fr_tr hF3 (fr_sJ (by decide))) hL
    exact ⟨fun _ => k114 _, fun _ => k114 _⟩
  have hlt := nI_go (by omega) hi c
  rw [ix_24, rA_n _ 41 (by omega), (hF 41 (by decide)).2.2.1, ev i hlt]
  refine ⟨vp_in_nI (by omega) (by decide), vp_in_nI (by omega) (by decide), ?_⟩
  rintro _ rfl _ rfl
  refine hK (_, _) hlt (nI_1 i) ⟨fr_tr hF (fr_sA (by decide)), fun k hk => ?_⟩
  show aI (sA S1 29 (nI i) (v i)) 29 k = v k
  rw [rd_A, nI_clamp (by omega)]
  by_cases q : k = i
  · rw [q, pk_us]
  · rw [pk_un q]; exact hI k (by omega)
theorem x9_glue {k r : Nat} (hk : k < 6) (hr : r < 4) (S : MS) (hI : Inv9 S) (Q : Int32 → MS → Prop) (hz : aJ S 3 k = 0 ∨ (aI S 40 r).toInt < 0 → ∀ S', Fr [0, 1] S S' → Q (-3) S') (hw : ¬ aJ S 3 k = 0 → 0 ≤ (aI S 40 r).toInt → ∀ n m, Wk (aJ S 3 k) m n → (∀ S', Fr [25, 26, 27, 28] S S' → ¬ (n = oe (aJ S 3 k) ∧ aI S 40 r = nI n ∧ GI n (fun i => aI S 41 (24 * r + i))) → Q (-4) S') ∧ (n = oe (aJ S 3 k) → aI S 40 r = nI n → GI n (fun i => aI S 41 (24 * r + i)) → ∀ p, (∀ i, i < n → p i < n ∧ aI S 41 (24 * r + i) = nI (p i)) → Glu n p → ∀ S' L, Fr [2, 25, 26, 27, 28, 29, 30, 31, 32] S S' → Lab n p L → Q (nI (cnr n L)) S')) : w9_glue (nI k) (nI r) S Q := by
  have hf : vp_in (nI k) 6 := vp_in_nI hk (by decide)
  have hx : vp_in (nI r) 4 := vp_in_nI hr (by decide)
  have h01 : ¬ (1 : Int32) = 0 := by decide
  have k36 : (aJ S 3 k = 0 ∨ (aI S 40 r).toInt < 0) → w9_glue_b36 S Q := fun q => by
    unfold w9_glue_b36
    exact m9_fr _ (by unfold vp_in; decide) _ _ (fun S' hF => hz q S' hF)
  unfold w9_glue w9_glue_b14
  rw [rL_n S hk, lg_cmp_eq, rA_n S 40 (by omega)]
  refine s9_isFigure _ _ (fun _ => ⟨fun c => absurd c h01, fun _ => s9_isRow _ _ (fun _ => ⟨fun _ => ⟨hf, fun q => k36 (Or.inl q), fun q1 => ⟨hx, fun q2 => ?_, fun q2 => k36 (Or.inr ?_)⟩⟩, fun c => absurd c h01⟩) (fun c => absurd hx c)⟩) (fun c => absurd hf c)
  rotate_left
  · rw [pi_le, show (0 : Int32).toInt = 0 from rfl] at q2
    omega
  rw [pi_le, show (0 : Int32).toInt = 0 from rfl] at q2
  refine x9_isWalked _ q1 (hI.2.1 k hk) S _ (fun S1 n m a1 a2 hF a3 a4 a5 a6 e25 e28 => ?_)
  obtain ⟨w0, w1⟩ := hw q1 q2 n m ⟨a1, a2, a3, a4, a5, a6⟩
  have f40 : aI S1 40 = aI S 40 := (hF 40 (by decide)).2.2.1
  have f41 : aI S1 41 = aI S 41 := (hF 41 (by decide)).2.2.1
  unfold w9_glue_b63
  by_cases e : n = oe (aJ S 3 k)
  · rw [if_pos e]
    refine ⟨fun c => absurd c h01, fun _ => x9_isGluing (v := fun i => aI S 41 (24 * r + i)) S1 a3 a4 hr e25 (by rw [f40]; exact hI.2.2 r hr) (fun _ k _ => by rw [f41]) _ (fun hno => ⟨fun c => absurd rfl c, fun _ => w0 S1 hF (fun w => hno (by rw [f40]; exact w.2))⟩) (fun es hG => ⟨fun _ => ?_, fun c => absurd c h01⟩)⟩
    rw [f40] at es
    have hn24 : n ≤ 24 := by
      have := hI.2.2 r hr
      rw [es, nI_toInt (by omega)] at this
      omega
    obtain ⟨p, hp, hGp⟩ := gi_glu (by omega) hG
    refine x9_glueL (p := p) (a := fun i => ang (aJ S 3 k) (orb (aJ S 3 k) (m, 0) ((i + n - 1) % n))) (v := fun i => aI S 41 (24 * r + i)) S1 a3 hn24 hr e25 (fun i hi => ?_) (fun i _ => by rw [f41]) hp _ (fun S2 L hF2 hL => ?_)
    · have := ang_b (aJ S 3 k) (orb (aJ S 3 k) (m, 0) ((i + n - 1) % n))
      exact ⟨this.1, this.2, e28 i hi⟩
    · exact w1 e es hG p hp hGp S2 L (fr_tr (fr_mono hF (by decide)) (fr_mono hF2 (by decide))) hL
  · rw [if_neg e]
    exact ⟨fun _ => w0 S1 hF (fun w => e w.1), fun c => absurd rfl c⟩
theorem e_glue (f x : Int32) (Z : MS) (X : Nat → MS) (S : MS) (hA : All X S) (P : Int32 → Int32 → MS → (Nat → MS) → MS → Prop) (h : ∀ v Z' X' S', All X' S' → P v v Z' X' S') : w8_glue f x Z X (fun r1 Z2 X3 => w9_glue f x S (fun r4 S5 => P r1 r4 Z2 X3 S5)) := by
  have g0 : ∀ {X' ks S'}, G8 X X' → Fr ks S S' → 3 ∉ ks → 7 ∉ ks → 40 ∉ ks → 41 ∉ ks ∧ 33 ∉ ks → All X' S' := fun g8 hF h3 h7 h40 h41 => al_g hA g8 (g9_fr hA.2.1 hF h3 h7 h40 h41.1 h41.2)
  have h01 : ¬ (1 : Int32) = 0 := by decide
  have m1 : (-1 : Int32).toInt = -1 := rfl
  have bad : ¬ (vp_in f 6 ∧ vp_in x 4) → w9_glue f x S (fun r4 S5 => P (-1) r4 Z X S5) := by
    intro hn
    unfold w9_glue w9_glue_b14
    exact s9_isFigure _ _ (fun hf => ⟨fun c => absurd c h01, fun _ => s9_isRow _ _ (fun hb => absurd ⟨hf, hb⟩ hn) (fun _ => ⟨fun c => absurd rfl c, fun _ => h _ _ _ _ hA⟩)⟩) (fun _ => ⟨fun _ => h _ _ _ _ hA, fun c => absurd rfl c⟩)
  unfold w8_glue w8_glue_b14 w8_glue_b88 w8_glue_b40
  refine s8_isFigure _ _ (fun hf => ⟨fun c => absurd c h01, fun _ => s8_isRow _ _ (fun hx => ⟨fun _ => ?_, fun c => absurd c h01⟩) (fun hx => ⟨fun c => absurd rfl c, fun _ => bad (fun w => hx w.2)⟩)⟩) (fun hf => ⟨fun _ => bad (fun w => hf w.1), fun c => absurd rfl c⟩)
  obtain ⟨k, hk, rfl⟩ := vp_in_of hf (by decide)
  obtain ⟨r, hr, rfl⟩ := vp_in_of hx (by decide)
  have tk := ff_there hA hk
  have hRR := hA.2.2.1 r hr
  have none : (aJ S 3 k = 0 ∨ (aI S 40 r).toInt < 0) → w8_refuse (1 : Int32) Z X (fun r1 S2 => w9_glue (nI k) (nI r) S (fun r4 S5 => P r1 r4 S2 X S5)) := by
    intro hn
    refine s8_refuse _ _ _ _ (fun Z' _ => x9_glue hk hr S hA.2.1 _ (fun _ S' hF => h _ _ _ _ (g0 (g8_rf hA.1) hF (by decide) (by decide) (by decide) (by decide))) (fun q1 q2 => ?_))
    exfalso
    rcases hn with q | q
    · exact q1 q
    · omega
  rw [nI_clamp (by omega), nI_clamp (by omega)]
  refine ⟨hf, ⟨by omega, hk⟩, s2_isThere _ _ (fun hi => ⟨fun c => absurd c h01, fun _ => ⟨hx, ⟨by omega, by omega⟩, s5_isThere _ _ (fun hi2 => ⟨fun _ => ?_, fun c => absurd c h01⟩) (fun hi2 => ⟨fun c => absurd rfl c, fun _ => none (Or.inr ?_)⟩)⟩⟩) (fun hi => ⟨fun _ => none (Or.inl (tk.mp hi)), fun c => absurd rfl c⟩)⟩
  rotate_left
  · rcases hRR with q | q
    · exact q.2
    · rw [hi2, m1] at q; omega
  obtain ⟨hx0, hy0, hs, hpc, hcn⟩ := fig_on hA hk hi
  obtain ⟨s1, s2, s3⟩ := sim_rim hs
  have hsz : 0 ≤ (fI (X (10 + r)) 1).toInt ∧ fI (X (10 + r)) 1 = aI S 40 r := by
    rcases hRR with q | q
    · exfalso
      apply hi2
      exact (pi_eq _ _).mpr (by rw [q.1, m1])
    · exact ⟨q.1, (pi_eq _ _).mpr q.2⟩
  have hrow := (hA.1.1 r (by omega)).2
  have h40 := hA.2.1.2.2 r hr
  refine x4_walk _ hx0 hpc hcn _ _ (fun S8 n m a1 a2 a3 a4 a5 a6 e3 e1 => ?_)
  rintro _ rfl
  have hw8 : Wk (fJ (X k) 1) m n := ⟨a1, a2, a3, by omega, a5, a6⟩
  have hG := g8_rim hA.1 S8 ⟨n, a4, e3⟩
  -- the reference, where there is no gluing, and where there is one
  have ref0 : ∀ Z' X', G8 X X' → ¬ (n = oe (fJ (X k) 1) ∧ aI S 40 r = nI n ∧ GI n (fun i => aI S 41 (24 * r + i))) → w9_glue (nI k) (nI r) S (fun r4 S5 => P (-4) r4 Z' X' S5) := by
    intro Z' X' g8 hno
    refine x9_glue hk hr S hA.2.1 _ (fun q => ?_) (fun q1 q2 n' m' hw => ⟨fun S' hF _ => h _ _ _ _ (g0 g8 hF (by decide) (by decide) (by decide) (by decide)), fun e es hgi => ?_⟩)
    · exfalso
      rcases q with q | q
      · exact hy0 q
      · rw [← hsz.2] at q; omega
    · exfalso
      have e8 : n = oe (fJ (X k) 1) := (wk_full hw8).mpr (s1.mpr ((wk_full hw).mp e))
      have enn : n' = n := by omega
      rw [enn] at es hgi
      exact hno ⟨e8, es, hgi⟩
  by_cases e : n = oe (fJ (X k) 1)
  rotate_left
  · rw [if_neg e]
    exact ⟨fun _ => ref0 _ _ hG (fun w => e w.1), fun c => absurd rfl c⟩
  rw [if_pos e]
  refine ⟨fun c => absurd c h01, fun _ => ?_⟩
  have ne1 : va_up X 18 S8 (10 + r) = X (10 + r) := va_up_ne _ _ (by omega)
  have ne2 : va_up X 18 S8 19 = X 19 := va_up_ne _ _ (by decide)
  rw [va_up_self, e3, ne1, ne2]
  refine x3_take (v := fun i => aI S 41 (24 * r + i)) _ _ a4 hrow (fun es i hin => ?_) hA.1.2.2.2.1 hA.1.2.2.2.2 _ (fun hno T f7 f8 f10 => ?_) (fun es hgi T e7 f8 f10 ev => ?_)
  · refine hA.2.2.2.2.2.1 r hr i ?_ ?_
    · have := hrow
      rw [es, nI_toInt (by omega)] at this
      omega
    · rw [← hsz.2, es, nI_toInt (by omega)]
      omega
  · rintro _ rfl
    refine ⟨fun c => absurd rfl c, fun _ => ref0 _ _ (g8_tr hG (g8_gl hG.1 T f7 f8 (by rw [ne2]; exact f10))) (fun w => hno ?_)⟩
    rw [hsz.2]; exact w.2
  rintro _ rfl
  refine ⟨fun _ => ?_, fun c => absurd c h01⟩
  have hG2 := g8_tr hG (g8_gl hG.1 T ⟨n, a4, e7⟩ f8 (by rw [ne2]; exact f10))
  obtain ⟨p, hp, hGp⟩ := gi_glu (by omega) hgi
  have ne3 : va_up (va_up X 18 S8) 19 T 18 = S8 := by rw [va_up_ne _ _ (by decide), va_up_self]
  rw [va_up_self, ne3]
  refine x3_gather (p := p) (a := fun i => ang (fJ (X k) 1) (orb (fJ (X k) 1) (m, 0) ((i + n - 1) % n))) T S8 a4 e7 e3 e1 (fun i hin => ⟨(hp i hin).1, by rw [ev i hin]; exact (hp i hin).2⟩) _ (fun T2 L hF2 hTL hL1 _ => ?_)
  rintro _ rfl
  have hTL' : TL n p L := by
    rcases hTL with q | q
    · omega
    · exact q
  have hLab := tl_lab hGp hTL'
  have e72 : fI T2 7 = nI n := fr_ok hF2 (by decide) e7
  have f82 : F50 T2 8 := by
    obtain ⟨z, hz, ez⟩ := f8
    exact ⟨z, hz, (hF2 8 (by decide)).1.trans ez⟩
  have hG3 := g8_tr hG2 (g8_gl hG2.1 T2 ⟨n, a4, e72⟩ f82 (by rw [va_up_self]; exact (hF2 10 (by decide)).1))
  rw [va_up_self]
  refine t3_isLegal T2 a4 e72 _ (fun r31 => ?_)
  have k118 : ∀ t1, w8_glue_b118 t1 Z (va_up (va_up (va_up X 18 S8) 19 T) 19 T2) (fun r1 Z2 X3 => w9_glue (nI k) (nI r) S (fun r4 S5 => P r1 r4 Z2 X3 S5)) := by
    intro t1
    unfold w8_glue_b118
    rintro _ rfl
    rw [va_up_self]
    refine x3_inAll (T := L) T2 a4 e72 (fun j hj => ⟨by have := hLab.1 j hj; omega, hL1 j hj⟩) _ ?_
    refine x9_glue hk hr S hA.2.1 _ (fun q => ?_) (fun q1 q2 n' m' hw => ⟨fun S' hF hno => ?_, fun e' es' hgi' p' hp' hGp' S' L' hF hL' => ?_⟩)
    · exfalso
      rcases q with q | q
      · exact hy0 q
      · rw [← hsz.2] at q; omega
    · exfalso
      have e9 : n' = oe (aJ S 3 k) := (wk_full hw).mpr (s1.mp ((wk_full hw8).mp e))
      have enn : n' = n := by omega
      apply hno
      rw [enn, ← hsz.2]
      exact ⟨by omega, es, hgi⟩
    · have enn : n' = n := by omega
      subst enn
      have epp : ∀ i, i < n' → p' i = p i := fun i hin => by
        have u1 := (hp' i hin).2
        have u2 := (hp i hin).2
        try dsimp only at u2
        rw [u1] at u2
        exact (nI_eq (by have := (hp' i hin).1; omega) (by have := (hp i hin).1; omega)).mp u2
      have hL2 : Lab n' p' L := by
        have hTL2 : TL n' p' L := ⟨hTL'.1, fun i hin => by rw [hTL'.2 i hin, epp i (by omega)]⟩
        exact tl_lab hGp' hTL2
      have ecn : cnr n' L' = cnr n' L := fb_ct_cong fun i hin => by
        rw [lab_one hL' hL2 i hin]
      rw [ecn]
      exact h _ _ _ _ (g0 hG3 hF (by decide) (by decide) (by decide) (by decide))
  exact ⟨fun _ => k118 _, fun _ => k118 _⟩

/-! ===== pure: rim, edge, meanAngle, isLegal of the reference ===== -/
theorem g9_rim {S S' : MS} (hI : Inv9 S) (hF : Fr [2, 25, 26, 27, 28, 29, 30, 31, 32, 33, 34, 35, 36, 37, 38, 39] S S') : G9 S S' := g9_fr hI hF (by decide) (by decide) (by decide) (by decide)
theorem s9_askedRim (f : Int32) (S : MS) (Q : Int32 → MS → Prop) (hI : Inv9 S) (h : ∀ r S', r.toInt < 0 → G9 S S' → Q r S') (hk : ∀ S' n, Fr [25, 26, 27, 28] S S' → Rim9 S' n → Q 0 S') : w9_askedRim f S Q := by
  unfold w9_askedRim w9_askedRim_b33
  refine s9_looked _ _ _ (fun _ => ⟨fun c => absurd c (by decide), fun _ => h _ _ (by decide) (g9_rf hI)⟩) (fun _ _ S' hF => ⟨fun c => absurd c (by decide), fun _ => h _ _ (by decide) (g9_fr hI hF (by decide) (by decide) (by decide) (by decide))⟩) (fun hf hx => ⟨fun _ => ⟨hf, ?_⟩, fun c => absurd r0_pos c⟩)
  exact t9_isWalked _ hx (inv_fig hI hf) S _ (fun r S' n hF hR => ⟨fun _ => h _ _ (by decide) (g9_rim hI (fr_mono hF (by decide))), fun _ => hk S' n hF hR⟩)
theorem t9_rim (f : Int32) (S : MS) (Q : Int32 → MS → Prop) (hI : Inv9 S) (h : ∀ r S', G9 S S' → Q r S') : w9_rim f S Q := by
  have e0 : (0 : Int32).toInt = 0 := rfl
  unfold w9_rim w9_rim_b18
  exact s9_askedRim f S _ hI (fun r S' hr hG => ⟨fun _ => h _ _ hG, fun _ => h _ _ hG⟩) (fun S' n hF hR => ⟨fun _ => h _ _ (g9_rim hI (fr_mono hF (by decide))), fun c => absurd r0_pos c⟩)
theorem t9_edge (f i w : Int32) (S : MS) (Q : Int32 → MS → Prop) (hI : Inv9 S) (h : ∀ r S', G9 S S' → Q r S') : w9_edge f i w S Q := by
  have e0 : (0 : Int32).toInt = 0 := rfl
  unfold w9_edge w9_edge_b81
  refine s9_in _ _ _ _ (fun _ => ⟨fun _ => s9_askedRim f S _ hI (fun r S' hr hG => ⟨fun c => ?_, fun _ => h _ _ hG⟩) (fun S' n hF hR => ⟨fun _ => ?_, fun c => absurd r0_pos c⟩), fun c => absurd c (by decide)⟩) (fun _ => ⟨fun c => absurd rfl c, fun _ => h _ _ (g9_rf hI)⟩)
  · rw [pi_le] at c; omega
  have hG := g9_rim hI (fr_mono hF (by decide))
  obtain ⟨h1, h2, h3, h4⟩ := hR
  rw [h3, show nI n - (1 : Int32) = nI (n - 1) from pk_sub (b := 1) (by omega)]
  have en : (nI (n - 1)).toInt = ((n - 1 : Nat) : Int) := nI_toInt (by omega)
  refine s9_in _ _ _ _ (fun hi => ⟨fun _ => ?_, fun c => absurd c (by decide)⟩) (fun _ => ⟨fun c => absurd rfl c, fun _ => m9_meets _ (by unfold vp_in; decide) _ _ hG.1 (fun r S2 hG2 => h _ _ (g9_tr hG hG2))⟩)
  have hv : vp_in i 128 := pi_in.mpr (by omega)
  exact ⟨fun _ => ⟨fun _ => ⟨hv, h _ _ hG⟩, fun _ => ⟨hv, h _ _ hG⟩⟩, fun _ => ⟨hv, h _ _ hG⟩⟩
theorem t9_meanAngle (f : Int32) (S : MS) (Q : Int32 → MS → Prop) (hI : Inv9 S) (h : ∀ r S', G9 S S' → Q r S') : w9_meanAngle f S Q := by
  have e0 : (0 : Int32).toInt = 0 := rfl
  unfold w9_meanAngle
  refine s9_askedRim f S _ hI (fun r S' hr hG => ⟨fun c => ?_, fun _ => h _ _ hG⟩) (fun S' n hF hR => ⟨fun _ => ?_, fun c => absurd r0_pos c⟩)
  · rw [pi_le] at c; omega
  have hG := g9_rim hI (fr_mono hF (by decide))
  obtain ⟨h1, h2, h3, h4⟩ := hR
  unfold w9_meanAngle_b17
  refine lp_up n (fun z => z.2) (fun _ _ => True) (by omega) ?_ (Nat.zero_le _) (rfl : (0 : Int32) = nI 0) trivial
  rintro K ⟨a, y⟩ k hk hcc - hK
  try dsimp only at hcc hK
  subst hcc
  unfold w9_meanAngle_F17 w9_meanAngle_d17
  try dsimp only
  rw [h3]
  refine ⟨fun _ => ⟨nI_ne0 (by omega) (by omega), h _ _ hG⟩, fun c => ?_⟩
  have hlt := nI_go (by omega) hk c
  refine ⟨vp_in_nI (by omega) (by decide), ?_⟩
  rintro _ rfl _ rfl
  exact hK (_, _) hlt (nI_1 k) trivial
/-- points that are together: a place below n each -/
def Tg (S : MS) (n : Nat) : Prop := ∀ i, i < n → ∃ t, t < n ∧ aI S 30 i = nI t
def sm (S : MS) (n : Nat) : Nat := fb_sm (fun i => (aI S 30 i).toNatClampNeg) n
theorem t9_joins {a b n : Nat} (ha : a < n) (hb : b < n) (hn : n ≤ 128) (S : MS) (hT : Tg S n) (Q : Int32 → MS → Prop) (h : ∀ r S', Fr [30] S S' → Tg S' n → sm S' n ≤ sm S n → (r = 0 ∨ (r = 1 ∧ sm S' n < sm S n)) → Q r S') : w9_joins (nI a) (nI b) S Q := by
  obtain ⟨ta, hta, ea⟩ := hT a ha
  obtain ⟨tb, htb, eb⟩ := hT b hb
  have va := vp_in_nI (n := a) (N := 128) (by omega) (by decide)
  have vb := vp_in_nI (n := b) (N := 128) (by omega) (by decide)
  have main : ∀ l, l ≤ ta → l ≤ tb → (l = ta ∨ l = tb) → w9_joins_b30 (nI a) (nI b) (nI l) S Q := by
    intro l hl1 hl2 hl3
    have e30 : aI (sA (sA S 30 (nI a) (nI l)) 30 (nI b) (nI l)) 30 = upd (upd (aI S 30) a (nI l)) b (nI l) := by
      rw [rd_A, rd_A, nI_clamp (by omega), nI_clamp (by omega)]
    have hT2 : Tg (sA (sA S 30 (nI a) (nI l)) 30 (nI b) (nI l)) n := by
      intro i hi
      rw [e30]
      by_cases q : i = b
      · rw [q, pk_us]; exact ⟨l, by omega, rfl⟩
      · rw [pk_un q]
        by_cases q2 : i = a
        · rw [q2, pk_us]; exact ⟨l, by omega, rfl⟩
        · rw [pk_un q2]; exact hT i hi
    have es : sm (sA (sA S 30 (nI a) (nI l)) 30 (nI b) (nI l)) n + (if b = a then l else tb) + ta = sm S n + l + l := by
      unfold sm
      rw [e30]
      have f1 : fb_sm (fun i => (upd (upd (aI S 30) a (nI l)) b (nI l) i).toNatClampNeg) n = fb_sm (fun i => if i = b then l else if i = a then l else (aI S 30 i).toNatClampNeg) n := by
        apply fb_sm_cong
        intro i _
        by_cases q : i = b
        · rw [if_pos q, q, pk_us, nI_clamp (by omega)]
        · rw [if_neg q, pk_un q]
          by_cases q2 : i = a
          · rw [q2, pk_us, nI_clamp (by omega)]; exact (if_pos rfl).symm
          · rw [pk_un q2]; exact (if_neg q2).symm
      have f2 := fb_sm_upd (fun i => if i = a then l else (aI S 30 i).toNatClampNeg) l hb
      have f3 := fb_sm_upd (fun i => (aI S 30 i).toNatClampNeg) l ha
      rw [eb, nI_clamp (by omega)] at f2
      rw [ea, nI_clamp (by omega)] at f3
      rw [f1]
      omega
    have hba : b = a → ta = tb := by
      intro e
      rw [e, ea] at eb
      exact (nI_eq (by omega) (by omega)).mp eb
    unfold w9_joins_b30 w9_joins_b51
    rw [rA_n _ _ (by omega), rA_n _ _ (by omega), ea, eb]
    refine ⟨va, vb, fun _ => ⟨va, ?_⟩, fun c => ⟨va, ?_⟩⟩
    · rintro _ rfl
      refine ⟨vb, ?_⟩
      rintro _ rfl
      refine ⟨rfl, h _ _ (fr_tr (fr_sA (by decide)) (fr_sA (by decide))) hT2 ?_ (Or.inl rfl)⟩
      split at es <;> omega
    · have hne : ta ≠ tb := fun e => c (by rw [e])
      rintro _ rfl
      refine ⟨vb, ?_⟩
      rintro _ rfl
      rw [if_neg (fun e => hne (hba e))] at es
      exact ⟨rfl, h _ _ (fr_tr (fr_sA (by decide)) (fr_sA (by decide))) hT2 (by omega) (Or.inr ⟨rfl, by omega⟩)⟩
  unfold w9_joins
  rw [rA_n _ _ (by omega), rA_n _ _ (by omega), ea, eb]
  refine ⟨va, vb, fun c => ?_, fun c => ?_⟩
  · have := (nI_leI (a := tb) (b := ta) (by omega) (by omega)).mp c
    exact main tb (by omega) (by omega) (Or.inr rfl)
  · have : ¬ tb ≤ ta := fun q => c (nI_le q (by omega))
    exact main ta (by omega) (by omega) (Or.inl rfl)
def Prt (S : MS) (n : Nat) : Prop := ∀ i, i < n → ∃ p, p < n ∧ aI S 29 i = nI p
theorem t9_isLegal {n : Nat} (S : MS) (hR : Rim9 S n) (hP : Prt S n) (Q : Int32 → MS → Prop) (h : ∀ r S', Fr [30, 31, 32] S S' → Q r S') : w9_isLegal S Q := by
  obtain ⟨h1, h2, h3, h4⟩ := hR
  unfold w9_isLegal w9_isLegal_b2
  refine lp_up n (fun z => z.1) (fun k z => Fr [30] S z.2 ∧ ∀ j, j < k → aI z.2 30 j = nI j) (by omega) ?_ (Nat.zero_le _) (rfl : (0 : Int32) = nI 0) (by exact ⟨fr_rf, fun j hj => absurd hj (Nat.not_lt_zero j)⟩)
  rintro K ⟨y, S1⟩ k hk hcc ⟨hF1, hj⟩ hK
  try dsimp only at hcc hF1 hj hK
  subst hcc
  have e25 : fI S1 25 = nI n := (hF1 25 (by decide)).1.trans h3
  unfold w9_isLegal_F2 w9_isLegal_d2
  try dsimp only
  rw [e25]
  refine ⟨fun c => ?_, fun c => ?_⟩
  rotate_left
  · have hlt := nI_go (by omega) hk c
    refine ⟨vp_in_nI (by omega) (by decide), ?_⟩
    rintro _ rfl _ rfl
    refine hK (_, _) hlt (nI_1 k) ⟨fr_tr hF1 (fr_sA (by decide)), fun j hj2 => ?_⟩
    try dsimp only
    rw [rd_A, nI_clamp (by omega)]
    by_cases e : j = k
    · rw [e, pk_us]
    · rw [pk_un e]; exact hj j (by omega)
  have ek := nI_end (by omega) hk c
  subst ek
  clear hK c hk
  have hT1 : Tg S1 k := fun i hi => ⟨i, hi, hj i hi⟩
  clear hj
  unfold w9_isLegal_b25
  refine lp_of (fun z : Int32 × MS => Fr [30] S z.2 ∧ Tg z.2 k) (fun z => if z.1 = 0 then 0 else 1 + sm z.2 k) ?_ (by exact ⟨hF1, hT1⟩)
  clear hF1 hT1 e25
  rintro K ⟨goes, S2⟩ ⟨hF2, hT2⟩ hK
  try dsimp only at hF2 hT2 hK
  have e25 : fI S2 25 = nI k := (hF2 25 (by decide)).1.trans h3
  unfold w9_isLegal_F25 w9_isLegal_d25
  try dsimp only
  refine ⟨fun _ => ?_, fun cg => ?_⟩
  rotate_left
  · unfold w9_isLegal_b33
    refine lp_up k (fun z => z.2.1) (fun i z => Fr [30] S z.2.2 ∧ Tg z.2.2 k ∧ sm z.2.2 k ≤ sm S2 k ∧ (¬ z.1 = 0 → sm z.2.2 k < sm S2 k)) (by omega) ?_ (Nat.zero_le _) (rfl : (0 : Int32) = nI 0) (by exact ⟨hF2, hT2, Nat.le_refl _, fun c => absurd rfl c⟩)
    rintro K1 ⟨g1, y, S3⟩ i hi hcc ⟨hF3, hT3, hs3, hg3⟩ hK1
    try dsimp only at hcc hF3 hT3 hs3 hg3 hK1
    subst hcc
    have e25b : fI S3 25 = nI k := (hF3 25 (by decide)).1.trans h3
    unfold w9_isLegal_F33 w9_isLegal_d33
    try dsimp only
    rw [e25b]
    refine ⟨fun _ => hK (_, _) ⟨hF3, hT3⟩ ?_, fun c => ?_⟩
    · try dsimp only
      rw [if_neg cg]
      by_cases e : g1 = 0
      · rw [if_pos e]; omega
      · rw [if_neg e]; have := hg3 e; omega
    have hlt := nI_go (by omega) hi c
    obtain ⟨p, hp, ep⟩ := hP i hlt
    rw [rA_n _ _ (by omega), (hF3 29 (by decide)).2.2.1, ep, nI_1, pk_rem (by omega) (by omega) (by omega)]
    refine ⟨vp_in_nI (by omega) (by decide), nI_ne0 (by omega) (by omega), ?_⟩
    have hmod : (p + 1) % k < k := Nat.mod_lt _ (by omega)
    refine t9_joins hlt hmod (by omega) S3 hT3 _ (fun r S4 hF4 hT4 hs4 hr => ?_)
    have k71 : ∀ v, (¬ v = 0 → sm S4 k < sm S2 k) → w9_isLegal_b71 (fun y0 y1 y2 => K1 (y0, y1, y2)) (nI i) v S4 Q := by
      intro v hv
      unfold w9_isLegal_b71
      rintro _ rfl
      exact hK1 (_, _, _) hlt (nI_1 i) ⟨fr_tr hF3 hF4, hT4, by show sm S4 k ≤ sm S2 k; omega, hv⟩
    unfold w9_isLegal_b66
    refine ⟨fun hr1 => k71 _ (fun _ => ?_), fun hr0 => ⟨fun _ => k71 _ (fun c => absurd rfl c), fun hg1 => k71 _ (fun _ => ?_)⟩⟩
    · rcases hr with hr | hr
      · exact absurd hr hr1
      · omega
    · have := hg3 hg1; omega
  unfold w9_isLegal_b83
  refine lp_up 5 (fun z => z.1) (fun _ z => Fr [30, 31, 32] S z.2) (by decide) ?_ (Nat.zero_le _) (rfl : (0 : Int32) = nI 0) (by exact fr_mono hF2 (by decide))
  rintro K1 ⟨y, S3⟩ i hi hcc hF3 hK1
  try dsimp only at hcc hF3 hK1
  subst hcc
  unfold w9_isLegal_F83 w9_isLegal_d83
  try dsimp only
  refine ⟨fun _ => ?_, fun c => ?_⟩
  rotate_left
  · have hlt := nI_go (N := 5) (by decide) hi c
    refine ⟨vp_in_nI hlt (by decide), ?_⟩
    rintro _ rfl _ rfl
    exact hK1 (_, _) hlt (nI_1 i) (fr_tr hF3 (fr_sA (by decide)))
  clear hK1
  rintro _ rfl
  unfold w9_isLegal_b110
  refine lp_up k (fun z => z.2.1) (fun _ z => (z.1 = 0 ∨ z.1 = 1) ∧ Fr [30, 31, 32] S z.2.2) (by omega) ?_ (Nat.zero_le _) (rfl : (0 : Int32) = nI 0) (by exact ⟨Or.inr rfl, fr_tr hF3 (fr_sI (by decide))⟩)
  rintro K2 ⟨lg, y, S4⟩ i4 hi4 hcc ⟨hlg, hF4⟩ hK2
  try dsimp only at hcc hlg hF4 hK2
  subst hcc
  have e25d : fI S4 25 = nI k := (hF4 25 (by decide)).1.trans h3
  unfold w9_isLegal_F110 w9_isLegal_d110
  try dsimp only
  rw [e25d]
  refine ⟨fun _ => ⟨nbool hlg, h _ _ hF4⟩, fun c => ?_⟩
  have hlt4 := nI_go (by omega) hi4 c
  unfold w9_isLegal_b124
  refine lp_up k (fun z => z.2) (fun j z => ∃ m, m ≤ 3 * j ∧ z.1 = nI m) (by omega) ?_ (Nat.zero_le _) (rfl : (0 : Int32) = nI 0) (by exact ⟨0, Nat.zero_le _, rfl⟩)
  rintro K3 ⟨s, y⟩ j hj hcc ⟨m, hm, es⟩ hK3
  try dsimp only at hcc es hK3
  subst hcc es
  unfold w9_isLegal_F124 w9_isLegal_d124
  try dsimp only
  rw [e25d]
  refine ⟨fun _ => ?_, fun c => ?_⟩
  rotate_left
  · have hltj := nI_go (by omega) hj c
    refine ⟨vp_in_nI (by omega) (by decide), ?_⟩
    obtain ⟨a, ha, ea⟩ := h4 j hltj
    rw [rA_n _ 28 (by omega), (hF4 28 (by decide)).2.2.1, ea]
    unfold w9_isLegal_b157
    refine ⟨fun _ => ?_, fun _ => ?_⟩
    · rintro _ rfl _ rfl
      exact hK3 (_, _) hltj (nI_1 j) ⟨m, by omega, p0_I m⟩
    · rintro _ rfl _ rfl
      exact hK3 (_, _) hltj (nI_1 j) ⟨m + a, by omega, nI_add m a⟩
  have k217 : ∀ t v S5, (t = 0 ∨ t = 1) → Fr [30, 31, 32] S S5 → vp_in v 5 → w9_isLegal_b217 (fun y0 y1 y2 => K2 (y0, y1, y2)) t (nI i4) v S5 Q := by
    intro t v S5 ht hF5 hv
    unfold w9_isLegal_b217
    refine ⟨hv, ?_⟩
    rintro _ rfl _ rfl
    exact hK2 (_, _, _) hlt4 (nI_1 i4) ⟨ht, fr_tr hF5 (fr_sA (by decide))⟩
  have k200 : ∀ t S5, (t = 0 ∨ t = 1) → Fr [30, 31, 32] S S5 → w9_isLegal_b200 (fun y0 y1 y2 => K2 (y0, y1, y2)) (nI i4) (nI m) t S5 Q := by
    intro t S5 ht hF5
    unfold w9_isLegal_b200
    refine ⟨fun c => k217 _ _ _ ht hF5 ?_, fun c => k217 _ _ _ ht hF5 (by unfold vp_in; decide)⟩
    have := (nI_leI (a := m) (b := 4) (by omega) (by decide)).mp c
    exact vp_in_nI (by omega) (by decide)
  have k181 : ∀ t1 t2, w9_isLegal_b181 (fun y0 y1 y2 => K2 (y0, y1, y2)) lg (nI i4) (nI m) t1 t2 S4 Q := by
    intro t1 t2
    unfold w9_isLegal_b181 w9_isLegal_b199
    rintro _ rfl
    have hF5 : Fr [30, 31, 32] S (sI S4 32 (t1 + t2)) := fr_tr hF4 (fr_sI (by decide))
    exact ⟨fun _ => k200 _ _ (Or.inl rfl) hF5, fun _ => ⟨fun _ => k200 _ _ (Or.inl rfl) hF5, fun _ => k200 _ _ (Or.inr rfl) hF5⟩⟩
  exact ⟨fun _ => k181 _ _, fun _ => k181 _ _⟩

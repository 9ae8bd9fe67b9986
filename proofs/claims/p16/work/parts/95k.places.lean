/-! ===== pure: the places of the rows on both sides ===== -/
def PL (X : Nat → MS) (S : MS) : Prop := ∀ r, r < 4 → ∀ i : Nat, i < 24 → (i : Int) < (aI S 40 r).toInt → aI (X (10 + r)) 0 i = aI S 41 (24 * r + i)
theorem pl_g {X X' : Nat → MS} {S S' : MS} (h : PL X S) (g8 : G8 X X') (g9 : G9 S S') : PL X' S' := by
  intro r hr i hi hlt
  rw [g9.2.1] at hlt
  rw [g8.2 (10 + r) (by omega), g9.2.2.1]
  exact h r hr i hi hlt
theorem x9_row (r n : Int32) (S : MS) (Q : Int32 → MS → Prop) (hb : (¬ vp_in r 4 ∨ ¬ n.toInt ≤ 24) → Q (-1) S) (hs : vp_in r 4 → n.toInt < 0 → ∀ S', Fr [0, 1] S S' → Q (-3) S')
    (hk : ∀ a, a < 4 → r = nI a → 0 ≤ n.toInt → n.toInt ≤ 24 → ∀ S', Fr [40, 41] S S' → aI S' 40 = upd (aI S 40) a n → (∀ i, i < 24 → aI S' 41 (24 * a + i) = 0) → (∀ j, ¬ (24 * a ≤ j ∧ j < 24 * a + 24) → aI S' 41 j = aI S 41 j) → Q n S') : w9_row r n S Q := by
  unfold w9_row w9_row_b13
  have e24 : (24 : Int32).toInt = 24 := rfl
  have e0 : (0 : Int32).toInt = 0 := rfl
  refine s9_isRow _ _ (fun hr => ⟨fun c => absurd c (by decide), fun _ => ⟨fun c => ⟨fun d => ⟨hr, ?_⟩, fun d => ?_⟩, fun c => ?_⟩⟩) (fun hr => ⟨fun _ => hb (Or.inl hr), fun c => absurd rfl c⟩)
  · rintro _ rfl
    obtain ⟨a, ha, rfl⟩ := vp_in_of hr (by omega)
    rw [pi_le] at c d
    have good := hk a ha rfl (by omega) (by omega)
    have e1 : aI (sA S 40 (nI a) n) 40 = upd (aI S 40) a n := by rw [rd_A, nI_clamp (by omega)]
    have e2 : aI (sA S 40 (nI a) n) 41 = aI S 41 := rd_sn _ (by decide)
    unfold w9_row_b34
    refine lp_up 24 (fun z => z.1) (fun k z => Fr [40, 41] S z.2 ∧ aI z.2 40 = upd (aI S 40) a n ∧ (∀ i, i < k → aI z.2 41 (24 * a + i) = 0) ∧ (∀ j, ¬ (24 * a ≤ j ∧ j < 24 * a + 24) → aI z.2 41 j = aI S 41 j)) (by decide) ?_ (Nat.zero_le _) (rfl : (0 : Int32) = nI 0) (by exact ⟨fr_sA (by decide), e1, fun i hi => absurd hi (Nat.not_lt_zero i), fun j _ => by rw [e2]⟩)
    rintro K ⟨y, S1⟩ k hk24 hcc ⟨hF, hA, hz, ho⟩ hK
    try dsimp only at hcc hF hA hz ho hK
    subst hcc
    unfold w9_row_F34 w9_row_d34
    try dsimp only
    refine ⟨fun c2 => ?_, fun c2 => ?_⟩
    · have e := nI_end (N := 24) (by decide) hk24 c2
      subst e
      exact good S1 hF hA hz ho
    have hlt := nI_go (N := 24) (by decide) hk24 c2
    rw [ix24]
    refine ⟨vp_in_nI (by omega) (by omega), ?_⟩
    rintro _ rfl _ rfl
    have e41 : aI (sA S1 41 (nI (24 * a + k)) 0) 41 = upd (aI S1 41) (24 * a + k) 0 := by rw [rd_A, nI_clamp (by omega)]
    refine hK (_, _) hlt (nI_1 k) ⟨fr_tr hF (fr_sA (by decide)), ?_, fun i hi => ?_, fun j hj => ?_⟩
    · show aI (sA S1 41 (nI (24 * a + k)) 0) 40 = _
      rw [rd_sn _ (by decide)]; exact hA
    · show aI (sA S1 41 (nI (24 * a + k)) 0) 41 _ = 0
      rw [e41]
      by_cases e : i = k
      · rw [e, pk_us]
      · rw [pk_un (by omega)]; exact hz i (by omega)
    · show aI (sA S1 41 (nI (24 * a + k)) 0) 41 _ = _
      rw [e41, pk_un (by omega)]; exact ho j hj
  · rw [pi_le] at d
    exact s9_meets _ _ _ (by unfold vp_in; decide) (hs hr (by omega) _ (fr_tr (fr_sI (by decide)) (fr_sA (by decide))))
  · rw [pi_le] at c
    exact hb (Or.inr (by omega))
theorem x9_lay (x i v : Int32) (S : MS) (Q : Int32 → MS → Prop) (h24 : ∀ r, r < 4 → (aI S 40 r).toInt ≤ 24) (hb : ¬ vp_in x 4 → Q (-1) S) (hn : ∀ r, r < 4 → x = nI r → ((aI S 40 r).toInt < 0 ∨ ¬ (0 ≤ i.toInt ∧ i.toInt < (aI S 40 r).toInt)) → ∀ S', Fr [0, 1] S S' → Q (-3) S')
    (hk : ∀ r j, r < 4 → j < 24 → x = nI r → i = nI j → (j : Int) < (aI S 40 r).toInt → ∀ S', Fr [2, 41] S S' → aI S' 41 = upd (aI S 41) (24 * r + j) v → Q 1 S') : w9_lay x i v S Q := by
  have e0 : (0 : Int32).toInt = 0 := rfl
  have hrr : ∀ r, r < 4 → rA S 40 (nI r) = aI S 40 r := fun r hr => rA_n _ _ (by omega)
  unfold w9_lay
  refine s9_askedRow _ _ _ (fun hx => ⟨fun c => absurd c (by decide), fun _ => hb hx⟩) (fun hx hz S' hF => ⟨fun c => absurd c (by decide), fun _ => ?_⟩) (fun hx hz => ⟨fun _ => ⟨hx, ?_⟩, fun c => absurd r0_pos c⟩)
  · obtain ⟨r, hr, rfl⟩ := vp_in_of hx (by decide)
    rw [hrr r hr] at hz
    exact hn r hr rfl (Or.inl hz) S' hF
  obtain ⟨r, hr, rfl⟩ := vp_in_of hx (by decide)
  rw [hrr r hr] at hz ⊢
  have hsz := h24 r hr
  have e1 : (aI S 40 r - 1).toInt = (aI S 40 r).toInt - 1 := by
    rw [fb_subI (by rw [show (1 : Int32).toInt = 1 from rfl]; omega) (by rw [show (1 : Int32).toInt = 1 from rfl]; omega)]
    rfl
  refine s9_in _ _ _ _ (fun hi => ⟨fun _ => ?_, fun c => absurd c (by decide)⟩) (fun hi => ⟨fun c => absurd rfl c, fun _ => m9_fr _ (by unfold vp_in; decide) _ _ (fun S' hF => hn r hr rfl (Or.inr (by omega)) S' hF)⟩)
  obtain ⟨j, hj, rfl⟩ := vp_in_of (n := 24) (pi_in.mpr (by omega) : vp_in i 24) (by decide)
  have ej : (nI j).toInt = (j : Int) := nI_toInt (by omega)
  rw [ix24]
  refine ⟨vp_in_nI (by omega) (by decide), ?_⟩
  rintro _ rfl _ rfl
  refine hk r j hr hj rfl rfl (by omega) _ (fr_tr (fr_sJ (by decide)) (fr_sA (by decide))) ?_
  rw [rd_A, nI_clamp (by omega)]
  rfl
theorem x9_copy (x i t j n : Int32) (S : MS) (Q : Int32 → MS → Prop) (h24 : ∀ r, r < 4 → (aI S 40 r).toInt ≤ 24) (hb : (¬ vp_in x 4 ∨ ¬ vp_in t 4) → Q (-1) S)
    (hn : ∀ r q, r < 4 → q < 4 → x = nI r → t = nI q → (n.toInt < 0 ∨ (aI S 40 r).toInt < 0 ∨ (aI S 40 q).toInt < 0 ∨ i.toInt < 0 ∨ j.toInt < 0 ∨ (aI S 40 r).toInt < i.toInt + n.toInt ∨ (aI S 40 q).toInt < j.toInt + n.toInt) → ∀ S', Fr [0, 1] S S' → Q (-3) S')
    (hk : ∀ r q a b m, r < 4 → q < 4 → x = nI r → t = nI q → i = nI a → j = nI b → n = nI m → m < 25 → a < 25 → b < 25 → (a : Int) + m ≤ (aI S 40 r).toInt → (b : Int) + m ≤ (aI S 40 q).toInt → ∀ S', Fr [41, 42] S S' → (∀ z, aI S' 41 z = if 24 * q + b ≤ z ∧ z < 24 * q + b + m then aI S 41 (24 * r + a + (z - (24 * q + b))) else aI S 41 z) → Q 1 S') : w9_copy x i t j n S Q := by
  have e0 : (0 : Int32).toInt = 0 := rfl
  unfold w9_copy w9_copy_b14 w9_copy_b45 w9_copy_b95
  refine s9_isRow _ _ (fun hx => ⟨fun c => absurd c (by decide), fun _ => s9_isRow _ _ (fun ht => ⟨fun _ => ?_, fun c => absurd c (by decide)⟩) (fun ht => ⟨fun c => absurd rfl c, fun _ => hb (Or.inr ht)⟩)⟩) (fun hx => ⟨fun _ => hb (Or.inl hx), fun c => absurd rfl c⟩)
  obtain ⟨r, hr, rfl⟩ := vp_in_of hx (by decide)
  obtain ⟨q, hq, rfl⟩ := vp_in_of ht (by decide)
  have ez : ∀ a : Int32, a < 0 ↔ a.toInt < 0 := fun a => by rw [pi_lt, e0]
  have el : ∀ a : Int32, 0 ≤ a ↔ 0 ≤ a.toInt := fun a => by rw [pi_le, e0]
  have bad := hn r q hr hq rfl rfl
  have s1 := h24 r hr
  have s2 := h24 q hq
  rw [rA_n _ _ (by omega), rA_n _ _ (by omega), el, el, ez, ez, ez, lg_cmp_gt, lg_cmp_le, Int64.lt_iff_toInt_lt, Int64.le_iff_toInt_le, wide_add, wide_add, Int32.toInt_toInt64, Int32.toInt_toInt64]
  have mt : ∀ w, vp_in w 6 → (n.toInt < 0 ∨ (aI S 40 r).toInt < 0 ∨ (aI S 40 q).toInt < 0 ∨ i.toInt < 0 ∨ j.toInt < 0 ∨ (aI S 40 r).toInt < i.toInt + n.toInt ∨ (aI S 40 q).toInt < j.toInt + n.toInt) → w9_meets w S (fun r1 S2 => Q r1 S2) := fun w hw hc => m9_fr w hw S _ (fun S' hF => bad hc S' hF)
  have v5 : vp_in (5 : Int32) 6 := by unfold vp_in; decide
  have v1 : vp_in (1 : Int32) 6 := by unfold vp_in; decide
  have v2 : vp_in (2 : Int32) 6 := by unfold vp_in; decide
  refine ⟨fun c1 => ⟨hx, fun c2 => mt _ v1 (by omega), fun c2 => ⟨ht, fun c3 => ⟨fun c4 => mt _ v2 (by omega), fun c4 => ⟨fun c5 => mt _ v2 (by omega), fun c5 => ⟨fun c6 => mt _ v2 (by omega), fun c6 => ⟨fun c7 => ?_, fun c7 => mt _ v2 (by omega)⟩⟩⟩⟩, fun c3 => mt _ v1 (by omega)⟩⟩, fun c1 => mt _ v5 (by omega)⟩
  obtain ⟨nn, hnn, rfl⟩ := vp_in_of (n := 25) (pi_in.mpr (by omega) : vp_in n 25) (by decide)
  have en : (nI nn).toInt = (nn : Int) := nI_toInt (by omega)
  obtain ⟨a, ha, rfl⟩ := vp_in_of (n := 25) (pi_in.mpr (by omega) : vp_in i 25) (by decide)
  obtain ⟨b, hb2, rfl⟩ := vp_in_of (n := 25) (pi_in.mpr (by omega) : vp_in j 25) (by decide)
  have ea : (nI a).toInt = (a : Int) := nI_toInt (by omega)
  have eb : (nI b).toInt = (b : Int) := nI_toInt (by omega)
  have good := hk r q a b nn hr hq rfl rfl rfl rfl rfl (by omega) (by omega) (by omega) (by omega) (by omega)
  unfold w9_copy_b104
  refine lp_up nn (fun z => z.1) (fun k z => Fr [42] S z.2 ∧ ∀ m, m < k → aI z.2 42 m = aI S 41 (24 * r + a + m)) (by omega) ?_ (Nat.zero_le _) (rfl : (0 : Int32) = nI 0) (by exact ⟨fr_rf, fun m hm => absurd hm (Nat.not_lt_zero m)⟩)
  rintro K ⟨y, S1⟩ k hk2 hcc ⟨hF, hm⟩ hK
  try dsimp only at hcc hF hm hK
  subst hcc
  unfold w9_copy_F104 w9_copy_d104
  try dsimp only
  rw [ix24, nI_add]
  refine ⟨fun c => ?_, fun c => ?_⟩
  rotate_left
  · have hlt := nI_go (by omega) hk2 c
    refine ⟨vp_in_nI (by omega) (by decide), vp_in_nI (by omega) (by decide), ?_⟩
    rintro _ rfl _ rfl
    refine hK (_, _) hlt (nI_1 k) ⟨fr_tr hF (fr_sA (by decide)), fun m hm2 => ?_⟩
    try dsimp only
    rw [rd_A, nI_clamp (by omega), rA_n _ _ (by omega), (hF 41 (by decide)).2.2.1]
    by_cases e : m = k
    · rw [e, pk_us]
    · rw [pk_un e]; exact hm m (by omega)
  have e := nI_end (by omega) hk2 c
  subst e
  unfold w9_copy_b141
  refine lp_up k (fun z => z.1) (fun v z => Fr [41, 42] S z.2 ∧ aI z.2 42 = aI S1 42 ∧ ∀ w, aI z.2 41 w = if 24 * q + b ≤ w ∧ w < 24 * q + b + v then aI S1 42 (w - (24 * q + b)) else aI S 41 w) (by omega) ?_ (Nat.zero_le _) (rfl : (0 : Int32) = nI 0) (by exact ⟨fr_mono hF (by decide), rfl, fun w => by rw [if_neg (by omega), (hF 41 (by decide)).2.2.1]⟩)
  rintro K2 ⟨y, S2⟩ k2 hk3 hcc ⟨hF2, h42, hw⟩ hK2
  try dsimp only at hcc hF2 h42 hw hK2
  subst hcc
  unfold w9_copy_F141 w9_copy_d141
  try dsimp only
  rw [ix24, nI_add]
  refine ⟨fun c2 => good _ hF2 (fun z => ?_), fun c2 => ?_⟩
  · have e := nI_end (by omega) hk3 c2
    subst e
    rw [hw z]
    by_cases q1 : 24 * q + b ≤ z ∧ z < 24 * q + b + k2
    · rw [if_pos q1, if_pos q1]; exact hm _ (by omega)
    · rw [if_neg q1, if_neg q1]
  have hlt := nI_go (by omega) hk3 c2
  refine ⟨vp_in_nI (by omega) (by decide), vp_in_nI (by omega) (by decide), ?_⟩
  rintro _ rfl _ rfl
  refine hK2 (_, _) hlt (nI_1 k2) ⟨fr_tr hF2 (fr_sA (by decide)), ?_, fun w => ?_⟩
  · show aI (sA S2 41 _ _) 42 = _
    rw [rd_sn _ (by decide)]; exact h42
  · show aI (sA S2 41 _ _) 41 w = _
    rw [rd_A, nI_clamp (by omega), rA_n _ _ (by omega), h42]
    by_cases e : w = 24 * q + b + k2
    · rw [e, pk_us, if_pos (by omega), show 24 * q + b + k2 - (24 * q + b) = k2 by omega]
    · rw [pk_un e, hw w]
      by_cases q1 : 24 * q + b ≤ w ∧ w < 24 * q + b + k2
      · rw [if_pos q1, if_pos (by omega)]
      · rw [if_neg q1, if_neg (by omega)]
theorem x8_lay (x i v : Int32) (Z : MS) (X : Nat → MS) (hI : Inv8 X) (Q : Int32 → MS → (Nat → MS) → Prop) (hb : ¬ vp_in x 4 → Q (-1) Z X)
    (hn : ∀ r, r < 4 → x = nI r → ((fI (X (10 + r)) 1).toInt = -1 ∨ ¬ (0 ≤ i.toInt ∧ i.toInt < (fI (X (10 + r)) 1).toInt)) → ∀ Z', Q (-3) Z' X)
    (hk : ∀ r j, r < 4 → j < 24 → x = nI r → i = nI j → (j : Int) < (fI (X (10 + r)) 1).toInt → ∀ Z' S', fI S' 1 = fI (X (10 + r)) 1 → aI S' 0 = upd (aI (X (10 + r)) 0) j v → Q 1 Z' (va_up X (10 + r) S')) : w8_lay x i v Z X Q := by
  unfold w8_lay
  refine s8_isRow _ _ (fun hx => ⟨fun _ => ?_, fun c => absurd c (by decide)⟩) (fun hx => ⟨fun c => absurd rfl c, fun _ => hb hx⟩)
  obtain ⟨r, hr, rfl⟩ := vp_in_of hx (by decide)
  rw [nI_clamp (by omega)]
  have h24 := (hI.1 r (by omega)).2
  refine ⟨hx, ⟨by omega, by omega⟩, s5_isThere _ _ (fun _ => ⟨fun _ => s5_hasPlace _ _ _ (fun hp => ⟨fun _ => ⟨pi_in.mpr (by omega), ?_⟩, fun c => absurd c (by decide)⟩) (fun hp => ⟨fun c => absurd rfl c, fun _ => s8_refuse _ _ _ _ (fun Z' _ => hn r hr rfl (Or.inr hp) Z')⟩), fun c => absurd c (by decide)⟩) (fun he => ⟨fun c => absurd rfl c, fun _ => s8_refuse _ _ _ _ (fun Z' _ => hn r hr rfl (Or.inl (fI_m1.mp he)) Z')⟩)⟩
  obtain ⟨j, hj, rfl⟩ := vp_in_of (n := 24) (pi_in.mpr (by omega) : vp_in i 24) (by decide)
  have ej : (nI j).toInt = (j : Int) := nI_toInt (by omega)
  rintro _ rfl _ rfl
  exact hk r j hr hj rfl rfl (by omega) _ _ (fi_sA _ _ _ _ _) (by rw [rd_A, nI_clamp (by omega)])
theorem x8_copy (x i t j n : Int32) (Z : MS) (X : Nat → MS) (hI : Inv8 X) (Q : Int32 → MS → (Nat → MS) → Prop) (hb : (¬ vp_in x 4 ∨ ¬ vp_in t 4) → Q (-1) Z X)
    (hn : ∀ r q, r < 4 → q < 4 → x = nI r → t = nI q → (n.toInt < 0 ∨ (fI (X (10 + r)) 1).toInt = -1 ∨ (fI (X (10 + q)) 1).toInt = -1 ∨ ¬ (0 ≤ i.toInt ∧ 0 ≤ n.toInt ∧ i.toInt + n.toInt ≤ (fI (X (10 + r)) 1).toInt) ∨ ¬ (0 ≤ j.toInt ∧ 0 ≤ n.toInt ∧ j.toInt + n.toInt ≤ (fI (X (10 + q)) 1).toInt)) → ∀ Z', Q (-3) Z' X)
    (hk : ∀ r q a b m, r < 4 → q < 4 → x = nI r → t = nI q → i = nI a → j = nI b → n = nI m → m < 25 → a < 25 → b < 25 → (a : Int) + m ≤ (fI (X (10 + r)) 1).toInt → (b : Int) + m ≤ (fI (X (10 + q)) 1).toInt → ∀ S', fI S' 1 = fI (X (10 + q)) 1 → (∀ z, aI S' 0 z = if b ≤ z ∧ z < b + m then aI (X (10 + r)) 0 (a + (z - b)) else aI (X (10 + q)) 0 z) → Q 1 Z (va_up X (10 + q) S')) : w8_copy x i t j n Z X Q := by
  have e0 : (0 : Int32).toInt = 0 := rfl
  unfold w8_copy w8_copy_b14 w8_copy_b51 w8_copy_b88
  refine s8_isRow _ _ (fun hx => ⟨fun c => absurd c (by decide), fun _ => s8_isRow _ _ (fun ht => ⟨fun _ => ?_, fun c => absurd c (by decide)⟩) (fun ht => ⟨fun c => absurd rfl c, fun _ => hb (Or.inr ht)⟩)⟩) (fun hx => ⟨fun _ => hb (Or.inl hx), fun c => absurd rfl c⟩)
  obtain ⟨r, hr, rfl⟩ := vp_in_of hx (by decide)
  obtain ⟨q, hq, rfl⟩ := vp_in_of ht (by decide)
  rw [nI_clamp (by omega), nI_clamp (by omega)]
  have hR := hI.1 r (by omega)
  have hT := hI.1 q (by omega)
  have r24 := hR.2
  have t24 := hT.2
  have bad := hn r q hr hq rfl rfl
  have rf : ∀ w, (n.toInt < 0 ∨ (fI (X (10 + r)) 1).toInt = -1 ∨ (fI (X (10 + q)) 1).toInt = -1 ∨ ¬ (0 ≤ i.toInt ∧ 0 ≤ n.toInt ∧ i.toInt + n.toInt ≤ (fI (X (10 + r)) 1).toInt) ∨ ¬ (0 ≤ j.toInt ∧ 0 ≤ n.toInt ∧ j.toInt + n.toInt ≤ (fI (X (10 + q)) 1).toInt)) → w8_refuse w Z X (fun r1 S2 => Q r1 S2 X) := fun w hc => s8_refuse _ _ _ _ (fun Z' _ => bad hc Z')
  rw [pi_le, e0]
  refine ⟨fun c1 => ⟨hx, ⟨by omega, by omega⟩, s5_isThere _ _ (fun _ => ⟨fun c => absurd c (by decide), fun _ => ⟨ht, ⟨by omega, by omega⟩, s5_isThere _ _ (fun _ => ⟨fun _ => s5_hasPlaces _ _ _ hR _ (fun p1 => ⟨fun c => absurd c (by decide), fun _ => s5_hasPlaces _ _ _ hT _ (fun p2 => ⟨fun _ => ?_, fun c => absurd c (by decide)⟩) (fun p2 => ⟨fun c => absurd rfl c, fun _ => rf _ (Or.inr (Or.inr (Or.inr (Or.inr p2))))⟩)⟩) (fun p1 => ⟨fun _ => rf _ (Or.inr (Or.inr (Or.inr (Or.inl p1)))), fun c => absurd rfl c⟩), fun c => absurd c (by decide)⟩) (fun he => ⟨fun c => absurd rfl c, fun _ => rf _ (Or.inr (Or.inr (Or.inl (fI_m1.mp he))))⟩)⟩⟩) (fun he => ⟨fun _ => rf _ (Or.inr (Or.inl (fI_m1.mp he))), fun c => absurd rfl c⟩)⟩, fun c1 => rf _ (Or.inl (by omega))⟩
  obtain ⟨nn, hnn, rfl⟩ := vp_in_of (n := 25) (pi_in.mpr (by omega) : vp_in n 25) (by decide)
  obtain ⟨a, ha, rfl⟩ := vp_in_of (n := 25) (pi_in.mpr (by omega) : vp_in i 25) (by decide)
  obtain ⟨b, hb2, rfl⟩ := vp_in_of (n := 25) (pi_in.mpr (by omega) : vp_in j 25) (by decide)
  have en : (nI nn).toInt = (nn : Int) := nI_toInt (by omega)
  have ea : (nI a).toInt = (a : Int) := nI_toInt (by omega)
  have eb : (nI b).toInt = (b : Int) := nI_toInt (by omega)
  rw [nI_clamp (by omega), nI_clamp (by omega), nI_clamp (by omega)]
  refine ⟨⟨nI_pos (by omega), nI_pos (by omega), nI_pos (by omega), by omega, by omega⟩, ?_⟩
  rintro _ rfl
  refine hk r q a b nn hr hq rfl rfl rfl rfl rfl (by omega) (by omega) (by omega) (by omega) (by omega) _ rfl (fun z => ?_)
  rw [rd_aI]
  rfl
theorem f_row (x n : Int32) (Z : MS) (X : Nat → MS) (S : MS) (h8 : Inv8 X) (h9 : Inv9 S) (hR : RR X S) (hP : PL X S) (P : Int32 → Int32 → MS → (Nat → MS) → MS → Prop) (h : ∀ v Z' X' S', Nx X X' S S' → PL X' S' → P v v Z' X' S') : w8_row x n Z X (fun r1 Z2 X3 => w9_row x n S (fun r4 S5 => P r1 r4 Z2 X3 S5)) := by
  have hin : ∀ a b, a < 4 → b < 4 → nI a = nI b → a = b := fun a b ha hb e => (nI_eq (by omega) (by omega)).mp e
  refine s8_row _ _ _ _ _ (fun c8 => ?_) (fun hx hn Z' _ => ?_) (fun hx h0 h24 T hT0 eT => ?_)
  · refine x9_row _ _ _ _ (fun _ => h _ _ _ _ (nx_rf h8 h9 hR) hP) (fun hx hn S' _ => ?_) (fun a ha ea h0 h24 S' _ _ _ _ => ?_)
    · exfalso; rcases c8 with c | c
      · exact c hx
      · omega
    · exfalso; rcases c8 with c | c
      · exact c (by rw [ea]; exact vp_in_nI ha (by decide))
      · omega
  · refine x9_row _ _ _ _ (fun c9 => ?_) (fun _ _ S' hF => ?_) (fun a _ _ h0 _ S' _ _ _ _ => ?_)
    · exfalso; rcases c9 with c | c
      · exact c hx
      · omega
    · have g := g9_fr h9 hF (by decide) (by decide) (by decide) (by decide)
      exact h _ _ _ _ (nx_g hR (g8_rf h8) g) (pl_g hP (g8_rf h8) g)
    · omega
  · obtain ⟨r, hr, rfl⟩ := vp_in_of hx (by decide)
    rw [nI_clamp (by omega)]
    refine x9_row _ _ _ _ (fun c9 => ?_) (fun _ hn S' _ => ?_) (fun a ha ea _ _ S' hF e9 hz ho => ?_)
    · exfalso; rcases c9 with c | c
      · exact c hx
      · omega
    · omega
    · have e := hin r a hr ha ea
      subst e
      refine h _ _ _ _ ⟨inv8_row h8 T hr ⟨by rw [eT]; omega, by rw [eT]; omega⟩, inv9_rows h9 hF (by decide) (by decide) (fun q hq => ?_), rr_row hR hr eT e9 h0, fun b hb => va_up_ne _ _ (by omega), (hF 7 (by decide)).2.2.1, (hF 3 (by decide)).2.2.2⟩ (fun q hq i hi hlt => ?_)
      · rw [e9]
        by_cases e : q = r
        · rw [e, pk_us]; exact h24
        · rw [pk_un e]; exact h9.2.2 q hq
      · by_cases e : q = r
        · rw [e, va_up_self, hT0 i hi, hz i hi]
        · rw [e9, pk_un e] at hlt
          rw [va_up_ne _ _ (by omega), ho _ (by omega)]
          exact hP q hq i hi hlt
theorem f_lay (x i v : Int32) (Z : MS) (X : Nat → MS) (S : MS) (h8 : Inv8 X) (h9 : Inv9 S) (hR : RR X S) (hP : PL X S) (P : Int32 → Int32 → MS → (Nat → MS) → MS → Prop) (h : ∀ v Z' X' S', Nx X X' S S' → PL X' S' → P v v Z' X' S') : w8_lay x i v Z X (fun r1 Z2 X3 => w9_lay x i v S (fun r4 S5 => P r1 r4 Z2 X3 S5)) := by
  have hin : ∀ a b, a < 100 → b < 100 → nI a = nI b → a = b := fun a b ha hb e => (nI_eq (by omega) (by omega)).mp e
  refine x8_lay _ _ _ _ _ h8 _ (fun c8 => ?_) (fun r hr e c8 Z' => ?_) (fun r j hr hj e ei c8 Z' T eT eA => ?_)
  · refine x9_lay _ _ _ _ _ h9.2.2 (fun _ => h _ _ _ _ (nx_rf h8 h9 hR) hP) (fun r hr e _ S' _ => ?_) (fun r j hr hj e _ _ S' _ _ => ?_)
    · exact absurd (by rw [e]; exact vp_in_nI hr (by decide)) c8
    · exact absurd (by rw [e]; exact vp_in_nI hr (by decide)) c8
  · subst e
    have hq := hR r hr
    refine x9_lay _ _ _ _ _ h9.2.2 (fun c9 => absurd (vp_in_nI hr (by decide)) c9) (fun r' hr' e' _ S' hF => ?_) (fun r' j hr' hj e' ei c9 S' _ _ => ?_)
    · have g := g9_fr h9 hF (by decide) (by decide) (by decide) (by decide)
      exact h _ _ _ _ (nx_g hR (g8_rf h8) g) (pl_g hP (g8_rf h8) g)
    · have := hin r r' (by omega) (by omega) e'
      subst this
      have ej : i.toInt = (j : Int) := by rw [ei, nI_toInt (by omega)]
      omega
  · subst e
    have hq := hR r hr
    have ej : i.toInt = (j : Int) := by rw [ei, nI_toInt (by omega)]
    refine x9_lay _ _ _ _ _ h9.2.2 (fun c9 => absurd (vp_in_nI hr (by decide)) c9) (fun r' hr' e' c9 S' hF => ?_) (fun r' j' hr' hj' e' ei' c9 S' hF e41 => ?_)
    · have := hin r r' (by omega) (by omega) e'
      subst this
      omega
    · have := hin r r' (by omega) (by omega) e'
      subst this
      have e2 := hin j j' (by omega) (by omega) (ei.symm.trans ei')
      subst e2
      refine h _ _ _ _ ⟨inv8_row h8 T hr (by unfold RowI; rw [eT]; exact h8.1 r (by omega)), inv9_rows h9 hF (by decide) (by decide) (by rw [(hF 40 (by decide)).2.2.1]; exact h9.2.2), rr_same hR hr eT (hF 40 (by decide)).2.2.1, fun b hb => va_up_ne _ _ (by omega), (hF 7 (by decide)).2.2.1, (hF 3 (by decide)).2.2.2⟩ (fun q hq i2 hi2 hlt => ?_)
      rw [(hF 40 (by decide)).2.2.1] at hlt
      rw [e41]
      by_cases e : q = r
      · subst e
        rw [va_up_self, eA]
        by_cases e3 : i2 = j
        · rw [e3, pk_us, pk_us]
        · rw [pk_un e3, pk_un (by omega)]; exact hP q hr i2 hi2 hlt
      · rw [va_up_ne _ _ (by omega), pk_un (by omega)]; exact hP q hq i2 hi2 hlt
theorem f_tear (x : Int32) (Z : MS) (X : Nat → MS) (S : MS) (h8 : Inv8 X) (h9 : Inv9 S) (hR : RR X S) (hP : PL X S) (P : Int32 → Int32 → MS → (Nat → MS) → MS → Prop) (h : ∀ v Z' X' S', Nx X X' S S' → PL X' S' → P v v Z' X' S') : w8_tear x Z X (fun r1 Z2 X3 => w9_tear x S (fun r4 S5 => P r1 r4 Z2 X3 S5)) := by
  have hrr : ∀ r, r < 4 → rA S 40 (nI r) = aI S 40 r := fun r hr => rA_n _ _ (by omega)
  refine s8_tear _ _ _ _ (fun c8 => ?_) (fun r hr e c8 Z' => ?_) (fun r hr e c8 T eT => ?_)
  · exact s9_tear _ _ _ (fun _ => h _ _ _ _ (nx_rf h8 h9 hR) hP) (fun c _ _ _ => absurd c c8) (fun c _ _ _ _ => absurd c c8)
  · subst e
    have hq := hR r hr
    refine s9_tear _ _ _ (fun c9 => absurd (vp_in_nI hr (by decide)) c9) (fun _ _ S' hF => ?_) (fun _ c9 S' _ _ => ?_)
    · have g := g9_fr h9 hF (by decide) (by decide) (by decide) (by decide)
      exact h _ _ _ _ (nx_g hR (g8_rf h8) g) (pl_g hP (g8_rf h8) g)
    · rw [hrr r hr] at c9; omega
  · subst e
    have hq := hR r hr
    refine s9_tear _ _ _ (fun c9 => absurd (vp_in_nI hr (by decide)) c9) (fun _ c9 S' _ => ?_) (fun _ c9 S' hF e9 => ?_)
    · rw [hrr r hr] at c9; omega
    · rw [nI_clamp (by omega)] at e9
      have m1 : (-1 : Int32).toInt = -1 := rfl
      have m9 : (-9 : Int32).toInt = -9 := rfl
      refine h _ _ _ _ ⟨inv8_row h8 T hr (by unfold RowI; rw [eT]; omega), inv9_rows h9 hF (by decide) (by decide) (fun q hq => ?_), fun q hq => ?_, fun b hb => va_up_ne _ _ (by omega), (hF 7 (by decide)).2.2.1, (hF 3 (by decide)).2.2.2⟩ (fun q hq i hi hlt => ?_)
      · rw [e9]
        by_cases e : q = r
        · rw [e, pk_us]; omega
        · rw [pk_un e]; exact h9.2.2 q hq
      · rw [e9]
        by_cases e : q = r
        · rw [e, va_up_self, pk_us, eT]; exact Or.inl ⟨m1, by omega⟩
        · rw [va_up_ne _ _ (by omega), pk_un e]; exact hR q hq
      · rw [e9] at hlt
        by_cases e : q = r
        · rw [e, pk_us] at hlt; omega
        · rw [pk_un e] at hlt
          rw [va_up_ne _ _ (by omega), (hF 41 (by decide)).2.2.1]; exact hP q hq i hi hlt
theorem f_copy (x i t j n : Int32) (Z : MS) (X : Nat → MS) (S : MS) (h8 : Inv8 X) (h9 : Inv9 S) (hR : RR X S) (hP : PL X S) (P : Int32 → Int32 → MS → (Nat → MS) → MS → Prop) (h : ∀ v Z' X' S', Nx X X' S S' → PL X' S' → P v v Z' X' S') : w8_copy x i t j n Z X (fun r1 Z2 X3 => w9_copy x i t j n S (fun r4 S5 => P r1 r4 Z2 X3 S5)) := by
  have hin : ∀ a b, a < 100 → b < 100 → nI a = nI b → a = b := fun a b ha hb e => (nI_eq (by omega) (by omega)).mp e
  refine x8_copy _ _ _ _ _ _ _ h8 _ (fun c8 => ?_) (fun r q hr hq e1 e2 c8 Z' => ?_) (fun r q a b m hr hq e1 e2 e3 e4 e5 hm ha hb c8 c8' T eT eA => ?_)
  · have no : ∀ r q, r < 4 → q < 4 → x = nI r → t = nI q → False := fun r q hr hq e1 e2 => by
      rcases c8 with c | c
      · exact c (by rw [e1]; exact vp_in_nI hr (by decide))
      · exact c (by rw [e2]; exact vp_in_nI hq (by decide))
    exact x9_copy _ _ _ _ _ _ _ h9.2.2 (fun _ => h _ _ _ _ (nx_rf h8 h9 hR) hP) (fun r q hr hq e1 e2 _ _ _ => (no r q hr hq e1 e2).elim) (fun r q _ _ _ hr hq e1 e2 _ _ _ _ _ _ _ _ _ _ _ => (no r q hr hq e1 e2).elim)
  · subst e1 e2
    have a1 := hR r hr
    have a2 := hR q hq
    refine x9_copy _ _ _ _ _ _ _ h9.2.2 (fun c9 => ?_) (fun r' q' hr' hq' e1 e2 _ S' hF => ?_) (fun r' q' a b m hr' hq' e1 e2 e3 e4 e5 hm ha hb c9 c9' S' _ _ => ?_)
    · exfalso; rcases c9 with c | c
      · exact c (vp_in_nI hr (by decide))
      · exact c (vp_in_nI hq (by decide))
    · have g := g9_fr h9 hF (by decide) (by decide) (by decide) (by decide)
      exact h _ _ _ _ (nx_g hR (g8_rf h8) g) (pl_g hP (g8_rf h8) g)
    · have b1 := hin r r' (by omega) (by omega) e1
      have b2 := hin q q' (by omega) (by omega) e2
      subst b1 b2
      have i1 : i.toInt = (a : Int) := by rw [e3, nI_toInt (by omega)]
      have i2 : j.toInt = (b : Int) := by rw [e4, nI_toInt (by omega)]
      have i3 : n.toInt = (m : Int) := by rw [e5, nI_toInt (by omega)]
      exfalso; omega
  · subst e1 e2
    have a1 := hR r hr
    have a2 := hR q hq
    have i1 : i.toInt = (a : Int) := by rw [e3, nI_toInt (by omega)]
    have i2 : j.toInt = (b : Int) := by rw [e4, nI_toInt (by omega)]
    have i3 : n.toInt = (m : Int) := by rw [e5, nI_toInt (by omega)]
    refine x9_copy _ _ _ _ _ _ _ h9.2.2 (fun c9 => ?_) (fun r' q' hr' hq' e1 e2 c9 S' hF => ?_) (fun r' q' a' b' m' hr' hq' e1 e2 e3' e4' e5' hm' ha' hb' c9 c9' S' hF e41 => ?_)
    · exfalso; rcases c9 with c | c
      · exact c (vp_in_nI hr (by decide))
      · exact c (vp_in_nI hq (by decide))
    · have b1 := hin r r' (by omega) (by omega) e1
      have b2 := hin q q' (by omega) (by omega) e2
      subst b1 b2
      exfalso; omega
    · have b1 := hin r r' (by omega) (by omega) e1
      have b2 := hin q q' (by omega) (by omega) e2
      subst b1 b2
      have b3 := hin a a' (by omega) (by omega) (e3.symm.trans e3')
      have b4 := hin b b' (by omega) (by omega) (e4.symm.trans e4')
      have b5 := hin m m' (by omega) (by omega) (e5.symm.trans e5')
      subst b3 b4 b5
      have s1 := h9.2.2 r hr
      have s2 := h9.2.2 q hq
      refine h _ _ _ _ ⟨inv8_row h8 T hq (by unfold RowI; rw [eT]; exact h8.1 q (by omega)), inv9_rows h9 hF (by decide) (by decide) (by rw [(hF 40 (by decide)).2.2.1]; exact h9.2.2), rr_same hR hq eT (hF 40 (by decide)).2.2.1, fun b hb => va_up_ne _ _ (by omega), (hF 7 (by decide)).2.2.1, (hF 3 (by decide)).2.2.2⟩ (fun p hp z hz hlt => ?_)
      rw [(hF 40 (by decide)).2.2.1] at hlt
      rw [e41]
      by_cases e : p = q
      · subst e
        rw [va_up_self, eA]
        by_cases q1 : b ≤ z ∧ z < b + m
        · rw [if_pos q1, if_pos (by omega), show 24 * p + z - (24 * p + b) = z - b by omega, Nat.add_assoc]
          exact hP r hr (a + (z - b)) (by omega) (by omega)
        · rw [if_neg q1, if_neg (by omega)]
          exact hP p hp z hz hlt
      · rw [va_up_ne _ _ (by omega), if_neg (by omega)]
        exact hP p hp z hz hlt
theorem f_meanRow (x : Int32) (Z : MS) (X : Nat → MS) (S : MS) (h8 : Inv8 X) (h9 : Inv9 S) (hR : RR X S) (hP : PL X S) (P : Int32 → Int32 → MS → MS → Prop) (h : ∀ v Z' S', Nx X X S S' → PL X S' → P v v Z' S') : w8_meanRow x Z X (fun r1 Z2 => w9_meanRow x S (fun r4 S5 => P r1 r4 Z2 S5)) := by
  have hin : ∀ a b, a < 4 → b < 4 → nI a = nI b → a = b := fun a b ha hb e => (nI_eq (by omega) (by omega)).mp e
  refine s8_meanRow _ _ _ h8 _ (fun c8 => ?_) (fun r hr e c8 Z' => ?_) (fun r hr e c1 c2 Z' => ?_)
  · refine s9_meanRow _ _ _ h9.2.2 (fun _ => h _ _ _ (nx_rf h8 h9 hR) hP) (fun r hr e _ S' _ => ?_) (fun r hr e _ S' _ => ?_)
    · exact absurd (by rw [e]; exact vp_in_nI hr (by decide)) c8
    · exact absurd (by rw [e]; exact vp_in_nI hr (by decide)) c8
  · subst e
    have hq := hR r hr
    refine s9_meanRow _ _ _ h9.2.2 (fun c9 => absurd (vp_in_nI hr (by decide)) c9) (fun r' hr' e' _ S' hF => ?_) (fun r' hr' e' c9 S' _ => ?_)
    · have g := g9_fr h9 hF (by decide) (by decide) (by decide) (by decide)
      exact h _ _ _ (nx_g hR (g8_rf h8) g) (pl_g hP (g8_rf h8) g)
    · have := hin r r' hr hr' e'
      subst this
      omega
  · subst e
    have hq := hR r hr
    refine s9_meanRow _ _ _ h9.2.2 (fun c9 => absurd (vp_in_nI hr (by decide)) c9) (fun r' hr' e' c9 S' hF => ?_) (fun r' hr' e' c9 S' hF => ?_)
    · have := hin r r' hr hr' e'
      subst this
      omega
    · have g := g9_fr h9 hF (by decide) (by decide) (by decide) (by decide)
      exact h _ _ _ (nx_g hR (g8_rf h8) g) (pl_g hP (g8_rf h8) g)
theorem f_box (x a b c : Int32) (Z : MS) (X : Nat → MS) (S : MS) (h8 : Inv8 X) (h9 : Inv9 S) (hR : RR X S) (hB : BB X S) (hP : PL X S) (P : Int32 → Int32 → (Nat → MS) → MS → Prop) (h : ∀ v X' S', Inv8 X' → Inv9 S' → RR X' S' → BB X' S' → X' 14 = X 14 → (∀ k, k < 6 → X' k = X k) → aJ S' 3 = aJ S 3 → PL X' S' → P v v X' S') : w8_box x a b c Z X (fun r1 X3 => w9_box x a b c S (fun r4 S5 => P r1 r4 X3 S5)) := by
  refine s8_box _ _ _ _ _ _ _ (fun c8 => ?_) (fun k d T hk e hok ea eb ec hd ht hN => ?_)
  · exact s9_box _ _ _ _ _ _ (fun _ => h _ _ _ h8 h9 hR hB rfl (fun _ _ => rfl) rfl hP) (fun k hk e hok _ _ _ => absurd ⟨by rw [e]; exact vp_in_nI hk (by decide), hok⟩ c8)
  · have ev : (2 : Int32) * (((a * b) + (b * c)) + (c * a)) = nI (tot d) := by
      rw [ea, eb, ec, show (2 : Int32) = nI 2 from rfl]
      simp only [pk_mul, nI_add]
      rfl
    refine s9_box _ _ _ _ _ _ (fun c9 => absurd ⟨by rw [e]; exact vp_in_nI hk (by decide), hok⟩ c9) (fun k' hk' e' _ S' hF hd' => ?_)
    have ek : k' = k := by
      rw [e] at e'
      exact ((nI_eq (by omega) (by omega)).mp e').symm
    subst ek
    have g9 := g9_box h9 hok hF hd'
    rw [ev]
    refine h _ _ _ (inv8_box h8 T hk (boxC_Bx ht hN)) g9.1 (fun r hr => ?_) (fun m hm => ?_) (va_up_ne _ _ (by omega)) (fun k hk => va_up_ne _ _ (by omega)) g9.2.2.2 (fun r hr i hi hlt => ?_)
    · rw [va_up_ne _ _ (by omega), g9.2.1]; exact hR r hr
    · by_cases q : m = k'
      · subst q
        rw [va_up_self]
        refine Or.inr ⟨d, ⟨fun j hj => ⟨(hd j hj).1, (hd j hj).2, ?_⟩, ht⟩, hN⟩
        rw [hd' m j hm hj, if_pos rfl]
        rcases (show j = 0 ∨ j = 1 ∨ j = 2 by omega) with rfl | rfl | rfl
        · exact ea
        · exact eb
        · exact ec
      · rw [va_up_ne _ _ (by omega)]
        rcases hB m hm with ⟨q1, q2⟩ | ⟨d2, q1, q2⟩
        · exact Or.inl ⟨q1, by rw [hd' m 0 hm (by decide), if_neg q]; exact q2⟩
        · refine Or.inr ⟨d2, ⟨fun j hj => ⟨(q1.1 j hj).1, (q1.1 j hj).2.1, ?_⟩, q1.2⟩, q2⟩
          rw [hd' m j hm hj, if_neg q]; exact (q1.1 j hj).2.2
    · rw [g9.2.1] at hlt
      rw [va_up_ne _ _ (by omega), g9.2.2.1]; exact hP r hr i hi hlt

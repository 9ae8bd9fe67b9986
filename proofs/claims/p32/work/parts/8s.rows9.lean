/-! ===== pure: rows of the reference, by sizes; box, count, digest ===== -/
theorem ix24 (r j : Nat) : (24 : Int32) * nI r + nI j = nI (24 * r + j) := by rw [show (24 : Int32) = nI 24 from rfl, pk_mul, nI_add]
theorem m9_fr (w : Int32) (hw : vp_in w 6) (S : MS) (Q : Int32 → MS → Prop) (h : ∀ S', Fr [0, 1] S S' → Q (-3) S') : w9_meets w S Q :=
  s9_meets _ _ _ hw (h _ (fr_tr (fr_sI (by decide)) (fr_sA (by decide))))
theorem s9_lay (x i v : Int32) (S : MS) (Q : Int32 → MS → Prop) (h24 : ∀ r, r < 4 → (aI S 40 r).toInt ≤ 24) (hb : ¬ vp_in x 4 → Q (-1) S) (hn : ∀ r, r < 4 → x = nI r → ((aI S 40 r).toInt < 0 ∨ ¬ (0 ≤ i.toInt ∧ i.toInt < (aI S 40 r).toInt)) → ∀ S', Fr [0, 1] S S' → Q (-3) S')
    (hk : ∀ r, r < 4 → x = nI r → (0 ≤ i.toInt ∧ i.toInt < (aI S 40 r).toInt) → ∀ S', Fr [2, 41] S S' → Q 1 S') : w9_lay x i v S Q := by
  have e0 : (0 : Int32).toInt = 0 := rfl
  have hrr : ∀ r, r < 4 → rA S 40 (nI r) = aI S 40 r := fun r hr => rA_n _ _ (by omega)
  unfold w9_lay
  refine s9_askedRow _ _ _ (fun hx => ⟨fun c => absurd c (by decide), fun _ => hb hx⟩) (fun hx hz S' hF => ⟨fun c => absurd c (by decide), fun _ => ?_⟩) (fun hx hz => ⟨fun _ => ⟨hx, ?_⟩, fun c => absurd r0_pos c⟩)
  · obtain ⟨r, hr, rfl⟩ := vp_in_of hx (by decide)
    rw [hrr r hr] at hz
    exact hn r hr rfl (Or.inl hz) S' hF
  obtain ⟨r, hr, rfl⟩ := vp_in_of hx (by decide)
  rw [hrr r hr] at hz ⊢
  have hsz := h24 r hr
  have e1 : (aI S 40 r - 1).toInt = (aI S 40 r).toInt - 1 := by
    rw [fb_subI (by rw [show (1 : Int32).toInt = 1 from rfl]; omega) (by rw [show (1 : Int32).toInt = 1 from rfl]; omega)]
    rfl
  refine s9_in _ _ _ _ (fun hi => ⟨fun _ => ?_, fun c => absurd c (by decide)⟩) (fun hi => ⟨fun c => absurd rfl c, fun _ => m9_fr _ (by unfold vp_in; decide) _ _ (fun S' hF => hn r hr rfl (Or.inr (by omega)) S' hF)⟩)
  obtain ⟨j, hj, rfl⟩ := vp_in_of (n := 24) (pi_in.mpr (by omega) : vp_in i 24) (by decide)
  rw [ix24]
  refine ⟨vp_in_nI (by omega) (by decide), ?_⟩
  rintro _ rfl _ rfl
  exact hk r hr rfl (by omega) _ (fr_tr (fr_sJ (by decide)) (fr_sA (by decide)))
theorem s9_meanRow (x : Int32) (S : MS) (Q : Int32 → MS → Prop) (h24 : ∀ r, r < 4 → (aI S 40 r).toInt ≤ 24) (hb : ¬ vp_in x 4 → Q (-1) S) (hn : ∀ r, r < 4 → x = nI r → ((aI S 40 r).toInt < 0 ∨ (aI S 40 r).toInt = 0) → ∀ S', Fr [0, 1] S S' → Q (-3) S')
    (hk : ∀ r, r < 4 → x = nI r → 0 < (aI S 40 r).toInt → ∀ S', Fr [2] S S' → Q 1 S') : w9_meanRow x S Q := by
  have e0 : (0 : Int32).toInt = 0 := rfl
  have hrr : ∀ r, r < 4 → rA S 40 (nI r) = aI S 40 r := fun r hr => rA_n _ _ (by omega)
  unfold w9_meanRow
  refine s9_askedRow _ _ _ (fun hx => ⟨fun c => absurd c (by decide), fun _ => hb hx⟩) (fun hx hz S' hF => ⟨fun c => absurd c (by decide), fun _ => ?_⟩) (fun hx hz => ⟨fun _ => ?_, fun c => absurd r0_pos c⟩)
  · obtain ⟨r, hr, rfl⟩ := vp_in_of hx (by decide)
    rw [hrr r hr] at hz
    exact hn r hr rfl (Or.inl hz) S' hF
  obtain ⟨r, hr, rfl⟩ := vp_in_of hx (by decide)
  rw [hrr r hr] at hz
  have hsz := h24 r hr
  obtain ⟨s, hs, es⟩ := vp_in_of (n := 25) (pi_in.mpr (by omega) : vp_in (aI S 40 r) 25) (by decide)
  unfold w9_meanRow_b17
  refine lp_up s (fun z => z.2) (fun _ _ => True) (by omega) ?_ (Nat.zero_le _) (rfl : (0 : Int32) = nI 0) trivial
  rintro K ⟨a, y⟩ k hk2 hcc - hK
  try dsimp only at hcc hK
  subst hcc
  unfold w9_meanRow_F17 w9_meanRow_d17 w9_meanRow_b81 w9_ask
  try dsimp only
  rw [hrr r hr, es]
  refine ⟨hx, fun c => ⟨fun hz0 => ⟨?_, ?_⟩, fun hz0 => m9_fr _ (by unfold vp_in; decide) _ _ (fun S' hF => hn r hr rfl (Or.inr ?_) S' hF)⟩, fun c => ?_⟩
  · intro e
    apply hz0
    rw [nI_l (by omega)] at e
    have := (lN_eq (a := s) (b := 0) (by omega) (by decide)).mp e
    rw [this]; rfl
  · rintro _ rfl
    refine hk r hr rfl ?_ _ (fr_sJ (by decide))
    have : ¬ s = 0 := fun e => hz0 (by rw [e]; rfl)
    rw [es, nI_toInt (by omega)]; omega
  · rw [es, hz0]; rfl
  · have hlt := nI_go (by omega) hk2 c
    rw [ix24]
    refine ⟨vp_in_nI (by omega) (by decide), ?_⟩
    rintro _ rfl _ rfl
    exact hK (_, _) hlt (nI_1 k) trivial
theorem wide_add (x y : Int32) : (x.toInt64 + y.toInt64).toInt = x.toInt + y.toInt := by
  have h1 := pi_rng x
  have h2 := pi_rng y
  rw [fb_addL (by rw [Int32.toInt_toInt64, Int32.toInt_toInt64]; omega) (by rw [Int32.toInt_toInt64, Int32.toInt_toInt64]; omega), Int32.toInt_toInt64, Int32.toInt_toInt64]
theorem s9_copy (x i t j n : Int32) (S : MS) (Q : Int32 → MS → Prop) (h24 : ∀ r, r < 4 → (aI S 40 r).toInt ≤ 24) (hb : (¬ vp_in x 4 ∨ ¬ vp_in t 4) → Q (-1) S)
    (hn : ∀ r q, r < 4 → q < 4 → x = nI r → t = nI q → (n.toInt < 0 ∨ (aI S 40 r).toInt < 0 ∨ (aI S 40 q).toInt < 0 ∨ i.toInt < 0 ∨ j.toInt < 0 ∨ (aI S 40 r).toInt < i.toInt + n.toInt ∨ (aI S 40 q).toInt < j.toInt + n.toInt) → ∀ S', Fr [0, 1] S S' → Q (-3) S')
    (hk : ∀ r q, r < 4 → q < 4 → x = nI r → t = nI q → (0 ≤ n.toInt ∧ 0 ≤ (aI S 40 r).toInt ∧ 0 ≤ (aI S 40 q).toInt ∧ 0 ≤ i.toInt ∧ 0 ≤ j.toInt ∧ i.toInt + n.toInt ≤ (aI S 40 r).toInt ∧ j.toInt + n.toInt ≤ (aI S 40 q).toInt) → ∀ S', Fr [41, 42] S S' → Q 1 S') : w9_copy x i t j n S Q := by
  have e0 : (0 : Int32).toInt = 0 := rfl
  unfold w9_copy w9_copy_b14 w9_copy_b45 w9_copy_b95
  refine s9_isRow _ _ (fun hx => ⟨fun c => absurd c (by decide), fun _ => s9_isRow _ _ (fun ht => ⟨fun _ => ?_, fun c => absurd c (by decide)⟩) (fun ht => ⟨fun c => absurd rfl c, fun _ => hb (Or.inr ht)⟩)⟩) (fun hx => ⟨fun _ => hb (Or.inl hx), fun c => absurd rfl c⟩)
  obtain ⟨r, hr, rfl⟩ := vp_in_of hx (by decide)
  obtain ⟨q, hq, rfl⟩ := vp_in_of ht (by decide)
  have ez : ∀ a : Int32, a < 0 ↔ a.toInt < 0 := fun a => by rw [pi_lt, e0]
  have el : ∀ a : Int32, 0 ≤ a ↔ 0 ≤ a.toInt := fun a => by rw [pi_le, e0]
  have bad := hn r q hr hq rfl rfl
  have s1 := h24 r hr
  have s2 := h24 q hq
  rw [rA_n _ _ (by omega), rA_n _ _ (by omega), el, el, ez, ez, ez, lg_cmp_gt, lg_cmp_le, Int64.lt_iff_toInt_lt, Int64.le_iff_toInt_le, wide_add, wide_add, Int32.toInt_toInt64, Int32.toInt_toInt64]
  have mt : ∀ w, vp_in w 6 → (n.toInt < 0 ∨ (aI S 40 r).toInt < 0 ∨ (aI S 40 q).toInt < 0 ∨ i.toInt < 0 ∨ j.toInt < 0 ∨ (aI S 40 r).toInt < i.toInt + n.toInt ∨ (aI S 40 q).toInt < j.toInt + n.toInt) → w9_meets w S (fun r1 S2 => Q r1 S2) := fun w hw hc => m9_fr w hw S _ (fun S' hF => bad hc S' hF)
  have v5 : vp_in (5 : Int32) 6 := by unfold vp_in; decide
  have v1 : vp_in (1 : Int32) 6 := by unfold vp_in; decide
  have v2 : vp_in (2 : Int32) 6 := by unfold vp_in; decide
  refine ⟨fun c1 => ⟨hx, fun c2 => mt _ v1 (by omega), fun c2 => ⟨ht, fun c3 => ⟨fun c4 => mt _ v2 (by omega), fun c4 => ⟨fun c5 => mt _ v2 (by omega), fun c5 => ⟨fun c6 => mt _ v2 (by omega), fun c6 => ⟨fun c7 => ?_, fun c7 => mt _ v2 (by omega)⟩⟩⟩⟩, fun c3 => mt _ v1 (by omega)⟩⟩, fun c1 => mt _ v5 (by omega)⟩
  have good := hk r q hr hq rfl rfl (by omega)
  obtain ⟨nn, hnn, rfl⟩ := vp_in_of (n := 25) (pi_in.mpr (by omega) : vp_in n 25) (by decide)
  have en : (nI nn).toInt = (nn : Int) := nI_toInt (by omega)
  obtain ⟨a, ha, rfl⟩ := vp_in_of (n := 25) (pi_in.mpr (by omega) : vp_in i 25) (by decide)
  obtain ⟨b, hb2, rfl⟩ := vp_in_of (n := 25) (pi_in.mpr (by omega) : vp_in j 25) (by decide)
  have ea : (nI a).toInt = (a : Int) := nI_toInt (by omega)
  have eb : (nI b).toInt = (b : Int) := nI_toInt (by omega)
  unfold w9_copy_b104
  refine lp_up nn (fun z => z.1) (fun k z => Fr [41, 42] S z.2) (by omega) ?_ (Nat.zero_le _) (rfl : (0 : Int32) = nI 0) (by exact fr_rf)
  rintro K ⟨y, S1⟩ k hk2 hcc hF hK
  try dsimp only at hcc hF hK
  subst hcc
  unfold w9_copy_F104 w9_copy_d104
  try dsimp only
  rw [ix24, nI_add]
  refine ⟨fun _ => ?_, fun c => ?_⟩
  rotate_left
  · have hlt := nI_go (by omega) hk2 c
    refine ⟨vp_in_nI (by omega) (by decide), vp_in_nI (by omega) (by decide), ?_⟩
    rintro _ rfl _ rfl
    exact hK (_, _) hlt (nI_1 k) (fr_tr hF (fr_sA (by decide)))
  unfold w9_copy_b141
  refine lp_up nn (fun z => z.1) (fun k z => Fr [41, 42] S z.2) (by omega) ?_ (Nat.zero_le _) (rfl : (0 : Int32) = nI 0) (by exact hF)
  rintro K2 ⟨y, S2⟩ k2 hk3 hcc hF2 hK2
  try dsimp only at hcc hF2 hK2
  subst hcc
  unfold w9_copy_F141 w9_copy_d141
  try dsimp only
  rw [ix24, nI_add]
  refine ⟨fun _ => good _ hF2, fun c => ?_⟩
  have hlt := nI_go (by omega) hk3 c
  refine ⟨vp_in_nI (by omega) (by decide), vp_in_nI (by omega) (by decide), ?_⟩
  rintro _ rfl _ rfl
  exact hK2 (_, _) hlt (nI_1 k2) (fr_tr hF2 (fr_sA (by decide)))
theorem g9_box {n : Nat} {a b c : Int32} {S S' : MS} (hI : Inv9 S) (hok : boxOK a b c) (hF : Fr [7] S S') (hd : ∀ c' j, c' < 4 → j < 3 → dm S' c' j = if c' = n then (if j = 0 then a else if j = 1 then b else c) else dm S c' j) : Inv9 S' ∧ aI S' 40 = aI S 40 ∧ aI S' 41 = aI S 41 := by
  refine ⟨⟨fun m hm => ?_, ?_, ?_⟩, (hF 40 (by decide)).2.2.1, (hF 41 (by decide)).2.2.1⟩
  · by_cases q : m = n
    · right
      obtain ⟨⟨a1, a2⟩, ⟨b1, b2⟩, ⟨c1, c2⟩, ht⟩ := hok
      obtain ⟨an, ha, rfl⟩ := vp_in_of (n := 6) (pi_in.mpr (by omega) : vp_in a 6) (by decide)
      obtain ⟨bn, hb, rfl⟩ := vp_in_of (n := 6) (pi_in.mpr (by omega) : vp_in b 6) (by decide)
      obtain ⟨cn, hc, rfl⟩ := vp_in_of (n := 6) (pi_in.mpr (by omega) : vp_in c 6) (by decide)
      rw [nI_toInt (by omega)] at a1 b1 c1
      have p1 := Nat.mul_le_mul (show an ≤ 5 by omega) (show bn ≤ 5 by omega)
      have p2 := Nat.mul_le_mul (show bn ≤ 5 by omega) (show cn ≤ 5 by omega)
      have p3 := Nat.mul_le_mul (show cn ≤ 5 by omega) (show an ≤ 5 by omega)
      rw [show (2 : Int32) = nI 2 from rfl] at ht
      simp only [pk_mul, nI_add] at ht
      rw [nI_toInt (by omega)] at ht
      refine ⟨fun j => if j = 0 then an else if j = 1 then bn else cn, fun j hj => ?_, ?_⟩
      · show 1 ≤ (if j = 0 then an else if j = 1 then bn else cn) ∧ (if j = 0 then an else if j = 1 then bn else cn) ≤ 5 ∧ dm S' m j = nI (if j = 0 then an else if j = 1 then bn else cn)
        rw [hd m j hm hj, if_pos q]
        rcases (show j = 0 ∨ j = 1 ∨ j = 2 by omega) with rfl | rfl | rfl
        · exact ⟨by simp; omega, by simp; omega, rfl⟩
        · exact ⟨by simp; omega, by simp; omega, rfl⟩
        · exact ⟨by simp; omega, by simp; omega, rfl⟩
      · show 2 * ((an * bn + bn * cn) + cn * an) ≤ 24
        omega
    · rcases hI.1 m hm with w | ⟨d, w⟩
      · left; rw [hd m 0 hm (by decide), if_neg q]; exact w
      · right
        refine ⟨d, fun j hj => ⟨(w.1 j hj).1, (w.1 j hj).2.1, ?_⟩, w.2⟩
        rw [hd m j hm hj, if_neg q]; exact (w.1 j hj).2.2
  · rw [(hF 3 (by decide)).2.2.2]; exact hI.2.1
  · rw [(hF 40 (by decide)).2.2.1]; exact hI.2.2
theorem t9_count (x : Int32) (S : MS) (Q : Int32 → Prop) (h : ∀ r, Q r) : w9_count x S Q := by
  unfold w9_count w9_count_b4
  refine lp_up 6 (fun z => z.2) (fun _ _ => True) (by decide) ?_ (Nat.zero_le _) (rfl : (0 : Int32) = nI 0) trivial
  rintro K ⟨a, y⟩ k hk hcc - hK
  try dsimp only at hcc hK
  subst hcc
  unfold w9_count_F4 w9_count_d4
  try dsimp only
  refine ⟨fun _ => ?_, fun c => ?_⟩
  rotate_left
  · have hlt := nI_go (N := 6) (by decide) hk c
    have hv := vp_in_nI hlt (by decide)
    have k48 : ∀ b, w9_count_b48 (fun y0 y1 => K (y0, y1)) x (nI k) a b S Q := by
      intro b
      unfold w9_count_b48
      rintro _ rfl _ rfl
      exact hK (_, _) hlt (nI_1 k) trivial
    have k30 : w9_count_b30 (fun y0 y1 => K (y0, y1)) x (nI k) a S Q := by
      unfold w9_count_b30
      exact ⟨fun _ => k48 _, fun _ => ⟨hv, s9_bits _ _ (k48 _)⟩⟩
    exact ⟨fun _ => k30, fun _ => ⟨hv, fun _ => k30, fun _ => k48 _⟩⟩
  unfold w9_count_b58
  refine lp_up 4 (fun z => z.2) (fun _ _ => True) (by decide) ?_ (Nat.zero_le _) (rfl : (0 : Int32) = nI 0) trivial
  clear hK
  rintro K ⟨a, y⟩ k hk hcc - hK
  try dsimp only at hcc hK
  subst hcc
  unfold w9_count_F58 w9_count_d58
  try dsimp only
  refine ⟨fun _ => ?_, fun c => ?_⟩
  rotate_left
  · have hlt := nI_go (N := 4) (by decide) hk c
    have k102 : ∀ b, w9_count_b102 (fun y0 y1 => K (y0, y1)) x (nI k) a b S Q := by
      intro b
      unfold w9_count_b102
      rintro _ rfl _ rfl
      exact hK (_, _) hlt (nI_1 k) trivial
    rw [(ix3z hlt).1]
    exact ⟨(ix3z hlt).2, fun _ => ⟨fun _ => ⟨fun _ => k102 _, fun _ => s9_cells hlt _ _ (k102 _)⟩, fun _ => k102 _⟩, fun _ => k102 _⟩
  unfold w9_count_b112
  refine lp_up 4 (fun z => z.2) (fun _ _ => True) (by decide) ?_ (Nat.zero_le _) (rfl : (0 : Int32) = nI 0) trivial
  clear hK
  rintro K ⟨a, y⟩ k hk hcc - hK
  try dsimp only at hcc hK
  subst hcc
  unfold w9_count_F112 w9_count_d112 w9_count_b159
  try dsimp only
  refine ⟨fun _ => s9_in _ _ _ _ (fun _ => ⟨fun _ => h _, fun _ => h _⟩) (fun _ => ⟨fun _ => h _, fun _ => h _⟩), fun c => ?_⟩
  have hlt := nI_go (N := 4) (by decide) hk c
  have hv := vp_in_nI hlt (by decide)
  have k137 : ∀ b, w9_count_b137 (fun y0 y1 => K (y0, y1)) x (nI k) a b S Q := by
    intro b
    unfold w9_count_b137
    rintro _ rfl _ rfl
    exact hK (_, _) hlt (nI_1 k) trivial
  unfold w9_count_b136
  exact ⟨fun _ => k137 _, fun _ => ⟨hv, fun _ => k137 _, fun _ => k137 _⟩⟩
theorem t9_digest (S : MS) (h24 : ∀ r, r < 4 → (aI S 40 r).toInt ≤ 24) (Q : Int64 → Prop) (h : ∀ r, Q r) : w9_digest S Q := by
  have e0 : (0 : Int32).toInt = 0 := rfl
  unfold w9_digest w9_digest_b6
  refine lp_up 6 (fun z => z.2) (fun _ _ => True) (by decide) ?_ (Nat.zero_le _) (rfl : (0 : Int32) = nI 0) trivial
  rintro K ⟨a, y⟩ k hk hcc - hK
  try dsimp only at hcc hK
  subst hcc
  unfold w9_digest_F6 w9_digest_d6 w9_digest_b57
  try dsimp only
  refine ⟨fun _ => ?_, fun c => ?_⟩
  rotate_left
  · have hlt := nI_go (N := 6) (by decide) hk c
    refine ⟨vp_in_nI hlt (by decide), fun _ => ?_, fun _ => ?_⟩
    · rintro _ rfl; exact hK (_, _) hlt (nI_1 k) trivial
    · rintro _ rfl; exact hK (_, _) hlt (nI_1 k) trivial
  unfold w9_digest_b66
  refine lp_up 4 (fun z => z.2) (fun _ _ => True) (by decide) ?_ (Nat.zero_le _) (rfl : (0 : Int32) = nI 0) trivial
  clear hK
  rintro K ⟨a, y⟩ k hk hcc - hK
  try dsimp only at hcc hK
  subst hcc
  unfold w9_digest_F66 w9_digest_d66
  try dsimp only
  refine ⟨fun _ => ?_, fun c => ?_⟩
  rotate_left
  · have hlt := nI_go (N := 4) (by decide) hk c
    have k90 : ∀ b, w9_digest_b90 (fun y0 y1 => K (y0, y1)) b (nI k) S Q := by
      intro b
      unfold w9_digest_b90 w9_digest_b93
      refine lp_up 3 (fun z => z.2) (fun _ _ => True) (by decide) ?_ (Nat.zero_le _) (rfl : (0 : Int32) = nI 0) trivial
      rintro K2 ⟨a2, y⟩ k2 hk2 hcc - hK2
      try dsimp only at hcc hK2
      subst hcc
      unfold w9_digest_F93 w9_digest_d93 w9_digest_b135
      try dsimp only
      have hend : ∀ y1 : Int32, y1 = nI k + 1 → K (a2, y1) := by
        rintro _ rfl
        exact hK (_, _) hlt (nI_1 k) trivial
      refine ⟨fun _ => hend, fun c => ?_⟩
      have hlt2 := nI_go (N := 3) (by decide) hk2 c
      rw [(ix3 hlt _ hlt2).1]
      refine ⟨by rw [(ix3z hlt).1]; exact (ix3z hlt).2, fun _ => hend, fun _ => ⟨(ix3 hlt _ hlt2).2, ?_⟩⟩
      rintro _ rfl _ rfl
      exact hK2 (_, _) hlt2 (nI_1 k2) trivial
    refine ⟨by rw [(ix3z hlt).1]; exact (ix3z hlt).2, fun _ => k90 _, fun _ => ?_⟩
    rintro _ rfl
    exact k90 _
  unfold w9_digest_b143
  refine lp_up 4 (fun z => z.2) (fun _ _ => True) (by decide) ?_ (Nat.zero_le _) (rfl : (0 : Int32) = nI 0) trivial
  clear hK
  rintro K ⟨a, y⟩ k hk hcc - hK
  try dsimp only at hcc hK
  subst hcc
  unfold w9_digest_F143 w9_digest_d143
  try dsimp only
  refine ⟨fun _ => h _, fun c => ?_⟩
  have hlt := nI_go (N := 4) (by decide) hk c
  have hv := vp_in_nI hlt (by decide)
  have hsz := h24 k hlt
  have k172 : ∀ b c, w9_digest_b172 (fun y0 y1 => K (y0, y1)) (nI k) b c S Q := by
    intro b c
    unfold w9_digest_b172
    rintro b2 -
    unfold w9_digest_b178
    refine lp_up 24 (fun z => z.2) (fun _ _ => True) (by decide) ?_ (Nat.zero_le _) (rfl : (0 : Int32) = nI 0) trivial
    rintro K2 ⟨a2, y⟩ k2 hk2 hcc - hK2
    try dsimp only at hcc hK2
    subst hcc
    unfold w9_digest_F178 w9_digest_d178
    try dsimp only
    rw [rA_n _ _ (by omega), ix24]
    refine ⟨hv, fun _ => ?_, fun c => ?_⟩
    · rintro _ rfl
      exact hK (_, _) hlt (nI_1 k) trivial
    · rw [pi_le, nI_toInt (by omega)] at c
      refine ⟨vp_in_nI (by omega) (by decide), ?_⟩
      rintro _ rfl _ rfl
      exact hK2 (_, _) (by omega) (nI_1 k2) trivial
  exact ⟨hv, fun _ => k172 _ _, fun _ => k172 _ _⟩

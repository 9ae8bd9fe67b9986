/-! ===== pure: the boxes of the class ===== -/
theorem s1_isThere (S : MS) (Q : Int32 → Prop) (h1 : 0 < (fI S 6).toInt → Q 1) (h0 : ¬ 0 < (fI S 6).toInt → Q 0) : w1_isThere S Q := by
  have e0 : (0 : Int32).toInt = 0 := rfl
  unfold w1_isThere w1_isThere_b12
  refine ⟨fun c => ⟨rfl, h0 ?_⟩, fun c => ⟨rfl, h1 ?_⟩⟩
  · rw [pi_le] at c; omega
  · rw [pi_le] at c; omega
theorem s1_hasCell (x : Int32) (S : MS) (Q : Int32 → Prop) (h1 : (0 ≤ x.toInt ∧ x.toInt < (fI S 6).toInt) → Q 1) (h0 : ¬ (0 ≤ x.toInt ∧ x.toInt < (fI S 6).toInt) → Q 0) : w1_hasCell x S Q := by
  have e0 : (0 : Int32).toInt = 0 := rfl
  unfold w1_hasCell w1_hasCell_b16 w1_hasCell_b17
  refine ⟨fun c => ⟨rfl, h0 ?_⟩, fun c => ⟨fun c2 => ⟨rfl, h0 ?_⟩, fun c2 => ⟨rfl, h1 ?_⟩⟩⟩
  · rw [pi_lt] at c; omega
  · rw [pi_le] at c2; omega
  · rw [pi_lt] at c; rw [pi_le] at c2; omega
theorem t1_length (x : Int32) (S : MS) (Q : Int32 → Prop) (h : ∀ r, Q r) : w1_length x S Q := by
  have e0 : (0 : Int32).toInt = 0 := rfl
  have e2 : (2 : Int32).toInt = 2 := rfl
  unfold w1_length w1_length_b19
  exact s8_within _ _ _ _ (fun hx => ⟨fun _ => h _, fun _ => ⟨pi_in.mpr (by omega), h _⟩⟩) (fun _ => ⟨fun _ => h _, fun c => absurd rfl c⟩)
theorem t1_isCube (S : MS) (Q : Int32 → Prop) (h : ∀ r, Q r) : w1_isCube S Q := by
  unfold w1_isCube w1_isCube_b34 w1_isCube_b35
  exact ⟨fun _ => ⟨rfl, h _⟩, fun _ => ⟨fun _ => ⟨rfl, h _⟩, fun _ => ⟨rfl, h _⟩⟩⟩
theorem t1_endAt (x : Int32) (S : MS) (Q : Int32 → Prop) (h : ∀ r, Q r) : w1_endAt x S Q := by
  unfold w1_endAt w1_endAt_b19
  exact ⟨fun _ => t1_length _ _ _ (fun _ => h _), fun _ => h _⟩
theorem t1_signOf (x : Int32) (Q : Int32 → Prop) (h : ∀ r, Q r) : w1_signOf x Q := by
  unfold w1_signOf w1_signOf_b11
  exact ⟨fun _ => h _, fun _ => h _⟩
/-- a box of the class: at most 24 cells, each with a side -/
def Bx (S : MS) : Prop := 0 ≤ (fI S 6).toInt ∧ (fI S 6).toInt ≤ 24 ∧ ∀ c : Nat, (c : Int) < (fI S 6).toInt → ∃ s, s < 6 ∧ aI S 2 c = nI s
theorem s1_sideOf (x : Int32) (S : MS) (hB : Bx S) (Q : Int32 → Prop) (h0 : ¬ (0 ≤ x.toInt ∧ x.toInt < (fI S 6).toInt) → Q (-9)) (h1 : ∀ s, s < 6 → Q (nI s)) : w1_sideOf x S Q := by
  unfold w1_sideOf w1_sideOf_b19
  refine s1_hasCell _ _ _ (fun hx => ⟨fun c => absurd c (by decide), fun _ => ?_⟩) (fun hx => ⟨fun _ => h0 hx, fun c => absurd rfl c⟩)
  have h24 := hB.2.1
  obtain ⟨c, hc, rfl⟩ := vp_in_of (n := 24) (pi_in.mpr (by omega) : vp_in x 24) (by decide)
  rw [nI_toInt (by omega)] at hx
  obtain ⟨s, hs, es⟩ := hB.2.2 c hx.2
  rw [rA_n _ _ (by omega), es]
  exact ⟨vp_in_nI hc (by decide), h1 s hs⟩
theorem t1_middleOf (x l : Int32) (S : MS) (hB : Bx S) (Q : Int32 → Prop) (h : ∀ r, Q r) : w1_middleOf x l S Q := by
  have e0 : (0 : Int32).toInt = 0 := rfl
  have e2 : (2 : Int32).toInt = 2 := rfl
  have h24 := hB.2.1
  unfold w1_middleOf w1_middleOf_b30 w1_middleOf_b32
  refine s1_hasCell _ _ _ (fun hx => ⟨fun _ => h _, fun _ => s8_within _ _ _ _ (fun hl => ⟨fun _ => h _, fun _ => ⟨?_, h _⟩⟩) (fun _ => ⟨fun _ => h _, fun c => absurd rfl c⟩)⟩) (fun _ => ⟨fun _ => h _, fun c => absurd rfl c⟩)
  obtain ⟨c, hc, rfl⟩ := vp_in_of (n := 24) (pi_in.mpr (by omega) : vp_in x 24) (by decide)
  obtain ⟨j, hj, rfl⟩ := vp_in_of (n := 3) (pi_in.mpr (by omega) : vp_in l 3) (by decide)
  rw [ix_3]
  exact vp_in_nI (by omega) (by decide)
theorem t1_leadsTo (x w : Int32) (S : MS) (hB : Bx S) (Q : Int32 → Prop) (h : ∀ r, Q r) : w1_leadsTo x w S Q := by
  have h24 := hB.2.1
  unfold w1_leadsTo w8_frameOf
  rintro y1 - y2 -
  refine s1_hasCell _ _ _ (fun hx => ⟨fun _ => ⟨?_, ?_⟩, fun _ => h _⟩) (fun _ => ⟨fun c => absurd rfl c, fun _ => h _⟩)
  · obtain ⟨c, hc, rfl⟩ := vp_in_of (n := 24) (pi_in.mpr (by omega) : vp_in y1 24) (by decide)
    obtain ⟨j, hj, e⟩ := and_3 (w + y2)
    rw [e, show (4 : Int32) = nI 4 from rfl, pk_mul, nI_add]
    exact vp_in_nI (by omega) (by decide)
  · rintro _ rfl
    exact h _
theorem tb_ok : (∀ j, j < 6 → ∃ k, k < 6 ∧ tbR j = nI k) ∧ (∀ j, j < 6 → ∃ k, k < 6 ∧ tbU j = nI k) ∧ (∀ j, j < 3 → tbF j = nI (ax1 j)) ∧ (∀ j, j < 3 → tbO j = nI (ax2 j)) := by
  refine ⟨fun j hj => ?_, fun j hj => ?_, fun j hj => ?_, fun j hj => ?_⟩
  · rcases (show j = 0 ∨ j = 1 ∨ j = 2 ∨ j = 3 ∨ j = 4 ∨ j = 5 by omega) with rfl | rfl | rfl | rfl | rfl | rfl
    · exact ⟨2, by decide, rfl⟩
    · exact ⟨3, by decide, rfl⟩
    · exact ⟨1, by decide, rfl⟩
    · exact ⟨0, by decide, rfl⟩
    · exact ⟨0, by decide, rfl⟩
    · exact ⟨1, by decide, rfl⟩
  · rcases (show j = 0 ∨ j = 1 ∨ j = 2 ∨ j = 3 ∨ j = 4 ∨ j = 5 by omega) with rfl | rfl | rfl | rfl | rfl | rfl
    · exact ⟨5, by decide, rfl⟩
    · exact ⟨5, by decide, rfl⟩
    · exact ⟨5, by decide, rfl⟩
    · exact ⟨5, by decide, rfl⟩
    · exact ⟨3, by decide, rfl⟩
    · exact ⟨3, by decide, rfl⟩
  · rcases (show j = 0 ∨ j = 1 ∨ j = 2 by omega) with rfl | rfl | rfl <;> rfl
  · rcases (show j = 0 ∨ j = 1 ∨ j = 2 by omega) with rfl | rfl | rfl <;> rfl
theorem s1_directionOf {s : Nat} (hs : s < 6) (w : Int32) (Q : Int32 → Prop) (h : ∀ k, k < 6 → Q (nI k)) : w1_directionOf (nI s) w Q := by
  have key : ∀ k, k < 6 → w1_directionOf_b19 w (nI k) Q := by
    intro k hk
    unfold w1_directionOf_b19 w1_directionOf_b32
    rw [x1_I]
    exact ⟨fun _ => h _ (x1_ok k hk).1, fun _ => h _ hk⟩
  unfold w1_directionOf
  rw [nI_clamp (by omega)]
  obtain ⟨a, ha, ea⟩ := tb_ok.1 s hs
  obtain ⟨b, hb, eb⟩ := tb_ok.2.1 s hs
  rw [ea, eb]
  exact ⟨fun _ => ⟨vp_in_nI hs (by decide), key _ hb⟩, fun _ => ⟨vp_in_nI hs (by decide), key _ ha⟩⟩
theorem t1_cellAtSpot {s : Nat} (hs : s < 6) (S : MS) (Q : Int32 → Prop) (h : ∀ r, Q r) : w1_cellAtSpot (nI s) S Q := by
  unfold w1_cellAtSpot
  rw [sh_1 (by omega), nI_clamp (by omega), tb_ok.2.2.1 _ (by omega), tb_ok.2.2.2 _ (by omega)]
  have ha := ax_lt (s / 2) (by omega)
  refine ⟨vp_in_nI (by omega) (by decide), ?_⟩
  rintro _ rfl _ rfl
  exact ⟨vp_in_nI hs (by decide), vp_in_nI ha.1 (by decide), vp_in_nI ha.2.1 (by decide), h _⟩
theorem t1_roundEdge (a b c : Int32) (Q : Int32 → Prop) (h : ∀ r, Q r) : w1_roundEdge a b c Q := by
  unfold w1_roundEdge w1_roundEdge_b21
  exact ⟨fun _ => ⟨fun _ => h _, fun _ => h _⟩, fun _ => h _⟩
theorem t1_turnWithRight {s : Nat} (hs : s < 6) (r : Int32) (Q : Int32 → Prop) (h : ∀ r, Q r) : w1_turnWithRight (nI s) r Q := by
  unfold w1_turnWithRight w1_turnWithRight_b2
  refine lp_up 3 (fun z => z) (fun _ _ => True) (by decide) ?_ (Nat.zero_le _) (rfl : (0 : Int32) = nI 0) trivial
  rintro K y k hk hcc - hK
  try dsimp only at hcc hK
  subst hcc
  unfold w1_turnWithRight_F2 w1_turnWithRight_d2 w1_turnWithRight_b22
  try dsimp only
  refine ⟨fun _ => h _, fun c => s1_directionOf hs _ _ (fun k _ => ⟨fun _ => h _, fun _ => ?_⟩)⟩
  rintro _ rfl
  exact hK _ (nI_go (N := 3) (by decide) hk c) (nI_1 _) trivial
theorem t1_arrivalFrom {c : Nat} (hc : c < 24) (w : Int32) (S : MS) (hs : ∃ s, s < 6 ∧ aI S 2 c = nI s) (Q : Int32 → MS → Prop) (h : ∀ r S', Fr [5] S S' → Q r S') : w1_arrivalFrom (nI c) w S Q := by
  obtain ⟨s, hs, es⟩ := hs
  unfold w1_arrivalFrom
  rw [rA_n _ _ (by omega), es]
  refine ⟨vp_in_nI hc (by decide), ?_⟩
  rintro _ rfl
  refine s1_directionOf hs _ _ (fun g hg => ?_)
  unfold w1_arrivalFrom_b17
  refine lp_up 3 (fun z => z.1) (fun _ z => Fr [5] S z.2) (by decide) ?_ (Nat.zero_le _) (rfl : (0 : Int32) = nI 0) (by exact fr_rf)
  rintro K ⟨y, S1⟩ k hk hcc hF hK
  try dsimp only at hcc hF hK
  subst hcc
  unfold w1_arrivalFrom_F17 w1_arrivalFrom_d17
  try dsimp only
  rw [sh_1 (by omega), ix_3]
  refine ⟨fun _ => ⟨vp_in_nI (by omega) (by decide), ?_⟩, fun q => ?_⟩
  rotate_left
  · have hlt := nI_go (N := 3) (by decide) hk q
    refine ⟨vp_in_nI (by omega) (by decide), vp_in_nI hlt (by decide), ?_⟩
    rintro _ rfl _ rfl
    exact hK (_, _) hlt (nI_1 k) (fr_tr hF (fr_sA (by decide)))
  have k108 : w1_arrivalFrom_b108 (nI s) (nI g) S1 Q := by
    unfold w1_arrivalFrom_b108 w8_frameOf
    rw [sh_1 (by omega), sh_1 (by omega)]
    refine t1_endAt _ _ _ (fun r1 => ⟨vp_in_nI (by omega) (by decide), ?_⟩)
    rintro _ rfl
    refine t1_endAt _ _ _ (fun r2 => t1_signOf _ _ (fun r3 => ⟨vp_in_nI (by omega) (by decide), ?_⟩))
    rintro _ rfl
    refine s1_directionOf hs _ _ (fun g2 _ => t1_roundEdge _ _ _ _ (fun r4 => t1_cellAtSpot hg _ _ (fun r5 => t1_turnWithRight hg _ _ (fun r6 => h _ _ ?_))))
    exact fr_tr hF (fr_tr (fr_sA (by decide)) (fr_sA (by decide)))
  refine t1_signOf _ _ (fun r3 => ?_)
  rintro _ rfl
  refine ⟨fun _ => k108, fun _ => ⟨fun _ => k108, fun _ => ?_⟩⟩
  rintro _ rfl
  unfold w8_frameOf
  exact t1_cellAtSpot hs _ _ (fun r => h _ _ (fr_tr hF (fr_sA (by decide))))
/-- so many cells are numbered -/
def Nb (S : MS) (d : Nat → Nat) (n : Nat) : Prop := (∀ j, j < 3 → aI S 0 j = nI (d j)) ∧ fI S 6 = nI n ∧ ∀ c, c < n → ∃ s, s < 6 ∧ aI S 2 c = nI s
theorem Nb_put {S : MS} {d : Nat → Nat} {n s : Nat} (hn : n < 24) (hs : s < 6) (h : Nb S d n) (a1 a2 a3 r v w : Int32) : Nb (sI (sA (sA (sA (sA S 2 (nI n) (nI s)) 3 a1 r) 3 a2 v) 3 a3 w) 6 (nI (n + 1))) d (n + 1) := by
  have e0 : aI (sI (sA (sA (sA (sA S 2 (nI n) (nI s)) 3 a1 r) 3 a2 v) 3 a3 w) 6 (nI (n + 1))) 0 = aI S 0 := by
    show aI (sA (sA (sA (sA S 2 (nI n) (nI s)) 3 a1 r) 3 a2 v) 3 a3 w) 0 = _
    rw [rd_sn _ (by decide), rd_sn _ (by decide), rd_sn _ (by decide), rd_sn _ (by decide)]
  have e2 : aI (sI (sA (sA (sA (sA S 2 (nI n) (nI s)) 3 a1 r) 3 a2 v) 3 a3 w) 6 (nI (n + 1))) 2 = upd (aI S 2) n (nI s) := by
    show aI (sA (sA (sA (sA S 2 (nI n) (nI s)) 3 a1 r) 3 a2 v) 3 a3 w) 2 = _
    rw [rd_sn _ (by decide), rd_sn _ (by decide), rd_sn _ (by decide), rd_A, nI_clamp (by omega)]
  refine ⟨fun j hj => by rw [e0]; exact h.1 j hj, rd_fI _ _ _, fun c hc => ?_⟩
  rw [e2]
  by_cases e : c = n
  · rw [e, pk_us]; exact ⟨s, hs, rfl⟩
  · rw [pk_un e]; exact h.2.2 c (by omega)
theorem s1_numberSide {s : Nat} {d : Nat → Nat} (hs : s < 6) (S : MS) (hd : ∀ j, j < 3 → 1 ≤ d j ∧ d j ≤ 5) (h24 : tot d ≤ 24) (hN : Nb S d (pre d s)) (Q : MS → Prop) (h : ∀ S', Nb S' d (pre d (s + 1)) → Q S') : w1_numberSide (nI s) S Q := by
  unfold w1_numberSide
  rw [sh_1 (by omega), nI_clamp (by omega), tb_ok.2.2.1 _ (by omega), tb_ok.2.2.2 _ (by omega)]
  have ha := ax_lt (s / 2) (by omega)
  have hF := hd _ ha.1
  have hO := hd _ ha.2.1
  have hpl := pre_le (d := d) hs
  have epre : pre d (s + 1) = pre d s + d (ax1 (s / 2)) * d (ax2 (s / 2)) := rfl
  unfold sz at hpl
  refine ⟨vp_in_nI (by omega) (by decide), ?_⟩
  rintro _ rfl _ rfl
  unfold w1_numberSide_b19
  refine lp_up (d (ax1 (s / 2))) (fun z => z.1) (fun i z => Nb z.2 d (pre d s + i * d (ax2 (s / 2)))) (by omega) ?_ (Nat.zero_le _) (rfl : (0 : Int32) = nI 0) ?_
  rotate_left
  · show Nb S d (pre d s + 0 * d (ax2 (s / 2)))
    rw [Nat.zero_mul]; exact hN
  rintro K ⟨y, S1⟩ i hi hcc hN1 hK
  try dsimp only at hcc hN1 hK
  subst hcc
  unfold w1_numberSide_F19 w1_numberSide_d19
  try dsimp only
  rw [rA_n _ _ (by omega), hN1.1 _ ha.1]
  refine ⟨vp_in_nI ha.1 (by decide), fun c => ?_, fun c => ?_⟩
  · have e := nI_end (by omega) hi c
    rw [e] at hN1
    exact h S1 (by rw [epre]; exact hN1)
  have hlt := nI_go (by omega) hi c
  have hmul : (i + 1) * d (ax2 (s / 2)) ≤ d (ax1 (s / 2)) * d (ax2 (s / 2)) := Nat.mul_le_mul_right _ hlt
  have esucc : (i + 1) * d (ax2 (s / 2)) = i * d (ax2 (s / 2)) + d (ax2 (s / 2)) := Nat.succ_mul _ _
  unfold w1_numberSide_b33
  refine lp_up (d (ax2 (s / 2))) (fun z => z.1) (fun j z => Nb z.2 d (pre d s + i * d (ax2 (s / 2)) + j)) (by omega) ?_ (Nat.zero_le _) (rfl : (0 : Int32) = nI 0) (by exact hN1)
  clear hN1
  rintro K2 ⟨y, S2⟩ j hj hcc hN2 hK2
  try dsimp only at hcc hN2 hK2
  subst hcc
  unfold w1_numberSide_F33 w1_numberSide_d33 w1_numberSide_b137
  try dsimp only
  rw [rA_n _ _ (by omega), hN2.1 _ ha.2.1, hN2.2.1, sh_1 (by omega)]
  refine ⟨vp_in_nI ha.2.1 (by decide), fun c2 => ?_, fun c2 => ⟨fun c3 => ?_, fun _ => ?_⟩⟩
  · have e := nI_end (by omega) hj c2
    rintro _ rfl
    refine hK (_, _) hlt (nI_1 i) ?_
    show Nb S2 d (pre d s + (i + 1) * d (ax2 (s / 2)))
    rw [esucc, ← Nat.add_assoc]
    rw [e] at hN2
    exact hN2
  · have hltj := nI_go (by omega) hj c2
    have := (nI_leI (a := 24) (b := pre d s + i * d (ax2 (s / 2)) + j) (by decide) (by omega)).mp c3
    omega
  have hltj := nI_go (by omega) hj c2
  generalize hn : pre d s + i * d (ax2 (s / 2)) + j = n at hN2
  have hn24 : n < 24 := by omega
  refine ⟨vp_in_nI hn24 (by decide), ?_⟩
  rintro _ rfl
  rw [show fI (sA S2 2 (nI n) (nI s)) 6 = nI n from (fi_sA _ _ _ _ _).trans hN2.2.1]
  refine t1_endAt _ _ _ (fun r => ?_)
  rw [ix_3]
  refine ⟨vp_in_nI (by omega) (by decide), ?_⟩
  rintro _ rfl
  have f6 : fI (sA (sA S2 2 (nI n) (nI s)) 3 (nI (3 * n + s / 2)) r) 6 = nI n := (fi_sA _ _ _ _ _).trans ((fi_sA _ _ _ _ _).trans hN2.2.1)
  rw [f6, ix_3]
  refine ⟨vp_in_nI (by omega) (by decide), ?_⟩
  rintro _ rfl
  have f6b : ∀ v, fI (sA (sA (sA S2 2 (nI n) (nI s)) 3 (nI (3 * n + s / 2)) r) 3 (nI (3 * n + ax1 (s / 2))) v) 6 = nI n := fun v => (fi_sA _ _ _ _ _).trans f6
  rw [f6b, ix_3]
  refine ⟨vp_in_nI (by omega) (by decide), ?_⟩
  rintro _ rfl
  rw [show ∀ v w, fI (sA (sA (sA (sA S2 2 (nI n) (nI s)) 3 (nI (3 * n + s / 2)) r) 3 (nI (3 * n + ax1 (s / 2))) v) 3 (nI (3 * n + ax2 (s / 2))) w) 6 = nI n from fun v w => (fi_sA _ _ _ _ _).trans (f6b v), nI_1]
  rintro _ rfl _ rfl
  refine hK2 (_, _) hltj (nI_1 j) ?_
  rw [show pre d s + i * d (ax2 (s / 2)) + (j + 1) = n + 1 by omega]
  exact Nb_put hn24 hs hN2 _ _ _ _ _ _
theorem s1_build (a b c : Int32) (d : Nat → Nat) (ea : a = nI (d 0)) (eb : b = nI (d 1)) (ec : c = nI (d 2)) (hd : ∀ j, j < 3 → 1 ≤ d j ∧ d j ≤ 5) (h24 : tot d ≤ 24) (S : MS) (Q : MS → Prop) (h : ∀ S', Nb S' d (tot d) → Q S') : w1_build a b c S Q := by
  subst ea eb ec
  unfold w1_build
  rintro _ rfl _ rfl _ rfl _ rfl
  unfold w1_build_b29
  refine lp_up 6 (fun z => z.1) (fun s z => Nb z.2 d (pre d s)) (by decide) ?_ (Nat.zero_le _) (rfl : (0 : Int32) = nI 0) ?_
  rotate_left
  · refine ⟨fun j hj => ?_, rd_fI _ _ _, fun c hc => absurd hc (Nat.not_lt_zero c)⟩
    show aI (sA (sA (sA S 0 (0 : Int32) (nI (d 0))) 0 (1 : Int32) (nI (d 1))) 0 (2 : Int32) (nI (d 2))) 0 j = nI (d j)
    rw [rd_A, rd_A, rd_A, show (0 : Int32).toNatClampNeg = 0 from rfl, show (1 : Int32).toNatClampNeg = 1 from rfl, show (2 : Int32).toNatClampNeg = 2 from rfl]
    unfold upd
    rcases (show j = 0 ∨ j = 1 ∨ j = 2 by omega) with rfl | rfl | rfl
    · rw [if_neg (by decide), if_neg (by decide), if_pos rfl]
    · rw [if_neg (by decide), if_pos rfl]
    · rw [if_pos rfl]
  rintro K ⟨y, S1⟩ s hs hcc hN hK
  try dsimp only at hcc hN hK
  subst hcc
  unfold w1_build_F29 w1_build_d29
  try dsimp only
  refine ⟨fun c => ?_, fun c => ?_⟩
  rotate_left
  · have hlt := nI_go (N := 6) (by decide) hs c
    refine ⟨vp_in_nI hlt (by decide), ?_⟩
    rintro _ rfl
    have hN1 : Nb (sA S1 1 (nI s) (fI S1 6)) d (pre d s) := ⟨fun j hj => by rw [rd_sn _ (by decide)]; exact hN.1 j hj, (fi_sA _ _ _ _ _).trans hN.2.1, fun c hc => by rw [rd_sn _ (by decide)]; exact hN.2.2 c hc⟩
    refine s1_numberSide hlt _ hd h24 hN1 _ (fun S2 hN2 => ?_)
    rintro _ rfl
    exact hK (_, _) hlt (nI_1 s) hN2
  have e := nI_end (N := 6) (by decide) hs c
  subst e
  rw [pre_6] at hN
  clear hK c hs
  unfold w1_build_b62
  refine lp_up (tot d) (fun z => z.1) (fun _ z => Nb z.2 d (tot d)) (by omega) ?_ (Nat.zero_le _) (rfl : (0 : Int32) = nI 0) (by exact hN)
  rintro K ⟨y, S2⟩ k hk hcc hN2 hK
  try dsimp only at hcc hN2 hK
  subst hcc
  unfold w1_build_F62 w1_build_d62
  try dsimp only
  rw [hN2.2.1]
  refine ⟨fun _ => h _ hN2, fun c => ?_⟩
  have hlt := nI_go (by omega) hk c
  unfold w1_build_b74
  refine lp_up 4 (fun z => z.1) (fun _ z => Nb z.2 d (tot d)) (by omega) ?_ (Nat.zero_le _) (rfl : (0 : Int32) = nI 0) (by exact hN2)
  clear hN2
  rintro K2 ⟨y, S3⟩ w hw hcc hN3 hK2
  try dsimp only at hcc hN3 hK2
  subst hcc
  unfold w1_build_F74 w1_build_d74
  try dsimp only
  refine ⟨fun _ => ?_, fun c2 => ?_⟩
  · rintro _ rfl
    exact hK (_, _) hlt (nI_1 k) hN3
  have hlt2 := nI_go (N := 4) (by decide) hw c2
  refine t1_arrivalFrom (by omega) _ S3 (hN3.2.2 k hlt) _ (fun r S4 hF4 => ?_)
  rw [show (4 : Int32) = nI 4 from rfl, pk_mul, nI_add]
  refine ⟨vp_in_nI (by omega) (by decide), ?_⟩
  rintro _ rfl _ rfl
  refine hK2 (_, _) hlt2 (nI_1 w) ⟨fun j hj => ?_, ?_, fun c hc => ?_⟩
  · show aI (sA S4 4 (nI (4 * k + w)) r) 0 j = nI (d j)
    rw [rd_sn _ (by decide), (hF4 0 (by decide)).2.2.1]; exact hN3.1 j hj
  · show fI (sA S4 4 (nI (4 * k + w)) r) 6 = nI (tot d)
    exact (fi_sA _ _ _ _ _).trans ((hF4 6 (by decide)).1.trans hN3.2.1)
  · show ∃ s, s < 6 ∧ aI (sA S4 4 (nI (4 * k + w)) r) 2 c = nI s
    rw [rd_sn _ (by decide), (hF4 2 (by decide)).2.2.1]; exact hN3.2.2 c hc
theorem Nb_Bx {S : MS} {d : Nat → Nat} {n : Nat} (h24 : n ≤ 24) (h : Nb S d n) : Bx S := by
  have e : (fI S 6).toInt = (n : Int) := by rw [h.2.1, nI_toInt (by omega)]
  refine ⟨by omega, by omega, fun c hc => h.2.2 c (by omega)⟩
theorem t1_digestInto (x : Int64) (S : MS) (Q : Int64 → Prop) (h : ∀ r, Q r) : w1_digestInto x S Q := by
  unfold w1_digestInto
  have k20 : w1_digestInto_b20 x 0 S Q := by
    unfold w1_digestInto_b20
    refine lp_up 3 (fun z => z.2) (fun _ _ => True) (by decide) ?_ (Nat.zero_le _) (rfl : (0 : Int32) = nI 0) trivial
    rintro K ⟨a, y⟩ k hk hcc - hK
    try dsimp only at hcc hK
    subst hcc
    unfold w1_digestInto_F20 w1_digestInto_d20
    try dsimp only
    refine ⟨fun _ => h _, fun c => ?_⟩
    have hlt := nI_go (N := 3) (by decide) hk c
    refine ⟨vp_in_nI hlt (by decide), ?_⟩
    rintro _ rfl _ rfl
    exact hK (_, _) hlt (nI_1 k) trivial
  exact s1_isThere _ _ (fun _ => ⟨fun _ => k20, fun _ => h _⟩) (fun _ => ⟨fun _ => k20, fun _ => h _⟩)

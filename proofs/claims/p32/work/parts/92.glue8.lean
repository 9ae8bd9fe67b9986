/-! ===== pure: figures, rims and gluings of the class ===== -/
theorem s2_isThere (S : MS) (Q : Int32 → Prop) (h1 : ¬ fI S 0 = -1 → Q 1) (h0 : fI S 0 = -1 → Q 0) : w2_isThere S Q := by
  unfold w2_isThere w2_isThere_b13
  exact ⟨fun c => ⟨rfl, h0 c⟩, fun c => ⟨rfl, h1 c⟩⟩
theorem t2_isOf (x : Int32) (S : MS) (Q : Int32 → Prop) (h : ∀ r, Q r) : w2_isOf x S Q := by
  unfold w2_isOf w2_isOf_b21 w2_isOf_b25 w2_isOf_b26
  exact ⟨fun _ => ⟨rfl, h _⟩, fun _ => ⟨fun _ => ⟨rfl, h _⟩, fun _ => ⟨fun _ => ⟨rfl, h _⟩, fun _ => ⟨rfl, h _⟩⟩⟩⟩
theorem t2_putPlain (x : Int64) (S : MS) (Q : MS → Prop) (h : ∀ S', Q S') : w2_putPlain x S Q := by
  unfold w2_putPlain w2_putPlain_b20 w2_putPlain_b25
  rintro _ rfl
  refine t0_isLying _ _ (fun r => ⟨fun _ => ?_, fun _ => t0_isStanding _ _ (fun r2 => ⟨fun _ => ?_, fun _ => ?_⟩)⟩) <;> (rintro _ rfl; exact h _)
theorem t2_putNet (x : Int64) (c : Int32) (S V : MS) (Q : MS → Prop) (h : ∀ S', Q S') : w2_putNet x c S V Q := by
  have k19 : ∀ t S1, w2_putNet_b19 c t S1 V Q := by
    intro t S1
    unfold w2_putNet_b19
    rintro _ rfl _ rfl
    refine t1_length _ _ _ (fun r => ?_)
    rintro _ rfl
    exact h _
  unfold w2_putNet
  rintro _ rfl
  exact t1_isCube _ _ (fun r => ⟨fun _ => k19 _ _, fun _ => k19 _ _⟩)
theorem t2_takeAway (S : MS) (Q : MS → Prop) (h : ∀ S', Q S') : w2_takeAway S Q := by
  unfold w2_takeAway
  rintro _ rfl _ rfl
  exact h _
theorem t2_digestInto (x : Int64) (S : MS) (Q : Int64 → Prop) (h : ∀ r, Q r) : w2_digestInto x S Q := by
  unfold w2_digestInto w2_digestInto_b33
  rintro _ rfl
  exact s2_isThere _ _ (fun _ => ⟨fun _ => h _, fun _ => h _⟩) (fun _ => ⟨fun _ => h _, fun _ => h _⟩)
/-- an int field from 0 to 50 -/
def F50 (S : MS) (k : Nat) : Prop := ∃ e, e ≤ 50 ∧ fI S k = nI e
theorem s4_hasEdge (x : Int32) (S : MS) (Q : Int32 → Prop) (h1 : (0 ≤ x.toInt ∧ x.toInt < (fI S 3).toInt) → Q 1) (h0 : ¬ (0 ≤ x.toInt ∧ x.toInt < (fI S 3).toInt) → Q 0) : w4_hasEdge x S Q := by
  have e0 : (0 : Int32).toInt = 0 := rfl
  unfold w4_hasEdge w4_hasEdge_b16 w4_hasEdge_b17
  refine ⟨fun c => ⟨rfl, h0 ?_⟩, fun c => ⟨fun c2 => ⟨rfl, h0 ?_⟩, fun c2 => ⟨rfl, h1 ?_⟩⟩⟩
  · rw [pi_lt] at c; omega
  · rw [pi_le] at c2; omega
  · rw [pi_lt] at c; rw [pi_le] at c2; omega
theorem t4_angleAt (x : Int32) (S : MS) (hR : F50 S 3) (Q : Int32 → Prop) (h : ∀ r, Q r) : w4_angleAt x S Q := by
  obtain ⟨e, he, ee⟩ := hR
  unfold w4_angleAt w4_angleAt_b18
  refine s4_hasEdge _ _ _ (fun hx => ⟨fun _ => h _, fun _ => ⟨?_, h _⟩⟩) (fun _ => ⟨fun _ => h _, fun c => absurd rfl c⟩)
  rw [ee, nI_toInt (by omega)] at hx
  exact pi_in.mpr (by omega)
theorem t4_tellEdge (x w : Int32) (S : MS) (hR : F50 S 3) (Q : Int32 → Prop) (h : ∀ r, Q r) : w4_tellEdge x w S Q := by
  obtain ⟨e, he, ee⟩ := hR
  unfold w4_tellEdge
  refine s4_hasEdge _ _ _ (fun hx => ⟨fun _ => ?_, fun _ => h _⟩) (fun _ => ⟨fun c => absurd rfl c, fun _ => h _⟩)
  rw [ee, nI_toInt (by omega)] at hx
  have hv : vp_in x 50 := pi_in.mpr (by omega)
  exact ⟨fun _ => ⟨hv, h _⟩, fun _ => ⟨hv, h _⟩, fun _ _ => ⟨hv, h _⟩⟩
theorem t4_sumOfAngles (S : MS) (hR : F50 S 3) (Q : Int32 → Prop) (h : ∀ r, Q r) : w4_sumOfAngles S Q := by
  obtain ⟨e, he, ee⟩ := hR
  unfold w4_sumOfAngles w4_sumOfAngles_b4
  refine lp_up e (fun z => z.2) (fun _ _ => True) (by omega) ?_ (Nat.zero_le _) (rfl : (0 : Int32) = nI 0) trivial
  rintro K ⟨a, y⟩ k hk hcc - hK
  try dsimp only at hcc hK
  subst hcc
  unfold w4_sumOfAngles_F4 w4_sumOfAngles_d4
  try dsimp only
  rw [ee]
  refine ⟨fun _ => h _, fun c => ?_⟩
  have hlt := nI_go (by omega) hk c
  refine ⟨vp_in_nI (by omega) (by decide), ?_⟩
  rintro _ rfl _ rfl
  exact hK (_, _) hlt (nI_1 k) trivial
theorem t4_walk (x : Int64) (S : MS) (Q : Int32 → MS → Prop) (h : ∀ r S', F50 S' 3 → Q r S') : w4_walk x S Q := by
  unfold w4_walk
  refine t0_least _ _ (fun m => ?_)
  rintro _ rfl
  unfold w4_walk_b22
  refine lp_up 50 (fun z => fI z.2.2.2.2 3) (fun _ _ => True) (by decide) ?_ (Nat.zero_le _) (rd_fI _ _ _ : fI (sI S 3 0) 3 = nI 0) trivial
  rintro K ⟨sq, w, q, cl, S1⟩ k hk hcc - hK
  try dsimp only at hcc hK
  unfold w4_walk_F22 w4_walk_d22
  try dsimp only
  rw [hcc]
  have k179 : w4_walk_b179 x q cl S1 Q := by
    unfold w4_walk_b179 w4_walk_b207 w4_walk_b208
    rintro _ rfl
    have hR : F50 (sA S1 1 (0 : Int32) q) 3 := ⟨k, hk, (fi_sA _ _ _ _ _).trans hcc⟩
    exact ⟨fun _ => ⟨rfl, h _ _ hR⟩, fun _ => t0_openEdges _ _ (fun r => ⟨fun _ => ⟨rfl, h _ _ hR⟩, fun _ => ⟨rfl, h _ _ hR⟩⟩)⟩
  refine ⟨fun _ => k179, fun c => ⟨fun _ => k179, fun _ => ?_⟩⟩
  have hlt := nI_go (N := 50) (by decide) hk c
  have hv := vp_in_nI hlt (by decide)
  refine ⟨hv, ?_⟩
  rintro _ rfl
  have f1 : fI (sA S1 0 (nI k) w) 3 = nI k := (fi_sA _ _ _ _ _).trans hcc
  rw [f1]
  refine ⟨hv, ?_⟩
  rintro _ rfl
  have f2 : fI (sA (sA S1 0 (nI k) w) 2 (nI k) sq) 3 = nI k := (fi_sA _ _ _ _ _).trans f1
  rw [f2]
  refine ⟨hv, ?_⟩
  rintro _ rfl
  rw [show fI (sA (sA (sA S1 0 (nI k) w) 2 (nI k) sq) 1 (nI k) q) 3 = nI k from (fi_sA _ _ _ _ _).trans f2, nI_1]
  rintro _ rfl
  have k158 : ∀ a b c, w4_walk_b158 (fun y0 y1 y2 y3 y4 => K (y0, y1, y2, y3, y4)) x m a b c (sI (sA (sA (sA S1 0 (nI k) w) 2 (nI k) sq) 1 (nI k) q) 3 (nI (k + 1))) Q := by
    intro a b c
    unfold w4_walk_b158 w4_walk_b173 w4_walk_b174
    have hgo : ∀ v, K (a, b, c, v, sI (sA (sA (sA S1 0 (nI k) w) 2 (nI k) sq) 1 (nI k) q) 3 (nI (k + 1))) := fun v => hK (_, _, _, _, _) hlt (rd_fI _ _ _) trivial
    exact ⟨fun _ => hgo _, fun _ => ⟨fun _ => hgo _, fun _ => hgo _⟩⟩
  refine t0_beside _ _ _ (fun r1 => t0_beside _ _ _ (fun r2 => ?_))
  have k3 : ∀ r : Int32, ((¬ r = 0 → w0_has x r2 (fun r14 => ((¬ r14 = 0 → ∀ y16 : Int32, y16 = ((w + (3 : Int32)) &&& (3 : Int32)) → w4_walk_b158 (fun y0 y1 y2 y3 y4 => K (y0, y1, y2, y3, y4)) x m r2 y16 (3 : Int32) (sI (sA (sA (sA S1 0 (nI k) w) 2 (nI k) sq) 1 (nI k) q) 3 (nI (k + 1))) Q) ∧ (r14 = 0 → w4_walk_b158 (fun y0 y1 y2 y3 y4 => K (y0, y1, y2, y3, y4)) x m r1 w (2 : Int32) (sI (sA (sA (sA S1 0 (nI k) w) 2 (nI k) sq) 1 (nI k) q) 3 (nI (k + 1))) Q)))) ∧ (r = 0 → ∀ y17 : Int32, y17 = ((w + (1 : Int32)) &&& (3 : Int32)) → w4_walk_b158 (fun y0 y1 y2 y3 y4 => K (y0, y1, y2, y3, y4)) x m sq y17 (1 : Int32) (sI (sA (sA (sA S1 0 (nI k) w) 2 (nI k) sq) 1 (nI k) q) 3 (nI (k + 1))) Q)) := by
    intro r
    refine ⟨fun _ => s0_has _ _ _ (fun _ => ⟨fun _ _ _ => k158 _ _ _, fun _ => k158 _ _ _⟩) ⟨fun _ _ _ => k158 _ _ _, fun _ => k158 _ _ _⟩, fun _ _ _ => k158 _ _ _⟩
  exact s0_has _ _ _ (fun _ => k3 1) (k3 0)
theorem t3_toldPartner (x : Int32) (S : MS) (hK : F50 S 8) (Q : Int32 → Prop) (h : ∀ r, Q r) : w3_toldPartner x S Q := by
  have e0 : (0 : Int32).toInt = 0 := rfl
  obtain ⟨e, he, ee⟩ := hK
  unfold w3_toldPartner w3_toldPartner_b21 w3_toldPartner_b23
  rw [ee]
  refine ⟨fun _ => h _, fun c => ⟨fun _ => h _, fun c2 => ⟨?_, h _⟩⟩⟩
  rw [pi_lt] at c
  rw [pi_le, nI_toInt (by omega)] at c2
  exact pi_in.mpr (by omega)
theorem t3_toldCorners (x : Int32) (S : MS) (Q : Int32 → Prop) (h : ∀ r, Q r) : w3_toldCorners x S Q := by
  have e1 : (1 : Int32).toInt = 1 := rfl
  have e4 : (4 : Int32).toInt = 4 := rfl
  unfold w3_toldCorners w3_toldCorners_b25 w3_toldCorners_b27
  exact ⟨fun _ => h _, fun _ => s8_within _ _ _ _ (fun hx => ⟨fun _ => h _, fun _ => ⟨pi_in.mpr (by omega), h _⟩⟩) (fun _ => ⟨fun _ => h _, fun c => absurd rfl c⟩)⟩
theorem s3_isFree (x : Int32) (S : MS) (Q : Int32 → Prop) (h1 : vp_in x 50 → Q 1) (h0 : Q 0) : w3_isFree x S Q := by
  have e0 : (0 : Int32).toInt = 0 := rfl
  have e50 : (50 : Int32).toInt = 50 := rfl
  unfold w3_isFree w3_isFree_b25 w3_isFree_b26
  refine ⟨fun _ => ⟨rfl, h0⟩, fun c => ⟨fun _ => ⟨rfl, h0⟩, fun c2 => ?_⟩⟩
  rw [pi_lt] at c
  rw [pi_le] at c2
  have hv : vp_in x 50 := pi_in.mpr (by omega)
  exact ⟨hv, fun _ => ⟨rfl, h0⟩, fun _ => ⟨rfl, h1 hv⟩⟩
theorem t3_gatherCorners {e : Nat} (S V : MS) (he : e ≤ 50) (ee : fI S 7 = nI e) (hV : F50 V 3) (Q : MS → Prop) (h : ∀ S', Fr [1, 2] S S' → Q S') : w3_gatherCorners S V Q := by
  unfold w3_gatherCorners w3_gatherCorners_b2
  refine lp_up e (fun z => z.1) (fun i z => Fr [1, 2] S z.2 ∧ ∀ j, j < i → ∃ t, t ≤ j ∧ aI z.2 1 j = nI t) (by omega) ?_ (Nat.zero_le _) (rfl : (0 : Int32) = nI 0) (by exact ⟨fr_rf, fun j hj => absurd hj (Nat.not_lt_zero j)⟩)
  rintro K ⟨y, S1⟩ i hi hcc ⟨hF, hj⟩ hK
  try dsimp only at hcc hF hj hK
  subst hcc
  unfold w3_gatherCorners_F2 w3_gatherCorners_d2
  try dsimp only
  rw [(hF 7 (by decide)).1, ee]
  refine ⟨fun _ => h _ hF, fun c => ?_⟩
  have hlt := nI_go (by omega) hi c
  have hv : vp_in (nI i) 50 := vp_in_nI (by omega) (by decide)
  have k70 : ∀ S2 t, Fr [1, 2] S S2 → t ≤ i → aI S2 1 = upd (aI S1 1) i (nI t) → w3_gatherCorners_b70 (fun y0 y1 => K (y0, y1)) (nI i) S2 V Q := by
    intro S2 t hF2 ht e1
    unfold w3_gatherCorners_b70
    rw [rA_n _ 1 (by omega), e1, pk_us]
    refine ⟨hv, vp_in_nI (by omega) (by decide), t4_angleAt _ _ hV _ (fun r => ?_)⟩
    rintro _ rfl _ rfl
    refine hK (_, _) hlt (nI_1 i) ⟨fr_tr hF2 (fr_sA (by decide)), fun j hj2 => ?_⟩
    show ∃ t, t ≤ j ∧ aI (sA S2 2 _ _) 1 j = nI t
    rw [rd_sn _ (by decide), e1]
    by_cases q : j = i
    · rw [q, pk_us]; exact ⟨t, by omega, rfl⟩
    · rw [pk_un q]; exact hj j (by omega)
  have k52 : ∀ t, t ≤ i → w3_gatherCorners_b52 (fun y0 y1 => K (y0, y1)) (nI i) (nI i) (nI t) S1 V Q := by
    intro t ht
    unfold w3_gatherCorners_b52
    refine ⟨hv, ?_⟩
    rintro _ rfl
    have e1 : aI (sA S1 1 (nI i) (nI t)) 1 = upd (aI S1 1) i (nI t) := by rw [rd_A, nI_clamp (by omega)]
    refine ⟨hv, fun _ => k70 _ t (fr_tr hF (fr_sA (by decide))) ht e1, fun _ => ?_⟩
    rintro _ rfl
    refine k70 _ t (fr_tr hF (fr_tr (fr_sA (by decide)) (fr_sA (by decide)))) ht ?_
    rw [rd_sn _ (by decide)]; exact e1
  have k27 : ∀ t0, w3_gatherCorners_b27 (fun y0 y1 => K (y0, y1)) (nI i) t0 S1 V Q := by
    intro t0
    unfold w3_gatherCorners_b27 w3_gatherCorners_b51
    refine ⟨fun _ => k52 i (Nat.le_refl _), fun c0 => ⟨fun _ => k52 i (Nat.le_refl _), fun c1 => ?_⟩⟩
    obtain ⟨t, ht, rfl⟩ := nI_of c0
    have hti : t < i := by
      rcases Nat.lt_or_ge t i with q | q
      · exact q
      · exact absurd (nI_le q ht) c1
    obtain ⟨u, hu, eu⟩ := hj t hti
    rw [rA_n _ _ (by omega), eu]
    exact ⟨vp_in_nI (by omega) (by decide), k52 u (by omega)⟩
  refine ⟨fun _ => k27 _, fun c0 => ⟨?_, k27 _⟩⟩
  have hi0 : 0 < i := by
    rcases Nat.eq_zero_or_pos i with q | q
    · rw [q] at c0; exact absurd (by decide) c0
    · exact q
  rw [show nI i - (1 : Int32) = nI (i - 1) from pk_sub (b := 1) (by omega)]
  exact vp_in_nI (by omega) (by decide)
theorem t3_isLegal {e : Nat} (S : MS) (he : e ≤ 50) (ee : fI S 7 = nI e) (Q : Int32 → Prop) (h : ∀ r, Q r) : w3_isLegal S Q := by
  unfold w3_isLegal w3_isLegal_b2
  refine lp_up e (fun z => z) (fun _ _ => True) (by omega) ?_ (Nat.zero_le _) (rfl : (0 : Int32) = nI 0) trivial
  rintro K y i hi hcc - hK
  try dsimp only at hcc hK
  subst hcc
  unfold w3_isLegal_F2 w3_isLegal_d2 w3_isLegal_b32
  try dsimp only
  rw [ee]
  refine ⟨fun _ => h _, fun c => ?_⟩
  have hlt := nI_go (by omega) hi c
  have hgo : ∀ y1 : Int32, y1 = nI i + 1 → K y1 := by
    rintro _ rfl
    exact hK _ hlt (nI_1 i) trivial
  exact ⟨vp_in_nI (by omega) (by decide), fun _ => hgo, fun _ => ⟨fun _ => hgo, fun _ => h _⟩⟩
theorem t3_cornersWith {e : Nat} (x : Int32) (S : MS) (he : e ≤ 50) (ee : fI S 7 = nI e) (Q : Int32 → Prop) (h : ∀ r, Q r) : w3_cornersWith x S Q := by
  unfold w3_cornersWith w3_cornersWith_b4
  refine lp_up e (fun z => z.2) (fun _ _ => True) (by omega) ?_ (Nat.zero_le _) (rfl : (0 : Int32) = nI 0) trivial
  rintro K ⟨a, y⟩ i hi hcc - hK
  try dsimp only at hcc hK
  subst hcc
  unfold w3_cornersWith_F4 w3_cornersWith_d4 w3_cornersWith_b37
  try dsimp only
  rw [ee]
  refine ⟨fun _ => h _, fun c => ?_⟩
  have hlt := nI_go (by omega) hi c
  have k38 : ∀ b, w3_cornersWith_b38 (fun y0 y1 => K (y0, y1)) x (nI i) a b S Q := by
    intro b
    unfold w3_cornersWith_b38
    rintro _ rfl _ rfl
    exact hK (_, _) hlt (nI_1 i) trivial
  exact ⟨vp_in_nI (by omega) (by decide), fun _ => k38 _, fun _ => ⟨fun _ => k38 _, fun _ => k38 _⟩⟩
theorem t3_cornersInAll {e : Nat} (S : MS) (he : e ≤ 50) (ee : fI S 7 = nI e) (Q : Int32 → Prop) (h : ∀ r, Q r) : w3_cornersInAll S Q := by
  unfold w3_cornersInAll w3_cornersInAll_b4
  refine lp_up e (fun z => z.2) (fun _ _ => True) (by omega) ?_ (Nat.zero_le _) (rfl : (0 : Int32) = nI 0) trivial
  rintro K ⟨a, y⟩ i hi hcc - hK
  try dsimp only at hcc hK
  subst hcc
  unfold w3_cornersInAll_F4 w3_cornersInAll_d4
  try dsimp only
  rw [ee]
  refine ⟨fun _ => h _, fun c => ?_⟩
  have hlt := nI_go (by omega) hi c
  have k38 : ∀ b, w3_cornersInAll_b28 (fun y0 y1 => K (y0, y1)) (nI i) a b S Q := by
    intro b
    unfold w3_cornersInAll_b28
    rintro _ rfl _ rfl
    exact hK (_, _) hlt (nI_1 i) trivial
  exact ⟨vp_in_nI (by omega) (by decide), fun _ => k38 _, fun _ => k38 _⟩
theorem fr_ok {ks : List Nat} {S S' : MS} {e : Nat} (hF : Fr ks S S') (h7 : 7 ∉ ks) (ee : fI S 7 = nI e) : fI S' 7 = nI e := (hF 7 h7).1.trans ee
theorem t3_judge {e : Nat} (S V : MS) (he : e ≤ 50) (ee : fI S 7 = nI e) (hV : F50 V 3) (Q : MS → Prop) (h : ∀ S', Fr [1, 2, 3, 4, 9] S S' → Q S') : w3_judge S V Q := by
  have k59 : ∀ S1, Fr [1, 2, 3, 4, 9] S S1 → w3_judge_b59 S1 V Q := by
    intro S1 hF
    unfold w3_judge_b59
    rintro _ rfl
    exact h _ (fr_tr hF (fr_sI (by decide)))
  unfold w3_judge
  refine t3_gatherCorners S V he ee hV _ (fun S1 hF1 => t3_isLegal S1 he (fr_ok hF1 (by decide) ee) _ (fun r => ⟨fun _ => ⟨fun _ => k59 _ (fr_mono hF1 (by decide)), fun _ => ⟨by decide, ?_⟩⟩, fun _ => h _ (fr_mono hF1 (by decide))⟩))
  rintro _ rfl
  unfold w3_judge_b37
  refine lp_up 5 (fun z => z.1) (fun _ z => Fr [1, 2, 3, 4, 9] S z.2) (by decide) ?_ (by decide) (rfl : (1 : Int32) = nI 1) (by exact fr_tr (fr_mono hF1 (by decide)) (fr_pA (by decide)))
  rintro K ⟨y, S2⟩ k hk hcc hF2 hK
  try dsimp only at hcc hF2 hK
  subst hcc
  unfold w3_judge_F37 w3_judge_d37
  try dsimp only
  refine ⟨fun _ => k59 _ hF2, fun c => t3_cornersWith _ _ he (fr_ok hF2 (by decide) ee) _ (fun r => ?_)⟩
  have hlt : k < 5 := by
    rcases Nat.lt_or_ge k 5 with q | q
    · exact q
    · exact absurd (nI_lt (a := 4) (b := k) (by omega) (by omega)) c
  refine ⟨vp_in_nI hlt (by decide), ?_⟩
  rintro _ rfl _ rfl
  exact hK (_, _) hlt (nI_1 k) (fr_tr hF2 (fr_sA (by decide)))
theorem t3_countTry (S : MS) (Q : Int32 → MS → Prop) (h : ∀ r S', Fr [10, 12] S S' → Q r S') : w3_countTry S Q := by
  unfold w3_countTry
  refine ⟨fun _ => ?_, fun _ => ?_⟩
  · rintro _ rfl; exact h _ _ (fr_sI (by decide))
  · rintro _ rfl; exact h _ _ (fr_sI (by decide))
theorem t3_pairFrom {e : Nat} (V : MS) (he : e ≤ 50) (hV : F50 V 3) : ∀ (n k : Nat), k ≤ 25 → 26 ≤ n + k → ∀ (a : Nat), a ≤ 60 → ∀ (S : MS), fI S 7 = nI e → ∀ (Q : MS → Prop), (∀ S', Fr [0, 1, 2, 3, 4, 9, 10, 12] S S' → Q S') → w3_pairFrom n (nI a) (nI k) S V Q := by
  intro n
  induction n with
  | zero => intro k hk hn; omega
  | succ n ih =>
    intro k hk hn a ha S ee Q h
    show w3_pairFrom_r (w3_pairFrom n) (nI a) (nI k) S V Q
    unfold w3_pairFrom_r w3_pairFrom_b3
    refine lp_up 120 (fun z => z) (fun i _ => i ≤ a ∨ i ≤ e) (by decide) ?_ (by omega) (rfl : nI a = nI a) (by exact Or.inl (Nat.le_refl _))
    rintro K y i hi hcc hia hK
    try dsimp only at hcc hia hK
    subst hcc
    have k27 : w3_pairFrom_b27 (w3_pairFrom n) (nI k) (nI i) S V Q := by
      unfold w3_pairFrom_b27
      rw [ee]
      refine ⟨fun ci => ⟨fun ck => ?_, fun _ => h _ fr_rf⟩, fun _ => t3_judge S V he ee hV _ (fun S' hF => h _ (fr_mono hF (by decide)))⟩
      have hie := (nI_ltI (a := i) (b := e) (by omega) (by omega)).mp ci
      have hk25 := (nI_ltI (a := k) (b := 25) (by omega) (by decide)).mp ck
      rw [nI_1]
      rintro _ rfl
      unfold w3_pairFrom_b55
      refine lp_up e (fun z => z.1) (fun _ z => Fr [0, 1, 2, 3, 4, 9, 10, 12] S z.2) (by omega) ?_ (by omega) (rfl : nI (i + 1) = nI (i + 1)) (by exact fr_rf)
      rintro K2 ⟨y, S2⟩ w hw hcc hF2 hK2
      try dsimp only at hcc hF2 hK2
      subst hcc
      have ee2 := fr_ok hF2 (by decide) ee
      unfold w3_pairFrom_F55 w3_pairFrom_d55 w3_pairFrom_b164
      try dsimp only
      rw [ee2]
      refine ⟨fun _ => h _ hF2, fun c => ?_⟩
      have hlt := nI_go (by omega) hw c
      have k158 : ∀ S3, Fr [0, 1, 2, 3, 4, 9, 10, 12] S S3 → w3_pairFrom_b158 (w3_pairFrom n) (fun y0 y1 => K2 (y0, y1)) (nI k) (nI i) (nI w) S3 V Q := by
        intro S3 hF3
        unfold w3_pairFrom_b158
        rintro _ rfl
        exact hK2 (_, _) hlt (nI_1 w) hF3
      have k96 : ∀ t, w3_pairFrom_b96 (w3_pairFrom n) (fun y0 y1 => K2 (y0, y1)) (nI k) (nI i) (nI w) t S2 V Q := by
        intro t
        unfold w3_pairFrom_b96
        refine ⟨fun _ => k158 _ hF2, fun _ => t3_countTry _ _ (fun r S3 hF3 => ⟨fun _ => k158 _ (fr_tr hF2 (fr_mono hF3 (by decide))), fun _ => ⟨vp_in_nI (by omega) (by decide), ?_⟩⟩)⟩
        rintro _ rfl
        refine ⟨vp_in_nI (by omega) (by decide), ?_⟩
        rintro _ rfl
        have hF4 : Fr [0, 1, 2, 3, 4, 9, 10, 12] S (sA (sA S3 0 (nI i) (nI w)) 0 (nI w) (nI i)) := fr_tr hF2 (fr_tr (fr_mono hF3 (by decide)) (fr_tr (fr_sA (by decide)) (fr_sA (by decide))))
        rw [nI_1, nI_1]
        refine ih (k + 1) (by omega) (by omega) (i + 1) (by omega) _ (fr_ok hF4 (by decide) ee) _ (fun S5 hF5 => ?_)
        rintro _ rfl _ rfl
        exact k158 _ (fr_tr hF4 (fr_tr hF5 (fr_tr (fr_sA (by decide)) (fr_sA (by decide)))))
      refine s3_isFree _ _ _ (fun _ => ⟨fun _ => h _ hF2, fun _ => ⟨fun _ => h _ hF2, fun _ => ⟨fun _ => k96 _, fun _ => k96 _⟩⟩⟩) ⟨fun _ => h _ hF2, fun c => absurd rfl c⟩
    unfold w3_pairFrom_F3 w3_pairFrom_d3
    try dsimp only
    rw [ee]
    refine ⟨fun _ => k27, fun c => s3_isFree _ _ _ (fun _ => ⟨fun _ => k27, fun c => absurd c (by decide)⟩) ⟨fun c => absurd rfl c, fun _ => ?_⟩⟩
    have hie : i < e := by
      rcases Nat.lt_or_ge i e with q | q
      · exact q
      · exact absurd (nI_le q (by omega)) c
    rintro _ rfl
    exact hK _ (by omega) (nI_1 i) (Or.inr (by omega))
theorem t3_keepFirst (S : MS) (h7 : F50 S 7) (Q : MS → Prop) (h : ∀ S', F50 S' 7 → F50 S' 8 → Q S') : w3_keepFirst S Q := by
  obtain ⟨e, he, ee⟩ := h7
  have k16 : ∀ t, t ≤ 50 → w3_keepFirst_b16 (nI t) S Q := by
    intro t ht
    unfold w3_keepFirst_b16
    rintro _ rfl
    refine ⟨by decide, ?_⟩
    rintro _ rfl
    refine ⟨by decide, ?_⟩
    rintro _ rfl
    exact h _ ⟨e, he, ee⟩ ⟨t, ht, rd_fI S 8 (nI t)⟩
  unfold w3_keepFirst
  rw [ee]
  exact ⟨fun _ => k16 0 (by decide), fun _ => k16 e he⟩
theorem t3_seek (x : Int32) (S V : MS) (hV : F50 V 3) (h8 : F50 S 8) (Q : Int32 → MS → Prop) (h : ∀ r S', F50 S' 7 → F50 S' 8 → Q r S') : w3_seek x S V Q := by
  obtain ⟨e, he, ee⟩ := id hV
  unfold w3_seek
  refine s7_fill 50 (by decide) _ _ _ (fun g _ => ?_)
  rw [ee]
  rintro _ rfl _ rfl _ rfl _ rfl _ rfl _ rfl
  have e7 : fI (sI (sI (sI (sI (sI (pA S 0 g) 7 (nI e)) 9 (0 : Int32)) 10 (0 : Int32)) 11 x) 12 (0 : Int32)) 7 = nI e := by
    show fI (sI (pA S 0 g) 7 (nI e)) 7 = nI e
    exact rd_fI _ _ _
  have hF : Fr [0, 7, 9, 10, 11, 12] S (sI (sI (sI (sI (sI (pA S 0 g) 7 (nI e)) 9 (0 : Int32)) 10 (0 : Int32)) 11 x) 12 (0 : Int32)) := fr_tr (fr_tr (fr_tr (fr_tr (fr_tr (fr_pA (by decide)) (fr_sI (by decide))) (fr_sI (by decide))) (fr_sI (by decide))) (fr_sI (by decide))) (fr_sI (by decide))
  generalize sI (sI (sI (sI (sI (pA S 0 g) 7 (nI e)) 9 (0 : Int32)) 10 (0 : Int32)) 11 x) 12 (0 : Int32) = S1 at e7 hF
  have k55 : ∀ S2, F50 S2 7 → F50 S2 8 → w3_seek_b55 S2 V Q := by
    intro S2 h1 h2
    unfold w3_seek_b55 w3_seek_b67
    exact ⟨fun _ => ⟨rfl, h _ _ h1 h2⟩, fun _ => ⟨rfl, h _ _ h1 h2⟩⟩
  refine t3_pairFrom V he hV 27 0 (by decide) (by decide) 0 (by decide) S1 e7 _ (fun S2 hF2 => ?_)
  have h7b : F50 S2 7 := ⟨e, he, fr_ok hF2 (by decide) e7⟩
  have h8b : F50 S2 8 := by
    obtain ⟨k, hk, ek⟩ := h8
    exact ⟨k, hk, (hF2 8 (by decide)).1.trans ((hF 8 (by decide)).1.trans ek)⟩
  exact ⟨fun _ => k55 _ h7b h8b, fun _ => t3_keepFirst _ h7b _ (fun S3 a b => k55 _ a b)⟩
theorem t3_take (S V : MS) (x : Int32) (hx : ∃ n, n ≤ 50 ∧ x = nI n) (h7 : F50 S 7) (h8 : F50 S 8) (Q : Int32 → MS → Prop) (h : ∀ r S', F50 S' 7 → F50 S' 8 → Q r S') : w3_take x S V Q := by
  obtain ⟨n, hn, rfl⟩ := hx
  unfold w3_take w3_take_b14
  refine ⟨fun _ => h _ _ h7 h8, fun _ => ⟨fun c => ?_, fun _ => h _ _ h7 h8⟩⟩
  have hn24 := (nI_leI (a := n) (b := 24) (by omega) (by decide)).mp c
  rintro _ rfl
  rw [nI_clamp (by omega), show (0 : Int32).toNatClampNeg = 0 from rfl]
  refine ⟨⟨by decide, by decide, nI_pos (by omega), by omega, by omega⟩, ?_⟩
  rintro _ rfl
  have e7 : fI (pA (sI S 7 (nI n)) 0 (va_cpy (aI V 0) (aI (sI S 7 (nI n)) 0) 0 0 n)) 7 = nI n := by
    show fI (sI S 7 (nI n)) 7 = nI n
    exact rd_fI _ _ _
  have e8 : fI (pA (sI S 7 (nI n)) 0 (va_cpy (aI V 0) (aI (sI S 7 (nI n)) 0) 0 0 n)) 8 = fI S 8 := ((fr_pA (ks := [0]) (by decide)) 8 (by decide)).1.trans ((fr_sI (ks := [7]) (by decide)) 8 (by decide)).1
  generalize pA (sI S 7 (nI n)) 0 (va_cpy (aI V 0) (aI (sI S 7 (nI n)) 0) 0 0 n) = S1 at e7 e8
  have h7b : F50 S1 7 := ⟨n, hn, e7⟩
  have h8b : F50 S1 8 := by
    obtain ⟨k, hk, ek⟩ := h8
    exact ⟨k, hk, e8.trans ek⟩
  unfold w3_take_b37
  refine lp_up n (fun z => z) (fun _ _ => True) (by omega) ?_ (Nat.zero_le _) (rfl : (0 : Int32) = nI 0) trivial
  rintro K y i hi hcc - hK
  try dsimp only at hcc hK
  subst hcc
  unfold w3_take_F37 w3_take_d37 w3_take_b58
  try dsimp only
  refine ⟨fun _ => h _ _ h7b h8b, fun c2 => ?_⟩
  have hlt := nI_go (by omega) hi c2
  have hv : vp_in (nI i) 50 := vp_in_nI (by omega) (by decide)
  have kend : (∃ p, p < n ∧ aI S1 0 i = nI p) → w3_holdsItsOwn (nI i) S1 (fun r5 => ((¬ r5 = 0 → ∀ y8 : Int32, y8 = nI i + 1 → K y8) ∧ (r5 = 0 → Q (0 : Int32) S1))) := by
    rintro ⟨p, hp, ep⟩
    unfold w3_holdsItsOwn
    rw [nI_1]
    rintro _ rfl
    have hgo : ∀ y8 : Int32, y8 = nI (i + 1) → K y8 := by
      rintro _ rfl
      exact hK _ hlt rfl trivial
    unfold w3_holdsItsOwn_b4
    refine lp_up 200 (fun z => z) (fun k _ => k = i + 1 ∨ k ≤ p) (by decide) ?_ (by omega) (rfl : nI (i + 1) = nI (i + 1)) (by exact Or.inl rfl)
    rintro K2 y k hk hcc hkp hK2
    try dsimp only at hcc hkp hK2
    subst hcc
    unfold w3_holdsItsOwn_F4 w3_holdsItsOwn_d4
    try dsimp only
    rw [rA_n _ 0 (by omega), ep]
    refine ⟨hv, fun _ => ⟨fun _ => hgo, fun _ => h _ _ h7b h8b⟩, fun c3 => ?_⟩
    have hkp2 : k < p := by
      rcases Nat.lt_or_ge k p with q | q
      · exact q
      · exact absurd (nI_le q (by omega)) c3
    refine ⟨vp_in_nI (by omega) (by decide), t8_within _ _ _ _ ⟨fun _ => ?_, fun c => absurd c (by decide)⟩ ⟨fun c => absurd rfl c, fun _ => ⟨fun _ => hgo, fun _ => h _ _ h7b h8b⟩⟩⟩
    rintro _ rfl
    exact hK2 _ (by omega) (nI_1 k) (Or.inr (by omega))
  unfold w3_isPaired w3_isPaired_b38 w3_isPaired_b39
  rw [rA_n _ 0 (by omega)]
  refine ⟨hv, ?_⟩
  have hno : ((0 : Int32) = 0 → Q (0 : Int32) S1) ∧ (¬ (0 : Int32) = 0 → w3_holdsItsOwn (nI i) S1 (fun r5 => ((¬ r5 = 0 → ∀ y8 : Int32, y8 = nI i + 1 → K y8) ∧ (r5 = 0 → Q (0 : Int32) S1)))) := ⟨fun _ => h _ _ h7b h8b, fun c => absurd rfl c⟩
  rintro _ rfl
  rw [e7]
  refine ⟨fun _ => ⟨rfl, hno⟩, fun _ => ⟨fun _ => ⟨rfl, hno⟩, fun c3 => ⟨fun _ => ⟨rfl, hno⟩, fun c4 => ?_⟩⟩⟩
  obtain ⟨p, hp, ep⟩ := nI_of c3
  rw [ep] at c4
  have hpn : p < n := by
    rcases Nat.lt_or_ge p n with q | q
    · exact q
    · exact absurd (nI_le q hp) c4
  rw [ep]
  exact ⟨vp_in_nI (by omega) (by decide), fun _ => ⟨rfl, hno⟩, fun _ => ⟨rfl, ⟨fun c => absurd c (by decide), fun _ => kend ⟨p, hpn, ep⟩⟩⟩⟩

/-! ===== pure: rows, sheets and ways of the class ===== -/
def RowI (S : MS) : Prop := -1 ≤ (fI S 1).toInt ∧ (fI S 1).toInt ≤ 24
theorem s5_isThere (S : MS) (Q : Int32 → Prop) (h1 : ¬ fI S 1 = -1 → Q 1) (h0 : fI S 1 = -1 → Q 0) : w5_isThere S Q := by
  unfold w5_isThere w5_isThere_b13
  exact ⟨fun c => ⟨rfl, h0 c⟩, fun c => ⟨rfl, h1 c⟩⟩
theorem s5_hasPlace (x : Int32) (S : MS) (Q : Int32 → Prop) (h1 : (0 ≤ x.toInt ∧ x.toInt < (fI S 1).toInt) → Q 1) (h0 : ¬ (0 ≤ x.toInt ∧ x.toInt < (fI S 1).toInt) → Q 0) : w5_hasPlace x S Q := by
  have e0 : (0 : Int32).toInt = 0 := rfl
  unfold w5_hasPlace w5_hasPlace_b16 w5_hasPlace_b17
  refine ⟨fun c => ⟨rfl, h0 ?_⟩, fun c => ⟨fun c2 => ⟨rfl, h0 ?_⟩, fun c2 => ⟨rfl, h1 ?_⟩⟩⟩
  · rw [pi_lt] at c; omega
  · rw [pi_le] at c2; omega
  · rw [pi_lt] at c; rw [pi_le] at c2; omega
theorem s5_hasPlaces (x n : Int32) (S : MS) (hR : RowI S) (Q : Int32 → Prop) (h1 : (0 ≤ x.toInt ∧ 0 ≤ n.toInt ∧ x.toInt + n.toInt ≤ (fI S 1).toInt) → Q 1) (h0 : ¬ (0 ≤ x.toInt ∧ 0 ≤ n.toInt ∧ x.toInt + n.toInt ≤ (fI S 1).toInt) → Q 0) : w5_hasPlaces x n S Q := by
  have e0 : (0 : Int32).toInt = 0 := rfl
  have r1 := hR.1
  have r2 := hR.2
  unfold w5_hasPlaces w5_hasPlaces_b30 w5_hasPlaces_b31
  refine ⟨fun c => ⟨rfl, h0 ?_⟩, fun c => ⟨fun c2 => ⟨rfl, h0 ?_⟩, fun c2 => ⟨fun c3 => ⟨rfl, h0 ?_⟩, fun c3 => ?_⟩⟩⟩
  · rw [pi_lt] at c; omega
  · rw [pi_lt] at c2; omega
  · rw [pi_lt] at c c2 c3; omega
  · rw [pi_lt] at c c2 c3
    have es : (fI S 1 - n).toInt = (fI S 1).toInt - n.toInt := fb_subI (by omega) (by omega)
    refine ⟨fun c4 => ⟨rfl, h0 ?_⟩, fun c4 => ⟨rfl, h1 ?_⟩⟩
    · rw [pi_lt, es] at c4; omega
    · rw [pi_lt, es] at c4; omega
theorem t5_sum (S : MS) (hR : RowI S) (Q : Int64 → Prop) (h : ∀ r, Q r) : w5_sum S Q := by
  have r2 := hR.2
  unfold w5_sum w5_sum_b4
  refine lp_up 24 (fun z => z.2) (fun _ _ => True) (by decide) ?_ (Nat.zero_le _) (rfl : (0 : Int32) = nI 0) trivial
  rintro K ⟨a, y⟩ k hk hcc - hK
  try dsimp only at hcc hK
  subst hcc
  unfold w5_sum_F4 w5_sum_d4
  try dsimp only
  refine ⟨fun _ => h _, fun c => ?_⟩
  rw [pi_le, nI_toInt (by omega)] at c
  refine ⟨vp_in_nI (by omega) (by decide), ?_⟩
  rintro _ rfl _ rfl
  exact hK (_, _) (by omega) (nI_1 k) trivial
theorem t5_digestInto (x : Int64) (S : MS) (hR : RowI S) (Q : Int64 → Prop) (h : ∀ r, Q r) : w5_digestInto x S Q := by
  have r2 := hR.2
  unfold w5_digestInto w5_digestInto_b15
  rintro y0 -
  refine lp_up 24 (fun z => z.2) (fun _ _ => True) (by decide) ?_ (Nat.zero_le _) (rfl : (0 : Int32) = nI 0) trivial
  rintro K ⟨a, y⟩ k hk hcc - hK
  try dsimp only at hcc hK
  subst hcc
  unfold w5_digestInto_F15 w5_digestInto_d15
  try dsimp only
  refine ⟨fun _ => h _, fun c => ?_⟩
  rw [pi_le, nI_toInt (by omega)] at c
  refine ⟨vp_in_nI (by omega) (by decide), ?_⟩
  rintro _ rfl _ rfl
  exact hK (_, _) (by omega) (nI_1 k) trivial
/-- a sheet: 0 to 24 laid -/
def L24 (S : MS) : Prop := ∃ l, l ≤ 24 ∧ fI S 2 = nI l
theorem t6_frameAt (x : Int32) (S : MS) (Q : Int32 → Prop) (h : ∀ r, Q r) : w6_frameAt x S Q := by
  unfold w6_frameAt w6_frameAt_b22
  exact s0_has _ _ _ (fun hv => ⟨fun _ => h _, fun _ => ⟨hv, h _⟩⟩) ⟨fun _ => h _, fun c => absurd rfl c⟩
theorem t6_clear (S : MS) (Q : MS → Prop) (h : ∀ S', L24 S' → Q S') : w6_clear S Q := by
  unfold w6_clear
  rintro _ rfl _ rfl _ rfl
  exact h _ ⟨0, by decide, rd_fI S 2 0⟩
theorem t6_covers (x : Int32) (S : MS) (Q : Int32 → Prop) (h : ∀ r, Q r) : w6_covers x S Q := by
  unfold w6_covers w6_covers_b16
  exact ⟨fun _ => ⟨rfl, h _⟩, fun _ => ⟨rfl, h _⟩⟩
theorem t6_put (x f : Int32) (S : MS) (hL : L24 S) (Q : Int32 → MS → Prop) (h : ∀ r S', L24 S' → Q r S') : w6_put x f S Q := by
  obtain ⟨l, hl, el⟩ := id hL
  unfold w6_put w6_put_b22 w6_put_b51
  rintro _ rfl
  refine s8_isSquare _ _ (fun hx => ⟨fun c => absurd c (by decide), fun _ => s0_has _ _ _ (fun _ => ⟨fun c => absurd c (by decide), fun _ => h _ _ hL⟩) ⟨fun _ => t8_within _ _ _ _ ⟨fun c => absurd c (by decide), fun _ => t6_covers _ _ _ (fun r => ⟨fun _ => h _ _ hL, fun _ => ⟨fun c => ?_, fun _ => h _ _ hL⟩⟩)⟩ ⟨fun _ => h _ _ hL, fun c => absurd rfl c⟩, fun c => absurd rfl c⟩⟩) (fun _ => ⟨fun _ => h _ _ hL, fun c => absurd rfl c⟩)
  rw [el] at c
  have hlt := (nI_ltI (a := l) (b := 24) (by omega) (by decide)).mp c
  refine ⟨hx, ?_⟩
  rintro _ rfl
  rw [show fI (sA S 0 x f) 2 = nI l from (fi_sA _ _ _ _ _).trans el]
  refine ⟨vp_in_nI hlt (by decide), ?_⟩
  rintro _ rfl
  rw [show fI (sA (sA S 0 x f) 1 (nI l) x) 2 = nI l from (fi_sA _ _ _ _ _).trans ((fi_sA _ _ _ _ _).trans el), nI_1]
  rintro _ rfl _ rfl _ rfl
  exact h _ _ ⟨l + 1, by omega, ((fr_sJ (ks := [4]) (by decide)) 2 (by decide)).1.trans (((fr_sI (ks := [3]) (by decide)) 2 (by decide)).1.trans (rd_fI _ _ _))⟩
theorem t6_foldRound (x : Int64) (q : Int32) (S V : MS) (hL : L24 S) (hB : Bx V) (Q : Int32 → MS → Prop) (h : ∀ r S', L24 S' → Q r S') : w6_foldRound x q S V Q := by
  unfold w6_foldRound
  refine t6_frameAt _ _ _ (fun f => ?_)
  unfold w6_foldRound_b11
  refine lp_up 4 (fun z => z.1) (fun _ z => L24 z.2) (by decide) ?_ (Nat.zero_le _) (rfl : (0 : Int32) = nI 0) (by exact hL)
  rintro K ⟨y, S1⟩ k hk hcc hL1 hK
  try dsimp only at hcc hL1 hK
  subst hcc
  unfold w6_foldRound_F11 w6_foldRound_d11
  try dsimp only
  refine ⟨fun _ => h _ _ hL1, fun c => t0_beside _ _ _ (fun r => ?_)⟩
  have hlt := nI_go (N := 4) (by decide) hk c
  have k93 : ∀ S2, L24 S2 → w6_foldRound_b93 (fun y0 y1 => K (y0, y1)) x q f (nI k) S2 V Q := by
    intro S2 hL2
    unfold w6_foldRound_b93
    rintro _ rfl
    exact hK (_, _) hlt (nI_1 k) hL2
  have k84 : ∀ t S2, L24 S2 → w6_foldRound_b84 (fun y0 y1 => K (y0, y1)) x q f (nI k) t S2 V Q := by
    intro t S2 hL2
    unfold w6_foldRound_b84
    exact ⟨fun _ => k93 _ hL2, fun _ => h _ _ hL2⟩
  have kk : w1_leadsTo f (nI k) V (fun r5 => w0_has (fJ S1 4) r (fun r7 => ((r7 = 0 → w6_put r r5 S1 (fun r9 S10 => w6_foldRound_b84 (fun y0 y1 => K (y0, y1)) x q f (nI k) r9 S10 V Q)) ∧ (¬ r7 = 0 → w6_frameAt r S1 (fun r11 => ((¬ r11 = r5 → w6_foldRound_b84 (fun y0 y1 => K (y0, y1)) x q f (nI k) (0 : Int32) S1 V Q) ∧ (r11 = r5 → w6_foldRound_b84 (fun y0 y1 => K (y0, y1)) x q f (nI k) (1 : Int32) S1 V Q))))))) := by
    refine t1_leadsTo _ _ _ hB _ (fun r5 => s0_has _ _ _ (fun _ => ⟨fun _ => t6_put _ _ _ hL1 _ (fun _ _ hL2 => k84 _ _ hL2), fun _ => t6_frameAt _ _ _ (fun _ => ⟨fun _ => k84 _ _ hL1, fun _ => k84 _ _ hL1⟩)⟩) ⟨fun _ => t6_put _ _ _ hL1 _ (fun _ _ hL2 => k84 _ _ hL2), fun _ => t6_frameAt _ _ _ (fun _ => ⟨fun _ => k84 _ _ hL1, fun _ => k84 _ _ hL1⟩)⟩)
  exact s0_has _ _ _ (fun _ => ⟨fun _ => k93 _ hL1, fun _ => kk⟩) ⟨fun _ => k93 _ hL1, fun _ => kk⟩
theorem t6_fold (x : Int64) (f : Int32) (S V : MS) (hB : Bx V) (Q : Int32 → MS → Prop) (h : ∀ r S', L24 S' → Q r S') : w6_fold x f S V Q := by
  unfold w6_fold
  refine t6_clear _ _ (fun S1 hL1 => t0_least _ _ (fun m => t6_put _ _ _ hL1 _ (fun r S2 hL2 => ⟨fun _ => ?_, fun _ => h _ _ hL2⟩)))
  unfold w6_fold_b22
  refine lp_up 24 (fun z => z.1) (fun _ z => L24 z.2) (by decide) ?_ (Nat.zero_le _) (rfl : (0 : Int32) = nI 0) (by exact hL2)
  rintro K ⟨y, S3⟩ k hk hcc hL3 hK
  try dsimp only at hcc hL3 hK
  subst hcc
  unfold w6_fold_F22 w6_fold_d22 w6_fold_b62
  try dsimp only
  refine ⟨fun _ => h _ _ hL3, fun c => ⟨fun _ => h _ _ hL3, fun _ => ?_⟩⟩
  have hlt := nI_go (N := 24) (by decide) hk c
  refine ⟨vp_in_nI hlt (by decide), t6_foldRound _ _ _ _ hL3 hB _ (fun r S4 hL4 => ⟨fun _ => ?_, fun _ => h _ _ hL4⟩)⟩
  rintro _ rfl
  exact hK (_, _) hlt (nI_1 k) hL4
theorem t6_isWhole (x : Int64) (f : Int32) (S V : MS) (hB : Bx V) (Q : Int32 → MS → Prop) (h : ∀ r S', Q r S') : w6_isWhole x f S V Q := by
  unfold w6_isWhole w6_isWhole_b26 w6_isWhole_b27
  exact t13_bitCount _ _ (fun r => ⟨fun _ => ⟨rfl, h _ _⟩, fun _ => t6_fold _ _ _ _ hB _ (fun r S' _ => ⟨fun _ => ⟨rfl, h _ _⟩, fun _ => ⟨rfl, h _ _⟩⟩)⟩)
theorem t6_layRound (q : Int32) (S V R : MS) (hL : L24 S) (hB : Bx V) (hR : RowI R) (Q : Int32 → MS → Prop) (h : ∀ r S', L24 S' → Q r S') : w6_layRound q S V R Q := by
  have r2 := hR.2
  unfold w6_layRound
  refine t6_frameAt _ _ _ (fun f => ?_)
  rintro y3 -
  have k34 : ∀ t, w6_layRound_b34 q f t S V R Q := by
    intro t
    unfold w6_layRound_b34 w6_layRound_b39
    refine lp_up 4 (fun z => z.1) (fun _ z => L24 z.2) (by decide) ?_ (Nat.zero_le _) (rfl : (0 : Int32) = nI 0) (by exact hL)
    rintro K ⟨y, S1⟩ k hk hcc hL1 hK
    try dsimp only at hcc hL1 hK
    subst hcc
    unfold w6_layRound_F39 w6_layRound_d39
    try dsimp only
    refine ⟨fun _ => h _ _ hL1, fun c => t1_leadsTo _ _ _ hB _ (fun r => ?_)⟩
    have hlt := nI_go (N := 4) (by decide) hk c
    have k96 : ∀ S2, L24 S2 → w6_layRound_b96 (fun y0 y1 => K (y0, y1)) q f t (nI k) S2 V R Q := by
      intro S2 hL2
      unfold w6_layRound_b96
      rintro _ rfl
      exact hK (_, _) hlt (nI_1 k) hL2
    exact ⟨fun _ => k96 _ hL1, fun _ => t6_covers _ _ _ (fun _ => ⟨fun _ => t0_beside _ _ _ (fun _ => t6_put _ _ _ hL1 _ (fun _ _ hL2 => ⟨fun _ => k96 _ hL2, fun _ => h _ _ hL2⟩)), fun _ => k96 _ hL1⟩)⟩
  exact s5_hasPlace _ _ _ (fun hx => ⟨fun _ => k34 _, fun _ => ⟨pi_in.mpr (by omega), k34 _⟩⟩) (fun _ => ⟨fun _ => k34 _, fun c => absurd rfl c⟩)
theorem t6_layOutFrom (f q : Int32) (S V R : MS) (hB : Bx V) (hR : RowI R) (Q : Int32 → MS → Prop) (h : ∀ r S', Q r S') : w6_layOutFrom f q S V R Q := by
  have k59 : ∀ S1, w6_layOutFrom_b59 S1 V R Q := by
    intro S1
    unfold w6_layOutFrom_b59 w6_layOutFrom_b75
    exact ⟨fun _ => ⟨rfl, h _ _⟩, fun _ => ⟨rfl, h _ _⟩⟩
  unfold w6_layOutFrom
  refine t6_clear _ _ (fun S1 hL1 => t6_put _ _ _ hL1 _ (fun r S2 hL2 => ⟨fun _ => ?_, fun _ => h _ _⟩))
  unfold w6_layOutFrom_b18
  refine lp_up 24 (fun z => z.1) (fun _ z => L24 z.2) (by decide) ?_ (Nat.zero_le _) (rfl : (0 : Int32) = nI 0) (by exact hL2)
  rintro K ⟨y, S3⟩ k hk hcc hL3 hK
  try dsimp only at hcc hL3 hK
  subst hcc
  unfold w6_layOutFrom_F18 w6_layOutFrom_d18
  try dsimp only
  refine ⟨fun _ => k59 _, fun c => ⟨fun _ => k59 _, fun _ => ?_⟩⟩
  have hlt := nI_go (N := 24) (by decide) hk c
  refine ⟨vp_in_nI hlt (by decide), t6_layRound _ _ _ _ hL3 hB hR _ (fun r S4 hL4 => ⟨fun _ => ?_, fun _ => h _ _⟩)⟩
  rintro _ rfl
  exact hK (_, _) hlt (nI_1 k) hL4
theorem t7_lengthTo {k : Nat} (hk : k < 6) (p : Int32) (V : MS) (hB : Bx V) (f : Nat → Int32) (Q : Int32 → Prop) (h : ∀ r, Q r) : w7_lengthTo p (nI k) V f Q := by
  unfold w7_lengthTo w7_lengthTo_b22
  rw [show (3 : Int32) = nI 3 from rfl, pk_mul]
  rintro _ rfl
  refine ⟨fun _ => h _, fun _ => ⟨fun c => ?_, fun _ => h _⟩⟩
  unfold w7_lengthTo_b28
  refine lp_up 3 (fun z => z.2) (fun _ _ => True) (by decide) ?_ (Nat.zero_le _) (rfl : (0 : Int32) = nI 0) trivial
  rintro K ⟨a, y⟩ j hj hcc - hK
  try dsimp only at hcc hK
  subst hcc
  unfold w7_lengthTo_F28 w7_lengthTo_d28
  try dsimp only
  refine ⟨fun _ => h _, fun c2 => ?_⟩
  have hlt := nI_go (N := 3) (by decide) hj c2
  rw [nI_add]
  refine ⟨vp_in_nI (by omega) (by decide), t1_middleOf _ _ _ hB _ (fun r => ?_)⟩
  rintro _ rfl _ rfl _ rfl
  exact hK (_, _) hlt (nI_1 j) trivial
theorem t7_unfold {k s t : Nat} (hk : k < 6) (hs : s < 6) (ht : t < 6) (V : MS) (f : Nat → Int32) (Q : (Nat → Int32) → Prop) (h : ∀ g, Q g) : w7_unfold (nI s) (nI t) (nI k) V f Q := by
  unfold w7_unfold w7_unfold_b26
  rw [show (3 : Int32) = nI 3 from rfl, pk_mul]
  rintro _ rfl _ rfl
  rw [nI_add]
  refine ⟨fun _ => h _, fun _ => ⟨fun c => ?_, fun _ => h _⟩⟩
  rw [nI_add] at c
  have hc := (nI_leI (a := 3 * k + 3 + 3) (b := 18) (by omega) (by decide)).mp c
  rw [nI_clamp (by omega), nI_clamp (by omega), nI_clamp (by omega), sh_1 (by omega), sh_1 (by omega), nI_add, nI_add, nI_add]
  refine ⟨⟨nI_pos (by omega), nI_pos (by omega), by decide, by omega, by omega⟩, ?_⟩
  rintro _ rfl
  refine t1_signOf _ _ (fun r1 => t1_endAt _ _ _ (fun r2 => ⟨vp_in_nI (by omega) (by decide), ?_⟩))
  rintro _ rfl
  refine t1_endAt _ _ _ (fun r3 => ⟨vp_in_nI (by omega) (by decide), ?_⟩)
  rintro _ rfl
  refine t1_endAt _ _ _ (fun r4 => t1_signOf _ _ (fun r5 => ⟨vp_in_nI (by omega) (by decide), ?_⟩))
  rintro _ rfl
  exact h _
theorem t7_shortestFrom (p : Int32) (V : MS) (hB : Bx V) : ∀ (n k : Nat), k < 6 → 6 ≤ n + k → ∀ (s : Nat), s < 6 → ∀ (u : Int32) (f : Nat → Int32) (Q : Int32 → (Nat → Int32) → Prop), (∀ r g, Q r g) → w7_shortestFrom n p (nI s) u (nI k) V f Q := by
  intro n
  induction n with
  | zero => intro k hk hn; omega
  | succ n ih =>
    intro k hk hn s hs u f Q h
    show w7_shortestFrom_r (w7_shortestFrom n) p (nI s) u (nI k) V f Q
    unfold w7_shortestFrom_r
    have kk : ∀ r1 : Int32, ((¬ nI s = r1 → (((nI k + (1 : Int32)) < (6 : Int32) → w7_shortestFrom_b37 (w7_shortestFrom n) p (nI s) u (nI k) (1073741824 : Int32) (0 : Int32) V f Q) ∧ (¬ (nI k + (1 : Int32)) < (6 : Int32) → Q (1073741824 : Int32) f))) ∧ (nI s = r1 → w7_lengthTo p (nI k) V f (fun r5 => Q r5 f))) := by
      intro r1
      refine ⟨fun _ => ⟨fun c => ?_, fun _ => h _ _⟩, fun _ => t7_lengthTo hk _ _ hB _ _ (fun _ => h _ _)⟩
      rw [nI_1] at c
      have hk5 := (nI_ltI (a := k + 1) (b := 6) (by omega) (by decide)).mp c
      unfold w7_shortestFrom_b37
      refine lp_up 6 (fun z => z.2.1) (fun _ _ => True) (by decide) ?_ (Nat.zero_le _) (rfl : (0 : Int32) = nI 0) trivial
      rintro K ⟨b, y, g⟩ t ht hcc - hK
      try dsimp only at hcc hK
      subst hcc
      unfold w7_shortestFrom_F37 w7_shortestFrom_d37
      try dsimp only
      refine ⟨fun _ => h _ _, fun c2 => ?_⟩
      have hlt := nI_go (N := 6) (by decide) ht c2
      have k112 : ∀ b2 g2, w7_shortestFrom_b112 (w7_shortestFrom n) (fun y0 y1 y2 => K (y0, y1, y2)) p (nI s) u (nI k) b2 (nI t) V g2 Q := by
        intro b2 g2
        unfold w7_shortestFrom_b112
        rintro _ rfl
        exact hK (_, _, _) hlt (nI_1 t) trivial
      have k59 : ∀ t0, w7_shortestFrom_b59 (w7_shortestFrom n) (fun y0 y1 y2 => K (y0, y1, y2)) p (nI s) u (nI k) b (nI t) t0 V g Q := by
        intro t0
        unfold w7_shortestFrom_b59
        refine ⟨fun _ => k112 _ _, fun _ => ⟨fun _ => k112 _ _, fun _ => t7_unfold hk hs hlt _ _ _ (fun g2 => ?_)⟩⟩
        rw [nI_1]
        refine ih (k + 1) hk5 (by omega) t hlt _ _ _ (fun r g3 => ?_)
        rintro _ rfl
        exact k112 _ _
      exact ⟨fun _ => k59 _, fun _ => k59 _⟩
    exact s1_sideOf _ _ hB _ (fun _ => kk _) (fun _ _ => kk _)
theorem t7_shortest (p q : Int32) (S V : MS) (hB : Bx V) (Q : Int32 → MS → Prop) (h : ∀ r S', Q r S') : w7_shortest p q S V Q := by
  unfold w7_shortest
  refine s1_sideOf _ _ hB _ (fun _ => ⟨fun c => absurd c (by decide), fun _ => h _ _⟩) (fun s hs => ⟨fun _ => ?_, fun _ => h _ _⟩)
  unfold w7_shortest_b17
  refine lp_up 3 (fun z => z.1) (fun _ _ => True) (by decide) ?_ (Nat.zero_le _) (rfl : (0 : Int32) = nI 0) trivial
  rintro K ⟨y, S1⟩ k hk hcc - hK
  try dsimp only at hcc hK
  subst hcc
  unfold w7_shortest_F17 w7_shortest_d17
  try dsimp only
  refine ⟨fun _ => t7_shortestFrom p V hB 7 0 (by decide) (by decide) s hs _ _ _ (fun r g => ?_), fun c => t1_middleOf _ _ _ hB _ (fun r => ?_)⟩
  · rintro _ rfl
    exact h _ _
  · have hlt := nI_go (N := 3) (by decide) hk c
    refine ⟨vp_in_nI (by omega) (by decide), ?_⟩
    rintro _ rfl _ rfl
    exact hK (_, _) hlt (nI_1 k) trivial

/-! ===== pure: the board of the class ===== -/
theorem sh_1 {n : Nat} (h : n < 2 ^ 31) : nI n >>> ((1 : Int32) &&& 31) = nI (n / 2) := pk_shrN h _ 1 (by decide)
theorem sh_2 {n : Nat} (h : n < 2 ^ 31) : nI n >>> ((2 : Int32) &&& 31) = nI (n / 4) := pk_shrN h _ 2 (by decide)
theorem sh_3 {n : Nat} (h : n < 2 ^ 31) : nI n >>> ((3 : Int32) &&& 31) = nI (n / 8) := pk_shrN h _ 3 (by decide)
theorem and_3 (x : Int32) : ∃ j, j < 4 ∧ x &&& (3 : Int32) = nI j := pk_andE x 2 (by decide)
theorem s0_has (x : Int64) (k : Int32) (Q : Int32 → Prop) (h1 : vp_in k 64 → Q 1) (h0 : Q 0) : w0_has x k Q := by
  have e0 : (0 : Int32).toInt = 0 := rfl
  have e64 : (64 : Int32).toInt = 64 := rfl
  unfold w0_has w0_has_b24 w0_has_b25
  refine ⟨fun _ => ⟨rfl, h0⟩, fun c1 => ⟨fun _ => ⟨rfl, h0⟩, fun c2 => ⟨fun _ => ⟨rfl, h0⟩, fun _ => ⟨rfl, h1 ?_⟩⟩⟩⟩
  rw [pi_lt] at c1
  rw [pi_le] at c2
  exact pi_in.mpr (by omega)
theorem t13_bitCount (x : Int64) (Q : Int32 → Prop) (h : ∀ r, Q r) : w13_bitCount_95d88 x Q := by
  unfold w13_bitCount_95d88
  intro _ _ _ _ _ _ _ _ _ _ _ _
  exact h _
theorem t0_least (x : Int64) (Q : Int32 → Prop) (h : ∀ r, Q r) : w0_least x Q := by
  unfold w0_least
  exact t13_bitCount _ _ h
theorem s8_isSquare (x : Int32) (Q : Int32 → Prop) (h1 : vp_in x 64 → Q 1) (h0 : ¬ vp_in x 64 → Q 0) : w8_isSquare x Q := by
  have e0 : (0 : Int32).toInt = 0 := rfl
  have e64 : (64 : Int32).toInt = 64 := rfl
  unfold w8_isSquare w8_isSquare_b14 w8_isSquare_b15
  refine ⟨fun c1 => ⟨rfl, h0 (fun q => ?_)⟩, fun c1 => ⟨fun c2 => ⟨rfl, h0 (fun q => ?_)⟩, fun c2 => ⟨rfl, h1 ?_⟩⟩⟩
  · rw [pi_lt] at c1; have := pi_in.mp q; omega
  · rw [pi_le] at c2; have := pi_in.mp q; omega
  · rw [pi_lt] at c1; rw [pi_le] at c2; exact pi_in.mpr (by omega)
theorem t8_within (v a b : Int32) (Q : Int32 → Prop) (h1 : Q 1) (h0 : Q 0) : w8_within v a b Q := s8_within v a b Q (fun _ => h1) (fun _ => h0)
theorem t0_beside (q w : Int32) (Q : Int32 → Prop) (h : ∀ r, Q r) : w0_beside q w Q := by
  have key : ∀ a b, w0_beside_b69 a b Q := by
    intro a b
    unfold w0_beside_b69 w0_beside_b98 w0_beside_b100
    exact t8_within _ _ _ _ ⟨fun _ => h _, fun _ => t8_within _ _ _ _ ⟨fun _ => h _, fun _ => h _⟩ ⟨fun _ => h _, fun _ => h _⟩⟩ ⟨fun _ => h _, fun _ => t8_within _ _ _ _ ⟨fun _ => h _, fun _ => h _⟩ ⟨fun _ => h _, fun _ => h _⟩⟩
  unfold w0_beside
  have k2 : ∀ r1 : Int32, ((¬ r1 = 0 → ∀ y3 : Int32, y3 = (q &&& (7 : Int32)) → ∀ y4 : Int32, y4 = (q >>> ((3 : Int32) &&& 31)) → ((w = 0 → ∀ y6 : Int32, y6 = y3 + 1 → w0_beside_b69 y6 y4 Q) ∧ (w = 1 → ∀ y7 : Int32, y7 = y4 + 1 → w0_beside_b69 y3 y7 Q) ∧ (w = 2 → ∀ y8 : Int32, y8 = y3 + (-1) → w0_beside_b69 y8 y4 Q) ∧ (¬ w = 0 → ¬ w = 1 → ¬ w = 2 → ∀ y9 : Int32, y9 = y4 + (-1) → w0_beside_b69 y3 y9 Q))) ∧ (r1 = 0 → Q (-9 : Int32))) := fun r1 => ⟨fun _ _ _ _ _ => ⟨fun _ _ _ => key _ _, fun _ _ _ => key _ _, fun _ _ _ => key _ _, fun _ _ _ _ _ => key _ _⟩, fun _ => h _⟩
  exact s8_isSquare _ _ (fun _ => k2 1) (fun _ => k2 0)
theorem t0_moved (x : Int64) (w : Int32) (Q : Int64 → Prop) (h : ∀ r, Q r) : w0_moved x w Q := by
  unfold w0_moved
  exact ⟨fun _ => h _, fun _ => h _, fun _ => h _, fun _ _ _ => h _⟩
theorem t0_hangs (x : Int64) (Q : Int32 → Prop) (h : ∀ r, Q r) : w0_hangsTogether x Q := by
  unfold w0_hangsTogether
  rintro y -
  unfold w0_hangsTogether_b8
  refine lp_up 24 (fun z => z.2) (fun _ _ => True) (by decide) ?_ (Nat.zero_le _) (rfl : (0 : Int32) = nI 0) trivial
  rintro K ⟨a, y⟩ k hk hcc - hK
  try dsimp only at hcc hK
  subst hcc
  unfold w0_hangsTogether_F8 w0_hangsTogether_d8 w0_hangsTogether_b66
  try dsimp only
  refine ⟨fun _ => ⟨fun _ => ⟨rfl, h _⟩, fun _ => ⟨rfl, h _⟩⟩, fun c => ?_⟩
  have hlt := nI_go (N := 24) (by decide) hk c
  unfold w0_hangsTogether_b21
  refine lp_up 4 (fun z => z.2) (fun _ _ => True) (by decide) ?_ (Nat.zero_le _) (rfl : (0 : Int32) = nI 0) trivial
  rintro K2 ⟨a2, y⟩ k2 hk2 hcc - hK2
  try dsimp only at hcc hK2
  subst hcc
  unfold w0_hangsTogether_F21 w0_hangsTogether_d21
  try dsimp only
  refine ⟨fun _ => ?_, fun c2 => t0_moved _ _ _ (fun r => ?_)⟩
  · rintro _ rfl _ rfl
    exact hK (_, _) hlt (nI_1 k) trivial
  · rintro _ rfl _ rfl
    exact hK2 (_, _) (nI_go (N := 4) (by decide) hk2 c2) (nI_1 k2) trivial
theorem t0_openEdges (x : Int64) (Q : Int32 → Prop) (h : ∀ r, Q r) : w0_openEdges x Q := by
  unfold w0_openEdges w0_openEdges_b4
  refine lp_up 4 (fun z => z.2) (fun _ _ => True) (by decide) ?_ (Nat.zero_le _) (rfl : (0 : Int32) = nI 0) trivial
  rintro K ⟨a, y⟩ k hk hcc - hK
  try dsimp only at hcc hK
  subst hcc
  unfold w0_openEdges_F4 w0_openEdges_d4
  try dsimp only
  refine ⟨fun _ => h _, fun c => t0_moved _ _ _ (fun r => t13_bitCount _ _ (fun r2 => ?_))⟩
  rintro _ rfl _ rfl
  exact hK (_, _) (nI_go (N := 4) (by decide) hk c) (nI_1 k) trivial
theorem t0_isLying (x : Int64) (Q : Int32 → Prop) (h : ∀ r, Q r) : w0_isLying x Q := by
  unfold w0_isLying w0_isLying_b31
  refine t0_least _ _ (fun r => ?_)
  rintro _ rfl
  exact ⟨fun _ => ⟨rfl, h _⟩, fun _ => ⟨rfl, h _⟩⟩
theorem t0_isStanding (x : Int64) (Q : Int32 → Prop) (h : ∀ r, Q r) : w0_isStanding x Q := by
  unfold w0_isStanding w0_isStanding_b29
  refine t0_least _ _ (fun r => ?_)
  rintro _ rfl
  exact ⟨fun _ => ⟨rfl, h _⟩, fun _ => ⟨rfl, h _⟩⟩
theorem t0_putDown (x : Int64) (Q : Int64 → Prop) (h : ∀ r, Q r) : w0_putDown x Q := by
  unfold w0_putDown w0_putDown_b5
  refine lp_up 8 (fun z => z.2) (fun _ _ => True) (by decide) ?_ (by decide) (rfl : (1 : Int32) = nI 1) trivial
  rintro K ⟨a, y⟩ k hk hcc - hK
  try dsimp only at hcc hK
  subst hcc
  have k33 : w0_putDown_b33 a Q := by
    unfold w0_putDown_b33 w0_putDown_b36
    refine lp_up 8 (fun z => z.2) (fun _ _ => True) (by decide) ?_ (by decide) (rfl : (1 : Int32) = nI 1) trivial
    rintro K2 ⟨a2, y⟩ k2 hk2 hcc - hK2
    try dsimp only at hcc hK2
    subst hcc
    unfold w0_putDown_F36 w0_putDown_d36 w0_putDown_b63
    try dsimp only
    refine ⟨fun _ => h _, fun c => ⟨fun _ => h _, fun _ => ?_⟩⟩
    rintro _ rfl _ rfl
    exact hK2 (_, _) (nI_go (N := 8) (by decide) hk2 c) (nI_1 k2) trivial
  unfold w0_putDown_F5 w0_putDown_d5
  try dsimp only
  refine ⟨fun _ => k33, fun c => ⟨fun _ => k33, fun _ => ?_⟩⟩
  rintro _ rfl _ rfl
  exact hK (_, _) (nI_go (N := 8) (by decide) hk c) (nI_1 k) trivial
theorem t0_turned (x : Int64) (o : Int32) (Q : Int64 → Prop) (h : ∀ r, Q r) : w0_turned x o Q := by
  unfold w0_turned w0_turned_b5
  refine lp_up 64 (fun z => z.2) (fun _ _ => True) (by decide) ?_ (Nat.zero_le _) (rfl : (0 : Int32) = nI 0) trivial
  rintro K ⟨a, y⟩ k hk hcc - hK
  try dsimp only at hcc hK
  subst hcc
  unfold w0_turned_F5 w0_turned_d5
  try dsimp only
  refine ⟨fun _ => t0_putDown _ _ h, fun c => ?_⟩
  have hlt := nI_go (N := 64) (by decide) hk c
  have k72 : ∀ v, w0_turned_b72 (fun y0 y1 => K (y0, y1)) x o v (nI k) Q := by
    intro v
    unfold w0_turned_b72
    rintro _ rfl
    exact hK (_, _) hlt (nI_1 k) trivial
  have k63 : ∀ t, w0_turned_b63 (fun y0 y1 => K (y0, y1)) x o a (nI k) t Q := by
    intro t
    unfold w0_turned_b63
    rintro _ rfl
    exact k72 _
  refine s0_has _ _ _ (fun _ => ⟨fun _ => k72 _, fun _ => ?_⟩) ⟨fun _ => k72 _, fun _ => ?_⟩
  · intro _ _ _ _
    exact ⟨fun _ => k63 _, fun _ => k63 _⟩
  · intro _ _ _ _
    exact ⟨fun _ => k63 _, fun _ => k63 _⟩
theorem t0_areAlike (x y : Int64) (Q : Int32 → Prop) (h : ∀ r, Q r) : w0_areAlike x y Q := by
  unfold w0_areAlike
  refine t0_putDown _ _ (fun g => t0_putDown _ _ (fun t => ?_))
  unfold w0_areAlike_b15
  refine lp_up 8 (fun z => z.2) (fun _ _ => True) (by decide) ?_ (Nat.zero_le _) (rfl : (0 : Int32) = nI 0) trivial
  rintro K ⟨a, y⟩ k hk hcc - hK
  try dsimp only at hcc hK
  subst hcc
  unfold w0_areAlike_F15 w0_areAlike_d15 w0_areAlike_b45
  try dsimp only
  refine ⟨fun _ => h _, fun c => ⟨fun _ => ⟨fun _ => t0_turned _ _ _ (fun r => ?_), fun _ => t0_turned _ _ _ (fun r => ?_)⟩, fun _ => h _⟩⟩
  · rintro _ rfl
    exact hK (_, _) (nI_go (N := 8) (by decide) hk c) (nI_1 k) trivial
  · rintro _ rfl
    exact hK (_, _) (nI_go (N := 8) (by decide) hk c) (nI_1 k) trivial

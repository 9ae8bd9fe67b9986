/-! ===== pure: the calls of the class ===== -/
def Inv8 (X : Nat → MS) : Prop := (∀ r, r < 5 → RowI (X (10 + r))) ∧ (∀ b, b < 4 → Bx (X (6 + b))) ∧ F50 (X 18) 3 ∧ F50 (X 19) 7 ∧ F50 (X 19) 8
def G8 (X X' : Nat → MS) : Prop := Inv8 X' ∧ ∀ k, 6 ≤ k → k < 15 → X' k = X k
theorem g8_rf {X : Nat → MS} (h : Inv8 X) : G8 X X := ⟨h, fun _ _ _ => rfl⟩
theorem g8_tr {X X1 X2 : Nat → MS} (h1 : G8 X X1) (h2 : G8 X1 X2) : G8 X X2 := ⟨h2.1, fun k a b => (h2.2 k a b).trans (h1.2 k a b)⟩
theorem g8_free {X : Nat → MS} {k : Nat} (h : Inv8 X) (S : MS) (hk : k < 6 ∨ k = 15 ∨ k = 16 ∨ k = 17) : G8 X (va_up X k S) := by
  have ne : ∀ j, 6 ≤ j → j < 15 ∨ j = 18 ∨ j = 19 → va_up X k S j = X j := fun j h1 h2 => va_up_ne _ _ (by omega)
  refine ⟨⟨fun r hr => ?_, fun b hb => ?_, ?_, ?_, ?_⟩, fun j h1 h2 => ne j h1 (Or.inl h2)⟩
  · rw [ne _ (by omega) (by omega)]; exact h.1 r hr
  · rw [ne _ (by omega) (by omega)]; exact h.2.1 b hb
  · rw [ne _ (by omega) (by omega)]; exact h.2.2.1
  · rw [ne _ (by omega) (by omega)]; exact h.2.2.2.1
  · rw [ne _ (by omega) (by omega)]; exact h.2.2.2.2
theorem inv8_box {X : Nat → MS} {b : Nat} (h : Inv8 X) (S : MS) (hb : b < 4) (hS : Bx S) : Inv8 (va_up X (6 + b) S) := by
  have ne : ∀ j, j ≠ 6 + b → va_up X (6 + b) S j = X j := fun j h1 => va_up_ne _ _ h1
  refine ⟨fun r hr => ?_, fun c hc => ?_, ?_, ?_, ?_⟩
  · rw [ne _ (by omega)]; exact h.1 r hr
  · by_cases q : c = b
    · rw [q, va_up_self]; exact hS
    · rw [ne _ (by omega)]; exact h.2.1 c hc
  · rw [ne _ (by omega)]; exact h.2.2.1
  · rw [ne _ (by omega)]; exact h.2.2.2.1
  · rw [ne _ (by omega)]; exact h.2.2.2.2
theorem g8_rim {X : Nat → MS} (h : Inv8 X) (S : MS) (hS : F50 S 3) : G8 X (va_up X 18 S) := by
  have ne : ∀ j, j ≠ 18 → va_up X 18 S j = X j := fun j h1 => va_up_ne _ _ h1
  refine ⟨⟨fun r hr => ?_, fun c hc => ?_, ?_, ?_, ?_⟩, fun j h1 h2 => ne j (by omega)⟩
  · rw [ne _ (by omega)]; exact h.1 r hr
  · rw [ne _ (by omega)]; exact h.2.1 c hc
  · rw [va_up_self]; exact hS
  · rw [ne _ (by omega)]; exact h.2.2.2.1
  · rw [ne _ (by omega)]; exact h.2.2.2.2
theorem g8_gl {X : Nat → MS} (h : Inv8 X) (S : MS) (h7 : F50 S 7) (h8 : F50 S 8) : G8 X (va_up X 19 S) := by
  have ne : ∀ j, j ≠ 19 → va_up X 19 S j = X j := fun j h1 => va_up_ne _ _ h1
  refine ⟨⟨fun r hr => ?_, fun c hc => ?_, ?_, ?_, ?_⟩, fun j h1 h2 => ne j (by omega)⟩
  · rw [ne _ (by omega)]; exact h.1 r hr
  · rw [ne _ (by omega)]; exact h.2.1 c hc
  · rw [ne _ (by omega)]; exact h.2.2.1
  · rw [va_up_self]; exact h7
  · rw [va_up_self]; exact h8
theorem s8_isFigure (f : Int32) (Q : Int32 → Prop) (h1 : vp_in f 6 → Q 1) (h0 : ¬ vp_in f 6 → Q 0) : w8_isFigure f Q := by
  unfold w8_isFigure
  have e0 : (0 : Int32).toInt = 0 := rfl
  have e3 : (5 : Int32).toInt = 5 := rfl
  refine s8_within _ _ _ _ (fun h => ⟨rfl, h1 (pi_in.mpr (by omega))⟩) (fun h => ⟨rfl, h0 (fun q => h ?_)⟩)
  have := pi_in.mp q
  omega
theorem s8_isBox (f : Int32) (Q : Int32 → Prop) (h1 : vp_in f 4 → Q 1) (h0 : ¬ vp_in f 4 → Q 0) : w8_isBox f Q := by
  unfold w8_isBox
  have e0 : (0 : Int32).toInt = 0 := rfl
  have e3 : (3 : Int32).toInt = 3 := rfl
  refine s8_within _ _ _ _ (fun h => ⟨rfl, h1 (pi_in.mpr (by omega))⟩) (fun h => ⟨rfl, h0 (fun q => h ?_)⟩)
  have := pi_in.mp q
  omega
theorem s8_isLength (x : Int32) (Q : Int32 → Prop) (h1 : (1 ≤ x.toInt ∧ x.toInt ≤ 5) → Q 1) (h0 : ¬ (1 ≤ x.toInt ∧ x.toInt ≤ 5) → Q 0) : w8_isLength x Q := by
  unfold w8_isLength
  have e0 : (1 : Int32).toInt = 1 := rfl
  have e3 : (5 : Int32).toInt = 5 := rfl
  exact s8_within _ _ _ _ (fun h => ⟨rfl, h1 (by omega)⟩) (fun h => ⟨rfl, h0 (by omega)⟩)
theorem t8_isQuarter (x : Int32) (Q : Int32 → Prop) (h1 : Q 1) (h0 : Q 0) : w8_isQuarter x Q := by
  unfold w8_isQuarter
  exact t8_within _ _ _ _ ⟨rfl, h1⟩ ⟨rfl, h0⟩
theorem t8_refuse (w : Int32) (Z : MS) (X : Nat → MS) (Q : Int32 → MS → Prop) (h : ∀ r Z', Q r Z') : w8_refuse w Z X Q := s8_refuse w Z X Q (fun Z' _ => h _ Z')
theorem t8_figure (f : Int32) (x : Int64) (Z : MS) (X : Nat → MS) (Q : Int32 → (Nat → MS) → Prop) (hI : Inv8 X) (h : ∀ r X', G8 X X' → Q r X') : w8_figure f x Z X Q := by
  have hr := g8_rf hI
  unfold w8_figure w8_figure_b24
  refine t13_bitCount _ _ (fun r => s8_isFigure _ _ (fun hf => ⟨fun c => absurd c (by decide), fun _ => t8_within _ _ _ _ ⟨fun _ => t0_hangs _ _ (fun r => ⟨fun _ => ?_, fun _ => h _ _ hr⟩), fun c => absurd c (by decide)⟩ ⟨fun c => absurd rfl c, fun _ => h _ _ hr⟩⟩) (fun _ => ⟨fun _ => h _ _ hr, fun c => absurd rfl c⟩))
  obtain ⟨k, hk, rfl⟩ := vp_in_of hf (by decide)
  rw [nI_clamp (by omega)]
  refine ⟨hf, ⟨by omega, hk⟩, t2_putPlain _ _ _ (fun S => ?_)⟩
  rintro _ rfl
  exact h _ _ (g8_free hI _ (Or.inl hk))
theorem t8_drop (f : Int32) (Z : MS) (X : Nat → MS) (Q : Int32 → MS → (Nat → MS) → Prop) (hI : Inv8 X) (h : ∀ r Z' X', G8 X X' → Q r Z' X') : w8_drop f Z X Q := by
  have hr := g8_rf hI
  unfold w8_drop
  refine s8_isFigure _ _ (fun hf => ⟨fun _ => ?_, fun c => absurd c (by decide)⟩) (fun _ => ⟨fun c => absurd rfl c, fun _ => h _ _ _ hr⟩)
  obtain ⟨k, hk, rfl⟩ := vp_in_of hf (by decide)
  rw [nI_clamp (by omega)]
  refine ⟨hf, ⟨by omega, hk⟩, s2_isThere _ _ (fun _ => ⟨fun _ => t2_takeAway _ _ (fun S => ?_), fun c => absurd c (by decide)⟩) (fun _ => ⟨fun c => absurd rfl c, fun _ => t8_refuse _ _ _ _ (fun _ _ => h _ _ _ hr)⟩)⟩
  rintro _ rfl
  exact h _ _ _ (g8_free hI _ (Or.inl hk))
theorem s8_box (x a b c : Int32) (Z : MS) (X : Nat → MS) (Q : Int32 → (Nat → MS) → Prop) (hb : ¬ (vp_in x 4 ∧ boxOK a b c) → Q (-1) X) (hk : ∀ k d S, k < 4 → x = nI k → boxOK a b c → a = nI (d 0) → b = nI (d 1) → c = nI (d 2) → (∀ j, j < 3 → 1 ≤ d j ∧ d j ≤ 5) → tot d ≤ 24 → BoxC S d → Q (nI (tot d)) (va_up X (6 + k) S)) : w8_box x a b c Z X Q := by
  have e24 : (24 : Int32).toInt = 24 := rfl
  unfold w8_box w8_box_b29
  refine s8_isBox _ _ (fun hx => ⟨fun c => absurd c (by decide), fun _ => s8_isLength _ _ (fun ha => ⟨fun c => absurd c (by decide), fun _ => s8_isLength _ _ (fun hb2 => ⟨fun c => absurd c (by decide), fun _ => s8_isLength _ _ (fun hc => ⟨fun _ => ⟨fun ct => ?_, fun ct => hb (fun q => ct ?_)⟩, fun c => absurd c (by decide)⟩) (fun q => ⟨fun c => absurd rfl c, fun _ => hb (fun w => q w.2.2.2.1)⟩)⟩) (fun q => ⟨fun _ => hb (fun w => q w.2.2.1), fun c => absurd rfl c⟩)⟩) (fun q => ⟨fun _ => hb (fun w => q w.2.1), fun c => absurd rfl c⟩)⟩) (fun q => ⟨fun _ => hb (fun w => q w.1), fun c => absurd rfl c⟩)
  · obtain ⟨k, hk4, rfl⟩ := vp_in_of hx (by decide)
    rw [nI_clamp (by omega)]
    rw [pi_le] at ct
    have hok : boxOK a b c := ⟨by omega, by omega, by omega, by omega⟩
    obtain ⟨an, ha3, rfl⟩ := vp_in_of (n := 6) (pi_in.mpr (by omega) : vp_in a 6) (by decide)
    obtain ⟨bn, hb3, rfl⟩ := vp_in_of (n := 6) (pi_in.mpr (by omega) : vp_in b 6) (by decide)
    obtain ⟨cn, hc3, rfl⟩ := vp_in_of (n := 6) (pi_in.mpr (by omega) : vp_in c 6) (by decide)
    rw [nI_toInt (by omega)] at ha hb2 hc
    have p1 := Nat.mul_le_mul (show an ≤ 5 by omega) (show bn ≤ 5 by omega)
    have p2 := Nat.mul_le_mul (show bn ≤ 5 by omega) (show cn ≤ 5 by omega)
    have p3 := Nat.mul_le_mul (show cn ≤ 5 by omega) (show an ≤ 5 by omega)
    rw [show (2 : Int32) = nI 2 from rfl] at ct
    simp only [pk_mul, nI_add] at ct
    rw [nI_toInt (by omega)] at ct
    have hd : ∀ j, j < 3 → 1 ≤ (fun j => if j = 0 then an else if j = 1 then bn else cn) j ∧ (fun j => if j = 0 then an else if j = 1 then bn else cn) j ≤ 5 := by
      intro j hj
      rcases (show j = 0 ∨ j = 1 ∨ j = 2 by omega) with rfl | rfl | rfl <;> (simp; omega)
    have ht : tot (fun j => if j = 0 then an else if j = 1 then bn else cn) ≤ 24 := by
      show 2 * ((an * bn + bn * cn) + cn * an) ≤ 24
      omega
    refine ⟨hx, ⟨by omega, by omega⟩, x1_build _ _ _ (fun j => if j = 0 then an else if j = 1 then bn else cn) rfl rfl rfl hd ht _ _ (fun S hN => ?_)⟩
    rintro _ rfl
    rw [va_up_self, hN.2.1]
    exact hk k _ S hk4 rfl hok rfl rfl rfl hd ht hN
  · rw [pi_le]; have := q.2.2.2.2; omega
theorem t8_told (f w : Int32) (Z : MS) (X : Nat → MS) (Q : Int32 → MS → Prop) (h : ∀ r Z', Q r Z') : w8_told f w Z X Q := by
  unfold w8_told w8_told_b16
  refine s8_isFigure _ _ (fun hf => ⟨fun _ => h _ _, fun _ => t8_within _ _ _ _ ⟨fun _ => ⟨hf, ?_⟩, fun _ => h _ _⟩ ⟨fun c => absurd rfl c, fun _ => h _ _⟩⟩) (fun _ => ⟨fun _ => h _ _, fun c => absurd rfl c⟩)
  rintro _ rfl
  obtain ⟨k, hk, rfl⟩ := vp_in_of hf (by decide)
  rw [nI_clamp (by omega)]
  refine ⟨⟨by omega, hk⟩, s2_isThere _ _ (fun _ => ⟨fun _ => ⟨fun _ => h _ _, fun _ => t13_bitCount _ _ (fun _ => h _ _), fun _ => t0_openEdges _ _ (fun _ => h _ _), fun _ _ _ => t0_least _ _ (fun _ => h _ _)⟩, fun c => absurd c (by decide)⟩) (fun _ => ⟨fun c => absurd rfl c, fun _ => t8_refuse _ _ _ _ (fun _ _ => h _ _)⟩)⟩
theorem t8_mark (f w : Int32) (Z : MS) (X : Nat → MS) (Q : Int32 → MS → Prop) (h : ∀ r Z', Q r Z') : w8_mark f w Z X Q := by
  unfold w8_mark w8_mark_b16 w8_mark_b95
  refine s8_isFigure _ _ (fun hf => ⟨fun _ => h _ _, fun _ => t8_within _ _ _ _ ⟨fun _ => ⟨hf, ?_⟩, fun _ => h _ _⟩ ⟨fun c => absurd rfl c, fun _ => h _ _⟩⟩) (fun _ => ⟨fun _ => h _ _, fun c => absurd rfl c⟩)
  rintro _ rfl
  obtain ⟨k, hk, rfl⟩ := vp_in_of hf (by decide)
  rw [nI_clamp (by omega)]
  refine ⟨⟨by omega, hk⟩, s2_isThere _ _ (fun _ => ⟨fun _ => t2_isOf _ _ _ (fun _ => ⟨fun _ => ⟨fun _ => t0_isLying _ _ (fun _ => ⟨fun _ => h _ _, fun _ => h _ _⟩), fun _ => h _ _, fun _ _ => h _ _⟩, fun _ => t8_refuse _ _ _ _ (fun _ _ => h _ _)⟩), fun c => absurd c (by decide)⟩) (fun _ => ⟨fun c => absurd rfl c, fun _ => t8_refuse _ _ _ _ (fun _ _ => h _ _)⟩)⟩
theorem t8_squares (f : Int32) (Z : MS) (X : Nat → MS) (Q : Int32 → MS → Prop) (h : ∀ r Z', Q r Z') : w8_squares f Z X Q := by
  unfold w8_squares
  refine s8_isFigure _ _ (fun hf => ⟨fun _ => ?_, fun c => absurd c (by decide)⟩) (fun _ => ⟨fun c => absurd rfl c, fun _ => h _ _⟩)
  obtain ⟨k, hk, rfl⟩ := vp_in_of hf (by decide)
  rw [nI_clamp (by omega)]
  refine ⟨hf, ⟨by omega, hk⟩, s2_isThere _ _ (fun _ => ⟨fun _ => ?_, fun c => absurd c (by decide)⟩) (fun _ => ⟨fun c => absurd rfl c, fun _ => t8_refuse _ _ _ _ (fun _ _ => h _ _)⟩)⟩
  rintro _ rfl
  exact t13_bitCount _ _ (fun _ => h _ _)
theorem t8_turn (f o t : Int32) (Z : MS) (X : Nat → MS) (Q : Int32 → MS → (Nat → MS) → Prop) (hI : Inv8 X) (h : ∀ r Z' X', G8 X X' → Q r Z' X') : w8_turn f o t Z X Q := by
  have hr := g8_rf hI
  unfold w8_turn w8_turn_b19
  refine s8_isFigure _ _ (fun hf => ⟨fun c => absurd c (by decide), fun _ => s8_isFigure _ _ (fun ht => ⟨fun c => absurd c (by decide), fun _ => ⟨fun _ => ?_, fun _ => h _ _ _ hr⟩⟩) (fun _ => ⟨fun _ => h _ _ _ hr, fun c => absurd rfl c⟩)⟩) (fun _ => ⟨fun _ => h _ _ _ hr, fun c => absurd rfl c⟩)
  obtain ⟨k, hk, rfl⟩ := vp_in_of hf (by decide)
  obtain ⟨j, hj, rfl⟩ := vp_in_of ht (by decide)
  rw [nI_clamp (by omega), nI_clamp (by omega)]
  refine ⟨hf, ⟨by omega, hk⟩, s2_isThere _ _ (fun _ => ⟨fun _ => ⟨ht, t0_turned _ _ _ (fun r => ⟨⟨by omega, hj⟩, t2_putPlain _ _ _ (fun S => ?_)⟩)⟩, fun c => absurd c (by decide)⟩) (fun _ => ⟨fun c => absurd rfl c, fun _ => t8_refuse _ _ _ _ (fun _ _ => h _ _ _ hr)⟩)⟩
  rintro _ rfl
  exact h _ _ _ (g8_free hI _ (Or.inl hj))
theorem t8_alike (f g : Int32) (Z : MS) (X : Nat → MS) (Q : Int32 → MS → Prop) (h : ∀ r Z', Q r Z') : w8_alike f g Z X Q := by
  have k40 : w8_alike_b40 Z X Q := by
    unfold w8_alike_b40
    exact t8_refuse _ _ _ _ h
  unfold w8_alike w8_alike_b14 w8_alike_b75
  refine s8_isFigure _ _ (fun hf => ⟨fun c => absurd c (by decide), fun _ => s8_isFigure _ _ (fun hg => ⟨fun _ => ?_, fun c => absurd c (by decide)⟩) (fun _ => ⟨fun c => absurd rfl c, fun _ => h _ _⟩)⟩) (fun _ => ⟨fun _ => h _ _, fun c => absurd rfl c⟩)
  obtain ⟨k, hk, rfl⟩ := vp_in_of hf (by decide)
  obtain ⟨j, hj, rfl⟩ := vp_in_of hg (by decide)
  rw [nI_clamp (by omega), nI_clamp (by omega)]
  refine ⟨hf, ⟨by omega, hk⟩, s2_isThere _ _ (fun _ => ⟨fun _ => k40, fun _ => ⟨hg, ⟨by omega, hj⟩, s2_isThere _ _ (fun _ => ⟨fun _ => t0_areAlike _ _ _ (fun _ => ⟨fun _ => h _ _, fun _ => h _ _⟩), fun _ => k40⟩) (fun _ => ⟨fun c => absurd rfl c, fun _ => k40⟩)⟩⟩) (fun _ => ⟨fun _ => k40, fun c => absurd rfl c⟩)⟩
theorem t8_missingCell (c : Int32) (V : MS) (Q : Int32 → Prop) (h : ∀ r, Q r) : w8_missingCell c V Q := by
  unfold w8_missingCell w8_missingCell_b22
  exact s1_isThere _ _ (fun _ => ⟨fun _ => s1_hasCell _ _ _ (fun _ => ⟨fun _ => h _, fun _ => h _⟩) (fun _ => ⟨fun _ => h _, fun _ => h _⟩), fun _ => h _⟩) (fun _ => ⟨fun c => absurd rfl c, fun _ => h _⟩)
theorem t8_cell (x c w : Int32) (Z : MS) (X : Nat → MS) (Q : Int32 → MS → Prop) (hI : Inv8 X) (h : ∀ r Z', Q r Z') : w8_cell x c w Z X Q := by
  unfold w8_cell w8_cell_b16 w8_cell_b72
  refine s8_isBox _ _ (fun hx => ⟨fun _ => h _ _, fun _ => t8_within _ _ _ _ ⟨fun _ => ?_, fun _ => h _ _⟩ ⟨fun c => absurd rfl c, fun _ => h _ _⟩⟩) (fun _ => ⟨fun _ => h _ _, fun c => absurd rfl c⟩)
  obtain ⟨k, hk, rfl⟩ := vp_in_of hx (by decide)
  rw [nI_clamp (by omega)]
  have hB := hI.2.1 k hk
  exact ⟨hx, ⟨by omega, by omega⟩, t8_missingCell _ _ _ (fun r => ⟨fun _ => ⟨fun _ => t1_middleOf _ _ _ hB _ (fun _ => h _ _), fun _ => s1_sideOf _ _ hB _ (fun _ => h _ _) (fun _ _ => h _ _)⟩, fun _ => t8_refuse _ _ _ _ (fun _ _ => h _ _)⟩)⟩
theorem t8_next (x c t w : Int32) (Z : MS) (X : Nat → MS) (Q : Int32 → MS → Prop) (hI : Inv8 X) (h : ∀ r Z', Q r Z') : w8_next x c t w Z X Q := by
  unfold w8_next w8_next_b22 w8_frameOf
  refine s8_isBox _ _ (fun hx => ⟨fun _ => h _ _, fun _ => t8_isQuarter _ _ ⟨fun c => absurd c (by decide), fun _ => t8_isQuarter _ _ ⟨fun _ => ?_, fun _ => h _ _⟩ ⟨fun c => absurd rfl c, fun _ => h _ _⟩⟩ ⟨fun _ => h _ _, fun c => absurd rfl c⟩⟩) (fun _ => ⟨fun _ => h _ _, fun c => absurd rfl c⟩)
  obtain ⟨k, hk, rfl⟩ := vp_in_of hx (by decide)
  rw [nI_clamp (by omega)]
  refine ⟨hx, ⟨by omega, by omega⟩, t8_missingCell _ _ _ (fun r => ⟨fun _ => t1_leadsTo _ _ _ (hI.2.1 k hk) _ (fun r => ?_), fun _ => t8_refuse _ _ _ _ (fun _ _ => h _ _)⟩)⟩
  rintro _ rfl
  exact h _ _
theorem t8_missingToFold {k b : Nat} (hk : k < 6) (hb : b < 4) (c : Int32) (Z : MS) (X : Nat → MS) (Q : Int32 → Prop) (h : ∀ r, Q r) : w8_missingToFold (nI k) (nI b) c Z X Q := by
  unfold w8_missingToFold w8_missingToFold_b26
  rw [nI_clamp (by omega), nI_clamp (by omega)]
  exact ⟨vp_in_nI hk (by decide), ⟨by omega, hk⟩, s2_isThere _ _ (fun _ => ⟨fun _ => h _, fun _ => ⟨vp_in_nI hb (by decide), ⟨by omega, by omega⟩, t8_missingCell _ _ _ (fun _ => h _)⟩⟩) (fun _ => ⟨fun _ => h _, fun c => absurd rfl c⟩)⟩
theorem t8_folds (f x c t : Int32) (Z : MS) (X : Nat → MS) (Q : Int32 → MS → (Nat → MS) → Prop) (hI : Inv8 X) (h : ∀ r Z' X', G8 X X' → Q r Z' X') : w8_folds f x c t Z X Q := by
  have hr := g8_rf hI
  unfold w8_folds w8_folds_b22 w8_folds_b102 w8_frameOf
  refine s8_isFigure _ _ (fun hf => ⟨fun c => absurd c (by decide), fun _ => s8_isBox _ _ (fun hx => ⟨fun c => absurd c (by decide), fun _ => t8_isQuarter _ _ ⟨fun _ => ?_, fun _ => h _ _ _ hr⟩ ⟨fun c => absurd rfl c, fun _ => h _ _ _ hr⟩⟩) (fun _ => ⟨fun _ => h _ _ _ hr, fun c => absurd rfl c⟩)⟩) (fun _ => ⟨fun _ => h _ _ _ hr, fun c => absurd rfl c⟩)
  obtain ⟨k, hk, rfl⟩ := vp_in_of hf (by decide)
  obtain ⟨b, hb, rfl⟩ := vp_in_of hx (by decide)
  refine t8_missingToFold hk hb _ _ _ _ (fun r => ?_)
  rw [nI_clamp (by omega), nI_clamp (by omega)]
  refine ⟨fun _ => ⟨hx, hf, ⟨by omega, hk⟩, ⟨by omega, by omega⟩, t6_fold _ _ _ _ (hI.2.1 b hb) _ (fun r S _ => ?_)⟩, fun _ => t8_refuse _ _ _ _ (fun _ _ => h _ _ _ hr)⟩
  rintro _ rfl
  have hG := g8_free hI S (Or.inr (Or.inl rfl))
  exact ⟨fun _ => ⟨fun _ => h _ _ _ hG, fun _ => h _ _ _ hG⟩, fun _ => h _ _ _ hG⟩
theorem t8_lies (f x c t q : Int32) (Z : MS) (X : Nat → MS) (Q : Int32 → MS → (Nat → MS) → Prop) (hI : Inv8 X) (h : ∀ r Z' X', G8 X X' → Q r Z' X') : w8_lies f x c t q Z X Q := by
  have hr := g8_rf hI
  unfold w8_lies w8_lies_b30 w8_frameOf
  refine s8_isFigure _ _ (fun hf => ⟨fun c => absurd c (by decide), fun _ => s8_isBox _ _ (fun hx => ⟨fun c => absurd c (by decide), fun _ => t8_isQuarter _ _ ⟨fun c => absurd c (by decide), fun _ => s8_isSquare _ _ (fun _ => ⟨fun _ => ?_, fun c => absurd c (by decide)⟩) (fun _ => ⟨fun c => absurd rfl c, fun _ => h _ _ _ hr⟩)⟩ ⟨fun _ => h _ _ _ hr, fun c => absurd rfl c⟩⟩) (fun _ => ⟨fun _ => h _ _ _ hr, fun c => absurd rfl c⟩)⟩) (fun _ => ⟨fun _ => h _ _ _ hr, fun c => absurd rfl c⟩)
  obtain ⟨k, hk, rfl⟩ := vp_in_of hf (by decide)
  obtain ⟨b, hb, rfl⟩ := vp_in_of hx (by decide)
  refine t8_missingToFold hk hb _ _ _ _ (fun r => ?_)
  rw [nI_clamp (by omega), nI_clamp (by omega)]
  refine ⟨fun _ => ⟨hf, ⟨by omega, hk⟩, s0_has _ _ _ (fun _ => ⟨fun _ => ⟨hx, ⟨by omega, by omega⟩, t6_fold _ _ _ _ (hI.2.1 b hb) _ (fun r S _ => ?_)⟩, fun c => absurd c (by decide)⟩) ⟨fun c => absurd rfl c, fun _ => h _ _ _ hr⟩⟩, fun _ => t8_refuse _ _ _ _ (fun _ _ => h _ _ _ hr)⟩
  rintro _ rfl
  have hG := g8_free hI S (Or.inr (Or.inl rfl))
  exact ⟨fun _ => t6_frameAt _ _ _ (fun _ => h _ _ _ hG), fun _ => h _ _ _ hG⟩
theorem t8_wholes (f x : Int32) (Z : MS) (X : Nat → MS) (Q : Int32 → MS → (Nat → MS) → Prop) (hI : Inv8 X) (h : ∀ r Z' X', G8 X X' → Q r Z' X') : w8_wholes f x Z X Q := by
  have hr := g8_rf hI
  have k40 : w8_wholes_b40 Z X Q := by
    unfold w8_wholes_b40
    exact t8_refuse _ _ _ _ (fun _ _ => h _ _ _ hr)
  unfold w8_wholes w8_wholes_b14
  refine s8_isFigure _ _ (fun hf => ⟨fun c => absurd c (by decide), fun _ => s8_isBox _ _ (fun hx => ⟨fun _ => ?_, fun c => absurd c (by decide)⟩) (fun _ => ⟨fun c => absurd rfl c, fun _ => h _ _ _ hr⟩)⟩) (fun _ => ⟨fun _ => h _ _ _ hr, fun c => absurd rfl c⟩)
  obtain ⟨k, hk, rfl⟩ := vp_in_of hf (by decide)
  obtain ⟨b, hb, rfl⟩ := vp_in_of hx (by decide)
  rw [nI_clamp (by omega), nI_clamp (by omega)]
  obtain ⟨h0, h24, _⟩ := id (hI.2.1 b hb)
  refine ⟨hf, ⟨by omega, hk⟩, s2_isThere _ _ (fun _ => ⟨fun _ => k40, fun _ => ⟨hx, ⟨by omega, by omega⟩, s1_isThere _ _ (fun _ => ⟨fun _ => ?_, fun _ => k40⟩) (fun _ => ⟨fun c => absurd rfl c, fun _ => k40⟩)⟩⟩) (fun _ => ⟨fun _ => k40, fun c => absurd rfl c⟩)⟩
  obtain ⟨n, hn, en⟩ := vp_in_of (n := 25) (pi_in.mpr (by omega) : vp_in (fI (X (6 + b)) 6) 25) (by decide)
  rw [en, show (4 : Int32) = nI 4 from rfl, pk_mul]
  rintro _ rfl
  unfold w8_wholes_b64
  refine lp_up (n * 4) (fun z => z.2.1) (fun _ z => G8 X z.2.2.2) (by omega) ?_ (Nat.zero_le _) (rfl : (0 : Int32) = nI 0) (by exact hr)
  rintro K ⟨a, y, Z1, X1⟩ j hj hcc hG hK
  try dsimp only at hcc hG hK
  subst hcc
  unfold w8_wholes_F64 w8_wholes_d64
  try dsimp only
  rw [nI_clamp (by omega), nI_clamp (by omega)]
  refine ⟨fun _ => h _ _ _ hG, fun c => ⟨hx, hf, ⟨by omega, hk⟩, ⟨by omega, by omega⟩, t6_isWhole _ _ _ _ (hG.1.2.1 b hb) _ (fun r S => ?_)⟩⟩
  have hlt := nI_go (by omega) hj c
  rintro _ rfl
  have hG2 := g8_tr hG (g8_free hG.1 S (Or.inr (Or.inl rfl)))
  have k112 : ∀ a2 Z2, w8_wholes_b112 (fun y0 y1 y2 y3 => K (y0, y1, y2, y3)) (nI k) (nI b) (nI (n * 4)) a2 (nI j) Z2 (va_up X1 15 S) Q := by
    intro a2 Z2
    unfold w8_wholes_b112
    rintro _ rfl
    exact hK (_, _, _, _) hlt (nI_1 j) hG2
  have k109 : ∀ Z2, w8_wholes_b109 (fun y0 y1 y2 y3 => K (y0, y1, y2, y3)) (nI k) (nI b) (nI (n * 4)) a (nI j) Z2 (va_up X1 15 S) Q := by
    intro Z2
    unfold w8_wholes_b109
    rintro _ rfl
    exact k112 _ _
  refine ⟨fun _ => k112 _ _, fun _ => ⟨fun _ => k109 _, fun _ => ?_⟩⟩
  rintro _ rfl
  exact k109 _
theorem t8_layOutTo {f b r : Nat} (hf : f < 6) (hb : b < 4) (hr5 : r < 5) (c q : Int32) (Z : MS) (X : Nat → MS) (Q : Int32 → (Nat → MS) → Prop) (hI : Inv8 X) (h : ∀ r X', G8 X X' → Q r X') : w8_layOutTo f (6 + b) c q (10 + r) Z X Q := by
  unfold w8_layOutTo w8_frameOf
  refine ⟨⟨by omega, by omega⟩, ⟨by omega, by omega⟩, t6_layOutFrom _ _ _ _ _ (hI.2.1 b hb) (hI.1 r hr5) _ (fun v S => ?_)⟩
  rintro _ rfl
  have hG1 := g8_free hI S (Or.inr (Or.inr (Or.inl rfl)))
  refine ⟨fun _ => t0_least _ _ (fun m => t6_frameAt _ _ _ (fun fr => t6_isWhole _ _ _ _ (hG1.1.2.1 b hb) _ (fun w S2 => ?_))), fun _ => h _ _ hG1⟩
  rintro _ rfl
  have hG2 := g8_tr hG1 (g8_free hG1.1 S2 (Or.inr (Or.inl rfl)))
  refine ⟨fun _ => ⟨⟨by omega, hf⟩, t2_putNet _ _ _ _ _ (fun S3 => ?_)⟩, fun _ => h _ _ hG2⟩
  rintro _ rfl
  exact h _ _ (g8_tr hG2 (g8_free hG2.1 S3 (Or.inl hf)))
theorem t8_layOut (x c q f : Int32) (Z : MS) (X : Nat → MS) (Q : Int32 → MS → (Nat → MS) → Prop) (hI : Inv8 X) (h : ∀ r Z' X', G8 X X' → Q r Z' X') : w8_layOut x c q f Z X Q := by
  have hr := g8_rf hI
  unfold w8_layOut w8_layOut_b22
  refine s8_isBox _ _ (fun hx => ⟨fun c => absurd c (by decide), fun _ => s8_isSquare _ _ (fun _ => ⟨fun c => absurd c (by decide), fun _ => s8_isFigure _ _ (fun hf => ⟨fun _ => ?_, fun c => absurd c (by decide)⟩) (fun _ => ⟨fun c => absurd rfl c, fun _ => h _ _ _ hr⟩)⟩) (fun _ => ⟨fun _ => h _ _ _ hr, fun c => absurd rfl c⟩)⟩) (fun _ => ⟨fun _ => h _ _ _ hr, fun c => absurd rfl c⟩)
  obtain ⟨k, hk, rfl⟩ := vp_in_of hf (by decide)
  obtain ⟨b, hb, rfl⟩ := vp_in_of hx (by decide)
  rw [nI_clamp (by omega), nI_clamp (by omega)]
  exact ⟨hx, ⟨by omega, by omega⟩, t8_missingCell _ _ _ (fun _ => ⟨fun _ => ⟨hf, t8_layOutTo (r := 4) hk hb (by decide) _ _ _ _ _ hI (fun r X' hG => h _ _ _ hG)⟩, fun _ => t8_refuse _ _ _ _ (fun _ _ => h _ _ _ hr)⟩)⟩
theorem t8_layOutBy (x c q row f : Int32) (Z : MS) (X : Nat → MS) (Q : Int32 → MS → (Nat → MS) → Prop) (hI : Inv8 X) (h : ∀ r Z' X', G8 X X' → Q r Z' X') : w8_layOutBy x c q row f Z X Q := by
  have hr := g8_rf hI
  unfold w8_layOutBy w8_layOutBy_b30
  refine s8_isBox _ _ (fun hx => ⟨fun c => absurd c (by decide), fun _ => s8_isSquare _ _ (fun _ => ⟨fun c => absurd c (by decide), fun _ => s8_isRow _ _ (fun hrow => ⟨fun c => absurd c (by decide), fun _ => s8_isFigure _ _ (fun hf => ⟨fun _ => ?_, fun c => absurd c (by decide)⟩) (fun _ => ⟨fun c => absurd rfl c, fun _ => h _ _ _ hr⟩)⟩) (fun _ => ⟨fun _ => h _ _ _ hr, fun c => absurd rfl c⟩)⟩) (fun _ => ⟨fun _ => h _ _ _ hr, fun c => absurd rfl c⟩)⟩) (fun _ => ⟨fun _ => h _ _ _ hr, fun c => absurd rfl c⟩)
  obtain ⟨k, hk, rfl⟩ := vp_in_of hf (by decide)
  obtain ⟨b, hb, rfl⟩ := vp_in_of hx (by decide)
  obtain ⟨r, hr4, rfl⟩ := vp_in_of hrow (by decide)
  rw [nI_clamp (by omega), nI_clamp (by omega), nI_clamp (by omega)]
  exact ⟨hrow, ⟨by omega, by omega⟩, s5_isThere _ _ (fun _ => ⟨fun _ => ⟨hx, ⟨by omega, by omega⟩, t8_missingCell _ _ _ (fun _ => ⟨fun _ => ⟨hf, t8_layOutTo hk hb (by omega) _ _ _ _ _ hI (fun r X' hG => h _ _ _ hG)⟩, fun _ => t8_refuse _ _ _ _ (fun _ _ => h _ _ _ hr)⟩)⟩, fun _ => t8_refuse _ _ _ _ (fun _ _ => h _ _ _ hr)⟩) (fun _ => ⟨fun c => absurd rfl c, fun _ => t8_refuse _ _ _ _ (fun _ _ => h _ _ _ hr)⟩)⟩
theorem t8_way (x p q : Int32) (Z : MS) (X : Nat → MS) (Q : Int32 → MS → (Nat → MS) → Prop) (hI : Inv8 X) (h : ∀ r Z' X', G8 X X' → Q r Z' X') : w8_way x p q Z X Q := by
  have hr := g8_rf hI
  unfold w8_way
  refine s8_isBox _ _ (fun hx => ⟨fun _ => ?_, fun c => absurd c (by decide)⟩) (fun _ => ⟨fun c => absurd rfl c, fun _ => h _ _ _ hr⟩)
  obtain ⟨b, hb, rfl⟩ := vp_in_of hx (by decide)
  have k38 : ∀ v, w8_way_b38 (nI b) p q v Z X Q := by
    intro v
    unfold w8_way_b38
    rw [nI_clamp (by omega)]
    refine ⟨fun _ => ⟨hx, ⟨by omega, by omega⟩, t7_shortest _ _ _ _ (hI.2.1 b hb) _ (fun r S => ?_)⟩, fun _ => t8_refuse _ _ _ _ (fun _ _ => h _ _ _ hr)⟩
    rintro _ rfl
    exact h _ _ _ (g8_free hI S (by omega))
  rw [nI_clamp (by omega)]
  exact ⟨hx, ⟨by omega, by omega⟩, t8_missingCell _ _ _ (fun _ => ⟨fun _ => k38 _, fun _ => t8_missingCell _ _ _ (fun _ => k38 _)⟩)⟩
theorem t8_farthest (x p : Int32) (Z : MS) (X : Nat → MS) (Q : Int32 → MS → (Nat → MS) → Prop) (hI : Inv8 X) (h : ∀ r Z' X', G8 X X' → Q r Z' X') : w8_farthest x p Z X Q := by
  have hr := g8_rf hI
  unfold w8_farthest
  refine s8_isBox _ _ (fun hx => ⟨fun _ => ?_, fun c => absurd c (by decide)⟩) (fun _ => ⟨fun c => absurd rfl c, fun _ => h _ _ _ hr⟩)
  obtain ⟨b, hb, rfl⟩ := vp_in_of hx (by decide)
  have k39 : w8_farthest_b39 (nI b) p (0 : Int32) (-1 : Int32) (0 : Int32) Z X Q := by
    unfold w8_farthest_b39
    refine lp_up 24 (fun z => z.2.2.1) (fun _ z => G8 X z.2.2.2) (by decide) ?_ (Nat.zero_le _) (rfl : (0 : Int32) = nI 0) (by exact hr)
    rintro K ⟨a1, a2, y, X1⟩ k hk hcc hG hK
    try dsimp only at hcc hG hK
    subst hcc
    obtain ⟨h0, h24, _⟩ := id (hG.1.2.1 b hb)
    unfold w8_farthest_F39 w8_farthest_d39
    try dsimp only
    rw [nI_clamp (by omega)]
    refine ⟨hx, ⟨by omega, by omega⟩, fun _ => ?_, fun c => t7_shortest _ _ _ _ (hG.1.2.1 b hb) _ (fun r S => ?_)⟩
    · rintro _ rfl
      exact h _ _ _ hG
    rw [pi_le, nI_toInt (by omega)] at c
    rintro _ rfl
    have hG2 := g8_tr hG (g8_free (k := 17) hG.1 S (by omega))
    have k86 : ∀ u v, w8_farthest_b86 (fun y0 y1 y2 y3 => K (y0, y1, y2, y3)) (nI b) p u v (nI k) Z (va_up X1 17 S) Q := by
      intro u v
      unfold w8_farthest_b86
      rintro _ rfl
      exact hK (_, _, _, _) (by omega) (nI_1 k) hG2
    exact ⟨fun _ => k86 _ _, fun _ => k86 _ _⟩
  rw [nI_clamp (by omega)]
  exact ⟨hx, ⟨by omega, by omega⟩, t8_missingCell _ _ _ (fun _ => ⟨fun _ => k39, fun _ => t8_refuse _ _ _ _ (fun _ _ => h _ _ _ hr)⟩)⟩
theorem t8_mean (x p : Int32) (Z : MS) (X : Nat → MS) (Q : Int32 → MS → (Nat → MS) → Prop) (hI : Inv8 X) (h : ∀ r Z' X', G8 X X' → Q r Z' X') : w8_mean x p Z X Q := by
  have hr := g8_rf hI
  unfold w8_mean
  refine s8_isBox _ _ (fun hx => ⟨fun _ => ?_, fun c => absurd c (by decide)⟩) (fun _ => ⟨fun c => absurd rfl c, fun _ => h _ _ _ hr⟩)
  obtain ⟨b, hb, rfl⟩ := vp_in_of hx (by decide)
  have k36 : w8_mean_b36 (nI b) p (0 : Int32) (0 : Int32) Z X Q := by
    unfold w8_mean_b36
    refine lp_up 24 (fun z => z.2.1) (fun _ z => G8 X z.2.2) (by decide) ?_ (Nat.zero_le _) (rfl : (0 : Int32) = nI 0) (by exact hr)
    rintro K ⟨a1, y, X1⟩ k hk hcc hG hK
    try dsimp only at hcc hG hK
    subst hcc
    obtain ⟨h0, h24, _⟩ := id (hG.1.2.1 b hb)
    unfold w8_mean_F36 w8_mean_d36 w8_mean_b104
    try dsimp only
    rw [nI_clamp (by omega)]
    refine ⟨hx, ⟨by omega, by omega⟩, fun _ => ?_, fun c => t7_shortest _ _ _ _ (hG.1.2.1 b hb) _ (fun r S => ?_)⟩
    · rintro _ rfl
      refine ⟨fun _ => h _ _ _ hG, fun c => ⟨fun e => c ?_, h _ _ _ hG⟩⟩
      rw [e]; decide
    rw [pi_le, nI_toInt (by omega)] at c
    rintro _ rfl _ rfl _ rfl
    exact hK (_, _, _) (by omega) (nI_1 k) (g8_tr hG (g8_free (k := 17) hG.1 S (by omega)))
  rw [nI_clamp (by omega)]
  exact ⟨hx, ⟨by omega, by omega⟩, t8_missingCell _ _ _ (fun _ => ⟨fun _ => k36, fun _ => t8_refuse _ _ _ _ (fun _ _ => h _ _ _ hr)⟩)⟩
theorem t8_rim (f : Int32) (Z : MS) (X : Nat → MS) (Q : Int32 → MS → (Nat → MS) → Prop) (hI : Inv8 X) (h : ∀ r Z' X', G8 X X' → Q r Z' X') : w8_rim f Z X Q := by
  have hr := g8_rf hI
  unfold w8_rim w8_rim_b58
  refine s8_isFigure _ _ (fun hf => ⟨fun _ => ?_, fun c => absurd c (by decide)⟩) (fun _ => ⟨fun c => absurd rfl c, fun _ => h _ _ _ hr⟩)
  obtain ⟨k, hk, rfl⟩ := vp_in_of hf (by decide)
  rw [nI_clamp (by omega)]
  refine ⟨hf, ⟨by omega, hk⟩, s2_isThere _ _ (fun _ => ⟨fun _ => t4_walk _ _ _ (fun r S hR => ?_), fun c => absurd c (by decide)⟩) (fun _ => ⟨fun c => absurd rfl c, fun _ => t8_refuse _ _ _ _ (fun _ _ => h _ _ _ hr)⟩)⟩
  rintro _ rfl
  have hG := g8_rim hI S hR
  exact ⟨fun _ => h _ _ _ hG, fun _ => h _ _ _ hG⟩
theorem t8_edge (f i w : Int32) (Z : MS) (X : Nat → MS) (Q : Int32 → MS → (Nat → MS) → Prop) (hI : Inv8 X) (h : ∀ r Z' X', G8 X X' → Q r Z' X') : w8_edge f i w Z X Q := by
  have hr := g8_rf hI
  unfold w8_edge w8_edge_b16
  refine s8_isFigure _ _ (fun hf => ⟨fun c => absurd c (by decide), fun _ => t8_within _ _ _ _ ⟨fun _ => ?_, fun _ => h _ _ _ hr⟩ ⟨fun c => absurd rfl c, fun _ => h _ _ _ hr⟩⟩) (fun _ => ⟨fun _ => h _ _ _ hr, fun c => absurd rfl c⟩)
  obtain ⟨k, hk, rfl⟩ := vp_in_of hf (by decide)
  rw [nI_clamp (by omega)]
  refine ⟨hf, ⟨by omega, hk⟩, s2_isThere _ _ (fun _ => ⟨fun _ => t4_walk _ _ _ (fun r S hR => ?_), fun c => absurd c (by decide)⟩) (fun _ => ⟨fun c => absurd rfl c, fun _ => t8_refuse _ _ _ _ (fun _ _ => h _ _ _ hr)⟩)⟩
  rintro _ rfl
  have hG := g8_rim hI S hR
  rw [va_up_self]
  exact ⟨fun _ => s4_hasEdge _ _ _ (fun _ => ⟨fun _ => t4_tellEdge _ _ _ hR _ (fun _ => h _ _ _ hG), fun c => absurd c (by decide)⟩) (fun _ => ⟨fun c => absurd rfl c, fun _ => t8_refuse _ _ _ _ (fun _ _ => h _ _ _ hG)⟩), fun _ => h _ _ _ hG⟩
theorem t8_gluings (f n : Int32) (Z : MS) (X : Nat → MS) (Q : Int32 → MS → (Nat → MS) → Prop) (hI : Inv8 X) (h : ∀ r Z' X', G8 X X' → Q r Z' X') : w8_gluings f n Z X Q := by
  have hr := g8_rf hI
  unfold w8_gluings w8_gluings_b18 w8_gluings_b87
  refine s8_isFigure _ _ (fun hf => ⟨fun c => absurd c (by decide), fun _ => t8_within _ _ _ _ ⟨fun _ => ?_, fun _ => h _ _ _ hr⟩ ⟨fun c => absurd rfl c, fun _ => h _ _ _ hr⟩⟩) (fun _ => ⟨fun _ => h _ _ _ hr, fun c => absurd rfl c⟩)
  obtain ⟨k, hk, rfl⟩ := vp_in_of hf (by decide)
  rw [nI_clamp (by omega)]
  refine ⟨hf, ⟨by omega, hk⟩, s2_isThere _ _ (fun _ => ⟨fun _ => t4_walk _ _ _ (fun r S hR => ?_), fun c => absurd c (by decide)⟩) (fun _ => ⟨fun c => absurd rfl c, fun _ => t8_refuse _ _ _ _ (fun _ _ => h _ _ _ hr)⟩)⟩
  rintro _ rfl
  have hG := g8_rim hI S hR
  refine ⟨fun _ => t3_seek _ _ _ (by rw [va_up_self]; exact hR) hG.1.2.2.2.2 _ (fun r S2 h7 h8 => ?_), fun _ => h _ _ _ hG⟩
  rintro _ rfl
  have hG2 := g8_tr hG (g8_gl hG.1 S2 h7 h8)
  exact ⟨fun _ => h _ _ _ hG2, fun _ => h _ _ _ hG2⟩
theorem t8_glued (i : Int32) (Z : MS) (X : Nat → MS) (Q : Int32 → Prop) (hI : Inv8 X) (h : ∀ r, Q r) : w8_glued i Z X Q := by
  unfold w8_glued
  exact t3_toldPartner _ _ hI.2.2.2.2 _ h
theorem t8_corners (k : Int32) (Z : MS) (X : Nat → MS) (Q : Int32 → Prop) (h : ∀ r, Q r) : w8_corners k Z X Q := by
  unfold w8_corners
  exact t8_within _ _ _ _ ⟨fun _ => t3_toldCorners _ _ _ h, fun _ => h _⟩ ⟨fun c => absurd rfl c, fun _ => h _⟩
theorem t8_glue (f x : Int32) (Z : MS) (X : Nat → MS) (Q : Int32 → MS → (Nat → MS) → Prop) (hI : Inv8 X) (h : ∀ r Z' X', G8 X X' → Q r Z' X') : w8_glue f x Z X Q := by
  have hr := g8_rf hI
  have k40 : w8_glue_b40 Z X Q := by
    unfold w8_glue_b40
    exact t8_refuse _ _ _ _ (fun _ _ => h _ _ _ hr)
  unfold w8_glue w8_glue_b14 w8_glue_b88
  refine s8_isFigure _ _ (fun hf => ⟨fun c => absurd c (by decide), fun _ => s8_isRow _ _ (fun hx => ⟨fun _ => ?_, fun c => absurd c (by decide)⟩) (fun _ => ⟨fun c => absurd rfl c, fun _ => h _ _ _ hr⟩)⟩) (fun _ => ⟨fun _ => h _ _ _ hr, fun c => absurd rfl c⟩)
  obtain ⟨k, hk, rfl⟩ := vp_in_of hf (by decide)
  obtain ⟨r, hr4, rfl⟩ := vp_in_of hx (by decide)
  rw [nI_clamp (by omega), nI_clamp (by omega)]
  refine ⟨hf, ⟨by omega, hk⟩, s2_isThere _ _ (fun _ => ⟨fun _ => k40, fun _ => ⟨hx, ⟨by omega, by omega⟩, s5_isThere _ _ (fun _ => ⟨fun _ => t4_walk _ _ _ (fun r S hR => ?_), fun _ => k40⟩) (fun _ => ⟨fun c => absurd rfl c, fun _ => k40⟩)⟩⟩) (fun _ => ⟨fun _ => k40, fun c => absurd rfl c⟩)⟩
  rintro _ rfl
  have hG := g8_rim hI S hR
  refine ⟨fun _ => h _ _ _ hG, fun _ => ?_⟩
  rw [va_up_self]
  refine t3_take _ _ _ hR hG.1.2.2.2.1 hG.1.2.2.2.2 _ (fun r S2 h7 h8 => ?_)
  rintro _ rfl
  have hG2 := g8_tr hG (g8_gl hG.1 S2 h7 h8)
  refine ⟨fun _ => ?_, fun _ => h _ _ _ hG2⟩
  obtain ⟨e, he, ee⟩ := hG2.1.2.2.2.1
  refine t3_gatherCorners _ _ he ee hG2.1.2.2.1 _ (fun S3 hF3 => ?_)
  rintro _ rfl
  have e7 : fI S3 7 = nI e := fr_ok hF3 (by decide) ee
  have h8b : F50 S3 8 := by
    obtain ⟨v, hv, ev⟩ := hG2.1.2.2.2.2
    exact ⟨v, hv, (hF3 8 (by decide)).1.trans ev⟩
  have hG3 := g8_tr hG2 (g8_gl hG2.1 S3 ⟨e, he, e7⟩ h8b)
  have k118 : ∀ t, w8_glue_b118 t Z (va_up (va_up (va_up X 18 S) 19 S2) 19 S3) Q := by
    intro t
    unfold w8_glue_b118
    rintro _ rfl
    exact t3_cornersInAll _ he (by rw [va_up_self]; exact e7) _ (fun _ => h _ _ _ hG3)
  exact t3_isLegal _ he (by rw [va_up_self]; exact e7) _ (fun _ => ⟨fun _ => k118 _, fun _ => k118 _⟩)
theorem t8_meanAngle (f : Int32) (Z : MS) (X : Nat → MS) (Q : Int32 → MS → (Nat → MS) → Prop) (hI : Inv8 X) (h : ∀ r Z' X', G8 X X' → Q r Z' X') : w8_meanAngle f Z X Q := by
  have hr := g8_rf hI
  unfold w8_meanAngle w8_meanAngle_b82
  refine s8_isFigure _ _ (fun hf => ⟨fun _ => ?_, fun c => absurd c (by decide)⟩) (fun _ => ⟨fun c => absurd rfl c, fun _ => h _ _ _ hr⟩)
  obtain ⟨k, hk, rfl⟩ := vp_in_of hf (by decide)
  rw [nI_clamp (by omega)]
  refine ⟨hf, ⟨by omega, hk⟩, s2_isThere _ _ (fun _ => ⟨fun _ => t4_walk _ _ _ (fun r S hR => ?_), fun c => absurd c (by decide)⟩) (fun _ => ⟨fun c => absurd rfl c, fun _ => t8_refuse _ _ _ _ (fun _ _ => h _ _ _ hr)⟩)⟩
  rintro _ rfl
  have hG := g8_rim hI S hR
  rw [va_up_self]
  refine ⟨fun _ => ⟨fun _ => h _ _ _ hG, fun c => t4_sumOfAngles _ hR _ (fun _ => ⟨fun e => c ?_, h _ _ _ hG⟩)⟩, fun _ => h _ _ _ hG⟩
  rw [e]; decide
theorem t8_count (x : Int32) (Z : MS) (X : Nat → MS) (Q : Int32 → Prop) (h : ∀ r, Q r) : w8_count x Z X Q := by
  unfold w8_count
  refine ⟨fun _ => ?_, fun _ => ?_, fun _ => ?_, fun _ => ?_, fun _ => ?_, fun _ _ _ _ _ => h _⟩
  · unfold w8_figuresThere w8_figuresThere_b4
    refine lp_up 6 (fun z => z.2) (fun _ _ => True) (by decide) ?_ (Nat.zero_le _) (rfl : (0 : Int32) = nI 0) trivial
    rintro K ⟨a, y⟩ k hk hcc - hK
    try dsimp only at hcc hK
    subst hcc
    unfold w8_figuresThere_F4 w8_figuresThere_d4
    try dsimp only
    refine ⟨fun _ => h _, fun c => ?_⟩
    have hlt := nI_go (N := 6) (by decide) hk c
    rw [nI_clamp (by omega)]
    have kk : ∀ v, w8_figuresThere_b28 (fun y0 y1 => K (y0, y1)) (nI k) a v Z X (fun r2 => Q r2) := by
      intro v
      unfold w8_figuresThere_b28
      rintro _ rfl _ rfl
      exact hK (_, _) hlt (nI_1 k) trivial
    exact ⟨vp_in_nI hlt (by decide), ⟨by omega, hlt⟩, s2_isThere _ _ (fun _ => ⟨fun _ => kk _, fun _ => kk _⟩) (fun _ => ⟨fun _ => kk _, fun _ => kk _⟩)⟩
  · unfold w8_squaresInAll w8_squaresInAll_b4
    refine lp_up 6 (fun z => z.2) (fun _ _ => True) (by decide) ?_ (Nat.zero_le _) (rfl : (0 : Int32) = nI 0) trivial
    rintro K ⟨a, y⟩ k hk hcc - hK
    try dsimp only at hcc hK
    subst hcc
    unfold w8_squaresInAll_F4 w8_squaresInAll_d4
    try dsimp only
    refine ⟨fun _ => h _, fun c => ?_⟩
    have hlt := nI_go (N := 6) (by decide) hk c
    rw [nI_clamp (by omega)]
    refine ⟨vp_in_nI hlt (by decide), ⟨by omega, hlt⟩, t13_bitCount _ _ (fun _ => ?_)⟩
    rintro _ rfl _ rfl
    exact hK (_, _) hlt (nI_1 k) trivial
  · unfold w8_boxesThere w8_boxesThere_b4
    refine lp_up 4 (fun z => z.2) (fun _ _ => True) (by decide) ?_ (Nat.zero_le _) (rfl : (0 : Int32) = nI 0) trivial
    rintro K ⟨a, y⟩ k hk hcc - hK
    try dsimp only at hcc hK
    subst hcc
    unfold w8_boxesThere_F4 w8_boxesThere_d4
    try dsimp only
    refine ⟨fun _ => h _, fun c => ?_⟩
    have hlt := nI_go (N := 4) (by decide) hk c
    rw [nI_clamp (by omega)]
    have kk : ∀ v, w8_boxesThere_b27 (fun y0 y1 => K (y0, y1)) (nI k) a v Z X (fun r2 => Q r2) := by
      intro v
      unfold w8_boxesThere_b27
      rintro _ rfl _ rfl
      exact hK (_, _) hlt (nI_1 k) trivial
    exact ⟨vp_in_nI hlt (by decide), ⟨by omega, by omega⟩, s1_isThere _ _ (fun _ => ⟨fun _ => kk _, fun _ => kk _⟩) (fun _ => ⟨fun _ => kk _, fun _ => kk _⟩)⟩
  · unfold w8_cellsInAll w8_cellsInAll_b4
    refine lp_up 4 (fun z => z.2) (fun _ _ => True) (by decide) ?_ (Nat.zero_le _) (rfl : (0 : Int32) = nI 0) trivial
    rintro K ⟨a, y⟩ k hk hcc - hK
    try dsimp only at hcc hK
    subst hcc
    unfold w8_cellsInAll_F4 w8_cellsInAll_d4
    try dsimp only
    refine ⟨fun _ => h _, fun c => ?_⟩
    have hlt := nI_go (N := 4) (by decide) hk c
    rw [nI_clamp (by omega)]
    refine ⟨vp_in_nI hlt (by decide), ⟨by omega, by omega⟩, ?_⟩
    rintro _ rfl _ rfl
    exact hK (_, _) hlt (nI_1 k) trivial
  · unfold w8_rowsThere w8_rowsThere_b4
    refine lp_up 4 (fun z => z.2) (fun _ _ => True) (by decide) ?_ (Nat.zero_le _) (rfl : (0 : Int32) = nI 0) trivial
    rintro K ⟨a, y⟩ k hk hcc - hK
    try dsimp only at hcc hK
    subst hcc
    unfold w8_rowsThere_F4 w8_rowsThere_d4
    try dsimp only
    refine ⟨fun _ => h _, fun c => ?_⟩
    have hlt := nI_go (N := 4) (by decide) hk c
    rw [nI_clamp (by omega)]
    have kk : ∀ v, w8_rowsThere_b27 (fun y0 y1 => K (y0, y1)) (nI k) a v Z X (fun r2 => Q r2) := by
      intro v
      unfold w8_rowsThere_b27
      rintro _ rfl _ rfl
      exact hK (_, _) hlt (nI_1 k) trivial
    exact ⟨vp_in_nI hlt (by decide), ⟨by omega, by omega⟩, s5_isThere _ _ (fun _ => ⟨fun _ => kk _, fun _ => kk _⟩) (fun _ => ⟨fun _ => kk _, fun _ => kk _⟩)⟩
theorem t8_findings (k : Int32) (Z : MS) (X : Nat → MS) (Q : Int32 → Prop) (h : ∀ r, Q r) : w8_findings k Z X Q := by
  have e1 : (1 : Int32).toInt = 1 := rfl
  have e5 : (5 : Int32).toInt = 5 := rfl
  unfold w8_findings w8_findings_b19
  exact s8_within _ _ _ _ (fun hi => ⟨fun _ => h _, fun _ => ⟨pi_in.mpr (by omega), h _⟩⟩) (fun _ => ⟨fun _ => h _, fun c => absurd rfl c⟩)
theorem t8_digest (Z : MS) (X : Nat → MS) (hI : Inv8 X) (Q : Int64 → Prop) (h : ∀ r, Q r) : w8_digest Z X Q := by
  unfold w8_digest w8_digest_b6
  refine lp_up 6 (fun z => z.2) (fun _ _ => True) (by decide) ?_ (Nat.zero_le _) (rfl : (0 : Int32) = nI 0) trivial
  rintro K ⟨a, y⟩ k hk hcc - hK
  try dsimp only at hcc hK
  subst hcc
  unfold w8_digest_F6 w8_digest_d6
  try dsimp only
  rw [nI_clamp (by omega)]
  refine ⟨fun _ => ?_, fun c => ?_⟩
  rotate_left
  · have hlt := nI_go (N := 6) (by decide) hk c
    refine ⟨vp_in_nI hlt (by decide), ⟨by omega, hlt⟩, t2_digestInto _ _ _ (fun r => ?_)⟩
    rintro _ rfl
    exact hK (_, _) hlt (nI_1 k) trivial
  clear hK
  unfold w8_digest_b31
  refine lp_up 4 (fun z => z.2) (fun _ _ => True) (by decide) ?_ (Nat.zero_le _) (rfl : (0 : Int32) = nI 0) trivial
  rintro K ⟨a, y⟩ k hk hcc - hK
  try dsimp only at hcc hK
  subst hcc
  unfold w8_digest_F31 w8_digest_d31
  try dsimp only
  rw [nI_clamp (by omega)]
  refine ⟨fun _ => ?_, fun c => ?_⟩
  rotate_left
  · have hlt := nI_go (N := 4) (by decide) hk c
    refine ⟨vp_in_nI hlt (by decide), ⟨by omega, by omega⟩, t1_digestInto _ _ _ (fun r => ?_)⟩
    rintro _ rfl
    exact hK (_, _) hlt (nI_1 k) trivial
  clear hK
  unfold w8_digest_b55
  refine lp_up 4 (fun z => z.2) (fun _ _ => True) (by decide) ?_ (Nat.zero_le _) (rfl : (0 : Int32) = nI 0) trivial
  rintro K ⟨a, y⟩ k hk hcc - hK
  try dsimp only at hcc hK
  subst hcc
  unfold w8_digest_F55 w8_digest_d55
  try dsimp only
  rw [nI_clamp (by omega)]
  refine ⟨fun _ => h _, fun c => ?_⟩
  have hlt := nI_go (N := 4) (by decide) hk c
  refine ⟨vp_in_nI hlt (by decide), ⟨by omega, by omega⟩, t5_digestInto _ _ (hI.1 k (by omega)) _ (fun r => ?_)⟩
  rintro _ rfl
  exact hK (_, _) hlt (nI_1 k) trivial

/-! ===== pure: numbers and the simplest methods of the reference ===== -/
theorem pi_lt (a b : Int32) : a < b ↔ a.toInt < b.toInt := Int32.lt_iff_toInt_lt
theorem pi_le (a b : Int32) : a ≤ b ↔ a.toInt ≤ b.toInt := Int32.le_iff_toInt_le
theorem pi_eq (a b : Int32) : a = b ↔ a.toInt = b.toInt := ⟨fun h => by rw [h], fun h => Int32.toInt_inj.mp h⟩
theorem pi_in {x : Int32} {n : Nat} : vp_in x n ↔ 0 ≤ x.toInt ∧ x.toInt < n := vp_in_iff
theorem pi_rng (x : Int32) : -2147483648 ≤ x.toInt ∧ x.toInt < 2147483648 := by
  have h1 := Int32.le_toInt x
  have h2 := Int32.toInt_lt x
  constructor <;> omega
/-- a boolean that is 0 or 1 -/
theorem nb0 : narrow .boolean (.int 0) = .int 0 := rfl
theorem nb1 : narrow .boolean (.int 1) = .int 1 := rfl
theorem s9_in (v a b : Int32) (Q : Int32 → Prop) (h1 : (a.toInt ≤ v.toInt ∧ v.toInt ≤ b.toInt) → Q 1) (h0 : ¬ (a.toInt ≤ v.toInt ∧ v.toInt ≤ b.toInt) → Q 0) : w9_in v a b Q := by
  unfold w9_in w9_in_b14 w9_in_b15
  simp only [pi_lt]
  refine ⟨fun c => ⟨rfl, h0 (by omega)⟩, fun c => ⟨fun d => ⟨rfl, h0 (by omega)⟩, fun d => ⟨rfl, h1 (by omega)⟩⟩⟩
theorem s9_isFigure (f : Int32) (Q : Int32 → Prop) (h1 : vp_in f 6 → Q 1) (h0 : ¬ vp_in f 6 → Q 0) : w9_isFigure f Q := by
  unfold w9_isFigure
  refine s9_in _ _ _ _ (fun h => ⟨rfl, h1 (pi_in.mpr ?_)⟩) (fun h => ⟨rfl, h0 (fun q => h ?_)⟩)
  · have e0 : (0 : Int32).toInt = 0 := rfl
    have e5 : (5 : Int32).toInt = 5 := rfl
    omega
  · have e0 : (0 : Int32).toInt = 0 := rfl
    have e5 : (5 : Int32).toInt = 5 := rfl
    have := pi_in.mp q
    omega
theorem s9_isRow (f : Int32) (Q : Int32 → Prop) (h1 : vp_in f 4 → Q 1) (h0 : ¬ vp_in f 4 → Q 0) : w9_isRow f Q := by
  unfold w9_isRow
  refine s9_in _ _ _ _ (fun h => ⟨rfl, h1 (pi_in.mpr ?_)⟩) (fun h => ⟨rfl, h0 (fun q => h ?_)⟩)
  · have e0 : (0 : Int32).toInt = 0 := rfl
    have e5 : (3 : Int32).toInt = 3 := rfl
    omega
  · have e0 : (0 : Int32).toInt = 0 := rfl
    have e5 : (3 : Int32).toInt = 3 := rfl
    have := pi_in.mp q
    omega
theorem s9_isBox (f : Int32) (Q : Int32 → Prop) (h1 : vp_in f 4 → Q 1) (h0 : ¬ vp_in f 4 → Q 0) : w9_isBox f Q := by
  unfold w9_isBox
  refine s9_in _ _ _ _ (fun h => ⟨rfl, h1 (pi_in.mpr ?_)⟩) (fun h => ⟨rfl, h0 (fun q => h ?_)⟩)
  · have e0 : (0 : Int32).toInt = 0 := rfl
    have e5 : (3 : Int32).toInt = 3 := rfl
    omega
  · have e0 : (0 : Int32).toInt = 0 := rfl
    have e5 : (3 : Int32).toInt = 3 := rfl
    have := pi_in.mp q
    omega
theorem s9_meets (w : Int32) (S : MS) (Q : Int32 → MS → Prop) (hw : vp_in w 6) (h : Q (-3) (sA (sI S 0 w) 1 w (rA (sI S 0 w) 1 w + 1))) : w9_meets w S Q := by
  unfold w9_meets
  rintro _ rfl
  refine ⟨hw, ?_⟩
  rintro _ rfl
  exact h

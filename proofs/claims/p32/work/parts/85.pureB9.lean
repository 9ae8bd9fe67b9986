/-! ===== pure: squares and bits of the reference ===== -/
/-- the square k is in the set, as the program tests it -/
def hasB (set : Int64) (k : Int32) : Prop := ¬ k < 0 ∧ (lg_cmp ((set.toUInt64 >>> (k.toInt64.toUInt64 &&& Int64.toUInt64 63)).toInt64 &&& (1 : Int64)) (1 : Int64)) = 0
theorem s9_has (set : Int64) (k : Int32) (Q : Int32 → Prop) (h1 : hasB set k → Q 1) (h0 : ¬ hasB set k → Q 0) : w9_has set k Q := by
  unfold w9_has w9_has_b18 w9_has_b19
  exact ⟨fun c => ⟨rfl, h0 (fun q => q.1 c)⟩, fun c => ⟨fun d => ⟨rfl, h0 (fun q => d q.2)⟩, fun d => ⟨rfl, h1 ⟨c, d⟩⟩⟩⟩
theorem hasB_nneg {set : Int64} {k : Int32} (h : hasB set k) : 0 ≤ k.toInt := by
  have := h.1
  rw [pi_lt] at this
  have e0 : (0 : Int32).toInt = 0 := rfl
  omega
/-- where a way leads: nowhere, or to a square -/
theorem t9_beside (q w : Int32) (Q : Int32 → Prop) (h : ∀ r, (r = -9 ∨ vp_in r 64) → Q r) : w9_beside q w Q := by
  have key : ∀ (x y0 y1 : Int32), w9_beside_b47 q x y0 y1 Q := by
    intro x y0 y1
    unfold w9_beside_b47 w9_beside_b73 w9_beside_b84
    rintro y -
    have e0 : (0 : Int32).toInt = 0 := rfl
    have e7 : (7 : Int32).toInt = 7 := rfl
    refine ⟨fun _ => h _ (Or.inl rfl), fun _ => s9_in _ _ _ _ (fun hx => ⟨fun c => absurd c (by decide), fun _ => s9_in _ _ _ _ (fun hy => ⟨fun _ => h _ (Or.inr ?_), fun c => absurd c (by decide)⟩) (fun _ => ⟨fun c => absurd rfl c, fun _ => h _ (Or.inl rfl)⟩)⟩) (fun _ => ⟨fun _ => h _ (Or.inl rfl), fun c => absurd rfl c⟩)⟩
    obtain ⟨a, ha, rfl⟩ := vp_in_of (n := 8) (pi_in.mpr (by omega) : vp_in x 8) (by omega)
    obtain ⟨b, hb, rfl⟩ := vp_in_of (n := 8) (pi_in.mpr (by omega) : vp_in y 8) (by omega)
    rw [show (8 : Int32) = nI 8 from rfl, pk_mul, nI_add]
    exact vp_in_nI (by omega) (by omega)
  have key2 : ∀ (x0 x1 : Int32), w9_beside_b22 q w x0 x1 Q := by
    intro x0 x1
    unfold w9_beside_b22
    rintro x -
    exact ⟨fun _ => ⟨fun _ => key _ _ _, fun _ => key _ _ _⟩, fun _ => key _ _ _⟩
  unfold w9_beside
  exact ⟨fun _ => ⟨fun _ => key2 _ _, fun _ => key2 _ _⟩, fun _ => key2 _ _⟩

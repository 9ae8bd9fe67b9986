/-! ===== pure: is it a cell? ===== -/
theorem s9_isCell {b : Nat} (hb : b < 4) (x : Int32) (S : MS) (hp : 1 ≤ (cls9 S b).toInt) (Q : Int32 → Prop) (h1 : (0 ≤ x.toInt ∧ x.toInt < (cls9 S b).toInt) → Q 1) (h0 : ¬ (0 ≤ x.toInt ∧ x.toInt < (cls9 S b).toInt) → Q 0) : w9_isCell (nI b) x S Q := by
  unfold w9_isCell
  refine s9_cells hb _ _ ?_
  have e0 : (0 : Int32).toInt = 0 := rfl
  obtain ⟨j, hj, ej⟩ := nI_of (x := cls9 S b) (by rw [pi_lt]; omega)
  have ht : (nI j).toInt = (j : Int) := nI_toInt hj
  rw [ej, ht] at hp h1 h0
  obtain ⟨k, rfl⟩ : ∃ k, j = k + 1 := ⟨j - 1, by omega⟩
  rw [ej, nI_pred]
  have hk : (nI k).toInt = (k : Int) := nI_toInt (by omega)
  exact s9_in _ _ _ _ (fun h => ⟨rfl, h1 (by omega)⟩) (fun h => ⟨rfl, h0 (by omega)⟩)

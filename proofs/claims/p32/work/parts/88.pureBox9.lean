/-! ===== pure: box() of the reference ===== -/
/-- lengths that make a box -/
def boxOK (x y z : Int32) : Prop := (1 ≤ x.toInt ∧ x.toInt ≤ 5) ∧ (1 ≤ y.toInt ∧ y.toInt ≤ 5) ∧ (1 ≤ z.toInt ∧ z.toInt ≤ 5) ∧ ((2 : Int32) * (((x * y) + (y * z)) + (z * x))).toInt ≤ 24
theorem s9_box (x1 x y z : Int32) (S : MS) (Q : Int32 → MS → Prop) (hb : ¬ (vp_in x1 4 ∧ boxOK x y z) → Q (-1) S)
    (hk : ∀ b, b < 4 → x1 = nI b → boxOK x y z → ∀ S', Fr [7] S S' → (∀ c j, c < 4 → j < 3 → dm S' c j = if c = b then (if j = 0 then x else if j = 1 then y else z) else dm S c j) → Q ((2 : Int32) * (((x * y) + (y * z)) + (z * x))) S') : w9_box x1 x y z S Q := by
  unfold w9_box w9_box_b47 w9_cellsOf
  have e1 : (1 : Int32).toInt = 1 := rfl
  have e5 : (5 : Int32).toInt = 5 := rfl
  have e24 : (24 : Int32).toInt = 24 := rfl
  refine s9_isBox _ _ (fun hx1 => ⟨fun c => absurd c (by decide), fun _ => s9_in _ _ _ _ (fun hx => ⟨fun c => absurd c (by decide), fun _ => s9_in _ _ _ _ (fun hy => ⟨fun c => absurd c (by decide), fun _ => s9_in _ _ _ _ (fun hz => ⟨fun c => absurd c (by decide), fun _ => ⟨fun c => ?_, fun c => ?_⟩⟩) (fun hz => ⟨fun _ => hb (fun q => hz ?_), fun c => absurd rfl c⟩)⟩) (fun hy => ⟨fun _ => hb (fun q => hy ?_), fun c => absurd rfl c⟩)⟩) (fun hx => ⟨fun _ => hb (fun q => hx ?_), fun c => absurd rfl c⟩)⟩) (fun hx => ⟨fun _ => hb (fun q => hx q.1), fun c => absurd rfl c⟩)
  · rw [pi_le] at c
    have hok : boxOK x y z := ⟨by omega, by omega, by omega, by omega⟩
    obtain ⟨b, h4, rfl⟩ := vp_in_of hx1 (by omega)
    rw [show ((3 : Int32) * nI b + (1 : Int32)) = (3 : Int32) * nI b + nI 1 from rfl, show ((3 : Int32) * nI b + (2 : Int32)) = (3 : Int32) * nI b + nI 2 from rfl, (ix3 h4 1 (by omega)).1, (ix3 h4 2 (by omega)).1, (ix3z h4).1]
    refine ⟨(ix3z h4).2, ?_⟩
    rintro _ rfl
    refine ⟨(ix3 h4 1 (by omega)).2, ?_⟩
    rintro _ rfl
    refine ⟨(ix3 h4 2 (by omega)).2, ?_⟩
    rintro _ rfl
    have hd : ∀ c j, c < 4 → j < 3 → dm (sA (sA (sA S 7 (nI (3 * b)) x) 7 (nI (3 * b + 1)) y) 7 (nI (3 * b + 2)) z) c j = if c = b then (if j = 0 then x else if j = 1 then y else z) else dm S c j := by
      intro c j hc hj
      unfold dm
      rw [rd_A, rd_A, rd_A, nI_clamp (by omega), nI_clamp (by omega), nI_clamp (by omega)]
      unfold upd
      by_cases hcb : c = b
      · subst hcb
        rcases (show j = 0 ∨ j = 1 ∨ j = 2 by omega) with rfl | rfl | rfl <;> simp
      · rw [if_neg (by omega), if_neg (by omega), if_neg (by omega), if_neg hcb]
    refine s9_cells h4 _ _ ?_
    have ec : cls9 (sA (sA (sA S 7 (nI (3 * b)) x) 7 (nI (3 * b + 1)) y) 7 (nI (3 * b + 2)) z) b = (2 : Int32) * (((x * y) + (y * z)) + (z * x)) := by
      unfold cls9
      rw [hd b 0 h4 (by omega), hd b 1 h4 (by omega), hd b 2 h4 (by omega)]
      simp
    rw [ec]
    exact hk b h4 rfl hok _ (fr_tr (fr_tr (fr_sA (by decide)) (fr_sA (by decide))) (fr_sA (by decide))) hd
  · rw [pi_le] at c
    exact hb (fun q => c (by have := q.2.2.2.2; omega))
  · have := q.2.2.2.1; omega
  · have := q.2.2.1; omega
  · have := q.2.1; omega

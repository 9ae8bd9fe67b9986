/-! ===== pure: directions ===== -/
theorem s9_sign (d : Int32) (Q : Int32 → Prop) (h : Q (if (d - d / 2 * 2) = 0 then 1 else -1)) : w9_sign d Q := by
  unfold w9_sign w9_sign_b11
  refine ⟨fun c => ?_, fun c => ?_⟩
  · rw [if_neg c] at h; exact h
  · rw [if_pos c] at h; exact h
theorem s9_wayNow (w : Int32) (S : MS) (Q : Int32 → Prop) (h : Q (if w = 0 then fI S 10 else if w = 1 then fI S 11 else if w = 2 then fI S 10 ^^^ 1 else fI S 11 ^^^ 1)) : w9_wayNow w S Q := by
  unfold w9_wayNow w9_wayNow_b43
  refine ⟨fun c => ⟨fun c1 => ⟨fun c2 => ?_, fun c2 => ?_⟩, fun c1 => ?_⟩, fun c => ?_⟩
  · rw [if_neg c, if_neg c1, if_neg c2] at h; exact h
  · rw [if_neg c, if_neg c1, if_pos c2] at h; exact h
  · rw [if_neg c, if_pos c1] at h; exact h
  · rw [if_pos c] at h; exact h

/-! ===== pure: a side's size ===== -/
def ax1 (a : Nat) : Nat := if a = 0 then 1 else 0
def ax2 (a : Nat) : Nat := if a = 2 then 1 else 2
def sdS (S : MS) (b s : Nat) : Int32 := dm S b (ax1 (s / 2)) * dm S b (ax2 (s / 2))
theorem rd_dm {b : Nat} (hb : b < 4) (S : MS) (j : Nat) (hj : j < 3) : rA S 7 (nI (3 * b + j)) = dm S b j := by
  show aI S 7 (nI (3 * b + j)).toNatClampNeg = _
  rw [nI_clamp (by omega)]; rfl
theorem s9_sideSize {b s : Nat} (hb : b < 4) (hs : s < 6) (S : MS) (Q : Int32 → Prop) (h : Q (sdS S b s)) : w9_sideSize (nI b) (nI s) S Q := by
  unfold w9_sideSize w9_sideSize_b20 w9_sideSize_b39
  rintro _ rfl
  rw [show (2 : Int32) = nI 2 from rfl, pk_div (by omega) (by omega) (by omega), show (0 : Int32) = nI 0 from rfl, show (1 : Int32) = nI 1 from rfl, (ix3 hb 0 (by omega)).1, (ix3 hb 1 (by omega)).1, (ix3 hb 2 (by omega)).1, rd_dm hb S 0 (by omega), rd_dm hb S 1 (by omega), rd_dm hb S 2 (by omega)]
  unfold sdS ax1 ax2 at h
  have c0 : nI (s / 2) = nI 0 ↔ s / 2 = 0 := nI_eq (by omega) (by omega)
  have c2 : nI (s / 2) = nI 2 ↔ s / 2 = 2 := nI_eq (by omega) (by omega)
  refine ⟨fun d => ⟨(ix3 hb 0 (by omega)).2, fun d2 => ⟨(ix3 hb 2 (by omega)).2, ?_⟩, fun d2 => ⟨(ix3 hb 1 (by omega)).2, ?_⟩⟩, fun d => ⟨(ix3 hb 1 (by omega)).2, fun d2 => ⟨(ix3 hb 2 (by omega)).2, ?_⟩, fun d2 => ⟨(ix3 hb 1 (by omega)).2, ?_⟩⟩⟩
  · rw [c0] at d; rw [c2] at d2; rw [if_neg d, if_neg d2] at h; exact h
  · rw [c0] at d; rw [c2] at d2; rw [if_neg d, if_pos d2] at h; exact h
  · rw [c0] at d; rw [c2] at d2; rw [if_pos d, if_neg d2] at h; exact h
  · rw [c0] at d; rw [c2] at d2; omega

/-! ===== pure: directions and frames on a box ===== -/
theorem br_n {c A B : Prop} (h : ¬ c) (a : A) : (¬ c → A) ∧ (c → B) := ⟨fun _ => a, fun q => absurd q h⟩
theorem br_m {c A B : Prop} (h : c) (b : B) : (¬ c → A) ∧ (c → B) := ⟨fun q => absurd h q, fun _ => b⟩
def sg (k : Nat) : Int32 := if k % 2 = 0 then 1 else -1
theorem s9_sgn {k : Nat} (hk : k < 6) (Q : Int32 → Prop) (h : Q (sg k)) : w9_sign (nI k) Q := by
  refine s9_sign _ _ ?_
  have e : ∀ k, k < 6 → (if (nI k - nI k / 2 * 2) = 0 then (1 : Int32) else -1) = sg k := by decide +kernel
  rw [e k hk]
  exact h
def bR (s : Nat) : Nat := match s with | 0 => 3 | 1 => 2 | 2 => 0 | 3 => 1 | 4 => 1 | _ => 0
def bU (s : Nat) : Nat := if 3 < s then 2 else 4
theorem s9_baseUp {s : Nat} (hs : s < 6) (Q : Int32 → Prop) (h : Q (nI (bU s))) : w9_baseUp (nI s) Q := by
  unfold w9_baseUp w9_baseUp_b10
  refine ⟨fun c => ?_, fun c => ?_⟩
  · have := (nI_leI (a := s) (b := 3) (by omega) (by decide)).mp c
    unfold bU at h
    rw [if_neg (by omega)] at h
    exact h
  · have : ¬ s ≤ 3 := fun q => c (nI_le q (by decide))
    unfold bU at h
    rw [if_pos (by omega)] at h
    exact h
theorem s9_baseRight {s : Nat} (hs : s < 6) (Q : Int32 → Prop) (h : Q (nI (bR s))) : w9_baseRight (nI s) Q := by
  unfold w9_baseRight w9_cross w9_cross_b28 w9_cross_b50 w9_cross_b59
  refine s9_baseUp hs _ ?_
  unfold w9_sign w9_sign_b11
  rintro _ rfl
  rcases (show s = 0 ∨ s = 1 ∨ s = 2 ∨ s = 3 ∨ s = 4 ∨ s = 5 by omega) with rfl | rfl | rfl | rfl | rfl | rfl
  all_goals
    repeat' (first
      | exact ek_v (P := Q) (by decide +kernel) h
      | refine br_t (by decide +kernel) ?_
      | refine br_f (by decide +kernel) ?_
      | refine br_n (by decide +kernel) ?_
      | refine br_m (by decide +kernel) ?_)
/-- the frame of a side with so many quarters -/
def frm (s : Nat) : Nat → Nat × Nat
  | 0 => (bR s, bU s)
  | t + 1 => ((frm s t).2, (frm s t).1 ^^^ 1)
def FrO (s r u : Nat) : Prop := r < 6 ∧ u < 6 ∧ r / 2 ≠ s / 2 ∧ u / 2 ≠ s / 2 ∧ r / 2 ≠ u / 2
theorem frm_ok : ∀ s, s < 6 → ∀ t, t < 4 → (frm s t).1 < 6 ∧ (frm s t).2 < 6 ∧ (frm s t).1 / 2 ≠ s / 2 ∧ (frm s t).2 / 2 ≠ s / 2 ∧ (frm s t).1 / 2 ≠ (frm s t).2 / 2 := by decide +kernel
theorem x1_ok : ∀ a, a < 6 → a ^^^ 1 < 6 ∧ (a ^^^ 1) / 2 = a / 2 ∧ (a ^^^ 1) % 2 = 1 - a % 2 := by decide +kernel
theorem x1_I (a : Nat) : nI a ^^^ (1 : Int32) = nI (a ^^^ 1) := fb_xorI a 1
theorem s9_setFrame {s t : Nat} (hs : s < 6) (ht : t < 4) (S : MS) (h8 : fI S 8 = nI s) (Q : MS → Prop) (h : ∀ S', Fr [10, 11] S S' → fI S' 10 = nI (frm s t).1 → fI S' 11 = nI (frm s t).2 → Q S') : w9_setFrame (nI t) S Q := by
  unfold w9_setFrame
  rw [h8]
  refine s9_baseRight hs _ ?_
  rintro _ rfl
  have e8 : fI (sI S 10 (nI (bR s))) 8 = nI s := h8
  rw [e8]
  refine s9_baseUp hs _ ?_
  rintro _ rfl
  unfold w9_setFrame_b24
  refine lp_up t (fun z => z.1) (fun k z => Fr [10, 11] S z.2 ∧ fI z.2 10 = nI (frm s k).1 ∧ fI z.2 11 = nI (frm s k).2) (by omega) ?_ (Nat.zero_le _) (rfl : (0 : Int32) = nI 0) ⟨fr_tr (fr_sI (by decide)) (fr_sI (by decide)), rfl, rfl⟩
  rintro K ⟨y, S1⟩ k hk hc ⟨hF, hr, hu⟩ hK
  try dsimp only at hc hF hr hu hK
  subst hc
  unfold w9_setFrame_F24 w9_setFrame_d24
  try dsimp only
  refine ⟨fun c => ?_, fun c => ?_⟩
  · have e := nI_end (N := t) (by omega) hk c
    subst e
    exact h _ hF hr hu
  · have hlt := nI_go (N := t) (by omega) hk c
    rintro _ rfl _ rfl _ rfl _ rfl
    refine hK (_, _) hlt (nI_1 k) ⟨fr_tr hF (fr_tr (fr_sI (by decide)) (fr_sI (by decide))), ?_, ?_⟩
    · exact hu
    · dsimp only
      rw [rd_fI, hr, x1_I]
      rfl
theorem s9_turnNow {s : Nat} (hs : s < 6) (S : MS) (h8 : fI S 8 = nI s) (Q : Int32 → Prop) (h : ∀ t, t < 4 → Q (nI t)) : w9_turnNow S Q := by
  unfold w9_turnNow w9_turnNow_b57
  rw [h8]
  refine s9_baseRight hs _ (s9_baseUp hs _ ?_)
  exact ⟨fun _ => ⟨fun _ => ⟨fun _ => h 3 (by decide), fun _ => h 2 (by decide)⟩, fun _ => h 1 (by decide)⟩, fun _ => h 0 (by decide)⟩

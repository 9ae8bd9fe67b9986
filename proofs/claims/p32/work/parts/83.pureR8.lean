/-! ===== pure: the rows of the class ===== -/
theorem s8_within (v a b : Int32) (Q : Int32 → Prop) (h1 : (a.toInt ≤ v.toInt ∧ v.toInt ≤ b.toInt) → Q 1) (h0 : ¬ (a.toInt ≤ v.toInt ∧ v.toInt ≤ b.toInt) → Q 0) : w8_within v a b Q := by
  unfold w8_within w8_within_b14 w8_within_b15
  simp only [pi_lt]
  refine ⟨fun c => ⟨rfl, h0 (by omega)⟩, fun c => ⟨fun d => ⟨rfl, h0 (by omega)⟩, fun d => ⟨rfl, h1 (by omega)⟩⟩⟩
theorem s8_isRow (f : Int32) (Q : Int32 → Prop) (h1 : vp_in f 4 → Q 1) (h0 : ¬ vp_in f 4 → Q 0) : w8_isRow f Q := by
  unfold w8_isRow
  have e0 : (0 : Int32).toInt = 0 := rfl
  have e3 : (3 : Int32).toInt = 3 := rfl
  refine s8_within _ _ _ _ (fun h => ⟨rfl, h1 (pi_in.mpr (by omega))⟩) (fun h => ⟨rfl, h0 (fun q => h ?_)⟩)
  have := pi_in.mp q
  omega
theorem s8_refuse (w : Int32) (Z : MS) (X : Nat → MS) (Q : Int32 → MS → Prop) (h : ∀ Z', Fr [9, 10] Z Z' → Q (-3) Z') : w8_refuse w Z X Q := by
  unfold w8_refuse w8_refuse_b24
  have e0 : (1 : Int32).toInt = 1 := rfl
  have e3 : (5 : Int32).toInt = 5 := rfl
  refine s8_within _ _ _ _ (fun hw => ⟨fun c => absurd c (by decide), fun _ => ?_⟩) (fun _ => ⟨fun _ => h _ fr_rf, fun c => absurd rfl c⟩)
  rintro _ rfl
  refine ⟨pi_in.mpr (by omega), ?_⟩
  rintro _ rfl
  exact h _ (fr_tr (fr_sI (by decide)) (fr_sA (by decide)))
theorem s7_fill (n : Nat) (hn : n < 2 ^ 31) (v : Int32) (f : Nat → Int32) (Q : (Nat → Int32) → Prop) (h : ∀ g, (∀ j, j < n → g j = v) → Q g) : w7_fill_53178 n v f Q := by
  unfold w7_fill_53178 w7_fill_53178_b5
  rintro _ rfl
  refine lp_of (fun z : Int32 × (Nat → Int32) => ∃ k : Nat, k ≤ n ∧ z.1 = nI k ∧ ∀ j, j < k → z.2 j = v) (fun z => n - z.1.toNatClampNeg) ?_ ⟨0, by omega, rfl, fun j hj => absurd hj (Nat.not_lt_zero j)⟩
  rintro K ⟨x, g⟩ ⟨k, hk, rfl, hg⟩ hK
  dsimp only at *
  unfold w7_fill_53178_F5 w7_fill_53178_d5
  refine ⟨fun c => h g (fun j hj => hg j ?_), fun c => ?_⟩
  · have := (nI_leI hn (by omega : k < 2 ^ 31)).mp c
    omega
  · have hlt : k < n := by
      rcases Nat.lt_or_ge k n with q | q
      · exact q
      · exact absurd (nI_le q (by omega)) c
    refine ⟨vp_in_nI hlt hn, ?_⟩
    rintro _ rfl _ rfl
    refine hK (nI k + 1, _) ⟨k + 1, by omega, nI_1 k, fun j hj => ?_⟩ ?_
    · rw [nI_clamp (by omega)]
      by_cases e : j = k
      · rw [e]; exact pk_us
      · exact (pk_un e).trans (hg j (by omega))
    · show n - (nI k + 1).toNatClampNeg < n - (nI k).toNatClampNeg
      rw [nI_1, nI_clamp (by omega), nI_clamp (by omega)]
      omega
/-- a row that begins: its places are 0, its size is n (0 to 24) -/
theorem s5_begin (n : Int32) (S : MS) (Q : MS → Prop) (h0 : 0 ≤ n.toInt) (h1 : n.toInt ≤ 24) (h : ∀ S', (∀ j, j < 24 → aI S' 0 j = 0) → fI S' 1 = n → Q S') : w5_begin n S Q := by
  unfold w5_begin
  refine s7_fill 24 (by omega) _ _ _ (fun g hg => ?_)
  rintro _ rfl _ rfl
  have e0 : (0 : Int32).toInt = 0 := rfl
  have e24 : (24 : Int32).toInt = 24 := rfl
  have e1 : ¬ (24 : Int32) < n := by rw [pi_lt]; omega
  rw [if_neg e1]
  have e2 : (if (0 : Int32) < n then n else 0) = n := by
    by_cases c : (0 : Int32) < n
    · rw [if_pos c]
    · rw [if_neg c]
      rw [pi_lt] at c
      exact ((pi_eq n 0).mpr (by omega)).symm
  rw [e2]
  refine h _ (fun j hj => ?_) (rd_fI _ _ _)
  have e3 : aI (sI (pA S 0 g) 1 n) 0 = g := rd_aI S 0 g
  rw [e3]
  exact hg j hj
theorem s8_row (r n : Int32) (Z : MS) (X : Nat → MS) (Q : Int32 → MS → (Nat → MS) → Prop) (hb : (¬ vp_in r 4 ∨ ¬ n.toInt ≤ 24) → Q (-1) Z X) (hs : vp_in r 4 → n.toInt < 0 → ∀ Z', Fr [9, 10] Z Z' → Q (-3) Z' X)
    (hk : vp_in r 4 → 0 ≤ n.toInt → n.toInt ≤ 24 → ∀ S', (∀ j, j < 24 → aI S' 0 j = 0) → fI S' 1 = n → Q n Z (va_up X (10 + r.toNatClampNeg) S')) : w8_row r n Z X Q := by
  unfold w8_row w8_row_b13
  have e0 : (0 : Int32).toInt = 0 := rfl
  have e24 : (24 : Int32).toInt = 24 := rfl
  refine s8_isRow _ _ (fun hr => ⟨fun c => absurd c (by decide), fun _ => ⟨fun c => ⟨fun d => ⟨hr, ?_⟩, fun d => ?_⟩, fun c => ?_⟩⟩) (fun hr => ⟨fun _ => hb (Or.inl hr), fun c => absurd rfl c⟩)
  · rw [pi_le] at c d
    have hlt : r.toNatClampNeg < 4 := Nat.not_le.mp fun q => hr (Or.inr q)
    refine ⟨⟨by omega, by omega⟩, s5_begin _ _ _ (by omega) (by omega) (fun S' h1 h2 => ?_)⟩
    rintro _ rfl
    exact hk hr (by omega) (by omega) S' h1 h2
  · rw [pi_le] at d
    exact s8_refuse _ _ _ _ (fun Z' h => hs hr (by omega) Z' h)
  · rw [pi_le] at c
    exact hb (Or.inr (by omega))

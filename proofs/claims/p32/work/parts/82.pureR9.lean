/-! ===== pure: the rows of the reference ===== -/
theorem s9_row (r n : Int32) (S : MS) (Q : Int32 → MS → Prop) (hb : (¬ vp_in r 4 ∨ ¬ n.toInt ≤ 24) → Q (-1) S) (hs : vp_in r 4 → n.toInt < 0 → ∀ S', Fr [0, 1] S S' → Q (-3) S')
    (hk : vp_in r 4 → 0 ≤ n.toInt → n.toInt ≤ 24 → ∀ S', Fr [40, 41] S S' → aI S' 40 = upd (aI S 40) r.toNatClampNeg n → Q n S') : w9_row r n S Q := by
  unfold w9_row w9_row_b13
  refine s9_isRow _ _ (fun hr => ⟨fun c => absurd c (by decide), fun _ => ⟨fun c => ⟨fun d => ⟨hr, ?_⟩, fun d => ?_⟩, fun c => ?_⟩⟩) (fun hr => ⟨fun _ => hb (Or.inl hr), fun c => absurd rfl c⟩)
  · rintro _ rfl
    obtain ⟨a, ha, rfl⟩ := vp_in_of hr (by omega)
    have e24 : (24 : Int32).toInt = 24 := rfl
    have e0 : (0 : Int32).toInt = 0 := rfl
    rw [pi_le] at c d
    unfold w9_row_b34
    refine lp_of (fun z : Int32 × MS => ∃ k : Nat, k ≤ 24 ∧ z.1 = nI k ∧ Fr [40, 41] S z.2 ∧ aI z.2 40 = upd (aI S 40) (nI a).toNatClampNeg n) (fun z => 24 - z.1.toNatClampNeg) ?_ ⟨0, by omega, rfl, fr_sA (by decide), rd_A _ _ _ _⟩
    rintro K ⟨x, S'⟩ ⟨k, hk24, rfl, hF, hA⟩ hK
    dsimp only at *
    unfold w9_row_F34 w9_row_d34
    refine ⟨fun _ => hk hr (by omega) (by omega) S' hF hA, fun c2 => ?_⟩
    have hlt : k < 24 := by
      rcases Nat.lt_or_ge k 24 with q | q
      · exact q
      · exact absurd (nI_le (a := 24) (b := k) q (by omega)) c2
    have ei : (24 : Int32) * nI a + nI k = nI (24 * a + k) := by
      rw [show (24 : Int32) = nI 24 from rfl, pk_mul, nI_add]
    rw [ei]
    refine ⟨vp_in_nI (by omega) (by omega), ?_⟩
    rintro _ rfl _ rfl
    refine hK (nI k + 1, _) ⟨k + 1, by omega, nI_1 k, fr_tr hF (fr_sA (by decide)), ?_⟩ ?_
    · exact ((fr_sA (ks := [41]) (by decide)) 40 (by decide)).2.2.1.trans hA
    · show 24 - (nI k + 1).toNatClampNeg < 24 - (nI k).toNatClampNeg
      rw [nI_1, nI_clamp (by omega), nI_clamp (by omega)]
      omega
  · rw [pi_le] at d
    have e0 : (0 : Int32).toInt = 0 := rfl
    refine s9_meets _ _ _ (by unfold vp_in; decide) (hs hr (by omega) _ (fr_tr (fr_sI (by decide)) (fr_sA (by decide))))
  · rw [pi_le] at c
    have e24 : (24 : Int32).toInt = 24 := rfl
    exact hb (Or.inr (by omega))

/-! ===== pure: the boxes of the reference ===== -/
theorem ix3 {b : Nat} (hb : b < 4) (j : Nat) (hj : j < 3) : (3 : Int32) * nI b + nI j = nI (3 * b + j) ∧ vp_in (nI (3 * b + j)) 12 := by
  refine ⟨by rw [show (3 : Int32) = nI 3 from rfl, pk_mul, nI_add], vp_in_nI (by omega) (by omega)⟩
theorem ix3z {b : Nat} (hb : b < 4) : (3 : Int32) * nI b = nI (3 * b) ∧ vp_in (nI (3 * b)) 12 :=
  ⟨by rw [show (3 : Int32) = nI 3 from rfl, pk_mul], vp_in_nI (by omega) (by omega)⟩
/-- a length of a box -/
def dm (S : MS) (b j : Nat) : Int32 := aI S 7 (3 * b + j)
theorem s9_lookedBox (x : Int32) (S : MS) (Q : Int32 → MS → Prop) (hb : ¬ vp_in x 4 → Q (-1) S) (hn : ∀ b, b < 4 → x = nI b → dm S b 0 = 0 → ∀ S', Fr [0, 1] S S' → Q (-3) S') (hk : ∀ b, b < 4 → x = nI b → ¬ dm S b 0 = 0 → Q 0 S) : w9_lookedBox x S Q := by
  unfold w9_lookedBox w9_lookedBox_b31
  refine s9_isBox _ _ (fun hx => ⟨fun _ => ?_, fun c => absurd c (by decide)⟩) (fun hx => ⟨fun c => absurd rfl c, fun _ => hb hx⟩)
  obtain ⟨b, h4, rfl⟩ := vp_in_of hx (by omega)
  rw [(ix3z h4).1]
  have er : rA S 7 (nI (3 * b)) = dm S b 0 := by
    show aI S 7 (nI (3 * b)).toNatClampNeg = aI S 7 (3 * b + 0)
    rw [nI_clamp (by omega), Nat.add_zero]
  rw [er]
  exact ⟨(ix3z h4).2, fun c => hk b h4 rfl c, fun c => s9_meets _ _ _ (by unfold vp_in; decide) (hn b h4 rfl c _ (fr_tr (fr_sI (by decide)) (fr_sA (by decide))))⟩
/-- how many cells, as the program reckons it -/
def cls9 (S : MS) (b : Nat) : Int32 := (2 : Int32) * (((dm S b 0 * dm S b 1) + (dm S b 1 * dm S b 2)) + (dm S b 2 * dm S b 0))
theorem s9_cells {b : Nat} (hb : b < 4) (S : MS) (Q : Int32 → Prop) (h : Q (cls9 S b)) : w9_cells (nI b) S Q := by
  unfold w9_cells w9_cellsOf
  rw [show (1 : Int32) = nI 1 from rfl, show ((3 : Int32) * nI b + (2 : Int32)) = (3 : Int32) * nI b + nI 2 from rfl, (ix3 hb 1 (by omega)).1, (ix3 hb 2 (by omega)).1, (ix3z hb).1]
  have e : ∀ j, j < 3 → rA S 7 (nI (3 * b + j)) = dm S b j := fun j hj => by
    show aI S 7 (nI (3 * b + j)).toNatClampNeg = _
    rw [nI_clamp (by omega)]; rfl
  have e0 : rA S 7 (nI (3 * b)) = dm S b 0 := e 0 (by omega)
  rw [e0, e 1 (by omega), e 2 (by omega)]
  exact ⟨(ix3z hb).2, (ix3 hb 1 (by omega)).2, (ix3 hb 2 (by omega)).2, h⟩

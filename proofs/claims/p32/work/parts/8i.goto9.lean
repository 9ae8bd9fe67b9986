/-! ===== pure: from a cell to its place and back ===== -/
def sz (d : Nat → Nat) (s : Nat) : Nat := d (ax1 (s / 2)) * d (ax2 (s / 2))
def pre (d : Nat → Nat) : Nat → Nat
  | 0 => 0
  | s + 1 => pre d s + sz d s
theorem pre_6 (d : Nat → Nat) : pre d 6 = tot d := by
  have e0 : sz d 0 = d 1 * d 2 := rfl
  have e1 : sz d 1 = d 1 * d 2 := rfl
  have e2 : sz d 2 = d 0 * d 2 := rfl
  have e3 : sz d 3 = d 0 * d 2 := rfl
  have e4 : sz d 4 = d 0 * d 1 := rfl
  have e5 : sz d 5 = d 0 * d 1 := rfl
  unfold tot
  show pre d 0 + sz d 0 + sz d 1 + sz d 2 + sz d 3 + sz d 4 + sz d 5 = _
  rw [e0, e1, e2, e3, e4, e5, Nat.mul_comm (d 2) (d 0), show pre d 0 = 0 from rfl]
  omega
theorem pre_mono (d : Nat → Nat) {s t : Nat} (h : s ≤ t) : pre d s ≤ pre d t := by
  induction t with
  | zero => rw [show s = 0 by omega]; exact Nat.le_refl _
  | succ t ih =>
    rcases Nat.lt_or_ge s (t + 1) with q | q
    · exact Nat.le_trans (ih (by omega)) (Nat.le_add_right _ _)
    · rw [show s = t + 1 by omega]; exact Nat.le_refl _
theorem pre_le {d : Nat → Nat} {s : Nat} (hs : s < 6) : pre d s + sz d s ≤ tot d := by
  rw [← pre_6]
  exact pre_mono d (s := s + 1) hs
theorem ax_lt : ∀ a, a < 3 → ax1 a < 3 ∧ ax2 a < 3 ∧ ax1 a ≠ a ∧ ax2 a ≠ a ∧ ax1 a ≠ ax2 a := by decide
theorem ax_3 : ∀ a, a < 3 → ∀ j, j < 3 → j ≠ a → j ≠ ax1 a → j = ax2 a := by decide
theorem cls_N {S : MS} {b : Nat} {d : Nat → Nat} (h : BoxN S b d) : cls9 S b = nI (tot d) := by
  unfold cls9 tot
  rw [(h.1 0 (by decide)).2.2, (h.1 1 (by decide)).2.2, (h.1 2 (by decide)).2.2, show (2 : Int32) = nI 2 from rfl]
  simp only [pk_mul, nI_add]
theorem sds_N {S : MS} {b s : Nat} {d : Nat → Nat} (hs : s < 6) (h : BoxN S b d) : sdS S b s = nI (sz d s) := by
  unfold sdS sz
  have ha := ax_lt (s / 2) (by omega)
  rw [(h.1 _ ha.1).2.2, (h.1 _ ha.2.1).2.2, pk_mul]
/-- where one is: the side, and each letter twice -/
def At (S : MS) (s : Nat) (p : Nat → Nat) : Prop := fI S 8 = nI s ∧ ∀ j, j < 3 → aI S 9 j = nI (p j)
def Ok (d : Nat → Nat) (s : Nat) (p : Nat → Nat) : Prop := (∀ j, j < 3 → j ≠ s / 2 → p j % 2 = 1 ∧ p j < 2 * d j) ∧ p (s / 2) = if s % 2 = 0 then 0 else 2 * d (s / 2)
def posOf (d : Nat → Nat) (s l : Nat) : Nat → Nat := fun j => if j = s / 2 then (if s % 2 = 0 then 0 else 2 * d (s / 2)) else if j = ax1 (s / 2) then 2 * (l / d (ax2 (s / 2))) + 1 else 2 * (l % d (ax2 (s / 2))) + 1
def cellOf (d : Nat → Nat) (s : Nat) (p : Nat → Nat) : Nat := pre d s + p (ax1 (s / 2)) / 2 * d (ax2 (s / 2)) + p (ax2 (s / 2)) / 2
theorem posOf_ok {d : Nat → Nat} {s l : Nat} (hs : s < 6) (hd : ∀ j, j < 3 → 1 ≤ d j) (hl : l < sz d s) : Ok d s (posOf d s l) := by
  have ha := ax_lt (s / 2) (by omega)
  have hO := hd _ ha.2.1
  have h1 : l / d (ax2 (s / 2)) < d (ax1 (s / 2)) := (Nat.div_lt_iff_lt_mul (by omega)).mpr hl
  have h2 : l % d (ax2 (s / 2)) < d (ax2 (s / 2)) := Nat.mod_lt _ (by omega)
  refine ⟨fun j hj hn => ?_, ?_⟩
  · unfold posOf
    rw [if_neg hn]
    by_cases e : j = ax1 (s / 2)
    · rw [if_pos e, e]; omega
    · have e2 : j = ax2 (s / 2) := ax_3 _ (by omega) j hj hn e
      rw [if_neg e, e2]; omega
  · unfold posOf
    rw [if_pos rfl]
theorem cell_lt {d : Nat → Nat} {s : Nat} {p : Nat → Nat} (hs : s < 6) (h : Ok d s p) : cellOf d s p < tot d := by
  have ha := ax_lt (s / 2) (by omega)
  have h1 := h.1 _ ha.1 ha.2.2.1
  have h2 := h.1 _ ha.2.1 ha.2.2.2.1
  have hp := pre_le (d := d) hs
  unfold cellOf
  unfold sz at hp
  generalize p (ax1 (s / 2)) = x at *
  generalize p (ax2 (s / 2)) = y at *
  generalize d (ax1 (s / 2)) = F at *
  generalize d (ax2 (s / 2)) = O at *
  have q1 : x / 2 + 1 ≤ F := by omega
  have q2 := Nat.mul_le_mul_right O q1
  rw [Nat.add_mul, Nat.one_mul] at q2
  omega
theorem cell_pos {d : Nat → Nat} {s l : Nat} (hs : s < 6) : cellOf d s (posOf d s l) = pre d s + l := by
  have ha := ax_lt (s / 2) (by omega)
  unfold cellOf posOf
  rw [if_neg ha.2.2.1, if_pos rfl, if_neg ha.2.2.2.1, if_neg (fun e => ha.2.2.2.2 e.symm)]
  have e1 : (2 * (l / d (ax2 (s / 2))) + 1) / 2 = l / d (ax2 (s / 2)) := by omega
  have e2 : (2 * (l % d (ax2 (s / 2))) + 1) / 2 = l % d (ax2 (s / 2)) := by omega
  rw [e1, e2, Nat.add_assoc, Nat.div_add_mod']
theorem s9_goTo {b c : Nat} {d : Nat → Nat} (hb : b < 4) (S : MS) (hB : BoxN S b d) (hc : c < tot d) (Q : MS → Prop) (h : ∀ S' s l, s < 6 → l < sz d s → c = pre d s + l → Fr [8, 9] S S' → At S' s (posOf d s l) → Q S') : w9_goTo (nI b) (nI c) S Q := by
  unfold w9_goTo
  rintro _ rfl
  unfold w9_goTo_b7
  have h24 := hB.2
  refine lp_of (fun z : Int32 × MS => ∃ s l, s < 6 ∧ z.1 = nI l ∧ c = pre d s + l ∧ Fr [8, 9] S z.2 ∧ fI z.2 8 = nI s) (fun z => 6 - (fI z.2 8).toNatClampNeg) ?_ ⟨0, c, by omega, rfl, (Nat.zero_add c).symm, fr_sI (by decide), rfl⟩
  rintro K ⟨y, S1⟩ ⟨s, l, hs, hl, hcl, hF, h8⟩ hK
  try dsimp only at hl hF h8 hK
  subst hl
  have hB1 : BoxN S1 b d := boxN_fr hF (by decide) hB
  have hsz := pre_le (d := d) hs
  unfold w9_goTo_F7 w9_goTo_d7
  try dsimp only
  rw [h8]
  refine s9_sideSize hb hs _ _ ?_
  rw [sds_N hs hB1]
  refine ⟨fun cc => ?_, fun cc => ?_⟩
  · have hlt : l < sz d s := (nI_ltI (by omega) (by omega)).mp cc
    rw [show nI s / (2 : Int32) = nI (s / 2) from pk_div (by omega) (by decide) (by decide)]
    have ha := ax_lt (s / 2) (by omega)
    have k110 : w9_goTo_b110 (nI b) (nI l) (nI (ax1 (s / 2))) (nI (ax2 (s / 2))) (nI (s / 2)) (nI (if s % 2 = 0 then 0 else 2 * d (s / 2))) S1 Q := by
      unfold w9_goTo_b110
      rw [(ix3 hb _ ha.2.1).1]
      refine ⟨vp_in_nI (by omega) (by decide), ?_⟩
      rintro _ rfl
      have hB2 : BoxN (sA S1 9 (nI (s / 2)) (nI (if s % 2 = 0 then 0 else 2 * d (s / 2)))) b d := boxN_fr (ks := [9]) (fr_sA (by decide)) (by decide) hB1
      have hd2 := hB2.1 _ ha.2.1
      rw [rd_dm hb _ _ ha.2.1, hd2.2.2]
      refine ⟨(ix3 hb _ ha.2.1).2, nI_ne0 (by omega) (by omega), vp_in_nI ha.1 (by decide), ?_⟩
      rintro _ rfl
      rw [pk_div (by omega) (by omega) (by omega)]
      have hB3 : BoxN (sA (sA S1 9 (nI (s / 2)) (nI (if s % 2 = 0 then 0 else 2 * d (s / 2)))) 9 (nI (ax1 (s / 2))) ((2 : Int32) * nI (l / d (ax2 (s / 2))) + 1)) b d := boxN_fr (ks := [9]) (fr_sA (by decide)) (by decide) hB2
      rw [rd_dm hb _ _ ha.2.1, (hB3.1 _ ha.2.1).2.2]
      refine ⟨nI_ne0 (by omega) (by omega), vp_in_nI ha.2.1 (by decide), ?_⟩
      rintro _ rfl
      rw [pk_rem (by omega) (by omega) (by omega), show (2 : Int32) = nI 2 from rfl, pk_mul, pk_mul, nI_1, nI_1]
      refine h _ s l hs hlt hcl (fr_tr hF (fr_tr (fr_tr (fr_sA (by decide)) (fr_sA (by decide))) (fr_sA (by decide)))) ⟨h8, fun j hj => ?_⟩
      rw [rd_A, rd_A, rd_A, nI_clamp (by omega), nI_clamp (by omega), nI_clamp (by omega)]
      unfold posOf upd
      by_cases e1 : j = s / 2
      · have e3 : ¬ j = ax1 (s / 2) := by omega
        have e4 : ¬ j = ax2 (s / 2) := by omega
        simp only [if_pos e1, if_neg e3, if_neg e4]
      · by_cases e2 : j = ax1 (s / 2)
        · have e4 : ¬ j = ax2 (s / 2) := by omega
          simp only [if_neg e1, if_pos e2, if_neg e4]
        · have e4 := ax_3 _ (by omega) j hj e1 e2
          simp only [if_neg e1, if_neg e2, if_pos e4]
    have k76 : w9_goTo_b76 (nI b) (nI l) (nI (s / 2)) (nI (ax1 (s / 2))) (nI (ax2 (s / 2))) S1 Q := by
      unfold w9_goTo_b76
      rw [h8, show nI s - nI s / (2 : Int32) * (2 : Int32) = nI (s % 2) from pk_rem (by omega) (by decide) (by decide), (ix3 hb _ (by omega : s / 2 < 3)).1, rd_dm hb _ _ (by omega : s / 2 < 3), (hB1.1 _ (by omega : s / 2 < 3)).2.2]
      refine ⟨fun q => ⟨(ix3 hb _ (by omega)).2, ?_⟩, fun q => ?_⟩
      · have e : ¬ s % 2 = 0 := fun e => q (by rw [e]; rfl)
        rw [if_neg e] at k110
        rw [show (2 : Int32) = nI 2 from rfl, pk_mul]
        exact k110
      · have e : s % 2 = 0 := (nI_eq (a := s % 2) (b := 0) (by omega) (by decide)).mp q
        rw [if_pos e] at k110
        exact k110
    have k63 : w9_goTo_b63 (nI b) (nI l) (nI (s / 2)) (nI (ax1 (s / 2))) S1 Q := by
      unfold w9_goTo_b63
      refine ⟨fun q => ?_, fun q => ?_⟩
      · have e : ¬ s / 2 = 2 := fun e => q (by rw [e]; rfl)
        have e2 : ax2 (s / 2) = 2 := if_neg e
        rw [e2] at k76
        exact k76
      · have e : s / 2 = 2 := (nI_eq (a := s / 2) (b := 2) (by omega) (by decide)).mp q
        have e2 : ax2 (s / 2) = 1 := if_pos e
        rw [e2] at k76
        exact k76
    rintro _ rfl
    refine ⟨fun q => ?_, fun q => ?_⟩
    · have e : ¬ s / 2 = 0 := fun e => q (by rw [e]; rfl)
      have e2 : ax1 (s / 2) = 0 := if_neg e
      rw [e2] at k63
      exact k63
    · have e : s / 2 = 0 := (nI_eq (a := s / 2) (b := 0) (by omega) (by decide)).mp q
      have e2 : ax1 (s / 2) = 1 := if_pos e
      rw [e2] at k63
      exact k63
  · have hge : sz d s ≤ l := by
      rcases Nat.lt_or_ge l (sz d s) with q | q
      · exact absurd (nI_lt q (by omega)) cc
      · exact q
    refine s9_sideSize hb hs _ _ ?_
    rw [sds_N hs hB1]
    rintro _ rfl _ rfl
    have hs1 : s + 1 < 6 := by
      rcases Nat.lt_or_ge (s + 1) 6 with q | q
      · exact q
      · have e : s = 5 := by omega
        subst e
        have := pre_6 d
        have e6 : pre d 6 = pre d 5 + sz d 5 := rfl
        omega
    refine hK (_, _) ⟨s + 1, l - sz d s, hs1, pk_sub hge, ?_, fr_tr hF (fr_sI (by decide)), ?_⟩ ?_
    · show c = pre d s + sz d s + (l - sz d s)
      omega
    · dsimp only
      rw [rd_fI]
      exact nI_1 s
    · dsimp only
      rw [rd_fI, h8, nI_1, nI_clamp (by omega), nI_clamp (by omega)]
      omega
theorem s9_cellNow {b s : Nat} {d p : Nat → Nat} (hb : b < 4) (hs : s < 6) (S : MS) (hB : BoxN S b d) (hA : At S s p) (hp : ∀ j, j < 3 → p j < 100) (Q : Int32 → Prop) (h : Q (nI (cellOf d s p))) : w9_cellNow (nI b) S Q := by
  unfold w9_cellNow w9_cellNow_b4
  have h24 := hB.2
  refine lp_up s (fun z => z.2) (fun k z => z.1 = nI (pre d k)) (by omega) ?_ (Nat.zero_le _) (rfl : (0 : Int32) = nI 0) rfl
  rintro K ⟨n, y⟩ k hk hc hI hK
  try dsimp only at hc hI hK
  subst hc hI
  unfold w9_cellNow_F4 w9_cellNow_d4
  try dsimp only
  rw [hA.1]
  refine ⟨fun c => ?_, fun c => ?_⟩
  · have e := nI_end (N := s) (by omega) hk c
    subst e
    rw [show nI k / (2 : Int32) = nI (k / 2) from pk_div (by omega) (by decide) (by decide)]
    have ha := ax_lt (k / 2) (by omega)
    have k55 : w9_cellNow_b55 (nI b) (nI (pre d k)) (nI (ax1 (k / 2))) (nI (ax2 (k / 2))) S Q := by
      unfold w9_cellNow_b55
      rw [(ix3 hb _ ha.2.1).1, rd_dm hb _ _ ha.2.1, (hB.1 _ ha.2.1).2.2]
      refine ⟨vp_in_nI ha.1 (by decide), (ix3 hb _ ha.2.1).2, vp_in_nI ha.2.1 (by decide), ?_⟩
      have r1 : rA S 9 (nI (ax1 (k / 2))) = nI (p (ax1 (k / 2))) := by
        show aI S 9 (nI (ax1 (k / 2))).toNatClampNeg = _
        rw [nI_clamp (by omega)]; exact hA.2 _ ha.1
      have r2 : rA S 9 (nI (ax2 (k / 2))) = nI (p (ax2 (k / 2))) := by
        show aI S 9 (nI (ax2 (k / 2))).toNatClampNeg = _
        rw [nI_clamp (by omega)]; exact hA.2 _ ha.2.1
      have b1 := hp _ ha.1
      have b2 := hp _ ha.2.1
      rw [r1, r2, show (2 : Int32) = nI 2 from rfl, pk_div (by omega) (by decide) (by decide), pk_div (by omega) (by decide) (by decide), pk_mul, nI_add, nI_add]
      exact h
    have k43 : w9_cellNow_b43 (nI b) (nI (pre d k)) (nI (k / 2)) (nI (ax1 (k / 2))) S Q := by
      unfold w9_cellNow_b43
      refine ⟨fun q => ?_, fun q => ?_⟩
      · have e : ¬ k / 2 = 2 := fun e => q (by rw [e]; rfl)
        have e2 : ax2 (k / 2) = 2 := if_neg e
        rw [e2] at k55
        exact k55
      · have e : k / 2 = 2 := (nI_eq (a := k / 2) (b := 2) (by omega) (by decide)).mp q
        have e2 : ax2 (k / 2) = 1 := if_pos e
        rw [e2] at k55
        exact k55
    rintro _ rfl
    refine ⟨fun q => ?_, fun q => ?_⟩
    · have e : ¬ k / 2 = 0 := fun e => q (by rw [e]; rfl)
      have e2 : ax1 (k / 2) = 0 := if_neg e
      rw [e2] at k43
      exact k43
    · have e : k / 2 = 0 := (nI_eq (a := k / 2) (b := 0) (by omega) (by decide)).mp q
      have e2 : ax1 (k / 2) = 1 := if_pos e
      rw [e2] at k43
      exact k43
  · have hlt := nI_go (N := s) (by omega) hk c
    refine s9_sideSize hb (by omega) _ _ ?_
    rw [sds_N (by omega) hB]
    rintro _ rfl _ rfl
    refine hK (_, _) hlt (nI_1 k) ?_
    try dsimp only
    rw [nI_add]
    rfl

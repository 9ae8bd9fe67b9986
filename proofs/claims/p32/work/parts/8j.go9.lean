/-! ===== pure: a step on the box ===== -/
def updN (p : Nat → Nat) (k v : Nat) : Nat → Nat := fun j => if j = k then v else p j
def dirN (r u w : Nat) : Nat := if w = 0 then r else if w = 1 then u else if w = 2 then r ^^^ 1 else u ^^^ 1
def insN (d p : Nat → Nat) (e : Nat) : Bool := if e % 2 = 0 then decide (p (e / 2) + 2 < 2 * d (e / 2)) else decide (2 < p (e / 2))
def goP (d p : Nat → Nat) (s e : Nat) : Nat → Nat := if insN d p e then updN p (e / 2) (if e % 2 = 0 then p (e / 2) + 2 else p (e / 2) - 2) else updN (updN p (e / 2) (if e % 2 = 0 then p (e / 2) + 1 else p (e / 2) - 1)) (s / 2) (if s % 2 = 0 then p (s / 2) + 1 else p (s / 2) - 1)
def goS (d p : Nat → Nat) (s e : Nat) : Nat := if insN d p e then s else e ^^^ 1
def goR (d p : Nat → Nat) (s r e w : Nat) : Nat := if insN d p e then r else if w = 0 then s else if w = 2 then s ^^^ 1 else r
def goU (d p : Nat → Nat) (s u e w : Nat) : Nat := if insN d p e then u else if w = 1 then s else if w = 3 then s ^^^ 1 else u
theorem wy_4 {P : Nat → Prop} (h0 : P 0) (h1 : P 1) (h2 : P 2) (h3 : P 3) {w : Nat} (hw : w < 4) : P w := by
  rcases (show w = 0 ∨ w = 1 ∨ w = 2 ∨ w = 3 by omega) with rfl | rfl | rfl | rfl <;> assumption
theorem dir_ok {s r u w : Nat} (h : FrO s r u) (hw : w < 4) : dirN r u w < 6 ∧ dirN r u w / 2 ≠ s / 2 := by
  obtain ⟨h1, h2, h3, h4, h5⟩ := h
  have hr := x1_ok r h1
  have hu := x1_ok u h2
  refine wy_4 (P := fun w => dirN r u w < 6 ∧ dirN r u w / 2 ≠ s / 2) ⟨h1, h3⟩ ⟨h2, h4⟩ ?_ ?_ hw
  · show r ^^^ 1 < 6 ∧ (r ^^^ 1) / 2 ≠ s / 2
    omega
  · show u ^^^ 1 < 6 ∧ (u ^^^ 1) / 2 ≠ s / 2
    omega
theorem go_ok {d p : Nat → Nat} {s r u w : Nat} (hs : s < 6) (hd : ∀ j, j < 3 → 1 ≤ d j) (hO : Ok d s p) (hf : FrO s r u) (hw : w < 4) :
    goS d p s (dirN r u w) < 6 ∧ Ok d (goS d p s (dirN r u w)) (goP d p s (dirN r u w)) ∧ FrO (goS d p s (dirN r u w)) (goR d p s r (dirN r u w) w) (goU d p s u (dirN r u w) w) := by
  obtain ⟨he, hne⟩ := dir_ok hf hw
  generalize hE : dirN r u w = e at he hne
  have hx := x1_ok e he
  have hp := hO.1 (e / 2) (by omega) hne
  have hDe := hd (e / 2) (by omega)
  have hDs := hd (s / 2) (by omega)
  by_cases hin : insN d p e = true
  · unfold goS goP goR goU
    rw [if_pos hin, if_pos hin, if_pos hin, if_pos hin]
    refine ⟨hs, ⟨fun j hj hn => ?_, ?_⟩, hf⟩
    · unfold updN
      by_cases q : j = e / 2
      · rw [if_pos q, q]
        unfold insN at hin
        by_cases e2 : e % 2 = 0
        · rw [if_pos e2] at hin ⊢
          have := of_decide_eq_true hin
          omega
        · rw [if_neg e2] at hin ⊢
          have := of_decide_eq_true hin
          omega
      · rw [if_neg q]; exact hO.1 j hj hn
    · unfold updN
      rw [if_neg (fun q => hne q.symm)]
      exact hO.2
  · unfold goS goP goR goU
    rw [if_neg hin, if_neg hin, if_neg hin, if_neg hin]
    have hin2 : insN d p e = false := by
      cases q : insN d p e
      · rfl
      · exact absurd q hin
    refine ⟨hx.1, ⟨fun j hj hn => ?_, ?_⟩, ?_⟩
    · rw [hx.2.1] at hn
      unfold updN
      by_cases q : j = s / 2
      · rw [if_pos q, q]
        have h2 := hO.2
        by_cases e2 : s % 2 = 0
        · rw [if_pos e2] at h2 ⊢
          omega
        · rw [if_neg e2] at h2 ⊢
          omega
      · rw [if_neg q, if_neg hn]
        exact hO.1 j hj q
    · rw [hx.2.1]
      unfold updN
      rw [if_neg hne, if_pos rfl]
      unfold insN at hin2
      by_cases e2 : e % 2 = 0
      · rw [if_pos e2] at hin2 ⊢
        have := of_decide_eq_false hin2
        rw [if_neg (by omega)]
        omega
      · rw [if_neg e2] at hin2 ⊢
        have := of_decide_eq_false hin2
        rw [if_pos (by omega)]
        omega
    · obtain ⟨h1, h2, h3, h4, h5⟩ := hf
      have hr := x1_ok r h1
      have hu := x1_ok u h2
      have hss := x1_ok s hs
      have key : ∀ w, w < 4 → FrO (dirN r u w ^^^ 1) (if w = 0 then s else if w = 2 then s ^^^ 1 else r) (if w = 1 then s else if w = 3 then s ^^^ 1 else u) := by
        intro w hw
        refine wy_4 (P := fun w => FrO (dirN r u w ^^^ 1) (if w = 0 then s else if w = 2 then s ^^^ 1 else r) (if w = 1 then s else if w = 3 then s ^^^ 1 else u)) ?_ ?_ ?_ ?_ hw
        · show FrO (r ^^^ 1) s u
          unfold FrO; omega
        · show FrO (u ^^^ 1) r s
          unfold FrO; omega
        · show FrO (r ^^^ 1 ^^^ 1) (s ^^^ 1) u
          have := x1_ok (r ^^^ 1) hr.1
          unfold FrO; omega
        · show FrO (u ^^^ 1 ^^^ 1) r (s ^^^ 1)
          have := x1_ok (u ^^^ 1) hu.1
          unfold FrO; omega
      have := key w hw
      rw [hE] at this
      exact this
theorem s9_bend {e w o : Nat} (hw : w < 4) (S : MS) (Q : MS → Prop) (h : ∀ S', Fr [8, 10, 11] S S' → fI S' 8 = nI (e ^^^ 1) → fI S' 10 = (if w = 0 then nI (o ^^^ 1) else if w = 2 then nI o else fI S 10) → fI S' 11 = (if w = 1 then nI (o ^^^ 1) else if w = 3 then nI o else fI S 11) → Q S') : w9_bend (nI e) (nI w) (nI o) S Q := by
  unfold w9_bend w9_bend_b54
  rw [x1_I, x1_I]
  rintro _ rfl
  have hf : ∀ k v, k = 10 ∨ k = 11 → Fr [8, 10, 11] S (sI (sI S 8 (nI (e ^^^ 1))) k v) := fun k v hk => fr_tr (fr_sI (by decide)) (fr_sI (by rcases hk with rfl | rfl <;> decide))
  refine ⟨fun c0 => ⟨fun c1 => ⟨fun c2 => ?_, fun c2 => ?_⟩, fun c1 => ?_⟩, fun c0 => ?_⟩
  · have a0 : ¬ w = 0 := fun q => c0 (by rw [q]; rfl)
    have a1 : ¬ w = 1 := fun q => c1 (by rw [q]; rfl)
    have a2 : ¬ w = 2 := fun q => c2 (by rw [q]; rfl)
    have e3 : w = 3 := by omega
    subst e3
    rintro _ rfl
    exact h _ (hf _ _ (Or.inr rfl)) rfl rfl rfl
  · have e2 : w = 2 := (nI_eq (a := w) (b := 2) (by omega) (by decide)).mp c2
    subst e2
    rintro _ rfl
    exact h _ (hf _ _ (Or.inl rfl)) rfl rfl rfl
  · have e2 : w = 1 := (nI_eq (a := w) (b := 1) (by omega) (by decide)).mp c1
    subst e2
    rintro _ rfl
    exact h _ (hf _ _ (Or.inr rfl)) rfl rfl rfl
  · have e2 : w = 0 := (nI_eq (a := w) (b := 0) (by omega) (by decide)).mp c0
    subst e2
    rintro _ rfl
    exact h _ (hf _ _ (Or.inl rfl)) rfl rfl rfl
theorem s9_way {r u w : Nat} (hw : w < 4) (S : MS) (h10 : fI S 10 = nI r) (h11 : fI S 11 = nI u) (Q : Int32 → Prop) (h : Q (nI (dirN r u w))) : w9_wayNow (nI w) S Q := by
  refine s9_wayNow _ _ _ ?_
  rw [h10, h11, x1_I, x1_I]
  refine wy_4 (P := fun w => Q (nI (dirN r u w)) → Q (if nI w = 0 then nI r else if nI w = 1 then nI u else if nI w = 2 then nI (r ^^^ 1) else nI (u ^^^ 1))) ?_ ?_ ?_ ?_ hw h
  · intro h; rw [if_pos (by decide)]; exact h
  · intro h; rw [if_neg (by decide), if_pos (by decide)]; exact h
  · intro h; rw [if_neg (by decide), if_neg (by decide), if_pos (by decide)]; exact h
  · intro h; rw [if_neg (by decide), if_neg (by decide), if_neg (by decide)]; exact h
theorem add_sg {e q : Nat} (hq : 1 ≤ q) : nI q + sg e = nI (if e % 2 = 0 then q + 1 else q - 1) := by
  unfold sg
  by_cases h : e % 2 = 0
  · rw [if_pos h, if_pos h]; exact nI_1 q
  · rw [if_neg h, if_neg h]; exact sb_m1 hq
theorem sub_sg {s q : Nat} (hs : s < 6) (hq : s % 2 = 0 ∨ 1 ≤ q) : nI q - sg (s ^^^ 1) = nI (if s % 2 = 0 then q + 1 else q - 1) := by
  have hx := x1_ok s hs
  unfold sg
  by_cases h : s % 2 = 0
  · rw [if_neg (by omega), if_pos h, Int32.sub_eq_add_neg]; exact nI_1 q
  · rw [if_pos (by omega), if_neg h]; exact pk_sub (b := 1) (by omega)
theorem rd_at {S : MS} {s : Nat} {p : Nat → Nat} (h : At S s p) {j : Nat} (hj : j < 3) : rA S 9 (nI j) = nI (p j) := by
  show aI S 9 (nI j).toNatClampNeg = _
  rw [nI_clamp (by omega)]; exact h.2 j hj
theorem s9_go {b s r u w : Nat} {d p : Nat → Nat} (hb : b < 4) (hs : s < 6) (hw : w < 4) (S : MS) (hB : BoxN S b d) (hA : At S s p) (hO : Ok d s p) (hf : FrO s r u) (h10 : fI S 10 = nI r) (h11 : fI S 11 = nI u) (Q : MS → Prop)
    (h : ∀ S', Fr [8, 9, 10, 11] S S' → At S' (goS d p s (dirN r u w)) (goP d p s (dirN r u w)) → fI S' 10 = nI (goR d p s r (dirN r u w) w) → fI S' 11 = nI (goU d p s u (dirN r u w) w) → Q S') : w9_go (nI b) (nI w) S Q := by
  obtain ⟨he, hne⟩ := dir_ok hf hw
  unfold w9_go
  refine s9_way hw S h10 h11 _ ?_
  generalize hE : dirN r u w = e at he hne h
  have hx := x1_ok e he
  have hss := x1_ok s hs
  have hp := hO.1 (e / 2) (by omega) hne
  have hDe := hB.1 (e / 2) (by omega)
  have hDs := hB.1 (s / 2) (by omega)
  have hps := hO.2
  rw [hA.1, x1_I, show nI e / (2 : Int32) = nI (e / 2) from pk_div (by omega) (by decide) (by decide), rd_at hA (by omega : e / 2 < 3), (ix3 hb _ (by omega : e / 2 < 3)).1, rd_dm hb S _ (by omega : e / 2 < 3), hDe.2.2]
  rintro _ rfl
  have k66 : insN d p e = false → w9_go_b66 (nI w) (nI e) (nI (s ^^^ 1)) S Q := by
    intro hin
    have hin' : ¬ insN d p e = true := by rw [hin]; decide
    unfold goS goP goR goU at h
    simp only [if_neg hin'] at h
    unfold w9_go_b66
    rw [show nI e / (2 : Int32) = nI (e / 2) from pk_div (by omega) (by decide) (by decide), show nI (s ^^^ 1) / (2 : Int32) = nI ((s ^^^ 1) / 2) from pk_div (by omega) (by decide) (by decide), hss.2.1, rd_at hA (by omega : e / 2 < 3)]
    refine ⟨vp_in_nI (by omega) (by decide), s9_sgn he _ ?_⟩
    rintro _ rfl
    refine ⟨vp_in_nI (by omega) (by decide), s9_sgn hss.1 _ ?_⟩
    have e1 : rA (sA S 9 (nI (e / 2)) (nI (p (e / 2)) + sg e)) 9 (nI (s / 2)) = nI (p (s / 2)) := by
      show aI (sA S 9 (nI (e / 2)) (nI (p (e / 2)) + sg e)) 9 (nI (s / 2)).toNatClampNeg = _
      rw [rd_A, nI_clamp (by omega), nI_clamp (by omega), pk_un (fun q => hne q.symm)]
      exact hA.2 _ (by omega)
    rw [e1, add_sg (by omega), sub_sg hs (by
      by_cases q : s % 2 = 0
      · exact Or.inl q
      · rw [if_neg q] at hps; omega)]
    rintro _ rfl
    refine s9_bend hw _ _ (fun S' hF g8 g10 g11 => ?_)
    refine h S' (fr_tr (fr_tr (fr_sA (by decide)) (fr_sA (by decide))) (fr_mono hF (by decide))) ⟨g8, fun j hj => ?_⟩ ?_ ?_
    · rw [(hF 9 (by decide)).2.2.1, rd_A, rd_A, nI_clamp (by omega), nI_clamp (by omega)]
      unfold upd updN
      by_cases q1 : j = s / 2
      · rw [if_pos q1, if_pos q1]
      · rw [if_neg q1, if_neg q1]
        by_cases q2 : j = e / 2
        · rw [if_pos q2, if_pos q2]
        · rw [if_neg q2, if_neg q2]; exact hA.2 j hj
    · rw [g10]
      have es : s ^^^ 1 ^^^ 1 = s := by rw [Nat.xor_assoc, Nat.xor_self, Nat.xor_zero]
      have e10 : fI (sA (sA S 9 (nI (e / 2)) (nI (if e % 2 = 0 then p (e / 2) + 1 else p (e / 2) - 1))) 9 (nI (s / 2)) (nI (if s % 2 = 0 then p (s / 2) + 1 else p (s / 2) - 1))) 10 = nI r := h10
      rw [es, e10]
      split
      · rfl
      · split <;> rfl
    · rw [g11]
      have es : s ^^^ 1 ^^^ 1 = s := by rw [Nat.xor_assoc, Nat.xor_self, Nat.xor_zero]
      have e11 : fI (sA (sA S 9 (nI (e / 2)) (nI (if e % 2 = 0 then p (e / 2) + 1 else p (e / 2) - 1))) 9 (nI (s / 2)) (nI (if s % 2 = 0 then p (s / 2) + 1 else p (s / 2) - 1))) 11 = nI u := h11
      rw [es, e11]
      split
      · rfl
      · split <;> rfl
  have kin : insN d p e = true → ∀ S10 : MS, S10 = sA S 9 (nI (e / 2)) (nI (if e % 2 = 0 then p (e / 2) + 2 else p (e / 2) - 2)) → Q S10 := by
    intro hin
    unfold goS goP goR goU at h
    simp only [if_pos hin] at h
    rintro _ rfl
    refine h _ (fr_sA (by decide)) ⟨hA.1, fun j hj => ?_⟩ h10 h11
    rw [rd_A, nI_clamp (by omega)]
    unfold upd updN
    by_cases q2 : j = e / 2
    · rw [if_pos q2, if_pos q2]
    · rw [if_neg q2, if_neg q2]; exact hA.2 j hj
  refine ⟨vp_in_nI (by omega) (by decide), s9_sgn he _ ?_⟩
  by_cases e2 : e % 2 = 0
  · have hs1 : sg e = 1 := if_pos e2
    have ei : insN d p e = decide (p (e / 2) + 2 < 2 * d (e / 2)) := if_pos e2
    rw [hs1, show nI (p (e / 2)) + (2 : Int32) * 1 = nI (p (e / 2) + 2) from nI_add _ 2, show (2 : Int32) = nI 2 from rfl, pk_mul]
    rw [if_pos e2] at kin
    rintro _ rfl
    refine ⟨fun c => absurd c (nI_nle (by omega) (by omega)), fun _ => ⟨(ix3 hb _ (by omega)).2, fun c => k66 ?_, fun c => kin ?_⟩⟩
    · have := (nI_leI (by omega) (by omega)).mp c
      rw [ei]; exact decide_eq_false (by omega)
    · have : ¬ 2 * d (e / 2) ≤ p (e / 2) + 2 := fun q => c (nI_le q (by omega))
      rw [ei]; exact decide_eq_true (by omega)
  · have hs1 : sg e = -1 := if_neg e2
    have ei : insN d p e = decide (2 < p (e / 2)) := if_neg e2
    rw [if_neg e2] at kin
    rw [hs1]
    by_cases q1 : p (e / 2) = 1
    · have hin : insN d p e = false := by rw [ei]; exact decide_eq_false (by omega)
      rw [q1]
      rintro _ rfl
      exact ⟨fun _ => k66 hin, fun c => absurd (by decide) c⟩
    · have hin : insN d p e = true := by rw [ei]; exact decide_eq_true (by omega)
      have ey : nI (p (e / 2)) + (2 : Int32) * (-1) = nI (p (e / 2) - 2) := by
        have : nI (p (e / 2)) - nI 2 = nI (p (e / 2) - 2) := pk_sub (by omega)
        rw [Int32.sub_eq_add_neg] at this
        exact this
      rw [ey, show (2 : Int32) = nI 2 from rfl, pk_mul]
      rintro _ rfl
      refine ⟨fun c => absurd c (nI_nle (by omega) (by omega)), fun _ => ⟨(ix3 hb _ (by omega)).2, fun c => ?_, fun c => kin hin⟩⟩
      have := (nI_leI (by omega) (by omega)).mp c
      omega

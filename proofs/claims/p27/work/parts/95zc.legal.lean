/-! ===== pure: corners and legality of the reference, exactly ===== -/
def LbS (S : MS) (n : Nat) (L : Nat → Nat) : Prop := ∀ i, i < n → L i < n ∧ aI S 30 i = nI (L i)
theorem x9_joins {a b n : Nat} {L : Nat → Nat} (ha : a < n) (hb : b < n) (hn : n ≤ 128) (S : MS) (hL : LbS S n L) (Q : Int32 → MS → Prop) (h0 : L a = L b → ∀ S', Fr [30] S S' → LbS S' n L → Q 0 S') (h1 : ¬ L a = L b → ∀ S' L', Fr [30] S S' → LbS S' n L' → (∀ i, i < n → L' i = if i = a ∨ i = b then (if L b ≤ L a then L b else L a) else L i) → Q 1 S') : w9_joins (nI a) (nI b) S Q := by
  obtain ⟨hta, ea⟩ := hL a ha
  obtain ⟨htb, eb⟩ := hL b hb
  have va := vp_in_nI (n := a) (N := 128) (by omega) (by decide)
  have vb := vp_in_nI (n := b) (N := 128) (by omega) (by decide)
  have main : ∀ l, l = (if L b ≤ L a then L b else L a) → w9_joins_b30 (nI a) (nI b) (nI l) S Q := by
    intro l hl
    have hln : l < n := by rw [hl]; split <;> omega
    have e30 : aI (sA (sA S 30 (nI a) (nI l)) 30 (nI b) (nI l)) 30 = upd (upd (aI S 30) a (nI l)) b (nI l) := by
      rw [rd_A, rd_A, nI_clamp (by omega), nI_clamp (by omega)]
    have hF : Fr [30] S (sA (sA S 30 (nI a) (nI l)) 30 (nI b) (nI l)) := fr_tr (fr_sA (by decide)) (fr_sA (by decide))
    have hT2 : LbS (sA (sA S 30 (nI a) (nI l)) 30 (nI b) (nI l)) n (fun i => if i = a ∨ i = b then l else L i) := by
      intro i hi
      rw [e30]
      by_cases q : i = b
      · try dsimp only
        rw [if_pos (Or.inr q), q, pk_us]; exact ⟨hln, rfl⟩
      · rw [pk_un q]
        by_cases q2 : i = a
        · try dsimp only
          rw [if_pos (Or.inl q2), q2, pk_us]; exact ⟨hln, rfl⟩
        · try dsimp only
          rw [pk_un q2, if_neg (by omega)]; exact hL i hi
    unfold w9_joins_b30 w9_joins_b51
    rw [rA_n _ _ (by omega), rA_n _ _ (by omega), ea, eb]
    refine ⟨va, vb, fun c => ⟨va, ?_⟩, fun c => ⟨va, ?_⟩⟩
    · have e : L a = L b := (nI_eq (by omega) (by omega)).mp c
      rintro _ rfl
      refine ⟨vb, ?_⟩
      rintro _ rfl
      refine ⟨rfl, h0 e _ hF (fun i hi => ?_)⟩
      have := hT2 i hi
      try dsimp only at this
      by_cases q : i = a ∨ i = b
      · rw [if_pos q] at this
        have el : l = L i := by
          rw [hl, if_pos (by omega)]
          rcases q with q | q
          · rw [q]; omega
          · rw [q]
        exact ⟨by rw [← el]; exact hln, by rw [this.2, el]⟩
      · rw [if_neg q] at this
        exact this
    · have hne : ¬ L a = L b := fun e => c (by rw [e])
      rintro _ rfl
      refine ⟨vb, ?_⟩
      rintro _ rfl
      exact ⟨rfl, h1 hne _ _ hF hT2 (fun i _ => by (try dsimp only); rw [hl])⟩
  unfold w9_joins
  rw [rA_n _ _ (by omega), rA_n _ _ (by omega), ea, eb]
  refine ⟨va, vb, fun c => ?_, fun c => ?_⟩
  · have := (nI_leI (a := L b) (b := L a) (by omega) (by omega)).mp c
    exact main _ (by rw [if_pos this])
  · have : ¬ L b ≤ L a := fun q => c (nI_le q (by omega))
    exact main _ (by rw [if_neg this])
/-- labels on the way: least so far, together with it -/
def Lw (n : Nat) (p L : Nat → Nat) : Prop := (∀ i, i < n → L i ≤ i) ∧ (∀ i, i < n → Eq9 n p i (L i))
theorem lw_join {n : Nat} {p L L' : Nat → Nat} {a b : Nat} (ha : a < n) (hb : b < n) (h : Lw n p L) (hE : Eq9 n p a b) (e : ∀ i, i < n → L' i = if i = a ∨ i = b then (if L b ≤ L a then L b else L a) else L i) : Lw n p L' := by
  have h1 := h.1 a ha
  have h2 := h.1 b hb
  have g1 := h.2 a ha
  have g2 := h.2 b hb
  constructor
  · intro i hi
    rw [e i hi]
    by_cases q : i = a ∨ i = b
    · rw [if_pos q]
      rcases q with q | q
      · rw [q]; split <;> omega
      · rw [q]; split <;> omega
    · rw [if_neg q]; exact h.1 i hi
  · intro i hi
    rw [e i hi]
    by_cases q : i = a ∨ i = b
    · rw [if_pos q]
      have hi2 : Eq9 n p i a ∧ Eq9 n p i b := by
        rcases q with q | q
        · rw [q]; exact ⟨eq9_rf a, hE⟩
        · rw [q]; exact ⟨eq9_sy hE, eq9_rf b⟩
      split
      · exact eq9_tr hi2.2 g2
      · exact eq9_tr hi2.1 g1
    · rw [if_neg q]; exact h.2 i hi
theorem lw_sm {n : Nat} {L L' : Nat → Nat} {a b : Nat} (ha : a < n) (hb : b < n) (hne : ¬ L a = L b) (e : ∀ i, i < n → L' i = if i = a ∨ i = b then (if L b ≤ L a then L b else L a) else L i) : fb_sm L' n < fb_sm L n := by
  have hle : ∀ k, k < n → L' k ≤ L k := by
    intro k hk
    rw [e k hk]
    by_cases q : k = a ∨ k = b
    · rw [if_pos q]
      rcases q with q | q
      · rw [q]; split <;> omega
      · rw [q]; split <;> omega
    · rw [if_neg q]; exact Nat.le_refl _
  by_cases c : L b ≤ L a
  · refine sm_lt (i := a) hle ha ?_
    rw [e a ha, if_pos (Or.inl rfl), if_pos c]; omega
  · refine sm_lt (i := b) hle hb ?_
    rw [e b hb, if_pos (Or.inr rfl), if_neg c]; omega
/-- how many corners -/
def cnr (n : Nat) (L : Nat → Nat) : Nat := fb_ct (fun i => decide (L i = i)) n
set_option maxHeartbeats 2000000 in
theorem x9_isLegal {n : Nat} {p a : Nat → Nat} (S : MS) (h1 : 1 ≤ n) (h2 : n ≤ 96) (h3 : fI S 25 = nI n) (h4 : ∀ k, k < n → 1 ≤ a k ∧ a k ≤ 3 ∧ aI S 28 k = nI (a k)) (hP : ∀ i, i < n → p i < n ∧ aI S 29 i = nI (p i)) (Q : Int32 → MS → Prop) (h : ∀ r S' L, Fr [30, 31, 32] S S' → Lab n p L → fI S' 32 = nI (cnr n L) → ((r = 1 ∧ ∀ i, i < n → csm n L a i ≤ 4) ∨ (r = 0 ∧ ¬ ∀ i, i < n → csm n L a i ≤ 4)) → Q r S') : w9_isLegal S Q := by
  unfold w9_isLegal w9_isLegal_b2
  refine lp_up n (fun z => z.1) (fun k z => Fr [30] S z.2 ∧ ∀ j, j < k → aI z.2 30 j = nI j) (by omega) ?_ (Nat.zero_le _) (rfl : (0 : Int32) = nI 0) (by exact ⟨fr_rf, fun j hj => absurd hj (Nat.not_lt_zero j)⟩)
  rintro K ⟨y, S1⟩ k hk hcc ⟨hF1, hj⟩ hK
  try dsimp only at hcc hF1 hj hK
  subst hcc
  have e25 : fI S1 25 = nI n := (hF1 25 (by decide)).1.trans h3
  unfold w9_isLegal_F2 w9_isLegal_d2
  try dsimp only
  rw [e25]
  refine ⟨fun c => ?_, fun c => ?_⟩
  rotate_left
  · have hlt := nI_go (by omega) hk c
    refine ⟨vp_in_nI (by omega) (by decide), ?_⟩
    rintro _ rfl _ rfl
    refine hK (_, _) hlt (nI_1 k) ⟨fr_tr hF1 (fr_sA (by decide)), fun j hj2 => ?_⟩
    try dsimp only
    rw [rd_A, nI_clamp (by omega)]
    by_cases e : j = k
    · rw [e, pk_us]
    · rw [pk_un e]; exact hj j (by omega)
  have ek := nI_end (by omega) hk c
  subst ek
  clear hK c hk
  unfold w9_isLegal_b25
  refine lp_of (fun z : Int32 × MS => Fr [30] S z.2 ∧ ∃ L, LbS z.2 k L ∧ Lw k p L ∧ (z.1 = 0 → ∀ i, i < k → L i = L ((p i + 1) % k))) (fun z => if z.1 = 0 then 0 else 1 + fb_sm (fun i => (aI z.2 30 i).toNatClampNeg) k) ?_ (by exact ⟨hF1, fun i => i, fun i hi => ⟨hi, hj i hi⟩, ⟨fun i _ => Nat.le_refl _, fun i _ => eq9_rf i⟩, fun c => absurd c (show ¬ (1 : Int32) = 0 by decide)⟩)
  clear hF1 hj e25
  have msr : ∀ (T : MS) (L : Nat → Nat), LbS T k L → fb_sm (fun i => (aI T 30 i).toNatClampNeg) k = fb_sm L k := fun T L hL => fb_sm_cong fun i hi => by
    have := hL i hi
    rw [this.2, nI_clamp (by omega)]
  rintro K ⟨goes, S2⟩ ⟨hF2, L, hL, hLw, hfix⟩ hK
  try dsimp only at hF2 hL hfix hK
  have e25 : fI S2 25 = nI k := (hF2 25 (by decide)).1.trans h3
  unfold w9_isLegal_F25 w9_isLegal_d25
  try dsimp only
  refine ⟨fun cz => ?_, fun cg => ?_⟩
  rotate_left
  · unfold w9_isLegal_b33
    refine lp_up k (fun z => z.2.1) (fun i z => Fr [30] S z.2.2 ∧ ∃ M, LbS z.2.2 k M ∧ Lw k p M ∧ ((z.1 = 0 ∧ M = L ∧ ∀ j, j < i → L j = L ((p j + 1) % k)) ∨ (z.1 = 1 ∧ fb_sm M k < fb_sm L k))) (by omega) ?_ (Nat.zero_le _) (rfl : (0 : Int32) = nI 0) (by exact ⟨hF2, L, hL, hLw, Or.inl ⟨rfl, rfl, fun j hj => absurd hj (Nat.not_lt_zero j)⟩⟩)
    rintro K1 ⟨g1, y, S3⟩ i hi hcc ⟨hF3, M, hM, hMw, hc⟩ hK1
    try dsimp only at hcc hF3 hM hc hK1
    subst hcc
    have e25b : fI S3 25 = nI k := (hF3 25 (by decide)).1.trans h3
    unfold w9_isLegal_F33 w9_isLegal_d33
    try dsimp only
    rw [e25b]
    refine ⟨fun c => ?_, fun c => ?_⟩
    · have ei := nI_end (by omega) hi c
      subst ei
      refine hK (_, _) ⟨hF3, M, hM, hMw, fun hz => ?_⟩ ?_
      · rcases hc with ⟨q1, q2, q3⟩ | ⟨q1, _⟩
        · rw [q2]; exact q3
        · rw [q1] at hz; exact absurd hz (show ¬ (1 : Int32) = 0 by decide)
      · show (if g1 = 0 then 0 else 1 + fb_sm (fun i => (aI S3 30 i).toNatClampNeg) i) < (if goes = 0 then 0 else 1 + fb_sm (fun i => (aI S2 30 i).toNatClampNeg) i)
        rw [if_neg cg, msr S2 L hL, msr S3 M hM]
        rcases hc with ⟨q1, _⟩ | ⟨q1, q2⟩
        · rw [if_pos q1]; omega
        · rw [if_neg (by rw [q1]; decide)]; omega
    have hlt := nI_go (by omega) hi c
    obtain ⟨hp, ep⟩ := hP i hlt
    rw [rA_n _ _ (by omega), (hF3 29 (by decide)).2.2.1, ep, nI_1, pk_rem (by omega) (by omega) (by omega)]
    refine ⟨vp_in_nI (by omega) (by decide), nI_ne0 (by omega) (by omega), ?_⟩
    have hmod : (p i + 1) % k < k := Nat.mod_lt _ (by omega)
    have k71 : ∀ v S4 M', Fr [30] S3 S4 → LbS S4 k M' → Lw k p M' → ((v = 0 ∧ M' = L ∧ ∀ j, j < i + 1 → L j = L ((p j + 1) % k)) ∨ (v = 1 ∧ fb_sm M' k < fb_sm L k)) → w9_isLegal_b71 (fun y0 y1 y2 => K1 (y0, y1, y2)) (nI i) v S4 Q := by
      intro v S4 M' hF4 hM' hMw' hv
      unfold w9_isLegal_b71
      rintro _ rfl
      exact hK1 (_, _, _) hlt (nI_1 i) ⟨fr_tr hF3 hF4, M', hM', hMw', hv⟩
    unfold w9_isLegal_b66
    refine x9_joins hlt hmod (by omega) S3 hM _ (fun e S4 hF4 hM4 => ⟨fun c => absurd rfl c, fun _ => ⟨fun cg1 => ?_, fun cg1 => ?_⟩⟩) (fun hne S4 M4 hF4 hM4 e4 => ⟨fun _ => ?_, fun c => absurd c (by decide)⟩)
    · rcases hc with ⟨q1, q2, q3⟩ | ⟨q1, _⟩
      · refine k71 _ S4 M hF4 hM4 hMw (Or.inl ⟨rfl, q2, fun j hj => ?_⟩)
        rcases Nat.lt_or_ge j i with w | w
        · exact q3 j w
        · have ej : j = i := by omega
          rw [ej, ← q2]; exact e
      · rw [q1] at cg1; exact absurd cg1 (by decide)
    · rcases hc with ⟨q1, _⟩ | ⟨_, q2⟩
      · exact absurd q1 cg1
      · exact k71 _ S4 M hF4 hM4 hMw (Or.inr ⟨rfl, q2⟩)
    · have hs := lw_sm hlt hmod hne e4
      refine k71 _ S4 M4 hF4 hM4 (lw_join hlt hmod hMw (eq9_st hlt) e4) (Or.inr ⟨rfl, ?_⟩)
      rcases hc with ⟨_, q2, _⟩ | ⟨_, q2⟩
      · rw [q2] at hs; exact hs
      · omega
  have hLab : Lab k p L := ⟨hLw.1, hLw.2, hfix cz⟩
  unfold w9_isLegal_b83
  refine lp_up 5 (fun z => z.1) (fun _ z => Fr [31] S2 z.2) (by decide) ?_ (Nat.zero_le _) (rfl : (0 : Int32) = nI 0) (by exact fr_rf)
  rintro K1 ⟨y, S3⟩ i hi hcc hF3 hK1
  try dsimp only at hcc hF3 hK1
  subst hcc
  unfold w9_isLegal_F83 w9_isLegal_d83
  try dsimp only
  refine ⟨fun _ => ?_, fun c => ?_⟩
  rotate_left
  · have hlt := nI_go (N := 5) (by decide) hi c
    refine ⟨vp_in_nI hlt (by decide), ?_⟩
    rintro _ rfl _ rfl
    exact hK1 (_, _) hlt (nI_1 i) (fr_tr hF3 (fr_sA (by decide)))
  clear hK1
  rintro _ rfl
  have hF3' : Fr [31, 32] S2 (sI S3 32 (0 : Int32)) := fr_tr (fr_mono hF3 (by decide)) (fr_sI (by decide))
  have z32 : fI (sI S3 32 (0 : Int32)) 32 = 0 := rd_fI _ _ _
  unfold w9_isLegal_b110
  refine lp_up k (fun z => z.2.1) (fun m z => Fr [31, 32] S2 z.2.2 ∧ fI z.2.2 32 = nI (cnr m L) ∧ ((z.1 = 1 ∧ ∀ i, i < m → csm k L a i ≤ 4) ∨ (z.1 = 0 ∧ ∃ i, i < m ∧ ¬ csm k L a i ≤ 4))) (by omega) ?_ (Nat.zero_le _) (rfl : (0 : Int32) = nI 0) (by exact ⟨hF3', z32, Or.inl ⟨rfl, fun i hi => absurd hi (Nat.not_lt_zero i)⟩⟩)
  rintro K2 ⟨lg, y, S4⟩ i4 hi4 hcc ⟨hF4, h32, hlg⟩ hK2
  try dsimp only at hcc hlg hF4 h32 hK2
  subst hcc
  have hF24 : Fr [30, 31, 32] S S4 := fr_tr (fr_mono hF2 (by decide)) (fr_mono hF4 (by decide))
  have e25d : fI S4 25 = nI k := (hF24 25 (by decide)).1.trans h3
  unfold w9_isLegal_F110 w9_isLegal_d110
  try dsimp only
  rw [e25d]
  refine ⟨fun c => ⟨?_, h _ _ L hF24 hLab ?_ ?_⟩, fun c => ?_⟩
  · rcases hlg with ⟨q, _⟩ | ⟨q, _⟩
    · exact nbool (Or.inr q)
    · exact nbool (Or.inl q)
  · rw [h32, nI_end (by omega) hi4 c]
  · have ei := nI_end (by omega) hi4 c
    rw [ei] at hlg
    rcases hlg with ⟨q1, q2⟩ | ⟨q1, i, hi, q2⟩
    · exact Or.inl ⟨q1, q2⟩
    · exact Or.inr ⟨q1, fun w => q2 (w i hi)⟩
  have hlt4 := nI_go (by omega) hi4 c
  unfold w9_isLegal_b124
  refine lp_up k (fun z => z.2) (fun j z => z.1 = nI (fb_sm (fun i => if L i = i4 then a i else 0) j)) (by omega) ?_ (Nat.zero_le _) (rfl : (0 : Int32) = nI 0) (by exact rfl)
  rintro K3 ⟨s, y⟩ j hj hcc es hK3
  try dsimp only at hcc es hK3
  subst hcc es
  unfold w9_isLegal_F124 w9_isLegal_d124
  try dsimp only
  rw [e25d]
  refine ⟨fun c => ?_, fun c => ?_⟩
  rotate_left
  · have hltj := nI_go (by omega) hj c
    refine ⟨vp_in_nI (by omega) (by decide), ?_⟩
    have ha := h4 j hltj
    have hLj := hL j hltj
    rw [rA_n _ 28 (by omega), (hF24 28 (by decide)).2.2.1, ha.2.2, rA_n _ 30 (by omega), (hF4 30 (by decide)).2.2.1, hLj.2, nI_eq (by omega) (by omega)]
    unfold w9_isLegal_b157
    refine ⟨fun cn => ?_, fun cy => ?_⟩
    · rintro _ rfl _ rfl
      refine hK3 (_, _) hltj (nI_1 j) ?_
      show nI _ + 0 = nI _
      rw [fb_sm_succ, if_neg cn, Nat.add_zero]
      exact p0_I _
    · rintro _ rfl _ rfl
      refine hK3 (_, _) hltj (nI_1 j) ?_
      show nI _ + nI (a j) = nI _
      rw [fb_sm_succ, if_pos cy, nI_add]
  have ej := nI_end (by omega) hj c
  subst ej
  have hbd : csm j L a i4 ≤ 3 * j := by
    unfold csm
    have := fb_sm_bound (n := j) (c := 3) (f := fun i => if L i = i4 then a i else 0) (fun i hi => by
      have := h4 i hi
      try dsimp only
      split <;> omega)
    omega
  have hcp := csm_pos hLab (fun i hi => (h4 i hi).1) hlt4
  have hms : fb_sm (fun i => if L i = i4 then a i else 0) j = csm j L a i4 := rfl
  rw [hms]
  generalize hm : csm j L a i4 = m at hbd hcp
  have k217 : ∀ t v S5, ((t = 1 ∧ ∀ i, i < i4 + 1 → csm j L a i ≤ 4) ∨ (t = 0 ∧ ∃ i, i < i4 + 1 ∧ ¬ csm j L a i ≤ 4)) → Fr [31, 32] S2 S5 → fI S5 32 = nI (cnr (i4 + 1) L) → vp_in v 5 → w9_isLegal_b217 (fun y0 y1 y2 => K2 (y0, y1, y2)) t (nI i4) v S5 Q := by
    intro t v S5 ht hF5 h325 hv
    unfold w9_isLegal_b217
    refine ⟨hv, ?_⟩
    rintro _ rfl _ rfl
    exact hK2 (_, _, _) hlt4 (nI_1 i4) ⟨fr_tr hF5 (fr_sA (by decide)), (fi_sA _ _ _ _ _).trans h325, ht⟩
  have k200 : ∀ t S5, ((t = 1 ∧ ∀ i, i < i4 + 1 → csm j L a i ≤ 4) ∨ (t = 0 ∧ ∃ i, i < i4 + 1 ∧ ¬ csm j L a i ≤ 4)) → Fr [31, 32] S2 S5 → fI S5 32 = nI (cnr (i4 + 1) L) → w9_isLegal_b200 (fun y0 y1 y2 => K2 (y0, y1, y2)) (nI i4) (nI m) t S5 Q := by
    intro t S5 ht hF5 h325
    unfold w9_isLegal_b200
    refine ⟨fun c => k217 _ _ _ ht hF5 h325 ?_, fun c => k217 _ _ _ ht hF5 h325 (by unfold vp_in; decide)⟩
    have := (nI_leI (a := m) (b := 4) (by omega) (by decide)).mp c
    exact vp_in_nI (by omega) (by decide)
  have k181 : ∀ t2, nI (cnr i4 L) + t2 = nI (cnr (i4 + 1) L) → w9_isLegal_b181 (fun y0 y1 y2 => K2 (y0, y1, y2)) lg (nI i4) (nI m) (fI S4 32) t2 S4 Q := by
    intro t2 ht2
    unfold w9_isLegal_b181 w9_isLegal_b199
    rintro _ rfl
    have hF5 : Fr [31, 32] S2 (sI S4 32 (fI S4 32 + t2)) := fr_tr hF4 (fr_sI (by decide))
    have h325 : fI (sI S4 32 (fI S4 32 + t2)) 32 = nI (cnr (i4 + 1) L) := by rw [rd_fI, h32, ht2]
    refine ⟨fun c0 => k200 _ _ (Or.inr ⟨rfl, ?_⟩) hF5 h325, fun c0 => ⟨fun c4 => k200 _ _ (Or.inr ⟨rfl, i4, by omega, ?_⟩) hF5 h325, fun c4 => k200 _ _ (Or.inl ⟨rfl, fun i hi => ?_⟩) hF5 h325⟩⟩
    · rcases hlg with ⟨q1, _⟩ | ⟨_, i, hi, q2⟩
      · rw [c0] at q1; exact absurd q1 (by decide)
      · exact ⟨i, by omega, q2⟩
    · have := (nI_ltI (a := 4) (b := m) (by decide) (by omega)).mp c4
      omega
    · rcases hlg with ⟨_, q2⟩ | ⟨q1, _⟩
      · rcases Nat.lt_or_ge i i4 with w | w
        · exact q2 i w
        · have e : i = i4 := by omega
          have h4n : ¬ 4 < m := fun q => c4 (nI_lt q (by omega))
          rw [e, hm]; omega
      · exact absurd q1 c0
  have hsucc : cnr (i4 + 1) L = cnr i4 L + (if 0 < m then 1 else 0) := by
    unfold cnr
    rw [fb_ct_succ]
    by_cases c : L i4 = i4
    · rw [if_pos (decide_eq_true c), if_pos (hcp.mpr c)]
    · rw [if_neg (by rw [decide_eq_false c]; decide), if_neg (fun q => c (hcp.mp q))]
  refine ⟨fun c0 => k181 _ ?_, fun c0 => k181 _ ?_⟩
  · have : m ≤ 0 := (nI_leI (a := m) (b := 0) (by omega) (by decide)).mp c0
    rw [hsucc, if_neg (by omega)]
    exact p0_I _
  · have : ¬ m ≤ 0 := fun q => c0 (nI_le q (by decide))
    rw [hsucc, if_pos (by omega)]
    exact nI_1 _

/-! ===== pure: corners of the class, exactly; a row that tells a gluing ===== -/
theorem x4_angleAt {n i : Nat} {a : Nat → Nat} (V : MS) (hn : n ≤ 50) (e3 : fI V 3 = nI n) (ha : ∀ k, k < n → aI V 1 k = nI (a k)) (hi : i < n) (Q : Int32 → Prop) (h : Q (nI (a i))) : w4_angleAt (nI i) V Q := by
  have ei : (nI i).toInt = (i : Int) := nI_toInt (by omega)
  have en : (nI n).toInt = (n : Int) := nI_toInt (by omega)
  unfold w4_angleAt w4_angleAt_b18
  refine s4_hasEdge _ _ _ (fun _ => ⟨fun c => absurd c (by decide), fun _ => ⟨vp_in_nI (by omega) (by decide), ?_⟩⟩) (fun q => absurd (by rw [e3, ei, en]; omega) q)
  rw [rA_n _ _ (by omega), ha i hi]
  exact h
/-- labels and quarters, so far -/
def GS (n : Nat) (p a T : Nat → Nat) (S : MS) (i : Nat) : Prop := (∀ j, j < i → T j ≤ j ∧ aI S 1 j = nI (T j)) ∧ (0 < i → T 0 = 0) ∧ (∀ j, j + 1 < i → T (j + 1) = if p j < j + 1 then T (p j) else j + 1) ∧ ∀ l, l < i → T l = l → aI S 2 l = nI (csm i T a l)
set_option maxHeartbeats 1000000 in
theorem x3_gather {n : Nat} {p a : Nat → Nat} (S V : MS) (hn : n ≤ 50) (e7 : fI S 7 = nI n) (e3 : fI V 3 = nI n) (ha : ∀ k, k < n → aI V 1 k = nI (a k)) (hp : ∀ i, i < n → p i < n ∧ aI S 0 i = nI (p i)) (Q : MS → Prop) (h : ∀ S' T, Fr [1, 2] S S' → (n = 0 ∨ TL n p T) → (∀ j, j < n → aI S' 1 j = nI (T j)) → (∀ l, l < n → T l = l → aI S' 2 l = nI (csm n T a l)) → Q S') : w3_gatherCorners S V Q := by
  unfold w3_gatherCorners w3_gatherCorners_b2
  refine lp_up n (fun z => z.1) (fun i z => Fr [1, 2] S z.2 ∧ ∃ T, GS n p a T z.2 i) (by omega) ?_ (Nat.zero_le _) (rfl : (0 : Int32) = nI 0) (by exact ⟨fr_rf, fun _ => 0, fun j hj => absurd hj (Nat.not_lt_zero j), fun c => absurd c (Nat.lt_irrefl 0), fun j hj => absurd hj (Nat.not_lt_zero _), fun l hl => absurd hl (Nat.not_lt_zero l)⟩)
  rintro K ⟨y, S1⟩ i hi hcc ⟨hF, T, g1, g2, g3, g4⟩ hK
  try dsimp only at hcc hF hK
  subst hcc
  unfold w3_gatherCorners_F2 w3_gatherCorners_d2
  try dsimp only
  rw [(hF 7 (by decide)).1, e7]
  refine ⟨fun c => ?_, fun c => ?_⟩
  · have ei := nI_end (by omega) hi c
    subst ei
    refine h S1 T hF ?_ (fun j hj => (g1 j hj).2) g4
    by_cases e : i = 0
    · exact Or.inl e
    · exact Or.inr ⟨g2 (by omega), g3⟩
  have hlt := nI_go (by omega) hi c
  have hv : vp_in (nI i) 50 := vp_in_nI (by omega) (by decide)
  -- the label t of point i
  have fin : ∀ t, t ≤ i → (i = 0 → t = 0) → (∀ j, j + 1 = i → t = if p j < j + 1 then T (p j) else j + 1) → w3_gatherCorners_b52 (fun y0 y1 => K (y0, y1)) (nI i) (nI i) (nI t) S1 V Q := by
    intro t ht h0 hs
    obtain ⟨T', oT, nT⟩ : ∃ T' : Nat → Nat, (∀ k, ¬ k = i → T' k = T k) ∧ T' i = t := ⟨fun k => if k = i then t else T k, fun k hk => if_neg hk, if_pos rfl⟩
    have hlab : ∀ S2, aI S2 1 = upd (aI S1 1) i (nI t) → ∀ j, j < i + 1 → T' j ≤ j ∧ aI S2 1 j = nI (T' j) := by
      intro S2 e1 j hj
      rw [e1]
      by_cases q : j = i
      · rw [q, pk_us, nT]; exact ⟨ht, rfl⟩
      · rw [pk_un q, oT j q]; exact g1 j (by omega)
    have hz : 0 < i + 1 → T' 0 = 0 := by
      intro _
      by_cases q : i = 0
      · rw [← q, nT]; rw [h0 q]; exact q.symm
      · rw [oT 0 (by omega)]; exact g2 (by omega)
    have hst : ∀ j, j + 1 < i + 1 → T' (j + 1) = if p j < j + 1 then T' (p j) else j + 1 := by
      intro j hj
      by_cases q : j + 1 = i
      · rw [q, nT, hs j q, q]
        by_cases c2 : p j < i
        · rw [if_pos c2, if_pos c2, oT _ (by omega)]
        · rw [if_neg c2, if_neg c2]
      · rw [oT _ q, g3 j (by omega)]
        by_cases c2 : p j < j + 1
        · rw [if_pos c2, if_pos c2, oT _ (by omega)]
        · rw [if_neg c2, if_neg c2]
    have hcs : ∀ l, csm (i + 1) T' a l = csm i T a l + (if t = l then a i else 0) := by
      intro l
      unfold csm
      rw [fb_sm_succ, nT]
      rw [fb_sm_cong (f := fun k => if T' k = l then a k else 0) (g := fun k => if T k = l then a k else 0) (n := i) (fun k hk => by rw [oT k (by omega)])]
    -- the last step: quarters at t
    have k70 : ∀ S2, Fr [1, 2] S S2 → aI S2 1 = upd (aI S1 1) i (nI t) → (∀ l, l < i → T l = l → aI S2 2 l = aI S1 2 l) → (t = i → aI S2 2 i = 0) → w3_gatherCorners_b70 (fun y0 y1 => K (y0, y1)) (nI i) S2 V Q := by
      intro S2 hF2 e1 hq hqi
      unfold w3_gatherCorners_b70
      rw [rA_n _ 1 (by omega), e1, pk_us]
      refine ⟨hv, vp_in_nI (by omega) (by decide), x4_angleAt V hn e3 ha hlt _ ?_⟩
      rw [rA_n _ 2 (by omega)]
      rintro _ rfl _ rfl
      refine hK (_, _) hlt (nI_1 i) ⟨fr_tr hF2 (fr_sA (by decide)), T', ?_, hz, hst, fun l hl hTl => ?_⟩
      · exact hlab _ (by rw [rd_sn _ (by decide)]; exact e1)
      · show aI (sA S2 2 (nI t) (aI S2 2 t + nI (a i))) 2 l = _
        rw [rd_A, nI_clamp (by omega), hcs l]
        by_cases q : l = t
        · rw [q, pk_us, if_pos rfl]
          by_cases q2 : t = i
          · have hc0 : csm i T a t = 0 := by
              unfold csm
              rw [fb_sm_cong (g := fun _ => 0) (fun k hk => if_neg (by have := (g1 k hk).1; omega)), fb_sm_const]
              omega
            rw [hc0, Nat.zero_add]
            have : aI S2 2 t = 0 := by rw [q2]; exact hqi q2
            rw [this]
            exact Int32.zero_add _
          · have hTt : T t = t := by
              have := hTl
              rw [q, oT t q2] at this
              exact this
            rw [hq t (by omega) hTt, g4 t (by omega) hTt, nI_add]
        · rw [pk_un q, if_neg (fun e => q e.symm), Nat.add_zero]
          by_cases q2 : l = i
          · rw [q2, nT] at hTl
            exact absurd (by rw [q2, hTl]) q
          · rw [oT l q2] at hTl
            rw [hq l (by omega) hTl]
            exact g4 l (by omega) hTl
    unfold w3_gatherCorners_b52
    refine ⟨hv, ?_⟩
    rintro _ rfl
    have e1 : aI (sA S1 1 (nI i) (nI t)) 1 = upd (aI S1 1) i (nI t) := by rw [rd_A, nI_clamp (by omega)]
    rw [rA_n _ 1 (by omega), e1, pk_us, nI_eq (by omega) (by omega)]
    refine ⟨hv, fun cn => k70 _ (fr_tr hF (fr_sA (by decide))) e1 (fun l _ _ => by rw [rd_sn _ (by decide)]) (fun q => absurd q cn), fun cy => ?_⟩
    rintro _ rfl
    refine k70 _ (fr_tr hF (fr_tr (fr_sA (by decide)) (fr_sA (by decide)))) (by rw [rd_sn _ (by decide)]; exact e1) (fun l hl _ => ?_) (fun _ => ?_)
    · rw [rd_A, nI_clamp (by omega), pk_un (by omega), rd_sn _ (by decide)]
    · rw [rd_A, nI_clamp (by omega), pk_us]
  refine ⟨fun c0 => ?_, fun c0 => ?_⟩
  · have e0 : i = 0 := by
      have := (nI_leI (a := i) (b := 0) (by omega) (by decide)).mp c0
      omega
    unfold w3_gatherCorners_b27 w3_gatherCorners_b51
    refine ⟨fun _ => fin i (Nat.le_refl _) (fun q => q) (fun j hj => by omega), fun c => absurd (by decide) c⟩
  · have hi1 : ¬ i ≤ 0 := fun q => c0 (nI_le q (by decide))
    obtain ⟨hpi, epi⟩ := hp (i - 1) (by omega)
    rw [show nI i - (1 : Int32) = nI (i - 1) from pk_sub (b := 1) (by omega), rA_n _ 0 (by omega), (hF 0 (by decide)).2.2.1, epi]
    refine ⟨vp_in_nI (by omega) (by decide), ?_⟩
    unfold w3_gatherCorners_b27 w3_gatherCorners_b51
    refine ⟨fun c => absurd c (nI_pos (by omega)), fun _ => ⟨fun c => ?_, fun c => ⟨vp_in_nI (by omega) (by decide), ?_⟩⟩⟩
    · have hle := (nI_leI (a := i) (b := p (i - 1)) (by omega) (by omega)).mp c
      refine fin i (Nat.le_refl _) (fun q => q) (fun j hj => ?_)
      have ej : j = i - 1 := by omega
      rw [ej, if_neg (by omega)]; omega
    · have hle : ¬ i ≤ p (i - 1) := fun q => c (nI_le q (by omega))
      have gg := g1 (p (i - 1)) (by omega)
      rw [rA_n _ 1 (by omega), gg.2]
      refine fin _ (by omega) (fun q => by omega) (fun j hj => ?_)
      have ej : j = i - 1 := by omega
      rw [ej, if_pos (by omega)]
theorem x3_inAll {n : Nat} {T : Nat → Nat} (S : MS) (hn : n ≤ 50) (e7 : fI S 7 = nI n) (hT : ∀ j, j < n → T j < n ∧ aI S 1 j = nI (T j)) (Q : Int32 → Prop) (h : Q (nI (cnr n T))) : w3_cornersInAll S Q := by
  unfold w3_cornersInAll w3_cornersInAll_b4
  refine lp_up n (fun z => z.2) (fun i z => z.1 = nI (cnr i T)) (by omega) ?_ (Nat.zero_le _) (rfl : (0 : Int32) = nI 0) (by exact rfl)
  rintro K ⟨a, y⟩ i hi hcc hI hK
  try dsimp only at hcc hI hK
  subst hcc
  unfold w3_cornersInAll_F4 w3_cornersInAll_d4
  try dsimp only
  rw [e7]
  refine ⟨fun c => ?_, fun c => ?_⟩
  · rw [hI, nI_end (by omega) hi c]; exact h
  have hlt := nI_go (by omega) hi c
  obtain ⟨q1, q2⟩ := hT i hlt
  rw [rA_n _ _ (by omega), q2, nI_eq (by omega) (by omega)]
  have k28 : ∀ b, nI (cnr i T) + b = nI (cnr (i + 1) T) → w3_cornersInAll_b28 (fun y0 y1 => K (y0, y1)) (nI i) a b S Q := by
    intro b hb
    unfold w3_cornersInAll_b28
    rintro _ rfl _ rfl
    refine hK (_, _) hlt (nI_1 i) ?_
    show a + b = _
    rw [hI, hb]
  refine ⟨vp_in_nI (by omega) (by decide), fun cn => k28 _ ?_, fun cy => k28 _ ?_⟩
  · unfold cnr
    rw [fb_ct_succ, if_neg (by rw [decide_eq_false cn]; decide), Nat.add_zero]
    exact p0_I _
  · unfold cnr
    rw [fb_ct_succ, if_pos (decide_eq_true cy)]
    exact nI_1 _
/-- what a row must tell: pairs that don't cross -/
def GI (n : Nat) (v : Nat → Int32) : Prop := ∀ i, i < n → ∃ j, j < n ∧ v i = nI j ∧ ¬ j = i ∧ v j = nI i ∧ ∀ k, i < k → k < j → ∃ m, v k = nI m ∧ i < m ∧ m < j
theorem gi_glu {n : Nat} {v : Nat → Int32} (hn : n < 2 ^ 31) (h : GI n v) : ∃ p, (∀ i, i < n → p i < n ∧ v i = nI (p i)) ∧ Glu n p := by
  have ev : ∀ i, i < n → v i = nI (v i).toNatClampNeg ∧ (v i).toNatClampNeg < n := by
    intro i hi
    obtain ⟨j, hj, e, _⟩ := h i hi
    rw [e, nI_clamp (by omega)]
    exact ⟨rfl, hj⟩
  refine ⟨fun i => (v i).toNatClampNeg, fun i hi => ⟨(ev i hi).2, (ev i hi).1⟩, fun i hi => ?_⟩
  obtain ⟨j, hj, e, hne, ej, hk⟩ := h i hi
  have e1 : (v i).toNatClampNeg = j := by rw [e, nI_clamp (by omega)]
  have e2 : (v j).toNatClampNeg = i := by rw [ej, nI_clamp (by omega)]
  show (v i).toNatClampNeg < n ∧ ¬ (v i).toNatClampNeg = i ∧ (v (v i).toNatClampNeg).toNatClampNeg = i ∧ ∀ k, i < k → k < (v i).toNatClampNeg → i < (v k).toNatClampNeg ∧ (v k).toNatClampNeg < (v i).toNatClampNeg
  rw [e1]
  refine ⟨hj, hne, e2, fun k h1 h2 => ?_⟩
  obtain ⟨m, em, h3, h4⟩ := hk k h1 h2
  rw [em, nI_clamp (by omega)]
  exact ⟨h3, h4⟩
def GI1 (n : Nat) (v : Nat → Int32) (i : Nat) : Prop := ∃ j, j < n ∧ v i = nI j ∧ ¬ j = i ∧ v j = nI i ∧ ∀ k, i < k → k < j → ∃ m, v k = nI m ∧ i < m ∧ m < j
theorem x3_isPaired {n i : Nat} {v : Nat → Int32} (S : MS) (hn : n ≤ 24) (e7 : fI S 7 = nI n) (hv : ∀ k, k < n → aI S 0 k = v k) (hi : i < n) (Q : Int32 → Prop) (h1 : ∀ j, j < n → v i = nI j → ¬ j = i → v j = nI i → Q 1) (h0 : (¬ ∃ j, j < n ∧ v i = nI j ∧ ¬ j = i ∧ v j = nI i) → Q 0) : w3_isPaired (nI i) S Q := by
  unfold w3_isPaired w3_isPaired_b38 w3_isPaired_b39
  refine ⟨vp_in_nI (by omega) (by decide), ?_⟩
  rw [rA_n _ 0 (by omega), hv i hi, e7]
  rintro _ rfl
  refine ⟨fun c => ⟨rfl, h0 ?_⟩, fun c => ⟨fun c2 => ⟨rfl, h0 ?_⟩, fun c2 => ⟨fun c3 => ⟨rfl, h0 ?_⟩, fun c3 => ?_⟩⟩⟩
  · rintro ⟨j, hj, e, hne, _⟩
    rw [e] at c
    exact hne ((nI_eq (by omega) (by omega)).mp c)
  · rintro ⟨j, hj, e, _⟩
    rw [e] at c2
    exact nI_pos (by omega) c2
  · rintro ⟨j, hj, e, _⟩
    rw [e] at c3
    have := (nI_leI (a := n) (b := j) (by omega) (by omega)).mp c3
    omega
  · have hin : vp_in (v i) n := by
      rw [pi_in]
      rw [pi_lt, show (0 : Int32).toInt = 0 from rfl] at c2
      rw [pi_le, nI_toInt (by omega)] at c3
      omega
    obtain ⟨j, hj, e⟩ := vp_in_of hin (by omega)
    rw [e] at c ⊢
    rw [rA_n _ 0 (by omega), hv j hj]
    refine ⟨vp_in_nI (by omega) (by decide), fun c4 => ⟨rfl, h0 ?_⟩, fun c4 => ⟨rfl, h1 j hj e (fun q => c (by rw [q])) c4⟩⟩
    rintro ⟨j', hj', e', hne, ej⟩
    rw [e] at e'
    have := (nI_eq (by omega) (by omega)).mp e'
    rw [this] at c4
    exact c4 ej
theorem x3_holds {n i j : Nat} {v : Nat → Int32} (S : MS) (hn : n ≤ 24) (hv : ∀ k, k < n → aI S 0 k = v k) (hi : i < n) (hj : j < n) (e : v i = nI j) (Q : Int32 → Prop) (h1 : (∀ k, i < k → k < j → ∃ m, v k = nI m ∧ i < m ∧ m < j) → Q 1) (h0 : (¬ ∀ k, i < k → k < j → ∃ m, v k = nI m ∧ i < m ∧ m < j) → Q 0) : w3_holdsItsOwn (nI i) S Q := by
  unfold w3_holdsItsOwn w3_holdsItsOwn_b4
  rw [nI_1]
  rintro _ rfl
  refine lp_up (if i + 1 ≤ j then j else i + 1) (fun z => z) (fun k _ => i < k ∧ ∀ k', i < k' → k' < k → ∃ m, v k' = nI m ∧ i < m ∧ m < j) (by split <;> omega) ?_ (k0 := i + 1) (by split <;> omega) rfl (by exact ⟨by omega, fun k' h1 h2 => by omega⟩)
  rintro K y k hk hcc ⟨hik, hI⟩ hK
  try dsimp only at hcc hI hK
  subst hcc
  unfold w3_holdsItsOwn_F4 w3_holdsItsOwn_d4
  try dsimp only
  rw [rA_n _ 0 (show i < 2 ^ 31 by omega), hv i hi, e]
  have hkb : k < 100 := by split at hk <;> omega
  refine ⟨vp_in_nI (by omega) (by decide), fun c => ?_, fun c => ?_⟩
  · have := (nI_leI (a := j) (b := k) (by omega) (by omega)).mp c
    exact h1 (fun k' q1 q2 => hI k' q1 (by omega))
  · have hlt : k < j := by
      have : ¬ j ≤ k := fun q => c (nI_le q (by omega))
      omega
    rw [rA_n _ 0 (by omega), hv k (by omega), show nI j - (1 : Int32) = nI (j - 1) from pk_sub (b := 1) (by omega), nI_1 i]
    have t1 : (nI (i + 1)).toInt = ((i + 1 : Nat) : Int) := nI_toInt (by omega)
    have t2 : (nI (j - 1)).toInt = ((j - 1 : Nat) : Int) := nI_toInt (by omega)
    refine ⟨vp_in_nI (by omega) (by decide), s8_within _ _ _ _ (fun w => ⟨fun _ => ?_, fun c => absurd c (by decide)⟩) (fun w => ⟨fun c => absurd rfl c, fun _ => h0 (fun q => w ?_)⟩)⟩
    · rw [t1, t2] at w
      obtain ⟨m, hm, em⟩ := vp_in_of (n := j) (pi_in.mpr (by omega) : vp_in (v k) j) (by omega)
      rw [em, nI_toInt (by omega)] at w
      rintro _ rfl
      refine hK _ (by rw [if_pos (by omega)]; exact hlt) (nI_1 k) ⟨by omega, fun k' q1 q2 => ?_⟩
      rcases Nat.lt_or_ge k' k with q3 | q3
      · exact hI k' q1 q3
      · have ek : k' = k := by omega
        rw [ek]; exact ⟨m, em, by omega, hm⟩
    · obtain ⟨m, em, q1, q2⟩ := q k hik hlt
      rw [em, t1, t2, nI_toInt (by omega)]
      omega
theorem x3_take {n : Nat} {v : Nat → Int32} (S V : MS) (hn : n ≤ 50) (hR : (fI V 1).toInt ≤ 24) (hv : fI V 1 = nI n → ∀ k, k < n → aI V 0 k = v k) (h7 : F50 S 7) (h8 : F50 S 8) (Q : Int32 → MS → Prop) (h0 : ¬ (fI V 1 = nI n ∧ GI n v) → ∀ S', F50 S' 7 → F50 S' 8 → fI S' 10 = fI S 10 → Q 0 S') (h1 : fI V 1 = nI n → GI n v → ∀ S', fI S' 7 = nI n → F50 S' 8 → fI S' 10 = fI S 10 → (∀ k, k < n → aI S' 0 k = v k) → Q 1 S') : w3_take (nI n) S V Q := by
  unfold w3_take w3_take_b14
  refine ⟨fun c => h0 (fun w => c w.1) S h7 h8 rfl, fun ce => ⟨fun c => ?_, fun c => ?_⟩⟩
  rotate_left
  · exfalso
    rw [ce, nI_toInt (by omega)] at hR
    exact c (nI_le (a := n) (b := 24) (by omega) (by decide))
  have hn24 := (nI_leI (a := n) (b := 24) (by omega) (by decide)).mp c
  rintro _ rfl
  rw [nI_clamp (by omega), show (0 : Int32).toNatClampNeg = 0 from rfl]
  refine ⟨⟨by decide, by decide, nI_pos (by omega), by omega, by omega⟩, ?_⟩
  rintro _ rfl
  have e7 : fI (pA (sI S 7 (nI n)) 0 (va_cpy (aI V 0) (aI (sI S 7 (nI n)) 0) 0 0 n)) 7 = nI n := by
    show fI (sI S 7 (nI n)) 7 = nI n
    exact rd_fI _ _ _
  have e8 : fI (pA (sI S 7 (nI n)) 0 (va_cpy (aI V 0) (aI (sI S 7 (nI n)) 0) 0 0 n)) 8 = fI S 8 := ((fr_pA (ks := [0]) (by decide)) 8 (by decide)).1.trans ((fr_sI (ks := [7]) (by decide)) 8 (by decide)).1
  have e10 : fI (pA (sI S 7 (nI n)) 0 (va_cpy (aI V 0) (aI (sI S 7 (nI n)) 0) 0 0 n)) 10 = fI S 10 := ((fr_pA (ks := [0]) (by decide)) 10 (by decide)).1.trans ((fr_sI (ks := [7]) (by decide)) 10 (by decide)).1
  have ev : ∀ k, k < n → aI (pA (sI S 7 (nI n)) 0 (va_cpy (aI V 0) (aI (sI S 7 (nI n)) 0) 0 0 n)) 0 k = v k := by
    intro k hk
    rw [rd_aI, pk_cpy_in (Nat.zero_le _) (by omega), show 0 + (k - 0) = k by omega]
    exact hv ce k hk
  generalize pA (sI S 7 (nI n)) 0 (va_cpy (aI V 0) (aI (sI S 7 (nI n)) 0) 0 0 n) = S1 at e7 e8 e10 ev
  have h7b : F50 S1 7 := ⟨n, hn, e7⟩
  have h8b : F50 S1 8 := by
    obtain ⟨k, hk, ek⟩ := h8
    exact ⟨k, hk, e8.trans ek⟩
  unfold w3_take_b37
  refine lp_up n (fun z => z) (fun i _ => ∀ k, k < i → GI1 n v k) (by omega) ?_ (Nat.zero_le _) (rfl : (0 : Int32) = nI 0) (by exact fun k hk => absurd hk (Nat.not_lt_zero k))
  rintro K y i hi hcc hI hK
  try dsimp only at hcc hI hK
  subst hcc
  unfold w3_take_F37 w3_take_d37 w3_take_b58
  try dsimp only
  refine ⟨fun c => ?_, fun c => ?_⟩
  · have ei := nI_end (by omega) hi c
    subst ei
    exact h1 ce hI S1 e7 h8b e10 ev
  have hlt := nI_go (by omega) hi c
  refine x3_isPaired S1 hn24 e7 ev hlt _ (fun j hj e hne ej => ⟨fun c => absurd c (by decide), fun _ => x3_holds S1 hn24 ev hlt hj e _ (fun hh => ⟨fun _ => ?_, fun c => absurd c (by decide)⟩) (fun hh => ⟨fun c => absurd rfl c, fun _ => h0 (fun w => hh ?_) S1 h7b h8b e10⟩)⟩) (fun hno => ⟨fun _ => h0 (fun w => hno ?_) S1 h7b h8b e10, fun c => absurd rfl c⟩)
  · rintro _ rfl
    refine hK _ hlt (nI_1 i) (fun k hk => ?_)
    rcases Nat.lt_or_ge k i with q | q
    · exact hI k q
    · have ek : k = i := by omega
      rw [ek]; exact ⟨j, hj, e, hne, ej, hh⟩
  · obtain ⟨j', hj', e', _, _, hk'⟩ := w.2 i hlt
    rw [e] at e'
    have ej' := (nI_eq (by omega) (by omega)).mp e'
    rw [ej']; exact hk'
  · obtain ⟨j', hj', e', h2, h3, _⟩ := w.2 i hlt
    exact ⟨j', hj', e', h2, h3⟩

/-! ===== pure: ways on a box: the class ===== -/
theorem x1_sideOf {V : MS} {d : Nat → Nat} {s l : Nat} (h24 : tot d ≤ 24) (hC : BoxC V d) (hs : s < 6) (hl : l < sz d s) (Q : Int32 → Prop) (h : Q (nI s)) : w1_sideOf (nI (pre d s + l)) V Q := by
  have hp := pre_le (d := d) hs
  have ec : (nI (pre d s + l)).toInt = ((pre d s + l : Nat) : Int) := nI_toInt (by omega)
  unfold w1_sideOf w1_sideOf_b19
  refine s1_hasCell _ _ _ (fun _ => ⟨fun c => absurd c (by decide), fun _ => ⟨vp_in_nI (by omega) (by decide), ?_⟩⟩) (fun q => absurd (by rw [bc_tot h24 hC, ec]; omega) q)
  rw [rA_n _ _ (by omega), (hC.2.2.1 s l hs hl (by omega)).1]
  exact h
theorem x1_middleOf {V : MS} {d : Nat → Nat} {s l j : Nat} (h24 : tot d ≤ 24) (hC : BoxC V d) (hs : s < 6) (hl : l < sz d s) (hj : j < 3) (Q : Int32 → Prop) (h : Q (nI (posOf d s l j))) : w1_middleOf (nI (pre d s + l)) (nI j) V Q := by
  have e0 : (0 : Int32).toInt = 0 := rfl
  have e2 : (2 : Int32).toInt = 2 := rfl
  have hp := pre_le (d := d) hs
  have ec : (nI (pre d s + l)).toInt = ((pre d s + l : Nat) : Int) := nI_toInt (by omega)
  have ej : (nI j).toInt = (j : Int) := nI_toInt (by omega)
  unfold w1_middleOf w1_middleOf_b30 w1_middleOf_b32
  refine s1_hasCell _ _ _ (fun _ => ⟨fun c => absurd c (by decide), fun _ => s8_within _ _ _ _ (fun _ => ⟨fun c => absurd c (by decide), fun _ => ?_⟩) (fun q2 => absurd (by omega) q2)⟩) (fun q => absurd (by rw [bc_tot h24 hC, ec]; omega) q)
  rw [ix_3, rA_n _ _ (by omega), (hC.2.2.1 s l hs hl (by omega)).2 j hj]
  exact ⟨vp_in_nI (by omega) (by decide), h⟩
theorem x7_lengthTo {V : MS} {d : Nat → Nat} {s l k : Nat} (h24 : tot d ≤ 24) (hC : BoxC V d) (hs : s < 6) (hl : l < sz d s) (hk : k < 6) (f X : Nat → Int32) (hf : ∀ j, j < 3 → f (3 * k + j) = X j) (Q : Int32 → Prop) (h : Q (ln (fun j => nI (posOf d s l j)) X)) : w7_lengthTo (nI (pre d s + l)) (nI k) V f Q := by
  unfold w7_lengthTo
  rw [show (3 : Int32) = nI 3 from rfl, pk_mul]
  rintro _ rfl
  refine ⟨fun c => absurd c (nI_pos (by omega)), fun _ => ⟨fun _ => ?_, fun c => ?_⟩⟩
  rotate_left
  · rw [nI_add] at c
    exact absurd (nI_le (by omega) (by omega)) c
  unfold w7_lengthTo_b28
  refine lp_up 3 (fun z => z.2) (fun j z => z.1 = pl (fun j => nI (posOf d s l j)) X j) (by decide) ?_ (Nat.zero_le _) (rfl : (0 : Int32) = nI 0) (by exact rfl)
  rintro K ⟨a, y⟩ j hj hcc hI hK
  try dsimp only at hcc hI hK
  subst hcc
  unfold w7_lengthTo_F28 w7_lengthTo_d28
  try dsimp only
  refine ⟨fun c => ?_, fun c2 => ?_⟩
  · have e := nI_end (N := 3) (by decide) hj c
    subst e
    rw [hI]
    exact h
  have hlt := nI_go (N := 3) (by decide) hj c2
  rw [nI_add, nI_clamp (by omega), hf j hlt]
  refine ⟨vp_in_nI (by omega) (by decide), x1_middleOf h24 hC hs hl hlt _ ?_⟩
  rintro _ rfl _ rfl _ rfl
  refine hK (_, _) hlt (nI_1 j) ?_
  show a + _ = pl _ _ j + _
  rw [hI]
theorem x7_unfold {V : MS} {d : Nat → Nat} {k s t : Nat} (hk : k < 5) (hs : s < 6) (ht : t < 6) (hL : Len V d) (hne : ¬ t / 2 = s / 2) (f X : Nat → Int32) (hf : ∀ j, j < 3 → f (3 * k + j) = X j) (Q : (Nat → Int32) → Prop) (h : ∀ g, (∀ i, i < 3 * k + 3 → g i = f i) → (∀ j, j < 3 → g (3 * (k + 1) + j) = uf d s t X j) → Q g) : w7_unfold (nI s) (nI t) (nI k) V f Q := by
  unfold w7_unfold
  rw [show (3 : Int32) = nI 3 from rfl, pk_mul]
  rintro _ rfl _ rfl
  rw [nI_add]
  refine ⟨fun c => absurd c (nI_pos (by omega)), fun _ => ⟨fun _ => ?_, fun c => ?_⟩⟩
  rotate_left
  · rw [nI_add] at c
    exact absurd (nI_le (by omega) (by omega)) c
  rw [nI_clamp (by omega), nI_clamp (by omega), nI_clamp (by omega), sh_1 (by omega), sh_1 (by omega), nI_add, nI_add, nI_add]
  refine ⟨⟨nI_pos (by omega), nI_pos (by omega), by decide, by omega, by omega⟩, ?_⟩
  rintro _ rfl
  refine x1_signOf ht _ (x1_endAt ht V hL _ ⟨vp_in_nI (by omega) (by decide), ?_⟩)
  rw [nI_clamp (by omega), pk_cpy_out (by omega), hf (t / 2) (by omega)]
  rintro _ rfl
  refine x1_endAt ht V hL _ ⟨vp_in_nI (by omega) (by decide), ?_⟩
  rintro _ rfl
  refine x1_endAt hs V hL _ (x1_signOf hs _ ⟨vp_in_nI (by omega) (by decide), ?_⟩)
  rintro _ rfl
  rw [nI_clamp (by omega), nI_clamp (by omega)]
  refine h _ (fun i hi => ?_) (fun j hj => ?_)
  · rw [pk_un (by omega), pk_un (by omega), pk_cpy_out (by omega)]
  · unfold uf
    by_cases q1 : j = s / 2
    · rw [if_pos q1, q1, show 3 * (k + 1) + s / 2 = 3 * k + 3 + s / 2 by omega, pk_us]
      rfl
    · rw [if_neg q1, pk_un (by omega)]
      by_cases q2 : j = t / 2
      · rw [if_pos q2, q2, show 3 * (k + 1) + t / 2 = 3 * k + 3 + t / 2 by omega, pk_us]
        rfl
      · rw [if_neg q2, pk_un (by omega), pk_cpy_in (by omega) (by omega), show 3 * k + (3 * (k + 1) + j - (3 * k + 3)) = 3 * k + j by omega, hf j hj]
/-- which sides are used -/
def Usd (M : Nat) (l : List Nat) : Prop := M < 64 ∧ ∀ t, t < 6 → (M / 2 ^ t % 2 = 1 ↔ t ∈ l)
theorem us_bit : ∀ M, M < 64 → ∀ t, t < 6 → ((nI M >>> (nI t &&& 31)) &&& (1 : Int32)) = nI (M / 2 ^ t % 2) ∧ nI M ||| ((1 : Int32) <<< (nI t &&& 31)) = nI (M ||| 2 ^ t) ∧ M ||| 2 ^ t < 64 := by decide +kernel
theorem us_set : ∀ M, M < 64 → ∀ t, t < 6 → ∀ j, j < 6 → ((M ||| 2 ^ t) / 2 ^ j % 2 = 1 ↔ (j = t ∨ M / 2 ^ j % 2 = 1)) := by decide +kernel
theorem us_1 : ∀ t, t < 6 → (1 : Int32) <<< (nI t &&& 31) = nI (2 ^ t) ∧ 2 ^ t < 64 ∧ ∀ j, j < 6 → (2 ^ t / 2 ^ j % 2 = 1 ↔ j = t) := by decide +kernel
theorem us_cons {M : Nat} {l : List Nat} {t : Nat} (h : Usd M l) (ht : t < 6) : Usd (M ||| 2 ^ t) (t :: l) := by
  refine ⟨(us_bit M h.1 t ht).2.2, fun j hj => ?_⟩
  rw [us_set M h.1 t ht j hj, h.2 j hj, List.mem_cons]
def MxF (d : Nat → Nat) (P q : Nat → Int32) (a b : Nat) (l : List Nat) (v : Int32) : Prop := (v = 1073741824 ∨ ∃ pre, OKL a b (pre ++ l) ∧ v = VL d P q (pre ++ l)) ∧ ∀ pre, OKL a b (pre ++ l) → v.toInt ≤ (VL d P q (pre ++ l)).toInt
theorem ls_app {l m : List Nat} {b : Nat} (h : Ls m b) : Ls (l ++ m) b := by
  obtain ⟨M, e⟩ := h
  exact ⟨l ++ M, by rw [e, List.append_assoc]⟩
theorem app_1 (p : List Nat) (t : Nat) (l : List Nat) : p ++ [t] ++ l = p ++ t :: l := by rw [List.append_assoc]; rfl
set_option maxHeartbeats 1000000 in
theorem x7_shortestFrom {V : MS} {d : Nat → Nat} {sp lp' sq : Nat} {q : Nat → Int32} (h24 : tot d ≤ 24) (hd : ∀ j, j < 3 → 1 ≤ d j ∧ d j ≤ 5) (hC : BoxC V d) (hsp : sp < 6) (hlp : lp' < sz d sp) (hq : Bd 10 q) : ∀ (n k : Nat), k < 6 → 6 ≤ n + k → ∀ (s : Nat) (r : List Nat), SP (s :: r) → r.length = k → Ls (s :: r) sq → ∀ (M : Nat) (f : Nat → Int32), Usd M (s :: r) → (∀ j, j < 3 → f (3 * k + j) = Uq d q (s :: r) j) → ∀ (Q : Int32 → (Nat → Int32) → Prop), (∀ v g, (∀ i, i < 3 * k + 3 → g i = f i) → MxF d (fun j => nI (posOf d sp lp' j)) q sp sq (s :: r) v → Q v g) → w7_shortestFrom n (nI (pre d sp + lp')) (nI s) (nI M) (nI k) V f Q := by
  intro n
  induction n with
  | zero => intro k hk hn; omega
  | succ n ih =>
    intro k hk hn s r hSP hlen hLs M f hM hf Q h
    have hs : s < 6 := hSP.2.2.1 s (List.mem_cons.mpr (Or.inl rfl))
    show w7_shortestFrom_r (w7_shortestFrom n) (nI (pre d sp + lp')) (nI s) (nI M) (nI k) V f Q
    unfold w7_shortestFrom_r
    refine x1_sideOf h24 hC hsp hlp _ ⟨fun cs => ⟨fun c => ?_, fun c => ?_⟩, fun cs => x7_lengthTo h24 hC hsp hlp hk f _ hf _ (h _ _ (fun _ _ => rfl) ?_)⟩
    rotate_left
    · rw [nI_1] at c
      have hk5 : ¬ k + 1 < 6 := fun q => c ((nI_ltI (a := k + 1) (b := 6) (by omega) (by decide)).mpr q)
      refine h _ _ (fun _ _ => rfl) ⟨Or.inl rfl, fun p hp => ?_⟩
      obtain ⟨p2, t, e⟩ := pre_some hp.2.1 (fun e => cs (by rw [e]))
      have := hp.1.2.2.2
      rw [e, List.length_append, List.length_append, List.length_singleton, List.length_cons, hlen] at this
      omega
    · have es : s = sp := (nI_eq (by omega) (by omega)).mp cs
      subst es
      refine ⟨Or.inr ⟨[], ⟨hSP, ⟨_, rfl⟩, hLs⟩, rfl⟩, fun p hp => ?_⟩
      have := pre_nil hp.1 hp.2.1
      subst this
      exact Int.le_refl _
    have hns : ¬ s = sp := fun e => cs (by rw [e])
    rw [nI_1] at c
    have hk5 := (nI_ltI (a := k + 1) (b := 6) (by omega) (by decide)).mp c
    unfold w7_shortestFrom_b37
    refine lp_up 6 (fun z => z.2.1) (fun t z => (∀ i, i < 3 * k + 3 → z.2.2 i = f i) ∧ (z.1 = 1073741824 ∨ ∃ p, OKL sp sq (p ++ s :: r) ∧ z.1 = VL d (fun j => nI (posOf d sp lp' j)) q (p ++ s :: r)) ∧ ∀ p t', t' < t → OKL sp sq (p ++ t' :: s :: r) → z.1.toInt ≤ (VL d (fun j => nI (posOf d sp lp' j)) q (p ++ t' :: s :: r)).toInt) (by decide) ?_ (Nat.zero_le _) (rfl : (0 : Int32) = nI 0) (by exact ⟨fun _ _ => rfl, Or.inl rfl, fun _ _ c => absurd c (Nat.not_lt_zero _)⟩)
    rintro K ⟨b, y, g⟩ t ht hcc ⟨hg, hat, hle⟩ hK
    try dsimp only at hcc hg hat hle hK
    subst hcc
    unfold w7_shortestFrom_F37 w7_shortestFrom_d37
    try dsimp only
    refine ⟨fun c2 => ?_, fun c2 => ?_⟩
    · have e := nI_end (N := 6) (by decide) ht c2
      subst e
      refine h _ _ hg ⟨hat, fun p hp => ?_⟩
      obtain ⟨p2, t2, e⟩ := pre_some hp.2.1 hns
      subst e
      rw [app_1] at hp ⊢
      exact hle p2 t2 (SP_pv hp.1).1 hp
    have hlt := nI_go (N := 6) (by decide) ht c2
    have skip : (∀ p, ¬ OKL sp sq (p ++ t :: s :: r)) → w7_shortestFrom_b112 (w7_shortestFrom n) (fun y0 y1 y2 => K (y0, y1, y2)) (nI (pre d sp + lp')) (nI s) (nI M) (nI k) b (nI t) V g Q := by
      intro hno
      unfold w7_shortestFrom_b112
      rintro _ rfl
      refine hK (_, _, _) hlt (nI_1 t) ⟨hg, hat, fun p t' h1 h2 => ?_⟩
      rcases Nat.lt_or_ge t' t with q1 | q1
      · exact hle p t' q1 h2
      · have e : t' = t := by omega
        subst e
        exact absurd h2 (hno p)
    rw [sh_1 (by omega), sh_1 (by omega)]
    unfold w7_shortestFrom_b59
    refine ⟨fun c3 => ⟨fun _ => skip (fun p hp => (SP_pv hp.1).2.2 ((nI_eq (by omega) (by omega)).mp c3)), fun c4 => absurd rfl c4⟩, fun c3 => ⟨fun c4 => absurd c4 (by decide), fun _ => ?_⟩⟩
    rw [(us_bit M hM.1 t hlt).1, (us_bit M hM.1 t hlt).2.1]
    refine ⟨fun c4 => skip (fun p hp => c4 ?_), fun c4 => ?_⟩
    · have h1 : ¬ M / 2 ^ t % 2 = 1 := fun e => (SP_pv hp.1).2.1 ((hM.2 t hlt).mp e)
      rw [show M / 2 ^ t % 2 = 0 by omega]
      rfl
    have hnm : t ∉ s :: r := fun e => by
      have h1 := (hM.2 t hlt).mpr e
      rw [h1] at c4
      exact absurd c4 (by decide)
    have hne : ¬ t / 2 = s / 2 := fun e => c3 (by rw [e])
    refine x7_unfold (by omega) hs hlt hC.1 hne g _ (fun j hj => (hg _ (by omega)).trans (hf j hj)) _ (fun g2 hg2 hu => ?_)
    rw [nI_1]
    have hSP2 : SP (t :: s :: r) := SP_cons hSP hlt hnm hne (by rw [List.length_cons, hlen]; omega)
    refine ih (k + 1) (by omega) (by omega) t (s :: r) hSP2 (by rw [List.length_cons, hlen]) (ls_app (l := [t]) hLs) _ g2 (us_cons hM hlt) (fun j hj => hu j hj) _ (fun v g3 hg3 hv => ?_)
    rintro _ rfl
    unfold w7_shortestFrom_b112
    rintro _ rfl
    obtain ⟨hv1, hv2⟩ := hv
    refine hK (_, _, _) hlt (nI_1 t) ⟨fun i hi => ?_, ?_, fun p t' h1 h2 => ?_⟩
    · show g3 i = f i
      rw [hg3 i (by omega), hg2 i hi, hg i hi]
    · show (if v < b then v else b) = 1073741824 ∨ ∃ p, OKL sp sq (p ++ s :: r) ∧ (if v < b then v else b) = _
      by_cases c5 : v < b
      · rw [if_pos c5]
        rcases hv1 with e | ⟨p, hp1, hp2⟩
        · exact Or.inl e
        · rw [← app_1] at hp1 hp2
          exact Or.inr ⟨_, hp1, hp2⟩
      · rw [if_neg c5]
        exact hat
    · show (if v < b then v else b).toInt ≤ _
      have hmin : (if v < b then v else b).toInt ≤ v.toInt ∧ (if v < b then v else b).toInt ≤ b.toInt := by
        by_cases c5 : v < b
        · rw [if_pos c5]
          rw [pi_lt] at c5
          omega
        · rw [if_neg c5]
          rw [pi_lt] at c5
          omega
      rcases Nat.lt_or_ge t' t with q1 | q1
      · have := hle p t' q1 h2
        omega
      · have e : t' = t := by omega
        subst e
        have := hv2 p h2
        omega
theorem x7_shortest {V : MS} {d : Nat → Nat} {sp lp' sq lq : Nat} (h24 : tot d ≤ 24) (hd : ∀ j, j < 3 → 1 ≤ d j ∧ d j ≤ 5) (hC : BoxC V d) (hsp : sp < 6) (hlp : lp' < sz d sp) (hsq : sq < 6) (hlq : lq < sz d sq) (S : MS) (Q : Int32 → MS → Prop) (h : ∀ v S', Mn d (fun j => nI (posOf d sp lp' j)) (fun j => nI (posOf d sq lq j)) sp sq v → Q v S') : w7_shortest (nI (pre d sp + lp')) (nI (pre d sq + lq)) S V Q := by
  unfold w7_shortest
  refine x1_sideOf h24 hC hsq hlq _ ⟨fun _ => ?_, fun c => absurd ((pi_le _ _).mpr (by rw [nI_toInt (by omega)]; show (0 : Int) ≤ _; omega)) c⟩
  unfold w7_shortest_b17
  refine lp_up 3 (fun z => z.1) (fun k z => ∀ j, j < k → aI z.2 0 j = nI (posOf d sq lq j)) (by decide) ?_ (Nat.zero_le _) (rfl : (0 : Int32) = nI 0) (by exact fun j hj => absurd hj (Nat.not_lt_zero j))
  rintro K ⟨y, S1⟩ k hk hcc hI hK
  try dsimp only at hcc hI hK
  subst hcc
  unfold w7_shortest_F17 w7_shortest_d17
  try dsimp only
  refine ⟨fun c => ?_, fun c => ?_⟩
  · have e := nI_end (N := 3) (by decide) hk c
    subst e
    have hpb := posB hsq hd hlq
    obtain ⟨u1, u2, u3⟩ := us_1 sq hsq
    rw [u1]
    refine x7_shortestFrom (sq := sq) h24 hd hC hsp hlp hpb 7 0 (by decide) (by decide) sq [] ⟨nd_1 sq, trivial, fun x hx => ?_, len_1 sq⟩ rfl ⟨[], rfl⟩ (2 ^ sq) (aI S1 0) ⟨u2, fun t ht => ?_⟩ (fun j hj => ?_) _ (fun v g _ hv => ?_)
    · rw [List.mem_singleton] at hx
      rw [hx]; exact hsq
    · rw [u3 t ht, List.mem_singleton]
    · show aI S1 0 (3 * 0 + j) = nI (posOf d sq lq j)
      rw [show 3 * 0 + j = j by omega]
      exact hI j hj
    · rintro _ rfl
      refine h _ _ ⟨?_, fun L hL => ?_⟩
      · rcases hv.1 with e | ⟨p, hp1, hp2⟩
        · exfalso
          obtain ⟨L, hL⟩ := ok_ex hsp hsq
          obtain ⟨M, eM⟩ := id hL.2.2
          rw [eM] at hL
          have h1 := hv.2 M hL
          have h2 := VL_b (fun j hj => (hd j hj).2) (posB hsp hd hlp) hpb hL.1
          rw [e, show (1073741824 : Int32).toInt = 1073741824 from rfl] at h1
          omega
        · exact ⟨_, hp1, hp2⟩
      · obtain ⟨M, eM⟩ := id hL.2.2
        rw [eM] at hL ⊢
        exact hv.2 M hL
  · have hlt := nI_go (N := 3) (by decide) hk c
    refine x1_middleOf h24 hC hsq hlq hlt _ ⟨vp_in_nI (by omega) (by decide), ?_⟩
    rintro _ rfl _ rfl
    refine hK (_, _) hlt (nI_1 k) (fun j hj => ?_)
    show aI (sA S1 0 (nI k) _) 0 j = _
    rw [rd_A, nI_clamp (by omega)]
    by_cases e : j = k
    · rw [e, pk_us]
    · rw [pk_un e]; exact hI j (by omega)

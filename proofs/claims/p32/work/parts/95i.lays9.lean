/-! ===== pure: laying out of the reference, exactly ===== -/
theorem wf_tot {d : Nat → Nat} {L : List (Nat × Nat)} (h24 : tot d ≤ 24) (h : WF d L) : L.length ≤ tot d := by
  have e := fb_ct_split (cov L) (tot d) (24 - tot d)
  rw [show tot d + (24 - tot d) = 24 by omega, h.2.1] at e
  have z : fb_ct (fun k => cov L (tot d + k)) (24 - tot d) = 0 := fb_ct_zero.mpr fun k _ => by
    cases q : cov L (tot d + k)
    · rfl
    · obtain ⟨p, hp, e⟩ := cov_iff.mp q
      have := (h.1 p hp).2
      omega
  have := fb_ct_le (cov L) (tot d)
  omega
def R9 (S0 S : MS) (n : Nat) (x : Int64) (L : List (Nat × Nat)) : Prop := Fr [8, 9, 10, 11, 14, 15, 16] S0 S ∧ n = L.length ∧ (∀ c, c < 24 → cov L c = false → aI S 15 c = -9) ∧ (∀ q, q < 64 → bt x q = hsq L q) ∧ (∀ k p, L[k]? = some p → aI S 14 k = nI (p.2 / 4)) ∧ (∀ p, p ∈ L → aI S 15 (p.2 / 4) = nI p.1 ∧ aI S 16 (p.2 / 4) = nI (p.2 % 4))
theorem R9_fr {S0 S S' : MS} {n : Nat} {x : Int64} {L : List (Nat × Nat)} (h : R9 S0 S n x L) (hF : Fr [8, 9, 10, 11] S S') : R9 S0 S' n x L := by
  obtain ⟨h1, h2, h3, h4, h5, h6⟩ := h
  refine ⟨fr_tr h1 (fr_mono hF (by decide)), h2, ?_, h4, ?_, ?_⟩
  · rw [(hF 15 (by decide)).2.2.1]; exact h3
  · rw [(hF 14 (by decide)).2.2.1]; exact h5
  · rw [(hF 15 (by decide)).2.2.1, (hF 16 (by decide)).2.2.1]; exact h6
theorem R9_put {d : Nat → Nat} {S0 S : MS} {n q f : Nat} {x : Int64} {L : List (Nat × Nat)} (h24 : tot d ≤ 24) (hW : WF d L) (h : R9 S0 S n x L) (hq : q < 64) (hf : f < 4 * tot d) (h1 : hsq L q = false) (h2 : cov L (f / 4) = false) : R9 S0 (sA (sA (sA S 15 (nI (f / 4)) (nI q)) 16 (nI (f / 4)) (nI (f % 4))) 14 (nI n) (nI (f / 4))) (n + 1) (x ||| lN (2 ^ q)) (L ++ [(q, f)]) := by
  obtain ⟨r1, r2, r3, r4, r5, r6⟩ := h
  have hn := wf_24 hW
  have e15 : aI (sA (sA (sA S 15 (nI (f / 4)) (nI q)) 16 (nI (f / 4)) (nI (f % 4))) 14 (nI n) (nI (f / 4))) 15 = upd (aI S 15) (f / 4) (nI q) := by
    rw [rd_sn _ (by decide), rd_sn _ (by decide), rd_A, nI_clamp (by omega)]
  have e16 : aI (sA (sA (sA S 15 (nI (f / 4)) (nI q)) 16 (nI (f / 4)) (nI (f % 4))) 14 (nI n) (nI (f / 4))) 16 = upd (aI S 16) (f / 4) (nI (f % 4)) := by
    rw [rd_sn _ (by decide), rd_A, rd_sn _ (by decide), nI_clamp (by omega)]
  have e14 : aI (sA (sA (sA S 15 (nI (f / 4)) (nI q)) 16 (nI (f / 4)) (nI (f % 4))) 14 (nI n) (nI (f / 4))) 14 = upd (aI S 14) n (nI (f / 4)) := by
    rw [rd_A, rd_sn _ (by decide), rd_sn _ (by decide), nI_clamp (by omega)]
  refine ⟨fr_tr r1 (fr_tr (fr_tr (fr_sA (by decide)) (fr_sA (by decide))) (fr_sA (by decide))), by rw [List.length_append, r2]; rfl, fun c hc hn => ?_, fun q2 hq2 => ?_, fun k p e => ?_, fun p hp => ?_⟩
  · rw [cov_add, Bool.or_eq_false_iff] at hn
    have hne : ¬ c = f / 4 := fun e => by
      have := hn.2
      rw [e] at this
      exact absurd this (by simp)
    rw [e15, pk_un hne]
    exact r3 c hc hn.1
  · rw [bt_or, bt_p2 hq, r4 q2 hq2, hsq_add]
    congr 1
    by_cases e : q2 = q
    · rw [decide_eq_true e, e]; exact (beq_iff_eq.mpr rfl).symm
    · rw [decide_eq_false e]; exact (beq_eq_false_iff_ne.mpr (fun q => e q.symm)).symm
  · rw [e14]
    rw [List.getElem?_append] at e
    by_cases q3 : k < L.length
    · rw [if_pos q3] at e
      rw [pk_un (by omega)]
      exact r5 k p e
    · rw [if_neg q3, List.getElem?_singleton] at e
      by_cases q2 : k - L.length = 0
      · rw [if_pos q2] at e
        have e2 := Option.some.inj e
        rw [← e2, show k = n by omega, pk_us]
      · rw [if_neg q2] at e
        exact absurd e (by simp)
  · rw [e15, e16]
    rcases mem_add hp with r | r
    · rw [pk_un (cov_no h2 r), pk_un (cov_no h2 r)]
      exact r6 p r
    · rw [r, pk_us, pk_us]
      exact ⟨rfl, rfl⟩
/-- which ways the reference tries -/
def TrS (S : MS) (row : Int32) (tr : Nat → Nat → Bool) : Prop := (row = -9 ∧ ∀ c w, c < 24 → w < 4 → tr c w = true) ∨ ∃ r, r < 4 ∧ row = nI r ∧ ∀ c : Nat, c < 24 → ((c : Int) < (aI S 40 r).toInt → ∀ w, w < 4 → tr c w = bi (aI S 41 (24 * r + c)) w) ∧ (¬ (c : Int) < (aI S 40 r).toInt → ∀ w, w < 4 → tr c w = true)
/-- the least square of what is laid out -/
def Lst (L : List (Nat × Nat)) (p : Nat × Nat) : Prop := p ∈ L ∧ ∀ j, j < p.1 → hsq L j = false
theorem lst_ex {L : List (Nat × Nat)} {p0 : Nat × Nat} (h : p0 ∈ L) : ∃ p, Lst L p := by
  obtain ⟨m, hm1, hm2⟩ := pk_least (fun q => hsq L q = true) ⟨p0.1, hsq_iff.mpr ⟨p0, h, rfl⟩⟩
  obtain ⟨p, hp, e⟩ := hsq_iff.mp hm1
  refine ⟨p, hp, fun j hj => ?_⟩
  cases q : hsq L j
  · rfl
  · exact absurd q (hm2 j (by omega))
theorem lst_fun {d : Nat → Nat} {L : List (Nat × Nat)} (hW : WF d L) {p p' : Nat × Nat} (h : Lst L p) (h' : Lst L p') : p = p' := by
  apply hW.2.2.2.1 p h.1 p' h'.1
  rcases Nat.lt_trichotomy p.1 p'.1 with q | q | q
  · have := h'.2 p.1 q
    rw [hsq_iff.mpr ⟨p, h.1, rfl⟩] at this
    exact absurd this (by decide)
  · exact q
  · have := h.2 p'.1 q
    rw [hsq_iff.mpr ⟨p', h'.1, rfl⟩] at this
    exact absurd this (by decide)
theorem pc_L {d : Nat → Nat} {L : List (Nat × Nat)} {x : Int64} (hW : WF d L) (hx : ∀ q, q < 64 → bt x q = hsq L q) : pc x = L.length := by
  unfold pc
  rw [← hW.2.2.1]
  exact fb_ct_cong hx
theorem bt_L {d : Nat → Nat} {L : List (Nat × Nat)} {x : Int64} (hW : WF d L) (hx : ∀ q, q < 64 → bt x q = hsq L q) : bt x = hsq L := by
  funext q
  rcases Nat.lt_or_ge q 64 with r | r
  · exact hx q r
  · rw [bt_ge x r]
    cases e : hsq L q
    · rfl
    · obtain ⟨p, hp, e⟩ := hsq_iff.mp e
      have := (hW.1 p hp).1
      omega
/-- what laying out answers -/
def LR (d g : Nat → Nat) (tr : Nat → Nat → Bool) (q0 f0 : Nat) (r : Int32) : Prop :=
  ((lay g tr q0 f0 24 = none ∨ ∃ L, lay g tr q0 f0 24 = some L ∧ ¬ L.length = tot d) ∧ r = 0) ∨ ∃ L p, lay g tr q0 f0 24 = some L ∧ L.length = tot d ∧ WF d L ∧ Lst L p ∧ ((Fits d g (hsq L) p.1 p.2 ∧ r = 2) ∨ (¬ Fits d g (hsq L) p.1 p.2 ∧ r = 1))
theorem lr_fun {d g : Nat → Nat} {tr : Nat → Nat → Bool} {q0 f0 : Nat} {r r' : Int32} (h : LR d g tr q0 f0 r) (h' : LR d g tr q0 f0 r') : r = r' := by
  rcases h with ⟨h, e⟩ | ⟨L, p, a1, a2, a3, a4, a5⟩
  · rcases h' with ⟨_, e'⟩ | ⟨L', p', b1, b2, _⟩
    · rw [e, e']
    · exfalso
      rcases h with h | ⟨L, h1, h2⟩
      · rw [b1] at h; exact absurd h (by simp)
      · rw [b1] at h1
        rw [Option.some.inj h1] at b2
        exact h2 b2
  · rcases h' with ⟨h', e'⟩ | ⟨L', p', b1, b2, b3, b4, b5⟩
    · exfalso
      rcases h' with h | ⟨L', h1, h2⟩
      · rw [a1] at h; exact absurd h (by simp)
      · rw [a1] at h1
        rw [Option.some.inj h1] at a2
        exact h2 a2
    · rw [a1] at b1
      have e := Option.some.inj b1
      subst e
      have e2 := lst_fun a3 a4 b4
      subst e2
      rcases a5 with ⟨u, v⟩ | ⟨u, v⟩
      · rcases b5 with ⟨u', v'⟩ | ⟨u', v'⟩
        · rw [v, v']
        · exact absurd u u'
      · rcases b5 with ⟨u', v'⟩ | ⟨u', v'⟩
        · exact absurd u' u
        · rw [v, v']
/-- the step with the cell's own turn, as laying out takes it -/
theorem s9_goTo3 {b c t w : Nat} {d g : Nat → Nat} (hb : b < 4) (hc : c < tot d) (ht : t < 4) (hw : w < 4) (S : MS) (hB : BoxN S b d) (hg : LdG d g) (e16 : aI S 16 c = nI t) (R : MS → Prop)
    (h : ∀ S' s' u' p', s' < 6 → u' < 6 → Fr [8, 9, 10, 11] S S' → At S' s' p' → Ok d s' p' → fI S' 11 = nI u' → cellOf d s' p' = led g (4 * c + t) w / 4 → tuN s' u' = led g (4 * c + t) w % 4 → R S') : w9_goTo (nI b) (nI c) S (fun S3 => vp_in (nI c) 24 ∧ w9_setFrame (rA S3 16 (nI c)) S3 (fun S5 => w9_go (nI b) (nI w) S5 R)) := by
  have h24 := hB.2
  have hm : ∀ P : MS → Prop, w9_goTo (nI b) (nI c) S P → w9_goTo (nI b) (nI c) S (fun S3 => vp_in (nI c) 24 ∧ P S3) := by
    intro P hP
    have e : (fun S3 => vp_in (nI c) 24 ∧ P S3) = P := by
      funext S3
      exact propext ⟨fun q => q.2, fun q => ⟨vp_in_nI (by omega) (by decide), q⟩⟩
    rw [e]; exact hP
  exact hm _ (s9_led hb hc ht hw S hB hg (fun S9 => rA S9 16 (nI c)) (fun S' hF => by
    show rA S' 16 (nI c) = _
    rw [rA_n _ _ (by omega), (hF 16 (by decide)).2.2.1]; exact e16) R h)
theorem s9_laysN {b c q : Nat} {d g : Nat → Nat} {tr : Nat → Nat → Bool} (row f : Int32) (hf : vp_in f 6) (hb : b < 4) (S : MS) (hI : Inv9 S) (hB : BoxN S b d) (hg : LdG d g) (hT : TrS S row tr) (hc : c < tot d) (hq : q < 64) (Q : Int32 → MS → Prop) (h : ∀ r S', G9 S S' → LR d g tr q (4 * c) r → Q r S') : w9_lays (nI b) (nI c) (nI q) row f S Q := by
  have h24 := hB.2
  have hd1 : ∀ j, j < 3 → 1 ≤ d j := fun j hj => (hB.1 j hj).1
  have hgF : ∀ S', Fr [8, 9, 10, 11, 14, 15, 16] S S' → G9 S S' := fun S' hF => g9_fr hI hF (by decide) (by decide) (by decide) (by decide)
  unfold w9_lays w9_lays_b3
  refine lp_up 24 (fun z => z.1) (fun k z => Fr [15] S z.2 ∧ ∀ j, j < k → aI z.2 15 j = -9) (by decide) ?_ (Nat.zero_le _) (rfl : (0 : Int32) = nI 0) (by exact ⟨fr_rf, fun j hj => absurd hj (Nat.not_lt_zero j)⟩)
  rintro K ⟨y, S1⟩ k hk hc1 ⟨hF1, h9⟩ hK
  try dsimp only at hc1 hF1 h9 hK
  subst hc1
  unfold w9_lays_F3 w9_lays_d3
  try dsimp only
  refine ⟨fun qq => ?_, fun qq => ?_⟩
  rotate_left
  · have hlt := nI_go (N := 24) (by decide) hk qq
    refine ⟨vp_in_nI hlt (by decide), ?_⟩
    rintro _ rfl _ rfl
    refine hK (_, _) hlt (nI_1 k) ⟨fr_tr hF1 (fr_sA (by decide)), fun j hj => ?_⟩
    try dsimp only
    rw [rd_A, nI_clamp (by omega)]
    by_cases e : j = k
    · rw [e, pk_us]
    · rw [pk_un e]; exact h9 j (by omega)
  have ek := nI_end (N := 24) (by decide) hk qq
  subst ek
  clear hK qq hk
  rintro _ rfl
  refine ⟨vp_in_nI (by omega) (by decide), ?_⟩
  rintro _ rfl _ rfl _ rfl
  rw [one_sh hq]
  have e14 : aI (sA (sA (sA S1 14 (0 : Int32) (nI c)) 15 (nI c) (nI q)) 16 (nI c) (0 : Int32)) 14 = upd (aI S1 14) 0 (nI c) := by
    rw [rd_sn _ (by decide), rd_sn _ (by decide), rd_A]
    rfl
  have e15 : aI (sA (sA (sA S1 14 (0 : Int32) (nI c)) 15 (nI c) (nI q)) 16 (nI c) (0 : Int32)) 15 = upd (aI S1 15) c (nI q) := by
    rw [rd_sn _ (by decide), rd_A, rd_sn _ (by decide), nI_clamp (by omega)]
  have e16 : aI (sA (sA (sA S1 14 (0 : Int32) (nI c)) 15 (nI c) (nI q)) 16 (nI c) (0 : Int32)) 16 = upd (aI S1 16) c (nI 0) := by
    rw [rd_A, rd_sn _ (by decide), rd_sn _ (by decide), nI_clamp (by omega)]
    rfl
  have hL0 : R9 S (sA (sA (sA S1 14 (0 : Int32) (nI c)) 15 (nI c) (nI q)) 16 (nI c) (0 : Int32)) 1 (lN (2 ^ q)) [(q, 4 * c)] := by
    refine ⟨fr_tr (fr_mono hF1 (by decide)) (fr_tr (fr_tr (fr_sA (by decide)) (fr_sA (by decide))) (fr_sA (by decide))), rfl, fun c2 hc2 hn => ?_, fun q2 hq2 => ?_, fun k p e => ?_, fun p hp => ?_⟩
    · have hne : ¬ c2 = c := fun e => by
        have := cov_no hn (List.mem_singleton.mpr rfl)
        apply this
        show 4 * c / 4 = c2
        omega
      rw [e15, pk_un hne]
      exact h9 c2 hc2
    · rw [bt_p2 hq]
      show _ = ((q == q2) || false)
      rw [Bool.or_false]
      by_cases e : q2 = q
      · rw [decide_eq_true e, e]; exact (beq_iff_eq.mpr rfl).symm
      · rw [decide_eq_false e]; exact (beq_eq_false_iff_ne.mpr (fun q => e q.symm)).symm
    · rw [List.getElem?_singleton] at e
      by_cases q2 : k = 0
      · rw [if_pos q2] at e
        rw [← Option.some.inj e, e14, q2, pk_us]
        show nI c = nI (4 * c / 4)
        rw [show 4 * c / 4 = c by omega]
      · rw [if_neg q2] at e
        exact absurd e (by simp)
    · rw [List.mem_singleton.mp hp, e15, e16]
      show upd (aI S1 15) c (nI q) (4 * c / 4) = nI q ∧ upd (aI S1 16) c (nI 0) (4 * c / 4) = nI (4 * c % 4)
      rw [show 4 * c / 4 = c by omega, show 4 * c % 4 = 0 by omega, pk_us, pk_us]
      exact ⟨rfl, rfl⟩
  have hW0 : WF d [(q, 4 * c)] := wf_add (L := []) h24 wf_nil hq (by omega) rfl rfl
  clear e14 e15 e16
  unfold w9_lays_b57
  refine lp_up 24 (fun z => z.2.2.1) (fun k z => ∃ n L, z.1 = nI n ∧ k ≤ n ∧ R9 S z.2.2.2 n z.2.1 L ∧ WF d L ∧ lay g tr q (4 * c) k = some L) (by decide) ?_ (Nat.zero_le _) (rfl : (0 : Int32) = nI 0) (by exact ⟨1, _, rfl, Nat.zero_le _, hL0, hW0, rfl⟩)
  clear hL0 h9 hW0
  rintro K ⟨x6, x, y, S2⟩ k hk hcc ⟨n, L, hn, hkn, hL, hW, hlay⟩ hK
  try dsimp only at hcc hn hL hK
  subst hcc hn
  have hn24 : n ≤ 24 := by have := wf_24 hW; rw [hL.2.1]; exact this
  have hB2 : BoxN S2 b d := boxN_fr hL.1 (by decide) hB
  unfold w9_lays_F57 w9_lays_d57
  try dsimp only
  refine ⟨fun qe => ?_, fun qe => ?_⟩
  · have hkn2 : n ≤ k := (nI_leI (by omega) (by omega)).mp qe
    have hfin := lay_fix hlay (by rw [← hL.2.1]; exact hkn2) (24 - k)
    rw [show k + (24 - k) = 24 by omega] at hfin
    refine s9_cells hb _ _ ?_
    rw [cls_N hB2]
    refine ⟨fun qt => ?_, fun qt => h _ _ (hgF _ hL.1) (Or.inl ⟨Or.inr ⟨L, hfin, fun e => qt (by rw [hL.2.1, e]; exact nI_le (Nat.le_refl _) (by omega))⟩, rfl⟩)⟩
    have hnt : tot d ≤ n := (nI_leI (a := tot d) (b := n) (by omega) (by omega)).mp qt
    have hlt := wf_tot h24 hW
    have hlen : L.length = tot d := by have := hL.2.1; omega
    obtain ⟨r1, r2, r3, r4, r5, r6⟩ := hL
    have hbx := bt_L hW r4
    have hL0m : ∃ p0, p0 ∈ L := by
      have h1 : 0 < L.length := by omega
      exact ⟨L[0], List.getElem_mem h1⟩
    obtain ⟨p0, hp0⟩ := hL0m
    obtain ⟨p, hp⟩ := lst_ex hp0
    obtain ⟨hp1, hp2⟩ := hW.1 p hp.1
    have hxm : bt x p.1 = true := by rw [r4 _ hp1]; exact hsq_iff.mpr ⟨p, hp.1, rfl⟩
    have hxl : ∀ j, j < p.1 → bt x j = false := fun j hj => by rw [r4 _ (by omega)]; exact hp.2 j hj
    have hx : ¬ x = 0 := bt_ne hxm
    have hcn : Cn (bt x) := by rw [hbx]; exact lay_cn 24 L hfin (fun r hr => (hW.1 r hr).1)
    have hpc := pc_L hW r4
    have hun : ∀ k1, k1 < 24 → aI S2 15 k1 = nI p.1 → k1 = p.2 / 4 := by
      intro k1 hk1 e
      cases hcv : cov L k1
      · rw [r3 k1 hk1 hcv] at e
        exact absurd e.symm (nI_m9 (by omega))
      · obtain ⟨p', hp', e'⟩ := cov_iff.mp hcv
        have := (r6 p' hp').1
        rw [e', e] at this
        have e2 := (nI_eq (by omega) (by have := (hW.1 p' hp').1; omega)).mp this
        rw [hW.2.2.2.1 p hp.1 p' hp' e2]
        exact e'.symm
    unfold w9_lays_b279
    refine lp_up n (fun z => z.2) (fun k z => (z.1 = -9 ∧ k ≤ p.2 / 4) ∨ z.1 = nI (p.2 / 4)) (by omega) ?_ (Nat.zero_le _) (rfl : (0 : Int32) = nI 0) (by exact Or.inl ⟨rfl, Nat.zero_le _⟩)
    rintro K1 ⟨fst, y⟩ k1 hk1 hcc hfst hK1
    try dsimp only at hcc hfst hK1
    subst hcc
    unfold w9_lays_F279 w9_lays_d279
    try dsimp only
    refine ⟨fun qe1 => ?_, fun qe1 => ?_⟩
    · have e := nI_end (N := n) (by omega) hk1 qe1
      have efst : fst = nI (p.2 / 4) := by
        rcases hfst with ⟨_, q⟩ | q
        · omega
        · exact q
      subst efst
      rw [rA_n _ _ (by omega), (r6 p hp.1).2]
      refine ⟨vp_in_nI (by omega) (by decide), ?_⟩
      have ep : p.2 = 4 * (p.2 / 4) + p.2 % 4 := by omega
      refine x9_isFolded (g := g) x hxm hxl hcn hb S2 hB2 hg (by omega) (by omega) _ (fun S3 hF3 hno => ⟨fun c => absurd rfl c, fun _ => ?_⟩) (fun S3 hF3 hyes => ⟨fun _ => ⟨hf, ?_⟩, fun c => absurd c (by decide)⟩)
      · rw [← ep, hbx] at hno
        exact h _ _ (g9_fr (ks := [8, 9, 10, 11, 12, 13, 14, 15, 16]) hI (fr_tr (fr_mono r1 (by decide)) (fr_mono hF3 (by decide))) (by decide) (by decide) (by decide) (by decide)) (Or.inr ⟨L, p, hfin, hlen, hW, hp, Or.inr ⟨hno, rfl⟩⟩)
      rw [← ep, hbx] at hyes
      have hLR : LR d g tr q (4 * c) 2 := Or.inr ⟨L, p, hfin, hlen, hW, hp, Or.inl ⟨hyes, rfl⟩⟩
      rintro _ rfl
      have hF4 : Fr [3, 8, 9, 10, 11, 12, 13, 14, 15, 16] S (sL S3 3 f x) := fr_tr (fr_mono r1 (by decide)) (fr_tr (fr_mono hF3 (by decide)) (fr_sL (by decide)))
      have e3 : aJ (sL S3 3 f x) 3 = vp_updL (aJ S 3) f.toNatClampNeg x := by
        rw [rd_L, (hF3 3 (by decide)).2.2.2, (r1 3 (by decide)).2.2.2]
      have k411 : ∀ v, w9_lays_b411 (nI b) f (nI (p.2 / 4)) f v (sL S3 3 f x) Q := by
        intro v
        unfold w9_lays_b411
        refine ⟨hf, ?_⟩
        rintro _ rfl
        refine ⟨by rw [(ix3z hb).1]; exact (ix3z hb).2, hf, ?_⟩
        rintro _ rfl
        refine h _ _ (g9_fig (ks := [3, 4, 5, 8, 9, 10, 11, 12, 13, 14, 15, 16]) (f := f.toNatClampNeg) (v := x) hI (fr_tr (fr_mono hF4 (by decide)) (fr_tr (fr_sA (by decide)) (fr_sA (by decide)))) (by decide) (by decide) (by decide) e3 (by omega)) hLR
      unfold w9_lays_b392 w9_lays_b393
      have i1 : vp_in ((3 : Int32) * nI b + (1 : Int32)) 12 := by
        have := (ix3 hb 1 (by decide))
        rw [show (1 : Int32) = nI 1 from rfl, this.1]; exact this.2
      have i2 : vp_in ((3 : Int32) * nI b + (2 : Int32)) 12 := by
        have := (ix3 hb 2 (by decide))
        rw [show ((3 : Int32) * nI b + (2 : Int32)) = (3 : Int32) * nI b + nI 2 from rfl, this.1]; exact this.2
      exact ⟨by rw [(ix3z hb).1]; exact (ix3z hb).2, i1, fun _ => ⟨fun _ => k411 _, fun _ => k411 _⟩, fun _ => ⟨i2, fun _ => ⟨fun _ => k411 _, fun _ => k411 _⟩, fun _ => ⟨fun _ => k411 _, fun _ => k411 _⟩⟩⟩
    · have hlt1 := nI_go (N := n) (by omega) hk1 qe1
      refine ⟨vp_in_nI (by omega) (by decide), s9_leastOf x hx _ (fun m2 hm2 hb2 hl2 => ?_)⟩
      have em : m2 = p.1 := by
        rcases Nat.lt_trichotomy m2 p.1 with q | q | q
        · rw [hxl m2 q] at hb2; exact absurd hb2 (by decide)
        · exact q
        · rw [hl2 p.1 q] at hxm; exact absurd hxm (by decide)
      subst em
      rw [rA_n _ _ (by omega)]
      unfold w9_lays_b308
      refine ⟨fun qn => ?_, fun qn => ?_⟩
      · rintro _ rfl
        refine hK1 (_, _) hlt1 (nI_1 k1) ?_
        rcases hfst with ⟨q1, q2⟩ | q
        · refine Or.inl ⟨q1, ?_⟩
          have : ¬ k1 = p.2 / 4 := fun e => qn (by rw [e]; exact (r6 p hp.1).1)
          omega
        · exact Or.inr q
      · rintro _ rfl
        refine hK1 (_, _) hlt1 (nI_1 k1) (Or.inr ?_)
        rw [← hun k1 (by omega) qn]
  have hlt : k < n := by
    rcases Nat.lt_or_ge k n with q | q
    · exact q
    · exact absurd (nI_le q (by omega)) qe
  have hkl : k < L.length := by rw [← hL.2.1]; exact hlt
  have ep : L[k]? = some L[k] := List.getElem?_eq_getElem hkl
  generalize L[k] = p at ep
  have hp := List.mem_of_getElem? ep
  obtain ⟨hp1, hp2⟩ := hW.1 p hp
  have es := lay_s hlay ep
  rw [rA_n _ _ (by omega), hL.2.2.2.2.1 k p ep]
  have k113 : ∀ t0 : Int32, (∀ w, w < 4 → tr (p.2 / 4) w = bi t0 w) → w9_lays_b113 (fun y0 y1 y2 y3 => K (y0, y1, y2, y3)) (nI b) row f (nI n) x (nI k) (nI (p.2 / 4)) t0 0 S2 Q := by
    intro ways hways
    unfold w9_lays_b113
    refine lp_up 4 (fun z => z.2.2.1) (fun w z => ∃ n2 L2, z.1 = nI n2 ∧ n ≤ n2 ∧ R9 S z.2.2.2 n2 z.2.1 L2 ∧ WF d L2 ∧ rnd g (tr (p.2 / 4)) p.1 p.2 w L = some L2) (by decide) ?_ (Nat.zero_le _) (rfl : (0 : Int32) = nI 0) (by exact ⟨n, L, rfl, Nat.le_refl _, hL, hW, rfl⟩)
    rintro K2 ⟨x62, x2, y, S3⟩ w hw hcc ⟨n2, L2, hn2, hnn, hL3, hW3, hr3⟩ hK2
    try dsimp only at hcc hn2 hL3 hK2
    subst hcc hn2
    have hn24' : n2 ≤ 24 := by have := wf_24 hW3; rw [hL3.2.1]; exact this
    unfold w9_lays_F113 w9_lays_d113
    try dsimp only
    refine ⟨fun qw => ?_, fun qw => ?_⟩
    · have e4 := nI_end (N := 4) (by decide) hw qw
      subst e4
      rintro _ rfl
      exact hK (_, _, _, _) (by omega) (nI_1 k) ⟨n2, L2, rfl, by omega, hL3, hW3, es.trans hr3⟩
    have hwlt := nI_go (N := 4) (by decide) hw qw
    have hB3 : BoxN S3 b d := boxN_fr hL3.1 (by decide) hB
    have hp3 : p ∈ L2 := rnd_sub w L2 hr3 p hp
    have e15 := (hL3.2.2.2.2.2 p hp3).1
    have e16 := (hL3.2.2.2.2.2 p hp3).2
    have hes := rnd_s hr3
    refine s9_goTo3 hb (by omega : p.2 / 4 < tot d) (by omega : p.2 % 4 < 4) hwlt S3 hB3 hg e16 _ (fun S6 s6 u6 p6 hs6 hu6 hF36 hA6 hO6 h11 hcell hturn => ?_)
    rw [show 4 * (p.2 / 4) + p.2 % 4 = p.2 by omega] at hcell hturn
    have hled := led_lt hd1 hg hp2 hwlt
    have hL6 := R9_fr hL3 hF36
    have hB6 : BoxN S6 b d := boxN_fr hF36 (by decide) hB3
    refine s9_cellNow hb hs6 S6 hB6 hA6 (ok_lt hs6 (fun j hj => (hB.1 j hj).2.1) hO6) _ ?_
    rw [hcell]
    have hsame : rnd g (tr (p.2 / 4)) p.1 p.2 (w + 1) L = some L2 → w9_lays_b248 (fun y0 y1 y2 y3 => K2 (y0, y1, y2, y3)) (nI b) row f (nI n2) x2 (nI k) (nI (p.2 / 4)) ways (nI w) S6 Q := by
      intro hr
      unfold w9_lays_b248
      rintro _ rfl
      exact hK2 (_, _, _, _) hwlt (nI_1 w) ⟨n2, L2, rfl, hnn, hL6, hW3, hr⟩
    rw [bi_bit _ (by omega), ← hways w hwlt]
    refine ⟨fun qb => hsame ?_, fun qb => ⟨vp_in_nI (by omega) (by decide), fun q9 => hsame ?_, fun q9 => ?_⟩⟩
    · rw [hes]
      unfold one
      refine if_pos (Or.inl ?_)
      cases e : tr (p.2 / 4) w
      · rfl
      · rw [if_pos e] at qb; exact absurd rfl qb
    · rw [hes]
      unfold one
      refine if_pos (Or.inr ?_)
      cases e : cov L2 (led g p.2 w / 4)
      · rw [rA_n _ _ (by omega), hL6.2.2.1 _ (by omega) e] at q9
        exact absurd rfl q9
      · rfl
    have htw : tr (p.2 / 4) w = true := by
      cases e : tr (p.2 / 4) w
      · rw [if_neg (by rw [e]; decide)] at qb; exact absurd qb (by decide)
      · rfl
    have hcv : cov L2 (led g p.2 w / 4) = false := by
      cases e : cov L2 (led g p.2 w / 4)
      · rfl
      · obtain ⟨r, hr, er⟩ := cov_iff.mp e
        have := (hL6.2.2.2.2.2 r hr).1
        rw [rA_n _ _ (by omega), ← er, this] at q9
        exact absurd q9 (nI_m9 (by have := (hW3.1 r hr).1; omega))
    have hn1 : ¬ (tr (p.2 / 4) w = false ∨ cov L2 (led g p.2 w / 4) = true) := by
      rw [htw, hcv]; decide
    have hfail : (bs p.1 w = 64 ∨ hsq L2 (bs p.1 w) = true) → LR d g tr q (4 * c) 0 := by
      intro hbad
      have en : rnd g (tr (p.2 / 4)) p.1 p.2 (w + 1) L = none := by
        rw [hes]
        unfold one
        rw [if_neg hn1]
        exact if_pos hbad
      have en4 := rnd_none en (4 - (w + 1))
      rw [show w + 1 + (4 - (w + 1)) = 4 by omega] at en4
      have := lay_none (es.trans en4) (24 - (k + 1))
      rw [show k + 1 + (24 - (k + 1)) = 24 by omega] at this
      exact Or.inl ⟨Or.inl this, rfl⟩
    rw [rA_n _ _ (by omega), (hL6.2.2.2.2.2 p hp3).1]
    unfold w9_lays_b205
    refine s9_besideN hp1 hwlt _ ?_
    have hble := bs_le p.1 (by omega) w hwlt
    refine ⟨fun hr9 => h _ _ (hgF _ hL6.1) (hfail ?_), fun hr9 => ?_⟩
    · by_cases e : bs p.1 w < 64
      · rw [sqI_lt e] at hr9
        exact absurd hr9 (nI_m9 (by omega))
      · exact Or.inl (by omega)
    have hb64 : bs p.1 w < 64 := by
      by_cases e : bs p.1 w < 64
      · exact e
      · exact absurd (sqI_ge e) hr9
    refine s9_has _ _ _ (fun hbt => ⟨fun c => absurd c (by decide), fun _ => h _ _ (hgF _ hL6.1) (hfail (Or.inr ?_))⟩) (fun hbt => ⟨fun _ => ?_, fun c => absurd rfl c⟩)
    · rw [hasB_sq, hL6.2.2.2.1 _ hb64] at hbt
      exact hbt
    have hs2 : hsq L2 (bs p.1 w) = false := by
      rw [hasB_sq, hL6.2.2.2.1 _ hb64] at hbt
      cases e : hsq L2 (bs p.1 w)
      · rfl
      · exact absurd e hbt
    rw [sqI_lt hb64]
    rintro _ rfl
    refine x9_turnNow hs6 hu6 _ (show fI (sA S6 15 (nI (led g p.2 w / 4)) (nI (bs p.1 w))) 8 = nI s6 from (fi_sA _ _ _ _ _).trans hA6.1) ((fi_sA _ _ _ _ _).trans h11) _ ?_
    rw [hturn]
    rintro _ rfl _ rfl
    rw [one_sh hb64]
    have hroom := wf_room hW3 (by omega) hcv
    have hL7 := R9_put h24 hW3 hL6 hb64 hled hs2 hcv
    have hW7 := wf_add h24 hW3 hb64 hled hs2 hcv
    refine ⟨vp_in_nI (by rw [hL3.2.1]; exact hroom) (by decide), ?_⟩
    rintro _ rfl _ rfl
    unfold w9_lays_b248
    rintro _ rfl
    refine hK2 (_, _, _, _) hwlt (nI_1 w) ⟨n2 + 1, _, nI_1 n2, by omega, hL7, hW7, ?_⟩
    rw [hes]
    unfold one
    rw [if_neg hn1]
    refine if_neg ?_
    rw [hs2]
    rintro (q | q)
    · omega
    · exact absurd q (by decide)
  refine ⟨vp_in_nI (by omega) (by decide), ?_⟩
  rintro _ rfl
  unfold w9_lays_b106 w9_lays_b108
  have e40 : aI S2 40 = aI S 40 := (hL.1 40 (by decide)).2.2.1
  have e41 : aI S2 41 = aI S 41 := (hL.1 41 (by decide)).2.2.1
  rcases hT with ⟨rfl, hT⟩ | ⟨r, hr, rfl, hT⟩
  · refine ⟨fun _ => k113 _ (fun w hw => ?_), fun qr => absurd (by decide) qr⟩
    rw [hT _ w (by omega) hw, bi_15 w hw]
  · have e24 : (24 : Int32) * nI r + nI (p.2 / 4) = nI (24 * r + p.2 / 4) := by
      rw [show (24 : Int32) = nI 24 from rfl, pk_mul, nI_add]
    have ec : (nI (p.2 / 4)).toInt = ((p.2 / 4 : Nat) : Int) := nI_toInt (by omega)
    rw [e24, rA_n _ _ (by omega), rA_n _ _ (by omega), e40, e41, pi_le, ec]
    refine ⟨fun qr => absurd qr (nI_pos (by omega)), fun _ => ⟨vp_in_nI hr (by decide), fun qs => k113 _ (fun w hw => ?_), fun qs => ⟨vp_in_nI (by omega) (by decide), k113 _ (fun w hw => ?_)⟩⟩⟩
    · rw [(hT _ (by omega)).2 (by omega) w hw, bi_15 w hw]
    · exact (hT _ (by omega)).1 (by omega) w hw

/-! ===== pure: layOut of the reference ===== -/
theorem rA_n (S : MS) (k : Nat) {j : Nat} (hj : j < 2 ^ 31) : rA S k (nI j) = aI S k j := by
  show aI S k (nI j).toNatClampNeg = _
  rw [nI_clamp hj]
theorem t9_lays {b c q : Nat} {d : Nat → Nat} (row f : Int32) (hf : vp_in f 6) (hrow : row = -9 ∨ vp_in row 4) (hb : b < 4) (S : MS) (hI : Inv9 S) (hB : BoxN S b d) (hc : c < tot d) (hq : q < 64) (Q : Int32 → MS → Prop) (h : ∀ r S', G9 S S' → Q r S') : w9_lays (nI b) (nI c) (nI q) row f S Q := by
  have h24 := hB.2
  have hgF : ∀ S', Fr [8, 9, 10, 11, 14, 15, 16] S S' → G9 S S' := fun S' hF => g9_fr hI hF (by decide) (by decide) (by decide) (by decide)
  unfold w9_lays w9_lays_b3
  refine lp_up 24 (fun z => z.1) (fun k z => Fr [15] S z.2 ∧ ∀ j, j < k → aI z.2 15 j = -9) (by decide) ?_ (Nat.zero_le _) (rfl : (0 : Int32) = nI 0) (by exact ⟨fr_rf, fun j hj => absurd hj (Nat.not_lt_zero j)⟩)
  rintro K ⟨y, S1⟩ k hk hc1 ⟨hF1, h9⟩ hK
  try dsimp only at hc1 hF1 h9 hK
  subst hc1
  unfold w9_lays_F3 w9_lays_d3
  try dsimp only
  refine ⟨fun qq => ?_, fun qq => ?_⟩
  rotate_left
  · have hlt := nI_go (N := 24) (by decide) hk qq
    refine ⟨vp_in_nI hlt (by decide), ?_⟩
    rintro _ rfl _ rfl
    refine hK (_, _) hlt (nI_1 k) ⟨fr_tr hF1 (fr_sA (by decide)), fun j hj => ?_⟩
    try dsimp only
    rw [rd_A, nI_clamp (by omega)]
    by_cases e : j = k
    · rw [e, pk_us]
    · rw [pk_un e]; exact h9 j (by omega)
  have ek := nI_end (N := 24) (by decide) hk qq
  subst ek
  clear hK qq hk
  rintro _ rfl
  refine ⟨vp_in_nI (by omega) (by decide), ?_⟩
  rintro _ rfl _ rfl _ rfl
  rw [one_sh hq]
  have e14 : aI (sA (sA (sA S1 14 (0 : Int32) (nI c)) 15 (nI c) (nI q)) 16 (nI c) (0 : Int32)) 14 = upd (aI S1 14) 0 (nI c) := by
    rw [rd_sn _ (by decide), rd_sn _ (by decide), rd_A]
    rfl
  have e15 : aI (sA (sA (sA S1 14 (0 : Int32) (nI c)) 15 (nI c) (nI q)) 16 (nI c) (0 : Int32)) 15 = upd (aI S1 15) c (nI q) := by
    rw [rd_sn _ (by decide), rd_A, rd_sn _ (by decide), nI_clamp (by omega)]
  have e16 : aI (sA (sA (sA S1 14 (0 : Int32) (nI c)) 15 (nI c) (nI q)) 16 (nI c) (0 : Int32)) 16 = upd (aI S1 16) c (nI 0) := by
    rw [rd_A, rd_sn _ (by decide), rd_sn _ (by decide), nI_clamp (by omega)]
    rfl
  have hL0 : Ly d S (sA (sA (sA S1 14 (0 : Int32) (nI c)) 15 (nI c) (nI q)) 16 (nI c) (0 : Int32)) 1 (lN (2 ^ q)) := by
    have eu : un (sA (sA (sA S1 14 (0 : Int32) (nI c)) 15 (nI c) (nI q)) 16 (nI c) (0 : Int32)) = 23 := by
      unfold un
      rw [e15]
      have e1 : fb_ct (fun k => decide (upd (aI S1 15) c (nI q) k = -9)) 24 = fb_ct (fun k => if k = c then false else true) 24 := by
        apply fb_ct_cong
        intro k hk
        by_cases e : k = c
        · rw [if_pos e, e, pk_us]; exact decide_eq_false (nI_m9 (by omega))
        · rw [if_neg e, pk_un e]; exact decide_eq_true (h9 k hk)
      have e2 := fb_ct_upd (fun _ => true) false (show c < 24 by omega)
      have e3 : fb_ct (fun _ => true) 24 = 24 := fb_ct_all.mpr fun _ _ => rfl
      have e4 : fb_ct (fun k => if k = c then false else true) 24 + (if true = true then 1 else 0) = fb_ct (fun _ => true) 24 + (if false = true then 1 else 0) := e2
      rw [if_pos rfl, if_neg (by decide : ¬ false = true), e3] at e4
      rw [e1]
      omega
    refine ⟨fr_tr (fr_mono hF1 (by decide)) (fr_tr (fr_tr (fr_sA (by decide)) (fr_sA (by decide))) (fr_sA (by decide))), ⟨by omega, by omega⟩, ?_, ?_, ?_, ?_, ?_⟩
    · intro i hi
      rw [e14, e15, show i = 0 by omega, pk_us]
      exact ⟨c, hc, rfl, by rw [pk_us]; exact nI_m9 (by omega)⟩
    · intro c2 hc2
      rw [e15, e16]
      by_cases e : c2 = c
      · rw [e, pk_us, pk_us]
        exact Or.inr ⟨hc, q, 0, hq, by decide, rfl, rfl⟩
      · rw [pk_un e]
        exact Or.inl (h9 c2 hc2)
    · intro q2 hb2
      rw [bt_p2 hq] at hb2
      have e := of_decide_eq_true hb2
      rw [e15, e]
      exact ⟨c, hc, pk_us⟩
    · have := pc_or1 0 hq
      rw [pc_0, show (0 : Int64) ||| lN (2 ^ q) = lN (2 ^ q) from bt_ext fun k _ => by rw [bt_or, bt_0, Bool.false_or]] at this
      exact this
    · exact ⟨q, by rw [bt_p2 hq]; simp⟩
  clear e14 e15 e16
  unfold w9_lays_b57
  refine lp_up 24 (fun z => z.2.2.1) (fun k z => ∃ n, z.1 = nI n ∧ k ≤ n ∧ Ly d S z.2.2.2 n z.2.1) (by decide) ?_ (Nat.zero_le _) (rfl : (0 : Int32) = nI 0) (by exact ⟨1, rfl, Nat.zero_le _, hL0⟩)
  clear hL0 h9
  rintro K ⟨x6, x, y, S2⟩ k hk hcc ⟨n, hn, hkn, hL⟩ hK
  try dsimp only at hcc hn hL hK
  subst hcc hn
  have hn24 : n ≤ 24 := by have := hL.2.1.2; omega
  have hB2 : BoxN S2 b d := boxN_fr hL.1 (by decide) hB
  unfold w9_lays_F57 w9_lays_d57
  try dsimp only
  refine ⟨fun qe => ?_, fun qe => ?_⟩
  · refine s9_cells hb _ _ ?_
    rw [cls_N hB2]
    refine ⟨fun qt => ?_, fun _ => h _ _ (hgF _ hL.1)⟩
    have hnt : tot d ≤ n := (nI_leI (a := tot d) (b := n) (by omega) (by omega)).mp qt
    obtain ⟨h1, h2, h3, h4, h5, h6, ⟨q0, h7⟩⟩ := hL
    have hx : ¬ x = 0 := bt_ne h7
    obtain ⟨m, hm, hmb, hml⟩ : ∃ m, m < 64 ∧ bt x m = true ∧ ∀ j, j < m → bt x j = false := by
      obtain ⟨m, hm1, hm2⟩ := pk_least (fun k => bt x k = true) ⟨q0, h7⟩
      refine ⟨m, bt_lt hm1, hm1, fun j hj => ?_⟩
      have := hm2 j hj
      cases e : bt x j
      · rfl
      · exact absurd e this
    obtain ⟨cm, hcm, ecm⟩ := h5 m hmb
    unfold w9_lays_b279
    refine lp_up n (fun z => z.2) (fun k z => (z.1 = -9 ∧ k ≤ cm) ∨ ∃ c0, c0 < tot d ∧ z.1 = nI c0 ∧ ¬ aI S2 15 c0 = -9) (by omega) ?_ (Nat.zero_le _) (rfl : (0 : Int32) = nI 0) (by exact Or.inl ⟨rfl, Nat.zero_le _⟩)
    rintro K1 ⟨fst, y⟩ k1 hk1 hcc hfst hK1
    try dsimp only at hcc hfst hK1
    subst hcc
    unfold w9_lays_F279 w9_lays_d279
    try dsimp only
    refine ⟨fun qe1 => ?_, fun qe1 => ?_⟩
    · have e := nI_end (N := n) (by omega) hk1 qe1
      obtain ⟨c0, hc0, e0, hne⟩ : ∃ c0, c0 < tot d ∧ fst = nI c0 ∧ ¬ aI S2 15 c0 = -9 := by
        rcases hfst with ⟨_, q⟩ | q
        · omega
        · exact q
      subst e0
      obtain ⟨_, q1, t1, _, ht1, _, e16⟩ : c0 < tot d ∧ ∃ q t, q < 64 ∧ t < 4 ∧ aI S2 15 c0 = nI q ∧ aI S2 16 c0 = nI t := by
        rcases h4 c0 (by omega) with q | q
        · exact absurd q hne
        · exact q
      rw [rA_n _ _ (by omega), e16]
      refine ⟨vp_in_nI (by omega) (by decide), t9_isFolded x hx hb S2 hB2 hc0 ht1 _ (fun r S3 hF3 => ⟨fun _ => ⟨hf, ?_⟩, fun _ => h _ _ (g9_fr (ks := [8, 9, 10, 11, 12, 13, 14, 15, 16]) hI (fr_tr (fr_mono h1 (by decide)) (fr_mono hF3 (by decide))) (by decide) (by decide) (by decide) (by decide))⟩)⟩
      rintro _ rfl
      have hF4 : Fr [3, 8, 9, 10, 11, 12, 13, 14, 15, 16] S (sL S3 3 f x) := fr_tr (fr_mono h1 (by decide)) (fr_tr (fr_mono hF3 (by decide)) (fr_sL (by decide)))
      have e3 : aJ (sL S3 3 f x) 3 = vp_updL (aJ S 3) f.toNatClampNeg x := by
        rw [rd_L, (hF3 3 (by decide)).2.2.2, (h1 3 (by decide)).2.2.2]
      have k411 : ∀ v, w9_lays_b411 (nI b) f (nI c0) f v (sL S3 3 f x) Q := by
        intro v
        unfold w9_lays_b411
        refine ⟨hf, ?_⟩
        rintro _ rfl
        refine ⟨by rw [(ix3z hb).1]; exact (ix3z hb).2, hf, ?_⟩
        rintro _ rfl
        refine h _ _ (g9_fig (ks := [3, 4, 5, 8, 9, 10, 11, 12, 13, 14, 15, 16]) (f := f.toNatClampNeg) (v := x) hI (fr_tr (fr_mono hF4 (by decide)) (fr_tr (fr_sA (by decide)) (fr_sA (by decide)))) (by decide) (by decide) (by decide) e3 (by omega))
      unfold w9_lays_b392 w9_lays_b393
      have i1 : vp_in ((3 : Int32) * nI b + (1 : Int32)) 12 := by
        have := (ix3 hb 1 (by decide))
        rw [show (1 : Int32) = nI 1 from rfl, this.1]; exact this.2
      have i2 : vp_in ((3 : Int32) * nI b + (2 : Int32)) 12 := by
        have := (ix3 hb 2 (by decide))
        rw [show ((3 : Int32) * nI b + (2 : Int32)) = (3 : Int32) * nI b + nI 2 from rfl, this.1]; exact this.2
      exact ⟨by rw [(ix3z hb).1]; exact (ix3z hb).2, i1, fun _ => ⟨fun _ => k411 _, fun _ => k411 _⟩, fun _ => ⟨i2, fun _ => ⟨fun _ => k411 _, fun _ => k411 _⟩, fun _ => ⟨fun _ => k411 _, fun _ => k411 _⟩⟩⟩
    · have hlt1 := nI_go (N := n) (by omega) hk1 qe1
      refine ⟨vp_in_nI (by omega) (by decide), s9_leastOf x hx _ (fun m2 hm2 hb2 hl2 => ?_)⟩
      have em : m2 = m := by
        rcases Nat.lt_trichotomy m2 m with q | q | q
        · rw [hml m2 q] at hb2; exact absurd hb2 (by decide)
        · exact q
        · rw [hl2 m q] at hmb; exact absurd hmb (by decide)
      subst em
      rw [rA_n _ _ (by omega)]
      unfold w9_lays_b308
      refine ⟨fun qn => ?_, fun qn => ?_⟩
      · rintro _ rfl
        refine hK1 (_, _) hlt1 (nI_1 k1) ?_
        rcases hfst with ⟨q1, q2⟩ | q
        · refine Or.inl ⟨q1, ?_⟩
          have : ¬ k1 = cm := fun e => qn (by rw [e]; exact ecm)
          omega
        · exact Or.inr q
      · rintro _ rfl
        refine hK1 (_, _) hlt1 (nI_1 k1) (Or.inr ?_)
        rcases h4 k1 (by omega) with q | q
        · rw [q] at qn; exact absurd qn.symm (nI_m9 (by omega))
        · refine ⟨k1, q.1, rfl, ?_⟩
          rw [qn]; exact nI_m9 (by omega)
  have hlt : k < n := by
    rcases Nat.lt_or_ge k n with q | q
    · exact q
    · exact absurd (nI_le q (by omega)) qe
  obtain ⟨c0, hc0, e14, hne0⟩ := hL.2.2.1 k hlt
  rw [rA_n _ _ (by omega), e14]
  have k113 : ∀ t0, w9_lays_b113 (fun y0 y1 y2 y3 => K (y0, y1, y2, y3)) (nI b) row f (nI n) x (nI k) (nI c0) t0 0 S2 Q := by
    intro ways
    unfold w9_lays_b113
    refine lp_up 4 (fun z => z.2.2.1) (fun w z => ∃ n2, z.1 = nI n2 ∧ n ≤ n2 ∧ Ly d S z.2.2.2 n2 z.2.1 ∧ ¬ aI z.2.2.2 15 c0 = -9) (by decide) ?_ (Nat.zero_le _) (rfl : (0 : Int32) = nI 0) (by exact ⟨n, rfl, Nat.le_refl _, hL, hne0⟩)
    rintro K2 ⟨x62, x2, y, S3⟩ w hw hcc ⟨n2, hn2, hnn, hL3, hne3⟩ hK2
    try dsimp only at hcc hn2 hL3 hne3 hK2
    subst hcc hn2
    have hn24' : n2 ≤ 24 := by have := hL3.2.1.2; omega
    unfold w9_lays_F113 w9_lays_d113
    try dsimp only
    refine ⟨fun _ => ?_, fun qw => ?_⟩
    · rintro _ rfl
      exact hK (_, _, _, _) (by omega) (nI_1 k) ⟨n2, rfl, by omega, hL3⟩
    have hwlt := nI_go (N := 4) (by decide) hw qw
    have hB3 : BoxN S3 b d := boxN_fr hL3.1 (by decide) hB
    obtain ⟨_, q1, t1, hq1, ht1, e15, e16⟩ : c0 < tot d ∧ ∃ q t, q < 64 ∧ t < 4 ∧ aI S3 15 c0 = nI q ∧ aI S3 16 c0 = nI t := by
      rcases hL3.2.2.2.1 c0 (by omega) with q | q
      · exact absurd q hne3
      · exact q
    have hd1 : ∀ j, j < 3 → 1 ≤ d j := fun j hj => (hB.1 j hj).1
    refine s9_goTo hb S3 hB3 hc0 _ (fun S4 s l hs hl _ hF4 hA4 => ⟨vp_in_nI (by omega) (by decide), ?_⟩)
    rw [rA_n _ _ (by omega), (hF4 16 (by decide)).2.2.1, e16]
    refine s9_setFrame hs ht1 S4 hA4.1 _ (fun S5 hF5 h10 h11 => ?_)
    have hO := posOf_ok hs hd1 hl
    have hA5 : At S5 s (posOf d s l) := ⟨(hF5 8 (by decide)).1.trans hA4.1, fun j hj => by rw [(hF5 9 (by decide)).2.2.1]; exact hA4.2 j hj⟩
    have hB5 : BoxN S5 b d := boxN_fr hF5 (by decide) (boxN_fr hF4 (by decide) hB3)
    refine s9_go hb hs hwlt S5 hB5 hA5 hO (frm_O hs ht1) h10 h11 _ (fun S6 hF6 hA6 _ _ => ?_)
    have hg := go_ok hs hd1 hO (frm_O hs ht1) hwlt
    generalize goS d (posOf d s l) s (dirN (frm s t1).1 (frm s t1).2 w) = s6 at hA6 hg
    generalize goP d (posOf d s l) s (dirN (frm s t1).1 (frm s t1).2 w) = p6 at hA6 hg
    have hF36 : Fr [8, 9, 10, 11] S3 S6 := fr_tr (fr_mono hF4 (by decide)) (fr_tr (fr_mono hF5 (by decide)) hF6)
    have hL6 := Ly_fr hL3 hF36
    have hB6 : BoxN S6 b d := boxN_fr hF36 (by decide) hB3
    have hne6 : ¬ aI S6 15 c0 = -9 := by rw [(hF36 15 (by decide)).2.2.1]; exact hne3
    have hcl := cell_lt hg.1 hg.2.1
    refine s9_cellNow hb hg.1 S6 hB6 hA6 (ok_lt hg.1 (fun j hj => (hB.1 j hj).2.1) hg.2.1) _ ?_
    generalize cellOf d s6 p6 = th at hcl
    have hsame : w9_lays_b248 (fun y0 y1 y2 y3 => K2 (y0, y1, y2, y3)) (nI b) row f (nI n2) x2 (nI k) (nI c0) ways (nI w) S6 Q := by
      unfold w9_lays_b248
      rintro _ rfl
      exact hK2 (_, _, _, _) hwlt (nI_1 w) ⟨n2, rfl, hnn, hL6, hne6⟩
    refine ⟨fun _ => hsame, fun _ => ⟨vp_in_nI (by omega) (by decide), fun _ => hsame, fun q9 => ?_⟩⟩
    rw [rA_n _ _ (by omega)] at q9
    unfold w9_lays_b205
    refine t9_beside _ _ _ (fun r hr => ⟨fun _ => h _ _ (hgF _ hL6.1), fun hr9 => ?_⟩)
    refine s9_has _ _ _ (fun _ => ⟨fun c => absurd c (by decide), fun _ => h _ _ (hgF _ hL6.1)⟩) (fun _ => ⟨fun _ => ?_, fun c => absurd rfl c⟩)
    rcases hr with hr | hr
    · exact absurd hr hr9
    obtain ⟨q7, hq7, rfl⟩ := vp_in_of hr (by decide)
    rintro _ rfl
    refine s9_turnNow hg.1 _ (show fI (sA S6 15 (nI th) (nI q7)) 8 = nI s6 from hA6.1) _ (fun t7 ht7 => ?_)
    rintro _ rfl _ rfl
    rw [one_sh hq7]
    obtain ⟨hn23, hL7⟩ := Ly_put h24 hL6 hcl q9 hq7 ht7
    refine ⟨vp_in_nI hn23 (by decide), ?_⟩
    rintro _ rfl _ rfl
    unfold w9_lays_b248
    rintro _ rfl
    refine hK2 (_, _, _, _) hwlt (nI_1 w) ⟨n2 + 1, nI_1 n2, by omega, hL7, ?_⟩
    try dsimp only
    rw [rd_sn _ (by decide), rd_sn _ (by decide), rd_A, nI_clamp (by omega)]
    by_cases e : c0 = th
    · rw [e, pk_us]; exact nI_m9 (by omega)
    · rw [pk_un e]; exact hne6
  refine ⟨vp_in_nI (by omega) (by decide), ?_⟩
  rintro _ rfl
  unfold w9_lays_b106 w9_lays_b108
  refine ⟨fun _ => k113 _, fun qr => ?_⟩
  rcases hrow with rfl | hrow
  · exact absurd (by decide) qr
  obtain ⟨r, hr, rfl⟩ := vp_in_of hrow (by decide)
  refine ⟨hrow, fun _ => k113 _, fun _ => ⟨?_, k113 _⟩⟩
  rw [show (24 : Int32) = nI 24 from rfl, pk_mul, nI_add]
  exact vp_in_nI (by omega) (by decide)
theorem t9_layOut (x c q f : Int32) (S : MS) (Q : Int32 → MS → Prop) (hI : Inv9 S) (h : ∀ r S', G9 S S' → Q r S') : w9_layOut x c q f S Q := by
  unfold w9_layOut w9_layOut_b18 w9_layOut_b63
  have e0 : (0 : Int32).toInt = 0 := rfl
  have e63 : (63 : Int32).toInt = 63 := rfl
  refine s9_in _ _ _ _ (fun hq => ⟨fun c => absurd c (by decide), fun _ => s9_isFigure _ _ (fun hf => ⟨fun _ => s9_lookedBox _ _ _ (fun _ => ⟨fun c => absurd c (by decide), fun _ => h _ _ (g9_rf hI)⟩) (fun _ _ _ _ S' hF => ⟨fun c => absurd c (by decide), fun _ => h _ _ (g9_fr hI hF (by decide) (by decide) (by decide) (by decide))⟩) (fun b hb e hd => ⟨fun _ => ?_, fun c => absurd r0_pos c⟩), fun c => absurd c (by decide)⟩) (fun _ => ⟨fun c => absurd rfl c, fun _ => h _ _ (g9_rf hI)⟩)⟩) (fun _ => ⟨fun _ => h _ _ (g9_rf hI), fun c => absurd rfl c⟩)
  subst e
  obtain ⟨d, hB⟩ := box_of hI hb hd
  obtain ⟨k, hk, rfl⟩ := vp_in_of (n := 64) (pi_in.mpr (by omega) : vp_in q 64) (by decide)
  refine cell_in hb hB c _ (fun c hc e => ⟨fun c => absurd c (by decide), fun _ => ?_⟩) ⟨fun _ => m9_meets _ (by unfold vp_in; decide) _ _ hI h, fun c => absurd rfl c⟩
  subst e
  exact t9_lays _ f hf (Or.inl rfl) hb S hI hB hc hk _ h
theorem t9_layOutBy (x c q row f : Int32) (S : MS) (Q : Int32 → MS → Prop) (hI : Inv9 S) (h : ∀ r S', G9 S S' → Q r S') : w9_layOutBy x c q row f S Q := by
  have k56 : w9_layOutBy_b56 S Q := by
    unfold w9_layOutBy_b56
    exact m9_meets _ (by unfold vp_in; decide) _ _ hI h
  unfold w9_layOutBy w9_layOutBy_b33 w9_layOutBy_b90
  have e0 : (0 : Int32).toInt = 0 := rfl
  have e63 : (63 : Int32).toInt = 63 := rfl
  refine s9_isBox _ _ (fun hx => ⟨fun c => absurd c (by decide), fun _ => s9_in _ _ _ _ (fun hq => ⟨fun c => absurd c (by decide), fun _ => s9_isFigure _ _ (fun hf => ⟨fun c => absurd c (by decide), fun _ => s9_isRow _ _ (fun hr => ⟨fun _ => ?_, fun c => absurd c (by decide)⟩) (fun _ => ⟨fun c => absurd rfl c, fun _ => h _ _ (g9_rf hI)⟩)⟩) (fun _ => ⟨fun _ => h _ _ (g9_rf hI), fun c => absurd rfl c⟩)⟩) (fun _ => ⟨fun _ => h _ _ (g9_rf hI), fun c => absurd rfl c⟩)⟩) (fun _ => ⟨fun _ => h _ _ (g9_rf hI), fun c => absurd rfl c⟩)
  obtain ⟨b, hb, rfl⟩ := vp_in_of hx (by omega)
  rw [(ix3z hb).1, show rA S 7 (nI (3 * b)) = dm S b 0 from rd_dm hb S 0 (by decide)]
  refine ⟨(ix3z hb).2, fun _ => k56, fun cd => ⟨hr, fun _ => ?_, fun _ => k56⟩⟩
  obtain ⟨d, hB⟩ := box_of hI hb cd
  obtain ⟨k, hk, rfl⟩ := vp_in_of (n := 64) (pi_in.mpr (by omega) : vp_in q 64) (by decide)
  refine cell_in hb hB c _ (fun c hc e => ⟨fun c => absurd c (by decide), fun _ => ?_⟩) ⟨fun _ => m9_meets _ (by unfold vp_in; decide) _ _ hI h, fun c => absurd rfl c⟩
  subst e
  exact t9_lays _ f hf (Or.inr hr) hb S hI hB hc hk _ h

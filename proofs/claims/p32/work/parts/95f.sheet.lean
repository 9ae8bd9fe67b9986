/-! ===== pure: the sheet of the class, exactly ===== -/
theorem s0_hasK (x : Int64) {k : Nat} (hk : k < 64) (Q : Int32 → Prop) (h1 : bt x k = true → Q 1) (h0 : bt x k = false → Q 0) : w0_has x (nI k) Q := by
  unfold w0_has w0_has_b24 w0_has_b25
  rw [bt_bit x hk, lg_cmp_eq]
  refine ⟨fun c => absurd c (nI_pos (by omega)), fun _ => ⟨fun c => ?_, fun _ => ⟨fun c => ⟨rfl, h0 ?_⟩, fun c => ⟨rfl, h1 ?_⟩⟩⟩⟩
  · have := (nI_leI (a := 64) (b := k) (by decide) (by omega)).mp c
    omega
  · cases e : bt x k
    · rfl
    · rw [if_pos e] at c; exact absurd c (by decide)
  · cases e : bt x k
    · rw [if_neg (by rw [e]; decide)] at c; exact absurd rfl c
    · rfl
theorem m9_out {n : Nat} (hn : n < 2 ^ 31) : ¬ vp_in (-9 : Int32) n := fun h => by
  have := (pi_in.mp h).1
  exact absurd this (by decide)
theorem sqI_ge {k : Nat} (h : ¬ k < 64) : sqI k = -9 := if_neg h
theorem s0_hasN (x : Int64) (k : Nat) (Q : Int32 → Prop) (h1 : k < 64 → bt x k = true → Q 1) (h0 : bt x k = false → Q 0) : w0_has x (sqI k) Q := by
  by_cases hk : k < 64
  · rw [sqI_lt hk]; exact s0_hasK x hk Q (h1 hk) h0
  · rw [sqI_ge hk]
    unfold w0_has w0_has_b24 w0_has_b25
    exact ⟨fun _ => ⟨rfl, h0 (bt_ge x (by omega))⟩, fun c => absurd (by decide) c⟩
theorem s0_besideN {q w : Nat} (hq : q < 64) (hw : w < 4) (Q : Int32 → Prop) (h : Q (sqI (bs q w))) : w0_beside (nI q) (nI w) Q := by
  have e0 : (0 : Int32).toInt = 0 := rfl
  have e7 : (7 : Int32).toInt = 7 := rfl
  have key : ∀ a b : Nat, a < 9 → b < 9 → Q (sqI (if a < 8 ∧ b < 8 then 8 * b + a else 64)) → w0_beside_b69 (nI a) (nI b) Q := by
    intro a b ha hb hQ
    have ea : (nI a).toInt = (a : Int) := nI_toInt (by omega)
    have eb : (nI b).toInt = (b : Int) := nI_toInt (by omega)
    unfold w0_beside_b69 w0_beside_b98 w0_beside_b100
    refine s8_within _ _ _ _ (fun h1 => ⟨fun c => absurd c (by decide), fun _ => s8_within _ _ _ _ (fun h2 => ⟨fun c => absurd c (by decide), fun _ => ?_⟩) (fun h2 => ⟨fun _ => ?_, fun c => absurd rfl c⟩)⟩) (fun h1 => ⟨fun _ => ?_, fun c => absurd rfl c⟩)
    · rw [if_pos (by omega), sqI_lt (by omega)] at hQ
      rw [show (8 : Int32) = nI 8 from rfl, pk_mul, nI_add]
      exact hQ
    · rw [if_neg (by omega)] at hQ; exact hQ
    · rw [if_neg (by omega)] at hQ; exact hQ
  have bad : ∀ b : Int32, Q (-9) → w0_beside_b69 (-1) b Q := by
    intro b hQ
    unfold w0_beside_b69 w0_beside_b98 w0_beside_b100
    have em : (-1 : Int32).toInt = -1 := rfl
    exact s8_within _ _ _ _ (fun h1 => absurd h1 (by omega)) (fun _ => ⟨fun _ => hQ, fun c => absurd rfl c⟩)
  have bad2 : ∀ a : Nat, a < 8 → Q (-9) → w0_beside_b69 (nI a) (-1) Q := by
    intro a ha hQ
    have ea : (nI a).toInt = (a : Int) := nI_toInt (by omega)
    unfold w0_beside_b69 w0_beside_b98 w0_beside_b100
    have em : (-1 : Int32).toInt = -1 := rfl
    exact s8_within _ _ _ _ (fun _ => ⟨fun c => absurd c (by decide), fun _ => s8_within _ _ _ _ (fun h1 => absurd h1 (by omega)) (fun _ => ⟨fun _ => hQ, fun c => absurd rfl c⟩)⟩) (fun h1 => absurd (by omega) h1)
  obtain ⟨b0, b1, b2, b3⟩ := bs_is q hq
  unfold w0_beside
  refine s8_isSquare _ _ (fun _ => ⟨fun _ => ?_, fun c => absurd c (by decide)⟩) (fun c => absurd (vp_in_nI hq (by decide)) c)
  rw [sh_3 (by omega), show nI q &&& (7 : Int32) = nI (q % 8) from pk_andN (by omega) 3 (by decide)]
  rintro _ rfl _ rfl
  refine ⟨fun c => ?_, fun c => ?_, fun c => ?_, fun c0 c1 c2 => ?_⟩
  · have e : w = 0 := (i_0' (by omega)).mp c
    subst e
    rw [b0] at h
    rintro _ rfl
    rw [nI_1]
    refine key _ _ (by omega) (by omega) ?_
    by_cases q7 : q % 8 < 7
    · rw [if_pos q7] at h
      rw [if_pos (by omega), show 8 * (q / 8) + (q % 8 + 1) = q + 1 by omega]; exact h
    · rw [if_neg q7] at h
      rw [if_neg (by omega)]; exact h
  · have e : w = 1 := (nI_eq (a := w) (b := 1) (by omega) (by decide)).mp c
    subst e
    rw [b1] at h
    rintro _ rfl
    rw [nI_1]
    refine key _ _ (by omega) (by omega) ?_
    by_cases q7 : q / 8 < 7
    · rw [if_pos q7] at h
      rw [if_pos (by omega), show 8 * (q / 8 + 1) + q % 8 = q + 8 by omega]; exact h
    · rw [if_neg q7] at h
      rw [if_neg (by omega)]; exact h
  · have e : w = 2 := (nI_eq (a := w) (b := 2) (by omega) (by decide)).mp c
    subst e
    rw [b2] at h
    rintro _ rfl
    by_cases q7 : 0 < q % 8
    · rw [if_pos q7] at h
      rw [show nI (q % 8) + (-1 : Int32) = nI (q % 8 - 1) from (Int32.sub_eq_add_neg (nI (q % 8)) 1).symm.trans (pk_sub (b := 1) (by omega))]
      refine key _ _ (by omega) (by omega) ?_
      rw [if_pos (by omega), show 8 * (q / 8) + (q % 8 - 1) = q - 1 by omega]; exact h
    · rw [if_neg q7] at h
      rw [show q % 8 = 0 by omega]
      exact bad _ h
  · have e : w = 3 := by
      have a0 : ¬ w = 0 := fun q => c0 (by rw [q]; rfl)
      have a1 : ¬ w = 1 := fun q => c1 (by rw [q]; rfl)
      have a2 : ¬ w = 2 := fun q => c2 (by rw [q]; rfl)
      omega
    subst e
    rw [b3] at h
    rintro _ rfl
    by_cases q7 : 0 < q / 8
    · rw [if_pos q7] at h
      rw [show nI (q / 8) + (-1 : Int32) = nI (q / 8 - 1) from (Int32.sub_eq_add_neg (nI (q / 8)) 1).symm.trans (pk_sub (b := 1) (by omega))]
      refine key _ _ (by omega) (by omega) ?_
      rw [if_pos (by omega), show 8 * (q / 8 - 1) + q % 8 = q - 8 by omega]; exact h
    · rw [if_neg q7] at h
      rw [show q / 8 = 0 by omega]
      exact bad2 _ (by omega) h
theorem pc_low {m : Nat} (hm : m < 64) : pc (lN (2 ^ m - 1)) = m := by
  have h64 := wb_lt2 hm
  unfold pc
  have e : fb_ct (bt (lN (2 ^ m - 1))) 64 = fb_ct (fun k => decide (k < m)) (m + (64 - m)) := by
    rw [show m + (64 - m) = 64 by omega]
    apply fb_ct_cong
    intro k _
    rw [bt_lN (by omega), Nat.testBit_two_pow_sub_one]
  rw [e, fb_ct_split, fb_ct_all.mpr (fun k hk => decide_eq_true hk), fb_ct_zero.mpr (fun k _ => decide_eq_false (by omega))]
  omega
theorem s0_leastN (x : Int64) {m : Nat} (hb : bt x m = true) (hl : ∀ j, j < m → bt x j = false) (Q : Int32 → Prop) (h : Q (nI m)) : w0_least x Q := by
  have hm := bt_lt hb
  unfold w0_least
  have hp : 1 ≤ 2 ^ m := Nat.one_le_two_pow
  rw [low_bit hb hl, show (1 : Int64) = lN 1 from rfl, lN_sub hp]
  refine s13_bitCount _ _ ?_
  rw [pc_low hm]; exact h
def R8 (S : MS) (L : List (Nat × Nat)) : Prop := fI S 2 = nI L.length ∧ (∀ c, c < 24 → bi (fI S 3) c = cov L c) ∧ (∀ q, q < 64 → bt (fJ S 4) q = hsq L q) ∧ (∀ k p, L[k]? = some p → aI S 1 k = nI p.1) ∧ (∀ p, p ∈ L → aI S 0 p.1 = nI p.2)
theorem s6_covers {c : Nat} {S : MS} (hc : c < 24) (Q : Int32 → Prop) (h1 : bi (fI S 3) c = true → Q 1) (h0 : bi (fI S 3) c = false → Q 0) : w6_covers (nI c) S Q := by
  unfold w6_covers w6_covers_b16
  rw [bi_bit _ (by omega)]
  refine ⟨fun c => ⟨rfl, h0 ?_⟩, fun c => ⟨rfl, h1 ?_⟩⟩
  · cases e : bi (fI S 3) _
    · rfl
    · rw [if_pos e] at c; exact absurd c (by decide)
  · cases e : bi (fI S 3) _
    · rw [if_neg (by rw [e]; decide)] at c; exact absurd rfl c
    · rfl
theorem s6_clear (S : MS) (Q : MS → Prop) (h : ∀ S', R8 S' [] → Q S') : w6_clear S Q := by
  unfold w6_clear
  rintro _ rfl _ rfl _ rfl
  refine h _ ⟨?_, fun c _ => ?_, fun q _ => ?_, fun k p e => ?_, fun p hp => absurd hp List.not_mem_nil⟩
  · exact ((fr_sJ (ks := [4]) (by decide)) 2 (by decide)).1.trans (((fr_sI (ks := [3]) (by decide)) 2 (by decide)).1.trans (rd_fI S 2 0))
  · rw [((fr_sJ (ks := [4]) (by decide)) 3 (by decide)).1, rd_fI, bi_0]; rfl
  · rw [rd_fJ, bt_0]; rfl
  · exact absurd e (by simp)
theorem s6_put {d : Nat → Nat} {L : List (Nat × Nat)} {S : MS} {m f : Nat} (h24 : tot d ≤ 24) (hW : WF d L) (hR : R8 S L) (hm : m < 65) (hf : f < 4 * tot d) (Q : Int32 → MS → Prop) (h0 : (m = 64 ∨ hsq L m = true ∨ cov L (f / 4) = true) → Q 0 S) (h1 : ∀ S', m < 64 → hsq L m = false → cov L (f / 4) = false → R8 S' (L ++ [(m, f)]) → WF d (L ++ [(m, f)]) → Q 1 S') : w6_put (sqI m) (nI f) S Q := by
  have e0 : (0 : Int32).toInt = 0 := rfl
  have e23 : (23 : Int32).toInt = 23 := rfl
  unfold w6_put w6_put_b22 w6_put_b51
  rw [sh_2 (by omega)]
  rintro _ rfl
  by_cases hm64 : m < 64
  rotate_left
  · rw [sqI_ge hm64]
    exact s8_isSquare _ _ (fun hx => absurd hx (m9_out (by decide))) (fun _ => ⟨fun _ => h0 (Or.inl (by omega)), fun c => absurd rfl c⟩)
  rw [sqI_lt hm64]
  have ef : (nI (f / 4)).toInt = ((f / 4 : Nat) : Int) := nI_toInt (by omega)
  refine s8_isSquare _ _ (fun hx => ⟨fun c => absurd c (by decide), fun _ => s0_hasK _ hm64 _ (fun hb => ⟨fun c => absurd c (by decide), fun _ => h0 (Or.inr (Or.inl (by rw [← hR.2.2.1 m hm64]; exact hb)))⟩) (fun hb => ⟨fun _ => ?_, fun c => absurd rfl c⟩)⟩) (fun c => absurd (vp_in_nI hm64 (by decide)) c)
  refine s8_within _ _ _ _ (fun _ => ⟨fun c => absurd c (by decide), fun _ => s6_covers (by omega) _ (fun hc => ⟨fun _ => h0 (Or.inr (Or.inr (by rw [← hR.2.1 _ (by omega)]; exact hc))), fun c => absurd c (by decide)⟩) (fun hc => ⟨fun c => absurd rfl c, fun _ => ?_⟩)⟩) (fun q => absurd (by omega) q)
  have hs : hsq L m = false := by rw [← hR.2.2.1 m hm64]; exact hb
  have hcv : cov L (f / 4) = false := by rw [← hR.2.1 _ (by omega)]; exact hc
  have hroom := wf_room hW (by omega) hcv
  obtain ⟨r1, r2, r3, r4, r5⟩ := hR
  rw [r1]
  refine ⟨fun _ => ⟨hx, ?_⟩, fun c => absurd (nI_lt hroom (by decide)) c⟩
  generalize hl : L.length = l at *
  rintro _ rfl
  rw [show fI (sA S 0 (nI m) (nI f)) 2 = nI l from (fi_sA _ _ _ _ _).trans r1]
  refine ⟨vp_in_nI hroom (by decide), ?_⟩
  rintro _ rfl
  have g1 : aI (sA S 0 (nI m) (nI f)) 0 = upd (aI S 0) m (nI f) := by rw [rd_A, nI_clamp (by omega)]
  have g2 : aI (sA (sA S 0 (nI m) (nI f)) 1 (nI l) (nI m)) 1 = upd (aI S 1) l (nI m) := by rw [rd_A, nI_clamp (by omega), rd_sn _ (by decide)]
  have g3 : aI (sA (sA S 0 (nI m) (nI f)) 1 (nI l) (nI m)) 0 = upd (aI S 0) m (nI f) := by rw [rd_sn _ (by decide), g1]
  have g4 : Fr [0, 1] S (sA (sA S 0 (nI m) (nI f)) 1 (nI l) (nI m)) := fr_tr (fr_sA (by decide)) (fr_sA (by decide))
  generalize sA (sA S 0 (nI m) (nI f)) 1 (nI l) (nI m) = S1 at g2 g3 g4
  rw [(g4 2 (by decide)).1, r1, nI_1]
  rintro _ rfl
  rw [show fI (sI S1 2 (nI (l + 1))) 3 = fI S 3 from ((fr_sI (ks := [2]) (by decide)) 3 (by decide)).1.trans (g4 3 (by decide)).1]
  rintro _ rfl
  have h4 : Fr [0, 1, 2, 3] S (sI (sI S1 2 (nI (l + 1))) 3 (fI S 3 ||| (1 : Int32) <<< (nI (f / 4) &&& 31))) := fr_tr (fr_mono g4 (by decide)) (fr_tr (fr_sI (by decide)) (fr_sI (by decide)))
  rw [(h4 4 (by decide)).2.1, one_sh hm64]
  rintro _ rfl
  have hF : Fr [2, 3, 4] S1 (sJ (sI (sI S1 2 (nI (l + 1))) 3 (fI S 3 ||| (1 : Int32) <<< (nI (f / 4) &&& 31))) 4 (fJ S 4 ||| lN (2 ^ m))) := fr_tr (fr_sI (by decide)) (fr_tr (fr_sI (by decide)) (fr_sJ (by decide)))
  refine h1 _ hm64 hs hcv ⟨?_, fun c hc24 => ?_, fun q hq => ?_, fun k p e => ?_, fun p hp => ?_⟩ (wf_add h24 hW hm64 hf hs hcv)
  · rw [List.length_append, hl]
    exact ((fr_sJ (ks := [4]) (by decide)) 2 (by decide)).1.trans (((fr_sI (ks := [3]) (by decide)) 2 (by decide)).1.trans (rd_fI _ _ _))
  · rw [((fr_sJ (ks := [4]) (by decide)) 3 (by decide)).1, rd_fI, bi_or, bi_p2 _ (by omega) c hc24, r2 c hc24, cov_add]
  · rw [rd_fJ, bt_or, bt_p2 hm64, r3 q hq, hsq_add]
    congr 1
    by_cases e : q = m
    · rw [decide_eq_true e, e]; exact (beq_iff_eq.mpr rfl).symm
    · rw [decide_eq_false e]; exact (beq_eq_false_iff_ne.mpr (fun q => e q.symm)).symm
  · rw [(hF 1 (by decide)).2.2.1, g2]
    rw [List.getElem?_append] at e
    by_cases q : k < L.length
    · rw [if_pos q] at e
      rw [pk_un (by omega)]
      exact r4 k p e
    · rw [if_neg q, List.getElem?_singleton] at e
      by_cases q2 : k - L.length = 0
      · rw [if_pos q2] at e
        have e2 := Option.some.inj e
        rw [← e2, show k = l by omega, pk_us]
      · rw [if_neg q2] at e
        exact absurd e (by simp)
  · rw [(hF 0 (by decide)).2.2.1, g3]
    rcases mem_add hp with q | q
    · rw [pk_un (hsq_no hs q)]
      exact r5 p q
    · rw [q, pk_us]
theorem s6_frameAt {L : List (Nat × Nat)} {S : MS} {p : Nat × Nat} (hR : R8 S L) (hp : p ∈ L) (h64 : p.1 < 64) (Q : Int32 → Prop) (h : Q (nI p.2)) : w6_frameAt (nI p.1) S Q := by
  unfold w6_frameAt w6_frameAt_b22
  refine s0_hasK _ h64 _ (fun _ => ⟨fun c => absurd c (by decide), fun _ => ⟨vp_in_nI h64 (by decide), ?_⟩⟩) (fun hb => ?_)
  · rw [rA_n _ _ (by omega), hR.2.2.2.2 p hp]; exact h
  · rw [hR.2.2.1 _ h64, hsq_iff.mpr ⟨p, hp, rfl⟩] at hb
    exact absurd hb (by decide)
/-- which ways a row lets be tried -/
def TrR (R : MS) (tr : Nat → Nat → Bool) : Prop := ∀ c : Nat, c < 24 → ((c : Int) < (fI R 1).toInt → ∀ w, w < 4 → tr c w = bi (aI R 0 c) w) ∧ (¬ (c : Int) < (fI R 1).toInt → ∀ w, w < 4 → tr c w = true)
theorem s6_layRound {d g : Nat → Nat} {tr : Nat → Nat → Bool} {L : List (Nat × Nat)} {S V R : MS} {p : Nat × Nat} (h24 : tot d ≤ 24) (hd : ∀ j, j < 3 → 1 ≤ d j) (hC : BoxC V d) (hg : LdG d g) (hT : TrR R tr) (hW : WF d L) (hR : R8 S L) (hp : p ∈ L) (Q : Int32 → MS → Prop) (h0 : ∀ S', rnd g (tr (p.2 / 4)) p.1 p.2 4 L = none → Q 0 S') (h1 : ∀ S' L', rnd g (tr (p.2 / 4)) p.1 p.2 4 L = some L' → R8 S' L' → WF d L' → Q 1 S') : w6_layRound (nI p.1) S V R Q := by
  obtain ⟨hp1, hp2⟩ := hW.1 p hp
  unfold w6_layRound
  refine s6_frameAt hR hp hp1 _ ?_
  rw [sh_2 (by omega)]
  rintro _ rfl
  have ec : (nI (p.2 / 4)).toInt = ((p.2 / 4 : Nat) : Int) := nI_toInt (by omega)
  have k34 : ∀ t0 : Int32, (∀ w, w < 4 → tr (p.2 / 4) w = bi t0 w) → w6_layRound_b34 (nI p.1) (nI p.2) t0 S V R Q := by
    intro t0 ht
    unfold w6_layRound_b34 w6_layRound_b39
    refine lp_up 4 (fun z => z.1) (fun w z => ∃ L', rnd g (tr (p.2 / 4)) p.1 p.2 w L = some L' ∧ R8 z.2 L' ∧ WF d L') (by decide) ?_ (Nat.zero_le _) (rfl : (0 : Int32) = nI 0) (by exact ⟨L, rfl, hR, hW⟩)
    rintro K ⟨y, S1⟩ w hw hcc ⟨L1, e1, hR1, hW1⟩ hK
    try dsimp only at hcc hR1 hK
    subst hcc
    unfold w6_layRound_F39 w6_layRound_d39
    try dsimp only
    refine ⟨fun c => ?_, fun c => ?_⟩
    · have e := nI_end (N := 4) (by decide) hw c
      subst e
      exact h1 _ _ e1 hR1 hW1
    have hlt := nI_go (N := 4) (by decide) hw c
    have hled := led_lt hd hg hp2 hlt
    have es := rnd_s e1
    have k96 : ∀ S2 L2, rnd g (tr (p.2 / 4)) p.1 p.2 (w + 1) L = some L2 → R8 S2 L2 → WF d L2 → w6_layRound_b96 (fun y0 y1 => K (y0, y1)) (nI p.1) (nI p.2) t0 (nI w) S2 V R Q := by
      intro S2 L2 e2 hR2 hW2
      unfold w6_layRound_b96
      rintro _ rfl
      exact hK (_, _) hlt (nI_1 w) ⟨L2, e2, hR2, hW2⟩
    refine s1_led h24 hd hC hg hp2 hlt _ ?_
    rw [bi_bit _ (by omega), ← ht w hlt, sh_2 (by omega)]
    refine ⟨fun c => k96 _ L1 ?_ hR1 hW1, fun c => ?_⟩
    · rw [es]
      unfold one
      refine if_pos (Or.inl ?_)
      cases e : tr (p.2 / 4) w
      · rfl
      · rw [if_pos e] at c; exact absurd c (by decide)
    have htw : tr (p.2 / 4) w = true := by
      cases e : tr (p.2 / 4) w
      · rw [if_neg (by rw [e]; decide)] at c; exact absurd rfl c
      · rfl
    refine s6_covers (by omega) _ (fun hcv => ⟨fun c => absurd c (by decide), fun _ => k96 _ L1 ?_ hR1 hW1⟩) (fun hcv => ⟨fun _ => ?_, fun c => absurd rfl c⟩)
    · rw [es]
      unfold one
      exact if_pos (Or.inr (by rw [← hR1.2.1 _ (by omega)]; exact hcv))
    have hcv1 : cov L1 (led g p.2 w / 4) = false := by rw [← hR1.2.1 _ (by omega)]; exact hcv
    have hn1 : ¬ (tr (p.2 / 4) w = false ∨ cov L1 (led g p.2 w / 4) = true) := by
      rw [htw, hcv1]; decide
    refine s0_besideN hp1 hlt _ (s6_put h24 hW1 hR1 (bs_le p.1 (by omega) w hlt) hled _ (fun hbad => ⟨fun c => absurd rfl c, fun _ => h0 _ ?_⟩) (fun S2 hb64 hs2 _ hR2 hW2 => ⟨fun _ => k96 _ _ ?_ hR2 hW2, fun c => absurd c (by decide)⟩))
    · have en : rnd g (tr (p.2 / 4)) p.1 p.2 (w + 1) L = none := by
        rw [es]
        unfold one
        rw [if_neg hn1]
        refine if_pos ?_
        rcases hbad with q | q | q
        · exact Or.inl q
        · exact Or.inr q
        · rw [hcv1] at q; exact absurd q (by decide)
      have := rnd_none en (4 - (w + 1))
      rw [show w + 1 + (4 - (w + 1)) = 4 by omega] at this
      exact this
    · rw [es]
      unfold one
      rw [if_neg hn1]
      refine if_neg ?_
      rw [hs2]
      rintro (q | q)
      · omega
      · exact absurd q (by decide)
  refine s5_hasPlace _ _ _ (fun hx => ⟨fun c => absurd c (by decide), fun _ => ⟨vp_in_nI (by omega) (by decide), k34 _ ?_⟩⟩) (fun hx => ⟨fun _ => k34 _ ?_, fun c => absurd rfl c⟩)
  · intro w hw
    rw [rA_n _ _ (by omega)]
    exact (hT (p.2 / 4) (by omega)).1 (by omega) w hw
  · intro w hw
    rw [(hT (p.2 / 4) (by omega)).2 (by omega) w hw, bi_15 w hw]
theorem s6_layOutFrom {d g : Nat → Nat} {tr : Nat → Nat → Bool} {S V R : MS} {q0 f0 : Nat} (h24 : tot d ≤ 24) (hd : ∀ j, j < 3 → 1 ≤ d j) (hC : BoxC V d) (hg : LdG d g) (hT : TrR R tr) (hq : q0 < 64) (hf : f0 < 4 * tot d) (Q : Int32 → MS → Prop) (h0 : ∀ S', (lay g tr q0 f0 24 = none ∨ ∃ L, lay g tr q0 f0 24 = some L ∧ ¬ L.length = tot d) → Q 0 S') (h1 : ∀ S' L, lay g tr q0 f0 24 = some L → L.length = tot d → R8 S' L → WF d L → Q 1 S') : w6_layOutFrom (nI f0) (nI q0) S V R Q := by
  unfold w6_layOutFrom
  refine s6_clear _ _ (fun S1 hR1 => ?_)
  rw [← sqI_lt hq]
  refine s6_put h24 wf_nil hR1 (by omega) hf _ (fun hbad => ?_) (fun S2 _ _ _ hR2 hW2 => ⟨fun _ => ?_, fun c => absurd c (by decide)⟩)
  · rcases hbad with q | q | q
    · omega
    · exact absurd (show false = true from q) (by decide)
    · exact absurd (show false = true from q) (by decide)
  have k59 : ∀ S3 L, lay g tr q0 f0 24 = some L → R8 S3 L → WF d L → w6_layOutFrom_b59 S3 V R Q := by
    intro S3 L e hR3 hW3
    have hl := wf_24 hW3
    unfold w6_layOutFrom_b59 w6_layOutFrom_b75
    rw [hR3.1, hC.2.1, nI_eq (by omega) (by omega)]
    exact ⟨fun c => ⟨rfl, h0 _ (Or.inr ⟨L, e, c⟩)⟩, fun c => ⟨rfl, h1 _ L e c hR3 hW3⟩⟩
  unfold w6_layOutFrom_b18
  refine lp_up 24 (fun z => z.1) (fun k z => ∃ L, lay g tr q0 f0 k = some L ∧ R8 z.2 L ∧ WF d L) (by decide) ?_ (Nat.zero_le _) (rfl : (0 : Int32) = nI 0) (by exact ⟨_, rfl, hR2, hW2⟩)
  rintro K ⟨y, S3⟩ k hk hcc ⟨L, e, hR3, hW3⟩ hK
  try dsimp only at hcc hR3 hK
  subst hcc
  have hl := wf_24 hW3
  unfold w6_layOutFrom_F18 w6_layOutFrom_d18
  try dsimp only
  rw [hR3.1]
  refine ⟨fun c => ?_, fun c => ⟨fun c2 => ?_, fun c2 => ?_⟩⟩
  · have e4 := nI_end (N := 24) (by decide) hk c
    subst e4
    exact k59 _ L e hR3 hW3
  · have hlk := (nI_leI (by omega) (by omega)).mp c2
    have := lay_fix e hlk (24 - k)
    rw [show k + (24 - k) = 24 by omega] at this
    exact k59 _ L this hR3 hW3
  have hlt := nI_go (N := 24) (by decide) hk c
  have hkl : k < L.length := by
    rcases Nat.lt_or_ge k L.length with q | q
    · exact q
    · exact absurd (nI_le q (by omega)) c2
  have ep : L[k]? = some L[k] := List.getElem?_eq_getElem hkl
  generalize L[k] = p at ep
  have hp := List.mem_of_getElem? ep
  have es := lay_s e ep
  refine ⟨vp_in_nI hlt (by decide), ?_⟩
  rw [rA_n _ _ (by omega), hR3.2.2.2.1 k p ep]
  refine s6_layRound h24 hd hC hg hT hW3 hR3 hp _ (fun S4 en => ⟨fun c => absurd rfl c, fun _ => h0 _ (Or.inl ?_)⟩) (fun S4 L4 e4 hR4 hW4 => ⟨fun _ => ?_, fun c => absurd c (by decide)⟩)
  · have := lay_none (es.trans en) (24 - (k + 1))
    rw [show k + 1 + (24 - (k + 1)) = 24 by omega] at this
    exact this
  · rintro _ rfl
    exact hK (_, _) hlt (nI_1 k) ⟨L4, es.trans e4, hR4, hW4⟩

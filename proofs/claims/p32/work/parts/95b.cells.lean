/-! ===== pure: cells and steps on both sides ===== -/
theorem s8_missingCell (c : Int32) (V : MS) (Q : Int32 → Prop) (h0 : (0 ≤ c.toInt ∧ c.toInt < (fI V 6).toInt) → Q 0) (h1 : ¬ (0 ≤ c.toInt ∧ c.toInt < (fI V 6).toInt) → ∀ r, (r = 1 ∨ r = 2) → Q r) : w8_missingCell c V Q := by
  unfold w8_missingCell w8_missingCell_b22
  exact s1_isThere _ _ (fun _ => ⟨fun _ => s1_hasCell _ _ _ (fun q => ⟨fun c => absurd c (by decide), fun _ => h0 q⟩) (fun q => ⟨fun _ => h1 q _ (Or.inr rfl), fun c => absurd rfl c⟩), fun c => absurd c (by decide)⟩) (fun q => ⟨fun c => absurd rfl c, fun _ => h1 (by omega) _ (Or.inl rfl)⟩)
theorem ne_0 {r : Int32} (h : r = 1 ∨ r = 2) : ¬ r = 0 := by rcases h with rfl | rfl <;> decide
theorem s8_cell (x c w : Int32) (Z : MS) (X : Nat → MS) (hI : Inv8 X) (Q : Int32 → MS → Prop) (hb : ¬ (vp_in x 4 ∧ vp_in w 4) → Q (-1) Z) (hn : ∀ b, b < 4 → x = nI b → vp_in w 4 → ¬ (0 ≤ c.toInt ∧ c.toInt < (fI (X (6 + b)) 6).toInt) → ∀ Z', Q (-3) Z')
    (hk : ∀ b k n, b < 4 → k < 4 → n < 24 → x = nI b → w = nI k → c = nI n → (0 ≤ c.toInt ∧ c.toInt < (fI (X (6 + b)) 6).toInt) → Q (if k = 0 then aI (X (6 + b)) 2 n else aI (X (6 + b)) 3 (3 * n + (k - 1))) Z) : w8_cell x c w Z X Q := by
  have e0 : (0 : Int32).toInt = 0 := rfl
  have e2 : (2 : Int32).toInt = 2 := rfl
  have e3 : (3 : Int32).toInt = 3 := rfl
  unfold w8_cell w8_cell_b16 w8_cell_b72
  refine s8_isBox _ _ (fun hx => ⟨fun c => absurd c (by decide), fun _ => s8_within _ _ _ _ (fun hw => ⟨fun _ => ?_, fun c => absurd c (by decide)⟩) (fun hw => ⟨fun c => absurd rfl c, fun _ => hb (fun q => hw (by have := pi_in.mp q.2; omega))⟩)⟩) (fun hx => ⟨fun _ => hb (fun q => hx q.1), fun c => absurd rfl c⟩)
  have hwv : vp_in w 4 := pi_in.mpr (by omega)
  obtain ⟨b, hb4, rfl⟩ := vp_in_of hx (by decide)
  obtain ⟨k, hk4, rfl⟩ := vp_in_of hwv (by decide)
  rw [nI_clamp (by omega)]
  have hB := hI.2.1 b hb4
  have h24 := hB.2.1
  refine ⟨hx, ⟨by omega, by omega⟩, s8_missingCell _ _ _ (fun q => ⟨fun _ => ?_, fun c => absurd rfl c⟩) (fun q r hr => ⟨fun c => absurd c (ne_0 hr), fun _ => s8_refuse _ _ _ _ (fun Z' _ => hn b hb4 rfl hwv q Z')⟩)⟩
  obtain ⟨n, hn24, rfl⟩ := vp_in_of (n := 24) (pi_in.mpr (by omega) : vp_in c 24) (by decide)
  have good := hk b k n hb4 hk4 hn24 rfl rfl rfl q
  refine ⟨fun ck => ?_, fun ck => ?_⟩
  · have k0 : ¬ k = 0 := fun e => ck (by rw [e]; rfl)
    rw [if_neg k0] at good
    unfold w1_middleOf w1_middleOf_b30 w1_middleOf_b32
    rw [show nI k - (1 : Int32) = nI (k - 1) from pk_sub (b := 1) (by omega)]
    have ek : (nI (k - 1)).toInt = ((k - 1 : Nat) : Int) := nI_toInt (by omega)
    refine s1_hasCell _ _ _ (fun _ => ⟨fun c => absurd c (by decide), fun _ => s8_within _ _ _ _ (fun _ => ⟨fun c => absurd c (by decide), fun _ => ?_⟩) (fun q2 => absurd (by omega) q2)⟩) (fun q2 => absurd q q2)
    rw [ix_3, rA_n _ _ (by omega)]
    exact ⟨vp_in_nI (by omega) (by decide), good⟩
  · have k0 : k = 0 := (i_0 (by omega)).mp ck
    rw [if_pos k0] at good
    unfold w1_sideOf w1_sideOf_b19
    refine s1_hasCell _ _ _ (fun _ => ⟨fun c => absurd c (by decide), fun _ => ?_⟩) (fun q2 => absurd q q2)
    rw [rA_n _ _ (by omega)]
    exact ⟨vp_in_nI hn24 (by decide), good⟩
theorem cell_in2 {S : MS} {b : Nat} {d : Nat → Nat} (hb : b < 4) (hB : BoxN S b d) (x : Int32) (Q : Int32 → Prop) (h1 : ∀ c, c < tot d → x = nI c → Q 1) (h0 : ¬ (0 ≤ x.toInt ∧ x.toInt < (tot d : Int)) → Q 0) : w9_isCell (nI b) x S Q := by
  have h24 := hB.2
  have hd0 := (hB.1 0 (by decide)).1
  have hd1 := (hB.1 1 (by decide)).1
  have hp : 1 ≤ tot d := by
    unfold tot
    have := Nat.mul_le_mul hd0 hd1
    omega
  have e : (cls9 S b).toInt = (tot d : Int) := by rw [cls_N hB, nI_toInt (by omega)]
  refine s9_isCell hb x S (by rw [e]; omega) Q (fun hx => ?_) (fun hx => h0 (by rw [e] at hx; exact hx))
  rw [e] at hx
  obtain ⟨c, hc, rfl⟩ := vp_in_of (pi_in.mpr hx) (by omega)
  exact h1 c hc rfl
theorem bb_d {X : Nat → MS} {S : MS} (h : BB X S) : ∀ b, b < 4 → ¬ dm S b 0 = 0 → ∃ d, BoxN S b d ∧ BoxC (X (6 + b)) d := by
  intro b hb hd
  rcases h b hb with ⟨_, q⟩ | q
  · exact absurd q hd
  · exact q
theorem bb_0 {X : Nat → MS} {S : MS} (h : BB X S) {b : Nat} (hb : b < 4) (hd : dm S b 0 = 0) : (fI (X (6 + b)) 6).toInt = 0 := by
  rcases h b hb with ⟨q, _⟩ | ⟨d, q, _⟩
  · rw [q]; rfl
  · have := q.1 0 (by decide)
    rw [this.2.2] at hd
    exact absurd hd (nI_ne0 (by omega) (by omega))
theorem bc_tot {V : MS} {d : Nat → Nat} (h24 : tot d ≤ 24) (h : BoxC V d) : (fI V 6).toInt = (tot d : Int) := by rw [h.2.1, nI_toInt (by omega)]
theorem s9_cell (R : Nat → (Nat → Nat) → Prop) (x c w : Int32) (S : MS) (hd : ∀ b, b < 4 → ¬ dm S b 0 = 0 → ∃ d, BoxN S b d ∧ R b d) (Q : Int32 → MS → Prop) (hb : ¬ (vp_in x 4 ∧ vp_in w 4) → Q (-1) S) (hn : ∀ b, b < 4 → x = nI b → vp_in w 4 → (dm S b 0 = 0 ∨ ∃ d, BoxN S b d ∧ R b d ∧ ¬ (0 ≤ c.toInt ∧ c.toInt < (tot d : Int))) → ∀ S', Fr [0, 1] S S' → Q (-3) S')
    (hk : ∀ b k d s l, b < 4 → k < 4 → x = nI b → w = nI k → BoxN S b d → R b d → s < 6 → l < sz d s → c = nI (pre d s + l) → ∀ S', Fr [8, 9] S S' → Q (if k = 0 then nI s else nI (posOf d s l (k - 1))) S') : w9_cell x c w S Q := by
  have e0 : (0 : Int32).toInt = 0 := rfl
  have e3 : (3 : Int32).toInt = 3 := rfl
  unfold w9_cell w9_cell_b66
  refine s9_in _ _ _ _ (fun hw => ⟨fun _ => s9_lookedBox _ _ _ (fun hx => ⟨fun c => absurd c (by decide), fun _ => hb (fun q => hx q.1)⟩) (fun b hb4 e hz S' hF => ⟨fun c => absurd c (by decide), fun _ => hn b hb4 e (pi_in.mpr (by omega)) (Or.inl hz) S' hF⟩) (fun b hb4 e hz => ⟨fun _ => ?_, fun c => absurd r0_pos c⟩), fun c => absurd c (by decide)⟩) (fun hw => ⟨fun c => absurd rfl c, fun _ => hb (fun q => hw (by have := pi_in.mp q.2; omega))⟩)
  subst e
  obtain ⟨d, hB, hRd⟩ := hd b hb4 hz
  obtain ⟨k, hk4, rfl⟩ := vp_in_of (n := 4) (pi_in.mpr (by omega) : vp_in w 4) (by decide)
  refine cell_in2 hb4 hB c _ (fun c hc e => ⟨fun _ => ?_, fun c => absurd c (by decide)⟩) (fun hc => ⟨fun c => absurd rfl c, fun _ => m9_fr _ (by unfold vp_in; decide) _ _ (fun S' hF => hn b hb4 rfl (vp_in_nI hk4 (by decide)) (Or.inr ⟨d, hB, hRd, hc⟩) S' hF)⟩)
  subst e
  refine s9_goTo hb4 S hB hc _ (fun S' s l hs hl ec hF hA => ?_)
  subst ec
  have good := hk b k d s l hb4 hk4 rfl rfl hB hRd hs hl rfl S' hF
  refine ⟨fun q => ?_, fun q => ?_⟩
  · have k0 : ¬ k = 0 := fun e => q (by rw [e]; rfl)
    rw [if_neg k0] at good
    rw [show nI k - (1 : Int32) = nI (k - 1) from pk_sub (b := 1) (by omega), rd_at hA (by omega : k - 1 < 3)]
    exact ⟨vp_in_nI (by omega) (by decide), good⟩
  · have k0 : k = 0 := (i_0 (by omega)).mp q
    rw [if_pos k0] at good
    rw [hA.1]
    exact good
theorem inj4 {a b : Nat} (ha : a < 4) (hb : b < 4) (e : nI a = nI b) : a = b := (nI_eq (by omega) (by omega)).mp e
theorem e_cell (x c w : Int32) (Z : MS) (X : Nat → MS) (S : MS) (h8 : Inv8 X) (h9 : Inv9 S) (hR : RR X S) (hB : BB X S) (P : Int32 → Int32 → MS → MS → Prop) (h : ∀ v Z' S', Nx X X S S' → P v v Z' S') : w8_cell x c w Z X (fun r1 Z2 => w9_cell x c w S (fun r4 S5 => P r1 r4 Z2 S5)) := by
  have g0 : ∀ {ks S'}, Fr ks S S' → 3 ∉ ks → 7 ∉ ks → 40 ∉ ks → 41 ∉ ks → Nx X X S S' := fun hF h3 h7 h40 h41 => nx_g hR (g8_rf h8) (g9_fr h9 hF h3 h7 h40 h41)
  refine s8_cell x c w Z X h8 _ (fun c8 => ?_) (fun b hb e hw c8 Z' => ?_) (fun b k n hb hk hn e1 e2 e3 c8 => ?_)
  · refine s9_cell (fun b d => BoxC (X (6 + b)) d) _ _ _ _ (bb_d hB) _ (fun _ => h _ _ _ (nx_rf h8 h9 hR)) (fun b hb e hw _ S' hF => ?_) (fun b k d s l hb hk e1 e2 _ _ _ _ _ S' _ => ?_)
    · exact absurd ⟨by rw [e]; exact vp_in_nI hb (by decide), hw⟩ c8
    · exact absurd ⟨by rw [e1]; exact vp_in_nI hb (by decide), by rw [e2]; exact vp_in_nI hk (by decide)⟩ c8
  · subst e
    refine s9_cell (fun b d => BoxC (X (6 + b)) d) _ _ _ _ (bb_d hB) _ (fun c9 => absurd ⟨vp_in_nI hb (by decide), hw⟩ c9) (fun b' hb' e _ _ S' hF => h _ _ _ (g0 hF (by decide) (by decide) (by decide) (by decide))) (fun b' k d s l hb' hk e1 e2 hN hC hs hl ec S' _ => ?_)
    have eb := inj4 hb hb' e1
    subst eb
    exfalso
    apply c8
    have hp := pre_le (d := d) hs
    have h24 := hN.2
    rw [bc_tot hN.2 hC, ec, nI_toInt (by omega)]
    omega
  · subst e1 e2 e3
    refine s9_cell (fun b d => BoxC (X (6 + b)) d) _ _ _ _ (bb_d hB) _ (fun c9 => absurd ⟨vp_in_nI hb (by decide), vp_in_nI hk (by decide)⟩ c9) (fun b' hb' e _ c9 S' hF => ?_) (fun b' k' d s l hb' hk' e1 e2 hN hC hs hl ec S' hF => ?_)
    · have eb := inj4 hb hb' e
      subst eb
      exfalso
      rcases c9 with q | ⟨d, hN, hC, q⟩
      · rw [bb_0 hB hb q] at c8; omega
      · rw [bc_tot hN.2 hC] at c8; exact q c8
    · have eb := inj4 hb hb' e1
      subst eb
      have ek := inj4 hk hk' e2
      subst ek
      have hp := pre_le (d := d) hs
      have h24 := hN.2
      have en : n = pre d s + l := (nI_eq (by omega) (by omega)).mp ec
      obtain ⟨m2, m3⟩ := hC.2.2.1 s l hs hl (by omega)
      have ev : (if k = 0 then aI (X (6 + b)) 2 n else aI (X (6 + b)) 3 (3 * n + (k - 1))) = (if k = 0 then nI s else nI (posOf d s l (k - 1))) := by
        rw [en]
        by_cases q : k = 0
        · rw [if_pos q, if_pos q]; exact m2
        · rw [if_neg q, if_neg q]; exact m3 (k - 1) (by omega)
      rw [ev]
      exact h _ _ _ (g0 hF (by decide) (by decide) (by decide) (by decide))
/-- a step of the reference is a step of the class -/
theorem step_ld {d : Nat → Nat} {s l t w : Nat} (hs : s < 6) (ht : t < 4) (hw : w < 4) :
    cellOf d (goS d (posOf d s l) s (dirN (frm s t).1 (frm s t).2 w)) (goP d (posOf d s l) s (dirN (frm s t).1 (frm s t).2 w)) = ldV d s l ((w + t) % 4) / 4 ∧ tuN (goS d (posOf d s l) s (dirN (frm s t).1 (frm s t).2 w)) (goU d (posOf d s l) s (frm s t).2 (dirN (frm s t).1 (frm s t).2 w) w) = (ldV d s l ((w + t) % 4) + t) % 4 := by
  obtain ⟨a1, a2, a3⟩ := turn_all s hs t ht w hw
  have h4 := tC_lt s ((w + t) % 4)
  rw [a1] at a2 ⊢
  unfold ldV goS goU
  have ec : dirC s ((w + t) % 4) = dirN (bR s) (bU s) ((w + t) % 4) ^^^ 1 := rfl
  by_cases q : insN d (posOf d s l) (dirN (bR s) (bU s) ((w + t) % 4)) = true
  · simp only [if_pos q]
    rw [a3]
    omega
  · simp only [if_neg q]
    rw [a2, ec]
    omega
theorem x9_turnNow {s u : Nat} (hs : s < 6) (hu : u < 6) (S : MS) (h8 : fI S 8 = nI s) (h11 : fI S 11 = nI u) (Q : Int32 → Prop) (h : Q (nI (tuN s u))) : w9_turnNow S Q := by
  have hb := fr_base s hs
  have x1 := x1_ok _ hb.1
  have x2 := x1_ok _ hb.2.1
  unfold w9_turnNow w9_turnNow_b57
  rw [h8, h11]
  refine s9_baseRight hs _ (s9_baseUp hs _ ?_)
  rw [x1_I, x1_I, nI_eq (by omega) (by omega), nI_eq (by omega) (by omega), nI_eq (by omega) (by omega)]
  unfold tuN at h
  refine ⟨fun c => ⟨fun c1 => ⟨fun c2 => ?_, fun c2 => ?_⟩, fun c1 => ?_⟩, fun c => ?_⟩
  · rw [if_neg c, if_neg c1, if_neg c2] at h; exact h
  · rw [if_neg c, if_neg c1, if_pos c2] at h; exact h
  · rw [if_neg c, if_pos c1] at h; exact h
  · rw [if_pos c] at h; exact h
theorem x9_step {b s l t w : Nat} {d : Nat → Nat} (hb : b < 4) (hs : s < 6) (hl : l < sz d s) (ht : t < 4) (hw : w < 4) (S : MS) (hB : BoxN S b d) (tf : MS → Int32) (htf : ∀ S', Fr [8, 9] S S' → tf S' = nI t) (R : MS → Prop)
    (h : ∀ S' s' u' p', s' < 6 → u' < 6 → Fr [8, 9, 10, 11] S S' → At S' s' p' → Ok d s' p' → fI S' 11 = nI u' → cellOf d s' p' = ldV d s l ((w + t) % 4) / 4 → tuN s' u' = (ldV d s l ((w + t) % 4) + t) % 4 → R S') : w9_goTo (nI b) (nI (pre d s + l)) S (fun S9 => w9_setFrame (tf S9) S9 (fun S10 => w9_go (nI b) (nI w) S10 R)) := by
  have hp := pre_le (d := d) hs
  refine s9_goTo hb S hB (by omega) _ (fun S1 s1 l1 hs1 hl1 ec hF1 hA1 => ?_)
  obtain ⟨e1, e2⟩ := pre_inj hl hl1 ec
  subst e1 e2
  rw [htf S1 hF1]
  refine s9_setFrame hs ht S1 hA1.1 _ (fun S2 hF2 h10 h11 => ?_)
  have hd1 : ∀ j, j < 3 → 1 ≤ d j := fun j hj => (hB.1 j hj).1
  have hO := posOf_ok hs hd1 hl
  have hA2 : At S2 s (posOf d s l) := ⟨(hF2 8 (by decide)).1.trans hA1.1, fun j hj => by rw [(hF2 9 (by decide)).2.2.1]; exact hA1.2 j hj⟩
  have hB2 : BoxN S2 b d := boxN_fr hF2 (by decide) (boxN_fr hF1 (by decide) hB)
  refine s9_go hb hs hw S2 hB2 hA2 hO (frm_O hs ht) h10 h11 _ (fun S3 hF3 hA3 _ h11b => ?_)
  have hk := go_ok hs hd1 hO (frm_O hs ht) hw
  have hst := step_ld (d := d) (s := s) (l := l) (t := t) (w := w) hs ht hw
  exact h S3 _ _ _ hk.1 hk.2.2.2.1 (fr_tr (fr_mono hF1 (by decide)) (fr_tr (fr_mono hF2 (by decide)) hF3)) hA3 hk.2.1 h11b hst.1 hst.2
/-- where a frame leads -/
theorem x1_leadsTo {V : MS} {d : Nat → Nat} {s l t w : Nat} (h24 : tot d ≤ 24) (hC : BoxC V d) (hs : s < 6) (hl : l < sz d s) (ht : t < 4) (hw : w < 4) (hv : ∀ w, w < 4 → ldV d s l w < 1000) (Q : Int32 → Prop) (h : Q (nI (4 * (ldV d s l ((w + t) % 4) / 4) + (ldV d s l ((w + t) % 4) + t) % 4))) : w1_leadsTo (nI (4 * (pre d s + l) + t)) (nI w) V Q := by
  have hp := pre_le (d := d) hs
  have a3 : ∀ {n : Nat}, n < 2 ^ 31 → nI n &&& (3 : Int32) = nI (n % 4) := fun hn => pk_andN (by omega) 2 (by decide)
  unfold w1_leadsTo w8_frameOf
  rw [sh_2 (by omega), a3 (by omega), show (4 * (pre d s + l) + t) / 4 = pre d s + l by omega, show (4 * (pre d s + l) + t) % 4 = t by omega]
  rintro _ rfl _ rfl
  have ec : (nI (pre d s + l)).toInt = ((pre d s + l : Nat) : Int) := nI_toInt (by omega)
  refine s1_hasCell _ _ _ (fun _ => ⟨fun _ => ?_, fun c => absurd c (by decide)⟩) (fun q => absurd (by rw [bc_tot h24 hC, ec]; omega) q)
  rw [nI_add, a3 (by omega), show (4 : Int32) = nI 4 from rfl, pk_mul, nI_add, rA_n _ _ (by omega), hC.2.2.2 s l ((w + t) % 4) hs hl (by omega)]
  refine ⟨vp_in_nI (by omega) (by decide), ?_⟩
  have hb := hv ((w + t) % 4) (by omega)
  rintro _ rfl
  rw [sh_2 (by omega), nI_add, a3 (by omega), pk_mul, nI_add]
  exact h
theorem ld_lt {d : Nat → Nat} {s l w : Nat} (hs : s < 6) (hd : ∀ j, j < 3 → 1 ≤ d j) (hl : l < sz d s) (hw : w < 4) : ldV d s l w < 4 * tot d := by
  have hO := posOf_ok hs hd hl
  have hk := go_ok hs hd hO (fr_base s hs) hw
  have hc := cell_lt hk.1 hk.2.1
  have h4 := tC_lt s w
  have ec : dirC s w = dirN (bR s) (bU s) w ^^^ 1 := rfl
  unfold ldV
  unfold goS at hc
  by_cases q : insN d (posOf d s l) (dirN (bR s) (bU s) w) = true
  · simp only [if_pos q] at hc ⊢
    omega
  · simp only [if_neg q] at hc ⊢
    rw [ec]
    omega
theorem s8_next (x c t w : Int32) (Z : MS) (X : Nat → MS) (S : MS) (hB : BB X S) (Q : Int32 → MS → Prop) (hb : ¬ (vp_in x 4 ∧ vp_in t 4 ∧ vp_in w 4) → Q (-1) Z) (hn : ∀ b, b < 4 → x = nI b → vp_in t 4 → vp_in w 4 → ¬ (0 ≤ c.toInt ∧ c.toInt < (fI (X (6 + b)) 6).toInt) → ∀ Z', Q (-3) Z')
    (hk : ∀ b d s l tn wn, b < 4 → x = nI b → t = nI tn → w = nI wn → tn < 4 → wn < 4 → BoxN S b d → BoxC (X (6 + b)) d → s < 6 → l < sz d s → c = nI (pre d s + l) → ∀ Z', Q (nI (ldV d s l ((wn + tn) % 4) / 4)) Z') : w8_next x c t w Z X Q := by
  have e0 : (0 : Int32).toInt = 0 := rfl
  have e3 : (3 : Int32).toInt = 3 := rfl
  have qt : ∀ (y : Int32) (Q : Int32 → Prop), (vp_in y 4 → Q 1) → (¬ vp_in y 4 → Q 0) → w8_isQuarter y Q := by
    intro y Q h1 h0
    unfold w8_isQuarter
    exact s8_within _ _ _ _ (fun h => ⟨rfl, h1 (pi_in.mpr (by omega))⟩) (fun h => ⟨rfl, h0 (fun q => h (by have := pi_in.mp q; omega))⟩)
  unfold w8_next w8_next_b22 w8_frameOf
  refine s8_isBox _ _ (fun hx => ⟨fun c => absurd c (by decide), fun _ => qt _ _ (fun ht => ⟨fun c => absurd c (by decide), fun _ => qt _ _ (fun hw => ⟨fun _ => ?_, fun c => absurd c (by decide)⟩) (fun hw => ⟨fun c => absurd rfl c, fun _ => hb (fun q => hw q.2.2)⟩)⟩) (fun ht => ⟨fun _ => hb (fun q => ht q.2.1), fun c => absurd rfl c⟩)⟩) (fun hx => ⟨fun _ => hb (fun q => hx q.1), fun c => absurd rfl c⟩)
  obtain ⟨b, hb4, rfl⟩ := vp_in_of hx (by decide)
  obtain ⟨tn, ht4, rfl⟩ := vp_in_of ht (by decide)
  obtain ⟨wn, hw4, rfl⟩ := vp_in_of hw (by decide)
  rw [nI_clamp (by omega)]
  refine ⟨hx, ⟨by omega, by omega⟩, s8_missingCell _ _ _ (fun q => ⟨fun _ => ?_, fun c => absurd rfl c⟩) (fun q r hr => ⟨fun c => absurd c (ne_0 hr), fun _ => s8_refuse _ _ _ _ (fun Z' _ => hn b hb4 rfl ht hw q Z')⟩)⟩
  rcases hB b hb4 with ⟨q0, _⟩ | ⟨d, hN, hC⟩
  · rw [q0, e0] at q; omega
  have h24 := hN.2
  rw [bc_tot hN.2 hC] at q
  obtain ⟨n, hn2, rfl⟩ := vp_in_of (pi_in.mpr q) (by omega)
  obtain ⟨s, l, hs, hl, en⟩ := loc_ex (d := d) (c := n) 6 (by rw [pre_6]; exact hn2)
  subst en
  have hd1 : ∀ j, j < 3 → 1 ≤ d j := fun j hj => (hN.1 j hj).1
  have good := hk b d s l tn wn hb4 rfl rfl rfl ht4 hw4 hN hC hs hl rfl
  have hlw : ∀ w, w < 4 → ldV d s l w < 1000 := fun w hw => by have := ld_lt hs hd1 hl hw; omega
  rw [show (4 : Int32) = nI 4 from rfl, pk_mul, nI_add]
  refine x1_leadsTo h24 hC hs hl ht4 hw4 hlw _ ?_
  have := hlw ((wn + tn) % 4) (by omega)
  rw [sh_2 (by omega), show (4 * (ldV d s l ((wn + tn) % 4) / 4) + (ldV d s l ((wn + tn) % 4) + tn) % 4) / 4 = ldV d s l ((wn + tn) % 4) / 4 by omega]
  rintro _ rfl
  exact good _
theorem s9_next (R : Nat → (Nat → Nat) → Prop) (x c t w : Int32) (S : MS) (hd : ∀ b, b < 4 → ¬ dm S b 0 = 0 → ∃ d, BoxN S b d ∧ R b d) (Q : Int32 → MS → Prop) (hb : ¬ (vp_in x 4 ∧ vp_in t 4 ∧ vp_in w 4) → Q (-1) S) (hn : ∀ b, b < 4 → x = nI b → vp_in t 4 → vp_in w 4 → (dm S b 0 = 0 ∨ ∃ d, BoxN S b d ∧ R b d ∧ ¬ (0 ≤ c.toInt ∧ c.toInt < (tot d : Int))) → ∀ S', Fr [0, 1] S S' → Q (-3) S')
    (hk : ∀ b d s l tn wn, b < 4 → x = nI b → t = nI tn → w = nI wn → tn < 4 → wn < 4 → BoxN S b d → R b d → s < 6 → l < sz d s → c = nI (pre d s + l) → ∀ S', Fr [2, 8, 9, 10, 11] S S' → Q (nI (ldV d s l ((wn + tn) % 4) / 4)) S') : w9_next x c t w S Q := by
  have e0 : (0 : Int32).toInt = 0 := rfl
  have e3 : (3 : Int32).toInt = 3 := rfl
  unfold w9_next w9_next_b19 w9_ask
  refine s9_in _ _ _ _ (fun ht => ⟨fun c => absurd c (by decide), fun _ => s9_in _ _ _ _ (fun hw => ⟨fun _ => s9_lookedBox _ _ _ (fun hx => ⟨fun c => absurd c (by decide), fun _ => hb (fun q => hx q.1)⟩) (fun b hb4 e hz S' hF => ⟨fun c => absurd c (by decide), fun _ => hn b hb4 e (pi_in.mpr (by omega)) (pi_in.mpr (by omega)) (Or.inl hz) S' hF⟩) (fun b hb4 e hz => ⟨fun _ => ?_, fun c => absurd r0_pos c⟩), fun c => absurd c (by decide)⟩) (fun hw => ⟨fun c => absurd rfl c, fun _ => hb (fun q => hw (by have := pi_in.mp q.2.2; omega))⟩)⟩) (fun ht => ⟨fun _ => hb (fun q => ht (by have := pi_in.mp q.2.1; omega)), fun c => absurd rfl c⟩)
  subst e
  obtain ⟨d, hB, hRd⟩ := hd b hb4 hz
  obtain ⟨tn, ht4, rfl⟩ := vp_in_of (n := 4) (pi_in.mpr (by omega) : vp_in t 4) (by decide)
  obtain ⟨wn, hw4, rfl⟩ := vp_in_of (n := 4) (pi_in.mpr (by omega) : vp_in w 4) (by decide)
  refine cell_in2 hb4 hB c _ (fun n hc e => ⟨fun _ => ?_, fun c => absurd c (by decide)⟩) (fun hc => ⟨fun c => absurd rfl c, fun _ => m9_fr _ (by unfold vp_in; decide) _ _ (fun S' hF => hn b hb4 rfl (vp_in_nI ht4 (by decide)) (vp_in_nI hw4 (by decide)) (Or.inr ⟨d, hB, hRd, hc⟩) S' hF)⟩)
  subst e
  obtain ⟨s, l, hs, hl, en⟩ := loc_ex (d := d) (c := n) 6 (by rw [pre_6]; exact hc)
  subst en
  refine x9_step hb4 hs hl ht4 hw4 S hB (fun _ => nI tn) (fun _ _ => rfl) _ (fun S' s' u' p' hs' hu' hF hA hO h11 e1 e2 => ?_)
  refine x9_turnNow hs' hu' S' hA.1 h11 _ (s9_cellNow hb4 hs' S' (boxN_fr hF (by decide) hB) hA (ok_lt hs' (fun j hj => (hB.1 j hj).2.1) hO) _ ?_)
  rw [e1]
  rintro _ rfl
  exact hk b d s l tn wn hb4 rfl rfl rfl ht4 hw4 hB hRd hs hl rfl _ (fr_tr (fr_mono hF (by decide)) (fr_sJ (by decide)))
theorem e_next (x c t w : Int32) (Z : MS) (X : Nat → MS) (S : MS) (h8 : Inv8 X) (h9 : Inv9 S) (hR : RR X S) (hB : BB X S) (P : Int32 → Int32 → MS → MS → Prop) (h : ∀ v Z' S', Nx X X S S' → P v v Z' S') : w8_next x c t w Z X (fun r1 Z2 => w9_next x c t w S (fun r4 S5 => P r1 r4 Z2 S5)) := by
  have g0 : ∀ {ks S'}, Fr ks S S' → 3 ∉ ks → 7 ∉ ks → 40 ∉ ks → 41 ∉ ks → Nx X X S S' := fun hF h3 h7 h40 h41 => nx_g hR (g8_rf h8) (g9_fr h9 hF h3 h7 h40 h41)
  refine s8_next x c t w Z X S hB _ (fun c8 => ?_) (fun b hb e ht hw c8 Z' => ?_) (fun b d s l tn wn hb e1 e2 e3 ht hw hN hC hs hl ec Z' => ?_)
  · refine s9_next (fun b d => BoxC (X (6 + b)) d) _ _ _ _ _ (bb_d hB) _ (fun _ => h _ _ _ (nx_rf h8 h9 hR)) (fun b hb e ht hw _ S' hF => ?_) (fun b d s l tn wn hb e1 e2 e3 ht hw _ _ _ _ _ S' _ => ?_)
    · exact absurd ⟨by rw [e]; exact vp_in_nI hb (by decide), ht, hw⟩ c8
    · exact absurd ⟨by rw [e1]; exact vp_in_nI hb (by decide), by rw [e2]; exact vp_in_nI ht (by decide), by rw [e3]; exact vp_in_nI hw (by decide)⟩ c8
  · subst e
    refine s9_next (fun b d => BoxC (X (6 + b)) d) _ _ _ _ _ (bb_d hB) _ (fun c9 => absurd ⟨vp_in_nI hb (by decide), ht, hw⟩ c9) (fun b' hb' e _ _ _ S' hF => h _ _ _ (g0 hF (by decide) (by decide) (by decide) (by decide))) (fun b' d s l tn wn hb' e1 e2 e3 ht hw hN hC hs hl ec S' _ => ?_)
    have eb := inj4 hb hb' e1
    subst eb
    exfalso
    apply c8
    have hp := pre_le (d := d) hs
    have h24 := hN.2
    rw [bc_tot hN.2 hC, ec, nI_toInt (by omega)]
    omega
  · subst e1 e2 e3 ec
    have hp := pre_le (d := d) hs
    have h24 := hN.2
    refine s9_next (fun b' d' => b' = b → d' = d) _ _ _ _ _ (fun b' hb' hd => ?_) _ (fun c9 => absurd ⟨vp_in_nI hb (by decide), vp_in_nI ht (by decide), vp_in_nI hw (by decide)⟩ c9) (fun b' hb' e _ _ c9 S' hF => ?_) (fun b' d' s' l' tn' wn' hb' e1 e2 e3 ht' hw' hN' hd' hs' hl' ec S' hF => ?_)
    · by_cases q : b' = b
      · subst q; exact ⟨d, hN, fun _ => rfl⟩
      · obtain ⟨d2, hN2, _⟩ := bb_d hB b' hb' hd
        exact ⟨d2, hN2, fun e => absurd e q⟩
    · have eb := inj4 hb hb' e
      subst eb
      exfalso
      rcases c9 with q | ⟨d2, hN2, hd2, q⟩
      · have := hN.1 0 (by decide)
        rw [this.2.2] at q
        exact nI_ne0 (by omega) (by omega) q
      · have := hd2 rfl
        subst this
        apply q
        rw [nI_toInt (by omega)]
        omega
    · have eb := inj4 hb hb' e1
      subst eb
      have := hd' rfl
      subst this
      have et := inj4 ht ht' e2
      have ew := inj4 hw hw' e3
      subst et ew
      have hp' := pre_le (d := d') hs'
      have en : pre d' s + l = pre d' s' + l' := (nI_eq (by omega) (by omega)).mp ec
      obtain ⟨i1, i2⟩ := pre_inj hl hl' en
      subst i1 i2
      exact h _ _ _ (g0 hF (by decide) (by decide) (by decide) (by decide))

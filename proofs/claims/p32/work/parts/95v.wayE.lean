/-! ===== pure: way, farthest, mean on both sides ===== -/
theorem x9_askedB {x p q : Int32} (hx : ¬ vp_in x 4) (S : MS) (Q : Int32 → MS → Prop) (h : Q (-1) S) : w9_askedCells x p q S Q := by
  unfold w9_askedCells w9_askedCells_b44
  exact s9_lookedBox _ _ _ (fun _ => ⟨fun c => absurd c (by decide), fun _ => h⟩) (fun b hb e _ _ _ => absurd (by rw [e]; exact vp_in_nI hb (by decide)) hx) (fun b hb e _ => absurd (by rw [e]; exact vp_in_nI hb (by decide)) hx)
theorem x9_asked0 {b : Nat} (hb : b < 4) (p q : Int32) (S : MS) (hd : dm S b 0 = 0) (Q : Int32 → MS → Prop) (h : ∀ S', Fr [0, 1] S S' → Q (-3) S') : w9_askedCells (nI b) p q S Q := by
  unfold w9_askedCells w9_askedCells_b44
  refine s9_lookedBox _ _ _ (fun c => absurd (vp_in_nI hb (by decide)) c) (fun _ _ _ _ S' hF => ⟨fun c => absurd c (by decide), fun _ => h S' hF⟩) (fun b' hb' e hd' => ?_)
  have eb := inj4 hb hb' e
  subst eb
  exact absurd hd hd'
theorem x9_asked {b : Nat} {d : Nat → Nat} (hb : b < 4) (p q : Int32) (S : MS) (hN : BoxN S b d) (Q : Int32 → MS → Prop) (hk : (0 ≤ p.toInt ∧ p.toInt < (tot d : Int)) ∧ (0 ≤ q.toInt ∧ q.toInt < (tot d : Int)) → Q 0 S) (hn : ¬ ((0 ≤ p.toInt ∧ p.toInt < (tot d : Int)) ∧ (0 ≤ q.toInt ∧ q.toInt < (tot d : Int))) → ∀ S', Fr [0, 1] S S' → Q (-3) S') : w9_askedCells (nI b) p q S Q := by
  have h24 := hN.2
  have k39 : ¬ ((0 ≤ p.toInt ∧ p.toInt < (tot d : Int)) ∧ (0 ≤ q.toInt ∧ q.toInt < (tot d : Int))) → w9_askedCells_b39 S Q := fun hno => by
    unfold w9_askedCells_b39 w9_askedCells_b44
    exact m9_fr _ (by unfold vp_in; decide) _ _ (fun S' hF => hn hno S' hF)
  unfold w9_askedCells w9_askedCells_b44
  refine s9_lookedBox _ _ _ (fun c => absurd (vp_in_nI hb (by decide)) c) (fun b' hb' e hd S' hF => ?_) (fun b' hb' e hd => ⟨fun _ => ?_, fun c => absurd r0_pos c⟩)
  · exfalso
    have eb := inj4 hb hb' e
    subst eb
    have h0 := hN.1 0 (by decide)
    rw [h0.2.2] at hd
    exact absurd hd (nI_ne0 (by omega) (by omega))
  · refine cell_in2 hb hN p _ (fun pn hp e1 => ⟨fun c => absurd c (by decide), fun _ => cell_in2 hb hN q _ (fun qn hq e2 => ⟨fun c => absurd c (by decide), fun _ => hk ?_⟩) (fun hq => ⟨fun _ => k39 (fun w => hq w.2), fun c => absurd rfl c⟩)⟩) (fun hp => ⟨fun _ => k39 (fun w => hp w.1), fun c => absurd rfl c⟩)
    rw [e1, e2, nI_toInt (by omega), nI_toInt (by omega)]
    omega
/-- a cell's number, its side and its place there -/
theorem cell_at {d : Nat → Nat} (h24 : tot d ≤ 24) {x : Int32} (h : 0 ≤ x.toInt ∧ x.toInt < (tot d : Int)) : ∃ s l, s < 6 ∧ l < sz d s ∧ x = nI (pre d s + l) := by
  obtain ⟨c, hc, rfl⟩ := vp_in_of (n := tot d) (pi_in.mpr h) (by omega)
  obtain ⟨s, l, h1, h2, h3⟩ := loc_ex (d := d) (c := c) 6 (by rw [pre_6]; exact hc)
  exact ⟨s, l, h1, h2, by rw [h3]⟩
theorem bx_d {S : MS} {b : Nat} {d : Nat → Nat} (hN : BoxN S b d) : ∀ j, j < 3 → 1 ≤ d j ∧ d j ≤ 5 := fun j hj => ⟨(hN.1 j hj).1, (hN.1 j hj).2.1⟩
theorem e_way (x p q : Int32) (Z : MS) (X : Nat → MS) (S : MS) (h8 : Inv8 X) (h9 : Inv9 S) (hR : RR X S) (hB : BB X S) (P : Int32 → Int32 → MS → (Nat → MS) → MS → Prop) (h : ∀ v Z' X' S', Nx X X' S S' → P v v Z' X' S') : w8_way x p q Z X (fun r1 Z2 X3 => w9_way x p q S (fun r4 S5 => P r1 r4 Z2 X3 S5)) := by
  have g0 : ∀ {ks S'}, Fr ks S S' → 3 ∉ ks → 7 ∉ ks → 40 ∉ ks → 41 ∉ ks → Nx X X S S' := fun hF h3 h7 h40 h41 => nx_g hR (g8_rf h8) (g9_fr h9 hF h3 h7 h40 h41)
  by_cases hx : vp_in x 4
  rotate_left
  · unfold w8_way
    refine s8_isBox _ _ (fun c => absurd c hx) (fun _ => ⟨fun c => absurd rfl c, fun _ => ?_⟩)
    unfold w9_way w9_way_b26
    exact x9_askedB hx _ _ ⟨fun c => absurd c (by decide), fun _ => h _ _ _ _ (nx_rf h8 h9 hR)⟩
  obtain ⟨b, hb, rfl⟩ := vp_in_of hx (by decide)
  unfold w8_way
  refine s8_isBox _ _ (fun _ => ⟨fun _ => ?_, fun c => absurd c (by decide)⟩) (fun c => absurd hx c)
  rw [nI_clamp (by omega)]
  rcases hB b hb with ⟨q1, q2⟩ | ⟨d, hN, hC⟩
  · have z : (fI (X (6 + b)) 6).toInt = 0 := by rw [q1]; rfl
    refine ⟨hx, ⟨by omega, by omega⟩, s8_missingCell _ _ _ (fun w => by omega) (fun _ r hr => ⟨fun _ => ?_, fun c => absurd c (ne_0 hr)⟩)⟩
    unfold w8_way_b38
    refine ⟨fun c => absurd c (ne_0 hr), fun _ => s8_refuse _ _ _ _ (fun Z' _ => ?_)⟩
    unfold w9_way w9_way_b26
    exact x9_asked0 hb _ _ _ q2 _ (fun S' hF => ⟨fun c => absurd c (by decide), fun _ => h _ _ _ _ (g0 hF (by decide) (by decide) (by decide) (by decide))⟩)
  have h24 := hN.2
  have et := bc_tot h24 hC
  have no : ¬ ((0 ≤ p.toInt ∧ p.toInt < (tot d : Int)) ∧ (0 ≤ q.toInt ∧ q.toInt < (tot d : Int))) → ∀ r, (r = 1 ∨ r = 2) → w8_way_b38 (nI b) p q r Z X (fun r1 Z2 X3 => w9_way (nI b) p q S (fun r4 S5 => P r1 r4 Z2 X3 S5)) := by
    intro hno r hr
    unfold w8_way_b38
    refine ⟨fun c => absurd c (ne_0 hr), fun _ => s8_refuse _ _ _ _ (fun Z' _ => ?_)⟩
    unfold w9_way w9_way_b26
    exact x9_asked hb _ _ S hN _ (fun hy => absurd hy hno) (fun _ S' hF => ⟨fun c => absurd c (by decide), fun _ => h _ _ _ _ (g0 hF (by decide) (by decide) (by decide) (by decide))⟩)
  refine ⟨hx, ⟨by omega, by omega⟩, s8_missingCell _ _ _ (fun wp => ⟨fun c => absurd rfl c, fun _ => s8_missingCell _ _ _ (fun wq => ?_) (fun wq r hr => no (fun w => wq (by rw [et]; exact w.2)) r hr)⟩) (fun wp r hr => ⟨fun _ => no (fun w => wp (by rw [et]; exact w.1)) r hr, fun c => absurd c (ne_0 hr)⟩)⟩
  rw [et] at wp wq
  obtain ⟨sp, lp', hsp, hlp, rfl⟩ := cell_at h24 wp
  obtain ⟨sq, lq, hsq, hlq, rfl⟩ := cell_at h24 wq
  unfold w8_way_b38
  rw [nI_clamp (by omega)]
  refine ⟨fun _ => ⟨hx, ⟨by omega, by omega⟩, x7_shortest h24 (bx_d hN) hC hsp hlp hsq hlq _ _ (fun v S' hv => ?_)⟩, fun c => absurd rfl c⟩
  rintro _ rfl
  unfold w9_way w9_way_b26
  refine x9_asked hb _ _ S hN _ (fun _ => ⟨fun _ => ?_, fun c => absurd r0_pos c⟩) (fun hno => absurd ⟨wp, wq⟩ hno)
  refine x9_shortOf hb S hN hsp hlp hsq hlq _ (fun v' S'' hF hv' => ?_)
  rw [Mn_one hv' hv]
  exact h _ _ _ _ (nx_g hR (g8_free h8 S' (by omega)) (g9_sh h9 (fr_mono hF (by decide))))
/-- how far it is to a cell -/
def RF (d : Nat → Nat) (sp lp' : Nat) (k : Nat) (v : Int32) : Prop := ∃ s l, s < 6 ∧ l < sz d s ∧ k = pre d s + l ∧ Mn d (fun j => nI (posOf d sp lp' j)) (fun j => nI (posOf d s l j)) sp s v
theorem rf_one {d : Nat → Nat} {sp lp' k : Nat} {v v' : Int32} (h : RF d sp lp' k v) (h' : RF d sp lp' k v') : v = v' := by
  obtain ⟨s, l, h1, h2, h3, h4⟩ := h
  obtain ⟨s', l', h1', h2', h3', h4'⟩ := h'
  obtain ⟨rfl, rfl⟩ := pre_inj h2 h2' (h3.symm.trans h3')
  exact Mn_one h4 h4'
def FM (R : Nat → Int32 → Prop) : Nat → Int32 → Int32 → Prop
  | 0, a, m => a = 0 ∧ m = -1
  | n + 1, a, m => ∃ a' m' v, FM R n a' m' ∧ R n v ∧ ((v ≤ m' ∧ a = a' ∧ m = m') ∨ (¬ v ≤ m' ∧ a = nI n ∧ m = v))
theorem fm_one {R : Nat → Int32 → Prop} (hR : ∀ k v v', R k v → R k v' → v = v') : ∀ (n : Nat) {a m a2 m2 : Int32}, FM R n a m → FM R n a2 m2 → a = a2 ∧ m = m2
  | 0, _, _, _, _, h, h' => ⟨h.1.trans h'.1.symm, h.2.trans h'.2.symm⟩
  | n + 1, a, m, a2, m2, h, h' => by
    obtain ⟨b, c, v, h1, h2, h3⟩ := h
    obtain ⟨b', c', v', h1', h2', h3'⟩ := h'
    obtain ⟨rfl, rfl⟩ := fm_one hR n h1 h1'
    have ev := hR n v v' h2 h2'
    subst ev
    rcases h3 with ⟨p1, p2, p3⟩ | ⟨p1, p2, p3⟩ <;> rcases h3' with ⟨q1, q2, q3⟩ | ⟨q1, q2, q3⟩
    · exact ⟨p2.trans q2.symm, p3.trans q3.symm⟩
    · exact absurd p1 q1
    · exact absurd q1 p1
    · exact ⟨p2.trans q2.symm, p3.trans q3.symm⟩
def SMf (R : Nat → Int32 → Prop) : Nat → Int32 → Prop
  | 0, a => a = 0
  | n + 1, a => ∃ a' v, SMf R n a' ∧ R n v ∧ a = a' + v
theorem sm_one {R : Nat → Int32 → Prop} (hR : ∀ k v v', R k v → R k v' → v = v') : ∀ (n : Nat) {a a2 : Int32}, SMf R n a → SMf R n a2 → a = a2
  | 0, _, _, h, h' => Eq.trans h (Eq.symm h')
  | n + 1, a, a2, h, h' => by
    obtain ⟨b, v, h1, h2, h3⟩ := h
    obtain ⟨b', v', h1', h2', h3'⟩ := h'
    have e := sm_one hR n h1 h1'
    subst e
    have ev := hR n v v' h2 h2'
    subst ev
    rw [h3, h3']
theorem e_farthest (x p : Int32) (Z : MS) (X : Nat → MS) (S : MS) (h8 : Inv8 X) (h9 : Inv9 S) (hR : RR X S) (hB : BB X S) (P : Int32 → Int32 → MS → (Nat → MS) → MS → Prop) (h : ∀ v Z' X' S', Nx X X' S S' → P v v Z' X' S') : w8_farthest x p Z X (fun r1 Z2 X3 => w9_farthest x p S (fun r4 S5 => P r1 r4 Z2 X3 S5)) := by
  have g0 : ∀ {ks S'}, Fr ks S S' → 3 ∉ ks → 7 ∉ ks → 40 ∉ ks → 41 ∉ ks → Nx X X S S' := fun hF h3 h7 h40 h41 => nx_g hR (g8_rf h8) (g9_fr h9 hF h3 h7 h40 h41)
  by_cases hx : vp_in x 4
  rotate_left
  · unfold w8_farthest
    refine s8_isBox _ _ (fun c => absurd c hx) (fun _ => ⟨fun c => absurd rfl c, fun _ => ?_⟩)
    unfold w9_farthest
    exact x9_askedB hx _ _ ⟨fun c => absurd c (by decide), fun _ => h _ _ _ _ (nx_rf h8 h9 hR)⟩
  obtain ⟨b, hb, rfl⟩ := vp_in_of hx (by decide)
  unfold w8_farthest
  refine s8_isBox _ _ (fun _ => ⟨fun _ => ?_, fun c => absurd c (by decide)⟩) (fun c => absurd hx c)
  rw [nI_clamp (by omega)]
  rcases hB b hb with ⟨q1, q2⟩ | ⟨d, hN, hC⟩
  · have z : (fI (X (6 + b)) 6).toInt = 0 := by rw [q1]; rfl
    refine ⟨hx, ⟨by omega, by omega⟩, s8_missingCell _ _ _ (fun w => by omega) (fun _ r hr => ⟨fun c => absurd c (ne_0 hr), fun _ => s8_refuse _ _ _ _ (fun Z' _ => ?_)⟩)⟩
    unfold w9_farthest
    exact x9_asked0 hb _ _ _ q2 _ (fun S' hF => ⟨fun c => absurd c (by decide), fun _ => h _ _ _ _ (g0 hF (by decide) (by decide) (by decide) (by decide))⟩)
  have h24 := hN.2
  have et := bc_tot h24 hC
  refine ⟨hx, ⟨by omega, by omega⟩, s8_missingCell _ _ _ (fun wp => ⟨fun _ => ?_, fun c => absurd rfl c⟩) (fun wp r hr => ⟨fun c => absurd c (ne_0 hr), fun _ => s8_refuse _ _ _ _ (fun Z' _ => ?_)⟩)⟩
  rotate_left
  · rw [et] at wp
    unfold w9_farthest
    exact x9_asked hb _ _ S hN _ (fun hy => absurd hy.1 wp) (fun _ S' hF => ⟨fun c => absurd c (by decide), fun _ => h _ _ _ _ (g0 hF (by decide) (by decide) (by decide) (by decide))⟩)
  rw [et] at wp
  obtain ⟨sp, lp', hsp, hlp, rfl⟩ := cell_at h24 wp
  unfold w8_farthest_b39
  refine lp_up (tot d) (fun z => z.2.2.1) (fun k z => G8 X z.2.2.2 ∧ FM (RF d sp lp') k z.1 z.2.1) (by omega) ?_ (Nat.zero_le _) (rfl : (0 : Int32) = nI 0) (by exact ⟨g8_rf h8, rfl, rfl⟩)
  rintro K ⟨a1, a2, y, X1⟩ k hk hcc ⟨hG, hm⟩ hK
  try dsimp only at hcc hG hm hK
  subst hcc
  have hX1 : X1 (6 + b) = X (6 + b) := hG.2 (6 + b) (by omega) (by omega)
  unfold w8_farthest_F39 w8_farthest_d39
  try dsimp only
  rw [nI_clamp (by omega), hX1, hC.2.1]
  refine ⟨hx, ⟨by omega, by omega⟩, fun c => ?_, fun c => ?_⟩
  rotate_left
  · have hlt := nI_go (by omega) hk c
    obtain ⟨s, l, h1, h2, h3⟩ := loc_ex (d := d) (c := k) 6 (by rw [pre_6]; exact hlt)
    subst h3
    refine x7_shortest h24 (bx_d hN) hC hsp hlp h1 h2 _ _ (fun v S' hv => ?_)
    rintro _ rfl
    have hG2 := g8_tr hG (g8_free (k := 17) hG.1 S' (by omega))
    unfold w8_farthest_b86
    refine ⟨fun cv => ?_, fun cv => ?_⟩
    · rintro _ rfl
      exact hK (_, _, _, _) hlt (nI_1 _) ⟨hG2, a1, a2, v, hm, ⟨s, l, h1, h2, rfl, hv⟩, Or.inl ⟨cv, rfl, rfl⟩⟩
    · rintro _ rfl
      exact hK (_, _, _, _) hlt (nI_1 _) ⟨hG2, a1, a2, v, hm, ⟨s, l, h1, h2, rfl, hv⟩, Or.inr ⟨cv, rfl, rfl⟩⟩
  have ek := nI_end (by omega) hk c
  rw [ek] at hm
  clear hK hk c
  rintro _ rfl
  unfold w9_farthest
  refine x9_asked hb _ _ S hN _ (fun _ => ⟨fun _ => ?_, fun c => absurd r0_pos c⟩) (fun hno => absurd ⟨wp, wp⟩ hno)
  unfold w9_farthest_b23
  refine lp_up (tot d) (fun z => z.2.2.1) (fun k z => Fr [2, 8, 9, 10, 11, 17, 18, 19, 20, 21, 22, 23, 24] S z.2.2.2 ∧ FM (RF d sp lp') k z.1 z.2.1) (by omega) ?_ (Nat.zero_le _) (rfl : (0 : Int32) = nI 0) (by exact ⟨fr_rf, rfl, rfl⟩)
  rintro K2 ⟨b1, b2, y, S1⟩ k2 hk2 hcc ⟨hF, hm2⟩ hK2
  try dsimp only at hcc hF hm2 hK2
  subst hcc
  have hN1 : BoxN S1 b d := boxN_fr hF (by decide) hN
  unfold w9_farthest_F23 w9_farthest_d23 w9_ask
  try dsimp only
  refine s9_cells hb _ _ ?_
  rw [cls_N hN1]
  refine ⟨fun c => ?_, fun c => ?_⟩
  · have ek2 := nI_end (by omega) hk2 c
    rw [ek2] at hm2
    rintro _ rfl
    rw [(fm_one (R := RF d sp lp') (fun _ _ _ a b => rf_one a b) _ hm2 hm).1]
    exact h _ _ _ _ (nx_g hR hG (g9_sh h9 (fr_tr hF (fr_sJ (by decide)))))
  have hlt := nI_go (by omega) hk2 c
  obtain ⟨s, l, h1, h2, h3⟩ := loc_ex (d := d) (c := k2) 6 (by rw [pre_6]; exact hlt)
  subst h3
  refine x9_shortOf hb S1 hN1 hsp hlp h1 h2 _ (fun v S2 hF2 hv => ?_)
  have hF3 : Fr [2, 8, 9, 10, 11, 17, 18, 19, 20, 21, 22, 23, 24] S S2 := fr_tr hF (fr_mono hF2 (by decide))
  unfold w9_farthest_b57 w9_farthest_b73
  refine ⟨fun cv => ⟨fun _ => ?_, fun c2 => absurd cv c2⟩, fun cv => ⟨fun c2 => absurd c2 cv, fun _ => ?_⟩⟩
  · rintro _ rfl
    exact hK2 (_, _, _, _) hlt (nI_1 _) ⟨hF3, b1, b2, v, hm2, ⟨s, l, h1, h2, rfl, hv⟩, Or.inl ⟨cv, rfl, rfl⟩⟩
  · rintro _ rfl
    exact hK2 (_, _, _, _) hlt (nI_1 _) ⟨hF3, b1, b2, v, hm2, ⟨s, l, h1, h2, rfl, hv⟩, Or.inr ⟨cv, rfl, rfl⟩⟩
theorem tot_6 {S : MS} {b : Nat} {d : Nat → Nat} (hB : BoxN S b d) : 6 ≤ tot d := by
  have a0 := (hB.1 0 (by decide)).1
  have a1 := (hB.1 1 (by decide)).1
  have a2 := (hB.1 2 (by decide)).1
  have b1 := Nat.mul_le_mul a0 a1
  have b2 := Nat.mul_le_mul a1 a2
  have b3 := Nat.mul_le_mul a2 a0
  unfold tot
  omega
theorem e_mean (x p : Int32) (Z : MS) (X : Nat → MS) (S : MS) (h8 : Inv8 X) (h9 : Inv9 S) (hR : RR X S) (hB : BB X S) (P : Int32 → Int32 → MS → (Nat → MS) → MS → Prop) (h : ∀ v Z' X' S', Nx X X' S S' → P v v Z' X' S') : w8_mean x p Z X (fun r1 Z2 X3 => w9_mean x p S (fun r4 S5 => P r1 r4 Z2 X3 S5)) := by
  have g0 : ∀ {ks S'}, Fr ks S S' → 3 ∉ ks → 7 ∉ ks → 40 ∉ ks → 41 ∉ ks → Nx X X S S' := fun hF h3 h7 h40 h41 => nx_g hR (g8_rf h8) (g9_fr h9 hF h3 h7 h40 h41)
  by_cases hx : vp_in x 4
  rotate_left
  · unfold w8_mean
    refine s8_isBox _ _ (fun c => absurd c hx) (fun _ => ⟨fun c => absurd rfl c, fun _ => ?_⟩)
    unfold w9_mean
    exact x9_askedB hx _ _ ⟨fun c => absurd c (by decide), fun _ => h _ _ _ _ (nx_rf h8 h9 hR)⟩
  obtain ⟨b, hb, rfl⟩ := vp_in_of hx (by decide)
  unfold w8_mean
  refine s8_isBox _ _ (fun _ => ⟨fun _ => ?_, fun c => absurd c (by decide)⟩) (fun c => absurd hx c)
  rw [nI_clamp (by omega)]
  rcases hB b hb with ⟨q1, q2⟩ | ⟨d, hN, hC⟩
  · have z : (fI (X (6 + b)) 6).toInt = 0 := by rw [q1]; rfl
    refine ⟨hx, ⟨by omega, by omega⟩, s8_missingCell _ _ _ (fun w => by omega) (fun _ r hr => ⟨fun c => absurd c (ne_0 hr), fun _ => s8_refuse _ _ _ _ (fun Z' _ => ?_)⟩)⟩
    unfold w9_mean
    exact x9_asked0 hb _ _ _ q2 _ (fun S' hF => ⟨fun c => absurd c (by decide), fun _ => h _ _ _ _ (g0 hF (by decide) (by decide) (by decide) (by decide))⟩)
  have h24 := hN.2
  have h6 := tot_6 hN
  have et := bc_tot h24 hC
  refine ⟨hx, ⟨by omega, by omega⟩, s8_missingCell _ _ _ (fun wp => ⟨fun _ => ?_, fun c => absurd rfl c⟩) (fun wp r hr => ⟨fun c => absurd c (ne_0 hr), fun _ => s8_refuse _ _ _ _ (fun Z' _ => ?_)⟩)⟩
  rotate_left
  · rw [et] at wp
    unfold w9_mean
    exact x9_asked hb _ _ S hN _ (fun hy => absurd hy.1 wp) (fun _ S' hF => ⟨fun c => absurd c (by decide), fun _ => h _ _ _ _ (g0 hF (by decide) (by decide) (by decide) (by decide))⟩)
  rw [et] at wp
  obtain ⟨sp, lp', hsp, hlp, rfl⟩ := cell_at h24 wp
  unfold w8_mean_b36
  refine lp_up (tot d) (fun z => z.2.1) (fun k z => G8 X z.2.2 ∧ SMf (RF d sp lp') k z.1) (by omega) ?_ (Nat.zero_le _) (rfl : (0 : Int32) = nI 0) (by exact ⟨g8_rf h8, rfl⟩)
  rintro K ⟨a1, y, X1⟩ k hk hcc ⟨hG, hm⟩ hK
  try dsimp only at hcc hG hm hK
  subst hcc
  have hX1 : X1 (6 + b) = X (6 + b) := hG.2 (6 + b) (by omega) (by omega)
  unfold w8_mean_F36 w8_mean_d36 w8_mean_b104
  try dsimp only
  rw [nI_clamp (by omega), hX1, hC.2.1]
  refine ⟨hx, ⟨by omega, by omega⟩, fun c => ?_, fun c => ?_⟩
  rotate_left
  · have hlt := nI_go (by omega) hk c
    obtain ⟨s, l, h1, h2, h3⟩ := loc_ex (d := d) (c := k) 6 (by rw [pre_6]; exact hlt)
    subst h3
    refine x7_shortest h24 (bx_d hN) hC hsp hlp h1 h2 _ _ (fun v S' hv => ?_)
    rintro _ rfl _ rfl _ rfl
    exact hK (_, _, _) hlt (nI_1 _) ⟨g8_tr hG (g8_free (k := 17) hG.1 S' (by omega)), a1, v, hm, ⟨s, l, h1, h2, rfl, hv⟩, rfl⟩
  have ek := nI_end (by omega) hk c
  rw [ek] at hm
  clear hK hk c
  rw [show nI (tot d) - (1 : Int32) = nI (tot d - 1) from pk_sub (b := 1) (by omega)]
  rintro _ rfl
  refine ⟨fun c => absurd ((pi_le _ _).mp c) ?_, fun _ => ⟨nI_ne0 (by omega) (by omega), ?_⟩⟩
  · rw [nI_toInt (by omega), show (0 : Int32).toInt = 0 from rfl]; omega
  unfold w9_mean
  refine x9_asked hb _ _ S hN _ (fun _ => ⟨fun _ => ?_, fun c => absurd r0_pos c⟩) (fun hno => absurd ⟨wp, wp⟩ hno)
  unfold w9_mean_b20
  refine lp_up (tot d) (fun z => z.2.1) (fun k z => Fr [2, 8, 9, 10, 11, 17, 18, 19, 20, 21, 22, 23, 24] S z.2.2 ∧ SMf (RF d sp lp') k z.1) (by omega) ?_ (Nat.zero_le _) (rfl : (0 : Int32) = nI 0) (by exact ⟨fr_rf, rfl⟩)
  rintro K2 ⟨b1, y, S1⟩ k2 hk2 hcc ⟨hF, hm2⟩ hK2
  try dsimp only at hcc hF hm2 hK2
  subst hcc
  have hN1 : BoxN S1 b d := boxN_fr hF (by decide) hN
  unfold w9_mean_F20 w9_mean_d20
  try dsimp only
  refine s9_cells hb _ _ ?_
  rw [cls_N hN1]
  refine ⟨fun c => s9_cells hb _ _ ?_, fun c => ?_⟩
  · have ek2 := nI_end (by omega) hk2 c
    rw [ek2] at hm2
    rw [cls_N hN1, show nI (tot d) - (1 : Int32) = nI (tot d - 1) from pk_sub (b := 1) (by omega), sm_one (R := RF d sp lp') (fun _ _ _ a b => rf_one a b) _ hm2 hm]
    exact ⟨nI_ne0 (by omega) (by omega), h _ _ _ _ (nx_g hR hG (g9_sh h9 hF))⟩
  have hlt := nI_go (by omega) hk2 c
  obtain ⟨s, l, h1, h2, h3⟩ := loc_ex (d := d) (c := k2) 6 (by rw [pre_6]; exact hlt)
  subst h3
  refine x9_shortOf hb S1 hN1 hsp hlp h1 h2 _ (fun v S2 hF2 hv => ?_)
  rintro _ rfl _ rfl
  exact hK2 (_, _, _) hlt (nI_1 _) ⟨fr_tr hF (fr_mono hF2 (by decide)), b1, v, hm2, ⟨s, l, h1, h2, rfl, hv⟩, rfl⟩

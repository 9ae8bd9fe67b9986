/-! ===== pure: how often a figure is whole: turned figures as often ===== -/
theorem iso_cn' {m : Bool} {φ : Nat → Nat} {x y : Int64} (h : Iso m φ x y) (hc : Cn (bt y)) : Cn (bt x) := by
  obtain ⟨h1, h2, h3, h4, h5⟩ := h
  intro R hex hcl q hq
  obtain ⟨p, hp, hR⟩ := hex
  have tw : ∀ w, w < 4 → ∃ v, v < 4 ∧ tau m v = w := by
    intro w hw
    cases m
    · exact ⟨(w + 3) % 4, by omega, by show ((w + 3) % 4 + 1) % 4 = w; omega⟩
    · exact ⟨(6 - w) % 4, by omega, by show (6 - (6 - w) % 4) % 4 = w; omega⟩
  obtain ⟨j, hj, ej, hRj⟩ := hc (fun i => ∃ j, bt x j = true ∧ φ j = i ∧ R j) ⟨φ p, h1 p hp, p, hp, rfl, hR⟩ (fun i w hw hi ⟨j, hj, ej, hRj⟩ hn => by
    obtain ⟨v, hv, ev⟩ := tw w hw
    rw [← ej, ← ev] at hn ⊢
    rw [h4 j v hv hj] at hn
    exact ⟨bs j v, hn, h5 j v hv hj hn, hcl j v hv hj hRj hn⟩) (φ q) (h1 q hq)
  rw [← h3 j q hj hq ej]
  exact hRj
/-- a symmetry of the frames of a box -/
def Sy (d g : Nat → Nat) (m : Bool) (ρ : Nat → Nat) : Prop := (∀ f, f < 4 * tot d → ρ f < 4 * tot d) ∧ (∀ f, f < 4 * tot d → ∃ f', f' < 4 * tot d ∧ ρ f' = f) ∧ (∀ f f', f < 4 * tot d → f' < 4 * tot d → ρ f / 4 = ρ f' / 4 → f / 4 = f' / 4) ∧ (∀ f f', f < 4 * tot d → f' < 4 * tot d → ρ f = ρ f' → f = f') ∧ (∀ f f', f < 4 * tot d → f' < 4 * tot d → f / 4 = f' / 4 → ρ f / 4 = ρ f' / 4) ∧ (∀ f w, f < 4 * tot d → w < 4 → led g (ρ f) (tau m w) = ρ (led g f w))
theorem sy_rot (d g : Nat → Nat) : Sy d g false (fun f => 4 * (f / 4) + (f % 4 + 3) % 4) := by
  refine ⟨fun f hf => by (try dsimp only); omega, fun f hf => ⟨4 * (f / 4) + (f % 4 + 1) % 4, by omega, by (try dsimp only); omega⟩, fun f f' _ _ e => by (try dsimp only at e); omega, fun f f' _ _ e => by (try dsimp only at e); omega, fun f f' _ _ e => by (try dsimp only); omega, fun f w hf hw => ?_⟩
  try dsimp only
  unfold led
  rw [show tau false w = (w + 1) % 4 from rfl, show (4 * (f / 4) + (f % 4 + 3) % 4) / 4 = f / 4 by omega, show (4 * (f / 4) + (f % 4 + 3) % 4) % 4 = (f % 4 + 3) % 4 by omega, show ((w + 1) % 4 + (f % 4 + 3) % 4) % 4 = (w + f % 4) % 4 by omega]
  generalize g (4 * (f / 4) + (w + f % 4) % 4) = v
  omega
/-! the box seen in a mirror that stands across x -/
def sgm (e : Nat) : Nat := if e / 2 = 0 then e ^^^ 1 else e
theorem sgm_ok : ∀ e, e < 6 → sgm e < 6 ∧ sgm e / 2 = e / 2 ∧ sgm (sgm e) = e ∧ sgm (e ^^^ 1) = sgm e ^^^ 1 ∧ (e / 2 = 0 → sgm e % 2 = 1 - e % 2) ∧ (¬ e / 2 = 0 → sgm e = e) := by decide +kernel
theorem sgm_fr : ∀ s, s < 6 → ∀ t, t < 4 → tuN (sgm s) (sgm (frm s t).2) < 4 ∧ (frm (sgm s) (tuN (sgm s) (sgm (frm s t).2))).1 = sgm (frm s t).1 ^^^ 1 ∧ (frm (sgm s) (tuN (sgm s) (sgm (frm s t).2))).2 = sgm (frm s t).2 ∧ tuN s (frm s t).2 = t := by decide +kernel
theorem tu_fr : ∀ s, s < 6 → ∀ u, u < 6 → ¬ u / 2 = s / 2 → tuN s u < 4 ∧ (frm s (tuN s u)).2 = u := by decide +kernel
theorem x1_x2 : ∀ a, a < 6 → (a ^^^ 1) ^^^ 1 = a := by decide +kernel
theorem dir_sg {r u w : Nat} (hr : r < 6) (hu : u < 6) (hw : w < 4) : dirN (sgm r ^^^ 1) (sgm u) (tau true w) = sgm (dirN r u w) := by
  have a := (sgm_ok r hr).2.2.2.1
  have b := (sgm_ok u hu).2.2.2.1
  have c := x1_x2 (sgm r) (sgm_ok r hr).1
  rcases (show w = 0 ∨ w = 1 ∨ w = 2 ∨ w = 3 by omega) with rfl | rfl | rfl | rfl
  · show (sgm r ^^^ 1) ^^^ 1 = sgm r
    exact c
  · rfl
  · show sgm r ^^^ 1 = sgm (r ^^^ 1)
    exact a.symm
  · show sgm u ^^^ 1 = sgm (u ^^^ 1)
    exact b.symm
def PM (d p p' : Nat → Nat) : Prop := p' 0 = 2 * d 0 - p 0 ∧ p' 1 = p 1 ∧ p' 2 = p 2
theorem pm_j {d p p' : Nat → Nat} (h : PM d p p') {j : Nat} (hj : j < 3) : (j = 0 → p' j = 2 * d j - p j) ∧ (¬ j = 0 → p' j = p j) := by
  obtain ⟨h0, h1, h2⟩ := h
  rcases (show j = 0 ∨ j = 1 ∨ j = 2 by omega) with rfl | rfl | rfl
  · exact ⟨fun _ => h0, fun c => absurd rfl c⟩
  · exact ⟨fun c => absurd c (by decide), fun _ => h1⟩
  · exact ⟨fun c => absurd c (by decide), fun _ => h2⟩
theorem ins_sg {d p p' : Nat → Nat} {s e : Nat} (hO : Ok d s p) (he : e < 6) (hne : ¬ e / 2 = s / 2) (h : PM d p p') : insN d p' (sgm e) = insN d p e := by
  obtain ⟨a1, a2, a3, a4, a5, a6⟩ := sgm_ok e he
  have hp := hO.1 (e / 2) (by omega) hne
  obtain ⟨q1, q2⟩ := pm_j h (show e / 2 < 3 by omega)
  unfold insN
  rw [a2]
  by_cases c : e / 2 = 0
  · have c5 := a5 c
    rw [q1 c]
    by_cases c2 : e % 2 = 0
    · rw [if_neg (by omega), if_pos c2]
      exact decide_eq_decide.mpr (by omega)
    · rw [if_pos (by omega), if_neg c2]
      exact decide_eq_decide.mpr (by omega)
  · rw [a6 c, q2 c]
theorem go_sg {d p p' : Nat → Nat} {s e : Nat} (hs : s < 6) (hO : Ok d s p) (he : e < 6) (hne : ¬ e / 2 = s / 2) (hd : ∀ j, j < 3 → 1 ≤ d j) (h : PM d p p') : PM d (goP d p s e) (goP d p' (sgm s) (sgm e)) ∧ goS d p' (sgm s) (sgm e) = sgm (goS d p s e) := by
  have hi := ins_sg hO he hne h
  obtain ⟨a1, a2, a3, a4, a5, a6⟩ := sgm_ok e he
  obtain ⟨b1, b2, b3, b4, b5, b6⟩ := sgm_ok s hs
  have hp := hO.1 (e / 2) (by omega) hne
  have hps := hO.2
  have hds := hd (s / 2) (by omega)
  obtain ⟨q1, q2⟩ := pm_j h (show e / 2 < 3 by omega)
  obtain ⟨r1, r2⟩ := pm_j h (show s / 2 < 3 by omega)
  have key : ∀ j, j < 3 → (j = 0 → goP d p' (sgm s) (sgm e) j = 2 * d j - goP d p s e j) ∧ (¬ j = 0 → goP d p' (sgm s) (sgm e) j = goP d p s e j) := by
    intro j hj
    obtain ⟨j1, j2⟩ := pm_j h hj
    have hpj : ¬ j = s / 2 → p j < 2 * d j := fun c => (hO.1 j hj c).2
    unfold goP
    rw [hi, a2, b2]
    by_cases c : insN d p e = true
    · rw [if_pos c, if_pos c]
      unfold insN at c
      unfold updN
      by_cases cj : j = e / 2
      · rw [if_pos cj, if_pos cj, ← cj]
        rw [← cj] at c hp a5 a6
        by_cases c0 : j = 0
        · have c5 := a5 c0
          rw [j1 c0]
          refine ⟨fun _ => ?_, fun q => absurd c0 q⟩
          by_cases ce : e % 2 = 0
          · rw [if_pos ce] at c
            have := of_decide_eq_true c
            rw [if_neg (by omega), if_pos ce]; omega
          · rw [if_neg ce] at c
            have := of_decide_eq_true c
            rw [if_pos (by omega), if_neg ce]; omega
        · rw [a6 c0, j2 c0]
          exact ⟨fun q => absurd q c0, fun _ => rfl⟩
      · rw [if_neg cj, if_neg cj]
        exact ⟨j1, j2⟩
    · rw [if_neg c, if_neg c]
      unfold updN
      by_cases cs : j = s / 2
      · rw [if_pos cs, if_pos cs, ← cs]
        rw [← cs] at hps b5 b6 hds
        by_cases c0 : j = 0
        · have c5 := b5 c0
          rw [j1 c0]
          refine ⟨fun _ => ?_, fun q => absurd c0 q⟩
          by_cases ce : s % 2 = 0
          · rw [if_pos ce] at hps
            rw [if_neg (by omega), if_pos ce]; omega
          · rw [if_neg ce] at hps
            rw [if_pos (by omega), if_neg ce]; omega
        · rw [b6 c0, j2 c0]
          exact ⟨fun q => absurd q c0, fun _ => rfl⟩
      · rw [if_neg cs, if_neg cs]
        by_cases cj : j = e / 2
        · rw [if_pos cj, if_pos cj, ← cj]
          rw [← cj] at hp a5 a6
          by_cases c0 : j = 0
          · have c5 := a5 c0
            rw [j1 c0]
            refine ⟨fun _ => ?_, fun q => absurd c0 q⟩
            by_cases ce : e % 2 = 0
            · rw [if_neg (by omega), if_pos ce]; omega
            · rw [if_pos (by omega), if_neg ce]; omega
          · rw [a6 c0, j2 c0]
            exact ⟨fun q => absurd q c0, fun _ => rfl⟩
        · rw [if_neg cj, if_neg cj]
          exact ⟨j1, j2⟩
  refine ⟨⟨(key 0 (by decide)).1 rfl, (key 1 (by decide)).2 (by decide), (key 2 (by decide)).2 (by decide)⟩, ?_⟩
  unfold goS
  rw [hi]
  by_cases c : insN d p e = true
  · rw [if_pos c, if_pos c]
  · rw [if_neg c, if_neg c, a4]
/-- a place on a side has a number there -/
theorem at_cell {d p : Nat → Nat} {s : Nat} (hs : s < 6) (hO : Ok d s p) : ∃ l, l < sz d s ∧ cellOf d s p = pre d s + l ∧ ∀ j, j < 3 → posOf d s l j = p j := by
  have ha := ax_lt (s / 2) (by omega)
  have h1 := hO.1 (ax1 (s / 2)) ha.1 ha.2.2.1
  have h2 := hO.1 (ax2 (s / 2)) ha.2.1 ha.2.2.2.1
  have hlt : p (ax1 (s / 2)) / 2 * d (ax2 (s / 2)) + p (ax2 (s / 2)) / 2 < sz d s := by
    unfold sz
    have : (p (ax1 (s / 2)) / 2 + 1) * d (ax2 (s / 2)) ≤ d (ax1 (s / 2)) * d (ax2 (s / 2)) := Nat.mul_le_mul_right _ (by omega)
    rw [Nat.add_mul, Nat.one_mul] at this
    omega
  refine ⟨p (ax1 (s / 2)) / 2 * d (ax2 (s / 2)) + p (ax2 (s / 2)) / 2, hlt, by unfold cellOf; omega, fun j hj => ?_⟩
  obtain ⟨q1, q2, q3⟩ := pos_at (d := d) (s := s) (i := p (ax1 (s / 2)) / 2) (j := p (ax2 (s / 2)) / 2) hs (by omega)
  by_cases c1 : j = s / 2
  · rw [c1, q1, hO.2]
  · by_cases c2 : j = ax1 (s / 2)
    · rw [c2, q2]; omega
    · have c3 := ax_3 (s / 2) (by omega) j hj c1 c2
      rw [c3, q3]; omega
theorem pm_ok {d p p' : Nat → Nat} {s : Nat} (hs : s < 6) (hO : Ok d s p) (h : PM d p p') : Ok d (sgm s) p' := by
  obtain ⟨b1, b2, b3, b4, b5, b6⟩ := sgm_ok s hs
  refine ⟨fun j hj hne => ?_, ?_⟩
  · rw [b2] at hne
    have := hO.1 j hj hne
    obtain ⟨j1, j2⟩ := pm_j h hj
    by_cases c : j = 0
    · rw [j1 c]; omega
    · rw [j2 c]; exact this
  · rw [b2]
    obtain ⟨j1, j2⟩ := pm_j h (show s / 2 < 3 by omega)
    have := hO.2
    by_cases c : s / 2 = 0
    · rw [j1 c, this]
      have := b5 c
      by_cases e : s % 2 = 0
      · rw [if_pos e, if_neg (by omega)]; omega
      · rw [if_neg e, if_pos (by omega)]; omega
    · rw [j2 c, b6 c]; exact this
theorem pm_ex (d p : Nat → Nat) : PM d p (fun j => if j = 0 then 2 * d 0 - p 0 else p j) := ⟨rfl, rfl, rfl⟩
theorem pm_cong {d p p' q q' : Nat → Nat} (h : PM d p p') (e : ∀ j, j < 3 → q j = p j) (e' : ∀ j, j < 3 → q' j = p' j) : PM d q q' := by
  obtain ⟨h0, h1, h2⟩ := h
  unfold PM
  rw [e 0 (by decide), e 1 (by decide), e 2 (by decide), e' 0 (by decide), e' 1 (by decide), e' 2 (by decide)]
  exact ⟨h0, h1, h2⟩
/-- a frame and its image -/
def Mir (d : Nat → Nat) (f f' : Nat) : Prop := ∃ s l t l', s < 6 ∧ l < sz d s ∧ t < 4 ∧ f = 4 * (pre d s + l) + t ∧ l' < sz d (sgm s) ∧ PM d (posOf d s l) (posOf d (sgm s) l') ∧ f' = 4 * (pre d (sgm s) + l') + tuN (sgm s) (sgm (frm s t).2)
theorem pos_l {d : Nat → Nat} {s l l' : Nat} (hs : s < 6) (hl : l < sz d s) (hl' : l' < sz d s) (h : ∀ j, j < 3 → posOf d s l j = posOf d s l' j) : l = l' := by
  have e1 := cell_pos (d := d) (l := l) hs
  have e2 := cell_pos (d := d) (l := l') hs
  have ha := ax_lt (s / 2) (by omega)
  unfold cellOf at e1 e2
  rw [h _ ha.1, h _ ha.2.1] at e1
  omega
theorem mir_ex {d : Nat → Nat} (hd : ∀ j, j < 3 → 1 ≤ d j) {f : Nat} (hf : f < 4 * tot d) : ∃ f', f' < 4 * tot d ∧ Mir d f f' := by
  obtain ⟨s, l, hs, hl, ec⟩ := loc_ex (d := d) (c := f / 4) 6 (by rw [pre_6]; omega)
  obtain ⟨b1, b2, b3, b4, b5, b6⟩ := sgm_ok s hs
  have hO := posOf_ok hs hd hl
  obtain ⟨l', hl', _, hp⟩ := at_cell b1 (pm_ok hs hO (pm_ex d (posOf d s l)))
  have h4 := (sgm_fr s hs (f % 4) (by omega)).1
  have hle := pre_le (d := d) b1
  exact ⟨4 * (pre d (sgm s) + l') + tuN (sgm s) (sgm (frm s (f % 4)).2), by omega, s, l, f % 4, l', hs, hl, by omega, by omega, hl', pm_cong (pm_ex d (posOf d s l)) (fun _ _ => rfl) hp, rfl⟩
theorem mir_fun {d : Nat → Nat} {f f' f2 : Nat} (h : Mir d f f') (h2 : Mir d f f2) : f' = f2 := by
  obtain ⟨s, l, t, l', hs, hl, ht, e, hl', hp, e'⟩ := h
  obtain ⟨s2, l2, t2, l2', hs2, hl2, ht2, e2, hl2', hp2, e2'⟩ := h2
  obtain ⟨rfl, rfl⟩ := pre_inj hl hl2 (show pre d s + l = pre d s2 + l2 by omega)
  have et : t = t2 := by omega
  subst et
  have hb := (sgm_ok s hs).1
  have el : l' = l2' := pos_l hb hl' hl2' (fun j hj => by
    obtain ⟨a1, a2⟩ := pm_j hp hj
    obtain ⟨c1, c2⟩ := pm_j hp2 hj
    by_cases c : j = 0
    · rw [a1 c, c1 c]
    · rw [a2 c, c2 c])
  rw [e', e2', el]
theorem mir_sy {d : Nat → Nat} (hd : ∀ j, j < 3 → 1 ≤ d j) {f f' : Nat} (h : Mir d f f') : Mir d f' f := by
  obtain ⟨s, l, t, l', hs, hl, ht, e, hl', hp, e'⟩ := h
  obtain ⟨b1, b2, b3, b4, b5, b6⟩ := sgm_ok s hs
  obtain ⟨g1, g2, g3, g4⟩ := sgm_fr s hs t ht
  have hO := posOf_ok hs hd hl
  have hu := (frm_ok s hs t ht).2.1
  refine ⟨sgm s, l', tuN (sgm s) (sgm (frm s t).2), l, b1, hl', g1, e', by rw [b3]; exact hl, ?_, ?_⟩
  · rw [b3]
    have h0 : posOf d s l 0 ≤ 2 * d 0 := by
      by_cases c : 0 = s / 2
      · have := hO.2
        rw [← c] at this
        rw [this]
        split <;> omega
      · have := (hO.1 0 (by decide) c).2; omega
    obtain ⟨p0, p1, p2⟩ := hp
    exact ⟨by rw [p0]; omega, p1.symm, p2.symm⟩
  · rw [b3, g3, (sgm_ok _ hu).2.2.1, g4]
    exact e
theorem led_is {d g : Nat → Nat} (hg : LdG d g) {s l t w : Nat} (hs : s < 6) (hl : l < sz d s) (ht : t < 4) (hw : w < 4) : led g (4 * (pre d s + l) + t) w = 4 * cellOf d (goS d (posOf d s l) s (dirN (frm s t).1 (frm s t).2 w)) (goP d (posOf d s l) s (dirN (frm s t).1 (frm s t).2 w)) + tuN (goS d (posOf d s l) s (dirN (frm s t).1 (frm s t).2 w)) (goU d (posOf d s l) s (frm s t).2 (dirN (frm s t).1 (frm s t).2 w) w) := by
  obtain ⟨h1, h2⟩ := step_ld (d := d) (l := l) hs ht hw
  rw [h1, h2]
  unfold led
  rw [show (4 * (pre d s + l) + t) / 4 = pre d s + l by omega, show (4 * (pre d s + l) + t) % 4 = t by omega, hg s l _ hs hl (by omega)]
theorem mir_led {d g : Nat → Nat} (hd : ∀ j, j < 3 → 1 ≤ d j) (hg : LdG d g) {f f' w : Nat} (hw : w < 4) (h : Mir d f f') : Mir d (led g f w) (led g f' (tau true w)) := by
  obtain ⟨s, l, t, l', hs, hl, ht, e, hl', hp, e'⟩ := h
  obtain ⟨b1, b2, b3, b4, b5, b6⟩ := sgm_ok s hs
  obtain ⟨g1, g2, g3, g4⟩ := sgm_fr s hs t ht
  have hO := posOf_ok hs hd hl
  have hfo := frm_O hs ht
  have hr := hfo.1
  have hu := hfo.2.1
  have hdo := dir_ok hfo hw
  have hle := led_is hg hs hl ht hw
  have hle' := led_is hg b1 hl' g1 (tau_lt true w)
  rw [← e] at hle
  rw [← e', g2, g3, dir_sg hr hu hw] at hle'
  obtain ⟨k1, k2, k3⟩ := go_ok hs hd hO hfo hw
  obtain ⟨m1, m2⟩ := go_sg hs hO hdo.1 hdo.2 hd hp
  have hi := ins_sg hO hdo.1 hdo.2 hp
  generalize hE : dirN (frm s t).1 (frm s t).2 w = ee at hdo hle hle' k1 k2 k3 m1 m2 hi
  have hU : goU d (posOf d (sgm s) l') (sgm s) (sgm (frm s t).2) (sgm ee) (tau true w) = sgm (goU d (posOf d s l) s (frm s t).2 ee w) := by
    unfold goU
    rw [hi]
    by_cases c : insN d (posOf d s l) ee = true
    · rw [if_pos c, if_pos c]
    · rw [if_neg c, if_neg c]
      rcases (show w = 0 ∨ w = 1 ∨ w = 2 ∨ w = 3 by omega) with rfl | rfl | rfl | rfl
      · rfl
      · rfl
      · rfl
      · exact b4.symm
  rw [m2, hU] at hle'
  obtain ⟨l2, hl2, ec2, hp2⟩ := at_cell k1 k2
  have kb := sgm_ok _ k1
  obtain ⟨l2', hl2', ec2', hp2'⟩ := at_cell kb.1 (pm_ok k1 k2 m1)
  have htu := tu_fr _ k1 _ k3.2.1 k3.2.2.2.1
  rw [ec2] at hle
  rw [ec2'] at hle'
  refine ⟨_, l2, _, l2', k1, hl2, htu.1, hle, hl2', pm_cong m1 hp2 hp2', ?_⟩
  rw [htu.2]
  exact hle'
theorem mir_cell {d : Nat → Nat} {f f' h h' : Nat} (a : Mir d f f') (b : Mir d h h') (e : f / 4 = h / 4) : f' / 4 = h' / 4 := by
  obtain ⟨s, l, t, l', hs, hl, ht, e1, hl', hp, e1'⟩ := a
  obtain ⟨s2, l2, t2, l2', hs2, hl2, ht2, e2, hl2', hp2, e2'⟩ := b
  obtain ⟨rfl, rfl⟩ := pre_inj hl hl2 (show pre d s + l = pre d s2 + l2 by omega)
  have hb := (sgm_ok s hs).1
  have el : l' = l2' := pos_l hb hl' hl2' (fun j hj => by
    obtain ⟨a1, a2⟩ := pm_j hp hj
    obtain ⟨c1, c2⟩ := pm_j hp2 hj
    by_cases c : j = 0
    · rw [a1 c, c1 c]
    · rw [a2 c, c2 c])
  have g1 := (sgm_fr s hs t ht).1
  have g2 := (sgm_fr s hs t2 ht2).1
  rw [e1', e2', el]
  omega
noncomputable def rho (d : Nat → Nat) (f : Nat) : Nat := @dite _ (∃ f', f' < 4 * tot d ∧ Mir d f f') (Classical.propDecidable _) (fun h => Classical.choose h) (fun _ => 0)
theorem rho_ok {d : Nat → Nat} (hd : ∀ j, j < 3 → 1 ≤ d j) {f : Nat} (hf : f < 4 * tot d) : rho d f < 4 * tot d ∧ Mir d f (rho d f) := by
  have h := mir_ex hd hf
  unfold rho
  rw [dif_pos h]
  exact Classical.choose_spec h
theorem sy_mir {d g : Nat → Nat} (hd : ∀ j, j < 3 → 1 ≤ d j) (hg : LdG d g) : Sy d g true (rho d) := by
  have ok := fun f hf => rho_ok (d := d) hd (f := f) hf
  have bk : ∀ f, f < 4 * tot d → rho d (rho d f) = f := fun f hf => mir_fun (ok _ (ok f hf).1).2 (mir_sy hd (ok f hf).2)
  refine ⟨fun f hf => (ok f hf).1, fun f hf => ⟨rho d f, (ok f hf).1, bk f hf⟩, fun f f' hf hf' e => ?_, fun f f' hf hf' e => ?_, fun f f' hf hf' e => mir_cell (ok f hf).2 (ok f' hf').2 e, fun f w hf hw => ?_⟩
  · exact mir_cell (mir_sy hd (ok f hf).2) (mir_sy hd (ok f' hf').2) e
  · rw [← bk f hf, ← bk f' hf', e]
  · exact mir_fun (mir_led hd hg hw (ok f hf).2) (ok _ (led_lt hd hg hf hw)).2
/-! foldings carried by a turning -/
theorem tau_on (m : Bool) {w : Nat} (hw : w < 4) : ∃ v, v < 4 ∧ tau m v = w := by
  cases m
  · exact ⟨(w + 3) % 4, by omega, by show ((w + 3) % 4 + 1) % 4 = w; omega⟩
  · exact ⟨(6 - w) % 4, by omega, by show (6 - (6 - w) % 4) % 4 = w; omega⟩
theorem fb_tr {d g : Nat → Nat} {m : Bool} {ψ ρ φ : Nat → Nat} {x y : Int64} {q0 f0 : Nat} (hI : Iso m ψ x y) (hS : Sy d g m ρ) (h : FB d g (bt x) q0 f0 φ) (q1 : Nat) : ∃ φ', (∀ j, bt x j = true → φ' (ψ j) = ρ (φ j)) ∧ FB d g (bt y) q1 (φ' q1) φ' := by
  obtain ⟨i1, i2, i3, i4, i5⟩ := hI
  obtain ⟨_, hlt, hst, hinj⟩ := h
  have hv : ∀ j, bt x j = true → (@dite _ (∃ k, bt x k = true ∧ ψ k = ψ j) (Classical.propDecidable _) (fun h => ρ (φ (Classical.choose h))) (fun _ => 0)) = ρ (φ j) := by
    intro j hj
    have he : ∃ k, bt x k = true ∧ ψ k = ψ j := ⟨j, hj, rfl⟩
    rw [dif_pos he]
    have hc := Classical.choose_spec he
    rw [i3 _ _ hc.1 hj hc.2]
  obtain ⟨φ', hv⟩ : ∃ φ' : Nat → Nat, ∀ j, bt x j = true → φ' (ψ j) = ρ (φ j) := ⟨fun i => @dite _ (∃ k, bt x k = true ∧ ψ k = i) (Classical.propDecidable _) (fun h => ρ (φ (Classical.choose h))) (fun _ => 0), hv⟩
  refine ⟨φ', hv, rfl, fun q hq => ?_, fun q w hw hq hn => ?_, fun q q' hq hq' e => ?_⟩
  · obtain ⟨j, hj, rfl⟩ := i2 q hq
    rw [hv j hj]
    exact hS.1 _ (hlt j hj)
  · obtain ⟨j, hj, rfl⟩ := i2 q hq
    obtain ⟨v, hv4, rfl⟩ := tau_on m hw
    rw [i4 j v hv4 hj] at hn
    rw [← i5 j v hv4 hj hn, hv j hj, hv _ hn, hst j v hv4 hj hn, hS.2.2.2.2.2 _ _ (hlt j hj) hv4]
  · obtain ⟨j, hj, rfl⟩ := i2 q hq
    obtain ⟨j', hj', rfl⟩ := i2 q' hq'
    rw [hv j hj, hv j' hj'] at e
    rw [hinj j j' hj hj' (hS.2.2.1 _ _ (hlt j hj) (hlt j' hj') e)]
theorem fb_bk {d g : Nat → Nat} {m : Bool} {ψ ρ φ : Nat → Nat} {x y : Int64} {q1 f1 : Nat} (hd : ∀ j, j < 3 → 1 ≤ d j) (hg : LdG d g) (hI : Iso m ψ x y) (hS : Sy d g m ρ) (h : FB d g (bt y) q1 f1 φ) (q0 : Nat) : ∃ φ', (∀ j, bt x j = true → ρ (φ' j) = φ (ψ j)) ∧ FB d g (bt x) q0 (φ' q0) φ' := by
  obtain ⟨i1, i2, i3, i4, i5⟩ := hI
  obtain ⟨_, hlt, hst, hinj⟩ := h
  have hv : ∀ j, bt x j = true → (@dite _ (∃ f, f < 4 * tot d ∧ ρ f = φ (ψ j)) (Classical.propDecidable _) (fun h => Classical.choose h) (fun _ => 0)) < 4 * tot d ∧ ρ (@dite _ (∃ f, f < 4 * tot d ∧ ρ f = φ (ψ j)) (Classical.propDecidable _) (fun h => Classical.choose h) (fun _ => 0)) = φ (ψ j) := by
    intro j hj
    have he := hS.2.1 _ (hlt _ (i1 j hj))
    rw [dif_pos he]
    exact Classical.choose_spec he
  obtain ⟨φ', hv⟩ : ∃ φ' : Nat → Nat, ∀ j, bt x j = true → φ' j < 4 * tot d ∧ ρ (φ' j) = φ (ψ j) := ⟨fun j => @dite _ (∃ f, f < 4 * tot d ∧ ρ f = φ (ψ j)) (Classical.propDecidable _) (fun h => Classical.choose h) (fun _ => 0), hv⟩
  refine ⟨φ', fun j hj => (hv j hj).2, rfl, fun q hq => (hv q hq).1, fun q w hw hq hn => ?_, fun q q' hq hq' e => ?_⟩
  · refine hS.2.2.2.1 _ _ (hv _ hn).1 (led_lt hd hg (hv q hq).1 hw) ?_
    rw [(hv _ hn).2, ← hS.2.2.2.2.2 _ _ (hv q hq).1 hw, (hv q hq).2, i5 q w hw hq hn]
    exact hst (ψ q) (tau m w) (tau_lt m w) (i1 q hq) (by rw [i4 q w hw hq]; exact hn)
  · refine i3 q q' hq hq' (hinj _ _ (i1 q hq) (i1 q' hq') ?_)
    rw [← (hv q hq).2, ← (hv q' hq').2]
    exact hS.2.2.2.2.1 _ _ (hv q hq).1 (hv q' hq').1 e
theorem fb_un {d g : Nat → Nat} {x : Int64} {q0 f0 q1 f1 p : Nat} {φ φ' : Nat → Nat} (hc : Cn (bt x)) (h : FB d g (bt x) q0 f0 φ) (h' : FB d g (bt x) q1 f1 φ') (hp : bt x p = true) (e : φ p = φ' p) : ∀ q, bt x q = true → φ q = φ' q :=
  hc (fun q => φ q = φ' q) ⟨p, hp, e⟩ (fun q w hw hq e hn => by rw [h.2.2.1 q w hw hq hn, h'.2.2.1 q w hw hq hn, e])
noncomputable def fit (d g : Nat → Nat) (x : Int64) (q0 : Nat) (f : Nat) : Bool := @decide (Fits d g (bt x) q0 f) (Classical.propDecidable _)
theorem fit_iff {d g : Nat → Nat} {x : Int64} {q0 f : Nat} : fit d g x q0 f = true ↔ Fits d g (bt x) q0 f := @decide_eq_true_iff _ (Classical.propDecidable _)
theorem fit_lt {d g : Nat → Nat} {x : Int64} {q0 f : Nat} (hq : bt x q0 = true) (h : Fits d g (bt x) q0 f) : f < 4 * tot d := by
  obtain ⟨φ, h1, h2, _⟩ := h
  rw [← h1]
  exact h2 q0 hq
theorem wn_iso {d g : Nat → Nat} {m : Bool} {ψ ρ : Nat → Nat} {x y : Int64} {q0 q1 : Nat} (hd : ∀ j, j < 3 → 1 ≤ d j) (hg : LdG d g) (hI : Iso m ψ x y) (hS : Sy d g m ρ) (hc : Cn (bt x)) (h0 : bt x q0 = true) (h1 : bt y q1 = true) : fb_ct (fit d g y q1) (4 * tot d) = fb_ct (fit d g x q0) (4 * tot d) := by
  obtain ⟨j1, hj1, ej1⟩ := hI.2.1 q1 h1
  rw [ct_sm, ct_sm]
  have hF : ∀ f, Fits d g (bt x) q0 f → ∀ φ, FB d g (bt x) q0 f φ → (@dite _ (∃ φ, FB d g (bt x) q0 f φ) (Classical.propDecidable _) (fun h => ρ (Classical.choose h j1)) (fun _ => 0)) = ρ (φ j1) := by
    intro f hf φ hφ
    have he : ∃ φ, FB d g (bt x) q0 f φ := ⟨φ, hφ⟩
    rw [dif_pos he]
    have hs := Classical.choose_spec he
    rw [fb_un hc hs hφ h0 (hs.1.trans hφ.1.symm) j1 hj1]
  refine sm_bij (fun f => @dite _ (∃ φ, FB d g (bt x) q0 f φ) (Classical.propDecidable _) (fun h => ρ (Classical.choose h j1)) (fun _ => 0)) (4 * tot d) (fun _ => 1) (fit d g x q0) (4 * tot d) (fit d g y q1) (fun f hf hp => ?_) (fun f f' hf hf' hp hp' e => ?_) (fun f' hf' hq => ?_)
  · rw [fit_iff] at hp
    obtain ⟨φ, hφ⟩ := id hp
    obtain ⟨φ', e', hφ'⟩ := fb_tr hI hS hφ q1
    try dsimp only
    rw [hF f hp φ hφ]
    have ev : φ' q1 = ρ (φ j1) := by rw [← ej1]; exact e' j1 hj1
    rw [← ev]
    exact ⟨hφ'.2.1 q1 h1, fit_iff.mpr ⟨φ', hφ'⟩⟩
  · rw [fit_iff] at hp hp'
    obtain ⟨φ, hφ⟩ := id hp
    obtain ⟨φ', hφ'⟩ := id hp'
    try dsimp only at e
    rw [hF f hp φ hφ, hF f' hp' φ' hφ'] at e
    have e1 := hS.2.2.2.1 _ _ (hφ.2.1 j1 hj1) (hφ'.2.1 j1 hj1) e
    have := fb_un hc hφ hφ' hj1 e1 q0 h0
    rw [← hφ.1, ← hφ'.1, this]
  · rw [fit_iff] at hq
    obtain ⟨φ', hφ'⟩ := hq
    obtain ⟨φ, e, hφ⟩ := fb_bk hd hg hI hS hφ' q0
    have hp : Fits d g (bt x) q0 (φ q0) := ⟨φ, hφ⟩
    refine ⟨φ q0, hφ.2.1 q0 h0, fit_iff.mpr hp, ?_⟩
    try dsimp only
    rw [hF _ hp φ hφ, e j1 hj1, ej1]
    exact hφ'.1
/-- as often whole, from any square of it -/
theorem sim_wn {d g : Nat → Nat} {x y : Int64} (hd : ∀ j, j < 3 → 1 ≤ d j) (hg : LdG d g) (h : Sim x y) : (Cn (bt x) ↔ Cn (bt y)) ∧ (Cn (bt x) → ∀ q0 q1, bt x q0 = true → bt y q1 = true → fb_ct (fit d g y q1) (4 * tot d) = fb_ct (fit d g x q0) (4 * tot d)) := by
  have own : ∀ a : Int64, Cn (bt a) → ∀ q0 q1, bt a q0 = true → bt a q1 = true → fb_ct (fit d g a q1) (4 * tot d) = fb_ct (fit d g a q0) (4 * tot d) := by
    intro a hc q0 q1 h0 h1
    obtain ⟨b, hb⟩ := tb_ex false (bt_ne h0)
    obtain ⟨ψ, hψ⟩ := tb_iso hb
    have e1 := wn_iso (q1 := ψ q0) hd hg hψ (sy_rot d g) hc h0 (hψ.1 q0 h0)
    have e2 := wn_iso (q1 := ψ q0) hd hg hψ (sy_rot d g) hc h1 (hψ.1 q0 h0)
    rw [← e1, ← e2]
  have key := h (fun a b => (a = 0 ↔ b = 0) ∧ (Cn (bt a) ↔ Cn (bt b)) ∧ (Cn (bt a) → ∀ q0 q1, bt a q0 = true → bt b q1 = true → fb_ct (fit d g b q1) (4 * tot d) = fb_ct (fit d g a q0) (4 * tot d))) (fun a => ⟨Iff.rfl, Iff.rfl, own a⟩) (fun a b e => ⟨e.1.symm, e.2.1.symm, fun hc q0 q1 h0 h1 => (e.2.2 (e.2.1.mpr hc) q1 q0 h1 h0).symm⟩) (fun a b c e f => ⟨e.1.trans f.1, e.2.1.trans f.2.1, fun hc q0 q1 h0 h1 => by
      obtain ⟨k, _, hk⟩ := bt_some (fun hb => bt_ne h0 (e.1.mpr hb))
      exact (f.2.2 (e.2.1.mp hc) k q1 hk h1).trans (e.2.2 hc q0 k h0 hk)⟩) (fun m a b e => by
      obtain ⟨ψ, hψ⟩ := tb_iso e
      refine ⟨⟨fun q => absurd q (tb_nz e), fun q => absurd q (tb_ne e)⟩, ⟨iso_cn hψ, iso_cn' hψ⟩, fun hc q0 q1 h0 h1 => ?_⟩
      cases m
      · exact wn_iso hd hg hψ (sy_rot d g) hc h0 h1
      · exact wn_iso hd hg hψ (sy_mir hd hg) hc h0 h1)
  exact key.2

/-! ===== pure: the boxes of the class, as they are built ===== -/
def Len (S : MS) (d : Nat → Nat) : Prop := ∀ j, j < 3 → aI S 0 j = nI (d j)
def Mid (S : MS) (d : Nat → Nat) (n : Nat) : Prop := ∀ s l, s < 6 → l < sz d s → pre d s + l < n → aI S 2 (pre d s + l) = nI s ∧ ∀ j, j < 3 → aI S 3 (3 * (pre d s + l) + j) = nI (posOf d s l j)
def Fst (S : MS) (d : Nat → Nat) (m : Nat) : Prop := ∀ s, s < m → aI S 1 s = nI (pre d s)
def NX (S : MS) (d : Nat → Nat) (n : Nat) : Prop := Len S d ∧ fI S 6 = nI n ∧ Mid S d n
theorem pre_inj {d : Nat → Nat} {s t l m : Nat} (hl : l < sz d s) (hm : m < sz d t) (e : pre d s + l = pre d t + m) : s = t ∧ l = m := by
  rcases Nat.lt_trichotomy s t with q | q | q
  · have := pre_mono d (s := s + 1) (t := t) q
    have e1 : pre d (s + 1) = pre d s + sz d s := rfl
    omega
  · subst q; omega
  · have := pre_mono d (s := t + 1) (t := s) q
    have e1 : pre d (t + 1) = pre d t + sz d t := rfl
    omega
theorem loc_ex {d : Nat → Nat} {c : Nat} : ∀ m, c < pre d m → ∃ s l, s < m ∧ l < sz d s ∧ c = pre d s + l
  | 0, h => absurd h (Nat.not_lt_zero c)
  | m + 1, h => by
    by_cases q : c < pre d m
    · obtain ⟨s, l, h1, h2, h3⟩ := loc_ex m q
      exact ⟨s, l, by omega, h2, h3⟩
    · have e1 : pre d (m + 1) = pre d m + sz d m := rfl
      exact ⟨m, c - pre d m, by omega, by omega, by omega⟩
theorem and_1 {n : Nat} (h : n < 2 ^ 31) : nI n &&& (1 : Int32) = nI (n % 2) := pk_andN (by omega) 1 (by decide)
theorem i_0 {n : Nat} (h : n < 2 ^ 31) : nI n = 0 ↔ n = 0 := nI_eq (b := 0) h (by decide)
theorem x1_endAt {s : Nat} {d : Nat → Nat} (hs : s < 6) (S : MS) (hL : Len S d) (Q : Int32 → Prop) (h : Q (nI (if s % 2 = 0 then 0 else 2 * d (s / 2)))) : w1_endAt (nI s) S Q := by
  have e0 : (0 : Int32).toInt = 0 := rfl
  have e2 : (2 : Int32).toInt = 2 := rfl
  unfold w1_endAt w1_endAt_b19
  rw [and_1 (by omega), sh_1 (by omega), i_0 (by omega)]
  refine ⟨fun c => ?_, fun c => ?_⟩
  · rw [if_neg c] at h
    unfold w1_length w1_length_b19
    have ev : (nI (s / 2)).toInt = ((s / 2 : Nat) : Int) := nI_toInt (by omega)
    refine s8_within _ _ _ _ (fun _ => ⟨fun c => absurd c (by decide), fun _ => ⟨vp_in_nI (by omega) (by decide), ?_⟩⟩) (fun q => absurd (by omega) q)
    rw [rA_n _ _ (by omega), hL _ (by omega)]
    show Q (nI 2 * nI (d (s / 2)))
    rw [pk_mul]
    exact h
  · rw [if_pos c] at h
    exact h
theorem x1_signOf {k : Nat} (hk : k < 6) (Q : Int32 → Prop) (h : Q (sg (k ^^^ 1))) : w1_signOf (nI k) Q := by
  have hx := x1_ok k hk
  unfold w1_signOf w1_signOf_b11
  rw [and_1 (by omega), i_0 (by omega)]
  unfold sg at h
  refine ⟨fun c => ?_, fun c => ?_⟩
  · rw [if_pos (by omega)] at h; exact h
  · rw [if_neg (by omega)] at h; exact h
theorem NX_put {S : MS} {d : Nat → Nat} {n s l : Nat} (hs : s < 6) (hl : l < sz d s) (hn : n = pre d s + l) (hn24 : n < 24) (h : NX S d n) (v0 v1 v2 : Int32) (e0 : v0 = nI (posOf d s l (s / 2))) (e1 : v1 = nI (posOf d s l (ax1 (s / 2)))) (e2 : v2 = nI (posOf d s l (ax2 (s / 2)))) :
    NX (sI (sA (sA (sA (sA S 2 (nI n) (nI s)) 3 (nI (3 * n + s / 2)) v0) 3 (nI (3 * n + ax1 (s / 2))) v1) 3 (nI (3 * n + ax2 (s / 2))) v2) 6 (nI (n + 1))) d (n + 1) ∧ aI (sI (sA (sA (sA (sA S 2 (nI n) (nI s)) 3 (nI (3 * n + s / 2)) v0) 3 (nI (3 * n + ax1 (s / 2))) v1) 3 (nI (3 * n + ax2 (s / 2))) v2) 6 (nI (n + 1))) 1 = aI S 1 := by
  have ha := ax_lt (s / 2) (by omega)
  have t0 : aI (sI (sA (sA (sA (sA S 2 (nI n) (nI s)) 3 (nI (3 * n + s / 2)) v0) 3 (nI (3 * n + ax1 (s / 2))) v1) 3 (nI (3 * n + ax2 (s / 2))) v2) 6 (nI (n + 1))) 0 = aI S 0 := by
    show aI (sA (sA (sA (sA S 2 (nI n) (nI s)) 3 (nI (3 * n + s / 2)) v0) 3 (nI (3 * n + ax1 (s / 2))) v1) 3 (nI (3 * n + ax2 (s / 2))) v2) 0 = _
    rw [rd_sn _ (by decide), rd_sn _ (by decide), rd_sn _ (by decide), rd_sn _ (by decide)]
  have t1 : aI (sI (sA (sA (sA (sA S 2 (nI n) (nI s)) 3 (nI (3 * n + s / 2)) v0) 3 (nI (3 * n + ax1 (s / 2))) v1) 3 (nI (3 * n + ax2 (s / 2))) v2) 6 (nI (n + 1))) 1 = aI S 1 := by
    show aI (sA (sA (sA (sA S 2 (nI n) (nI s)) 3 (nI (3 * n + s / 2)) v0) 3 (nI (3 * n + ax1 (s / 2))) v1) 3 (nI (3 * n + ax2 (s / 2))) v2) 1 = _
    rw [rd_sn _ (by decide), rd_sn _ (by decide), rd_sn _ (by decide), rd_sn _ (by decide)]
  have t2 : aI (sI (sA (sA (sA (sA S 2 (nI n) (nI s)) 3 (nI (3 * n + s / 2)) v0) 3 (nI (3 * n + ax1 (s / 2))) v1) 3 (nI (3 * n + ax2 (s / 2))) v2) 6 (nI (n + 1))) 2 = upd (aI S 2) n (nI s) := by
    show aI (sA (sA (sA (sA S 2 (nI n) (nI s)) 3 (nI (3 * n + s / 2)) v0) 3 (nI (3 * n + ax1 (s / 2))) v1) 3 (nI (3 * n + ax2 (s / 2))) v2) 2 = _
    rw [rd_sn _ (by decide), rd_sn _ (by decide), rd_sn _ (by decide), rd_A, nI_clamp (by omega)]
  have t3 : aI (sI (sA (sA (sA (sA S 2 (nI n) (nI s)) 3 (nI (3 * n + s / 2)) v0) 3 (nI (3 * n + ax1 (s / 2))) v1) 3 (nI (3 * n + ax2 (s / 2))) v2) 6 (nI (n + 1))) 3 = upd (upd (upd (aI S 3) (3 * n + s / 2) v0) (3 * n + ax1 (s / 2)) v1) (3 * n + ax2 (s / 2)) v2 := by
    show aI (sA (sA (sA (sA S 2 (nI n) (nI s)) 3 (nI (3 * n + s / 2)) v0) 3 (nI (3 * n + ax1 (s / 2))) v1) 3 (nI (3 * n + ax2 (s / 2))) v2) 3 = _
    rw [rd_A, rd_A, rd_A, rd_sn _ (by decide), nI_clamp (by omega), nI_clamp (by omega), nI_clamp (by omega)]
  refine ⟨⟨fun j hj => by rw [t0]; exact h.1 j hj, rd_fI _ _ _, fun t m ht hm hlt => ?_⟩, t1⟩
  rw [t2, t3]
  by_cases q : pre d t + m = n
  · obtain ⟨rfl, rfl⟩ := pre_inj hm hl (q.trans hn)
    rw [q, pk_us]
    refine ⟨rfl, fun j hj => ?_⟩
    unfold upd
    by_cases j0 : j = t / 2
    · rw [if_neg (by omega), if_neg (by omega), if_pos (by omega), e0, j0]
    · by_cases j1 : j = ax1 (t / 2)
      · rw [if_neg (by omega), if_pos (by omega), e1, j1]
      · have j2 := ax_3 _ (by omega) j hj j0 j1
        rw [if_pos (by omega), e2, j2]
  · obtain ⟨a, b⟩ := h.2.2 t m ht hm (by omega)
    rw [pk_un q]
    refine ⟨a, fun j hj => ?_⟩
    rw [pk_un (by omega), pk_un (by omega), pk_un (by omega)]
    exact b j hj
theorem pos_at {d : Nat → Nat} {s i j : Nat} (hs : s < 6) (hj : j < d (ax2 (s / 2))) : posOf d s (i * d (ax2 (s / 2)) + j) (s / 2) = (if s % 2 = 0 then 0 else 2 * d (s / 2)) ∧ posOf d s (i * d (ax2 (s / 2)) + j) (ax1 (s / 2)) = 2 * i + 1 ∧ posOf d s (i * d (ax2 (s / 2)) + j) (ax2 (s / 2)) = 2 * j + 1 := by
  have ha := ax_lt (s / 2) (by omega)
  have e1 : (i * d (ax2 (s / 2)) + j) / d (ax2 (s / 2)) = i := by
    rw [Nat.mul_comm, Nat.mul_add_div (by omega), Nat.div_eq_of_lt hj, Nat.add_zero]
  have e2 : (i * d (ax2 (s / 2)) + j) % d (ax2 (s / 2)) = j := by
    rw [Nat.mul_comm, Nat.mul_add_mod, Nat.mod_eq_of_lt hj]
  unfold posOf
  refine ⟨if_pos rfl, ?_, ?_⟩
  · rw [if_neg ha.2.2.1, if_pos rfl, e1]
  · rw [if_neg ha.2.2.2.1, if_neg (fun e => ha.2.2.2.2 e.symm), e2]
theorem x1_numberSide {s : Nat} {d : Nat → Nat} (hs : s < 6) (S : MS) (hd : ∀ j, j < 3 → 1 ≤ d j ∧ d j ≤ 5) (h24 : tot d ≤ 24) (hN : NX S d (pre d s)) (Q : MS → Prop) (h : ∀ S', NX S' d (pre d (s + 1)) → aI S' 1 = aI S 1 → Q S') : w1_numberSide (nI s) S Q := by
  unfold w1_numberSide
  rw [sh_1 (by omega), nI_clamp (by omega), tb_ok.2.2.1 _ (by omega), tb_ok.2.2.2 _ (by omega)]
  have ha := ax_lt (s / 2) (by omega)
  have hF := hd _ ha.1
  have hO := hd _ ha.2.1
  have hpl := pre_le (d := d) hs
  have epre : pre d (s + 1) = pre d s + d (ax1 (s / 2)) * d (ax2 (s / 2)) := rfl
  have esz : sz d s = d (ax1 (s / 2)) * d (ax2 (s / 2)) := rfl
  refine ⟨vp_in_nI (by omega) (by decide), ?_⟩
  rintro _ rfl _ rfl
  unfold w1_numberSide_b19
  refine lp_up (d (ax1 (s / 2))) (fun z => z.1) (fun i z => NX z.2 d (pre d s + i * d (ax2 (s / 2))) ∧ aI z.2 1 = aI S 1) (by omega) ?_ (Nat.zero_le _) (rfl : (0 : Int32) = nI 0) ?_
  rotate_left
  · show NX S d (pre d s + 0 * d (ax2 (s / 2))) ∧ aI S 1 = aI S 1
    rw [Nat.zero_mul]; exact ⟨hN, rfl⟩
  rintro K ⟨y, S1⟩ i hi hcc ⟨hN1, hK1⟩ hK
  try dsimp only at hcc hN1 hK1 hK
  subst hcc
  unfold w1_numberSide_F19 w1_numberSide_d19
  try dsimp only
  rw [rA_n _ _ (by omega), hN1.1 _ ha.1]
  refine ⟨vp_in_nI ha.1 (by decide), fun c => ?_, fun c => ?_⟩
  · have e := nI_end (by omega) hi c
    rw [e] at hN1
    exact h S1 (by rw [epre]; exact hN1) hK1
  have hlt := nI_go (by omega) hi c
  have hmul : (i + 1) * d (ax2 (s / 2)) ≤ d (ax1 (s / 2)) * d (ax2 (s / 2)) := Nat.mul_le_mul_right _ hlt
  have esucc : (i + 1) * d (ax2 (s / 2)) = i * d (ax2 (s / 2)) + d (ax2 (s / 2)) := Nat.succ_mul _ _
  unfold w1_numberSide_b33
  refine lp_up (d (ax2 (s / 2))) (fun z => z.1) (fun j z => NX z.2 d (pre d s + i * d (ax2 (s / 2)) + j) ∧ aI z.2 1 = aI S 1) (by omega) ?_ (Nat.zero_le _) (rfl : (0 : Int32) = nI 0) (by exact ⟨hN1, hK1⟩)
  clear hN1 hK1
  rintro K2 ⟨y, S2⟩ j hj hcc ⟨hN2, hK3⟩ hK2
  try dsimp only at hcc hN2 hK3 hK2
  subst hcc
  unfold w1_numberSide_F33 w1_numberSide_d33 w1_numberSide_b137
  try dsimp only
  rw [rA_n _ _ (by omega), hN2.1 _ ha.2.1, hN2.2.1, sh_1 (by omega)]
  refine ⟨vp_in_nI ha.2.1 (by decide), fun c2 => ?_, fun c2 => ⟨fun c3 => ?_, fun _ => ?_⟩⟩
  · have e := nI_end (by omega) hj c2
    rintro _ rfl
    refine hK (_, _) hlt (nI_1 i) ⟨?_, hK3⟩
    show NX S2 d (pre d s + (i + 1) * d (ax2 (s / 2)))
    rw [esucc, ← Nat.add_assoc]
    rw [e] at hN2
    exact hN2
  · have hltj := nI_go (by omega) hj c2
    have := (nI_leI (a := 24) (b := pre d s + i * d (ax2 (s / 2)) + j) (by decide) (by omega)).mp c3
    omega
  have hltj := nI_go (by omega) hj c2
  have hpos := pos_at (d := d) (s := s) (i := i) (j := j) hs hltj
  have hl : i * d (ax2 (s / 2)) + j < sz d s := by omega
  generalize hn : pre d s + i * d (ax2 (s / 2)) + j = n at hN2
  have hn24 : n < 24 := by omega
  refine ⟨vp_in_nI hn24 (by decide), ?_⟩
  rintro _ rfl
  have hL2 : Len (sA S2 2 (nI n) (nI s)) d := fun j hj => by rw [rd_sn _ (by decide)]; exact hN2.1 j hj
  rw [show fI (sA S2 2 (nI n) (nI s)) 6 = nI n from (fi_sA _ _ _ _ _).trans hN2.2.1]
  refine x1_endAt hs _ hL2 _ ?_
  rw [ix_3]
  refine ⟨vp_in_nI (by omega) (by decide), ?_⟩
  generalize hv0 : nI (if s % 2 = 0 then 0 else 2 * d (s / 2)) = v0
  rintro _ rfl
  have f6 : fI (sA (sA S2 2 (nI n) (nI s)) 3 (nI (3 * n + s / 2)) v0) 6 = nI n := (fi_sA _ _ _ _ _).trans ((fi_sA _ _ _ _ _).trans hN2.2.1)
  rw [f6, ix_3]
  refine ⟨vp_in_nI (by omega) (by decide), ?_⟩
  rintro _ rfl
  have f6b : ∀ v, fI (sA (sA (sA S2 2 (nI n) (nI s)) 3 (nI (3 * n + s / 2)) v0) 3 (nI (3 * n + ax1 (s / 2))) v) 6 = nI n := fun v => (fi_sA _ _ _ _ _).trans f6
  rw [f6b, ix_3]
  refine ⟨vp_in_nI (by omega) (by decide), ?_⟩
  rintro _ rfl
  rw [show ∀ v w, fI (sA (sA (sA (sA S2 2 (nI n) (nI s)) 3 (nI (3 * n + s / 2)) v0) 3 (nI (3 * n + ax1 (s / 2))) v) 3 (nI (3 * n + ax2 (s / 2))) w) 6 = nI n from fun v w => (fi_sA _ _ _ _ _).trans (f6b v), nI_1]
  rintro _ rfl _ rfl
  have hp := NX_put hs hl (by omega) hn24 hN2 v0 ((2 : Int32) * nI i + (1 : Int32)) ((2 : Int32) * nI j + (1 : Int32)) (by rw [hpos.1]; exact hv0.symm) (by rw [hpos.2.1, show (2 : Int32) = nI 2 from rfl, pk_mul, nI_1]) (by rw [hpos.2.2, show (2 : Int32) = nI 2 from rfl, pk_mul, nI_1])
  refine hK2 (_, _) hltj (nI_1 j) ⟨?_, hp.2.trans hK3⟩
  rw [show pre d s + i * d (ax2 (s / 2)) + (j + 1) = n + 1 by omega]
  exact hp.1
def dirC (s w : Nat) : Nat := dirN (bR s) (bU s) w ^^^ 1
def rdE (r g s : Nat) : Nat := if r = g then s ^^^ 1 else if r = g ^^^ 1 then s else r
def twR (g r : Nat) : Nat := if dirC g 0 = r then 0 else if dirC g 1 = r then 1 else if dirC g 2 = r then 2 else 3
def tC (s w : Nat) : Nat := twR (dirC s w) (rdE (bR s ^^^ 1) (dirC s w) s)
def tuN (s u : Nat) : Nat := if u = bU s then 0 else if u = bR s ^^^ 1 then 1 else if u = bU s ^^^ 1 then 2 else 3
theorem fr_base : ∀ s, s < 6 → bR s < 6 ∧ bU s < 6 ∧ bR s / 2 ≠ s / 2 ∧ bU s / 2 ≠ s / 2 ∧ bR s / 2 ≠ bU s / 2 := by decide +kernel
theorem dirC_lt {s w : Nat} (hs : s < 6) (hw : w < 4) : dirC s w < 6 ∧ dirC s w / 2 ≠ s / 2 ∧ dirN (bR s) (bU s) w < 6 ∧ dirC s w / 2 = dirN (bR s) (bU s) w / 2 := by
  have h1 := dir_ok (fr_base s hs) hw
  have h2 := x1_ok _ h1.1
  unfold dirC
  exact ⟨h2.1, by rw [h2.2.1]; exact h1.2, h1.1, h2.2.1⟩
theorem turn_all : ∀ s, s < 6 → ∀ t, t < 4 → ∀ w, w < 4 → dirN (frm s t).1 (frm s t).2 w = dirN (bR s) (bU s) ((w + t) % 4) ∧ tuN (dirN (frm s t).1 (frm s t).2 w ^^^ 1) (if w = 1 then s else if w = 3 then s ^^^ 1 else (frm s t).2) = (tC s ((w + t) % 4) + t) % 4 ∧ tuN s (frm s t).2 = t := by decide +kernel
theorem tC_lt (s w : Nat) : tC s w < 4 := by
  unfold tC twR
  split
  · decide
  · split
    · decide
    · split <;> decide
theorem x1_directionOf {s w : Nat} (hs : s < 6) (hw : w < 4) (Q : Int32 → Prop) (h : Q (nI (dirC s w))) : w1_directionOf (nI s) (nI w) Q := by
  have hx : ∀ a, nI a ^^^ (1 : Int32) = nI (a ^^^ 1) := x1_I
  have eR : ∀ s, s < 6 → tbR s = nI (bR s ^^^ 1) := by
    intro s hs
    rcases (show s = 0 ∨ s = 1 ∨ s = 2 ∨ s = 3 ∨ s = 4 ∨ s = 5 by omega) with rfl | rfl | rfl | rfl | rfl | rfl <;> rfl
  have eU : ∀ s, s < 6 → tbU s = nI (bU s ^^^ 1) := by
    intro s hs
    rcases (show s = 0 ∨ s = 1 ∨ s = 2 ∨ s = 3 ∨ s = 4 ∨ s = 5 by omega) with rfl | rfl | rfl | rfl | rfl | rfl <;> rfl
  unfold w1_directionOf w1_directionOf_b19 w1_directionOf_b32
  rw [nI_clamp (by omega), eR s hs, eU s hs, hx, hx, and_1 (by omega), i_0 (by omega)]
  have v := vp_in_nI hs (by decide : (6 : Nat) < 2 ^ 31)
  unfold dirC dirN at h
  refine ⟨fun c => ⟨v, fun c2 => ?_, fun c2 => ?_⟩, fun c => ⟨v, fun c2 => ?_, fun c2 => ?_⟩⟩
  · have := (nI_leI (a := 2) (b := w) (by decide) (by omega)).mp c2
    rw [if_neg (by omega), if_neg (by omega), if_neg (by omega)] at h; exact h
  · have : ¬ 2 ≤ w := fun q => c2 (nI_le q (by omega))
    rw [if_neg (by omega), if_pos (by omega)] at h; exact h
  · have := (nI_leI (a := 2) (b := w) (by decide) (by omega)).mp c2
    rw [if_neg (by omega), if_neg (by omega), if_pos (by omega)] at h; exact h
  · have : ¬ 2 ≤ w := fun q => c2 (nI_le q (by omega))
    rw [if_pos (by omega)] at h; exact h
theorem x1_roundEdge {r g s : Nat} (hr : r < 100) (hg : g < 100) (Q : Int32 → Prop) (h : Q (nI (rdE r g s))) : w1_roundEdge (nI r) (nI g) (nI s) Q := by
  have h1 : g ^^^ 1 < 2 ^ 31 := Nat.lt_of_lt_of_le (Nat.xor_lt_two_pow (n := 7) (by omega) (by decide)) (by decide)
  unfold w1_roundEdge w1_roundEdge_b21
  rw [x1_I, x1_I, nI_eq (by omega) (by omega), nI_eq (by omega) h1]
  unfold rdE at h
  refine ⟨fun c => ⟨fun c2 => ?_, fun c2 => ?_⟩, fun c => ?_⟩
  · rw [if_neg c, if_neg c2] at h; exact h
  · rw [if_neg c, if_pos c2] at h; exact h
  · rw [if_pos c] at h; exact h
theorem x1_turnWithRight {g r : Nat} (hg : g < 6) (hr : r < 100) (Q : Int32 → Prop) (h : Q (nI (twR g r))) : w1_turnWithRight (nI g) (nI r) Q := by
  unfold w1_turnWithRight w1_turnWithRight_b2
  refine lp_up 3 (fun z => z) (fun k _ => ∀ j, j < k → dirC g j ≠ r) (by decide) ?_ (Nat.zero_le _) (rfl : (0 : Int32) = nI 0) (by exact fun j hj => absurd hj (Nat.not_lt_zero j))
  rintro K y k hk hcc hj hK
  try dsimp only at hcc hj hK
  subst hcc
  unfold w1_turnWithRight_F2 w1_turnWithRight_d2 w1_turnWithRight_b22
  try dsimp only
  unfold twR at h
  refine ⟨fun c => ?_, fun c => ?_⟩
  · have e := nI_end (N := 3) (by decide) hk c
    subst e
    rw [if_neg (hj 0 (by decide)), if_neg (hj 1 (by decide)), if_neg (hj 2 (by decide))] at h
    exact h
  have hlt := nI_go (N := 3) (by decide) hk c
  refine x1_directionOf hg (by omega) _ ?_
  have hd := (dirC_lt hg (show k < 4 by omega)).1
  rw [nI_eq (by omega) (by omega)]
  refine ⟨fun e => ?_, fun e => ?_⟩
  · rcases (show k = 0 ∨ k = 1 ∨ k = 2 by omega) with rfl | rfl | rfl
    · rw [if_pos e] at h; exact h
    · rw [if_neg (hj 0 (by decide)), if_pos e] at h; exact h
    · rw [if_neg (hj 0 (by decide)), if_neg (hj 1 (by decide)), if_pos e] at h; exact h
  · rintro _ rfl
    refine hK _ hlt (nI_1 k) (fun j hj2 => ?_)
    by_cases q : j = k
    · rw [q]; exact e
    · exact hj j (by omega)
theorem x1_cellAtSpot {s : Nat} {d p : Nat → Nat} (hs : s < 6) (S : MS) (hL : Len S d) (hF : Fst S d 6) (hp : ∀ j, j < 3 → p j < 100 ∧ aI S 5 j = nI (p j)) (Q : Int32 → Prop) (h : Q (nI (cellOf d s p))) : w1_cellAtSpot (nI s) S Q := by
  have ha := ax_lt (s / 2) (by omega)
  unfold w1_cellAtSpot
  rw [sh_1 (by omega), nI_clamp (by omega), tb_ok.2.2.1 _ (by omega), tb_ok.2.2.2 _ (by omega)]
  refine ⟨vp_in_nI (by omega) (by decide), ?_⟩
  rintro _ rfl _ rfl
  have b1 := hp _ ha.1
  have b2 := hp _ ha.2.1
  rw [rA_n _ _ (by omega), rA_n _ _ (by omega), rA_n _ _ (by omega), rA_n _ _ (by omega), hF s hs, b1.2, b2.2, hL _ ha.2.1, sh_1 (by omega), sh_1 (by omega), pk_mul, nI_add, nI_add]
  exact ⟨vp_in_nI hs (by decide), vp_in_nI ha.1 (by decide), vp_in_nI ha.2.1 (by decide), h⟩
/-- where a way leads from a cell (turn 0): four times the cell, and the turn -/
def ldV (d : Nat → Nat) (s l w : Nat) : Nat := if insN d (posOf d s l) (dirN (bR s) (bU s) w) then 4 * cellOf d s (goP d (posOf d s l) s (dirN (bR s) (bU s) w)) else 4 * cellOf d (dirC s w) (goP d (posOf d s l) s (dirN (bR s) (bU s) w)) + tC s w
theorem x1_arrivalFrom {s l w : Nat} {d : Nat → Nat} (hs : s < 6) (hl : l < sz d s) (hw : w < 4) (S : MS) (hd : ∀ j, j < 3 → 1 ≤ d j ∧ d j ≤ 5) (h24 : tot d ≤ 24) (hN : NX S d (tot d)) (hF : Fst S d 6) (Q : Int32 → MS → Prop) (h : ∀ S', Fr [5] S S' → Q (nI (ldV d s l w)) S') : w1_arrivalFrom (nI (pre d s + l)) (nI w) S Q := by
  have hpl := pre_le (d := d) hs
  obtain ⟨m2, m3⟩ := hN.2.2 s l hs hl (by omega)
  obtain ⟨g1, g2, g3, g4⟩ := dirC_lt hs hw
  have hO := posOf_ok hs (fun j hj => (hd j hj).1) hl
  have h100 := ok_lt hs (fun j hj => (hd j hj).2) hO
  unfold w1_arrivalFrom
  rw [rA_n _ _ (by omega), m2]
  refine ⟨vp_in_nI (by omega) (by decide), ?_⟩
  rintro _ rfl
  refine x1_directionOf hs hw _ ?_
  unfold w1_arrivalFrom_b17
  refine lp_up 3 (fun z => z.1) (fun k z => Fr [5] S z.2 ∧ ∀ j, j < k → aI z.2 5 j = nI (posOf d s l j)) (by decide) ?_ (Nat.zero_le _) (rfl : (0 : Int32) = nI 0) (by exact ⟨fr_rf, fun j hj => absurd hj (Nat.not_lt_zero j)⟩)
  rintro K ⟨y, S1⟩ k hk hcc ⟨hF1, hj⟩ hK
  try dsimp only at hcc hF1 hj hK
  subst hcc
  unfold w1_arrivalFrom_F17 w1_arrivalFrom_d17
  try dsimp only
  rw [sh_1 (by omega), ix_3]
  refine ⟨fun c => ⟨vp_in_nI (by omega) (by decide), ?_⟩, fun q => ?_⟩
  rotate_left
  · have hlt := nI_go (N := 3) (by decide) hk q
    refine ⟨vp_in_nI (by omega) (by decide), vp_in_nI hlt (by decide), ?_⟩
    rintro _ rfl _ rfl
    refine hK (_, _) hlt (nI_1 k) ⟨fr_tr hF1 (fr_sA (by decide)), fun j hj2 => ?_⟩
    try dsimp only
    rw [rd_A, nI_clamp (by omega)]
    by_cases e : j = k
    · rw [e, pk_us, rA_n _ _ (by omega), (hF1 3 (by decide)).2.2.1]; exact m3 k hlt
    · rw [pk_un e]; exact hj j (by omega)
  have e3 := nI_end (N := 3) (by decide) hk c
  subst e3
  clear hK c hk
  have hL1 : Len S1 d := fun j hj2 => by rw [(hF1 0 (by decide)).2.2.1]; exact hN.1 j hj2
  have hFs1 : Fst S1 d 6 := fun t ht => by rw [(hF1 1 (by decide)).2.2.1]; exact hF t ht
  have hpe := hO.1 (dirC s w / 2) (by omega) g2
  have hDe := hd (dirC s w / 2) (by omega)
  have hDs := hd (s / 2) (by omega)
  have hxd := x1_ok _ g3
  have hss := x1_ok s hs
  rw [rA_n _ _ (by omega), rA_n _ _ (by omega), hj _ (by omega), hL1 _ (by omega)]
  have ed : dirC s w ^^^ 1 = dirN (bR s) (bU s) w := by
    unfold dirC
    rw [Nat.xor_assoc, Nat.xor_self, Nat.xor_zero]
  unfold ldV at h
  generalize hE : dirN (bR s) (bU s) w = e at *
  generalize hG : dirC s w = g at *
  have egx : g = e ^^^ 1 := by rw [← hG, ← hE]; rfl
  generalize hP : posOf d s l = p at *
  have k108 : insN d p e = false → w1_arrivalFrom_b108 (nI s) (nI g) S1 Q := by
    intro hin
    have hin' : ¬ insN d p e = true := by rw [hin]; decide
    simp only [if_neg hin'] at h
    unfold w1_arrivalFrom_b108 w8_frameOf
    rw [sh_1 (by omega), sh_1 (by omega)]
    refine x1_endAt g1 _ hL1 _ ⟨vp_in_nI (by omega) (by decide), ?_⟩
    rintro _ rfl
    refine x1_endAt hs _ (fun j hj2 => by rw [rd_sn _ (by decide)]; exact hL1 j hj2) _ (x1_signOf hs _ ⟨vp_in_nI (by omega) (by decide), ?_⟩)
    rintro _ rfl
    have q0 := hO.2
    have eS : nI (if s % 2 = 0 then 0 else 2 * d (s / 2)) - sg (s ^^^ 1) = nI (if s % 2 = 0 then p (s / 2) + 1 else p (s / 2) - 1) := by
      rw [← q0]
      exact sub_sg hs (by
        by_cases q : s % 2 = 0
        · exact Or.inl q
        · rw [if_neg q] at q0; omega)
    rw [eS]
    have hbR := (fr_base s hs).1
    have hxb := x1_ok _ hbR
    have hrd : rdE (bR s ^^^ 1) g s < 100 := by
      unfold rdE
      split
      · omega
      · split <;> omega
    have edir0 : dirC s 0 = bR s ^^^ 1 := rfl
    refine x1_directionOf (w := 0) hs (by decide) _ ?_
    rw [edir0]
    refine x1_roundEdge (by omega) (by omega) _ ?_
    have hpn : ∀ j, j < 3 → goP d p s e j < 100 ∧ aI (sA (sA S1 5 (nI (g / 2)) (nI (if g % 2 = 0 then 0 else 2 * d (g / 2)))) 5 (nI (s / 2)) (nI (if s % 2 = 0 then p (s / 2) + 1 else p (s / 2) - 1))) 5 j = nI (goP d p s e j) := by
      intro j hj2
      rw [rd_A, rd_A, nI_clamp (by omega), nI_clamp (by omega)]
      have hp1 := h100 (s / 2) (by omega)
      have hp2 := h100 (e / 2) (by omega)
      have hpj := h100 j hj2
      unfold goP
      rw [if_neg hin']
      unfold upd updN
      by_cases j1 : j = s / 2
      · rw [if_pos j1, if_pos j1]
        refine ⟨?_, rfl⟩
        by_cases q5 : s % 2 = 0
        · rw [if_pos q5] at q0 ⊢
          omega
        · rw [if_neg q5]
          omega
      · rw [if_neg j1, if_neg j1, ← g4]
        by_cases j2 : j = g / 2
        · rw [if_pos j2, if_pos j2]
          unfold insN at hin
          by_cases e2 : e % 2 = 0
          · rw [if_pos e2] at hin ⊢
            have hf := of_decide_eq_false hin
            rw [← g4] at hf
            rw [if_neg (by omega)]
            refine ⟨by omega, congrArg nI ?_⟩
            omega
          · rw [if_neg e2] at hin ⊢
            have hf := of_decide_eq_false hin
            rw [← g4] at hf
            rw [if_pos (by omega)]
            refine ⟨by omega, congrArg nI ?_⟩
            omega
        · rw [if_neg j2, if_neg j2]
          exact ⟨hpj, hj j hj2⟩
    refine x1_cellAtSpot g1 _ (fun j hj2 => by rw [rd_sn _ (by decide), rd_sn _ (by decide)]; exact hL1 j hj2) (fun t ht => by rw [rd_sn _ (by decide), rd_sn _ (by decide)]; exact hFs1 t ht) hpn _ ?_
    refine x1_turnWithRight g1 hrd _ ?_
    rw [show (4 : Int32) = nI 4 from rfl, pk_mul, nI_add]
    have etc : tC s w = twR g (rdE (bR s ^^^ 1) g s) := by
      unfold tC; rw [hG]
    rw [← etc]
    exact h _ (fr_tr hF1 (fr_tr (fr_sA (by decide)) (fr_sA (by decide))))
  have kin : insN d p e = true → ∀ v : Int32, v = nI (if e % 2 = 0 then p (e / 2) + 2 else p (e / 2) - 2) → ∀ S7 : MS, S7 = sA S1 5 (nI (g / 2)) v → w1_cellAtSpot (nI s) S7 (fun r8 => w8_frameOf r8 (0 : Int32) (fun r10 => Q r10 S7)) := by
    intro hin
    simp only [if_pos hin] at h
    rintro _ rfl _ rfl
    unfold w8_frameOf
    have hpn : ∀ j, j < 3 → goP d p s e j < 100 ∧ aI (sA S1 5 (nI (g / 2)) (nI (if e % 2 = 0 then p (e / 2) + 2 else p (e / 2) - 2))) 5 j = nI (goP d p s e j) := by
      intro j hj2
      rw [rd_A, nI_clamp (by omega)]
      have hp2 := h100 (e / 2) (by omega)
      have hpj := h100 j hj2
      unfold goP
      rw [if_pos hin]
      unfold upd updN
      rw [← g4]
      rw [← g4] at hp2
      by_cases j2 : j = g / 2
      · rw [if_pos j2, if_pos j2]
        refine ⟨?_, rfl⟩
        unfold insN at hin
        by_cases e2 : e % 2 = 0
        · rw [if_pos e2] at hin ⊢
          have hf := of_decide_eq_true hin
          rw [← g4] at hf
          omega
        · rw [if_neg e2]; omega
      · rw [if_neg j2, if_neg j2]
        exact ⟨hpj, hj j hj2⟩
    refine x1_cellAtSpot hs _ (fun j hj2 => by rw [rd_sn _ (by decide)]; exact hL1 j hj2) (fun t ht => by rw [rd_sn _ (by decide)]; exact hFs1 t ht) hpn _ ?_
    rw [show (4 : Int32) = nI 4 from rfl, pk_mul, p0_I]
    exact h _ (fr_tr hF1 (fr_sA (by decide)))
  refine x1_signOf g1 _ ?_
  rw [ed]
  by_cases e2 : e % 2 = 0
  · have hs1 : sg e = 1 := if_pos e2
    have ei : insN d p e = decide (p (g / 2) + 2 < 2 * d (g / 2)) := by rw [g4]; exact if_pos e2
    rw [hs1, show nI (p (g / 2)) + (2 : Int32) * 1 = nI (p (g / 2) + 2) from nI_add _ 2, show (2 : Int32) = nI 2 from rfl, pk_mul]
    rw [if_pos e2, ← g4] at kin
    rintro _ rfl
    refine ⟨fun c => absurd c (nI_nle (by omega) (by omega)), fun _ => ⟨fun c => k108 ?_, fun c => kin ?_ _ rfl⟩⟩
    · have := (nI_leI (by omega) (by omega)).mp c
      rw [ei]; exact decide_eq_false (by omega)
    · have : ¬ 2 * d (g / 2) ≤ p (g / 2) + 2 := fun q => c (nI_le q (by omega))
      rw [ei]; exact decide_eq_true (by omega)
  · have hs1 : sg e = -1 := if_neg e2
    have ei : insN d p e = decide (2 < p (g / 2)) := by rw [g4]; exact if_neg e2
    rw [if_neg e2, ← g4] at kin
    rw [hs1]
    by_cases q1 : p (g / 2) = 1
    · have hin : insN d p e = false := by rw [ei]; exact decide_eq_false (by omega)
      rw [q1]
      rintro _ rfl
      exact ⟨fun _ => k108 hin, fun c => absurd (by decide) c⟩
    · have hin : insN d p e = true := by rw [ei]; exact decide_eq_true (by omega)
      have ey : nI (p (g / 2)) + (2 : Int32) * (-1) = nI (p (g / 2) - 2) := by
        have : nI (p (g / 2)) - nI 2 = nI (p (g / 2) - 2) := pk_sub (by omega)
        rw [Int32.sub_eq_add_neg] at this
        exact this
      rw [ey, show (2 : Int32) = nI 2 from rfl, pk_mul]
      rintro _ rfl
      refine ⟨fun c => absurd c (nI_nle (by omega) (by omega)), fun _ => ⟨fun c => ?_, fun c => kin hin _ rfl⟩⟩
      have := (nI_leI (by omega) (by omega)).mp c
      omega
/-- a box of the class that was built -/
def BoxC (V : MS) (d : Nat → Nat) : Prop := Len V d ∧ fI V 6 = nI (tot d) ∧ Mid V d (tot d) ∧ ∀ s l w, s < 6 → l < sz d s → w < 4 → aI V 4 (4 * (pre d s + l) + w) = nI (ldV d s l w)
theorem x1_build (a b c : Int32) (d : Nat → Nat) (ea : a = nI (d 0)) (eb : b = nI (d 1)) (ec : c = nI (d 2)) (hd : ∀ j, j < 3 → 1 ≤ d j ∧ d j ≤ 5) (h24 : tot d ≤ 24) (S : MS) (Q : MS → Prop) (h : ∀ S', BoxC S' d → Q S') : w1_build a b c S Q := by
  subst ea eb ec
  unfold w1_build
  rintro _ rfl _ rfl _ rfl _ rfl
  unfold w1_build_b29
  refine lp_up 6 (fun z => z.1) (fun s z => NX z.2 d (pre d s) ∧ Fst z.2 d s) (by decide) ?_ (Nat.zero_le _) (rfl : (0 : Int32) = nI 0) ?_
  rotate_left
  · refine ⟨⟨fun j hj => ?_, rd_fI _ _ _, fun s l _ _ hc => absurd hc (Nat.not_lt_zero _)⟩, fun s hs => absurd hs (Nat.not_lt_zero s)⟩
    show aI (sA (sA (sA S 0 (0 : Int32) (nI (d 0))) 0 (1 : Int32) (nI (d 1))) 0 (2 : Int32) (nI (d 2))) 0 j = nI (d j)
    rw [rd_A, rd_A, rd_A, show (0 : Int32).toNatClampNeg = 0 from rfl, show (1 : Int32).toNatClampNeg = 1 from rfl, show (2 : Int32).toNatClampNeg = 2 from rfl]
    unfold upd
    rcases (show j = 0 ∨ j = 1 ∨ j = 2 by omega) with rfl | rfl | rfl
    · rw [if_neg (by decide), if_neg (by decide), if_pos rfl]
    · rw [if_neg (by decide), if_pos rfl]
    · rw [if_pos rfl]
  rintro K ⟨y, S1⟩ s hs hcc ⟨hN, hF⟩ hK
  try dsimp only at hcc hN hF hK
  subst hcc
  unfold w1_build_F29 w1_build_d29
  try dsimp only
  refine ⟨fun c => ?_, fun c => ?_⟩
  rotate_left
  · have hlt := nI_go (N := 6) (by decide) hs c
    refine ⟨vp_in_nI hlt (by decide), ?_⟩
    rintro _ rfl
    have hN1 : NX (sA S1 1 (nI s) (fI S1 6)) d (pre d s) := ⟨fun j hj => by rw [rd_sn _ (by decide)]; exact hN.1 j hj, (fi_sA _ _ _ _ _).trans hN.2.1, fun t m ht hm hc => by rw [rd_sn _ (by decide), rd_sn _ (by decide)]; exact hN.2.2 t m ht hm hc⟩
    have hF1 : Fst (sA S1 1 (nI s) (fI S1 6)) d (s + 1) := fun t ht => by
      rw [rd_A, nI_clamp (by omega), hN.2.1]
      by_cases e : t = s
      · rw [e, pk_us]
      · rw [pk_un e]; exact hF t (by omega)
    refine x1_numberSide hlt _ hd h24 hN1 _ (fun S2 hN2 e1 => ?_)
    rintro _ rfl
    exact hK (_, _) hlt (nI_1 s) ⟨hN2, fun t ht => by show aI S2 1 t = _; rw [e1]; exact hF1 t ht⟩
  have e := nI_end (N := 6) (by decide) hs c
  subst e
  rw [pre_6] at hN
  clear hK c hs
  unfold w1_build_b62
  refine lp_up (tot d) (fun z => z.1) (fun k z => (NX z.2 d (tot d) ∧ Fst z.2 d 6) ∧ ∀ s l w, s < 6 → l < sz d s → w < 4 → pre d s + l < k → aI z.2 4 (4 * (pre d s + l) + w) = nI (ldV d s l w)) (by omega) ?_ (Nat.zero_le _) (rfl : (0 : Int32) = nI 0) (by exact ⟨⟨hN, hF⟩, fun s l w _ _ _ hc => absurd hc (Nat.not_lt_zero _)⟩)
  clear hN hF
  rintro K ⟨y, S2⟩ k hk hcc ⟨⟨hN2, hF2⟩, hl2⟩ hK
  try dsimp only at hcc hN2 hF2 hl2 hK
  subst hcc
  unfold w1_build_F62 w1_build_d62
  try dsimp only
  rw [hN2.2.1]
  refine ⟨fun c => ?_, fun c => ?_⟩
  · have e := nI_end (by omega) hk c
    subst e
    refine h _ ⟨hN2.1, hN2.2.1, hN2.2.2, fun s l w hs hl hw => hl2 s l w hs hl hw ?_⟩
    have := pre_le (d := d) hs
    omega
  have hlt := nI_go (by omega) hk c
  obtain ⟨s, l, hs, hl, ek⟩ := loc_ex 6 (by rw [pre_6]; exact hlt)
  unfold w1_build_b74
  refine lp_up 4 (fun z => z.1) (fun w z => (NX z.2 d (tot d) ∧ Fst z.2 d 6) ∧ (∀ s l w, s < 6 → l < sz d s → w < 4 → pre d s + l < k → aI z.2 4 (4 * (pre d s + l) + w) = nI (ldV d s l w)) ∧ ∀ v, v < w → aI z.2 4 (4 * k + v) = nI (ldV d s l v)) (by omega) ?_ (Nat.zero_le _) (rfl : (0 : Int32) = nI 0) (by exact ⟨⟨hN2, hF2⟩, hl2, fun v hv => absurd hv (Nat.not_lt_zero v)⟩)
  clear hN2 hF2 hl2
  rintro K2 ⟨y, S3⟩ w hw hcc ⟨⟨hN3, hF3⟩, hl3, hv3⟩ hK2
  try dsimp only at hcc hN3 hF3 hl3 hv3 hK2
  subst hcc
  unfold w1_build_F74 w1_build_d74
  try dsimp only
  refine ⟨fun c2 => ?_, fun c2 => ?_⟩
  · have e4 := nI_end (N := 4) (by decide) hw c2
    subst e4
    rintro _ rfl
    refine hK (_, _) hlt (nI_1 k) ⟨⟨hN3, hF3⟩, fun t m v ht hm hv hc => ?_⟩
    show aI S3 4 (4 * (pre d t + m) + v) = nI (ldV d t m v)
    by_cases q : pre d t + m = k
    · obtain ⟨rfl, rfl⟩ := pre_inj hm hl (q.trans ek)
      rw [q]; exact hv3 v hv
    · exact hl3 t m v ht hm hv (by omega)
  have hlt2 := nI_go (N := 4) (by decide) hw c2
  rw [ek]
  refine x1_arrivalFrom hs hl hlt2 S3 hd h24 hN3 hF3 _ (fun S4 hF4 => ?_)
  rw [← ek, show (4 : Int32) = nI 4 from rfl, pk_mul, nI_add]
  refine ⟨vp_in_nI (by omega) (by decide), ?_⟩
  rintro _ rfl _ rfl
  have t4 : aI (sA S4 4 (nI (4 * k + w)) (nI (ldV d s l w))) 4 = upd (aI S3 4) (4 * k + w) (nI (ldV d s l w)) := by
    rw [rd_A, nI_clamp (by omega), (hF4 4 (by decide)).2.2.1]
  refine hK2 (_, _) hlt2 (nI_1 w) ⟨⟨⟨fun j hj => ?_, ?_, fun t m ht hm hc => ?_⟩, fun t ht => ?_⟩, fun t m v ht hm hv hc => ?_, fun v hv => ?_⟩
  · show aI (sA S4 4 (nI (4 * k + w)) (nI (ldV d s l w))) 0 j = nI (d j)
    rw [rd_sn _ (by decide), (hF4 0 (by decide)).2.2.1]; exact hN3.1 j hj
  · show fI (sA S4 4 (nI (4 * k + w)) (nI (ldV d s l w))) 6 = nI (tot d)
    exact (fi_sA _ _ _ _ _).trans ((hF4 6 (by decide)).1.trans hN3.2.1)
  · show aI (sA S4 4 (nI (4 * k + w)) (nI (ldV d s l w))) 2 (pre d t + m) = nI t ∧ ∀ j, j < 3 → aI (sA S4 4 (nI (4 * k + w)) (nI (ldV d s l w))) 3 (3 * (pre d t + m) + j) = nI (posOf d t m j)
    rw [rd_sn _ (by decide), rd_sn _ (by decide), (hF4 2 (by decide)).2.2.1, (hF4 3 (by decide)).2.2.1]; exact hN3.2.2 t m ht hm hc
  · show aI (sA S4 4 (nI (4 * k + w)) (nI (ldV d s l w))) 1 t = nI (pre d t)
    rw [rd_sn _ (by decide), (hF4 1 (by decide)).2.2.1]; exact hF3 t ht
  · show aI (sA S4 4 (nI (4 * k + w)) (nI (ldV d s l w))) 4 (4 * (pre d t + m) + v) = nI (ldV d t m v)
    rw [t4, pk_un (by omega)]; exact hl3 t m v ht hm hv hc
  · show aI (sA S4 4 (nI (4 * k + w)) (nI (ldV d s l w))) 4 (4 * k + v) = nI (ldV d s l v)
    rw [t4]
    by_cases q : v = w
    · rw [q, pk_us]
    · rw [pk_un (by omega)]; exact hv3 v (by omega)
theorem boxC_Bx {V : MS} {d : Nat → Nat} (h24 : tot d ≤ 24) (h : BoxC V d) : Bx V := by
  have e : (fI V 6).toInt = (tot d : Int) := by rw [h.2.1, nI_toInt (by omega)]
  refine ⟨by omega, by omega, fun c hc => ?_⟩
  obtain ⟨s, l, hs, hl, ec⟩ := loc_ex (d := d) (c := c) 6 (by rw [pre_6]; omega)
  subst ec
  exact ⟨s, hs, (h.2.2.1 s l hs hl (by have := pre_le (d := d) hs; omega)).1⟩

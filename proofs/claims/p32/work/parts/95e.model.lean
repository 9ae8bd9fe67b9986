/-! ===== pure: laying out: one list for both sides ===== -/
def bi (x : Int32) (k : Nat) : Bool := x.toBitVec.toNat.testBit k
theorem bi_sm : ∀ k, k < 32 → (nI k &&& 31).toBitVec.smod 32 = BitVec.ofNat 32 k := by decide +kernel
theorem bi_one : ∀ j, j < 32 → (1 : Int32).toBitVec.getLsbD j = decide (j = 0) := by decide +kernel
theorem bi_bit (x : Int32) {k : Nat} (hk : k < 32) : ((x >>> (nI k &&& 31)) &&& (1 : Int32)) = if bi x k then 1 else 0 := by
  have e0 : ∀ j, j < 32 → ((x >>> (nI k &&& 31)) &&& (1 : Int32)).toBitVec.getLsbD j = (decide (j = 0) && bi x k) := by
    intro j hj
    rw [Int32.toBitVec_and, Int32.toBitVec_shiftRight, bi_sm k hk, BitVec.getLsbD_and, bi_one j hj, BitVec.sshiftRight_eq', BitVec.getLsbD_sshiftRight, BitVec.toNat_ofNat, Nat.mod_eq_of_lt (by omega : k < 2 ^ 32)]
    by_cases q : j = 0
    · subst q
      rw [if_pos (by omega), Nat.add_zero]
      show (!decide (32 ≤ 0) && bi x k && true) = (true && bi x k)
      simp
    · rw [decide_eq_false q, Bool.and_false, Bool.false_and]
  apply Int32.toBitVec_inj.mp
  apply BitVec.eq_of_getLsbD_eq
  intro j hj
  rw [e0 j hj]
  by_cases q : bi x k = true
  · rw [if_pos q, q, Bool.and_true, bi_one j hj]
  · rw [if_neg q, Bool.not_eq_true _ |>.mp q, Bool.and_false]
    show false = (0#32).getLsbD j
    rw [BitVec.getLsbD_zero]
theorem bi_or (x y : Int32) (k : Nat) : bi (x ||| y) k = (bi x k || bi y k) := by
  unfold bi
  rw [Int32.toBitVec_or, BitVec.toNat_or, Nat.testBit_or]
theorem bi_p2 : ∀ c, c < 24 → ∀ k, k < 24 → bi ((1 : Int32) <<< (nI c &&& 31)) k = (c == k) := by decide +kernel
theorem bi_0 (k : Nat) : bi 0 k = false := by
  unfold bi
  rw [show (0 : Int32).toBitVec.toNat = 0 from rfl, Nat.zero_testBit]
theorem bi_15 : ∀ w, w < 4 → bi 15 w = true := by decide +kernel
/-- where a frame (four times the cell, and the turn) leads -/
def LdG (d : Nat → Nat) (g : Nat → Nat) : Prop := ∀ s l w, s < 6 → l < sz d s → w < 4 → g (4 * (pre d s + l) + w) = ldV d s l w
def led (g : Nat → Nat) (f w : Nat) : Nat := 4 * (g (4 * (f / 4) + (w + f % 4) % 4) / 4) + (g (4 * (f / 4) + (w + f % 4) % 4) + f % 4) % 4
theorem led_lt {d g : Nat → Nat} (hd : ∀ j, j < 3 → 1 ≤ d j) (hg : LdG d g) {f w : Nat} (hf : f < 4 * tot d) (hw : w < 4) : led g f w < 4 * tot d := by
  obtain ⟨s, l, hs, hl, ec⟩ := loc_ex (d := d) (c := f / 4) 6 (by rw [pre_6]; omega)
  have := ld_lt (w := (w + f % 4) % 4) hs hd hl (by omega)
  unfold led
  rw [ec, hg s l _ hs hl (by omega)]
  omega
theorem s1_led {V : MS} {d g : Nat → Nat} {f w : Nat} (h24 : tot d ≤ 24) (hd : ∀ j, j < 3 → 1 ≤ d j) (hC : BoxC V d) (hg : LdG d g) (hf : f < 4 * tot d) (hw : w < 4) (Q : Int32 → Prop) (h : Q (nI (led g f w))) : w1_leadsTo (nI f) (nI w) V Q := by
  obtain ⟨s, l, hs, hl, ec⟩ := loc_ex (d := d) (c := f / 4) 6 (by rw [pre_6]; omega)
  have e : f = 4 * (pre d s + l) + f % 4 := by omega
  have hq : led g f w = 4 * (ldV d s l ((w + f % 4) % 4) / 4) + (ldV d s l ((w + f % 4) % 4) + f % 4) % 4 := by
    unfold led
    rw [ec, hg s l _ hs hl (by omega)]
  rw [hq] at h
  rw [e]
  exact x1_leadsTo h24 hC hs hl (by omega) hw (fun w hw => by have := ld_lt (w := w) hs hd hl hw; omega) Q h
theorem s9_led {b w c t : Nat} {d g : Nat → Nat} (hb : b < 4) (hc : c < tot d) (ht : t < 4) (hw : w < 4) (S : MS) (hB : BoxN S b d) (hg : LdG d g) (tf : MS → Int32) (htf : ∀ S', Fr [8, 9] S S' → tf S' = nI t) (R : MS → Prop)
    (h : ∀ S' s' u' p', s' < 6 → u' < 6 → Fr [8, 9, 10, 11] S S' → At S' s' p' → Ok d s' p' → fI S' 11 = nI u' → cellOf d s' p' = led g (4 * c + t) w / 4 → tuN s' u' = led g (4 * c + t) w % 4 → R S') : w9_goTo (nI b) (nI c) S (fun S9 => w9_setFrame (tf S9) S9 (fun S10 => w9_go (nI b) (nI w) S10 R)) := by
  obtain ⟨s, l, hs, hl, ec⟩ := loc_ex (d := d) (c := c) 6 (by rw [pre_6]; exact hc)
  have hq : led g (4 * c + t) w = 4 * (ldV d s l ((w + t) % 4) / 4) + (ldV d s l ((w + t) % 4) + t) % 4 := by
    unfold led
    rw [show (4 * c + t) / 4 = c by omega, show (4 * c + t) % 4 = t by omega, ec, hg s l _ hs hl (by omega)]
  rw [ec]
  refine x9_step hb hs hl ht hw S hB tf htf R (fun S' s' u' p' h1 h2 h3 h4 h5 h6 h7 h8 => h S' s' u' p' h1 h2 h3 h4 h5 h6 ?_ ?_)
  · rw [h7, hq]; omega
  · rw [h8, hq]; omega
/-! what is laid out, in its order: squares and frames -/
def cov (L : List (Nat × Nat)) (c : Nat) : Bool := L.any (fun p => p.2 / 4 == c)
def hsq (L : List (Nat × Nat)) (q : Nat) : Bool := L.any (fun p => p.1 == q)
theorem cov_iff {L : List (Nat × Nat)} {c : Nat} : cov L c = true ↔ ∃ p, p ∈ L ∧ p.2 / 4 = c := by
  constructor
  · intro h
    obtain ⟨p, hp, e⟩ := List.any_eq_true.mp h
    exact ⟨p, hp, eq_of_beq e⟩
  · rintro ⟨p, hp, e⟩
    exact List.any_eq_true.mpr ⟨p, hp, beq_iff_eq.mpr e⟩
theorem hsq_iff {L : List (Nat × Nat)} {q : Nat} : hsq L q = true ↔ ∃ p, p ∈ L ∧ p.1 = q := by
  constructor
  · intro h
    obtain ⟨p, hp, e⟩ := List.any_eq_true.mp h
    exact ⟨p, hp, eq_of_beq e⟩
  · rintro ⟨p, hp, e⟩
    exact List.any_eq_true.mpr ⟨p, hp, beq_iff_eq.mpr e⟩
theorem cov_no {L : List (Nat × Nat)} {c : Nat} (h : cov L c = false) {p : Nat × Nat} (hp : p ∈ L) : ¬ p.2 / 4 = c := fun e => by
  rw [cov_iff.mpr ⟨p, hp, e⟩] at h
  exact absurd h (by decide)
theorem hsq_no {L : List (Nat × Nat)} {q : Nat} (h : hsq L q = false) {p : Nat × Nat} (hp : p ∈ L) : ¬ p.1 = q := fun e => by
  rw [hsq_iff.mpr ⟨p, hp, e⟩] at h
  exact absurd h (by decide)
theorem cov_add (L : List (Nat × Nat)) (p : Nat × Nat) (c : Nat) : cov (L ++ [p]) c = (cov L c || (p.2 / 4 == c)) := by
  unfold cov
  rw [List.any_append]
  show (_ || ((p.2 / 4 == c) || false)) = _
  rw [Bool.or_false]
theorem hsq_add (L : List (Nat × Nat)) (p : Nat × Nat) (q : Nat) : hsq (L ++ [p]) q = (hsq L q || (p.1 == q)) := by
  unfold hsq
  rw [List.any_append]
  show (_ || ((p.1 == q) || false)) = _
  rw [Bool.or_false]
theorem mem_add {L : List (Nat × Nat)} {p x : Nat × Nat} (h : p ∈ L ++ [x]) : p ∈ L ∨ p = x := by
  rcases List.mem_append.mp h with q | q
  · exact Or.inl q
  · exact Or.inr (List.mem_singleton.mp q)
def WF (d : Nat → Nat) (L : List (Nat × Nat)) : Prop := (∀ p, p ∈ L → p.1 < 64 ∧ p.2 < 4 * tot d) ∧ fb_ct (cov L) 24 = L.length ∧ fb_ct (hsq L) 64 = L.length ∧ (∀ p, p ∈ L → ∀ p', p' ∈ L → p.1 = p'.1 → p = p') ∧ (∀ p, p ∈ L → ∀ p', p' ∈ L → p.2 / 4 = p'.2 / 4 → p = p')
theorem wf_24 {d : Nat → Nat} {L : List (Nat × Nat)} (h : WF d L) : L.length ≤ 24 := by
  rw [← h.2.1]; exact fb_ct_le _ _
theorem wf_room {d : Nat → Nat} {L : List (Nat × Nat)} {c : Nat} (h : WF d L) (hc : c < 24) (hn : cov L c = false) : L.length < 24 := by
  rcases Nat.lt_or_ge L.length 24 with q | q
  · exact q
  · have e : fb_ct (cov L) 24 = 24 := by have := wf_24 h; rw [h.2.1]; omega
    rw [fb_ct_all.mp e c hc] at hn
    exact absurd hn (by decide)
theorem ct_add {f : Nat → Bool} {f' : Nat → Bool} {i n : Nat} (hi : i < n) (hf : f i = false) (e : ∀ k, k < n → f' k = (f k || (i == k))) : fb_ct f' n = fb_ct f n + 1 := by
  have e1 : fb_ct f' n = fb_ct (fun k => if k = i then true else f k) n := by
    apply fb_ct_cong
    intro k hk
    rw [e k hk]
    by_cases q : k = i
    · subst q
      rw [if_pos rfl, show (k == k) = true from beq_iff_eq.mpr rfl, Bool.or_true]
    · rw [if_neg q, show (i == k) = false from beq_eq_false_iff_ne.mpr (fun e => q e.symm), Bool.or_false]
  have h2 := fb_ct_upd f true hi
  rw [if_pos rfl, if_neg (by rw [hf]; decide)] at h2
  rw [e1]
  omega
theorem wf_add {d : Nat → Nat} {L : List (Nat × Nat)} {q f : Nat} (h24 : tot d ≤ 24) (h : WF d L) (hq : q < 64) (hf : f < 4 * tot d) (h1 : hsq L q = false) (h2 : cov L (f / 4) = false) : WF d (L ++ [(q, f)]) := by
  refine ⟨fun p hp => ?_, ?_, ?_, fun p hp p' hp' e => ?_, fun p hp p' hp' e => ?_⟩
  · rcases mem_add hp with r | r
    · exact h.1 p r
    · rw [r]; exact ⟨hq, hf⟩
  · rw [ct_add (f := cov L) (i := f / 4) (by omega) h2 (fun k _ => cov_add L (q, f) k), h.2.1, List.length_append]; rfl
  · rw [ct_add (f := hsq L) (i := q) hq h1 (fun k _ => hsq_add L (q, f) k), h.2.2.1, List.length_append]; rfl
  · rcases mem_add hp with r | r
    · rcases mem_add hp' with r' | r'
      · exact h.2.2.2.1 p r p' r' e
      · rw [r'] at e; exact absurd e (hsq_no h1 r)
    · rcases mem_add hp' with r' | r'
      · rw [r] at e; exact absurd e.symm (hsq_no h1 r')
      · rw [r, r']
  · rcases mem_add hp with r | r
    · rcases mem_add hp' with r' | r'
      · exact h.2.2.2.2 p r p' r' e
      · rw [r'] at e; exact absurd e (cov_no h2 r)
    · rcases mem_add hp' with r' | r'
      · rw [r] at e; exact absurd e.symm (cov_no h2 r')
      · rw [r, r']
theorem wf_nil {d : Nat → Nat} : WF d [] := ⟨fun p hp => absurd hp List.not_mem_nil, fb_ct_zero.mpr fun _ _ => rfl, fb_ct_zero.mpr fun _ _ => rfl, fun p hp => absurd hp List.not_mem_nil, fun p hp => absurd hp List.not_mem_nil⟩
/-! the laying out -/
def one (g : Nat → Nat) (t : Nat → Bool) (q f w : Nat) (L : List (Nat × Nat)) : Option (List (Nat × Nat)) :=
  if t w = false ∨ cov L (led g f w / 4) = true then some L else if bs q w = 64 ∨ hsq L (bs q w) = true then none else some (L ++ [(bs q w, led g f w)])
def rnd (g : Nat → Nat) (t : Nat → Bool) (q f : Nat) : Nat → List (Nat × Nat) → Option (List (Nat × Nat))
  | 0, L => some L
  | w + 1, L => (rnd g t q f w L).bind (one g t q f w)
def lay (g : Nat → Nat) (tr : Nat → Nat → Bool) (q0 f0 : Nat) : Nat → Option (List (Nat × Nat))
  | 0 => some [(q0, f0)]
  | k + 1 => (lay g tr q0 f0 k).bind (fun L => match L[k]? with
    | none => some L
    | some p => rnd g (tr (p.2 / 4)) p.1 p.2 4 L)
theorem rnd_s {g : Nat → Nat} {t : Nat → Bool} {q f w : Nat} {L L' : List (Nat × Nat)} (h : rnd g t q f w L = some L') : rnd g t q f (w + 1) L = one g t q f w L' := by
  show (rnd g t q f w L).bind _ = _
  rw [h]; rfl
theorem rnd_none {g : Nat → Nat} {t : Nat → Bool} {q f w : Nat} {L : List (Nat × Nat)} (h : rnd g t q f w L = none) : ∀ k, rnd g t q f (w + k) L = none
  | 0 => h
  | k + 1 => by
    show (rnd g t q f (w + k) L).bind _ = none
    rw [rnd_none h k]; rfl
theorem lay_s {g : Nat → Nat} {tr : Nat → Nat → Bool} {q0 f0 k : Nat} {L : List (Nat × Nat)} {p : Nat × Nat} (h : lay g tr q0 f0 k = some L) (hp : L[k]? = some p) : lay g tr q0 f0 (k + 1) = rnd g (tr (p.2 / 4)) p.1 p.2 4 L := by
  show (lay g tr q0 f0 k).bind _ = _
  rw [h]
  show (match L[k]? with | none => some L | some p => rnd g (tr (p.2 / 4)) p.1 p.2 4 L) = _
  rw [hp]
theorem lay_none {g : Nat → Nat} {tr : Nat → Nat → Bool} {q0 f0 k : Nat} (h : lay g tr q0 f0 k = none) : ∀ m, lay g tr q0 f0 (k + m) = none
  | 0 => h
  | m + 1 => by
    show (lay g tr q0 f0 (k + m)).bind _ = none
    rw [lay_none h m]; rfl
theorem lay_fix {g : Nat → Nat} {tr : Nat → Nat → Bool} {q0 f0 k : Nat} {L : List (Nat × Nat)} (h : lay g tr q0 f0 k = some L) (hl : L.length ≤ k) : ∀ m, lay g tr q0 f0 (k + m) = some L
  | 0 => h
  | m + 1 => by
    show (lay g tr q0 f0 (k + m)).bind _ = some L
    rw [lay_fix h hl m]
    show (match L[k + m]? with | none => some L | some p => rnd g (tr (p.2 / 4)) p.1 p.2 4 L) = _
    rw [List.getElem?_eq_none (by omega)]
/-! hanging together -/
def Cn (x : Nat → Bool) : Prop := ∀ R : Nat → Prop, (∃ q, x q = true ∧ R q) → (∀ q w, w < 4 → x q = true → R q → x (bs q w) = true → R (bs q w)) → ∀ q, x q = true → R q
theorem cn_one (q0 f0 : Nat) : Cn (hsq [(q0, f0)]) := by
  rintro R ⟨q, hq, hR⟩ _ q' hq'
  obtain ⟨p, hp, e⟩ := hsq_iff.mp hq
  obtain ⟨p', hp', e'⟩ := hsq_iff.mp hq'
  rw [List.mem_singleton] at hp hp'
  rw [hp] at e
  rw [hp'] at e'
  rw [← e', e]; exact hR
theorem cn_add {L : List (Nat × Nat)} {q w f : Nat} (h : Cn (hsq L)) (hq : hsq L q = true) (hw : w < 4) (hl : bs q w < 64) (hq64 : q < 64) : Cn (hsq (L ++ [(bs q w, f)])) := by
  rintro R ⟨a, ha, hRa⟩ hc
  have up : ∀ {r}, hsq L r = true → hsq (L ++ [(bs q w, f)]) r = true := fun hr => by rw [hsq_add, hr, Bool.true_or]
  have hnew : hsq (L ++ [(bs q w, f)]) (bs q w) = true := by rw [hsq_add, show (((bs q w, f) : Nat × Nat).1 == bs q w) = true from beq_iff_eq.mpr rfl, Bool.or_true]
  have hall : ∀ r, hsq L r = true → R r := by
    refine h R ?_ (fun r v hv hr hRr hb => hc r v hv (up hr) hRr (up hb))
    rw [hsq_add, Bool.or_eq_true] at ha
    rcases ha with ha | ha
    · exact ⟨a, ha, hRa⟩
    · have e : bs q w = a := eq_of_beq ha
      have hb := bs_back q hq64 w hw hl
      refine ⟨q, hq, ?_⟩
      have := hc (bs q w) ((w + 2) % 4) (by omega) hnew (by rw [e]; exact hRa) (by rw [hb]; exact up hq)
      rw [hb] at this
      exact this
  intro r hr
  rw [hsq_add, Bool.or_eq_true] at hr
  rcases hr with hr | hr
  · exact hall r hr
  · have e : bs q w = r := eq_of_beq hr
    rw [← e]
    exact hc q w hw (up hq) (hall q hq) hnew
theorem one_cn {g : Nat → Nat} {t : Nat → Bool} {q f w : Nat} {L L' : List (Nat × Nat)} (hw : w < 4) (hq64 : q < 64) (h : one g t q f w L = some L') (hc : Cn (hsq L)) (hq : hsq L q = true) : Cn (hsq L') ∧ hsq L' q = true := by
  unfold one at h
  by_cases c1 : t w = false ∨ cov L (led g f w / 4) = true
  · rw [if_pos c1] at h
    have e := Option.some.inj h
    rw [← e]; exact ⟨hc, hq⟩
  · rw [if_neg c1] at h
    by_cases c2 : bs q w = 64 ∨ hsq L (bs q w) = true
    · rw [if_pos c2] at h
      exact absurd h (by simp)
    · rw [if_neg c2] at h
      have e := Option.some.inj h
      have := bs_le q (by omega) w hw
      have hne : ¬ bs q w = 64 := fun e => c2 (Or.inl e)
      rw [← e]
      exact ⟨cn_add hc hq hw (by omega) hq64, by rw [hsq_add, hq, Bool.true_or]⟩
theorem rnd_cn {g : Nat → Nat} {t : Nat → Bool} {q f : Nat} {L : List (Nat × Nat)} (hq64 : q < 64) (hc : Cn (hsq L)) (hq : hsq L q = true) : ∀ (w : Nat) (L' : List (Nat × Nat)), w ≤ 4 → rnd g t q f w L = some L' → Cn (hsq L') ∧ hsq L' q = true
  | 0, L', _, h => by
    have e := Option.some.inj (show some L = some L' from h)
    rw [← e]; exact ⟨hc, hq⟩
  | w + 1, L', hw, h => by
    have h2 : (rnd g t q f w L).bind (one g t q f w) = some L' := h
    cases e : rnd g t q f w L with
    | none => rw [e] at h2; exact absurd h2 (by simp)
    | some L1 =>
      rw [e] at h2
      obtain ⟨a, b⟩ := rnd_cn hq64 hc hq w L1 (by omega) e
      exact one_cn (by omega) hq64 h2 a b
theorem one_sub {g : Nat → Nat} {t : Nat → Bool} {q f w : Nat} {L L' : List (Nat × Nat)} (h : one g t q f w L = some L') : ∀ r, r ∈ L → r ∈ L' := by
  intro r hr
  unfold one at h
  by_cases c1 : t w = false ∨ cov L (led g f w / 4) = true
  · rw [if_pos c1] at h
    have e := Option.some.inj h
    rw [← e]; exact hr
  · rw [if_neg c1] at h
    by_cases c2 : bs q w = 64 ∨ hsq L (bs q w) = true
    · rw [if_pos c2] at h
      exact absurd h (by simp)
    · rw [if_neg c2] at h
      have e := Option.some.inj h
      rw [← e]
      exact List.mem_append.mpr (Or.inl hr)
theorem rnd_sub {g : Nat → Nat} {t : Nat → Bool} {q f : Nat} {L : List (Nat × Nat)} : ∀ (w : Nat) (L' : List (Nat × Nat)), rnd g t q f w L = some L' → ∀ r, r ∈ L → r ∈ L'
  | 0, L', h, r, hr => by
    have e := Option.some.inj (show some L = some L' from h)
    rw [← e]; exact hr
  | w + 1, L', h, r, hr => by
    have h2 : (rnd g t q f w L).bind (one g t q f w) = some L' := h
    cases e : rnd g t q f w L with
    | none => rw [e] at h2; exact absurd h2 (by simp)
    | some L1 =>
      rw [e] at h2
      exact one_sub h2 r (rnd_sub w L1 e r hr)
theorem lay_cn {g : Nat → Nat} {tr : Nat → Nat → Bool} {q0 f0 : Nat} : ∀ (k : Nat) (L : List (Nat × Nat)), lay g tr q0 f0 k = some L → (∀ p, p ∈ L → p.1 < 64) → Cn (hsq L)
  | 0, L, h, _ => by
    have e := Option.some.inj (show some [(q0, f0)] = some L from h)
    rw [← e]; exact cn_one q0 f0
  | k + 1, L, h, hL => by
    have h2 : (lay g tr q0 f0 k).bind (fun L => match L[k]? with | none => some L | some p => rnd g (tr (p.2 / 4)) p.1 p.2 4 L) = some L := h
    cases e : lay g tr q0 f0 k with
    | none => rw [e] at h2; exact absurd h2 (by simp)
    | some L1 =>
      rw [e] at h2
      have h3 : (match L1[k]? with | none => some L1 | some p => rnd g (tr (p.2 / 4)) p.1 p.2 4 L1) = some L := h2
      cases ep : L1[k]? with
      | none =>
        rw [ep] at h3
        have e2 := Option.some.inj h3
        subst e2
        exact lay_cn k L1 e hL
      | some p =>
        rw [ep] at h3
        have hs : ∀ r, r ∈ L1 → r ∈ L := rnd_sub 4 L h3
        have hp := List.mem_of_getElem? ep
        exact (rnd_cn (hL p (hs p hp)) (lay_cn k L1 e (fun r hr => hL r (hs r hr))) (hsq_iff.mpr ⟨p, hp, rfl⟩) 4 L (Nat.le_refl _) h3).1

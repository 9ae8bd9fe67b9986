/-! ===== pure: how many gluings: codes ===== -/
def dig (n : Nat) : Nat → Nat → Nat
  | c, 0 => c % n
  | c, i + 1 => dig n (c / n) i
def encd (n : Nat) : Nat → (Nat → Nat) → Nat
  | 0, _ => 0
  | k + 1, q => q 0 + n * encd n k (fun i => q (i + 1))
theorem encd_lt {n : Nat} : ∀ (k : Nat) (q : Nat → Nat), (∀ i, i < k → q i < n) → encd n k q < n ^ k
  | 0, _, _ => Nat.zero_lt_one
  | k + 1, q, h => by
    have h0 := h 0 (Nat.succ_pos k)
    have hk := encd_lt k (fun i => q (i + 1)) (fun i hi => h (i + 1) (Nat.succ_lt_succ hi))
    show q 0 + n * encd n k (fun i => q (i + 1)) < n ^ (k + 1)
    rw [Nat.pow_succ, Nat.mul_comm (n ^ k) n]
    have h2 : n * (encd n k (fun i => q (i + 1)) + 1) ≤ n * n ^ k := Nat.mul_le_mul_left n hk
    rw [Nat.mul_add, Nat.mul_one] at h2
    omega
theorem dig_encd {n : Nat} : ∀ (k : Nat) (q : Nat → Nat), (∀ i, i < k → q i < n) → ∀ i, i < k → dig n (encd n k q) i = q i
  | 0, _, _, i, hi => absurd hi (Nat.not_lt_zero i)
  | k + 1, q, h, 0, _ => by
    have h0 := h 0 (Nat.succ_pos k)
    show (q 0 + n * encd n k (fun i => q (i + 1))) % n = q 0
    rw [Nat.add_mul_mod_self_left, Nat.mod_eq_of_lt h0]
  | k + 1, q, h, i + 1, hi => by
    have h0 := h 0 (Nat.succ_pos k)
    show dig n ((q 0 + n * encd n k (fun i => q (i + 1))) / n) i = q (i + 1)
    rw [Nat.add_mul_div_left _ _ (by omega), Nat.div_eq_of_lt h0, Nat.zero_add]
    exact dig_encd k (fun i => q (i + 1)) (fun i hi => h (i + 1) (Nat.succ_lt_succ hi)) i (Nat.lt_of_succ_lt_succ hi)
theorem dig_inj {n : Nat} : ∀ (k c c' : Nat), c < n ^ k → c' < n ^ k → (∀ i, i < k → dig n c i = dig n c' i) → c = c'
  | 0, c, c', h, h', _ => by
    rw [Nat.pow_zero] at h h'
    omega
  | k + 1, c, c', h, h', e => by
    have e0 : c % n = c' % n := e 0 (Nat.succ_pos k)
    rw [Nat.pow_succ] at h h'
    have hd : c / n < n ^ k := Nat.div_lt_of_lt_mul (by rw [Nat.mul_comm]; exact h)
    have hd' : c' / n < n ^ k := Nat.div_lt_of_lt_mul (by rw [Nat.mul_comm]; exact h')
    have e1 := dig_inj k (c / n) (c' / n) hd hd' (fun i hi => e (i + 1) (Nat.succ_lt_succ hi))
    have d1 := Nat.div_add_mod c n
    have d2 := Nat.div_add_mod c' n
    rw [e1, e0] at d1
    exact d1.symm.trans d2
theorem dig_lt {n : Nat} (hn : 0 < n) : ∀ (i c : Nat), dig n c i < n
  | 0, c => Nat.mod_lt c hn
  | i + 1, c => dig_lt hn i (c / n)
theorem sm_one {n i : Nat} (v : Nat) (hi : i < n) : fb_sm (fun t => if t = i then v else 0) n = v := by
  have h := fb_sm_upd (n := n) (fun _ => 0) v hi
  try dsimp only at h
  rw [fb_sm_const] at h
  omega
theorem ct_one {B c0 : Nat} (h : c0 < B) : fb_ct (fun c => decide (c = c0)) B = 1 := by
  have e : fb_sm (fun k => if (decide (k = c0)) = true then 1 else 0) B = fb_sm (fun t => if t = c0 then 1 else 0) B := fb_sm_cong fun k _ => by
    try dsimp only
    by_cases q : k = c0
    · rw [if_pos q, if_pos (decide_eq_true q)]
    · rw [if_neg q, if_neg (by rw [decide_eq_false q]; decide)]
  rw [ct_sm]
  exact e.trans (sm_one 1 h)
theorem ct_part {p : Nat → Bool} {g : Nat → Nat} {n : Nat} : ∀ {B : Nat}, (∀ c, c < B → p c = true → g c < n) → fb_ct p B = fb_sm (fun t => fb_ct (fun c => p c && decide (g c = t)) B) n
  | 0, _ => by
    show 0 = fb_sm (fun _ => 0) n
    rw [fb_sm_const]
    rfl
  | B + 1, h => by
    have e : fb_sm (fun t => fb_ct (fun c => p c && decide (g c = t)) (B + 1)) n = fb_sm (fun t => fb_ct (fun c => p c && decide (g c = t)) B + (if t = g B then (if p B = true then 1 else 0) else 0)) n := fb_sm_cong fun t _ => by
      try dsimp only
      rw [fb_ct_succ]
      have w : (if (p B && decide (g B = t)) = true then 1 else 0) = (if t = g B then (if p B = true then 1 else 0) else 0 : Nat) := by
        by_cases q : t = g B
        · rw [if_pos q, decide_eq_true q.symm, Bool.and_true]
        · rw [if_neg q]
          exact if_neg (by rw [decide_eq_false (fun w => q w.symm), Bool.and_false]; decide)
      rw [w]
    have z : fb_sm (fun t => if t = g B then (if p B = true then 1 else 0) else 0) n = (if p B = true then 1 else 0) := by
      by_cases c : p B = true
      · exact sm_one _ (h B (Nat.lt_succ_self B) c)
      · have c0 : (if p B = true then 1 else 0 : Nat) = 0 := if_neg c
        rw [c0, fb_sm_cong (g := fun _ => 0) (fun t _ => by (try dsimp only); split <;> rfl), fb_sm_const]
        rfl
    rw [fb_ct_succ, ct_part (fun c hc => h c (Nat.lt_succ_of_lt hc)), e, fb_sm_add, z]
def gEx (n : Nat) (P q : Nat → Nat) : Prop := ∀ k, k < n → P k = 99 ∨ q k = P k
noncomputable def gOk (n : Nat) (J : (Nat → Nat) → Bool) (P : Nat → Nat) (c : Nat) : Bool := @decide (gEx n P (dig n c) ∧ Glu n (dig n c) ∧ J (dig n c) = true) (Classical.propDecidable _)
theorem gok_iff {n : Nat} {J : (Nat → Nat) → Bool} {P : Nat → Nat} {c : Nat} : gOk n J P c = true ↔ gEx n P (dig n c) ∧ Glu n (dig n c) ∧ J (dig n c) = true := @decide_eq_true_iff _ (Classical.propDecidable _)
noncomputable def gCt (n : Nat) (J : (Nat → Nat) → Bool) (P : Nat → Nat) : Nat := fb_ct (gOk n J P) (n ^ n)
def gJC (n : Nat) (J : (Nat → Nat) → Bool) : Prop := ∀ q q', (∀ k, k < n → q k = q' k) → J q = J q'
theorem glu_cong {n : Nat} {p q : Nat → Nat} (e : ∀ k, k < n → p k = q k) (h : Glu n p) : Glu n q := by
  intro i hi
  obtain ⟨h1, h2, h3, h4⟩ := h i hi
  rw [e i hi] at h1 h2 h3 h4
  rw [e _ h1] at h3
  refine ⟨h1, h2, h3, fun k q1 q2 => ?_⟩
  have := h4 k q1 q2
  rw [e k (by omega)] at this
  exact this
theorem gct_leaf {n : Nat} {J : (Nat → Nat) → Bool} {P : Nat → Nat} (hJ : gJC n J) (h : PI n P) (hl : ¬ lf P n < n) : gCt n J P = if J P then 1 else 0 := by
  have hG := pi_glu h hl
  obtain ⟨g1, g2, g3⟩ := lf_ok P n
  have hne : ∀ k, k < n → ¬ P k = 99 := fun k hk => g2 k (by omega)
  have hlt : ∀ k, k < n → P k < n := fun k hk => (hG k hk).1
  have heq : ∀ k, k < n → dig n (encd n n P) k = P k := dig_encd n P hlt
  have ok : ∀ c, c < n ^ n → (gOk n J P c = true ↔ c = encd n n P ∧ J P = true) := by
    intro c hc
    rw [gok_iff]
    constructor
    · rintro ⟨q1, q2, q3⟩
      have e : ∀ k, k < n → dig n c k = P k := fun k hk => (q1 k hk).resolve_left (hne k hk)
      refine ⟨dig_inj n c _ hc (encd_lt n P hlt) (fun i hi => by rw [e i hi, heq i hi]), ?_⟩
      rw [← hJ _ _ e]; exact q3
    · rintro ⟨q1, q2⟩
      rw [q1]
      exact ⟨fun k hk => Or.inr (heq k hk), glu_cong (fun k hk => (heq k hk).symm) hG, by rw [hJ _ _ heq]; exact q2⟩
  unfold gCt
  by_cases c : J P = true
  · have e1 : fb_ct (gOk n J P) (n ^ n) = fb_ct (fun c => decide (c = encd n n P)) (n ^ n) := fb_ct_cong fun k hk => by
      rw [Bool.eq_iff_iff, ok k hk]
      exact ⟨fun w => decide_eq_true w.1, fun w => ⟨of_decide_eq_true w, c⟩⟩
    rw [if_pos c, e1]
    exact ct_one (encd_lt n P hlt)
  · rw [if_neg c]
    exact fb_ct_zero.mpr (fun k hk => Bool.eq_false_iff.mpr (fun w => c ((ok k hk).mp w).2))
/-- a part that is its own partner is even -/
theorem par_even {n : Nat} {q : Nat → Nat} (hg : Glu n q) : ∀ (m i j : Nat), j - i ≤ m → i ≤ j → j ≤ n → (∀ k, i ≤ k → k < j → i ≤ q k ∧ q k < j) → (j - i) % 2 = 0
  | 0, i, j, h, h1, _, _ => by omega
  | m + 1, i, j, h, h1, h2, hc => by
    by_cases e : i = j
    · omega
    · obtain ⟨b1, b2⟩ := hc i (Nat.le_refl _) (by omega)
      obtain ⟨g1, g2, g3, g4⟩ := hg i (by omega)
      have e1 := par_even hg m (i + 1) (q i) (by omega) (by omega) (by omega) (fun k k1 k2 => by
        have := g4 k (by omega) k2
        omega)
      have e2 := par_even hg m (q i + 1) j (by omega) (by omega) h2 (fun k k1 k2 => by
        obtain ⟨c1, c2⟩ := hc k (by omega) k2
        obtain ⟨f1, f2, f3, f4⟩ := hg k (by omega)
        have n1 : ¬ q k = i := fun w => by
          rw [w] at f3
          omega
        have n2 : ¬ q k = q i := fun w => by
          rw [w, g3] at f3
          omega
        have n3 : ¬ q k < q i := fun w => by
          have := g4 (q k) (by omega) w
          rw [f3] at this
          omega
        omega)
      omega
def Low (n : Nat) (P : Nat → Nat) : Prop := ∀ k, k < n → P k = 99 ∨ k < lf P n ∨ P k < lf P n
theorem low_0 (n : Nat) : Low n (fun _ => 99) := fun _ _ => Or.inl rfl
theorem low_u2 {n : Nat} {P : Nat → Nat} {t : Nat} (hn : n ≤ 96) (h : Low n P) (hl : lf P n < n) (ho : Opt n P (lf P n) t) : Low n (u2 P (lf P n) t) := by
  obtain ⟨g1, g2, g3⟩ := lf_ok P n
  unfold Low at h
  generalize lf P n = a at *
  obtain ⟨o1, o2, o3, o4⟩ := ho
  have eo : ∀ k, ¬ k = a → ¬ k = t → u2 P a t k = P k := fun k q1 q2 => by
    unfold u2
    rw [if_neg q1, if_neg q2]
  obtain ⟨f1, f2, f3⟩ := lf_ok (u2 P a t) n
  have hlt : a < lf (u2 P a t) n := by
    rcases Nat.lt_or_ge a (lf (u2 P a t) n) with q | q
    · exact q
    · have w := f3 (by omega)
      exfalso
      by_cases c : lf (u2 P a t) n = a
      · rw [c] at w
        have e : u2 P a t a = t := if_pos rfl
        omega
      · rw [eo _ c (by omega)] at w
        exact g2 _ (by omega) w
  intro k hk
  by_cases c1 : k = a
  · right; left; omega
  by_cases c2 : k = t
  · right; right
    have : u2 P a t k = a := by
      unfold u2
      rw [if_neg c1, if_pos c2]
    omega
  rw [eo k c1 c2]
  rcases h k hk with q | q | q
  · exact Or.inl q
  · right; left; omega
  · right; right; omega
theorem key_a {n : Nat} {P q : Nat → Nat} (hn : n ≤ 96) (h : PI n P) (hL : Low n P) (hl : lf P n < n) (he : gEx n P q) (hg : Glu n q) : Opt n P (lf P n) (q (lf P n)) ∧ gEx n (u2 P (lf P n) (q (lf P n))) q := by
  obtain ⟨g1, g2, g3⟩ := lf_ok P n
  unfold Low at hL
  generalize lf P n = a at *
  have ha := g3 hl
  obtain ⟨b1, b2, b3, b4⟩ := hg a hl
  have nq : P (q a) = 99 := by
    refine Classical.byContradiction fun c => ?_
    have e1 := (he (q a) b1).resolve_left c
    rw [b3] at e1
    rcases h (q a) b1 with w | ⟨w1, w2, w3, w4⟩
    · exact c w
    · rw [← e1, ha] at w3
      omega
  have hlt : a < q a := by
    rcases Nat.lt_or_ge a (q a) with w | w
    · exact w
    · exact absurd nq (g2 (q a) (by omega))
  refine ⟨⟨hlt, b1, ?_, fun k k1 k2 => ?_⟩, fun k hk => ?_⟩
  · have := par_even hg n (a + 1) (q a) (by omega) hlt (by omega) (fun k k1 k2 => by
      have := b4 k (by omega) k2
      omega)
    omega
  · refine Classical.byContradiction fun c => ?_
    by_cases e : k = q a
    · rw [e] at c; exact c nq
    · have e1 := (he k (by omega)).resolve_left c
      have := b4 k k1 (by omega)
      rcases hL k (by omega) with w | w | w
      · exact c w
      · omega
      · omega
  · unfold u2
    by_cases c1 : k = a
    · right; rw [if_pos c1, c1]
    · by_cases c2 : k = q a
      · right; rw [if_neg c1, if_pos c2, c2]; exact b3
      · rw [if_neg c1, if_neg c2]; exact he k hk
theorem key_b {n : Nat} {P q : Nat → Nat} {t : Nat} (hn : n ≤ 96) (hl : lf P n < n) (ho : Opt n P (lf P n) t) (he : gEx n (u2 P (lf P n) t) q) : gEx n P q ∧ q (lf P n) = t := by
  have ha := (lf_ok P n).2.2 hl
  generalize lf P n = a at *
  obtain ⟨o1, o2, o3, o4⟩ := ho
  have ht := o4 t o1 (Nat.le_refl _)
  refine ⟨fun k hk => ?_, ?_⟩
  · have w := he k hk
    unfold u2 at w
    by_cases c1 : k = a
    · left; rw [c1]; exact ha
    by_cases c2 : k = t
    · left; rw [c2]; exact ht
    rw [if_neg c1, if_neg c2] at w
    exact w
  · have w := he a hl
    unfold u2 at w
    rw [if_pos rfl] at w
    rcases w with w | w
    · omega
    · exact w
theorem gct_step {n : Nat} {J : (Nat → Nat) → Bool} {P : Nat → Nat} (hn : n ≤ 96) (h : PI n P) (hL : Low n P) (hl : lf P n < n) : gCt n J P = fb_sm (fun t => if opt n P (lf P n) t then gCt n J (u2 P (lf P n) t) else 0) n := by
  have e0 : gCt n J P = fb_sm (fun t => fb_ct (fun c => gOk n J P c && decide (dig n c (lf P n) = t)) (n ^ n)) n := ct_part (p := gOk n J P) (g := fun c => dig n c (lf P n)) (n := n) (fun c _ _ => dig_lt (by omega) _ _)
  rw [e0]
  refine fb_sm_cong fun t ht => ?_
  try dsimp only
  by_cases ho : opt n P (lf P n) t = true
  · rw [if_pos ho]
    refine fb_ct_cong fun c hc => ?_
    rw [Bool.eq_iff_iff, Bool.and_eq_true, decide_eq_true_iff, gok_iff, gok_iff]
    constructor
    · rintro ⟨⟨q1, q2, q3⟩, q4⟩
      have w := (key_a hn h hL hl q1 q2).2
      rw [q4] at w
      exact ⟨w, q2, q3⟩
    · rintro ⟨q1, q2, q3⟩
      obtain ⟨w1, w2⟩ := key_b hn hl (opt_iff.mp ho) q1
      exact ⟨⟨w1, q2, q3⟩, w2⟩
  · rw [if_neg ho]
    refine fb_ct_zero.mpr fun c hc => Bool.eq_false_iff.mpr fun w => ?_
    rw [Bool.and_eq_true, decide_eq_true_iff, gok_iff] at w
    obtain ⟨⟨q1, q2, q3⟩, q4⟩ := w
    have w := (key_a hn h hL hl q1 q2).1
    rw [q4] at w
    exact ho (opt_iff.mpr w)
theorem vv_ct {n : Nat} {J : (Nat → Nat) → Bool} (hn : n ≤ 96) (hJ : gJC n J) : ∀ (f : Nat) (P : Nat → Nat), PI n P → Low n P → n < cpr n P + 2 * f → VV n 0 J f P = gCt n J P
  | 0, P, _, _, hf => absurd (cpr_le n P) (by omega)
  | f + 1, P, h, hL, hf => by
    show (if lf P n < n then fb_sm (fun t => if opt n P (lf P n) t then 0 + VV n 0 J f (u2 P (lf P n) t) else 0) n else if J P then 1 else 0) = _
    by_cases c : lf P n < n
    · rw [if_pos c, gct_step hn h hL c]
      refine fb_sm_cong fun t ht => ?_
      try dsimp only
      by_cases ho : opt n P (lf P n) t = true
      · rw [if_pos ho, if_pos ho, Nat.zero_add]
        have o := opt_iff.mp ho
        exact vv_ct hn hJ f _ (pi_u2 hn h c o) (low_u2 hn hL c o) (by
          rw [cpr_u2 hn c o.2.1 (by have := o.1; omega) ((lf_ok P n).2.2 c) (o.2.2.2 t o.1 (Nat.le_refl _))]
          omega)
      · rw [if_neg ho, if_neg ho]
    · rw [if_neg c, gct_leaf hJ h c]
theorem eq9_cong {n : Nat} {p p' : Nat → Nat} {a b : Nat} (e : ∀ i, i < n → p i = p' i) (h : Eq9 n p a b) : Eq9 n p' a b := fun R h1 h2 h3 h4 => h R h1 h2 h3 (fun i hi => by rw [e i hi]; exact h4 i hi)
theorem lab_cong {n : Nat} {p p' L : Nat → Nat} (e : ∀ i, i < n → p i = p' i) (h : Lab n p L) : Lab n p' L := ⟨h.1, fun i hi => eq9_cong e (h.2.1 i hi), fun i hi => by rw [← e i hi]; exact h.2.2 i hi⟩
theorem jl_cong {n : Nat} {a p p' : Nat → Nat} (e : ∀ i, i < n → p i = p' i) (h : JL n a p) : JL n a p' := by
  obtain ⟨L, hL, q⟩ := h
  exact ⟨L, lab_cong e hL, q⟩
theorem jb_cong (n : Nat) (a : Nat → Nat) : gJC n (JB n a) := fun q q' e => by
  rw [Bool.eq_iff_iff, jb_iff, jb_iff]
  exact ⟨jl_cong e, jl_cong (fun i hi => (e i hi).symm)⟩
theorem ll_ct {n : Nat} (hn : n ≤ 50) (a : Nat → Nat) : LLt n a = gCt n (JB n a) (fun _ => 99) := vv_ct (by omega) (jb_cong n a) 30 _ (pi_0 n) (low_0 n) (by rw [cpr_0]; omega)
/-- gluings carried over, none upon another's -/
theorem ll_le {n : Nat} {a b : Nat → Nat} (hn : n ≤ 50) (Φ : (Nat → Nat) → Nat → Nat) (h1 : ∀ q, Glu n q → Glu n (Φ q)) (h2 : ∀ q, Glu n q → JL n a q → JL n b (Φ q)) (h3 : ∀ q q', Glu n q → Glu n q' → (∀ i, i < n → Φ q i = Φ q' i) → ∀ i, i < n → q i = q' i) : LLt n a ≤ LLt n b := by
  rw [ll_ct hn, ll_ct hn]
  have enc : ∀ c, gOk n (JB n a) (fun _ => 99) c = true → encd n n (Φ (dig n c)) < n ^ n ∧ (∀ i, i < n → dig n (encd n n (Φ (dig n c))) i = Φ (dig n c) i) ∧ Glu n (dig n c) ∧ gOk n (JB n b) (fun _ => 99) (encd n n (Φ (dig n c))) = true := by
    intro c hc
    obtain ⟨_, q2, q3⟩ := gok_iff.mp hc
    have g := h1 _ q2
    have hlt : ∀ i, i < n → Φ (dig n c) i < n := fun i hi => (g i hi).1
    have he := dig_encd n (Φ (dig n c)) hlt
    refine ⟨encd_lt n _ hlt, he, q2, gok_iff.mpr ⟨fun _ _ => Or.inl rfl, glu_cong (fun k hk => (he k hk).symm) g, jb_iff.mpr (jl_cong (fun k hk => (he k hk).symm) (h2 _ q2 (jb_iff.mp q3)))⟩⟩
  have im : ∀ e, @decide (∃ c, c < n ^ n ∧ gOk n (JB n a) (fun _ => 99) c = true ∧ encd n n (Φ (dig n c)) = e) (Classical.propDecidable _) = true ↔ (∃ c, c < n ^ n ∧ gOk n (JB n a) (fun _ => 99) c = true ∧ encd n n (Φ (dig n c)) = e) := fun e => @decide_eq_true_iff _ (Classical.propDecidable _)
  have s := sm_bij (fun c => encd n n (Φ (dig n c))) (n ^ n) (fun _ => 1) (gOk n (JB n a) (fun _ => 99)) (n ^ n) (fun e => @decide (∃ c, c < n ^ n ∧ gOk n (JB n a) (fun _ => 99) c = true ∧ encd n n (Φ (dig n c)) = e) (Classical.propDecidable _)) (fun c hc hp => ⟨(enc c hp).1, (im _).mpr ⟨c, hc, hp, rfl⟩⟩) (fun c c' hc hc' hp hp' e => by
    obtain ⟨e1, e2, e3, e4⟩ := enc c hp
    obtain ⟨f1, f2, f3, f4⟩ := enc c' hp'
    try dsimp only at e
    refine dig_inj n c c' hc hc' (h3 _ _ e3 f3 (fun i hi => ?_))
    rw [← e2 i hi, ← f2 i hi, e]) (fun e _ hq => (im e).mp hq)
  unfold gCt
  rw [ct_sm, ← s, ← ct_sm]
  refine fb_ct_sub fun e he hq => ?_
  obtain ⟨c, hc, hp, rfl⟩ := (im e).mp hq
  exact (enc c hp).2.2.2

/-! ===== pure: gluings: pairs that don't cross, points that come together ===== -/
def Glu (n : Nat) (p : Nat → Nat) : Prop := ∀ i, i < n → p i < n ∧ ¬ p i = i ∧ p (p i) = i ∧ ∀ k, i < k → k < p i → i < p k ∧ p k < p i
/-- points that come together -/
def Eq9 (n : Nat) (p : Nat → Nat) (a b : Nat) : Prop := ∀ R : Nat → Nat → Prop, (∀ a, R a a) → (∀ a b, R a b → R b a) → (∀ a b c, R a b → R b c → R a c) → (∀ i, i < n → R i ((p i + 1) % n)) → R a b
theorem eq9_rf {n : Nat} {p : Nat → Nat} (a : Nat) : Eq9 n p a a := fun _ h _ _ _ => h a
theorem eq9_sy {n : Nat} {p : Nat → Nat} {a b : Nat} (h : Eq9 n p a b) : Eq9 n p b a := fun R h1 h2 h3 h4 => h2 _ _ (h R h1 h2 h3 h4)
theorem eq9_tr {n : Nat} {p : Nat → Nat} {a b c : Nat} (h : Eq9 n p a b) (g : Eq9 n p b c) : Eq9 n p a c := fun R h1 h2 h3 h4 => h3 _ _ _ (h R h1 h2 h3 h4) (g R h1 h2 h3 h4)
theorem eq9_st {n : Nat} {p : Nat → Nat} {i : Nat} (hi : i < n) : Eq9 n p i ((p i + 1) % n) := fun _ _ _ _ h4 => h4 i hi
/-- a label for each point: the least one that is together with it -/
def Lab (n : Nat) (p L : Nat → Nat) : Prop := (∀ i, i < n → L i ≤ i) ∧ (∀ i, i < n → Eq9 n p i (L i)) ∧ (∀ i, i < n → L i = L ((p i + 1) % n))
theorem lab_c {n : Nat} {p L : Nat → Nat} (h : ∀ i, i < n → L i = L ((p i + 1) % n)) {a b : Nat} (hE : Eq9 n p a b) (ha : a < n) (hb : b < n) : L a = L b := by
  have := hE (fun a b => (if a < n then L a else n + a) = (if b < n then L b else n + b)) (fun _ => rfl) (fun _ _ e => e.symm) (fun _ _ _ e f => e.trans f) (fun i hi => by
    try dsimp only
    rw [if_pos hi, if_pos (Nat.mod_lt _ (by omega))]
    exact h i hi)
  try dsimp only at this
  rw [if_pos ha, if_pos hb] at this
  exact this
theorem lab_one {n : Nat} {p L T : Nat → Nat} (h : Lab n p L) (h' : Lab n p T) : ∀ i, i < n → L i = T i := by
  intro i hi
  have a1 := h.1 i hi
  have a2 := h'.1 i hi
  have b1 := lab_c h.2.2 (h'.2.1 i hi) hi (by omega)
  have b2 := lab_c h'.2.2 (h.2.1 i hi) hi (by omega)
  have c1 := h.1 (T i) (by omega)
  have c2 := h'.1 (L i) (by omega)
  omega
/-- the class's labels -/
def TL (n : Nat) (p T : Nat → Nat) : Prop := T 0 = 0 ∧ ∀ i, i + 1 < n → T (i + 1) = if p i < i + 1 then T (p i) else i + 1
theorem tl_le {n : Nat} {p T : Nat → Nat} (h : TL n p T) : ∀ m i, i ≤ m → i < n → T i ≤ i
  | m, 0, _, _ => by rw [h.1]; exact Nat.le_refl _
  | 0, i + 1, hm, _ => by omega
  | m + 1, i + 1, hm, hi => by
    rw [h.2 i hi]
    by_cases c : p i < i + 1
    · rw [if_pos c]
      have := tl_le h m (p i) (by omega) (by omega)
      omega
    · rw [if_neg c]; exact Nat.le_refl _
theorem tl_eq {n : Nat} {p T : Nat → Nat} (hg : Glu n p) (h : TL n p T) : ∀ m i, i ≤ m → i < n → Eq9 n p i (T i)
  | m, 0, _, _ => by rw [h.1]; exact eq9_rf 0
  | 0, i + 1, hm, _ => by omega
  | m + 1, i + 1, hm, hi => by
    rw [h.2 i hi]
    by_cases c : p i < i + 1
    · rw [if_pos c]
      have hp := hg i (by omega)
      have h1 := eq9_st (n := n) (p := p) (i := p i) (by omega)
      rw [hp.2.2.1, Nat.mod_eq_of_lt hi] at h1
      exact eq9_tr (eq9_sy h1) (tl_eq hg h m (p i) (by omega) (by omega))
    · rw [if_neg c]; exact eq9_rf _
/-- within a part that is glued to itself all ends are together -/
theorem tl_top {n : Nat} {p T : Nat → Nat} (hg : Glu n p) (h : TL n p T) {a : Nat} : ∀ m j, j ≤ m → a ≤ j → j < n → (∀ k, a ≤ k → k < j → a ≤ p k ∧ p k < j) → T j = T a := by
  intro m
  induction m with
  | zero =>
    intro j hj ha _ _
    have : j = a := by omega
    rw [this]
  | succ m ih =>
    intro j hj ha hn hc
    by_cases e : j = a
    · rw [e]
    · obtain ⟨k, rfl⟩ : ∃ k, j = k + 1 := ⟨j - 1, by omega⟩
      have hk := hc k (by omega) (by omega)
      have hp := hg k (by omega)
      rw [h.2 k hn, if_pos hk.2]
      refine ih (p k) (by omega) hk.1 (by omega) (fun i h1 h2 => ?_)
      have hi := hc i h1 (by omega)
      refine ⟨hi.1, ?_⟩
      have hpi := hg i (by omega)
      rcases Nat.lt_trichotomy (p i) (p k) with q | q | q
      · exact q
      · exfalso
        have : i = k := by rw [← hpi.2.2.1, ← hp.2.2.1, q]
        have := hp.2.1
        omega
      · exfalso
        have := (hpi.2.2.2 (p k) h2 q).2
        rw [hp.2.2.1] at this
        omega
theorem tl_lab {n : Nat} {p T : Nat → Nat} (hg : Glu n p) (h : TL n p T) : Lab n p T := by
  refine ⟨fun i hi => tl_le h i i (Nat.le_refl _) hi, fun i hi => tl_eq hg h i i (Nat.le_refl _) hi, fun i hi => ?_⟩
  have hp := hg i hi
  rcases Nat.lt_trichotomy (p i) i with q | q | q
  · -- an edge that ends a pair
    rw [Nat.mod_eq_of_lt (show p i + 1 < n by omega)]
    refine tl_top hg h i i (Nat.le_refl _) (by omega) hi (fun k h1 h2 => ?_)
    have := (hg (p i) hp.1).2.2.2 k (by omega) (by rw [hp.2.2.1]; exact h2)
    rw [hp.2.2.1] at this
    omega
  · exact absurd q hp.2.1
  · -- an edge that begins a pair
    by_cases c : p i + 1 < n
    · rw [Nat.mod_eq_of_lt c, h.2 _ c, hp.2.2.1, if_pos (by omega)]
    · have e : p i + 1 = n := by omega
      rw [e, Nat.mod_self]
      refine tl_top hg h i i (Nat.le_refl _) (Nat.zero_le _) hi (fun k _ h2 => ⟨Nat.zero_le _, ?_⟩)
      have hk := hg k (by omega)
      rcases Nat.lt_trichotomy (p k) i with w | w | w
      · exact w
      · exfalso
        have : k = p i := by rw [← hk.2.2.1, w]
        omega
      · exfalso
        have := (hk.2.2.2 i h2 w).2
        omega
/-- quarters at a corner -/
def csm (n : Nat) (L a : Nat → Nat) (i : Nat) : Nat := fb_sm (fun k => if L k = i then a k else 0) n
theorem csm_pos {n : Nat} {p L a : Nat → Nat} (h : Lab n p L) (ha : ∀ k, k < n → 1 ≤ a k) {i : Nat} (hi : i < n) : 0 < csm n L a i ↔ L i = i := by
  unfold csm
  constructor
  · intro q
    refine Classical.byContradiction fun hne => ?_
    have : fb_sm (fun k => if L k = i then a k else 0) n = fb_sm (fun _ => 0) n := fb_sm_cong fun k hk => by
      by_cases c : L k = i
      · exfalso
        have := lab_c h.2.2 (h.2.1 k hk) hk (by have := h.1 k hk; omega)
        rw [c] at this
        exact hne this.symm
      · rw [if_neg c]
    rw [this, fb_sm_const] at q
    omega
  · intro e
    have := fb_sm_part (fun k => if L k = i then a k else 0) hi
    try dsimp only at this
    rw [if_pos e] at this
    have := ha i hi
    omega
theorem csm_cong {n : Nat} {L L' a : Nat → Nat} (h : ∀ i, i < n → L i = L' i) (i : Nat) : csm n L a i = csm n L' a i := fb_sm_cong fun k hk => by rw [h k hk]
theorem sm_lt {f g : Nat → Nat} {i : Nat} : ∀ {n : Nat}, (∀ k, k < n → f k ≤ g k) → i < n → f i < g i → fb_sm f n < fb_sm g n
  | 0, _, hi, _ => absurd hi (Nat.not_lt_zero i)
  | n + 1, h, hi, hl => by
    rw [fb_sm_succ, fb_sm_succ]
    by_cases e : i = n
    · have h1 := fb_sm_le (n := n) (f := f) (g := g) (fun k hk => h k (by omega))
      rw [e] at hl
      omega
    · have h1 := sm_lt (n := n) (fun k hk => h k (by omega)) (show i < n by omega) hl
      have h2 := h n (by omega)
      omega

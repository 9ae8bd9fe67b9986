/-! ===== pure: seeking gluings: pairs made one after the other ===== -/
/-- least free edge; 99: free -/
def lf (P : Nat → Nat) : Nat → Nat
  | 0 => 0
  | n + 1 => if lf P n < n then lf P n else if P n = 99 then n else n + 1
theorem lf_ok (P : Nat → Nat) : ∀ n, lf P n ≤ n ∧ (∀ k, k < lf P n → ¬ P k = 99) ∧ (lf P n < n → P (lf P n) = 99)
  | 0 => ⟨Nat.le_refl _, fun k hk => absurd hk (Nat.not_lt_zero k), fun c => absurd c (Nat.not_lt_zero _)⟩
  | n + 1 => by
    obtain ⟨h1, h2, h3⟩ := lf_ok P n
    show (if lf P n < n then lf P n else if P n = 99 then n else n + 1) ≤ n + 1 ∧ (∀ k, k < (if lf P n < n then lf P n else if P n = 99 then n else n + 1) → ¬ P k = 99) ∧ ((if lf P n < n then lf P n else if P n = 99 then n else n + 1) < n + 1 → P (if lf P n < n then lf P n else if P n = 99 then n else n + 1) = 99)
    by_cases c : lf P n < n
    · rw [if_pos c]
      exact ⟨by omega, h2, fun _ => h3 c⟩
    · rw [if_neg c]
      have e : lf P n = n := by omega
      rw [e] at h2
      by_cases c2 : P n = 99
      · rw [if_pos c2]
        exact ⟨by omega, h2, fun _ => c2⟩
      · rw [if_neg c2]
        refine ⟨Nat.le_refl _, fun k hk => ?_, fun c => absurd c (Nat.lt_irrefl _)⟩
        rcases Nat.lt_or_ge k n with q | q
        · exact h2 k q
        · have ek : k = n := by omega
          rw [ek]; exact c2
theorem lf_one {P : Nat → Nat} {n a : Nat} (h1 : a ≤ n) (h2 : ∀ k, k < a → ¬ P k = 99) (h3 : a < n → P a = 99) : a = lf P n := by
  obtain ⟨g1, g2, g3⟩ := lf_ok P n
  rcases Nat.lt_trichotomy a (lf P n) with q | q | q
  · exact absurd (h3 (by omega)) (g2 a q)
  · exact q
  · exact absurd (g3 (by omega)) (h2 _ q)
def Opt (n : Nat) (P : Nat → Nat) (a t : Nat) : Prop := a < t ∧ t < n ∧ (t - a) % 2 = 1 ∧ ∀ k, a < k → k ≤ t → P k = 99
noncomputable def opt (n : Nat) (P : Nat → Nat) (a t : Nat) : Bool := @decide (Opt n P a t) (Classical.propDecidable _)
theorem opt_iff {n : Nat} {P : Nat → Nat} {a t : Nat} : opt n P a t = true ↔ Opt n P a t := @decide_eq_true_iff _ (Classical.propDecidable _)
def u2 (P : Nat → Nat) (a t : Nat) : Nat → Nat := fun k => if k = a then t else if k = t then a else P k
/-- weighed: c for each try, one for each end that is good -/
noncomputable def VV (n c : Nat) (J : (Nat → Nat) → Bool) : Nat → (Nat → Nat) → Nat
  | 0, _ => 0
  | f + 1, P => if lf P n < n then fb_sm (fun t => if opt n P (lf P n) t then c + VV n c J f (u2 P (lf P n) t) else 0) n else if J P then 1 else 0
/-- what is still to come at a node, from s on -/
noncomputable def RS (n c : Nat) (J : (Nat → Nat) → Bool) (f : Nat) (P : Nat → Nat) (a s : Nat) : Nat := fb_sm (fun t => if s ≤ t then (if opt n P a t then c + VV n c J f (u2 P a t) else 0) else 0) n
theorem rs_all {n c : Nat} {J : (Nat → Nat) → Bool} {f : Nat} {P : Nat → Nat} (h : lf P n < n) : RS n c J f P (lf P n) (lf P n) = VV n c J (f + 1) P := by
  show _ = (if lf P n < n then fb_sm (fun t => if opt n P (lf P n) t then c + VV n c J f (u2 P (lf P n) t) else 0) n else if J P then 1 else 0)
  rw [if_pos h]
  unfold RS
  refine fb_sm_cong fun t ht => ?_
  by_cases q : lf P n ≤ t
  · rw [if_pos q]
  · rw [if_neg q]
    have : ¬ opt n P (lf P n) t = true := fun w => by
      have := (opt_iff.mp w).1
      omega
    rw [if_neg this]
theorem sm_from {f : Nat → Nat} {s : Nat} : ∀ {n : Nat}, s < n → fb_sm (fun t => if s ≤ t then f t else 0) n = f s + fb_sm (fun t => if s + 1 ≤ t then f t else 0) n
  | 0, h => absurd h (Nat.not_lt_zero s)
  | n + 1, h => by
    rw [fb_sm_succ, fb_sm_succ]
    by_cases e : s = n
    · subst e
      have z : ∀ k, fb_sm (fun t => if k + s ≤ t then f t else 0) s = 0 := fun k => by
        rw [fb_sm_cong (g := fun _ => 0) (fun t ht => if_neg (by omega)), fb_sm_const]
        omega
      have z0 := z 0
      have z1 := z 1
      rw [Nat.zero_add] at z0
      rw [Nat.add_comm 1 s] at z1
      rw [z0, z1, if_pos (Nat.le_refl _), if_neg (by omega)]
      omega
    · rw [sm_from (show s < n by omega), if_pos (show s ≤ n by omega), if_pos (show s + 1 ≤ n by omega)]
      omega
theorem sm_none {f : Nat → Nat} {s n : Nat} (h : ∀ t, t < n → s ≤ t → f t = 0) : fb_sm (fun t => if s ≤ t then f t else 0) n = 0 := by
  rw [fb_sm_cong (g := fun _ => 0) (fun t ht => by
    by_cases q : s ≤ t
    · rw [if_pos q]; exact h t ht q
    · rw [if_neg q]), fb_sm_const]
  omega
/-- the next one is tried -/
theorem rs_step {n c : Nat} {J : (Nat → Nat) → Bool} {f : Nat} {P : Nat → Nat} {a s : Nat} (hp : (s - a) % 2 = 0) (hs : a ≤ s) (ho : Opt n P a (s + 1)) : RS n c J f P a s = c + VV n c J f (u2 P a (s + 1)) + RS n c J f P a (s + 2) := by
  have hlt := ho.2.1
  have hno : ¬ opt n P a s = true := fun w => by
    have := (opt_iff.mp w).2.2.1
    omega
  unfold RS
  rw [sm_from (f := fun t => if opt n P a t then c + VV n c J f (u2 P a t) else 0) (show s < n by omega), sm_from (f := fun t => if opt n P a t then c + VV n c J f (u2 P a t) else 0) hlt]
  try dsimp only
  rw [if_neg hno, if_pos (opt_iff.mpr ho)]
  exact Nat.zero_add _
theorem rs_none {n c : Nat} {J : (Nat → Nat) → Bool} {f : Nat} {P : Nat → Nat} {a s : Nat} (hp : (s - a) % 2 = 0) (hs : a ≤ s) (ho : ¬ Opt n P a (s + 1)) : RS n c J f P a s = 0 := by
  unfold RS
  refine sm_none (f := fun t => if opt n P a t then c + VV n c J f (u2 P a t) else 0) (fun t ht hst => ?_)
  try dsimp only
  rw [if_neg (fun w => ?_)]
  obtain ⟨h1, h2, h3, h4⟩ := opt_iff.mp w
  exact ho ⟨by omega, by omega, by omega, fun k q1 q2 => h4 k q1 (by omega)⟩
/-- pairs so far: none crosses another -/
def PI (n : Nat) (P : Nat → Nat) : Prop := ∀ k, k < n → P k = 99 ∨ (P k < n ∧ ¬ P k = k ∧ P (P k) = k ∧ ∀ j, k < j → j < P k → P j = 99 ∨ (k < P j ∧ P j < P k))
theorem pi_0 (n : Nat) : PI n (fun _ => 99) := fun _ _ => Or.inl rfl
theorem pi_u2 {n : Nat} {P : Nat → Nat} {t : Nat} (hn : n ≤ 96) (h : PI n P) (hl : lf P n < n) (ho : Opt n P (lf P n) t) : PI n (u2 P (lf P n) t) := by
  obtain ⟨g1, g2, g3⟩ := lf_ok P n
  generalize lf P n = a at *
  have ha := g3 hl
  obtain ⟨o1, o2, o3, o4⟩ := ho
  have hat := o4 t o1 (Nat.le_refl _)
  have ea : u2 P a t a = t := if_pos rfl
  have et : u2 P a t t = a := by
    unfold u2
    rw [if_neg (by omega), if_pos rfl]
  have eo : ∀ k, ¬ k = a → ¬ k = t → u2 P a t k = P k := fun k q1 q2 => by
    unfold u2
    rw [if_neg q1, if_neg q2]
  intro k hk
  by_cases c1 : k = a
  · right
    rw [c1, ea]
    refine ⟨o2, by omega, et, fun j q1 q2 => Or.inl ?_⟩
    rw [eo j (by omega) (by omega)]
    exact o4 j q1 (by omega)
  by_cases c2 : k = t
  · right
    rw [c2, et]
    exact ⟨hl, by omega, ea, fun j q1 q2 => by omega⟩
  rw [eo k c1 c2]
  rcases h k hk with q | ⟨p1, p2, p3, p4⟩
  · exact Or.inl q
  right
  have n1 : ¬ P k = a := fun e => by
    rw [e, ha] at p3
    omega
  have n2 : ¬ P k = t := fun e => by
    rw [e, hat] at p3
    omega
  have n3 : ¬ P (P k) = 99 := by rw [p3]; omega
  have n4 : ¬ P k = 99 := by omega
  refine ⟨p1, p2, by rw [eo _ n1 n2]; exact p3, fun j q1 q2 => ?_⟩
  have far : a < P k → t < P k := fun q => by
    rcases Nat.lt_or_ge t (P k) with w | w
    · exact w
    · exact absurd (o4 (P k) q w) n3
  by_cases d1 : j = a
  · right
    rw [d1, ea]
    have := far (by omega)
    omega
  by_cases d2 : j = t
  · right
    rw [d2, et]
    have : ¬ a < k := fun q => n4 (o4 k q (by omega))
    omega
  rw [eo j d1 d2]
  exact p4 j q1 q2
theorem pi_glu {n : Nat} {P : Nat → Nat} (h : PI n P) (hl : ¬ lf P n < n) : Glu n P := by
  obtain ⟨g1, g2, g3⟩ := lf_ok P n
  have hall : ∀ k, k < n → ¬ P k = 99 := fun k hk => g2 k (by omega)
  intro i hi
  rcases h i hi with q | ⟨p1, p2, p3, p4⟩
  · exact absurd q (hall i hi)
  · refine ⟨p1, p2, p3, fun k q1 q2 => ?_⟩
    rcases p4 k q1 q2 with w | w
    · exact absurd w (hall k (by omega))
    · exact w
/-- how many have a partner -/
def cpr (n : Nat) (P : Nat → Nat) : Nat := fb_ct (fun k => decide (¬ P k = 99)) n
theorem cpr_0 (n : Nat) : cpr n (fun _ => 99) = 0 := fb_ct_zero.mpr fun _ _ => decide_eq_false (fun q => q rfl)
theorem cpr_u2 {n : Nat} {P : Nat → Nat} {a t : Nat} (hn : n ≤ 96) (ha : a < n) (ht : t < n) (hne : ¬ a = t) (h1 : P a = 99) (h2 : P t = 99) : cpr n (u2 P a t) = cpr n P + 2 := by
  have c1 := fb_ct_upd (n := n) (fun k => decide (¬ P k = 99)) true ha
  rw [if_neg (by rw [decide_eq_false (fun q => q h1)]; decide), if_pos rfl] at c1
  have c2 := fb_ct_upd (n := n) (fun k => if k = a then true else decide (¬ P k = 99)) true ht
  rw [if_neg (by rw [if_neg (fun q => hne q.symm), decide_eq_false (fun q => q h2)]; decide), if_pos rfl] at c2
  have e : cpr n (u2 P a t) = fb_ct (fun k => if k = t then true else if k = a then true else decide (¬ P k = 99)) n := fb_ct_cong fun k _ => by
    unfold u2
    by_cases q1 : k = a
    · rw [if_pos q1]
      by_cases q2 : k = t
      · rw [if_pos q2]; exact decide_eq_true (by omega)
      · rw [if_neg q2, if_pos q1]; exact decide_eq_true (by omega)
    · rw [if_neg q1]
      by_cases q2 : k = t
      · rw [if_pos q2, if_pos q2]; exact decide_eq_true (by omega)
      · rw [if_neg q2, if_neg q2, if_neg q1]
  rw [e]
  unfold cpr
  omega
theorem cpr_le (n : Nat) (P : Nat → Nat) : cpr n P ≤ n := fb_ct_le _ _
/-- legal: no corner has more than four quarters -/
def JL (n : Nat) (a : Nat → Nat) (P : Nat → Nat) : Prop := ∃ L, Lab n P L ∧ ∀ i, i < n → csm n L a i ≤ 4
noncomputable def JB (n : Nat) (a : Nat → Nat) (P : Nat → Nat) : Bool := @decide (JL n a P) (Classical.propDecidable _)
theorem jb_iff {n : Nat} {a P : Nat → Nat} : JB n a P = true ↔ JL n a P := @decide_eq_true_iff _ (Classical.propDecidable _)
theorem jl_of {n : Nat} {a P L : Nat → Nat} (h : Lab n P L) : JL n a P ↔ ∀ i, i < n → csm n L a i ≤ 4 := by
  constructor
  · rintro ⟨L', h', q⟩ i hi
    rw [csm_cong (lab_one h h') i]
    exact q i hi
  · exact fun q => ⟨L, h, q⟩
def pv (v : Nat) : Int32 := if v = 99 then -9 else nI v
theorem pv_99 : pv 99 = -9 := rfl
theorem pv_n {v : Nat} (h : ¬ v = 99) : pv v = nI v := if_neg h
theorem pv_neg {v : Nat} (hv : v < 2 ^ 31) : pv v < 0 ↔ v = 99 := by
  constructor
  · intro q
    refine Classical.byContradiction fun c => ?_
    rw [pv_n c] at q
    exact nI_pos hv q
  · intro e
    rw [e]; decide
theorem pv_9 {v : Nat} (hv : v < 2 ^ 31) : pv v = -9 ↔ v = 99 := by
  constructor
  · intro q
    refine Classical.byContradiction fun c => ?_
    rw [pv_n c] at q
    exact nI_m9 hv q
  · intro e
    rw [e]; rfl
noncomputable def TTt (n : Nat) : Nat := VV n 1 (fun _ => false) 30 (fun _ => 99)
noncomputable def LLt (n : Nat) (a : Nat → Nat) : Nat := VV n 0 (JB n a) 30 (fun _ => 99)

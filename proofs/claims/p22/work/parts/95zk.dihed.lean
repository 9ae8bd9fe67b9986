/-! ===== pure: gluings of a rim that is turned or turned over ===== -/
theorem lst_le {p : Nat → Prop} (i : Nat) : p i → ∃ j, j ≤ i ∧ p j ∧ ∀ k, k < j → ¬ p k := by
  induction i using Nat.strongRecOn with
  | ind i ih =>
    intro h
    by_cases c : ∃ k, k < i ∧ p k
    · obtain ⟨k, hk, q⟩ := c
      obtain ⟨j, h1, h2, h3⟩ := ih k hk q
      exact ⟨j, by omega, h2, h3⟩
    · exact ⟨i, Nat.le_refl _, h, fun k hk q => c ⟨k, hk, q⟩⟩
theorem lab_ex (n : Nat) (p : Nat → Nat) : ∃ L, Lab n p L := by
  have h : ∀ i, ∃ j, j ≤ i ∧ Eq9 n p i j ∧ ∀ k, k < j → ¬ Eq9 n p i k := fun i => lst_le (p := fun j => Eq9 n p i j) i (eq9_rf i)
  refine ⟨fun i => Classical.choose (h i), fun i _ => (Classical.choose_spec (h i)).1, fun i _ => (Classical.choose_spec (h i)).2.1, fun i hi => ?_⟩
  obtain ⟨a1, a2, a3⟩ := Classical.choose_spec (h i)
  obtain ⟨b1, b2, b3⟩ := Classical.choose_spec (h ((p i + 1) % n))
  show Classical.choose (h i) = Classical.choose (h ((p i + 1) % n))
  have s := eq9_st (p := p) hi
  rcases Nat.lt_trichotomy (Classical.choose (h i)) (Classical.choose (h ((p i + 1) % n))) with q | q | q
  · exact absurd (eq9_tr (eq9_sy s) a2) (b3 _ q)
  · exact q
  · exact absurd (eq9_tr s b2) (a3 _ q)
noncomputable def eqb (n : Nat) (q : Nat → Nat) (k v : Nat) : Bool := @decide (Eq9 n q k v) (Classical.propDecidable _)
theorem eqb_iff {n : Nat} {q : Nat → Nat} {k v : Nat} : eqb n q k v = true ↔ Eq9 n q k v := @decide_eq_true_iff _ (Classical.propDecidable _)
/-- the quarters round the corner of v -/
noncomputable def CS (n : Nat) (q a : Nat → Nat) (v : Nat) : Nat := fb_sm (fun k => if eqb n q k v then a k else 0) n
theorem jl_cs {n : Nat} {q a : Nat → Nat} : JL n a q ↔ ∀ v, v < n → CS n q a v ≤ 4 := by
  obtain ⟨L, hL⟩ := lab_ex n q
  rw [jl_of hL]
  have key : ∀ k v, k < n → v < n → (Eq9 n q k v ↔ L k = L v) := fun k v hk hv => ⟨fun e => lab_c hL.2.2 e hk hv, fun e => eq9_tr (hL.2.1 k hk) (by rw [e]; exact eq9_sy (hL.2.1 v hv))⟩
  have cs : ∀ v, v < n → CS n q a v = csm n L a (L v) := fun v hv => by
    unfold CS csm
    refine fb_sm_cong fun k hk => ?_
    try dsimp only
    by_cases c : L k = L v
    · rw [if_pos c, if_pos (eqb_iff.mpr ((key k v hk hv).mpr c))]
    · rw [if_neg c, if_neg (fun w => c ((key k v hk hv).mp (eqb_iff.mp w)))]
  constructor
  · intro h v hv
    rw [cs v hv]
    exact h (L v) (by have := hL.1 v hv; omega)
  · intro h i hi
    by_cases c : L i = i
    · have w := h i hi
      rw [cs i hi, c] at w
      exact w
    · have z : csm n L a i = fb_sm (fun _ => 0) n := by
        unfold csm
        refine fb_sm_cong fun k hk => if_neg (fun w => c ?_)
        have e : Eq9 n q k i := by
          have := hL.2.1 k hk
          rw [w] at this
          exact this
        exact (lab_c hL.2.2 e hk hi).symm.trans w
      rw [z, fb_sm_const]
      omega
theorem cs_tr {n : Nat} {q q' a b ρ τ : Nat → Nat} (h1 : ∀ i, i < n → ρ i < n) (h2 : ∀ i, i < n → τ i < n) (h3 : ∀ i, i < n → τ (ρ i) = i) (h4 : ∀ i, i < n → ρ (τ i) = i) (hf : ∀ i, i < n → Eq9 n q' (ρ i) (ρ ((q i + 1) % n))) (hb : ∀ i, i < n → Eq9 n q (τ i) (τ ((q' i + 1) % n))) (hab : ∀ i, i < n → b (ρ i) = a i) (h : JL n a q) : JL n b q' := by
  rw [jl_cs] at h ⊢
  intro v hv
  have ef : ∀ u w, Eq9 n q u w → Eq9 n q' (ρ u) (ρ w) := fun u w e => e (fun x y => Eq9 n q' (ρ x) (ρ y)) (fun _ => eq9_rf _) (fun _ _ => eq9_sy) (fun _ _ _ => eq9_tr) hf
  have eb : ∀ u w, Eq9 n q' u w → Eq9 n q (τ u) (τ w) := fun u w e => e (fun x y => Eq9 n q (τ x) (τ y)) (fun _ => eq9_rf _) (fun _ _ => eq9_sy) (fun _ _ _ => eq9_tr) hb
  have hh := h (τ v) (h2 v hv)
  have t1 : ∀ f : Nat → Nat, fb_sm (fun e => if true = true then f e else 0) n = fb_sm f n := fun f => fb_sm_cong fun k _ => if_pos rfl
  have s := sm_bij ρ n (fun k => if eqb n q' k v then b k else 0) (fun _ => true) n (fun _ => true) (fun i hi _ => ⟨h1 i hi, rfl⟩) (fun i j hi hj _ _ e => (h3 i hi).symm.trans ((congrArg τ e).trans (h3 j hj))) (fun e he _ => ⟨τ e, h2 e he, rfl, h4 e he⟩)
  have s2 : CS n q' b v = fb_sm (fun i => if eqb n q' (ρ i) v then b (ρ i) else 0) n := (t1 (fun k => if eqb n q' k v then b k else 0)).symm.trans (s.trans (t1 (fun i => if eqb n q' (ρ i) v then b (ρ i) else 0)))
  have s3 : fb_sm (fun i => if eqb n q' (ρ i) v then b (ρ i) else 0) n = CS n q a (τ v) := by
    unfold CS
    refine fb_sm_cong fun i hi => ?_
    try dsimp only
    by_cases c : Eq9 n q i (τ v)
    · have w := ef _ _ c
      rw [h4 v hv] at w
      rw [if_pos (eqb_iff.mpr w), if_pos (eqb_iff.mpr c), hab i hi]
    · rw [if_neg (fun w => c (eqb_iff.mp w)), if_neg (fun w => c ?_)]
      have w := eb _ _ (eqb_iff.mp w)
      rw [h3 i hi] at w
      exact w
  rw [s2, s3]
  exact hh
def sS (n i : Nat) : Nat := if i + 1 = n then 0 else i + 1
def pP (n i : Nat) : Nat := if i = 0 then n - 1 else i - 1
def rV (n i : Nat) : Nat := if i = 0 then 0 else n - i
theorem md_s {n i : Nat} (h : i < n) : (i + 1) % n = sS n i := by
  unfold sS
  by_cases c : i + 1 = n
  · rw [if_pos c, c, Nat.mod_self]
  · rw [if_neg c, Nat.mod_eq_of_lt (by omega)]
theorem sS_lt {n i : Nat} (h : i < n) : sS n i < n := by
  unfold sS
  split <;> omega
theorem pP_lt {n i : Nat} (h : i < n) : pP n i < n := by
  unfold pP
  split <;> omega
theorem rV_lt {n i : Nat} (h : i < n) : rV n i < n := by
  unfold rV
  split <;> omega
theorem pS {n i : Nat} (h : i < n) : pP n (sS n i) = i := by
  unfold sS pP
  by_cases c : i + 1 = n
  · rw [if_pos c, if_pos rfl]; omega
  · rw [if_neg c, if_neg (by omega)]; omega
theorem sP {n i : Nat} (h : i < n) : sS n (pP n i) = i := by
  unfold sS pP
  by_cases c : i = 0
  · rw [if_pos c, if_pos (by omega)]; omega
  · rw [if_neg c, if_neg (by omega)]; omega
theorem rr_V {n i : Nat} (h : i < n) : rV n (rV n i) = i := by
  unfold rV
  by_cases c : i = 0
  · rw [if_pos c, if_pos rfl]; omega
  · rw [if_neg c, if_neg (by omega)]; omega
/-- turned on by one -/
def gR (n : Nat) (q : Nat → Nat) : Nat → Nat := fun i => sS n (q (pP n i))
/-- turned over -/
def gM (n : Nat) (q : Nat → Nat) : Nat → Nat := fun i => n - 1 - q (n - 1 - i)
theorem glu_R {n : Nat} {q : Nat → Nat} (hg : Glu n q) : Glu n (gR n q) := by
  intro i hi
  have hp := pP_lt hi
  obtain ⟨g1, g2, g3, g4⟩ := hg (pP n i) hp
  show sS n (q (pP n i)) < n ∧ ¬ sS n (q (pP n i)) = i ∧ sS n (q (pP n (sS n (q (pP n i))))) = i ∧ ∀ k, i < k → k < sS n (q (pP n i)) → i < sS n (q (pP n k)) ∧ sS n (q (pP n k)) < sS n (q (pP n i))
  refine ⟨sS_lt g1, fun e => ?_, by rw [pS g1, g3, sP hi], fun k k1 k2 => ?_⟩
  · have := congrArg (pP n) e
    rw [pS g1] at this
    exact g2 this
  have hk0 : pP n k = k - 1 := if_neg (by omega)
  have hm : ¬ q (pP n i) + 1 = n := fun c => by
    have e0 : sS n (q (pP n i)) = 0 := if_pos c
    omega
  have em : sS n (q (pP n i)) = q (pP n i) + 1 := if_neg hm
  rw [em] at k2 ⊢
  rw [hk0]
  have hw : i ≤ q (k - 1) ∧ q (k - 1) < q (pP n i) := by
    by_cases c : i = 0
    · have ej : pP n i = n - 1 := if_pos c
      rw [ej] at g1 g2 g3 g4 k2 ⊢
      obtain ⟨f1, f2, f3, f4⟩ := hg (k - 1) (by omega)
      have n1 : ¬ q (k - 1) = q (n - 1) := fun e => by
        rw [e, g3] at f3
        omega
      have n2 : ¬ q (n - 1) < q (k - 1) := fun e => by
        have := f4 (q (n - 1)) (by omega) e
        rw [g3] at this
        omega
      omega
    · have ej : pP n i = i - 1 := if_neg c
      rw [ej] at g1 g2 g3 g4 k2 ⊢
      have := g4 (k - 1) (by omega) (by omega)
      omega
  have e1 : sS n (q (k - 1)) = q (k - 1) + 1 := if_neg (by omega)
  omega
theorem glu_M {n : Nat} {q : Nat → Nat} (hg : Glu n q) : Glu n (gM n q) := by
  intro i hi
  obtain ⟨g1, g2, g3, g4⟩ := hg (n - 1 - i) (by omega)
  show n - 1 - q (n - 1 - i) < n ∧ ¬ n - 1 - q (n - 1 - i) = i ∧ n - 1 - q (n - 1 - (n - 1 - q (n - 1 - i))) = i ∧ ∀ k, i < k → k < n - 1 - q (n - 1 - i) → i < n - 1 - q (n - 1 - k) ∧ n - 1 - q (n - 1 - k) < n - 1 - q (n - 1 - i)
  have e : n - 1 - (n - 1 - q (n - 1 - i)) = q (n - 1 - i) := by omega
  rw [e, g3]
  refine ⟨by omega, by omega, by omega, fun k k1 k2 => ?_⟩
  obtain ⟨f1, f2, f3, f4⟩ := hg (q (n - 1 - i)) g1
  rw [g3] at f4
  have w := f4 (n - 1 - k) (by omega) (by omega)
  have := (hg (n - 1 - k) (by omega)).1
  omega
theorem jl_R {n : Nat} {q a b : Nat → Nat} (hg : Glu n q) (hab : ∀ i, i < n → b (sS n i) = a i) (h : JL n a q) : JL n b (gR n q) := by
  refine cs_tr (ρ := sS n) (τ := pP n) (fun i hi => sS_lt hi) (fun i hi => pP_lt hi) (fun i hi => pS hi) (fun i hi => sP hi) (fun i hi => ?_) (fun i hi => ?_) hab h
  · have w := eq9_st (p := gR n q) (sS_lt hi)
    have e : gR n q (sS n i) = sS n (q i) := by
      show sS n (q (pP n (sS n i))) = _
      rw [pS hi]
    rw [e, md_s (sS_lt (hg i hi).1)] at w
    rw [md_s (hg i hi).1]
    exact w
  · have w := eq9_st (p := q) (pP_lt hi)
    rw [md_s (hg _ (pP_lt hi)).1] at w
    have e : gR n q i = sS n (q (pP n i)) := rfl
    have g1 := sS_lt (hg _ (pP_lt hi)).1
    rw [e, md_s g1, pS g1]
    exact w
theorem rV_s {n i : Nat} (h : i < n) : rV n (sS n i) = n - 1 - i := by
  unfold sS rV
  by_cases c : i + 1 = n
  · rw [if_pos c, if_pos rfl]; omega
  · rw [if_neg c, if_neg (by omega)]; omega
theorem s_rV {n i : Nat} (h : i < n) : sS n (n - 1 - i) = rV n i := by
  unfold sS rV
  by_cases c : i = 0
  · rw [if_pos (by omega), if_pos c]
  · rw [if_neg (by omega), if_neg c]; omega
theorem jl_M {n : Nat} {q a b : Nat → Nat} (hg : Glu n q) (hab : ∀ i, i < n → b (rV n i) = a i) (h : JL n a q) : JL n b (gM n q) := by
  have hM := glu_M hg
  refine cs_tr (ρ := rV n) (τ := rV n) (fun i hi => rV_lt hi) (fun i hi => rV_lt hi) (fun i hi => rr_V hi) (fun i hi => rr_V hi) (fun i hi => ?_) (fun i hi => ?_) hab h
  · obtain ⟨g1, g2, g3, g4⟩ := hg i hi
    have w := eq9_st (p := gM n q) (show n - 1 - q i < n by omega)
    have e : gM n q (n - 1 - q i) = n - 1 - i := by
      show n - 1 - q (n - 1 - (n - 1 - q i)) = _
      rw [show n - 1 - (n - 1 - q i) = q i by omega, g3]
    rw [e, md_s (by omega), s_rV hi] at w
    rw [md_s g1, rV_s g1]
    exact eq9_sy w
  · obtain ⟨g1, g2, g3, g4⟩ := hg (n - 1 - i) (by omega)
    have w := eq9_st (p := q) g1
    rw [g3, md_s (by omega), s_rV hi] at w
    have e : gM n q i = n - 1 - q (n - 1 - i) := rfl
    rw [e, md_s (by omega), rV_s (by omega), show n - 1 - (n - 1 - q (n - 1 - i)) = q (n - 1 - i) by omega]
    exact eq9_sy w
theorem ll_same {n : Nat} {a b : Nat → Nat} (hn : n ≤ 50) (hab : ∀ i, i < n → b i = a i) : LLt n a ≤ LLt n b :=
  ll_le hn (fun q => q) (fun _ h => h) (fun q _ h => cs_tr (ρ := fun i => i) (τ := fun i => i) (fun _ h => h) (fun _ h => h) (fun _ _ => rfl) (fun _ _ => rfl) (fun i hi => eq9_st hi) (fun i hi => eq9_st hi) hab h) (fun _ _ _ _ h => h)
theorem ll_R {n : Nat} {a b : Nat → Nat} (hn : n ≤ 50) (hab : ∀ i, i < n → b (sS n i) = a i) : LLt n a ≤ LLt n b :=
  ll_le hn (gR n) (fun _ h => glu_R h) (fun _ hg h => jl_R hg hab h) (fun q q' hg hg' h i hi => by
    have w : sS n (q (pP n (sS n i))) = sS n (q' (pP n (sS n i))) := h (sS n i) (sS_lt hi)
    rw [pS hi] at w
    have := congrArg (pP n) w
    rw [pS (hg i hi).1, pS (hg' i hi).1] at this
    exact this)
theorem ll_M {n : Nat} {a b : Nat → Nat} (hn : n ≤ 50) (hab : ∀ i, i < n → b (rV n i) = a i) : LLt n a ≤ LLt n b :=
  ll_le hn (gM n) (fun _ h => glu_M h) (fun _ hg h => jl_M hg hab h) (fun q q' hg hg' h i hi => by
    have w : n - 1 - q (n - 1 - (n - 1 - i)) = n - 1 - q' (n - 1 - (n - 1 - i)) := h (n - 1 - i) (by omega)
    rw [show n - 1 - (n - 1 - i) = i by omega] at w
    have := (hg i hi).1
    have := (hg' i hi).1
    omega)
theorem ll_Rs {n : Nat} {a : Nat → Nat} (hn : n ≤ 50) {s : Nat} (hs : s ≤ n) : LLt n (fun i => a ((i + s) % n)) = LLt n a := by
  have st : ∀ s, LLt n (fun i => a ((i + (s + 1)) % n)) ≤ LLt n (fun i => a ((i + s) % n)) := fun s => ll_R hn (fun i hi => by
    try dsimp only
    rw [← md_s hi, Nat.mod_add_mod, show i + 1 + s = i + (s + 1) by omega])
  have mo : ∀ d s, LLt n (fun i => a ((i + (s + d)) % n)) ≤ LLt n (fun i => a ((i + s) % n)) := by
    intro d
    induction d with
    | zero => exact fun s => Nat.le_refl _
    | succ d ih => exact fun s => Nat.le_trans (st (s + d)) (ih s)
  have a0 : LLt n (fun i => a ((i + 0) % n)) ≤ LLt n a := ll_same hn (fun i hi => by
    try dsimp only
    rw [Nat.add_zero, Nat.mod_eq_of_lt hi])
  have an : LLt n a ≤ LLt n (fun i => a ((i + n) % n)) := ll_same hn (fun i hi => by
    try dsimp only
    rw [Nat.add_mod_right, Nat.mod_eq_of_lt hi])
  have m1 := mo s 0
  rw [Nat.zero_add] at m1
  have m2 := mo (n - s) s
  rw [show s + (n - s) = n by omega] at m2
  omega
theorem ll_Ms {n : Nat} {a b : Nat → Nat} (hn : n ≤ 50) (hab : ∀ i, i < n → b i = a (rV n i)) : LLt n b = LLt n a := by
  have h1 : LLt n a ≤ LLt n b := ll_M hn (fun i hi => by rw [hab _ (rV_lt hi), rr_V hi])
  have h2 : LLt n b ≤ LLt n a := ll_M hn (fun i hi => (hab i hi).symm)
  omega

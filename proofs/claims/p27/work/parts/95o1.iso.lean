/-! ===== pure: a turning is a map of squares; hanging together; how many open edges ===== -/
def tau (m : Bool) (w : Nat) : Nat := if m then (6 - w) % 4 else (w + 1) % 4
theorem tau_lt (m : Bool) (w : Nat) : tau m w < 4 := by
  unfold tau
  split <;> omega
theorem bs_c {j w : Nat} (hj : j < 64) (hw : w < 4) (h : bs j w < 64) : (w = 0 ∧ j % 8 < 7 ∧ bs j w = j + 1) ∨ (w = 1 ∧ j / 8 < 7 ∧ bs j w = j + 8) ∨ (w = 2 ∧ 0 < j % 8 ∧ bs j w = j - 1) ∨ (w = 3 ∧ 0 < j / 8 ∧ bs j w = j - 8) := by
  have hb := bs_is j hj
  rcases (show w = 0 ∨ w = 1 ∨ w = 2 ∨ w = 3 by omega) with rfl | rfl | rfl | rfl
  · rw [hb.1] at h ⊢
    split at h <;> rename_i c
    · rw [if_pos c]; omega
    · omega
  · rw [hb.2.1] at h ⊢
    split at h <;> rename_i c
    · rw [if_pos c]; omega
    · omega
  · rw [hb.2.2.1] at h ⊢
    split at h <;> rename_i c
    · rw [if_pos c]; omega
    · omega
  · rw [hb.2.2.2] at h ⊢
    split at h <;> rename_i c
    · rw [if_pos c]; omega
    · omega
theorem bs_v {j w k : Nat} (hj : j < 64) (h : (w = 0 ∧ j % 8 < 7 ∧ k = j + 1) ∨ (w = 1 ∧ j / 8 < 7 ∧ k = j + 8) ∨ (w = 2 ∧ 0 < j % 8 ∧ k = j - 1) ∨ (w = 3 ∧ 0 < j / 8 ∧ k = j - 8)) : bs j w = k := by
  have hb := bs_is j hj
  rcases h with ⟨rfl, c, e⟩ | ⟨rfl, c, e⟩ | ⟨rfl, c, e⟩ | ⟨rfl, c, e⟩
  · rw [hb.1, if_pos c, e]
  · rw [hb.2.1, if_pos c, e]
  · rw [hb.2.2.1, if_pos c, e]
  · rw [hb.2.2.2, if_pos c, e]
theorem pos_nb {m : Bool} {x : Int64} {l r b t j w : Nat} (e : Ends x l r b t) (hw : w < 4) (hj : bt x j = true) (hn : bt x (bs j w) = true) : pos m l r b t (bs j w) = bs (pos m l r b t j) (tau m w) := by
  have h64 := bt_lt hj
  have he := ends_lt e
  have e1 := e.2 j hj
  have e2 := e.2 _ hn
  have hc := bs_c h64 hw (bt_lt hn)
  have hp := pos_lt (m := m) e hj
  symm
  refine bs_v hp ?_
  generalize bs j w = k at hc e2 ⊢
  unfold tau pos at *
  cases m
  · simp only [Bool.false_eq_true, if_false] at *
    rcases hc with ⟨rfl, c, rfl⟩ | ⟨rfl, c, rfl⟩ | ⟨rfl, c, rfl⟩ | ⟨rfl, c, rfl⟩
    · right; left; omega
    · right; right; left; omega
    · right; right; right; omega
    · left; omega
  · simp only [if_true] at *
    rcases hc with ⟨rfl, c, rfl⟩ | ⟨rfl, c, rfl⟩ | ⟨rfl, c, rfl⟩ | ⟨rfl, c, rfl⟩
    · right; right; left; omega
    · right; left; omega
    · left; omega
    · right; right; right; omega
theorem pos_bk {m : Bool} {x : Int64} {l r b t j w k : Nat} (e : Ends x l r b t) (hw : w < 4) (hj : bt x j = true) (hk : bt x k = true) (h : bs (pos m l r b t j) (tau m w) = pos m l r b t k) : bs j w = k := by
  have h64 := bt_lt hj
  have he := ends_lt e
  have e1 := e.2 j hj
  have e2 := e.2 k hk
  have k64 := bt_lt hk
  have hp := pos_lt (m := m) e hj
  have hpk := pos_lt (m := m) e hk
  have hc := bs_c hp (tau_lt m w) (by rw [h]; exact hpk)
  rw [h] at hc
  refine bs_v h64 ?_
  clear h
  unfold tau pos at *
  cases m
  · simp only [Bool.false_eq_true, if_false] at *
    rcases (show w = 0 ∨ w = 1 ∨ w = 2 ∨ w = 3 by omega) with rfl | rfl | rfl | rfl
    · left; omega
    · right; left; omega
    · right; right; left; omega
    · right; right; right; omega
  · simp only [if_true] at *
    rcases (show w = 0 ∨ w = 1 ∨ w = 2 ∨ w = 3 by omega) with rfl | rfl | rfl | rfl
    · left; omega
    · right; left; omega
    · right; right; left; omega
    · right; right; right; omega
/-- a map of squares that keeps what is beside what -/
def Iso (m : Bool) (φ : Nat → Nat) (x y : Int64) : Prop := (∀ j, bt x j = true → bt y (φ j) = true) ∧ (∀ i, bt y i = true → ∃ j, bt x j = true ∧ φ j = i) ∧ (∀ j j', bt x j = true → bt x j' = true → φ j = φ j' → j = j') ∧ (∀ j w, w < 4 → bt x j = true → bt y (bs (φ j) (tau m w)) = bt x (bs j w)) ∧ (∀ j w, w < 4 → bt x j = true → bt x (bs j w) = true → φ (bs j w) = bs (φ j) (tau m w))
theorem tb_iso {m : Bool} {x y : Int64} (h : TnB m x y) : ∃ φ, Iso m φ x y := by
  obtain ⟨l, r, b, t, e, h⟩ := h
  refine ⟨pos m l r b t, fun j hj => (h _ (pos_lt e hj)).mpr ⟨j, hj, rfl⟩, fun i hi => (h i (bt_lt hi)).mp hi, fun j j' hj hj' q => pos_inj e hj hj' q, fun j w hw hj => b_iff ⟨fun q => ?_, fun q => ?_⟩, fun j w hw hj hn => pos_nb e hw hj hn⟩
  · obtain ⟨k, hk, ek⟩ := (h _ (bt_lt q)).mp q
    rw [pos_bk e hw hj hk ek.symm]
    exact hk
  · rw [← pos_nb e hw hj q]
    exact (h _ (pos_lt e q)).mpr ⟨_, q, rfl⟩
theorem iso_cn {m : Bool} {φ : Nat → Nat} {x y : Int64} (h : Iso m φ x y) (hc : Cn (bt x)) : Cn (bt y) := by
  obtain ⟨h1, h2, h3, h4, h5⟩ := h
  intro R hex hcl q hq
  obtain ⟨p, hp, hR⟩ := hex
  obtain ⟨j, hj, rfl⟩ := h2 p hp
  obtain ⟨k, hk, rfl⟩ := h2 q hq
  refine hc (fun j => R (φ j)) ⟨j, hj, hR⟩ (fun j w hw hj hR hn => ?_) k hk
  show R (φ (bs j w))
  rw [h5 j w hw hj hn]
  exact hcl (φ j) (tau m w) (tau_lt m w) (h1 j hj) hR (by rw [h4 j w hw hj]; exact hn)
theorem tb_cn {m : Bool} {x y : Int64} (h : TnB m x y) (hc : Cn (bt x)) : Cn (bt y) := by
  obtain ⟨φ, hφ⟩ := tb_iso h
  exact iso_cn hφ hc
/-- what the flood fills hangs together -/
theorem flood_R {x : Int64} {k0 : Nat} (hb : bt x k0 = true) (R : Nat → Prop) (h0 : R k0) (hcl : ∀ q w, w < 4 → bt x q = true → R q → bt x (bs q w) = true → R (bs q w)) : ∀ (n : Nat) (a : Int64), Rch x (lN (2 ^ k0)) n a → ∀ k, bt a k = true → bt x k = true ∧ R k
  | 0, a, h, k, hk => by
    have e : a = lN (2 ^ k0) := h
    rw [e, bt_p2 (bt_lt hb)] at hk
    have ek : k = k0 := of_decide_eq_true hk
    rw [ek]
    exact ⟨hb, h0⟩
  | n + 1, a, h, k, hk => by
    obtain ⟨b, hb2, hs⟩ := h
    have k64 := bt_lt hk
    rw [hs k k64, FL_any] at hk
    refine ⟨hk.1, ?_⟩
    rcases hk.2 with q | ⟨w, hw, q⟩
    · exact (flood_R hb R h0 hcl n b hb2 k q).2
    · obtain ⟨g1, g2⟩ := flood_R hb R h0 hcl n b hb2 _ q
      have e := bs_back k k64 w hw (bt_lt q)
      have := hcl (bs k w) ((w + 2) % 4) (by omega) g1 g2 (by rw [e]; exact hk.1)
      rw [e] at this
      exact this
theorem flood_cn {x : Int64} {k0 n : Nat} (hb : bt x k0 = true) (h : Rch x (lN (2 ^ k0)) n x) : Cn (bt x) := by
  intro R hex hcl q hq
  by_cases h0 : R k0
  · exact (flood_R hb R h0 hcl n x h q hq).2
  · exfalso
    obtain ⟨p, hp, hR⟩ := hex
    refine (flood_R hb (fun k => ¬ R k) h0 (fun q w hw hq hR hn hR2 => hR ?_) n x h p hp).2 hR
    have e := bs_back q (bt_lt hq) w hw (bt_lt hn)
    have := hcl (bs q w) ((w + 2) % 4) (by omega) hn hR2 (by rw [e]; exact hq)
    rw [e] at this
    exact this
theorem e_hangsC (x : Int64) (hx : ¬ x = 0) (h24 : pc x ≤ 24) (Q : Int32 → Prop) (h : ∀ v, (¬ v = 0 → Cn (bt x)) → (∀ R : Int32 → Prop, R v → w9_hangs x R) → Q v) : w0_hangsTogether x Q := by
  obtain ⟨k0, hb, hl⟩ : ∃ k, bt x k = true ∧ ∀ j, j < k → bt x j = false := by
    obtain ⟨m, _, hm⟩ := bt_some hx
    obtain ⟨k, hk1, hk2⟩ := pk_least (fun k => bt x k = true) ⟨m, hm⟩
    refine ⟨k, hk1, fun j hj => ?_⟩
    cases e : bt x j
    · rfl
    · exact absurd e (hk2 j hj)
  refine s0_hangs x hb hl _ (fun a ha => h _ (fun hv => ?_) (fun R hR => s9_hangs x hx h24 _ (fun k a' m hb' hl' hm hRc hf => ?_)))
  · by_cases ea : a = x
    · rw [ea] at ha
      exact flood_cn hb ha
    · rw [if_neg ea] at hv
      exact absurd rfl hv
  have ek : k = k0 := by
    rcases Nat.lt_trichotomy k k0 with q | q | q
    · rw [hl k q] at hb'; exact absurd hb' (by decide)
    · exact q
    · rw [hl' k0 q] at hb; exact absurd hb (by decide)
  subst ek
  have h2 := rch_fix hRc hf (24 - m)
  rw [show m + (24 - m) = 24 by omega] at h2
  have ea := rch_fun ha h2
  rw [← ea]
  exact hR
/-! sums over a set, carried by a map -/
theorem sm_bij (f : Nat → Nat) (m : Nat) (g : Nat → Nat) (p : Nat → Bool) : ∀ (n : Nat) (q : Nat → Bool), (∀ i, i < n → p i = true → f i < m ∧ q (f i) = true) → (∀ i j, i < n → j < n → p i = true → p j = true → f i = f j → i = j) → (∀ e, e < m → q e = true → ∃ i, i < n ∧ p i = true ∧ f i = e) → fb_sm (fun e => if q e then g e else 0) m = fb_sm (fun i => if p i then g (f i) else 0) n
  | 0, q, _, _, ho => by
    show _ = 0
    have h : fb_sm (fun e => if q e then g e else 0) m = fb_sm (fun _ => 0) m := fb_sm_cong fun e he => by
      cases c : q e
      · rfl
      · obtain ⟨i, hi, _⟩ := ho e he c
        exact absurd hi (Nat.not_lt_zero i)
    rw [h, fb_sm_const]
    omega
  | n + 1, q, hf, hi, ho => by
    rw [fb_sm_succ]
    by_cases hp : p n = true
    · obtain ⟨hlt, hq⟩ := hf n (by omega) hp
      have ih := sm_bij f m g p n (fun e => if e = f n then false else q e) (fun i hi2 hpi => by
        obtain ⟨a1, a2⟩ := hf i (by omega) hpi
        refine ⟨a1, ?_⟩
        have : ¬ f i = f n := fun e => by
          have := hi i n (by omega) (by omega) hpi hp e
          omega
        rw [if_neg this]
        exact a2) (fun i j h1 h2 => hi i j (by omega) (by omega)) (fun e he hqe => by
        by_cases c : e = f n
        · rw [if_pos c] at hqe
          exact absurd hqe (by decide)
        · rw [if_neg c] at hqe
          obtain ⟨i, h1, h2, h3⟩ := ho e he hqe
          have : ¬ i = n := fun e2 => c (by rw [← h3, e2])
          exact ⟨i, by omega, h2, h3⟩)
      have hu := fb_sm_upd (fun e => if q e then g e else 0) 0 hlt
      have hc : fb_sm (fun k => if k = f n then 0 else if q k = true then g k else 0) m = fb_sm (fun e => if (if e = f n then false else q e) = true then g e else 0) m := fb_sm_cong fun e _ => by
        by_cases c : e = f n
        · rw [if_pos c, if_pos c, if_neg (by decide)]
        · rw [if_neg c, if_neg c]
      rw [if_pos hp, ← ih, ← hc]
      try dsimp only at hu
      rw [if_pos hq] at hu
      omega
    · rw [if_neg hp, Nat.add_zero]
      exact sm_bij f m g p n q (fun i h1 => hf i (by omega)) (fun i j h1 h2 => hi i j (by omega) (by omega)) (fun e he hqe => by
        obtain ⟨i, h1, h2, h3⟩ := ho e he hqe
        have : ¬ i = n := fun e2 => hp (by rw [← e2]; exact h2)
        exact ⟨i, by omega, h2, h3⟩)
theorem ct_sm (p : Nat → Bool) : ∀ n, fb_ct p n = fb_sm (fun k => if p k then 1 else 0) n
  | 0 => rfl
  | n + 1 => by rw [fb_ct_succ, fb_sm_succ, ct_sm p n]
/-! into a set, and onto it -/
theorem ct_inj (f : Nat → Nat) (m : Nat) : ∀ (n : Nat) (q : Nat → Bool), (∀ i, i < n → f i < m ∧ q (f i) = true) → (∀ i j, i < j → j < n → f i ≠ f j) → n ≤ fb_ct q m ∧ (n = fb_ct q m → ∀ e, e < m → q e = true → ∃ i, i < n ∧ f i = e)
  | 0, q, _, _ => by
    refine ⟨Nat.zero_le _, fun h e he hq => ?_⟩
    rw [fb_ct_zero.mp h.symm e he] at hq
    exact absurd hq (by decide)
  | n + 1, q, hf, hd => by
    obtain ⟨hlt, hq⟩ := hf n (by omega)
    have hu := fb_ct_upd q false hlt
    rw [if_pos hq, if_neg (by decide)] at hu
    obtain ⟨ih1, ih2⟩ := ct_inj f m n (fun k => if k = f n then false else q k) (fun i hi => by
      obtain ⟨a1, a2⟩ := hf i (by omega)
      refine ⟨a1, ?_⟩
      rw [if_neg (hd i n hi (by omega))]
      exact a2) (fun i j h1 h2 => hd i j h1 (by omega))
    refine ⟨by omega, fun h e he hqe => ?_⟩
    by_cases c : e = f n
    · exact ⟨n, by omega, c.symm⟩
    · obtain ⟨i, h1, h2⟩ := ih2 (by omega) e he (by rw [if_neg c]; exact hqe)
      exact ⟨i, by omega, h2⟩
theorem ct_on (f : Nat → Nat) (m : Nat) : ∀ (n : Nat) (q : Nat → Bool), (∀ e, e < m → q e = true → ∃ i, i < n ∧ f i = e) → fb_ct q m ≤ n
  | 0, q, h => by
    have : fb_ct q m = 0 := fb_ct_zero.mpr fun e he => by
      cases c : q e
      · rfl
      · obtain ⟨i, hi, _⟩ := h e he c
        exact absurd hi (Nat.not_lt_zero i)
    omega
  | n + 1, q, h => by
    have ih := ct_on f m n (fun k => if k = f n then false else q k) (fun e he hqe => by
      by_cases c : e = f n
      · rw [if_pos c] at hqe
        exact absurd hqe (by decide)
      · rw [if_neg c] at hqe
        obtain ⟨i, h1, h2⟩ := h e he hqe
        have : ¬ i = n := fun e2 => c (by rw [← h2, e2])
        exact ⟨i, by omega, h2⟩)
    by_cases hlt : f n < m
    · have hu := fb_ct_upd q false hlt
      rw [if_neg (show ¬ false = true by decide)] at hu
      split at hu <;> omega
    · have e : fb_ct (fun k => if k = f n then false else q k) m = fb_ct q m := fb_ct_cong fun k hk => if_neg (by omega)
      omega
/-! open edges: 4 square and way -/
def oeF (A : Nat → Bool) (e : Nat) : Bool := A (e / 4) && !A (bs (e / 4) (e % 4))
def oe (x : Int64) : Nat := fb_ct (oeF (bt x)) 256
theorem oe_iff {A : Nat → Bool} {e : Nat} : oeF A e = true ↔ A (e / 4) = true ∧ A (bs (e / 4) (e % 4)) = false := by
  unfold oeF
  rw [Bool.and_eq_true, Bool.not_eq_true']
theorem iso_oe {m : Bool} {φ : Nat → Nat} {x y : Int64} (h : Iso m φ x y) : oe y = oe x := by
  obtain ⟨h1, h2, h3, h4, h5⟩ := h
  unfold oe
  rw [ct_sm, ct_sm]
  have tw : ∀ w, w < 4 → ∃ v, v < 4 ∧ tau m v = w := by
    intro w hw
    cases m
    · exact ⟨(w + 3) % 4, by omega, by show ((w + 3) % 4 + 1) % 4 = w; omega⟩
    · exact ⟨(6 - w) % 4, by omega, by show (6 - (6 - w) % 4) % 4 = w; omega⟩
  have ti : ∀ v w, v < 4 → w < 4 → tau m v = tau m w → v = w := by
    intro v w hv hw e
    unfold tau at e
    cases m
    · simp only [Bool.false_eq_true, if_false] at e; omega
    · simp only [if_true] at e; omega
  have tl := tau_lt m
  refine sm_bij (fun e => 4 * φ (e / 4) + tau m (e % 4)) 256 (fun _ => 1) (oeF (bt x)) 256 (oeF (bt y)) (fun i hi hp => ?_) (fun i j hi hj hp hq e => ?_) (fun e he hq => ?_)
  · rw [oe_iff] at hp
    have g1 := h1 _ hp.1
    have g2 := bt_lt g1
    have g3 := tl (i % 4)
    refine ⟨by omega, ?_⟩
    rw [oe_iff]
    try dsimp only
    rw [show (4 * φ (i / 4) + tau m (i % 4)) / 4 = φ (i / 4) by omega, show (4 * φ (i / 4) + tau m (i % 4)) % 4 = tau m (i % 4) by omega]
    exact ⟨g1, by rw [h4 _ _ (by omega) hp.1]; exact hp.2⟩
  · rw [oe_iff] at hp hq
    have g1 := tl (i % 4)
    have g2 := tl (j % 4)
    try dsimp only at e
    have e1 := h3 _ _ hp.1 hq.1 (by omega)
    have e2 := ti (i % 4) (j % 4) (by omega) (by omega) (by omega)
    omega
  · rw [oe_iff] at hq
    obtain ⟨j, hj, ej⟩ := h2 _ hq.1
    obtain ⟨v, hv, ev⟩ := tw (e % 4) (by omega)
    have j64 := bt_lt hj
    refine ⟨4 * j + v, by omega, ?_, ?_⟩
    · rw [oe_iff, show (4 * j + v) / 4 = j by omega, show (4 * j + v) % 4 = v by omega]
      refine ⟨hj, ?_⟩
      rw [← h4 j v hv hj, ej, ev]
      exact hq.2
    · try dsimp only
      rw [show (4 * j + v) / 4 = j by omega, show (4 * j + v) % 4 = v by omega, ej, ev]
      omega
/-- one more square beside others: at most two open edges more -/
theorem oe_add {A : Nat → Bool} {a w : Nat} (hA : A a = true) (ha : a < 64) (hw : w < 4) (hs : bs a w < 64) (hn : A (bs a w) = false) : fb_ct (oeF (fun k => if k = bs a w then true else A k)) 256 ≤ fb_ct (oeF A) 256 + 2 := by
  have hbk := bs_back a ha w hw hs
  generalize hse : bs a w = s at *
  have hne : ¬ a = s := fun e => by rw [← e, hA] at hn; exact absurd hn (by decide)
  have hp : oeF A (4 * a + w) = true := by
    rw [oe_iff, show (4 * a + w) / 4 = a by omega, show (4 * a + w) % 4 = w by omega, hse]
    exact ⟨hA, hn⟩
  have u0 := fb_ct_upd (n := 256) (oeF A) false (i := 4 * a + w) (by omega)
  rw [if_pos hp, if_neg (show ¬ false = true by decide)] at u0
  have u1 := fb_ct_upd (n := 256) (fun k => if k = 4 * a + w then false else oeF A k) true (i := 4 * s + (w + 3) % 4) (by omega)
  rw [if_pos (rfl : true = true)] at u1
  have u2 := fb_ct_upd (n := 256) (fun k => if k = 4 * s + (w + 3) % 4 then true else if k = 4 * a + w then false else oeF A k) true (i := 4 * s + w) (by omega)
  rw [if_pos (rfl : true = true)] at u2
  have u3 := fb_ct_upd (n := 256) (fun k => if k = 4 * s + w then true else if k = 4 * s + (w + 3) % 4 then true else if k = 4 * a + w then false else oeF A k) true (i := 4 * s + (w + 1) % 4) (by omega)
  rw [if_pos (rfl : true = true)] at u3
  have hsub : fb_ct (oeF (fun k => if k = s then true else A k)) 256 ≤ fb_ct (fun k => if k = 4 * s + (w + 1) % 4 then true else if k = 4 * s + w then true else if k = 4 * s + (w + 3) % 4 then true else if k = 4 * a + w then false else oeF A k) 256 := by
    refine fb_ct_sub fun k hk h => ?_
    rw [oe_iff] at h
    obtain ⟨g1, g2⟩ := h
    try dsimp only at g1 g2
    have g3 : ¬ bs (k / 4) (k % 4) = s ∧ A (bs (k / 4) (k % 4)) = false := by
      by_cases c : bs (k / 4) (k % 4) = s
      · rw [if_pos c] at g2
        exact absurd g2 (by decide)
      · rw [if_neg c] at g2
        exact ⟨c, g2⟩
    try dsimp only
    by_cases c1 : k = 4 * s + (w + 1) % 4
    · rw [if_pos c1]
    · rw [if_neg c1]
      by_cases c2 : k = 4 * s + w
      · rw [if_pos c2]
      · rw [if_neg c2]
        by_cases c3 : k = 4 * s + (w + 3) % 4
        · rw [if_pos c3]
        · rw [if_neg c3]
          have c5 : ¬ k / 4 = s := fun e => by
            have ew : k % 4 = (w + 2) % 4 := by omega
            rw [e, ew, hbk, hA] at g3
            exact absurd g3.2 (by decide)
          have c4 : ¬ k = 4 * a + w := fun e => by
            apply g3.1
            rw [e, show (4 * a + w) / 4 = a by omega, show (4 * a + w) % 4 = w by omega, hse]
          rw [if_neg c4, oe_iff]
          rw [if_neg c5] at g1
          exact ⟨g1, g3.2⟩
  split at u1 <;> split at u2 <;> split at u3 <;> omega
theorem oe_one (q : Nat) : fb_ct (oeF (fun k => decide (k = q))) 256 ≤ 4 := by
  refine ct_on (fun i => 4 * q + i) 256 4 _ (fun e he h => ?_)
  rw [oe_iff] at h
  have := of_decide_eq_true h.1
  exact ⟨e % 4, by omega, by omega⟩
theorem oe_grow {A : Nat → Bool} (hA : ∀ k, A k = true → k < 64) (hc : Cn A) : ∀ n, 1 ≤ n → n ≤ fb_ct A 64 → ∃ B : Nat → Bool, (∀ k, B k = true → A k = true) ∧ fb_ct B 64 = n ∧ fb_ct (oeF B) 256 ≤ 2 * n + 2
  | 0, h, _ => absurd h (by decide)
  | 1, _, h1 => by
    obtain ⟨q, hq, hAq⟩ := fb_ct_pos.mp (show 0 < fb_ct A 64 by omega)
    refine ⟨fun k => decide (k = q), fun k hk => ?_, ?_, oe_one q⟩
    · rw [of_decide_eq_true hk]; exact hAq
    · have h2 := fb_ct_upd (n := 64) (fun _ => false) true hq
      have h3 : fb_ct (fun _ => false) 64 = 0 := fb_ct_zero.mpr fun _ _ => rfl
      have h4 : fb_ct (fun k => decide (k = q)) 64 = fb_ct (fun k => if k = q then true else false) 64 := fb_ct_cong fun k _ => by
        by_cases c : k = q
        · rw [if_pos c]; exact decide_eq_true c
        · rw [if_neg c]; exact decide_eq_false c
      rw [if_neg (by decide), if_pos rfl] at h2
      omega
  | n + 2, _, hn => by
    obtain ⟨B, hB, hcB, hoB⟩ := oe_grow hA hc (n + 1) (by omega) (by omega)
    have hex : ∃ q w, w < 4 ∧ B q = true ∧ A (bs q w) = true ∧ B (bs q w) = false := by
      refine Classical.byContradiction fun hno => ?_
      have hall : ∀ q, A q = true → B q = true := by
        refine hc (fun q => B q = true) ?_ (fun q w hw hq hBq hn => ?_)
        · obtain ⟨q, _, hq⟩ := fb_ct_pos.mp (show 0 < fb_ct B 64 by omega)
          exact ⟨q, hB q hq, hq⟩
        · cases c : B (bs q w)
          · exact absurd ⟨q, w, hw, hBq, hn, c⟩ hno
          · rfl
      have : fb_ct A 64 ≤ fb_ct B 64 := fb_ct_sub fun k _ h => hall k h
      omega
    obtain ⟨q, w, hw, hBq, hAs, hBs⟩ := hex
    have hs := hA _ hAs
    refine ⟨fun k => if k = bs q w then true else B k, fun k hk => ?_, ?_, ?_⟩
    · by_cases c : k = bs q w
      · rw [c]; exact hAs
      · try dsimp only at hk
        rw [if_neg c] at hk; exact hB k hk
    · have := fb_ct_upd B true hs
      rw [hBs, if_neg (by decide), if_pos rfl] at this
      omega
    · have := oe_add hBq (hA q (hB q hBq)) hw hs hBs
      omega
theorem oe_50 {x : Int64} (hx : ¬ x = 0) (h24 : pc x ≤ 24) (hc : Cn (bt x)) : oe x ≤ 50 := by
  have h1 : 1 ≤ pc x := by
    obtain ⟨k, hk, hb⟩ := bt_some hx
    exact fb_ct_pos.mpr ⟨k, hk, hb⟩
  obtain ⟨B, hB, hcB, hoB⟩ := oe_grow (A := bt x) (fun k hk => bt_lt hk) hc (pc x) h1 (Nat.le_refl _)
  have hall : ∀ k, k < 64 → B k = bt x k := by
    intro k hk
    cases c : bt x k
    · cases c2 : B k
      · rfl
      · rw [hB k c2] at c; exact absurd c (by decide)
    · cases c2 : B k
      · exfalso
        have hu := fb_ct_upd B true hk
        rw [c2, if_neg (by decide), if_pos rfl] at hu
        have : fb_ct (fun j => if j = k then true else B j) 64 ≤ fb_ct (bt x) 64 := fb_ct_sub fun j _ hj => by
          by_cases e : j = k
          · rw [e]; exact c
          · rw [if_neg e] at hj; exact hB j hj
        have e2 : fb_ct (bt x) 64 = pc x := rfl
        omega
      · rfl
  have e64 : ∀ k, B k = bt x k := fun k => by
    rcases Nat.lt_or_ge k 64 with q | q
    · exact hall k q
    · rw [bt_ge x q]
      cases c : B k
      · rfl
      · have := bt_lt (hB k c); omega
  have : B = bt x := funext e64
  rw [this] at hoB
  unfold oe
  omega

/-! ===== pure: the rim as the orbit of a step; turned figures have turned rims ===== -/
theorem orb_per {x : Int64} {s : Nat × Nat} {r : Nat} (h : orb x s r = s) : ∀ i, orb x s (i + r) = orb x s i
  | 0 => by rw [Nat.zero_add]; exact h
  | i + 1 => by
    rw [show i + 1 + r = (i + r) + 1 by omega]
    show stp x (orb x s (i + r)) = stp x (orb x s i)
    rw [orb_per h i]
theorem orb_pers {x : Int64} {s : Nat × Nat} {r : Nat} (h : orb x s r = s) (i : Nat) : ∀ k, orb x s (i + r * k) = orb x s i
  | 0 => rfl
  | k + 1 => by
    rw [Nat.mul_succ, ← Nat.add_assoc, orb_per h, orb_pers h i k]
theorem orb_mod {x : Int64} {s : Nat × Nat} {r : Nat} (h : orb x s r = s) (i : Nat) : orb x s i = orb x s (i % r) := by
  have := orb_pers h (i % r) (i / r)
  rw [Nat.mod_add_div] at this
  exact this
def eix (z : Nat × Nat) : Nat := 4 * z.1 + (z.2 + 3) % 4
def dix (e : Nat) : Nat × Nat := (e / 4, (e % 4 + 1) % 4)
theorem ve_oe {x : Int64} {z : Nat × Nat} (h : Ve x z) : eix z < 256 ∧ oeF (bt x) (eix z) = true := by
  obtain ⟨h1, h2, h3, h4⟩ := h
  unfold eix
  refine ⟨by omega, ?_⟩
  rw [oe_iff, show (4 * z.1 + (z.2 + 3) % 4) / 4 = z.1 by omega, show (4 * z.1 + (z.2 + 3) % 4) % 4 = (z.2 + 3) % 4 by omega]
  exact ⟨h3, h4⟩
theorem oe_ve {x : Int64} {e : Nat} (h : oeF (bt x) e = true) : Ve x (dix e) ∧ eix (dix e) = e := by
  rw [oe_iff] at h
  refine ⟨⟨bt_lt h.1, by show (e % 4 + 1) % 4 < 4; omega, h.1, ?_⟩, ?_⟩
  · show bt x (bs (e / 4) (((e % 4 + 1) % 4 + 3) % 4)) = false
    rw [show ((e % 4 + 1) % 4 + 3) % 4 = e % 4 by omega]
    exact h.2
  · show 4 * (e / 4) + ((e % 4 + 1) % 4 + 3) % 4 = e
    omega
theorem dix_eix {z : Nat × Nat} (h : z.2 < 4) : dix (eix z) = z := by
  obtain ⟨a, b⟩ := z
  dsimp only at h
  unfold dix eix
  try dsimp only
  rw [show (4 * a + (b + 3) % 4) / 4 = a by omega, show ((4 * a + (b + 3) % 4) % 4 + 1) % 4 = b by omega]
theorem eix_inj {z z' : Nat × Nat} (h : z.2 < 4) (h' : z'.2 < 4) (e : eix z = eix z') : z = z' := by
  rw [← dix_eix h, ← dix_eix h', e]
def TrvS (x : Int64) : Prop := ∀ R : Nat × Nat → Prop, (∃ z, Ve x z ∧ R z) → (∀ z, Ve x z → R z → R (stp x z)) → ∀ z, Ve x z → R z
def TrvP (x : Int64) : Prop := ∀ R : Nat × Nat → Prop, (∃ z, Ve x z ∧ R z) → (∀ z, Ve x z → R z → R (pst x z)) → ∀ z, Ve x z → R z
theorem ret_cov {x : Int64} {s : Nat × Nat} {r : Nat} (hv : Ve x s) (hd : Dst x s r) : r ≤ oe x ∧ (r = oe x → ∀ z, Ve x z → ∃ i, i < r ∧ orb x s i = z) := by
  obtain ⟨h1, h2⟩ := ct_inj (fun i => eix (orb x s i)) 256 r (oeF (bt x)) (fun i _ => ve_oe (orb_ok hv i)) (fun i j hij hj e => hd i j hij hj (eix_inj (orb_ok hv i).2.1 (orb_ok hv j).2.1 e))
  refine ⟨h1, fun e z hz => ?_⟩
  obtain ⟨i, hi, ei⟩ := h2 e (eix z) (ve_oe hz).1 (ve_oe hz).2
  exact ⟨i, hi, eix_inj (orb_ok hv i).2.1 hz.2.1 ei⟩
theorem cov_S {x : Int64} {s : Nat × Nat} {r : Nat} (hv : Ve x s) (h : orb x s r = s) (hc : ∀ z, Ve x z → ∃ i, i < r ∧ orb x s i = z) : TrvS x := by
  intro R hex hcl z hz
  obtain ⟨z0, hz0, hR⟩ := hex
  obtain ⟨a, ha, ea⟩ := hc z0 hz0
  obtain ⟨b, hb, eb⟩ := hc z hz
  have key : ∀ i, R (orb x s (a + i)) := by
    intro i
    induction i with
    | zero => rw [Nat.add_zero, ea]; exact hR
    | succ i ih => exact hcl _ (orb_ok hv (a + i)) ih
  have := key (b + r - a)
  rw [show a + (b + r - a) = b + r by omega, orb_per h, eb] at this
  exact this
theorem cov_P {x : Int64} {s : Nat × Nat} {r : Nat} (hv : Ve x s) (h : orb x s r = s) (hc : ∀ z, Ve x z → ∃ i, i < r ∧ orb x s i = z) : TrvP x := by
  intro R hex hcl z hz
  obtain ⟨z0, hz0, hR⟩ := hex
  obtain ⟨a, ha, ea⟩ := hc z0 hz0
  obtain ⟨b, hb, eb⟩ := hc z hz
  have key : ∀ (n i : Nat), R (orb x s n) → i ≤ n → R (orb x s (n - i)) := by
    intro n i hn
    induction i with
    | zero => intro _; exact hn
    | succ i ih =>
      intro hi
      have h1 := ih (by omega)
      rw [show n - i = (n - (i + 1)) + 1 by omega] at h1
      have h2 := hcl _ (orb_ok hv _) h1
      have h3 : pst x (orb x s (n - (i + 1) + 1)) = orb x s (n - (i + 1)) := (stp_ok (orb_ok hv (n - (i + 1)))).2
      rw [h3] at h2
      exact h2
  have h1 := key a a (by rw [ea]; exact hR) (Nat.le_refl _)
  rw [Nat.sub_self] at h1
  have h2 : R (orb x s r) := by rw [h]; exact h1
  have h3 := key r (r - b) h2 (by omega)
  rw [show r - (r - b) = b by omega, eb] at h3
  exact h3
theorem S_cov {x : Int64} {s : Nat × Nat} {r : Nat} (hv : Ve x s) (hr : 1 ≤ r) (h : orb x s r = s) (ht : TrvS x) : ∀ z, Ve x z → ∃ i, i < r ∧ orb x s i = z := by
  intro z hz
  obtain ⟨i, ei⟩ := ht (fun z => ∃ i, orb x s i = z) ⟨s, hv, 0, rfl⟩ (fun z _ ⟨i, ei⟩ => ⟨i + 1, by rw [← ei]; rfl⟩) z hz
  exact ⟨i % r, Nat.mod_lt _ hr, by rw [← orb_mod h]; exact ei⟩
theorem ret_full {x : Int64} {s : Nat × Nat} {r : Nat} (hv : Ve x s) (hr : 1 ≤ r) (h : orb x s r = s) (hd : Dst x s r) : r = oe x ↔ TrvS x := by
  obtain ⟨h1, h2⟩ := ret_cov hv hd
  refine ⟨fun e => cov_S hv h (h2 e), fun ht => ?_⟩
  have hc := S_cov hv hr h ht
  have : oe x ≤ r := ct_on (fun i => eix (orb x s i)) 256 r (oeF (bt x)) (fun e he hq => by
    obtain ⟨g1, g2⟩ := oe_ve hq
    obtain ⟨i, hi, ei⟩ := hc _ g1
    exact ⟨i, hi, by (try dsimp only); rw [ei]; exact g2⟩)
  omega
theorem ret_ex {x : Int64} {s : Nat × Nat} (hv : Ve x s) : ∃ r, 1 ≤ r ∧ orb x s r = s ∧ Dst x s r := by
  refine Classical.byContradiction fun hno => ?_
  have hall : ∀ n, Dst x s n := by
    intro n
    induction n with
    | zero => exact fun i j _ hj => absurd hj (Nat.not_lt_zero j)
    | succ n ih =>
      refine Dst_succ hv ih ?_
      rcases Nat.eq_zero_or_pos n with q | q
      · exact Or.inl q
      · exact Or.inr fun e => hno ⟨n, q, e, ih⟩
  have := Dst_le hv (hall (4 * pc x + 1))
  omega
theorem ve_0 {x : Int64} {m : Nat} (hb : bt x m = true) (hl : ∀ j, j < m → bt x j = false) : Ve x (m, 0) := by
  refine ⟨bt_lt hb, show 0 < 4 by decide, hb, ?_⟩
  have : ∀ m, m < 64 → bs m 3 = 64 ∨ bs m 3 < m := by decide +kernel
  show bt x (bs m ((0 + 3) % 4)) = false
  rw [show ((0 + 3) % 4) = 3 from rfl]
  rcases this m (bt_lt hb) with q | q
  · rw [q]; exact bt_ge x (Nat.le_refl _)
  · exact hl _ q
theorem ve_ex {x : Int64} (hx : ¬ x = 0) : ∃ s, Ve x s := by
  obtain ⟨m, _, hm⟩ := bt_some hx
  obtain ⟨k, hk1, hk2⟩ := pk_least (fun k => bt x k = true) ⟨m, hm⟩
  refine ⟨_, ve_0 hk1 (fun j hj => ?_)⟩
  cases e : bt x j
  · rfl
  · exact absurd e (hk2 j hj)
theorem tr_sp {x : Int64} (hx : ¬ x = 0) (h : TrvS x) : TrvP x := by
  obtain ⟨s, hs⟩ := ve_ex hx
  obtain ⟨r, hr, he, _⟩ := ret_ex hs
  exact cov_P hs he (S_cov hs hr he h)
theorem bs_trn : ∀ q, q < 64 → ∀ w, w < 4 → bs (bs q ((w + 2) % 4)) ((w + 3) % 4) < 64 → bs (bs (bs q ((w + 2) % 4)) ((w + 3) % 4)) w = bs q ((w + 3) % 4) := by decide +kernel
theorem pst_ok {x : Int64} {z : Nat × Nat} (h : Ve x z) : Ve x (pst x z) ∧ stp x (pst x z) = z := by
  obtain ⟨q, w⟩ := z
  obtain ⟨h1, h2, h3, h4⟩ := h
  dsimp only at h1 h2 h3 h4
  have fl : ∀ k, ¬ bt x k = true → bt x k = false := fun k c => by
    cases e : bt x k
    · rfl
    · exact absurd e c
  unfold pst
  try dsimp only
  by_cases c1 : bt x (bs q ((w + 2) % 4)) = true
  · have l1 := bt_lt c1
    have g3 := bs_back q h1 ((w + 2) % 4) (by omega) l1
    rw [show ((w + 2) % 4 + 2) % 4 = w by omega] at g3
    rw [if_pos c1]
    by_cases c2 : bt x (bs (bs q ((w + 2) % 4)) ((w + 3) % 4)) = true
    · have l2 := bt_lt c2
      have g1 := bs_trn q h1 w h2 l2
      have g2 := bs_back _ l1 ((w + 3) % 4) (by omega) l2
      rw [show ((w + 3) % 4 + 2) % 4 = (w + 1) % 4 by omega] at g2
      rw [if_pos c2]
      have m1 : ((w + 1) % 4 + 3) % 4 = w := by omega
      refine ⟨⟨l2, by (try dsimp only); omega, c2, ?_⟩, ?_⟩
      · try dsimp only
        rw [m1, g1]; exact h4
      · unfold stp
        try dsimp only
        rw [g2, if_pos c1, m1, g3, if_pos h3]
    · rw [if_neg c2]
      refine ⟨⟨l1, h2, c1, fl _ c2⟩, ?_⟩
      unfold stp
      try dsimp only
      rw [g3, if_pos h3, if_neg (by rw [h4]; decide)]
  · rw [if_neg c1]
    have m1 : ((w + 3) % 4 + 3) % 4 = (w + 2) % 4 := by omega
    refine ⟨⟨h1, by (try dsimp only); omega, h3, ?_⟩, ?_⟩
    · try dsimp only
      rw [m1]; exact fl _ c1
    · unfold stp
      try dsimp only
      rw [if_neg (by rw [h4]; decide), show ((w + 3) % 4 + 1) % 4 = w by omega]
/-! edges carried by a turning -/
def Em (m : Bool) (φ : Nat → Nat) (z : Nat × Nat) : Nat × Nat := (φ z.1, if m then (4 - z.2) % 4 else (z.2 + 1) % 4)
theorem em_w (m : Bool) {w : Nat} (hw : w < 4) : ((if m then (4 - w) % 4 else (w + 1) % 4) + 3) % 4 = tau m ((w + 3) % 4) := by
  unfold tau
  cases m
  · simp only [Bool.false_eq_true, if_false]; omega
  · simp only [if_true]; omega
theorem em_ve {m : Bool} {φ : Nat → Nat} {x y : Int64} {z : Nat × Nat} (h : Iso m φ x y) (hz : Ve x z) : Ve y (Em m φ z) := by
  obtain ⟨h1, h2, h3, h4⟩ := hz
  refine ⟨bt_lt (h.1 _ h3), ?_, h.1 _ h3, ?_⟩
  · show (if m then (4 - z.2) % 4 else (z.2 + 1) % 4) < 4
    split <;> omega
  · show bt y (bs (φ z.1) (((if m then (4 - z.2) % 4 else (z.2 + 1) % 4) + 3) % 4)) = false
    rw [em_w m h2, h.2.2.2.1 _ _ (by omega) h3]
    exact h4
theorem em_inj {m : Bool} {φ : Nat → Nat} {x y : Int64} {z z' : Nat × Nat} (h : Iso m φ x y) (hz : Ve x z) (hz' : Ve x z') (e : Em m φ z = Em m φ z') : z = z' := by
  obtain ⟨h1, h2, h3, _⟩ := hz
  obtain ⟨h1', h2', h3', _⟩ := hz'
  have e1 : φ z.1 = φ z'.1 := congrArg Prod.fst e
  have e2 : (if m then (4 - z.2) % 4 else (z.2 + 1) % 4) = (if m then (4 - z'.2) % 4 else (z'.2 + 1) % 4) := congrArg Prod.snd e
  refine Prod.ext (h.2.2.1 _ _ h3 h3' e1) ?_
  cases m
  · simp only [Bool.false_eq_true, if_false] at e2; omega
  · simp only [if_true] at e2; omega
theorem em_on {m : Bool} {φ : Nat → Nat} {x y : Int64} {z' : Nat × Nat} (h : Iso m φ x y) (hz : Ve y z') : ∃ z, Ve x z ∧ Em m φ z = z' := by
  obtain ⟨i, v⟩ := z'
  obtain ⟨h1, h2, h3, h4⟩ := hz
  dsimp only at h1 h2 h3 h4
  obtain ⟨j, hj, rfl⟩ := h.2.1 i h3
  have hw : (if m then (4 - v) % 4 else (v + 3) % 4) < 4 := by split <;> omega
  have he : (if m then (4 - (if m then (4 - v) % 4 else (v + 3) % 4)) % 4 else ((if m then (4 - v) % 4 else (v + 3) % 4) + 1) % 4) = v := by
    cases m
    · simp only [Bool.false_eq_true, if_false]; omega
    · simp only [if_true]; omega
  generalize (if m then (4 - v) % 4 else (v + 3) % 4) = w at hw he
  refine ⟨(j, w), ⟨bt_lt hj, hw, hj, ?_⟩, ?_⟩
  · show bt x (bs j ((w + 3) % 4)) = false
    rw [← h.2.2.2.1 j _ (by omega) hj, ← em_w m hw, he]
    exact h4
  · show (φ j, if m then (4 - w) % 4 else (w + 1) % 4) = (φ j, v)
    rw [he]
theorem em_f {φ : Nat → Nat} {x y : Int64} {z : Nat × Nat} (h : Iso false φ x y) (h2 : z.2 < 4) (h3 : bt x z.1 = true) : stp y (Em false φ z) = Em false φ (stp x z) ∧ (if bt y (bs (Em false φ z).1 (Em false φ z).2) then (if bt y (bs (bs (Em false φ z).1 (Em false φ z).2) (((Em false φ z).2 + 3) % 4)) then 3 else 2) else 1 : Nat) = (if bt x (bs z.1 z.2) then (if bt x (bs (bs z.1 z.2) ((z.2 + 3) % 4)) then 3 else 2) else 1) := by
  obtain ⟨j, w⟩ := z
  dsimp only at h2 h3
  obtain ⟨-, -, -, i4, i5⟩ := h
  have e1 : (Em false φ (j, w)).1 = φ j := rfl
  have e2 : (Em false φ (j, w)).2 = tau false w := rfl
  have e3 : (tau false w + 3) % 4 = tau false ((w + 3) % 4) := em_w false h2
  unfold stp
  rw [e1, e2, e3]
  try dsimp only
  rw [i4 j w h2 h3]
  by_cases c1 : bt x (bs j w) = true
  · rw [if_pos c1, if_pos c1, if_pos c1, if_pos c1, ← i5 j w h2 h3 c1, i4 (bs j w) _ (by omega) c1]
    by_cases c2 : bt x (bs (bs j w) ((w + 3) % 4)) = true
    · rw [if_pos c2, if_pos c2, if_pos c2, ← i5 _ _ (by omega) c1 c2]
      exact ⟨rfl, rfl⟩
    · rw [if_neg c2, if_neg c2, if_neg c2]
      exact ⟨rfl, rfl⟩
  · rw [if_neg c1, if_neg c1, if_neg c1, if_neg c1]
    refine ⟨?_, rfl⟩
    show (φ j, (tau false w + 1) % 4) = (φ j, ((w + 1) % 4 + 1) % 4)
    rfl
theorem em_t {φ : Nat → Nat} {x y : Int64} {z : Nat × Nat} (h : Iso true φ x y) (h2 : z.2 < 4) (h3 : bt x z.1 = true) : stp y (Em true φ z) = Em true φ (pst x z) ∧ (if bt y (bs (Em true φ z).1 (Em true φ z).2) then (if bt y (bs (bs (Em true φ z).1 (Em true φ z).2) (((Em true φ z).2 + 3) % 4)) then 3 else 2) else 1 : Nat) = (if bt x (bs z.1 ((z.2 + 2) % 4)) then (if bt x (bs (bs z.1 ((z.2 + 2) % 4)) ((z.2 + 3) % 4)) then 3 else 2) else 1) := by
  obtain ⟨j, w⟩ := z
  dsimp only at h2 h3
  obtain ⟨-, -, -, i4, i5⟩ := h
  have e1 : (Em true φ (j, w)).1 = φ j := rfl
  have e2 : (Em true φ (j, w)).2 = tau true ((w + 2) % 4) := by
    show (4 - w) % 4 = (6 - (w + 2) % 4) % 4
    omega
  have e3 : (tau true ((w + 2) % 4) + 3) % 4 = tau true ((w + 3) % 4) := by rw [← e2]; exact em_w true h2
  unfold stp pst
  rw [e1, e2, e3]
  try dsimp only
  rw [i4 j _ (by omega) h3]
  by_cases c1 : bt x (bs j ((w + 2) % 4)) = true
  · rw [if_pos c1, if_pos c1, if_pos c1, if_pos c1, ← i5 j _ (by omega) h3 c1, i4 (bs j ((w + 2) % 4)) _ (by omega) c1]
    by_cases c2 : bt x (bs (bs j ((w + 2) % 4)) ((w + 3) % 4)) = true
    · rw [if_pos c2, if_pos c2, if_pos c2, ← i5 _ _ (by omega) c1 c2]
      refine ⟨?_, rfl⟩
      show (φ _, tau true ((w + 3) % 4)) = (φ _, (4 - (w + 1) % 4) % 4)
      rw [show tau true ((w + 3) % 4) = (4 - (w + 1) % 4) % 4 by show (6 - (w + 3) % 4) % 4 = _; omega]
    · rw [if_neg c2, if_neg c2, if_neg c2]
      refine ⟨?_, rfl⟩
      show (φ _, tau true ((w + 2) % 4)) = (φ _, (4 - w) % 4)
      rw [← e2]; rfl
  · rw [if_neg c1, if_neg c1, if_neg c1, if_neg c1]
    refine ⟨?_, rfl⟩
    show (φ j, (tau true ((w + 2) % 4) + 1) % 4) = (φ j, (4 - (w + 3) % 4) % 4)
    rw [show (tau true ((w + 2) % 4) + 1) % 4 = (4 - (w + 3) % 4) % 4 by show ((6 - (w + 2) % 4) % 4 + 1) % 4 = _; omega]
theorem tr_iso {m : Bool} {φ : Nat → Nat} {x y : Int64} (hx : ¬ x = 0) (h : Iso m φ x y) (ht : TrvS x) : TrvS y := by
  intro R hex hcl z hz
  obtain ⟨z0, hz0, hR⟩ := hex
  obtain ⟨u, hu, rfl⟩ := em_on h hz0
  obtain ⟨v, hv, rfl⟩ := em_on h hz
  cases m
  · exact ht (fun z => R (Em false φ z)) ⟨u, hu, hR⟩ (fun z hz hR => by
      have := hcl _ (em_ve h hz) hR
      rw [(em_f h hz.2.1 hz.2.2.1).1] at this
      exact this) v hv
  · exact tr_sp hx ht (fun z => R (Em true φ z)) ⟨u, hu, hR⟩ (fun z hz hR => by
      have := hcl _ (em_ve h hz) hR
      rw [(em_t h hz.2.1 hz.2.2.1).1] at this
      exact this) v hv
theorem tr_iso' {m : Bool} {φ : Nat → Nat} {x y : Int64} (hy : ¬ y = 0) (h : Iso m φ x y) (ht : TrvS y) : TrvS x := by
  intro R hex hcl z hz
  obtain ⟨z0, hz0, hR⟩ := hex
  have key : ∃ v, Ve x v ∧ R v ∧ Em m φ v = Em m φ z := by
    cases m
    · exact ht (fun z' => ∃ v, Ve x v ∧ R v ∧ Em false φ v = z') ⟨_, em_ve h hz0, z0, hz0, hR, rfl⟩ (fun z' _ ⟨v, h1, h2, h3⟩ => ⟨stp x v, (stp_ok h1).1, hcl v h1 h2, by rw [← h3]; exact ((em_f h h1.2.1 h1.2.2.1).1).symm⟩) _ (em_ve h hz)
    · refine tr_sp hy ht (fun z' => ∃ v, Ve x v ∧ R v ∧ Em true φ v = z') ⟨_, em_ve h hz0, z0, hz0, hR, rfl⟩ (fun z' _ ⟨v, h1, h2, h3⟩ => ⟨stp x v, (stp_ok h1).1, hcl v h1 h2, ?_⟩) _ (em_ve h hz)
      have g := stp_ok h1
      have e1 := (em_t h g.1.2.1 g.1.2.2.1).1
      rw [g.2] at e1
      rw [← h3, ← e1]
      exact ((stp_ok (em_ve h g.1)).2).symm
  obtain ⟨v, h1, h2, h3⟩ := key
  rw [← em_inj h h1 hz h3]
  exact h2
/-! angles -/
def ang (x : Int64) (z : Nat × Nat) : Nat := if bt x (bs z.1 z.2) then (if bt x (bs (bs z.1 z.2) ((z.2 + 3) % 4)) then 3 else 2) else 1
def pan (x : Int64) (z : Nat × Nat) : Nat := if bt x (bs z.1 ((z.2 + 2) % 4)) then (if bt x (bs (bs z.1 ((z.2 + 2) % 4)) ((z.2 + 3) % 4)) then 3 else 2) else 1
theorem ang_b (x : Int64) (z : Nat × Nat) : 1 ≤ ang x z ∧ ang x z ≤ 3 := by
  unfold ang
  split
  · split <;> omega
  · omega
def anS (x : Int64) : Nat := fb_sm (fun e => if oeF (bt x) e then ang x (dix e) else 0) 256
theorem pan_stp {x : Int64} {z : Nat × Nat} (h : Ve x z) : pan x (stp x z) = ang x z := by
  have h0 := stp_ok h
  obtain ⟨q, w⟩ := z
  obtain ⟨h1, h2, h3, h4⟩ := h
  dsimp only at h1 h2 h3 h4
  unfold ang stp
  try dsimp only
  by_cases c1 : bt x (bs q w) = true
  · have l1 := bt_lt c1
    have g3 := bs_back q h1 w h2 l1
    rw [if_pos c1, if_pos c1]
    by_cases c2 : bt x (bs (bs q w) ((w + 3) % 4)) = true
    · have l2 := bt_lt c2
      have g2 := bs_back (bs q w) l1 ((w + 3) % 4) (by omega) l2
      rw [show ((w + 3) % 4 + 2) % 4 = (w + 1) % 4 by omega] at g2
      rw [if_pos c2, if_pos c2]
      unfold pan
      try dsimp only
      rw [show ((w + 3) % 4 + 2) % 4 = (w + 1) % 4 by omega, g2, if_pos c1, show ((w + 3) % 4 + 3) % 4 = (w + 2) % 4 by omega, g3, if_pos h3]
    · rw [if_neg c2, if_neg c2]
      unfold pan
      try dsimp only
      rw [g3, if_pos h3, if_neg (by rw [h4]; decide)]
  · rw [if_neg c1, if_neg c1]
    unfold pan
    try dsimp only
    rw [show ((w + 1) % 4 + 2) % 4 = (w + 3) % 4 by omega, if_neg (by rw [h4]; decide)]
theorem orb_sum {x : Int64} {s : Nat × Nat} {r : Nat} (hv : Ve x s) (hd : Dst x s r) (e : r = oe x) : fb_sm (fun i => ang x (orb x s i)) r = anS x := by
  have hc := (ret_cov hv hd).2 e
  have h := sm_bij (fun i => eix (orb x s i)) 256 (fun e => ang x (dix e)) (fun _ => true) r (oeF (bt x)) (fun i _ _ => ve_oe (orb_ok hv i)) (fun i j hi hj _ _ e => by
    have e2 := eix_inj (orb_ok hv i).2.1 (orb_ok hv j).2.1 e
    rcases Nat.lt_trichotomy i j with q | q | q
    · exact absurd e2 (hd i j q hj)
    · exact q
    · exact absurd e2.symm (hd j i q hi)) (fun e he hq => by
    obtain ⟨g1, g2⟩ := oe_ve hq
    obtain ⟨i, hi, ei⟩ := hc _ g1
    exact ⟨i, hi, rfl, by (try dsimp only); rw [ei]; exact g2⟩)
  unfold anS
  rw [h]
  refine fb_sm_cong fun i _ => ?_
  try dsimp only
  rw [if_pos rfl, dix_eix (orb_ok hv i).2.1]
theorem an_iso {m : Bool} {φ : Nat → Nat} {x y : Int64} (h : Iso m φ x y) : anS y = anS x := by
  unfold anS
  have h1 := sm_bij (fun e => eix (Em m φ (dix e))) 256 (fun e => ang y (dix e)) (oeF (bt x)) 256 (oeF (bt y)) (fun e _ hp => ve_oe (em_ve h (oe_ve hp).1)) (fun i j _ _ hp hq e => by
    have a := oe_ve hp
    have b := oe_ve hq
    have e2 := em_inj h a.1 b.1 (eix_inj (em_ve h a.1).2.1 (em_ve h b.1).2.1 e)
    rw [← a.2, ← b.2, e2]) (fun e he hq => by
    obtain ⟨g1, g2⟩ := oe_ve hq
    obtain ⟨z, hz, ez⟩ := em_on h g1
    refine ⟨eix z, (ve_oe hz).1, (ve_oe hz).2, ?_⟩
    try dsimp only
    rw [dix_eix hz.2.1, ez]
    exact g2)
  rw [h1]
  cases m
  · refine fb_sm_cong fun e he => ?_
    try dsimp only
    cases c : oeF (bt x) e
    · rfl
    · obtain ⟨g1, g2⟩ := oe_ve c
      rw [if_pos rfl, if_pos rfl, dix_eix (em_ve h g1).2.1]
      exact (em_f h g1.2.1 g1.2.2.1).2
  · have h2 := sm_bij (fun e => eix (stp x (dix e))) 256 (fun e => pan x (dix e)) (oeF (bt x)) 256 (oeF (bt x)) (fun e _ hp => ve_oe (stp_ok (oe_ve hp).1).1) (fun i j _ _ hp hq e => by
      have a := oe_ve hp
      have b := oe_ve hq
      have a2 := stp_ok a.1
      have b2 := stp_ok b.1
      have e2 := eix_inj a2.1.2.1 b2.1.2.1 e
      rw [← a.2, ← b.2, ← a2.2, ← b2.2, e2]) (fun e he hq => by
      obtain ⟨g1, g2⟩ := oe_ve hq
      have p := pst_ok g1
      refine ⟨eix (pst x (dix e)), (ve_oe p.1).1, (ve_oe p.1).2, ?_⟩
      try dsimp only
      rw [dix_eix p.1.2.1, p.2]
      exact g2)
    have h3 : fb_sm (fun i => if oeF (bt x) i = true then ang y (dix (eix (Em true φ (dix i)))) else 0) 256 = fb_sm (fun e => if oeF (bt x) e = true then pan x (dix e) else 0) 256 := fb_sm_cong fun e he => by
      cases c : oeF (bt x) e
      · rfl
      · obtain ⟨g1, g2⟩ := oe_ve c
        rw [if_pos rfl, if_pos rfl, dix_eix (em_ve h g1).2.1]
        exact (em_t h g1.2.1 g1.2.2.1).2
    rw [h3, h2]
    refine fb_sm_cong fun e he => ?_
    try dsimp only
    cases c : oeF (bt x) e
    · rfl
    · obtain ⟨g1, g2⟩ := oe_ve c
      rw [if_pos rfl, if_pos rfl, dix_eix (stp_ok g1).1.2.1]
      exact pan_stp g1
theorem sim_rim {x y : Int64} (h : Sim x y) : (TrvS x ↔ TrvS y) ∧ oe x = oe y ∧ anS x = anS y :=
  h (fun a b => (TrvS a ↔ TrvS b) ∧ oe a = oe b ∧ anS a = anS b) (fun _ => ⟨Iff.rfl, rfl, rfl⟩) (fun _ _ e => ⟨e.1.symm, e.2.1.symm, e.2.2.symm⟩) (fun _ _ _ e f => ⟨e.1.trans f.1, e.2.1.trans f.2.1, e.2.2.trans f.2.2⟩) (fun m a b e => by
    obtain ⟨φ, hφ⟩ := tb_iso e
    have hb := tb_ne e
    have ha : ¬ a = 0 := by
      obtain ⟨l, r, b', t, e1, _⟩ := e
      obtain ⟨k, hk, _⟩ := e1.1.1
      exact bt_ne hk
    exact ⟨⟨tr_iso ha hφ, tr_iso' hb hφ⟩, (iso_oe hφ).symm, (an_iso hφ).symm⟩)

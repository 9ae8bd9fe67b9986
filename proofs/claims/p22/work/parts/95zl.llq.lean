/-! ===== pure: as many legal gluings on the rims of figures that are alike ===== -/
theorem md_shift {n s i : Nat} (hn : 1 ≤ n) : (s + (i + n - 1) % n) % n = ((i + s) % n + n - 1) % n % n := by
  rw [Nat.mod_mod, Nat.add_mod_mod, show (i + s) % n + n - 1 = (i + s) % n + (n - 1) by omega, Nat.mod_add_mod, show s + (i + n - 1) = i + s + (n - 1) by omega]
theorem agl_f {φ : Nat → Nat} {x y : Int64} {m m' n s : Nat} (h : Iso false φ x y) (hn : 1 ≤ n) (hv : Ve x (m, 0)) (hr : orb x (m, 0) n = (m, 0)) (hz : Em false φ (orb x (m, 0) s) = (m', 0)) (i : Nat) : agl y m' n i = agl x m n ((i + s) % n) := by
  have ho : ∀ j, orb y (m', 0) j = Em false φ (orb x (m, 0) (s + j)) := by
    intro j
    induction j with
    | zero => exact hz.symm
    | succ j ih =>
      have v := orb_ok hv (s + j)
      show stp y (orb y (m', 0) j) = Em false φ (stp x (orb x (m, 0) (s + j)))
      rw [ih]
      exact (em_f h v.2.1 v.2.2.1).1
  have v := orb_ok hv (s + (i + n - 1) % n)
  show ang y (orb y (m', 0) ((i + n - 1) % n)) = ang x (orb x (m, 0) (((i + s) % n + n - 1) % n))
  rw [ho, orb_mod hr (((i + s) % n + n - 1) % n), ← md_shift hn, ← orb_mod hr]
  exact (em_f h v.2.1 v.2.2.1).2
theorem agl_t {φ : Nat → Nat} {x y : Int64} {m m' n s : Nat} (h : Iso true φ x y) (hv : Ve x (m, 0)) (hr : orb x (m, 0) n = (m, 0)) (hz : Em true φ (orb x (m, 0) s) = (m', 0)) {i : Nat} (hi : i < n) : agl y m' n i = agl x m n ((rV n i + (s + 1)) % n) := by
  have ho : ∀ j, j ≤ s + n → orb y (m', 0) j = Em true φ (orb x (m, 0) (s + n - j)) := by
    intro j
    induction j with
    | zero =>
      intro _
      rw [Nat.sub_zero, orb_per hr]
      exact hz.symm
    | succ j ih =>
      intro hj
      have v := orb_ok hv (s + n - (j + 1))
      have g := stp_ok v
      have e : orb x (m, 0) (s + n - j) = stp x (orb x (m, 0) (s + n - (j + 1))) := by
        rw [show s + n - j = s + n - (j + 1) + 1 by omega]
        rfl
      have w := (em_t h g.1.2.1 g.1.2.2.1).1
      rw [g.2] at w
      show stp y (orb y (m', 0) j) = _
      rw [ih (by omega), e]
      exact w
  have hj : (i + n - 1) % n = if i = 0 then n - 1 else i - 1 := by
    by_cases c : i = 0
    · rw [if_pos c, c, Nat.mod_eq_of_lt (by omega)]
      omega
    · rw [if_neg c, show i + n - 1 = i - 1 + n by omega, Nat.add_mod_right, Nat.mod_eq_of_lt (by omega)]
  have hjn : (i + n - 1) % n < n := Nat.mod_lt _ (by omega)
  have v := orb_ok hv (s + n - ((i + n - 1) % n + 1))
  have g := stp_ok v
  have e : orb x (m, 0) (s + n - (i + n - 1) % n) = stp x (orb x (m, 0) (s + n - ((i + n - 1) % n + 1))) := by
    rw [show s + n - (i + n - 1) % n = s + n - ((i + n - 1) % n + 1) + 1 by omega]
    rfl
  show ang y (orb y (m', 0) ((i + n - 1) % n)) = ang x (orb x (m, 0) (((rV n i + (s + 1)) % n + n - 1) % n))
  have w : ang y (Em true φ (stp x (orb x (m, 0) (s + n - ((i + n - 1) % n + 1))))) = pan x (stp x (orb x (m, 0) (s + n - ((i + n - 1) % n + 1)))) := (em_t h g.1.2.1 g.1.2.2.1).2
  rw [ho _ (by omega), e, w, pan_stp v]
  have e2 : orb x (m, 0) (((rV n i + (s + 1)) % n + n - 1) % n) = orb x (m, 0) (rV n i + s) := by
    rw [show (rV n i + (s + 1)) % n + n - 1 = (rV n i + (s + 1)) % n + (n - 1) by omega, Nat.mod_add_mod, show rV n i + (s + 1) + (n - 1) = rV n i + s + n by omega, ← orb_mod hr, orb_per hr]
  rw [e2]
  by_cases c : i = 0
  · have er : rV n i = 0 := if_pos c
    rw [if_pos c] at hj
    rw [er, hj, show s + n - (n - 1 + 1) = 0 + s by omega]
  · have er : rV n i = n - i := if_neg c
    rw [if_neg c] at hj
    rw [er, hj, show s + n - (i - 1 + 1) = n - i + s by omega]
theorem iso_LL {mm : Bool} {φ : Nat → Nat} {x y : Int64} {m m' n : Nat} (h : Iso mm φ x y) (hw : Wk x m n) (e : n = oe x) (hn : n ≤ 50) (hw' : Wk y m' n) : LLt n (agl y m' n) = LLt n (agl x m n) := by
  have hT := (wk_full hw).mp e
  obtain ⟨a1, a2, a3, a4, a5, a6⟩ := hw
  obtain ⟨b1, b2, b3, b4, b5, b6⟩ := hw'
  have hv := ve_0 a1 a2
  obtain ⟨z, hz, ez⟩ := em_on h (ve_0 b1 b2)
  obtain ⟨s, hs, es⟩ := S_cov hv a3 a5 hT z hz
  rw [← es] at ez
  cases mm
  · have e1 : LLt n (fun i => agl x m n ((i + s) % n)) = LLt n (agl x m n) := ll_Rs hn (by omega)
    have h1 : LLt n (agl y m' n) ≤ LLt n (fun i => agl x m n ((i + s) % n)) := ll_same hn (fun i _ => (agl_f h a3 hv a5 ez i).symm)
    have h2 : LLt n (fun i => agl x m n ((i + s) % n)) ≤ LLt n (agl y m' n) := ll_same hn (fun i _ => agl_f h a3 hv a5 ez i)
    omega
  · have e1 : LLt n (fun i => agl x m n ((i + (s + 1)) % n)) = LLt n (agl x m n) := ll_Rs hn (by omega)
    have e2 : LLt n (agl y m' n) = LLt n (fun i => agl x m n ((i + (s + 1)) % n)) := ll_Ms hn (fun i hi => agl_t h hv a5 ez hi)
    omega
theorem wk_ex {x : Int64} (hx : ¬ x = 0) (ht : TrvS x) (hb : oe x ≤ 50) : ∃ m, Wk x m (oe x) := by
  obtain ⟨k, _, hk⟩ := bt_some hx
  obtain ⟨m, _, h2, h3⟩ := lst_le (p := fun k => bt x k = true) k hk
  have h4 : ∀ j, j < m → bt x j = false := fun j hj => Bool.eq_false_iff.mpr (h3 j hj)
  have hv := ve_0 h2 h4
  obtain ⟨r, r1, r2, r3⟩ := ret_ex hv
  have er := (ret_full hv r1 r2 r3).mpr ht
  rw [← er] at hb ⊢
  exact ⟨m, h2, h4, r1, by omega, r2, r3⟩
def VLL (x : Int64) (v : Nat) : Prop := ∃ m n, Wk x m n ∧ n = oe x ∧ n ≤ 50 ∧ v = LLt n (agl x m n)
theorem sim_VLL {x y : Int64} (h : Sim x y) : ∀ v, VLL x v ↔ VLL y v :=
  h (fun a b => ∀ v, VLL a v ↔ VLL b v) (fun _ _ => Iff.rfl) (fun _ _ e v => (e v).symm) (fun _ _ _ e f v => (e v).trans (f v)) (fun mm a b e v => by
    obtain ⟨φ, hφ⟩ := tb_iso e
    have hb := tb_ne e
    have ha : ¬ a = 0 := by
      obtain ⟨l, r, b', t, e1, _⟩ := e
      obtain ⟨k, hk, _⟩ := e1.1.1
      exact bt_ne hk
    have eo := iso_oe hφ
    constructor
    · rintro ⟨m, n, hw, en, hn, rfl⟩
      obtain ⟨m', hw'⟩ := wk_ex hb (tr_iso ha hφ ((wk_full hw).mp en)) (by omega)
      have eb : oe b = n := by omega
      rw [eb] at hw'
      exact ⟨m', n, hw', eb.symm, hn, (iso_LL hφ hw en hn hw').symm⟩
    · rintro ⟨m', n, hw', en, hn, rfl⟩
      obtain ⟨m, hw⟩ := wk_ex ha (tr_iso' hb hφ ((wk_full hw').mp en)) (by omega)
      have ea : oe a = n := by omega
      rw [ea] at hw
      exact ⟨m, n, hw, ea.symm, hn, iso_LL hφ hw ea.symm hn hw'⟩)
theorem ll_ok : LLQ := by
  intro x y m m' n hx hs hw hw' e e' hn
  obtain ⟨m2, n2, hw2, e2, hn2, ev⟩ := (sim_VLL hs _).mp ⟨m, n, hw, e, hn, rfl⟩
  have enn : n2 = n := by omega
  rw [enn] at hw2 ev
  have em : m2 = m' := by
    rcases Nat.lt_trichotomy m2 m' with q | q | q
    · exact absurd hw2.1 (by rw [hw'.2.1 _ q]; decide)
    · exact q
    · exact absurd hw'.1 (by rw [hw2.2.1 _ q]; decide)
  rw [em] at ev
  exact ev

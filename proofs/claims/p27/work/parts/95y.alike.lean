/-! ===== pure: the eight ways to turn a figure; alike on both sides ===== -/
theorem bt_mk (p : Nat → Bool) : ∀ n, n ≤ 64 → ∃ y : Int64, ∀ i, i < 64 → bt y i = (decide (i < n) && p i)
  | 0, _ => ⟨0, fun i _ => by rw [bt_0]; rfl⟩
  | n + 1, hn => by
    obtain ⟨y, hy⟩ := bt_mk p n (by omega)
    by_cases hp : p n = true
    · refine ⟨y ||| lN (2 ^ n), fun i hi => ?_⟩
      rw [bt_or, bt_p2 (by omega), hy i hi]
      by_cases e : i = n
      · rw [e, hp, decide_eq_true (rfl : n = n), decide_eq_true (show n < n + 1 by omega)]
        cases (decide (n < n) && true) <;> rfl
      · rw [decide_eq_false e, Bool.or_false]
        by_cases c : i < n
        · rw [decide_eq_true c, decide_eq_true (show i < n + 1 by omega)]
        · rw [decide_eq_false c, decide_eq_false (show ¬ i < n + 1 by omega)]
    · refine ⟨y, fun i hi => ?_⟩
      rw [hy i hi]
      by_cases e : i = n
      · rw [e, decide_eq_false (Nat.lt_irrefl n)]
        cases c : p n
        · cases (decide (n < n + 1)) <;> rfl
        · exact absurd c hp
      · by_cases c : i < n
        · rw [decide_eq_true c, decide_eq_true (show i < n + 1 by omega)]
        · rw [decide_eq_false c, decide_eq_false (show ¬ i < n + 1 by omega)]
theorem bt_mkP (P : Nat → Prop) : ∃ y : Int64, ∀ i, i < 64 → (bt y i = true ↔ P i) := by
  obtain ⟨y, hy⟩ := bt_mk (fun i => @decide (P i) (Classical.propDecidable _)) 64 (Nat.le_refl _)
  refine ⟨y, fun i hi => ?_⟩
  rw [hy i hi, decide_eq_true hi, Bool.true_and]
  exact @decide_eq_true_iff _ (Classical.propDecidable _)
theorem tb_ex (m : Bool) {x : Int64} (hx : ¬ x = 0) : ∃ y, TnB m x y := by
  obtain ⟨l, r, b, t, e⟩ := ends_ex hx
  obtain ⟨y, hy⟩ := bt_mkP (fun i => ∃ j, bt x j = true ∧ pos m l r b t j = i)
  exact ⟨y, l, r, b, t, e, hy⟩
/-- a figure put down: what lies where, how wide, how high -/
def Rep (x : Int64) (A : Nat → Nat → Prop) (R T : Nat) : Prop := (∀ X Y, A X Y → X ≤ R ∧ Y ≤ T) ∧ R < 8 ∧ T < 8 ∧ ∃ l r b t, Ends x l r b t ∧ r = l + R ∧ t = b + T ∧ ∀ X Y, X ≤ R → Y ≤ T → (A X Y ↔ bt x (8 * (Y + b) + (X + l)) = true)
def Dn (y : Int64) (A : Nat → Nat → Prop) : Prop := ∀ X Y, X < 8 → Y < 8 → (bt y (8 * Y + X) = true ↔ A X Y)
theorem rep_ex {x : Int64} (hx : ¬ x = 0) : ∃ A R T, Rep x A R T := by
  obtain ⟨l, r, b, t, e⟩ := ends_ex hx
  have el := ends_lt e
  refine ⟨fun X Y => X ≤ r - l ∧ Y ≤ t - b ∧ bt x (8 * (Y + b) + (X + l)) = true, r - l, t - b, fun X Y h => ⟨h.1, h.2.1⟩, by omega, by omega, l, r, b, t, e, by omega, by omega, fun X Y h1 h2 => ⟨fun q => q.2.2, fun q => ⟨h1, h2, q⟩⟩⟩
theorem dn_fun {y z : Int64} {A B : Nat → Nat → Prop} (h : Dn y A) (h' : Dn z B) (hAB : ∀ X Y, X < 8 → Y < 8 → (A X Y ↔ B X Y)) : y = z := by
  refine bt_ext fun k hk => b_iff ?_
  have h1 := h (k % 8) (k / 8) (by omega) (by omega)
  have h2 := h' (k % 8) (k / 8) (by omega) (by omega)
  rw [show 8 * (k / 8) + k % 8 = k by omega] at h1 h2
  rw [h1, h2]
  exact hAB _ _ (by omega) (by omega)
/-- what is put down is told by what lies where -/
theorem dn_rep {y : Int64} {A : Nat → Nat → Prop} {R T : Nat} (h : Dn y A) (hA : ∀ X Y, A X Y → X ≤ R ∧ Y ≤ T) (hR : R < 8) (hT : T < 8) (h1 : ∃ Y, A 0 Y) (h2 : ∃ Y, A R Y) (h3 : ∃ X, A X 0) (h4 : ∃ X, A X T) : Rep y A R T := by
  have to : ∀ X Y, A X Y → bt y (8 * Y + X) = true := fun X Y q => by
    have := hA X Y q
    exact (h X Y (by omega) (by omega)).mpr q
  refine ⟨hA, hR, hT, 0, R, 0, T, ⟨⟨?_, ?_, ?_, ?_⟩, fun k hk => ?_⟩, by omega, by omega, fun X Y q1 q2 => ?_⟩
  · obtain ⟨Y, q⟩ := h1
    exact ⟨_, to _ _ q, by omega⟩
  · obtain ⟨Y, q⟩ := h2
    exact ⟨_, to _ _ q, by omega⟩
  · obtain ⟨X, q⟩ := h3
    have := hA _ _ q
    exact ⟨_, to _ _ q, by omega⟩
  · obtain ⟨X, q⟩ := h4
    have := hA _ _ q
    exact ⟨_, to _ _ q, by omega⟩
  · have k64 := bt_lt hk
    have q := h (k % 8) (k / 8) (by omega) (by omega)
    rw [show 8 * (k / 8) + k % 8 = k by omega] at q
    have := hA _ _ (q.mp hk)
    omega
  · rw [show 8 * (Y + 0) + (X + 0) = 8 * Y + X by omega]
    exact (h X Y (by omega) (by omega)).symm
theorem rep_all {x : Int64} {A : Nat → Nat → Prop} {R T : Nat} (h : Rep x A R T) : (∃ Y, A 0 Y) ∧ (∃ Y, A R Y) ∧ (∃ X, A X 0) ∧ (∃ X, A X T) := by
  obtain ⟨hA, hR, hT, l, r, b, t, e, er, et, hI⟩ := h
  obtain ⟨⟨⟨k1, a1, b1⟩, ⟨k2, a2, b2⟩, ⟨k3, a3, b3⟩, ⟨k4, a4, b4⟩⟩, he⟩ := e
  have fr : ∀ k, bt x k = true → A (k % 8 - l) (k / 8 - b) := fun k hk => by
    have := he k hk
    refine (hI _ _ (by omega) (by omega)).mpr ?_
    rw [show 8 * (k / 8 - b + b) + (k % 8 - l + l) = k by omega]
    exact hk
  have q1 := fr k1 a1
  have q2 := fr k2 a2
  have q3 := fr k3 a3
  have q4 := fr k4 a4
  have p1 := he k1 a1
  have p2 := he k2 a2
  have p3 := he k3 a3
  have p4 := he k4 a4
  rw [show k1 % 8 - l = 0 by omega] at q1
  rw [show k2 % 8 - l = R by omega] at q2
  rw [show k3 / 8 - b = 0 by omega] at q3
  rw [show k4 / 8 - b = T by omega] at q4
  exact ⟨⟨_, q1⟩, ⟨_, q2⟩, ⟨_, q3⟩, ⟨_, q4⟩⟩
theorem rep_pd {x y : Int64} {A : Nat → Nat → Prop} {R T : Nat} (h : Rep x A R T) (hp : PD x y) : Dn y A ∧ Rep y A R T := by
  have hall := rep_all h
  obtain ⟨hA, hR, hT, l, r, b, t, e, er, et, hI⟩ := h
  obtain ⟨l', r', b', t', e', hp⟩ := hp
  obtain ⟨rfl, rfl, rfl, rfl⟩ := ends_fun e e'
  have el := ends_lt e
  have hd : Dn y A := by
    intro X Y hX hY
    rw [hp (8 * Y + X), show 8 * Y + X + 8 * b + l = 8 * (Y + b) + (X + l) by omega]
    constructor
    · intro q
      by_cases c : X ≤ R ∧ Y ≤ T
      · exact (hI X Y c.1 c.2).mpr q
      · exfalso
        have := e.2 _ q
        have := bt_lt q
        omega
    · intro q
      have := hA X Y q
      exact (hI X Y this.1 this.2).mp q
  exact ⟨hd, dn_rep hd hA hR hT hall.1 hall.2.1 hall.2.2.1 hall.2.2.2⟩
def rA_ (A : Nat → Nat → Prop) (R T : Nat) : Nat → Nat → Prop := fun X Y => X ≤ T ∧ Y ≤ R ∧ A Y (T - X)
def mA_ (A : Nat → Nat → Prop) (R T : Nat) : Nat → Nat → Prop := fun X Y => X ≤ R ∧ Y ≤ T ∧ A (R - X) Y
theorem rep_r {x y : Int64} {A : Nat → Nat → Prop} {R T : Nat} (h : Rep x A R T) (hp : TnB false x y) : Dn y (rA_ A R T) ∧ Rep y (rA_ A R T) T R := by
  obtain ⟨⟨Y1, q1⟩, ⟨Y2, q2⟩, ⟨X3, q3⟩, ⟨X4, q4⟩⟩ := rep_all h
  obtain ⟨hA, hR, hT, l, r, b, t, e, er, et, hI⟩ := h
  obtain ⟨l', r', b', t', e', hp⟩ := hp
  obtain ⟨rfl, rfl, rfl, rfl⟩ := ends_fun e e'
  have el := ends_lt e
  have hd : Dn y (rA_ A R T) := by
    intro X Y hX hY
    rw [hp (8 * Y + X) (by omega)]
    unfold rA_ pos
    simp only [Bool.false_eq_true, if_false]
    constructor
    · rintro ⟨j, hj, ej⟩
      have := e.2 j hj
      have hX2 : X ≤ T := by omega
      have hY2 : Y ≤ R := by omega
      refine ⟨hX2, hY2, (hI Y (T - X) hY2 (by omega)).mpr ?_⟩
      rw [show 8 * (T - X + b) + (Y + l) = j by omega]
      exact hj
    · rintro ⟨hX2, hY2, q⟩
      have := (hI Y (T - X) hY2 (by omega)).mp q
      refine ⟨_, this, ?_⟩
      omega
  have a1 := hA _ _ q1
  have a2 := hA _ _ q2
  have a3 := hA _ _ q3
  have a4 := hA _ _ q4
  refine ⟨hd, dn_rep hd (fun X Y q => ⟨q.1, q.2.1⟩) hT hR ⟨X4, Nat.zero_le _, a4.1, ?_⟩ ⟨X3, Nat.le_refl _, a3.1, ?_⟩ ⟨T - Y1, by omega, Nat.zero_le _, ?_⟩ ⟨T - Y2, by omega, Nat.le_refl _, ?_⟩⟩
  · rw [Nat.sub_zero]; exact q4
  · rw [Nat.sub_self]; exact q3
  · rw [show T - (T - Y1) = Y1 by omega]; exact q1
  · rw [show T - (T - Y2) = Y2 by omega]; exact q2
theorem rep_m {x y : Int64} {A : Nat → Nat → Prop} {R T : Nat} (h : Rep x A R T) (hp : TnB true x y) : Dn y (mA_ A R T) ∧ Rep y (mA_ A R T) R T := by
  obtain ⟨⟨Y1, q1⟩, ⟨Y2, q2⟩, ⟨X3, q3⟩, ⟨X4, q4⟩⟩ := rep_all h
  obtain ⟨hA, hR, hT, l, r, b, t, e, er, et, hI⟩ := h
  obtain ⟨l', r', b', t', e', hp⟩ := hp
  obtain ⟨rfl, rfl, rfl, rfl⟩ := ends_fun e e'
  have el := ends_lt e
  have hd : Dn y (mA_ A R T) := by
    intro X Y hX hY
    rw [hp (8 * Y + X) (by omega)]
    unfold mA_ pos
    simp only [if_true]
    constructor
    · rintro ⟨j, hj, ej⟩
      have := e.2 j hj
      have hX2 : X ≤ R := by omega
      have hY2 : Y ≤ T := by omega
      refine ⟨hX2, hY2, (hI (R - X) Y (by omega) hY2).mpr ?_⟩
      rw [show 8 * (Y + b) + (R - X + l) = j by omega]
      exact hj
    · rintro ⟨hX2, hY2, q⟩
      have := (hI (R - X) Y (by omega) hY2).mp q
      refine ⟨_, this, ?_⟩
      omega
  have a1 := hA _ _ q1
  have a2 := hA _ _ q2
  have a3 := hA _ _ q3
  have a4 := hA _ _ q4
  refine ⟨hd, dn_rep hd (fun X Y q => ⟨q.1, q.2.1⟩) hR hT ⟨Y2, Nat.zero_le _, a2.2, ?_⟩ ⟨Y1, Nat.le_refl _, a1.2, ?_⟩ ⟨R - X3, by omega, Nat.zero_le _, ?_⟩ ⟨R - X4, by omega, Nat.le_refl _, ?_⟩⟩
  · rw [Nat.sub_zero]; exact q2
  · rw [Nat.sub_self]; exact q1
  · rw [show R - (R - X3) = X3 by omega]; exact q3
  · rw [show R - (R - X4) = X4 by omega]; exact q4
noncomputable def trn (m : Bool) (x : Int64) : Int64 := @dite _ (∃ y, TnB m x y) (Classical.propDecidable _) (fun h => Classical.choose h) (fun _ => 0)
theorem trn_ok (m : Bool) {x : Int64} (hx : ¬ x = 0) : TnB m x (trn m x) := by
  have h := tb_ex m hx
  unfold trn
  rw [dif_pos h]
  exact Classical.choose_spec h
theorem tb_nz {m : Bool} {x y : Int64} (h : TnB m x y) : ¬ x = 0 := by
  obtain ⟨l, r, b', t, e1, _⟩ := h
  obtain ⟨k, hk, _⟩ := e1.1.1
  exact bt_ne hk
theorem trn_eq {m : Bool} {x y : Int64} (h : TnB m x y) : y = trn m x := tb_fun h (trn_ok m (tb_nz h))
theorem trn_nz (m : Bool) {x : Int64} (hx : ¬ x = 0) : ¬ trn m x = 0 := tb_ne (trn_ok m hx)
theorem pd_ex {x : Int64} (hx : ¬ x = 0) : ∃ y, PD x y := by
  obtain ⟨l, r, b, t, e⟩ := ends_ex hx
  obtain ⟨y, hy⟩ := bt_mkP (fun i => bt x (i + 8 * b + l) = true)
  refine ⟨y, l, r, b, t, e, fun i => b_iff ?_⟩
  rcases Nat.lt_or_ge i 64 with q | q
  · exact hy i q
  · rw [bt_ge y q, bt_ge x (by omega)]
theorem pd_fun {x y z : Int64} (h : PD x y) (h' : PD x z) : y = z := by
  obtain ⟨l, r, b, t, e, h⟩ := h
  obtain ⟨l', r', b', t', e', h'⟩ := h'
  obtain ⟨rfl, rfl, rfl, rfl⟩ := ends_fun e e'
  exact bt_ext fun k _ => (h k).trans (h' k).symm
noncomputable def pdn (x : Int64) : Int64 := @dite _ (∃ y, PD x y) (Classical.propDecidable _) (fun h => Classical.choose h) (fun _ => 0)
theorem pdn_ok {x : Int64} (hx : ¬ x = 0) : PD x (pdn x) := by
  have h := pd_ex hx
  unfold pdn
  rw [dif_pos h]
  exact Classical.choose_spec h
theorem pdn_eq {x y : Int64} (hx : ¬ x = 0) (h : PD x y) : y = pdn x := pd_fun h (pdn_ok hx)
theorem pdn_nz {x : Int64} (hx : ¬ x = 0) : ¬ pdn x = 0 := by
  obtain ⟨A, R, T, h⟩ := rep_ex hx
  obtain ⟨_, h2⟩ := rep_pd h (pdn_ok hx)
  obtain ⟨_, _, _, l, r, b, t, e, _⟩ := h2
  obtain ⟨k, hk, _⟩ := e.1.1
  exact bt_ne hk
/-! how the eight go together -/
theorem pd_trn (m : Bool) {x : Int64} (hx : ¬ x = 0) : pdn (trn m x) = trn m x := pd_tb (trn_ok m hx) (pdn_ok (trn_nz m hx))
theorem trn_pd (m : Bool) {x : Int64} (hx : ¬ x = 0) : trn m (pdn x) = trn m x := by
  obtain ⟨A, R, T, h⟩ := rep_ex hx
  obtain ⟨h1, h2⟩ := rep_pd h (pdn_ok hx)
  have hp := pdn_nz hx
  cases m
  · exact dn_fun (rep_r h2 (trn_ok false hp)).1 (rep_r h (trn_ok false hx)).1 (fun _ _ _ _ => Iff.rfl)
  · exact dn_fun (rep_m h2 (trn_ok true hp)).1 (rep_m h (trn_ok true hx)).1 (fun _ _ _ _ => Iff.rfl)
theorem r_4 {x : Int64} (hx : ¬ x = 0) : trn false (trn false (trn false (trn false x))) = pdn x := by
  obtain ⟨A, R, T, h⟩ := rep_ex hx
  have n1 := trn_nz false hx
  have n2 := trn_nz false n1
  have n3 := trn_nz false n2
  obtain ⟨_, h1⟩ := rep_r h (trn_ok false hx)
  obtain ⟨_, h2⟩ := rep_r h1 (trn_ok false n1)
  obtain ⟨_, h3⟩ := rep_r h2 (trn_ok false n2)
  obtain ⟨d4, _⟩ := rep_r h3 (trn_ok false n3)
  refine dn_fun d4 (rep_pd h (pdn_ok hx)).1 (fun X Y _ _ => ?_)
  unfold rA_
  constructor
  · rintro ⟨a1, a2, a3, a4, a5, a6, a7, a8, q⟩
    rw [show T - (T - Y) = Y by omega, show R - (R - X) = X by omega] at q
    exact q
  · intro q
    have := h.1 X Y q
    refine ⟨by omega, by omega, by omega, by omega, by omega, by omega, by omega, by omega, ?_⟩
    rw [show T - (T - Y) = Y by omega, show R - (R - X) = X by omega]
    exact q
theorem m_2 {x : Int64} (hx : ¬ x = 0) : trn true (trn true x) = pdn x := by
  obtain ⟨A, R, T, h⟩ := rep_ex hx
  have n1 := trn_nz true hx
  obtain ⟨_, h1⟩ := rep_m h (trn_ok true hx)
  obtain ⟨d2, _⟩ := rep_m h1 (trn_ok true n1)
  refine dn_fun d2 (rep_pd h (pdn_ok hx)).1 (fun X Y _ _ => ?_)
  unfold mA_
  constructor
  · rintro ⟨a1, a2, a3, a4, q⟩
    rw [show R - (R - X) = X by omega] at q
    exact q
  · intro q
    have := h.1 X Y q
    refine ⟨by omega, by omega, by omega, by omega, ?_⟩
    rw [show R - (R - X) = X by omega]
    exact q
theorem m_r {x : Int64} (hx : ¬ x = 0) : trn true (trn false x) = trn false (trn false (trn false (trn true x))) := by
  obtain ⟨A, R, T, h⟩ := rep_ex hx
  have n1 := trn_nz false hx
  have m1 := trn_nz true hx
  have m2 := trn_nz false m1
  have m3 := trn_nz false m2
  obtain ⟨_, h1⟩ := rep_r h (trn_ok false hx)
  obtain ⟨d2, _⟩ := rep_m h1 (trn_ok true n1)
  obtain ⟨_, g1⟩ := rep_m h (trn_ok true hx)
  obtain ⟨_, g2⟩ := rep_r g1 (trn_ok false m1)
  obtain ⟨_, g3⟩ := rep_r g2 (trn_ok false m2)
  obtain ⟨d4, _⟩ := rep_r g3 (trn_ok false m3)
  refine dn_fun d2 d4 (fun X Y _ _ => ?_)
  unfold mA_ rA_
  constructor
  · rintro ⟨a1, a2, a3, a4, q⟩
    rw [show T - (T - X) = X by omega] at q
    refine ⟨by omega, by omega, by omega, by omega, by omega, by omega, by omega, by omega, ?_⟩
    rw [show R - (R - Y) = Y by omega, show T - (T - X) = X by omega]
    exact q
  · rintro ⟨a1, a2, a3, a4, a5, a6, a7, a8, q⟩
    rw [show R - (R - Y) = Y by omega, show T - (T - X) = X by omega] at q
    refine ⟨by omega, by omega, by omega, by omega, ?_⟩
    rw [show T - (T - X) = X by omega]
    exact q
def O8 (x z : Int64) : Prop := z = pdn x ∨ z = trn false x ∨ z = trn false (trn false x) ∨ z = trn false (trn false (trn false x)) ∨ z = trn true x ∨ z = trn false (trn true x) ∨ z = trn false (trn false (trn true x)) ∨ z = trn false (trn false (trn false (trn true x)))
theorem O8_r {x : Int64} (hx : ¬ x = 0) (z : Int64) : O8 (trn false x) z ↔ O8 x z := by
  have m1 := trn_nz true hx
  unfold O8
  rw [pd_trn false hx, r_4 hx, m_r hx, r_4 m1, pd_trn true hx]
  constructor
  · rintro (e | e | e | e | e | e | e | e)
    · exact Or.inr (Or.inl e)
    · exact Or.inr (Or.inr (Or.inl e))
    · exact Or.inr (Or.inr (Or.inr (Or.inl e)))
    · exact Or.inl e
    · exact Or.inr (Or.inr (Or.inr (Or.inr (Or.inr (Or.inr (Or.inr e))))))
    · exact Or.inr (Or.inr (Or.inr (Or.inr (Or.inl e))))
    · exact Or.inr (Or.inr (Or.inr (Or.inr (Or.inr (Or.inl e)))))
    · exact Or.inr (Or.inr (Or.inr (Or.inr (Or.inr (Or.inr (Or.inl e))))))
  · rintro (e | e | e | e | e | e | e | e)
    · exact Or.inr (Or.inr (Or.inr (Or.inl e)))
    · exact Or.inl e
    · exact Or.inr (Or.inl e)
    · exact Or.inr (Or.inr (Or.inl e))
    · exact Or.inr (Or.inr (Or.inr (Or.inr (Or.inr (Or.inl e)))))
    · exact Or.inr (Or.inr (Or.inr (Or.inr (Or.inr (Or.inr (Or.inl e))))))
    · exact Or.inr (Or.inr (Or.inr (Or.inr (Or.inr (Or.inr (Or.inr e))))))
    · exact Or.inr (Or.inr (Or.inr (Or.inr (Or.inl e))))
theorem O8_m {x : Int64} (hx : ¬ x = 0) (z : Int64) : O8 (trn true x) z ↔ O8 x z := by
  unfold O8
  rw [pd_trn true hx, m_2 hx, trn_pd false hx]
  constructor
  · rintro (e | e | e | e | e | e | e | e)
    · exact Or.inr (Or.inr (Or.inr (Or.inr (Or.inl e))))
    · exact Or.inr (Or.inr (Or.inr (Or.inr (Or.inr (Or.inl e)))))
    · exact Or.inr (Or.inr (Or.inr (Or.inr (Or.inr (Or.inr (Or.inl e))))))
    · exact Or.inr (Or.inr (Or.inr (Or.inr (Or.inr (Or.inr (Or.inr e))))))
    · exact Or.inl e
    · exact Or.inr (Or.inl e)
    · exact Or.inr (Or.inr (Or.inl e))
    · exact Or.inr (Or.inr (Or.inr (Or.inl e)))
  · rintro (e | e | e | e | e | e | e | e)
    · exact Or.inr (Or.inr (Or.inr (Or.inr (Or.inl e))))
    · exact Or.inr (Or.inr (Or.inr (Or.inr (Or.inr (Or.inl e)))))
    · exact Or.inr (Or.inr (Or.inr (Or.inr (Or.inr (Or.inr (Or.inl e))))))
    · exact Or.inr (Or.inr (Or.inr (Or.inr (Or.inr (Or.inr (Or.inr e))))))
    · exact Or.inl e
    · exact Or.inr (Or.inl e)
    · exact Or.inr (Or.inr (Or.inl e))
    · exact Or.inr (Or.inr (Or.inr (Or.inl e)))
theorem sim_8 {x y : Int64} (h : Sim x y) : ∀ z, O8 x z ↔ O8 y z :=
  h (fun a b => ∀ z, O8 a z ↔ O8 b z) (fun _ _ => Iff.rfl) (fun _ _ e z => (e z).symm) (fun _ _ _ e f z => (e z).trans (f z)) (fun m a b e z => by
    have ha := tb_nz e
    rw [trn_eq e]
    cases m
    · exact (O8_r ha z).symm
    · exact (O8_m ha z).symm)
theorem sim_r (m : Bool) {x : Int64} (hx : ¬ x = 0) : Sim x (trn m x) := Sim.st m (trn_ok m hx)
theorem sim_pd {x : Int64} (hx : ¬ x = 0) : Sim x (pdn x) := by
  have n1 := trn_nz false hx
  have n2 := trn_nz false n1
  have n3 := trn_nz false n2
  rw [← r_4 hx]
  exact Sim.tr (sim_r false hx) (Sim.tr (sim_r false n1) (Sim.tr (sim_r false n2) (sim_r false n3)))
theorem O8_sim {x z : Int64} (hx : ¬ x = 0) (h : O8 x z) : Sim x z := by
  have n1 := trn_nz false hx
  have n2 := trn_nz false n1
  have m1 := trn_nz true hx
  have m2 := trn_nz false m1
  have m3 := trn_nz false m2
  rcases h with e | e | e | e | e | e | e | e
  · rw [e]; exact sim_pd hx
  · rw [e]; exact sim_r false hx
  · rw [e]; exact Sim.tr (sim_r false hx) (sim_r false n1)
  · rw [e]; exact Sim.tr (sim_r false hx) (Sim.tr (sim_r false n1) (sim_r false n2))
  · rw [e]; exact sim_r true hx
  · rw [e]; exact Sim.tr (sim_r true hx) (sim_r false m1)
  · rw [e]; exact Sim.tr (sim_r true hx) (Sim.tr (sim_r false m1) (sim_r false m2))
  · rw [e]; exact Sim.tr (sim_r true hx) (Sim.tr (sim_r false m1) (Sim.tr (sim_r false m2) (sim_r false m3)))
theorem sim_iff {x y : Int64} (hx : ¬ x = 0) (hy : ¬ y = 0) : O8 x (pdn y) ↔ Sim x y :=
  ⟨fun h => Sim.tr (O8_sim hx h) (Sim.sy (sim_pd hy)), fun h => (sim_8 h _).mpr (Or.inl rfl)⟩
/-! the class -/
noncomputable def zk (x : Int64) : Nat → Int64
  | 0 => pdn x
  | k + 1 => trn (k == 3) (zk x k)
theorem zk_nz {x : Int64} (hx : ¬ x = 0) : ∀ k, ¬ zk x k = 0
  | 0 => pdn_nz hx
  | k + 1 => trn_nz _ (zk_nz hx k)
theorem zk_all {x : Int64} (hx : ¬ x = 0) (z : Int64) : O8 x z ↔ ∃ k, k < 8 ∧ zk x k = z := by
  have n1 := trn_nz false hx
  have n2 := trn_nz false n1
  have m1 := trn_nz true hx
  have m2 := trn_nz false m1
  have m3 := trn_nz false m2
  have e0 : zk x 0 = pdn x := rfl
  have e1 : zk x 1 = trn false x := by
    show trn false (pdn x) = _
    exact trn_pd false hx
  have e2 : zk x 2 = trn false (trn false x) := by
    show trn false (zk x 1) = _
    rw [e1]
  have e3 : zk x 3 = trn false (trn false (trn false x)) := by
    show trn false (zk x 2) = _
    rw [e2]
  have r4m : trn false (trn false (trn false (trn false (trn true x)))) = trn true x := by rw [r_4 m1, pd_trn true hx]
  have e4 : zk x 4 = trn false (trn true x) := by
    show trn true (zk x 3) = _
    rw [e3, m_r n2, m_r n1, m_r hx, r4m, r4m]
  have e5 : zk x 5 = trn false (trn false (trn true x)) := by
    show trn false (zk x 4) = _
    rw [e4]
  have e6 : zk x 6 = trn false (trn false (trn false (trn true x))) := by
    show trn false (zk x 5) = _
    rw [e5]
  have e7 : zk x 7 = trn true x := by
    show trn false (zk x 6) = _
    rw [e6, r4m]
  unfold O8
  rw [← e6, ← e5, ← e4, ← e7, ← e3, ← e2, ← e1, ← e0]
  constructor
  · rintro (e | e | e | e | e | e | e | e)
    · exact ⟨0, by decide, e.symm⟩
    · exact ⟨1, by decide, e.symm⟩
    · exact ⟨2, by decide, e.symm⟩
    · exact ⟨3, by decide, e.symm⟩
    · exact ⟨7, by decide, e.symm⟩
    · exact ⟨4, by decide, e.symm⟩
    · exact ⟨5, by decide, e.symm⟩
    · exact ⟨6, by decide, e.symm⟩
  · rintro ⟨k, hk, e⟩
    rcases (show k = 0 ∨ k = 1 ∨ k = 2 ∨ k = 3 ∨ k = 4 ∨ k = 5 ∨ k = 6 ∨ k = 7 by omega) with rfl | rfl | rfl | rfl | rfl | rfl | rfl | rfl
    · exact Or.inl e.symm
    · exact Or.inr (Or.inl e.symm)
    · exact Or.inr (Or.inr (Or.inl e.symm))
    · exact Or.inr (Or.inr (Or.inr (Or.inl e.symm)))
    · exact Or.inr (Or.inr (Or.inr (Or.inr (Or.inr (Or.inl e.symm)))))
    · exact Or.inr (Or.inr (Or.inr (Or.inr (Or.inr (Or.inr (Or.inl e.symm))))))
    · exact Or.inr (Or.inr (Or.inr (Or.inr (Or.inr (Or.inr (Or.inr e.symm))))))
    · exact Or.inr (Or.inr (Or.inr (Or.inr (Or.inl e.symm))))
theorem x0_areAlike (x y : Int64) (hx : ¬ x = 0) (hy : ¬ y = 0) (Q : Int32 → Prop) (h1 : Sim x y → Q 1) (h0 : ¬ Sim x y → Q 0) : w0_areAlike x y Q := by
  unfold w0_areAlike
  refine x0_putDown y hy _ (fun g hg => x0_putDown x hx _ (fun t ht => ?_))
  have eg := pdn_eq hy hg
  have et := pdn_eq hx ht
  subst eg et
  unfold w0_areAlike_b15
  refine lp_up 8 (fun z => z.2) (fun k z => z.1 = zk x k ∧ ∀ j, j < k → ¬ zk x j = pdn y) (by decide) ?_ (Nat.zero_le _) (rfl : (0 : Int32) = nI 0) (by exact ⟨rfl, fun j hj => absurd hj (Nat.not_lt_zero j)⟩)
  rintro K ⟨a, c⟩ k hk hcc ⟨hI, hno⟩ hK
  try dsimp only at hcc hI hno hK
  subst hcc hI
  unfold w0_areAlike_F15 w0_areAlike_d15 w0_areAlike_b45
  try dsimp only
  rw [lg_cmp_eq]
  refine ⟨fun c => ?_, fun c => ⟨fun cn => ?_, fun ce => ?_⟩⟩
  · have ek := nI_end (N := 8) (by decide) hk c
    subst ek
    refine h0 (fun hs => ?_)
    obtain ⟨j, hj, ej⟩ := (zk_all hx _).mp ((sim_iff hx hy).mpr hs)
    exact hno j hj ej
  · have hlt := nI_go (N := 8) (by decide) hk c
    have step : ∀ (m : Bool) (r1 : Int64), TnB m (zk x k) r1 → m = (k == 3) → ∀ y2 : Int32, y2 = nI k + 1 → K (r1, y2) := by
      rintro m r1 hT hm _ rfl
      refine hK (_, _) hlt (nI_1 k) ⟨?_, fun j hj => ?_⟩
      · show r1 = trn (k == 3) (zk x k)
        rw [← hm]
        exact trn_eq hT
      · rcases Nat.lt_or_ge j k with q | q
        · exact hno j q
        · have e : j = k := by omega
          subst e
          exact cn
    refine ⟨fun c3 => x0_turned _ _ (zk_nz hx k) _ (fun r1 hT => ?_), fun c3 => x0_turned _ _ (zk_nz hx k) _ (fun r1 hT => ?_)⟩
    · refine step _ r1 hT ?_
      rw [decide_eq_false (show ¬ ¬ (0 : Int32) = 0 from fun q => q rfl)]
      exact (beq_eq_false_iff_ne.mpr (fun e => c3 (by rw [e]; rfl))).symm
    · refine step _ r1 hT ?_
      rw [decide_eq_true (show ¬ (1 : Int32) = 0 by decide)]
      have e : k = 3 := (nI_eq (b := 3) (by omega) (by decide)).mp c3
      rw [e]; rfl
  · have hlt := nI_go (N := 8) (by decide) hk c
    exact h1 ((sim_iff hx hy).mp ((zk_all hx _).mpr ⟨k, hlt, ce⟩))
/-! the reference -/
noncomputable def rit (x : Int64) : Nat → Int64
  | 0 => x
  | k + 1 => trn false (rit x k)
theorem rit_nz {x : Int64} (hx : ¬ x = 0) : ∀ k, ¬ rit x k = 0
  | 0 => hx
  | k + 1 => trn_nz _ (rit_nz hx k)
/-- what is tried the k-th time -/
noncomputable def el8 (x : Int64) (k : Nat) : Int64 := if k < 4 then pdn (rit x k) else pdn (rit (trn true x) (k - 4))
theorem el_all {x : Int64} (hx : ¬ x = 0) (z : Int64) : O8 x z ↔ ∃ k, k < 8 ∧ el8 x k = z := by
  have n1 := trn_nz false hx
  have n2 := trn_nz false n1
  have m1 := trn_nz true hx
  have m2 := trn_nz false m1
  have m3 := trn_nz false m2
  have e0 : el8 x 0 = pdn x := rfl
  have e1 : el8 x 1 = trn false x := by
    show pdn (trn false x) = _
    exact pd_trn false hx
  have e2 : el8 x 2 = trn false (trn false x) := by
    show pdn (trn false (trn false x)) = _
    exact pd_trn false n1
  have e3 : el8 x 3 = trn false (trn false (trn false x)) := by
    show pdn (trn false (trn false (trn false x))) = _
    exact pd_trn false n2
  have e4 : el8 x 4 = trn true x := by
    show pdn (trn true x) = _
    exact pd_trn true hx
  have e5 : el8 x 5 = trn false (trn true x) := by
    show pdn (trn false (trn true x)) = _
    exact pd_trn false m1
  have e6 : el8 x 6 = trn false (trn false (trn true x)) := by
    show pdn (trn false (trn false (trn true x))) = _
    exact pd_trn false m2
  have e7 : el8 x 7 = trn false (trn false (trn false (trn true x))) := by
    show pdn (trn false (trn false (trn false (trn true x)))) = _
    exact pd_trn false m3
  unfold O8
  rw [← e7, ← e6, ← e5, ← e4, ← e3, ← e2, ← e1, ← e0]
  constructor
  · rintro (e | e | e | e | e | e | e | e)
    · exact ⟨0, by decide, e.symm⟩
    · exact ⟨1, by decide, e.symm⟩
    · exact ⟨2, by decide, e.symm⟩
    · exact ⟨3, by decide, e.symm⟩
    · exact ⟨4, by decide, e.symm⟩
    · exact ⟨5, by decide, e.symm⟩
    · exact ⟨6, by decide, e.symm⟩
    · exact ⟨7, by decide, e.symm⟩
  · rintro ⟨k, hk, e⟩
    rcases (show k = 0 ∨ k = 1 ∨ k = 2 ∨ k = 3 ∨ k = 4 ∨ k = 5 ∨ k = 6 ∨ k = 7 by omega) with rfl | rfl | rfl | rfl | rfl | rfl | rfl | rfl
    · exact Or.inl e.symm
    · exact Or.inr (Or.inl e.symm)
    · exact Or.inr (Or.inr (Or.inl e.symm))
    · exact Or.inr (Or.inr (Or.inr (Or.inl e.symm)))
    · exact Or.inr (Or.inr (Or.inr (Or.inr (Or.inl e.symm))))
    · exact Or.inr (Or.inr (Or.inr (Or.inr (Or.inr (Or.inl e.symm)))))
    · exact Or.inr (Or.inr (Or.inr (Or.inr (Or.inr (Or.inr (Or.inl e.symm))))))
    · exact Or.inr (Or.inr (Or.inr (Or.inr (Or.inr (Or.inr (Or.inr e.symm))))))
theorem x9_put8 (x : Int64) (hx : ¬ x = 0) (o : Int32) (k q : Nat) (hq : q < 4) (hk : (o = 0 ∧ k = q) ∨ (¬ o = 0 ∧ k = q + 4)) (S : MS) (Q : Int64 → MS → Prop) (h : ∀ S', Fr [6] S S' → Q (el8 x k) S') : w9_putDown x o (nI q) S Q := by
  have eq : (nI q).toInt = (q : Int) := nI_toInt (by omega)
  have m1 := trn_nz true hx
  rcases hk with ⟨ho, rfl⟩ | ⟨ho, rfl⟩
  · refine x9_putDown x o (nI k) (by omega) hx S (fun t z => 0 ≤ t ∧ t ≤ (k : Int) ∧ z = rit x t.toNat) (by rw [if_pos ho]; exact ⟨Int.le_refl _, by omega, rfl⟩) (fun t z z' ht hI hT => ?_) Q (fun t z v S' ht hI hP hF => ?_)
    · obtain ⟨h1, h2, h3⟩ := hI
      rw [decide_eq_false (by omega)] at hT
      refine ⟨by omega, by omega, ?_⟩
      rw [show (t + 1).toNat = t.toNat + 1 by omega]
      show z' = trn false (rit x t.toNat)
      rw [← h3]
      exact trn_eq hT
    · obtain ⟨h1, h2, h3⟩ := hI
      have et : t.toNat = k := by omega
      rw [et] at h3
      subst h3
      have := h S' hF
      unfold el8 at this
      rw [if_pos (by omega), ← pdn_eq (rit_nz hx k) hP] at this
      exact this
  · refine x9_putDown x o (nI q) (by omega) hx S (fun t z => (t = -1 ∧ z = x) ∨ (0 ≤ t ∧ t ≤ (q : Int) ∧ z = rit (trn true x) t.toNat)) (by rw [if_neg ho]; exact Or.inl ⟨rfl, rfl⟩) (fun t z z' ht hI hT => ?_) Q (fun t z v S' ht hI hP hF => ?_)
    · right
      rcases hI with ⟨h1, h3⟩ | ⟨h1, h2, h3⟩
      · subst h1 h3
        rw [decide_eq_true (by decide)] at hT
        exact ⟨by omega, by omega, trn_eq hT⟩
      · rw [decide_eq_false (by omega)] at hT
        refine ⟨by omega, by omega, ?_⟩
        rw [show (t + 1).toNat = t.toNat + 1 by omega]
        show z' = trn false (rit (trn true x) t.toNat)
        rw [← h3]
        exact trn_eq hT
    · rcases hI with ⟨h1, h3⟩ | ⟨h1, h2, h3⟩
      · omega
      · have et : t.toNat = q := by omega
        rw [et] at h3
        subst h3
        have := h S' hF
        unfold el8 at this
        rw [if_neg (by omega), show q + 4 - 4 = q by omega, ← pdn_eq (rit_nz m1 q) hP] at this
        exact this
theorem x9_alike {k j : Nat} (hk : k < 6) (hj : j < 6) (S : MS) (Q : Int32 → MS → Prop) (hz : aJ S 3 k = 0 ∨ aJ S 3 j = 0 → ∀ S', Fr [0, 1] S S' → Q (-3) S') (h1 : ¬ aJ S 3 k = 0 → ¬ aJ S 3 j = 0 → Sim (aJ S 3 k) (aJ S 3 j) → ∀ S', Fr [6] S S' → Q 1 S') (h0 : ¬ aJ S 3 k = 0 → ¬ aJ S 3 j = 0 → ¬ Sim (aJ S 3 k) (aJ S 3 j) → ∀ S', Fr [6] S S' → Q 0 S') : w9_alike (nI k) (nI j) S Q := by
  have hf : vp_in (nI k) 6 := vp_in_nI hk (by decide)
  have hg : vp_in (nI j) 6 := vp_in_nI hj (by decide)
  have h01 : ¬ (1 : Int32) = 0 := by decide
  have k38 : (aJ S 3 k = 0 ∨ aJ S 3 j = 0) → w9_alike_b38 S Q := fun q => by
    unfold w9_alike_b38
    exact m9_fr _ (by unfold vp_in; decide) _ _ (fun S' hF => hz q S' hF)
  unfold w9_alike w9_alike_b14
  rw [rL_n S hk, rL_n S hj, lg_cmp_eq, lg_cmp_eq]
  refine s9_isFigure _ _ (fun _ => ⟨fun c => absurd c h01, fun _ => s9_isFigure _ _ (fun _ => ⟨fun _ => ⟨hf, fun q => k38 (Or.inl q), fun hx => ⟨hg, fun hy => ?_, fun q => k38 (Or.inr q)⟩⟩, fun c => absurd c h01⟩) (fun c => absurd hg c)⟩) (fun c => absurd hf c)
  refine x9_put8 _ hy 0 0 0 (by decide) (Or.inl ⟨rfl, rfl⟩) S _ (fun S1 hF1 => ?_)
  rw [show el8 (aJ S 3 j) 0 = pdn (aJ S 3 j) from rfl]
  unfold w9_alike_b63
  refine lp_up 8 (fun z => z.2.1) (fun n z => Fr [6] S z.2.2 ∧ ((z.1 = 1 ∧ ∃ i, i < 8 ∧ el8 (aJ S 3 k) i = pdn (aJ S 3 j)) ∨ (z.1 = 0 ∧ ∀ i, i < n → ¬ el8 (aJ S 3 k) i = pdn (aJ S 3 j)))) (by decide) ?_ (Nat.zero_le _) (rfl : (0 : Int32) = nI 0) (by exact ⟨hF1, Or.inr ⟨rfl, fun i hi => absurd hi (Nat.not_lt_zero i)⟩⟩)
  rintro K ⟨a, y, S2⟩ n hn hcc ⟨hF, hI⟩ hK
  try dsimp only at hcc hF hI hK
  subst hcc
  unfold w9_alike_F63 w9_alike_d63 w9_alike_b128 w9_alike_b105 w9_alike_b93
  try dsimp only
  have hx2 : rL S2 3 (nI k) = aJ S 3 k := by rw [rL_n S2 hk, (hF 3 (by decide)).2.2.2]
  rw [hx2]
  refine ⟨fun c => ⟨fun ca => ?_, fun ca => ?_⟩, fun c => ?_⟩
  · have en := nI_end (N := 8) (by decide) hn c
    subst en
    rcases hI with ⟨q, _⟩ | ⟨q, hno⟩
    · rw [ca] at q; exact absurd q.symm h01
    · refine h0 hx hy (fun hs => ?_) S2 hF
      obtain ⟨i, hi, ei⟩ := (el_all hx _).mp ((sim_iff hx hy).mpr hs)
      exact hno i hi ei
  · rcases hI with ⟨q, hi⟩ | ⟨q, hno⟩
    · exact h1 hx hy ((sim_iff hx hy).mp ((el_all hx _).mpr hi)) S2 hF
    · exact absurd q ca
  have hlt := nI_go (N := 8) (by decide) hn c
  have hend : ∀ r S3, Fr [6] S S3 → ((r = 1 ∧ ∃ i, i < 8 ∧ el8 (aJ S 3 k) i = pdn (aJ S 3 j)) ∨ (r = 0 ∧ ∀ i, i < n + 1 → ¬ el8 (aJ S 3 k) i = pdn (aJ S 3 j))) → w9_alike_b110 (fun y0 y1 y2 => K (y0, y1, y2)) (nI k) (pdn (aJ S 3 j)) (nI n) r S3 Q := by
    intro r S3 hF3 hr
    unfold w9_alike_b110
    rintro _ rfl
    exact hK (_, _, _) hlt (nI_1 n) ⟨hF3, hr⟩
  rw [show nI n - nI n / (4 : Int32) * (4 : Int32) = nI (n % 4) from pk_rem (by omega) (by decide) (by decide)]
  refine ⟨fun ca => ?_, fun ca => ?_⟩
  · rcases hI with q | ⟨q, _⟩
    · exact hend _ _ hF (Or.inl ⟨rfl, q.2⟩)
    · exact absurd q ca
  have hno : ∀ i, i < n → ¬ el8 (aJ S 3 k) i = pdn (aJ S 3 j) := by
    rcases hI with ⟨q, _⟩ | ⟨_, q⟩
    · rw [ca] at q; exact absurd q.symm h01
    · exact q
  have fin : ∀ S3, Fr [6] S2 S3 → ((¬ (lg_cmp (el8 (aJ S 3 k) n) (pdn (aJ S 3 j))) = 0 → w9_alike_b110 (fun y0 y1 y2 => K (y0, y1, y2)) (nI k) (pdn (aJ S 3 j)) (nI n) (0 : Int32) S3 Q) ∧ ((lg_cmp (el8 (aJ S 3 k) n) (pdn (aJ S 3 j))) = 0 → w9_alike_b110 (fun y0 y1 y2 => K (y0, y1, y2)) (nI k) (pdn (aJ S 3 j)) (nI n) (1 : Int32) S3 Q)) := by
    intro S3 hF3
    rw [lg_cmp_eq]
    refine ⟨fun c => hend _ _ (fr_tr hF hF3) (Or.inr ⟨rfl, fun i hi => ?_⟩), fun c => hend _ _ (fr_tr hF hF3) (Or.inl ⟨rfl, n, hlt, c⟩)⟩
    rcases Nat.lt_or_ge i n with q | q
    · exact hno i q
    · have e : i = n := by omega
      rw [e]; exact c
  refine ⟨hf, fun c3 => ?_, fun c3 => ?_⟩
  · have h3 := (nI_leI (a := n) (b := 3) (by omega) (by decide)).mp c3
    exact x9_put8 _ hx 0 n (n % 4) (by omega) (Or.inl ⟨rfl, by omega⟩) S2 _ fin
  · have h3 : ¬ n ≤ 3 := fun q => c3 ((nI_leI (a := n) (b := 3) (by omega) (by decide)).mpr q)
    exact x9_put8 _ hx 1 n (n % 4) (by omega) (Or.inr ⟨h01, by omega⟩) S2 _ fin
theorem e_alike (f g : Int32) (Z : MS) (X : Nat → MS) (S : MS) (hA : All X S) (P : Int32 → Int32 → MS → MS → Prop) (h : ∀ v Z' S', All X S' → P v v Z' S') : w8_alike f g Z X (fun r1 Z2 => w9_alike f g S (fun r4 S5 => P r1 r4 Z2 S5)) := by
  have g0 : ∀ {ks S'}, Fr ks S S' → 3 ∉ ks → 7 ∉ ks → 40 ∉ ks → 41 ∉ ks → All X S' := fun hF h3 h7 h40 h41 => al_g hA (g8_rf hA.1) (g9_fr hA.2.1 hF h3 h7 h40 h41)
  have h01 : ¬ (1 : Int32) = 0 := by decide
  have bad : ¬ (vp_in f 6 ∧ vp_in g 6) → w9_alike f g S (fun r4 S5 => P (-1) r4 Z S5) := by
    intro hb
    unfold w9_alike w9_alike_b14
    exact s9_isFigure _ _ (fun hf => ⟨fun c => absurd c h01, fun _ => s9_isFigure _ _ (fun hg => absurd ⟨hf, hg⟩ hb) (fun _ => ⟨fun c => absurd rfl c, fun _ => h _ _ _ hA⟩)⟩) (fun _ => ⟨fun _ => h _ _ _ hA, fun c => absurd rfl c⟩)
  unfold w8_alike w8_alike_b14 w8_alike_b75 w8_alike_b40
  refine s8_isFigure _ _ (fun hf => ⟨fun c => absurd c h01, fun _ => s8_isFigure _ _ (fun hg => ⟨fun _ => ?_, fun c => absurd c h01⟩) (fun hg => ⟨fun c => absurd rfl c, fun _ => bad (fun w => hg w.2)⟩)⟩) (fun hf => ⟨fun _ => bad (fun w => hf w.1), fun c => absurd rfl c⟩)
  obtain ⟨k, hk, rfl⟩ := vp_in_of hf (by decide)
  obtain ⟨j, hj, rfl⟩ := vp_in_of hg (by decide)
  have tk := ff_there hA hk
  have tj := ff_there hA hj
  have none : (fI (X k) 0 = -1 ∨ fI (X j) 0 = -1) → w8_refuse (1 : Int32) Z X (fun r1 S2 => w9_alike (nI k) (nI j) S (fun r4 S5 => P r1 r4 S2 S5)) := by
    intro hn
    refine s8_refuse _ _ _ _ (fun Z' _ => x9_alike hk hj S _ (fun _ S' hF => h _ _ _ (g0 hF (by decide) (by decide) (by decide) (by decide))) (fun q1 q2 => ?_) (fun q1 q2 => ?_))
    · rcases hn with q | q
      · exact absurd (tk.mp q) q1
      · exact absurd (tj.mp q) q2
    · rcases hn with q | q
      · exact absurd (tk.mp q) q1
      · exact absurd (tj.mp q) q2
  rw [nI_clamp (by omega), nI_clamp (by omega)]
  refine ⟨hf, ⟨by omega, hk⟩, s2_isThere _ _ (fun hi => ⟨fun c => absurd c h01, fun _ => ⟨hg, ⟨by omega, hj⟩, s2_isThere _ _ (fun hi2 => ⟨fun _ => ?_, fun c => absurd c h01⟩) (fun hi2 => ⟨fun c => absurd rfl c, fun _ => none (Or.inr hi2)⟩)⟩⟩) (fun hi => ⟨fun _ => none (Or.inl hi), fun c => absurd rfl c⟩)⟩
  have Fk := hA.2.2.2.2.2.2 k hk
  have Fj := hA.2.2.2.2.2.2 j hj
  have xk : ¬ fJ (X k) 1 = 0 := fun e => hi (Fk.2.1.mpr e)
  have xj : ¬ fJ (X j) 1 = 0 := fun e => hi2 (Fj.2.1.mpr e)
  have n1 : ¬ aJ S 3 k = 0 := fun e => hi (tk.mpr e)
  have n2 : ¬ aJ S 3 j = 0 := fun e => hi2 (tj.mpr e)
  have sm : Sim (fJ (X k) 1) (fJ (X j) 1) ↔ Sim (aJ S 3 k) (aJ S 3 j) := ⟨fun q => Sim.tr (Sim.sy Fk.1) (Sim.tr q Fj.1), fun q => Sim.tr Fk.1 (Sim.tr q (Sim.sy Fj.1))⟩
  have ex : ∀ q : Prop, (aJ S 3 k = 0 ∨ aJ S 3 j = 0) → q := fun q w => by
    rcases w with w | w
    · exact absurd w n1
    · exact absurd w n2
  refine x0_areAlike _ _ xk xj _ (fun hs => ⟨fun c => absurd c h01, fun _ => ?_⟩) (fun hs => ⟨fun _ => ?_, fun c => absurd rfl c⟩)
  · exact x9_alike hk hj S _ (fun w => ex _ w) (fun _ _ _ S' hF => h _ _ _ (g0 hF (by decide) (by decide) (by decide) (by decide))) (fun _ _ q => absurd (sm.mp hs) q)
  · exact x9_alike hk hj S _ (fun w => ex _ w) (fun _ _ q => absurd (sm.mpr q) hs) (fun _ _ _ S' hF => h _ _ _ (g0 hF (by decide) (by decide) (by decide) (by decide)))

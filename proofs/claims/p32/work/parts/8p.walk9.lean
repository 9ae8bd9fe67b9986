/-! ===== pure: the rim walked, of the reference ===== -/
/-- the square beside; 64: none -/
def bs (q w : Nat) : Nat := if 64 ≤ q then 64 else if w = 0 then (if q % 8 < 7 then q + 1 else 64) else if w = 1 then (if q / 8 < 7 then q + 8 else 64) else if w = 2 then (if 0 < q % 8 then q - 1 else 64) else (if 0 < q / 8 then q - 8 else 64)
def sqI (k : Nat) : Int32 := if k < 64 then nI k else -9
theorem sqI_lt {k : Nat} (h : k < 64) : sqI k = nI k := if_pos h
theorem bs_le : ∀ q, q < 65 → ∀ w, w < 4 → bs q w < 65 := by decide +kernel
theorem bs_back : ∀ q, q < 64 → ∀ w, w < 4 → bs q w < 64 → bs (bs q w) ((w + 2) % 4) = q := by decide +kernel
theorem bs_turn : ∀ q, q < 64 → ∀ w, w < 4 → bs (bs q w) ((w + 3) % 4) < 64 → bs (bs (bs q w) ((w + 3) % 4)) ((w + 2) % 4) = bs q ((w + 3) % 4) := by decide +kernel
theorem hasB_sq (x : Int64) (k : Nat) : hasB x (sqI k) ↔ bt x k = true := by
  by_cases h : k < 64
  · rw [sqI_lt h]; exact hasB_iff x h
  · have e : sqI k = -9 := if_neg h
    rw [e, bt_ge x (by omega)]
    exact ⟨fun q => absurd (hasB_nneg q) (by decide), fun q => absurd q (by decide)⟩
theorem s9_b47 (q : Nat) (hq : q < 64) (X t0 t1 : Int32) (Q : Int32 → Prop) (hin : ∀ x y, x < 8 → y < 8 → X = nI x → t0 + t1 = nI y → Q (nI (8 * y + x))) (hout : (¬ vp_in X 8 ∨ ¬ vp_in (t0 + t1) 8) → Q (-9)) : w9_beside_b47 (nI q) X t0 t1 Q := by
  have e0 : (0 : Int32).toInt = 0 := rfl
  have e7 : (7 : Int32).toInt = 7 := rfl
  unfold w9_beside_b47 w9_beside_b73 w9_beside_b84
  rintro _ rfl
  refine ⟨fun c => absurd c (nI_pos (by omega)), fun _ => s9_in _ _ _ _ (fun hx => ⟨fun c => absurd c (by decide), fun _ => s9_in _ _ _ _ (fun hy => ⟨fun _ => ?_, fun c => absurd c (by decide)⟩) (fun hy => ⟨fun c => absurd rfl c, fun _ => hout (Or.inr fun q => hy ?_)⟩)⟩) (fun hx => ⟨fun _ => hout (Or.inl fun q => hx ?_), fun c => absurd rfl c⟩)⟩
  · obtain ⟨a, ha, ea⟩ := vp_in_of (n := 8) (pi_in.mpr (by omega) : vp_in X 8) (by decide)
    obtain ⟨b, hb, eb⟩ := vp_in_of (n := 8) (pi_in.mpr (by omega) : vp_in (t0 + t1) 8) (by decide)
    have := hin a b ha hb ea eb
    rw [ea, eb, show (8 : Int32) = nI 8 from rfl, pk_mul, nI_add]
    exact this
  · have := pi_in.mp q; omega
  · have := pi_in.mp q; omega
theorem p0_I (a : Nat) : nI a + (0 : Int32) = nI a := Int32.add_zero _
theorem m1_inj {a b : Nat} (ha : a < 2 ^ 30) (hb : b < 2 ^ 30) (h : nI a + (-1) = nI b) : a = b + 1 := by
  have := congrArg (fun z => z + 1) h
  simp only [m1p1, nI_1] at this
  exact (nI_eq (by omega) (by omega)).mp this
theorem s9_besideN {q w : Nat} (hq : q < 64) (hw : w < 4) (Q : Int32 → Prop) (h : Q (sqI (bs q w))) : w9_beside (nI q) (nI w) Q := by
  have ex : nI q - nI q / (8 : Int32) * (8 : Int32) = nI (q % 8) := pk_rem (by omega) (by decide) (by decide)
  have ey : nI q / (8 : Int32) = nI (q / 8) := pk_div (by omega) (by decide) (by decide)
  have inj : ∀ {a b : Nat}, a < 100 → b < 100 → nI a = nI b → a = b := fun ha hb e => (nI_eq (by omega) (by omega)).mp e
  unfold w9_beside w9_beside_b22
  rw [ex, ey]
  unfold bs at h
  rw [if_neg (by omega)] at h
  refine ⟨fun c0 => ⟨fun c2 => ?_, fun c2 => ?_⟩, fun c0 => ?_⟩
  · rintro _ rfl
    refine ⟨fun c1 => ⟨fun c3 => ?_, fun c3 => ?_⟩, fun c1 => ?_⟩
    · exfalso
      rcases (show w = 0 ∨ w = 1 ∨ w = 2 ∨ w = 3 by omega) with e | e | e | e <;> subst e
      · exact c0 rfl
      · exact c1 rfl
      · exact c2 rfl
      · exact c3 rfl
    · have e := inj (b := 3) (by omega) (by omega) c3
      subst e
      rw [if_neg (by decide), if_neg (by decide), if_neg (by decide)] at h
      refine s9_b47 q hq _ _ _ _ (fun x y hx hy e1 e2 => ?_) (fun ho => ?_)
      · rw [p0_I] at e1
        have a1 := inj (by omega) (by omega) e1
        have a2 := m1_inj (by omega) (by omega) e2
        rw [if_pos (by omega), sqI_lt (by omega), show q - 8 = 8 * y + x by omega] at h
        exact h
      · rw [p0_I] at ho
        have : ¬ 0 < q / 8 := by
          intro hp
          rw [sb_m1 hp] at ho
          rcases ho with ho | ho <;> exact ho (vp_in_nI (by omega) (by decide))
        rw [if_neg this] at h
        exact h
    · have e := inj (b := 1) (by omega) (by omega) c1
      subst e
      rw [if_neg (by decide), if_pos rfl] at h
      refine s9_b47 q hq _ _ _ _ (fun x y hx hy e1 e2 => ?_) (fun ho => ?_)
      · rw [p0_I] at e1
        rw [nI_1] at e2
        have a1 := inj (by omega) (by omega) e1
        have a2 := inj (by omega) (by omega) e2
        rw [if_pos (by omega), sqI_lt (by omega), show q + 8 = 8 * y + x by omega] at h
        exact h
      · rw [p0_I, nI_1] at ho
        have : ¬ q / 8 < 7 := by
          intro hp
          rcases ho with ho | ho <;> exact ho (vp_in_nI (by omega) (by decide))
        rw [if_neg this] at h
        exact h
  · have e := inj (b := 2) (by omega) (by omega) c2
    subst e
    rw [if_neg (by decide), if_neg (by decide), if_pos rfl] at h
    rintro _ rfl
    refine ⟨fun _ => ⟨fun _ => ?_, fun c => absurd c (by decide)⟩, fun c => absurd c (by decide)⟩
    refine s9_b47 q hq _ _ _ _ (fun x y hx hy e1 e2 => ?_) (fun ho => ?_)
    · rw [p0_I] at e2
      have a2 := inj (by omega) (by omega) e2
      have a1 := m1_inj (by omega) (by omega) e1
      rw [if_pos (by omega), sqI_lt (by omega), show q - 1 = 8 * y + x by omega] at h
      exact h
    · rw [p0_I] at ho
      have : ¬ 0 < q % 8 := by
        intro hp
        rw [sb_m1 hp] at ho
        rcases ho with ho | ho <;> exact ho (vp_in_nI (by omega) (by decide))
      rw [if_neg this] at h
      exact h
  · have e := inj (b := 0) (by omega) (by omega) c0
    subst e
    rw [if_pos rfl] at h
    rintro _ rfl
    refine ⟨fun _ => ⟨fun _ => ?_, fun c => absurd c (by decide)⟩, fun c => absurd c (by decide)⟩
    refine s9_b47 q hq _ _ _ _ (fun x y hx hy e1 e2 => ?_) (fun ho => ?_)
    · rw [p0_I] at e2
      rw [nI_1] at e1
      have a1 := inj (by omega) (by omega) e1
      have a2 := inj (by omega) (by omega) e2
      rw [if_pos (by omega), sqI_lt (by omega), show q + 1 = 8 * y + x by omega] at h
      exact h
    · rw [p0_I, nI_1] at ho
      have : ¬ q % 8 < 7 := by
        intro hp
        rcases ho with ho | ho <;> exact ho (vp_in_nI (by omega) (by decide))
      rw [if_neg this] at h
      exact h
theorem s9_beside9 (w : Int32) (Q : Int32 → Prop) (h : Q (-9)) : w9_beside (-9) w Q := by
  have key : ∀ (x y0 y1 : Int32), w9_beside_b47 (-9) x y0 y1 Q := by
    intro x y0 y1
    unfold w9_beside_b47 w9_beside_b73 w9_beside_b84
    rintro y -
    exact ⟨fun _ => h, fun c => absurd (by decide) c⟩
  have key2 : ∀ (x0 x1 : Int32), w9_beside_b22 (-9) w x0 x1 Q := by
    intro x0 x1
    unfold w9_beside_b22
    rintro x -
    exact ⟨fun _ => ⟨fun _ => key _ _ _, fun _ => key _ _ _⟩, fun _ => key _ _ _⟩
  unfold w9_beside
  exact ⟨fun _ => ⟨fun _ => key2 _ _, fun _ => key2 _ _⟩, fun _ => key2 _ _⟩
theorem s9_besideQ {q w : Nat} (hq : q < 65) (hw : w < 4) (Q : Int32 → Prop) (h : Q (sqI (bs q w))) : w9_beside (sqI q) (nI w) Q := by
  by_cases h64 : q < 64
  · rw [sqI_lt h64]; exact s9_besideN h64 hw Q h
  · have e : sqI q = -9 := if_neg h64
    have e2 : bs q w = 64 := if_pos (by omega)
    rw [e]
    rw [e2] at h
    exact s9_beside9 _ Q h
/-- a step round the rim -/
def stp (x : Int64) (z : Nat × Nat) : Nat × Nat := if bt x (bs z.1 z.2) then (if bt x (bs (bs z.1 z.2) ((z.2 + 3) % 4)) then (bs (bs z.1 z.2) ((z.2 + 3) % 4), (z.2 + 3) % 4) else (bs z.1 z.2, z.2)) else (z.1, (z.2 + 1) % 4)
def pst (x : Int64) (z : Nat × Nat) : Nat × Nat := if bt x (bs z.1 ((z.2 + 2) % 4)) then (if bt x (bs (bs z.1 ((z.2 + 2) % 4)) ((z.2 + 3) % 4)) then (bs (bs z.1 ((z.2 + 2) % 4)) ((z.2 + 3) % 4), (z.2 + 1) % 4) else (bs z.1 ((z.2 + 2) % 4), z.2)) else (z.1, (z.2 + 3) % 4)
def Ve (x : Int64) (z : Nat × Nat) : Prop := z.1 < 64 ∧ z.2 < 4 ∧ bt x z.1 = true ∧ bt x (bs z.1 ((z.2 + 3) % 4)) = false
theorem stp_ok {x : Int64} {z : Nat × Nat} (h : Ve x z) : Ve x (stp x z) ∧ pst x (stp x z) = z := by
  obtain ⟨q, w⟩ := z
  obtain ⟨h1, h2, h3, h4⟩ := h
  dsimp only at h1 h2 h3 h4
  unfold stp
  dsimp only
  by_cases c1 : bt x (bs q w) = true
  · have l1 := bt_lt c1
    rw [if_pos c1]
    by_cases c2 : bt x (bs (bs q w) ((w + 3) % 4)) = true
    · have l2 := bt_lt c2
      rw [if_pos c2]
      have g1 := bs_turn q h1 w h2 l2
      have g2 := bs_back (bs q w) l1 ((w + 3) % 4) (by omega) l2
      have g3 := bs_back q h1 w h2 l1
      have m1 : ((w + 3) % 4 + 3) % 4 = (w + 2) % 4 := by omega
      have m2 : ((w + 3) % 4 + 2) % 4 = (w + 1) % 4 := by omega
      have m3 : ((w + 3) % 4 + 1) % 4 = w := by omega
      rw [m2] at g2
      refine ⟨⟨l2, by dsimp only; omega, c2, ?_⟩, ?_⟩
      · dsimp only
        rw [m1, g1]; exact h4
      · unfold pst
        dsimp only
        rw [m2, g2, if_pos c1, m1, g3, if_pos h3, m3]
    · rw [if_neg c2]
      have c2' : bt x (bs (bs q w) ((w + 3) % 4)) = false := by
        cases e : bt x (bs (bs q w) ((w + 3) % 4))
        · rfl
        · exact absurd e c2
      have g3 := bs_back q h1 w h2 l1
      refine ⟨⟨l1, h2, c1, c2'⟩, ?_⟩
      unfold pst
      dsimp only
      rw [g3, if_pos h3, if_neg (by rw [h4]; decide)]
  · rw [if_neg c1]
    have c1' : bt x (bs q w) = false := by
      cases e : bt x (bs q w)
      · rfl
      · exact absurd e c1
    have m1 : ((w + 1) % 4 + 3) % 4 = w := by omega
    have m2 : ((w + 1) % 4 + 2) % 4 = (w + 3) % 4 := by omega
    refine ⟨⟨h1, by dsimp only; omega, h3, ?_⟩, ?_⟩
    · dsimp only
      rw [m1]; exact c1'
    · unfold pst
      dsimp only
      rw [m2, if_neg (by rw [h4]; decide), m1]
def orb (x : Int64) (z : Nat × Nat) : Nat → Nat × Nat
  | 0 => z
  | n + 1 => stp x (orb x z n)
theorem orb_ok {x : Int64} {z : Nat × Nat} (h : Ve x z) : ∀ n, Ve x (orb x z n)
  | 0 => h
  | n + 1 => (stp_ok (orb_ok h n)).1
/-- none twice, so far -/
def Dst (x : Int64) (z : Nat × Nat) (n : Nat) : Prop := ∀ i j, i < j → j < n → orb x z i ≠ orb x z j
theorem Dst_succ {x : Int64} {z : Nat × Nat} (h : Ve x z) {n : Nat} (hd : Dst x z n) (h0 : n = 0 ∨ orb x z n ≠ z) : Dst x z (n + 1) := by
  intro i j hij hj e
  by_cases q : j < n
  · exact hd i j hij q e
  · have ej : j = n := by omega
    subst ej
    rcases i with _ | i
    · rcases h0 with q0 | q0
      · omega
      · exact q0 e.symm
    · rcases j with _ | j
      · omega
      · have e1 := (stp_ok (orb_ok h i)).2
        have e2 := (stp_ok (orb_ok h j)).2
        have e3 : orb x z i = orb x z j := by
          rw [← e1, ← e2]
          exact congrArg (pst x) e
        exact hd i j (by omega) (by omega) e3
theorem Dst_le {x : Int64} {z : Nat × Nat} (h : Ve x z) {n : Nat} (hd : Dst x z n) : n ≤ 4 * pc x := by
  refine fb_holes (4 * pc x) n (fun i => 4 * fb_ct (bt x) (orb x z i).1 + (orb x z i).2) (fun i _ => ?_) (fun i j hij hj e => ?_)
  · obtain ⟨v1, v2, v3, _⟩ := orb_ok h i
    have := fb_ct_mono (bt x) (show (orb x z i).1 + 1 ≤ 64 from v1)
    rw [fb_ct_succ, if_pos v3] at this
    unfold pc
    omega
  · obtain ⟨a1, a2, a3, _⟩ := orb_ok h i
    obtain ⟨b1, b2, b3, _⟩ := orb_ok h j
    try dsimp only at e
    have e1 : fb_ct (bt x) (orb x z i).1 = fb_ct (bt x) (orb x z j).1 := by omega
    have e2 := fb_ct_kth_one a3 b3 e1
    exact hd i j hij hj (Prod.ext e2 (by omega))
/-- a rim: how many edges, and angles of 0 to 3 quarters -/
def Rim9 (S : MS) (n : Nat) : Prop := 1 ≤ n ∧ n ≤ 96 ∧ fI S 25 = nI n ∧ ∀ k, k < n → ∃ a, a ≤ 3 ∧ aI S 28 k = nI a
theorem t9_isWalked (x : Int64) (hx : ¬ x = 0) (h24 : pc x ≤ 24) (S : MS) (Q : Int32 → MS → Prop) (h : ∀ r S' n, Fr [25, 26, 27, 28] S S' → Rim9 S' n → Q r S') : w9_isWalked x S Q := by
  unfold w9_isWalked
  refine s9_leastOf x hx _ (fun m hm hmb hml => ?_)
  have hv : Ve x (m, 0) := by
    refine ⟨hm, show 0 < 4 by decide, hmb, ?_⟩
    try dsimp only
    have : ∀ m, m < 64 → bs m 3 = 64 ∨ bs m 3 < m := by decide +kernel
    rcases this m hm with q | q
    · rw [show ((0 + 3) % 4) = 3 from rfl, q]; exact bt_ge x (Nat.le_refl _)
    · exact hml _ q
  rintro _ rfl
  unfold w9_isWalked_b19
  refine lp_of (fun z : Int32 × Int32 × Int32 × MS => ∃ n, Dst x (m, 0) n ∧ z.1 = nI (orb x (m, 0) n).1 ∧ z.2.1 = nI (orb x (m, 0) n).2 ∧ (∃ a, a ≤ 3 ∧ z.2.2.1 = nI a) ∧ Fr [25, 26, 27, 28] S z.2.2.2 ∧ fI z.2.2.2 25 = nI n ∧ ∀ k, k < n → ∃ a, a ≤ 3 ∧ aI z.2.2.2 28 k = nI a) (fun z => 200 - (fI z.2.2.2 25).toNatClampNeg) ?_ ?_
  rotate_left
  · exact ⟨0, fun i j _ hj => absurd hj (Nat.not_lt_zero j), rfl, rfl, ⟨0, by decide, rfl⟩, fr_sI (by decide), rfl, fun k hk => absurd hk (Nat.not_lt_zero k)⟩
  rintro K ⟨x4, x5, x6, S1⟩ ⟨n, hd, e4, e5, ⟨a, ha, e6⟩, hF, h25, hA⟩ hK
  try dsimp only at e4 e5 e6 hF h25 hA hK
  subst e4 e5 e6
  obtain ⟨v1, v2, v3, v4⟩ := orb_ok hv n
  have hn96 := Dst_le hv hd
  unfold w9_isWalked_F19 w9_isWalked_d19
  try dsimp only
  rw [h25]
  have kbody : (n = 0 ∨ orb x (m, 0) n ≠ (m, 0)) → w9_isWalked_b37 (fun y0 y1 y2 y3 => K (y0, y1, y2, y3)) x (nI m) (nI (orb x (m, 0) n).1) (nI (orb x (m, 0) n).2) (nI a) S1 Q := by
    intro hne
    have hd1 := Dst_succ hv hd hne
    have hn1 := Dst_le hv hd1
    unfold w9_isWalked_b37
    rw [h25]
    refine ⟨vp_in_nI (by omega) (by decide), ?_⟩
    rintro _ rfl
    rw [show fI (sA S1 26 (nI n) (nI (orb x (m, 0) n).2)) 25 = nI n from h25]
    refine ⟨vp_in_nI (by omega) (by decide), ?_⟩
    rintro _ rfl
    rw [show fI (sA (sA S1 26 (nI n) (nI (orb x (m, 0) n).2)) 27 (nI n) (nI (orb x (m, 0) n).1)) 25 = nI n from h25]
    refine ⟨vp_in_nI (by omega) (by decide), ?_⟩
    rintro _ rfl
    rw [show fI (sA (sA (sA S1 26 (nI n) (nI (orb x (m, 0) n).2)) 27 (nI n) (nI (orb x (m, 0) n).1)) 28 (nI n) (nI a)) 25 = nI n from h25, nI_1]
    rintro _ rfl
    have hF2 : Fr [25, 26, 27, 28] S (sI (sA (sA (sA S1 26 (nI n) (nI (orb x (m, 0) n).2)) 27 (nI n) (nI (orb x (m, 0) n).1)) 28 (nI n) (nI a)) 25 (nI (n + 1))) := fr_tr hF (fr_tr (fr_tr (fr_tr (fr_sA (by decide)) (fr_sA (by decide))) (fr_sA (by decide))) (fr_sI (by decide)))
    have h25b : fI (sI (sA (sA (sA S1 26 (nI n) (nI (orb x (m, 0) n).2)) 27 (nI n) (nI (orb x (m, 0) n).1)) 28 (nI n) (nI a)) 25 (nI (n + 1))) 25 = nI (n + 1) := rd_fI _ _ _
    have hA2 : ∀ k, k < n + 1 → ∃ b, b ≤ 3 ∧ aI (sI (sA (sA (sA S1 26 (nI n) (nI (orb x (m, 0) n).2)) 27 (nI n) (nI (orb x (m, 0) n).1)) 28 (nI n) (nI a)) 25 (nI (n + 1))) 28 k = nI b := by
      intro k hk
      have e28 : aI (sI (sA (sA (sA S1 26 (nI n) (nI (orb x (m, 0) n).2)) 27 (nI n) (nI (orb x (m, 0) n).1)) 28 (nI n) (nI a)) 25 (nI (n + 1))) 28 = upd (aI S1 28) n (nI a) := by
        show aI (sA (sA (sA S1 26 (nI n) (nI (orb x (m, 0) n).2)) 27 (nI n) (nI (orb x (m, 0) n).1)) 28 (nI n) (nI a)) 28 = _
        rw [rd_A, rd_sn _ (by decide), rd_sn _ (by decide), nI_clamp (by omega)]
      rw [e28]
      by_cases e : k = n
      · rw [e, pk_us]; exact ⟨a, ha, rfl⟩
      · rw [pk_un e]; exact hA k (by omega)
    generalize sI (sA (sA (sA S1 26 (nI n) (nI (orb x (m, 0) n).2)) 27 (nI n) (nI (orb x (m, 0) n).1)) 28 (nI n) (nI a)) 25 (nI (n + 1)) = S2 at hF2 h25b hA2
    have hgo : ∀ b, b ≤ 3 → ∀ q w, (q, w) = orb x (m, 0) (n + 1) → K (nI q, nI w, nI b, S2) := by
      intro b hb q w e
      refine hK (_, _, _, _) ⟨n + 1, hd1, ?_, ?_, ⟨b, hb, rfl⟩, hF2, h25b, hA2⟩ ?_
      · show nI q = nI (orb x (m, 0) (n + 1)).1
        rw [← e]
      · show nI w = nI (orb x (m, 0) (n + 1)).2
        rw [← e]
      · show 200 - (fI S2 25).toNatClampNeg < 200 - (fI S1 25).toNatClampNeg
        rw [h25b, h25, nI_clamp (by omega), nI_clamp (by omega)]
        omega
    have hw3 : (nI (orb x (m, 0) n).2 + (3 : Int32)) - (nI (orb x (m, 0) n).2 + (3 : Int32)) / (4 : Int32) * (4 : Int32) = nI (((orb x (m, 0) n).2 + 3) % 4) := by
      rw [show nI (orb x (m, 0) n).2 + (3 : Int32) = nI ((orb x (m, 0) n).2 + 3) from nI_add _ 3]
      exact pk_rem (by omega) (by decide) (by decide)
    have hw1 : (nI (orb x (m, 0) n).2 + (1 : Int32)) - (nI (orb x (m, 0) n).2 + (1 : Int32)) / (4 : Int32) * (4 : Int32) = nI (((orb x (m, 0) n).2 + 1) % 4) := by
      rw [show nI (orb x (m, 0) n).2 + (1 : Int32) = nI ((orb x (m, 0) n).2 + 1) from nI_add _ 1]
      exact pk_rem (by omega) (by decide) (by decide)
    rw [hw3, hw1]
    have eo : orb x (m, 0) (n + 1) = stp x (orb x (m, 0) n) := rfl
    unfold stp at eo
    rw [eo] at hgo
    unfold w9_isWalked_b159
    refine s9_besideN v1 v2 _ (s9_besideQ (bs_le _ (by omega) _ v2) (by omega) _ ?_)
    refine s9_has _ _ _ (fun c1 => ⟨fun _ => s9_has _ _ _ (fun c2 => ⟨fun c => absurd c (by decide), fun _ => ?_⟩) (fun c2 => ⟨fun _ => ?_, fun c => absurd rfl c⟩), fun c => absurd c (by decide)⟩) (fun c1 => ⟨fun c => absurd rfl c, fun _ => ?_⟩)
    · rw [hasB_sq] at c1 c2
      rintro _ rfl
      rw [sqI_lt (bt_lt c2)]
      rw [if_pos c1, if_pos c2] at hgo
      exact hgo 3 (by decide) _ _ rfl
    · rw [hasB_sq] at c1 c2
      rw [sqI_lt (bt_lt c1)]
      rw [if_pos c1, if_neg c2] at hgo
      exact hgo 2 (by decide) _ _ rfl
    · rw [hasB_sq] at c1
      rintro _ rfl
      rw [if_neg c1] at hgo
      exact hgo 1 (by decide) _ _ rfl
  refine ⟨fun c => kbody (Or.inl ?_), fun c => ⟨fun c2 => kbody (Or.inr ?_), fun c2 => ⟨fun c3 => ?_, fun c3 => kbody (Or.inr ?_)⟩⟩⟩
  · exact (nI_eq (a := n) (b := 0) (by omega) (by decide)).mp c
  · intro e; rw [e] at c2; exact c2 rfl
  · have hn0 : ¬ n = 0 := fun e => c (by rw [e]; rfl)
    rintro _ rfl
    refine t9_rimOf _ _ (fun r => ?_)
    have hfin : ∀ v, v = 0 ∨ v = 1 → w9_isWalked_b186 v (sA S1 28 (0 : Int32) (nI a)) Q := by
      intro v hv
      unfold w9_isWalked_b186
      refine ⟨nbool hv, h _ _ n (fr_tr hF (fr_sA (by decide))) ⟨by omega, by omega, h25, fun k hk => ?_⟩⟩
      rw [rd_A, show (0 : Int32).toNatClampNeg = 0 from rfl]
      by_cases e : k = 0
      · rw [e, pk_us]; exact ⟨a, ha, rfl⟩
      · rw [pk_un e]; exact hA k hk
    exact ⟨fun _ => hfin _ (Or.inl rfl), fun _ => hfin _ (Or.inr rfl)⟩
  · intro e; rw [e] at c3; exact c3 rfl

/-! ===== pure: ways on a box: the reference ===== -/
def gv (x y : Int32) (r u : Nat) (pt X : Nat → Int32) : Int32 := (x + sg r * (X (r / 2) - pt (r / 2))) * (x + sg r * (X (r / 2) - pt (r / 2))) + (y + sg u * (X (u / 2) - pt (u / 2))) * (y + sg u * (X (u / 2) - pt (u / 2)))
theorem gv_cong {x y : Int32} {r u : Nat} {pt pt' X X' : Nat → Int32} (h1 : pt (r / 2) = pt' (r / 2)) (h2 : pt (u / 2) = pt' (u / 2)) (h3 : X (r / 2) = X' (r / 2)) (h4 : X (u / 2) = X' (u / 2)) : gv x y r u pt X = gv x y r u pt' X' := by
  unfold gv
  rw [h1, h2, h3, h4]
theorem sg_x (k : Nat) (hk : k < 6) : sg (k ^^^ 1) = - sg k := by
  have h := x1_ok k hk
  unfold sg
  by_cases e : k % 2 = 0
  · rw [if_pos e, if_neg (by omega)]
  · rw [if_neg e, if_pos (by omega)]; rfl
theorem sg_pm (k : Nat) : sg k = 1 ∨ sg k = -1 := by
  unfold sg
  by_cases e : k % 2 = 0
  · rw [if_pos e]; exact Or.inl rfl
  · rw [if_neg e]; exact Or.inr rfl
/-- one way of the plane over an edge: g the sign of the way out, h of the side -/
theorem pl_f (x g h E p e X : Int32) (hg : g = 1 ∨ g = -1) : x + g * (E - p) + h * (X - e) = x + g * (E + g * (-h * (e - X)) - p) := by
  rcases hg with rfl | rfl <;> grind
theorem pl_b (x g h E p e X : Int32) (hg : g = 1 ∨ g = -1) : x + -(g * (E - p)) + -h * (X - e) = x + -g * (E + g * (-h * (e - X)) - p) := by
  rcases hg with rfl | rfl <;> grind
theorem x1_xx : ∀ a, a < 6 → (a ^^^ 1) ^^^ 1 = a := by decide +kernel
theorem uf_f (d : Nat → Nat) (f t : Nat) (X : Nat → Int32) (j : Nat) (h : j = f / 2) : uf d f t X j = enD d f + sg (f ^^^ 1) * (sg (t ^^^ 1) * (enD d t - X (t / 2))) := by
  unfold uf
  rw [if_pos h]
theorem uf_o (d : Nat → Nat) (f t : Nat) (X : Nat → Int32) (j : Nat) (h : ¬ j = f / 2) (h2 : ¬ j = t / 2) : uf d f t X j = X j := by
  unfold uf
  rw [if_neg h, if_neg h2]
def stD (d : Nat → Nat) (e : Nat) (pt : Nat → Int32) : Int32 := sg e * (enD d (e ^^^ 1) - pt (e / 2))
def ptD (d : Nat → Nat) (e : Nat) (pt : Nat → Int32) : Nat → Int32 := fun j => if j = e / 2 then enD d (e ^^^ 1) else pt j
def nR (s r w : Nat) : Nat := if w = 0 then s else if w = 2 then s ^^^ 1 else r
def nU (s u w : Nat) : Nat := if w = 1 then s else if w = 3 then s ^^^ 1 else u
def dX (w : Nat) (v : Int32) : Int32 := if w = 0 then v else if w = 2 then -v else 0
def dY (w : Nat) (v : Int32) : Int32 := if w = 1 then v else if w = 3 then -v else 0
theorem gv_step {d : Nat → Nat} {s r u w : Nat} (hs : s < 6) (hw : w < 4) (hf : FrO s r u) (x y : Int32) (pt X : Nat → Int32) (hpt : pt (s / 2) = enD d s) :
    gv (x + dX w (stD d (dirN r u w) pt)) (y + dY w (stD d (dirN r u w) pt)) (nR s r w) (nU s u w) (ptD d (dirN r u w) pt) X = gv x y r u pt (uf d (dirN r u w ^^^ 1) s X) := by
  obtain ⟨hr, hu, h1, h2, h3⟩ := hf
  have hxs := x1_ok s hs
  have hxr := x1_ok r hr
  have hxu := x1_ok u hu
  have hss := sg_x s hs
  have n1 : ¬ s / 2 = r / 2 := fun e => h1 e.symm
  have n2 : ¬ s / 2 = u / 2 := fun e => h2 e.symm
  have n3 : ¬ u / 2 = r / 2 := fun e => h3 e.symm
  rcases (show w = 0 ∨ w = 1 ∨ w = 2 ∨ w = 3 by omega) with rfl | rfl | rfl | rfl
  · -- right
    have eA := pl_f x (sg r) (sg s) (enD d (r ^^^ 1)) (pt (r / 2)) (enD d s) (X (s / 2)) (sg_pm r)
    show gv (x + stD d r pt) (y + 0) s u (ptD d r pt) X = gv x y r u pt (uf d (r ^^^ 1) s X)
    unfold gv
    rw [Int32.add_zero, uf_f d _ _ _ _ hxr.2.1.symm, uf_o d _ _ _ _ (by omega) h2, x1_xx r hr, hss]
    unfold stD ptD
    rw [if_neg n1, if_neg n3, hpt, eA]
  · -- up
    have eA := pl_f y (sg u) (sg s) (enD d (u ^^^ 1)) (pt (u / 2)) (enD d s) (X (s / 2)) (sg_pm u)
    show gv (x + 0) (y + stD d u pt) r s (ptD d u pt) X = gv x y r u pt (uf d (u ^^^ 1) s X)
    unfold gv
    rw [Int32.add_zero, uf_f d _ _ _ (u / 2) hxu.2.1.symm, uf_o d _ _ _ (r / 2) (by omega) h1, x1_xx u hu, hss]
    unfold stD ptD
    rw [if_neg n2, if_neg h3, hpt, eA]
  · -- left
    have eA := pl_b x (- sg r) (sg s) (enD d r) (pt (r / 2)) (enD d s) (X (s / 2)) (by rcases sg_pm r with e | e <;> rw [e]; exact Or.inr rfl; exact Or.inl rfl)
    rw [Int32.neg_neg] at eA
    show gv (x + -(stD d (r ^^^ 1) pt)) (y + 0) (s ^^^ 1) u (ptD d (r ^^^ 1) pt) X = gv x y r u pt (uf d ((r ^^^ 1) ^^^ 1) s X)
    unfold gv stD ptD
    rw [Int32.add_zero, x1_xx r hr, uf_f d _ _ _ (r / 2) rfl, uf_o d _ _ _ (u / 2) (by omega) h2, hss, sg_x r hr, hxs.2.1, hxr.2.1, if_neg n1, if_neg n3, hpt, eA]
  · -- down
    have eA := pl_b y (- sg u) (sg s) (enD d u) (pt (u / 2)) (enD d s) (X (s / 2)) (by rcases sg_pm u with e | e <;> rw [e]; exact Or.inr rfl; exact Or.inl rfl)
    rw [Int32.neg_neg] at eA
    show gv (x + 0) (y + -(stD d (u ^^^ 1) pt)) r (s ^^^ 1) (ptD d (u ^^^ 1) pt) X = gv x y r u pt (uf d ((u ^^^ 1) ^^^ 1) s X)
    unfold gv stD ptD
    rw [Int32.add_zero, x1_xx u hu, uf_f d _ _ _ (u / 2) rfl, uf_o d _ _ _ (r / 2) (by omega) h1, hss, sg_x u hu, hxs.2.1, hxu.2.1, if_neg n2, if_neg h3, hpt, eA]
theorem sq_s (k : Nat) (D : Int32) : (0 + sg k * D) * (0 + sg k * D) = D * D := by
  rcases sg_pm k with e | e <;> rw [e] <;> grind
theorem gv_0 {s r u : Nat} (hs : s < 6) (hf : FrO s r u) (P X : Nat → Int32) (h : X (s / 2) = P (s / 2)) : gv 0 0 r u P X = ln P X := by
  obtain ⟨hr, hu, h1, h2, h3⟩ := hf
  show gv 0 0 r u P X = (((0 : Int32) + (X 0 - P 0) * (X 0 - P 0)) + (X 1 - P 1) * (X 1 - P 1)) + (X 2 - P 2) * (X 2 - P 2)
  unfold gv
  rw [sq_s, sq_s]
  have a3 : r / 2 < 3 := by omega
  have b3 : u / 2 < 3 := by omega
  have c3 : s / 2 < 3 := by omega
  generalize r / 2 = a at h1 h3 a3 ⊢
  generalize u / 2 = b at h2 h3 b3 ⊢
  generalize s / 2 = c at h h1 h2 c3
  rcases (show a = 0 ∨ a = 1 ∨ a = 2 by omega) with rfl | rfl | rfl <;> rcases (show b = 0 ∨ b = 1 ∨ b = 2 by omega) with rfl | rfl | rfl <;> rcases (show c = 0 ∨ c = 1 ∨ c = 2 by omega) with rfl | rfl | rfl <;> first | exact absurd rfl h1 | exact absurd rfl h2 | exact absurd rfl h3 | (rw [h]; grind)
theorem x9_farNow {L r u : Nat} (hL : L < 6) (hr : r < 6) (hu : u < 6) (S : MS) (er : aI S 18 L = nI r) (eu : aI S 19 L = nI u) (Q : Int32 → Prop) (h : Q (gv (aI S 21 L) (aI S 22 L) r u (fun j => aI S 20 (3 * L + j)) (aI S 24))) : w9_farNow (nI L) S Q := by
  have al : ∀ {k : Nat}, k < 6 → ∀ (Q : Int32 → Prop), Q (sg k * (aI S 24 (k / 2) - aI S 20 (3 * L + k / 2))) → w9_along (nI L) (nI k) S Q := by
    intro k hk Q h
    unfold w9_along
    rw [show nI k / (2 : Int32) = nI (k / 2) from pk_div (by omega) (by decide) (by decide), ix_3, rA_n _ _ (by omega), rA_n _ _ (by omega)]
    exact s9_sgn hk _ ⟨vp_in_nI (by omega) (by decide), vp_in_nI (by omega) (by decide), h⟩
  unfold w9_farNow
  rw [rA_n S 18 (by omega), rA_n S 19 (by omega), rA_n S 21 (by omega), rA_n S 22 (by omega), er, eu]
  refine ⟨vp_in_nI hL (by decide), al hr _ ?_⟩
  rintro _ rfl
  refine al hu _ ?_
  rintro _ rfl
  exact h
/-- the row of a level behind another one -/
def NR (S S' : MS) (d : Nat → Nat) (s r u w L : Nat) : Prop :=
  (∀ l, ¬ l = L + 1 → aI S' 17 l = aI S 17 l ∧ aI S' 18 l = aI S 18 l ∧ aI S' 19 l = aI S 19 l ∧ aI S' 21 l = aI S 21 l ∧ aI S' 22 l = aI S 22 l) ∧ (∀ i, i < 3 * L + 3 → aI S' 20 i = aI S 20 i) ∧
  (aI S' 17 (L + 1) = nI (dirN r u w ^^^ 1) ∧ aI S' 18 (L + 1) = nI (nR s r w) ∧ aI S' 19 (L + 1) = nI (nU s u w) ∧
  aI S' 21 (L + 1) = aI S 21 L + dX w (stD d (dirN r u w) (fun j => aI S 20 (3 * L + j))) ∧ aI S' 22 (L + 1) = aI S 22 L + dY w (stD d (dirN r u w) (fun j => aI S 20 (3 * L + j))) ∧
  ∀ j, j < 3 → aI S' 20 (3 * (L + 1) + j) = ptD d (dirN r u w) (fun j => aI S 20 (3 * L + j)) j)
theorem en_x {d : Nat → Nat} {e : Nat} (he : e < 6) : enD d (e ^^^ 1) = nI (if e % 2 = 0 then 2 * d (e / 2) else 0) := by
  have h := x1_ok e he
  unfold enD
  by_cases q : e % 2 = 0
  · rw [if_pos q, if_neg (by omega), h.2.1]
  · rw [if_neg q, if_pos (by omega)]
set_option maxHeartbeats 2000000 in
theorem x9_unfolds {b L w r u : Nat} {d σ : Nat → Nat} (hb : b < 4) (hL : L < 5) (hw : w < 4) (S : MS) (hB : BoxN S b d) (hσ : ∀ l, l ≤ L → σ l < 6 ∧ aI S 17 l = nI (σ l)) (er : aI S 18 L = nI r) (eu : aI S 19 L = nI u) (hf : FrO (σ L) r u) (Q : Int32 → MS → Prop)
    (h0 : (∃ k, k ≤ L ∧ σ k = dirN r u w ^^^ 1) → ∀ S', Fr [8, 10, 11] S S' → Q 0 S')
    (h1 : (∀ k, k ≤ L → ¬ σ k = dirN r u w ^^^ 1) → ∀ S', Fr [8, 10, 11, 17, 18, 19, 20, 21, 22] S S' → NR S S' d (σ L) r u w L → Q 1 S') : w9_unfolds (nI b) (nI L) (nI w) S Q := by
  obtain ⟨hs, es⟩ := hσ L (Nat.le_refl _)
  generalize hse : σ L = s at hs es hf h1
  unfold w9_unfolds
  rw [rA_n S 17 (by omega), es]
  refine ⟨vp_in_nI (by omega) (by decide), ?_⟩
  rintro _ rfl
  rw [rA_n _ 18 (by omega), show aI (sI S 8 (nI s)) 18 L = nI r from er]
  rintro _ rfl
  rw [rA_n _ 19 (by omega), show aI (sI (sI S 8 (nI s)) 10 (nI r)) 19 L = nI u from eu]
  rintro _ rfl
  have hF1 : Fr [8, 10, 11] S (sI (sI (sI S 8 (nI s)) 10 (nI r)) 11 (nI u)) := fr_tr (fr_tr (fr_sI (by decide)) (fr_sI (by decide))) (fr_sI (by decide))
  have g8 : fI (sI (sI (sI S 8 (nI s)) 10 (nI r)) 11 (nI u)) 8 = nI s := rfl
  have g10 : fI (sI (sI (sI S 8 (nI s)) 10 (nI r)) 11 (nI u)) 10 = nI r := rfl
  have g11 : fI (sI (sI (sI S 8 (nI s)) 10 (nI r)) 11 (nI u)) 11 = nI u := rfl
  generalize sI (sI (sI S 8 (nI s)) 10 (nI r)) 11 (nI u) = S1 at hF1 g8 g10 g11
  have he : dirN r u w < 6 := (dir_ok hf hw).1
  refine s9_way hw S1 g10 g11 _ ?_
  unfold NR at h1
  generalize dirN r u w = e at he h0 h1
  have hxe := x1_ok e he
  have hxs := x1_ok s hs
  rw [x1_I]
  rintro _ rfl
  unfold w9_unfolds_b46
  refine lp_up (L + 1) (fun z => z) (fun k _ => ∀ j, j < k → ¬ σ j = e ^^^ 1) (by omega) ?_ (Nat.zero_le _) (rfl : (0 : Int32) = nI 0) (by exact fun j hj => absurd hj (Nat.not_lt_zero j))
  rintro K y k hk hcc hI hK
  try dsimp only at hcc hI hK
  subst hcc
  unfold w9_unfolds_F46 w9_unfolds_d46
  try dsimp only
  refine ⟨fun q => ?_, fun q => ?_⟩
  rotate_left
  · have hkL : ¬ L < k := fun c => q (nI_lt c (by omega))
    obtain ⟨hk6, ek⟩ := hσ k (by omega)
    rw [rA_n _ 17 (by omega), (hF1 17 (by decide)).2.2.1, ek]
    refine ⟨vp_in_nI (by omega) (by decide), fun c => ?_, fun c => ?_⟩
    · rintro _ rfl
      refine hK _ (by omega) (nI_1 k) (fun j hj => ?_)
      rcases Nat.lt_or_ge j k with q2 | q2
      · exact hI j q2
      · have e2 : j = k := by omega
        subst e2
        exact fun c2 => c (by rw [c2])
    · exact h0 ⟨k, by omega, (nI_eq (by omega) (by omega)).mp c⟩ _ hF1
  have hkL := (nI_ltI (a := L) (b := k) (by omega) (by omega)).mp q
  have hnew : ∀ k, k ≤ L → ¬ σ k = e ^^^ 1 := fun j hj => hI j (by omega)
  have hB1 : BoxN S1 b d := boxN_fr hF1 (by decide) hB
  have f20 : aI S1 20 = aI S 20 := (hF1 20 (by decide)).2.2.1
  have f21 : aI S1 21 = aI S 21 := (hF1 21 (by decide)).2.2.1
  have f22 : aI S1 22 = aI S 22 := (hF1 22 (by decide)).2.2.1
  rw [show nI e / (2 : Int32) = nI (e / 2) from pk_div (by omega) (by decide) (by decide)]
  rintro _ rfl
  have k102 : w9_unfolds_b102 (nI L) (nI w) (nI e) (nI (e / 2)) (enD d (e ^^^ 1)) S1 Q := by
    unfold w9_unfolds_b102
    rw [ix_3, rA_n _ _ (by omega), f20]
    refine s9_sgn he _ ⟨vp_in_nI (by omega) (by decide), ?_⟩
    intro y3 hy3
    have hst : y3 = stD d e (fun j => aI S 20 (3 * L + j)) := hy3
    clear hy3
    unfold w9_unfolds_b129
    refine lp_up 3 (fun z => z.1) (fun k z => Fr [20] S1 z.2 ∧ (∀ i, i < 3 * L + 3 → aI z.2 20 i = aI S 20 i) ∧ ∀ j, j < k → aI z.2 20 (3 * (L + 1) + j) = ptD d e (fun j => aI S 20 (3 * L + j)) j) (by decide) ?_ (Nat.zero_le _) (rfl : (0 : Int32) = nI 0) (by exact ⟨fr_rf, fun i _ => by rw [f20], fun j hj => absurd hj (Nat.not_lt_zero j)⟩)
    rintro K2 ⟨y, S2⟩ k2 hk2 hcc ⟨hF2, hlo, hhi⟩ hK2
    try dsimp only at hcc hF2 hlo hhi hK2
    subst hcc
    unfold w9_unfolds_F129 w9_unfolds_d129
    try dsimp only
    refine ⟨fun q2 => ⟨vp_in_nI (by omega) (by decide), ?_⟩, fun q2 => ?_⟩
    rotate_left
    · have hlt := nI_go (N := 3) (by decide) hk2 q2
      have k170 : ∀ v, v = ptD d e (fun j => aI S 20 (3 * L + j)) k2 → w9_unfolds_b170 (fun y0 y1 => K2 (y0, y1)) (nI L) (nI w) (nI e) (nI (e / 2)) (enD d (e ^^^ 1)) y3 (nI k2) (((3 : Int32) * nI L + (3 : Int32)) + nI k2) v S2 Q := by
        intro v hv
        unfold w9_unfolds_b170
        rw [show ((3 : Int32) * nI L + (3 : Int32)) = (3 : Int32) * nI L + nI 3 from rfl, ix_3, nI_add]
        refine ⟨vp_in_nI (by omega) (by decide), ?_⟩
        rintro _ rfl _ rfl
        refine hK2 (_, _) hlt (nI_1 k2) ⟨fr_tr hF2 (fr_sA (by decide)), fun i hi => ?_, fun j hj => ?_⟩
        · show aI (sA S2 20 (nI (3 * L + 3 + k2)) v) 20 i = _
          rw [rd_A, nI_clamp (by omega), pk_un (by omega)]
          exact hlo i hi
        · show aI (sA S2 20 (nI (3 * L + 3 + k2)) v) 20 (3 * (L + 1) + j) = _
          rw [rd_A, nI_clamp (by omega)]
          by_cases ej : j = k2
          · rw [ej, show 3 * (L + 1) + k2 = 3 * L + 3 + k2 by omega, pk_us]
            exact hv
          · rw [pk_un (by omega)]
            exact hhi j (by omega)
      have e20 : rA S2 20 ((3 : Int32) * nI L + nI k2) = aI S 20 (3 * L + k2) := by rw [ix_3, rA_n _ _ (by omega), hlo _ (by omega)]
      refine ⟨fun c => ⟨by rw [ix_3]; exact vp_in_nI (by omega) (by decide), k170 _ ?_⟩, fun c => k170 _ ?_⟩
      · rw [e20]
        unfold ptD
        rw [if_neg (show ¬ k2 = e / 2 from fun c2 => c (by rw [c2]))]
      · unfold ptD
        rw [if_pos ((nI_eq (by omega) (by omega)).mp c)]
    have ek := nI_end (N := 3) (by decide) hk2 q2
    subst ek
    have hL1 : nI L + (1 : Int32) = nI (L + 1) := nI_1 L
    have j21 : aI S2 21 = aI S 21 := by rw [(hF2 21 (by decide)).2.2.1, f21]
    have j22 : aI S2 22 = aI S 22 := by rw [(hF2 22 (by decide)).2.2.1, f22]
    have i8 : fI S2 8 = nI s := (hF2 8 (by decide)).1.trans g8
    have i10 : fI S2 10 = nI r := (hF2 10 (by decide)).1.trans g10
    have i11 : fI S2 11 = nI u := (hF2 11 (by decide)).1.trans g11
    have hF02 : Fr [8, 10, 11, 20] S S2 := fr_tr (fr_mono hF1 (by decide)) (fr_mono hF2 (by decide))
    have k248 : ∀ c : Int32, c = dY w y3 → w9_unfolds_b248 (nI L) (nI w) (nI e) (nI (L + 1)) (aI S 22 L) c (sA S2 21 (nI (L + 1)) (aI S 21 L + dX w y3)) Q := by
      intro c hc
      unfold w9_unfolds_b248
      rw [hL1]
      refine ⟨vp_in_nI (by omega) (by decide), ?_⟩
      rintro _ rfl
      have hF3 : Fr [8, 10, 11, 20, 21, 22] S (sA (sA S2 21 (nI (L + 1)) (aI S 21 L + dX w y3)) 22 (nI (L + 1)) (aI S 22 L + c)) := fr_tr (fr_mono hF02 (by decide)) (fr_tr (fr_sA (by decide)) (fr_sA (by decide)))
      have m8 : fI (sA (sA S2 21 (nI (L + 1)) (aI S 21 L + dX w y3)) 22 (nI (L + 1)) (aI S 22 L + c)) 8 = nI s := i8
      have m10 : fI (sA (sA S2 21 (nI (L + 1)) (aI S 21 L + dX w y3)) 22 (nI (L + 1)) (aI S 22 L + c)) 10 = nI r := i10
      have m11 : fI (sA (sA S2 21 (nI (L + 1)) (aI S 21 L + dX w y3)) 22 (nI (L + 1)) (aI S 22 L + c)) 11 = nI u := i11
      have n20 : aI (sA (sA S2 21 (nI (L + 1)) (aI S 21 L + dX w y3)) 22 (nI (L + 1)) (aI S 22 L + c)) 20 = aI S2 20 := by rw [rd_sn _ (by decide), rd_sn _ (by decide)]
      have n21 : aI (sA (sA S2 21 (nI (L + 1)) (aI S 21 L + dX w y3)) 22 (nI (L + 1)) (aI S 22 L + c)) 21 = upd (aI S 21) (L + 1) (aI S 21 L + dX w y3) := by rw [rd_sn _ (by decide), rd_A, nI_clamp (by omega), j21]
      have n22 : aI (sA (sA S2 21 (nI (L + 1)) (aI S 21 L + dX w y3)) 22 (nI (L + 1)) (aI S 22 L + c)) 22 = upd (aI S 22) (L + 1) (aI S 22 L + c) := by rw [rd_A, rd_sn _ (by decide), nI_clamp (by omega), j22]
      generalize sA (sA S2 21 (nI (L + 1)) (aI S 21 L + dX w y3)) 22 (nI (L + 1)) (aI S 22 L + c) = S3 at hF3 m8 m10 m11 n20 n21 n22
      rw [m8, x1_I]
      refine s9_bend hw _ _ (fun S4 hF4 b8 b10 b11 => ⟨vp_in_nI (by omega) (by decide), ?_⟩)
      rw [m10, x1_xx s hs] at b10
      rw [m11, x1_xx s hs] at b11
      have b10' : fI S4 10 = nI (nR s r w) := by
        rw [b10]
        unfold nR
        by_cases q1 : w = 0
        · rw [if_pos q1, if_pos q1]
        · rw [if_neg q1, if_neg q1]
          by_cases q2 : w = 2
          · rw [if_pos q2, if_pos q2]
          · rw [if_neg q2, if_neg q2]
      have b11' : fI S4 11 = nI (nU s u w) := by
        rw [b11]
        unfold nU
        by_cases q1 : w = 1
        · rw [if_pos q1, if_pos q1]
        · rw [if_neg q1, if_neg q1]
          by_cases q2 : w = 3
          · rw [if_pos q2, if_pos q2]
          · rw [if_neg q2, if_neg q2]
      clear b10 b11
      rintro _ rfl _ rfl _ rfl
      have f10 : fI (sA S4 17 (nI (L + 1)) (fI S4 8)) 10 = fI S4 10 := rfl
      have f11 : fI (sA (sA S4 17 (nI (L + 1)) (fI S4 8)) 18 (nI (L + 1)) (fI (sA S4 17 (nI (L + 1)) (fI S4 8)) 10)) 11 = fI S4 11 := rfl
      rw [f11, f10, b8, b10', b11']
      have hF5 : Fr [8, 10, 11, 20, 21, 22] S S4 := fr_tr hF3 (fr_mono hF4 (by decide))
      have s20 : aI S4 20 = aI S2 20 := by rw [(hF4 20 (by decide)).2.2.1, n20]
      have s21 : aI S4 21 = upd (aI S 21) (L + 1) (aI S 21 L + dX w y3) := by rw [(hF4 21 (by decide)).2.2.1, n21]
      have s22 : aI S4 22 = upd (aI S 22) (L + 1) (aI S 22 L + c) := by rw [(hF4 22 (by decide)).2.2.1, n22]
      have e17 : aI (sA (sA (sA S4 17 (nI (L + 1)) (nI (e ^^^ 1))) 18 (nI (L + 1)) (nI (nR s r w))) 19 (nI (L + 1)) (nI (nU s u w))) 17 = upd (aI S 17) (L + 1) (nI (e ^^^ 1)) := by
        rw [rd_sn _ (by decide), rd_sn _ (by decide), rd_A, nI_clamp (by omega), (hF5 17 (by decide)).2.2.1]
      have e18 : aI (sA (sA (sA S4 17 (nI (L + 1)) (nI (e ^^^ 1))) 18 (nI (L + 1)) (nI (nR s r w))) 19 (nI (L + 1)) (nI (nU s u w))) 18 = upd (aI S 18) (L + 1) (nI (nR s r w)) := by
        rw [rd_sn _ (by decide), rd_A, rd_sn _ (by decide), nI_clamp (by omega), (hF5 18 (by decide)).2.2.1]
      have e19 : aI (sA (sA (sA S4 17 (nI (L + 1)) (nI (e ^^^ 1))) 18 (nI (L + 1)) (nI (nR s r w))) 19 (nI (L + 1)) (nI (nU s u w))) 19 = upd (aI S 19) (L + 1) (nI (nU s u w)) := by
        rw [rd_A, rd_sn _ (by decide), rd_sn _ (by decide), nI_clamp (by omega), (hF5 19 (by decide)).2.2.1]
      have e20 : aI (sA (sA (sA S4 17 (nI (L + 1)) (nI (e ^^^ 1))) 18 (nI (L + 1)) (nI (nR s r w))) 19 (nI (L + 1)) (nI (nU s u w))) 20 = aI S2 20 := by
        rw [rd_sn _ (by decide), rd_sn _ (by decide), rd_sn _ (by decide), s20]
      have e21 : aI (sA (sA (sA S4 17 (nI (L + 1)) (nI (e ^^^ 1))) 18 (nI (L + 1)) (nI (nR s r w))) 19 (nI (L + 1)) (nI (nU s u w))) 21 = upd (aI S 21) (L + 1) (aI S 21 L + dX w y3) := by
        rw [rd_sn _ (by decide), rd_sn _ (by decide), rd_sn _ (by decide), s21]
      have e22 : aI (sA (sA (sA S4 17 (nI (L + 1)) (nI (e ^^^ 1))) 18 (nI (L + 1)) (nI (nR s r w))) 19 (nI (L + 1)) (nI (nU s u w))) 22 = upd (aI S 22) (L + 1) (aI S 22 L + c) := by
        rw [rd_sn _ (by decide), rd_sn _ (by decide), rd_sn _ (by decide), s22]
      have hF6 : Fr [8, 10, 11, 17, 18, 19, 20, 21, 22] S (sA (sA (sA S4 17 (nI (L + 1)) (nI (e ^^^ 1))) 18 (nI (L + 1)) (nI (nR s r w))) 19 (nI (L + 1)) (nI (nU s u w))) := fr_tr (fr_mono hF5 (by decide)) (fr_tr (fr_tr (fr_sA (by decide)) (fr_sA (by decide))) (fr_sA (by decide)))
      generalize sA (sA (sA S4 17 (nI (L + 1)) (nI (e ^^^ 1))) 18 (nI (L + 1)) (nI (nR s r w))) 19 (nI (L + 1)) (nI (nU s u w)) = S6 at e17 e18 e19 e20 e21 e22 hF6
      refine h1 hnew S6 hF6 ⟨fun l hl => ?_, fun i hi => ?_, ?_, ?_, ?_, ?_, ?_, fun j hj => ?_⟩
      · rw [e17, e18, e19, e21, e22, pk_un hl, pk_un hl, pk_un hl, pk_un hl, pk_un hl]
        exact ⟨rfl, rfl, rfl, rfl, rfl⟩
      · rw [e20]; exact hlo i hi
      · rw [e17, pk_us]
      · rw [e18, pk_us]
      · rw [e19, pk_us]
      · rw [e21, pk_us, hst]
      · rw [e22, pk_us, hc, hst]
      · rw [e20]; exact hhi j hj
    have k211 : ∀ a : Int32, a = dX w y3 → w9_unfolds_b211 (nI L) (nI w) (nI e) y3 (nI (L + 1)) (aI S 21 L) a S2 Q := by
      intro a ha
      subst ha
      unfold w9_unfolds_b211
      rw [hL1]
      refine ⟨vp_in_nI (by omega) (by decide), ?_⟩
      rintro _ rfl
      rw [rA_n _ 22 (by omega), show aI (sA S2 21 (nI (L + 1)) (aI S 21 L + dX w y3)) 22 L = aI S 22 L by rw [rd_sn _ (by decide), j22]]
      refine ⟨vp_in_nI (by omega) (by decide), fun c1 => ⟨fun c3 => k248 _ ?_, fun c3 => k248 _ ?_⟩, fun c1 => k248 _ ?_⟩
      · unfold dY
        rw [if_neg (show ¬ w = 1 from fun e => c1 (by rw [e]; rfl)), if_neg (show ¬ w = 3 from fun e => c3 (by rw [e]; rfl))]
      · have : w = 3 := (nI_eq (b := 3) (by omega) (by decide)).mp c3
        subst this
        rfl
      · have : w = 1 := (nI_eq (b := 1) (by omega) (by decide)).mp c1
        subst this
        rfl
    rw [hL1, rA_n _ 21 (by omega), j21]
    refine ⟨fun c1 => ⟨fun c3 => k211 _ ?_, fun c3 => k211 _ ?_⟩, fun c1 => k211 _ ?_⟩
    · unfold dX
      rw [if_neg (show ¬ w = 0 from fun e => c1 (by rw [e]; rfl)), if_neg (show ¬ w = 2 from fun e => c3 (by rw [e]; rfl))]
    · have : w = 2 := (nI_eq (b := 2) (by omega) (by decide)).mp c3
      subst this
      rfl
    · have : w = 0 := (nI_eq (b := 0) (by omega) (by decide)).mp c1
      subst this
      rfl
  rw [(ix3 hb _ (by omega : e / 2 < 3)).1, rd_dm hb _ _ (by omega), (hB1.1 (e / 2) (by omega)).2.2]
  refine ⟨fun c => ?_, fun c => ⟨(ix3 hb _ (by omega)).2, ?_⟩⟩
  · have hodd : ¬ e % 2 = 0 := fun e0 => c (by
      rw [show (2 : Int32) = nI 2 from rfl, pk_mul, pk_sub (by omega), show e - e / 2 * 2 = 0 by omega]; rfl)
    have := k102
    rw [en_x he, if_neg hodd] at this
    exact this
  · have heven : e % 2 = 0 := by
      rw [show (2 : Int32) = nI 2 from rfl, pk_mul, pk_sub (by omega), i_0 (by omega)] at c
      omega
    have := k102
    rw [en_x he, if_pos heven] at this
    show w9_unfolds_b102 (nI L) (nI w) (nI e) (nI (e / 2)) (nI 2 * nI (d (e / 2))) S1 Q
    rw [pk_mul]
    exact this
def pfx (σ : Nat → Nat) : Nat → List Nat
  | 0 => []
  | n + 1 => pfx σ n ++ [σ n]
theorem pfx_len (σ : Nat → Nat) : ∀ n, (pfx σ n).length = n
  | 0 => rfl
  | n + 1 => by
    show (pfx σ n ++ [σ n]).length = n + 1
    rw [List.length_append, pfx_len σ n, List.length_singleton]
theorem pfx_cong {σ τ : Nat → Nat} : ∀ n, (∀ k, k < n → σ k = τ k) → pfx σ n = pfx τ n
  | 0, _ => rfl
  | n + 1, h => by
    show pfx σ n ++ [σ n] = pfx τ n ++ [τ n]
    rw [pfx_cong n (fun k hk => h k (by omega)), h n (by omega)]
theorem pfx_mem {σ : Nat → Nat} : ∀ {n k : Nat}, k < n → σ k ∈ pfx σ n
  | 0, k, h => absurd h (Nat.not_lt_zero k)
  | n + 1, k, h => by
    show σ k ∈ pfx σ n ++ [σ n]
    by_cases e : k = n
    · rw [e]; exact List.mem_append_right _ (List.mem_singleton.mpr rfl)
    · exact List.mem_append_left _ (pfx_mem (by omega))
theorem pfx_of {σ : Nat → Nat} {x : Nat} : ∀ {n : Nat}, x ∈ pfx σ n → ∃ k, k < n ∧ σ k = x
  | 0, h => absurd h (List.not_mem_nil)
  | n + 1, h => by
    have h' : x ∈ pfx σ n ++ [σ n] := h
    rcases List.mem_append.mp h' with e | e
    · obtain ⟨k, h1, h2⟩ := pfx_of e
      exact ⟨k, by omega, h2⟩
    · rw [List.mem_singleton] at e
      exact ⟨n, by omega, e.symm⟩
theorem pfx_hd {σ : Nat → Nat} : ∀ n, Hd (pfx σ (n + 1)) (σ 0)
  | 0 => ⟨[], rfl⟩
  | n + 1 => by
    obtain ⟨M, e⟩ := pfx_hd (σ := σ) n
    refine ⟨M ++ [σ (n + 1)], ?_⟩
    show pfx σ (n + 1) ++ [σ (n + 1)] = _
    rw [e]; rfl
theorem fr_bd (s : Nat) (hs : s < 6) (r : Nat) (hr : r < 6) (u : Nat) (hu : u < 6) (w : Nat) (hw : w < 4) (h : r / 2 ≠ s / 2 ∧ u / 2 ≠ s / 2 ∧ r / 2 ≠ u / 2) : dirN r u w ^^^ 1 < 6 ∧ nR s r w < 6 ∧ nU s u w < 6 ∧ nR s r w / 2 ≠ (dirN r u w ^^^ 1) / 2 ∧ nU s u w / 2 ≠ (dirN r u w ^^^ 1) / 2 ∧ nR s r w / 2 ≠ nU s u w / 2 := by
  have xr := x1_ok r hr
  have xu := x1_ok u hu
  have xs := x1_ok s hs
  have er := x1_xx r hr
  have eu := x1_xx u hu
  rcases (show w = 0 ∨ w = 1 ∨ w = 2 ∨ w = 3 by omega) with rfl | rfl | rfl | rfl
  · show r ^^^ 1 < 6 ∧ s < 6 ∧ u < 6 ∧ s / 2 ≠ (r ^^^ 1) / 2 ∧ u / 2 ≠ (r ^^^ 1) / 2 ∧ s / 2 ≠ u / 2
    omega
  · show u ^^^ 1 < 6 ∧ r < 6 ∧ s < 6 ∧ r / 2 ≠ (u ^^^ 1) / 2 ∧ s / 2 ≠ (u ^^^ 1) / 2 ∧ r / 2 ≠ s / 2
    omega
  · show (r ^^^ 1) ^^^ 1 < 6 ∧ s ^^^ 1 < 6 ∧ u < 6 ∧ (s ^^^ 1) / 2 ≠ ((r ^^^ 1) ^^^ 1) / 2 ∧ u / 2 ≠ ((r ^^^ 1) ^^^ 1) / 2 ∧ (s ^^^ 1) / 2 ≠ u / 2
    rw [er]
    omega
  · show (u ^^^ 1) ^^^ 1 < 6 ∧ r < 6 ∧ s ^^^ 1 < 6 ∧ r / 2 ≠ ((u ^^^ 1) ^^^ 1) / 2 ∧ (s ^^^ 1) / 2 ≠ ((u ^^^ 1) ^^^ 1) / 2 ∧ r / 2 ≠ (s ^^^ 1) / 2
    rw [eu]
    omega
theorem dir_all (s : Nat) (hs : s < 6) (r : Nat) (hr : r < 6) (u : Nat) (hu : u < 6) (t : Nat) (ht : t < 6) (h : r / 2 ≠ s / 2 ∧ u / 2 ≠ s / 2 ∧ r / 2 ≠ u / 2 ∧ ¬ s / 2 = t / 2) : dirN r u 0 ^^^ 1 = t ∨ dirN r u 1 ^^^ 1 = t ∨ dirN r u 2 ^^^ 1 = t ∨ dirN r u 3 ^^^ 1 = t := by
  have xr := x1_ok r hr
  have xu := x1_ok u hu
  show r ^^^ 1 = t ∨ u ^^^ 1 = t ∨ (r ^^^ 1) ^^^ 1 = t ∨ (u ^^^ 1) ^^^ 1 = t
  rw [x1_xx r hr, x1_xx u hu]
  omega
theorem dir_ex {s r u t : Nat} (hs : s < 6) (hf : FrO s r u) (ht : t < 6) (h : ¬ s / 2 = t / 2) : ∃ w, w < 4 ∧ dirN r u w ^^^ 1 = t := by
  rcases dir_all s hs r hf.1 u hf.2.1 t ht ⟨hf.2.2.1, hf.2.2.2.1, hf.2.2.2.2, h⟩ with e | e | e | e
  · exact ⟨0, by decide, e⟩
  · exact ⟨1, by decide, e⟩
  · exact ⟨2, by decide, e⟩
  · exact ⟨3, by decide, e⟩
/-- the row of a level, exactly -/
def Rq (d : Nat → Nat) (P q : Nat → Int32) (z : Nat) (σ ρ υ : Nat → Nat) (S : MS) (l : Nat) : Prop :=
  σ l < 6 ∧ aI S 17 l = nI (σ l) ∧ aI S 18 l = nI (ρ l) ∧ aI S 19 l = nI (υ l) ∧ FrO (σ l) (ρ l) (υ l) ∧ SP (pfx σ (l + 1)) ∧ aI S 20 (3 * l + σ l / 2) = enD d (σ l) ∧ ∀ suf, SP (pfx σ (l + 1) ++ suf) → Ls (pfx σ (l + 1) ++ suf) z → gv (aI S 21 l) (aI S 22 l) (ρ l) (υ l) (fun j => aI S 20 (3 * l + j)) (Uq d q (σ l :: suf)) = VL d P q (pfx σ (l + 1) ++ suf)
theorem Rq_eq {d : Nat → Nat} {P q : Nat → Int32} {z : Nat} {σ ρ υ σ' ρ' υ' : Nat → Nat} {S S' : MS} {l : Nat} (h : Rq d P q z σ ρ υ S l) (e1 : aI S' 17 l = aI S 17 l) (e2 : aI S' 18 l = aI S 18 l) (e3 : aI S' 19 l = aI S 19 l) (e4 : ∀ j, j < 3 → aI S' 20 (3 * l + j) = aI S 20 (3 * l + j)) (e5 : aI S' 21 l = aI S 21 l) (e6 : aI S' 22 l = aI S 22 l) (hσ : ∀ k, k ≤ l → σ' k = σ k) (hρ : ρ' l = ρ l) (hυ : υ' l = υ l) : Rq d P q z σ' ρ' υ' S' l := by
  obtain ⟨a1, a2, a3, a4, a5, a6, a7, a8⟩ := h
  have hp : pfx σ' (l + 1) = pfx σ (l + 1) := pfx_cong _ (fun k hk => hσ k (by omega))
  unfold Rq
  rw [e1, e2, e3, e5, e6, hσ l (Nat.le_refl _), hρ, hυ, hp]
  have ht := a5.2
  refine ⟨a1, a2, a3, a4, a5, a6, by rw [e4 _ (by omega)]; exact a7, fun suf hs hz => ?_⟩
  rw [← a8 suf hs hz]
  have := a5.1
  have := a5.2.1
  exact gv_cong (e4 _ (by omega)) (e4 _ (by omega)) rfl rfl
theorem Rq_push {d : Nat → Nat} {P q : Nat → Int32} {z : Nat} {σ ρ υ σ' ρ' υ' : Nat → Nat} {S S' : MS} {L w : Nat} (hL : L < 5) (hw : w < 4) (h : Rq d P q z σ ρ υ S L) (hn : NR S S' d (σ L) (ρ L) (υ L) w L) (hnew : ∀ k, k ≤ L → ¬ σ k = dirN (ρ L) (υ L) w ^^^ 1) (hσ : ∀ k, k ≤ L → σ' k = σ k) (h1 : σ' (L + 1) = dirN (ρ L) (υ L) w ^^^ 1) (h2 : ρ' (L + 1) = nR (σ L) (ρ L) w) (h3 : υ' (L + 1) = nU (σ L) (υ L) w) : Rq d P q z σ' ρ' υ' S' (L + 1) := by
  obtain ⟨a1, a2, a3, a4, a5, a6, a7, a8⟩ := h
  obtain ⟨-, -, b1, b2, b3, b4, b5, b6⟩ := hn
  have hfb := fr_bd (σ L) a1 (ρ L) a5.1 (υ L) a5.2.1 w hw a5.2.2
  have hdo := dir_ok a5 hw
  have hxe := x1_ok _ hdo.1
  have hp : pfx σ' (L + 1) = pfx σ (L + 1) := pfx_cong _ (fun k hk => hσ k (by omega))
  have hp2 : pfx σ' (L + 1 + 1) = pfx σ (L + 1) ++ [dirN (ρ L) (υ L) w ^^^ 1] := by
    show pfx σ' (L + 1) ++ [σ' (L + 1)] = _
    rw [hp, h1]
  have hstep := fun X => gv_step (d := d) a1 hw a5 (aI S 21 L) (aI S 22 L) (fun j => aI S 20 (3 * L + j)) X a7
  unfold Rq
  rw [hp2, h1, h2, h3]
  generalize hee : dirN (ρ L) (υ L) w = e at hfb hdo hxe b1 b4 b5 b6 hstep hnew ⊢
  refine ⟨hfb.1, b1, b2, b3, ⟨hfb.2.1, hfb.2.2.1, hfb.2.2.2.1, hfb.2.2.2.2.1, hfb.2.2.2.2.2⟩, ?_, ?_, fun suf hs hz => ?_⟩
  · refine SP_sn (l := pfx σ L) (s := σ L) a6 hfb.1 (fun c => ?_) (by omega) ?_
    · obtain ⟨k, hk, ek⟩ := pfx_of (n := L + 1) c
      exact hnew k (by omega) ek
    · have := pfx_len σ (L + 1)
      show (pfx σ (L + 1)).length ≤ 5
      omega
  · rw [b6 _ (by omega)]
    unfold ptD
    rw [if_pos hxe.2.1]
  · rw [app_1] at hs hz ⊢
    rw [b4, b5, ← a8 _ hs hz]
    have hr6 := hfb.2.1
    have hu6 := hfb.2.2.1
    refine (gv_cong (b6 _ (by omega)) (b6 _ (by omega)) rfl rfl).trans (hstep _)
def iv (v : Int32) (far : Int32) : Int32 := if v < 0 then far else if v ≤ far then v else far
theorem sub_1 {x y : Int32} (h : x + 1 = y) : x = y - 1 := by rw [← h, Int32.add_sub_cancel]
set_option maxHeartbeats 4000000 in
theorem x9_shortLoop {b sp sq : Nat} {d : Nat → Nat} {P q : Nat → Int32} (best0 : Int32) (hb : b < 4) (S0 : MS) (hB : BoxN S0 b d) (hP : Bd 10 P) (hq : Bd 10 q) (hsp : sp < 6) (hsq : sq < 6) (r0 u0 : Nat) (hR : Rq d P q sq (fun _ => sp) (fun _ => r0) (fun _ => u0) S0 0) (hv : aI S0 23 0 = -1) (h24 : ∀ j, j < 3 → aI S0 24 j = q j) (hb0 : (sp = sq ∧ best0 = VL d P q [sp]) ∨ (¬ sp = sq ∧ best0 = -9)) (Q : Int32 → MS → Prop) (h : ∀ v S', Fr [8, 10, 11, 17, 18, 19, 20, 21, 22, 23] S0 S' → Mn d P q sp sq v → Q v S') : w9_shortOf_b156 (nI b) (nI sq) best0 0 S0 Q := by
  have hd5 : ∀ j, j < 3 → d j ≤ 5 := fun j hj => (hB.1 j hj).2.1
  have hVL : ∀ L, OKL sp sq L → 0 ≤ (VL d P q L).toInt ∧ (VL d P q L).toInt < 1073741824 := fun L hL => VL_b hd5 hP hq hL.1
  have e0 : (0 : Int32).toInt = 0 := rfl
  have e9 : (-9 : Int32).toInt = -9 := rfl
  unfold w9_shortOf_b156
  refine lp_of (fun z : Int32 × Int32 × MS => Fr [8, 10, 11, 17, 18, 19, 20, 21, 22, 23] S0 z.2.2 ∧ ∃ m, m ≤ 6 ∧ z.2.1 + 1 = nI m ∧ ∃ σ ρ υ ν : Nat → Nat, σ 0 = sp ∧ (∀ l, l < m → Rq d P q sq σ ρ υ z.2.2 l ∧ ν l ≤ 4 ∧ aI z.2.2 23 l + 1 = nI (ν l)) ∧ (z.1 = -9 ∨ ∃ L, OKL sp sq L ∧ z.1 = VL d P q L) ∧ ∀ L, OKL sp sq L → (0 ≤ z.1.toInt ∧ z.1.toInt ≤ (VL d P q L).toInt) ∨ ∃ l w suf, l < m ∧ ν l ≤ w ∧ w < 4 ∧ L = pfx σ (l + 1) ++ (dirN (ρ l) (υ l) w ^^^ 1) :: suf) (fun z => mu z.2.2 z.2.1) ?_ ?_
  rotate_left
  · refine ⟨fr_rf, 1, by decide, rfl, fun _ => sp, fun _ => r0, fun _ => u0, fun _ => 0, rfl, fun l hl => ?_, ?_, fun L hL => ?_⟩
    · have e : l = 0 := by omega
      subst e
      refine ⟨hR, by decide, ?_⟩
      show aI S0 23 0 + 1 = nI 0
      rw [hv]; rfl
    · rcases hb0 with ⟨e1, e2⟩ | ⟨e1, e2⟩
      · refine Or.inr ⟨[sp], ⟨⟨nd_1 sp, trivial, fun x hx => ?_, len_1 sp⟩, ⟨[], rfl⟩, ⟨[], by rw [e1]; rfl⟩⟩, e2⟩
        rw [List.mem_singleton] at hx
        rw [hx]; exact hsp
      · exact Or.inl e2
    · obtain ⟨M, eM⟩ := id hL.2.1
      rcases hb0 with ⟨e1, e2⟩ | ⟨e1, e2⟩
      · have hM : M = [] := by
          have hs : SP ([] ++ sp :: M) := by rw [List.nil_append, ← eM]; exact hL.1
          have hl : Ls ([] ++ sp :: M) sp := by rw [List.nil_append, ← eM, e1]; exact hL.2.2
          exact suf_nil hs hl
        rw [hM] at eM
        have := hVL L hL
        refine Or.inl ?_
        show 0 ≤ best0.toInt ∧ best0.toInt ≤ _
        rw [e2, ← eM]
        omega
      · have hl : Ls ([] ++ sp :: M) sq := by rw [List.nil_append, ← eM]; exact hL.2.2
        obtain ⟨t, s2, e3⟩ := suf_some hl e1
        have hs : SP ([] ++ [sp] ++ t :: s2) := by
          rw [← e3]
          show SP (sp :: M)
          rw [← eM]; exact hL.1
        obtain ⟨g1, g2, g3⟩ := SP_nx hs
        obtain ⟨w, hw, ew⟩ := dir_ex hsp hR.2.2.2.2.1 g1 g3
        refine Or.inr ⟨0, w, s2, by decide, Nat.zero_le _, hw, ?_⟩
        show L = [sp] ++ (dirN r0 u0 w ^^^ 1) :: s2
        rw [ew, eM, e3]; rfl
  clear hR hv hb0 best0
  rintro K ⟨best, x6, S1⟩ ⟨hF, m, hm, hx, σ, ρ, υ, ν, hσ0, hl, hat, hall⟩ hK
  try dsimp only at hF hx hl hat hall hK
  unfold w9_shortOf_F156 w9_shortOf_d156
  try dsimp only
  refine ⟨fun hneg => ?_, fun hneg => ?_⟩
  · have hm0 : m = 0 := by
      rcases Nat.eq_zero_or_pos m with q1 | q1
      · exact q1
      · obtain ⟨L, rfl⟩ : ∃ L, m = L + 1 := ⟨m - 1, by omega⟩
        have ex := i_pred hx
        rw [ex] at hneg
        exact absurd hneg (nI_pos (by omega))
    subst hm0
    have hall' : ∀ L, OKL sp sq L → 0 ≤ best.toInt ∧ best.toInt ≤ (VL d P q L).toInt := fun L hL => by
      rcases hall L hL with q1 | ⟨l, w, suf, q1, _⟩
      · exact q1
      · exact absurd q1 (Nat.not_lt_zero l)
    refine h _ _ hF ⟨?_, fun L hL => (hall' L hL).2⟩
    rcases hat with q1 | q1
    · exfalso
      obtain ⟨L, hL⟩ := ok_ex hsp hsq
      have := (hall' L hL).1
      rw [q1] at this
      omega
    · exact q1
  obtain ⟨L, rfl⟩ : ∃ L, m = L + 1 := by
    rcases Nat.eq_zero_or_pos m with q1 | q1
    · subst q1
      have hx2 : x6 = -1 := by
        rw [sub_1 hx]; rfl
      rw [hx2] at hneg
      exact absurd (by decide) hneg
    · exact ⟨m - 1, by omega⟩
  have ex := i_pred hx
  subst ex
  clear hx hneg
  obtain ⟨hRL, hv4, ev⟩ := hl L (by omega)
  generalize hve : ν L = v at hv4 ev
  rw [rA_n S1 23 (by omega), ev]
  refine ⟨vp_in_nI (by omega) (by decide), ?_⟩
  rintro _ rfl
  have hF13 : Fr [23] S1 (sA S1 23 (nI L) (nI v)) := fr_sA (by decide)
  have hF3 : Fr [8, 10, 11, 17, 18, 19, 20, 21, 22, 23] S0 (sA S1 23 (nI L) (nI v)) := fr_tr hF (fr_sA (by decide))
  have e23 : aI (sA S1 23 (nI L) (nI v)) 23 = upd (aI S1 23) L (nI v) := by rw [rd_A, nI_clamp (by omega)]
  have hrq : ∀ l, l < L + 1 → Rq d P q sq σ ρ υ (sA S1 23 (nI L) (nI v)) l := fun l hl2 => Rq_eq (hl l hl2).1 (by rw [rd_sn _ (by decide)]) (by rw [rd_sn _ (by decide)]) (by rw [rd_sn _ (by decide)]) (fun j _ => by rw [rd_sn _ (by decide)]) (by rw [rd_sn _ (by decide)]) (by rw [rd_sn _ (by decide)]) (fun _ _ => rfl) rfl rfl
  have hS3 : aI (sA S1 23 (nI L) (nI v)) 23 L + 1 = nI (v + 1) := by rw [e23, pk_us, nI_1]
  have hlow : ∀ l, l < L → aI (sA S1 23 (nI L) (nI v)) 23 l = aI S1 23 l := fun l hl2 => by rw [e23, pk_un (by omega)]
  have h17 : rA (sA S1 23 (nI L) (nI v)) 23 (nI L) = nI v := by rw [rA_n _ _ (by omega), e23, pk_us]
  have h17b : rA (sA S1 23 (nI L) (nI v)) 17 (nI L) = nI (σ L) := by rw [rA_n _ _ (by omega)]; exact (hrq L (by omega)).2.1
  rw [h17, h17b]
  generalize sA S1 23 (nI L) (nI v) = S3 at hF3 hrq hS3 hlow hF13
  clear e23 h17 h17b
  have hs6 := hRL.1
  have hsmL : fb_sm (wgt S3) L = fb_sm (wgt S1) L := fb_sm_cong fun l hl2 => wgt_eq (hlow l hl2)
  have hmu1 := mu_at (S := S1) (L := L) (by omega)
  have hw1 := wgt_v (S := S1) (l := L) (v := v) (by omega) ev
  have hpop : (∀ L0 w suf, OKL sp sq L0 → v ≤ w → w < 4 → L0 = pfx σ (L + 1) ++ (dirN (ρ L) (υ L) w ^^^ 1) :: suf → False) → w9_shortOf_b201 (fun y0 y1 y2 => K (y0, y1, y2)) (nI b) (nI sq) best (nI L) S3 Q := by
    intro hno
    unfold w9_shortOf_b201
    rintro _ rfl
    refine hK (_, _, _) ⟨hF3, L, by omega, m1p1 L, σ, ρ, υ, ν, hσ0, fun l hl2 => ⟨hrq l (by omega), (hl l (by omega)).2.1, ?_⟩, hat, fun L0 h0 => ?_⟩ ?_
    · show aI S3 23 l + 1 = nI (ν l)
      rw [hlow l hl2]; exact (hl l (by omega)).2.2
    · rcases hall L0 h0 with q1 | ⟨l, w, suf, q1, q2, q3, q4⟩
      · exact Or.inl q1
      · by_cases e : l = L
        · subst e
          rw [hve] at q2
          exact absurd (hno L0 w suf h0 q2 q3 q4) id
        · exact Or.inr ⟨l, w, suf, by omega, q2, q3, q4⟩
    · show mu S3 (nI L + (-1)) < mu S1 (nI L)
      unfold mu at hmu1 ⊢
      rw [m1p1, nI_clamp (by omega), hmu1, hsmL, hw1]
      omega
  refine ⟨fun c4 => hpop (fun L0 w suf _ q2 q3 _ => ?_), fun hn4 => ⟨fun cl => hpop (fun L0 w suf h0 _ _ q4 => ?_), fun hnl => ⟨fun hn5 => ?_, fun c5 => hpop (fun L0 w suf h0 _ _ q4 => ?_)⟩⟩⟩
  · have : v = 4 := (nI_eq (b := 4) (by omega) (by decide)).mp c4
    omega
  · have es : σ L = sq := (nI_eq (by omega) (by omega)).mp cl
    have e1 : L0 = pfx σ L ++ σ L :: (dirN (ρ L) (υ L) w ^^^ 1) :: suf := by
      rw [q4]
      show pfx σ L ++ [σ L] ++ _ = _
      rw [app_1]
    have h1 : SP (pfx σ L ++ σ L :: (dirN (ρ L) (υ L) w ^^^ 1) :: suf) := by rw [← e1]; exact h0.1
    have h2 : Ls (pfx σ L ++ σ L :: (dirN (ρ L) (υ L) w ^^^ 1) :: suf) (σ L) := by rw [← e1, es]; exact h0.2.2
    exact absurd (suf_nil h1 h2) (List.cons_ne_nil _ _)
  rotate_left
  · have e5 : L = 5 := (nI_eq (b := 5) (by omega) (by decide)).mp c5
    have := h0.1.2.2.2
    rw [q4, List.length_append, pfx_len, List.length_cons] at this
    omega
  have hv3 : v < 4 := by
    have : ¬ v = 4 := fun e => hn4 (by rw [e]; rfl)
    omega
  have hL5 : L < 5 := by
    have : ¬ L = 5 := fun e => hn5 (by rw [e]; rfl)
    omega
  have hc : ∀ c, (4 - (v + 1)) * c + c = (4 - v) * c := fun c => by
    rcases (show v = 0 ∨ v = 1 ∨ v = 2 ∨ v = 3 by omega) with rfl | rfl | rfl | rfl <;> omega
  have hcc := hc (1 + TR (6 - (L + 1)))
  have hrL := hrq L (by omega)
  have hfL := hrL.2.2.2.2.1
  refine x9_unfolds (σ := σ) (r := ρ L) (u := υ L) hb hL5 hv3 S3 (boxN_fr hF3 (by decide) hB) (fun l hl2 => ⟨(hrq l (by omega)).1, (hrq l (by omega)).2.1⟩) hrL.2.2.1 hrL.2.2.2.1 hfL _ (fun hold S4 hF4 => ⟨fun _ => ?_, fun c => absurd rfl c⟩) (fun hnew S4 hF4 hN => ⟨fun c => absurd c (by decide), fun _ => ?_⟩)
  · have e23 := (hF4 23 (by decide)).2.2.1
    obtain ⟨k0, hk0, ek0⟩ := hold
    refine hK (_, _, _) ⟨fr_tr hF3 (fr_mono hF4 (by decide)), L + 1, by omega, nI_1 L, σ, ρ, υ, (fun l => if l = L then v + 1 else ν l), hσ0, fun l hl2 => ⟨?_, ?_, ?_⟩, hat, fun L0 h0 => ?_⟩ ?_
    · have f := fun k hk => (hF4 k hk).2.2.1
      exact Rq_eq (hrq l hl2) (by rw [f 17 (by decide)]) (by rw [f 18 (by decide)]) (by rw [f 19 (by decide)]) (fun j _ => by rw [f 20 (by decide)]) (by rw [f 21 (by decide)]) (by rw [f 22 (by decide)]) (fun _ _ => rfl) rfl rfl
    · show (if l = L then v + 1 else ν l) ≤ 4
      have := (hl l hl2).2.1
      split <;> omega
    · show aI S4 23 l + 1 = nI (if l = L then v + 1 else ν l)
      by_cases e : l = L
      · subst e
        rw [if_pos rfl, e23]; exact hS3
      · rw [if_neg e, e23, hlow l (by omega)]; exact (hl l hl2).2.2
    · rcases hall L0 h0 with q1 | ⟨l, w, suf, q1, q2, q3, q4⟩
      · exact Or.inl q1
      · refine Or.inr ⟨l, w, suf, q1, ?_, q3, q4⟩
        show (if l = L then v + 1 else ν l) ≤ w
        by_cases e : l = L
        · subst e
          rw [if_pos rfl]
          rcases Nat.lt_or_ge v w with q5 | q5
          · exact q5
          · exfalso
            have ew : w = v := by omega
            subst ew
            rw [q4] at h0
            have h1 : SP (pfx σ l ++ [σ l] ++ (dirN (ρ l) (υ l) w ^^^ 1) :: suf) := h0.1
            refine (SP_nx h1).2.1 ?_
            rw [← ek0]
            exact pfx_mem (n := l + 1) (by omega)
        · rw [if_neg e]; exact q2
    · show mu S4 (nI L) < mu S1 (nI L)
      have hsm4 : fb_sm (wgt S4) L = fb_sm (wgt S1) L := by
        rw [← hsmL]
        exact fb_sm_cong fun l hl2 => wgt_eq (by rw [e23])
      rw [mu_at (S := S4) (L := L) (by omega), hmu1, hsm4, hw1, wgt_v (S := S4) (l := L) (v := v + 1) (by omega) (by rw [e23]; exact hS3)]
      omega
  · rintro _ rfl
    rw [nI_1]
    refine ⟨vp_in_nI (by omega) (by decide), ?_⟩
    rintro _ rfl
    have e23 := (hF4 23 (by decide)).2.2.1
    have f23 : aI (sA S4 23 (nI (L + 1)) (-1)) 23 = upd (aI S3 23) (L + 1) (-1) := by rw [rd_A, nI_clamp (by omega), e23]
    have hF5 : Fr [8, 10, 11, 17, 18, 19, 20, 21, 22, 23] S0 (sA S4 23 (nI (L + 1)) (-1)) := fr_tr hF3 (fr_tr (fr_mono hF4 (by decide)) (fr_sA (by decide)))
    have hF45 : Fr [23] S4 (sA S4 23 (nI (L + 1)) (-1)) := fr_sA (by decide)
    generalize sA S4 23 (nI (L + 1)) (-1) = S5 at f23 hF5 hF45
    have g := fun k hk => (hF45 k hk).2.2.1
    have hN5 : NR S3 S5 d (σ L) (ρ L) (υ L) v L := by
      unfold NR
      rw [g 17 (by decide), g 18 (by decide), g 19 (by decide), g 20 (by decide), g 21 (by decide), g 22 (by decide)]
      exact hN
    clear hN
    obtain ⟨σ', ρ', υ', ν', oσ, nσ, oρ, nρ, oυ, nυ, oν, nν, mν⟩ : ∃ σ' ρ' υ' ν' : Nat → Nat, (∀ k, k ≤ L → σ' k = σ k) ∧ σ' (L + 1) = dirN (ρ L) (υ L) v ^^^ 1 ∧ (∀ k, k ≤ L → ρ' k = ρ k) ∧ ρ' (L + 1) = nR (σ L) (ρ L) v ∧ (∀ k, k ≤ L → υ' k = υ k) ∧ υ' (L + 1) = nU (σ L) (υ L) v ∧ (∀ k, k < L → ν' k = ν k) ∧ ν' L = v + 1 ∧ ν' (L + 1) = 0 :=
      ⟨fun k => if k = L + 1 then dirN (ρ L) (υ L) v ^^^ 1 else σ k, fun k => if k = L + 1 then nR (σ L) (ρ L) v else ρ k, fun k => if k = L + 1 then nU (σ L) (υ L) v else υ k, fun k => if k = L + 1 then 0 else if k = L then v + 1 else ν k, fun k hk => if_neg (by omega), if_pos rfl, fun k hk => if_neg (by omega), if_pos rfl, fun k hk => if_neg (by omega), if_pos rfl, fun k hk => by
        show (if k = L + 1 then 0 else if k = L then v + 1 else ν k) = ν k
        rw [if_neg (by omega), if_neg (by omega)], by
        show (if L = L + 1 then 0 else if L = L then v + 1 else ν L) = v + 1
        rw [if_neg (by omega), if_pos rfl], if_pos rfl⟩
    have hRn : Rq d P q sq σ' ρ' υ' S5 (L + 1) := Rq_push hL5 hv3 hrL hN5 hnew oσ nσ nρ nυ
    have hRo : ∀ l, l < L + 1 → Rq d P q sq σ' ρ' υ' S5 l := fun l hl2 => by
      obtain ⟨z1, z2, z3, z4, z5⟩ := hN5.1 l (by omega)
      exact Rq_eq (hrq l hl2) z1 z2 z3 (fun j hj => hN5.2.1 _ (by omega)) z4 z5 (fun k hk => oσ k (by omega)) (oρ l (by omega)) (oυ l (by omega))
    have hpo : ∀ l, l < L + 1 → pfx σ' (l + 1) = pfx σ (l + 1) := fun l hl2 => pfx_cong _ (fun k hk => oσ k (by omega))
    have hpn : pfx σ' (L + 1 + 1) = pfx σ (L + 1) ++ [dirN (ρ L) (υ L) v ^^^ 1] := by
      show pfx σ' (L + 1) ++ [σ' (L + 1)] = _
      rw [hpo L (by omega), nσ]
    have et6 : dirN (ρ L) (υ L) v ^^^ 1 < 6 := by
      have := hRn.1
      rw [nσ] at this
      exact this
    have hfn := hRn.2.2.2.2.1
    rw [nσ] at hfn
    have hpush : ∀ v5, (v5 = -9 ∨ ∃ L0, OKL sp sq L0 ∧ v5 = VL d P q L0) → (∀ L0, OKL sp sq L0 → (0 ≤ best.toInt ∧ best.toInt ≤ (VL d P q L0).toInt) → (0 ≤ v5.toInt ∧ v5.toInt ≤ (VL d P q L0).toInt)) → (∀ L0 suf, OKL sp sq L0 → L0 = pfx σ (L + 1) ++ (dirN (ρ L) (υ L) v ^^^ 1) :: suf → (0 ≤ v5.toInt ∧ v5.toInt ≤ (VL d P q L0).toInt) ∨ ¬ dirN (ρ L) (υ L) v ^^^ 1 = sq) → K (v5, nI (L + 1), S5) := by
      intro v5 w1 w2 w3
      refine hK (v5, nI (L + 1), S5) ⟨hF5, L + 2, by omega, nI_1 (L + 1), σ', ρ', υ', ν', (oσ 0 (Nat.zero_le _)).trans hσ0, fun l hl2 => ⟨?_, ?_, ?_⟩, w1, fun L0 h0 => ?_⟩ ?_
      · rcases Nat.lt_or_ge l (L + 1) with q1 | q1
        · exact hRo l q1
        · have e : l = L + 1 := by omega
          rw [e]; exact hRn
      · rcases (show l < L ∨ l = L ∨ l = L + 1 by omega) with e | e | e
        · rw [oν l e]; exact (hl l (by omega)).2.1
        · rw [e, nν]; omega
        · rw [e, mν]; omega
      · show aI S5 23 l + 1 = nI (ν' l)
        rcases (show l < L ∨ l = L ∨ l = L + 1 by omega) with e | e | e
        · rw [oν l e, f23, pk_un (by omega), hlow l e]; exact (hl l (by omega)).2.2
        · rw [e, nν, f23, pk_un (by omega)]; exact hS3
        · rw [e, mν, f23, pk_us]; rfl
      · show (0 ≤ v5.toInt ∧ v5.toInt ≤ (VL d P q L0).toInt) ∨ _
        rcases hall L0 h0 with q1 | ⟨l, w, suf, q1, q2, q3, q4⟩
        · exact Or.inl (w2 L0 h0 q1)
        · rcases (show l < L ∨ l = L by omega) with e | e
          · refine Or.inr ⟨l, w, suf, by omega, ?_, q3, ?_⟩
            · rw [oν l e]; exact q2
            · rw [hpo l (by omega), oρ l (by omega), oυ l (by omega)]; exact q4
          · subst e
            rw [hve] at q2
            rcases Nat.lt_or_ge v w with q5 | q5
            · refine Or.inr ⟨l, w, suf, by omega, ?_, q3, ?_⟩
              · rw [nν]; exact q5
              · rw [hpo l (by omega), oρ l (by omega), oυ l (by omega)]; exact q4
            · have ew : w = v := by omega
              subst ew
              rcases w3 L0 suf h0 q4 with q6 | q6
              · exact Or.inl q6
              · have hls := h0.2.2
                rw [q4] at hls
                obtain ⟨t2, s2, e2⟩ := suf_some hls q6
                have h1 : SP (pfx σ (l + 1) ++ [dirN (ρ l) (υ l) w ^^^ 1] ++ t2 :: s2) := by
                  rw [app_1, ← e2, ← q4]; exact h0.1
                obtain ⟨g1, g2, g3⟩ := SP_nx h1
                obtain ⟨w2', hw2, ew2⟩ := dir_ex et6 hfn g1 g3
                refine Or.inr ⟨l + 1, w2', s2, by omega, ?_, hw2, ?_⟩
                · rw [mν]; exact Nat.zero_le _
                · rw [ew2, hpn, app_1, ← e2]; exact q4
      · show mu S5 (nI (L + 1)) < mu S1 (nI L)
        have hsm5 : fb_sm (wgt S5) L = fb_sm (wgt S1) L := by
          rw [← hsmL]
          exact fb_sm_cong fun l hl2 => wgt_eq (by rw [f23, pk_un (by omega)])
        have hwL : wgt S5 L = (4 - (v + 1)) * (1 + TR (6 - (L + 1))) + 1 := wgt_v (by omega) (by rw [f23, pk_un (by omega)]; exact hS3)
        have hwL1 : wgt S5 (L + 1) = (4 - 0) * (1 + TR (6 - (L + 1 + 1))) + 1 := wgt_v (v := 0) (by omega) (by rw [f23, pk_us]; rfl)
        have hT : TR (6 - (L + 1)) = 4 * (1 + TR (6 - (L + 1 + 1))) + 1 := by
          rw [show 6 - (L + 1) = (6 - (L + 1 + 1)) + 1 by omega]
          rfl
        rw [mu_at (S := S5) (L := L + 1) (by omega), hmu1, fb_sm_succ, hsm5, hw1, hwL, hwL1]
        omega
    rw [rA_n _ 17 (by omega), hRn.2.1, nσ]
    refine ⟨fun cn => hpush _ hat (fun _ _ q1 => q1) (fun _ _ _ _ => Or.inr (fun e => cn (by rw [e]))), fun cy => ?_⟩
    have est : dirN (ρ L) (υ L) v ^^^ 1 = sq := (nI_eq (by omega) (by omega)).mp cy
    have hr6 := hfn.1
    have hu6 := hfn.2.1
    refine x9_farNow (by omega) hr6 hu6 S5 hRn.2.2.1 hRn.2.2.2.1 _ ?_
    have hfar : gv (aI S5 21 (L + 1)) (aI S5 22 (L + 1)) (ρ' (L + 1)) (υ' (L + 1)) (fun j => aI S5 20 (3 * (L + 1) + j)) (aI S5 24) = VL d P q (pfx σ (L + 1) ++ [sq]) := by
      have h1 := hRn.2.2.2.2.2.2.2 [] (by rw [List.append_nil]; exact hRn.2.2.2.2.2.1) (by rw [List.append_nil, hpn, est]; exact ⟨_, rfl⟩)
      rw [List.append_nil, hpn, est] at h1
      rw [← h1]
      have h24' : ∀ j, j < 3 → aI S5 24 j = q j := fun j hj => by rw [(hF5 24 (by decide)).2.2.1]; exact h24 j hj
      exact gv_cong rfl rfl (h24' _ (by omega)) (h24' _ (by omega))
    rw [hfar]
    have hok : OKL sp sq (pfx σ (L + 1) ++ [sq]) := by
      have h1 := hRn.2.2.2.2.2.1
      rw [hpn, est] at h1
      refine ⟨h1, ?_, ⟨_, rfl⟩⟩
      obtain ⟨M, e⟩ := pfx_hd (σ := σ) L
      exact ⟨M ++ [sq], by rw [e, hσ0]; rfl⟩
    have hfv := hVL _ hok
    have hw3 : ∀ v5 : Int32, 0 ≤ v5.toInt → v5.toInt ≤ (VL d P q (pfx σ (L + 1) ++ [sq])).toInt → ∀ L0 suf, OKL sp sq L0 → L0 = pfx σ (L + 1) ++ (dirN (ρ L) (υ L) v ^^^ 1) :: suf → (0 ≤ v5.toInt ∧ v5.toInt ≤ (VL d P q L0).toInt) ∨ ¬ dirN (ρ L) (υ L) v ^^^ 1 = sq := by
      intro v5 p1 p2 L0 suf h0 q4
      rw [est] at q4
      have h1 : SP (pfx σ (L + 1) ++ sq :: suf) := by rw [← q4]; exact h0.1
      have h2 : Ls (pfx σ (L + 1) ++ sq :: suf) sq := by rw [← q4]; exact h0.2.2
      have e := suf_nil h1 h2
      rw [e] at q4
      rw [q4]
      exact Or.inl ⟨p1, p2⟩
    unfold w9_shortOf_b267 w9_shortOf_b274
    refine ⟨fun cb => hpush _ (Or.inr ⟨_, hok, rfl⟩) (fun L0 _ q1 => ?_) (hw3 _ hfv.1 (Int.le_refl _)), fun cb => ⟨fun cf => hpush _ hat (fun _ _ q1 => q1) (hw3 _ ?_ ?_), fun cf => hpush _ (Or.inr ⟨_, hok, rfl⟩) (fun L0 _ q1 => ?_) (hw3 _ hfv.1 (Int.le_refl _))⟩⟩
    · rw [pi_lt] at cb
      omega
    · rw [pi_lt] at cb
      omega
    · rw [pi_le] at cf
      exact cf
    · rw [pi_le] at cf
      omega
theorem x9_shortOf {b sp lp' sq lq : Nat} {d : Nat → Nat} (hb : b < 4) (S : MS) (hB : BoxN S b d) (hsp : sp < 6) (hlp : lp' < sz d sp) (hsq : sq < 6) (hlq : lq < sz d sq) (Q : Int32 → MS → Prop) (h : ∀ v S', Fr [8, 9, 10, 11, 17, 18, 19, 20, 21, 22, 23, 24] S S' → Mn d (fun j => nI (posOf d sp lp' j)) (fun j => nI (posOf d sq lq j)) sp sq v → Q v S') : w9_shortOf (nI b) (nI (pre d sp + lp')) (nI (pre d sq + lq)) S Q := by
  have hd : ∀ j, j < 3 → 1 ≤ d j ∧ d j ≤ 5 := fun j hj => ⟨(hB.1 j hj).1, (hB.1 j hj).2.1⟩
  have hpp := pre_le (d := d) hsp
  have hpq := pre_le (d := d) hsq
  unfold w9_shortOf
  refine s9_goTo hb S hB (by omega) _ (fun S1 s l hs hl el hF1 hA1 => ?_)
  obtain ⟨rfl, rfl⟩ := pre_inj hlq hl el
  rw [hA1.1]
  rintro _ rfl
  unfold w9_shortOf_b15
  refine lp_up 3 (fun z => z.1) (fun k z => Fr [8, 9, 24] S z.2 ∧ aI z.2 9 = aI S1 9 ∧ ∀ j, j < k → aI z.2 24 j = nI (posOf d sq lq j)) (by decide) ?_ (Nat.zero_le _) (rfl : (0 : Int32) = nI 0) (by exact ⟨fr_mono hF1 (by decide), rfl, fun j hj => absurd hj (Nat.not_lt_zero j)⟩)
  rintro K ⟨y, S2⟩ k hk hcc ⟨hF2, h9, hgo⟩ hK
  try dsimp only at hcc hF2 h9 hgo hK
  subst hcc
  unfold w9_shortOf_F15 w9_shortOf_d15
  try dsimp only
  refine ⟨fun c3 => ?_, fun q2 => ?_⟩
  rotate_left
  · have hlt := nI_go (N := 3) (by decide) hk q2
    refine ⟨vp_in_nI hlt (by decide), ?_⟩
    rw [rA_n _ _ (by omega), h9, hA1.2 k hlt]
    rintro _ rfl _ rfl
    refine hK (_, _) hlt (nI_1 k) ⟨fr_tr hF2 (fr_sA (by decide)), ?_, fun j hj => ?_⟩
    · show aI (sA S2 24 (nI k) _) 9 = _
      rw [rd_sn _ (by decide)]; exact h9
    · show aI (sA S2 24 (nI k) _) 24 j = _
      rw [rd_A, nI_clamp (by omega)]
      by_cases e : j = k
      · rw [e, pk_us]
      · rw [pk_un e]; exact hgo j (by omega)
  have ek := nI_end (N := 3) (by decide) hk c3
  subst ek
  have hB2 : BoxN S2 b d := boxN_fr hF2 (by decide) hB
  refine s9_goTo hb S2 hB2 (by omega) _ (fun S3 s3 l3 hs3 hl3 el3 hF3 hA3 => ?_)
  obtain ⟨rfl, rfl⟩ := pre_inj hlp hl3 el3
  refine s9_setFrame (t := 0) hs3 (by decide) S3 hA3.1 _ (fun S4 hF4 h10 h11 => ?_)
  have h8 : fI S4 8 = nI sp := (hF4 8 (by decide)).1.trans hA3.1
  have h49 : aI S4 9 = aI S3 9 := (hF4 9 (by decide)).2.2.1
  have hfo := frm_O hs3 (show 0 < 4 by decide)
  rintro _ rfl _ rfl _ rfl _ rfl _ rfl _ rfl
  have f10 : fI (sA S4 17 (0 : Int32) (fI S4 8)) 10 = fI S4 10 := rfl
  have f11 : fI (sA (sA S4 17 (0 : Int32) (fI S4 8)) 18 (0 : Int32) (fI (sA S4 17 (0 : Int32) (fI S4 8)) 10)) 11 = fI S4 11 := rfl
  rw [f11, f10, h8, h10, h11]
  generalize (frm sp 0).1 = r0 at hfo h10 ⊢
  generalize (frm sp 0).2 = u0 at hfo h11 ⊢
  have hF5 : Fr [8, 9, 10, 11, 17, 18, 19, 20, 21, 22, 23, 24] S (sA (sA (sA (sA (sA (sA S4 17 (0 : Int32) (nI sp)) 18 (0 : Int32) (nI r0)) 19 (0 : Int32) (nI u0)) 21 (0 : Int32) (0 : Int32)) 22 (0 : Int32) (0 : Int32)) 23 (0 : Int32) (-1 : Int32)) := fr_tr (fr_mono hF2 (by decide)) (fr_tr (fr_mono hF3 (by decide)) (fr_tr (fr_mono hF4 (by decide)) (fr_tr (fr_tr (fr_tr (fr_tr (fr_tr (fr_sA (by decide)) (fr_sA (by decide))) (fr_sA (by decide))) (fr_sA (by decide))) (fr_sA (by decide))) (fr_sA (by decide)))))
  have hF45 : Fr [17, 18, 19, 21, 22, 23] S4 (sA (sA (sA (sA (sA (sA S4 17 (0 : Int32) (nI sp)) 18 (0 : Int32) (nI r0)) 19 (0 : Int32) (nI u0)) 21 (0 : Int32) (0 : Int32)) 22 (0 : Int32) (0 : Int32)) 23 (0 : Int32) (-1 : Int32)) := fr_tr (fr_tr (fr_tr (fr_tr (fr_tr (fr_sA (by decide)) (fr_sA (by decide))) (fr_sA (by decide))) (fr_sA (by decide))) (fr_sA (by decide))) (fr_sA (by decide))
  have k17 : aI (sA (sA (sA (sA (sA (sA S4 17 (0 : Int32) (nI sp)) 18 (0 : Int32) (nI r0)) 19 (0 : Int32) (nI u0)) 21 (0 : Int32) (0 : Int32)) 22 (0 : Int32) (0 : Int32)) 23 (0 : Int32) (-1 : Int32)) 17 0 = nI sp := by
    rw [rd_sn _ (by decide), rd_sn _ (by decide), rd_sn _ (by decide), rd_sn _ (by decide), rd_sn _ (by decide), rd_A]
    exact pk_us
  have k18 : aI (sA (sA (sA (sA (sA (sA S4 17 (0 : Int32) (nI sp)) 18 (0 : Int32) (nI r0)) 19 (0 : Int32) (nI u0)) 21 (0 : Int32) (0 : Int32)) 22 (0 : Int32) (0 : Int32)) 23 (0 : Int32) (-1 : Int32)) 18 0 = nI r0 := by
    rw [rd_sn _ (by decide), rd_sn _ (by decide), rd_sn _ (by decide), rd_sn _ (by decide), rd_A]
    exact pk_us
  have k19 : aI (sA (sA (sA (sA (sA (sA S4 17 (0 : Int32) (nI sp)) 18 (0 : Int32) (nI r0)) 19 (0 : Int32) (nI u0)) 21 (0 : Int32) (0 : Int32)) 22 (0 : Int32) (0 : Int32)) 23 (0 : Int32) (-1 : Int32)) 19 0 = nI u0 := by
    rw [rd_sn _ (by decide), rd_sn _ (by decide), rd_sn _ (by decide), rd_A]
    exact pk_us
  have k21 : aI (sA (sA (sA (sA (sA (sA S4 17 (0 : Int32) (nI sp)) 18 (0 : Int32) (nI r0)) 19 (0 : Int32) (nI u0)) 21 (0 : Int32) (0 : Int32)) 22 (0 : Int32) (0 : Int32)) 23 (0 : Int32) (-1 : Int32)) 21 0 = 0 := by
    rw [rd_sn _ (by decide), rd_sn _ (by decide), rd_A]
    exact pk_us
  have k22 : aI (sA (sA (sA (sA (sA (sA S4 17 (0 : Int32) (nI sp)) 18 (0 : Int32) (nI r0)) 19 (0 : Int32) (nI u0)) 21 (0 : Int32) (0 : Int32)) 22 (0 : Int32) (0 : Int32)) 23 (0 : Int32) (-1 : Int32)) 22 0 = 0 := by
    rw [rd_sn _ (by decide), rd_A]
    exact pk_us
  have k23 : aI (sA (sA (sA (sA (sA (sA S4 17 (0 : Int32) (nI sp)) 18 (0 : Int32) (nI r0)) 19 (0 : Int32) (nI u0)) 21 (0 : Int32) (0 : Int32)) 22 (0 : Int32) (0 : Int32)) 23 (0 : Int32) (-1 : Int32)) 23 0 = -1 := by
    rw [rd_A]
    exact pk_us
  generalize sA (sA (sA (sA (sA (sA S4 17 (0 : Int32) (nI sp)) 18 (0 : Int32) (nI r0)) 19 (0 : Int32) (nI u0)) 21 (0 : Int32) (0 : Int32)) 22 (0 : Int32) (0 : Int32)) 23 (0 : Int32) (-1 : Int32) = S5 at hF5 hF45 k17 k18 k19 k21 k22 k23
  have k9 : ∀ j, j < 3 → aI S5 9 j = nI (posOf d sp lp' j) := fun j hj => by rw [(hF45 9 (by decide)).2.2.1, h49]; exact hA3.2 j hj
  have k24 : ∀ j, j < 3 → aI S5 24 j = nI (posOf d sq lq j) := fun j hj => by rw [(hF45 24 (by decide)).2.2.1, (hF4 24 (by decide)).2.2.1, (hF3 24 (by decide)).2.2.1]; exact hgo j hj
  have k8 : fI S5 8 = nI sp := (hF45 8 (by decide)).1.trans h8
  unfold w9_shortOf_b106
  refine lp_up 3 (fun z => z.1) (fun k z => Fr [20] S5 z.2 ∧ ∀ j, j < k → aI z.2 20 j = nI (posOf d sp lp' j)) (by decide) ?_ (Nat.zero_le _) (rfl : (0 : Int32) = nI 0) (by exact ⟨fr_rf, fun j hj => absurd hj (Nat.not_lt_zero j)⟩)
  rintro K2 ⟨y, S6⟩ k2 hk2 hcc ⟨hF6, h20⟩ hK2
  try dsimp only at hcc hF6 h20 hK2
  subst hcc
  unfold w9_shortOf_F106 w9_shortOf_d106
  try dsimp only
  refine ⟨fun c3 => ?_, fun q2 => ?_⟩
  rotate_left
  · have hlt := nI_go (N := 3) (by decide) hk2 q2
    refine ⟨vp_in_nI hlt (by decide), vp_in_nI (by omega) (by decide), ?_⟩
    rw [rA_n _ _ (by omega), (hF6 9 (by decide)).2.2.1, k9 k2 hlt]
    rintro _ rfl _ rfl
    refine hK2 (_, _) hlt (nI_1 k2) ⟨fr_tr hF6 (fr_sA (by decide)), fun j hj => ?_⟩
    show aI (sA S6 20 (nI k2) _) 20 j = _
    rw [rd_A, nI_clamp (by omega)]
    by_cases e : j = k2
    · rw [e, pk_us]
    · rw [pk_un e]; exact h20 j (by omega)
  have ek := nI_end (N := 3) (by decide) hk2 c3
  subst ek
  have g := fun k hk => (hF6 k hk).2.2.1
  have hpb := posB hsp hd hlp
  have hqb := posB hsq hd hlq
  have hop := posOf_ok hsp (fun j hj => (hd j hj).1) hlp
  have hoq := posOf_ok hsq (fun j hj => (hd j hj).1) hlq
  have hPs : nI (posOf d sp lp' (sp / 2)) = enD d sp := by
    unfold enD
    rw [hop.2]
  have hQs : nI (posOf d sq lq (sq / 2)) = enD d sq := by
    unfold enD
    rw [hoq.2]
  have hUq : ∀ suf, SP (sp :: suf) → Ls (sp :: suf) sq → Uq d (fun j => nI (posOf d sq lq j)) (sp :: suf) (sp / 2) = enD d sp := by
    intro suf hs hls
    cases suf with
    | nil =>
      have e := ls_in (m := []) (t := sp) hls
      show nI (posOf d sq lq (sp / 2)) = enD d sp
      rw [e]
      exact hQs
    | cons t r =>
      show uf d t sp (Uq d _ (t :: r)) (sp / 2) = enD d sp
      have hne : ¬ sp / 2 = t / 2 := hs.2.1.1
      unfold uf
      rw [if_neg hne, if_pos rfl]
  have hroot : ∀ suf, SP (sp :: suf) → Ls (sp :: suf) sq → gv (aI S6 21 0) (aI S6 22 0) r0 u0 (fun j => aI S6 20 (3 * 0 + j)) (Uq d (fun j => nI (posOf d sq lq j)) (sp :: suf)) = VL d (fun j => nI (posOf d sp lp' j)) (fun j => nI (posOf d sq lq j)) (sp :: suf) := by
    intro suf hs hls
    rw [g 21 (by decide), g 22 (by decide), k21, k22]
    have hr6 := hfo.1
    have hu6 := hfo.2.1
    have e : ∀ j, j < 3 → aI S6 20 (3 * 0 + j) = nI (posOf d sp lp' j) := fun j hj => by rw [show 3 * 0 + j = j by omega]; exact h20 j hj
    refine (gv_cong (e _ (by omega)) (e _ (by omega)) rfl rfl).trans (gv_0 hsp hfo (fun j => nI (posOf d sp lp' j)) _ ?_)
    exact (hUq suf hs hls).trans hPs.symm
  have hr6 := hfo.1
  have hu6 := hfo.2.1
  have hSP1 : SP [sp] := ⟨nd_1 sp, trivial, fun x hx => by rw [List.mem_singleton] at hx; rw [hx]; exact hsp, len_1 sp⟩
  have hR0 : Rq d (fun j => nI (posOf d sp lp' j)) (fun j => nI (posOf d sq lq j)) sq (fun _ => sp) (fun _ => r0) (fun _ => u0) S6 0 := by
    refine ⟨hsp, by rw [g 17 (by decide)]; exact k17, by rw [g 18 (by decide)]; exact k18, by rw [g 19 (by decide)]; exact k19, hfo, hSP1, ?_, fun suf hs hz => hroot suf hs hz⟩
    show aI S6 20 (3 * 0 + sp / 2) = enD d sp
    rw [show 3 * 0 + sp / 2 = sp / 2 by omega, h20 _ (by omega)]
    exact hPs
  have hB6 : BoxN S6 b d := boxN_fr (fr_tr hF5 (fr_mono hF6 (by decide))) (by decide) hB
  have hv6 : aI S6 23 0 = -1 := by rw [g 23 (by decide)]; exact k23
  have h246 : ∀ j, j < 3 → aI S6 24 j = nI (posOf d sq lq j) := fun j hj => by rw [g 24 (by decide)]; exact k24 j hj
  have hend : ∀ v S', Fr [8, 10, 11, 17, 18, 19, 20, 21, 22, 23] S6 S' → Mn d (fun j => nI (posOf d sp lp' j)) (fun j => nI (posOf d sq lq j)) sp sq v → Q v S' := fun v S' hF hm => h v S' (fr_tr hF5 (fr_tr (fr_mono hF6 (by decide)) (fr_mono hF (by decide)))) hm
  rw [show fI S6 8 = nI sp from (hF6 8 (by decide)).1.trans k8]
  unfold w9_shortOf_b151
  refine ⟨fun c => x9_shortLoop (-9) hb S6 hB6 hpb hqb hsp hsq r0 u0 hR0 hv6 h246 (Or.inr ⟨fun e => c (by rw [e]), rfl⟩) Q hend, fun c => ?_⟩
  have e : sp = sq := (nI_eq (by omega) (by omega)).mp c
  refine x9_farNow (L := 0) (by decide) hr6 hu6 S6 hR0.2.2.1 hR0.2.2.2.1 _ ?_
  have hz : Ls [sp] sq := ⟨[], by rw [e]; rfl⟩
  have h1 := hroot [] hSP1 hz
  refine x9_shortLoop _ hb S6 hB6 hpb hqb hsp hsq r0 u0 hR0 hv6 h246 (Or.inl ⟨e, ?_⟩) Q hend
  rw [← h1]
  exact gv_cong rfl rfl (h246 _ (by omega)) (h246 _ (by omega))

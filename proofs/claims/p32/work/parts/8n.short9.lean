/-! ===== pure: shortest ways of the reference ===== -/
theorem ix_3 (L j : Nat) : (3 : Int32) * nI L + nI j = nI (3 * L + j) := by
  rw [show (3 : Int32) = nI 3 from rfl, pk_mul, nI_add]
theorem t9_along {L r : Nat} (hL : L < 6) (hr : r < 6) (S : MS) (Q : Int32 → Prop) (h : ∀ v, Q v) : w9_along (nI L) (nI r) S Q := by
  unfold w9_along
  rw [show nI r / (2 : Int32) = nI (r / 2) from pk_div (by omega) (by decide) (by decide), ix_3]
  exact s9_sgn hr _ ⟨vp_in_nI (by omega) (by decide), vp_in_nI (by omega) (by decide), h _⟩
theorem t9_farNow {L : Nat} (hL : L < 6) (S : MS) (hr : ∃ r, r < 6 ∧ aI S 18 L = nI r) (hu : ∃ u, u < 6 ∧ aI S 19 L = nI u) (Q : Int32 → Prop) (h : ∀ v, Q v) : w9_farNow (nI L) S Q := by
  obtain ⟨r, hr, er⟩ := hr
  obtain ⟨u, hu, eu⟩ := hu
  unfold w9_farNow
  rw [rA_n S 18 (by omega), rA_n S 19 (by omega), er, eu]
  refine ⟨vp_in_nI hL (by decide), t9_along hL hr S _ (fun v => ?_)⟩
  rintro _ rfl
  refine t9_along hL hu S _ (fun v2 => ?_)
  rintro _ rfl
  exact h _
/-- the row of a level: a side, two directions -/
def Rw (S : MS) (l : Nat) : Prop := (∃ s, s < 6 ∧ aI S 17 l = nI s) ∧ (∃ r, r < 6 ∧ aI S 18 l = nI r) ∧ (∃ u, u < 6 ∧ aI S 19 l = nI u)
theorem Rw_eq {S S' : MS} {l : Nat} (h : Rw S l) (e1 : aI S' 17 l = aI S 17 l) (e2 : aI S' 18 l = aI S 18 l) (e3 : aI S' 19 l = aI S 19 l) : Rw S' l := by
  unfold Rw
  rw [e1, e2, e3]
  exact h
theorem Rw_fr {ks : List Nat} {S S' : MS} {l : Nat} (h : Rw S l) (hF : Fr ks S S') (h17 : 17 ∉ ks) (h18 : 18 ∉ ks) (h19 : 19 ∉ ks) : Rw S' l :=
  Rw_eq h (by rw [(hF 17 h17).2.2.1]) (by rw [(hF 18 h18).2.2.1]) (by rw [(hF 19 h19).2.2.1])
theorem t9_unfolds {b L w : Nat} {d : Nat → Nat} (hb : b < 4) (hL : L < 5) (hw : w < 4) (S : MS) (hB : BoxN S b d) (hR : ∀ l, l ≤ L → Rw S l) (Q : Int32 → MS → Prop) (h0 : ∀ S', Fr [8, 10, 11] S S' → Q 0 S') (h1 : ∀ S', Fr [8, 10, 11, 17, 18, 19, 20, 21, 22] S S' → (∀ l, l ≤ L + 1 → Rw S' l) → Q 1 S') : w9_unfolds (nI b) (nI L) (nI w) S Q := by
  obtain ⟨⟨s, hs, es⟩, ⟨r, hr, er⟩, ⟨u, hu, eu⟩⟩ := hR L (Nat.le_refl _)
  unfold w9_unfolds
  rw [rA_n S 17 (by omega), es]
  refine ⟨vp_in_nI (by omega) (by decide), ?_⟩
  rintro _ rfl
  rw [rA_n _ 18 (by omega), show aI (sI S 8 (nI s)) 18 L = nI r from er]
  rintro _ rfl
  rw [rA_n _ 19 (by omega), show aI (sI (sI S 8 (nI s)) 10 (nI r)) 19 L = nI u from eu]
  rintro _ rfl
  have hF1 : Fr [8, 10, 11] S (sI (sI (sI S 8 (nI s)) 10 (nI r)) 11 (nI u)) := fr_tr (fr_tr (fr_sI (by decide)) (fr_sI (by decide))) (fr_sI (by decide))
  have g8 : fI (sI (sI (sI S 8 (nI s)) 10 (nI r)) 11 (nI u)) 8 = nI s := rfl
  have g10 : fI (sI (sI (sI S 8 (nI s)) 10 (nI r)) 11 (nI u)) 10 = nI r := rfl
  have g11 : fI (sI (sI (sI S 8 (nI s)) 10 (nI r)) 11 (nI u)) 11 = nI u := rfl
  generalize sI (sI (sI S 8 (nI s)) 10 (nI r)) 11 (nI u) = S1 at hF1 g8 g10 g11
  have he : dirN r u w < 6 := by
    have hr2 := x1_ok r hr
    have hu2 := x1_ok u hu
    exact wy_4 (P := fun w => dirN r u w < 6) hr hu hr2.1 hu2.1 hw
  refine s9_way hw S1 g10 g11 _ ?_
  generalize dirN r u w = e at he
  rw [x1_I]
  rintro _ rfl
  unfold w9_unfolds_b46
  refine lp_up (L + 1) (fun z => z) (fun _ _ => True) (by omega) ?_ (Nat.zero_le _) (rfl : (0 : Int32) = nI 0) trivial
  rintro K y k hk hcc - hK
  try dsimp only at hcc hK
  subst hcc
  unfold w9_unfolds_F46 w9_unfolds_d46
  try dsimp only
  refine ⟨fun q => ?_, fun q => ⟨?_, ?_, fun _ => h0 _ hF1⟩⟩
  rotate_left
  · have : ¬ L < k := fun c => q (nI_lt c (by omega))
    exact vp_in_nI (by omega) (by decide)
  · rintro _ _ rfl
    have : ¬ L < k := fun c => q (nI_lt c (by omega))
    exact hK _ (by omega) (nI_1 k) trivial
  have hB1 : BoxN S1 b d := boxN_fr hF1 (by decide) hB
  rw [show nI e / (2 : Int32) = nI (e / 2) from pk_div (by omega) (by decide) (by decide)]
  rintro _ rfl
  have k102 : ∀ t0, w9_unfolds_b102 (nI L) (nI w) (nI e) (nI (e / 2)) t0 S1 Q := by
    intro edge
    unfold w9_unfolds_b102
    rw [ix_3]
    refine s9_sgn he _ ⟨vp_in_nI (by omega) (by decide), ?_⟩
    rintro y3 -
    unfold w9_unfolds_b129
    refine lp_up 3 (fun z => z.1) (fun k z => Fr [20] S1 z.2) (by decide) ?_ (Nat.zero_le _) (rfl : (0 : Int32) = nI 0) (by exact fr_rf)
    rintro K2 ⟨y, S2⟩ k2 hk2 hcc hF2 hK2
    try dsimp only at hcc hF2 hK2
    subst hcc
    unfold w9_unfolds_F129 w9_unfolds_d129
    try dsimp only
    refine ⟨fun _ => ⟨vp_in_nI (by omega) (by decide), ?_⟩, fun q2 => ?_⟩
    rotate_left
    · have hlt := nI_go (N := 3) (by decide) hk2 q2
      have k170 : ∀ v, w9_unfolds_b170 (fun y0 y1 => K2 (y0, y1)) (nI L) (nI w) (nI e) (nI (e / 2)) edge y3 (nI k2) (((3 : Int32) * nI L + (3 : Int32)) + nI k2) v S2 Q := by
        intro v
        unfold w9_unfolds_b170
        rw [show ((3 : Int32) * nI L + (3 : Int32)) = (3 : Int32) * nI L + nI 3 from rfl, ix_3, nI_add]
        refine ⟨vp_in_nI (by omega) (by decide), ?_⟩
        rintro _ rfl _ rfl
        exact hK2 (_, _) hlt (nI_1 k2) (fr_tr hF2 (fr_sA (by decide)))
      exact ⟨fun _ => ⟨by rw [ix_3]; exact vp_in_nI (by omega) (by decide), k170 _⟩, fun _ => k170 _⟩
    have hL1 : nI L + (1 : Int32) = nI (L + 1) := nI_1 L
    have k248 : ∀ (a : Int32) (c : Int32) (S3 : MS), Fr [8, 10, 11, 20, 21] S S3 → fI S3 8 = nI s → fI S3 10 = nI r → fI S3 11 = nI u → w9_unfolds_b248 (nI L) (nI w) (nI e) (nI (L + 1)) a c S3 Q := by
      intro a c S3 hF3 j8 j10 j11
      unfold w9_unfolds_b248
      rw [hL1]
      refine ⟨vp_in_nI (by omega) (by decide), ?_⟩
      rintro _ rfl
      rw [show fI (sA S3 22 (nI (L + 1)) (a + c)) 8 = nI s from j8, x1_I]
      refine s9_bend hw _ _ (fun S4 hF4 i8 i10 i11 => ⟨vp_in_nI (by omega) (by decide), ?_⟩)
      rintro _ rfl _ rfl _ rfl
      have hxe := x1_ok e he
      have hxs := x1_ok s hs
      have hxx := x1_ok _ hxs.1
      have r8 : ∃ s', s' < 6 ∧ fI S4 8 = nI s' := ⟨_, hxe.1, i8⟩
      have r10 : ∃ r', r' < 6 ∧ fI S4 10 = nI r' := by
        rw [i10, show fI (sA S3 22 (nI (L + 1)) (a + c)) 10 = nI r from j10]
        split
        · exact ⟨_, hxx.1, rfl⟩
        · split
          · exact ⟨_, hxs.1, rfl⟩
          · exact ⟨_, hr, rfl⟩
      have r11 : ∃ r', r' < 6 ∧ fI S4 11 = nI r' := by
        rw [i11, show fI (sA S3 22 (nI (L + 1)) (a + c)) 11 = nI u from j11]
        split
        · exact ⟨_, hxx.1, rfl⟩
        · split
          · exact ⟨_, hxs.1, rfl⟩
          · exact ⟨_, hu, rfl⟩
      have f10 : fI (sA S4 17 (nI (L + 1)) (fI S4 8)) 10 = fI S4 10 := rfl
      have f11 : fI (sA (sA S4 17 (nI (L + 1)) (fI S4 8)) 18 (nI (L + 1)) (fI (sA S4 17 (nI (L + 1)) (fI S4 8)) 10)) 11 = fI S4 11 := rfl
      rw [f11, f10]
      generalize fI S4 8 = v8 at r8
      generalize fI S4 10 = v10 at r10
      generalize fI S4 11 = v11 at r11
      have hF5 : Fr [8, 10, 11, 20, 21, 22] S S4 := fr_tr (fr_mono hF3 (by decide)) (fr_tr (fr_sA (by decide)) (fr_mono hF4 (by decide)))
      refine h1 _ (fr_tr (fr_mono hF5 (by decide)) (fr_tr (fr_tr (fr_sA (by decide)) (fr_sA (by decide))) (fr_sA (by decide)))) (fun l hl => ?_)
      have e17 : aI (sA (sA (sA S4 17 (nI (L + 1)) v8) 18 (nI (L + 1)) v10) 19 (nI (L + 1)) v11) 17 = upd (aI S4 17) (L + 1) v8 := by
        rw [rd_sn _ (by decide), rd_sn _ (by decide), rd_A, nI_clamp (by omega)]
      have e18 : aI (sA (sA (sA S4 17 (nI (L + 1)) v8) 18 (nI (L + 1)) v10) 19 (nI (L + 1)) v11) 18 = upd (aI S4 18) (L + 1) v10 := by
        rw [rd_sn _ (by decide), rd_A, rd_sn _ (by decide), nI_clamp (by omega)]
      have e19 : aI (sA (sA (sA S4 17 (nI (L + 1)) v8) 18 (nI (L + 1)) v10) 19 (nI (L + 1)) v11) 19 = upd (aI S4 19) (L + 1) v11 := by
        rw [rd_A, rd_sn _ (by decide), rd_sn _ (by decide), nI_clamp (by omega)]
      by_cases q : l = L + 1
      · unfold Rw
        rw [e17, e18, e19, q, pk_us, pk_us, pk_us]
        exact ⟨r8, r10, r11⟩
      · refine Rw_eq (hR l (by omega)) ?_ ?_ ?_
        · rw [e17, pk_un q, (hF5 17 (by decide)).2.2.1]
        · rw [e18, pk_un q, (hF5 18 (by decide)).2.2.1]
        · rw [e19, pk_un q, (hF5 19 (by decide)).2.2.1]
    have k211 : ∀ (a : Int32) (c : Int32), w9_unfolds_b211 (nI L) (nI w) (nI e) y3 (nI (L + 1)) a c S2 Q := by
      intro a c
      unfold w9_unfolds_b211
      rw [hL1]
      refine ⟨vp_in_nI (by omega) (by decide), ?_⟩
      rintro _ rfl
      have hF3 : Fr [8, 10, 11, 20, 21] S (sA S2 21 (nI (L + 1)) (a + c)) := fr_tr (fr_mono hF1 (by decide)) (fr_tr (fr_mono hF2 (by decide)) (fr_sA (by decide)))
      have j8 : fI (sA S2 21 (nI (L + 1)) (a + c)) 8 = nI s := (hF2 8 (by decide)).1.trans g8
      have j10 : fI (sA S2 21 (nI (L + 1)) (a + c)) 10 = nI r := (hF2 10 (by decide)).1.trans g10
      have j11 : fI (sA S2 21 (nI (L + 1)) (a + c)) 11 = nI u := (hF2 11 (by decide)).1.trans g11
      exact ⟨vp_in_nI (by omega) (by decide), fun _ => ⟨fun _ => k248 _ _ _ hF3 j8 j10 j11, fun _ => k248 _ _ _ hF3 j8 j10 j11⟩, fun _ => k248 _ _ _ hF3 j8 j10 j11⟩
    rw [hL1]
    exact ⟨fun _ => ⟨fun _ => k211 _ _, fun _ => k211 _ _⟩, fun _ => k211 _ _⟩
  rw [(ix3 hb _ (by omega : e / 2 < 3)).1]
  exact ⟨fun _ => k102 _, fun _ => ⟨(ix3 hb _ (by omega)).2, k102 _⟩⟩
/-- how long a search goes on -/
def TR : Nat → Nat
  | 0 => 0
  | n + 1 => 4 * (1 + TR n) + 1
def wgt (S : MS) (l : Nat) : Nat := (4 - (aI S 23 l + 1).toNatClampNeg) * (1 + TR (6 - (l + 1))) + 1
def mu (S : MS) (x : Int32) : Nat := fb_sm (wgt S) (x + 1).toNatClampNeg

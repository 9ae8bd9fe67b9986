/-! ===== pure: shortOf, way, farthest, mean of the reference ===== -/
theorem i_pred {x : Int32} {L : Nat} (h : x + 1 = nI (L + 1)) : x = nI L := by
  have := congrArg (fun z => z - 1) h
  simp only [Int32.add_sub_cancel] at this
  rw [this]
  exact nI_pred L
theorem mu_at {S : MS} {L : Nat} (hL : L < 100) : mu S (nI L) = fb_sm (wgt S) L + wgt S L := by
  unfold mu
  rw [nI_1, nI_clamp (by omega), fb_sm_succ]
theorem wgt_eq {S S' : MS} {l : Nat} (e : aI S' 23 l = aI S 23 l) : wgt S' l = wgt S l := by unfold wgt; rw [e]
theorem wgt_v {S : MS} {l v : Nat} (hv : v < 100) (e : aI S 23 l + 1 = nI v) : wgt S l = (4 - v) * (1 + TR (6 - (l + 1))) + 1 := by unfold wgt; rw [e, nI_clamp (by omega)]
theorem m1p1 (L : Nat) : nI L + (-1) + 1 = nI L := by
  rw [Int32.add_assoc]
  exact Int32.add_zero _
set_option maxHeartbeats 2000000 in
theorem t9_shortLoop {b : Nat} {d : Nat → Nat} (last best : Int32) (hb : b < 4) (S0 S : MS) (hB : BoxN S0 b d) (hF0 : Fr [8, 9, 10, 11, 17, 18, 19, 20, 21, 22, 23, 24] S0 S) (hR : Rw S 0) (hv : aI S 23 0 = -1) (Q : Int32 → MS → Prop) (h : ∀ v S', Fr [8, 9, 10, 11, 17, 18, 19, 20, 21, 22, 23, 24] S0 S' → Q v S') : w9_shortOf_b156 (nI b) last best 0 S Q := by
  unfold w9_shortOf_b156
  refine lp_of (fun z : Int32 × Int32 × MS => Fr [8, 9, 10, 11, 17, 18, 19, 20, 21, 22, 23, 24] S0 z.2.2 ∧ ∃ m, m ≤ 6 ∧ z.2.1 + 1 = nI m ∧ ∀ l, l < m → Rw z.2.2 l ∧ ∃ v, v ≤ 4 ∧ aI z.2.2 23 l + 1 = nI v) (fun z => mu z.2.2 z.2.1) ?_ ?_
  rotate_left
  · refine ⟨hF0, 1, by decide, rfl, fun l hl => ?_⟩
    have e : l = 0 := by omega
    subst e
    refine ⟨hR, 0, by decide, ?_⟩
    show aI S 23 0 + 1 = nI 0
    rw [hv]; rfl
  clear hR hv hF0
  rintro K ⟨best, x6, S1⟩ ⟨hF, m, hm, hx, hl⟩ hK
  try dsimp only at hF hx hl hK
  unfold w9_shortOf_F156 w9_shortOf_d156
  try dsimp only
  refine ⟨fun _ => h _ _ hF, fun hneg => ?_⟩
  obtain ⟨L, rfl⟩ : ∃ L, m = L + 1 := by
    rcases Nat.eq_zero_or_pos m with q | q
    · subst q
      have hx2 : x6 = -1 := by
        have := congrArg (fun z => z - 1) hx
        simp only [Int32.add_sub_cancel] at this
        rw [this]; rfl
      rw [hx2] at hneg
      exact absurd (by decide) hneg
    · exact ⟨m - 1, by omega⟩
  have ex := i_pred hx
  subst ex
  clear hx hneg
  obtain ⟨hRL, v, hv4, ev⟩ := hl L (by omega)
  rw [rA_n S1 23 (by omega), ev]
  refine ⟨vp_in_nI (by omega) (by decide), ?_⟩
  rintro _ rfl
  have hF3 : Fr [8, 9, 10, 11, 17, 18, 19, 20, 21, 22, 23, 24] S0 (sA S1 23 (nI L) (nI v)) := fr_tr hF (fr_sA (by decide))
  have e23 : aI (sA S1 23 (nI L) (nI v)) 23 = upd (aI S1 23) L (nI v) := by rw [rd_A, nI_clamp (by omega)]
  have hrw : ∀ l, l < L + 1 → Rw (sA S1 23 (nI L) (nI v)) l := fun l hl2 => Rw_fr (ks := [23]) (hl l hl2).1 (fr_sA (by decide)) (by decide) (by decide) (by decide)
  have hS3 : aI (sA S1 23 (nI L) (nI v)) 23 L + 1 = nI (v + 1) := by rw [e23, pk_us, nI_1]
  have hlow : ∀ l, l < L → aI (sA S1 23 (nI L) (nI v)) 23 l = aI S1 23 l := fun l hl2 => by rw [e23, pk_un (by omega)]
  have h17 : rA (sA S1 23 (nI L) (nI v)) 23 (nI L) = nI v := by rw [rA_n _ _ (by omega), e23, pk_us]
  rw [h17]
  generalize sA S1 23 (nI L) (nI v) = S3 at hF3 hrw hS3 hlow
  clear e23 h17
  have hsmL : fb_sm (wgt S3) L = fb_sm (wgt S1) L := fb_sm_cong fun l hl2 => wgt_eq (hlow l hl2)
  have hmu1 := mu_at (S := S1) (L := L) (by omega)
  have hw1 := wgt_v (S := S1) (l := L) (v := v) (by omega) ev
  have hpop : w9_shortOf_b201 (fun y0 y1 y2 => K (y0, y1, y2)) (nI b) last best (nI L) S3 Q := by
    unfold w9_shortOf_b201
    rintro _ rfl
    refine hK (_, _, _) ⟨hF3, L, by omega, m1p1 L, fun l hl2 => ⟨hrw l (by omega), ?_⟩⟩ ?_
    · obtain ⟨v2, a1, a2⟩ := (hl l (by omega)).2
      refine ⟨v2, a1, ?_⟩
      show aI S3 23 l + 1 = nI v2
      rw [hlow l hl2]; exact a2
    · show mu S3 (nI L + (-1)) < mu S1 (nI L)
      unfold mu at hmu1 ⊢
      rw [m1p1, nI_clamp (by omega), hmu1, hsmL, hw1]
      omega
  refine ⟨fun _ => hpop, fun hn4 => ⟨fun _ => hpop, fun _ => ⟨fun hn5 => ?_, fun _ => hpop⟩⟩⟩
  have hv3 : v < 4 := by
    have : ¬ v = 4 := fun e => hn4 (by rw [e]; rfl)
    omega
  have hL5 : L < 5 := by
    have : ¬ L = 5 := fun e => hn5 (by rw [e]; rfl)
    omega
  have hc : ∀ c, (4 - (v + 1)) * c + c = (4 - v) * c := fun c => by
    rcases (show v = 0 ∨ v = 1 ∨ v = 2 ∨ v = 3 by omega) with rfl | rfl | rfl | rfl <;> omega
  have hcc := hc (1 + TR (6 - (L + 1)))
  refine t9_unfolds hb hL5 hv3 S3 (boxN_fr hF3 (by decide) hB) (fun l hl2 => hrw l (by omega)) _ (fun S4 hF4 => ⟨fun _ => ?_, fun c => absurd rfl c⟩) (fun S4 hF4 hR4 => ⟨fun c => absurd c (by decide), fun _ => ?_⟩)
  · have e23 := (hF4 23 (by decide)).2.2.1
    refine hK (_, _, _) ⟨fr_tr hF3 (fr_mono hF4 (by decide)), L + 1, by omega, nI_1 L, fun l hl2 => ⟨Rw_fr (hrw l hl2) hF4 (by decide) (by decide) (by decide), ?_⟩⟩ ?_
    · by_cases e : l = L
      · subst e
        refine ⟨v + 1, by omega, ?_⟩
        show aI S4 23 l + 1 = nI (v + 1)
        rw [e23]; exact hS3
      · obtain ⟨v2, a1, a2⟩ := (hl l hl2).2
        refine ⟨v2, a1, ?_⟩
        show aI S4 23 l + 1 = nI v2
        rw [e23, hlow l (by omega)]; exact a2
    · show mu S4 (nI L) < mu S1 (nI L)
      have hsm4 : fb_sm (wgt S4) L = fb_sm (wgt S1) L := by
        rw [← hsmL]
        exact fb_sm_cong fun l hl2 => wgt_eq (by rw [e23])
      rw [mu_at (S := S4) (L := L) (by omega), hmu1, hsm4, hw1, wgt_v (S := S4) (l := L) (v := v + 1) (by omega) (by rw [e23]; exact hS3)]
      omega
  · rintro _ rfl
    rw [nI_1]
    refine ⟨vp_in_nI (by omega) (by decide), ?_⟩
    rintro _ rfl
    have e23 := (hF4 23 (by decide)).2.2.1
    have f23 : aI (sA S4 23 (nI (L + 1)) (-1)) 23 = upd (aI S3 23) (L + 1) (-1) := by rw [rd_A, nI_clamp (by omega), e23]
    have hF5 : Fr [8, 9, 10, 11, 17, 18, 19, 20, 21, 22, 23, 24] S0 (sA S4 23 (nI (L + 1)) (-1)) := fr_tr hF3 (fr_tr (fr_mono hF4 (by decide)) (fr_sA (by decide)))
    have hrw5 : ∀ l, l < L + 2 → Rw (sA S4 23 (nI (L + 1)) (-1)) l := fun l hl2 => Rw_fr (ks := [23]) (hR4 l (by omega)) (fr_sA (by decide)) (by decide) (by decide) (by decide)
    generalize sA S4 23 (nI (L + 1)) (-1) = S5 at f23 hF5 hrw5
    have hpush : ∀ v5, K (v5, nI (L + 1), S5) := by
      intro v5
      refine hK (_, _, _) ⟨hF5, L + 2, by omega, nI_1 (L + 1), fun l hl2 => ⟨hrw5 l hl2, ?_⟩⟩ ?_
      · show ∃ v, v ≤ 4 ∧ aI S5 23 l + 1 = nI v
        by_cases e : l = L + 1
        · exact ⟨0, by decide, by rw [f23, e, pk_us]; rfl⟩
        · by_cases e2 : l = L
          · exact ⟨v + 1, by omega, by rw [f23, pk_un e, e2]; exact hS3⟩
          · obtain ⟨v2, a1, a2⟩ := (hl l (by omega)).2
            exact ⟨v2, a1, by rw [f23, pk_un e, hlow l (by omega)]; exact a2⟩
      · show mu S5 (nI (L + 1)) < mu S1 (nI L)
        have hsm5 : fb_sm (wgt S5) L = fb_sm (wgt S1) L := by
          rw [← hsmL]
          exact fb_sm_cong fun l hl2 => wgt_eq (by rw [f23, pk_un (by omega)])
        have hwL : wgt S5 L = (4 - (v + 1)) * (1 + TR (6 - (L + 1))) + 1 := wgt_v (by omega) (by rw [f23, pk_un (by omega)]; exact hS3)
        have hwL1 : wgt S5 (L + 1) = (4 - 0) * (1 + TR (6 - (L + 1 + 1))) + 1 := wgt_v (v := 0) (by omega) (by rw [f23, pk_us]; rfl)
        have hT : TR (6 - (L + 1)) = 4 * (1 + TR (6 - (L + 1 + 1))) + 1 := by
          rw [show 6 - (L + 1) = (6 - (L + 1 + 1)) + 1 by omega]
          rfl
        rw [mu_at (S := S5) (L := L + 1) (by omega), hmu1, fb_sm_succ, hsm5, hw1, hwL, hwL1]
        omega
    refine ⟨fun _ => hpush _, fun _ => t9_farNow (by omega) S5 (hrw5 (L + 1) (by omega)).2.1 (hrw5 (L + 1) (by omega)).2.2 _ (fun far => ?_)⟩
    unfold w9_shortOf_b267 w9_shortOf_b274
    exact ⟨fun _ => hpush _, fun _ => ⟨fun _ => hpush _, fun _ => hpush _⟩⟩
theorem t9_shortOf {b p q : Nat} {d : Nat → Nat} (hb : b < 4) (S : MS) (hB : BoxN S b d) (hp : p < tot d) (hq : q < tot d) (Q : Int32 → MS → Prop) (h : ∀ v S', Fr [8, 9, 10, 11, 17, 18, 19, 20, 21, 22, 23, 24] S S' → Q v S') : w9_shortOf (nI b) (nI p) (nI q) S Q := by
  unfold w9_shortOf
  refine s9_goTo hb S hB hq _ (fun S1 s l hs _ _ hF1 hA1 => ?_)
  rw [hA1.1]
  rintro _ rfl
  unfold w9_shortOf_b15
  refine lp_up 3 (fun z => z.1) (fun k z => Fr [8, 9, 24] S z.2) (by decide) ?_ (Nat.zero_le _) (rfl : (0 : Int32) = nI 0) (by exact fr_mono hF1 (by decide))
  rintro K ⟨y, S2⟩ k hk hcc hF2 hK
  try dsimp only at hcc hF2 hK
  subst hcc
  unfold w9_shortOf_F15 w9_shortOf_d15
  try dsimp only
  refine ⟨fun _ => ?_, fun q2 => ?_⟩
  rotate_left
  · have hlt := nI_go (N := 3) (by decide) hk q2
    refine ⟨vp_in_nI hlt (by decide), ?_⟩
    rintro _ rfl _ rfl
    exact hK (_, _) hlt (nI_1 k) (fr_tr hF2 (fr_sA (by decide)))
  have hB2 : BoxN S2 b d := boxN_fr hF2 (by decide) hB
  refine s9_goTo hb S2 hB2 hp _ (fun S3 s3 l3 hs3 _ _ hF3 hA3 => ?_)
  refine s9_setFrame (t := 0) hs3 (by decide) S3 hA3.1 _ (fun S4 hF4 h10 h11 => ?_)
  have h8 : fI S4 8 = nI s3 := (hF4 8 (by decide)).1.trans hA3.1
  have hfo := frm_O hs3 (show 0 < 4 by decide)
  rintro _ rfl _ rfl _ rfl _ rfl _ rfl _ rfl
  have f10 : fI (sA S4 17 (0 : Int32) (fI S4 8)) 10 = fI S4 10 := rfl
  have f11 : fI (sA (sA S4 17 (0 : Int32) (fI S4 8)) 18 (0 : Int32) (fI (sA S4 17 (0 : Int32) (fI S4 8)) 10)) 11 = fI S4 11 := rfl
  rw [f11, f10, h8, h10, h11]
  have hF5 : Fr [8, 9, 10, 11, 17, 18, 19, 20, 21, 22, 23, 24] S (sA (sA (sA (sA (sA (sA S4 17 (0 : Int32) (nI s3)) 18 (0 : Int32) (nI (frm s3 0).1)) 19 (0 : Int32) (nI (frm s3 0).2)) 21 (0 : Int32) (0 : Int32)) 22 (0 : Int32) (0 : Int32)) 23 (0 : Int32) (-1 : Int32)) := fr_tr (fr_mono hF2 (by decide)) (fr_tr (fr_mono hF3 (by decide)) (fr_tr (fr_mono hF4 (by decide)) (fr_tr (fr_tr (fr_tr (fr_tr (fr_tr (fr_sA (by decide)) (fr_sA (by decide))) (fr_sA (by decide))) (fr_sA (by decide))) (fr_sA (by decide))) (fr_sA (by decide)))))
  have hR : Rw (sA (sA (sA (sA (sA (sA S4 17 (0 : Int32) (nI s3)) 18 (0 : Int32) (nI (frm s3 0).1)) 19 (0 : Int32) (nI (frm s3 0).2)) 21 (0 : Int32) (0 : Int32)) 22 (0 : Int32) (0 : Int32)) 23 (0 : Int32) (-1 : Int32)) 0 := by
    refine ⟨⟨s3, hs3, ?_⟩, ⟨_, hfo.1, ?_⟩, ⟨_, hfo.2.1, ?_⟩⟩
    · rw [rd_sn _ (by decide), rd_sn _ (by decide), rd_sn _ (by decide), rd_sn _ (by decide), rd_sn _ (by decide), rd_A]
      exact pk_us
    · rw [rd_sn _ (by decide), rd_sn _ (by decide), rd_sn _ (by decide), rd_sn _ (by decide), rd_A]
      exact pk_us
    · rw [rd_sn _ (by decide), rd_sn _ (by decide), rd_sn _ (by decide), rd_A]
      exact pk_us
  have hv : aI (sA (sA (sA (sA (sA (sA S4 17 (0 : Int32) (nI s3)) 18 (0 : Int32) (nI (frm s3 0).1)) 19 (0 : Int32) (nI (frm s3 0).2)) 21 (0 : Int32) (0 : Int32)) 22 (0 : Int32) (0 : Int32)) 23 (0 : Int32) (-1 : Int32)) 23 0 = -1 := by
    rw [rd_A]
    exact pk_us
  generalize sA (sA (sA (sA (sA (sA S4 17 (0 : Int32) (nI s3)) 18 (0 : Int32) (nI (frm s3 0).1)) 19 (0 : Int32) (nI (frm s3 0).2)) 21 (0 : Int32) (0 : Int32)) 22 (0 : Int32) (0 : Int32)) 23 (0 : Int32) (-1 : Int32) = S5 at hF5 hR hv
  unfold w9_shortOf_b106
  refine lp_up 3 (fun z => z.1) (fun k z => Fr [20] S5 z.2) (by decide) ?_ (Nat.zero_le _) (rfl : (0 : Int32) = nI 0) (by exact fr_rf)
  rintro K2 ⟨y, S6⟩ k2 hk2 hcc hF6 hK2
  try dsimp only at hcc hF6 hK2
  subst hcc
  unfold w9_shortOf_F106 w9_shortOf_d106
  try dsimp only
  refine ⟨fun _ => ?_, fun q2 => ?_⟩
  rotate_left
  · have hlt := nI_go (N := 3) (by decide) hk2 q2
    refine ⟨vp_in_nI hlt (by decide), vp_in_nI (by omega) (by decide), ?_⟩
    rintro _ rfl _ rfl
    exact hK2 (_, _) hlt (nI_1 k2) (fr_tr hF6 (fr_sA (by decide)))
  have hR6 : Rw S6 0 := Rw_fr hR hF6 (by decide) (by decide) (by decide)
  have k151 : ∀ v, w9_shortOf_b151 (nI b) (nI s) v S6 Q := by
    intro v
    unfold w9_shortOf_b151
    exact t9_shortLoop _ _ hb S S6 hB (fr_tr hF5 (fr_mono hF6 (by decide))) hR6 (by rw [(hF6 23 (by decide)).2.2.1]; exact hv) Q h
  exact ⟨fun _ => k151 _, fun _ => t9_farNow (L := 0) (by decide) S6 hR6.2.1 hR6.2.2 _ (fun v => k151 v)⟩
theorem s9_askedCells (x p q : Int32) (S : MS) (Q : Int32 → MS → Prop) (hI : Inv9 S) (h : ∀ r S', r.toInt < 0 → G9 S S' → Q r S') (hk : ∀ b d pn qn, b < 4 → x = nI b → BoxN S b d → pn < tot d → p = nI pn → qn < tot d → q = nI qn → Q 0 S) : w9_askedCells x p q S Q := by
  have k39 : w9_askedCells_b39 S Q := by
    unfold w9_askedCells_b39 w9_askedCells_b44
    exact s9_meets _ _ _ (by unfold vp_in; decide) (h _ _ (by decide) (g9_fr (ks := [0, 1]) hI (fr_tr (fr_sI (by decide)) (fr_sA (by decide))) (by decide) (by decide) (by decide) (by decide)))
  unfold w9_askedCells w9_askedCells_b44
  refine s9_lookedBox _ _ _ (fun _ => ⟨fun c => absurd c (by decide), fun _ => h _ _ (by decide) (g9_rf hI)⟩) (fun _ _ _ _ S' hF => ⟨fun c => absurd c (by decide), fun _ => h _ _ (by decide) (g9_fr hI hF (by decide) (by decide) (by decide) (by decide))⟩) (fun b hb e hd => ⟨fun _ => ?_, fun c => absurd r0_pos c⟩)
  subst e
  obtain ⟨d, hB⟩ := box_of hI hb hd
  exact cell_in hb hB p _ (fun pn hp e1 => ⟨fun c => absurd c (by decide), fun _ => cell_in hb hB q _ (fun qn hq e2 => ⟨fun c => absurd c (by decide), fun _ => hk b d pn qn hb rfl hB hp e1 hq e2⟩) ⟨fun _ => k39, fun c => absurd rfl c⟩⟩) ⟨fun _ => k39, fun c => absurd rfl c⟩
theorem g9_sh {S S' : MS} (hI : Inv9 S) (hF : Fr [2, 8, 9, 10, 11, 17, 18, 19, 20, 21, 22, 23, 24] S S') : G9 S S' := g9_fr hI hF (by decide) (by decide) (by decide) (by decide)
theorem t9_way (x p q : Int32) (S : MS) (Q : Int32 → MS → Prop) (hI : Inv9 S) (h : ∀ r S', G9 S S' → Q r S') : w9_way x p q S Q := by
  have e0 : (0 : Int32).toInt = 0 := rfl
  unfold w9_way w9_way_b26
  refine s9_askedCells _ _ _ _ _ hI (fun r S' hr hG => ⟨fun c => ?_, fun _ => h _ _ hG⟩) (fun b d pn qn hb e hB hp e1 hq e2 => ⟨fun _ => ?_, fun c => absurd r0_pos c⟩)
  · rw [pi_le] at c; omega
  subst e e1 e2
  exact t9_shortOf hb S hB hp hq _ (fun v S' hF => h _ _ (g9_sh hI (fr_mono hF (by decide))))
theorem t9_farthest (x p : Int32) (S : MS) (Q : Int32 → MS → Prop) (hI : Inv9 S) (h : ∀ r S', G9 S S' → Q r S') : w9_farthest x p S Q := by
  have e0 : (0 : Int32).toInt = 0 := rfl
  unfold w9_farthest
  refine s9_askedCells _ _ _ _ _ hI (fun r S' hr hG => ⟨fun c => ?_, fun _ => h _ _ hG⟩) (fun b d pn qn hb e hB hp e1 hq e2 => ⟨fun _ => ?_, fun c => absurd r0_pos c⟩)
  · rw [pi_le] at c; omega
  subst e e1
  have h24 := hB.2
  unfold w9_farthest_b23
  refine lp_up (tot d) (fun z => z.2.2.1) (fun k z => Fr [2, 8, 9, 10, 11, 17, 18, 19, 20, 21, 22, 23, 24] S z.2.2.2) (by omega) ?_ (Nat.zero_le _) (rfl : (0 : Int32) = nI 0) (by exact fr_rf)
  rintro K ⟨a1, a2, y, S1⟩ k hk hcc hF hK
  try dsimp only at hcc hF hK
  subst hcc
  have hB1 : BoxN S1 b d := boxN_fr hF (by decide) hB
  unfold w9_farthest_F23 w9_farthest_d23 w9_ask
  try dsimp only
  refine s9_cells hb _ _ ?_
  rw [cls_N hB1]
  refine ⟨fun _ => ?_, fun c => ?_⟩
  · rintro _ rfl
    exact h _ _ (g9_sh hI (fr_tr hF (fr_sJ (by decide))))
  have hlt := nI_go (by omega) hk c
  refine t9_shortOf hb S1 hB1 hp hlt _ (fun v S2 hF2 => ?_)
  have hF3 : Fr [2, 8, 9, 10, 11, 17, 18, 19, 20, 21, 22, 23, 24] S S2 := fr_tr hF (fr_mono hF2 (by decide))
  unfold w9_farthest_b57 w9_farthest_b73
  refine ⟨fun _ => ⟨fun _ => ?_, fun _ => ?_⟩, fun _ => ⟨fun _ => ?_, fun _ => ?_⟩⟩ <;> (rintro _ rfl; exact hK (_, _, _, _) hlt (nI_1 k) hF3)
theorem t9_mean (x p : Int32) (S : MS) (Q : Int32 → MS → Prop) (hI : Inv9 S) (h : ∀ r S', G9 S S' → Q r S') : w9_mean x p S Q := by
  have e0 : (0 : Int32).toInt = 0 := rfl
  unfold w9_mean
  refine s9_askedCells _ _ _ _ _ hI (fun r S' hr hG => ⟨fun c => ?_, fun _ => h _ _ hG⟩) (fun b d pn qn hb e hB hp e1 hq e2 => ⟨fun _ => ?_, fun c => absurd r0_pos c⟩)
  · rw [pi_le] at c; omega
  subst e e1
  have h24 := hB.2
  have h6 : 6 ≤ tot d := by
    have a0 := (hB.1 0 (by decide)).1
    have a1 := (hB.1 1 (by decide)).1
    have a2 := (hB.1 2 (by decide)).1
    have b1 := Nat.mul_le_mul a0 a1
    have b2 := Nat.mul_le_mul a1 a2
    have b3 := Nat.mul_le_mul a2 a0
    unfold tot
    omega
  unfold w9_mean_b20
  refine lp_up (tot d) (fun z => z.2.1) (fun k z => Fr [2, 8, 9, 10, 11, 17, 18, 19, 20, 21, 22, 23, 24] S z.2.2) (by omega) ?_ (Nat.zero_le _) (rfl : (0 : Int32) = nI 0) (by exact fr_rf)
  rintro K ⟨a1, y, S1⟩ k hk hcc hF hK
  try dsimp only at hcc hF hK
  subst hcc
  have hB1 : BoxN S1 b d := boxN_fr hF (by decide) hB
  unfold w9_mean_F20 w9_mean_d20
  try dsimp only
  refine s9_cells hb _ _ ?_
  rw [cls_N hB1]
  refine ⟨fun _ => s9_cells hb _ _ ?_, fun c => ?_⟩
  · rw [cls_N hB1, show nI (tot d) - (1 : Int32) = nI (tot d - 1) from pk_sub (b := 1) (by omega)]
    exact ⟨nI_ne0 (by omega) (by omega), h _ _ (g9_sh hI hF)⟩
  have hlt := nI_go (by omega) hk c
  refine t9_shortOf hb S1 hB1 hp hlt _ (fun v S2 hF2 => ?_)
  rintro _ rfl _ rfl
  exact hK (_, _, _) hlt (nI_1 k) (fr_tr hF (fr_mono hF2 (by decide)))

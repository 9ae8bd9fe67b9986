/-! ===== pure: the rim walked on both sides, exactly ===== -/
theorem x9_rimOf (x : Int64) (Q : Int32 → Prop) (h : Q (nI (oe x))) : w9_rimOf x Q := by
  unfold w9_rimOf w9_rimOf_b4
  refine lp_up 64 (fun z => z.2) (fun k z => z.1 = nI (fb_ct (oeF (bt x)) (4 * k))) (by decide) ?_ (Nat.zero_le _) (rfl : (0 : Int32) = nI 0) (by exact rfl)
  rintro K ⟨n, y⟩ k hk hc hI hK
  try dsimp only at hc hI hK
  subst hc
  unfold w9_rimOf_F4 w9_rimOf_d4
  try dsimp only
  refine ⟨fun c => ?_, fun c => ?_⟩
  · have e := nI_end (N := 64) (by decide) hk c
    subst e
    rw [hI]
    exact h
  have hlt := nI_go (N := 64) (by decide) hk c
  unfold w9_rimOf_b13
  refine lp_up 4 (fun z => z.2) (fun j z => z.1 = nI (fb_ct (oeF (bt x)) (4 * k + j))) (by decide) ?_ (Nat.zero_le _) (rfl : (0 : Int32) = nI 0) (by exact hI)
  rintro K2 ⟨n2, y2⟩ k2 hk2 hc hI2 hK2
  try dsimp only at hc hI2 hK2
  subst hc
  unfold w9_rimOf_F13 w9_rimOf_d13 w9_rimOf_b54 w9_rimOf_b46
  try dsimp only
  have hend : fb_ct (oeF (bt x)) (4 * (k + 1)) = fb_ct (oeF (bt x)) (4 * k + k2) → ∀ y1 : Int32, y1 = nI k + 1 → K (n2, y1) := by
    rintro he _ rfl
    refine hK (_, _) hlt (nI_1 k) ?_
    show n2 = _
    rw [hI2, he]
  refine ⟨fun c2 => hend ?_, fun c2 => s9_has _ _ _ (fun hb => ⟨fun c => absurd c (by decide), fun _ => ?_⟩) (fun hb => ⟨fun _ => hend ?_, fun c => absurd rfl c⟩)⟩
  · have e := nI_end (N := 4) (by decide) hk2 c2
    subst e
    rfl
  · have hlt2 := nI_go (N := 4) (by decide) hk2 c2
    have hbk := (hasB_iff x hlt).mp hb
    have hd : (4 * k + k2) / 4 = k := by omega
    have hm : (4 * k + k2) % 4 = k2 := by omega
    refine s9_besideN hlt hlt2 _ (s9_has _ _ _ (fun h2 => ⟨fun c => absurd c (by decide), fun _ => ?_⟩) (fun h2 => ⟨fun _ => ?_, fun c => absurd rfl c⟩))
    · rw [hasB_sq] at h2
      rintro _ rfl _ rfl
      refine hK2 (_, _) hlt2 (nI_1 k2) ?_
      show n2 + 0 = _
      have e0 : ¬ oeF (bt x) (4 * k + k2) = true := by
        rw [oe_iff, hd, hm, h2]
        exact fun q => absurd q.2 (by decide)
      rw [hI2, show 4 * k + (k2 + 1) = 4 * k + k2 + 1 by omega, fb_ct_succ, if_neg e0]
      exact Int32.add_zero _
    · rw [hasB_sq] at h2
      rintro _ rfl _ rfl
      refine hK2 (_, _) hlt2 (nI_1 k2) ?_
      show n2 + 1 = _
      have e0 : oeF (bt x) (4 * k + k2) = true := by
        rw [oe_iff, hd, hm]
        refine ⟨hbk, ?_⟩
        cases e : bt x (bs k k2)
        · rfl
        · exact absurd e h2
      rw [hI2, show 4 * k + (k2 + 1) = 4 * k + k2 + 1 by omega, fb_ct_succ, if_pos e0, nI_1]
  · have hbk : ¬ bt x k = true := fun e => hb ((hasB_iff x hlt).mpr e)
    have hstep : ∀ i, k2 + i ≤ 4 → fb_ct (oeF (bt x)) (4 * k + k2 + i) = fb_ct (oeF (bt x)) (4 * k + k2) := by
      intro i
      induction i with
      | zero => intro _; rfl
      | succ i ih =>
        intro hi
        have e0 : ¬ oeF (bt x) (4 * k + k2 + i) = true := by
          rw [oe_iff, show (4 * k + k2 + i) / 4 = k by omega]
          exact fun q => hbk q.1
        rw [show 4 * k + k2 + (i + 1) = 4 * k + k2 + i + 1 by omega, fb_ct_succ, if_neg e0, ih (by omega)]
        rfl
    have := hstep (4 - k2) (by omega)
    rw [show 4 * k + k2 + (4 - k2) = 4 * (k + 1) by omega] at this
    exact this
theorem ct4 (p : Nat → Bool) : ∀ n, fb_ct p (4 * n) = fb_ct (fun k => p (4 * k)) n + fb_ct (fun k => p (4 * k + 1)) n + fb_ct (fun k => p (4 * k + 2)) n + fb_ct (fun k => p (4 * k + 3)) n
  | 0 => rfl
  | n + 1 => by
    rw [show 4 * (n + 1) = 4 * n + 1 + 1 + 1 + 1 by omega, fb_ct_succ, fb_ct_succ, fb_ct_succ, fb_ct_succ, fb_ct_succ, fb_ct_succ, fb_ct_succ, fb_ct_succ, ct4 p n]
    omega
theorem bt_m1 : ∀ k, k < 64 → bt (-1) k = true := by decide +kernel
theorem bt_nt (x : Int64) {k : Nat} (hk : k < 64) : bt (x ^^^ (-1)) k = !bt x k := by
  have h := bt_m1 k hk
  unfold bt at h ⊢
  rw [Int64.toBitVec_xor, BitVec.toNat_xor, Nat.testBit_xor, h, Bool.xor_true]
theorem x0_openEdges (x : Int64) (Q : Int32 → Prop) (h : Q (nI (oe x))) : w0_openEdges x Q := by
  unfold w0_openEdges w0_openEdges_b4
  refine lp_up 4 (fun z => z.2) (fun k z => z.1 = nI (fb_sm (fun v => fb_ct (fun j => oeF (bt x) (4 * j + (v + 2) % 4)) 64) k)) (by decide) ?_ (Nat.zero_le _) (rfl : (0 : Int32) = nI 0) (by exact rfl)
  rintro K ⟨a, y⟩ k hk hcc hI hK
  try dsimp only at hcc hI hK
  subst hcc
  unfold w0_openEdges_F4 w0_openEdges_d4
  try dsimp only
  refine ⟨fun c => ?_, fun c => ?_⟩
  · have e := nI_end (N := 4) (by decide) hk c
    subst e
    have e4 : fb_sm (fun v => fb_ct (fun j => oeF (bt x) (4 * j + (v + 2) % 4)) 64) 4 = oe x := by
      unfold oe
      rw [show 256 = 4 * 64 from rfl, ct4]
      show 0 + fb_ct (fun j => oeF (bt x) (4 * j + 2)) 64 + fb_ct (fun j => oeF (bt x) (4 * j + 3)) 64 + fb_ct (fun j => oeF (bt x) (4 * j)) 64 + fb_ct (fun j => oeF (bt x) (4 * j + 1)) 64 = _
      omega
    rw [hI, e4]
    exact h
  have hlt := nI_go (N := 4) (by decide) hk c
  refine s0_moved x hlt _ (fun m hm => s13_bitCount _ _ ?_)
  rintro _ rfl _ rfl
  refine hK (_, _) hlt (nI_1 k) ?_
  show a + nI (pc (x &&& (m ^^^ -1))) = _
  have ec : pc (x &&& (m ^^^ -1)) = fb_ct (fun j => oeF (bt x) (4 * j + (k + 2) % 4)) 64 := fb_ct_cong fun j hj => by
    rw [bt_and, bt_nt m hj, hm j hj]
    unfold oeF
    rw [show (4 * j + (k + 2) % 4) / 4 = j by omega, show (4 * j + (k + 2) % 4) % 4 = (k + 2) % 4 by omega]
  rw [hI, ec, nI_add, fb_sm_succ]
/-- the angle ahead of edge k; none ahead of the first -/
def paN (x : Int64) (s : Nat × Nat) : Nat → Nat
  | 0 => 0
  | k + 1 => ang x (orb x s k)
theorem paN_end {x : Int64} {s : Nat × Nat} {n : Nat} (hn : 1 ≤ n) {k : Nat} (hk : k < n) : (if k = 0 then paN x s n else paN x s k) = ang x (orb x s ((k + n - 1) % n)) := by
  obtain ⟨n', rfl⟩ : ∃ n', n = n' + 1 := ⟨n - 1, by omega⟩
  by_cases e : k = 0
  · rw [if_pos e, e, show 0 + (n' + 1) - 1 = n' by omega, Nat.mod_eq_of_lt (by omega)]
    rfl
  · rw [if_neg e]
    obtain ⟨k', rfl⟩ : ∃ k', k = k' + 1 := ⟨k - 1, by omega⟩
    rw [show k' + 1 + (n' + 1) - 1 = k' + (n' + 1) by omega, Nat.add_mod_right, Nat.mod_eq_of_lt (by omega)]
    rfl
theorem oe_le (x : Int64) : oe x ≤ 256 := fb_ct_le _ _
set_option maxHeartbeats 2000000 in
theorem x9_isWalked (x : Int64) (hx : ¬ x = 0) (h24 : pc x ≤ 24) (S : MS) (Q : Int32 → MS → Prop) (h : ∀ S' n m, bt x m = true → (∀ j, j < m → bt x j = false) → Fr [25, 26, 27, 28] S S' → 1 ≤ n → n ≤ 96 → orb x (m, 0) n = (m, 0) → Dst x (m, 0) n → fI S' 25 = nI n → (∀ k, k < n → aI S' 28 k = nI (ang x (orb x (m, 0) ((k + n - 1) % n)))) → Q (if n = oe x then 1 else 0) S') : w9_isWalked x S Q := by
  unfold w9_isWalked
  refine s9_leastOf x hx _ (fun m hm hmb hml => ?_)
  have hv : Ve x (m, 0) := ve_0 hmb hml
  rintro _ rfl
  unfold w9_isWalked_b19
  refine lp_of (fun z : Int32 × Int32 × Int32 × MS => ∃ n, Dst x (m, 0) n ∧ z.1 = nI (orb x (m, 0) n).1 ∧ z.2.1 = nI (orb x (m, 0) n).2 ∧ z.2.2.1 = nI (paN x (m, 0) n) ∧ Fr [25, 26, 27, 28] S z.2.2.2 ∧ fI z.2.2.2 25 = nI n ∧ ∀ k, k < n → aI z.2.2.2 28 k = nI (paN x (m, 0) k)) (fun z => 200 - (fI z.2.2.2 25).toNatClampNeg) ?_ ?_
  rotate_left
  · exact ⟨0, fun i j _ hj => absurd hj (Nat.not_lt_zero j), rfl, rfl, rfl, fr_sI (by decide), rfl, fun k hk => absurd hk (Nat.not_lt_zero k)⟩
  rintro K ⟨x4, x5, x6, S1⟩ ⟨n, hd, e4, e5, e6, hF, h25, hA⟩ hK
  try dsimp only at e4 e5 e6 hF h25 hA hK
  subst e4 e5 e6
  obtain ⟨v1, v2, v3, v4⟩ := orb_ok hv n
  have hn96 := Dst_le hv hd
  unfold w9_isWalked_F19 w9_isWalked_d19
  try dsimp only
  rw [h25]
  have kbody : (n = 0 ∨ orb x (m, 0) n ≠ (m, 0)) → w9_isWalked_b37 (fun y0 y1 y2 y3 => K (y0, y1, y2, y3)) x (nI m) (nI (orb x (m, 0) n).1) (nI (orb x (m, 0) n).2) (nI (paN x (m, 0) n)) S1 Q := by
    intro hne
    have hd1 := Dst_succ hv hd hne
    have hn1 := Dst_le hv hd1
    unfold w9_isWalked_b37
    rw [h25]
    refine ⟨vp_in_nI (by omega) (by decide), ?_⟩
    rintro _ rfl
    rw [show fI (sA S1 26 (nI n) (nI (orb x (m, 0) n).2)) 25 = nI n from h25]
    refine ⟨vp_in_nI (by omega) (by decide), ?_⟩
    rintro _ rfl
    rw [show fI (sA (sA S1 26 (nI n) (nI (orb x (m, 0) n).2)) 27 (nI n) (nI (orb x (m, 0) n).1)) 25 = nI n from h25]
    refine ⟨vp_in_nI (by omega) (by decide), ?_⟩
    rintro _ rfl
    rw [show fI (sA (sA (sA S1 26 (nI n) (nI (orb x (m, 0) n).2)) 27 (nI n) (nI (orb x (m, 0) n).1)) 28 (nI n) (nI (paN x (m, 0) n))) 25 = nI n from h25, nI_1]
    rintro _ rfl
    have hF2 : Fr [25, 26, 27, 28] S (sI (sA (sA (sA S1 26 (nI n) (nI (orb x (m, 0) n).2)) 27 (nI n) (nI (orb x (m, 0) n).1)) 28 (nI n) (nI (paN x (m, 0) n))) 25 (nI (n + 1))) := fr_tr hF (fr_tr (fr_tr (fr_tr (fr_sA (by decide)) (fr_sA (by decide))) (fr_sA (by decide))) (fr_sI (by decide)))
    have h25b : fI (sI (sA (sA (sA S1 26 (nI n) (nI (orb x (m, 0) n).2)) 27 (nI n) (nI (orb x (m, 0) n).1)) 28 (nI n) (nI (paN x (m, 0) n))) 25 (nI (n + 1))) 25 = nI (n + 1) := rd_fI _ _ _
    have hA2 : ∀ k, k < n + 1 → aI (sI (sA (sA (sA S1 26 (nI n) (nI (orb x (m, 0) n).2)) 27 (nI n) (nI (orb x (m, 0) n).1)) 28 (nI n) (nI (paN x (m, 0) n))) 25 (nI (n + 1))) 28 k = nI (paN x (m, 0) k) := by
      intro k hk
      have e28 : aI (sI (sA (sA (sA S1 26 (nI n) (nI (orb x (m, 0) n).2)) 27 (nI n) (nI (orb x (m, 0) n).1)) 28 (nI n) (nI (paN x (m, 0) n))) 25 (nI (n + 1))) 28 = upd (aI S1 28) n (nI (paN x (m, 0) n)) := by
        show aI (sA (sA (sA S1 26 (nI n) (nI (orb x (m, 0) n).2)) 27 (nI n) (nI (orb x (m, 0) n).1)) 28 (nI n) (nI (paN x (m, 0) n))) 28 = _
        rw [rd_A, rd_sn _ (by decide), rd_sn _ (by decide), nI_clamp (by omega)]
      rw [e28]
      by_cases e : k = n
      · rw [e, pk_us]
      · rw [pk_un e]; exact hA k (by omega)
    generalize sI (sA (sA (sA S1 26 (nI n) (nI (orb x (m, 0) n).2)) 27 (nI n) (nI (orb x (m, 0) n).1)) 28 (nI n) (nI (paN x (m, 0) n))) 25 (nI (n + 1)) = S2 at hF2 h25b hA2
    have hgo : ∀ b, b = ang x (orb x (m, 0) n) → ∀ q w, (q, w) = orb x (m, 0) (n + 1) → K (nI q, nI w, nI b, S2) := by
      intro b hb q w e
      refine hK (_, _, _, _) ⟨n + 1, hd1, ?_, ?_, ?_, hF2, h25b, hA2⟩ ?_
      · show nI q = nI (orb x (m, 0) (n + 1)).1
        rw [← e]
      · show nI w = nI (orb x (m, 0) (n + 1)).2
        rw [← e]
      · show nI b = nI (ang x (orb x (m, 0) n))
        rw [hb]
      · show 200 - (fI S2 25).toNatClampNeg < 200 - (fI S1 25).toNatClampNeg
        rw [h25b, h25, nI_clamp (by omega), nI_clamp (by omega)]
        omega
    have hw3 : (nI (orb x (m, 0) n).2 + (3 : Int32)) - (nI (orb x (m, 0) n).2 + (3 : Int32)) / (4 : Int32) * (4 : Int32) = nI (((orb x (m, 0) n).2 + 3) % 4) := by
      rw [show nI (orb x (m, 0) n).2 + (3 : Int32) = nI ((orb x (m, 0) n).2 + 3) from nI_add _ 3]
      exact pk_rem (by omega) (by decide) (by decide)
    have hw1 : (nI (orb x (m, 0) n).2 + (1 : Int32)) - (nI (orb x (m, 0) n).2 + (1 : Int32)) / (4 : Int32) * (4 : Int32) = nI (((orb x (m, 0) n).2 + 1) % 4) := by
      rw [show nI (orb x (m, 0) n).2 + (1 : Int32) = nI ((orb x (m, 0) n).2 + 1) from nI_add _ 1]
      exact pk_rem (by omega) (by decide) (by decide)
    rw [hw3, hw1]
    have eo : orb x (m, 0) (n + 1) = stp x (orb x (m, 0) n) := rfl
    unfold stp at eo
    rw [eo] at hgo
    unfold ang at hgo
    unfold w9_isWalked_b159
    refine s9_besideN v1 v2 _ (s9_besideQ (bs_le _ (by omega) _ v2) (by omega) _ ?_)
    refine s9_has _ _ _ (fun c1 => ⟨fun _ => s9_has _ _ _ (fun c2 => ⟨fun c => absurd c (by decide), fun _ => ?_⟩) (fun c2 => ⟨fun _ => ?_, fun c => absurd rfl c⟩), fun c => absurd c (by decide)⟩) (fun c1 => ⟨fun c => absurd rfl c, fun _ => ?_⟩)
    · rw [hasB_sq] at c1 c2
      rintro _ rfl
      rw [sqI_lt (bt_lt c2)]
      rw [if_pos c1, if_pos c1, if_pos c2, if_pos c2] at hgo
      exact hgo 3 rfl _ _ rfl
    · rw [hasB_sq] at c1 c2
      rw [sqI_lt (bt_lt c1)]
      rw [if_pos c1, if_pos c1, if_neg c2, if_neg c2] at hgo
      exact hgo 2 rfl _ _ rfl
    · rw [hasB_sq] at c1
      rintro _ rfl
      rw [if_neg c1, if_neg c1] at hgo
      exact hgo 1 rfl _ _ rfl
  refine ⟨fun c => kbody (Or.inl ?_), fun c => ⟨fun c2 => kbody (Or.inr ?_), fun c2 => ⟨fun c3 => ?_, fun c3 => kbody (Or.inr ?_)⟩⟩⟩
  · exact (nI_eq (a := n) (b := 0) (by omega) (by decide)).mp c
  · intro e; rw [e] at c2; exact c2 rfl
  · have hn0 : ¬ n = 0 := fun e => c (by rw [e]; rfl)
    have hret : orb x (m, 0) n = (m, 0) := Prod.ext ((nI_eq (by omega) (by omega)).mp c2) ((nI_eq (b := 0) (by omega) (by decide)).mp c3)
    rintro _ rfl
    have hoe := oe_le x
    refine x9_rimOf _ _ ?_
    have hh := h (sA S1 28 (0 : Int32) (nI (paN x (m, 0) n))) n m hmb hml (fr_tr hF (fr_sA (by decide))) (by omega) (by omega) hret hd h25 (fun k hk => by
      rw [rd_A, show (0 : Int32).toNatClampNeg = 0 from rfl, ← paN_end (by omega) hk]
      by_cases e : k = 0
      · rw [e, pk_us, if_pos rfl]
      · rw [pk_un e, if_neg e]; exact hA k hk)
    rw [show fI (sA S1 28 (0 : Int32) (nI (paN x (m, 0) n))) 25 = nI n from h25]
    unfold w9_isWalked_b186
    refine ⟨fun cn => ⟨rfl, ?_⟩, fun cy => ⟨rfl, ?_⟩⟩
    · rw [if_neg (show ¬ n = oe x from fun e => cn (by rw [e]))] at hh
      exact hh
    · rw [if_pos ((nI_eq (by omega) (by omega)).mp cy)] at hh
      exact hh
  · intro e; rw [e] at c3; exact c3 rfl
theorem s0_besideQ {q w : Nat} (hq : q < 65) (hw : w < 4) (Q : Int32 → Prop) (h : Q (sqI (bs q w))) : w0_beside (sqI q) (nI w) Q := by
  by_cases h64 : q < 64
  · rw [sqI_lt h64]; exact s0_besideN h64 hw Q h
  · rw [show bs q w = 64 from if_pos (by omega)] at h
    rw [sqI_ge h64]
    unfold w0_beside
    refine s8_isSquare _ _ (fun c => absurd c (m9_out (by decide))) (fun _ => ⟨fun c => absurd rfl c, fun _ => ?_⟩)
    exact h
set_option maxHeartbeats 2000000 in
theorem x4_walk (x : Int64) (hx : ¬ x = 0) (h24 : pc x ≤ 24) (hcn : Cn (bt x)) (S : MS) (Q : Int32 → MS → Prop) (h : ∀ S' n m, bt x m = true → (∀ j, j < m → bt x j = false) → 1 ≤ n → n ≤ 50 → orb x (m, 0) n = (m, 0) → Dst x (m, 0) n → fI S' 3 = nI n → (∀ k, k < n → aI S' 1 k = nI (ang x (orb x (m, 0) ((k + n - 1) % n)))) → Q (if n = oe x then 1 else 0) S') : w4_walk x S Q := by
  obtain ⟨m, hmb, hml⟩ : ∃ k, bt x k = true ∧ ∀ j, j < k → bt x j = false := by
    obtain ⟨m, _, hm⟩ := bt_some hx
    obtain ⟨k, hk1, hk2⟩ := pk_least (fun k => bt x k = true) ⟨m, hm⟩
    refine ⟨k, hk1, fun j hj => ?_⟩
    cases e : bt x j
    · rfl
    · exact absurd e (hk2 j hj)
  have hv : Ve x (m, 0) := ve_0 hmb hml
  have h50 := oe_50 hx h24 hcn
  have hm64 := bt_lt hmb
  unfold w4_walk
  refine s0_leastN x hmb hml _ ?_
  rintro _ rfl
  unfold w4_walk_b22
  refine lp_up 50 (fun z => fI z.2.2.2.2 3) (fun k z => Dst x (m, 0) k ∧ z.1 = nI (orb x (m, 0) k).1 ∧ z.2.1 = nI (orb x (m, 0) k).2 ∧ z.2.2.1 = nI (paN x (m, 0) k) ∧ ((z.2.2.2.1 = 0 ∧ (k = 0 ∨ orb x (m, 0) k ≠ (m, 0))) ∨ (z.2.2.2.1 = 1 ∧ 1 ≤ k ∧ orb x (m, 0) k = (m, 0))) ∧ ∀ j, j < k → aI z.2.2.2.2 1 j = nI (paN x (m, 0) j)) (by decide) ?_ (Nat.zero_le _) (rd_fI _ _ _ : fI (sI S 3 0) 3 = nI 0) (by exact ⟨fun i j _ hj => absurd hj (Nat.not_lt_zero j), rfl, rfl, rfl, Or.inl ⟨rfl, Or.inl rfl⟩, fun k hk => absurd hk (Nat.not_lt_zero k)⟩)
  rintro K ⟨sq, w, q, cl, S1⟩ k hk hcc ⟨hd, e1, e2, e3, hcl, hA⟩ hK
  try dsimp only at hcc e1 e2 e3 hcl hA hK
  subst e1 e2 e3
  obtain ⟨v1, v2, v3, v4⟩ := orb_ok hv k
  unfold w4_walk_F22 w4_walk_d22
  try dsimp only
  rw [hcc]
  have k179 : cl = 1 ∧ 1 ≤ k ∧ orb x (m, 0) k = (m, 0) → w4_walk_b179 x (nI (paN x (m, 0) k)) cl S1 Q := by
    rintro ⟨rfl, hk1, hret⟩
    unfold w4_walk_b179 w4_walk_b207 w4_walk_b208
    rintro _ rfl
    have hh := h (sA S1 1 (0 : Int32) (nI (paN x (m, 0) k))) k m hmb hml hk1 hk hret hd ((fi_sA _ _ _ _ _).trans hcc) (fun j hj => by
      rw [rd_A, show (0 : Int32).toNatClampNeg = 0 from rfl, ← paN_end hk1 hj]
      by_cases e : j = 0
      · rw [e, pk_us, if_pos rfl]
      · rw [pk_un e, if_neg e]; exact hA j hj)
    refine ⟨fun c => absurd c (by decide), fun _ => x0_openEdges _ _ ?_⟩
    rw [show fI (sA S1 1 (0 : Int32) (nI (paN x (m, 0) k))) 3 = nI k from (fi_sA _ _ _ _ _).trans hcc]
    refine ⟨fun cn => ⟨rfl, ?_⟩, fun cy => ⟨rfl, ?_⟩⟩
    · rw [if_neg (show ¬ k = oe x from fun e => cn (by rw [e]))] at hh
      exact hh
    · rw [if_pos ((nI_eq (by omega) (by omega)).mp cy)] at hh
      exact hh
  have h01 : ¬ (1 : Int32) = 0 := by decide
  refine ⟨fun c => ?_, fun c => ⟨fun c2 => ?_, fun c2 => ?_⟩⟩
  · have ek := nI_end (N := 50) (by decide) hk c
    rcases hcl with ⟨q1, q2⟩ | q1
    · exfalso
      have hd1 := Dst_succ hv hd q2
      have := (ret_cov hv hd1).1
      omega
    · exact k179 q1
  · rcases hcl with ⟨q1, q2⟩ | q1
    · exact absurd q1 c2
    · exact k179 q1
  have hlt := nI_go (N := 50) (by decide) hk c
  have hnr : k = 0 ∨ orb x (m, 0) k ≠ (m, 0) := by
    rcases hcl with ⟨q1, q2⟩ | ⟨q1, q2⟩
    · exact q2
    · rw [c2] at q1; exact absurd q1.symm h01
  have hd1 := Dst_succ hv hd hnr
  have hvp := vp_in_nI hlt (by decide)
  refine ⟨hvp, ?_⟩
  rintro _ rfl
  have f1 : fI (sA S1 0 (nI k) (nI (orb x (m, 0) k).2)) 3 = nI k := (fi_sA _ _ _ _ _).trans hcc
  rw [f1]
  refine ⟨hvp, ?_⟩
  rintro _ rfl
  have f2 : fI (sA (sA S1 0 (nI k) (nI (orb x (m, 0) k).2)) 2 (nI k) (nI (orb x (m, 0) k).1)) 3 = nI k := (fi_sA _ _ _ _ _).trans f1
  rw [f2]
  refine ⟨hvp, ?_⟩
  rintro _ rfl
  rw [show fI (sA (sA (sA S1 0 (nI k) (nI (orb x (m, 0) k).2)) 2 (nI k) (nI (orb x (m, 0) k).1)) 1 (nI k) (nI (paN x (m, 0) k))) 3 = nI k from (fi_sA _ _ _ _ _).trans f2, nI_1]
  rintro _ rfl
  have g3 : fI (sI (sA (sA (sA S1 0 (nI k) (nI (orb x (m, 0) k).2)) 2 (nI k) (nI (orb x (m, 0) k).1)) 1 (nI k) (nI (paN x (m, 0) k))) 3 (nI (k + 1))) 3 = nI (k + 1) := rd_fI _ _ _
  have hA2 : ∀ j, j < k + 1 → aI (sI (sA (sA (sA S1 0 (nI k) (nI (orb x (m, 0) k).2)) 2 (nI k) (nI (orb x (m, 0) k).1)) 1 (nI k) (nI (paN x (m, 0) k))) 3 (nI (k + 1))) 1 j = nI (paN x (m, 0) j) := by
    intro j hj
    have e28 : aI (sI (sA (sA (sA S1 0 (nI k) (nI (orb x (m, 0) k).2)) 2 (nI k) (nI (orb x (m, 0) k).1)) 1 (nI k) (nI (paN x (m, 0) k))) 3 (nI (k + 1))) 1 = upd (aI S1 1) k (nI (paN x (m, 0) k)) := by
      show aI (sA (sA (sA S1 0 (nI k) (nI (orb x (m, 0) k).2)) 2 (nI k) (nI (orb x (m, 0) k).1)) 1 (nI k) (nI (paN x (m, 0) k))) 1 = _
      rw [rd_A, rd_sn _ (by decide), rd_sn _ (by decide), nI_clamp (by omega)]
    rw [e28]
    by_cases e : j = k
    · rw [e, pk_us]
    · rw [pk_un e]; exact hA j (by omega)
  generalize sI (sA (sA (sA S1 0 (nI k) (nI (orb x (m, 0) k).2)) 2 (nI k) (nI (orb x (m, 0) k).1)) 1 (nI k) (nI (paN x (m, 0) k))) 3 (nI (k + 1)) = S2 at g3 hA2
  have hgo : ∀ b, b = ang x (orb x (m, 0) k) → ∀ q w, (q, w) = orb x (m, 0) (k + 1) → w4_walk_b158 (fun y0 y1 y2 y3 y4 => K (y0, y1, y2, y3, y4)) x (nI m) (nI q) (nI w) (nI b) S2 Q := by
    intro b hb q w e
    have ev := orb_ok hv (k + 1)
    rw [← e] at ev
    obtain ⟨u1, u2, _, _⟩ := ev
    try dsimp only at u1 u2
    have hK' : ∀ v : Int32, ((v = 0 ∧ (k + 1 = 0 ∨ orb x (m, 0) (k + 1) ≠ (m, 0))) ∨ (v = 1 ∧ 1 ≤ k + 1 ∧ orb x (m, 0) (k + 1) = (m, 0))) → K (nI q, nI w, nI b, v, S2) := by
      intro v hv2
      refine hK (_, _, _, _, _) hlt g3 ⟨hd1, ?_, ?_, ?_, hv2, hA2⟩
      · show nI q = nI (orb x (m, 0) (k + 1)).1
        rw [← e]
      · show nI w = nI (orb x (m, 0) (k + 1)).2
        rw [← e]
      · show nI b = nI (ang x (orb x (m, 0) k))
        rw [hb]
    unfold w4_walk_b158 w4_walk_b173 w4_walk_b174
    refine ⟨fun c1 => hK' _ (Or.inl ⟨rfl, Or.inr fun e2 => c1 ?_⟩), fun c1 => ⟨fun c3 => hK' _ (Or.inl ⟨rfl, Or.inr fun e2 => c3 ?_⟩), fun c3 => hK' _ (Or.inr ⟨rfl, by omega, ?_⟩)⟩⟩
    · rw [← e] at e2
      rw [show q = m from congrArg Prod.fst e2]
    · rw [← e] at e2
      rw [show w = 0 from congrArg Prod.snd e2]
      rfl
    · rw [← e]
      exact Prod.ext ((nI_eq (by omega) (by omega)).mp c1) ((nI_eq (b := 0) (by omega) (by decide)).mp c3)
  have hw3 : (nI (orb x (m, 0) k).2 + (3 : Int32)) &&& (3 : Int32) = nI (((orb x (m, 0) k).2 + 3) % 4) := by
    rw [show nI (orb x (m, 0) k).2 + (3 : Int32) = nI ((orb x (m, 0) k).2 + 3) from nI_add _ 3]
    exact pk_andN (by omega) 2 (by decide)
  have hw1 : (nI (orb x (m, 0) k).2 + (1 : Int32)) &&& (3 : Int32) = nI (((orb x (m, 0) k).2 + 1) % 4) := by
    rw [show nI (orb x (m, 0) k).2 + (1 : Int32) = nI ((orb x (m, 0) k).2 + 1) from nI_add _ 1]
    exact pk_andN (by omega) 2 (by decide)
  rw [hw3, hw1]
  have eo : orb x (m, 0) (k + 1) = stp x (orb x (m, 0) k) := rfl
  unfold stp at eo
  rw [eo] at hgo
  unfold ang at hgo
  refine s0_besideN v1 v2 _ (s0_besideQ (bs_le _ (by omega) _ v2) (by omega) _ ?_)
  refine s0_hasN _ _ _ (fun l1 c1 => ⟨fun _ => s0_hasN _ _ _ (fun l2 c2 => ⟨fun _ => ?_, fun c => absurd c h01⟩) (fun c2 => ⟨fun c => absurd rfl c, fun _ => ?_⟩), fun c => absurd c h01⟩) (fun c1 => ⟨fun c => absurd rfl c, fun _ => ?_⟩)
  · rintro _ rfl
    rw [sqI_lt l2]
    rw [if_pos c1, if_pos c1, if_pos c2, if_pos c2] at hgo
    exact hgo 3 rfl _ _ rfl
  · rw [sqI_lt l1]
    rw [if_pos c1, if_pos c1, if_neg (by rw [c2]; decide), if_neg (by rw [c2]; decide)] at hgo
    exact hgo 2 rfl _ _ rfl
  · rintro _ rfl
    rw [if_neg (by rw [c1]; decide), if_neg (by rw [c1]; decide)] at hgo
    exact hgo 1 rfl _ _ rfl

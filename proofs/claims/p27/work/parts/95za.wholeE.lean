/-! ===== pure: wholes on both sides ===== -/
theorem x9_both {k b : Nat} (hk : k < 6) (hb : b < 4) (S : MS) (Q : Int32 → MS → Prop) (hz : (aJ S 3 k = 0 ∨ dm S b 0 = 0) → ∀ S', Fr [0, 1] S S' → Q (-3) S') (h : ¬ aJ S 3 k = 0 → ¬ dm S b 0 = 0 → Q 0 S) : w9_askedBoth (nI k) (nI b) S Q := by
  have hf : vp_in (nI k) 6 := vp_in_nI hk (by decide)
  have hx : vp_in (nI b) 4 := vp_in_nI hb (by decide)
  have h01 : ¬ (1 : Int32) = 0 := by decide
  have k38 : (aJ S 3 k = 0 ∨ dm S b 0 = 0) → w9_askedBoth_b38 S Q := fun q => by
    unfold w9_askedBoth_b38 w9_askedBoth_b47
    exact m9_fr _ (by unfold vp_in; decide) _ _ (fun S' hF => hz q S' hF)
  have ed : rA S 7 (nI (3 * b)) = dm S b 0 := rd_dm hb S 0 (by decide)
  unfold w9_askedBoth w9_askedBoth_b14
  rw [rL_n S hk, (ix3z hb).1, lg_cmp_eq, ed]
  refine s9_isFigure _ _ (fun _ => ⟨fun c => absurd c h01, fun _ => s9_isBox _ _ (fun _ => ⟨fun _ => ⟨hf, fun q => k38 (Or.inl q), fun q1 => ⟨(ix3z hb).2, fun q2 => ?_, fun q2 => k38 (Or.inr q2)⟩⟩, fun c => absurd c h01⟩) (fun c => absurd hx c)⟩) (fun c => absurd hf c)
  unfold w9_askedBoth_b47
  exact h q1 q2
theorem x9_bothB {f b : Int32} (hn : ¬ (vp_in f 6 ∧ vp_in b 4)) (S : MS) (Q : Int32 → MS → Prop) (h : Q (-1) S) : w9_askedBoth f b S Q := by
  have h01 : ¬ (1 : Int32) = 0 := by decide
  unfold w9_askedBoth w9_askedBoth_b14
  exact s9_isFigure _ _ (fun hf => ⟨fun c => absurd c h01, fun _ => s9_isBox _ _ (fun hb => absurd ⟨hf, hb⟩ hn) (fun _ => ⟨fun c => absurd rfl c, fun _ => h⟩)⟩) (fun _ => ⟨fun _ => h, fun c => absurd rfl c⟩)
theorem x9_foldsTo {k b c t q0 : Nat} {d g : Nat → Nat} (hk : k < 6) (hb : b < 4) (S : MS) (hb0 : bt (aJ S 3 k) q0 = true) (hl0 : ∀ j, j < q0 → bt (aJ S 3 k) j = false) (hcn : Cn (bt (aJ S 3 k))) (hB : BoxN S b d) (hg : LdG d g) (hc : c < tot d) (ht : t < 4) (Q : Int32 → MS → Prop) (h2 : pc (aJ S 3 k) = tot d → Fits d g (bt (aJ S 3 k)) q0 (4 * c + t) → ∀ S', Fr [8, 9, 10, 11, 12, 13] S S' → Q 2 S') (h0 : ¬ (pc (aJ S 3 k) = tot d ∧ Fits d g (bt (aJ S 3 k)) q0 (4 * c + t)) → ∀ r S', ¬ r = 2 → Fr [8, 9, 10, 11, 12, 13] S S' → Q r S') : w9_foldsTo (nI k) (nI b) (nI c) (nI t) S Q := by
  have h24 := hB.2
  have hpl := pc_le (aJ S 3 k)
  unfold w9_foldsTo w9_foldsTo_b43
  rw [rL_n S hk]
  refine ⟨vp_in_nI hk (by decide), x9_isFolded _ hb0 hl0 hcn hb S hB hg hc ht _ (fun S' hF hno => ⟨fun c => absurd rfl c, fun _ => h0 (fun w => hno w.2) _ _ (by decide) hF⟩) (fun S' hF hy => ⟨fun _ => ?_, fun c => absurd c (by decide)⟩)⟩
  rw [rL_n S' hk, (hF 3 (by decide)).2.2.2]
  refine s9_bits _ _ (s9_cells hb _ _ ?_)
  rw [cls_N (boxN_fr hF (by decide) hB), nI_eq (by omega) (by omega)]
  exact ⟨fun c => h0 (fun w => c w.1) _ _ (by decide) hF, fun c => h2 c hy S' hF⟩
noncomputable def wfB (d g : Nat → Nat) (x : Int64) (q0 : Nat) (f : Nat) : Bool := decide (pc x = tot d) && fit d g x q0 f
theorem wfB_iff {d g : Nat → Nat} {x : Int64} {q0 f : Nat} : wfB d g x q0 f = true ↔ pc x = tot d ∧ Fits d g (bt x) q0 f := by
  unfold wfB
  rw [Bool.and_eq_true, fit_iff, decide_eq_true_iff]
theorem wfB_ct {d g : Nat → Nat} {x y : Int64} {q0 q1 n : Nat} (e : pc x = pc y) (h : fb_ct (fit d g y q1) n = fb_ct (fit d g x q0) n) : fb_ct (wfB d g y q1) n = fb_ct (wfB d g x q0) n := by
  by_cases c : pc x = tot d
  · have a : ∀ z : Int64, pc z = tot d → ∀ q, fb_ct (wfB d g z q) n = fb_ct (fit d g z q) n := fun z hz q => fb_ct_cong fun k _ => by
      unfold wfB
      rw [decide_eq_true hz, Bool.true_and]
    rw [a y (by omega) q1, a x c q0, h]
  · have a : ∀ z : Int64, ¬ pc z = tot d → ∀ q, fb_ct (wfB d g z q) n = 0 := fun z hz q => fb_ct_zero.mpr fun k _ => by
      unfold wfB
      rw [decide_eq_false hz, Bool.false_and]
    rw [a y (by omega) q1, a x c q0]
theorem x9_wholesL {k b q0 : Nat} {d g : Nat → Nat} (hk : k < 6) (hb : b < 4) (S : MS) (hb0 : bt (aJ S 3 k) q0 = true) (hl0 : ∀ j, j < q0 → bt (aJ S 3 k) j = false) (hcn : Cn (bt (aJ S 3 k))) (hB : BoxN S b d) (hg : LdG d g) (Q : Int32 → MS → Prop) (h : ∀ S', Fr [2, 8, 9, 10, 11, 12, 13] S S' → Q (nI (fb_ct (wfB d g (aJ S 3 k) q0) (4 * tot d))) S') : w9_wholes_b19 (nI k) (nI b) (0 : Int32) (0 : Int32) S Q := by
  have h24 := hB.2
  have e4 : (4 : Int32) = nI 4 := rfl
  unfold w9_wholes_b19
  refine lp_up (4 * tot d) (fun z => z.2.1) (fun n z => Fr [2, 8, 9, 10, 11, 12, 13] S z.2.2 ∧ z.1 = nI (fb_ct (wfB d g (aJ S 3 k) q0) n)) (by omega) ?_ (Nat.zero_le _) (rfl : (0 : Int32) = nI 0) (by exact ⟨fr_rf, rfl⟩)
  rintro K ⟨a, y, S1⟩ n hn hcc ⟨hF, hI⟩ hK
  try dsimp only at hcc hF hI hK
  subst hcc
  have hB1 : BoxN S1 b d := boxN_fr hF (by decide) hB
  have e3 : aJ S1 3 k = aJ S 3 k := by rw [(hF 3 (by decide)).2.2.2]
  unfold w9_wholes_F19 w9_wholes_d19
  try dsimp only
  refine s9_cells hb _ _ ?_
  rw [cls_N hB1, e4, pk_mul, show nI n / nI 4 = nI (n / 4) from pk_div (by omega) (by decide) (by decide), show nI n - nI (n / 4) * nI 4 = nI (n % 4) by rw [pk_mul, pk_sub (by omega), show n - n / 4 * 4 = n % 4 by omega]]
  refine ⟨fun c => ?_, fun c => ?_⟩
  · have en := nI_end (by omega) hn c
    rw [hI, en]
    exact h S1 hF
  have hlt := nI_go (by omega) hn c
  have go : ∀ v S2, Fr [2, 8, 9, 10, 11, 12, 13] S S2 → v = nI (fb_ct (wfB d g (aJ S 3 k) q0) (n + 1)) → w9_wholes_b71 (fun y0 y1 y2 => K (y0, y1, y2)) (nI k) (nI b) v (nI n) S2 Q := by
    intro v S2 hF2 hv
    unfold w9_wholes_b71
    rintro _ rfl
    exact hK (_, _, _) hlt (nI_1 n) ⟨hF2, hv⟩
  refine x9_foldsTo hk hb S1 (by rw [e3]; exact hb0) (by rw [e3]; exact hl0) (by rw [e3]; exact hcn) hB1 hg (show n / 4 < tot d by omega) (by omega) _ (fun hpc hfi S2 hF2 => ⟨fun c => absurd rfl c, fun _ => ?_⟩) (fun hno r S2 hr hF2 => ⟨fun _ => ?_, fun c => absurd c hr⟩)
  · rw [e3] at hpc hfi
    rw [show 4 * (n / 4) + n % 4 = n by omega] at hfi
    have hF3 : Fr [2, 8, 9, 10, 11, 12, 13] S S2 := fr_tr hF (fr_mono hF2 (by decide))
    have go2 : ∀ v : Int64, w9_wholes_b65 (fun y0 y1 y2 => K (y0, y1, y2)) (nI k) (nI b) a (nI n) v S2 Q := by
      intro v
      unfold w9_wholes_b65
      rintro _ rfl _ rfl
      refine go _ _ (fr_tr hF3 (fr_sJ (by decide))) ?_
      rw [hI, fb_ct_succ, if_pos (wfB_iff.mpr ⟨hpc, hfi⟩), nI_1]
    exact ⟨fun _ => go2 _, fun _ => go2 _⟩
  · rw [e3, show 4 * (n / 4) + n % 4 = n by omega] at hno
    refine go _ _ (fr_tr hF (fr_mono hF2 (by decide))) ?_
    rw [hI, fb_ct_succ, if_neg (fun q => hno (wfB_iff.mp q))]
    rfl
theorem x6_whole {d g : Nat → Nat} {x : Int64} {q0 f0 : Nat} {S V : MS} (h24 : tot d ≤ 24) (hd : ∀ j, j < 3 → 1 ≤ d j) (hC : BoxC V d) (hg : LdG d g) (hb : bt x q0 = true) (hl : ∀ j, j < q0 → bt x j = false) (hf : f0 < 4 * tot d) (hcn : Cn (bt x)) (Q : Int32 → MS → Prop) (h0 : ∀ S', ¬ (pc x = tot d ∧ Fits d g (bt x) q0 f0) → Q 0 S') (h1 : ∀ S', pc x = tot d → Fits d g (bt x) q0 f0 → Q 1 S') : w6_isWhole x (nI f0) S V Q := by
  by_cases hpc : pc x = tot d
  · exact s6_isWhole h24 hd hC hg hb hl hf hcn hpc Q (fun S' hno => h0 S' (fun w => hno w.2)) (fun S' hy => h1 S' hpc hy)
  · have hpl := pc_le x
    unfold w6_isWhole w6_isWhole_b26 w6_isWhole_b27
    refine s13_bitCount _ _ ?_
    rw [hC.2.1, nI_eq (by omega) (by omega)]
    exact ⟨fun _ => ⟨rfl, h0 _ (fun w => hpc w.1)⟩, fun c => absurd c hpc⟩
theorem e_wholes (f x : Int32) (Z : MS) (X : Nat → MS) (S : MS) (hA : All X S) (P : Int32 → Int32 → MS → (Nat → MS) → MS → Prop) (h : ∀ v Z' X' S', All X' S' → P v v Z' X' S') : w8_wholes f x Z X (fun r1 Z2 X3 => w9_wholes f x S (fun r4 S5 => P r1 r4 Z2 X3 S5)) := by
  have g0 : ∀ {X' ks S'}, G8 X X' → Fr ks S S' → 3 ∉ ks → 7 ∉ ks → 40 ∉ ks → 41 ∉ ks → All X' S' := fun g8 hF h3 h7 h40 h41 => al_g hA g8 (g9_fr hA.2.1 hF h3 h7 h40 h41)
  have h01 : ¬ (1 : Int32) = 0 := by decide
  have bad : ¬ (vp_in f 6 ∧ vp_in x 4) → w9_wholes f x S (fun r4 S5 => P (-1) r4 Z X S5) := by
    intro hn
    unfold w9_wholes
    exact x9_bothB hn _ _ ⟨fun c => absurd c (by decide), fun _ => h _ _ _ _ hA⟩
  unfold w8_wholes w8_wholes_b14 w8_wholes_b40
  refine s8_isFigure _ _ (fun hf => ⟨fun c => absurd c h01, fun _ => s8_isBox _ _ (fun hx => ⟨fun _ => ?_, fun c => absurd c h01⟩) (fun hx => ⟨fun c => absurd rfl c, fun _ => bad (fun w => hx w.2)⟩)⟩) (fun hf => ⟨fun _ => bad (fun w => hf w.1), fun c => absurd rfl c⟩)
  obtain ⟨k, hk, rfl⟩ := vp_in_of hf (by decide)
  obtain ⟨b, hb, rfl⟩ := vp_in_of hx (by decide)
  have tk := ff_there hA hk
  have hBB := hA.2.2.2.1 b hb
  have none : (aJ S 3 k = 0 ∨ dm S b 0 = 0) → w8_refuse (1 : Int32) Z X (fun r1 S2 => w9_wholes (nI k) (nI b) S (fun r4 S5 => P r1 r4 S2 X S5)) := by
    intro hn
    refine s8_refuse _ _ _ _ (fun Z' _ => ?_)
    unfold w9_wholes
    refine x9_both hk hb S _ (fun _ S' hF => ⟨fun c => absurd c (by decide), fun _ => h _ _ _ _ (g0 (g8_rf hA.1) hF (by decide) (by decide) (by decide) (by decide))⟩) (fun q1 q2 => ?_)
    rcases hn with q | q
    · exact absurd q q1
    · exact absurd q q2
  rw [nI_clamp (by omega), nI_clamp (by omega)]
  refine ⟨hf, ⟨by omega, hk⟩, s2_isThere _ _ (fun hi => ⟨fun c => absurd c h01, fun _ => ⟨hx, ⟨by omega, by omega⟩, s1_isThere _ _ (fun hi2 => ⟨fun _ => ?_, fun c => absurd c h01⟩) (fun hi2 => ⟨fun c => absurd rfl c, fun _ => none (Or.inr ?_)⟩)⟩⟩) (fun hi => ⟨fun _ => none (Or.inl (tk.mp hi)), fun c => absurd rfl c⟩)⟩
  rotate_left
  · rcases hBB with ⟨_, q⟩ | ⟨d, hN, hC⟩
    · exact q
    · exfalso
      have h6 : 1 ≤ tot d := by
        have a0 := (hN.1 0 (by decide)).1
        have a1 := (hN.1 1 (by decide)).1
        have b1 := Nat.mul_le_mul a0 a1
        unfold tot
        omega
      have et := bc_tot hN.2 hC
      omega
  rcases hBB with ⟨q, _⟩ | ⟨d, hN, hC⟩
  · exfalso
    rw [q, show (0 : Int32).toInt = 0 from rfl] at hi2
    omega
  obtain ⟨hx0, hy0, hs, hpc, hcn⟩ := fig_on hA hk hi
  have h24 := hN.2
  have hd1 : ∀ j, j < 3 → 1 ≤ d j := fun j hj => (hN.1 j hj).1
  have hg := ldG_of h24 hd1 hC
  generalize hge : (fun i => (aI (X (6 + b)) 4 i).toNatClampNeg) = g at hg
  obtain ⟨sc, sw⟩ := sim_wn hd1 hg hs
  have least : ∀ z : Int64, ¬ z = 0 → ∃ m, bt z m = true ∧ ∀ j, j < m → bt z j = false := by
    intro z hz
    obtain ⟨m, _, hm⟩ := bt_some hz
    obtain ⟨m, hk1, hk2⟩ := pk_least (fun k => bt z k = true) ⟨m, hm⟩
    refine ⟨m, hk1, fun j hj => ?_⟩
    cases e : bt z j
    · rfl
    · exact absurd e (hk2 j hj)
  obtain ⟨q0, a1, a2⟩ := least _ hx0
  obtain ⟨q1, b1, b2⟩ := least _ hy0
  have ect := wfB_ct (n := 4 * tot d) (sim_pc hs) (sw hcn q0 q1 a1 b1)
  rw [hC.2.1, show (4 : Int32) = nI 4 from rfl, pk_mul]
  rintro _ rfl
  unfold w8_wholes_b64
  refine lp_up (tot d * 4) (fun z => z.2.1) (fun n z => G8 X z.2.2.2 ∧ z.1 = nI (fb_ct (wfB d g (fJ (X k) 1) q0) n)) (by omega) ?_ (Nat.zero_le _) (rfl : (0 : Int32) = nI 0) (by exact ⟨g8_rf hA.1, rfl⟩)
  rintro K ⟨a, y, Z1, X1⟩ n hn hcc ⟨hG, hI⟩ hK
  try dsimp only at hcc hG hI hK
  subst hcc
  unfold w8_wholes_F64 w8_wholes_d64
  try dsimp only
  refine ⟨fun c => ?_, fun c => ?_⟩
  · have en := nI_end (by omega) hn c
    rw [hI, en, show tot d * 4 = 4 * tot d by omega, ← ect]
    unfold w9_wholes
    refine x9_both hk hb S _ (fun q => ?_) (fun _ _ => ⟨fun _ => x9_wholesL hk hb S b1 b2 (sc.mp hcn) hN hg _ (fun S' hF => h _ _ _ _ (g0 hG hF (by decide) (by decide) (by decide) (by decide))), fun c => absurd r0_pos c⟩)
    exfalso
    rcases q with q | q
    · exact hy0 q
    · have h0 := hN.1 0 (by decide)
      rw [h0.2.2] at q
      exact absurd q (nI_ne0 (by omega) (by omega))
  have hlt := nI_go (by omega) hn c
  have e1 : X1 k = X k := hG.2 k (by omega)
  have e2 : X1 (6 + b) = X (6 + b) := hG.2 (6 + b) (by omega)
  rw [nI_clamp (by omega), nI_clamp (by omega), e1, e2]
  have go : ∀ v Z2 T, v = nI (fb_ct (wfB d g (fJ (X k) 1) q0) (n + 1)) → w8_wholes_b112 (fun y0 y1 y2 y3 => K (y0, y1, y2, y3)) (nI k) (nI b) (nI (tot d * 4)) v (nI n) Z2 (va_up X1 15 T) (fun r1 Z2 X3 => w9_wholes (nI k) (nI b) S (fun r4 S5 => P r1 r4 Z2 X3 S5)) := by
    intro v Z2 T hv
    unfold w8_wholes_b112
    rintro _ rfl
    exact hK (_, _, _, _) hlt (nI_1 n) ⟨g8_tr hG (g8_free hG.1 T (Or.inr (Or.inl rfl))), hv⟩
  refine ⟨hx, hf, ⟨by omega, hk⟩, ⟨by omega, by omega⟩, x6_whole h24 hd1 hC hg a1 a2 (show n < 4 * tot d by omega) hcn _ (fun T hno => ?_) (fun T hp hy => ?_)⟩
  · rintro _ rfl
    refine ⟨fun _ => go _ _ _ ?_, fun c => absurd rfl c⟩
    rw [hI, fb_ct_succ, if_neg (fun q => hno (wfB_iff.mp q))]
    rfl
  · rintro _ rfl
    have go2 : ∀ Z2, w8_wholes_b109 (fun y0 y1 y2 y3 => K (y0, y1, y2, y3)) (nI k) (nI b) (nI (tot d * 4)) a (nI n) Z2 (va_up X1 15 T) (fun r1 Z2 X3 => w9_wholes (nI k) (nI b) S (fun r4 S5 => P r1 r4 Z2 X3 S5)) := by
      intro Z2
      unfold w8_wholes_b109
      rintro _ rfl
      refine go _ _ _ ?_
      rw [hI, fb_ct_succ, if_pos (wfB_iff.mpr ⟨hp, hy⟩), nI_1]
    refine ⟨fun c => absurd c h01, fun _ => ⟨fun _ => go2 _, fun _ => ?_⟩⟩
    rintro _ rfl
    exact go2 _

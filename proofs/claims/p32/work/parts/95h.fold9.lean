/-! ===== pure: folding of the reference, exactly ===== -/
theorem x9_fin {d g : Nat → Nat} {x : Int64} {q0 f0 : Nat} {S S2 : MS} (h24 : tot d ≤ 24) (hJ : JF d g x q0 f0 S S2) (hcn : Cn (bt x)) (hb0 : bt x q0 = true) (hcl : Cl g x S2 64 0) (Q : Int32 → MS → Prop) (h0 : ¬ Fits d g (bt x) q0 f0 → Q 0 S2) (h1 : Fits d g (bt x) q0 f0 → Q 1 S2) : w9_isFolded_b247 x 1 S2 Q := by
  have hall : ∀ q, bt x q = true → dn S2 q := by
    refine hcn (fun q => dn S2 q) ⟨q0, hb0, hJ.2.2.2.1⟩ (fun q w hw hb hn hb2 => ?_)
    have hq := bt_lt hb
    exact (hcl q w hw (Or.inl hq) hq hn hb2).1
  unfold w9_isFolded_b247 w9_isFolded_b253
  refine lp_up 64 (fun z => z.2.2) (fun k z => (z.1 = 1 ∧ (∀ c, c < 24 → (bi z.2.1 c = true ↔ ∃ j, j < k ∧ bt x j = true ∧ fr9 S2 j / 4 = c)) ∧ (∀ j j', j < k → j' < k → bt x j = true → bt x j' = true → fr9 S2 j / 4 = fr9 S2 j' / 4 → j = j')) ∨ (z.1 = 0 ∧ ¬ Fits d g (bt x) q0 f0)) (by decide) ?_ (Nat.zero_le _) (rfl : (0 : Int32) = nI 0) ?_
  rotate_left
  · refine Or.inl ⟨rfl, fun c _ => ⟨fun e => ?_, fun e => ?_⟩, fun j j' hj => absurd hj (Nat.not_lt_zero j)⟩
    · have e : bi 0 c = true := e
      rw [bi_0] at e; exact absurd e (by decide)
    · obtain ⟨j, hj, _⟩ := e
      exact absurd hj (Nat.not_lt_zero j)
  rintro K1 ⟨good, seen, y⟩ k hk hcc hI hK1
  try dsimp only at hcc hI hK1
  subst hcc
  unfold w9_isFolded_F253 w9_isFolded_d253 w9_isFolded_b316 w9_isFolded_b310
  try dsimp only
  rcases hI with ⟨e1, hs, hinj⟩ | ⟨e0, hno⟩
  rotate_left
  · subst e0
    exact ⟨fun _ => ⟨rfl, h0 hno⟩, fun q => ⟨fun _ => ⟨rfl, h0 hno⟩, fun c => absurd rfl c⟩⟩
  subst e1
  refine ⟨fun q => ⟨rfl, h1 ?_⟩, fun q => ⟨fun c => absurd c (by decide), fun _ => ?_⟩⟩
  · have e := nI_end (N := 64) (by decide) hk q
    subst e
    refine ⟨fr9 S2, hJ.2.2.2.2, fun q hq => ?_, fun q w hw hq hb => ?_, fun q q' hq hq' e => hinj q q' (bt_lt hq) (bt_lt hq') hq hq' e⟩
    · obtain ⟨c, t, hc, ht, _, _, e⟩ := Jf_dn hJ.1 h24 (bt_lt hq) (hall q hq)
      rw [e]; omega
    · exact (hcl q w hw (Or.inl (bt_lt hq)) (bt_lt hq) (hall q hq) hb).2
  have hlt := nI_go (N := 64) (by decide) hk q
  refine s9_has _ _ _ (fun hb => ⟨fun c => absurd c (by decide), fun _ => ⟨vp_in_nI hlt (by decide), ?_⟩⟩) (fun hb => ⟨fun _ => ?_, fun c => absurd rfl c⟩)
  rotate_left
  · have hbk : bt x k = false := by
      cases e : bt x k
      · rfl
      · exact absurd ((hasB_iff x hlt).mpr e) hb
    rintro _ rfl
    refine hK1 (_, _, _) hlt (nI_1 k) (Or.inl ⟨rfl, fun c hc => ⟨fun e => ?_, fun e => ?_⟩, fun j j' hj hj' hbj hbj' e => ?_⟩)
    · obtain ⟨j, hj, r⟩ := (hs c hc).mp e
      exact ⟨j, by omega, r⟩
    · obtain ⟨j, hj, hbj, r⟩ := e
      have : ¬ j = k := fun e => by rw [e, hbk] at hbj; exact absurd hbj (by decide)
      exact (hs c hc).mpr ⟨j, by omega, hbj, r⟩
    · have a : ¬ j = k := fun e => by rw [e, hbk] at hbj; exact absurd hbj (by decide)
      have b : ¬ j' = k := fun e => by rw [e, hbk] at hbj'; exact absurd hbj' (by decide)
      exact hinj j j' (by omega) (by omega) hbj hbj' e
  have hbk := (hasB_iff x hlt).mp hb
  obtain ⟨c, t, hc, ht, e12, _, ef⟩ := Jf_dn hJ.1 h24 hlt (hall k hbk)
  have ec : fr9 S2 k / 4 = c := by rw [ef]; omega
  rw [rA_n _ _ (by omega), e12, bi_bit _ (by omega)]
  unfold w9_isFolded_b294 w9_isFolded_b310
  rw [rA_n _ _ (by omega), e12]
  refine ⟨fun cb => ⟨vp_in_nI hlt (by decide), ?_⟩, fun cb => ⟨vp_in_nI hlt (by decide), ?_⟩⟩
  · have hbit : bi seen c = true := by
      cases e : bi seen c
      · rw [if_neg (by rw [e]; decide)] at cb; exact absurd rfl cb
      · rfl
    obtain ⟨j, hj, hbj, ej⟩ := (hs c (by omega)).mp hbit
    rintro _ rfl _ rfl
    refine hK1 (_, _, _) hlt (nI_1 k) (Or.inr ⟨rfl, ?_⟩)
    rintro ⟨φ, hφ⟩
    have a1 := hJ.2.1 φ hφ j (by omega) (hall j hbj)
    have a2 := hJ.2.1 φ hφ k hlt (hall k hbk)
    have := hφ.2.2.2 j k hbj hbk (by rw [a1, a2, ej, ec])
    omega
  · have hbit : bi seen c = false := by
      cases e : bi seen c
      · rfl
      · rw [if_pos e] at cb; exact absurd cb (by decide)
    have hno : ∀ j, j < k → bt x j = true → ¬ fr9 S2 j / 4 = c := fun j hj hbj e => by
      rw [(hs c (by omega)).mpr ⟨j, hj, hbj, e⟩] at hbit
      exact absurd hbit (by decide)
    rintro _ rfl _ rfl
    refine hK1 (_, _, _) hlt (nI_1 k) (Or.inl ⟨rfl, fun c2 hc2 => ?_, fun j j' hj hj' hbj hbj' e => ?_⟩)
    · show bi (seen ||| (1 : Int32) <<< (nI c &&& 31)) c2 = true ↔ _
      rw [bi_or, bi_p2 c (by omega) c2 hc2, Bool.or_eq_true, hs c2 hc2]
      constructor
      · rintro (⟨j, hj, r⟩ | e)
        · exact ⟨j, by omega, r⟩
        · exact ⟨k, by omega, hbk, ec.trans (eq_of_beq e)⟩
      · rintro ⟨j, hj, hbj, e⟩
        by_cases q2 : j = k
        · right
          rw [q2, ec] at e
          exact beq_iff_eq.mpr e
        · exact Or.inl ⟨j, by omega, hbj, e⟩
    · by_cases a : j = k
      · by_cases b : j' = k
        · rw [a, b]
        · rw [a, ec] at e
          exact absurd e.symm (hno j' (by omega) hbj')
      · by_cases b : j' = k
        · rw [b, ec] at e
          exact absurd e (hno j (by omega) hbj)
        · exact hinj j j' (by omega) (by omega) hbj hbj' e
theorem x9_bad {x : Int64} {S2 : MS} (Q : Int32 → MS → Prop) (h : Q 0 S2) : w9_isFolded_b247 x 0 S2 Q := by
  unfold w9_isFolded_b247 w9_isFolded_b253
  refine lp_up 64 (fun z => z.2.2) (fun _ z => z.1 = 0) (by decide) ?_ (Nat.zero_le _) (rfl : (0 : Int32) = nI 0) (by exact rfl)
  rintro K1 ⟨good, seen, y⟩ k hk hcc hI hK1
  try dsimp only at hcc hI hK1
  subst hcc hI
  unfold w9_isFolded_F253 w9_isFolded_d253 w9_isFolded_b316
  try dsimp only
  exact ⟨fun _ => ⟨rfl, h⟩, fun q => ⟨fun _ => ⟨rfl, h⟩, fun c => absurd rfl c⟩⟩
theorem x9_isFolded {b c t q0 : Nat} {d g : Nat → Nat} (x : Int64) (hb0 : bt x q0 = true) (hl0 : ∀ j, j < q0 → bt x j = false) (hcn : Cn (bt x)) (hb : b < 4) (S : MS) (hB : BoxN S b d) (hg : LdG d g) (hc : c < tot d) (ht : t < 4) (Q : Int32 → MS → Prop) (h0 : ∀ S', Fr [8, 9, 10, 11, 12, 13] S S' → ¬ Fits d g (bt x) q0 (4 * c + t) → Q 0 S') (h1 : ∀ S', Fr [8, 9, 10, 11, 12, 13] S S' → Fits d g (bt x) q0 (4 * c + t) → Q 1 S') : w9_isFolded x (nI b) (nI c) (nI t) S Q := by
  have h24 := hB.2
  have hx := bt_ne hb0
  have hd1 : ∀ j, j < 3 → 1 ≤ d j := fun j hj => (hB.1 j hj).1
  unfold w9_isFolded w9_isFolded_b3
  refine lp_up 64 (fun z => z.1) (fun k z => Fr [12] S z.2 ∧ ∀ j, j < k → aI z.2 12 j = -9) (by decide) ?_ (Nat.zero_le _) (rfl : (0 : Int32) = nI 0) (by exact ⟨fr_rf, fun j hj => absurd hj (Nat.not_lt_zero j)⟩)
  rintro K ⟨y, S1⟩ k hk hc1 ⟨hF1, h9⟩ hK
  try dsimp only at hc1 hF1 h9 hK
  subst hc1
  unfold w9_isFolded_F3 w9_isFolded_d3
  try dsimp only
  refine ⟨fun q => ?_, fun q => ?_⟩
  rotate_left
  · have hlt := nI_go (N := 64) (by decide) hk q
    refine ⟨vp_in_nI hlt (by decide), ?_⟩
    rintro _ rfl _ rfl
    refine hK (_, _) hlt (nI_1 k) ⟨fr_tr hF1 (fr_sA (by decide)), fun j hj => ?_⟩
    try dsimp only
    rw [rd_A, nI_clamp (by omega)]
    by_cases e : j = k
    · rw [e, pk_us]
    · rw [pk_un e]; exact h9 j (by omega)
  have ek := nI_end (N := 64) (by decide) hk q
  subst ek
  refine s9_leastOf x hx _ (fun m hm hmb hml => ⟨vp_in_nI hm (by decide), ?_⟩)
  have em : m = q0 := by
    rcases Nat.lt_trichotomy m q0 with r | r | r
    · rw [hl0 m r] at hmb; exact absurd hmb (by decide)
    · exact r
    · rw [hml q0 r] at hb0; exact absurd hb0 (by decide)
  subst em
  rintro _ rfl _ rfl
  have hJ0 : Jf d S S1 := ⟨fr_mono hF1 (by decide), fun k hk => Or.inl (h9 k hk)⟩
  have hJ1 := Jf_put hJ0 hm hc ht
  have p12 : aI (sA (sA S1 12 (nI m) (nI c)) 13 (nI m) (nI t)) 12 = upd (aI S1 12) m (nI c) := by rw [rd_sn _ (by decide), rd_A, nI_clamp (by omega)]
  have p13 : aI (sA (sA S1 12 (nI m) (nI c)) 13 (nI m) (nI t)) 13 = upd (aI S1 13) m (nI t) := by rw [rd_A, rd_sn _ (by decide), nI_clamp (by omega)]
  have hJ1F : JF d g x m (4 * c + t) S (sA (sA S1 12 (nI m) (nI c)) 13 (nI m) (nI t)) := by
    have only : ∀ k, k < 64 → dn (sA (sA S1 12 (nI m) (nI c)) 13 (nI m) (nI t)) k → k = m := by
      intro k hk hn
      by_cases e : k = m
      · exact e
      · exfalso
        apply hn
        rw [p12, pk_un e]; exact h9 k hk
    have efm : fr9 (sA (sA S1 12 (nI m) (nI c)) 13 (nI m) (nI t)) m = 4 * c + t := by
      unfold fr9
      rw [p12, p13, pk_us, pk_us, nI_clamp (by omega), nI_clamp (by omega)]
    refine ⟨hJ1, fun φ hφ k hk hn => ?_, fun k hk hn => ?_, ?_, efm⟩
    · rw [only k hk hn, efm]; exact hφ.1
    · rw [only k hk hn]; exact hmb
    · unfold dn
      rw [p12, pk_us]; exact nI_m9 (by omega)
  clear hJ1 hJ0 p12 p13 hK
  unfold w9_isFolded_b55
  refine lp_of (fun z : Int32 × Int32 × MS => JF d g x m (4 * c + t) S z.2.2 ∧ Gd d g x m (4 * c + t) z.2.1 ∧ (z.1 = 0 → z.2.1 = 1 → Cl g x z.2.2 64 0)) (fun z => if z.1 = 0 then 0 else 1 + ng z.2.2) ?_ (by exact ⟨hJ1F, Or.inl rfl, fun c => absurd c (show ¬ (1 : Int32) = 0 by decide)⟩)
  clear hJ1F
  rintro K ⟨goes, good, S2⟩ ⟨hJ, hgd, hcl⟩ hK
  try dsimp only at hJ hgd hcl hK
  unfold w9_isFolded_F55 w9_isFolded_d55
  try dsimp only
  refine ⟨fun cg => ?_, fun cg => ⟨fun cz => ?_, fun cz => ?_⟩⟩
  · rcases hgd with e | ⟨e, hno⟩
    · rw [e]
      exact x9_fin h24 hJ hcn hmb (hcl cg e) Q (h0 _ hJ.1.1) (h1 _ hJ.1.1)
    · rw [e]
      exact x9_bad Q (h0 _ hJ.1.1 hno)
  · rcases hgd with e | ⟨e, hno⟩
    · rw [e] at cz; exact absurd cz (by decide)
    · rw [e]
      exact x9_bad Q (h0 _ hJ.1.1 hno)
  unfold w9_isFolded_b71
  refine lp_up 64 (fun z => z.2.2.1) (fun k z => JF d g x m (4 * c + t) S z.2.2.2 ∧ Gd d g x m (4 * c + t) z.2.1 ∧ (z.1 = 0 → z.2.1 = 1 → Cl g x z.2.2.2 k 0) ∧ ng z.2.2.2 ≤ ng S2 ∧ (¬ z.1 = 0 → ng z.2.2.2 < ng S2)) (by decide) ?_ (Nat.zero_le _) (rfl : (0 : Int32) = nI 0) (by exact ⟨hJ, hgd, fun _ _ j v _ hj => by omega, Nat.le_refl _, fun c => absurd rfl c⟩)
  rintro K1 ⟨go1, g1, y, S3⟩ k hk hcc ⟨hJ3, hg3, hc3, hn3, hl3⟩ hK1
  try dsimp only at hcc hJ3 hg3 hc3 hn3 hl3 hK1
  subst hcc
  unfold w9_isFolded_F71 w9_isFolded_d71
  try dsimp only
  refine ⟨fun q => hK (_, _, _) ?_ ?_, fun q => ?_⟩
  · have e := nI_end (N := 64) (by decide) hk q
    subst e
    exact ⟨hJ3, hg3, hc3⟩
  · dsimp only
    rw [if_neg cg]
    by_cases e : go1 = 0
    · rw [if_pos e]; omega
    · rw [if_neg e]; have := hl3 e; omega
  have hlt := nI_go (N := 64) (by decide) hk q
  unfold w9_isFolded_b81
  refine lp_up 4 (fun z => z.2.2.1) (fun w z => JF d g x m (4 * c + t) S z.2.2.2 ∧ Gd d g x m (4 * c + t) z.2.1 ∧ (z.1 = 0 → z.2.1 = 1 → Cl g x z.2.2.2 k w) ∧ ng z.2.2.2 ≤ ng S2 ∧ (¬ z.1 = 0 → ng z.2.2.2 < ng S2)) (by decide) ?_ (Nat.zero_le _) (rfl : (0 : Int32) = nI 0) (by exact ⟨hJ3, hg3, hc3, hn3, hl3⟩)
  clear hJ3 hg3 hc3 hn3 hl3
  rintro K2 ⟨go2, g2, y, S4⟩ w hw hcc ⟨hJ4, hg4, hc4, hn4, hl4⟩ hK2
  try dsimp only at hcc hJ4 hg4 hc4 hn4 hl4 hK2
  subst hcc
  unfold w9_isFolded_F81 w9_isFolded_d81 w9_isFolded_b238
  try dsimp only
  have ekk : rA S4 12 (nI k) = aI S4 12 k := rA_n _ _ (by omega)
  -- the square's four ways are done, or need none
  have hend : (w = 4 ∨ ¬ dn S4 k) → ∀ y1 : Int32, y1 = nI k + 1 → K1 (go2, g2, y1, S4) := by
    rintro hwk _ rfl
    refine hK1 (_, _, _, _) hlt (nI_1 k) ⟨hJ4, hg4, fun a b j v hv hj hj64 hn hbv => ?_, hn4, hl4⟩
    refine hc4 a b j v hv ?_ hj64 hn hbv
    rcases Nat.lt_or_ge j k with r | r
    · exact Or.inl r
    · have ej : j = k := by omega
      rcases hwk with r2 | r2
      · exact Or.inr ⟨ej, by omega⟩
      · rw [ej] at hn; exact absurd hn r2
  refine ⟨fun q4 => hend (Or.inl (nI_end (N := 4) (by decide) hw q4)), fun q2 => s9_has _ _ _ (fun hbk => ⟨fun c => absurd c (by decide), fun _ => ⟨vp_in_nI hlt (by decide), fun hneg => hend (Or.inr ?_), fun hneg => ?_⟩⟩) (fun hbk => ⟨fun _ => hend (Or.inr ?_), fun c => absurd rfl c⟩)⟩
  · intro hn
    obtain ⟨c4, t4, hc4', _, e12, _⟩ := Jf_dn hJ4.1 h24 hlt hn
    rw [ekk, e12] at hneg
    exact absurd hneg (nI_pos (by omega))
  rotate_left
  · intro hn
    exact hbk ((hasB_iff x hlt).mpr (hJ4.2.2.1 k hlt hn))
  have hwlt := nI_go (N := 4) (by decide) hw q2
  have hdk : dn S4 k := fun e => hneg (by rw [ekk, e]; decide)
  have hxk := hJ4.2.2.1 k hlt hdk
  obtain ⟨c4, t4, hc4', ht4, e12, e13, ef4⟩ := Jf_dn hJ4.1 h24 hlt hdk
  have hnext : ∀ go5 g5 S5, JF d g x m (4 * c + t) S S5 → Gd d g x m (4 * c + t) g5 → (go5 = 0 → g5 = 1 → Cl g x S5 k (w + 1)) → ng S5 ≤ ng S2 → (¬ go5 = 0 → ng S5 < ng S2) → w9_isFolded_b232 (fun y0 y1 y2 y3 => K2 (y0, y1, y2, y3)) x (nI b) go5 g5 (nI k) (nI w) S5 Q := by
    intro go5 g5 S5 a1 a2 a3 a4 a5
    unfold w9_isFolded_b232
    rintro _ rfl
    exact hK2 (_, _, _, _) hwlt (nI_1 w) ⟨a1, a2, a3, a4, a5⟩
  refine s9_besideN hlt hwlt _ (s9_has _ _ _ (fun hb2 => ⟨fun c => absurd c (by decide), fun _ => ?_⟩) (fun hb2 => ⟨fun _ => hnext _ _ _ hJ4 hg4 (fun a b j v hv hj hj64 hn hbv => ?_) hn4 hl4, fun c => absurd rfl c⟩))
  rotate_left
  · refine hc4 a b j v hv ?_ hj64 hn hbv
    rcases hj with r | ⟨r1, r2⟩
    · exact Or.inl r
    · by_cases e : v = w
      · rw [r1, e] at hbv
        exact absurd ((hasB_sq x _).mpr hbv) hb2
      · exact Or.inr ⟨r1, by omega⟩
  rw [hasB_sq] at hb2
  have hm2 := bt_lt hb2
  rw [sqI_lt hm2, ekk, e12]
  have hB4 : BoxN S4 b d := boxN_fr hJ4.1.1 (by decide) hB
  refine s9_led hb hc4' ht4 hwlt S4 hB4 hg (fun S9 => rA S9 13 (nI k)) (fun S' hF => ?_) _ (fun S5 s' u' p' hs' hu' hF5 hA5 hO5 h11 hcell hturn => ?_)
  · show rA S' 13 (nI k) = _
    rw [rA_n _ _ (by omega), (hF 13 (by decide)).2.2.1]
    exact e13
  rw [← ef4] at hcell hturn
  have hB5 : BoxN S5 b d := boxN_fr hF5 (by decide) hB4
  refine s9_cellNow hb hs' S5 hB5 hA5 (ok_lt hs' (fun j hj => (hB.1 j hj).2.1) hO5) _ ⟨vp_in_nI hm2 (by decide), ?_⟩
  have hcn' := cell_lt hs' hO5
  rw [hcell] at hcn' ⊢
  have hJ5 := JF_fr hJ4 hF5
  have hn5 : ng S5 ≤ ng S2 := by rw [ng_eq (hF5 12 (by decide)).2.2.1]; exact hn4
  have hl5 : ¬ go2 = 0 → ng S5 < ng S2 := by rw [ng_eq (hF5 12 (by decide)).2.2.1]; exact hl4
  have hc5 : go2 = 0 → g2 = 1 → Cl g x S5 k w := fun a b => cl_fr (hc4 a b) hF5
  have ef5 : fr9 S5 k = fr9 S4 k := by unfold fr9; rw [(hF5 12 (by decide)).2.2.1, (hF5 13 (by decide)).2.2.1]
  have hdk5 : dn S5 k := by unfold dn; rw [(hF5 12 (by decide)).2.2.1]; exact hdk
  have hphi : ∀ φ, FB d g (bt x) m (4 * c + t) φ → φ (bs k w) = led g (fr9 S5 k) w := fun φ hφ => by
    rw [hφ.2.2.1 k w hwlt hxk hb2, hJ5.2.1 φ hφ k hlt hdk5]
  rw [← ef5] at hcell hturn hcn' ⊢
  -- the comparing, where the square beside has its frame already
  have k194 : dn S5 (bs k w) → w9_isFolded_b194 (fun y0 y1 y2 y3 => K2 (y0, y1, y2, y3)) x (nI b) go2 g2 (nI k) (nI w) (nI (bs k w)) (nI (led g (fr9 S5 k) w / 4)) S5 Q := by
    intro hdn
    obtain ⟨c6, t6, hc6, ht6, a12, a13, af⟩ := Jf_dn hJ5.1 h24 hm2 hdn
    unfold w9_isFolded_b194 w9_isFolded_b229 w9_isFolded_b230
    have bad : ¬ Fits d g (bt x) m (4 * c + t) → w9_isFolded_b232 (fun y0 y1 y2 y3 => K2 (y0, y1, y2, y3)) x (nI b) go2 0 (nI k) (nI w) S5 Q := fun hno => hnext _ _ _ hJ5 (Or.inr ⟨rfl, hno⟩) (fun _ c => absurd c (by decide)) hn5 hl5
    rw [rA_n _ _ (by omega), rA_n _ _ (by omega), a12, a13, nI_eq (by omega) (by omega)]
    refine ⟨fun cz => bad ?_, fun cz => ⟨vp_in_nI hm2 (by decide), fun cne => bad ?_, fun ceq => ?_⟩⟩
    · rcases hg4 with e | ⟨_, hno⟩
      · rw [e] at cz; exact absurd cz (by decide)
      · exact hno
    · rintro ⟨φ, hφ⟩
      have e1 := hphi φ hφ
      have e2 := hJ5.2.1 φ hφ _ hm2 hdn
      rw [e1, af] at e2
      exact cne (by omega)
    · refine x9_turnNow hs' hu' S5 hA5.1 h11 _ ?_
      rw [hturn, nI_eq (by omega) (by omega)]
      refine ⟨fun cne => bad ?_, fun ceq2 => hnext _ _ _ hJ5 (Or.inl rfl) (fun a _ j v hv hj hj64 hn hbv => ?_) hn5 hl5⟩
      · rintro ⟨φ, hφ⟩
        have e1 := hphi φ hφ
        have e2 := hJ5.2.1 φ hφ _ hm2 hdn
        rw [e1, af] at e2
        exact cne (by omega)
      · have hg1 : g2 = 1 := by
          rcases hg4 with e | ⟨e, _⟩
          · exact e
          · exact absurd e cz
        rcases hj with r | ⟨r1, r2⟩
        · exact hc5 a hg1 j v hv (Or.inl r) hj64 hn hbv
        · by_cases e : v = w
          · rw [r1, e]
            exact ⟨hdn, by rw [af]; omega⟩
          · exact hc5 a hg1 j v hv (Or.inr ⟨r1, by omega⟩) hj64 hn hbv
  rw [rA_n _ _ (by omega)]
  refine ⟨fun cpos => k194 (fun e => by rw [e] at cpos; exact absurd cpos (by decide)), fun cneg => ?_⟩
  rintro _ rfl
  have h9m : aI S5 12 (bs k w) = -9 := by
    rcases hJ5.1.2 _ hm2 with q | ⟨c6, t6, hc6, _, q, _⟩
    · exact q
    · exfalso
      apply cneg
      rw [q]
      exact nI_pos' (by omega)
  have hne0 : ¬ bs k w = m := fun e => hJ5.2.2.2.1 (by rw [← e]; exact h9m)
  have hnek : ¬ bs k w = k := fun e => hdk5 (by rw [← e]; exact h9m)
  refine x9_turnNow hs' hu' _ (show fI (sA S5 12 (nI (bs k w)) (nI (led g (fr9 S5 k) w / 4))) 8 = nI s' from (fi_sA _ _ _ _ _).trans hA5.1) ((fi_sA _ _ _ _ _).trans h11) _ ?_
  rw [hturn]
  rintro _ rfl
  have q12 : aI (sA (sA S5 12 (nI (bs k w)) (nI (led g (fr9 S5 k) w / 4))) 13 (nI (bs k w)) (nI (led g (fr9 S5 k) w % 4))) 12 = upd (aI S5 12) (bs k w) (nI (led g (fr9 S5 k) w / 4)) := by rw [rd_sn _ (by decide), rd_A, nI_clamp (by omega)]
  have q13 : aI (sA (sA S5 12 (nI (bs k w)) (nI (led g (fr9 S5 k) w / 4))) 13 (nI (bs k w)) (nI (led g (fr9 S5 k) w % 4))) 13 = upd (aI S5 13) (bs k w) (nI (led g (fr9 S5 k) w % 4)) := by rw [rd_A, rd_sn _ (by decide), nI_clamp (by omega)]
  have hJf6 := Jf_put hJ5.1 hm2 hcn' (show led g (fr9 S5 k) w % 4 < 4 by omega)
  have q8 : fI (sA (sA S5 12 (nI (bs k w)) (nI (led g (fr9 S5 k) w / 4))) 13 (nI (bs k w)) (nI (led g (fr9 S5 k) w % 4))) 8 = nI s' := (fi_sA _ _ _ _ _).trans ((fi_sA _ _ _ _ _).trans hA5.1)
  have q11 : fI (sA (sA S5 12 (nI (bs k w)) (nI (led g (fr9 S5 k) w / 4))) 13 (nI (bs k w)) (nI (led g (fr9 S5 k) w % 4))) 11 = nI u' := (fi_sA _ _ _ _ _).trans ((fi_sA _ _ _ _ _).trans h11)
  have hlt6 : ng (sA (sA S5 12 (nI (bs k w)) (nI (led g (fr9 S5 k) w / 4))) 13 (nI (bs k w)) (nI (led g (fr9 S5 k) w % 4))) < ng S5 := ng_put (c := led g (fr9 S5 k) w / 4) hm2 (by omega) h9m q12
  generalize sA (sA S5 12 (nI (bs k w)) (nI (led g (fr9 S5 k) w / 4))) 13 (nI (bs k w)) (nI (led g (fr9 S5 k) w % 4)) = S6 at q12 q13 hJf6 q8 q11 hlt6 ⊢
  have f_new : fr9 S6 (bs k w) = led g (fr9 S5 k) w := by
    unfold fr9
    rw [q12, q13, pk_us, pk_us, nI_clamp (by omega), nI_clamp (by omega)]
    unfold fr9
    omega
  have f_old : ∀ j, ¬ j = bs k w → fr9 S6 j = fr9 S5 j ∧ (dn S6 j ↔ dn S5 j) := fun j hj => by
    unfold fr9 dn
    rw [q12, q13, pk_un hj, pk_un hj]
    exact ⟨rfl, Iff.rfl⟩
  have hJ6 : JF d g x m (4 * c + t) S S6 := by
    refine ⟨hJf6, fun φ hφ j hj hn => ?_, fun j hj hn => ?_, ?_, ?_⟩
    · by_cases e : j = bs k w
      · rw [e, f_new]; exact hphi φ hφ
      · rw [(f_old j e).1]; exact hJ5.2.1 φ hφ j hj ((f_old j e).2.mp hn)
    · by_cases e : j = bs k w
      · rw [e]; exact hb2
      · exact hJ5.2.2.1 j hj ((f_old j e).2.mp hn)
    · exact (f_old m (fun e => hne0 e.symm)).2.mpr hJ5.2.2.2.1
    · rw [(f_old m (fun e => hne0 e.symm)).1]; exact hJ5.2.2.2.2
  unfold w9_isFolded_b194 w9_isFolded_b229 w9_isFolded_b230
  rw [rA_n _ _ (by omega), rA_n _ _ (by omega), q12, q13, pk_us, pk_us]
  refine ⟨fun cz => hnext _ _ _ hJ6 ?_ (fun c => absurd c (by decide)) (by omega) (fun _ => by omega), fun cz => ⟨vp_in_nI hm2 (by decide), fun cne => absurd rfl cne, fun _ => x9_turnNow hs' hu' S6 q8 q11 _ ?_⟩⟩
  · rcases hg4 with e | ⟨_, hno⟩
    · rw [e] at cz; exact absurd cz (by decide)
    · exact Or.inr ⟨rfl, hno⟩
  · rw [hturn]
    exact ⟨fun cne => absurd rfl cne, fun _ => hnext _ _ _ hJ6 (Or.inl rfl) (fun c => absurd c (by decide)) (by omega) (fun _ => by omega)⟩

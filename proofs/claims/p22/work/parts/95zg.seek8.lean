/-! ===== pure: seeking gluings: the class ===== -/
theorem x3_isLegal {n : Nat} {p T a : Nat → Nat} (S : MS) (hn : n ≤ 50) (e7 : fI S 7 = nI n) (hL : Lab n p T) (ha : ∀ k, k < n → 1 ≤ a k ∧ a k ≤ 3) (h1 : ∀ j, j < n → aI S 1 j = nI (T j)) (h2 : ∀ l, l < n → T l = l → aI S 2 l = nI (csm n T a l)) (Q : Int32 → Prop) (hy : (∀ i, i < n → csm n T a i ≤ 4) → Q 1) (hno : (¬ ∀ i, i < n → csm n T a i ≤ 4) → Q 0) : w3_isLegal S Q := by
  unfold w3_isLegal w3_isLegal_b2
  refine lp_up n (fun z => z) (fun i _ => ∀ j, j < i → csm n T a j ≤ 4) (by omega) ?_ (Nat.zero_le _) (rfl : (0 : Int32) = nI 0) (by exact fun j hj => absurd hj (Nat.not_lt_zero j))
  rintro K y i hi hcc hI hK
  try dsimp only at hcc hI hK
  subst hcc
  unfold w3_isLegal_F2 w3_isLegal_d2 w3_isLegal_b32
  try dsimp only
  rw [e7]
  refine ⟨fun c => ?_, fun c => ?_⟩
  · have ei := nI_end (by omega) hi c
    subst ei
    exact hy hI
  have hlt := nI_go (by omega) hi c
  have hTi := hL.1 i hlt
  have hgo : csm n T a i ≤ 4 → ∀ y1 : Int32, y1 = nI i + 1 → K y1 := by
    rintro hc _ rfl
    refine hK _ hlt (nI_1 i) (fun j hj => ?_)
    rcases Nat.lt_or_ge j i with q | q
    · exact hI j q
    · have ej : j = i := by omega
      rw [ej]; exact hc
  have hbd : csm n T a i ≤ 3 * n := by
    unfold csm
    have := fb_sm_bound (n := n) (c := 3) (f := fun k => if T k = i then a k else 0) (fun k hk => by
      have := ha k hk
      try dsimp only
      split <;> omega)
    omega
  have hpos := csm_pos hL (fun k hk => (ha k hk).1) hlt
  rw [rA_n _ 1 (by omega), h1 i hlt, nI_eq (by omega) (by omega), rA_n _ 2 (by omega)]
  refine ⟨vp_in_nI (by omega) (by decide), fun cn => hgo ?_, fun cy => ?_⟩
  · have : ¬ 0 < csm n T a i := fun q => cn (hpos.mp q)
    omega
  · rw [h2 i hlt cy]
    refine ⟨fun c4 => hgo ?_, fun c4 => hno (fun q => c4 ?_)⟩
    · exact (nI_leI (a := csm n T a i) (b := 4) (by omega) (by decide)).mp c4
    · exact nI_le (q i hlt) (by decide)
theorem x3_judge {n Lg : Nat} {P a : Nat → Nat} (S V : MS) (hn : n ≤ 50) (h1n : 1 ≤ n) (e7 : fI S 7 = nI n) (e3 : fI V 3 = nI n) (ha : ∀ k, k < n → 1 ≤ a k ∧ a k ≤ 3) (eA : ∀ k, k < n → aI V 1 k = nI (a k)) (hG : Glu n P) (hP : ∀ k, k < n → aI S 0 k = pv (P k)) (e9 : fI S 9 = nI Lg) (Q : MS → Prop) (h : ∀ S', Fr [1, 2, 3, 4, 9] S S' → fI S' 9 = nI (Lg + if JB n a P then 1 else 0) → Q S') : w3_judge S V Q := by
  have k59 : ∀ S1, Fr [1, 2, 3, 4] S S1 → JL n a P → w3_judge_b59 S1 V Q := by
    intro S1 hF hj
    unfold w3_judge_b59
    rintro _ rfl
    refine h _ (fr_tr (fr_mono hF (by decide)) (fr_sI (by decide))) ?_
    rw [rd_fI, (hF 9 (by decide)).1, e9, if_pos (jb_iff.mpr hj), nI_1]
  have e9' : ¬ JL n a P → ∀ S1, Fr [1, 2, 3, 4] S S1 → Q S1 := by
    intro hj S1 hF
    refine h S1 (fr_mono hF (by decide)) ?_
    rw [(hF 9 (by decide)).1, e9, if_neg (fun q => hj (jb_iff.mp q)), Nat.add_zero]
  unfold w3_judge
  refine x3_gather (p := P) (a := a) S V hn e7 e3 eA (fun i hi => ⟨(hG i hi).1, by rw [hP i hi, pv_n (by have := (hG i hi).1; omega)]⟩) _ (fun S1 T hF1 hTL hT1 hT2 => ?_)
  have hTL' : TL n P T := by
    rcases hTL with q | q
    · omega
    · exact q
  have hLab := tl_lab hG hTL'
  refine x3_isLegal S1 hn (fr_ok hF1 (by decide) e7) hLab ha hT1 hT2 _ (fun hy => ⟨fun _ => ⟨fun _ => k59 _ (fr_mono hF1 (by decide)) ((jl_of hLab).mpr hy), fun _ => ⟨by decide, ?_⟩⟩, fun c => absurd c (by decide)⟩) (fun hno => ⟨fun c => absurd rfl c, fun _ => e9' (fun w => hno ((jl_of hLab).mp w)) _ (fr_mono hF1 (by decide))⟩)
  rintro _ rfl
  unfold w3_judge_b37
  refine lp_up 5 (fun z => z.1) (fun _ z => Fr [1, 2, 3, 4] S z.2) (by decide) ?_ (by decide) (rfl : (1 : Int32) = nI 1) (by exact fr_tr (fr_mono hF1 (by decide)) (fr_pA (by decide)))
  rintro K ⟨y, S2⟩ k hk hcc hF2 hK
  try dsimp only at hcc hF2 hK
  subst hcc
  unfold w3_judge_F37 w3_judge_d37
  try dsimp only
  refine ⟨fun _ => k59 _ hF2 ((jl_of hLab).mpr hy), fun c => t3_cornersWith _ _ hn (fr_ok hF2 (by decide) e7) _ (fun r => ?_)⟩
  have hlt : k < 5 := by
    rcases Nat.lt_or_ge k 5 with q | q
    · exact q
    · exact absurd (nI_lt (a := 4) (b := k) (by omega) (by omega)) c
  refine ⟨vp_in_nI hlt (by decide), ?_⟩
  rintro _ rfl _ rfl
  exact hK (_, _) hlt (nI_1 k) (fr_tr hF2 (fr_sA (by decide)))
theorem x3_isFree {n i : Nat} {P : Nat → Nat} (S : MS) (hn : n ≤ 50) (hi : i < n) (hPb : ∀ k, k < n → P k = 99 ∨ P k < n) (hP : ∀ k, k < n → aI S 0 k = pv (P k)) (Q : Int32 → Prop) (h1 : P i = 99 → Q 1) (h0 : ¬ P i = 99 → Q 0) : w3_isFree (nI i) S Q := by
  unfold w3_isFree w3_isFree_b25 w3_isFree_b26
  have hb : P i < 2 ^ 31 := by
    rcases hPb i hi with q | q <;> omega
  rw [rA_n _ 0 (by omega), hP i hi, pv_9 hb]
  refine ⟨fun c => absurd c (nI_pos (by omega)), fun _ => ⟨fun c => ?_, fun _ => ⟨vp_in_nI (by omega) (by decide), fun c => ⟨rfl, h0 c⟩, fun c => ⟨rfl, h1 c⟩⟩⟩⟩
  have := (nI_leI (a := 50) (b := i) (by decide) (by omega)).mp c
  omega
/-- what the search leaves: all was tried, or the tries were not enough -/
def Dn3 (N T Lg tt ll : Nat) (S' : MS) : Prop := (T + tt ≤ N ∧ fI S' 12 = 0 ∧ fI S' 10 = nI (T + tt) ∧ fI S' 9 = nI (Lg + ll)) ∨ (N < T + tt ∧ fI S' 12 = 1 ∧ fI S' 10 = nI N)
set_option maxHeartbeats 2000000 in
theorem x3_pairFrom {n N : Nat} {a : Nat → Nat} (V : MS) (hn : n ≤ 50) (h1n : 1 ≤ n) (hN : N ≤ 20000) (e3 : fI V 3 = nI n) (ha : ∀ k, k < n → 1 ≤ a k ∧ a k ≤ 3) (eA : ∀ k, k < n → aI V 1 k = nI (a k)) : ∀ (m k : Nat), k ≤ 25 → 26 ≤ m + k → ∀ (f : Nat), f + k = 30 → ∀ (a0 : Nat) (P : Nat → Nat), PI n P → cpr n P = 2 * k → (∀ j, j < a0 → ¬ P j = 99) → a0 ≤ n → ∀ (T Lg : Nat) (S : MS), T ≤ N → fI S 7 = nI n → fI S 11 = nI N → fI S 10 = nI T → fI S 9 = nI Lg → fI S 12 = 0 → (∀ j, j < n → aI S 0 j = pv (P j)) → ∀ (Q : MS → Prop), (∀ S', Fr [0, 1, 2, 3, 4, 9, 10, 12] S S' → (∀ j, j < n → aI S' 0 j = pv (P j)) → Dn3 N T Lg (VV n 1 (fun _ => false) f P) (VV n 0 (JB n a) f P) S' → Q S') → w3_pairFrom m (nI a0) (nI k) S V Q := by
  intro m
  induction m with
  | zero => intro k hk hm; omega
  | succ m ih =>
    intro k hk hm f hfk a0 P hPI hcp ha0 ha0n T Lg S hT e7 e11 e10 e9 e12 hP Q h
    have h01 : ¬ (1 : Int32) = 0 := by decide
    have hPb : ∀ k, k < n → P k = 99 ∨ P k < n := fun k hk => by
      rcases hPI k hk with q | q
      · exact Or.inl q
      · exact Or.inr q.1
    obtain ⟨f, rfl⟩ : ∃ f', f = f' + 1 := ⟨f - 1, by omega⟩
    show w3_pairFrom_r (w3_pairFrom m) (nI a0) (nI k) S V Q
    unfold w3_pairFrom_r w3_pairFrom_b3
    refine lp_up n (fun z => z) (fun i _ => a0 ≤ i ∧ ∀ j, j < i → ¬ P j = 99) (by omega) ?_ ha0n (rfl : nI a0 = nI a0) (by exact ⟨Nat.le_refl _, ha0⟩)
    rintro K y i hi hcc ⟨hai, hno⟩ hK
    try dsimp only at hcc hK
    subst hcc
    -- the least free edge is found: i
    have k27 : (i < n → P i = 99) → w3_pairFrom_b27 (w3_pairFrom m) (nI k) (nI i) S V Q := by
      intro hfree
      have elf : i = lf P n := lf_one hi hno hfree
      unfold w3_pairFrom_b27
      rw [e7]
      refine ⟨fun ci => ?_, fun ci => ?_⟩
      rotate_left
      · have hin : ¬ i < n := fun q => ci (nI_lt q (by omega))
        have hl : ¬ lf P n < n := by omega
        have hG := pi_glu hPI hl
        refine x3_judge S V hn h1n e7 e3 ha eA hG hP e9 _ (fun S' hF h9 => h S' (fr_mono hF (by decide)) (fun j hj => by rw [(hF 0 (by decide)).2.2.1]; exact hP j hj) ?_)
        have v1 : VV n 1 (fun _ => false) (f + 1) P = 0 := by
          show (if lf P n < n then _ else if (fun _ => false) P = true then 1 else 0) = 0
          rw [if_neg hl]
          rfl
        have v2 : VV n 0 (JB n a) (f + 1) P = if JB n a P then 1 else 0 := by
          show (if lf P n < n then _ else if JB n a P = true then 1 else 0) = _
          rw [if_neg hl]
        rw [v1, v2]
        exact Or.inl ⟨by omega, (hF 12 (by decide)).1.trans e12, (hF 10 (by decide)).1.trans e10, h9⟩
      have hie := (nI_ltI (a := i) (b := n) (by omega) (by omega)).mp ci
      have hil : lf P n < n := by omega
      have hcl := cpr_le n P
      have hk25 : k < 25 := by
        have h2 := fb_ct_sub (p := fun j => decide (¬ P j = 99)) (q := fun j => if j = i then false else true) (n := n) (fun j hj w => by
          try dsimp only
          by_cases q : j = i
          · rw [q] at w
            exact absurd (hfree hie) (of_decide_eq_true w)
          · rw [if_neg q])
        have h3 := fb_ct_upd (n := n) (fun _ => true) false hie
        have h4 : fb_ct (fun _ => true) n = n := fb_ct_all.mpr (fun _ _ => rfl)
        rw [if_pos rfl, if_neg (by decide)] at h3
        unfold cpr at hcp
        try dsimp only at h2 h3
        omega
      refine ⟨fun _ => ?_, fun c => absurd (nI_lt hk25 (by decide)) c⟩
      rw [nI_1]
      rintro _ rfl
      unfold w3_pairFrom_b55
      -- tries and ends so far: those below w
      have hv1 := rs_all (c := 1) (J := fun _ => false) (f := f) hil
      have hv2 := rs_all (c := 0) (J := JB n a) (f := f) hil
      rw [← elf] at hv1 hv2
      refine lp_up n (fun z => z.1) (fun w z => i < w ∧ (∀ j, i < j → j < w → P j = 99) ∧ Fr [0, 1, 2, 3, 4, 9, 10, 12] S z.2 ∧ (∀ j, j < n → aI z.2 0 j = pv (P j)) ∧ ((∃ t l, t + RS n 1 (fun _ => false) f P i w = VV n 1 (fun _ => false) (f + 1) P ∧ l + RS n 0 (JB n a) f P i w = VV n 0 (JB n a) (f + 1) P ∧ T + t ≤ N ∧ fI z.2 12 = 0 ∧ fI z.2 10 = nI (T + t) ∧ fI z.2 9 = nI (Lg + l)) ∨ (N < T + VV n 1 (fun _ => false) (f + 1) P ∧ fI z.2 12 = 1 ∧ fI z.2 10 = nI N))) (by omega) ?_ (k0 := i + 1) (by omega) rfl (by
        refine ⟨by omega, fun j q1 q2 => by omega, fr_rf, hP, Or.inl ⟨0, 0, ?_, ?_, by omega, e12, e10, e9⟩⟩
        · rw [Nat.zero_add, ← hv1]
          unfold RS
          rw [sm_from (f := fun t => if opt n P i t then 1 + VV n 1 (fun _ => false) f (u2 P i t) else 0) hie]
          try dsimp only
          rw [if_neg (fun w => by have := (opt_iff.mp w).1; omega), Nat.zero_add]
        · rw [Nat.zero_add, ← hv2]
          unfold RS
          rw [sm_from (f := fun t => if opt n P i t then 0 + VV n 0 (JB n a) f (u2 P i t) else 0) hie]
          try dsimp only
          rw [if_neg (fun w => by have := (opt_iff.mp w).1; omega), Nat.zero_add])
      rintro K2 ⟨y, S2⟩ w hw hcc ⟨hiw, hfr, hF2, hP2, hst⟩ hK2
      try dsimp only at hcc hF2 hP2 hst hK2
      subst hcc
      have e72 := fr_ok hF2 (by decide) e7
      have e112 : fI S2 11 = nI N := (hF2 11 (by decide)).1.trans e11
      unfold w3_pairFrom_F55 w3_pairFrom_d55 w3_pairFrom_b164
      try dsimp only
      rw [e72]
      -- nothing more to come at this node
      have fin : (∀ t, w ≤ t → ¬ Opt n P i t) → Q S2 := by
        intro hnone
        refine h S2 hF2 hP2 ?_
        have z1 : RS n 1 (fun _ => false) f P i w = 0 := by
          unfold RS
          exact sm_none (f := fun t => if opt n P i t then 1 + VV n 1 (fun _ => false) f (u2 P i t) else 0) (fun t _ q => if_neg (fun w2 => hnone t q (opt_iff.mp w2)))
        have z2 : RS n 0 (JB n a) f P i w = 0 := by
          unfold RS
          exact sm_none (f := fun t => if opt n P i t then 0 + VV n 0 (JB n a) f (u2 P i t) else 0) (fun t _ q => if_neg (fun w2 => hnone t q (opt_iff.mp w2)))
        rcases hst with ⟨t, l, q1, q2, q3, q4, q5, q6⟩ | q
        · rw [z1, Nat.add_zero] at q1
          rw [z2, Nat.add_zero] at q2
          rw [q1] at q3 q5
          rw [q2] at q6
          exact Or.inl ⟨q3, q4, q5, q6⟩
        · exact Or.inr q
      refine ⟨fun c => fin (fun t q o => ?_), fun c => ?_⟩
      · have := nI_end (by omega) hw c
        have := o.2.1
        omega
      have hlt := nI_go (by omega) hw c
      have k158 : ∀ S3, Fr [0, 1, 2, 3, 4, 9, 10, 12] S S3 → P w = 99 → (∀ j, j < n → aI S3 0 j = pv (P j)) → ((∃ t l, t + RS n 1 (fun _ => false) f P i (w + 1) = VV n 1 (fun _ => false) (f + 1) P ∧ l + RS n 0 (JB n a) f P i (w + 1) = VV n 0 (JB n a) (f + 1) P ∧ T + t ≤ N ∧ fI S3 12 = 0 ∧ fI S3 10 = nI (T + t) ∧ fI S3 9 = nI (Lg + l)) ∨ (N < T + VV n 1 (fun _ => false) (f + 1) P ∧ fI S3 12 = 1 ∧ fI S3 10 = nI N)) → w3_pairFrom_b158 (w3_pairFrom m) (fun y0 y1 => K2 (y0, y1)) (nI k) (nI i) (nI w) S3 V Q := by
        intro S3 hF3 hPw hP3 hst3
        unfold w3_pairFrom_b158
        rintro _ rfl
        refine hK2 (_, _) hlt (nI_1 w) ⟨by omega, fun j q1 q2 => ?_, hF3, hP3, hst3⟩
        rcases Nat.lt_or_ge j w with q | q
        · exact hfr j q1 q
        · have ej : j = w := by omega
          rw [ej]; exact hPw
      refine x3_isFree S2 hn hlt hPb hP2 _ (fun hPw => ⟨fun c => absurd c h01, fun _ => ⟨fun cs => ?_, fun cs => ?_⟩⟩) (fun hPw => ⟨fun _ => fin (fun t q o => hPw (o.2.2.2 w hiw q)), fun c => absurd rfl c⟩)
      · -- spent
        rcases hst with ⟨t, l, _, _, _, q4, _⟩ | q
        · exact absurd q4 cs
        · exact h S2 hF2 hP2 (Or.inr q)
      obtain ⟨t, l, q1, q2, q3, q4, q5, q6⟩ : ∃ t l, t + RS n 1 (fun _ => false) f P i w = VV n 1 (fun _ => false) (f + 1) P ∧ l + RS n 0 (JB n a) f P i w = VV n 0 (JB n a) (f + 1) P ∧ T + t ≤ N ∧ fI S2 12 = 0 ∧ fI S2 10 = nI (T + t) ∧ fI S2 9 = nI (Lg + l) := by
        rcases hst with q | ⟨_, q, _⟩
        · exact q
        · rw [cs] at q; exact absurd q.symm h01
      have r1 : RS n 1 (fun _ => false) f P i w = (if opt n P i w then 1 + VV n 1 (fun _ => false) f (u2 P i w) else 0) + RS n 1 (fun _ => false) f P i (w + 1) := by
        unfold RS
        exact sm_from (f := fun t => if opt n P i t then 1 + VV n 1 (fun _ => false) f (u2 P i t) else 0) hlt
      have r2 : RS n 0 (JB n a) f P i w = (if opt n P i w then 0 + VV n 0 (JB n a) f (u2 P i w) else 0) + RS n 0 (JB n a) f P i (w + 1) := by
        unfold RS
        exact sm_from (f := fun t => if opt n P i t then 0 + VV n 0 (JB n a) f (u2 P i t) else 0) hlt
      rw [show nI w - nI i = nI (w - i) from pk_sub (by omega), and_1 (by omega)]
      unfold w3_pairFrom_b96
      refine ⟨fun cp => ⟨fun _ => ?_, fun c => absurd rfl c⟩, fun cp => ⟨fun c => absurd c h01, fun _ => ?_⟩⟩
      · -- an odd number between
        have hodd : ¬ (w - i) % 2 = 1 := fun q => cp (by rw [q]; rfl)
        have hno2 : ¬ opt n P i w = true := fun q => hodd (opt_iff.mp q).2.2.1
        rw [if_neg hno2, Nat.zero_add] at r1 r2
        exact k158 S2 hF2 hPw hP2 (Or.inl ⟨t, l, by rw [← r1]; exact q1, by rw [← r2]; exact q2, q3, q4, q5, q6⟩)
      have hodd : (w - i) % 2 = 1 := (nI_eq (b := 1) (by omega) (by decide)).mp cp
      have hopt : Opt n P i w := ⟨hiw, hlt, hodd, fun j q1 q2 => by
        rcases Nat.lt_or_ge j w with q | q
        · exact hfr j q1 q
        · have ej : j = w := by omega
          rw [ej]; exact hPw⟩
      rw [if_pos (opt_iff.mpr hopt)] at r1 r2
      unfold w3_countTry
      rw [q5, e112]
      refine ⟨fun cT => ?_, fun cT => ?_⟩
      rotate_left
      · -- the tries were not enough
        have hNt : ¬ T + t < N := fun q => cT (nI_lt q (by omega))
        rintro _ rfl
        refine ⟨fun _ => ?_, fun c => absurd rfl c⟩
        refine k158 _ (fr_tr hF2 (fr_sI (by decide))) hPw (fun j hj => hP2 j hj) (Or.inr ⟨by omega, rd_fI _ _ _, ?_⟩)
        rw [((fr_sI (ks := [12]) (by decide)) 10 (by decide)).1, q5, show T + t = N by omega]
      have hTN := (nI_ltI (a := T + t) (b := N) (by omega) (by omega)).mp cT
      rw [nI_1]
      rintro _ rfl
      refine ⟨fun c => absurd c h01, fun _ => ⟨vp_in_nI (by omega) (by decide), ?_⟩⟩
      rintro _ rfl
      refine ⟨vp_in_nI (by omega) (by decide), ?_⟩
      rintro _ rfl
      have hFa : Fr [0, 10] S2 (sA (sA (sI S2 10 (nI (T + t + 1))) 0 (nI i) (nI w)) 0 (nI w) (nI i)) := fr_tr (fr_sI (by decide)) (fr_tr (fr_sA (by decide)) (fr_sA (by decide)))
      have b10 : fI (sA (sA (sI S2 10 (nI (T + t + 1))) 0 (nI i) (nI w)) 0 (nI w) (nI i)) 10 = nI (T + t + 1) := (fi_sA _ _ _ _ _).trans ((fi_sA _ _ _ _ _).trans (rd_fI _ _ _))
      have bP : ∀ j, j < n → aI (sA (sA (sI S2 10 (nI (T + t + 1))) 0 (nI i) (nI w)) 0 (nI w) (nI i)) 0 j = pv (u2 P i w j) := by
        intro j hj
        rw [rd_A, rd_A, nI_clamp (by omega), nI_clamp (by omega)]
        unfold u2
        by_cases c1 : j = w
        · rw [c1, pk_us, if_neg (by omega), if_pos rfl, pv_n (by omega)]
        · rw [pk_un c1]
          by_cases c2 : j = i
          · rw [c2, pk_us, if_pos rfl, pv_n (by omega)]
          · rw [pk_un c2, if_neg c2, if_neg c1]
            exact hP2 j hj
      generalize sA (sA (sI S2 10 (nI (T + t + 1))) 0 (nI i) (nI w)) 0 (nI w) (nI i) = S3 at hFa b10 bP
      rw [nI_1, nI_1]
      have hPI3 : PI n (u2 P i w) := by
        have := pi_u2 (n := n) (t := w) (by omega) hPI hil (by rw [← elf]; exact hopt)
        rw [← elf] at this
        exact this
      have hcp3 : cpr n (u2 P i w) = 2 * (k + 1) := by
        rw [cpr_u2 (by omega) hie hlt (by omega) (hfree hie) hPw, hcp]
        omega
      refine ih (k + 1) (by omega) (by omega) f (by omega) (i + 1) (u2 P i w) hPI3 hcp3 (fun j hj => ?_) (by omega) (T + t + 1) (Lg + l) S3 (by omega) ((hFa 7 (by decide)).1.trans e72) ((hFa 11 (by decide)).1.trans e112) b10 ((hFa 9 (by decide)).1.trans q6) ((hFa 12 (by decide)).1.trans q4) bP _ (fun S4 hF4 hP4 hd => ?_)
      · unfold u2
        by_cases c1 : j = i
        · rw [if_pos c1]; omega
        · rw [if_neg c1, if_neg (by omega)]
          exact hno j (by omega)
      rintro _ rfl _ rfl
      have hF5 : Fr [0, 1, 2, 3, 4, 9, 10, 12] S (sA (sA S4 0 (nI i) (-9)) 0 (nI w) (-9)) := fr_tr hF2 (fr_tr (fr_mono hFa (by decide)) (fr_tr hF4 (fr_tr (fr_sA (by decide)) (fr_sA (by decide)))))
      refine k158 _ hF5 hPw (fun j hj => ?_) ?_
      · rw [rd_A, rd_A, nI_clamp (by omega), nI_clamp (by omega)]
        by_cases c1 : j = w
        · rw [c1, pk_us, hPw]; rfl
        · rw [pk_un c1]
          by_cases c2 : j = i
          · rw [c2, pk_us, hfree hie]; rfl
          · rw [pk_un c2, hP4 j hj]
            unfold u2
            rw [if_neg c2, if_neg c1]
      · rw [show fI (sA (sA S4 0 (nI i) (-9)) 0 (nI w) (-9)) 12 = fI S4 12 from (fi_sA _ _ _ _ _).trans (fi_sA _ _ _ _ _), show fI (sA (sA S4 0 (nI i) (-9)) 0 (nI w) (-9)) 10 = fI S4 10 from (fi_sA _ _ _ _ _).trans (fi_sA _ _ _ _ _), show fI (sA (sA S4 0 (nI i) (-9)) 0 (nI w) (-9)) 9 = fI S4 9 from (fi_sA _ _ _ _ _).trans (fi_sA _ _ _ _ _)]
        rcases hd with ⟨d1, d2, d3, d4⟩ | ⟨d1, d2, d3⟩
        · refine Or.inl ⟨t + (1 + VV n 1 (fun _ => false) f (u2 P i w)), l + VV n 0 (JB n a) f (u2 P i w), by omega, by omega, by omega, d2, ?_, ?_⟩
          · rw [d3]; congr 1; omega
          · rw [d4]; congr 1; omega
        · exact Or.inr ⟨by omega, d2, d3⟩
    unfold w3_pairFrom_F3 w3_pairFrom_d3
    try dsimp only
    rw [e7]
    refine ⟨fun c => k27 (fun q => ?_), fun c => ?_⟩
    · have := nI_end (by omega) hi c
      omega
    have hlt := nI_go (by omega) hi c
    refine x3_isFree S hn hlt hPb hP _ (fun hf => ⟨fun _ => k27 (fun _ => hf), fun c => absurd c h01⟩) (fun hf => ⟨fun c => absurd rfl c, fun _ => ?_⟩)
    rintro _ rfl
    refine hK _ hlt (nI_1 i) ⟨by omega, fun j hj => ?_⟩
    rcases Nat.lt_or_ge j i with q | q
    · exact hno j q
    · have ej : j = i := by omega
      rw [ej]; exact hf
theorem x3_keepFirst (S : MS) (h7 : F50 S 7) (Q : MS → Prop) (h : ∀ S', F50 S' 7 → F50 S' 8 → fI S' 9 = fI S 9 → fI S' 10 = fI S 10 → fI S' 12 = fI S 12 → Q S') : w3_keepFirst S Q := by
  obtain ⟨e, he, ee⟩ := h7
  have k16 : ∀ t, t ≤ 50 → w3_keepFirst_b16 (nI t) S Q := by
    intro t ht
    unfold w3_keepFirst_b16
    rintro _ rfl
    refine ⟨by decide, ?_⟩
    rintro _ rfl
    refine ⟨by decide, ?_⟩
    rintro _ rfl
    exact h _ ⟨e, he, ee⟩ ⟨t, ht, rd_fI S 8 (nI t)⟩ rfl rfl rfl
  unfold w3_keepFirst
  rw [ee]
  exact ⟨fun _ => k16 0 (by decide), fun _ => k16 e he⟩
theorem x3_seek {n N : Nat} {a : Nat → Nat} (S V : MS) (hn : n ≤ 50) (h1n : 1 ≤ n) (hN : N ≤ 20000) (e3 : fI V 3 = nI n) (ha : ∀ k, k < n → 1 ≤ a k ∧ a k ≤ 3) (eA : ∀ k, k < n → aI V 1 k = nI (a k)) (h8 : F50 S 8) (Q : Int32 → MS → Prop) (h1 : TTt n ≤ N → ∀ S', F50 S' 7 → F50 S' 8 → fI S' 9 = nI (LLt n a) → fI S' 10 = nI (TTt n) → Q 1 S') (h0 : N < TTt n → ∀ S', F50 S' 7 → F50 S' 8 → fI S' 10 = nI N → Q 0 S') : w3_seek (nI N) S V Q := by
  unfold w3_seek
  refine s7_fill 50 (by decide) _ _ _ (fun g hg => ?_)
  rw [e3]
  rintro _ rfl _ rfl _ rfl _ rfl _ rfl _ rfl
  have hF : Fr [0, 7, 9, 10, 11, 12] S (sI (sI (sI (sI (sI (pA S 0 g) 7 (nI n)) 9 (0 : Int32)) 10 (0 : Int32)) 11 (nI N)) 12 (0 : Int32)) := fr_tr (fr_tr (fr_tr (fr_tr (fr_tr (fr_pA (by decide)) (fr_sI (by decide))) (fr_sI (by decide))) (fr_sI (by decide))) (fr_sI (by decide))) (fr_sI (by decide))
  have e7 : fI (sI (sI (sI (sI (sI (pA S 0 g) 7 (nI n)) 9 (0 : Int32)) 10 (0 : Int32)) 11 (nI N)) 12 (0 : Int32)) 7 = nI n := by
    show fI (sI (pA S 0 g) 7 (nI n)) 7 = nI n
    exact rd_fI _ _ _
  have e9 : fI (sI (sI (sI (sI (sI (pA S 0 g) 7 (nI n)) 9 (0 : Int32)) 10 (0 : Int32)) 11 (nI N)) 12 (0 : Int32)) 9 = nI 0 := by
    show fI (sI (sI (pA S 0 g) 7 (nI n)) 9 (0 : Int32)) 9 = nI 0
    exact rd_fI _ _ _
  have e10 : fI (sI (sI (sI (sI (sI (pA S 0 g) 7 (nI n)) 9 (0 : Int32)) 10 (0 : Int32)) 11 (nI N)) 12 (0 : Int32)) 10 = nI 0 := by
    show fI (sI (sI (sI (pA S 0 g) 7 (nI n)) 9 (0 : Int32)) 10 (0 : Int32)) 10 = nI 0
    exact rd_fI _ _ _
  have e11 : fI (sI (sI (sI (sI (sI (pA S 0 g) 7 (nI n)) 9 (0 : Int32)) 10 (0 : Int32)) 11 (nI N)) 12 (0 : Int32)) 11 = nI N := by
    show fI (sI (sI (sI (sI (pA S 0 g) 7 (nI n)) 9 (0 : Int32)) 10 (0 : Int32)) 11 (nI N)) 11 = nI N
    exact rd_fI _ _ _
  have e12 : fI (sI (sI (sI (sI (sI (pA S 0 g) 7 (nI n)) 9 (0 : Int32)) 10 (0 : Int32)) 11 (nI N)) 12 (0 : Int32)) 12 = 0 := rd_fI _ _ _
  have e0 : aI (sI (sI (sI (sI (sI (pA S 0 g) 7 (nI n)) 9 (0 : Int32)) 10 (0 : Int32)) 11 (nI N)) 12 (0 : Int32)) 0 = g := by
    show aI (pA S 0 g) 0 = g
    exact rd_aI _ _ _
  generalize sI (sI (sI (sI (sI (pA S 0 g) 7 (nI n)) 9 (0 : Int32)) 10 (0 : Int32)) 11 (nI N)) 12 (0 : Int32) = S1 at e7 e9 e10 e11 e12 e0 hF
  refine x3_pairFrom (a := a) V hn h1n hN e3 ha eA 27 0 (by decide) (by decide) 30 rfl 0 (fun _ => 99) (pi_0 n) (cpr_0 n) (fun j hj => absurd hj (Nat.not_lt_zero j)) (Nat.zero_le _) 0 0 S1 (Nat.zero_le _) e7 e11 e10 e9 e12 (fun j hj => by rw [e0]; exact hg j (by omega)) _ (fun S2 hF2 _ hd => ?_)
  have h7b : F50 S2 7 := ⟨n, hn, fr_ok hF2 (by decide) e7⟩
  have h8b : F50 S2 8 := by
    obtain ⟨k, hk, ek⟩ := h8
    exact ⟨k, hk, (hF2 8 (by decide)).1.trans ((hF 8 (by decide)).1.trans ek)⟩
  rw [Dn3] at hd
  rw [Nat.zero_add, Nat.zero_add] at hd
  rcases hd with ⟨d1, d2, d3, d4⟩ | ⟨d1, d2, d3⟩
  · refine ⟨fun c => absurd d2 c, fun _ => x3_keepFirst S2 h7b _ (fun S3 f7 f8 k9 k10 k12 => ?_)⟩
    unfold w3_seek_b55 w3_seek_b67
    exact ⟨fun c => absurd (k12.trans d2) c, fun _ => ⟨rfl, h1 d1 S3 f7 f8 (k9.trans d4) (k10.trans d3)⟩⟩
  · have h01 : ¬ fI S2 12 = 0 := by rw [d2]; decide
    refine ⟨fun _ => ?_, fun c => absurd c h01⟩
    unfold w3_seek_b55 w3_seek_b67
    exact ⟨fun _ => ⟨rfl, h0 d1 S2 h7b h8b d3⟩, fun c => absurd c h01⟩

/-! ===== pure: folding, on both sides ===== -/
def FB (d g : Nat → Nat) (x : Nat → Bool) (q0 f0 : Nat) (φ : Nat → Nat) : Prop := φ q0 = f0 ∧ (∀ q, x q = true → φ q < 4 * tot d) ∧ (∀ q w, w < 4 → x q = true → x (bs q w) = true → φ (bs q w) = led g (φ q) w) ∧ (∀ q q', x q = true → x q' = true → φ q / 4 = φ q' / 4 → q = q')
def Fits (d g : Nat → Nat) (x : Nat → Bool) (q0 f0 : Nat) : Prop := ∃ φ, FB d g x q0 f0 φ
def FS (d g : Nat → Nat) (x : Int64) (q0 f0 : Nat) (S : MS) (L : List (Nat × Nat)) : Prop := R8 S L ∧ WF d L ∧ (∀ p, p ∈ L → bt x p.1 = true) ∧ ∀ φ, FB d g (bt x) q0 f0 φ → ∀ p, p ∈ L → φ p.1 = p.2
def Nbr (g : Nat → Nat) (x : Int64) (L : List (Nat × Nat)) (p : Nat × Nat) (w : Nat) : Prop := bt x (bs p.1 w) = true → ∃ p', p' ∈ L ∧ p'.1 = bs p.1 w ∧ p'.2 = led g p.2 w
def Ext (L L' : List (Nat × Nat)) : Prop := ∀ (k : Nat) r, L[k]? = some r → L'[k]? = some r
theorem ext_add (L : List (Nat × Nat)) (p : Nat × Nat) : Ext L (L ++ [p]) := by
  intro k r e
  have hk : k < L.length := by
    rcases Nat.lt_or_ge k L.length with q | q
    · exact q
    · rw [List.getElem?_eq_none q] at e; exact absurd e (by simp)
  rw [List.getElem?_append, if_pos hk]; exact e
theorem ext_mem {L L' : List (Nat × Nat)} (h : Ext L L') {p : Nat × Nat} (hp : p ∈ L) : p ∈ L' := by
  obtain ⟨k, e⟩ := List.mem_iff_getElem?.mp hp
  exact List.mem_of_getElem? (h k p e)
theorem nb_ext {g : Nat → Nat} {x : Int64} {L L' : List (Nat × Nat)} {p : Nat × Nat} {w : Nat} (h : Ext L L') (hn : Nbr g x L p w) : Nbr g x L' p w := fun hb => by
  obtain ⟨p', h1, h2⟩ := hn hb
  exact ⟨p', ext_mem h h1, h2⟩
theorem s6_foldRound {d g : Nat → Nat} {x : Int64} {q0 f0 : Nat} {L : List (Nat × Nat)} {S V : MS} {p : Nat × Nat} (h24 : tot d ≤ 24) (hd : ∀ j, j < 3 → 1 ≤ d j) (hC : BoxC V d) (hg : LdG d g) (hS : FS d g x q0 f0 S L) (hp : p ∈ L) (Q : Int32 → MS → Prop) (h0 : ∀ S', ¬ Fits d g (bt x) q0 f0 → Q 0 S') (h1 : ∀ S' L', FS d g x q0 f0 S' L' → Ext L L' → (∀ w, w < 4 → Nbr g x L' p w) → Q 1 S') : w6_foldRound x (nI p.1) S V Q := by
  obtain ⟨hp1, hp2⟩ := hS.2.1.1 p hp
  unfold w6_foldRound
  refine s6_frameAt hS.1 hp hp1 _ ?_
  unfold w6_foldRound_b11
  refine lp_up 4 (fun z => z.1) (fun w z => ∃ L', FS d g x q0 f0 z.2 L' ∧ Ext L L' ∧ ∀ v, v < w → Nbr g x L' p v) (by decide) ?_ (Nat.zero_le _) (rfl : (0 : Int32) = nI 0) (by exact ⟨L, hS, fun _ _ e => e, fun v hv => absurd hv (Nat.not_lt_zero v)⟩)
  rintro K ⟨y, S1⟩ w hw hcc ⟨L1, hS1, hE1, hN1⟩ hK
  try dsimp only at hcc hS1 hK
  subst hcc
  unfold w6_foldRound_F11 w6_foldRound_d11
  try dsimp only
  refine ⟨fun c => ?_, fun c => ?_⟩
  · have e := nI_end (N := 4) (by decide) hw c
    subst e
    exact h1 _ L1 hS1 hE1 hN1
  have hlt := nI_go (N := 4) (by decide) hw c
  have hpL := ext_mem hE1 hp
  have hxp := hS1.2.2.1 p hpL
  have hled := led_lt hd hg hp2 hlt
  have k93 : ∀ S2 L2, FS d g x q0 f0 S2 L2 → Ext L1 L2 → Nbr g x L2 p w → w6_foldRound_b93 (fun y0 y1 => K (y0, y1)) x (nI p.1) (nI p.2) (nI w) S2 V Q := by
    intro S2 L2 hS2 hE2 hN2
    unfold w6_foldRound_b93
    rintro _ rfl
    refine hK (_, _) hlt (nI_1 w) ⟨L2, hS2, fun k r e => hE2 k r (hE1 k r e), fun v hv => ?_⟩
    by_cases q : v = w
    · rw [q]; exact hN2
    · exact nb_ext hE2 (hN1 v (by omega))
  refine s0_besideN hp1 hlt _ (s0_hasN x _ _ (fun h64 hb => ⟨fun c => absurd c (by decide), fun _ => ?_⟩) (fun hb => ⟨fun _ => k93 _ L1 hS1 (fun _ _ e => e) (fun q => by rw [hb] at q; exact absurd q (by decide)), fun c => absurd rfl c⟩))
  have hphi : ∀ φ, FB d g (bt x) q0 f0 φ → φ (bs p.1 w) = led g p.2 w := fun φ hφ => by
    rw [hφ.2.2.1 p.1 w hlt hxp hb, hS1.2.2.2 φ hφ p hpL]
  unfold w6_foldRound_b84
  refine s1_led h24 hd hC hg hp2 hlt _ (s0_hasN _ _ _ (fun _ hs => ⟨fun c => absurd c (by decide), fun _ => ?_⟩) (fun hs => ⟨fun _ => ?_, fun c => absurd rfl c⟩))
  · rw [hS1.1.2.2.1 _ h64] at hs
    obtain ⟨p', hp', e'⟩ := hsq_iff.mp hs
    have h4 := (hS1.2.1.1 p' hp').2
    rw [sqI_lt h64, ← e']
    refine s6_frameAt hS1.1 hp' (by omega) _ ?_
    rw [nI_eq (by omega) (by omega)]
    refine ⟨fun cne => ⟨fun c => absurd rfl c, fun _ => h0 _ ?_⟩, fun ceq => ⟨fun _ => k93 _ L1 hS1 (fun _ _ e => e) (fun _ => ⟨p', hp', e', ceq⟩), fun c => absurd c (by decide)⟩⟩
    rintro ⟨φ, hφ⟩
    apply cne
    rw [← hphi φ hφ, ← e', hS1.2.2.2 φ hφ p' hp']
  · rw [hS1.1.2.2.1 _ h64] at hs
    refine s6_put h24 hS1.2.1 hS1.1 (by omega) hled _ (fun hbad => ⟨fun c => absurd rfl c, fun _ => h0 _ ?_⟩) (fun S2 _ _ _ hR2 hW2 => ⟨fun _ => k93 _ _ ⟨hR2, hW2, fun r hr => ?_, fun φ hφ r hr => ?_⟩ (ext_add _ _) (fun _ => ⟨_, List.mem_append.mpr (Or.inr (List.mem_singleton.mpr rfl)), rfl, rfl⟩), fun c => absurd c (by decide)⟩)
    · rintro ⟨φ, hφ⟩
      rcases hbad with q | q | q
      · omega
      · rw [hs] at q; exact absurd q (by decide)
      · obtain ⟨r, hr, er⟩ := cov_iff.mp q
        have e1 := hS1.2.2.2 φ hφ r hr
        have e2 := hφ.2.2.2 r.1 (bs p.1 w) (hS1.2.2.1 r hr) hb (by rw [e1, hphi φ hφ]; exact er)
        exact hsq_no hs hr e2
    · rcases mem_add hr with q | q
      · exact hS1.2.2.1 r q
      · rw [q]; exact hb
    · rcases mem_add hr with q | q
      · exact hS1.2.2.2 φ hφ r q
      · rw [q]; exact hphi φ hφ
theorem s6_fold {d g : Nat → Nat} {x : Int64} {q0 f0 : Nat} {S V : MS} (h24 : tot d ≤ 24) (hd : ∀ j, j < 3 → 1 ≤ d j) (hC : BoxC V d) (hg : LdG d g) (hb : bt x q0 = true) (hl : ∀ j, j < q0 → bt x j = false) (hf : f0 < 4 * tot d) (hcn : Cn (bt x)) (Q : Int32 → MS → Prop) (h0 : ∀ S', ¬ Fits d g (bt x) q0 f0 → Q 0 S') (h1 : ∀ S', Fits d g (bt x) q0 f0 → Q 1 S') : w6_fold x (nI f0) S V Q := by
  have hq := bt_lt hb
  unfold w6_fold
  refine s6_clear _ _ (fun S1 hR1 => s0_leastN x hb hl _ ?_)
  rw [← sqI_lt hq]
  refine s6_put h24 wf_nil hR1 (by omega) hf _ (fun hbad => ?_) (fun S2 _ _ _ hR2 hW2 => ⟨fun _ => ?_, fun c => absurd c (by decide)⟩)
  · rcases hbad with q | q | q
    · omega
    · exact absurd (show false = true from q) (by decide)
    · exact absurd (show false = true from q) (by decide)
  have hS2 : FS d g x q0 f0 S2 ([] ++ [(q0, f0)]) := by
    refine ⟨hR2, hW2, fun p hp => ?_, fun φ hφ p hp => ?_⟩
    · rcases mem_add hp with q | q
      · exact absurd q List.not_mem_nil
      · rw [q]; exact hb
    · rcases mem_add hp with q | q
      · exact absurd q List.not_mem_nil
      · rw [q]; exact hφ.1
  have kend : ∀ S3 L, FS d g x q0 f0 S3 L → (q0, f0) ∈ L → (∀ r, r ∈ L → ∀ w, w < 4 → Nbr g x L r w) → Q 1 S3 := by
    intro S3 L hS3 hm hN
    refine h1 _ ⟨fun q => (aI S3 0 q).toNatClampNeg, ?_⟩
    have hin : ∀ q, bt x q = true → ∃ p, p ∈ L ∧ p.1 = q := by
      refine hcn (fun q => ∃ p, p ∈ L ∧ p.1 = q) ⟨q0, hb, _, hm, rfl⟩ ?_
      rintro q w hw _ ⟨p, hp, e⟩ hb2
      subst e
      obtain ⟨p', hp', e1, _⟩ := hN p hp w hw hb2
      exact ⟨p', hp', e1⟩
    have hval : ∀ p, p ∈ L → (aI S3 0 p.1).toNatClampNeg = p.2 := fun p hp => by
      have := (hS3.2.1.1 p hp).2
      rw [hS3.1.2.2.2.2 p hp, nI_clamp (by omega)]
    refine ⟨hval _ hm, fun q hq2 => ?_, fun q w hw hq2 hb2 => ?_, fun q q' hq2 hq3 e => ?_⟩
    · obtain ⟨p, hp, e⟩ := hin q hq2
      subst e
      show (aI S3 0 p.1).toNatClampNeg < _
      rw [hval p hp]; exact (hS3.2.1.1 p hp).2
    · obtain ⟨p, hp, e⟩ := hin q hq2
      subst e
      obtain ⟨p', hp', e1, e2⟩ := hN p hp w hw hb2
      show (aI S3 0 (bs p.1 w)).toNatClampNeg = led g (aI S3 0 p.1).toNatClampNeg w
      rw [hval p hp, ← e1, hval p' hp', e2]
    · obtain ⟨p, hp, e1⟩ := hin q hq2
      obtain ⟨p', hp', e2⟩ := hin q' hq3
      subst e1 e2
      have e : (aI S3 0 p.1).toNatClampNeg / 4 = (aI S3 0 p'.1).toNatClampNeg / 4 := e
      rw [hval p hp, hval p' hp'] at e
      rw [hS3.2.1.2.2.2.2 p hp p' hp' e]
  unfold w6_fold_b22
  refine lp_up 24 (fun z => z.1) (fun k z => ∃ L, FS d g x q0 f0 z.2 L ∧ (q0, f0) ∈ L ∧ ∀ j r, j < k → L[j]? = some r → ∀ w, w < 4 → Nbr g x L r w) (by decide) ?_ (Nat.zero_le _) (rfl : (0 : Int32) = nI 0) (by exact ⟨_, hS2, List.mem_append.mpr (Or.inr (List.mem_singleton.mpr rfl)), fun j r hj => absurd hj (Nat.not_lt_zero j)⟩)
  rintro K ⟨y, S3⟩ k hk hcc ⟨L, hS3, hm, hN⟩ hK
  try dsimp only at hcc hS3 hK
  subst hcc
  have hl24 := wf_24 hS3.2.1
  unfold w6_fold_F22 w6_fold_d22 w6_fold_b62
  try dsimp only
  rw [hS3.1.1]
  have kk : L.length ≤ k → Q 1 S3 := fun hlk => kend S3 L hS3 hm (fun r hr => by
    obtain ⟨j, e⟩ := List.mem_iff_getElem?.mp hr
    have hj : j < L.length := by
      rcases Nat.lt_or_ge j L.length with q | q
      · exact q
      · rw [List.getElem?_eq_none q] at e; exact absurd e (by simp)
    exact hN j r (by omega) e)
  refine ⟨fun c => kk ?_, fun c => ⟨fun c2 => kk ((nI_leI (by omega) (by omega)).mp c2), fun c2 => ?_⟩⟩
  · have e4 := nI_end (N := 24) (by decide) hk c
    omega
  have hlt := nI_go (N := 24) (by decide) hk c
  have hkl : k < L.length := by
    rcases Nat.lt_or_ge k L.length with q | q
    · exact q
    · exact absurd (nI_le q (by omega)) c2
  have ep : L[k]? = some L[k] := List.getElem?_eq_getElem hkl
  generalize L[k] = p at ep
  have hp := List.mem_of_getElem? ep
  refine ⟨vp_in_nI hlt (by decide), ?_⟩
  rw [rA_n _ _ (by omega), hS3.1.2.2.2.1 k p ep]
  refine s6_foldRound h24 hd hC hg hS3 hp _ (fun S4 hno => ⟨fun c => absurd rfl c, fun _ => h0 _ hno⟩) (fun S4 L4 hS4 hE4 hN4 => ⟨fun _ => ?_, fun c => absurd c (by decide)⟩)
  rintro _ rfl
  refine hK (_, _) hlt (nI_1 k) ⟨L4, hS4, ext_mem hE4 hm, fun j r hj e w hw => ?_⟩
  by_cases q : j = k
  · subst q
    rw [hE4 j p ep] at e
    rw [← Option.some.inj e]
    exact hN4 w hw
  · have hj : j < L.length := by omega
    have ej : L[j]? = some L[j] := List.getElem?_eq_getElem hj
    have e2 := hE4 j _ ej
    rw [e] at e2
    rw [Option.some.inj e2]
    exact nb_ext hE4 (hN j _ (by omega) ej w hw)
/-! the reference -/
def dn (S : MS) (k : Nat) : Prop := ¬ aI S 12 k = -9
def fr9 (S : MS) (k : Nat) : Nat := 4 * (aI S 12 k).toNatClampNeg + (aI S 13 k).toNatClampNeg
theorem Jf_dn {d : Nat → Nat} {S0 S : MS} (h : Jf d S0 S) (h24 : tot d ≤ 24) {k : Nat} (hk : k < 64) (hn : dn S k) : ∃ c t, c < tot d ∧ t < 4 ∧ aI S 12 k = nI c ∧ aI S 13 k = nI t ∧ fr9 S k = 4 * c + t := by
  rcases h.2 k hk with q | ⟨c, t, hc, ht, e1, e2⟩
  · exact absurd q hn
  · refine ⟨c, t, hc, ht, e1, e2, ?_⟩
    unfold fr9
    rw [e1, e2, nI_clamp (by omega), nI_clamp (by omega)]
def JF (d g : Nat → Nat) (x : Int64) (q0 f0 : Nat) (S0 S : MS) : Prop := Jf d S0 S ∧ (∀ φ, FB d g (bt x) q0 f0 φ → ∀ k, k < 64 → dn S k → φ k = fr9 S k) ∧ (∀ k, k < 64 → dn S k → bt x k = true) ∧ dn S q0 ∧ fr9 S q0 = f0
theorem JF_fr {d g : Nat → Nat} {x : Int64} {q0 f0 : Nat} {S0 S S' : MS} (h : JF d g x q0 f0 S0 S) (hF : Fr [8, 9, 10, 11] S S') : JF d g x q0 f0 S0 S' := by
  have e1 : ∀ k, dn S' k = dn S k := fun k => by unfold dn; rw [(hF 12 (by decide)).2.2.1]
  have e2 : ∀ k, fr9 S' k = fr9 S k := fun k => by unfold fr9; rw [(hF 12 (by decide)).2.2.1, (hF 13 (by decide)).2.2.1]
  refine ⟨Jf_fr h.1 hF, ?_, ?_, ?_, ?_⟩
  · intro φ hφ k hk hn
    rw [e1] at hn
    rw [e2]; exact h.2.1 φ hφ k hk hn
  · intro k hk hn
    rw [e1] at hn
    exact h.2.2.1 k hk hn
  · rw [e1]; exact h.2.2.2.1
  · rw [e2]; exact h.2.2.2.2
def Cl (g : Nat → Nat) (x : Int64) (S : MS) (k w : Nat) : Prop := ∀ j v, v < 4 → (j < k ∨ (j = k ∧ v < w)) → j < 64 → dn S j → bt x (bs j v) = true → dn S (bs j v) ∧ fr9 S (bs j v) = led g (fr9 S j) v
theorem cl_fr {g : Nat → Nat} {x : Int64} {S S' : MS} {k w : Nat} (h : Cl g x S k w) (hF : Fr [8, 9, 10, 11] S S') : Cl g x S' k w := by
  have e1 : ∀ k, dn S' k = dn S k := fun k => by unfold dn; rw [(hF 12 (by decide)).2.2.1]
  have e2 : ∀ k, fr9 S' k = fr9 S k := fun k => by unfold fr9; rw [(hF 12 (by decide)).2.2.1, (hF 13 (by decide)).2.2.1]
  intro j v hv hj hj64 hn hb
  rw [e1] at hn
  rw [e1, e2, e2]
  exact h j v hv hj hj64 hn hb
/-- good, or there is no fitting at all -/
def Gd (d g : Nat → Nat) (x : Int64) (q0 f0 : Nat) (v : Int32) : Prop := v = 1 ∨ (v = 0 ∧ ¬ Fits d g (bt x) q0 f0)
theorem gd_b {d g : Nat → Nat} {x : Int64} {q0 f0 : Nat} {v : Int32} (h : Gd d g x q0 f0 v) : v = 0 ∨ v = 1 := by
  rcases h with q | q
  · exact Or.inr q
  · exact Or.inl q.1

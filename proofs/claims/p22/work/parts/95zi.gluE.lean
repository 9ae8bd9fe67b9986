/-! ===== pure: gluings, both sides ===== -/
def agl (x : Int64) (m n : Nat) : Nat → Nat := fun i => ang x (orb x (m, 0) ((i + n - 1) % n))
theorem x9_gluings {k N : Nat} (hk : k < 6) (hN1 : 1 ≤ N) (hN : N ≤ 20000) (S : MS) (hI : Inv9 S) (hb : ¬ aJ S 3 k = 0 → oe (aJ S 3 k) ≤ 50) (Q : Int32 → MS → Prop) (hz : aJ S 3 k = 0 → ∀ S', Fr [0, 1] S S' → Q (-3) S') (hw : ¬ aJ S 3 k = 0 → ∀ n m, Wk (aJ S 3 k) m n → (¬ n = oe (aJ S 3 k) → ∀ S', Fr [25, 26, 27, 28] S S' → Q (-4) S') ∧ (n = oe (aJ S 3 k) → (TTt n ≤ N → ∀ S', Fr [25, 26, 27, 28, 29, 30, 31, 32, 33, 34, 35, 36, 37, 38, 39] S S' → fI S' 33 = nI (TTt n) → Q (nI (LLt n (agl (aJ S 3 k) m n))) S') ∧ (N < TTt n → ∀ S', Fr [25, 26, 27, 28, 29, 30, 31, 32, 33, 34, 35, 36, 37, 38, 39] S S' → fI S' 33 = nI N → Q (-6) S'))) : w9_gluings (nI k) (nI N) S Q := by
  have h01 : ¬ (1 : Int32) = 0 := by decide
  unfold w9_gluings
  refine s9_in _ _ _ _ (fun _ => ⟨fun _ => x9_askedRim hk S hI _ (fun q S' hF => ⟨fun c => absurd c (by decide), fun _ => hz q S' hF⟩) (fun q S1 n m hF hW e25 e28 => ?_), fun c => absurd c h01⟩) (fun hn => absurd ?_ hn)
  rotate_left
  · rw [nI_toInt (by omega), show (1 : Int32).toInt = 1 from rfl, show (20000 : Int32).toInt = 20000 from rfl]
    omega
  obtain ⟨w0, w1⟩ := hw q n m hW
  by_cases e : n = oe (aJ S 3 k)
  rotate_left
  · rw [if_neg e]
    exact ⟨fun c => absurd c (by decide), fun _ => w0 e S1 hF⟩
  rw [if_pos e]
  refine ⟨fun _ => ?_, fun c => absurd (show (0 : Int32) ≤ 0 by decide) c⟩
  rintro _ rfl
  obtain ⟨w2, w3⟩ := w1 e
  have hn : n ≤ 50 := by
    have := hb q
    omega
  obtain ⟨a1, a2, a3, a4, a5, a6⟩ := hW
  unfold w9_gluings_b33
  refine lp_up n (fun z => z.1) (fun i z => Fr [29, 33] S1 z.2 ∧ fI z.2 33 = nI 0 ∧ ∀ j, j < i → aI z.2 29 j = -9) (by omega) ?_ (Nat.zero_le _) (rfl : (0 : Int32) = nI 0) (by exact ⟨fr_sI (by decide), rd_fI _ _ _, fun j hj => absurd hj (Nat.not_lt_zero j)⟩)
  rintro K ⟨y, S2⟩ i hi hcc ⟨hF2, e33, hI2⟩ hK
  try dsimp only at hcc hF2 e33 hI2 hK
  subst hcc
  unfold w9_gluings_F33 w9_gluings_d33
  try dsimp only
  have x25 : fI S2 25 = nI n := (hF2 25 (by decide)).1.trans e25
  rw [x25]
  refine ⟨fun c => ?_, fun c => ?_⟩
  rotate_left
  · have hlt := nI_go (by omega) hi c
    refine ⟨vp_in_nI (by omega) (by decide), ?_⟩
    rintro _ rfl _ rfl
    refine hK (_, _) hlt (nI_1 i) ⟨fr_tr hF2 (fr_sA (by decide)), (fi_sA _ _ _ _ _).trans e33, fun j hj => ?_⟩
    show aI (sA S2 29 (nI i) (-9)) 29 j = -9
    rw [rd_A, nI_clamp (by omega)]
    by_cases q : j = i
    · rw [q, pk_us]
    · rw [pk_un q]; exact hI2 j (by omega)
  have ei := nI_end (by omega) hi c
  rw [ei] at hI2
  refine s9_firstFree (by omega) S2 x25 _ (fun j hj hlow hfree => ?_)
  have ej : j = 0 := by
    rcases Nat.eq_zero_or_pos j with q | q
    · exact q
    · exact absurd (by rw [hI2 0 (by omega)]; decide) (hlow 0 q)
  subst ej
  rintro _ rfl _ rfl
  have e1 : rA (sA S2 37 (0 : Int32) (nI 0)) 37 (0 : Int32) = nI 0 := by
    show aI (sA S2 37 (0 : Int32) (nI 0)) 37 (0 : Int32).toNatClampNeg = nI 0
    rw [rd_A, pk_us]
  have e2 : nI 0 - (1 : Int32) = -1 := by decide
  have e37 : aI (sA S2 37 (0 : Int32) (nI 0)) 37 0 = nI 0 := by
    rw [rd_A, show (0 : Int32).toNatClampNeg = 0 from rfl, pk_us]
  rw [e1, e2]
  have hF4 : Fr [25, 26, 27, 28, 29, 33, 37] S (sA S2 37 (0 : Int32) (nI 0)) := fr_tr (fr_mono hF (by decide)) (fr_tr (fr_mono hF2 (by decide)) (fr_sA (by decide)))
  have k25 : fI (sA S2 37 (0 : Int32) (nI 0)) 25 = nI n := (fi_sA _ _ _ _ _).trans x25
  have k33 : fI (sA S2 37 (0 : Int32) (nI 0)) 33 = nI 0 := (fi_sA _ _ _ _ _).trans e33
  have k28 : aI (sA S2 37 (0 : Int32) (nI 0)) 28 = aI S1 28 := by rw [rd_sn _ (by decide), (hF2 28 (by decide)).2.2.1]
  have k29 : aI (sA S2 37 (0 : Int32) (nI 0)) 29 = aI S2 29 := rd_sn _ (by decide)
  generalize sA S2 37 (0 : Int32) (nI 0) = S4 at e37 hF4 k25 k33 k28 k29 ⊢
  refine x9_gluL (a := agl (aJ S 3 k) m n) S4 hn a3 hN k25 (fun j hj => ?_) k33 (fun j hj => by rw [k29]; exact hI2 j hj) e37 Q (fun t S' hF' e' => w2 t S' (fr_tr (fr_mono hF4 (by decide)) (fr_mono hF' (by decide))) e') (fun t S' hF' e' => w3 t S' (fr_tr (fr_mono hF4 (by decide)) (fr_mono hF' (by decide))) e')
  have := ang_b (aJ S 3 k) (orb (aJ S 3 k) (m, 0) ((j + n - 1) % n))
  exact ⟨this.1, this.2, by rw [k28]; exact e28 j hj⟩
theorem i8_gl {X : Nat → MS} (h : Inv8 X) (S : MS) (h7 : F50 S 7) (h8 : F50 S 8) : Inv8 (va_up X 19 S) := by
  have ne : ∀ j, j ≠ 19 → va_up X 19 S j = X j := fun j h1 => va_up_ne _ _ h1
  refine ⟨fun r hr => ?_, fun c hc => ?_, ?_, ?_, ?_⟩
  · rw [ne _ (by omega)]; exact h.1 r hr
  · rw [ne _ (by omega)]; exact h.2.1 c hc
  · rw [ne _ (by omega)]; exact h.2.2.1
  · rw [va_up_self]; exact h7
  · rw [va_up_self]; exact h8
/-- as many legal gluings on both rims -/
def LLQ : Prop := ∀ (x y : Int64) (m m' n : Nat), ¬ x = 0 → Sim x y → Wk x m n → Wk y m' n → n = oe x → n = oe y → n ≤ 50 → LLt n (agl x m n) = LLt n (agl y m' n)
theorem e_gluings (f x : Int32) (Z : MS) (X : Nat → MS) (S : MS) (hA : All X S) (P : Int32 → Int32 → MS → (Nat → MS) → MS → Prop) (h : ∀ v v' Z' X' S', (LLQ → v = v') → All X' S' → P v v' Z' X' S') : w8_gluings f x Z X (fun r1 Z2 X3 => w9_gluings f x S (fun r4 S5 => P r1 r4 Z2 X3 S5)) := by
  have h01 : ¬ (1 : Int32) = 0 := by decide
  have i1 : (1 : Int32).toInt = 1 := rfl
  have i2 : (20000 : Int32).toInt = 20000 := rfl
  have g0 : ∀ {S'}, Fr [0, 1] S S' → All X S' := fun hF => al_g hA (g8_rf hA.1) (g9_fr hA.2.1 hF (by decide) (by decide) (by decide) (by decide))
  have bad : ¬ (vp_in f 6 ∧ (1 : Int32).toInt ≤ x.toInt ∧ x.toInt ≤ (20000 : Int32).toInt) → w9_gluings f x S (fun r4 S5 => P (-1) r4 Z X S5) := by
    intro hn
    unfold w9_gluings
    refine s9_in _ _ _ _ (fun hx => ⟨fun _ => ?_, fun c => absurd c h01⟩) (fun _ => ⟨fun c => absurd rfl c, fun _ => h _ _ _ _ _ (fun _ => rfl) hA⟩)
    have hf : ¬ vp_in f 6 := fun q => hn ⟨q, hx⟩
    unfold w9_askedRim
    exact s9_looked _ _ _ (fun _ => ⟨fun c => absurd c (by decide), fun _ => ⟨fun c => absurd c (by decide), fun _ => h _ _ _ _ _ (fun _ => rfl) hA⟩⟩) (fun q _ _ _ => absurd q hf) (fun q _ => absurd q hf)
  unfold w8_gluings w8_gluings_b18 w8_gluings_b87
  refine s8_isFigure _ _ (fun hf => ⟨fun c => absurd c h01, fun _ => s8_within _ _ _ _ (fun hx => ⟨fun _ => ?_, fun c => absurd c h01⟩) (fun hx => ⟨fun c => absurd rfl c, fun _ => bad (fun w => hx w.2)⟩)⟩) (fun hf => ⟨fun _ => bad (fun w => hf w.1), fun c => absurd rfl c⟩)
  obtain ⟨k, hk, rfl⟩ := vp_in_of hf (by decide)
  obtain ⟨N, hN1, hN, rfl⟩ : ∃ N : Nat, 1 ≤ N ∧ N ≤ 20000 ∧ x = nI N := by
    obtain ⟨N, hN, e⟩ := vp_in_of (n := 20001) (pi_in.mpr (by omega) : vp_in x 20001) (by decide)
    rw [e, nI_toInt (by omega)] at hx
    exact ⟨N, by omega, by omega, e⟩
  have tk := ff_there hA hk
  rw [nI_clamp (by omega)]
  refine ⟨hf, ⟨by omega, hk⟩, s2_isThere _ _ (fun hi => ⟨fun _ => ?_, fun c => absurd c h01⟩) (fun hi => ⟨fun c => absurd rfl c, fun _ => s8_refuse _ _ _ _ (fun Z' _ => x9_gluings hk hN1 hN S hA.2.1 (fun q => absurd (tk.mp hi) q) _ (fun _ S' hF => h _ _ _ _ _ (fun _ => rfl) (g0 hF)) (fun q => absurd (tk.mp hi) q))⟩)⟩
  obtain ⟨hx0, hy0, hs, hpc, hcn⟩ := fig_on hA hk hi
  obtain ⟨s1, s2, s3⟩ := sim_rim hs
  refine x4_walk _ hx0 hpc hcn _ _ (fun S8 n m a1 a2 a3 a4 a5 a6 e3 e1 => ?_)
  rintro _ rfl
  have hw8 : Wk (fJ (X k) 1) m n := ⟨a1, a2, a3, by omega, a5, a6⟩
  have hG := g8_rim hA.1 S8 ⟨n, a4, e3⟩
  have hob : oe (aJ S 3 k) ≤ 50 := by
    rw [← s2]
    exact oe_50 hx0 hpc hcn
  by_cases e : n = oe (fJ (X k) 1)
  rotate_left
  · rw [if_neg e]
    refine ⟨fun c => absurd rfl c, fun _ => x9_gluings hk hN1 hN S hA.2.1 (fun _ => hob) _ (fun q => absurd q hy0) (fun q1 n' m' hw => ⟨fun _ S' hF => h _ _ _ _ _ (fun _ => rfl) (al_g hA hG (g9_fr hA.2.1 hF (by decide) (by decide) (by decide) (by decide))), fun e' => ?_⟩)⟩
    exact absurd ((wk_full hw8).mpr (s1.mpr ((wk_full hw).mp e'))) e
  rw [if_pos e]
  refine ⟨fun _ => ?_, fun c => absurd c h01⟩
  have ne2 : va_up X 18 S8 19 = X 19 := va_up_ne _ _ (by decide)
  rw [va_up_self, ne2]
  have hfull : ∀ n' m', Wk (aJ S 3 k) m' n' → n' = n := fun n' m' hw => by
    have := (wk_full hw).mpr (s1.mp ((wk_full hw8).mp e))
    omega
  have hfo : n = oe (aJ S 3 k) := e.trans s2
  have hag : ∀ j, j < n → 1 ≤ agl (fJ (X k) 1) m n j ∧ agl (fJ (X k) 1) m n j ≤ 3 := fun j _ => ang_b _ _
  have hk19 : ∀ (T : MS) (j : Nat), j < 15 → va_up (va_up X 18 S8) 19 T j = X j := fun T j hj => by rw [va_up_ne _ _ (by omega), va_up_ne _ _ (by omega)]
  have hInv : ∀ T : MS, F50 T 7 → F50 T 8 → Inv8 (va_up (va_up X 18 S8) 19 T) := fun T f7 f8 => i8_gl hG.1 T f7 f8
  refine x3_seek (n := n) (N := N) (a := agl (fJ (X k) 1) m n) (X 19) S8 a4 a3 hN e3 hag e1 hA.1.2.2.2.2 _ (fun t T f7 f8 e9 e10 => ?_) (fun t T f7 f8 e10 => ?_)
  · rintro _ rfl
    refine ⟨fun c => absurd c h01, fun _ => ?_⟩
    rw [va_up_self, e9]
    refine x9_gluings hk hN1 hN S hA.2.1 (fun _ => hob) _ (fun q => absurd q hy0) (fun q1 n' m' hw => ?_)
    have enn := hfull n' m' hw
    subst enn
    exact ⟨fun c => absurd hfo c, fun _ => ⟨fun _ S' hF e33 => h _ _ _ _ _ (fun q => by rw [q _ _ m m' n' hx0 hs hw8 hw e hfo a4]) (al_sk hA (hInv T f7 f8) (hk19 T) hF (by rw [va_up_self, e10, e33])), fun t' => absurd t (Nat.not_le.mpr t')⟩⟩
  · rintro _ rfl
    refine ⟨fun _ => ?_, fun c => absurd rfl c⟩
    refine x9_gluings hk hN1 hN S hA.2.1 (fun _ => hob) _ (fun q => absurd q hy0) (fun q1 n' m' hw => ?_)
    have enn := hfull n' m' hw
    subst enn
    exact ⟨fun c => absurd hfo c, fun _ => ⟨fun t' => absurd t' (Nat.not_le.mpr t), fun _ S' hF e33 => h _ _ _ _ _ (fun _ => rfl) (al_sk hA (hInv T f7 f8) (hk19 T) hF (by rw [va_up_self, e10, e33]))⟩⟩

/-! ===== pure: all that is alike on both sides; calls that change figures ===== -/
def FF2 (X : Nat → MS) (S : MS) : Prop := ∀ f, f < 6 → Sim (fJ (X f) 1) (aJ S 3 f) ∧ (fI (X f) 0 = -1 ↔ fJ (X f) 1 = 0)
def All (X : Nat → MS) (S : MS) : Prop := Inv8 X ∧ Inv9 S ∧ RR X S ∧ BB X S ∧ fI (X 14) 1 = 0 ∧ PL X S ∧ FF2 X S
theorem al_nx {X X' : Nat → MS} {S S' : MS} (h : All X S) (n : Nx X X' S S') (p : PL X' S') : All X' S' := by
  refine ⟨n.1, n.2.1, n.2.2.1, bb_nx h.2.2.2.1 n, ?_, p, fun f hf => ?_⟩
  · rw [n.2.2.2.1 14 (by omega)]; exact h.2.2.2.2.1
  · rw [n.2.2.2.1 f (by omega), n.2.2.2.2.2]; exact h.2.2.2.2.2.2 f hf
theorem al_g {X X' : Nat → MS} {S S' : MS} (h : All X S) (g8 : G8 X X') (g9 : G9 S S') : All X' S' := al_nx h (nx_g h.2.2.1 g8 g9) (pl_g h.2.2.2.2.2.1 g8 g9)
/-- one figure is another -/
theorem al_fig {X : Nat → MS} {S S' T : MS} {f : Nat} {y : Int64} (h : All X S) (hf : f < 6) (h9 : H9 S S') (e : aJ S' 3 = vp_updL (aJ S 3) f y) (hs : Sim (fJ T 1) y) (hi : fI T 0 = -1 ↔ fJ T 1 = 0) : All (va_up X f T) S' := by
  have ne : ∀ k, ¬ k = f → va_up X f T k = X k := fun k hk => va_up_ne _ _ hk
  refine ⟨i8_fig h.1 T hf, h9.1, fun r hr => ?_, fun b hb => ?_, ?_, fun r hr i hi2 hlt => ?_, fun g hg => ?_⟩
  · rw [ne _ (by omega), h9.2.1]; exact h.2.2.1 r hr
  · rw [ne _ (by omega)]
    rcases h.2.2.2.1 b hb with ⟨q1, q2⟩ | ⟨d, q1, q2⟩
    · refine Or.inl ⟨q1, ?_⟩
      unfold dm at q2 ⊢
      rw [h9.2.2.2]; exact q2
    · exact Or.inr ⟨d, boxN_eq h9.2.2.2 q1, q2⟩
  · rw [ne _ (by omega)]; exact h.2.2.2.2.1
  · rw [h9.2.1] at hlt
    rw [ne _ (by omega), h9.2.2.1]; exact h.2.2.2.2.2.1 r hr i hi2 hlt
  · rw [e]
    by_cases q : g = f
    · rw [q, va_up_self, pk_uLs]; exact ⟨hs, hi⟩
    · rw [ne _ q, pk_uLn q]; exact h.2.2.2.2.2.2 g hg
/-- the figure of the reference alone is turned -/
theorem al_9 {X : Nat → MS} {S S' : MS} {f : Nat} {y : Int64} (h : All X S) (hf : f < 6) (h9 : H9 S S') (e : aJ S' 3 = vp_updL (aJ S 3) f y) (hs : Sim (aJ S 3 f) y) : All X S' := by
  have hF := h.2.2.2.2.2.2 f hf
  have := al_fig (T := X f) h hf h9 e (Sim.tr hF.1 hs) hF.2
  have e2 : va_up X f (X f) = X := by
    funext k
    by_cases q : k = f
    · rw [q, va_up_self]
    · rw [va_up_ne _ _ q]
  rw [e2] at this
  exact this
theorem x2_putPlain (x : Int64) (S : MS) (Q : MS → Prop) (h : ∀ S', fJ S' 1 = x → ¬ fI S' 0 = -1 → Q S') : w2_putPlain x S Q := by
  have k : ∀ v : Int32, ¬ v = -1 → ∀ S1 : MS, S1 = sI (sJ S 1 x) 0 v → Q S1 := by
    rintro v hv _ rfl
    refine h _ ?_ ?_
    · rw [((fr_sI (ks := [0]) (by decide)) 1 (by decide)).2.1, rd_fJ]
    · rw [rd_fI]; exact hv
  unfold w2_putPlain w2_putPlain_b20 w2_putPlain_b25
  rintro _ rfl
  exact t0_isLying _ _ (fun r => ⟨fun _ => k _ (by decide), fun _ => t0_isStanding _ _ (fun r2 => ⟨fun _ => k _ (by decide), fun _ => k _ (by decide)⟩)⟩)
theorem x2_putNet (x : Int64) (c : Int32) (S V : MS) (Q : MS → Prop) (h : ∀ S', fJ S' 1 = x → ¬ fI S' 0 = -1 → Q S') : w2_putNet x c S V Q := by
  have k19 : ∀ t : Int32, ¬ t = -1 → w2_putNet_b19 c t (sJ S 1 x) V Q := by
    intro t ht
    unfold w2_putNet_b19
    rintro _ rfl _ rfl
    refine t1_length _ _ _ (fun r => ?_)
    rintro _ rfl
    have hF : Fr [0, 2, 3] (sJ S 1 x) (sI (sI (sI (sJ S 1 x) 0 t) 2 c) 3 r) := fr_tr (fr_tr (fr_sI (by decide)) (fr_sI (by decide))) (fr_sI (by decide))
    have hF2 : Fr [2, 3] (sI (sJ S 1 x) 0 t) (sI (sI (sI (sJ S 1 x) 0 t) 2 c) 3 r) := fr_tr (fr_sI (by decide)) (fr_sI (by decide))
    refine h _ ?_ ?_
    · rw [(hF 1 (by decide)).2.1, rd_fJ]
    · rw [(hF2 0 (by decide)).1, rd_fI]; exact ht
  unfold w2_putNet
  rintro _ rfl
  exact t1_isCube _ _ (fun r => ⟨fun _ => k19 _ (by decide), fun _ => k19 _ (by decide)⟩)
theorem x2_takeAway (S : MS) (Q : MS → Prop) (h : ∀ S', fJ S' 1 = 0 → fI S' 0 = -1 → Q S') : w2_takeAway S Q := by
  unfold w2_takeAway
  rintro _ rfl _ rfl
  refine h _ (rd_fJ _ _ _) ?_
  rw [((fr_sJ (ks := [1]) (by decide)) 0 (by decide)).1, rd_fI]
theorem rL_n (S : MS) {f : Nat} (hf : f < 6) : rL S 3 (nI f) = aJ S 3 f := by
  show aJ S 3 (nI f).toNatClampNeg = _
  rw [nI_clamp (by omega)]
theorem ff_there {X : Nat → MS} {S : MS} (h : All X S) {f : Nat} (hf : f < 6) : fI (X f) 0 = -1 ↔ aJ S 3 f = 0 := by
  have := h.2.2.2.2.2.2 f hf
  rw [this.2, sim_0 this.1]
theorem e_figure (f : Int32) (x : Int64) (Z : MS) (X : Nat → MS) (S : MS) (hA : All X S) (P : Int32 → Int32 → (Nat → MS) → MS → Prop) (h : ∀ v X' S', All X' S' → P v v X' S') : w8_figure f x Z X (fun r1 X3 => w9_figure f x S (fun r4 S5 => P r1 r4 X3 S5)) := by
  have e1 : (1 : Int32).toInt = 1 := rfl
  have e24 : (24 : Int32).toInt = 24 := rfl
  have ep : (nI (pc x)).toInt = (pc x : Int) := nI_toInt (by have := pc_le x; omega)
  unfold w8_figure w8_figure_b24
  refine s13_bitCount x _ (s8_isFigure _ _ (fun hf => ⟨fun c => absurd c (by decide), fun _ => s8_within _ _ _ _ (fun hn => ⟨fun _ => ?_, fun c => absurd c (by decide)⟩) (fun hn => ⟨fun c => absurd rfl c, fun _ => ?_⟩)⟩) (fun hf => ⟨fun _ => ?_, fun c => absurd rfl c⟩))
  · have hx : ¬ x = 0 := by
      intro e
      rw [e, pc_0] at ep hn
      rw [show (nI 0).toInt = 0 from rfl] at hn
      omega
    refine e_hangs x hx (by omega) _ (fun v hv => ⟨fun cv => ?_, fun cv => ?_⟩)
    · obtain ⟨k, hk, rfl⟩ := vp_in_of hf (by decide)
      rw [nI_clamp (by omega)]
      refine ⟨hf, ⟨by omega, hk⟩, x2_putPlain _ _ _ (fun T eT eI => ?_)⟩
      rintro _ rfl
      unfold w9_figure w9_figure_b24
      refine s9_bits x _ (s9_isFigure _ _ (fun _ => ⟨fun c => absurd c (by decide), fun _ => s9_in _ _ _ _ (fun _ => ⟨fun _ => hv _ ⟨fun _ => s9_keep _ hf _ _ _ (fun S' hF e => h _ _ _ ?_), fun c => absurd c cv⟩, fun c => absurd c (by decide)⟩) (fun hn' => absurd hn hn')⟩) (fun hf' => absurd hf hf'))
      rw [nI_clamp (by omega)] at e
      exact al_fig hA hk (g9_fig hA.2.1 hF (by decide) (by decide) (by decide) e (by omega)) e (by rw [eT]; exact Sim.rf x) ⟨fun q => absurd q eI, fun q => by rw [eT] at q; exact absurd q hx⟩
    · unfold w9_figure w9_figure_b24
      exact s9_bits x _ (s9_isFigure _ _ (fun _ => ⟨fun c => absurd c (by decide), fun _ => s9_in _ _ _ _ (fun _ => ⟨fun _ => hv _ ⟨fun c => absurd cv c, fun _ => h _ _ _ hA⟩, fun c => absurd c (by decide)⟩) (fun hn' => absurd hn hn')⟩) (fun hf' => absurd hf hf'))
  · unfold w9_figure w9_figure_b24
    exact s9_bits x _ (s9_isFigure _ _ (fun _ => ⟨fun c => absurd c (by decide), fun _ => s9_in _ _ _ _ (fun hn' => absurd hn' hn) (fun _ => ⟨fun c => absurd rfl c, fun _ => h _ _ _ hA⟩)⟩) (fun hf' => absurd hf hf'))
  · unfold w9_figure w9_figure_b24
    exact s9_bits x _ (s9_isFigure _ _ (fun hf' => absurd hf' hf) (fun _ => ⟨fun _ => h _ _ _ hA, fun c => absurd rfl c⟩))
theorem e_drop (f : Int32) (Z : MS) (X : Nat → MS) (S : MS) (hA : All X S) (P : Int32 → Int32 → MS → (Nat → MS) → MS → Prop) (h : ∀ v Z' X' S', All X' S' → P v v Z' X' S') : w8_drop f Z X (fun r1 Z2 X3 => w9_drop f S (fun r4 S5 => P r1 r4 Z2 X3 S5)) := by
  have g0 : ∀ {S'}, Fr [0, 1] S S' → All X S' := fun hF => al_g hA (g8_rf hA.1) (g9_fr hA.2.1 hF (by decide) (by decide) (by decide) (by decide))
  unfold w8_drop
  refine s8_isFigure _ _ (fun hf => ⟨fun _ => ?_, fun c => absurd c (by decide)⟩) (fun hf => ⟨fun c => absurd rfl c, fun _ => s9_drop _ _ _ (fun _ => h _ _ _ _ hA) (fun q => absurd q hf) (fun q => absurd q hf)⟩)
  obtain ⟨k, hk, rfl⟩ := vp_in_of hf (by decide)
  have ht := ff_there hA hk
  rw [nI_clamp (by omega)]
  refine ⟨hf, ⟨by omega, hk⟩, s2_isThere _ _ (fun hi => ⟨fun _ => x2_takeAway _ _ (fun T eT eI => ?_), fun c => absurd c (by decide)⟩) (fun hi => ⟨fun c => absurd rfl c, fun _ => s8_refuse _ _ _ _ (fun Z' _ => ?_)⟩)⟩
  · rintro _ rfl
    refine s9_drop _ _ _ (fun q => absurd hf q) (fun _ hz => ?_) (fun _ _ S' hF e => h _ _ _ _ ?_)
    · rw [rL_n S hk] at hz
      exact absurd (ht.mpr hz) hi
    · rw [nI_clamp (by omega)] at e
      exact al_fig hA hk (g9_fig hA.2.1 hF (by decide) (by decide) (by decide) e (by rw [pc_0]; omega)) e (by rw [eT]; exact Sim.rf 0) ⟨fun _ => eT, fun _ => eI⟩
  · refine s9_drop _ _ _ (fun q => absurd hf q) (fun _ _ S' hF => h _ _ _ _ (g0 hF)) (fun _ hz => ?_)
    rw [rL_n S hk] at hz
    exact absurd (ht.mp hi) hz
theorem s9_turnN (f o t : Int32) (S : MS) (hI : Inv9 S) (R : Int32 → MS → Prop) (hb : ¬ (vp_in f 6 ∧ vp_in t 6) → ∀ r, R r S) (hm : ∀ k, k < 6 → f = nI k → vp_in t 6 → aJ S 3 k = 0 → ∀ r S', Fr [0, 1] S S' → R r S') (hk : ∀ k j y S', k < 6 → j < 6 → f = nI k → t = nI j → ¬ aJ S 3 k = 0 → TnB (decide (¬ o = 0)) (aJ S 3 k) y → H9 S S' → aJ S' 3 = vp_updL (aJ S 3) j y → R 1 S') : w9_turn f o t S R := by
  have key : ∀ q : Int32, q = (if o = 0 then 1 else 0) → vp_in f 6 → vp_in t 6 → ¬ rL S 3 f = 0 → w9_turn_b43 t (rL S 3 f) o q S R := by
    rintro _ rfl hf ht hx
    obtain ⟨k, hk6, rfl⟩ := vp_in_of hf (by decide)
    obtain ⟨j, hj6, rfl⟩ := vp_in_of ht (by decide)
    rw [rL_n S hk6] at hx ⊢
    unfold w9_turn_b43
    refine x9_once _ _ hx S _ (fun y S1 hT hF1 => s9_keep _ ht _ _ _ (fun S2 hF2 e => ?_))
    rw [(hF1 3 (by decide)).2.2.2, nI_clamp (by omega)] at e
    exact hk k j y S2 hk6 hj6 rfl rfl hx hT (g9_fig (ks := [3, 4, 5, 6]) hI (fr_tr (fr_mono hF1 (by decide)) hF2) (by decide) (by decide) (by decide) e (by rw [tb_pc hT]; exact hI.2.1 k hk6)) e
  unfold w9_turn
  refine s9_isFigure _ _ (fun ht => ⟨fun _ => s9_looked _ _ _ (fun hf => ⟨fun c => absurd c (by decide), fun _ => hb (fun w => hf w.1) _⟩) (fun hf hz S' hF => ⟨fun c => absurd c (by decide), fun _ => ?_⟩) (fun hf hx => ⟨fun _ => ⟨hf, fun c => key _ (by rw [if_pos c]) hf ht hx, fun c => key _ (by rw [if_neg c]) hf ht hx⟩, fun c => absurd r0_pos c⟩), fun c => absurd c (by decide)⟩) (fun ht => ⟨fun c => absurd rfl c, fun _ => hb (fun w => ht w.2) _⟩)
  obtain ⟨k, hk6, rfl⟩ := vp_in_of hf (by decide)
  rw [rL_n S hk6] at hz
  exact hm k hk6 rfl ht hz _ S' hF
theorem inj6 {a b : Nat} (ha : a < 6) (hb : b < 6) (e : nI a = nI b) : a = b := (nI_eq (by omega) (by omega)).mp e
theorem e_turn (f o t : Int32) (Z : MS) (X : Nat → MS) (S : MS) (hA : All X S) (Q : Int32 → MS → (Nat → MS) → Prop) (h : ∀ r Z' X', (∀ R : Int32 → MS → Prop, (∀ r' S', All X' S' → R r' S') → w9_turn f o t S R) → Q r Z' X') : w8_turn f o t Z X Q := by
  have g0 : ∀ {S'}, Fr [0, 1] S S' → All X S' := fun hF => al_g hA (g8_rf hA.1) (g9_fr hA.2.1 hF (by decide) (by decide) (by decide) (by decide))
  have same : (¬ (vp_in f 6 ∧ vp_in t 6) ∨ f = t ∨ ∃ k, k < 6 ∧ f = nI k ∧ aJ S 3 k = 0) → ∀ R : Int32 → MS → Prop, (∀ r' S', All X S' → R r' S') → w9_turn f o t S R := by
    intro hc R hR
    refine s9_turnN f o t S hA.2.1 R (fun _ r => hR r S hA) (fun k _ _ _ _ r S' hF => hR r S' (g0 hF)) (fun k j y S' hk hj ef et hx hT hH e => hR 1 S' ?_)
    rcases hc with q | q | ⟨k', hk', e', q⟩
    · exact absurd ⟨by rw [ef]; exact vp_in_nI hk (by decide), by rw [et]; exact vp_in_nI hj (by decide)⟩ q
    · rw [ef, et] at q
      have ekj := inj6 hk hj q
      subst ekj
      exact al_9 hA hk hH e (Sim.st _ hT)
    · rw [ef] at e'
      have ek := inj6 hk hk' e'
      subst ek
      exact absurd q hx
  unfold w8_turn w8_turn_b19
  refine s8_isFigure _ _ (fun hf => ⟨fun c => absurd c (by decide), fun _ => s8_isFigure _ _ (fun ht => ⟨fun c => absurd c (by decide), fun _ => ⟨fun cne => ?_, fun ceq => h _ _ _ (same (Or.inr (Or.inl ceq)))⟩⟩) (fun ht => ⟨fun _ => h _ _ _ (same (Or.inl (fun w => ht w.2))), fun c => absurd rfl c⟩)⟩) (fun hf => ⟨fun _ => h _ _ _ (same (Or.inl (fun w => hf w.1))), fun c => absurd rfl c⟩)
  obtain ⟨k, hk, rfl⟩ := vp_in_of hf (by decide)
  obtain ⟨j, hj, rfl⟩ := vp_in_of ht (by decide)
  have hth := ff_there hA hk
  have hF := hA.2.2.2.2.2.2 k hk
  rw [nI_clamp (by omega), nI_clamp (by omega)]
  refine ⟨hf, ⟨by omega, hk⟩, s2_isThere _ _ (fun hi => ⟨fun _ => ⟨ht, ?_⟩, fun c => absurd c (by decide)⟩) (fun hi => ⟨fun c => absurd rfl c, fun _ => s8_refuse _ _ _ _ (fun Z' _ => h _ _ _ (same (Or.inr (Or.inr ⟨k, hk, rfl, hth.mp hi⟩))))⟩)⟩
  have hx8 : ¬ fJ (X k) 1 = 0 := fun q => hi (hF.2.mpr q)
  refine x0_turned _ _ hx8 _ (fun y8 hT8 => ⟨⟨by omega, hj⟩, x2_putPlain _ _ _ (fun T eT eI => ?_)⟩)
  rintro _ rfl
  refine h _ _ _ (fun R hR => s9_turnN _ o _ S hA.2.1 R (fun c => absurd ⟨hf, ht⟩ c) (fun k' hk' e' _ hz => ?_) (fun k' j' y S' hk' hj' ef et hx hT hH e => hR 1 S' ?_))
  · have ek := inj6 hk hk' e'
    subst ek
    exact absurd (hth.mpr hz) hi
  · have ek := inj6 hk hk' ef
    have ej := inj6 hj hj' et
    subst ek ej
    exact al_fig hA hj hH e (by rw [eT]; exact sim_tb hF.1 hT8 hT) ⟨fun q => absurd q eI, fun q => by rw [eT] at q; exact absurd q (tb_ne hT8)⟩
theorem e_squares (f : Int32) (Z : MS) (X : Nat → MS) (S : MS) (hA : All X S) (P : Int32 → Int32 → MS → MS → Prop) (h : ∀ v Z' S', All X S' → P v v Z' S') : w8_squares f Z X (fun r1 Z2 => w9_squares f S (fun r4 S5 => P r1 r4 Z2 S5)) := by
  have g0 : ∀ {ks S'}, Fr ks S S' → 3 ∉ ks → 7 ∉ ks → 40 ∉ ks → 41 ∉ ks → All X S' := fun hF h3 h7 h40 h41 => al_g hA (g8_rf hA.1) (g9_fr hA.2.1 hF h3 h7 h40 h41)
  have hs : ∀ (R : Int32 → MS → Prop), (¬ vp_in f 6 → R (-1) S) → (∀ k, k < 6 → f = nI k → aJ S 3 k = 0 → ∀ S', Fr [0, 1] S S' → R (-3) S') → (∀ k, k < 6 → f = nI k → ¬ aJ S 3 k = 0 → ∀ S', Fr [2] S S' → R (nI (pc (aJ S 3 k))) S') → w9_squares f S R := by
    intro R h1 h2 h3
    unfold w9_squares w9_squares_b33 w9_ask
    refine s9_looked _ _ _ (fun hf => ⟨fun c => absurd c (by decide), fun _ => h1 hf⟩) (fun hf hz S' hF => ⟨fun c => absurd c (by decide), fun _ => ?_⟩) (fun hf hx => ⟨fun _ => ⟨hf, s9_bits _ _ ?_⟩, fun c => absurd r0_pos c⟩)
    · obtain ⟨k, hk, rfl⟩ := vp_in_of hf (by decide)
      rw [rL_n S hk] at hz
      exact h2 k hk rfl hz S' hF
    · obtain ⟨k, hk, rfl⟩ := vp_in_of hf (by decide)
      rw [rL_n S hk] at hx ⊢
      rintro _ rfl
      exact h3 k hk rfl hx _ (fr_sJ (by decide))
  unfold w8_squares
  refine s8_isFigure _ _ (fun hf => ⟨fun _ => ?_, fun c => absurd c (by decide)⟩) (fun hf => ⟨fun c => absurd rfl c, fun _ => hs _ (fun _ => h _ _ _ hA) (fun k hk e => absurd (by rw [e]; exact vp_in_nI hk (by decide)) hf) (fun k hk e => absurd (by rw [e]; exact vp_in_nI hk (by decide)) hf)⟩)
  obtain ⟨k, hk, rfl⟩ := vp_in_of hf (by decide)
  have hth := ff_there hA hk
  rw [nI_clamp (by omega)]
  refine ⟨hf, ⟨by omega, hk⟩, s2_isThere _ _ (fun hi => ⟨fun _ => ?_, fun c => absurd c (by decide)⟩) (fun hi => ⟨fun c => absurd rfl c, fun _ => s8_refuse _ _ _ _ (fun Z' _ => ?_)⟩)⟩
  · rintro _ rfl
    refine s13_bitCount _ _ (hs _ (fun c => absurd hf c) (fun k' hk' e hz => ?_) (fun k' hk' e hx S' hF => ?_))
    · have ek := inj6 hk hk' e
      subst ek
      exact absurd (hth.mpr hz) hi
    · have ek := inj6 hk hk' e
      subst ek
      rw [← sim_pc (hA.2.2.2.2.2.2 k hk).1]
      exact h _ _ _ (g0 hF (by decide) (by decide) (by decide) (by decide))
  · refine hs _ (fun c => absurd hf c) (fun k' hk' e hz S' hF => h _ _ _ (g0 hF (by decide) (by decide) (by decide) (by decide))) (fun k' hk' e hx => ?_)
    have ek := inj6 hk hk' e
    subst ek
    exact absurd (hth.mp hi) hx

/-! ===== pure: laying out on both sides ===== -/
theorem ldG_of {V : MS} {d : Nat → Nat} (h24 : tot d ≤ 24) (hd : ∀ j, j < 3 → 1 ≤ d j) (hC : BoxC V d) : LdG d (fun i => (aI V 4 i).toNatClampNeg) := by
  intro s l w hs hl hw
  have := ld_lt (w := w) hs hd hl hw
  show (aI V 4 (4 * (pre d s + l) + w)).toNatClampNeg = _
  rw [hC.2.2.2 s l w hs hl hw, nI_clamp (by omega)]
theorem s6_isWhole {d g : Nat → Nat} {x : Int64} {q0 f0 : Nat} {S V : MS} (h24 : tot d ≤ 24) (hd : ∀ j, j < 3 → 1 ≤ d j) (hC : BoxC V d) (hg : LdG d g) (hb : bt x q0 = true) (hl : ∀ j, j < q0 → bt x j = false) (hf : f0 < 4 * tot d) (hcn : Cn (bt x)) (hpc : pc x = tot d) (Q : Int32 → MS → Prop) (h0 : ∀ S', ¬ Fits d g (bt x) q0 f0 → Q 0 S') (h1 : ∀ S', Fits d g (bt x) q0 f0 → Q 1 S') : w6_isWhole x (nI f0) S V Q := by
  unfold w6_isWhole w6_isWhole_b26 w6_isWhole_b27
  refine s13_bitCount _ _ ?_
  rw [hpc, hC.2.1]
  refine ⟨fun c => absurd rfl c, fun _ => s6_fold h24 hd hC hg hb hl hf hcn _ (fun S' hno => ⟨fun _ => ⟨rfl, h0 _ hno⟩, fun c => absurd rfl c⟩) (fun S' hy => ⟨fun c => absurd c (by decide), fun _ => ⟨rfl, h1 _ hy⟩⟩)⟩
theorem s8_layOutTo {d g : Nat → Nat} {tr : Nat → Nat → Bool} {f b c q ro : Nat} (hf : f < 6) (hb : b < 4) (hro : ro < 5) (Z : MS) (X : Nat → MS) (hI : Inv8 X) (h24 : tot d ≤ 24) (hd : ∀ j, j < 3 → 1 ≤ d j) (hC : BoxC (X (6 + b)) d) (hg : LdG d g) (hT : TrR (X (10 + ro)) tr) (hc : c < tot d) (hq : q < 64) (Q : Int32 → (Nat → MS) → Prop) (h : ∀ r X', G8 X X' → LR d g tr q (4 * c) r → Q r X') : w8_layOutTo f (6 + b) (nI c) (nI q) (10 + ro) Z X Q := by
  unfold w8_layOutTo w8_frameOf
  rw [show (4 : Int32) = nI 4 from rfl, pk_mul, p0_I]
  refine ⟨⟨by omega, by omega⟩, ⟨by omega, by omega⟩, s6_layOutFrom h24 hd hC hg hT hq (by omega) _ (fun S hbad => ?_) (fun S L e1 e2 hR hW => ?_)⟩
  · rintro _ rfl
    exact ⟨fun c => absurd rfl c, fun _ => h _ _ (g8_free hI S (Or.inr (Or.inr (Or.inl rfl)))) (Or.inl ⟨hbad, rfl⟩)⟩
  rintro _ rfl
  have hG1 := g8_free hI S (Or.inr (Or.inr (Or.inl rfl)))
  refine ⟨fun _ => ?_, fun c => absurd c (by decide)⟩
  have hbx := bt_L hW hR.2.2.1
  have hpos : 0 < L.length := by omega
  obtain ⟨p, hp⟩ := lst_ex (List.getElem_mem hpos)
  obtain ⟨hp1, hp2⟩ := hW.1 p hp.1
  have hxm : bt (fJ S 4) p.1 = true := by rw [hbx]; exact hsq_iff.mpr ⟨p, hp.1, rfl⟩
  have hxl : ∀ j, j < p.1 → bt (fJ S 4) j = false := fun j hj => by rw [hbx]; exact hp.2 j hj
  have hcn : Cn (bt (fJ S 4)) := by rw [hbx]; exact lay_cn 24 L e1 (fun r hr => (hW.1 r hr).1)
  have hpc : pc (fJ S 4) = tot d := (pc_L hW hR.2.2.1).trans e2
  rw [va_up_self, va_up_ne X S (show 15 ≠ 16 by decide), va_up_ne X S (show 6 + b ≠ 16 by omega)]
  refine s0_leastN _ hxm hxl _ (s6_frameAt hR hp.1 hp1 _ (s6_isWhole h24 hd hC hg hxm hxl hp2 hcn hpc _ (fun S2 hno => ?_) (fun S2 hy => ?_)))
  · rintro _ rfl
    rw [hbx] at hno
    exact ⟨fun c => absurd rfl c, fun _ => h _ _ (g8_tr hG1 (g8_free hG1.1 S2 (Or.inr (Or.inl rfl)))) (Or.inr ⟨L, p, e1, e2, hW, hp, Or.inr ⟨hno, rfl⟩⟩)⟩
  · rintro _ rfl
    rw [hbx] at hy
    have hG2 := g8_tr hG1 (g8_free hG1.1 S2 (Or.inr (Or.inl rfl)))
    refine ⟨fun _ => ⟨⟨by omega, hf⟩, t2_putNet _ _ _ _ _ (fun S3 => ?_)⟩, fun c => absurd c (by decide)⟩
    rintro _ rfl
    exact h _ _ (g8_tr hG2 (g8_free hG2.1 S3 (Or.inl hf))) (Or.inr ⟨L, p, e1, e2, hW, hp, Or.inl ⟨hy, rfl⟩⟩)
theorem sq_in {q : Int32} : (0 : Int32).toInt ≤ q.toInt ∧ q.toInt ≤ (63 : Int32).toInt ↔ vp_in q 64 := by
  have e0 : (0 : Int32).toInt = 0 := rfl
  have e63 : (63 : Int32).toInt = 63 := rfl
  rw [pi_in]
  omega
theorem s9_layOutN (R : Nat → (Nat → Nat) → Prop) (x c q f : Int32) (S : MS) (hd : ∀ b, b < 4 → ¬ dm S b 0 = 0 → ∃ d, BoxN S b d ∧ R b d) (Q : Int32 → MS → Prop) (hb : ¬ (vp_in x 4 ∧ vp_in q 64 ∧ vp_in f 6) → Q (-1) S) (hn : ∀ b, b < 4 → x = nI b → vp_in q 64 → vp_in f 6 → (dm S b 0 = 0 ∨ ∃ d, BoxN S b d ∧ R b d ∧ ¬ (0 ≤ c.toInt ∧ c.toInt < (tot d : Int))) → ∀ S', Fr [0, 1] S S' → Q (-3) S')
    (hk : ∀ b d cn, b < 4 → x = nI b → vp_in q 64 → vp_in f 6 → BoxN S b d → R b d → cn < tot d → c = nI cn → w9_lays x c q (-9) f S Q) : w9_layOut x c q f S Q := by
  unfold w9_layOut w9_layOut_b18 w9_layOut_b63
  refine s9_in _ _ _ _ (fun hq => ⟨fun c => absurd c (by decide), fun _ => s9_isFigure _ _ (fun hf => ⟨fun _ => s9_lookedBox _ _ _ (fun hx => ⟨fun c => absurd c (by decide), fun _ => hb (fun w => hx w.1)⟩) (fun b hb4 e hz S' hF => ⟨fun c => absurd c (by decide), fun _ => hn b hb4 e (sq_in.mp hq) hf (Or.inl hz) S' hF⟩) (fun b hb4 e hz => ⟨fun _ => ?_, fun c => absurd r0_pos c⟩), fun c => absurd c (by decide)⟩) (fun hf => ⟨fun c => absurd rfl c, fun _ => hb (fun w => hf w.2.2)⟩)⟩) (fun hq => ⟨fun _ => hb (fun w => hq (sq_in.mpr w.2.1)), fun c => absurd rfl c⟩)
  obtain ⟨d, hB, hR⟩ := hd b hb4 hz
  have hk' := fun cn => hk b d cn hb4 e (sq_in.mp hq) hf hB hR
  have hn' := hn b hb4 e (sq_in.mp hq) hf
  subst e
  exact cell_in2 hb4 hB c _ (fun cn hc e => ⟨fun c => absurd c (by decide), fun _ => hk' cn hc e⟩) (fun hc => ⟨fun _ => m9_fr _ (by unfold vp_in; decide) _ _ (fun S' hF => hn' (Or.inr ⟨d, hB, hR, hc⟩) S' hF), fun c => absurd rfl c⟩)
theorem s8_layOutN (x c q f : Int32) (Z : MS) (X : Nat → MS) (hI : Inv8 X) (Q : Int32 → MS → (Nat → MS) → Prop) (hb : ¬ (vp_in x 4 ∧ vp_in q 64 ∧ vp_in f 6) → Q (-1) Z X) (hn : ∀ b, b < 4 → x = nI b → vp_in q 64 → vp_in f 6 → ¬ (0 ≤ c.toInt ∧ c.toInt < (fI (X (6 + b)) 6).toInt) → ∀ Z', Q (-3) Z' X)
    (hk : ∀ b k, b < 4 → k < 6 → x = nI b → f = nI k → vp_in q 64 → (0 ≤ c.toInt ∧ c.toInt < (fI (X (6 + b)) 6).toInt) → w8_layOutTo k (6 + b) c q 14 Z X (fun r X' => Q r Z X')) : w8_layOut x c q f Z X Q := by
  unfold w8_layOut w8_layOut_b22
  refine s8_isBox _ _ (fun hx => ⟨fun c => absurd c (by decide), fun _ => s8_isSquare _ _ (fun hq => ⟨fun c => absurd c (by decide), fun _ => s8_isFigure _ _ (fun hf => ⟨fun _ => ?_, fun c => absurd c (by decide)⟩) (fun hf => ⟨fun c => absurd rfl c, fun _ => hb (fun w => hf w.2.2)⟩)⟩) (fun hq => ⟨fun _ => hb (fun w => hq w.2.1), fun c => absurd rfl c⟩)⟩) (fun hx => ⟨fun _ => hb (fun w => hx w.1), fun c => absurd rfl c⟩)
  obtain ⟨k, hk6, rfl⟩ := vp_in_of hf (by decide)
  obtain ⟨b, hb4, rfl⟩ := vp_in_of hx (by decide)
  rw [nI_clamp (by omega), nI_clamp (by omega)]
  exact ⟨hx, ⟨by omega, by omega⟩, s8_missingCell _ _ _ (fun w => ⟨fun _ => ⟨hf, hk b k hb4 hk6 rfl rfl hq w⟩, fun c => absurd rfl c⟩) (fun w r hr => ⟨fun c => absurd c (ne_0 hr), fun _ => s8_refuse _ _ _ _ (fun Z' _ => hn b hb4 rfl hq hf w Z')⟩)⟩
theorem e_layOut (x c q f : Int32) (Z : MS) (X : Nat → MS) (S : MS) (h8 : Inv8 X) (h9 : Inv9 S) (hR : RR X S) (hB : BB X S) (hA : fI (X 14) 1 = 0) (P : Int32 → Int32 → MS → (Nat → MS) → MS → Prop) (h : ∀ v Z' X' S', Nx X X' S S' → P v v Z' X' S') : w8_layOut x c q f Z X (fun r1 Z2 X3 => w9_layOut x c q f S (fun r4 S5 => P r1 r4 Z2 X3 S5)) := by
  have g0 : ∀ {X' ks S'}, G8 X X' → Fr ks S S' → 3 ∉ ks → 7 ∉ ks → 40 ∉ ks → 41 ∉ ks → Nx X X' S S' := fun g8 hF h3 h7 h40 h41 => nx_g hR g8 (g9_fr h9 hF h3 h7 h40 h41)
  refine s8_layOutN x c q f Z X h8 _ (fun c8 => ?_) (fun b hb e hq hf c8 Z' => ?_) (fun b k hb hk e1 e2 hq c8 => ?_)
  · refine s9_layOutN (fun b d => BoxC (X (6 + b)) d) _ _ _ _ _ (bb_d hB) _ (fun _ => h _ _ _ _ (nx_rf h8 h9 hR)) (fun b hb e hq hf _ S' hF => ?_) (fun b d cn hb e hq hf _ _ _ _ => ?_)
    · exact absurd ⟨by rw [e]; exact vp_in_nI hb (by decide), hq, hf⟩ c8
    · exact absurd ⟨by rw [e]; exact vp_in_nI hb (by decide), hq, hf⟩ c8
  · subst e
    refine s9_layOutN (fun b d => BoxC (X (6 + b)) d) _ _ _ _ _ (bb_d hB) _ (fun c9 => absurd ⟨vp_in_nI hb (by decide), hq, hf⟩ c9) (fun b' hb' e _ _ _ S' hF => h _ _ _ _ (g0 (g8_rf h8) hF (by decide) (by decide) (by decide) (by decide))) (fun b' d cn hb' e _ _ hN hC hcn ec => ?_)
    have eb := inj4 hb hb' e
    subst eb
    have h24 := hN.2
    exfalso
    apply c8
    rw [bc_tot hN.2 hC, ec, nI_toInt (by omega)]
    omega
  · subst e1 e2
    have hB0 := hB b hb
    rcases hB0 with ⟨q1, q2⟩ | ⟨d, hN, hC⟩
    · rw [q1] at c8
      have : (0 : Int32).toInt = 0 := rfl
      omega
    have h24 := hN.2
    have hd1 : ∀ j, j < 3 → 1 ≤ d j := fun j hj => (hN.1 j hj).1
    rw [bc_tot h24 hC] at c8
    obtain ⟨cn, hcn, rfl⟩ := vp_in_of (n := tot d) (pi_in.mpr c8) (by omega)
    obtain ⟨qn, hqn, rfl⟩ := vp_in_of hq (by decide)
    have hg := ldG_of h24 hd1 hC
    have hT : TrR (X (10 + 4)) (fun _ _ => true) := by
      intro c2 hc2
      refine ⟨fun hlt => ?_, fun _ _ _ => rfl⟩
      rw [show 10 + 4 = 14 from rfl, hA, show (0 : Int32).toInt = 0 from rfl] at hlt
      omega
    refine s8_layOutTo (ro := 4) hk hb (by decide) Z X h8 h24 hd1 hC hg hT hcn hqn _ (fun r X' g8 hr => ?_)
    refine s9_layOutN (fun b d => BoxC (X (6 + b)) d) _ _ _ _ _ (bb_d hB) _ (fun c9 => absurd ⟨vp_in_nI hb (by decide), hq, vp_in_nI hk (by decide)⟩ c9) (fun b' hb' e _ _ c9 S' hF => ?_) (fun b' d' cn' hb' e _ _ _ _ _ _ => ?_)
    · have eb := inj4 hb hb' e
      subst eb
      exfalso
      rcases c9 with q | ⟨d2, hN2, hC2, q⟩
      · have h0 := (hN.1 0 (by decide))
        rw [h0.2.2] at q
        exact absurd q (nI_ne0 (by omega) (by omega))
      · apply q
        have e1 := bc_tot h24 hC
        have e2 := bc_tot hN2.2 hC2
        rw [← e2, e1]
        exact c8
    · refine s9_laysN (-9) (nI k) (vp_in_nI hk (by decide)) hb S h9 hN hg (Or.inl ⟨rfl, fun _ _ _ _ => rfl⟩) hcn hqn _ (fun r' S' g9 hr' => ?_)
      rw [lr_fun hr' hr]
      exact h _ _ _ _ (nx_g hR g8 g9)

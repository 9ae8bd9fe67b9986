/-! ===== pure: rim, meanAngle on both sides ===== -/
/-- a rim that was walked: n edges from a start, round once -/
def Wk (x : Int64) (m n : Nat) : Prop := bt x m = true ∧ (∀ j, j < m → bt x j = false) ∧ 1 ≤ n ∧ n ≤ 96 ∧ orb x (m, 0) n = (m, 0) ∧ Dst x (m, 0) n
theorem wk_full {x : Int64} {m n : Nat} (h : Wk x m n) : n = oe x ↔ TrvS x := ret_full (ve_0 h.1 h.2.1) h.2.2.1 h.2.2.2.2.1 h.2.2.2.2.2
theorem x9_askedRim {k : Nat} (hk : k < 6) (S : MS) (hI : Inv9 S) (Q : Int32 → MS → Prop) (hz : aJ S 3 k = 0 → ∀ S', Fr [0, 1] S S' → Q (-3) S') (hw : ¬ aJ S 3 k = 0 → ∀ S' n m, Fr [25, 26, 27, 28] S S' → Wk (aJ S 3 k) m n → fI S' 25 = nI n → (∀ i, i < n → aI S' 28 i = nI (ang (aJ S 3 k) (orb (aJ S 3 k) (m, 0) ((i + n - 1) % n)))) → Q (if n = oe (aJ S 3 k) then 0 else -4) S') : w9_askedRim (nI k) S Q := by
  have hf : vp_in (nI k) 6 := vp_in_nI hk (by decide)
  unfold w9_askedRim w9_askedRim_b33
  refine s9_looked _ _ _ (fun c => absurd hf c) (fun _ h0 S' hF => ⟨fun c => absurd c (by decide), fun _ => ?_⟩) (fun _ h0 => ⟨fun _ => ⟨hf, ?_⟩, fun c => absurd r0_pos c⟩)
  · rw [rL_n S hk] at h0
    exact hz h0 S' hF
  · rw [rL_n S hk] at h0 ⊢
    refine x9_isWalked _ h0 (hI.2.1 k hk) S _ (fun S' n m h1 h2 hF h3 h4 h5 h6 h7 h8 => ?_)
    have hh := hw h0 S' n m hF ⟨h1, h2, h3, h4, h5, h6⟩ h7 h8
    by_cases e : n = oe (aJ S 3 k)
    · rw [if_pos e] at hh ⊢
      exact ⟨fun c => absurd c (by decide), fun _ => hh⟩
    · rw [if_neg e] at hh ⊢
      exact ⟨fun _ => hh, fun c => absurd rfl c⟩
theorem g9_rimF {S S' : MS} (hI : Inv9 S) (hF : Fr [25, 26, 27, 28] S S') : G9 S S' := g9_fr hI hF (by decide) (by decide) (by decide) (by decide)
theorem askB {f : Int32} (hf : ¬ vp_in f 6) (S : MS) (Q : Int32 → MS → Prop) (h : Q (-1) S) : w9_askedRim f S Q := by
  unfold w9_askedRim w9_askedRim_b33
  exact s9_looked _ _ _ (fun _ => ⟨fun c => absurd c (by decide), fun _ => h⟩) (fun q => absurd q hf) (fun q => absurd q hf)
/-- what is known of a figure that is there, on both sides -/
theorem fig_on {X : Nat → MS} {S : MS} (hA : All X S) {k : Nat} (hk : k < 6) (hi : ¬ fI (X k) 0 = -1) : ¬ fJ (X k) 1 = 0 ∧ ¬ aJ S 3 k = 0 ∧ Sim (fJ (X k) 1) (aJ S 3 k) ∧ pc (fJ (X k) 1) ≤ 24 ∧ Cn (bt (fJ (X k) 1)) := by
  have hF := hA.2.2.2.2.2.2 k hk
  have h0 : ¬ fJ (X k) 1 = 0 := fun e => hi (hF.2.1.mpr e)
  exact ⟨h0, fun e => h0 ((sim_0 hF.1).mpr e), hF.1, by rw [sim_pc hF.1]; exact hA.2.1.2.1 k hk, hF.2.2 h0⟩
theorem e_rim (f : Int32) (Z : MS) (X : Nat → MS) (S : MS) (hA : All X S) (P : Int32 → Int32 → MS → (Nat → MS) → MS → Prop) (h : ∀ v Z' X' S', All X' S' → P v v Z' X' S') : w8_rim f Z X (fun r1 Z2 X3 => w9_rim f S (fun r4 S5 => P r1 r4 Z2 X3 S5)) := by
  have g0 : ∀ {S'}, Fr [0, 1] S S' → All X S' := fun hF => al_g hA (g8_rf hA.1) (g9_fr hA.2.1 hF (by decide) (by decide) (by decide) (by decide))
  have h01 : ¬ (1 : Int32) = 0 := by decide
  unfold w8_rim w8_rim_b58
  refine s8_isFigure _ _ (fun hf => ⟨fun _ => ?_, fun c => absurd c h01⟩) (fun hf => ⟨fun c => absurd rfl c, fun _ => ?_⟩)
  rotate_left
  · unfold w9_rim w9_rim_b18
    exact askB hf _ _ ⟨fun c => absurd c (by decide), fun _ => h _ _ _ _ hA⟩
  obtain ⟨k, hk, rfl⟩ := vp_in_of hf (by decide)
  rw [nI_clamp (by omega)]
  refine ⟨hf, ⟨by omega, hk⟩, s2_isThere _ _ (fun hi => ⟨fun _ => ?_, fun c => absurd c h01⟩) (fun hi => ⟨fun c => absurd rfl c, fun _ => s8_refuse _ _ _ _ (fun Z' _ => ?_)⟩)⟩
  rotate_left
  · unfold w9_rim w9_rim_b18
    have hz := (ff_there hA hk).mp hi
    exact x9_askedRim hk S hA.2.1 _ (fun _ S' hF => ⟨fun c => absurd c (by decide), fun _ => h _ _ _ _ (g0 hF)⟩) (fun q => absurd hz q)
  obtain ⟨hx, hy, hs, hpc, hcn⟩ := fig_on hA hk hi
  obtain ⟨s1, s2, s3⟩ := sim_rim hs
  refine x4_walk _ hx hpc hcn _ _ (fun S8 n m h1 h2 h3 h4 h5 h6 h7 h8 => ?_)
  rintro _ rfl
  have hw8 : Wk (fJ (X k) 1) m n := ⟨h1, h2, h3, by omega, h5, h6⟩
  have hG := g8_rim hA.1 S8 ⟨n, h4, h7⟩
  rw [va_up_self, h7]
  have fin9 : ∀ Z', w9_rim (nI k) S (fun r4 S5 => P (if n = oe (fJ (X k) 1) then nI n else -4) r4 Z' (va_up X 18 S8) S5) := by
    intro Z'
    unfold w9_rim w9_rim_b18
    refine x9_askedRim hk S hA.2.1 _ (fun q => absurd q hy) (fun _ S' n' m' hF hw e25 _ => ?_)
    have hAll := al_g hA hG (g9_rimF hA.2.1 hF)
    have key : n = oe (fJ (X k) 1) ↔ n' = oe (aJ S 3 k) := by rw [wk_full hw8, wk_full hw, s1]
    by_cases e : n = oe (fJ (X k) 1)
    · have e' := key.mp e
      rw [if_pos e, if_pos e', e25]
      refine ⟨fun _ => ?_, fun c => absurd r0_pos c⟩
      rw [show n' = n by omega]
      exact h _ _ _ _ hAll
    · have e' : ¬ n' = oe (aJ S 3 k) := fun q => e (key.mpr q)
      rw [if_neg e, if_neg e']
      exact ⟨fun c => absurd c (by decide), fun _ => h _ _ _ _ hAll⟩
  by_cases e : n = oe (fJ (X k) 1)
  · have := fin9 Z
    rw [if_pos e] at this ⊢
    exact ⟨fun c => absurd c h01, fun _ => this⟩
  · have := fin9 Z
    rw [if_neg e] at this ⊢
    exact ⟨fun _ => this, fun c => absurd rfl c⟩
theorem x4_sum {n : Nat} (a : Nat → Nat) (S : MS) (hn : n ≤ 50) (e : fI S 3 = nI n) (ha : ∀ k, k < n → aI S 1 k = nI (a k)) (Q : Int32 → Prop) (h : Q (nI (fb_sm a n))) : w4_sumOfAngles S Q := by
  unfold w4_sumOfAngles w4_sumOfAngles_b4
  refine lp_up n (fun z => z.2) (fun k z => z.1 = nI (fb_sm a k)) (by omega) ?_ (Nat.zero_le _) (rfl : (0 : Int32) = nI 0) (by exact rfl)
  rintro K ⟨v, y⟩ k hk hcc hI hK
  try dsimp only at hcc hI hK
  subst hcc
  unfold w4_sumOfAngles_F4 w4_sumOfAngles_d4
  try dsimp only
  rw [e]
  refine ⟨fun c => ?_, fun c => ?_⟩
  · have ek := nI_end (by omega) hk c
    rw [hI, ek]
    exact h
  have hlt := nI_go (by omega) hk c
  refine ⟨vp_in_nI (by omega) (by decide), ?_⟩
  rw [rA_n _ _ (by omega), ha k hlt]
  rintro _ rfl _ rfl
  refine hK (_, _) hlt (nI_1 k) ?_
  show v + nI (a k) = _
  rw [hI, nI_add, fb_sm_succ]
theorem x9_sum {n : Nat} (a : Nat → Nat) (S : MS) (h1 : 1 ≤ n) (hn : n ≤ 96) (e : fI S 25 = nI n) (ha : ∀ k, k < n → aI S 28 k = nI (a k)) (Q : Int32 → MS → Prop) (h : Q (((100 : Int32) * nI (fb_sm a n)) / nI n) S) : w9_meanAngle_b17 (0 : Int32) (0 : Int32) S Q := by
  unfold w9_meanAngle_b17
  refine lp_up n (fun z => z.2) (fun k z => z.1 = nI (fb_sm a k)) (by omega) ?_ (Nat.zero_le _) (rfl : (0 : Int32) = nI 0) (by exact rfl)
  rintro K ⟨v, y⟩ k hk hcc hI hK
  try dsimp only at hcc hI hK
  subst hcc
  unfold w9_meanAngle_F17 w9_meanAngle_d17
  try dsimp only
  rw [e]
  refine ⟨fun c => ⟨nI_ne0 (by omega) (by omega), ?_⟩, fun c => ?_⟩
  · have ek := nI_end (by omega) hk c
    rw [hI, ek]
    exact h
  have hlt := nI_go (by omega) hk c
  refine ⟨vp_in_nI (by omega) (by decide), ?_⟩
  rw [rA_n _ _ (by omega), ha k hlt]
  rintro _ rfl _ rfl
  refine hK (_, _) hlt (nI_1 k) ?_
  show v + nI (a k) = _
  rw [hI, nI_add, fb_sm_succ]
theorem sm_rot (g : Nat → Nat) (n : Nat) (hn : 1 ≤ n) : fb_sm (fun k => g ((k + n - 1) % n)) n = fb_sm g n := by
  obtain ⟨n', rfl⟩ : ∃ n', n = n' + 1 := ⟨n - 1, by omega⟩
  have h := fb_sm_split (fun k => g ((k + (n' + 1) - 1) % (n' + 1))) 1 n'
  rw [Nat.add_comm 1 n'] at h
  rw [h, fb_sm_succ g n']
  have e1 : fb_sm (fun k => g ((k + (n' + 1) - 1) % (n' + 1))) 1 = g n' := by
    show 0 + g ((0 + (n' + 1) - 1) % (n' + 1)) = g n'
    rw [show 0 + (n' + 1) - 1 = n' by omega, Nat.mod_eq_of_lt (by omega), Nat.zero_add]
  have e2 : fb_sm (fun k => g ((1 + k + (n' + 1) - 1) % (n' + 1))) n' = fb_sm g n' := fb_sm_cong fun k hk => by
    rw [show 1 + k + (n' + 1) - 1 = k + (n' + 1) by omega, Nat.add_mod_right, Nat.mod_eq_of_lt (by omega)]
  rw [e1, e2]
  omega
theorem wk_sum {x : Int64} {m n : Nat} (h : Wk x m n) (e : n = oe x) : fb_sm (fun i => ang x (orb x (m, 0) ((i + n - 1) % n))) n = anS x := by
  rw [sm_rot (fun i => ang x (orb x (m, 0) i)) n h.2.2.1]
  exact orb_sum (ve_0 h.1 h.2.1) h.2.2.2.2.2 e
theorem e_meanAngle (f : Int32) (Z : MS) (X : Nat → MS) (S : MS) (hA : All X S) (P : Int32 → Int32 → MS → (Nat → MS) → MS → Prop) (h : ∀ v Z' X' S', All X' S' → P v v Z' X' S') : w8_meanAngle f Z X (fun r1 Z2 X3 => w9_meanAngle f S (fun r4 S5 => P r1 r4 Z2 X3 S5)) := by
  have g0 : ∀ {S'}, Fr [0, 1] S S' → All X S' := fun hF => al_g hA (g8_rf hA.1) (g9_fr hA.2.1 hF (by decide) (by decide) (by decide) (by decide))
  have h01 : ¬ (1 : Int32) = 0 := by decide
  unfold w8_meanAngle w8_meanAngle_b82
  refine s8_isFigure _ _ (fun hf => ⟨fun _ => ?_, fun c => absurd c h01⟩) (fun hf => ⟨fun c => absurd rfl c, fun _ => ?_⟩)
  rotate_left
  · unfold w9_meanAngle
    exact askB hf _ _ ⟨fun c => absurd c (by decide), fun _ => h _ _ _ _ hA⟩
  obtain ⟨k, hk, rfl⟩ := vp_in_of hf (by decide)
  rw [nI_clamp (by omega)]
  refine ⟨hf, ⟨by omega, hk⟩, s2_isThere _ _ (fun hi => ⟨fun _ => ?_, fun c => absurd c h01⟩) (fun hi => ⟨fun c => absurd rfl c, fun _ => s8_refuse _ _ _ _ (fun Z' _ => ?_)⟩)⟩
  rotate_left
  · unfold w9_meanAngle
    have hz := (ff_there hA hk).mp hi
    exact x9_askedRim hk S hA.2.1 _ (fun _ S' hF => ⟨fun c => absurd c (by decide), fun _ => h _ _ _ _ (g0 hF)⟩) (fun q => absurd hz q)
  obtain ⟨hx, hy, hs, hpc, hcn⟩ := fig_on hA hk hi
  obtain ⟨s1, s2, s3⟩ := sim_rim hs
  refine x4_walk _ hx hpc hcn _ _ (fun S8 n m h1 h2 h3 h4 h5 h6 h7 h8 => ?_)
  rintro _ rfl
  have hw8 : Wk (fJ (X k) 1) m n := ⟨h1, h2, h3, by omega, h5, h6⟩
  have hG := g8_rim hA.1 S8 ⟨n, h4, h7⟩
  have fin9 : ∀ Z', w9_meanAngle (nI k) S (fun r4 S5 => P (if n = oe (fJ (X k) 1) then ((100 : Int32) * nI (anS (fJ (X k) 1))) / nI n else -4) r4 Z' (va_up X 18 S8) S5) := by
    intro Z'
    unfold w9_meanAngle
    refine x9_askedRim hk S hA.2.1 _ (fun q => absurd q hy) (fun _ S' n' m' hF hw e25 e28 => ?_)
    have hAll := al_g hA hG (g9_rimF hA.2.1 hF)
    have key : n = oe (fJ (X k) 1) ↔ n' = oe (aJ S 3 k) := by rw [wk_full hw8, wk_full hw, s1]
    by_cases e : n = oe (fJ (X k) 1)
    · have e' := key.mp e
      rw [if_pos e, if_pos e']
      refine ⟨fun _ => x9_sum _ S' hw.2.2.1 hw.2.2.2.1 e25 e28 _ ?_, fun c => absurd r0_pos c⟩
      rw [wk_sum hw e', ← s3, show n' = n by omega]
      exact h _ _ _ _ hAll
    · have e' : ¬ n' = oe (aJ S 3 k) := fun q => e (key.mpr q)
      rw [if_neg e, if_neg e']
      exact ⟨fun c => absurd c (by decide), fun _ => h _ _ _ _ hAll⟩
  by_cases e : n = oe (fJ (X k) 1)
  · have hfin := fin9 Z
    rw [if_pos e] at hfin
    rw [if_pos e, va_up_self, h7]
    refine ⟨fun _ => ⟨fun c => ?_, fun _ => x4_sum _ S8 h4 h7 h8 _ ⟨nI_ne0 (by omega) (by omega), ?_⟩⟩, fun c => absurd c h01⟩
    · exfalso
      rw [pi_le, nI_toInt (by omega), show (0 : Int32).toInt = 0 from rfl] at c
      omega
    · rw [wk_sum hw8 e]
      exact hfin
  · have hfin := fin9 Z
    rw [if_neg e] at hfin
    rw [if_neg e]
    exact ⟨fun c => absurd rfl c, fun _ => hfin⟩

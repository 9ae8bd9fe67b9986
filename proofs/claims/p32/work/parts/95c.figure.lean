/-! ===== pure: figure on both sides ===== -/
theorem e_figure (f : Int32) (x : Int64) (Z : MS) (X : Nat → MS) (S : MS) (h8 : Inv8 X) (h9 : Inv9 S) (P : Int32 → Int32 → (Nat → MS) → MS → Prop) (h : ∀ v X' S', G8 X X' → G9 S S' → P v v X' S') : w8_figure f x Z X (fun r1 X3 => w9_figure f x S (fun r4 S5 => P r1 r4 X3 S5)) := by
  have e1 : (1 : Int32).toInt = 1 := rfl
  have e24 : (24 : Int32).toInt = 24 := rfl
  have ep : (nI (pc x)).toInt = (pc x : Int) := nI_toInt (by have := pc_le x; omega)
  unfold w8_figure w8_figure_b24
  refine s13_bitCount x _ (s8_isFigure _ _ (fun hf => ⟨fun c => absurd c (by decide), fun _ => s8_within _ _ _ _ (fun hn => ⟨fun _ => ?_, fun c => absurd c (by decide)⟩) (fun hn => ⟨fun c => absurd rfl c, fun _ => ?_⟩)⟩) (fun hf => ⟨fun _ => ?_, fun c => absurd rfl c⟩))
  · have hx : ¬ x = 0 := by
      intro e
      rw [e, pc_0] at ep hn
      rw [show (nI 0).toInt = 0 from rfl] at hn
      omega
    refine e_hangs x hx (by omega) _ (fun v hv => ⟨fun cv => ?_, fun cv => ?_⟩)
    · obtain ⟨k, hk, rfl⟩ := vp_in_of hf (by decide)
      rw [nI_clamp (by omega)]
      refine ⟨hf, ⟨by omega, hk⟩, t2_putPlain _ _ _ (fun T => ?_)⟩
      rintro _ rfl
      unfold w9_figure w9_figure_b24
      exact s9_bits x _ (s9_isFigure _ _ (fun _ => ⟨fun c => absurd c (by decide), fun _ => s9_in _ _ _ _ (fun _ => ⟨fun _ => hv _ ⟨fun _ => s9_keep _ hf _ _ _ (fun S' hF e => h _ _ _ (g8_free h8 _ (Or.inl hk)) (g9_fig h9 hF (by decide) (by decide) (by decide) e (by omega))), fun c => absurd c cv⟩, fun c => absurd c (by decide)⟩) (fun hn' => absurd hn hn')⟩) (fun hf' => absurd hf hf'))
    · unfold w9_figure w9_figure_b24
      exact s9_bits x _ (s9_isFigure _ _ (fun _ => ⟨fun c => absurd c (by decide), fun _ => s9_in _ _ _ _ (fun _ => ⟨fun _ => hv _ ⟨fun c => absurd cv c, fun _ => h _ _ _ (g8_rf h8) (g9_rf h9)⟩, fun c => absurd c (by decide)⟩) (fun hn' => absurd hn hn')⟩) (fun hf' => absurd hf hf'))
  · unfold w9_figure w9_figure_b24
    exact s9_bits x _ (s9_isFigure _ _ (fun _ => ⟨fun c => absurd c (by decide), fun _ => s9_in _ _ _ _ (fun hn' => absurd hn' hn) (fun _ => ⟨fun c => absurd rfl c, fun _ => h _ _ _ (g8_rf h8) (g9_rf h9)⟩)⟩) (fun hf' => absurd hf hf'))
  · unfold w9_figure w9_figure_b24
    exact s9_bits x _ (s9_isFigure _ _ (fun hf' => absurd hf' hf) (fun _ => ⟨fun _ => h _ _ _ (g8_rf h8) (g9_rf h9), fun c => absurd rfl c⟩))

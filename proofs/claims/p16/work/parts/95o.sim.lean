/-! ===== pure: figures joined by turnings ===== -/
def Sim (x y : Int64) : Prop := ∀ R : Int64 → Int64 → Prop, (∀ a, R a a) → (∀ a b, R a b → R b a) → (∀ a b c, R a b → R b c → R a c) → (∀ m a b, TnB m a b → R a b) → R x y
theorem Sim.rf (x : Int64) : Sim x x := fun _ h1 _ _ _ => h1 x
theorem Sim.sy {x y : Int64} (h : Sim x y) : Sim y x := fun R h1 h2 h3 h4 => h2 _ _ (h R h1 h2 h3 h4)
theorem Sim.tr {x y z : Int64} (h : Sim x y) (g : Sim y z) : Sim x z := fun R h1 h2 h3 h4 => h3 _ _ _ (h R h1 h2 h3 h4) (g R h1 h2 h3 h4)
theorem Sim.st {x y : Int64} (m : Bool) (h : TnB m x y) : Sim x y := fun _ _ _ _ h4 => h4 m _ _ h
theorem sim_pc {x y : Int64} (h : Sim x y) : pc x = pc y :=
  h (fun a b => pc a = pc b) (fun _ => rfl) (fun _ _ e => e.symm) (fun _ _ _ e f => e.trans f) (fun _ _ _ e => (tb_pc e).symm)
theorem pc_z {x : Int64} : pc x = 0 ↔ x = 0 := by
  constructor
  · intro h
    refine bt_ext fun k hk => ?_
    rw [bt_0]
    exact fb_ct_zero.mp h k hk
  · intro e
    rw [e]; exact pc_0
theorem sim_0 {x y : Int64} (h : Sim x y) : x = 0 ↔ y = 0 := by
  rw [← pc_z, ← pc_z, sim_pc h]
/-- the figures of both sides -/
def FF (X : Nat → MS) (S : MS) : Prop := ∀ f, f < 6 → Sim (fJ (X f) 1) (aJ S 3 f)
/-- turning both, or the one alone -/
theorem sim_tb {m : Bool} {x y x' y' : Int64} (h : Sim x y) (h1 : TnB m x x') (h2 : TnB m y y') : Sim x' y' := Sim.tr (Sim.sy (Sim.st m h1)) (Sim.tr h (Sim.st m h2))

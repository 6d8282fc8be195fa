/-- the objects as both constructors leave them -/
def c_a : cM := ([(1000, 0), (1000, 0), (9, 8)], [], [])
def c_b : cM := (cx 6 0 [.inr 2] c_a).getD c_a
def c_c : cM := (c_b.1 ++ [(10, 32)], c_b.2.1, c_b.2.2)
def c_d : cM := (cx 6 89 [.inr 286] c_c).getD c_c
theorem c_ab : (cx 6 0 [.inr 2] c_a).isSome = true := by decide +kernel
theorem c_cd : (cx 6 89 [.inr 286] c_c).isSome = true := by decide +kernel
theorem c_ab2 : cx 6 0 [.inr 2] c_a = some c_b := by
  unfold c_b
  cases h : cx 6 0 [.inr 2] c_a with
  | none => have := c_ab; rw [h] at this; cases this
  | some z => rfl
theorem c_cd2 : cx 6 89 [.inr 286] c_c = some c_d := by
  unfold c_d
  cases h : cx 6 89 [.inr 286] c_c with
  | none => have := c_cd; rw [h] at this; cases this
  | some z => rfl
theorem c_b_ln : c_b.1.length = 286 ∧ csl c_b = 2899 ∧ cfr c_b = true := by decide +kernel
def c_il : List (Nat × Nat × Int) := (List.range 10).reverse.map (fun k => (296, k, -1)) ++ ((List.range 10).reverse.map (fun k => (62, k, -1)) ++ (List.range 10).reverse.map (fun k => (5, k, -1)))
def c_z : g_M := (fun _ _ _ => 0, fun _ => none)
def c_rc (l : List (Nat × Nat × Nat)) : Bool := (List.range 310).all (fun i => bif Nat.blt (g_sh.getD i (1000, 0)).1 2 then true else (List.range (g_sh.getD i (1000, 0)).2).all (fun k => bif Nat.beq (g_sh.getD i (1000, 0)).1 2 || hm_isr ((g_sh.getD i (1000, 0)).1 - 3) k then Nat.beq (lkN l i k) (g_rb c_z i k) else true))
theorem c_all : (c_d.1 == g_sh && c_d.2.1 == c_il && c_rc c_d.2.2) = true := by decide +kernel

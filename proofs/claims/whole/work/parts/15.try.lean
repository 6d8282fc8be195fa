/-- HeapLaw.kindOf(I)I -/
def sp_24 (pc : Nat) : Option Nat := match pc with
  | _ => none
theorem rg_24_0 {D : Nat} {Q : g_P} {M : g_M} {x0 : Int} (h : Q [.inl (hm_and (hm_shr x0 (6 : Int)) (3 : Int))] M) : g_R (D + 1) 24 Q 0 [.inl x0] [] M :=
  g_go hk_24 ⟨rfl, rfl⟩ (g_C_ok g_F0_ok) sp_24 7 h

/-- HeapLawModel.has(II)Z -/
def sp_112 (pc : Nat) : Option Nat := match pc with
  | 2 => some 4
  | 52 => some 4
  | _ => none
theorem rg_112_0 {D : Nat} {Q : g_P} {M : g_M} {x1 : Int} {x2 : Int} (h : g_R (D + 1) 112 Q 2 [.inr (0, 286), .inl x1, .inl x2, .inl (0 : Int)] [] M) : g_R (D + 1) 112 Q 0 [.inr (0, 286), .inl x1, .inl x2] [] M :=
  g_go hk_112 ⟨rfl, rfl⟩ (g_C_ok g_F0_ok) sp_112 3 h
theorem rg_112_2 {D : Nat} {Q : g_P} {M : g_M} {x1 : Int} {x2 : Int} {x3 : Int} (h : ((0 : Int) ≤ x1 ∧ x1 < ((200 : Nat) : Int)) ∧ ((M.1 0 287 x1.toNat ≤ x3 → (g_R (D + 1) 112 Q 52 [.inr (0, 286), .inl x1, .inl x2, .inl (0 : Int)] [] M)) ∧ (x3 < M.1 0 287 x1.toNat → ((hm_in ((16 : Int) * x1)) ∧ ((hm_in (((16 : Int) * x1) + x3)) ∧ (((0 : Int) ≤ ((16 : Int) * x1) + x3 ∧ ((16 : Int) * x1) + x3 < ((3200 : Nat) : Int)) ∧ ((M.1 0 289 (((16 : Int) * x1) + x3).toNat = x2 → (((0 : Int) ≤ (1 : Int) ∧ (1 : Int) ≤ 1) ∧ (Q [.inl (1 : Int)] M))) ∧ (¬ M.1 0 289 (((16 : Int) * x1) + x3).toNat = x2 → ((hm_in ((16 : Int) * x1)) ∧ ((hm_in (((16 : Int) * x1) + x3)) ∧ (((0 : Int) ≤ ((16 : Int) * x1) + x3 ∧ ((16 : Int) * x1) + x3 < ((3200 : Nat) : Int)) ∧ ((¬ M.1 0 290 (((16 : Int) * x1) + x3).toNat = x2 → ((hm_in (x3 + (1 : Int))) ∧ (g_R (D + 1) 112 Q 2 [.inr (0, 286), .inl x1, .inl x2, .inl (x3 + (1 : Int))] [] M))) ∧ (M.1 0 290 (((16 : Int) * x1) + x3).toNat = x2 → (((0 : Int) ≤ (1 : Int) ∧ (1 : Int) ≤ 1) ∧ (Q [.inl (1 : Int)] M))))))))))))))) : g_R (D + 1) 112 Q 2 [.inr (0, 286), .inl x1, .inl x2, .inl x3] [] M :=
  g_go hk_112 ⟨rfl, rfl⟩ (g_C_ok g_F0_ok) sp_112 29 h
theorem rg_112_52 {D : Nat} {Q : g_P} {M : g_M} {x1 : Int} {x2 : Int} {x3 : Int} (h : ((0 : Int) ≤ x1 ∧ x1 < ((200 : Nat) : Int)) ∧ ((M.1 0 291 x1.toNat ≤ x3 → (((0 : Int) ≤ (0 : Int) ∧ (0 : Int) ≤ 1) ∧ (Q [.inl (0 : Int)] M))) ∧ (x3 < M.1 0 291 x1.toNat → ((hm_in ((10 : Int) * x1)) ∧ ((hm_in (((10 : Int) * x1) + x3)) ∧ (((0 : Int) ≤ ((10 : Int) * x1) + x3 ∧ ((10 : Int) * x1) + x3 < ((2000 : Nat) : Int)) ∧ ((M.1 0 293 (((10 : Int) * x1) + x3).toNat = x2 → (((0 : Int) ≤ (1 : Int) ∧ (1 : Int) ≤ 1) ∧ (Q [.inl (1 : Int)] M))) ∧ (¬ M.1 0 293 (((10 : Int) * x1) + x3).toNat = x2 → ((hm_in ((10 : Int) * x1)) ∧ ((hm_in (((10 : Int) * x1) + x3)) ∧ (((0 : Int) ≤ ((10 : Int) * x1) + x3 ∧ ((10 : Int) * x1) + x3 < ((2000 : Nat) : Int)) ∧ ((¬ M.1 0 294 (((10 : Int) * x1) + x3).toNat = x2 → ((hm_in (x3 + (1 : Int))) ∧ (g_R (D + 1) 112 Q 52 [.inr (0, 286), .inl x1, .inl x2, .inl (x3 + (1 : Int))] [] M))) ∧ (M.1 0 294 (((10 : Int) * x1) + x3).toNat = x2 → (((0 : Int) ≤ (1 : Int) ∧ (1 : Int) ≤ 1) ∧ (Q [.inl (1 : Int)] M))))))))))))))) : g_R (D + 1) 112 Q 52 [.inr (0, 286), .inl x1, .inl x2, .inl x3] [] M :=
  g_go hk_112 ⟨rfl, rfl⟩ (g_C_ok g_F0_ok) sp_112 29 h


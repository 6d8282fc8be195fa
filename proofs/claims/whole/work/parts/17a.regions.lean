/-! REGIONS of the code, by wip/gen/gen17.py -/
theorem hn_8 : 1 ≤ (hm_me 8).2.2.1 := by decide +kernel
/-- HeapLaw.formula()I -/
def sp_8 (pc : Nat) : Option Nat := match pc with
  | 24 => some 1
  | _ => none
set_option maxRecDepth 20000 in
theorem rg_8_0 {D : Nat} {Q : g_P} {M : g_M} {D1 : Nat} (hD : D = D1 + 2) (h : (M.1 0 2 6 < (60 : Int) → (((0 : Int) ≤ M.1 0 2 6 ∧ M.1 0 2 6 < 72) ∧ (g_Ev D 9 [.inr (1, (12 + (M.1 0 2 6).toNat))] M (fun q M' => g_R (D + 1) 8 Q 24 [.inr (0, 2)] (q ++ []) M')))) ∧ ((60 : Int) ≤ M.1 0 2 6 → (Q [.inl (-2 : Int)] M))) : g_R (D + 1) 8 Q 0 [.inr (0, 2)] [] M := by
  subst hD
  exact g_go hk_8 ⟨rfl, rfl⟩ (g_C_ok (g_F_ok (D := D1))) sp_8 11 h
set_option maxRecDepth 20000 in
theorem rg_8_24 {D : Nat} {Q : g_P} {M : g_M} {D1 : Nat} (hD : D = D1 + 2) (h : (hm_in ((M.1 0 2 6) + (1 : Int))) ∧ ((hm_in (((M.1 0 2 6) + (1 : Int)) - (1 : Int))) ∧ (Q [.inl (((M.1 0 2 6) + (1 : Int)) - (1 : Int))] (g_uA M (0, 2) 6 ((M.1 0 2 6) + (1 : Int)))))) : g_R (D + 1) 8 Q 24 [.inr (0, 2)] [] M := by
  subst hD
  exact g_go hk_8 ⟨rfl, rfl⟩ (g_C_ok (g_F_ok (D := D1))) sp_8 12 h
theorem hn_9 : 1 ≤ (hm_me 9).2.2.1 := by decide +kernel
/-- HeapLaw$Formula.clear()V -/
def sp_9 (pc : Nat) : Option Nat := match pc with
  | _ => none
set_option maxRecDepth 20000 in
theorem rg_9_0 {D : Nat} {Q : g_P} {M : g_M} {h0 : Nat} {D1 : Nat} (hD : D = D1 + 2) (h : Q [] (g_uA (g_uA M (1, h0) 2 (0 : Int)) (1, h0) 3 (0 : Int))) : g_R (D + 1) 9 Q 0 [.inr (1, h0)] [] M := by
  subst hD
  exact g_go hk_9 ⟨rfl, rfl⟩ (g_C_ok (g_F_ok (D := D1))) sp_9 8 h
theorem hn_10 : 5 ≤ (hm_me 10).2.2.1 := by decide +kernel
/-- HeapLaw.pure(IIII)I -/
def sp_10 (pc : Nat) : Option Nat := match pc with
  | 50 => some 5
  | _ => none
set_option maxRecDepth 20000 in
theorem rg_10_0 {D : Nat} {Q : g_P} {M : g_M} {x1 : Int} {x2 : Int} {x3 : Int} {x4 : Int} {D1 : Nat} (hD : D = D1 + 2) (h : ((0 ≤ x1 ∧ x1 < M.1 0 2 6) → (((1 : Int) = (0 : Int) → (Q [.inl (-1 : Int)] M)) ∧ (¬ (1 : Int) = (0 : Int) → (((x2 = 0 ∨ x2 = 1) → (((1 : Int) = (0 : Int) → (Q [.inl (-1 : Int)] M)) ∧ (¬ (1 : Int) = (0 : Int) → (((0 ≤ x3 ∧ x3 < 8) → (((1 : Int) = (0 : Int) → (Q [.inl (-1 : Int)] M)) ∧ (¬ (1 : Int) = (0 : Int) → (((0 ≤ x4 ∧ x4 < 8) → ((¬ (1 : Int) = (0 : Int) → (((0 : Int) ≤ x1 ∧ x1 < 72) ∧ ((hm_in ((0 : Int) + x2)) ∧ (((0 ≤ ((0 : Int) + x2) ∧ ((0 : Int) + x2) < 4) ∧ (0 ≤ x3 ∧ x3 < 8) ∧ (0 ≤ x4 ∧ x4 < 8)) ∧ (g_Ev D 15 [.inr (1, (12 + x1.toNat)), .inl (64 * ((0 : Int) + x2) + 8 * x3 + x4)] M (fun q M' => g_R (D + 1) 10 Q 50 [.inr (0, 2), .inl x1, .inl x2, .inl x3, .inl x4] (q ++ []) M')))))) ∧ ((1 : Int) = (0 : Int) → (Q [.inl (-1 : Int)] M)))) ∧ (¬ (0 ≤ x4 ∧ x4 < 8) → ((¬ (0 : Int) = (0 : Int) → (((0 : Int) ≤ x1 ∧ x1 < 72) ∧ ((hm_in ((0 : Int) + x2)) ∧ (((0 ≤ ((0 : Int) + x2) ∧ ((0 : Int) + x2) < 4) ∧ (0 ≤ x3 ∧ x3 < 8) ∧ (0 ≤ x4 ∧ x4 < 8)) ∧ (g_Ev D 15 [.inr (1, (12 + x1.toNat)), .inl (64 * ((0 : Int) + x2) + 8 * x3 + x4)] M (fun q M' => g_R (D + 1) 10 Q 50 [.inr (0, 2), .inl x1, .inl x2, .inl x3, .inl x4] (q ++ []) M')))))) ∧ ((0 : Int) = (0 : Int) → (Q [.inl (-1 : Int)] M)))))))) ∧ (¬ (0 ≤ x3 ∧ x3 < 8) → (((0 : Int) = (0 : Int) → (Q [.inl (-1 : Int)] M)) ∧ (¬ (0 : Int) = (0 : Int) → (((0 ≤ x4 ∧ x4 < 8) → ((¬ (1 : Int) = (0 : Int) → (((0 : Int) ≤ x1 ∧ x1 < 72) ∧ ((hm_in ((0 : Int) + x2)) ∧ (((0 ≤ ((0 : Int) + x2) ∧ ((0 : Int) + x2) < 4) ∧ (0 ≤ x3 ∧ x3 < 8) ∧ (0 ≤ x4 ∧ x4 < 8)) ∧ (g_Ev D 15 [.inr (1, (12 + x1.toNat)), .inl (64 * ((0 : Int) + x2) + 8 * x3 + x4)] M (fun q M' => g_R (D + 1) 10 Q 50 [.inr (0, 2), .inl x1, .inl x2, .inl x3, .inl x4] (q ++ []) M')))))) ∧ ((1 : Int) = (0 : Int) → (Q [.inl (-1 : Int)] M)))) ∧ (¬ (0 ≤ x4 ∧ x4 < 8) → ((¬ (0 : Int) = (0 : Int) → (((0 : Int) ≤ x1 ∧ x1 < 72) ∧ ((hm_in ((0 : Int) + x2)) ∧ (((0 ≤ ((0 : Int) + x2) ∧ ((0 : Int) + x2) < 4) ∧ (0 ≤ x3 ∧ x3 < 8) ∧ (0 ≤ x4 ∧ x4 < 8)) ∧ (g_Ev D 15 [.inr (1, (12 + x1.toNat)), .inl (64 * ((0 : Int) + x2) + 8 * x3 + x4)] M (fun q M' => g_R (D + 1) 10 Q 50 [.inr (0, 2), .inl x1, .inl x2, .inl x3, .inl x4] (q ++ []) M')))))) ∧ ((0 : Int) = (0 : Int) → (Q [.inl (-1 : Int)] M)))))))))))) ∧ (¬ (x2 = 0 ∨ x2 = 1) → (((0 : Int) = (0 : Int) → (Q [.inl (-1 : Int)] M)) ∧ (¬ (0 : Int) = (0 : Int) → (((0 ≤ x3 ∧ x3 < 8) → (((1 : Int) = (0 : Int) → (Q [.inl (-1 : Int)] M)) ∧ (¬ (1 : Int) = (0 : Int) → (((0 ≤ x4 ∧ x4 < 8) → ((¬ (1 : Int) = (0 : Int) → (((0 : Int) ≤ x1 ∧ x1 < 72) ∧ ((hm_in ((0 : Int) + x2)) ∧ (((0 ≤ ((0 : Int) + x2) ∧ ((0 : Int) + x2) < 4) ∧ (0 ≤ x3 ∧ x3 < 8) ∧ (0 ≤ x4 ∧ x4 < 8)) ∧ (g_Ev D 15 [.inr (1, (12 + x1.toNat)), .inl (64 * ((0 : Int) + x2) + 8 * x3 + x4)] M (fun q M' => g_R (D + 1) 10 Q 50 [.inr (0, 2), .inl x1, .inl x2, .inl x3, .inl x4] (q ++ []) M')))))) ∧ ((1 : Int) = (0 : Int) → (Q [.inl (-1 : Int)] M)))) ∧ (¬ (0 ≤ x4 ∧ x4 < 8) → ((¬ (0 : Int) = (0 : Int) → (((0 : Int) ≤ x1 ∧ x1 < 72) ∧ ((hm_in ((0 : Int) + x2)) ∧ (((0 ≤ ((0 : Int) + x2) ∧ ((0 : Int) + x2) < 4) ∧ (0 ≤ x3 ∧ x3 < 8) ∧ (0 ≤ x4 ∧ x4 < 8)) ∧ (g_Ev D 15 [.inr (1, (12 + x1.toNat)), .inl (64 * ((0 : Int) + x2) + 8 * x3 + x4)] M (fun q M' => g_R (D + 1) 10 Q 50 [.inr (0, 2), .inl x1, .inl x2, .inl x3, .inl x4] (q ++ []) M')))))) ∧ ((0 : Int) = (0 : Int) → (Q [.inl (-1 : Int)] M)))))))) ∧ (¬ (0 ≤ x3 ∧ x3 < 8) → (((0 : Int) = (0 : Int) → (Q [.inl (-1 : Int)] M)) ∧ (¬ (0 : Int) = (0 : Int) → (((0 ≤ x4 ∧ x4 < 8) → ((¬ (1 : Int) = (0 : Int) → (((0 : Int) ≤ x1 ∧ x1 < 72) ∧ ((hm_in ((0 : Int) + x2)) ∧ (((0 ≤ ((0 : Int) + x2) ∧ ((0 : Int) + x2) < 4) ∧ (0 ≤ x3 ∧ x3 < 8) ∧ (0 ≤ x4 ∧ x4 < 8)) ∧ (g_Ev D 15 [.inr (1, (12 + x1.toNat)), .inl (64 * ((0 : Int) + x2) + 8 * x3 + x4)] M (fun q M' => g_R (D + 1) 10 Q 50 [.inr (0, 2), .inl x1, .inl x2, .inl x3, .inl x4] (q ++ []) M')))))) ∧ ((1 : Int) = (0 : Int) → (Q [.inl (-1 : Int)] M)))) ∧ (¬ (0 ≤ x4 ∧ x4 < 8) → ((¬ (0 : Int) = (0 : Int) → (((0 : Int) ≤ x1 ∧ x1 < 72) ∧ ((hm_in ((0 : Int) + x2)) ∧ (((0 ≤ ((0 : Int) + x2) ∧ ((0 : Int) + x2) < 4) ∧ (0 ≤ x3 ∧ x3 < 8) ∧ (0 ≤ x4 ∧ x4 < 8)) ∧ (g_Ev D 15 [.inr (1, (12 + x1.toNat)), .inl (64 * ((0 : Int) + x2) + 8 * x3 + x4)] M (fun q M' => g_R (D + 1) 10 Q 50 [.inr (0, 2), .inl x1, .inl x2, .inl x3, .inl x4] (q ++ []) M')))))) ∧ ((0 : Int) = (0 : Int) → (Q [.inl (-1 : Int)] M)))))))))))))))) ∧ (¬ (0 ≤ x1 ∧ x1 < M.1 0 2 6) → (((0 : Int) = (0 : Int) → (Q [.inl (-1 : Int)] M)) ∧ (¬ (0 : Int) = (0 : Int) → (((x2 = 0 ∨ x2 = 1) → (((1 : Int) = (0 : Int) → (Q [.inl (-1 : Int)] M)) ∧ (¬ (1 : Int) = (0 : Int) → (((0 ≤ x3 ∧ x3 < 8) → (((1 : Int) = (0 : Int) → (Q [.inl (-1 : Int)] M)) ∧ (¬ (1 : Int) = (0 : Int) → (((0 ≤ x4 ∧ x4 < 8) → ((¬ (1 : Int) = (0 : Int) → (((0 : Int) ≤ x1 ∧ x1 < 72) ∧ ((hm_in ((0 : Int) + x2)) ∧ (((0 ≤ ((0 : Int) + x2) ∧ ((0 : Int) + x2) < 4) ∧ (0 ≤ x3 ∧ x3 < 8) ∧ (0 ≤ x4 ∧ x4 < 8)) ∧ (g_Ev D 15 [.inr (1, (12 + x1.toNat)), .inl (64 * ((0 : Int) + x2) + 8 * x3 + x4)] M (fun q M' => g_R (D + 1) 10 Q 50 [.inr (0, 2), .inl x1, .inl x2, .inl x3, .inl x4] (q ++ []) M')))))) ∧ ((1 : Int) = (0 : Int) → (Q [.inl (-1 : Int)] M)))) ∧ (¬ (0 ≤ x4 ∧ x4 < 8) → ((¬ (0 : Int) = (0 : Int) → (((0 : Int) ≤ x1 ∧ x1 < 72) ∧ ((hm_in ((0 : Int) + x2)) ∧ (((0 ≤ ((0 : Int) + x2) ∧ ((0 : Int) + x2) < 4) ∧ (0 ≤ x3 ∧ x3 < 8) ∧ (0 ≤ x4 ∧ x4 < 8)) ∧ (g_Ev D 15 [.inr (1, (12 + x1.toNat)), .inl (64 * ((0 : Int) + x2) + 8 * x3 + x4)] M (fun q M' => g_R (D + 1) 10 Q 50 [.inr (0, 2), .inl x1, .inl x2, .inl x3, .inl x4] (q ++ []) M')))))) ∧ ((0 : Int) = (0 : Int) → (Q [.inl (-1 : Int)] M)))))))) ∧ (¬ (0 ≤ x3 ∧ x3 < 8) → (((0 : Int) = (0 : Int) → (Q [.inl (-1 : Int)] M)) ∧ (¬ (0 : Int) = (0 : Int) → (((0 ≤ x4 ∧ x4 < 8) → ((¬ (1 : Int) = (0 : Int) → (((0 : Int) ≤ x1 ∧ x1 < 72) ∧ ((hm_in ((0 : Int) + x2)) ∧ (((0 ≤ ((0 : Int) + x2) ∧ ((0 : Int) + x2) < 4) ∧ (0 ≤ x3 ∧ x3 < 8) ∧ (0 ≤ x4 ∧ x4 < 8)) ∧ (g_Ev D 15 [.inr (1, (12 + x1.toNat)), .inl (64 * ((0 : Int) + x2) + 8 * x3 + x4)] M (fun q M' => g_R (D + 1) 10 Q 50 [.inr (0, 2), .inl x1, .inl x2, .inl x3, .inl x4] (q ++ []) M')))))) ∧ ((1 : Int) = (0 : Int) → (Q [.inl (-1 : Int)] M)))) ∧ (¬ (0 ≤ x4 ∧ x4 < 8) → ((¬ (0 : Int) = (0 : Int) → (((0 : Int) ≤ x1 ∧ x1 < 72) ∧ ((hm_in ((0 : Int) + x2)) ∧ (((0 ≤ ((0 : Int) + x2) ∧ ((0 : Int) + x2) < 4) ∧ (0 ≤ x3 ∧ x3 < 8) ∧ (0 ≤ x4 ∧ x4 < 8)) ∧ (g_Ev D 15 [.inr (1, (12 + x1.toNat)), .inl (64 * ((0 : Int) + x2) + 8 * x3 + x4)] M (fun q M' => g_R (D + 1) 10 Q 50 [.inr (0, 2), .inl x1, .inl x2, .inl x3, .inl x4] (q ++ []) M')))))) ∧ ((0 : Int) = (0 : Int) → (Q [.inl (-1 : Int)] M)))))))))))) ∧ (¬ (x2 = 0 ∨ x2 = 1) → (((0 : Int) = (0 : Int) → (Q [.inl (-1 : Int)] M)) ∧ (¬ (0 : Int) = (0 : Int) → (((0 ≤ x3 ∧ x3 < 8) → (((1 : Int) = (0 : Int) → (Q [.inl (-1 : Int)] M)) ∧ (¬ (1 : Int) = (0 : Int) → (((0 ≤ x4 ∧ x4 < 8) → ((¬ (1 : Int) = (0 : Int) → (((0 : Int) ≤ x1 ∧ x1 < 72) ∧ ((hm_in ((0 : Int) + x2)) ∧ (((0 ≤ ((0 : Int) + x2) ∧ ((0 : Int) + x2) < 4) ∧ (0 ≤ x3 ∧ x3 < 8) ∧ (0 ≤ x4 ∧ x4 < 8)) ∧ (g_Ev D 15 [.inr (1, (12 + x1.toNat)), .inl (64 * ((0 : Int) + x2) + 8 * x3 + x4)] M (fun q M' => g_R (D + 1) 10 Q 50 [.inr (0, 2), .inl x1, .inl x2, .inl x3, .inl x4] (q ++ []) M')))))) ∧ ((1 : Int) = (0 : Int) → (Q [.inl (-1 : Int)] M)))) ∧ (¬ (0 ≤ x4 ∧ x4 < 8) → ((¬ (0 : Int) = (0 : Int) → (((0 : Int) ≤ x1 ∧ x1 < 72) ∧ ((hm_in ((0 : Int) + x2)) ∧ (((0 ≤ ((0 : Int) + x2) ∧ ((0 : Int) + x2) < 4) ∧ (0 ≤ x3 ∧ x3 < 8) ∧ (0 ≤ x4 ∧ x4 < 8)) ∧ (g_Ev D 15 [.inr (1, (12 + x1.toNat)), .inl (64 * ((0 : Int) + x2) + 8 * x3 + x4)] M (fun q M' => g_R (D + 1) 10 Q 50 [.inr (0, 2), .inl x1, .inl x2, .inl x3, .inl x4] (q ++ []) M')))))) ∧ ((0 : Int) = (0 : Int) → (Q [.inl (-1 : Int)] M)))))))) ∧ (¬ (0 ≤ x3 ∧ x3 < 8) → (((0 : Int) = (0 : Int) → (Q [.inl (-1 : Int)] M)) ∧ (¬ (0 : Int) = (0 : Int) → (((0 ≤ x4 ∧ x4 < 8) → ((¬ (1 : Int) = (0 : Int) → (((0 : Int) ≤ x1 ∧ x1 < 72) ∧ ((hm_in ((0 : Int) + x2)) ∧ (((0 ≤ ((0 : Int) + x2) ∧ ((0 : Int) + x2) < 4) ∧ (0 ≤ x3 ∧ x3 < 8) ∧ (0 ≤ x4 ∧ x4 < 8)) ∧ (g_Ev D 15 [.inr (1, (12 + x1.toNat)), .inl (64 * ((0 : Int) + x2) + 8 * x3 + x4)] M (fun q M' => g_R (D + 1) 10 Q 50 [.inr (0, 2), .inl x1, .inl x2, .inl x3, .inl x4] (q ++ []) M')))))) ∧ ((1 : Int) = (0 : Int) → (Q [.inl (-1 : Int)] M)))) ∧ (¬ (0 ≤ x4 ∧ x4 < 8) → ((¬ (0 : Int) = (0 : Int) → (((0 : Int) ≤ x1 ∧ x1 < 72) ∧ ((hm_in ((0 : Int) + x2)) ∧ (((0 ≤ ((0 : Int) + x2) ∧ ((0 : Int) + x2) < 4) ∧ (0 ≤ x3 ∧ x3 < 8) ∧ (0 ≤ x4 ∧ x4 < 8)) ∧ (g_Ev D 15 [.inr (1, (12 + x1.toNat)), .inl (64 * ((0 : Int) + x2) + 8 * x3 + x4)] M (fun q M' => g_R (D + 1) 10 Q 50 [.inr (0, 2), .inl x1, .inl x2, .inl x3, .inl x4] (q ++ []) M')))))) ∧ ((0 : Int) = (0 : Int) → (Q [.inl (-1 : Int)] M))))))))))))))))) : g_R (D + 1) 10 Q 0 [.inr (0, 2), .inl x1, .inl x2, .inl x3, .inl x4] [] M := by
  subst hD
  exact g_go hk_10 ⟨rfl, rfl⟩ (g_C_ok (g_F_ok (D := D1))) sp_10 25 h
set_option maxRecDepth 20000 in
theorem rg_10_50 {D : Nat} {Q : g_P} {M : g_M} {x1 : Int} {x2 : Int} {x3 : Int} {x4 : Int} {s0 : Int} {D1 : Nat} (hD : D = D1 + 2) (h : (s0 = (0 : Int) → (Q [.inl (-2 : Int)] M)) ∧ (¬ s0 = (0 : Int) → (((0 : Int) ≤ x1 ∧ x1 < 72) ∧ (Q [.inl (M.1 1 (12 + x1.toNat) 2)] M)))) : g_R (D + 1) 10 Q 50 [.inr (0, 2), .inl x1, .inl x2, .inl x3, .inl x4] [.inl s0] M := by
  subst hD
  exact g_go hk_10 ⟨rfl, rfl⟩ (g_C_ok (g_F_ok (D := D1))) sp_10 9 h
theorem hn_15 : 2 ≤ (hm_me 15).2.2.1 := by decide +kernel
/-- HeapLaw$Formula.addPure(I)Z -/
def sp_15 (pc : Nat) : Option Nat := match pc with
  | _ => none
set_option maxRecDepth 20000 in
theorem rg_15_0 {D : Nat} {Q : g_P} {M : g_M} {h0 : Nat} {x1 : Int} {D1 : Nat} (hD : D = D1 + 2) (h : (M.1 1 h0 2 < (16 : Int) → (((0 : Int) ≤ M.1 1 h0 2 ∧ M.1 1 h0 2 < ((16 : Nat) : Int)) ∧ ((hm_in ((M.1 1 h0 2) + (1 : Int))) ∧ (((0 : Int) ≤ (1 : Int) ∧ (1 : Int) ≤ 1) ∧ (Q [.inl (1 : Int)] (g_uA (g_uA M (2, h0) (M.1 1 h0 2).toNat x1) (1, h0) 2 ((M.1 1 h0 2) + (1 : Int)))))))) ∧ ((16 : Int) ≤ M.1 1 h0 2 → (((0 : Int) ≤ (0 : Int) ∧ (0 : Int) ≤ 1) ∧ (Q [.inl (0 : Int)] M)))) : g_R (D + 1) 15 Q 0 [.inr (1, h0), .inl x1] [] M := by
  subst hD
  exact g_go hk_15 ⟨rfl, rfl⟩ (g_C_ok (g_F_ok (D := D1))) sp_15 19 h
theorem hn_16 : 5 ≤ (hm_me 16).2.2.1 := by decide +kernel
/-- HeapLaw.part(IIII)I -/
def sp_16 (pc : Nat) : Option Nat := match pc with
  | 50 => some 5
  | _ => none
set_option maxRecDepth 20000 in
theorem rg_16_0 {D : Nat} {Q : g_P} {M : g_M} {x1 : Int} {x2 : Int} {x3 : Int} {x4 : Int} {D1 : Nat} (hD : D = D1 + 2) (h : ((0 ≤ x1 ∧ x1 < M.1 0 2 6) → (((1 : Int) = (0 : Int) → (Q [.inl (-1 : Int)] M)) ∧ (¬ (1 : Int) = (0 : Int) → (((x2 = 0 ∨ x2 = 1) → (((1 : Int) = (0 : Int) → (Q [.inl (-1 : Int)] M)) ∧ (¬ (1 : Int) = (0 : Int) → (((0 ≤ x3 ∧ x3 < 8) → (((1 : Int) = (0 : Int) → (Q [.inl (-1 : Int)] M)) ∧ (¬ (1 : Int) = (0 : Int) → (((0 ≤ x4 ∧ x4 < 8) → ((¬ (1 : Int) = (0 : Int) → (((0 : Int) ≤ x1 ∧ x1 < 72) ∧ ((hm_in ((2 : Int) + x2)) ∧ (((0 ≤ ((2 : Int) + x2) ∧ ((2 : Int) + x2) < 4) ∧ (0 ≤ x3 ∧ x3 < 8) ∧ (0 ≤ x4 ∧ x4 < 8)) ∧ (g_Ev D 17 [.inr (1, (12 + x1.toNat)), .inl (64 * ((2 : Int) + x2) + 8 * x3 + x4)] M (fun q M' => g_R (D + 1) 16 Q 50 [.inr (0, 2), .inl x1, .inl x2, .inl x3, .inl x4] (q ++ []) M')))))) ∧ ((1 : Int) = (0 : Int) → (Q [.inl (-1 : Int)] M)))) ∧ (¬ (0 ≤ x4 ∧ x4 < 8) → ((¬ (0 : Int) = (0 : Int) → (((0 : Int) ≤ x1 ∧ x1 < 72) ∧ ((hm_in ((2 : Int) + x2)) ∧ (((0 ≤ ((2 : Int) + x2) ∧ ((2 : Int) + x2) < 4) ∧ (0 ≤ x3 ∧ x3 < 8) ∧ (0 ≤ x4 ∧ x4 < 8)) ∧ (g_Ev D 17 [.inr (1, (12 + x1.toNat)), .inl (64 * ((2 : Int) + x2) + 8 * x3 + x4)] M (fun q M' => g_R (D + 1) 16 Q 50 [.inr (0, 2), .inl x1, .inl x2, .inl x3, .inl x4] (q ++ []) M')))))) ∧ ((0 : Int) = (0 : Int) → (Q [.inl (-1 : Int)] M)))))))) ∧ (¬ (0 ≤ x3 ∧ x3 < 8) → (((0 : Int) = (0 : Int) → (Q [.inl (-1 : Int)] M)) ∧ (¬ (0 : Int) = (0 : Int) → (((0 ≤ x4 ∧ x4 < 8) → ((¬ (1 : Int) = (0 : Int) → (((0 : Int) ≤ x1 ∧ x1 < 72) ∧ ((hm_in ((2 : Int) + x2)) ∧ (((0 ≤ ((2 : Int) + x2) ∧ ((2 : Int) + x2) < 4) ∧ (0 ≤ x3 ∧ x3 < 8) ∧ (0 ≤ x4 ∧ x4 < 8)) ∧ (g_Ev D 17 [.inr (1, (12 + x1.toNat)), .inl (64 * ((2 : Int) + x2) + 8 * x3 + x4)] M (fun q M' => g_R (D + 1) 16 Q 50 [.inr (0, 2), .inl x1, .inl x2, .inl x3, .inl x4] (q ++ []) M')))))) ∧ ((1 : Int) = (0 : Int) → (Q [.inl (-1 : Int)] M)))) ∧ (¬ (0 ≤ x4 ∧ x4 < 8) → ((¬ (0 : Int) = (0 : Int) → (((0 : Int) ≤ x1 ∧ x1 < 72) ∧ ((hm_in ((2 : Int) + x2)) ∧ (((0 ≤ ((2 : Int) + x2) ∧ ((2 : Int) + x2) < 4) ∧ (0 ≤ x3 ∧ x3 < 8) ∧ (0 ≤ x4 ∧ x4 < 8)) ∧ (g_Ev D 17 [.inr (1, (12 + x1.toNat)), .inl (64 * ((2 : Int) + x2) + 8 * x3 + x4)] M (fun q M' => g_R (D + 1) 16 Q 50 [.inr (0, 2), .inl x1, .inl x2, .inl x3, .inl x4] (q ++ []) M')))))) ∧ ((0 : Int) = (0 : Int) → (Q [.inl (-1 : Int)] M)))))))))))) ∧ (¬ (x2 = 0 ∨ x2 = 1) → (((0 : Int) = (0 : Int) → (Q [.inl (-1 : Int)] M)) ∧ (¬ (0 : Int) = (0 : Int) → (((0 ≤ x3 ∧ x3 < 8) → (((1 : Int) = (0 : Int) → (Q [.inl (-1 : Int)] M)) ∧ (¬ (1 : Int) = (0 : Int) → (((0 ≤ x4 ∧ x4 < 8) → ((¬ (1 : Int) = (0 : Int) → (((0 : Int) ≤ x1 ∧ x1 < 72) ∧ ((hm_in ((2 : Int) + x2)) ∧ (((0 ≤ ((2 : Int) + x2) ∧ ((2 : Int) + x2) < 4) ∧ (0 ≤ x3 ∧ x3 < 8) ∧ (0 ≤ x4 ∧ x4 < 8)) ∧ (g_Ev D 17 [.inr (1, (12 + x1.toNat)), .inl (64 * ((2 : Int) + x2) + 8 * x3 + x4)] M (fun q M' => g_R (D + 1) 16 Q 50 [.inr (0, 2), .inl x1, .inl x2, .inl x3, .inl x4] (q ++ []) M')))))) ∧ ((1 : Int) = (0 : Int) → (Q [.inl (-1 : Int)] M)))) ∧ (¬ (0 ≤ x4 ∧ x4 < 8) → ((¬ (0 : Int) = (0 : Int) → (((0 : Int) ≤ x1 ∧ x1 < 72) ∧ ((hm_in ((2 : Int) + x2)) ∧ (((0 ≤ ((2 : Int) + x2) ∧ ((2 : Int) + x2) < 4) ∧ (0 ≤ x3 ∧ x3 < 8) ∧ (0 ≤ x4 ∧ x4 < 8)) ∧ (g_Ev D 17 [.inr (1, (12 + x1.toNat)), .inl (64 * ((2 : Int) + x2) + 8 * x3 + x4)] M (fun q M' => g_R (D + 1) 16 Q 50 [.inr (0, 2), .inl x1, .inl x2, .inl x3, .inl x4] (q ++ []) M')))))) ∧ ((0 : Int) = (0 : Int) → (Q [.inl (-1 : Int)] M)))))))) ∧ (¬ (0 ≤ x3 ∧ x3 < 8) → (((0 : Int) = (0 : Int) → (Q [.inl (-1 : Int)] M)) ∧ (¬ (0 : Int) = (0 : Int) → (((0 ≤ x4 ∧ x4 < 8) → ((¬ (1 : Int) = (0 : Int) → (((0 : Int) ≤ x1 ∧ x1 < 72) ∧ ((hm_in ((2 : Int) + x2)) ∧ (((0 ≤ ((2 : Int) + x2) ∧ ((2 : Int) + x2) < 4) ∧ (0 ≤ x3 ∧ x3 < 8) ∧ (0 ≤ x4 ∧ x4 < 8)) ∧ (g_Ev D 17 [.inr (1, (12 + x1.toNat)), .inl (64 * ((2 : Int) + x2) + 8 * x3 + x4)] M (fun q M' => g_R (D + 1) 16 Q 50 [.inr (0, 2), .inl x1, .inl x2, .inl x3, .inl x4] (q ++ []) M')))))) ∧ ((1 : Int) = (0 : Int) → (Q [.inl (-1 : Int)] M)))) ∧ (¬ (0 ≤ x4 ∧ x4 < 8) → ((¬ (0 : Int) = (0 : Int) → (((0 : Int) ≤ x1 ∧ x1 < 72) ∧ ((hm_in ((2 : Int) + x2)) ∧ (((0 ≤ ((2 : Int) + x2) ∧ ((2 : Int) + x2) < 4) ∧ (0 ≤ x3 ∧ x3 < 8) ∧ (0 ≤ x4 ∧ x4 < 8)) ∧ (g_Ev D 17 [.inr (1, (12 + x1.toNat)), .inl (64 * ((2 : Int) + x2) + 8 * x3 + x4)] M (fun q M' => g_R (D + 1) 16 Q 50 [.inr (0, 2), .inl x1, .inl x2, .inl x3, .inl x4] (q ++ []) M')))))) ∧ ((0 : Int) = (0 : Int) → (Q [.inl (-1 : Int)] M)))))))))))))))) ∧ (¬ (0 ≤ x1 ∧ x1 < M.1 0 2 6) → (((0 : Int) = (0 : Int) → (Q [.inl (-1 : Int)] M)) ∧ (¬ (0 : Int) = (0 : Int) → (((x2 = 0 ∨ x2 = 1) → (((1 : Int) = (0 : Int) → (Q [.inl (-1 : Int)] M)) ∧ (¬ (1 : Int) = (0 : Int) → (((0 ≤ x3 ∧ x3 < 8) → (((1 : Int) = (0 : Int) → (Q [.inl (-1 : Int)] M)) ∧ (¬ (1 : Int) = (0 : Int) → (((0 ≤ x4 ∧ x4 < 8) → ((¬ (1 : Int) = (0 : Int) → (((0 : Int) ≤ x1 ∧ x1 < 72) ∧ ((hm_in ((2 : Int) + x2)) ∧ (((0 ≤ ((2 : Int) + x2) ∧ ((2 : Int) + x2) < 4) ∧ (0 ≤ x3 ∧ x3 < 8) ∧ (0 ≤ x4 ∧ x4 < 8)) ∧ (g_Ev D 17 [.inr (1, (12 + x1.toNat)), .inl (64 * ((2 : Int) + x2) + 8 * x3 + x4)] M (fun q M' => g_R (D + 1) 16 Q 50 [.inr (0, 2), .inl x1, .inl x2, .inl x3, .inl x4] (q ++ []) M')))))) ∧ ((1 : Int) = (0 : Int) → (Q [.inl (-1 : Int)] M)))) ∧ (¬ (0 ≤ x4 ∧ x4 < 8) → ((¬ (0 : Int) = (0 : Int) → (((0 : Int) ≤ x1 ∧ x1 < 72) ∧ ((hm_in ((2 : Int) + x2)) ∧ (((0 ≤ ((2 : Int) + x2) ∧ ((2 : Int) + x2) < 4) ∧ (0 ≤ x3 ∧ x3 < 8) ∧ (0 ≤ x4 ∧ x4 < 8)) ∧ (g_Ev D 17 [.inr (1, (12 + x1.toNat)), .inl (64 * ((2 : Int) + x2) + 8 * x3 + x4)] M (fun q M' => g_R (D + 1) 16 Q 50 [.inr (0, 2), .inl x1, .inl x2, .inl x3, .inl x4] (q ++ []) M')))))) ∧ ((0 : Int) = (0 : Int) → (Q [.inl (-1 : Int)] M)))))))) ∧ (¬ (0 ≤ x3 ∧ x3 < 8) → (((0 : Int) = (0 : Int) → (Q [.inl (-1 : Int)] M)) ∧ (¬ (0 : Int) = (0 : Int) → (((0 ≤ x4 ∧ x4 < 8) → ((¬ (1 : Int) = (0 : Int) → (((0 : Int) ≤ x1 ∧ x1 < 72) ∧ ((hm_in ((2 : Int) + x2)) ∧ (((0 ≤ ((2 : Int) + x2) ∧ ((2 : Int) + x2) < 4) ∧ (0 ≤ x3 ∧ x3 < 8) ∧ (0 ≤ x4 ∧ x4 < 8)) ∧ (g_Ev D 17 [.inr (1, (12 + x1.toNat)), .inl (64 * ((2 : Int) + x2) + 8 * x3 + x4)] M (fun q M' => g_R (D + 1) 16 Q 50 [.inr (0, 2), .inl x1, .inl x2, .inl x3, .inl x4] (q ++ []) M')))))) ∧ ((1 : Int) = (0 : Int) → (Q [.inl (-1 : Int)] M)))) ∧ (¬ (0 ≤ x4 ∧ x4 < 8) → ((¬ (0 : Int) = (0 : Int) → (((0 : Int) ≤ x1 ∧ x1 < 72) ∧ ((hm_in ((2 : Int) + x2)) ∧ (((0 ≤ ((2 : Int) + x2) ∧ ((2 : Int) + x2) < 4) ∧ (0 ≤ x3 ∧ x3 < 8) ∧ (0 ≤ x4 ∧ x4 < 8)) ∧ (g_Ev D 17 [.inr (1, (12 + x1.toNat)), .inl (64 * ((2 : Int) + x2) + 8 * x3 + x4)] M (fun q M' => g_R (D + 1) 16 Q 50 [.inr (0, 2), .inl x1, .inl x2, .inl x3, .inl x4] (q ++ []) M')))))) ∧ ((0 : Int) = (0 : Int) → (Q [.inl (-1 : Int)] M)))))))))))) ∧ (¬ (x2 = 0 ∨ x2 = 1) → (((0 : Int) = (0 : Int) → (Q [.inl (-1 : Int)] M)) ∧ (¬ (0 : Int) = (0 : Int) → (((0 ≤ x3 ∧ x3 < 8) → (((1 : Int) = (0 : Int) → (Q [.inl (-1 : Int)] M)) ∧ (¬ (1 : Int) = (0 : Int) → (((0 ≤ x4 ∧ x4 < 8) → ((¬ (1 : Int) = (0 : Int) → (((0 : Int) ≤ x1 ∧ x1 < 72) ∧ ((hm_in ((2 : Int) + x2)) ∧ (((0 ≤ ((2 : Int) + x2) ∧ ((2 : Int) + x2) < 4) ∧ (0 ≤ x3 ∧ x3 < 8) ∧ (0 ≤ x4 ∧ x4 < 8)) ∧ (g_Ev D 17 [.inr (1, (12 + x1.toNat)), .inl (64 * ((2 : Int) + x2) + 8 * x3 + x4)] M (fun q M' => g_R (D + 1) 16 Q 50 [.inr (0, 2), .inl x1, .inl x2, .inl x3, .inl x4] (q ++ []) M')))))) ∧ ((1 : Int) = (0 : Int) → (Q [.inl (-1 : Int)] M)))) ∧ (¬ (0 ≤ x4 ∧ x4 < 8) → ((¬ (0 : Int) = (0 : Int) → (((0 : Int) ≤ x1 ∧ x1 < 72) ∧ ((hm_in ((2 : Int) + x2)) ∧ (((0 ≤ ((2 : Int) + x2) ∧ ((2 : Int) + x2) < 4) ∧ (0 ≤ x3 ∧ x3 < 8) ∧ (0 ≤ x4 ∧ x4 < 8)) ∧ (g_Ev D 17 [.inr (1, (12 + x1.toNat)), .inl (64 * ((2 : Int) + x2) + 8 * x3 + x4)] M (fun q M' => g_R (D + 1) 16 Q 50 [.inr (0, 2), .inl x1, .inl x2, .inl x3, .inl x4] (q ++ []) M')))))) ∧ ((0 : Int) = (0 : Int) → (Q [.inl (-1 : Int)] M)))))))) ∧ (¬ (0 ≤ x3 ∧ x3 < 8) → (((0 : Int) = (0 : Int) → (Q [.inl (-1 : Int)] M)) ∧ (¬ (0 : Int) = (0 : Int) → (((0 ≤ x4 ∧ x4 < 8) → ((¬ (1 : Int) = (0 : Int) → (((0 : Int) ≤ x1 ∧ x1 < 72) ∧ ((hm_in ((2 : Int) + x2)) ∧ (((0 ≤ ((2 : Int) + x2) ∧ ((2 : Int) + x2) < 4) ∧ (0 ≤ x3 ∧ x3 < 8) ∧ (0 ≤ x4 ∧ x4 < 8)) ∧ (g_Ev D 17 [.inr (1, (12 + x1.toNat)), .inl (64 * ((2 : Int) + x2) + 8 * x3 + x4)] M (fun q M' => g_R (D + 1) 16 Q 50 [.inr (0, 2), .inl x1, .inl x2, .inl x3, .inl x4] (q ++ []) M')))))) ∧ ((1 : Int) = (0 : Int) → (Q [.inl (-1 : Int)] M)))) ∧ (¬ (0 ≤ x4 ∧ x4 < 8) → ((¬ (0 : Int) = (0 : Int) → (((0 : Int) ≤ x1 ∧ x1 < 72) ∧ ((hm_in ((2 : Int) + x2)) ∧ (((0 ≤ ((2 : Int) + x2) ∧ ((2 : Int) + x2) < 4) ∧ (0 ≤ x3 ∧ x3 < 8) ∧ (0 ≤ x4 ∧ x4 < 8)) ∧ (g_Ev D 17 [.inr (1, (12 + x1.toNat)), .inl (64 * ((2 : Int) + x2) + 8 * x3 + x4)] M (fun q M' => g_R (D + 1) 16 Q 50 [.inr (0, 2), .inl x1, .inl x2, .inl x3, .inl x4] (q ++ []) M')))))) ∧ ((0 : Int) = (0 : Int) → (Q [.inl (-1 : Int)] M))))))))))))))))) : g_R (D + 1) 16 Q 0 [.inr (0, 2), .inl x1, .inl x2, .inl x3, .inl x4] [] M := by
  subst hD
  exact g_go hk_16 ⟨rfl, rfl⟩ (g_C_ok (g_F_ok (D := D1))) sp_16 25 h
set_option maxRecDepth 20000 in
theorem rg_16_50 {D : Nat} {Q : g_P} {M : g_M} {x1 : Int} {x2 : Int} {x3 : Int} {x4 : Int} {s0 : Int} {D1 : Nat} (hD : D = D1 + 2) (h : (s0 = (0 : Int) → (Q [.inl (-2 : Int)] M)) ∧ (¬ s0 = (0 : Int) → (((0 : Int) ≤ x1 ∧ x1 < 72) ∧ (Q [.inl (M.1 1 (12 + x1.toNat) 3)] M)))) : g_R (D + 1) 16 Q 50 [.inr (0, 2), .inl x1, .inl x2, .inl x3, .inl x4] [.inl s0] M := by
  subst hD
  exact g_go hk_16 ⟨rfl, rfl⟩ (g_C_ok (g_F_ok (D := D1))) sp_16 9 h
theorem hn_17 : 2 ≤ (hm_me 17).2.2.1 := by decide +kernel
/-- HeapLaw$Formula.addPart(I)Z -/
def sp_17 (pc : Nat) : Option Nat := match pc with
  | 9 => some 2
  | _ => none
set_option maxRecDepth 20000 in
theorem rg_17_0 {D : Nat} {Q : g_P} {M : g_M} {h0 : Nat} {x1 : Int} {D1 : Nat} (hD : D = D1 + 2) (h : g_Ev D 18 [.inr (1, h0), .inl (M.1 1 h0 3), .inl x1] M (fun q M' => g_R (D + 1) 17 Q 9 [.inr (1, h0), .inl x1] (q ++ []) M')) : g_R (D + 1) 17 Q 0 [.inr (1, h0), .inl x1] [] M := by
  subst hD
  exact g_go hk_17 ⟨rfl, rfl⟩ (g_C_ok (g_F_ok (D := D1))) sp_17 6 h
set_option maxRecDepth 20000 in
theorem rg_17_9 {D : Nat} {Q : g_P} {M : g_M} {h0 : Nat} {x1 : Int} {s0 : Int} {D1 : Nat} (hD : D = D1 + 2) (h : ((0 : Int) ≤ s0 ∧ s0 ≤ 1) ∧ (Q [.inl s0] M)) : g_R (D + 1) 17 Q 9 [.inr (1, h0), .inl x1] [.inl s0] M := by
  subst hD
  exact g_go hk_17 ⟨rfl, rfl⟩ (g_C_ok (g_F_ok (D := D1))) sp_17 2 h
theorem hn_18 : 3 ≤ (hm_me 18).2.2.1 := by decide +kernel
/-- HeapLaw$Formula.insertPart(II)Z -/
def sp_18 (pc : Nat) : Option Nat := match pc with
  | 28 => some 4
  | _ => none
set_option maxRecDepth 20000 in
theorem rg_18_0 {D : Nat} {Q : g_P} {M : g_M} {h0 : Nat} {x1 : Int} {x2 : Int} {D1 : Nat} (hD : D = D1 + 2) (h : ((10 : Int) ≤ M.1 1 h0 3 → (((0 : Int) ≤ (0 : Int) ∧ (0 : Int) ≤ 1) ∧ (Q [.inl (0 : Int)] M))) ∧ (M.1 1 h0 3 < (10 : Int) → ((x1 < (0 : Int) → (((0 : Int) ≤ (0 : Int) ∧ (0 : Int) ≤ 1) ∧ (Q [.inl (0 : Int)] M))) ∧ ((0 : Int) ≤ x1 → ((x1 ≤ M.1 1 h0 3 → (g_R (D + 1) 18 Q 28 [.inr (1, h0), .inl x1, .inl x2, .inl (M.1 1 h0 3)] [] M)) ∧ (M.1 1 h0 3 < x1 → (((0 : Int) ≤ (0 : Int) ∧ (0 : Int) ≤ 1) ∧ (Q [.inl (0 : Int)] M)))))))) : g_R (D + 1) 18 Q 0 [.inr (1, h0), .inl x1, .inl x2] [] M := by
  subst hD
  exact g_go hk_18 ⟨rfl, rfl⟩ (g_C_ok (g_F_ok (D := D1))) sp_18 14 h
set_option maxRecDepth 20000 in
theorem rg_18_28 {D : Nat} {Q : g_P} {M : g_M} {h0 : Nat} {x1 : Int} {x2 : Int} {x3 : Int} {D1 : Nat} (hD : D = D1 + 2) (h : (x3 ≤ x1 → (((0 : Int) ≤ x1 ∧ x1 < ((10 : Nat) : Int)) ∧ ((hm_in ((M.1 1 h0 3) + (1 : Int))) ∧ (((0 : Int) ≤ (1 : Int) ∧ (1 : Int) ≤ 1) ∧ (Q [.inl (1 : Int)] (g_uA (g_uA M (3, h0) x1.toNat x2) (1, h0) 3 ((M.1 1 h0 3) + (1 : Int)))))))) ∧ (x1 < x3 → ((hm_in (x3 - (1 : Int))) ∧ (((0 : Int) ≤ x3 - (1 : Int) ∧ x3 - (1 : Int) < ((10 : Nat) : Int)) ∧ (((0 : Int) ≤ x3 ∧ x3 < ((10 : Nat) : Int)) ∧ ((hm_in (x3 + (-1 : Int))) ∧ (g_R (D + 1) 18 Q 28 [.inr (1, h0), .inl x1, .inl x2, .inl (x3 + (-1 : Int))] [] (g_uA M (3, h0) x3.toNat (M.1 3 h0 (x3 - (1 : Int)).toNat))))))))) : g_R (D + 1) 18 Q 28 [.inr (1, h0), .inl x1, .inl x2, .inl x3] [] M := by
  subst hD
  exact g_go hk_18 ⟨rfl, rfl⟩ (g_C_ok (g_F_ok (D := D1))) sp_18 17 h
theorem hn_19 : 3 ≤ (hm_me 19).2.2.1 := by decide +kernel
/-- HeapLaw.beside(II)I -/
def sp_19 (pc : Nat) : Option Nat := match pc with
  | 48 => some 3
  | 66 => some 3
  | _ => none
set_option maxRecDepth 20000 in
theorem rg_19_0 {D : Nat} {Q : g_P} {M : g_M} {x1 : Int} {x2 : Int} {D1 : Nat} (hD : D = D1 + 2) (h : ((0 ≤ x1 ∧ x1 < M.1 0 2 6) → (((1 : Int) = (0 : Int) → (Q [.inl (-1 : Int)] M)) ∧ (¬ (1 : Int) = (0 : Int) → (((0 ≤ x2 ∧ x2 < M.1 0 2 6) → ((¬ (1 : Int) = (0 : Int) → ((M.1 0 2 6 < (60 : Int) → (((0 : Int) ≤ M.1 0 2 6 ∧ M.1 0 2 6 < 72) ∧ (((0 : Int) ≤ x1 ∧ x1 < 72) ∧ (g_Ev D 20 [.inr (1, (12 + (M.1 0 2 6).toNat)), .inr (1, (12 + x1.toNat))] M (fun q M' => g_R (D + 1) 19 Q 48 [.inr (0, 2), .inl x1, .inl x2] (q ++ []) M'))))) ∧ ((60 : Int) ≤ M.1 0 2 6 → (Q [.inl (-2 : Int)] M)))) ∧ ((1 : Int) = (0 : Int) → (Q [.inl (-1 : Int)] M)))) ∧ (¬ (0 ≤ x2 ∧ x2 < M.1 0 2 6) → ((¬ (0 : Int) = (0 : Int) → ((M.1 0 2 6 < (60 : Int) → (((0 : Int) ≤ M.1 0 2 6 ∧ M.1 0 2 6 < 72) ∧ (((0 : Int) ≤ x1 ∧ x1 < 72) ∧ (g_Ev D 20 [.inr (1, (12 + (M.1 0 2 6).toNat)), .inr (1, (12 + x1.toNat))] M (fun q M' => g_R (D + 1) 19 Q 48 [.inr (0, 2), .inl x1, .inl x2] (q ++ []) M'))))) ∧ ((60 : Int) ≤ M.1 0 2 6 → (Q [.inl (-2 : Int)] M)))) ∧ ((0 : Int) = (0 : Int) → (Q [.inl (-1 : Int)] M)))))))) ∧ (¬ (0 ≤ x1 ∧ x1 < M.1 0 2 6) → (((0 : Int) = (0 : Int) → (Q [.inl (-1 : Int)] M)) ∧ (¬ (0 : Int) = (0 : Int) → (((0 ≤ x2 ∧ x2 < M.1 0 2 6) → ((¬ (1 : Int) = (0 : Int) → ((M.1 0 2 6 < (60 : Int) → (((0 : Int) ≤ M.1 0 2 6 ∧ M.1 0 2 6 < 72) ∧ (((0 : Int) ≤ x1 ∧ x1 < 72) ∧ (g_Ev D 20 [.inr (1, (12 + (M.1 0 2 6).toNat)), .inr (1, (12 + x1.toNat))] M (fun q M' => g_R (D + 1) 19 Q 48 [.inr (0, 2), .inl x1, .inl x2] (q ++ []) M'))))) ∧ ((60 : Int) ≤ M.1 0 2 6 → (Q [.inl (-2 : Int)] M)))) ∧ ((1 : Int) = (0 : Int) → (Q [.inl (-1 : Int)] M)))) ∧ (¬ (0 ≤ x2 ∧ x2 < M.1 0 2 6) → ((¬ (0 : Int) = (0 : Int) → ((M.1 0 2 6 < (60 : Int) → (((0 : Int) ≤ M.1 0 2 6 ∧ M.1 0 2 6 < 72) ∧ (((0 : Int) ≤ x1 ∧ x1 < 72) ∧ (g_Ev D 20 [.inr (1, (12 + (M.1 0 2 6).toNat)), .inr (1, (12 + x1.toNat))] M (fun q M' => g_R (D + 1) 19 Q 48 [.inr (0, 2), .inl x1, .inl x2] (q ++ []) M'))))) ∧ ((60 : Int) ≤ M.1 0 2 6 → (Q [.inl (-2 : Int)] M)))) ∧ ((0 : Int) = (0 : Int) → (Q [.inl (-1 : Int)] M))))))))) : g_R (D + 1) 19 Q 0 [.inr (0, 2), .inl x1, .inl x2] [] M := by
  subst hD
  exact g_go hk_19 ⟨rfl, rfl⟩ (g_C_ok (g_F_ok (D := D1))) sp_19 23 h
set_option maxRecDepth 20000 in
theorem rg_19_48 {D : Nat} {Q : g_P} {M : g_M} {x1 : Int} {x2 : Int} {D1 : Nat} (hD : D = D1 + 2) (h : ((0 : Int) ≤ M.1 0 2 6 ∧ M.1 0 2 6 < 72) ∧ (((0 : Int) ≤ x2 ∧ x2 < 72) ∧ (g_Ev D 21 [.inr (1, (12 + (M.1 0 2 6).toNat)), .inr (1, (12 + x2.toNat))] M (fun q M' => g_R (D + 1) 19 Q 66 [.inr (0, 2), .inl x1, .inl x2] (q ++ []) M')))) : g_R (D + 1) 19 Q 48 [.inr (0, 2), .inl x1, .inl x2] [] M := by
  subst hD
  exact g_go hk_19 ⟨rfl, rfl⟩ (g_C_ok (g_F_ok (D := D1))) sp_19 11 h
set_option maxRecDepth 20000 in
theorem rg_19_66 {D : Nat} {Q : g_P} {M : g_M} {x1 : Int} {x2 : Int} {s0 : Int} {D1 : Nat} (hD : D = D1 + 2) (h : (¬ s0 = (0 : Int) → ((hm_in ((M.1 0 2 6) + (1 : Int))) ∧ ((hm_in (((M.1 0 2 6) + (1 : Int)) - (1 : Int))) ∧ (Q [.inl (((M.1 0 2 6) + (1 : Int)) - (1 : Int))] (g_uA M (0, 2) 6 ((M.1 0 2 6) + (1 : Int))))))) ∧ (s0 = (0 : Int) → (Q [.inl (-2 : Int)] M))) : g_R (D + 1) 19 Q 66 [.inr (0, 2), .inl x1, .inl x2] [.inl s0] M := by
  subst hD
  exact g_go hk_19 ⟨rfl, rfl⟩ (g_C_ok (g_F_ok (D := D1))) sp_19 13 h
theorem hn_20 : 2 ≤ (hm_me 20).2.2.1 := by decide +kernel
/-- HeapLaw$Formula.copyFrom(LHeapLaw$Formula;)V -/
def sp_20 (pc : Nat) : Option Nat := match pc with
  | 4 => some 2
  | 9 => some 2
  | _ => none
set_option maxRecDepth 20000 in
theorem rg_20_0 {D : Nat} {Q : g_P} {M : g_M} {h0 : Nat} {h1 : Nat} {D1 : Nat} (hD : D = D1 + 2) (h : g_Ev D 9 [.inr (1, h0)] M (fun q M' => g_R (D + 1) 20 Q 4 [.inr (1, h0), .inr (1, h1)] (q ++ []) M')) : g_R (D + 1) 20 Q 0 [.inr (1, h0), .inr (1, h1)] [] M := by
  subst hD
  exact g_go hk_20 ⟨rfl, rfl⟩ (g_C_ok (g_F_ok (D := D1))) sp_20 3 h
set_option maxRecDepth 20000 in
theorem rg_20_4 {D : Nat} {Q : g_P} {M : g_M} {h0 : Nat} {h1 : Nat} {D1 : Nat} (hD : D = D1 + 2) (h : g_Ev D 21 [.inr (1, h0), .inr (1, h1)] M (fun q M' => g_R (D + 1) 20 Q 9 [.inr (1, h0), .inr (1, h1)] (q ++ []) M')) : g_R (D + 1) 20 Q 4 [.inr (1, h0), .inr (1, h1)] [] M := by
  subst hD
  exact g_go hk_20 ⟨rfl, rfl⟩ (g_C_ok (g_F_ok (D := D1))) sp_20 4 h
set_option maxRecDepth 20000 in
theorem rg_20_9 {D : Nat} {Q : g_P} {M : g_M} {h0 : Nat} {h1 : Nat} {s0 : Int} {D1 : Nat} (hD : D = D1 + 2) (h : Q [] M) : g_R (D + 1) 20 Q 9 [.inr (1, h0), .inr (1, h1)] [.inl s0] M := by
  subst hD
  exact g_go hk_20 ⟨rfl, rfl⟩ (g_C_ok (g_F_ok (D := D1))) sp_20 3 h
theorem hn_21 : 2 ≤ (hm_me 21).2.2.1 := by decide +kernel
/-- HeapLaw$Formula.append(LHeapLaw$Formula;)Z -/
def sp_21 (pc : Nat) : Option Nat := match pc with
  | _ => none
set_option maxRecDepth 20000 in
theorem rg_21_0 {D : Nat} {Q : g_P} {M : g_M} {h0 : Nat} {h1 : Nat} {D1 : Nat} (hD : D = D1 + 2) (h : (hm_in ((M.1 1 h0 2) + (M.1 1 h1 2))) ∧ (((16 : Int) < (M.1 1 h0 2) + (M.1 1 h1 2) → (((0 : Int) ≤ (0 : Int) ∧ (0 : Int) ≤ 1) ∧ (Q [.inl (0 : Int)] M))) ∧ ((M.1 1 h0 2) + (M.1 1 h1 2) ≤ (16 : Int) → ((hm_in ((M.1 1 h0 3) + (M.1 1 h1 3))) ∧ (((M.1 1 h0 3) + (M.1 1 h1 3) ≤ (10 : Int) → (((0 : Int) ≤ (0 : Int) ∧ 0 ≤ M.1 1 h0 2 ∧ 0 ≤ M.1 1 h1 2 ∧ (0 : Int) + (M.1 1 h1 2) ≤ ((16 : Nat) : Int) ∧ (M.1 1 h0 2) + (M.1 1 h1 2) ≤ ((16 : Nat) : Int)) ∧ (((0 : Int) ≤ (0 : Int) ∧ 0 ≤ M.1 1 h0 3 ∧ 0 ≤ M.1 1 h1 3 ∧ (0 : Int) + (M.1 1 h1 3) ≤ ((10 : Nat) : Int) ∧ (M.1 1 h0 3) + (M.1 1 h1 3) ≤ ((10 : Nat) : Int)) ∧ ((hm_in ((M.1 1 h0 2) + (M.1 1 h1 2))) ∧ ((hm_in (((g_uA (g_cp (g_cp M (2, h1) (2, h0) (0 : Int).toNat (M.1 1 h0 2).toNat (M.1 1 h1 2).toNat) (3, h1) (3, h0) (0 : Int).toNat (M.1 1 h0 3).toNat (M.1 1 h1 3).toNat) (1, h0) 2 ((M.1 1 h0 2) + (M.1 1 h1 2))).1 1 h0 3) + ((g_uA (g_cp (g_cp M (2, h1) (2, h0) (0 : Int).toNat (M.1 1 h0 2).toNat (M.1 1 h1 2).toNat) (3, h1) (3, h0) (0 : Int).toNat (M.1 1 h0 3).toNat (M.1 1 h1 3).toNat) (1, h0) 2 ((M.1 1 h0 2) + (M.1 1 h1 2))).1 1 h1 3))) ∧ (((0 : Int) ≤ (1 : Int) ∧ (1 : Int) ≤ 1) ∧ (Q [.inl (1 : Int)] (g_uA (g_uA (g_cp (g_cp M (2, h1) (2, h0) (0 : Int).toNat (M.1 1 h0 2).toNat (M.1 1 h1 2).toNat) (3, h1) (3, h0) (0 : Int).toNat (M.1 1 h0 3).toNat (M.1 1 h1 3).toNat) (1, h0) 2 ((M.1 1 h0 2) + (M.1 1 h1 2))) (1, h0) 3 (((g_uA (g_cp (g_cp M (2, h1) (2, h0) (0 : Int).toNat (M.1 1 h0 2).toNat (M.1 1 h1 2).toNat) (3, h1) (3, h0) (0 : Int).toNat (M.1 1 h0 3).toNat (M.1 1 h1 3).toNat) (1, h0) 2 ((M.1 1 h0 2) + (M.1 1 h1 2))).1 1 h0 3) + ((g_uA (g_cp (g_cp M (2, h1) (2, h0) (0 : Int).toNat (M.1 1 h0 2).toNat (M.1 1 h1 2).toNat) (3, h1) (3, h0) (0 : Int).toNat (M.1 1 h0 3).toNat (M.1 1 h1 3).toNat) (1, h0) 2 ((M.1 1 h0 2) + (M.1 1 h1 2))).1 1 h1 3)))))))))) ∧ ((10 : Int) < (M.1 1 h0 3) + (M.1 1 h1 3) → (((0 : Int) ≤ (0 : Int) ∧ (0 : Int) ≤ 1) ∧ (Q [.inl (0 : Int)] M)))))))) : g_R (D + 1) 21 Q 0 [.inr (1, h0), .inr (1, h1)] [] M := by
  subst hD
  exact g_go hk_21 ⟨rfl, rfl⟩ (g_C_ok (g_F_ok (D := D1))) sp_21 51 h
theorem hn_22 : 3 ≤ (hm_me 22).2.2.1 := by decide +kernel
/-- HeapLaw.size(II)I -/
def sp_22 (pc : Nat) : Option Nat := match pc with
  | _ => none
set_option maxRecDepth 20000 in
theorem rg_22_0 {D : Nat} {Q : g_P} {M : g_M} {x1 : Int} {x2 : Int} {D1 : Nat} (hD : D = D1 + 2) (h : ((0 ≤ x1 ∧ x1 < M.1 0 2 6) → (((1 : Int) = (0 : Int) → (Q [.inl (-1 : Int)] M)) ∧ (¬ (1 : Int) = (0 : Int) → ((x2 < (0 : Int) → (Q [.inl (-1 : Int)] M)) ∧ ((0 : Int) ≤ x2 → ((x2 ≤ (1 : Int) → ((¬ x2 = (0 : Int) → (((0 : Int) ≤ x1 ∧ x1 < 72) ∧ (Q [.inl (M.1 1 (12 + x1.toNat) 3)] M))) ∧ (x2 = (0 : Int) → (((0 : Int) ≤ x1 ∧ x1 < 72) ∧ (Q [.inl (M.1 1 (12 + x1.toNat) 2)] M))))) ∧ ((1 : Int) < x2 → (Q [.inl (-1 : Int)] M)))))))) ∧ (¬ (0 ≤ x1 ∧ x1 < M.1 0 2 6) → (((0 : Int) = (0 : Int) → (Q [.inl (-1 : Int)] M)) ∧ (¬ (0 : Int) = (0 : Int) → ((x2 < (0 : Int) → (Q [.inl (-1 : Int)] M)) ∧ ((0 : Int) ≤ x2 → ((x2 ≤ (1 : Int) → ((¬ x2 = (0 : Int) → (((0 : Int) ≤ x1 ∧ x1 < 72) ∧ (Q [.inl (M.1 1 (12 + x1.toNat) 3)] M))) ∧ (x2 = (0 : Int) → (((0 : Int) ≤ x1 ∧ x1 < 72) ∧ (Q [.inl (M.1 1 (12 + x1.toNat) 2)] M))))) ∧ ((1 : Int) < x2 → (Q [.inl (-1 : Int)] M))))))))) : g_R (D + 1) 22 Q 0 [.inr (0, 2), .inl x1, .inl x2] [] M := by
  subst hD
  exact g_go hk_22 ⟨rfl, rfl⟩ (g_C_ok (g_F_ok (D := D1))) sp_22 19 h
theorem hn_23 : 5 ≤ (hm_me 23).2.2.1 := by decide +kernel
/-- HeapLaw.told(IIII)I -/
def sp_23 (pc : Nat) : Option Nat := match pc with
  | _ => none
set_option maxRecDepth 20000 in
theorem rg_23_0 {D : Nat} {Q : g_P} {M : g_M} {x1 : Int} {x2 : Int} {x3 : Int} {x4 : Int} {D1 : Nat} (hD : D = D1 + 2) (h : ((0 ≤ x1 ∧ x1 < M.1 0 2 6) → (((1 : Int) = (0 : Int) → (Q [.inl (-1 : Int)] M)) ∧ (¬ (1 : Int) = (0 : Int) → ((x2 < (0 : Int) → (Q [.inl (-1 : Int)] M)) ∧ ((0 : Int) ≤ x2 → (((1 : Int) < x2 → (Q [.inl (-1 : Int)] M)) ∧ (x2 ≤ (1 : Int) → ((x4 < (0 : Int) → (Q [.inl (-1 : Int)] M)) ∧ ((0 : Int) ≤ x4 → ((x4 ≤ (2 : Int) → (((0 : Int) ≤ x1 ∧ x1 < 72) ∧ ((x3 < (0 : Int) → (Q [.inl (-1 : Int)] M)) ∧ ((0 : Int) ≤ x3 → ((¬ x2 = (0 : Int) → ((x3 < M.1 1 (12 + x1.toNat) 3 → ((¬ x2 = (0 : Int) → (((0 : Int) ≤ x3 ∧ x3 < ((10 : Nat) : Int)) ∧ ((¬ x4 = (0 : Int) → ((¬ x4 = (1 : Int) → ((0 ≤ (M.1 3 (12 + x1.toNat) x3.toNat) ∧ (M.1 3 (12 + x1.toNat) x3.toNat) < 256) ∧ (Q [.inl ((M.1 3 (12 + x1.toNat) x3.toNat) % 8)] M))) ∧ (x4 = (1 : Int) → ((0 ≤ (M.1 3 (12 + x1.toNat) x3.toNat) ∧ (M.1 3 (12 + x1.toNat) x3.toNat) < 256) ∧ (Q [.inl ((M.1 3 (12 + x1.toNat) x3.toNat) / 8 % 8)] M))))) ∧ (x4 = (0 : Int) → ((0 ≤ (M.1 3 (12 + x1.toNat) x3.toNat) ∧ (M.1 3 (12 + x1.toNat) x3.toNat) < 256) ∧ (Q [.inl (hm_and ((M.1 3 (12 + x1.toNat) x3.toNat) / 64) (1 : Int))] M)))))) ∧ (x2 = (0 : Int) → (((0 : Int) ≤ x3 ∧ x3 < ((16 : Nat) : Int)) ∧ ((¬ x4 = (0 : Int) → ((¬ x4 = (1 : Int) → ((0 ≤ (M.1 2 (12 + x1.toNat) x3.toNat) ∧ (M.1 2 (12 + x1.toNat) x3.toNat) < 256) ∧ (Q [.inl ((M.1 2 (12 + x1.toNat) x3.toNat) % 8)] M))) ∧ (x4 = (1 : Int) → ((0 ≤ (M.1 2 (12 + x1.toNat) x3.toNat) ∧ (M.1 2 (12 + x1.toNat) x3.toNat) < 256) ∧ (Q [.inl ((M.1 2 (12 + x1.toNat) x3.toNat) / 8 % 8)] M))))) ∧ (x4 = (0 : Int) → ((0 ≤ (M.1 2 (12 + x1.toNat) x3.toNat) ∧ (M.1 2 (12 + x1.toNat) x3.toNat) < 256) ∧ (Q [.inl (hm_and ((M.1 2 (12 + x1.toNat) x3.toNat) / 64) (1 : Int))] M)))))))) ∧ (M.1 1 (12 + x1.toNat) 3 ≤ x3 → (Q [.inl (-1 : Int)] M)))) ∧ (x2 = (0 : Int) → ((x3 < M.1 1 (12 + x1.toNat) 2 → ((¬ x2 = (0 : Int) → (((0 : Int) ≤ x3 ∧ x3 < ((10 : Nat) : Int)) ∧ ((¬ x4 = (0 : Int) → ((¬ x4 = (1 : Int) → ((0 ≤ (M.1 3 (12 + x1.toNat) x3.toNat) ∧ (M.1 3 (12 + x1.toNat) x3.toNat) < 256) ∧ (Q [.inl ((M.1 3 (12 + x1.toNat) x3.toNat) % 8)] M))) ∧ (x4 = (1 : Int) → ((0 ≤ (M.1 3 (12 + x1.toNat) x3.toNat) ∧ (M.1 3 (12 + x1.toNat) x3.toNat) < 256) ∧ (Q [.inl ((M.1 3 (12 + x1.toNat) x3.toNat) / 8 % 8)] M))))) ∧ (x4 = (0 : Int) → ((0 ≤ (M.1 3 (12 + x1.toNat) x3.toNat) ∧ (M.1 3 (12 + x1.toNat) x3.toNat) < 256) ∧ (Q [.inl (hm_and ((M.1 3 (12 + x1.toNat) x3.toNat) / 64) (1 : Int))] M)))))) ∧ (x2 = (0 : Int) → (((0 : Int) ≤ x3 ∧ x3 < ((16 : Nat) : Int)) ∧ ((¬ x4 = (0 : Int) → ((¬ x4 = (1 : Int) → ((0 ≤ (M.1 2 (12 + x1.toNat) x3.toNat) ∧ (M.1 2 (12 + x1.toNat) x3.toNat) < 256) ∧ (Q [.inl ((M.1 2 (12 + x1.toNat) x3.toNat) % 8)] M))) ∧ (x4 = (1 : Int) → ((0 ≤ (M.1 2 (12 + x1.toNat) x3.toNat) ∧ (M.1 2 (12 + x1.toNat) x3.toNat) < 256) ∧ (Q [.inl ((M.1 2 (12 + x1.toNat) x3.toNat) / 8 % 8)] M))))) ∧ (x4 = (0 : Int) → ((0 ≤ (M.1 2 (12 + x1.toNat) x3.toNat) ∧ (M.1 2 (12 + x1.toNat) x3.toNat) < 256) ∧ (Q [.inl (hm_and ((M.1 2 (12 + x1.toNat) x3.toNat) / 64) (1 : Int))] M)))))))) ∧ (M.1 1 (12 + x1.toNat) 2 ≤ x3 → (Q [.inl (-1 : Int)] M))))))))) ∧ ((2 : Int) < x4 → (Q [.inl (-1 : Int)] M)))))))))))) ∧ (¬ (0 ≤ x1 ∧ x1 < M.1 0 2 6) → (((0 : Int) = (0 : Int) → (Q [.inl (-1 : Int)] M)) ∧ (¬ (0 : Int) = (0 : Int) → ((x2 < (0 : Int) → (Q [.inl (-1 : Int)] M)) ∧ ((0 : Int) ≤ x2 → (((1 : Int) < x2 → (Q [.inl (-1 : Int)] M)) ∧ (x2 ≤ (1 : Int) → ((x4 < (0 : Int) → (Q [.inl (-1 : Int)] M)) ∧ ((0 : Int) ≤ x4 → ((x4 ≤ (2 : Int) → (((0 : Int) ≤ x1 ∧ x1 < 72) ∧ ((x3 < (0 : Int) → (Q [.inl (-1 : Int)] M)) ∧ ((0 : Int) ≤ x3 → ((¬ x2 = (0 : Int) → ((x3 < M.1 1 (12 + x1.toNat) 3 → ((¬ x2 = (0 : Int) → (((0 : Int) ≤ x3 ∧ x3 < ((10 : Nat) : Int)) ∧ ((¬ x4 = (0 : Int) → ((¬ x4 = (1 : Int) → ((0 ≤ (M.1 3 (12 + x1.toNat) x3.toNat) ∧ (M.1 3 (12 + x1.toNat) x3.toNat) < 256) ∧ (Q [.inl ((M.1 3 (12 + x1.toNat) x3.toNat) % 8)] M))) ∧ (x4 = (1 : Int) → ((0 ≤ (M.1 3 (12 + x1.toNat) x3.toNat) ∧ (M.1 3 (12 + x1.toNat) x3.toNat) < 256) ∧ (Q [.inl ((M.1 3 (12 + x1.toNat) x3.toNat) / 8 % 8)] M))))) ∧ (x4 = (0 : Int) → ((0 ≤ (M.1 3 (12 + x1.toNat) x3.toNat) ∧ (M.1 3 (12 + x1.toNat) x3.toNat) < 256) ∧ (Q [.inl (hm_and ((M.1 3 (12 + x1.toNat) x3.toNat) / 64) (1 : Int))] M)))))) ∧ (x2 = (0 : Int) → (((0 : Int) ≤ x3 ∧ x3 < ((16 : Nat) : Int)) ∧ ((¬ x4 = (0 : Int) → ((¬ x4 = (1 : Int) → ((0 ≤ (M.1 2 (12 + x1.toNat) x3.toNat) ∧ (M.1 2 (12 + x1.toNat) x3.toNat) < 256) ∧ (Q [.inl ((M.1 2 (12 + x1.toNat) x3.toNat) % 8)] M))) ∧ (x4 = (1 : Int) → ((0 ≤ (M.1 2 (12 + x1.toNat) x3.toNat) ∧ (M.1 2 (12 + x1.toNat) x3.toNat) < 256) ∧ (Q [.inl ((M.1 2 (12 + x1.toNat) x3.toNat) / 8 % 8)] M))))) ∧ (x4 = (0 : Int) → ((0 ≤ (M.1 2 (12 + x1.toNat) x3.toNat) ∧ (M.1 2 (12 + x1.toNat) x3.toNat) < 256) ∧ (Q [.inl (hm_and ((M.1 2 (12 + x1.toNat) x3.toNat) / 64) (1 : Int))] M)))))))) ∧ (M.1 1 (12 + x1.toNat) 3 ≤ x3 → (Q [.inl (-1 : Int)] M)))) ∧ (x2 = (0 : Int) → ((x3 < M.1 1 (12 + x1.toNat) 2 → ((¬ x2 = (0 : Int) → (((0 : Int) ≤ x3 ∧ x3 < ((10 : Nat) : Int)) ∧ ((¬ x4 = (0 : Int) → ((¬ x4 = (1 : Int) → ((0 ≤ (M.1 3 (12 + x1.toNat) x3.toNat) ∧ (M.1 3 (12 + x1.toNat) x3.toNat) < 256) ∧ (Q [.inl ((M.1 3 (12 + x1.toNat) x3.toNat) % 8)] M))) ∧ (x4 = (1 : Int) → ((0 ≤ (M.1 3 (12 + x1.toNat) x3.toNat) ∧ (M.1 3 (12 + x1.toNat) x3.toNat) < 256) ∧ (Q [.inl ((M.1 3 (12 + x1.toNat) x3.toNat) / 8 % 8)] M))))) ∧ (x4 = (0 : Int) → ((0 ≤ (M.1 3 (12 + x1.toNat) x3.toNat) ∧ (M.1 3 (12 + x1.toNat) x3.toNat) < 256) ∧ (Q [.inl (hm_and ((M.1 3 (12 + x1.toNat) x3.toNat) / 64) (1 : Int))] M)))))) ∧ (x2 = (0 : Int) → (((0 : Int) ≤ x3 ∧ x3 < ((16 : Nat) : Int)) ∧ ((¬ x4 = (0 : Int) → ((¬ x4 = (1 : Int) → ((0 ≤ (M.1 2 (12 + x1.toNat) x3.toNat) ∧ (M.1 2 (12 + x1.toNat) x3.toNat) < 256) ∧ (Q [.inl ((M.1 2 (12 + x1.toNat) x3.toNat) % 8)] M))) ∧ (x4 = (1 : Int) → ((0 ≤ (M.1 2 (12 + x1.toNat) x3.toNat) ∧ (M.1 2 (12 + x1.toNat) x3.toNat) < 256) ∧ (Q [.inl ((M.1 2 (12 + x1.toNat) x3.toNat) / 8 % 8)] M))))) ∧ (x4 = (0 : Int) → ((0 ≤ (M.1 2 (12 + x1.toNat) x3.toNat) ∧ (M.1 2 (12 + x1.toNat) x3.toNat) < 256) ∧ (Q [.inl (hm_and ((M.1 2 (12 + x1.toNat) x3.toNat) / 64) (1 : Int))] M)))))))) ∧ (M.1 1 (12 + x1.toNat) 2 ≤ x3 → (Q [.inl (-1 : Int)] M))))))))) ∧ ((2 : Int) < x4 → (Q [.inl (-1 : Int)] M))))))))))))) : g_R (D + 1) 23 Q 0 [.inr (0, 2), .inl x1, .inl x2, .inl x3, .inl x4] [] M := by
  subst hD
  exact g_go hk_23 ⟨rfl, rfl⟩ (g_C_ok (g_F_ok (D := D1))) sp_23 46 h
theorem hn_27 : 1 ≤ (hm_me 27).2.2.1 := by decide +kernel
/-- HeapLaw.drop()I -/
def sp_27 (pc : Nat) : Option Nat := match pc with
  | _ => none
set_option maxRecDepth 20000 in
theorem rg_27_0 {D : Nat} {Q : g_P} {M : g_M} {D1 : Nat} (hD : D = D1 + 2) (h : (¬ M.1 0 2 6 = (0 : Int) → ((hm_in ((M.1 0 2 6) - (1 : Int))) ∧ (Q [.inl ((M.1 0 2 6) - (1 : Int))] (g_uA M (0, 2) 6 ((M.1 0 2 6) - (1 : Int)))))) ∧ (M.1 0 2 6 = (0 : Int) → (Q [.inl (-1 : Int)] M))) : g_R (D + 1) 27 Q 0 [.inr (0, 2)] [] M := by
  subst hD
  exact g_go hk_27 ⟨rfl, rfl⟩ (g_C_ok (g_F_ok (D := D1))) sp_27 13 h
theorem hn_28 : 3 ≤ (hm_me 28).2.2.1 := by decide +kernel
/-- HeapLaw.set(II)I -/
def sp_28 (pc : Nat) : Option Nat := match pc with
  | _ => none
set_option maxRecDepth 20000 in
theorem rg_28_0 {D : Nat} {Q : g_P} {M : g_M} {x1 : Int} {x2 : Int} {D1 : Nat} (hD : D = D1 + 2) (h : ((0 < x1 ∧ x1 < 5) → (((1 : Int) = (0 : Int) → (Q [.inl (-1 : Int)] M)) ∧ (¬ (1 : Int) = (0 : Int) → (((0 ≤ x2 ∧ x2 < 10) → ((¬ (1 : Int) = (0 : Int) → (((0 : Int) ≤ x1 ∧ x1 < ((8 : Nat) : Int)) ∧ (((0 : Int) ≤ x1 ∧ x1 < ((8 : Nat) : Int)) ∧ (Q [.inl (M.1 6 0 x1.toNat)] (g_uA M (6, 0) x1.toNat x2))))) ∧ ((1 : Int) = (0 : Int) → (Q [.inl (-1 : Int)] M)))) ∧ (¬ (0 ≤ x2 ∧ x2 < 10) → ((¬ (0 : Int) = (0 : Int) → (((0 : Int) ≤ x1 ∧ x1 < ((8 : Nat) : Int)) ∧ (((0 : Int) ≤ x1 ∧ x1 < ((8 : Nat) : Int)) ∧ (Q [.inl (M.1 6 0 x1.toNat)] (g_uA M (6, 0) x1.toNat x2))))) ∧ ((0 : Int) = (0 : Int) → (Q [.inl (-1 : Int)] M)))))))) ∧ (¬ (0 < x1 ∧ x1 < 5) → (((0 : Int) = (0 : Int) → (Q [.inl (-1 : Int)] M)) ∧ (¬ (0 : Int) = (0 : Int) → (((0 ≤ x2 ∧ x2 < 10) → ((¬ (1 : Int) = (0 : Int) → (((0 : Int) ≤ x1 ∧ x1 < ((8 : Nat) : Int)) ∧ (((0 : Int) ≤ x1 ∧ x1 < ((8 : Nat) : Int)) ∧ (Q [.inl (M.1 6 0 x1.toNat)] (g_uA M (6, 0) x1.toNat x2))))) ∧ ((1 : Int) = (0 : Int) → (Q [.inl (-1 : Int)] M)))) ∧ (¬ (0 ≤ x2 ∧ x2 < 10) → ((¬ (0 : Int) = (0 : Int) → (((0 : Int) ≤ x1 ∧ x1 < ((8 : Nat) : Int)) ∧ (((0 : Int) ≤ x1 ∧ x1 < ((8 : Nat) : Int)) ∧ (Q [.inl (M.1 6 0 x1.toNat)] (g_uA M (6, 0) x1.toNat x2))))) ∧ ((0 : Int) = (0 : Int) → (Q [.inl (-1 : Int)] M))))))))) : g_R (D + 1) 28 Q 0 [.inr (0, 2), .inl x1, .inl x2] [] M := by
  subst hD
  exact g_go hk_28 ⟨rfl, rfl⟩ (g_C_ok (g_F_ok (D := D1))) sp_28 21 h
theorem hn_31 : 3 ≤ (hm_me 31).2.2.1 := by decide +kernel
/-- HeapLaw.cell(II)I -/
def sp_31 (pc : Nat) : Option Nat := match pc with
  | 40 => some 4
  | _ => none
set_option maxRecDepth 20000 in
theorem rg_31_0 {D : Nat} {Q : g_P} {M : g_M} {x1 : Int} {x2 : Int} {D1 : Nat} (hD : D = D1 + 2) (h : ((0 < x1 ∧ x1 < 10) → (((1 : Int) = (0 : Int) → (Q [.inl (-1 : Int)] M)) ∧ (¬ (1 : Int) = (0 : Int) → ((x2 = (-1 : Int) → (((0 : Int) ≤ x1 ∧ x1 < ((10 : Nat) : Int)) ∧ (g_Ev D 33 [.inr (4, 0), .inl x1, .inl x2] M (fun q M' => g_R (D + 1) 31 Q 40 [.inr (0, 2), .inl x1, .inl x2, .inl (M.1 5 0 x1.toNat)] (q ++ []) M')))) ∧ (¬ x2 = (-1 : Int) → (((0 ≤ x2 ∧ x2 < 10) → ((¬ (1 : Int) = (0 : Int) → (((0 : Int) ≤ x1 ∧ x1 < ((10 : Nat) : Int)) ∧ (g_Ev D 33 [.inr (4, 0), .inl x1, .inl x2] M (fun q M' => g_R (D + 1) 31 Q 40 [.inr (0, 2), .inl x1, .inl x2, .inl (M.1 5 0 x1.toNat)] (q ++ []) M')))) ∧ ((1 : Int) = (0 : Int) → (Q [.inl (-1 : Int)] M)))) ∧ (¬ (0 ≤ x2 ∧ x2 < 10) → ((¬ (0 : Int) = (0 : Int) → (((0 : Int) ≤ x1 ∧ x1 < ((10 : Nat) : Int)) ∧ (g_Ev D 33 [.inr (4, 0), .inl x1, .inl x2] M (fun q M' => g_R (D + 1) 31 Q 40 [.inr (0, 2), .inl x1, .inl x2, .inl (M.1 5 0 x1.toNat)] (q ++ []) M')))) ∧ ((0 : Int) = (0 : Int) → (Q [.inl (-1 : Int)] M)))))))))) ∧ (¬ (0 < x1 ∧ x1 < 10) → (((0 : Int) = (0 : Int) → (Q [.inl (-1 : Int)] M)) ∧ (¬ (0 : Int) = (0 : Int) → ((x2 = (-1 : Int) → (((0 : Int) ≤ x1 ∧ x1 < ((10 : Nat) : Int)) ∧ (g_Ev D 33 [.inr (4, 0), .inl x1, .inl x2] M (fun q M' => g_R (D + 1) 31 Q 40 [.inr (0, 2), .inl x1, .inl x2, .inl (M.1 5 0 x1.toNat)] (q ++ []) M')))) ∧ (¬ x2 = (-1 : Int) → (((0 ≤ x2 ∧ x2 < 10) → ((¬ (1 : Int) = (0 : Int) → (((0 : Int) ≤ x1 ∧ x1 < ((10 : Nat) : Int)) ∧ (g_Ev D 33 [.inr (4, 0), .inl x1, .inl x2] M (fun q M' => g_R (D + 1) 31 Q 40 [.inr (0, 2), .inl x1, .inl x2, .inl (M.1 5 0 x1.toNat)] (q ++ []) M')))) ∧ ((1 : Int) = (0 : Int) → (Q [.inl (-1 : Int)] M)))) ∧ (¬ (0 ≤ x2 ∧ x2 < 10) → ((¬ (0 : Int) = (0 : Int) → (((0 : Int) ≤ x1 ∧ x1 < ((10 : Nat) : Int)) ∧ (g_Ev D 33 [.inr (4, 0), .inl x1, .inl x2] M (fun q M' => g_R (D + 1) 31 Q 40 [.inr (0, 2), .inl x1, .inl x2, .inl (M.1 5 0 x1.toNat)] (q ++ []) M')))) ∧ ((0 : Int) = (0 : Int) → (Q [.inl (-1 : Int)] M))))))))))) : g_R (D + 1) 31 Q 0 [.inr (0, 2), .inl x1, .inl x2] [] M := by
  subst hD
  exact g_go hk_31 ⟨rfl, rfl⟩ (g_C_ok (g_F_ok (D := D1))) sp_31 21 h
set_option maxRecDepth 20000 in
theorem rg_31_40 {D : Nat} {Q : g_P} {M : g_M} {x1 : Int} {x2 : Int} {x3 : Int} {D1 : Nat} (hD : D = D1 + 2) (h : Q [.inl x3] M) : g_R (D + 1) 31 Q 40 [.inr (0, 2), .inl x1, .inl x2, .inl x3] [] M := by
  subst hD
  exact g_go hk_31 ⟨rfl, rfl⟩ (g_C_ok (g_F_ok (D := D1))) sp_31 3 h
theorem hn_33 : 3 ≤ (hm_me 33).2.2.1 := by decide +kernel
/-- HeapLaw$Memory.put(II)V -/
def sp_33 (pc : Nat) : Option Nat := match pc with
  | _ => none
set_option maxRecDepth 20000 in
theorem rg_33_0 {D : Nat} {Q : g_P} {M : g_M} {h0 : Nat} {x1 : Int} {x2 : Int} {D1 : Nat} (hD : D = D1 + 2) (h : ((0 : Int) ≤ x1 ∧ x1 < ((10 : Nat) : Int)) ∧ ((¬ x2 = (-1 : Int) → (Q [] (g_uA (g_uA M (5, h0) x1.toNat x2) (4, h0) 2 (hm_or (M.1 4 h0 2) (hm_shl (1 : Int) x1))))) ∧ (x2 = (-1 : Int) → (Q [] (g_uA (g_uA M (5, h0) x1.toNat x2) (4, h0) 2 (hm_and (M.1 4 h0 2) (hm_xor (hm_shl (1 : Int) x1) (-1 : Int)))))))) : g_R (D + 1) 33 Q 0 [.inr (4, h0), .inl x1, .inl x2] [] M := by
  subst hD
  exact g_go hk_33 ⟨rfl, rfl⟩ (g_C_ok (g_F_ok (D := D1))) sp_33 21 h
theorem hn_34 : 2 ≤ (hm_me 34).2.2.1 := by decide +kernel
/-- HeapLaw.value(I)I -/
def sp_34 (pc : Nat) : Option Nat := match pc with
  | _ => none
set_option maxRecDepth 20000 in
theorem rg_34_0 {D : Nat} {Q : g_P} {M : g_M} {x1 : Int} {D1 : Nat} (hD : D = D1 + 2) (h : ((0 < x1 ∧ x1 < 5) → (((1 : Int) = (0 : Int) → (Q [.inl (-1 : Int)] M)) ∧ (¬ (1 : Int) = (0 : Int) → (((0 : Int) ≤ x1 ∧ x1 < ((8 : Nat) : Int)) ∧ (Q [.inl (M.1 6 0 x1.toNat)] M))))) ∧ (¬ (0 < x1 ∧ x1 < 5) → (((0 : Int) = (0 : Int) → (Q [.inl (-1 : Int)] M)) ∧ (¬ (0 : Int) = (0 : Int) → (((0 : Int) ≤ x1 ∧ x1 < ((8 : Nat) : Int)) ∧ (Q [.inl (M.1 6 0 x1.toNat)] M)))))) : g_R (D + 1) 34 Q 0 [.inr (0, 2), .inl x1] [] M := by
  subst hD
  exact g_go hk_34 ⟨rfl, rfl⟩ (g_C_ok (g_F_ok (D := D1))) sp_34 11 h
theorem hn_35 : 2 ≤ (hm_me 35).2.2.1 := by decide +kernel
/-- HeapLaw.holds(I)I -/
def sp_35 (pc : Nat) : Option Nat := match pc with
  | _ => none
set_option maxRecDepth 20000 in
theorem rg_35_0 {D : Nat} {Q : g_P} {M : g_M} {x1 : Int} {D1 : Nat} (hD : D = D1 + 2) (h : ((0 < x1 ∧ x1 < 10) → (((1 : Int) = (0 : Int) → (Q [.inl (-1 : Int)] M)) ∧ (¬ (1 : Int) = (0 : Int) → (((0 : Int) ≤ x1 ∧ x1 < ((10 : Nat) : Int)) ∧ (Q [.inl (M.1 5 0 x1.toNat)] M))))) ∧ (¬ (0 < x1 ∧ x1 < 10) → (((0 : Int) = (0 : Int) → (Q [.inl (-1 : Int)] M)) ∧ (¬ (0 : Int) = (0 : Int) → (((0 : Int) ≤ x1 ∧ x1 < ((10 : Nat) : Int)) ∧ (Q [.inl (M.1 5 0 x1.toNat)] M)))))) : g_R (D + 1) 35 Q 0 [.inr (0, 2), .inl x1] [] M := by
  subst hD
  exact g_go hk_35 ⟨rfl, rfl⟩ (g_C_ok (g_F_ok (D := D1))) sp_35 11 h
theorem hn_36 : 1 ≤ (hm_me 36).2.2.1 := by decide +kernel
/-- HeapLaw.held()I -/
def sp_36 (pc : Nat) : Option Nat := match pc with
  | _ => none
set_option maxRecDepth 20000 in
theorem rg_36_0 {D : Nat} {Q : g_P} {M : g_M} {D1 : Nat} (hD : D = D1 + 2) (h : (0 ≤ (M.1 4 0 2) ∧ (M.1 4 0 2) < 1024) ∧ (Q [.inl (g_pop (M.1 4 0 2))] M)) : g_R (D + 1) 36 Q 0 [.inr (0, 2)] [] M := by
  subst hD
  exact g_go hk_36 ⟨rfl, rfl⟩ (g_C_ok (g_F_ok (D := D1))) sp_36 6 h
theorem hn_38 : 2 ≤ (hm_me 38).2.2.1 := by decide +kernel
/-- HeapLaw.fits(I)I -/
def sp_38 (pc : Nat) : Option Nat := match pc with
  | 23 => some 2
  | 36 => some 2
  | _ => none
set_option maxRecDepth 20000 in
theorem rg_38_0 {D : Nat} {Q : g_P} {M : g_M} {x1 : Int} {D1 : Nat} (hD : D = D1 + 2) (h : ((0 ≤ x1 ∧ x1 < M.1 0 2 6) → ((¬ (1 : Int) = (0 : Int) → (((0 : Int) ≤ x1 ∧ x1 < 72) ∧ (g_Ev D 39 [.inr (7, 0), .inr (1, (12 + x1.toNat))] M (fun q M' => g_R (D + 1) 38 Q 23 [.inr (0, 2), .inl x1] (q ++ []) M')))) ∧ ((1 : Int) = (0 : Int) → (Q [.inl (-1 : Int)] M)))) ∧ (¬ (0 ≤ x1 ∧ x1 < M.1 0 2 6) → ((¬ (0 : Int) = (0 : Int) → (((0 : Int) ≤ x1 ∧ x1 < 72) ∧ (g_Ev D 39 [.inr (7, 0), .inr (1, (12 + x1.toNat))] M (fun q M' => g_R (D + 1) 38 Q 23 [.inr (0, 2), .inl x1] (q ++ []) M')))) ∧ ((0 : Int) = (0 : Int) → (Q [.inl (-1 : Int)] M))))) : g_R (D + 1) 38 Q 0 [.inr (0, 2), .inl x1] [] M := by
  subst hD
  exact g_go hk_38 ⟨rfl, rfl⟩ (g_C_ok (g_F_ok (D := D1))) sp_38 12 h
set_option maxRecDepth 20000 in
theorem rg_38_23 {D : Nat} {Q : g_P} {M : g_M} {x1 : Int} {D1 : Nat} (hD : D = D1 + 2) (h : g_Ev D 43 [.inr (4, 0), .inr (7, 0), .inl (0 : Int), .inl (0 : Int)] M (fun q M' => g_R (D + 1) 38 Q 36 [.inr (0, 2), .inl x1] (q ++ []) M')) : g_R (D + 1) 38 Q 23 [.inr (0, 2), .inl x1] [] M := by
  subst hD
  exact g_go hk_38 ⟨rfl, rfl⟩ (g_C_ok (g_F_ok (D := D1))) sp_38 8 h
set_option maxRecDepth 20000 in
theorem rg_38_36 {D : Nat} {Q : g_P} {M : g_M} {x1 : Int} {s0 : Int} {D1 : Nat} (hD : D = D1 + 2) (h : (s0 = (0 : Int) → (Q [.inl (0 : Int)] M)) ∧ (¬ s0 = (0 : Int) → (Q [.inl (1 : Int)] M))) : g_R (D + 1) 38 Q 36 [.inr (0, 2), .inl x1] [.inl s0] M := by
  subst hD
  exact g_go hk_38 ⟨rfl, rfl⟩ (g_C_ok (g_F_ok (D := D1))) sp_38 5 h
theorem hn_39 : 2 ≤ (hm_me 39).2.2.1 := by decide +kernel
/-- HeapLaw$Plan.lay(LHeapLaw$Formula;)V -/
def sp_39 (pc : Nat) : Option Nat := match pc with
  | 5 => some 2
  | 12 => some 4
  | 39 => some 4
  | 54 => some 4
  | _ => none
set_option maxRecDepth 20000 in
theorem rg_39_0 {D : Nat} {Q : g_P} {M : g_M} {h0 : Nat} {h1 : Nat} {D1 : Nat} (hD : D = D1 + 2) (h : g_Ev D 40 [.inr (1, h1)] M (fun q M' => g_R (D + 1) 39 Q 5 [.inr (7, h0), .inr (1, h1)] (q ++ [.inr (7, h0)]) M')) : g_R (D + 1) 39 Q 0 [.inr (7, h0), .inr (1, h1)] [] M := by
  subst hD
  exact g_go hk_39 ⟨rfl, rfl⟩ (g_C_ok (g_F_ok (D := D1))) sp_39 4 h
set_option maxRecDepth 20000 in
theorem rg_39_5 {D : Nat} {Q : g_P} {M : g_M} {h0 : Nat} {h1 : Nat} {s0 : Int} {q1 : Nat} {D1 : Nat} (hD : D = D1 + 2) (h : g_R (D + 1) 39 Q 12 [.inr (7, h0), .inr (1, h1), .inl (0 : Int), .inl (0 : Int)] [] (g_uA M (7, q1) 2 s0)) : g_R (D + 1) 39 Q 5 [.inr (7, h0), .inr (1, h1)] [.inl s0, .inr (7, q1)] M := by
  subst hD
  exact g_go hk_39 ⟨rfl, rfl⟩ (g_C_ok (g_F_ok (D := D1))) sp_39 6 h
set_option maxRecDepth 20000 in
theorem rg_39_12 {D : Nat} {Q : g_P} {M : g_M} {h0 : Nat} {h1 : Nat} {x2 : Int} {x3 : Int} {D1 : Nat} (hD : D = D1 + 2) (h : ((8 : Int) ≤ x3 → (((0 : Int) ≤ (8 : Int) ∧ (8 : Int) < ((9 : Nat) : Int)) ∧ (Q [] (g_uA M (11, h0) (8 : Int).toNat x2)))) ∧ (x3 < (8 : Int) → (((0 : Int) ≤ x3 ∧ x3 < ((9 : Nat) : Int)) ∧ (g_Ev D 41 [.inr (7, h0), .inr (2, h1), .inl (M.1 1 h1 2), .inl x3, .inl x2] (g_uA M (11, h0) x3.toNat x2) (fun q M' => g_R (D + 1) 39 Q 39 [.inr (7, h0), .inr (1, h1), .inl x2, .inl x3] (q ++ []) M'))))) : g_R (D + 1) 39 Q 12 [.inr (7, h0), .inr (1, h1), .inl x2, .inl x3] [] M := by
  subst hD
  exact g_go hk_39 ⟨rfl, rfl⟩ (g_C_ok (g_F_ok (D := D1))) sp_39 17 h
set_option maxRecDepth 20000 in
theorem rg_39_39 {D : Nat} {Q : g_P} {M : g_M} {h0 : Nat} {h1 : Nat} {x2 : Int} {x3 : Int} {s0 : Int} {D1 : Nat} (hD : D = D1 + 2) (h : g_Ev D 41 [.inr (7, h0), .inr (3, h1), .inl (M.1 1 h1 3), .inl x3, .inl s0] M (fun q M' => g_R (D + 1) 39 Q 54 [.inr (7, h0), .inr (1, h1), .inl s0, .inl x3] (q ++ []) M')) : g_R (D + 1) 39 Q 39 [.inr (7, h0), .inr (1, h1), .inl x2, .inl x3] [.inl s0] M := by
  subst hD
  exact g_go hk_39 ⟨rfl, rfl⟩ (g_C_ok (g_F_ok (D := D1))) sp_39 10 h
set_option maxRecDepth 20000 in
theorem rg_39_54 {D : Nat} {Q : g_P} {M : g_M} {h0 : Nat} {h1 : Nat} {x2 : Int} {x3 : Int} {s0 : Int} {D1 : Nat} (hD : D = D1 + 2) (h : (hm_in (x3 + (1 : Int))) ∧ (g_R (D + 1) 39 Q 12 [.inr (7, h0), .inr (1, h1), .inl s0, .inl (x3 + (1 : Int))] [] M)) : g_R (D + 1) 39 Q 54 [.inr (7, h0), .inr (1, h1), .inl x2, .inl x3] [.inl s0] M := by
  subst hD
  exact g_go hk_39 ⟨rfl, rfl⟩ (g_C_ok (g_F_ok (D := D1))) sp_39 4 h
theorem hn_40 : 1 ≤ (hm_me 40).2.2.1 := by decide +kernel
/-- HeapLaw$Formula.terms()I -/
def sp_40 (pc : Nat) : Option Nat := match pc with
  | 4 => some 3
  | 46 => some 3
  | _ => none
set_option maxRecDepth 20000 in
theorem rg_40_0 {D : Nat} {Q : g_P} {M : g_M} {h0 : Nat} {D1 : Nat} (hD : D = D1 + 2) (h : g_R (D + 1) 40 Q 4 [.inr (1, h0), .inl (0 : Int), .inl (0 : Int)] [] M) : g_R (D + 1) 40 Q 0 [.inr (1, h0)] [] M := by
  subst hD
  exact g_go hk_40 ⟨rfl, rfl⟩ (g_C_ok (g_F_ok (D := D1))) sp_40 5 h
set_option maxRecDepth 20000 in
theorem rg_40_4 {D : Nat} {Q : g_P} {M : g_M} {h0 : Nat} {x1 : Int} {x2 : Int} {D1 : Nat} (hD : D = D1 + 2) (h : (M.1 1 h0 2 ≤ x2 → (g_R (D + 1) 40 Q 46 [.inr (1, h0), .inl x1, .inl (0 : Int)] [] M)) ∧ (x2 < M.1 1 h0 2 → (((0 : Int) ≤ x2 ∧ x2 < ((16 : Nat) : Int)) ∧ ((0 ≤ (M.1 2 h0 x2.toNat) ∧ (M.1 2 h0 x2.toNat) < 256) ∧ (((0 : Int) ≤ x2 ∧ x2 < ((16 : Nat) : Int)) ∧ ((0 ≤ (M.1 2 h0 x2.toNat) ∧ (M.1 2 h0 x2.toNat) < 256) ∧ ((hm_in (x2 + (1 : Int))) ∧ (g_R (D + 1) 40 Q 4 [.inr (1, h0), .inl (hm_or x1 (hm_or (hm_shl (1 : Int) ((M.1 2 h0 x2.toNat) / 8 % 8)) (hm_shl (1 : Int) ((M.1 2 h0 x2.toNat) % 8)))), .inl (x2 + (1 : Int))] [] M)))))))) : g_R (D + 1) 40 Q 4 [.inr (1, h0), .inl x1, .inl x2] [] M := by
  subst hD
  exact g_go hk_40 ⟨rfl, rfl⟩ (g_C_ok (g_F_ok (D := D1))) sp_40 25 h
set_option maxRecDepth 20000 in
theorem rg_40_46 {D : Nat} {Q : g_P} {M : g_M} {h0 : Nat} {x1 : Int} {x2 : Int} {D1 : Nat} (hD : D = D1 + 2) (h : (M.1 1 h0 3 ≤ x2 → (Q [.inl x1] M)) ∧ (x2 < M.1 1 h0 3 → (((0 : Int) ≤ x2 ∧ x2 < ((10 : Nat) : Int)) ∧ ((0 ≤ (M.1 3 h0 x2.toNat) ∧ (M.1 3 h0 x2.toNat) < 256) ∧ (((0 : Int) ≤ x2 ∧ x2 < ((10 : Nat) : Int)) ∧ ((0 ≤ (M.1 3 h0 x2.toNat) ∧ (M.1 3 h0 x2.toNat) < 256) ∧ ((hm_in (x2 + (1 : Int))) ∧ (g_R (D + 1) 40 Q 46 [.inr (1, h0), .inl (hm_or x1 (hm_or (hm_shl (1 : Int) ((M.1 3 h0 x2.toNat) / 8 % 8)) (hm_shl (1 : Int) ((M.1 3 h0 x2.toNat) % 8)))), .inl (x2 + (1 : Int))] [] M)))))))) : g_R (D + 1) 40 Q 46 [.inr (1, h0), .inl x1, .inl x2] [] M := by
  subst hD
  exact g_go hk_40 ⟨rfl, rfl⟩ (g_C_ok (g_F_ok (D := D1))) sp_40 25 h
theorem hn_41 : 5 ≤ (hm_me 41).2.2.1 := by decide +kernel
/-- HeapLaw$Plan.gather([IIII)I -/
def sp_41u (pc : Nat) : Option Nat := match pc with
  | 7 => some 7
  | _ => none
set_option maxRecDepth 20000 in
theorem rg_41_0u {D : Nat} {Q : g_P} {M : g_M} {h0 : Nat} {h1 : Nat} {x2 : Int} {x3 : Int} {x4 : Int} {D1 : Nat} (hD : D = D1 + 2) (h : g_R (D + 1) 41 Q 7 [.inr (7, h0), .inr (2, h1), .inl x2, .inl x3, .inl x4, .inl x4, .inl (0 : Int)] [] M) : g_R (D + 1) 41 Q 0 [.inr (7, h0), .inr (2, h1), .inl x2, .inl x3, .inl x4] [] M := by
  subst hD
  exact g_go hk_41 ⟨rfl, rfl⟩ (g_C_ok (g_F_ok (D := D1))) sp_41u 5 h
set_option maxRecDepth 20000 in
theorem rg_41_7u {D : Nat} {Q : g_P} {M : g_M} {h0 : Nat} {h1 : Nat} {x2 : Int} {x3 : Int} {x4 : Int} {x5 : Int} {x6 : Int} {D1 : Nat} (hD : D = D1 + 2) (h : (x2 ≤ x6 → (Q [.inl x5] M)) ∧ (x6 < x2 → ((((26 : Nat) : Int) ≤ x5 → (Q [.inl x5] M)) ∧ (x5 < ((26 : Nat) : Int) → (((0 : Int) ≤ x6 ∧ x6 < ((16 : Nat) : Int)) ∧ ((0 ≤ (M.1 2 h1 x6.toNat) ∧ (M.1 2 h1 x6.toNat) < 256) ∧ (((0 : Int) ≤ x6 ∧ x6 < ((16 : Nat) : Int)) ∧ ((0 ≤ (M.1 2 h1 x6.toNat) ∧ (M.1 2 h1 x6.toNat) < 256) ∧ ((¬ max ((M.1 2 h1 x6.toNat) / 8 % 8) ((M.1 2 h1 x6.toNat) % 8) = x3 → ((hm_in (x6 + (1 : Int))) ∧ (g_R (D + 1) 41 Q 7 [.inr (7, h0), .inr (2, h1), .inl x2, .inl x3, .inl x4, .inl x5, .inl (x6 + (1 : Int))] [] M))) ∧ (max ((M.1 2 h1 x6.toNat) / 8 % 8) ((M.1 2 h1 x6.toNat) % 8) = x3 → (((0 : Int) ≤ x6 ∧ x6 < ((16 : Nat) : Int)) ∧ (((0 : Int) ≤ x5 ∧ x5 < ((26 : Nat) : Int)) ∧ ((hm_in (x5 + (1 : Int))) ∧ ((hm_in (x6 + (1 : Int))) ∧ (g_R (D + 1) 41 Q 7 [.inr (7, h0), .inr (2, h1), .inl x2, .inl x3, .inl x4, .inl (x5 + (1 : Int)), .inl (x6 + (1 : Int))] [] (g_uA M (10, h0) x5.toNat (M.1 2 h1 x6.toNat))))))))))))))))) : g_R (D + 1) 41 Q 7 [.inr (7, h0), .inr (2, h1), .inl x2, .inl x3, .inl x4, .inl x5, .inl x6] [] M := by
  subst hD
  exact g_go hk_41 ⟨rfl, rfl⟩ (g_C_ok (g_F_ok (D := D1))) sp_41u 30 h
/-- HeapLaw$Plan.gather([IIII)I -/
def sp_41a (pc : Nat) : Option Nat := match pc with
  | 7 => some 7
  | _ => none
set_option maxRecDepth 20000 in
theorem rg_41_0a {D : Nat} {Q : g_P} {M : g_M} {h0 : Nat} {h1 : Nat} {x2 : Int} {x3 : Int} {x4 : Int} {D1 : Nat} (hD : D = D1 + 2) (h : g_R (D + 1) 41 Q 7 [.inr (7, h0), .inr (3, h1), .inl x2, .inl x3, .inl x4, .inl x4, .inl (0 : Int)] [] M) : g_R (D + 1) 41 Q 0 [.inr (7, h0), .inr (3, h1), .inl x2, .inl x3, .inl x4] [] M := by
  subst hD
  exact g_go hk_41 ⟨rfl, rfl⟩ (g_C_ok (g_F_ok (D := D1))) sp_41a 5 h
set_option maxRecDepth 20000 in
theorem rg_41_7a {D : Nat} {Q : g_P} {M : g_M} {h0 : Nat} {h1 : Nat} {x2 : Int} {x3 : Int} {x4 : Int} {x5 : Int} {x6 : Int} {D1 : Nat} (hD : D = D1 + 2) (h : (x2 ≤ x6 → (Q [.inl x5] M)) ∧ (x6 < x2 → ((((26 : Nat) : Int) ≤ x5 → (Q [.inl x5] M)) ∧ (x5 < ((26 : Nat) : Int) → (((0 : Int) ≤ x6 ∧ x6 < ((10 : Nat) : Int)) ∧ ((0 ≤ (M.1 3 h1 x6.toNat) ∧ (M.1 3 h1 x6.toNat) < 256) ∧ (((0 : Int) ≤ x6 ∧ x6 < ((10 : Nat) : Int)) ∧ ((0 ≤ (M.1 3 h1 x6.toNat) ∧ (M.1 3 h1 x6.toNat) < 256) ∧ ((¬ max ((M.1 3 h1 x6.toNat) / 8 % 8) ((M.1 3 h1 x6.toNat) % 8) = x3 → ((hm_in (x6 + (1 : Int))) ∧ (g_R (D + 1) 41 Q 7 [.inr (7, h0), .inr (3, h1), .inl x2, .inl x3, .inl x4, .inl x5, .inl (x6 + (1 : Int))] [] M))) ∧ (max ((M.1 3 h1 x6.toNat) / 8 % 8) ((M.1 3 h1 x6.toNat) % 8) = x3 → (((0 : Int) ≤ x6 ∧ x6 < ((10 : Nat) : Int)) ∧ (((0 : Int) ≤ x5 ∧ x5 < ((26 : Nat) : Int)) ∧ ((hm_in (x5 + (1 : Int))) ∧ ((hm_in (x6 + (1 : Int))) ∧ (g_R (D + 1) 41 Q 7 [.inr (7, h0), .inr (3, h1), .inl x2, .inl x3, .inl x4, .inl (x5 + (1 : Int)), .inl (x6 + (1 : Int))] [] (g_uA M (10, h0) x5.toNat (M.1 3 h1 x6.toNat))))))))))))))))) : g_R (D + 1) 41 Q 7 [.inr (7, h0), .inr (3, h1), .inl x2, .inl x3, .inl x4, .inl x5, .inl x6] [] M := by
  subst hD
  exact g_go hk_41 ⟨rfl, rfl⟩ (g_C_ok (g_F_ok (D := D1))) sp_41a 30 h
theorem hn_43 : 4 ≤ (hm_me 43).2.2.1 := by decide +kernel
/-- HeapLaw$Memory.suits(LHeapLaw$Plan;II)Z -/
def sp_43 (pc : Nat) : Option Nat := match pc with
  | 43 => some 4
  | 61 => some 5
  | 73 => some 5
  | 95 => some 5
  | 113 => some 6
  | _ => none
set_option maxRecDepth 20000 in
theorem rg_43_0 {D : Nat} {Q : g_P} {M : g_M} {h0 : Nat} {h1 : Nat} {x2 : Int} {x3 : Int} {D1 : Nat} (hD : D = D1 + 2) (h : (x2 ≤ (7 : Int) → ((x2 < (5 : Int) → (g_Ev D 45 [.inr (4, h0), .inr (7, h1), .inl x2, .inl x3] M (fun q M' => g_R (D + 1) 43 Q 43 [.inr (4, h0), .inr (7, h1), .inl x2, .inl x3] (q ++ []) M'))) ∧ ((5 : Int) ≤ x2 → (((0 ≤ (M.1 7 h1 2) ∧ (M.1 7 h1 2) < 1024) ∧ (0 ≤ x2 ∧ x2 < 10)) ∧ ((g_bit (M.1 7 h1 2) x2 → ((¬ (1 : Int) = (0 : Int) → (g_R (D + 1) 43 Q 73 [.inr (4, h0), .inr (7, h1), .inl x2, .inl x3, .inl (0 : Int)] [] M)) ∧ ((1 : Int) = (0 : Int) → (g_Ev D 45 [.inr (4, h0), .inr (7, h1), .inl x2, .inl x3] M (fun q M' => g_R (D + 1) 43 Q 43 [.inr (4, h0), .inr (7, h1), .inl x2, .inl x3] (q ++ []) M'))))) ∧ (¬ g_bit (M.1 7 h1 2) x2 → ((¬ (0 : Int) = (0 : Int) → (g_R (D + 1) 43 Q 73 [.inr (4, h0), .inr (7, h1), .inl x2, .inl x3, .inl (0 : Int)] [] M)) ∧ ((0 : Int) = (0 : Int) → (g_Ev D 45 [.inr (4, h0), .inr (7, h1), .inl x2, .inl x3] M (fun q M' => g_R (D + 1) 43 Q 43 [.inr (4, h0), .inr (7, h1), .inl x2, .inl x3] (q ++ []) M')))))))))) ∧ ((7 : Int) < x2 → ((¬ x3 = M.1 4 h0 2 → (((0 : Int) ≤ (0 : Int) ∧ (0 : Int) ≤ 1) ∧ (Q [.inl (0 : Int)] M))) ∧ (x3 = M.1 4 h0 2 → (((0 : Int) ≤ (1 : Int) ∧ (1 : Int) ≤ 1) ∧ (Q [.inl (1 : Int)] M)))))) : g_R (D + 1) 43 Q 0 [.inr (4, h0), .inr (7, h1), .inl x2, .inl x3] [] M := by
  subst hD
  exact g_go hk_43 ⟨rfl, rfl⟩ (g_C_ok (g_F_ok (D := D1))) sp_43 17 h
set_option maxRecDepth 20000 in
theorem rg_43_43 {D : Nat} {Q : g_P} {M : g_M} {h0 : Nat} {h1 : Nat} {x2 : Int} {x3 : Int} {s0 : Int} {D1 : Nat} (hD : D = D1 + 2) (h : (s0 = (-1 : Int) → (((0 : Int) ≤ (0 : Int) ∧ (0 : Int) ≤ 1) ∧ (Q [.inl (0 : Int)] M))) ∧ (¬ s0 = (-1 : Int) → ((hm_in (x2 + (1 : Int))) ∧ (g_Ev D 43 [.inr (4, h0), .inr (7, h1), .inl (x2 + (1 : Int)), .inl s0] M (fun q M' => g_R (D + 1) 43 Q 61 [.inr (4, h0), .inr (7, h1), .inl x2, .inl x3, .inl s0] (q ++ []) M'))))) : g_R (D + 1) 43 Q 43 [.inr (4, h0), .inr (7, h1), .inl x2, .inl x3] [.inl s0] M := by
  subst hD
  exact g_go hk_43 ⟨rfl, rfl⟩ (g_C_ok (g_F_ok (D := D1))) sp_43 12 h
set_option maxRecDepth 20000 in
theorem rg_43_61 {D : Nat} {Q : g_P} {M : g_M} {h0 : Nat} {h1 : Nat} {x2 : Int} {x3 : Int} {x4 : Int} {s0 : Int} {D1 : Nat} (hD : D = D1 + 2) (h : (s0 = (0 : Int) → (((0 : Int) ≤ (0 : Int) ∧ (0 : Int) ≤ 1) ∧ (Q [.inl (0 : Int)] M))) ∧ (¬ s0 = (0 : Int) → (((0 : Int) ≤ (1 : Int) ∧ (1 : Int) ≤ 1) ∧ (Q [.inl (1 : Int)] M)))) : g_R (D + 1) 43 Q 61 [.inr (4, h0), .inr (7, h1), .inl x2, .inl x3, .inl x4] [.inl s0] M := by
  subst hD
  exact g_go hk_43 ⟨rfl, rfl⟩ (g_C_ok (g_F_ok (D := D1))) sp_43 5 h
set_option maxRecDepth 20000 in
theorem rg_43_73 {D : Nat} {Q : g_P} {M : g_M} {h0 : Nat} {h1 : Nat} {x2 : Int} {x3 : Int} {x4 : Int} {D1 : Nat} (hD : D = D1 + 2) (h : ((9 : Int) < x4 → (((0 : Int) ≤ (0 : Int) ∧ (0 : Int) ≤ 1) ∧ (Q [.inl (0 : Int)] M))) ∧ (x4 ≤ (9 : Int) → (((0 : Int) ≤ x2 ∧ x2 < ((8 : Nat) : Int)) ∧ (g_Ev D 45 [.inr (4, h0), .inr (7, h1), .inl x2, .inl x3] (g_uA M (6, h0) x2.toNat x4) (fun q M' => g_R (D + 1) 43 Q 95 [.inr (4, h0), .inr (7, h1), .inl x2, .inl x3, .inl x4] (q ++ []) M'))))) : g_R (D + 1) 43 Q 73 [.inr (4, h0), .inr (7, h1), .inl x2, .inl x3, .inl x4] [] M := by
  subst hD
  exact g_go hk_43 ⟨rfl, rfl⟩ (g_C_ok (g_F_ok (D := D1))) sp_43 14 h
set_option maxRecDepth 20000 in
theorem rg_43_95 {D : Nat} {Q : g_P} {M : g_M} {h0 : Nat} {h1 : Nat} {x2 : Int} {x3 : Int} {x4 : Int} {s0 : Int} {D1 : Nat} (hD : D = D1 + 2) (h : (s0 = (-1 : Int) → ((hm_in (x4 + (1 : Int))) ∧ (g_R (D + 1) 43 Q 73 [.inr (4, h0), .inr (7, h1), .inl x2, .inl x3, .inl (x4 + (1 : Int))] [] M))) ∧ (¬ s0 = (-1 : Int) → ((hm_in (x2 + (1 : Int))) ∧ (g_Ev D 43 [.inr (4, h0), .inr (7, h1), .inl (x2 + (1 : Int)), .inl s0] M (fun q M' => g_R (D + 1) 43 Q 113 [.inr (4, h0), .inr (7, h1), .inl x2, .inl x3, .inl x4, .inl s0] (q ++ []) M'))))) : g_R (D + 1) 43 Q 95 [.inr (4, h0), .inr (7, h1), .inl x2, .inl x3, .inl x4] [.inl s0] M := by
  subst hD
  exact g_go hk_43 ⟨rfl, rfl⟩ (g_C_ok (g_F_ok (D := D1))) sp_43 12 h
set_option maxRecDepth 20000 in
theorem rg_43_113 {D : Nat} {Q : g_P} {M : g_M} {h0 : Nat} {h1 : Nat} {x2 : Int} {x3 : Int} {x4 : Int} {x5 : Int} {s0 : Int} {D1 : Nat} (hD : D = D1 + 2) (h : (s0 = (0 : Int) → ((hm_in (x4 + (1 : Int))) ∧ (g_R (D + 1) 43 Q 73 [.inr (4, h0), .inr (7, h1), .inl x2, .inl x3, .inl (x4 + (1 : Int))] [] M))) ∧ (¬ s0 = (0 : Int) → (((0 : Int) ≤ (1 : Int) ∧ (1 : Int) ≤ 1) ∧ (Q [.inl (1 : Int)] M)))) : g_R (D + 1) 43 Q 113 [.inr (4, h0), .inr (7, h1), .inl x2, .inl x3, .inl x4, .inl x5] [.inl s0] M := by
  subst hD
  exact g_go hk_43 ⟨rfl, rfl⟩ (g_C_ok (g_F_ok (D := D1))) sp_43 4 h
theorem hn_45 : 4 ≤ (hm_me 45).2.2.1 := by decide +kernel
/-- HeapLaw$Memory.deal(LHeapLaw$Plan;II)I -/
def sp_45 (pc : Nat) : Option Nat := match pc with
  | 11 => some 6
  | 70 => some 7
  | _ => none
set_option maxRecDepth 20000 in
theorem rg_45_0 {D : Nat} {Q : g_P} {M : g_M} {h0 : Nat} {h1 : Nat} {x2 : Int} {x3 : Int} {D1 : Nat} (hD : D = D1 + 2) (h : ((0 : Int) ≤ x2 ∧ x2 < ((9 : Nat) : Int)) ∧ (g_R (D + 1) 45 Q 11 [.inr (4, h0), .inr (7, h1), .inl x2, .inl x3, .inl x3, .inl (M.1 11 h1 x2.toNat)] [] M)) : g_R (D + 1) 45 Q 0 [.inr (4, h0), .inr (7, h1), .inl x2, .inl x3] [] M := by
  subst hD
  exact g_go hk_45 ⟨rfl, rfl⟩ (g_C_ok (g_F_ok (D := D1))) sp_45 8 h
set_option maxRecDepth 20000 in
theorem rg_45_11 {D : Nat} {Q : g_P} {M : g_M} {h0 : Nat} {h1 : Nat} {x2 : Int} {x3 : Int} {x4 : Int} {x5 : Int} {D1 : Nat} (hD : D = D1 + 2) (h : (hm_in (x2 + (1 : Int))) ∧ (((0 : Int) ≤ x2 + (1 : Int) ∧ x2 + (1 : Int) < ((9 : Nat) : Int)) ∧ ((M.1 11 h1 (x2 + (1 : Int)).toNat ≤ x5 → (Q [.inl x4] M)) ∧ (x5 < M.1 11 h1 (x2 + (1 : Int)).toNat → ((x4 = (-1 : Int) → (Q [.inl x4] M)) ∧ (¬ x4 = (-1 : Int) → (((0 : Int) ≤ x5 ∧ x5 < ((26 : Nat) : Int)) ∧ ((0 ≤ (M.1 10 h1 x5.toNat) ∧ (M.1 10 h1 x5.toNat) < 256) ∧ ((0 ≤ (M.1 10 h1 x5.toNat) ∧ (M.1 10 h1 x5.toNat) < 256) ∧ (((0 : Int) ≤ (M.1 10 h1 x5.toNat) / 8 % 8 ∧ (M.1 10 h1 x5.toNat) / 8 % 8 < ((8 : Nat) : Int)) ∧ ((0 ≤ (M.1 10 h1 x5.toNat) ∧ (M.1 10 h1 x5.toNat) < 256) ∧ (((0 : Int) ≤ (M.1 10 h1 x5.toNat) % 8 ∧ (M.1 10 h1 x5.toNat) % 8 < ((8 : Nat) : Int)) ∧ (g_Ev D 46 [.inr (4, h0), .inl ((M.1 10 h1 x5.toNat) / 64), .inl (M.1 6 h0 ((M.1 10 h1 x5.toNat) / 8 % 8).toNat), .inl (M.1 6 h0 ((M.1 10 h1 x5.toNat) % 8).toNat), .inl x4] M (fun q M' => g_R (D + 1) 45 Q 70 [.inr (4, h0), .inr (7, h1), .inl x2, .inl x3, .inl x4, .inl x5, .inl (M.1 10 h1 x5.toNat)] (q ++ []) M')))))))))))))) : g_R (D + 1) 45 Q 11 [.inr (4, h0), .inr (7, h1), .inl x2, .inl x3, .inl x4, .inl x5] [] M := by
  subst hD
  exact g_go hk_45 ⟨rfl, rfl⟩ (g_C_ok (g_F_ok (D := D1))) sp_45 32 h
set_option maxRecDepth 20000 in
theorem rg_45_70 {D : Nat} {Q : g_P} {M : g_M} {h0 : Nat} {h1 : Nat} {x2 : Int} {x3 : Int} {x4 : Int} {x5 : Int} {x6 : Int} {s0 : Int} {D1 : Nat} (hD : D = D1 + 2) (h : (hm_in (x5 + (1 : Int))) ∧ (g_R (D + 1) 45 Q 11 [.inr (4, h0), .inr (7, h1), .inl x2, .inl x3, .inl s0, .inl (x5 + (1 : Int))] [] M)) : g_R (D + 1) 45 Q 70 [.inr (4, h0), .inr (7, h1), .inl x2, .inl x3, .inl x4, .inl x5, .inl x6] [.inl s0] M := by
  subst hD
  exact g_go hk_45 ⟨rfl, rfl⟩ (g_C_ok (g_F_ok (D := D1))) sp_45 4 h
theorem hn_46 : 5 ≤ (hm_me 46).2.2.1 := by decide +kernel
/-- HeapLaw$Memory.dealOne(IIII)I -/
def sp_46 (pc : Nat) : Option Nat := match pc with
  | 97 => some 5
  | _ => none
set_option maxRecDepth 20000 in
theorem rg_46_0 {D : Nat} {Q : g_P} {M : g_M} {h0 : Nat} {x1 : Int} {x2 : Int} {x3 : Int} {x4 : Int} {D1 : Nat} (hD : D = D1 + 2) (h : ((x1 < 0 ∨ 2 < x1) → (g_Ev D 47 [.inr (4, h0), .inl x2, .inl x3, .inl x4] M (fun q M' => g_R (D + 1) 46 Q 97 [.inr (4, h0), .inl x1, .inl x2, .inl x3, .inl x4] (q ++ []) M'))) ∧ ((x1 = 0 → ((¬ x2 = x3 → (Q [.inl (-1 : Int)] M)) ∧ (x2 = x3 → (Q [.inl x4] M)))) ∧ ((x1 = 1 → ((x2 = x3 → (Q [.inl (-1 : Int)] M)) ∧ (¬ x2 = x3 → (Q [.inl x4] M)))) ∧ ((x1 = 2 → (((0 ≤ (hm_and (M.1 4 h0 2) (hm_xor x4 (-1 : Int))) ∧ (hm_and (M.1 4 h0 2) (hm_xor x4 (-1 : Int))) < 1024) ∧ (0 ≤ x2 ∧ x2 < 10)) ∧ ((g_bit (hm_and (M.1 4 h0 2) (hm_xor x4 (-1 : Int))) x2 → (((1 : Int) = (0 : Int) → (Q [.inl (-1 : Int)] M)) ∧ (¬ (1 : Int) = (0 : Int) → (((0 : Int) ≤ x2 ∧ x2 < ((10 : Nat) : Int)) ∧ ((¬ M.1 5 h0 x2.toNat = x3 → (Q [.inl (-1 : Int)] M)) ∧ (M.1 5 h0 x2.toNat = x3 → (Q [.inl (hm_or x4 (hm_shl (1 : Int) x2))] M))))))) ∧ (¬ g_bit (hm_and (M.1 4 h0 2) (hm_xor x4 (-1 : Int))) x2 → (((0 : Int) = (0 : Int) → (Q [.inl (-1 : Int)] M)) ∧ (¬ (0 : Int) = (0 : Int) → (((0 : Int) ≤ x2 ∧ x2 < ((10 : Nat) : Int)) ∧ ((¬ M.1 5 h0 x2.toNat = x3 → (Q [.inl (-1 : Int)] M)) ∧ (M.1 5 h0 x2.toNat = x3 → (Q [.inl (hm_or x4 (hm_shl (1 : Int) x2))] M)))))))))) ∧ (True))))) : g_R (D + 1) 46 Q 0 [.inr (4, h0), .inl x1, .inl x2, .inl x3, .inl x4] [] M := by
  subst hD
  exact g_go hk_46 ⟨rfl, rfl⟩ (g_C_ok (g_F_ok (D := D1))) sp_46 25 h
set_option maxRecDepth 20000 in
theorem rg_46_97 {D : Nat} {Q : g_P} {M : g_M} {h0 : Nat} {x1 : Int} {x2 : Int} {x3 : Int} {x4 : Int} {s0 : Int} {D1 : Nat} (hD : D = D1 + 2) (h : Q [.inl s0] M) : g_R (D + 1) 46 Q 97 [.inr (4, h0), .inl x1, .inl x2, .inl x3, .inl x4] [.inl s0] M := by
  subst hD
  exact g_go hk_46 ⟨rfl, rfl⟩ (g_C_ok (g_F_ok (D := D1))) sp_46 2 h
theorem hn_47 : 4 ≤ (hm_me 47).2.2.1 := by decide +kernel
/-- HeapLaw$Memory.walk(III)I -/
def sp_47 (pc : Nat) : Option Nat := match pc with
  | 9 => some 7
  | _ => none
set_option maxRecDepth 20000 in
theorem rg_47_0 {D : Nat} {Q : g_P} {M : g_M} {h0 : Nat} {x1 : Int} {x2 : Int} {x3 : Int} {D1 : Nat} (hD : D = D1 + 2) (h : g_R (D + 1) 47 Q 9 [.inr (4, h0), .inl x1, .inl x2, .inl x3, .inl x3, .inl x1, .inl (0 : Int)] [] M) : g_R (D + 1) 47 Q 0 [.inr (4, h0), .inl x1, .inl x2, .inl x3] [] M := by
  subst hD
  exact g_go hk_47 ⟨rfl, rfl⟩ (g_C_ok (g_F_ok (D := D1))) sp_47 7 h
set_option maxRecDepth 20000 in
theorem rg_47_9 {D : Nat} {Q : g_P} {M : g_M} {h0 : Nat} {x1 : Int} {x2 : Int} {x3 : Int} {x4 : Int} {x5 : Int} {x6 : Int} {D1 : Nat} (hD : D = D1 + 2) (h : ((9 : Int) < x6 → ((¬ x5 = x2 → (Q [.inl (-1 : Int)] M)) ∧ (x5 = x2 → (Q [.inl x4] M)))) ∧ (x6 ≤ (9 : Int) → ((x5 = x2 → ((¬ x5 = x2 → (Q [.inl (-1 : Int)] M)) ∧ (x5 = x2 → (Q [.inl x4] M)))) ∧ (¬ x5 = x2 → ((¬ hm_and (hm_and (M.1 4 h0 2) (hm_xor x4 (-1 : Int))) (hm_shl (1 : Int) x5) = (0 : Int) → (((0 : Int) ≤ x5 ∧ x5 < ((10 : Nat) : Int)) ∧ ((hm_in (x6 + (1 : Int))) ∧ (g_R (D + 1) 47 Q 9 [.inr (4, h0), .inl x1, .inl x2, .inl x3, .inl (hm_or x4 (hm_shl (1 : Int) x5)), .inl (M.1 5 h0 x5.toNat), .inl (x6 + (1 : Int))] [] M)))) ∧ (hm_and (hm_and (M.1 4 h0 2) (hm_xor x4 (-1 : Int))) (hm_shl (1 : Int) x5) = (0 : Int) → (Q [.inl (-1 : Int)] M))))))) : g_R (D + 1) 47 Q 9 [.inr (4, h0), .inl x1, .inl x2, .inl x3, .inl x4, .inl x5, .inl x6] [] M := by
  subst hD
  exact g_go hk_47 ⟨rfl, rfl⟩ (g_C_ok (g_F_ok (D := D1))) sp_47 31 h
theorem hn_48 : 5 ≤ (hm_me 48).2.2.1 := by decide +kernel
/-- HeapLaw.run(IIII)I -/
def sp_48 (pc : Nat) : Option Nat := match pc with
  | 34 => some 5
  | 49 => some 5
  | _ => none
set_option maxRecDepth 20000 in
theorem rg_48_0 {D : Nat} {Q : g_P} {M : g_M} {x1 : Int} {x2 : Int} {x3 : Int} {x4 : Int} {D1 : Nat} (hD : D = D1 + 2) (h : (((0 ≤ x1 ∧ x1 < 8) ∧ (0 < x2 ∧ x2 < 5) ∧ ((x1 = 0 ∨ 3 < x1) → (0 < x3 ∧ x3 < 5))) → ((¬ (1 : Int) = (0 : Int) → ((¬ x1 = (2 : Int) → (g_Ev D 53 [.inr (4, 0), .inl x1, .inl x2, .inl x3] M (fun q M' => g_R (D + 1) 48 Q 49 [.inr (0, 2), .inl x1, .inl x2, .inl x3, .inl x4] (q ++ []) M'))) ∧ (x1 = (2 : Int) → (((0 ≤ x4 ∧ x4 < 10) → (((1 : Int) = (0 : Int) → (Q [.inl (-1 : Int)] M)) ∧ (¬ (1 : Int) = (0 : Int) → (g_Ev D 52 [.inr (4, 0), .inl x2, .inl x4] M (fun q M' => g_R (D + 1) 48 Q 34 [.inr (0, 2), .inl x1, .inl x2, .inl x3, .inl x4] (q ++ []) M'))))) ∧ (¬ (0 ≤ x4 ∧ x4 < 10) → (((0 : Int) = (0 : Int) → (Q [.inl (-1 : Int)] M)) ∧ (¬ (0 : Int) = (0 : Int) → (g_Ev D 52 [.inr (4, 0), .inl x2, .inl x4] M (fun q M' => g_R (D + 1) 48 Q 34 [.inr (0, 2), .inl x1, .inl x2, .inl x3, .inl x4] (q ++ []) M'))))))))) ∧ ((1 : Int) = (0 : Int) → (Q [.inl (-1 : Int)] M)))) ∧ (¬ ((0 ≤ x1 ∧ x1 < 8) ∧ (0 < x2 ∧ x2 < 5) ∧ ((x1 = 0 ∨ 3 < x1) → (0 < x3 ∧ x3 < 5))) → ((¬ (0 : Int) = (0 : Int) → ((¬ x1 = (2 : Int) → (g_Ev D 53 [.inr (4, 0), .inl x1, .inl x2, .inl x3] M (fun q M' => g_R (D + 1) 48 Q 49 [.inr (0, 2), .inl x1, .inl x2, .inl x3, .inl x4] (q ++ []) M'))) ∧ (x1 = (2 : Int) → (((0 ≤ x4 ∧ x4 < 10) → (((1 : Int) = (0 : Int) → (Q [.inl (-1 : Int)] M)) ∧ (¬ (1 : Int) = (0 : Int) → (g_Ev D 52 [.inr (4, 0), .inl x2, .inl x4] M (fun q M' => g_R (D + 1) 48 Q 34 [.inr (0, 2), .inl x1, .inl x2, .inl x3, .inl x4] (q ++ []) M'))))) ∧ (¬ (0 ≤ x4 ∧ x4 < 10) → (((0 : Int) = (0 : Int) → (Q [.inl (-1 : Int)] M)) ∧ (¬ (0 : Int) = (0 : Int) → (g_Ev D 52 [.inr (4, 0), .inl x2, .inl x4] M (fun q M' => g_R (D + 1) 48 Q 34 [.inr (0, 2), .inl x1, .inl x2, .inl x3, .inl x4] (q ++ []) M'))))))))) ∧ ((0 : Int) = (0 : Int) → (Q [.inl (-1 : Int)] M))))) : g_R (D + 1) 48 Q 0 [.inr (0, 2), .inl x1, .inl x2, .inl x3, .inl x4] [] M := by
  subst hD
  exact g_go hk_48 ⟨rfl, rfl⟩ (g_C_ok (g_F_ok (D := D1))) sp_48 17 h
set_option maxRecDepth 20000 in
theorem rg_48_34 {D : Nat} {Q : g_P} {M : g_M} {x1 : Int} {x2 : Int} {x3 : Int} {x4 : Int} {s0 : Int} {D1 : Nat} (hD : D = D1 + 2) (h : Q [.inl s0] M) : g_R (D + 1) 48 Q 34 [.inr (0, 2), .inl x1, .inl x2, .inl x3, .inl x4] [.inl s0] M := by
  subst hD
  exact g_go hk_48 ⟨rfl, rfl⟩ (g_C_ok (g_F_ok (D := D1))) sp_48 3 h
set_option maxRecDepth 20000 in
theorem rg_48_49 {D : Nat} {Q : g_P} {M : g_M} {x1 : Int} {x2 : Int} {x3 : Int} {x4 : Int} {s0 : Int} {D1 : Nat} (hD : D = D1 + 2) (h : Q [.inl s0] M) : g_R (D + 1) 48 Q 49 [.inr (0, 2), .inl x1, .inl x2, .inl x3, .inl x4] [.inl s0] M := by
  subst hD
  exact g_go hk_48 ⟨rfl, rfl⟩ (g_C_ok (g_F_ok (D := D1))) sp_48 2 h
theorem hn_52 : 3 ≤ (hm_me 52).2.2.1 := by decide +kernel
/-- HeapLaw$Memory.makeCell(II)I -/
def sp_52 (pc : Nat) : Option Nat := match pc with
  | 2 => some 4
  | 25 => some 4
  | _ => none
set_option maxRecDepth 20000 in
theorem rg_52_0 {D : Nat} {Q : g_P} {M : g_M} {h0 : Nat} {x1 : Int} {x2 : Int} {D1 : Nat} (hD : D = D1 + 2) (h : g_R (D + 1) 52 Q 2 [.inr (4, h0), .inl x1, .inl x2, .inl (1 : Int)] [] M) : g_R (D + 1) 52 Q 0 [.inr (4, h0), .inl x1, .inl x2] [] M := by
  subst hD
  exact g_go hk_52 ⟨rfl, rfl⟩ (g_C_ok (g_F_ok (D := D1))) sp_52 3 h
set_option maxRecDepth 20000 in
theorem rg_52_2 {D : Nat} {Q : g_P} {M : g_M} {h0 : Nat} {x1 : Int} {x2 : Int} {x3 : Int} {D1 : Nat} (hD : D = D1 + 2) (h : ((9 : Int) < x3 → (Q [.inl (-3 : Int)] M)) ∧ (x3 ≤ (9 : Int) → (((0 ≤ (M.1 4 h0 2) ∧ (M.1 4 h0 2) < 1024) ∧ (0 ≤ x3 ∧ x3 < 10)) ∧ ((g_bit (M.1 4 h0 2) x3 → ((¬ (1 : Int) = (0 : Int) → ((hm_in (x3 + (1 : Int))) ∧ (g_R (D + 1) 52 Q 2 [.inr (4, h0), .inl x1, .inl x2, .inl (x3 + (1 : Int))] [] M))) ∧ ((1 : Int) = (0 : Int) → (g_Ev D 33 [.inr (4, h0), .inl x3, .inl x2] M (fun q M' => g_R (D + 1) 52 Q 25 [.inr (4, h0), .inl x1, .inl x2, .inl x3] (q ++ []) M'))))) ∧ (¬ g_bit (M.1 4 h0 2) x3 → ((¬ (0 : Int) = (0 : Int) → ((hm_in (x3 + (1 : Int))) ∧ (g_R (D + 1) 52 Q 2 [.inr (4, h0), .inl x1, .inl x2, .inl (x3 + (1 : Int))] [] M))) ∧ ((0 : Int) = (0 : Int) → (g_Ev D 33 [.inr (4, h0), .inl x3, .inl x2] M (fun q M' => g_R (D + 1) 52 Q 25 [.inr (4, h0), .inl x1, .inl x2, .inl x3] (q ++ []) M'))))))))) : g_R (D + 1) 52 Q 2 [.inr (4, h0), .inl x1, .inl x2, .inl x3] [] M := by
  subst hD
  exact g_go hk_52 ⟨rfl, rfl⟩ (g_C_ok (g_F_ok (D := D1))) sp_52 13 h
set_option maxRecDepth 20000 in
theorem rg_52_25 {D : Nat} {Q : g_P} {M : g_M} {h0 : Nat} {x1 : Int} {x2 : Int} {x3 : Int} {D1 : Nat} (hD : D = D1 + 2) (h : ((0 : Int) ≤ x1 ∧ x1 < ((8 : Nat) : Int)) ∧ (Q [.inl (1 : Int)] (g_uA M (6, h0) x1.toNat x3))) : g_R (D + 1) 52 Q 25 [.inr (4, h0), .inl x1, .inl x2, .inl x3] [] M := by
  subst hD
  exact g_go hk_52 ⟨rfl, rfl⟩ (g_C_ok (g_F_ok (D := D1))) sp_52 8 h
theorem hn_53 : 4 ≤ (hm_me 53).2.2.1 := by decide +kernel
/-- HeapLaw$Memory.perform(III)I -/
def sp_53 (pc : Nat) : Option Nat := match pc with
  | 114 => some 4
  | 151 => some 4
  | _ => none
set_option maxRecDepth 20000 in
theorem rg_53_0 {D : Nat} {Q : g_P} {M : g_M} {h0 : Nat} {x1 : Int} {x2 : Int} {x3 : Int} {D1 : Nat} (hD : D = D1 + 2) (h : (x1 < (3 : Int) → (((x1 < 0 ∨ 6 < x1) → (((0 : Int) ≤ x2 ∧ x2 < ((8 : Nat) : Int)) ∧ (((0 : Int) ≤ x3 ∧ x3 < ((8 : Nat) : Int)) ∧ ((M.1 6 h0 x2.toNat = M.1 6 h0 x3.toNat → (Q [.inl (0 : Int)] M)) ∧ (¬ M.1 6 h0 x2.toNat = M.1 6 h0 x3.toNat → (Q [.inl (1 : Int)] M)))))) ∧ ((x1 = 0 → (((0 : Int) ≤ x3 ∧ x3 < ((8 : Nat) : Int)) ∧ (((0 : Int) ≤ x2 ∧ x2 < ((8 : Nat) : Int)) ∧ (Q [.inl (1 : Int)] (g_uA M (6, h0) x2.toNat (M.1 6 h0 x3.toNat)))))) ∧ ((x1 = 1 → (((0 : Int) ≤ x2 ∧ x2 < ((8 : Nat) : Int)) ∧ (Q [.inl (1 : Int)] (g_uA M (6, h0) x2.toNat (0 : Int))))) ∧ ((x1 = 2 → (((0 : Int) ≤ x2 ∧ x2 < ((8 : Nat) : Int)) ∧ (((0 : Int) ≤ x3 ∧ x3 < ((8 : Nat) : Int)) ∧ ((M.1 6 h0 x2.toNat = M.1 6 h0 x3.toNat → (Q [.inl (0 : Int)] M)) ∧ (¬ M.1 6 h0 x2.toNat = M.1 6 h0 x3.toNat → (Q [.inl (1 : Int)] M)))))) ∧ ((x1 = 3 → (((0 : Int) ≤ x2 ∧ x2 < ((8 : Nat) : Int)) ∧ (g_Ev D 33 [.inr (4, h0), .inl (M.1 6 h0 x2.toNat), .inl (-1 : Int)] M (fun q M' => g_R (D + 1) 53 Q 114 [.inr (4, h0), .inl x1, .inl x2, .inl x3] (q ++ []) M')))) ∧ ((x1 = 4 → (((0 : Int) ≤ x3 ∧ x3 < ((8 : Nat) : Int)) ∧ (((0 : Int) ≤ M.1 6 h0 x3.toNat ∧ M.1 6 h0 x3.toNat < ((10 : Nat) : Int)) ∧ (((0 : Int) ≤ x2 ∧ x2 < ((8 : Nat) : Int)) ∧ (Q [.inl (1 : Int)] (g_uA M (6, h0) x2.toNat (M.1 5 h0 (M.1 6 h0 x3.toNat).toNat))))))) ∧ ((x1 = 5 → (((0 : Int) ≤ x2 ∧ x2 < ((8 : Nat) : Int)) ∧ (((0 : Int) ≤ x3 ∧ x3 < ((8 : Nat) : Int)) ∧ (g_Ev D 33 [.inr (4, h0), .inl (M.1 6 h0 x2.toNat), .inl (M.1 6 h0 x3.toNat)] M (fun q M' => g_R (D + 1) 53 Q 151 [.inr (4, h0), .inl x1, .inl x2, .inl x3] (q ++ []) M'))))) ∧ ((x1 = 6 → (((0 : Int) ≤ x2 ∧ x2 < ((8 : Nat) : Int)) ∧ (((0 : Int) ≤ x3 ∧ x3 < ((8 : Nat) : Int)) ∧ ((¬ M.1 6 h0 x2.toNat = M.1 6 h0 x3.toNat → (Q [.inl (0 : Int)] M)) ∧ (M.1 6 h0 x2.toNat = M.1 6 h0 x3.toNat → (Q [.inl (1 : Int)] M)))))) ∧ (True)))))))))) ∧ ((3 : Int) ≤ x1 → (((5 : Int) < x1 → (((x1 < 0 ∨ 6 < x1) → (((0 : Int) ≤ x2 ∧ x2 < ((8 : Nat) : Int)) ∧ (((0 : Int) ≤ x3 ∧ x3 < ((8 : Nat) : Int)) ∧ ((M.1 6 h0 x2.toNat = M.1 6 h0 x3.toNat → (Q [.inl (0 : Int)] M)) ∧ (¬ M.1 6 h0 x2.toNat = M.1 6 h0 x3.toNat → (Q [.inl (1 : Int)] M)))))) ∧ ((x1 = 0 → (((0 : Int) ≤ x3 ∧ x3 < ((8 : Nat) : Int)) ∧ (((0 : Int) ≤ x2 ∧ x2 < ((8 : Nat) : Int)) ∧ (Q [.inl (1 : Int)] (g_uA M (6, h0) x2.toNat (M.1 6 h0 x3.toNat)))))) ∧ ((x1 = 1 → (((0 : Int) ≤ x2 ∧ x2 < ((8 : Nat) : Int)) ∧ (Q [.inl (1 : Int)] (g_uA M (6, h0) x2.toNat (0 : Int))))) ∧ ((x1 = 2 → (((0 : Int) ≤ x2 ∧ x2 < ((8 : Nat) : Int)) ∧ (((0 : Int) ≤ x3 ∧ x3 < ((8 : Nat) : Int)) ∧ ((M.1 6 h0 x2.toNat = M.1 6 h0 x3.toNat → (Q [.inl (0 : Int)] M)) ∧ (¬ M.1 6 h0 x2.toNat = M.1 6 h0 x3.toNat → (Q [.inl (1 : Int)] M)))))) ∧ ((x1 = 3 → (((0 : Int) ≤ x2 ∧ x2 < ((8 : Nat) : Int)) ∧ (g_Ev D 33 [.inr (4, h0), .inl (M.1 6 h0 x2.toNat), .inl (-1 : Int)] M (fun q M' => g_R (D + 1) 53 Q 114 [.inr (4, h0), .inl x1, .inl x2, .inl x3] (q ++ []) M')))) ∧ ((x1 = 4 → (((0 : Int) ≤ x3 ∧ x3 < ((8 : Nat) : Int)) ∧ (((0 : Int) ≤ M.1 6 h0 x3.toNat ∧ M.1 6 h0 x3.toNat < ((10 : Nat) : Int)) ∧ (((0 : Int) ≤ x2 ∧ x2 < ((8 : Nat) : Int)) ∧ (Q [.inl (1 : Int)] (g_uA M (6, h0) x2.toNat (M.1 5 h0 (M.1 6 h0 x3.toNat).toNat))))))) ∧ ((x1 = 5 → (((0 : Int) ≤ x2 ∧ x2 < ((8 : Nat) : Int)) ∧ (((0 : Int) ≤ x3 ∧ x3 < ((8 : Nat) : Int)) ∧ (g_Ev D 33 [.inr (4, h0), .inl (M.1 6 h0 x2.toNat), .inl (M.1 6 h0 x3.toNat)] M (fun q M' => g_R (D + 1) 53 Q 151 [.inr (4, h0), .inl x1, .inl x2, .inl x3] (q ++ []) M'))))) ∧ ((x1 = 6 → (((0 : Int) ≤ x2 ∧ x2 < ((8 : Nat) : Int)) ∧ (((0 : Int) ≤ x3 ∧ x3 < ((8 : Nat) : Int)) ∧ ((¬ M.1 6 h0 x2.toNat = M.1 6 h0 x3.toNat → (Q [.inl (0 : Int)] M)) ∧ (M.1 6 h0 x2.toNat = M.1 6 h0 x3.toNat → (Q [.inl (1 : Int)] M)))))) ∧ (True)))))))))) ∧ (x1 ≤ (5 : Int) → ((¬ x1 = (4 : Int) → (((0 : Int) ≤ x2 ∧ x2 < ((8 : Nat) : Int)) ∧ (((0 ≤ (M.1 4 h0 2) ∧ (M.1 4 h0 2) < 1024) ∧ (0 ≤ (M.1 6 h0 x2.toNat) ∧ (M.1 6 h0 x2.toNat) < 10)) ∧ ((g_bit (M.1 4 h0 2) (M.1 6 h0 x2.toNat) → ((¬ (1 : Int) = (0 : Int) → (((x1 < 0 ∨ 6 < x1) → (((0 : Int) ≤ x2 ∧ x2 < ((8 : Nat) : Int)) ∧ (((0 : Int) ≤ x3 ∧ x3 < ((8 : Nat) : Int)) ∧ ((M.1 6 h0 x2.toNat = M.1 6 h0 x3.toNat → (Q [.inl (0 : Int)] M)) ∧ (¬ M.1 6 h0 x2.toNat = M.1 6 h0 x3.toNat → (Q [.inl (1 : Int)] M)))))) ∧ ((x1 = 0 → (((0 : Int) ≤ x3 ∧ x3 < ((8 : Nat) : Int)) ∧ (((0 : Int) ≤ x2 ∧ x2 < ((8 : Nat) : Int)) ∧ (Q [.inl (1 : Int)] (g_uA M (6, h0) x2.toNat (M.1 6 h0 x3.toNat)))))) ∧ ((x1 = 1 → (((0 : Int) ≤ x2 ∧ x2 < ((8 : Nat) : Int)) ∧ (Q [.inl (1 : Int)] (g_uA M (6, h0) x2.toNat (0 : Int))))) ∧ ((x1 = 2 → (((0 : Int) ≤ x2 ∧ x2 < ((8 : Nat) : Int)) ∧ (((0 : Int) ≤ x3 ∧ x3 < ((8 : Nat) : Int)) ∧ ((M.1 6 h0 x2.toNat = M.1 6 h0 x3.toNat → (Q [.inl (0 : Int)] M)) ∧ (¬ M.1 6 h0 x2.toNat = M.1 6 h0 x3.toNat → (Q [.inl (1 : Int)] M)))))) ∧ ((x1 = 3 → (((0 : Int) ≤ x2 ∧ x2 < ((8 : Nat) : Int)) ∧ (g_Ev D 33 [.inr (4, h0), .inl (M.1 6 h0 x2.toNat), .inl (-1 : Int)] M (fun q M' => g_R (D + 1) 53 Q 114 [.inr (4, h0), .inl x1, .inl x2, .inl x3] (q ++ []) M')))) ∧ ((x1 = 4 → (((0 : Int) ≤ x3 ∧ x3 < ((8 : Nat) : Int)) ∧ (((0 : Int) ≤ M.1 6 h0 x3.toNat ∧ M.1 6 h0 x3.toNat < ((10 : Nat) : Int)) ∧ (((0 : Int) ≤ x2 ∧ x2 < ((8 : Nat) : Int)) ∧ (Q [.inl (1 : Int)] (g_uA M (6, h0) x2.toNat (M.1 5 h0 (M.1 6 h0 x3.toNat).toNat))))))) ∧ ((x1 = 5 → (((0 : Int) ≤ x2 ∧ x2 < ((8 : Nat) : Int)) ∧ (((0 : Int) ≤ x3 ∧ x3 < ((8 : Nat) : Int)) ∧ (g_Ev D 33 [.inr (4, h0), .inl (M.1 6 h0 x2.toNat), .inl (M.1 6 h0 x3.toNat)] M (fun q M' => g_R (D + 1) 53 Q 151 [.inr (4, h0), .inl x1, .inl x2, .inl x3] (q ++ []) M'))))) ∧ ((x1 = 6 → (((0 : Int) ≤ x2 ∧ x2 < ((8 : Nat) : Int)) ∧ (((0 : Int) ≤ x3 ∧ x3 < ((8 : Nat) : Int)) ∧ ((¬ M.1 6 h0 x2.toNat = M.1 6 h0 x3.toNat → (Q [.inl (0 : Int)] M)) ∧ (M.1 6 h0 x2.toNat = M.1 6 h0 x3.toNat → (Q [.inl (1 : Int)] M)))))) ∧ (True)))))))))) ∧ ((1 : Int) = (0 : Int) → (Q [.inl (-5 : Int)] M)))) ∧ (¬ g_bit (M.1 4 h0 2) (M.1 6 h0 x2.toNat) → ((¬ (0 : Int) = (0 : Int) → (((x1 < 0 ∨ 6 < x1) → (((0 : Int) ≤ x2 ∧ x2 < ((8 : Nat) : Int)) ∧ (((0 : Int) ≤ x3 ∧ x3 < ((8 : Nat) : Int)) ∧ ((M.1 6 h0 x2.toNat = M.1 6 h0 x3.toNat → (Q [.inl (0 : Int)] M)) ∧ (¬ M.1 6 h0 x2.toNat = M.1 6 h0 x3.toNat → (Q [.inl (1 : Int)] M)))))) ∧ ((x1 = 0 → (((0 : Int) ≤ x3 ∧ x3 < ((8 : Nat) : Int)) ∧ (((0 : Int) ≤ x2 ∧ x2 < ((8 : Nat) : Int)) ∧ (Q [.inl (1 : Int)] (g_uA M (6, h0) x2.toNat (M.1 6 h0 x3.toNat)))))) ∧ ((x1 = 1 → (((0 : Int) ≤ x2 ∧ x2 < ((8 : Nat) : Int)) ∧ (Q [.inl (1 : Int)] (g_uA M (6, h0) x2.toNat (0 : Int))))) ∧ ((x1 = 2 → (((0 : Int) ≤ x2 ∧ x2 < ((8 : Nat) : Int)) ∧ (((0 : Int) ≤ x3 ∧ x3 < ((8 : Nat) : Int)) ∧ ((M.1 6 h0 x2.toNat = M.1 6 h0 x3.toNat → (Q [.inl (0 : Int)] M)) ∧ (¬ M.1 6 h0 x2.toNat = M.1 6 h0 x3.toNat → (Q [.inl (1 : Int)] M)))))) ∧ ((x1 = 3 → (((0 : Int) ≤ x2 ∧ x2 < ((8 : Nat) : Int)) ∧ (g_Ev D 33 [.inr (4, h0), .inl (M.1 6 h0 x2.toNat), .inl (-1 : Int)] M (fun q M' => g_R (D + 1) 53 Q 114 [.inr (4, h0), .inl x1, .inl x2, .inl x3] (q ++ []) M')))) ∧ ((x1 = 4 → (((0 : Int) ≤ x3 ∧ x3 < ((8 : Nat) : Int)) ∧ (((0 : Int) ≤ M.1 6 h0 x3.toNat ∧ M.1 6 h0 x3.toNat < ((10 : Nat) : Int)) ∧ (((0 : Int) ≤ x2 ∧ x2 < ((8 : Nat) : Int)) ∧ (Q [.inl (1 : Int)] (g_uA M (6, h0) x2.toNat (M.1 5 h0 (M.1 6 h0 x3.toNat).toNat))))))) ∧ ((x1 = 5 → (((0 : Int) ≤ x2 ∧ x2 < ((8 : Nat) : Int)) ∧ (((0 : Int) ≤ x3 ∧ x3 < ((8 : Nat) : Int)) ∧ (g_Ev D 33 [.inr (4, h0), .inl (M.1 6 h0 x2.toNat), .inl (M.1 6 h0 x3.toNat)] M (fun q M' => g_R (D + 1) 53 Q 151 [.inr (4, h0), .inl x1, .inl x2, .inl x3] (q ++ []) M'))))) ∧ ((x1 = 6 → (((0 : Int) ≤ x2 ∧ x2 < ((8 : Nat) : Int)) ∧ (((0 : Int) ≤ x3 ∧ x3 < ((8 : Nat) : Int)) ∧ ((¬ M.1 6 h0 x2.toNat = M.1 6 h0 x3.toNat → (Q [.inl (0 : Int)] M)) ∧ (M.1 6 h0 x2.toNat = M.1 6 h0 x3.toNat → (Q [.inl (1 : Int)] M)))))) ∧ (True)))))))))) ∧ ((0 : Int) = (0 : Int) → (Q [.inl (-5 : Int)] M)))))))) ∧ (x1 = (4 : Int) → (((0 : Int) ≤ x3 ∧ x3 < ((8 : Nat) : Int)) ∧ (((0 ≤ (M.1 4 h0 2) ∧ (M.1 4 h0 2) < 1024) ∧ (0 ≤ (M.1 6 h0 x3.toNat) ∧ (M.1 6 h0 x3.toNat) < 10)) ∧ ((g_bit (M.1 4 h0 2) (M.1 6 h0 x3.toNat) → ((¬ (1 : Int) = (0 : Int) → (((x1 < 0 ∨ 6 < x1) → (((0 : Int) ≤ x2 ∧ x2 < ((8 : Nat) : Int)) ∧ (((0 : Int) ≤ x3 ∧ x3 < ((8 : Nat) : Int)) ∧ ((M.1 6 h0 x2.toNat = M.1 6 h0 x3.toNat → (Q [.inl (0 : Int)] M)) ∧ (¬ M.1 6 h0 x2.toNat = M.1 6 h0 x3.toNat → (Q [.inl (1 : Int)] M)))))) ∧ ((x1 = 0 → (((0 : Int) ≤ x3 ∧ x3 < ((8 : Nat) : Int)) ∧ (((0 : Int) ≤ x2 ∧ x2 < ((8 : Nat) : Int)) ∧ (Q [.inl (1 : Int)] (g_uA M (6, h0) x2.toNat (M.1 6 h0 x3.toNat)))))) ∧ ((x1 = 1 → (((0 : Int) ≤ x2 ∧ x2 < ((8 : Nat) : Int)) ∧ (Q [.inl (1 : Int)] (g_uA M (6, h0) x2.toNat (0 : Int))))) ∧ ((x1 = 2 → (((0 : Int) ≤ x2 ∧ x2 < ((8 : Nat) : Int)) ∧ (((0 : Int) ≤ x3 ∧ x3 < ((8 : Nat) : Int)) ∧ ((M.1 6 h0 x2.toNat = M.1 6 h0 x3.toNat → (Q [.inl (0 : Int)] M)) ∧ (¬ M.1 6 h0 x2.toNat = M.1 6 h0 x3.toNat → (Q [.inl (1 : Int)] M)))))) ∧ ((x1 = 3 → (((0 : Int) ≤ x2 ∧ x2 < ((8 : Nat) : Int)) ∧ (g_Ev D 33 [.inr (4, h0), .inl (M.1 6 h0 x2.toNat), .inl (-1 : Int)] M (fun q M' => g_R (D + 1) 53 Q 114 [.inr (4, h0), .inl x1, .inl x2, .inl x3] (q ++ []) M')))) ∧ ((x1 = 4 → (((0 : Int) ≤ x3 ∧ x3 < ((8 : Nat) : Int)) ∧ (((0 : Int) ≤ M.1 6 h0 x3.toNat ∧ M.1 6 h0 x3.toNat < ((10 : Nat) : Int)) ∧ (((0 : Int) ≤ x2 ∧ x2 < ((8 : Nat) : Int)) ∧ (Q [.inl (1 : Int)] (g_uA M (6, h0) x2.toNat (M.1 5 h0 (M.1 6 h0 x3.toNat).toNat))))))) ∧ ((x1 = 5 → (((0 : Int) ≤ x2 ∧ x2 < ((8 : Nat) : Int)) ∧ (((0 : Int) ≤ x3 ∧ x3 < ((8 : Nat) : Int)) ∧ (g_Ev D 33 [.inr (4, h0), .inl (M.1 6 h0 x2.toNat), .inl (M.1 6 h0 x3.toNat)] M (fun q M' => g_R (D + 1) 53 Q 151 [.inr (4, h0), .inl x1, .inl x2, .inl x3] (q ++ []) M'))))) ∧ ((x1 = 6 → (((0 : Int) ≤ x2 ∧ x2 < ((8 : Nat) : Int)) ∧ (((0 : Int) ≤ x3 ∧ x3 < ((8 : Nat) : Int)) ∧ ((¬ M.1 6 h0 x2.toNat = M.1 6 h0 x3.toNat → (Q [.inl (0 : Int)] M)) ∧ (M.1 6 h0 x2.toNat = M.1 6 h0 x3.toNat → (Q [.inl (1 : Int)] M)))))) ∧ (True)))))))))) ∧ ((1 : Int) = (0 : Int) → (Q [.inl (-5 : Int)] M)))) ∧ (¬ g_bit (M.1 4 h0 2) (M.1 6 h0 x3.toNat) → ((¬ (0 : Int) = (0 : Int) → (((x1 < 0 ∨ 6 < x1) → (((0 : Int) ≤ x2 ∧ x2 < ((8 : Nat) : Int)) ∧ (((0 : Int) ≤ x3 ∧ x3 < ((8 : Nat) : Int)) ∧ ((M.1 6 h0 x2.toNat = M.1 6 h0 x3.toNat → (Q [.inl (0 : Int)] M)) ∧ (¬ M.1 6 h0 x2.toNat = M.1 6 h0 x3.toNat → (Q [.inl (1 : Int)] M)))))) ∧ ((x1 = 0 → (((0 : Int) ≤ x3 ∧ x3 < ((8 : Nat) : Int)) ∧ (((0 : Int) ≤ x2 ∧ x2 < ((8 : Nat) : Int)) ∧ (Q [.inl (1 : Int)] (g_uA M (6, h0) x2.toNat (M.1 6 h0 x3.toNat)))))) ∧ ((x1 = 1 → (((0 : Int) ≤ x2 ∧ x2 < ((8 : Nat) : Int)) ∧ (Q [.inl (1 : Int)] (g_uA M (6, h0) x2.toNat (0 : Int))))) ∧ ((x1 = 2 → (((0 : Int) ≤ x2 ∧ x2 < ((8 : Nat) : Int)) ∧ (((0 : Int) ≤ x3 ∧ x3 < ((8 : Nat) : Int)) ∧ ((M.1 6 h0 x2.toNat = M.1 6 h0 x3.toNat → (Q [.inl (0 : Int)] M)) ∧ (¬ M.1 6 h0 x2.toNat = M.1 6 h0 x3.toNat → (Q [.inl (1 : Int)] M)))))) ∧ ((x1 = 3 → (((0 : Int) ≤ x2 ∧ x2 < ((8 : Nat) : Int)) ∧ (g_Ev D 33 [.inr (4, h0), .inl (M.1 6 h0 x2.toNat), .inl (-1 : Int)] M (fun q M' => g_R (D + 1) 53 Q 114 [.inr (4, h0), .inl x1, .inl x2, .inl x3] (q ++ []) M')))) ∧ ((x1 = 4 → (((0 : Int) ≤ x3 ∧ x3 < ((8 : Nat) : Int)) ∧ (((0 : Int) ≤ M.1 6 h0 x3.toNat ∧ M.1 6 h0 x3.toNat < ((10 : Nat) : Int)) ∧ (((0 : Int) ≤ x2 ∧ x2 < ((8 : Nat) : Int)) ∧ (Q [.inl (1 : Int)] (g_uA M (6, h0) x2.toNat (M.1 5 h0 (M.1 6 h0 x3.toNat).toNat))))))) ∧ ((x1 = 5 → (((0 : Int) ≤ x2 ∧ x2 < ((8 : Nat) : Int)) ∧ (((0 : Int) ≤ x3 ∧ x3 < ((8 : Nat) : Int)) ∧ (g_Ev D 33 [.inr (4, h0), .inl (M.1 6 h0 x2.toNat), .inl (M.1 6 h0 x3.toNat)] M (fun q M' => g_R (D + 1) 53 Q 151 [.inr (4, h0), .inl x1, .inl x2, .inl x3] (q ++ []) M'))))) ∧ ((x1 = 6 → (((0 : Int) ≤ x2 ∧ x2 < ((8 : Nat) : Int)) ∧ (((0 : Int) ≤ x3 ∧ x3 < ((8 : Nat) : Int)) ∧ ((¬ M.1 6 h0 x2.toNat = M.1 6 h0 x3.toNat → (Q [.inl (0 : Int)] M)) ∧ (M.1 6 h0 x2.toNat = M.1 6 h0 x3.toNat → (Q [.inl (1 : Int)] M)))))) ∧ (True)))))))))) ∧ ((0 : Int) = (0 : Int) → (Q [.inl (-5 : Int)] M))))))))))))) : g_R (D + 1) 53 Q 0 [.inr (4, h0), .inl x1, .inl x2, .inl x3] [] M := by
  subst hD
  exact g_go hk_53 ⟨rfl, rfl⟩ (g_C_ok (g_F_ok (D := D1))) sp_53 34 h
set_option maxRecDepth 20000 in
theorem rg_53_114 {D : Nat} {Q : g_P} {M : g_M} {h0 : Nat} {x1 : Int} {x2 : Int} {x3 : Int} {D1 : Nat} (hD : D = D1 + 2) (h : Q [.inl (1 : Int)] M) : g_R (D + 1) 53 Q 114 [.inr (4, h0), .inl x1, .inl x2, .inl x3] [] M := by
  subst hD
  exact g_go hk_53 ⟨rfl, rfl⟩ (g_C_ok (g_F_ok (D := D1))) sp_53 3 h
set_option maxRecDepth 20000 in
theorem rg_53_151 {D : Nat} {Q : g_P} {M : g_M} {h0 : Nat} {x1 : Int} {x2 : Int} {x3 : Int} {D1 : Nat} (hD : D = D1 + 2) (h : Q [.inl (1 : Int)] M) : g_R (D + 1) 53 Q 151 [.inr (4, h0), .inl x1, .inl x2, .inl x3] [] M := by
  subst hD
  exact g_go hk_53 ⟨rfl, rfl⟩ (g_C_ok (g_F_ok (D := D1))) sp_53 3 h
theorem hn_54 : 2 ≤ (hm_me 54).2.2.1 := by decide +kernel
/-- HeapLaw.is(I)I -/
def sp_54 (pc : Nat) : Option Nat := match pc with
  | 23 => some 2
  | _ => none
set_option maxRecDepth 20000 in
theorem rg_54_0 {D : Nat} {Q : g_P} {M : g_M} {x1 : Int} {D1 : Nat} (hD : D = D1 + 2) (h : ((0 ≤ x1 ∧ x1 < M.1 0 2 6) → ((¬ (1 : Int) = (0 : Int) → (((0 : Int) ≤ x1 ∧ x1 < 72) ∧ (g_Ev D 55 [.inr (12, 0), .inr (1, (12 + x1.toNat))] M (fun q M' => g_R (D + 1) 54 Q 23 [.inr (0, 2), .inl x1] (q ++ []) M')))) ∧ ((1 : Int) = (0 : Int) → (Q [.inl (-1 : Int)] M)))) ∧ (¬ (0 ≤ x1 ∧ x1 < M.1 0 2 6) → ((¬ (0 : Int) = (0 : Int) → (((0 : Int) ≤ x1 ∧ x1 < 72) ∧ (g_Ev D 55 [.inr (12, 0), .inr (1, (12 + x1.toNat))] M (fun q M' => g_R (D + 1) 54 Q 23 [.inr (0, 2), .inl x1] (q ++ []) M')))) ∧ ((0 : Int) = (0 : Int) → (Q [.inl (-1 : Int)] M))))) : g_R (D + 1) 54 Q 0 [.inr (0, 2), .inl x1] [] M := by
  subst hD
  exact g_go hk_54 ⟨rfl, rfl⟩ (g_C_ok (g_F_ok (D := D1))) sp_54 12 h
set_option maxRecDepth 20000 in
theorem rg_54_23 {D : Nat} {Q : g_P} {M : g_M} {x1 : Int} {s0 : Int} {D1 : Nat} (hD : D = D1 + 2) (h : (s0 = (0 : Int) → (Q [.inl (0 : Int)] M)) ∧ (¬ s0 = (0 : Int) → (Q [.inl (1 : Int)] M))) : g_R (D + 1) 54 Q 23 [.inr (0, 2), .inl x1] [.inl s0] M := by
  subst hD
  exact g_go hk_54 ⟨rfl, rfl⟩ (g_C_ok (g_F_ok (D := D1))) sp_54 5 h
theorem hn_55 : 2 ≤ (hm_me 55).2.2.1 := by decide +kernel
/-- HeapLaw$Sharing.isFit(LHeapLaw$Formula;)Z -/
def sp_55 (pc : Nat) : Option Nat := match pc with
  | 13 => some 2
  | 33 => some 2
  | _ => none
set_option maxRecDepth 20000 in
theorem rg_55_0 {D : Nat} {Q : g_P} {M : g_M} {h0 : Nat} {h1 : Nat} {D1 : Nat} (hD : D = D1 + 2) (h : g_Ev D 39 [.inr (7, (h0 + 1)), .inr (1, h1)] (g_uB M h0 none) (fun q M' => g_R (D + 1) 55 Q 13 [.inr (12, h0), .inr (1, h1)] (q ++ []) M')) : g_R (D + 1) 55 Q 0 [.inr (12, h0), .inr (1, h1)] [] M := by
  subst hD
  exact g_go hk_55 ⟨rfl, rfl⟩ (g_C_ok (g_F_ok (D := D1))) sp_55 8 h
set_option maxRecDepth 20000 in
theorem rg_55_13 {D : Nat} {Q : g_P} {M : g_M} {h0 : Nat} {h1 : Nat} {D1 : Nat} (hD : D = D1 + 2) (h : g_Ev D 56 [.inr (12, h0), .inl (0 : Int), .inl (0 : Int), .inl (0 : Int)] (g_uA M (12, h0) 4 (hm_or (M.1 7 (h0 + 1) 2) (1 : Int))) (fun q M' => g_R (D + 1) 55 Q 33 [.inr (12, h0), .inr (1, h1)] (q ++ []) M')) : g_R (D + 1) 55 Q 13 [.inr (12, h0), .inr (1, h1)] [] M := by
  subst hD
  exact g_go hk_55 ⟨rfl, rfl⟩ (g_C_ok (g_F_ok (D := D1))) sp_55 13 h
set_option maxRecDepth 20000 in
theorem rg_55_33 {D : Nat} {Q : g_P} {M : g_M} {h0 : Nat} {h1 : Nat} {s0 : Int} {D1 : Nat} (hD : D = D1 + 2) (h : ((0 : Int) ≤ s0 ∧ s0 ≤ 1) ∧ (Q [.inl s0] M)) : g_R (D + 1) 55 Q 33 [.inr (12, h0), .inr (1, h1)] [.inl s0] M := by
  subst hD
  exact g_go hk_55 ⟨rfl, rfl⟩ (g_C_ok (g_F_ok (D := D1))) sp_55 2 h
theorem hn_56 : 4 ≤ (hm_me 56).2.2.1 := by decide +kernel
/-- HeapLaw$Sharing.searchFrom(III)Z -/
def sp_56 (pc : Nat) : Option Nat := match pc with
  | 18 => some 4
  | 47 => some 4
  | 51 => some 5
  | 70 => some 5
  | 95 => some 6
  | _ => none
set_option maxRecDepth 20000 in
theorem rg_56_0 {D : Nat} {Q : g_P} {M : g_M} {h0 : Nat} {x1 : Int} {x2 : Int} {x3 : Int} {D1 : Nat} (hD : D = D1 + 2) (h : (x1 ≤ (7 : Int) → (((0 ≤ (M.1 12 h0 4) ∧ (M.1 12 h0 4) < 1024) ∧ (0 ≤ x1 ∧ x1 < 10)) ∧ ((g_bit (M.1 12 h0 4) x1 → ((¬ (1 : Int) = (0 : Int) → (g_R (D + 1) 56 Q 51 [.inr (12, h0), .inl x1, .inl x2, .inl x3, .inl x2] [] M)) ∧ ((1 : Int) = (0 : Int) → ((hm_in (x1 + (1 : Int))) ∧ (g_Ev D 56 [.inr (12, h0), .inl (x1 + (1 : Int)), .inl x2, .inl x3] M (fun q M' => g_R (D + 1) 56 Q 47 [.inr (12, h0), .inl x1, .inl x2, .inl x3] (q ++ []) M')))))) ∧ (¬ g_bit (M.1 12 h0 4) x1 → ((¬ (0 : Int) = (0 : Int) → (g_R (D + 1) 56 Q 51 [.inr (12, h0), .inl x1, .inl x2, .inl x3, .inl x2] [] M)) ∧ ((0 : Int) = (0 : Int) → ((hm_in (x1 + (1 : Int))) ∧ (g_Ev D 56 [.inr (12, h0), .inl (x1 + (1 : Int)), .inl x2, .inl x3] M (fun q M' => g_R (D + 1) 56 Q 47 [.inr (12, h0), .inl x1, .inl x2, .inl x3] (q ++ []) M'))))))))) ∧ ((7 : Int) < x1 → ((M.2 h0 = none → (((0 : Int) ≤ (1 : Int) ∧ (1 : Int) ≤ 1) ∧ (Q [.inl (1 : Int)] M))) ∧ (∀ f7, M.2 h0 = some f7 → (g_Ev D 57 [.inr (12, h0), .inl x3] M (fun q M' => g_R (D + 1) 56 Q 18 [.inr (12, h0), .inl x1, .inl x2, .inl x3] (q ++ []) M')))))) : g_R (D + 1) 56 Q 0 [.inr (12, h0), .inl x1, .inl x2, .inl x3] [] M := by
  subst hD
  exact g_go hk_56 ⟨rfl, rfl⟩ (g_C_ok (g_F_ok (D := D1))) sp_56 16 h
set_option maxRecDepth 20000 in
theorem rg_56_18 {D : Nat} {Q : g_P} {M : g_M} {h0 : Nat} {x1 : Int} {x2 : Int} {x3 : Int} {s0 : Int} {D1 : Nat} (hD : D = D1 + 2) (h : (¬ s0 = (0 : Int) → (((0 : Int) ≤ (0 : Int) ∧ (0 : Int) ≤ 1) ∧ (Q [.inl (0 : Int)] M))) ∧ (s0 = (0 : Int) → (((0 : Int) ≤ (1 : Int) ∧ (1 : Int) ≤ 1) ∧ (Q [.inl (1 : Int)] M)))) : g_R (D + 1) 56 Q 18 [.inr (12, h0), .inl x1, .inl x2, .inl x3] [.inl s0] M := by
  subst hD
  exact g_go hk_56 ⟨rfl, rfl⟩ (g_C_ok (g_F_ok (D := D1))) sp_56 5 h
set_option maxRecDepth 20000 in
theorem rg_56_47 {D : Nat} {Q : g_P} {M : g_M} {h0 : Nat} {x1 : Int} {x2 : Int} {x3 : Int} {s0 : Int} {D1 : Nat} (hD : D = D1 + 2) (h : ((0 : Int) ≤ s0 ∧ s0 ≤ 1) ∧ (Q [.inl s0] M)) : g_R (D + 1) 56 Q 47 [.inr (12, h0), .inl x1, .inl x2, .inl x3] [.inl s0] M := by
  subst hD
  exact g_go hk_56 ⟨rfl, rfl⟩ (g_C_ok (g_F_ok (D := D1))) sp_56 2 h
set_option maxRecDepth 20000 in
theorem rg_56_51 {D : Nat} {Q : g_P} {M : g_M} {h0 : Nat} {x1 : Int} {x2 : Int} {x3 : Int} {x4 : Int} {D1 : Nat} (hD : D = D1 + 2) (h : (x4 < (0 : Int) → (((0 : Int) ≤ (0 : Int) ∧ (0 : Int) ≤ 1) ∧ (Q [.inl (0 : Int)] M))) ∧ ((0 : Int) ≤ x4 → (((0 : Int) ≤ x1 ∧ x1 < ((8 : Nat) : Int)) ∧ (g_Ev D 60 [.inr (12, h0), .inl x1, .inl x3] (g_uA M (13, h0) x1.toNat x4) (fun q M' => g_R (D + 1) 56 Q 70 [.inr (12, h0), .inl x1, .inl x2, .inl x3, .inl x4] (q ++ []) M'))))) : g_R (D + 1) 56 Q 51 [.inr (12, h0), .inl x1, .inl x2, .inl x3, .inl x4] [] M := by
  subst hD
  exact g_go hk_56 ⟨rfl, rfl⟩ (g_C_ok (g_F_ok (D := D1))) sp_56 12 h
set_option maxRecDepth 20000 in
theorem rg_56_70 {D : Nat} {Q : g_P} {M : g_M} {h0 : Nat} {x1 : Int} {x2 : Int} {x3 : Int} {x4 : Int} {s0 : Int} {D1 : Nat} (hD : D = D1 + 2) (h : (s0 = (-1 : Int) → ((hm_in (x4 + (-1 : Int))) ∧ (g_R (D + 1) 56 Q 51 [.inr (12, h0), .inl x1, .inl x2, .inl x3, .inl (x4 + (-1 : Int))] [] M))) ∧ (¬ s0 = (-1 : Int) → ((hm_in (x1 + (1 : Int))) ∧ ((hm_in (x4 + (1 : Int))) ∧ (g_Ev D 56 [.inr (12, h0), .inl (x1 + (1 : Int)), .inl (max x2 (x4 + (1 : Int))), .inl s0] M (fun q M' => g_R (D + 1) 56 Q 95 [.inr (12, h0), .inl x1, .inl x2, .inl x3, .inl x4, .inl s0] (q ++ []) M')))))) : g_R (D + 1) 56 Q 70 [.inr (12, h0), .inl x1, .inl x2, .inl x3, .inl x4] [.inl s0] M := by
  subst hD
  exact g_go hk_56 ⟨rfl, rfl⟩ (g_C_ok (g_F_ok (D := D1))) sp_56 16 h
set_option maxRecDepth 20000 in
theorem rg_56_95 {D : Nat} {Q : g_P} {M : g_M} {h0 : Nat} {x1 : Int} {x2 : Int} {x3 : Int} {x4 : Int} {x5 : Int} {s0 : Int} {D1 : Nat} (hD : D = D1 + 2) (h : (s0 = (0 : Int) → ((hm_in (x4 + (-1 : Int))) ∧ (g_R (D + 1) 56 Q 51 [.inr (12, h0), .inl x1, .inl x2, .inl x3, .inl (x4 + (-1 : Int))] [] M))) ∧ (¬ s0 = (0 : Int) → (((0 : Int) ≤ (1 : Int) ∧ (1 : Int) ≤ 1) ∧ (Q [.inl (1 : Int)] M)))) : g_R (D + 1) 56 Q 95 [.inr (12, h0), .inl x1, .inl x2, .inl x3, .inl x4, .inl x5] [.inl s0] M := by
  subst hD
  exact g_go hk_56 ⟨rfl, rfl⟩ (g_C_ok (g_F_ok (D := D1))) sp_56 4 h
theorem hn_57 : 2 ≤ (hm_me 57).2.2.1 := by decide +kernel
/-- HeapLaw$Sharing.isCovered(I)Z -/
def sp_57 (pc : Nat) : Option Nat := match pc with
  | 2 => some 3
  | 76 => some 4
  | 145 => some 7
  | 158 => some 7
  | _ => none
set_option maxRecDepth 20000 in
theorem rg_57_0 {D : Nat} {Q : g_P} {M : g_M} {h0 : Nat} {x1 : Int} {D1 : Nat} (hD : D = D1 + 2) (h : g_R (D + 1) 57 Q 2 [.inr (12, h0), .inl x1, .inl (0 : Int)] [] M) : g_R (D + 1) 57 Q 0 [.inr (12, h0), .inl x1] [] M := by
  subst hD
  exact g_go hk_57 ⟨rfl, rfl⟩ (g_C_ok (g_F_ok (D := D1))) sp_57 3 h
set_option maxRecDepth 20000 in
theorem rg_57_2 {D : Nat} {Q : g_P} {M : g_M} {h0 : Nat} {x1 : Int} {x2 : Int} {D1 : Nat} (hD : D = D1 + 2) (h : (M.2 h0 = none → (False)) ∧ (∀ f4, M.2 h0 = some f4 → ((M.1 1 f4 2 ≤ x2 → (g_R (D + 1) 57 Q 76 [.inr (12, h0), .inl x1, .inl x1, .inl (0 : Int)] [] M)) ∧ (x2 < M.1 1 f4 2 → ((M.2 h0 = none → (False)) ∧ (∀ f14, M.2 h0 = some f14 → (((0 : Int) ≤ x2 ∧ x2 < ((16 : Nat) : Int)) ∧ ((0 ≤ (M.1 2 f14 x2.toNat) ∧ (M.1 2 f14 x2.toNat) < 256) ∧ ((¬ (M.1 2 f14 x2.toNat) / 64 = (0 : Int) → ((0 ≤ (M.1 2 f14 x2.toNat) ∧ (M.1 2 f14 x2.toNat) < 256) ∧ (((0 : Int) ≤ (M.1 2 f14 x2.toNat) / 8 % 8 ∧ (M.1 2 f14 x2.toNat) / 8 % 8 < ((8 : Nat) : Int)) ∧ ((0 ≤ (M.1 2 f14 x2.toNat) ∧ (M.1 2 f14 x2.toNat) < 256) ∧ (((0 : Int) ≤ (M.1 2 f14 x2.toNat) % 8 ∧ (M.1 2 f14 x2.toNat) % 8 < ((8 : Nat) : Int)) ∧ ((¬ M.1 13 h0 ((M.1 2 f14 x2.toNat) / 8 % 8).toNat = M.1 13 h0 ((M.1 2 f14 x2.toNat) % 8).toNat → (((0 : Int) = (0 : Int) → ((hm_in (x2 + (1 : Int))) ∧ (g_R (D + 1) 57 Q 2 [.inr (12, h0), .inl x1, .inl (x2 + (1 : Int))] [] M))) ∧ (¬ (0 : Int) = (0 : Int) → (((0 : Int) ≤ (0 : Int) ∧ (0 : Int) ≤ 1) ∧ (Q [.inl (0 : Int)] M))))) ∧ (M.1 13 h0 ((M.1 2 f14 x2.toNat) / 8 % 8).toNat = M.1 13 h0 ((M.1 2 f14 x2.toNat) % 8).toNat → (((0 : Int) = (1 : Int) → ((hm_in (x2 + (1 : Int))) ∧ (g_R (D + 1) 57 Q 2 [.inr (12, h0), .inl x1, .inl (x2 + (1 : Int))] [] M))) ∧ (¬ (0 : Int) = (1 : Int) → (((0 : Int) ≤ (0 : Int) ∧ (0 : Int) ≤ 1) ∧ (Q [.inl (0 : Int)] M))))))))))) ∧ ((M.1 2 f14 x2.toNat) / 64 = (0 : Int) → ((0 ≤ (M.1 2 f14 x2.toNat) ∧ (M.1 2 f14 x2.toNat) < 256) ∧ (((0 : Int) ≤ (M.1 2 f14 x2.toNat) / 8 % 8 ∧ (M.1 2 f14 x2.toNat) / 8 % 8 < ((8 : Nat) : Int)) ∧ ((0 ≤ (M.1 2 f14 x2.toNat) ∧ (M.1 2 f14 x2.toNat) < 256) ∧ (((0 : Int) ≤ (M.1 2 f14 x2.toNat) % 8 ∧ (M.1 2 f14 x2.toNat) % 8 < ((8 : Nat) : Int)) ∧ ((¬ M.1 13 h0 ((M.1 2 f14 x2.toNat) / 8 % 8).toNat = M.1 13 h0 ((M.1 2 f14 x2.toNat) % 8).toNat → (((1 : Int) = (0 : Int) → ((hm_in (x2 + (1 : Int))) ∧ (g_R (D + 1) 57 Q 2 [.inr (12, h0), .inl x1, .inl (x2 + (1 : Int))] [] M))) ∧ (¬ (1 : Int) = (0 : Int) → (((0 : Int) ≤ (0 : Int) ∧ (0 : Int) ≤ 1) ∧ (Q [.inl (0 : Int)] M))))) ∧ (M.1 13 h0 ((M.1 2 f14 x2.toNat) / 8 % 8).toNat = M.1 13 h0 ((M.1 2 f14 x2.toNat) % 8).toNat → (((1 : Int) = (1 : Int) → ((hm_in (x2 + (1 : Int))) ∧ (g_R (D + 1) 57 Q 2 [.inr (12, h0), .inl x1, .inl (x2 + (1 : Int))] [] M))) ∧ (¬ (1 : Int) = (1 : Int) → (((0 : Int) ≤ (0 : Int) ∧ (0 : Int) ≤ 1) ∧ (Q [.inl (0 : Int)] M)))))))))))))))))))) : g_R (D + 1) 57 Q 2 [.inr (12, h0), .inl x1, .inl x2] [] M := by
  subst hD
  exact g_go hk_57 ⟨rfl, rfl⟩ (g_C_ok (g_F_ok (D := D1))) sp_57 33 h
set_option maxRecDepth 20000 in
theorem rg_57_76 {D : Nat} {Q : g_P} {M : g_M} {h0 : Nat} {x1 : Int} {x2 : Int} {x3 : Int} {D1 : Nat} (hD : D = D1 + 2) (h : (M.2 h0 = none → (False)) ∧ (∀ f78, M.2 h0 = some f78 → ((M.1 1 f78 3 ≤ x3 → ((¬ x2 = (0 : Int) → (((0 : Int) ≤ (0 : Int) ∧ (0 : Int) ≤ 1) ∧ (Q [.inl (0 : Int)] M))) ∧ (x2 = (0 : Int) → (((0 : Int) ≤ (1 : Int) ∧ (1 : Int) ≤ 1) ∧ (Q [.inl (1 : Int)] M))))) ∧ (x3 < M.1 1 f78 3 → ((x2 = (-1 : Int) → ((¬ x2 = (0 : Int) → (((0 : Int) ≤ (0 : Int) ∧ (0 : Int) ≤ 1) ∧ (Q [.inl (0 : Int)] M))) ∧ (x2 = (0 : Int) → (((0 : Int) ≤ (1 : Int) ∧ (1 : Int) ≤ 1) ∧ (Q [.inl (1 : Int)] M))))) ∧ (¬ x2 = (-1 : Int) → ((M.2 h0 = none → (False)) ∧ (∀ f93, M.2 h0 = some f93 → (((0 : Int) ≤ x3 ∧ x3 < ((10 : Nat) : Int)) ∧ ((0 ≤ (M.1 3 f93 x3.toNat) ∧ (M.1 3 f93 x3.toNat) < 256) ∧ (((0 : Int) ≤ (M.1 3 f93 x3.toNat) / 8 % 8 ∧ (M.1 3 f93 x3.toNat) / 8 % 8 < ((8 : Nat) : Int)) ∧ ((0 ≤ (M.1 3 f93 x3.toNat) ∧ (M.1 3 f93 x3.toNat) < 256) ∧ (((0 : Int) ≤ (M.1 3 f93 x3.toNat) % 8 ∧ (M.1 3 f93 x3.toNat) % 8 < ((8 : Nat) : Int)) ∧ ((0 ≤ (M.1 3 f93 x3.toNat) ∧ (M.1 3 f93 x3.toNat) < 256) ∧ ((¬ (M.1 3 f93 x3.toNat) / 64 = (2 : Int) → (g_Ev D 59 [.inr (12, h0), .inl (M.1 13 h0 ((M.1 3 f93 x3.toNat) / 8 % 8).toNat), .inl (M.1 13 h0 ((M.1 3 f93 x3.toNat) % 8).toNat), .inl x2, .inl x1] M (fun q M' => g_R (D + 1) 57 Q 158 [.inr (12, h0), .inl x1, .inl x2, .inl x3, .inl (M.1 3 f93 x3.toNat), .inl (M.1 13 h0 ((M.1 3 f93 x3.toNat) / 8 % 8).toNat), .inl (M.1 13 h0 ((M.1 3 f93 x3.toNat) % 8).toNat)] (q ++ []) M'))) ∧ ((M.1 3 f93 x3.toNat) / 64 = (2 : Int) → (g_Ev D 58 [.inr (12, h0), .inl (M.1 13 h0 ((M.1 3 f93 x3.toNat) / 8 % 8).toNat), .inl (M.1 13 h0 ((M.1 3 f93 x3.toNat) % 8).toNat), .inl x2] M (fun q M' => g_R (D + 1) 57 Q 145 [.inr (12, h0), .inl x1, .inl x2, .inl x3, .inl (M.1 3 f93 x3.toNat), .inl (M.1 13 h0 ((M.1 3 f93 x3.toNat) / 8 % 8).toNat), .inl (M.1 13 h0 ((M.1 3 f93 x3.toNat) % 8).toNat)] (q ++ []) M')))))))))))))))))) : g_R (D + 1) 57 Q 76 [.inr (12, h0), .inl x1, .inl x2, .inl x3] [] M := by
  subst hD
  exact g_go hk_57 ⟨rfl, rfl⟩ (g_C_ok (g_F_ok (D := D1))) sp_57 37 h
set_option maxRecDepth 20000 in
theorem rg_57_145 {D : Nat} {Q : g_P} {M : g_M} {h0 : Nat} {x1 : Int} {x2 : Int} {x3 : Int} {x4 : Int} {x5 : Int} {x6 : Int} {s0 : Int} {D1 : Nat} (hD : D = D1 + 2) (h : g_R (D + 1) 57 Q 158 [.inr (12, h0), .inl x1, .inl x2, .inl x3, .inl x4, .inl x5, .inl x6] [.inl s0] M) : g_R (D + 1) 57 Q 145 [.inr (12, h0), .inl x1, .inl x2, .inl x3, .inl x4, .inl x5, .inl x6] [.inl s0] M := by
  subst hD
  exact g_go hk_57 ⟨rfl, rfl⟩ (g_C_ok (g_F_ok (D := D1))) sp_57 2 h
set_option maxRecDepth 20000 in
theorem rg_57_158 {D : Nat} {Q : g_P} {M : g_M} {h0 : Nat} {x1 : Int} {x2 : Int} {x3 : Int} {x4 : Int} {x5 : Int} {x6 : Int} {s0 : Int} {D1 : Nat} (hD : D = D1 + 2) (h : (hm_in (x3 + (1 : Int))) ∧ (g_R (D + 1) 57 Q 76 [.inr (12, h0), .inl x1, .inl s0, .inl (x3 + (1 : Int))] [] M)) : g_R (D + 1) 57 Q 158 [.inr (12, h0), .inl x1, .inl x2, .inl x3, .inl x4, .inl x5, .inl x6] [.inl s0] M := by
  subst hD
  exact g_go hk_57 ⟨rfl, rfl⟩ (g_C_ok (g_F_ok (D := D1))) sp_57 4 h
theorem hn_58 : 4 ≤ (hm_me 58).2.2.1 := by decide +kernel
/-- HeapLaw$Sharing.coverCell(III)I -/
def sp_58 (pc : Nat) : Option Nat := match pc with
  | _ => none
set_option maxRecDepth 20000 in
theorem rg_58_0 {D : Nat} {Q : g_P} {M : g_M} {h0 : Nat} {x1 : Int} {x2 : Int} {x3 : Int} {D1 : Nat} (hD : D = D1 + 2) (h : ((0 ≤ (hm_and x3 (hm_xor (M.1 12 h0 3) (-1 : Int))) ∧ (hm_and x3 (hm_xor (M.1 12 h0 3) (-1 : Int))) < 1024) ∧ (0 ≤ x1 ∧ x1 < 10)) ∧ ((g_bit (hm_and x3 (hm_xor (M.1 12 h0 3) (-1 : Int))) x1 → (((1 : Int) = (0 : Int) → (((0 : Int) = (0 : Int) → (Q [.inl (-1 : Int)] M)) ∧ (¬ (0 : Int) = (0 : Int) → (Q [.inl (hm_and x3 (hm_xor (hm_shl (1 : Int) x1) (-1 : Int)))] M)))) ∧ (¬ (1 : Int) = (0 : Int) → (((0 : Int) ≤ x1 ∧ x1 < ((8 : Nat) : Int)) ∧ ((¬ M.1 14 h0 x1.toNat = x2 → (((0 : Int) = (0 : Int) → (Q [.inl (-1 : Int)] M)) ∧ (¬ (0 : Int) = (0 : Int) → (Q [.inl (hm_and x3 (hm_xor (hm_shl (1 : Int) x1) (-1 : Int)))] M)))) ∧ (M.1 14 h0 x1.toNat = x2 → (((1 : Int) = (0 : Int) → (Q [.inl (-1 : Int)] M)) ∧ (¬ (1 : Int) = (0 : Int) → (Q [.inl (hm_and x3 (hm_xor (hm_shl (1 : Int) x1) (-1 : Int)))] M))))))))) ∧ (¬ g_bit (hm_and x3 (hm_xor (M.1 12 h0 3) (-1 : Int))) x1 → (((0 : Int) = (0 : Int) → (((0 : Int) = (0 : Int) → (Q [.inl (-1 : Int)] M)) ∧ (¬ (0 : Int) = (0 : Int) → (Q [.inl (hm_and x3 (hm_xor (hm_shl (1 : Int) x1) (-1 : Int)))] M)))) ∧ (¬ (0 : Int) = (0 : Int) → (((0 : Int) ≤ x1 ∧ x1 < ((8 : Nat) : Int)) ∧ ((¬ M.1 14 h0 x1.toNat = x2 → (((0 : Int) = (0 : Int) → (Q [.inl (-1 : Int)] M)) ∧ (¬ (0 : Int) = (0 : Int) → (Q [.inl (hm_and x3 (hm_xor (hm_shl (1 : Int) x1) (-1 : Int)))] M)))) ∧ (M.1 14 h0 x1.toNat = x2 → (((1 : Int) = (0 : Int) → (Q [.inl (-1 : Int)] M)) ∧ (¬ (1 : Int) = (0 : Int) → (Q [.inl (hm_and x3 (hm_xor (hm_shl (1 : Int) x1) (-1 : Int)))] M))))))))))) : g_R (D + 1) 58 Q 0 [.inr (12, h0), .inl x1, .inl x2, .inl x3] [] M := by
  subst hD
  exact g_go hk_58 ⟨rfl, rfl⟩ (g_C_ok (g_F_ok (D := D1))) sp_58 30 h
theorem hn_59 : 5 ≤ (hm_me 59).2.2.1 := by decide +kernel
/-- HeapLaw$Sharing.coverRow(IIII)I -/
def sp_59 (pc : Nat) : Option Nat := match pc with
  | 29 => some 9
  | _ => none
set_option maxRecDepth 20000 in
theorem rg_59_0 {D : Nat} {Q : g_P} {M : g_M} {h0 : Nat} {x1 : Int} {x2 : Int} {x3 : Int} {x4 : Int} {D1 : Nat} (hD : D = D1 + 2) (h : (x2 = (0 : Int) → (g_R (D + 1) 59 Q 29 [.inr (12, h0), .inl x1, .inl x2, .inl x3, .inl x4, .inl (0 : Int), .inl x3, .inl x1, .inl (0 : Int)] [] M)) ∧ (¬ x2 = (0 : Int) → (((0 ≤ x4 ∧ x4 < 1024) ∧ (0 ≤ x2 ∧ x2 < 10)) ∧ ((g_bit x4 x2 → ((¬ (1 : Int) = (0 : Int) → (g_R (D + 1) 59 Q 29 [.inr (12, h0), .inl x1, .inl x2, .inl x3, .inl x4, .inl (0 : Int), .inl x3, .inl x1, .inl (0 : Int)] [] M)) ∧ ((1 : Int) = (0 : Int) → (g_R (D + 1) 59 Q 29 [.inr (12, h0), .inl x1, .inl x2, .inl x3, .inl x4, .inl (1 : Int), .inl x3, .inl x1, .inl (0 : Int)] [] M)))) ∧ (¬ g_bit x4 x2 → ((¬ (0 : Int) = (0 : Int) → (g_R (D + 1) 59 Q 29 [.inr (12, h0), .inl x1, .inl x2, .inl x3, .inl x4, .inl (0 : Int), .inl x3, .inl x1, .inl (0 : Int)] [] M)) ∧ ((0 : Int) = (0 : Int) → (g_R (D + 1) 59 Q 29 [.inr (12, h0), .inl x1, .inl x2, .inl x3, .inl x4, .inl (1 : Int), .inl x3, .inl x1, .inl (0 : Int)] [] M)))))))) : g_R (D + 1) 59 Q 0 [.inr (12, h0), .inl x1, .inl x2, .inl x3, .inl x4] [] M := by
  subst hD
  exact g_go hk_59 ⟨rfl, rfl⟩ (g_C_ok (g_F_ok (D := D1))) sp_59 16 h
set_option maxRecDepth 20000 in
theorem rg_59_29 {D : Nat} {Q : g_P} {M : g_M} {h0 : Nat} {x1 : Int} {x2 : Int} {x3 : Int} {x4 : Int} {x5 : Int} {x6 : Int} {x7 : Int} {x8 : Int} {D1 : Nat} (hD : D = D1 + 2) (h : ((8 : Int) ≤ x8 → ((¬ x7 = x2 → (Q [.inl (-1 : Int)] M)) ∧ (x7 = x2 → (Q [.inl x6] M)))) ∧ (x8 < (8 : Int) → ((x7 = x2 → ((¬ x7 = x2 → (Q [.inl (-1 : Int)] M)) ∧ (x7 = x2 → (Q [.inl x6] M)))) ∧ (¬ x7 = x2 → (((0 ≤ x6 ∧ x6 < 1024) ∧ (0 ≤ x7 ∧ x7 < 10)) ∧ ((g_bit x6 x7 → ((¬ (1 : Int) = (0 : Int) → ((x5 = (0 : Int) → (((0 : Int) ≤ x7 ∧ x7 < ((8 : Nat) : Int)) ∧ ((hm_in (x8 + (1 : Int))) ∧ (g_R (D + 1) 59 Q 29 [.inr (12, h0), .inl x1, .inl x2, .inl x3, .inl x4, .inl x5, .inl (hm_and x6 (hm_xor (hm_shl (1 : Int) x7) (-1 : Int))), .inl (M.1 14 h0 x7.toNat), .inl (x8 + (1 : Int))] [] M)))) ∧ (¬ x5 = (0 : Int) → (((0 ≤ (M.1 12 h0 3) ∧ (M.1 12 h0 3) < 1024) ∧ (0 ≤ x7 ∧ x7 < 10)) ∧ ((g_bit (M.1 12 h0 3) x7 → (((1 : Int) = (0 : Int) → (((0 : Int) ≤ x7 ∧ x7 < ((8 : Nat) : Int)) ∧ ((hm_in (x8 + (1 : Int))) ∧ (g_R (D + 1) 59 Q 29 [.inr (12, h0), .inl x1, .inl x2, .inl x3, .inl x4, .inl x5, .inl (hm_and x6 (hm_xor (hm_shl (1 : Int) x7) (-1 : Int))), .inl (M.1 14 h0 x7.toNat), .inl (x8 + (1 : Int))] [] M)))) ∧ (¬ (1 : Int) = (0 : Int) → (((0 : Int) ≤ x7 ∧ x7 < ((8 : Nat) : Int)) ∧ ((M.1 14 h0 x7.toNat = x2 → (((0 : Int) ≤ x7 ∧ x7 < ((8 : Nat) : Int)) ∧ ((hm_in (x8 + (1 : Int))) ∧ (g_R (D + 1) 59 Q 29 [.inr (12, h0), .inl x1, .inl x2, .inl x3, .inl x4, .inl x5, .inl (hm_and x6 (hm_xor (hm_shl (1 : Int) x7) (-1 : Int))), .inl (M.1 14 h0 x7.toNat), .inl (x8 + (1 : Int))] [] M)))) ∧ (¬ M.1 14 h0 x7.toNat = x2 → (Q [.inl (-1 : Int)] M))))))) ∧ (¬ g_bit (M.1 12 h0 3) x7 → (((0 : Int) = (0 : Int) → (((0 : Int) ≤ x7 ∧ x7 < ((8 : Nat) : Int)) ∧ ((hm_in (x8 + (1 : Int))) ∧ (g_R (D + 1) 59 Q 29 [.inr (12, h0), .inl x1, .inl x2, .inl x3, .inl x4, .inl x5, .inl (hm_and x6 (hm_xor (hm_shl (1 : Int) x7) (-1 : Int))), .inl (M.1 14 h0 x7.toNat), .inl (x8 + (1 : Int))] [] M)))) ∧ (¬ (0 : Int) = (0 : Int) → (((0 : Int) ≤ x7 ∧ x7 < ((8 : Nat) : Int)) ∧ ((M.1 14 h0 x7.toNat = x2 → (((0 : Int) ≤ x7 ∧ x7 < ((8 : Nat) : Int)) ∧ ((hm_in (x8 + (1 : Int))) ∧ (g_R (D + 1) 59 Q 29 [.inr (12, h0), .inl x1, .inl x2, .inl x3, .inl x4, .inl x5, .inl (hm_and x6 (hm_xor (hm_shl (1 : Int) x7) (-1 : Int))), .inl (M.1 14 h0 x7.toNat), .inl (x8 + (1 : Int))] [] M)))) ∧ (¬ M.1 14 h0 x7.toNat = x2 → (Q [.inl (-1 : Int)] M)))))))))))) ∧ ((1 : Int) = (0 : Int) → (Q [.inl (-1 : Int)] M)))) ∧ (¬ g_bit x6 x7 → ((¬ (0 : Int) = (0 : Int) → ((x5 = (0 : Int) → (((0 : Int) ≤ x7 ∧ x7 < ((8 : Nat) : Int)) ∧ ((hm_in (x8 + (1 : Int))) ∧ (g_R (D + 1) 59 Q 29 [.inr (12, h0), .inl x1, .inl x2, .inl x3, .inl x4, .inl x5, .inl (hm_and x6 (hm_xor (hm_shl (1 : Int) x7) (-1 : Int))), .inl (M.1 14 h0 x7.toNat), .inl (x8 + (1 : Int))] [] M)))) ∧ (¬ x5 = (0 : Int) → (((0 ≤ (M.1 12 h0 3) ∧ (M.1 12 h0 3) < 1024) ∧ (0 ≤ x7 ∧ x7 < 10)) ∧ ((g_bit (M.1 12 h0 3) x7 → (((1 : Int) = (0 : Int) → (((0 : Int) ≤ x7 ∧ x7 < ((8 : Nat) : Int)) ∧ ((hm_in (x8 + (1 : Int))) ∧ (g_R (D + 1) 59 Q 29 [.inr (12, h0), .inl x1, .inl x2, .inl x3, .inl x4, .inl x5, .inl (hm_and x6 (hm_xor (hm_shl (1 : Int) x7) (-1 : Int))), .inl (M.1 14 h0 x7.toNat), .inl (x8 + (1 : Int))] [] M)))) ∧ (¬ (1 : Int) = (0 : Int) → (((0 : Int) ≤ x7 ∧ x7 < ((8 : Nat) : Int)) ∧ ((M.1 14 h0 x7.toNat = x2 → (((0 : Int) ≤ x7 ∧ x7 < ((8 : Nat) : Int)) ∧ ((hm_in (x8 + (1 : Int))) ∧ (g_R (D + 1) 59 Q 29 [.inr (12, h0), .inl x1, .inl x2, .inl x3, .inl x4, .inl x5, .inl (hm_and x6 (hm_xor (hm_shl (1 : Int) x7) (-1 : Int))), .inl (M.1 14 h0 x7.toNat), .inl (x8 + (1 : Int))] [] M)))) ∧ (¬ M.1 14 h0 x7.toNat = x2 → (Q [.inl (-1 : Int)] M))))))) ∧ (¬ g_bit (M.1 12 h0 3) x7 → (((0 : Int) = (0 : Int) → (((0 : Int) ≤ x7 ∧ x7 < ((8 : Nat) : Int)) ∧ ((hm_in (x8 + (1 : Int))) ∧ (g_R (D + 1) 59 Q 29 [.inr (12, h0), .inl x1, .inl x2, .inl x3, .inl x4, .inl x5, .inl (hm_and x6 (hm_xor (hm_shl (1 : Int) x7) (-1 : Int))), .inl (M.1 14 h0 x7.toNat), .inl (x8 + (1 : Int))] [] M)))) ∧ (¬ (0 : Int) = (0 : Int) → (((0 : Int) ≤ x7 ∧ x7 < ((8 : Nat) : Int)) ∧ ((M.1 14 h0 x7.toNat = x2 → (((0 : Int) ≤ x7 ∧ x7 < ((8 : Nat) : Int)) ∧ ((hm_in (x8 + (1 : Int))) ∧ (g_R (D + 1) 59 Q 29 [.inr (12, h0), .inl x1, .inl x2, .inl x3, .inl x4, .inl x5, .inl (hm_and x6 (hm_xor (hm_shl (1 : Int) x7) (-1 : Int))), .inl (M.1 14 h0 x7.toNat), .inl (x8 + (1 : Int))] [] M)))) ∧ (¬ M.1 14 h0 x7.toNat = x2 → (Q [.inl (-1 : Int)] M)))))))))))) ∧ ((0 : Int) = (0 : Int) → (Q [.inl (-1 : Int)] M)))))))))) : g_R (D + 1) 59 Q 29 [.inr (12, h0), .inl x1, .inl x2, .inl x3, .inl x4, .inl x5, .inl x6, .inl x7, .inl x8] [] M := by
  subst hD
  exact g_go hk_59 ⟨rfl, rfl⟩ (g_C_ok (g_F_ok (D := D1))) sp_59 39 h
theorem hn_60 : 3 ≤ (hm_me 60).2.2.1 := by decide +kernel
/-- HeapLaw$Sharing.admit(II)I -/
def sp_60 (pc : Nat) : Option Nat := match pc with
  | 13 => some 5
  | 76 => some 6
  | _ => none
set_option maxRecDepth 20000 in
theorem rg_60_0 {D : Nat} {Q : g_P} {M : g_M} {h0 : Nat} {x1 : Int} {x2 : Int} {D1 : Nat} (hD : D = D1 + 2) (h : ((0 : Int) ≤ x1 ∧ x1 < ((9 : Nat) : Int)) ∧ (g_R (D + 1) 60 Q 13 [.inr (12, h0), .inl x1, .inl x2, .inl x2, .inl (M.1 11 (h0 + 1) x1.toNat)] [] M)) : g_R (D + 1) 60 Q 0 [.inr (12, h0), .inl x1, .inl x2] [] M := by
  subst hD
  exact g_go hk_60 ⟨rfl, rfl⟩ (g_C_ok (g_F_ok (D := D1))) sp_60 9 h
set_option maxRecDepth 20000 in
theorem rg_60_13 {D : Nat} {Q : g_P} {M : g_M} {h0 : Nat} {x1 : Int} {x2 : Int} {x3 : Int} {x4 : Int} {D1 : Nat} (hD : D = D1 + 2) (h : (hm_in (x1 + (1 : Int))) ∧ (((0 : Int) ≤ x1 + (1 : Int) ∧ x1 + (1 : Int) < ((9 : Nat) : Int)) ∧ ((M.1 11 (h0 + 1) (x1 + (1 : Int)).toNat ≤ x4 → (Q [.inl x3] M)) ∧ (x4 < M.1 11 (h0 + 1) (x1 + (1 : Int)).toNat → ((x3 = (-1 : Int) → (Q [.inl x3] M)) ∧ (¬ x3 = (-1 : Int) → (((0 : Int) ≤ x4 ∧ x4 < ((26 : Nat) : Int)) ∧ ((0 ≤ (M.1 10 (h0 + 1) x4.toNat) ∧ (M.1 10 (h0 + 1) x4.toNat) < 256) ∧ ((0 ≤ (M.1 10 (h0 + 1) x4.toNat) ∧ (M.1 10 (h0 + 1) x4.toNat) < 256) ∧ (((0 : Int) ≤ (M.1 10 (h0 + 1) x4.toNat) / 8 % 8 ∧ (M.1 10 (h0 + 1) x4.toNat) / 8 % 8 < ((8 : Nat) : Int)) ∧ ((0 ≤ (M.1 10 (h0 + 1) x4.toNat) ∧ (M.1 10 (h0 + 1) x4.toNat) < 256) ∧ (((0 : Int) ≤ (M.1 10 (h0 + 1) x4.toNat) % 8 ∧ (M.1 10 (h0 + 1) x4.toNat) % 8 < ((8 : Nat) : Int)) ∧ (g_Ev D 61 [.inr (12, h0), .inl ((M.1 10 (h0 + 1) x4.toNat) / 64), .inl (M.1 13 h0 ((M.1 10 (h0 + 1) x4.toNat) / 8 % 8).toNat), .inl (M.1 13 h0 ((M.1 10 (h0 + 1) x4.toNat) % 8).toNat), .inl x3] M (fun q M' => g_R (D + 1) 60 Q 76 [.inr (12, h0), .inl x1, .inl x2, .inl x3, .inl x4, .inl (M.1 10 (h0 + 1) x4.toNat)] (q ++ []) M')))))))))))))) : g_R (D + 1) 60 Q 13 [.inr (12, h0), .inl x1, .inl x2, .inl x3, .inl x4] [] M := by
  subst hD
  exact g_go hk_60 ⟨rfl, rfl⟩ (g_C_ok (g_F_ok (D := D1))) sp_60 34 h
set_option maxRecDepth 20000 in
theorem rg_60_76 {D : Nat} {Q : g_P} {M : g_M} {h0 : Nat} {x1 : Int} {x2 : Int} {x3 : Int} {x4 : Int} {x5 : Int} {s0 : Int} {D1 : Nat} (hD : D = D1 + 2) (h : (hm_in (x4 + (1 : Int))) ∧ (g_R (D + 1) 60 Q 13 [.inr (12, h0), .inl x1, .inl x2, .inl s0, .inl (x4 + (1 : Int))] [] M)) : g_R (D + 1) 60 Q 76 [.inr (12, h0), .inl x1, .inl x2, .inl x3, .inl x4, .inl x5] [.inl s0] M := by
  subst hD
  exact g_go hk_60 ⟨rfl, rfl⟩ (g_C_ok (g_F_ok (D := D1))) sp_60 4 h
theorem hn_61 : 5 ≤ (hm_me 61).2.2.1 := by decide +kernel
/-- HeapLaw$Sharing.admitOne(IIII)I -/
def sp_61 (pc : Nat) : Option Nat := match pc with
  | _ => none
set_option maxRecDepth 20000 in
theorem rg_61_0 {D : Nat} {Q : g_P} {M : g_M} {h0 : Nat} {x1 : Int} {x2 : Int} {x3 : Int} {x4 : Int} {D1 : Nat} (hD : D = D1 + 2) (h : (x1 = (0 : Int) → ((¬ x1 = (0 : Int) → ((¬ x2 = x3 → ((¬ (0 : Int) = (0 : Int) → (Q [.inl (-1 : Int)] M)) ∧ ((0 : Int) = (0 : Int) → (Q [.inl x4] M)))) ∧ (x2 = x3 → ((¬ (0 : Int) = (1 : Int) → (Q [.inl (-1 : Int)] M)) ∧ ((0 : Int) = (1 : Int) → (Q [.inl x4] M)))))) ∧ (x1 = (0 : Int) → ((¬ x2 = x3 → ((¬ (1 : Int) = (0 : Int) → (Q [.inl (-1 : Int)] M)) ∧ ((1 : Int) = (0 : Int) → (Q [.inl x4] M)))) ∧ (x2 = x3 → ((¬ (1 : Int) = (1 : Int) → (Q [.inl (-1 : Int)] M)) ∧ ((1 : Int) = (1 : Int) → (Q [.inl x4] M)))))))) ∧ (¬ x1 = (0 : Int) → ((¬ x1 = (1 : Int) → ((¬ x1 = (3 : Int) → ((x2 = (0 : Int) → (Q [.inl (-1 : Int)] M)) ∧ (¬ x2 = (0 : Int) → (((0 ≤ x4 ∧ x4 < 1024) ∧ (0 ≤ x2 ∧ x2 < 10)) ∧ ((g_bit x4 x2 → (((1 : Int) = (0 : Int) → (((0 : Int) ≤ x2 ∧ x2 < ((8 : Nat) : Int)) ∧ ((¬ x1 = (3 : Int) → (Q [.inl (hm_or x4 (hm_shl (1 : Int) x2))] (g_uA (g_uA M (14, h0) x2.toNat x3) (12, h0) 3 (hm_and (M.1 12 h0 3) (hm_xor (hm_shl (1 : Int) x2) (-1 : Int)))))) ∧ (x1 = (3 : Int) → (Q [.inl (hm_or x4 (hm_shl (1 : Int) x2))] (g_uA (g_uA M (14, h0) x2.toNat x3) (12, h0) 3 (hm_or (M.1 12 h0 3) (hm_shl (1 : Int) x2)))))))) ∧ (¬ (1 : Int) = (0 : Int) → (Q [.inl (-1 : Int)] M)))) ∧ (¬ g_bit x4 x2 → (((0 : Int) = (0 : Int) → (((0 : Int) ≤ x2 ∧ x2 < ((8 : Nat) : Int)) ∧ ((¬ x1 = (3 : Int) → (Q [.inl (hm_or x4 (hm_shl (1 : Int) x2))] (g_uA (g_uA M (14, h0) x2.toNat x3) (12, h0) 3 (hm_and (M.1 12 h0 3) (hm_xor (hm_shl (1 : Int) x2) (-1 : Int)))))) ∧ (x1 = (3 : Int) → (Q [.inl (hm_or x4 (hm_shl (1 : Int) x2))] (g_uA (g_uA M (14, h0) x2.toNat x3) (12, h0) 3 (hm_or (M.1 12 h0 3) (hm_shl (1 : Int) x2)))))))) ∧ (¬ (0 : Int) = (0 : Int) → (Q [.inl (-1 : Int)] M))))))))) ∧ (x1 = (3 : Int) → ((¬ x2 = x3 → ((x2 = (0 : Int) → (Q [.inl (-1 : Int)] M)) ∧ (¬ x2 = (0 : Int) → (((0 ≤ x4 ∧ x4 < 1024) ∧ (0 ≤ x2 ∧ x2 < 10)) ∧ ((g_bit x4 x2 → (((1 : Int) = (0 : Int) → (((0 : Int) ≤ x2 ∧ x2 < ((8 : Nat) : Int)) ∧ ((¬ x1 = (3 : Int) → (Q [.inl (hm_or x4 (hm_shl (1 : Int) x2))] (g_uA (g_uA M (14, h0) x2.toNat x3) (12, h0) 3 (hm_and (M.1 12 h0 3) (hm_xor (hm_shl (1 : Int) x2) (-1 : Int)))))) ∧ (x1 = (3 : Int) → (Q [.inl (hm_or x4 (hm_shl (1 : Int) x2))] (g_uA (g_uA M (14, h0) x2.toNat x3) (12, h0) 3 (hm_or (M.1 12 h0 3) (hm_shl (1 : Int) x2)))))))) ∧ (¬ (1 : Int) = (0 : Int) → (Q [.inl (-1 : Int)] M)))) ∧ (¬ g_bit x4 x2 → (((0 : Int) = (0 : Int) → (((0 : Int) ≤ x2 ∧ x2 < ((8 : Nat) : Int)) ∧ ((¬ x1 = (3 : Int) → (Q [.inl (hm_or x4 (hm_shl (1 : Int) x2))] (g_uA (g_uA M (14, h0) x2.toNat x3) (12, h0) 3 (hm_and (M.1 12 h0 3) (hm_xor (hm_shl (1 : Int) x2) (-1 : Int)))))) ∧ (x1 = (3 : Int) → (Q [.inl (hm_or x4 (hm_shl (1 : Int) x2))] (g_uA (g_uA M (14, h0) x2.toNat x3) (12, h0) 3 (hm_or (M.1 12 h0 3) (hm_shl (1 : Int) x2)))))))) ∧ (¬ (0 : Int) = (0 : Int) → (Q [.inl (-1 : Int)] M))))))))) ∧ (x2 = x3 → (Q [.inl x4] M)))))) ∧ (x1 = (1 : Int) → ((¬ x1 = (0 : Int) → ((¬ x2 = x3 → ((¬ (0 : Int) = (0 : Int) → (Q [.inl (-1 : Int)] M)) ∧ ((0 : Int) = (0 : Int) → (Q [.inl x4] M)))) ∧ (x2 = x3 → ((¬ (0 : Int) = (1 : Int) → (Q [.inl (-1 : Int)] M)) ∧ ((0 : Int) = (1 : Int) → (Q [.inl x4] M)))))) ∧ (x1 = (0 : Int) → ((¬ x2 = x3 → ((¬ (1 : Int) = (0 : Int) → (Q [.inl (-1 : Int)] M)) ∧ ((1 : Int) = (0 : Int) → (Q [.inl x4] M)))) ∧ (x2 = x3 → ((¬ (1 : Int) = (1 : Int) → (Q [.inl (-1 : Int)] M)) ∧ ((1 : Int) = (1 : Int) → (Q [.inl x4] M))))))))))) : g_R (D + 1) 61 Q 0 [.inr (12, h0), .inl x1, .inl x2, .inl x3, .inl x4] [] M := by
  subst hD
  exact g_go hk_61 ⟨rfl, rfl⟩ (g_C_ok (g_F_ok (D := D1))) sp_61 42 h
theorem hn_62 : 3 ≤ (hm_me 62).2.2.1 := by decide +kernel
/-- HeapLaw.says(II)I -/
def sp_62 (pc : Nat) : Option Nat := match pc with
  | 27 => some 3
  | 52 => some 3
  | _ => none
set_option maxRecDepth 20000 in
theorem rg_62_0 {D : Nat} {Q : g_P} {M : g_M} {x1 : Int} {x2 : Int} {D1 : Nat} (hD : D = D1 + 2) (h : ((0 ≤ x1 ∧ x1 < M.1 0 2 6) → (((1 : Int) = (0 : Int) → (Q [.inl (-1 : Int)] M)) ∧ (¬ (1 : Int) = (0 : Int) → (((0 ≤ x2 ∧ x2 < M.1 0 2 6) → ((¬ (1 : Int) = (0 : Int) → (((0 : Int) ≤ x2 ∧ x2 < 72) ∧ (g_Ev D 63 [.inr (1, (12 + x2.toNat))] M (fun q M' => g_R (D + 1) 62 Q 27 [.inr (0, 2), .inl x1, .inl x2] (q ++ []) M')))) ∧ ((1 : Int) = (0 : Int) → (Q [.inl (-1 : Int)] M)))) ∧ (¬ (0 ≤ x2 ∧ x2 < M.1 0 2 6) → ((¬ (0 : Int) = (0 : Int) → (((0 : Int) ≤ x2 ∧ x2 < 72) ∧ (g_Ev D 63 [.inr (1, (12 + x2.toNat))] M (fun q M' => g_R (D + 1) 62 Q 27 [.inr (0, 2), .inl x1, .inl x2] (q ++ []) M')))) ∧ ((0 : Int) = (0 : Int) → (Q [.inl (-1 : Int)] M)))))))) ∧ (¬ (0 ≤ x1 ∧ x1 < M.1 0 2 6) → (((0 : Int) = (0 : Int) → (Q [.inl (-1 : Int)] M)) ∧ (¬ (0 : Int) = (0 : Int) → (((0 ≤ x2 ∧ x2 < M.1 0 2 6) → ((¬ (1 : Int) = (0 : Int) → (((0 : Int) ≤ x2 ∧ x2 < 72) ∧ (g_Ev D 63 [.inr (1, (12 + x2.toNat))] M (fun q M' => g_R (D + 1) 62 Q 27 [.inr (0, 2), .inl x1, .inl x2] (q ++ []) M')))) ∧ ((1 : Int) = (0 : Int) → (Q [.inl (-1 : Int)] M)))) ∧ (¬ (0 ≤ x2 ∧ x2 < M.1 0 2 6) → ((¬ (0 : Int) = (0 : Int) → (((0 : Int) ≤ x2 ∧ x2 < 72) ∧ (g_Ev D 63 [.inr (1, (12 + x2.toNat))] M (fun q M' => g_R (D + 1) 62 Q 27 [.inr (0, 2), .inl x1, .inl x2] (q ++ []) M')))) ∧ ((0 : Int) = (0 : Int) → (Q [.inl (-1 : Int)] M))))))))) : g_R (D + 1) 62 Q 0 [.inr (0, 2), .inl x1, .inl x2] [] M := by
  subst hD
  exact g_go hk_62 ⟨rfl, rfl⟩ (g_C_ok (g_F_ok (D := D1))) sp_62 14 h
set_option maxRecDepth 20000 in
theorem rg_62_27 {D : Nat} {Q : g_P} {M : g_M} {x1 : Int} {x2 : Int} {s0 : Int} {D1 : Nat} (hD : D = D1 + 2) (h : (s0 = (0 : Int) → (((0 : Int) ≤ x1 ∧ x1 < 72) ∧ (((0 : Int) ≤ x2 ∧ x2 < 72) ∧ (g_Ev D 64 [.inr (12, 0), .inr (1, (12 + x1.toNat)), .inr (1, (12 + x2.toNat))] M (fun q M' => g_R (D + 1) 62 Q 52 [.inr (0, 2), .inl x1, .inl x2] (q ++ []) M'))))) ∧ (¬ s0 = (0 : Int) → (Q [.inl (-3 : Int)] M))) : g_R (D + 1) 62 Q 27 [.inr (0, 2), .inl x1, .inl x2] [.inl s0] M := by
  subst hD
  exact g_go hk_62 ⟨rfl, rfl⟩ (g_C_ok (g_F_ok (D := D1))) sp_62 13 h
set_option maxRecDepth 20000 in
theorem rg_62_52 {D : Nat} {Q : g_P} {M : g_M} {x1 : Int} {x2 : Int} {s0 : Int} {D1 : Nat} (hD : D = D1 + 2) (h : (s0 = (0 : Int) → (Q [.inl (1 : Int)] M)) ∧ (¬ s0 = (0 : Int) → (Q [.inl (0 : Int)] M))) : g_R (D + 1) 62 Q 52 [.inr (0, 2), .inl x1, .inl x2] [.inl s0] M := by
  subst hD
  exact g_go hk_62 ⟨rfl, rfl⟩ (g_C_ok (g_F_ok (D := D1))) sp_62 5 h
theorem hn_63 : 1 ≤ (hm_me 63).2.2.1 := by decide +kernel
/-- HeapLaw$Formula.hasSpare()Z -/
def sp_63 (pc : Nat) : Option Nat := match pc with
  | 4 => some 1
  | _ => none
set_option maxRecDepth 20000 in
theorem rg_63_0 {D : Nat} {Q : g_P} {M : g_M} {h0 : Nat} {D1 : Nat} (hD : D = D1 + 2) (h : g_Ev D 40 [.inr (1, h0)] M (fun q M' => g_R (D + 1) 63 Q 4 [.inr (1, h0)] (q ++ []) M')) : g_R (D + 1) 63 Q 0 [.inr (1, h0)] [] M := by
  subst hD
  exact g_go hk_63 ⟨rfl, rfl⟩ (g_C_ok (g_F_ok (D := D1))) sp_63 3 h
set_option maxRecDepth 20000 in
theorem rg_63_4 {D : Nat} {Q : g_P} {M : g_M} {h0 : Nat} {s0 : Int} {D1 : Nat} (hD : D = D1 + 2) (h : (hm_and s0 (224 : Int) = (0 : Int) → (((0 : Int) ≤ (0 : Int) ∧ (0 : Int) ≤ 1) ∧ (Q [.inl (0 : Int)] M))) ∧ (¬ hm_and s0 (224 : Int) = (0 : Int) → (((0 : Int) ≤ (1 : Int) ∧ (1 : Int) ≤ 1) ∧ (Q [.inl (1 : Int)] M)))) : g_R (D + 1) 63 Q 4 [.inr (1, h0)] [.inl s0] M := by
  subst hD
  exact g_go hk_63 ⟨rfl, rfl⟩ (g_C_ok (g_F_ok (D := D1))) sp_63 7 h
theorem hn_64 : 3 ≤ (hm_me 64).2.2.1 := by decide +kernel
/-- HeapLaw$Sharing.canPart(LHeapLaw$Formula;LHeapLaw$Formula;)Z -/
def sp_64 (pc : Nat) : Option Nat := match pc with
  | 13 => some 3
  | 25 => some 3
  | 38 => some 3
  | _ => none
set_option maxRecDepth 20000 in
theorem rg_64_0 {D : Nat} {Q : g_P} {M : g_M} {h0 : Nat} {h1 : Nat} {h2 : Nat} {D1 : Nat} (hD : D = D1 + 2) (h : g_Ev D 39 [.inr (7, (h0 + 1)), .inr (1, h1)] (g_uB M h0 (some h2)) (fun q M' => g_R (D + 1) 64 Q 13 [.inr (12, h0), .inr (1, h1), .inr (1, h2)] (q ++ []) M')) : g_R (D + 1) 64 Q 0 [.inr (12, h0), .inr (1, h1), .inr (1, h2)] [] M := by
  subst hD
  exact g_go hk_64 ⟨rfl, rfl⟩ (g_C_ok (g_F_ok (D := D1))) sp_64 8 h
set_option maxRecDepth 20000 in
theorem rg_64_13 {D : Nat} {Q : g_P} {M : g_M} {h0 : Nat} {h1 : Nat} {h2 : Nat} {D1 : Nat} (hD : D = D1 + 2) (h : g_Ev D 40 [.inr (1, h2)] M (fun q M' => g_R (D + 1) 64 Q 25 [.inr (12, h0), .inr (1, h1), .inr (1, h2)] (q ++ [.inl (M.1 7 (h0 + 1) 2), .inr (12, h0)]) M')) : g_R (D + 1) 64 Q 13 [.inr (12, h0), .inr (1, h1), .inr (1, h2)] [] M := by
  subst hD
  exact g_go hk_64 ⟨rfl, rfl⟩ (g_C_ok (g_F_ok (D := D1))) sp_64 7 h
set_option maxRecDepth 20000 in
theorem rg_64_25 {D : Nat} {Q : g_P} {M : g_M} {h0 : Nat} {h1 : Nat} {h2 : Nat} {s0 : Int} {s1 : Int} {q2 : Nat} {D1 : Nat} (hD : D = D1 + 2) (h : g_Ev D 56 [.inr (12, h0), .inl (0 : Int), .inl (0 : Int), .inl (0 : Int)] (g_uA M (12, q2) 4 (hm_or (hm_or s1 s0) (1 : Int))) (fun q M' => g_R (D + 1) 64 Q 38 [.inr (12, h0), .inr (1, h1), .inr (1, h2)] (q ++ []) M')) : g_R (D + 1) 64 Q 25 [.inr (12, h0), .inr (1, h1), .inr (1, h2)] [.inl s0, .inl s1, .inr (12, q2)] M := by
  subst hD
  exact g_go hk_64 ⟨rfl, rfl⟩ (g_C_ok (g_F_ok (D := D1))) sp_64 10 h
set_option maxRecDepth 20000 in
theorem rg_64_38 {D : Nat} {Q : g_P} {M : g_M} {h0 : Nat} {h1 : Nat} {h2 : Nat} {s0 : Int} {D1 : Nat} (hD : D = D1 + 2) (h : ((0 : Int) ≤ s0 ∧ s0 ≤ 1) ∧ (Q [.inl s0] M)) : g_R (D + 1) 64 Q 38 [.inr (12, h0), .inr (1, h1), .inr (1, h2)] [.inl s0] M := by
  subst hD
  exact g_go hk_64 ⟨rfl, rfl⟩ (g_C_ok (g_F_ok (D := D1))) sp_64 2 h
theorem hn_65 : 5 ≤ (hm_me 65).2.2.1 := by decide +kernel
/-- HeapLaw.step(IIII)I -/
def sp_65 (pc : Nat) : Option Nat := match pc with
  | 37 => some 5
  | 52 => some 5
  | 60 => some 5
  | _ => none
set_option maxRecDepth 20000 in
theorem rg_65_0 {D : Nat} {Q : g_P} {M : g_M} {x1 : Int} {x2 : Int} {x3 : Int} {x4 : Int} {D1 : Nat} (hD : D = D1 + 2) (h : ((0 ≤ x1 ∧ x1 < M.1 0 2 6) → (((1 : Int) = (0 : Int) → (Q [.inl (-1 : Int)] M)) ∧ (¬ (1 : Int) = (0 : Int) → ((((0 ≤ x2 ∧ x2 < 8) ∧ (0 < x3 ∧ x3 < 5) ∧ ((x2 = 0 ∨ 3 < x2) → (0 < x4 ∧ x4 < 5))) → ((¬ (1 : Int) = (0 : Int) → (((0 : Int) ≤ x1 ∧ x1 < 72) ∧ (g_Ev D 66 [.inr (0, 16), .inr (1, (12 + x1.toNat)), .inl x2, .inl x3, .inl x4] M (fun q M' => g_R (D + 1) 65 Q 37 [.inr (0, 2), .inl x1, .inl x2, .inl x3, .inl x4] (q ++ []) M')))) ∧ ((1 : Int) = (0 : Int) → (Q [.inl (-1 : Int)] M)))) ∧ (¬ ((0 ≤ x2 ∧ x2 < 8) ∧ (0 < x3 ∧ x3 < 5) ∧ ((x2 = 0 ∨ 3 < x2) → (0 < x4 ∧ x4 < 5))) → ((¬ (0 : Int) = (0 : Int) → (((0 : Int) ≤ x1 ∧ x1 < 72) ∧ (g_Ev D 66 [.inr (0, 16), .inr (1, (12 + x1.toNat)), .inl x2, .inl x3, .inl x4] M (fun q M' => g_R (D + 1) 65 Q 37 [.inr (0, 2), .inl x1, .inl x2, .inl x3, .inl x4] (q ++ []) M')))) ∧ ((0 : Int) = (0 : Int) → (Q [.inl (-1 : Int)] M)))))))) ∧ (¬ (0 ≤ x1 ∧ x1 < M.1 0 2 6) → (((0 : Int) = (0 : Int) → (Q [.inl (-1 : Int)] M)) ∧ (¬ (0 : Int) = (0 : Int) → ((((0 ≤ x2 ∧ x2 < 8) ∧ (0 < x3 ∧ x3 < 5) ∧ ((x2 = 0 ∨ 3 < x2) → (0 < x4 ∧ x4 < 5))) → ((¬ (1 : Int) = (0 : Int) → (((0 : Int) ≤ x1 ∧ x1 < 72) ∧ (g_Ev D 66 [.inr (0, 16), .inr (1, (12 + x1.toNat)), .inl x2, .inl x3, .inl x4] M (fun q M' => g_R (D + 1) 65 Q 37 [.inr (0, 2), .inl x1, .inl x2, .inl x3, .inl x4] (q ++ []) M')))) ∧ ((1 : Int) = (0 : Int) → (Q [.inl (-1 : Int)] M)))) ∧ (¬ ((0 ≤ x2 ∧ x2 < 8) ∧ (0 < x3 ∧ x3 < 5) ∧ ((x2 = 0 ∨ 3 < x2) → (0 < x4 ∧ x4 < 5))) → ((¬ (0 : Int) = (0 : Int) → (((0 : Int) ≤ x1 ∧ x1 < 72) ∧ (g_Ev D 66 [.inr (0, 16), .inr (1, (12 + x1.toNat)), .inl x2, .inl x3, .inl x4] M (fun q M' => g_R (D + 1) 65 Q 37 [.inr (0, 2), .inl x1, .inl x2, .inl x3, .inl x4] (q ++ []) M')))) ∧ ((0 : Int) = (0 : Int) → (Q [.inl (-1 : Int)] M))))))))) : g_R (D + 1) 65 Q 0 [.inr (0, 2), .inl x1, .inl x2, .inl x3, .inl x4] [] M := by
  subst hD
  exact g_go hk_65 ⟨rfl, rfl⟩ (g_C_ok (g_F_ok (D := D1))) sp_65 20 h
set_option maxRecDepth 20000 in
theorem rg_65_37 {D : Nat} {Q : g_P} {M : g_M} {x1 : Int} {x2 : Int} {x3 : Int} {x4 : Int} {D1 : Nat} (hD : D = D1 + 2) (h : g_Ev D 67 [.inr (0, 16), .inr (0, 3), .inl (M.1 0 2 6)] M (fun q M' => g_R (D + 1) 65 Q 52 [.inr (0, 2), .inl x1, .inl x2, .inl x3, .inl x4] (q ++ []) M')) : g_R (D + 1) 65 Q 37 [.inr (0, 2), .inl x1, .inl x2, .inl x3, .inl x4] [] M := by
  subst hD
  exact g_go hk_65 ⟨rfl, rfl⟩ (g_C_ok (g_F_ok (D := D1))) sp_65 8 h
set_option maxRecDepth 20000 in
theorem rg_65_52 {D : Nat} {Q : g_P} {M : g_M} {x1 : Int} {x2 : Int} {x3 : Int} {x4 : Int} {D1 : Nat} (hD : D = D1 + 2) (h : g_Ev D 68 [.inr (0, 16), .inl (0 : Int)] M (fun q M' => g_R (D + 1) 65 Q 60 [.inr (0, 2), .inl x1, .inl x2, .inl x3, .inl x4] (q ++ []) M')) : g_R (D + 1) 65 Q 52 [.inr (0, 2), .inl x1, .inl x2, .inl x3, .inl x4] [] M := by
  subst hD
  exact g_go hk_65 ⟨rfl, rfl⟩ (g_C_ok (g_F_ok (D := D1))) sp_65 5 h
set_option maxRecDepth 20000 in
theorem rg_65_60 {D : Nat} {Q : g_P} {M : g_M} {x1 : Int} {x2 : Int} {x3 : Int} {x4 : Int} {s0 : Int} {D1 : Nat} (hD : D = D1 + 2) (h : ((0 : Int) ≤ s0 → ((hm_in ((M.1 0 2 6) + (M.1 0 16 7))) ∧ (((M.1 0 2 6) + (M.1 0 16 7) ≤ (60 : Int) → ((hm_in ((M.1 0 2 6) + (M.1 0 16 7))) ∧ (Q [.inl (M.1 0 16 7)] (g_uA M (0, 2) 6 ((M.1 0 2 6) + (M.1 0 16 7)))))) ∧ ((60 : Int) < (M.1 0 2 6) + (M.1 0 16 7) → (Q [.inl (-2 : Int)] M))))) ∧ (s0 < (0 : Int) → (Q [.inl s0] M))) : g_R (D + 1) 65 Q 60 [.inr (0, 2), .inl x1, .inl x2, .inl x3, .inl x4] [.inl s0] M := by
  subst hD
  exact g_go hk_65 ⟨rfl, rfl⟩ (g_C_ok (g_F_ok (D := D1))) sp_65 22 h
theorem hn_66 : 5 ≤ (hm_me 66).2.2.1 := by decide +kernel
/-- HeapLaw$Stepper.start(LHeapLaw$Formula;III)V -/
def sp_66 (pc : Nat) : Option Nat := match pc with
  | 10 => some 5
  | _ => none
set_option maxRecDepth 20000 in
theorem rg_66_0 {D : Nat} {Q : g_P} {M : g_M} {h1 : Nat} {x2 : Int} {x3 : Int} {x4 : Int} {D1 : Nat} (hD : D = D1 + 2) (h : ((0 : Int) ≤ (0 : Int) ∧ (0 : Int) < 12) ∧ (g_Ev D 20 [.inr (1, (0 : Int).toNat), .inr (1, h1)] M (fun q M' => g_R (D + 1) 66 Q 10 [.inr (0, 16), .inr (1, h1), .inl x2, .inl x3, .inl x4] (q ++ []) M'))) : g_R (D + 1) 66 Q 0 [.inr (0, 16), .inr (1, h1), .inl x2, .inl x3, .inl x4] [] M := by
  subst hD
  exact g_go hk_66 ⟨rfl, rfl⟩ (g_C_ok (g_F_ok (D := D1))) sp_66 7 h
set_option maxRecDepth 20000 in
theorem rg_66_10 {D : Nat} {Q : g_P} {M : g_M} {h1 : Nat} {x2 : Int} {x3 : Int} {x4 : Int} {D1 : Nat} (hD : D = D1 + 2) (h : Q [] (g_uA (g_uA (g_uA M (0, 16) 4 x2) (0, 16) 5 x3) (0, 16) 6 x4)) : g_R (D + 1) 66 Q 10 [.inr (0, 16), .inr (1, h1), .inl x2, .inl x3, .inl x4] [] M := by
  subst hD
  exact g_go hk_66 ⟨rfl, rfl⟩ (g_C_ok (g_F_ok (D := D1))) sp_66 11 h
theorem hn_67 : 3 ≤ (hm_me 67).2.2.1 := by decide +kernel
/-- HeapLaw$Stepper.fillFrom([LHeapLaw$Formula;I)V -/
def sp_67 (pc : Nat) : Option Nat := match pc with
  | _ => none
set_option maxRecDepth 20000 in
theorem rg_67_0 {D : Nat} {Q : g_P} {M : g_M} {x2 : Int} {D1 : Nat} (hD : D = D1 + 2) (h : Q [] (g_uA (g_uA (g_uB M 2 (some 0)) (0, 16) 3 x2) (0, 16) 7 (0 : Int))) : g_R (D + 1) 67 Q 0 [.inr (0, 16), .inr (0, 3), .inl x2] [] M := by
  subst hD
  exact g_go hk_67 ⟨rfl, rfl⟩ (g_C_ok (g_F_ok (D := D1))) sp_67 11 h
theorem hn_68 : 2 ≤ (hm_me 68).2.2.1 := by decide +kernel
/-- HeapLaw$Stepper.goThrough(I)I -/
def sp_68 (pc : Nat) : Option Nat := match pc with
  | 15 => some 3
  | 61 => some 4
  | 70 => some 5
  | 85 => some 5
  | 91 => some 5
  | 134 => some 5
  | 146 => some 5
  | 171 => some 5
  | _ => none
set_option maxRecDepth 20000 in
theorem rg_68_0 {D : Nat} {Q : g_P} {M : g_M} {x1 : Int} {D1 : Nat} (hD : D = D1 + 2) (h : ((0 : Int) ≤ x1 ∧ x1 < 12) ∧ (g_Ev D 55 [.inr (12, 1), .inr (1, x1.toNat)] M (fun q M' => g_R (D + 1) 68 Q 15 [.inr (0, 16), .inl x1, .inr (1, x1.toNat)] (q ++ []) M'))) : g_R (D + 1) 68 Q 0 [.inr (0, 16), .inl x1] [] M := by
  subst hD
  exact g_go hk_68 ⟨rfl, rfl⟩ (g_C_ok (g_F_ok (D := D1))) sp_68 10 h
set_option maxRecDepth 20000 in
theorem rg_68_15 {D : Nat} {Q : g_P} {M : g_M} {x1 : Int} {h2 : Nat} {s0 : Int} {D1 : Nat} (hD : D = D1 + 2) (h : (¬ s0 = (0 : Int) → ((M.1 0 16 4 < (3 : Int) → ((hm_in ((M.1 0 16 3) + (M.1 0 16 7))) ∧ ((M.2 2 = none → (Q [.inl (-4 : Int)] M)) ∧ (∀ f104, M.2 2 = some f104 → ((M.2 2 = none → (False)) ∧ (∀ f113, M.2 2 = some f113 → (((M.1 0 16 3) + (M.1 0 16 7) < ((72 : Nat) : Int) → ((M.2 2 = none → (False)) ∧ (∀ f124, M.2 2 = some f124 → (((0 : Int) ≤ (M.1 0 16 3) + (M.1 0 16 7) ∧ (M.1 0 16 3) + (M.1 0 16 7) < 72) ∧ (g_Ev D 20 [.inr (1, (12 + ((M.1 0 16 3) + (M.1 0 16 7)).toNat)), .inr (1, h2)] M (fun q M' => g_R (D + 1) 68 Q 134 [.inr (0, 16), .inl x1, .inr (1, h2), .inl (-1 : Int), .inl ((M.1 0 16 3) + (M.1 0 16 7))] (q ++ []) M')))))) ∧ (((72 : Nat) : Int) ≤ (M.1 0 16 3) + (M.1 0 16 7) → (Q [.inl (-4 : Int)] M))))))))) ∧ ((3 : Int) ≤ M.1 0 16 4 → (((5 : Int) < M.1 0 16 4 → ((hm_in ((M.1 0 16 3) + (M.1 0 16 7))) ∧ ((M.2 2 = none → (Q [.inl (-4 : Int)] M)) ∧ (∀ f104, M.2 2 = some f104 → ((M.2 2 = none → (False)) ∧ (∀ f113, M.2 2 = some f113 → (((M.1 0 16 3) + (M.1 0 16 7) < ((72 : Nat) : Int) → ((M.2 2 = none → (False)) ∧ (∀ f124, M.2 2 = some f124 → (((0 : Int) ≤ (M.1 0 16 3) + (M.1 0 16 7) ∧ (M.1 0 16 3) + (M.1 0 16 7) < 72) ∧ (g_Ev D 20 [.inr (1, (12 + ((M.1 0 16 3) + (M.1 0 16 7)).toNat)), .inr (1, h2)] M (fun q M' => g_R (D + 1) 68 Q 134 [.inr (0, 16), .inl x1, .inr (1, h2), .inl (-1 : Int), .inl ((M.1 0 16 3) + (M.1 0 16 7))] (q ++ []) M')))))) ∧ (((72 : Nat) : Int) ≤ (M.1 0 16 3) + (M.1 0 16 7) → (Q [.inl (-4 : Int)] M))))))))) ∧ (M.1 0 16 4 ≤ (5 : Int) → ((¬ M.1 0 16 4 = (4 : Int) → (g_Ev D 69 [.inr (1, h2), .inl (M.1 0 16 5)] M (fun q M' => g_R (D + 1) 68 Q 61 [.inr (0, 16), .inl x1, .inr (1, h2), .inl (-1 : Int)] (q ++ []) M'))) ∧ (M.1 0 16 4 = (4 : Int) → (g_Ev D 69 [.inr (1, h2), .inl (M.1 0 16 6)] M (fun q M' => g_R (D + 1) 68 Q 61 [.inr (0, 16), .inl x1, .inr (1, h2), .inl (-1 : Int)] (q ++ []) M'))))))))) ∧ (s0 = (0 : Int) → (Q [.inl (0 : Int)] M))) : g_R (D + 1) 68 Q 15 [.inr (0, 16), .inl x1, .inr (1, h2)] [.inl s0] M := by
  subst hD
  exact g_go hk_68 ⟨rfl, rfl⟩ (g_C_ok (g_F_ok (D := D1))) sp_68 32 h
set_option maxRecDepth 20000 in
theorem rg_68_61 {D : Nat} {Q : g_P} {M : g_M} {x1 : Int} {h2 : Nat} {x3 : Int} {s0 : Int} {D1 : Nat} (hD : D = D1 + 2) (h : g_Ev D 70 [.inr (1, h2), .inl (2 : Int), .inl s0] M (fun q M' => g_R (D + 1) 68 Q 70 [.inr (0, 16), .inl x1, .inr (1, h2), .inl x3, .inl s0] (q ++ []) M')) : g_R (D + 1) 68 Q 61 [.inr (0, 16), .inl x1, .inr (1, h2), .inl x3] [.inl s0] M := by
  subst hD
  exact g_go hk_68 ⟨rfl, rfl⟩ (g_C_ok (g_F_ok (D := D1))) sp_68 6 h
set_option maxRecDepth 20000 in
theorem rg_68_70 {D : Nat} {Q : g_P} {M : g_M} {x1 : Int} {h2 : Nat} {x3 : Int} {x4 : Int} {s0 : Int} {D1 : Nat} (hD : D = D1 + 2) (h : (¬ s0 = (-1 : Int) → ((hm_in ((M.1 0 16 3) + (M.1 0 16 7))) ∧ ((M.2 2 = none → (Q [.inl (-4 : Int)] M)) ∧ (∀ f104, M.2 2 = some f104 → ((M.2 2 = none → (False)) ∧ (∀ f113, M.2 2 = some f113 → (((M.1 0 16 3) + (M.1 0 16 7) < ((72 : Nat) : Int) → ((M.2 2 = none → (False)) ∧ (∀ f124, M.2 2 = some f124 → (((0 : Int) ≤ (M.1 0 16 3) + (M.1 0 16 7) ∧ (M.1 0 16 3) + (M.1 0 16 7) < 72) ∧ (g_Ev D 20 [.inr (1, (12 + ((M.1 0 16 3) + (M.1 0 16 7)).toNat)), .inr (1, h2)] M (fun q M' => g_R (D + 1) 68 Q 134 [.inr (0, 16), .inl x1, .inr (1, h2), .inl s0, .inl ((M.1 0 16 3) + (M.1 0 16 7))] (q ++ []) M')))))) ∧ (((72 : Nat) : Int) ≤ (M.1 0 16 3) + (M.1 0 16 7) → (Q [.inl (-4 : Int)] M))))))))) ∧ (s0 = (-1 : Int) → (g_Ev D 70 [.inr (1, h2), .inl (3 : Int), .inl x4] M (fun q M' => g_R (D + 1) 68 Q 85 [.inr (0, 16), .inl x1, .inr (1, h2), .inl s0, .inl x4] (q ++ [.inr (1, h2), .inr (0, 16)]) M')))) : g_R (D + 1) 68 Q 70 [.inr (0, 16), .inl x1, .inr (1, h2), .inl x3, .inl x4] [.inl s0] M := by
  subst hD
  exact g_go hk_68 ⟨rfl, rfl⟩ (g_C_ok (g_F_ok (D := D1))) sp_68 25 h
set_option maxRecDepth 20000 in
theorem rg_68_85 {D : Nat} {Q : g_P} {M : g_M} {x1 : Int} {h2 : Nat} {x3 : Int} {x4 : Int} {s0 : Int} {q1 : Nat} {D1 : Nat} (hD : D = D1 + 2) (h : (hm_in (x1 + (1 : Int))) ∧ (g_Ev D 71 [.inr (0, 16), .inr (1, q1), .inl s0, .inl (x1 + (1 : Int))] M (fun q M' => g_R (D + 1) 68 Q 91 [.inr (0, 16), .inl x1, .inr (1, h2), .inl x3, .inl x4] (q ++ []) M'))) : g_R (D + 1) 68 Q 85 [.inr (0, 16), .inl x1, .inr (1, h2), .inl x3, .inl x4] [.inl s0, .inr (1, q1), .inr (0, 16)] M := by
  subst hD
  exact g_go hk_68 ⟨rfl, rfl⟩ (g_C_ok (g_F_ok (D := D1))) sp_68 5 h
set_option maxRecDepth 20000 in
theorem rg_68_91 {D : Nat} {Q : g_P} {M : g_M} {x1 : Int} {h2 : Nat} {x3 : Int} {x4 : Int} {s0 : Int} {D1 : Nat} (hD : D = D1 + 2) (h : Q [.inl s0] M) : g_R (D + 1) 68 Q 91 [.inr (0, 16), .inl x1, .inr (1, h2), .inl x3, .inl x4] [.inl s0] M := by
  subst hD
  exact g_go hk_68 ⟨rfl, rfl⟩ (g_C_ok (g_F_ok (D := D1))) sp_68 2 h
set_option maxRecDepth 20000 in
theorem rg_68_134 {D : Nat} {Q : g_P} {M : g_M} {x1 : Int} {h2 : Nat} {x3 : Int} {x4 : Int} {D1 : Nat} (hD : D = D1 + 2) (h : (M.2 2 = none → (False)) ∧ (∀ f136, M.2 2 = some f136 → (((0 : Int) ≤ x4 ∧ x4 < 72) ∧ (g_Ev D 77 [.inr (0, 16), .inr (1, (12 + x4.toNat)), .inl x3] M (fun q M' => g_R (D + 1) 68 Q 146 [.inr (0, 16), .inl x1, .inr (1, h2), .inl x3, .inl x4] (q ++ []) M'))))) : g_R (D + 1) 68 Q 134 [.inr (0, 16), .inl x1, .inr (1, h2), .inl x3, .inl x4] [] M := by
  subst hD
  exact g_go hk_68 ⟨rfl, rfl⟩ (g_C_ok (g_F_ok (D := D1))) sp_68 8 h
set_option maxRecDepth 20000 in
theorem rg_68_146 {D : Nat} {Q : g_P} {M : g_M} {x1 : Int} {h2 : Nat} {x3 : Int} {x4 : Int} {s0 : Int} {D1 : Nat} (hD : D = D1 + 2) (h : (¬ s0 = (0 : Int) → ((M.2 2 = none → (False)) ∧ (∀ f162, M.2 2 = some f162 → (((0 : Int) ≤ x4 ∧ x4 < 72) ∧ (g_Ev D 55 [.inr (12, 1), .inr (1, (12 + x4.toNat))] M (fun q M' => g_R (D + 1) 68 Q 171 [.inr (0, 16), .inl x1, .inr (1, h2), .inl x3, .inl x4] (q ++ [.inl (M.1 0 16 7), .inr (0, 16)]) M')))))) ∧ (s0 = (0 : Int) → (Q [.inl (-4 : Int)] M))) : g_R (D + 1) 68 Q 146 [.inr (0, 16), .inl x1, .inr (1, h2), .inl x3, .inl x4] [.inl s0] M := by
  subst hD
  exact g_go hk_68 ⟨rfl, rfl⟩ (g_C_ok (g_F_ok (D := D1))) sp_68 12 h
set_option maxRecDepth 20000 in
theorem rg_68_171 {D : Nat} {Q : g_P} {M : g_M} {x1 : Int} {h2 : Nat} {x3 : Int} {x4 : Int} {s0 : Int} {s1 : Int} {D1 : Nat} (hD : D = D1 + 2) (h : (s0 = (0 : Int) → ((hm_in (s1 + (0 : Int))) ∧ (Q [.inl (0 : Int)] (g_uA M (0, 16) 7 (s1 + (0 : Int)))))) ∧ (¬ s0 = (0 : Int) → ((hm_in (s1 + (1 : Int))) ∧ (Q [.inl (0 : Int)] (g_uA M (0, 16) 7 (s1 + (1 : Int))))))) : g_R (D + 1) 68 Q 171 [.inr (0, 16), .inl x1, .inr (1, h2), .inl x3, .inl x4] [.inl s0, .inl s1, .inr (0, 16)] M := by
  subst hD
  exact g_go hk_68 ⟨rfl, rfl⟩ (g_C_ok (g_F_ok (D := D1))) sp_68 8 h
theorem hn_69 : 2 ≤ (hm_me 69).2.2.1 := by decide +kernel
/-- HeapLaw$Formula.known(I)I -/
def sp_69 (pc : Nat) : Option Nat := match pc with
  | 6 => some 4
  | 15 => some 5
  | _ => none
set_option maxRecDepth 20000 in
theorem rg_69_0 {D : Nat} {Q : g_P} {M : g_M} {h0 : Nat} {x1 : Int} {D1 : Nat} (hD : D = D1 + 2) (h : g_R (D + 1) 69 Q 6 [.inr (1, h0), .inl x1, .inl (hm_shl (1 : Int) x1), .inl (1 : Int)] [] M) : g_R (D + 1) 69 Q 0 [.inr (1, h0), .inl x1] [] M := by
  subst hD
  exact g_go hk_69 ⟨rfl, rfl⟩ (g_C_ok (g_F_ok (D := D1))) sp_69 7 h
set_option maxRecDepth 20000 in
theorem rg_69_6 {D : Nat} {Q : g_P} {M : g_M} {h0 : Nat} {x1 : Int} {x2 : Int} {x3 : Int} {D1 : Nat} (hD : D = D1 + 2) (h : ((8 : Int) ≤ x3 → (Q [.inl x2] M)) ∧ (x3 < (8 : Int) → (g_R (D + 1) 69 Q 15 [.inr (1, h0), .inl x1, .inl x2, .inl x3, .inl (0 : Int)] [] M))) : g_R (D + 1) 69 Q 6 [.inr (1, h0), .inl x1, .inl x2, .inl x3] [] M := by
  subst hD
  exact g_go hk_69 ⟨rfl, rfl⟩ (g_C_ok (g_F_ok (D := D1))) sp_69 6 h
set_option maxRecDepth 20000 in
theorem rg_69_15 {D : Nat} {Q : g_P} {M : g_M} {h0 : Nat} {x1 : Int} {x2 : Int} {x3 : Int} {x4 : Int} {D1 : Nat} (hD : D = D1 + 2) (h : (M.1 1 h0 2 ≤ x4 → ((hm_in (x3 + (1 : Int))) ∧ (g_R (D + 1) 69 Q 6 [.inr (1, h0), .inl x1, .inl x2, .inl (x3 + (1 : Int))] [] M))) ∧ (x4 < M.1 1 h0 2 → (((0 : Int) ≤ x4 ∧ x4 < ((16 : Nat) : Int)) ∧ ((0 ≤ (M.1 2 h0 x4.toNat) ∧ (M.1 2 h0 x4.toNat) < 256) ∧ (((0 : Int) ≤ x4 ∧ x4 < ((16 : Nat) : Int)) ∧ ((0 ≤ (M.1 2 h0 x4.toNat) ∧ (M.1 2 h0 x4.toNat) < 256) ∧ (((0 : Int) ≤ x4 ∧ x4 < ((16 : Nat) : Int)) ∧ ((0 ≤ (M.1 2 h0 x4.toNat) ∧ (M.1 2 h0 x4.toNat) < 256) ∧ ((¬ (M.1 2 h0 x4.toNat) / 64 = (0 : Int) → ((hm_in (x4 + (1 : Int))) ∧ (g_R (D + 1) 69 Q 15 [.inr (1, h0), .inl x1, .inl x2, .inl x3, .inl (x4 + (1 : Int))] [] M))) ∧ ((M.1 2 h0 x4.toNat) / 64 = (0 : Int) → ((hm_and (hm_or (hm_shl (1 : Int) ((M.1 2 h0 x4.toNat) / 8 % 8)) (hm_shl (1 : Int) ((M.1 2 h0 x4.toNat) % 8))) x2 = (0 : Int) → ((hm_in (x4 + (1 : Int))) ∧ (g_R (D + 1) 69 Q 15 [.inr (1, h0), .inl x1, .inl x2, .inl x3, .inl (x4 + (1 : Int))] [] M))) ∧ (¬ hm_and (hm_or (hm_shl (1 : Int) ((M.1 2 h0 x4.toNat) / 8 % 8)) (hm_shl (1 : Int) ((M.1 2 h0 x4.toNat) % 8))) x2 = (0 : Int) → ((hm_in (x4 + (1 : Int))) ∧ (g_R (D + 1) 69 Q 15 [.inr (1, h0), .inl x1, .inl (hm_or x2 (hm_or (hm_shl (1 : Int) ((M.1 2 h0 x4.toNat) / 8 % 8)) (hm_shl (1 : Int) ((M.1 2 h0 x4.toNat) % 8)))), .inl x3, .inl (x4 + (1 : Int))] [] M)))))))))))))) : g_R (D + 1) 69 Q 15 [.inr (1, h0), .inl x1, .inl x2, .inl x3, .inl x4] [] M := by
  subst hD
  exact g_go hk_69 ⟨rfl, rfl⟩ (g_C_ok (g_F_ok (D := D1))) sp_69 37 h
theorem hn_70 : 3 ≤ (hm_me 70).2.2.1 := by decide +kernel
/-- HeapLaw$Formula.firstFrom(II)I -/
def sp_70 (pc : Nat) : Option Nat := match pc with
  | 2 => some 4
  | _ => none
set_option maxRecDepth 20000 in
theorem rg_70_0 {D : Nat} {Q : g_P} {M : g_M} {h0 : Nat} {x1 : Int} {x2 : Int} {D1 : Nat} (hD : D = D1 + 2) (h : g_R (D + 1) 70 Q 2 [.inr (1, h0), .inl x1, .inl x2, .inl (0 : Int)] [] M) : g_R (D + 1) 70 Q 0 [.inr (1, h0), .inl x1, .inl x2] [] M := by
  subst hD
  exact g_go hk_70 ⟨rfl, rfl⟩ (g_C_ok (g_F_ok (D := D1))) sp_70 3 h
set_option maxRecDepth 20000 in
theorem rg_70_2 {D : Nat} {Q : g_P} {M : g_M} {h0 : Nat} {x1 : Int} {x2 : Int} {x3 : Int} {D1 : Nat} (hD : D = D1 + 2) (h : (M.1 1 h0 3 ≤ x3 → (Q [.inl (-1 : Int)] M)) ∧ (x3 < M.1 1 h0 3 → (((0 : Int) ≤ x3 ∧ x3 < ((10 : Nat) : Int)) ∧ ((0 ≤ (M.1 3 h0 x3.toNat) ∧ (M.1 3 h0 x3.toNat) < 256) ∧ ((¬ (M.1 3 h0 x3.toNat) / 64 = x1 → ((hm_in (x3 + (1 : Int))) ∧ (g_R (D + 1) 70 Q 2 [.inr (1, h0), .inl x1, .inl x2, .inl (x3 + (1 : Int))] [] M))) ∧ ((M.1 3 h0 x3.toNat) / 64 = x1 → (((0 : Int) ≤ x3 ∧ x3 < ((10 : Nat) : Int)) ∧ ((0 ≤ (M.1 3 h0 x3.toNat) ∧ (M.1 3 h0 x3.toNat) < 256) ∧ (((0 ≤ x2 ∧ x2 < 1024) ∧ (0 ≤ ((M.1 3 h0 x3.toNat) / 8 % 8) ∧ ((M.1 3 h0 x3.toNat) / 8 % 8) < 10)) ∧ ((g_bit x2 ((M.1 3 h0 x3.toNat) / 8 % 8) → (((1 : Int) = (0 : Int) → ((hm_in (x3 + (1 : Int))) ∧ (g_R (D + 1) 70 Q 2 [.inr (1, h0), .inl x1, .inl x2, .inl (x3 + (1 : Int))] [] M))) ∧ (¬ (1 : Int) = (0 : Int) → (Q [.inl x3] M)))) ∧ (¬ g_bit x2 ((M.1 3 h0 x3.toNat) / 8 % 8) → (((0 : Int) = (0 : Int) → ((hm_in (x3 + (1 : Int))) ∧ (g_R (D + 1) 70 Q 2 [.inr (1, h0), .inl x1, .inl x2, .inl (x3 + (1 : Int))] [] M))) ∧ (¬ (0 : Int) = (0 : Int) → (Q [.inl x3] M)))))))))))))) : g_R (D + 1) 70 Q 2 [.inr (1, h0), .inl x1, .inl x2, .inl x3] [] M := by
  subst hD
  exact g_go hk_70 ⟨rfl, rfl⟩ (g_C_ok (g_F_ok (D := D1))) sp_70 22 h
theorem hn_71 : 4 ≤ (hm_me 71).2.2.1 := by decide +kernel
/-- HeapLaw$Stepper.open(LHeapLaw$Formula;II)I -/
def sp_71 (pc : Nat) : Option Nat := match pc with
  | 34 => some 5
  | 40 => some 5
  | 51 => some 5
  | 67 => some 6
  | 73 => some 6
  | 81 => some 6
  | _ => none
set_option maxRecDepth 20000 in
theorem rg_71_0 {D : Nat} {Q : g_P} {M : g_M} {h1 : Nat} {x2 : Int} {x3 : Int} {D1 : Nat} (hD : D = D1 + 2) (h : (¬ x2 = (-1 : Int) → ((x3 < ((12 : Nat) : Int) → (((0 : Int) ≤ x3 ∧ x3 < 12) ∧ (g_Ev D 20 [.inr (1, x3.toNat), .inr (1, h1)] M (fun q M' => g_R (D + 1) 71 Q 34 [.inr (0, 16), .inr (1, h1), .inl x2, .inl x3, .inr (1, x3.toNat)] (q ++ []) M')))) ∧ (((12 : Nat) : Int) ≤ x3 → (Q [.inl (-4 : Int)] M)))) ∧ (x2 = (-1 : Int) → (Q [.inl (-5 : Int)] M))) : g_R (D + 1) 71 Q 0 [.inr (0, 16), .inr (1, h1), .inl x2, .inl x3] [] M := by
  subst hD
  exact g_go hk_71 ⟨rfl, rfl⟩ (g_C_ok (g_F_ok (D := D1))) sp_71 17 h
set_option maxRecDepth 20000 in
theorem rg_71_34 {D : Nat} {Q : g_P} {M : g_M} {h1 : Nat} {x2 : Int} {x3 : Int} {h4 : Nat} {D1 : Nat} (hD : D = D1 + 2) (h : g_Ev D 72 [.inr (1, h4), .inl x2] M (fun q M' => g_R (D + 1) 71 Q 40 [.inr (0, 16), .inr (1, h1), .inl x2, .inl x3, .inr (1, h4)] (q ++ []) M')) : g_R (D + 1) 71 Q 34 [.inr (0, 16), .inr (1, h1), .inl x2, .inl x3, .inr (1, h4)] [] M := by
  subst hD
  exact g_go hk_71 ⟨rfl, rfl⟩ (g_C_ok (g_F_ok (D := D1))) sp_71 4 h
set_option maxRecDepth 20000 in
theorem rg_71_40 {D : Nat} {Q : g_P} {M : g_M} {h1 : Nat} {x2 : Int} {x3 : Int} {h4 : Nat} {s0 : Int} {D1 : Nat} (hD : D = D1 + 2) (h : (¬ s0 = (0 : Int) → (g_Ev D 68 [.inr (0, 16), .inl x3] M (fun q M' => g_R (D + 1) 71 Q 51 [.inr (0, 16), .inr (1, h1), .inl x2, .inl x3, .inr (1, h4)] (q ++ []) M'))) ∧ (s0 = (0 : Int) → (Q [.inl (-4 : Int)] M))) : g_R (D + 1) 71 Q 40 [.inr (0, 16), .inr (1, h1), .inl x2, .inl x3, .inr (1, h4)] [.inl s0] M := by
  subst hD
  exact g_go hk_71 ⟨rfl, rfl⟩ (g_C_ok (g_F_ok (D := D1))) sp_71 5 h
set_option maxRecDepth 20000 in
theorem rg_71_51 {D : Nat} {Q : g_P} {M : g_M} {h1 : Nat} {x2 : Int} {x3 : Int} {h4 : Nat} {s0 : Int} {D1 : Nat} (hD : D = D1 + 2) (h : ((0 : Int) ≤ s0 → (g_Ev D 20 [.inr (1, h4), .inr (1, h1)] M (fun q M' => g_R (D + 1) 71 Q 67 [.inr (0, 16), .inr (1, h1), .inl x2, .inl x3, .inr (1, h4), .inl s0] (q ++ []) M'))) ∧ (s0 < (0 : Int) → (Q [.inl s0] M))) : g_R (D + 1) 71 Q 51 [.inr (0, 16), .inr (1, h1), .inl x2, .inl x3, .inr (1, h4)] [.inl s0] M := by
  subst hD
  exact g_go hk_71 ⟨rfl, rfl⟩ (g_C_ok (g_F_ok (D := D1))) sp_71 7 h
set_option maxRecDepth 20000 in
theorem rg_71_67 {D : Nat} {Q : g_P} {M : g_M} {h1 : Nat} {x2 : Int} {x3 : Int} {h4 : Nat} {x5 : Int} {D1 : Nat} (hD : D = D1 + 2) (h : g_Ev D 75 [.inr (1, h4), .inl x2] M (fun q M' => g_R (D + 1) 71 Q 73 [.inr (0, 16), .inr (1, h1), .inl x2, .inl x3, .inr (1, h4), .inl x5] (q ++ []) M')) : g_R (D + 1) 71 Q 67 [.inr (0, 16), .inr (1, h1), .inl x2, .inl x3, .inr (1, h4), .inl x5] [] M := by
  subst hD
  exact g_go hk_71 ⟨rfl, rfl⟩ (g_C_ok (g_F_ok (D := D1))) sp_71 4 h
set_option maxRecDepth 20000 in
theorem rg_71_73 {D : Nat} {Q : g_P} {M : g_M} {h1 : Nat} {x2 : Int} {x3 : Int} {h4 : Nat} {x5 : Int} {s0 : Int} {D1 : Nat} (hD : D = D1 + 2) (h : (s0 = (0 : Int) → (Q [.inl (-4 : Int)] M)) ∧ (¬ s0 = (0 : Int) → (g_Ev D 68 [.inr (0, 16), .inl x3] M (fun q M' => g_R (D + 1) 71 Q 81 [.inr (0, 16), .inr (1, h1), .inl x2, .inl x3, .inr (1, h4), .inl x5] (q ++ []) M')))) : g_R (D + 1) 71 Q 73 [.inr (0, 16), .inr (1, h1), .inl x2, .inl x3, .inr (1, h4), .inl x5] [.inl s0] M := by
  subst hD
  exact g_go hk_71 ⟨rfl, rfl⟩ (g_C_ok (g_F_ok (D := D1))) sp_71 5 h
set_option maxRecDepth 20000 in
theorem rg_71_81 {D : Nat} {Q : g_P} {M : g_M} {h1 : Nat} {x2 : Int} {x3 : Int} {h4 : Nat} {x5 : Int} {s0 : Int} {D1 : Nat} (hD : D = D1 + 2) (h : Q [.inl s0] M) : g_R (D + 1) 71 Q 81 [.inr (0, 16), .inr (1, h1), .inl x2, .inl x3, .inr (1, h4), .inl x5] [.inl s0] M := by
  subst hD
  exact g_go hk_71 ⟨rfl, rfl⟩ (g_C_ok (g_F_ok (D := D1))) sp_71 3 h
theorem hn_72 : 2 ≤ (hm_me 72).2.2.1 := by decide +kernel
/-- HeapLaw$Stepper.makeEmpty(LHeapLaw$Formula;I)Z -/
def sp_72 (pc : Nat) : Option Nat := match pc with
  | 12 => some 3
  | 28 => some 3
  | _ => none
set_option maxRecDepth 20000 in
theorem rg_72_0 {D : Nat} {Q : g_P} {M : g_M} {h0 : Nat} {x1 : Int} {D1 : Nat} (hD : D = D1 + 2) (h : ((0 : Int) ≤ x1 ∧ x1 < ((10 : Nat) : Int)) ∧ (g_Ev D 73 [.inr (1, h0), .inl x1] M (fun q M' => g_R (D + 1) 72 Q 12 [.inr (1, h0), .inl x1, .inl (M.1 3 h0 x1.toNat)] (q ++ []) M'))) : g_R (D + 1) 72 Q 0 [.inr (1, h0), .inl x1] [] M := by
  subst hD
  exact g_go hk_72 ⟨rfl, rfl⟩ (g_C_ok (g_F_ok (D := D1))) sp_72 9 h
set_option maxRecDepth 20000 in
theorem rg_72_12 {D : Nat} {Q : g_P} {M : g_M} {h0 : Nat} {x1 : Int} {x2 : Int} {D1 : Nat} (hD : D = D1 + 2) (h : (0 ≤ x2 ∧ x2 < 256) ∧ ((0 ≤ x2 ∧ x2 < 256) ∧ (((0 ≤ (0 : Int) ∧ (0 : Int) < 4) ∧ (0 ≤ (x2 / 8 % 8) ∧ (x2 / 8 % 8) < 8) ∧ (0 ≤ (x2 % 8) ∧ (x2 % 8) < 8)) ∧ (g_Ev D 74 [.inr (1, h0), .inl (64 * (0 : Int) + 8 * (x2 / 8 % 8) + (x2 % 8))] M (fun q M' => g_R (D + 1) 72 Q 28 [.inr (1, h0), .inl x1, .inl x2] (q ++ []) M'))))) : g_R (D + 1) 72 Q 12 [.inr (1, h0), .inl x1, .inl x2] [] M := by
  subst hD
  exact g_go hk_72 ⟨rfl, rfl⟩ (g_C_ok (g_F_ok (D := D1))) sp_72 9 h
set_option maxRecDepth 20000 in
theorem rg_72_28 {D : Nat} {Q : g_P} {M : g_M} {h0 : Nat} {x1 : Int} {x2 : Int} {s0 : Int} {D1 : Nat} (hD : D = D1 + 2) (h : ((0 : Int) ≤ s0 ∧ s0 ≤ 1) ∧ (Q [.inl s0] M)) : g_R (D + 1) 72 Q 28 [.inr (1, h0), .inl x1, .inl x2] [.inl s0] M := by
  subst hD
  exact g_go hk_72 ⟨rfl, rfl⟩ (g_C_ok (g_F_ok (D := D1))) sp_72 2 h
theorem hn_73 : 2 ≤ (hm_me 73).2.2.1 := by decide +kernel
/-- HeapLaw$Formula.removePart(I)V -/
def sp_73 (pc : Nat) : Option Nat := match pc with
  | 25 => some 3
  | _ => none
set_option maxRecDepth 20000 in
theorem rg_73_0 {D : Nat} {Q : g_P} {M : g_M} {h0 : Nat} {x1 : Int} {D1 : Nat} (hD : D = D1 + 2) (h : (x1 < (0 : Int) → (Q [] M)) ∧ ((0 : Int) ≤ x1 → ((x1 < M.1 1 h0 3 → ((hm_in ((M.1 1 h0 3) - (1 : Int))) ∧ (g_R (D + 1) 73 Q 25 [.inr (1, h0), .inl x1, .inl x1] [] (g_uA M (1, h0) 3 ((M.1 1 h0 3) - (1 : Int)))))) ∧ (M.1 1 h0 3 ≤ x1 → (Q [] M))))) : g_R (D + 1) 73 Q 0 [.inr (1, h0), .inl x1] [] M := by
  subst hD
  exact g_go hk_73 ⟨rfl, rfl⟩ (g_C_ok (g_F_ok (D := D1))) sp_73 15 h
set_option maxRecDepth 20000 in
theorem rg_73_25 {D : Nat} {Q : g_P} {M : g_M} {h0 : Nat} {x1 : Int} {x2 : Int} {D1 : Nat} (hD : D = D1 + 2) (h : (M.1 1 h0 3 ≤ x2 → (Q [] M)) ∧ (x2 < M.1 1 h0 3 → ((hm_in (x2 + (1 : Int))) ∧ (((0 : Int) ≤ x2 + (1 : Int) ∧ x2 + (1 : Int) < ((10 : Nat) : Int)) ∧ (((0 : Int) ≤ x2 ∧ x2 < ((10 : Nat) : Int)) ∧ ((hm_in (x2 + (1 : Int))) ∧ (g_R (D + 1) 73 Q 25 [.inr (1, h0), .inl x1, .inl (x2 + (1 : Int))] [] (g_uA M (3, h0) x2.toNat (M.1 3 h0 (x2 + (1 : Int)).toNat))))))))) : g_R (D + 1) 73 Q 25 [.inr (1, h0), .inl x1, .inl x2] [] M := by
  subst hD
  exact g_go hk_73 ⟨rfl, rfl⟩ (g_C_ok (g_F_ok (D := D1))) sp_73 17 h
theorem hn_74 : 2 ≤ (hm_me 74).2.2.1 := by decide +kernel
/-- HeapLaw$Formula.putPure(I)Z -/
def sp_74 (pc : Nat) : Option Nat := match pc with
  | 2 => some 3
  | 33 => some 3
  | _ => none
set_option maxRecDepth 20000 in
theorem rg_74_0 {D : Nat} {Q : g_P} {M : g_M} {h0 : Nat} {x1 : Int} {D1 : Nat} (hD : D = D1 + 2) (h : g_R (D + 1) 74 Q 2 [.inr (1, h0), .inl x1, .inl (0 : Int)] [] M) : g_R (D + 1) 74 Q 0 [.inr (1, h0), .inl x1] [] M := by
  subst hD
  exact g_go hk_74 ⟨rfl, rfl⟩ (g_C_ok (g_F_ok (D := D1))) sp_74 3 h
set_option maxRecDepth 20000 in
theorem rg_74_2 {D : Nat} {Q : g_P} {M : g_M} {h0 : Nat} {x1 : Int} {x2 : Int} {D1 : Nat} (hD : D = D1 + 2) (h : (M.1 1 h0 2 ≤ x2 → (g_Ev D 15 [.inr (1, h0), .inl x1] M (fun q M' => g_R (D + 1) 74 Q 33 [.inr (1, h0), .inl x1, .inl x2] (q ++ []) M'))) ∧ (x2 < M.1 1 h0 2 → (((0 : Int) ≤ x2 ∧ x2 < ((16 : Nat) : Int)) ∧ ((¬ M.1 2 h0 x2.toNat = x1 → ((hm_in (x2 + (1 : Int))) ∧ (g_R (D + 1) 74 Q 2 [.inr (1, h0), .inl x1, .inl (x2 + (1 : Int))] [] M))) ∧ (M.1 2 h0 x2.toNat = x1 → (((0 : Int) ≤ (1 : Int) ∧ (1 : Int) ≤ 1) ∧ (Q [.inl (1 : Int)] M))))))) : g_R (D + 1) 74 Q 2 [.inr (1, h0), .inl x1, .inl x2] [] M := by
  subst hD
  exact g_go hk_74 ⟨rfl, rfl⟩ (g_C_ok (g_F_ok (D := D1))) sp_74 13 h
set_option maxRecDepth 20000 in
theorem rg_74_33 {D : Nat} {Q : g_P} {M : g_M} {h0 : Nat} {x1 : Int} {x2 : Int} {s0 : Int} {D1 : Nat} (hD : D = D1 + 2) (h : ((0 : Int) ≤ s0 ∧ s0 ≤ 1) ∧ (Q [.inl s0] M)) : g_R (D + 1) 74 Q 33 [.inr (1, h0), .inl x1, .inl x2] [.inl s0] M := by
  subst hD
  exact g_go hk_74 ⟨rfl, rfl⟩ (g_C_ok (g_F_ok (D := D1))) sp_74 2 h
theorem hn_75 : 2 ≤ (hm_me 75).2.2.1 := by decide +kernel
/-- HeapLaw$Stepper.makeLonger(LHeapLaw$Formula;I)Z -/
def sp_75 (pc : Nat) : Option Nat := match pc with
  | 11 => some 3
  | 53 => some 4
  | 72 => some 4
  | _ => none
set_option maxRecDepth 20000 in
theorem rg_75_0 {D : Nat} {Q : g_P} {M : g_M} {h0 : Nat} {x1 : Int} {D1 : Nat} (hD : D = D1 + 2) (h : ((0 : Int) ≤ x1 ∧ x1 < ((10 : Nat) : Int)) ∧ (g_Ev D 40 [.inr (1, h0)] M (fun q M' => g_R (D + 1) 75 Q 11 [.inr (1, h0), .inl x1, .inl (M.1 3 h0 x1.toNat)] (q ++ []) M'))) : g_R (D + 1) 75 Q 0 [.inr (1, h0), .inl x1] [] M := by
  subst hD
  exact g_go hk_75 ⟨rfl, rfl⟩ (g_C_ok (g_F_ok (D := D1))) sp_75 8 h
set_option maxRecDepth 20000 in
theorem rg_75_11 {D : Nat} {Q : g_P} {M : g_M} {h0 : Nat} {x1 : Int} {x2 : Int} {s0 : Int} {D1 : Nat} (hD : D = D1 + 2) (h : (0 ≤ s0 ∧ s0 < 256) ∧ ((¬ g_spare s0 = (-1 : Int) → ((0 ≤ x2 ∧ x2 < 256) ∧ (((0 ≤ (2 : Int) ∧ (2 : Int) < 4) ∧ (0 ≤ (x2 / 8 % 8) ∧ (x2 / 8 % 8) < 8) ∧ (0 ≤ (g_spare s0) ∧ (g_spare s0) < 8)) ∧ (((0 : Int) ≤ x1 ∧ x1 < ((10 : Nat) : Int)) ∧ ((hm_in (x1 + (1 : Int))) ∧ ((0 ≤ x2 ∧ x2 < 256) ∧ (((0 ≤ (3 : Int) ∧ (3 : Int) < 4) ∧ (0 ≤ (g_spare s0) ∧ (g_spare s0) < 8) ∧ (0 ≤ (x2 % 8) ∧ (x2 % 8) < 8)) ∧ (g_Ev D 18 [.inr (1, h0), .inl (x1 + (1 : Int)), .inl (64 * (3 : Int) + 8 * (g_spare s0) + (x2 % 8))] (g_uA M (3, h0) x1.toNat (64 * (2 : Int) + 8 * (x2 / 8 % 8) + (g_spare s0))) (fun q M' => g_R (D + 1) 75 Q 53 [.inr (1, h0), .inl x1, .inl x2, .inl (g_spare s0)] (q ++ []) M'))))))))) ∧ (g_spare s0 = (-1 : Int) → (((0 : Int) ≤ (0 : Int) ∧ (0 : Int) ≤ 1) ∧ (Q [.inl (0 : Int)] M))))) : g_R (D + 1) 75 Q 11 [.inr (1, h0), .inl x1, .inl x2] [.inl s0] M := by
  subst hD
  exact g_go hk_75 ⟨rfl, rfl⟩ (g_C_ok (g_F_ok (D := D1))) sp_75 25 h
set_option maxRecDepth 20000 in
theorem rg_75_53 {D : Nat} {Q : g_P} {M : g_M} {h0 : Nat} {x1 : Int} {x2 : Int} {x3 : Int} {s0 : Int} {D1 : Nat} (hD : D = D1 + 2) (h : (s0 = (0 : Int) → (((0 : Int) ≤ (0 : Int) ∧ (0 : Int) ≤ 1) ∧ (Q [.inl (0 : Int)] M))) ∧ (¬ s0 = (0 : Int) → ((0 ≤ x2 ∧ x2 < 256) ∧ ((0 ≤ x2 ∧ x2 < 256) ∧ (((0 ≤ (1 : Int) ∧ (1 : Int) < 4) ∧ (0 ≤ (x2 / 8 % 8) ∧ (x2 / 8 % 8) < 8) ∧ (0 ≤ (x2 % 8) ∧ (x2 % 8) < 8)) ∧ (g_Ev D 74 [.inr (1, h0), .inl (64 * (1 : Int) + 8 * (x2 / 8 % 8) + (x2 % 8))] M (fun q M' => g_R (D + 1) 75 Q 72 [.inr (1, h0), .inl x1, .inl x2, .inl x3] (q ++ []) M'))))))) : g_R (D + 1) 75 Q 53 [.inr (1, h0), .inl x1, .inl x2, .inl x3] [.inl s0] M := by
  subst hD
  exact g_go hk_75 ⟨rfl, rfl⟩ (g_C_ok (g_F_ok (D := D1))) sp_75 10 h
set_option maxRecDepth 20000 in
theorem rg_75_72 {D : Nat} {Q : g_P} {M : g_M} {h0 : Nat} {x1 : Int} {x2 : Int} {x3 : Int} {s0 : Int} {D1 : Nat} (hD : D = D1 + 2) (h : (s0 = (0 : Int) → (((0 : Int) ≤ (0 : Int) ∧ (0 : Int) ≤ 1) ∧ (Q [.inl (0 : Int)] M))) ∧ (¬ s0 = (0 : Int) → (((0 : Int) ≤ (1 : Int) ∧ (1 : Int) ≤ 1) ∧ (Q [.inl (1 : Int)] M)))) : g_R (D + 1) 75 Q 72 [.inr (1, h0), .inl x1, .inl x2, .inl x3] [.inl s0] M := by
  subst hD
  exact g_go hk_75 ⟨rfl, rfl⟩ (g_C_ok (g_F_ok (D := D1))) sp_75 5 h
theorem hn_77 : 3 ≤ (hm_me 77).2.2.1 := by decide +kernel
/-- HeapLaw$Stepper.change(LHeapLaw$Formula;I)Z -/
def sp_77 (pc : Nat) : Option Nat := match pc with
  | 68 => some 3
  | 83 => some 3
  | 89 => some 3
  | 95 => some 3
  | 111 => some 3
  | 153 => some 3
  | 170 => some 3
  | _ => none
set_option maxRecDepth 20000 in
theorem rg_77_0 {D : Nat} {Q : g_P} {M : g_M} {h1 : Nat} {x2 : Int} {D1 : Nat} (hD : D = D1 + 2) (h : ((M.1 0 16 4 < 0 ∨ 6 < M.1 0 16 4) → (((0 ≤ (1 : Int) ∧ (1 : Int) < 4) ∧ (0 ≤ (M.1 0 16 5) ∧ (M.1 0 16 5) < 8) ∧ (0 ≤ (M.1 0 16 6) ∧ (M.1 0 16 6) < 8)) ∧ (g_Ev D 74 [.inr (1, h1), .inl (64 * (1 : Int) + 8 * (M.1 0 16 5) + (M.1 0 16 6))] M (fun q M' => g_R (D + 1) 77 Q 170 [.inr (0, 16), .inr (1, h1), .inl x2] (q ++ []) M')))) ∧ ((M.1 0 16 4 = 0 → ((M.1 0 16 5 = M.1 0 16 6 → (((0 : Int) ≤ (1 : Int) ∧ (1 : Int) ≤ 1) ∧ (Q [.inl (1 : Int)] M))) ∧ (¬ M.1 0 16 5 = M.1 0 16 6 → (g_Ev D 78 [.inr (0, 16), .inr (1, h1), .inl (M.1 0 16 6)] M (fun q M' => g_R (D + 1) 77 Q 68 [.inr (0, 16), .inr (1, h1), .inl x2] (q ++ []) M'))))) ∧ ((M.1 0 16 4 = 1 → (g_Ev D 78 [.inr (0, 16), .inr (1, h1), .inl (0 : Int)] M (fun q M' => g_R (D + 1) 77 Q 83 [.inr (0, 16), .inr (1, h1), .inl x2] (q ++ []) M'))) ∧ ((M.1 0 16 4 = 2 → (g_Ev D 82 [.inr (0, 16), .inr (1, h1)] M (fun q M' => g_R (D + 1) 77 Q 89 [.inr (0, 16), .inr (1, h1), .inl x2] (q ++ []) M'))) ∧ ((M.1 0 16 4 = 3 → (g_Ev D 73 [.inr (1, h1), .inl x2] M (fun q M' => g_R (D + 1) 77 Q 95 [.inr (0, 16), .inr (1, h1), .inl x2] (q ++ []) M'))) ∧ ((M.1 0 16 4 = 4 → (((0 : Int) ≤ x2 ∧ x2 < ((10 : Nat) : Int)) ∧ ((0 ≤ (M.1 3 h1 x2.toNat) ∧ (M.1 3 h1 x2.toNat) < 256) ∧ (g_Ev D 78 [.inr (0, 16), .inr (1, h1), .inl ((M.1 3 h1 x2.toNat) % 8)] M (fun q M' => g_R (D + 1) 77 Q 111 [.inr (0, 16), .inr (1, h1), .inl x2] (q ++ []) M'))))) ∧ ((M.1 0 16 4 = 5 → (((0 : Int) ≤ x2 ∧ x2 < ((10 : Nat) : Int)) ∧ ((0 ≤ (M.1 3 h1 x2.toNat) ∧ (M.1 3 h1 x2.toNat) < 256) ∧ (((0 ≤ (2 : Int) ∧ (2 : Int) < 4) ∧ (0 ≤ ((M.1 3 h1 x2.toNat) / 8 % 8) ∧ ((M.1 3 h1 x2.toNat) / 8 % 8) < 8) ∧ (0 ≤ (M.1 0 16 6) ∧ (M.1 0 16 6) < 8)) ∧ (((0 : Int) ≤ x2 ∧ x2 < ((10 : Nat) : Int)) ∧ (((0 : Int) ≤ (1 : Int) ∧ (1 : Int) ≤ 1) ∧ (Q [.inl (1 : Int)] (g_uA M (3, h1) x2.toNat (64 * (2 : Int) + 8 * ((M.1 3 h1 x2.toNat) / 8 % 8) + (M.1 0 16 6)))))))))) ∧ ((M.1 0 16 4 = 6 → (((0 ≤ (0 : Int) ∧ (0 : Int) < 4) ∧ (0 ≤ (M.1 0 16 5) ∧ (M.1 0 16 5) < 8) ∧ (0 ≤ (M.1 0 16 6) ∧ (M.1 0 16 6) < 8)) ∧ (g_Ev D 74 [.inr (1, h1), .inl (64 * (0 : Int) + 8 * (M.1 0 16 5) + (M.1 0 16 6))] M (fun q M' => g_R (D + 1) 77 Q 153 [.inr (0, 16), .inr (1, h1), .inl x2] (q ++ []) M')))) ∧ (True))))))))) : g_R (D + 1) 77 Q 0 [.inr (0, 16), .inr (1, h1), .inl x2] [] M := by
  subst hD
  exact g_go hk_77 ⟨rfl, rfl⟩ (g_C_ok (g_F_ok (D := D1))) sp_77 19 h
set_option maxRecDepth 20000 in
theorem rg_77_68 {D : Nat} {Q : g_P} {M : g_M} {h1 : Nat} {x2 : Int} {s0 : Int} {D1 : Nat} (hD : D = D1 + 2) (h : (s0 = (0 : Int) → (((0 : Int) ≤ (0 : Int) ∧ (0 : Int) ≤ 1) ∧ (Q [.inl (0 : Int)] M))) ∧ (¬ s0 = (0 : Int) → (((0 : Int) ≤ (1 : Int) ∧ (1 : Int) ≤ 1) ∧ (Q [.inl (1 : Int)] M)))) : g_R (D + 1) 77 Q 68 [.inr (0, 16), .inr (1, h1), .inl x2] [.inl s0] M := by
  subst hD
  exact g_go hk_77 ⟨rfl, rfl⟩ (g_C_ok (g_F_ok (D := D1))) sp_77 5 h
set_option maxRecDepth 20000 in
theorem rg_77_83 {D : Nat} {Q : g_P} {M : g_M} {h1 : Nat} {x2 : Int} {s0 : Int} {D1 : Nat} (hD : D = D1 + 2) (h : ((0 : Int) ≤ s0 ∧ s0 ≤ 1) ∧ (Q [.inl s0] M)) : g_R (D + 1) 77 Q 83 [.inr (0, 16), .inr (1, h1), .inl x2] [.inl s0] M := by
  subst hD
  exact g_go hk_77 ⟨rfl, rfl⟩ (g_C_ok (g_F_ok (D := D1))) sp_77 2 h
set_option maxRecDepth 20000 in
theorem rg_77_89 {D : Nat} {Q : g_P} {M : g_M} {h1 : Nat} {x2 : Int} {s0 : Int} {D1 : Nat} (hD : D = D1 + 2) (h : ((0 : Int) ≤ s0 ∧ s0 ≤ 1) ∧ (Q [.inl s0] M)) : g_R (D + 1) 77 Q 89 [.inr (0, 16), .inr (1, h1), .inl x2] [.inl s0] M := by
  subst hD
  exact g_go hk_77 ⟨rfl, rfl⟩ (g_C_ok (g_F_ok (D := D1))) sp_77 2 h
set_option maxRecDepth 20000 in
theorem rg_77_95 {D : Nat} {Q : g_P} {M : g_M} {h1 : Nat} {x2 : Int} {D1 : Nat} (hD : D = D1 + 2) (h : ((0 : Int) ≤ (1 : Int) ∧ (1 : Int) ≤ 1) ∧ (Q [.inl (1 : Int)] M)) : g_R (D + 1) 77 Q 95 [.inr (0, 16), .inr (1, h1), .inl x2] [] M := by
  subst hD
  exact g_go hk_77 ⟨rfl, rfl⟩ (g_C_ok (g_F_ok (D := D1))) sp_77 3 h
set_option maxRecDepth 20000 in
theorem rg_77_111 {D : Nat} {Q : g_P} {M : g_M} {h1 : Nat} {x2 : Int} {s0 : Int} {D1 : Nat} (hD : D = D1 + 2) (h : ((0 : Int) ≤ s0 ∧ s0 ≤ 1) ∧ (Q [.inl s0] M)) : g_R (D + 1) 77 Q 111 [.inr (0, 16), .inr (1, h1), .inl x2] [.inl s0] M := by
  subst hD
  exact g_go hk_77 ⟨rfl, rfl⟩ (g_C_ok (g_F_ok (D := D1))) sp_77 2 h
set_option maxRecDepth 20000 in
theorem rg_77_153 {D : Nat} {Q : g_P} {M : g_M} {h1 : Nat} {x2 : Int} {s0 : Int} {D1 : Nat} (hD : D = D1 + 2) (h : ((0 : Int) ≤ s0 ∧ s0 ≤ 1) ∧ (Q [.inl s0] M)) : g_R (D + 1) 77 Q 153 [.inr (0, 16), .inr (1, h1), .inl x2] [.inl s0] M := by
  subst hD
  exact g_go hk_77 ⟨rfl, rfl⟩ (g_C_ok (g_F_ok (D := D1))) sp_77 2 h
set_option maxRecDepth 20000 in
theorem rg_77_170 {D : Nat} {Q : g_P} {M : g_M} {h1 : Nat} {x2 : Int} {s0 : Int} {D1 : Nat} (hD : D = D1 + 2) (h : ((0 : Int) ≤ s0 ∧ s0 ≤ 1) ∧ (Q [.inl s0] M)) : g_R (D + 1) 77 Q 170 [.inr (0, 16), .inr (1, h1), .inl x2] [.inl s0] M := by
  subst hD
  exact g_go hk_77 ⟨rfl, rfl⟩ (g_C_ok (g_F_ok (D := D1))) sp_77 2 h

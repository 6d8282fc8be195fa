/-! REGIONS of the code, by wip/gen/gen17.py -/
theorem hn_78 : 3 ≤ (hm_me 78).2.2.1 := by decide +kernel
/-- HeapLaw$Stepper.become(LHeapLaw$Formula;I)Z -/
def sp_78 (pc : Nat) : Option Nat := match pc with
  | 5 => some 3
  | 36 => some 4
  | _ => none
set_option maxRecDepth 20000 in
theorem rg_78_0 {D : Nat} {Q : g_P} {M : g_M} {h1 : Nat} {x2 : Int} {D1 : Nat} (hD : D = D1 + 2) (h : g_Ev D 79 [.inr (0, 16), .inr (1, h1)] M (fun q M' => g_R (D + 1) 78 Q 5 [.inr (0, 16), .inr (1, h1), .inl x2] (q ++ []) M')) : g_R (D + 1) 78 Q 0 [.inr (0, 16), .inr (1, h1), .inl x2] [] M := by
  subst hD
  exact g_go hk_78 ⟨rfl, rfl⟩ (g_C_ok (g_F_ok (D := D1))) sp_78 4 h
set_option maxRecDepth 20000 in
theorem rg_78_5 {D : Nat} {Q : g_P} {M : g_M} {h1 : Nat} {x2 : Int} {s0 : Int} {D1 : Nat} (hD : D = D1 + 2) (h : (s0 = (-1 : Int) → (((0 : Int) ≤ (0 : Int) ∧ (0 : Int) ≤ 1) ∧ (Q [.inl (0 : Int)] M))) ∧ (¬ s0 = (-1 : Int) → ((¬ x2 = M.1 0 16 5 → (((0 ≤ (0 : Int) ∧ (0 : Int) < 4) ∧ (0 ≤ (M.1 0 16 5) ∧ (M.1 0 16 5) < 8) ∧ (0 ≤ x2 ∧ x2 < 8)) ∧ (g_Ev D 74 [.inr (1, h1), .inl (64 * (0 : Int) + 8 * (M.1 0 16 5) + x2)] M (fun q M' => g_R (D + 1) 78 Q 36 [.inr (0, 16), .inr (1, h1), .inl x2, .inl s0] (q ++ []) M')))) ∧ (x2 = M.1 0 16 5 → (((0 ≤ (0 : Int) ∧ (0 : Int) < 4) ∧ (0 ≤ (M.1 0 16 5) ∧ (M.1 0 16 5) < 8) ∧ (0 ≤ s0 ∧ s0 < 8)) ∧ (g_Ev D 74 [.inr (1, h1), .inl (64 * (0 : Int) + 8 * (M.1 0 16 5) + s0)] M (fun q M' => g_R (D + 1) 78 Q 36 [.inr (0, 16), .inr (1, h1), .inl x2, .inl s0] (q ++ []) M'))))))) : g_R (D + 1) 78 Q 5 [.inr (0, 16), .inr (1, h1), .inl x2] [.inl s0] M := by
  subst hD
  exact g_go hk_78 ⟨rfl, rfl⟩ (g_C_ok (g_F_ok (D := D1))) sp_78 17 h
set_option maxRecDepth 20000 in
theorem rg_78_36 {D : Nat} {Q : g_P} {M : g_M} {h1 : Nat} {x2 : Int} {x3 : Int} {s0 : Int} {D1 : Nat} (hD : D = D1 + 2) (h : (s0 = (0 : Int) → (((0 : Int) ≤ (0 : Int) ∧ (0 : Int) ≤ 1) ∧ (Q [.inl (0 : Int)] M))) ∧ (¬ s0 = (0 : Int) → (((0 : Int) ≤ (1 : Int) ∧ (1 : Int) ≤ 1) ∧ (Q [.inl (1 : Int)] M)))) : g_R (D + 1) 78 Q 36 [.inr (0, 16), .inr (1, h1), .inl x2, .inl x3] [.inl s0] M := by
  subst hD
  exact g_go hk_78 ⟨rfl, rfl⟩ (g_C_ok (g_F_ok (D := D1))) sp_78 5 h
theorem hn_79 : 2 ≤ (hm_me 79).2.2.1 := by decide +kernel
/-- HeapLaw$Stepper.vacate(LHeapLaw$Formula;)I -/
def sp_79 (pc : Nat) : Option Nat := match pc with
  | 4 => some 2
  | 40 => some 4
  | _ => none
set_option maxRecDepth 20000 in
theorem rg_79_0 {D : Nat} {Q : g_P} {M : g_M} {h1 : Nat} {D1 : Nat} (hD : D = D1 + 2) (h : g_Ev D 40 [.inr (1, h1)] M (fun q M' => g_R (D + 1) 79 Q 4 [.inr (0, 16), .inr (1, h1)] (q ++ []) M')) : g_R (D + 1) 79 Q 0 [.inr (0, 16), .inr (1, h1)] [] M := by
  subst hD
  exact g_go hk_79 ⟨rfl, rfl⟩ (g_C_ok (g_F_ok (D := D1))) sp_79 3 h
set_option maxRecDepth 20000 in
theorem rg_79_4 {D : Nat} {Q : g_P} {M : g_M} {h1 : Nat} {s0 : Int} {D1 : Nat} (hD : D = D1 + 2) (h : ((0 ≤ s0 ∧ s0 < 1024) ∧ (0 ≤ (M.1 0 16 5) ∧ (M.1 0 16 5) < 10)) ∧ ((g_bit s0 (M.1 0 16 5) → ((¬ (1 : Int) = (0 : Int) → ((0 ≤ s0 ∧ s0 < 256) ∧ ((g_spare s0 = (-1 : Int) → (g_R (D + 1) 79 Q 40 [.inr (0, 16), .inr (1, h1), .inl s0, .inl (g_spare s0)] [] M)) ∧ (¬ g_spare s0 = (-1 : Int) → (g_Ev D 80 [.inr (1, h1), .inl (M.1 0 16 5), .inl (g_spare s0)] M (fun q M' => g_R (D + 1) 79 Q 40 [.inr (0, 16), .inr (1, h1), .inl s0, .inl (g_spare s0)] (q ++ []) M')))))) ∧ ((1 : Int) = (0 : Int) → (Q [.inl (M.1 0 16 5)] M)))) ∧ (¬ g_bit s0 (M.1 0 16 5) → ((¬ (0 : Int) = (0 : Int) → ((0 ≤ s0 ∧ s0 < 256) ∧ ((g_spare s0 = (-1 : Int) → (g_R (D + 1) 79 Q 40 [.inr (0, 16), .inr (1, h1), .inl s0, .inl (g_spare s0)] [] M)) ∧ (¬ g_spare s0 = (-1 : Int) → (g_Ev D 80 [.inr (1, h1), .inl (M.1 0 16 5), .inl (g_spare s0)] M (fun q M' => g_R (D + 1) 79 Q 40 [.inr (0, 16), .inr (1, h1), .inl s0, .inl (g_spare s0)] (q ++ []) M')))))) ∧ ((0 : Int) = (0 : Int) → (Q [.inl (M.1 0 16 5)] M)))))) : g_R (D + 1) 79 Q 4 [.inr (0, 16), .inr (1, h1)] [.inl s0] M := by
  subst hD
  exact g_go hk_79 ⟨rfl, rfl⟩ (g_C_ok (g_F_ok (D := D1))) sp_79 18 h
set_option maxRecDepth 20000 in
theorem rg_79_40 {D : Nat} {Q : g_P} {M : g_M} {h1 : Nat} {x2 : Int} {x3 : Int} {D1 : Nat} (hD : D = D1 + 2) (h : Q [.inl x3] M) : g_R (D + 1) 79 Q 40 [.inr (0, 16), .inr (1, h1), .inl x2, .inl x3] [] M := by
  subst hD
  exact g_go hk_79 ⟨rfl, rfl⟩ (g_C_ok (g_F_ok (D := D1))) sp_79 3 h
theorem hn_80 : 3 ≤ (hm_me 80).2.2.1 := by decide +kernel
/-- HeapLaw$Formula.rename(II)V -/
def sp_80 (pc : Nat) : Option Nat := match pc with
  | 2 => some 4
  | 35 => some 4
  | _ => none
set_option maxRecDepth 20000 in
theorem rg_80_0 {D : Nat} {Q : g_P} {M : g_M} {h0 : Nat} {x1 : Int} {x2 : Int} {D1 : Nat} (hD : D = D1 + 2) (h : g_R (D + 1) 80 Q 2 [.inr (1, h0), .inl x1, .inl x2, .inl (0 : Int)] [] M) : g_R (D + 1) 80 Q 0 [.inr (1, h0), .inl x1, .inl x2] [] M := by
  subst hD
  exact g_go hk_80 ⟨rfl, rfl⟩ (g_C_ok (g_F_ok (D := D1))) sp_80 3 h
set_option maxRecDepth 20000 in
theorem rg_80_2 {D : Nat} {Q : g_P} {M : g_M} {h0 : Nat} {x1 : Int} {x2 : Int} {x3 : Int} {D1 : Nat} (hD : D = D1 + 2) (h : (M.1 1 h0 2 ≤ x3 → (g_R (D + 1) 80 Q 35 [.inr (1, h0), .inl x1, .inl x2, .inl (0 : Int)] [] M)) ∧ (x3 < M.1 1 h0 2 → (((0 : Int) ≤ x3 ∧ x3 < ((16 : Nat) : Int)) ∧ (((0 ≤ (M.1 2 h0 x3.toNat) ∧ (M.1 2 h0 x3.toNat) < 256) ∧ (0 ≤ x1 ∧ x1 < 8) ∧ (0 ≤ x2 ∧ x2 < 8)) ∧ (((0 : Int) ≤ x3 ∧ x3 < ((16 : Nat) : Int)) ∧ ((hm_in (x3 + (1 : Int))) ∧ (g_R (D + 1) 80 Q 2 [.inr (1, h0), .inl x1, .inl x2, .inl (x3 + (1 : Int))] [] (g_uA M (2, h0) x3.toNat (g_ren (M.1 2 h0 x3.toNat) x1 x2))))))))) : g_R (D + 1) 80 Q 2 [.inr (1, h0), .inl x1, .inl x2, .inl x3] [] M := by
  subst hD
  exact g_go hk_80 ⟨rfl, rfl⟩ (g_C_ok (g_F_ok (D := D1))) sp_80 18 h
set_option maxRecDepth 20000 in
theorem rg_80_35 {D : Nat} {Q : g_P} {M : g_M} {h0 : Nat} {x1 : Int} {x2 : Int} {x3 : Int} {D1 : Nat} (hD : D = D1 + 2) (h : (M.1 1 h0 3 ≤ x3 → (Q [] M)) ∧ (x3 < M.1 1 h0 3 → (((0 : Int) ≤ x3 ∧ x3 < ((10 : Nat) : Int)) ∧ (((0 ≤ (M.1 3 h0 x3.toNat) ∧ (M.1 3 h0 x3.toNat) < 256) ∧ (0 ≤ x1 ∧ x1 < 8) ∧ (0 ≤ x2 ∧ x2 < 8)) ∧ (((0 : Int) ≤ x3 ∧ x3 < ((10 : Nat) : Int)) ∧ ((hm_in (x3 + (1 : Int))) ∧ (g_R (D + 1) 80 Q 35 [.inr (1, h0), .inl x1, .inl x2, .inl (x3 + (1 : Int))] [] (g_uA M (3, h0) x3.toNat (g_ren (M.1 3 h0 x3.toNat) x1 x2))))))))) : g_R (D + 1) 80 Q 35 [.inr (1, h0), .inl x1, .inl x2, .inl x3] [] M := by
  subst hD
  exact g_go hk_80 ⟨rfl, rfl⟩ (g_C_ok (g_F_ok (D := D1))) sp_80 18 h
theorem hn_82 : 2 ≤ (hm_me 82).2.2.1 := by decide +kernel
/-- HeapLaw$Stepper.becomeNew(LHeapLaw$Formula;)Z -/
def sp_82 (pc : Nat) : Option Nat := match pc with
  | 5 => some 2
  | 15 => some 2
  | 37 => some 3
  | _ => none
set_option maxRecDepth 20000 in
theorem rg_82_0 {D : Nat} {Q : g_P} {M : g_M} {h1 : Nat} {D1 : Nat} (hD : D = D1 + 2) (h : g_Ev D 79 [.inr (0, 16), .inr (1, h1)] M (fun q M' => g_R (D + 1) 82 Q 5 [.inr (0, 16), .inr (1, h1)] (q ++ []) M')) : g_R (D + 1) 82 Q 0 [.inr (0, 16), .inr (1, h1)] [] M := by
  subst hD
  exact g_go hk_82 ⟨rfl, rfl⟩ (g_C_ok (g_F_ok (D := D1))) sp_82 4 h
set_option maxRecDepth 20000 in
theorem rg_82_5 {D : Nat} {Q : g_P} {M : g_M} {h1 : Nat} {s0 : Int} {D1 : Nat} (hD : D = D1 + 2) (h : (¬ s0 = (-1 : Int) → (g_Ev D 40 [.inr (1, h1)] M (fun q M' => g_R (D + 1) 82 Q 15 [.inr (0, 16), .inr (1, h1)] (q ++ []) M'))) ∧ (s0 = (-1 : Int) → (((0 : Int) ≤ (0 : Int) ∧ (0 : Int) ≤ 1) ∧ (Q [.inl (0 : Int)] M)))) : g_R (D + 1) 82 Q 5 [.inr (0, 16), .inr (1, h1)] [.inl s0] M := by
  subst hD
  exact g_go hk_82 ⟨rfl, rfl⟩ (g_C_ok (g_F_ok (D := D1))) sp_82 5 h
set_option maxRecDepth 20000 in
theorem rg_82_15 {D : Nat} {Q : g_P} {M : g_M} {h1 : Nat} {s0 : Int} {D1 : Nat} (hD : D = D1 + 2) (h : (0 ≤ s0 ∧ s0 < 256) ∧ ((g_spare s0 = (-1 : Int) → (((0 : Int) ≤ (0 : Int) ∧ (0 : Int) ≤ 1) ∧ (Q [.inl (0 : Int)] M))) ∧ (¬ g_spare s0 = (-1 : Int) → (((0 ≤ (2 : Int) ∧ (2 : Int) < 4) ∧ (0 ≤ (M.1 0 16 5) ∧ (M.1 0 16 5) < 8) ∧ (0 ≤ (g_spare s0) ∧ (g_spare s0) < 8)) ∧ (g_Ev D 17 [.inr (1, h1), .inl (64 * (2 : Int) + 8 * (M.1 0 16 5) + (g_spare s0))] M (fun q M' => g_R (D + 1) 82 Q 37 [.inr (0, 16), .inr (1, h1), .inl (g_spare s0)] (q ++ []) M')))))) : g_R (D + 1) 82 Q 15 [.inr (0, 16), .inr (1, h1)] [.inl s0] M := by
  subst hD
  exact g_go hk_82 ⟨rfl, rfl⟩ (g_C_ok (g_F_ok (D := D1))) sp_82 13 h
set_option maxRecDepth 20000 in
theorem rg_82_37 {D : Nat} {Q : g_P} {M : g_M} {h1 : Nat} {x2 : Int} {s0 : Int} {D1 : Nat} (hD : D = D1 + 2) (h : (s0 = (0 : Int) → (((0 : Int) ≤ (0 : Int) ∧ (0 : Int) ≤ 1) ∧ (Q [.inl (0 : Int)] M))) ∧ (¬ s0 = (0 : Int) → (((0 : Int) ≤ (1 : Int) ∧ (1 : Int) ≤ 1) ∧ (Q [.inl (1 : Int)] M)))) : g_R (D + 1) 82 Q 37 [.inr (0, 16), .inr (1, h1), .inl x2] [.inl s0] M := by
  subst hD
  exact g_go hk_82 ⟨rfl, rfl⟩ (g_C_ok (g_F_ok (D := D1))) sp_82 5 h
theorem hn_83 : 3 ≤ (hm_me 83).2.2.1 := by decide +kernel
/-- HeapLaw.differ(II)I -/
def sp_83 (pc : Nat) : Option Nat := match pc with
  | 27 => some 3
  | 39 => some 3
  | 83 => some 3
  | 102 => some 3
  | _ => none
set_option maxRecDepth 20000 in
theorem rg_83_0 {D : Nat} {Q : g_P} {M : g_M} {x1 : Int} {x2 : Int} {D1 : Nat} (hD : D = D1 + 2) (h : ((0 ≤ x1 ∧ x1 < M.1 0 2 6) → (((1 : Int) = (0 : Int) → (Q [.inl (-1 : Int)] M)) ∧ (¬ (1 : Int) = (0 : Int) → (((0 ≤ x2 ∧ x2 < M.1 0 2 6) → ((¬ (1 : Int) = (0 : Int) → (((0 : Int) ≤ x1 ∧ x1 < 72) ∧ (g_Ev D 63 [.inr (1, (12 + x1.toNat))] M (fun q M' => g_R (D + 1) 83 Q 27 [.inr (0, 2), .inl x1, .inl x2] (q ++ []) M')))) ∧ ((1 : Int) = (0 : Int) → (Q [.inl (-1 : Int)] M)))) ∧ (¬ (0 ≤ x2 ∧ x2 < M.1 0 2 6) → ((¬ (0 : Int) = (0 : Int) → (((0 : Int) ≤ x1 ∧ x1 < 72) ∧ (g_Ev D 63 [.inr (1, (12 + x1.toNat))] M (fun q M' => g_R (D + 1) 83 Q 27 [.inr (0, 2), .inl x1, .inl x2] (q ++ []) M')))) ∧ ((0 : Int) = (0 : Int) → (Q [.inl (-1 : Int)] M)))))))) ∧ (¬ (0 ≤ x1 ∧ x1 < M.1 0 2 6) → (((0 : Int) = (0 : Int) → (Q [.inl (-1 : Int)] M)) ∧ (¬ (0 : Int) = (0 : Int) → (((0 ≤ x2 ∧ x2 < M.1 0 2 6) → ((¬ (1 : Int) = (0 : Int) → (((0 : Int) ≤ x1 ∧ x1 < 72) ∧ (g_Ev D 63 [.inr (1, (12 + x1.toNat))] M (fun q M' => g_R (D + 1) 83 Q 27 [.inr (0, 2), .inl x1, .inl x2] (q ++ []) M')))) ∧ ((1 : Int) = (0 : Int) → (Q [.inl (-1 : Int)] M)))) ∧ (¬ (0 ≤ x2 ∧ x2 < M.1 0 2 6) → ((¬ (0 : Int) = (0 : Int) → (((0 : Int) ≤ x1 ∧ x1 < 72) ∧ (g_Ev D 63 [.inr (1, (12 + x1.toNat))] M (fun q M' => g_R (D + 1) 83 Q 27 [.inr (0, 2), .inl x1, .inl x2] (q ++ []) M')))) ∧ ((0 : Int) = (0 : Int) → (Q [.inl (-1 : Int)] M))))))))) : g_R (D + 1) 83 Q 0 [.inr (0, 2), .inl x1, .inl x2] [] M := by
  subst hD
  exact g_go hk_83 ⟨rfl, rfl⟩ (g_C_ok (g_F_ok (D := D1))) sp_83 14 h
set_option maxRecDepth 20000 in
theorem rg_83_27 {D : Nat} {Q : g_P} {M : g_M} {x1 : Int} {x2 : Int} {s0 : Int} {D1 : Nat} (hD : D = D1 + 2) (h : (¬ s0 = (0 : Int) → (Q [.inl (-3 : Int)] M)) ∧ (s0 = (0 : Int) → (((0 : Int) ≤ x2 ∧ x2 < 72) ∧ (g_Ev D 63 [.inr (1, (12 + x2.toNat))] M (fun q M' => g_R (D + 1) 83 Q 39 [.inr (0, 2), .inl x1, .inl x2] (q ++ []) M'))))) : g_R (D + 1) 83 Q 27 [.inr (0, 2), .inl x1, .inl x2] [.inl s0] M := by
  subst hD
  exact g_go hk_83 ⟨rfl, rfl⟩ (g_C_ok (g_F_ok (D := D1))) sp_83 7 h
set_option maxRecDepth 20000 in
theorem rg_83_39 {D : Nat} {Q : g_P} {M : g_M} {x1 : Int} {x2 : Int} {s0 : Int} {D1 : Nat} (hD : D = D1 + 2) (h : (¬ s0 = (0 : Int) → (Q [.inl (-3 : Int)] M)) ∧ (s0 = (0 : Int) → ((M.1 0 2 7 < (40 : Int) → ((hm_in ((M.1 0 2 7) + (1 : Int))) ∧ (((0 : Int) ≤ x1 ∧ x1 < 72) ∧ (((0 : Int) ≤ x2 ∧ x2 < 72) ∧ (g_Ev D 84 [.inr (0, 60), .inr (1, (12 + x1.toNat)), .inr (1, (12 + x2.toNat))] (g_uA M (0, 2) 7 ((M.1 0 2 7) + (1 : Int))) (fun q M' => g_R (D + 1) 83 Q 83 [.inr (0, 2), .inl x1, .inl x2] (q ++ []) M')))))) ∧ ((40 : Int) ≤ M.1 0 2 7 → (Q [.inl (-3 : Int)] M))))) : g_R (D + 1) 83 Q 39 [.inr (0, 2), .inl x1, .inl x2] [.inl s0] M := by
  subst hD
  exact g_go hk_83 ⟨rfl, rfl⟩ (g_C_ok (g_F_ok (D := D1))) sp_83 23 h
set_option maxRecDepth 20000 in
theorem rg_83_83 {D : Nat} {Q : g_P} {M : g_M} {x1 : Int} {x2 : Int} {s0 : Int} {D1 : Nat} (hD : D = D1 + 2) (h : (¬ s0 = (0 : Int) → (g_Ev D 87 [.inr (4, 0), .inr (4, 1)] M (fun q M' => g_R (D + 1) 83 Q 102 [.inr (0, 2), .inl x1, .inl x2] (q ++ []) M'))) ∧ (s0 = (0 : Int) → (Q [.inl (0 : Int)] M))) : g_R (D + 1) 83 Q 83 [.inr (0, 2), .inl x1, .inl x2] [.inl s0] M := by
  subst hD
  exact g_go hk_83 ⟨rfl, rfl⟩ (g_C_ok (g_F_ok (D := D1))) sp_83 8 h
set_option maxRecDepth 20000 in
theorem rg_83_102 {D : Nat} {Q : g_P} {M : g_M} {x1 : Int} {x2 : Int} {D1 : Nat} (hD : D = D1 + 2) (h : Q [.inl (1 : Int)] M) : g_R (D + 1) 83 Q 102 [.inr (0, 2), .inl x1, .inl x2] [] M := by
  subst hD
  exact g_go hk_83 ⟨rfl, rfl⟩ (g_C_ok (g_F_ok (D := D1))) sp_83 3 h
theorem hn_84 : 3 ≤ (hm_me 84).2.2.1 := by decide +kernel
/-- HeapLaw$Parting.find(LHeapLaw$Formula;LHeapLaw$Formula;)Z -/
def sp_84 (pc : Nat) : Option Nat := match pc with
  | 8 => some 3
  | 16 => some 3
  | 18 => some 4
  | 38 => some 4
  | 53 => some 4
  | 66 => some 4
  | 79 => some 4
  | 101 => some 5
  | 111 => some 5
  | _ => none
set_option maxRecDepth 20000 in
theorem rg_84_0 {D : Nat} {Q : g_P} {M : g_M} {h1 : Nat} {h2 : Nat} {D1 : Nat} (hD : D = D1 + 2) (h : g_Ev D 39 [.inr (7, 3), .inr (1, h1)] M (fun q M' => g_R (D + 1) 84 Q 8 [.inr (0, 60), .inr (1, h1), .inr (1, h2)] (q ++ []) M')) : g_R (D + 1) 84 Q 0 [.inr (0, 60), .inr (1, h1), .inr (1, h2)] [] M := by
  subst hD
  exact g_go hk_84 ⟨rfl, rfl⟩ (g_C_ok (g_F_ok (D := D1))) sp_84 5 h
set_option maxRecDepth 20000 in
theorem rg_84_8 {D : Nat} {Q : g_P} {M : g_M} {h1 : Nat} {h2 : Nat} {D1 : Nat} (hD : D = D1 + 2) (h : g_Ev D 39 [.inr (7, 4), .inr (1, h2)] M (fun q M' => g_R (D + 1) 84 Q 16 [.inr (0, 60), .inr (1, h1), .inr (1, h2)] (q ++ []) M')) : g_R (D + 1) 84 Q 8 [.inr (0, 60), .inr (1, h1), .inr (1, h2)] [] M := by
  subst hD
  exact g_go hk_84 ⟨rfl, rfl⟩ (g_C_ok (g_F_ok (D := D1))) sp_84 5 h
set_option maxRecDepth 20000 in
theorem rg_84_16 {D : Nat} {Q : g_P} {M : g_M} {h1 : Nat} {h2 : Nat} {D1 : Nat} (hD : D = D1 + 2) (h : g_R (D + 1) 84 Q 18 [.inr (0, 60), .inr (1, h1), .inr (1, h2), .inl (0 : Int)] [] M) : g_R (D + 1) 84 Q 16 [.inr (0, 60), .inr (1, h1), .inr (1, h2)] [] M := by
  subst hD
  exact g_go hk_84 ⟨rfl, rfl⟩ (g_C_ok (g_F_ok (D := D1))) sp_84 3 h
set_option maxRecDepth 20000 in
theorem rg_84_18 {D : Nat} {Q : g_P} {M : g_M} {h1 : Nat} {h2 : Nat} {x3 : Int} {D1 : Nat} (hD : D = D1 + 2) (h : ((125 : Int) ≤ x3 → (((0 : Int) ≤ (0 : Int) ∧ (0 : Int) ≤ 1) ∧ (Q [.inl (0 : Int)] M))) ∧ (x3 < (125 : Int) → (((0 : Int) ≤ x3 ∧ (0 : Int) < (25 : Int)) ∧ ((hm_in ((x3 / (25 : Int)) + (-1 : Int))) ∧ (g_Ev D 33 [.inr (4, 1), .inl (1 : Int), .inl ((x3 / (25 : Int)) + (-1 : Int))] M (fun q M' => g_R (D + 1) 84 Q 38 [.inr (0, 60), .inr (1, h1), .inr (1, h2), .inl x3] (q ++ []) M')))))) : g_R (D + 1) 84 Q 18 [.inr (0, 60), .inr (1, h1), .inr (1, h2), .inl x3] [] M := by
  subst hD
  exact g_go hk_84 ⟨rfl, rfl⟩ (g_C_ok (g_F_ok (D := D1))) sp_84 13 h
set_option maxRecDepth 20000 in
theorem rg_84_38 {D : Nat} {Q : g_P} {M : g_M} {h1 : Nat} {h2 : Nat} {x3 : Int} {D1 : Nat} (hD : D = D1 + 2) (h : ((0 : Int) ≤ x3 ∧ (0 : Int) < (5 : Int)) ∧ (((0 : Int) ≤ x3 / (5 : Int) ∧ (0 : Int) < (5 : Int)) ∧ ((hm_in (((x3 / (5 : Int)) % (5 : Int)) + (-1 : Int))) ∧ (g_Ev D 33 [.inr (4, 1), .inl (2 : Int), .inl (((x3 / (5 : Int)) % (5 : Int)) + (-1 : Int))] M (fun q M' => g_R (D + 1) 84 Q 53 [.inr (0, 60), .inr (1, h1), .inr (1, h2), .inl x3] (q ++ []) M'))))) : g_R (D + 1) 84 Q 38 [.inr (0, 60), .inr (1, h1), .inr (1, h2), .inl x3] [] M := by
  subst hD
  exact g_go hk_84 ⟨rfl, rfl⟩ (g_C_ok (g_F_ok (D := D1))) sp_84 12 h
set_option maxRecDepth 20000 in
theorem rg_84_53 {D : Nat} {Q : g_P} {M : g_M} {h1 : Nat} {h2 : Nat} {x3 : Int} {D1 : Nat} (hD : D = D1 + 2) (h : ((0 : Int) ≤ x3 ∧ (0 : Int) < (5 : Int)) ∧ ((hm_in ((x3 % (5 : Int)) + (-1 : Int))) ∧ (g_Ev D 33 [.inr (4, 1), .inl (3 : Int), .inl ((x3 % (5 : Int)) + (-1 : Int))] M (fun q M' => g_R (D + 1) 84 Q 66 [.inr (0, 60), .inr (1, h1), .inr (1, h2), .inl x3] (q ++ []) M')))) : g_R (D + 1) 84 Q 53 [.inr (0, 60), .inr (1, h1), .inr (1, h2), .inl x3] [] M := by
  subst hD
  exact g_go hk_84 ⟨rfl, rfl⟩ (g_C_ok (g_F_ok (D := D1))) sp_84 10 h
set_option maxRecDepth 20000 in
theorem rg_84_66 {D : Nat} {Q : g_P} {M : g_M} {h1 : Nat} {h2 : Nat} {x3 : Int} {D1 : Nat} (hD : D = D1 + 2) (h : g_Ev D 45 [.inr (4, 1), .inr (7, 3), .inl (0 : Int), .inl (0 : Int)] M (fun q M' => g_R (D + 1) 84 Q 79 [.inr (0, 60), .inr (1, h1), .inr (1, h2), .inl x3] (q ++ []) M')) : g_R (D + 1) 84 Q 66 [.inr (0, 60), .inr (1, h1), .inr (1, h2), .inl x3] [] M := by
  subst hD
  exact g_go hk_84 ⟨rfl, rfl⟩ (g_C_ok (g_F_ok (D := D1))) sp_84 8 h
set_option maxRecDepth 20000 in
theorem rg_84_79 {D : Nat} {Q : g_P} {M : g_M} {h1 : Nat} {h2 : Nat} {x3 : Int} {s0 : Int} {D1 : Nat} (hD : D = D1 + 2) (h : (s0 = (-1 : Int) → ((hm_in (x3 + (1 : Int))) ∧ (g_R (D + 1) 84 Q 18 [.inr (0, 60), .inr (1, h1), .inr (1, h2), .inl (x3 + (1 : Int))] [] M))) ∧ (¬ s0 = (-1 : Int) → ((0 ≤ (M.1 4 1 2) ∧ (M.1 4 1 2) < 1024) ∧ (g_Ev D 85 [.inr (1, h1), .inl (g_pop (M.1 4 1 2))] M (fun q M' => g_R (D + 1) 84 Q 101 [.inr (0, 60), .inr (1, h1), .inr (1, h2), .inl x3, .inl s0] (q ++ []) M'))))) : g_R (D + 1) 84 Q 79 [.inr (0, 60), .inr (1, h1), .inr (1, h2), .inl x3] [.inl s0] M := by
  subst hD
  exact g_go hk_84 ⟨rfl, rfl⟩ (g_C_ok (g_F_ok (D := D1))) sp_84 11 h
set_option maxRecDepth 20000 in
theorem rg_84_101 {D : Nat} {Q : g_P} {M : g_M} {h1 : Nat} {h2 : Nat} {x3 : Int} {x4 : Int} {s0 : Int} {D1 : Nat} (hD : D = D1 + 2) (h : (s0 = (0 : Int) → ((hm_in (x3 + (1 : Int))) ∧ (g_R (D + 1) 84 Q 18 [.inr (0, 60), .inr (1, h1), .inr (1, h2), .inl (x3 + (1 : Int))] [] M))) ∧ (¬ s0 = (0 : Int) → (g_Ev D 86 [.inr (0, 60), .inl (1 : Int), .inl x4] M (fun q M' => g_R (D + 1) 84 Q 111 [.inr (0, 60), .inr (1, h1), .inr (1, h2), .inl x3, .inl x4] (q ++ []) M')))) : g_R (D + 1) 84 Q 101 [.inr (0, 60), .inr (1, h1), .inr (1, h2), .inl x3, .inl x4] [.inl s0] M := by
  subst hD
  exact g_go hk_84 ⟨rfl, rfl⟩ (g_C_ok (g_F_ok (D := D1))) sp_84 6 h
set_option maxRecDepth 20000 in
theorem rg_84_111 {D : Nat} {Q : g_P} {M : g_M} {h1 : Nat} {h2 : Nat} {x3 : Int} {x4 : Int} {s0 : Int} {D1 : Nat} (hD : D = D1 + 2) (h : (s0 = (0 : Int) → ((hm_in (x3 + (1 : Int))) ∧ (g_R (D + 1) 84 Q 18 [.inr (0, 60), .inr (1, h1), .inr (1, h2), .inl (x3 + (1 : Int))] [] M))) ∧ (¬ s0 = (0 : Int) → (((0 : Int) ≤ (1 : Int) ∧ (1 : Int) ≤ 1) ∧ (Q [.inl (1 : Int)] M)))) : g_R (D + 1) 84 Q 111 [.inr (0, 60), .inr (1, h1), .inr (1, h2), .inl x3, .inl x4] [.inl s0] M := by
  subst hD
  exact g_go hk_84 ⟨rfl, rfl⟩ (g_C_ok (g_F_ok (D := D1))) sp_84 4 h
theorem hn_85 : 2 ≤ (hm_me 85).2.2.1 := by decide +kernel
/-- HeapLaw$Formula.canTake(I)Z -/
def sp_85 (pc : Nat) : Option Nat := match pc with
  | 4 => some 4
  | _ => none
set_option maxRecDepth 20000 in
theorem rg_85_0 {D : Nat} {Q : g_P} {M : g_M} {h0 : Nat} {x1 : Int} {D1 : Nat} (hD : D = D1 + 2) (h : g_R (D + 1) 85 Q 4 [.inr (1, h0), .inl x1, .inl (0 : Int), .inl (0 : Int)] [] M) : g_R (D + 1) 85 Q 0 [.inr (1, h0), .inl x1] [] M := by
  subst hD
  exact g_go hk_85 ⟨rfl, rfl⟩ (g_C_ok (g_F_ok (D := D1))) sp_85 5 h
set_option maxRecDepth 20000 in
theorem rg_85_4 {D : Nat} {Q : g_P} {M : g_M} {h0 : Nat} {x1 : Int} {x2 : Int} {x3 : Int} {D1 : Nat} (hD : D = D1 + 2) (h : (M.1 1 h0 3 ≤ x3 → ((x1 = x2 → (((0 : Int) ≤ (1 : Int) ∧ (1 : Int) ≤ 1) ∧ (Q [.inl (1 : Int)] M))) ∧ (¬ x1 = x2 → ((x1 ≤ x2 → (((0 : Int) ≤ (0 : Int) ∧ (0 : Int) ≤ 1) ∧ (Q [.inl (0 : Int)] M))) ∧ (x2 < x1 → ((M.1 1 h0 3 ≤ x2 → (((0 : Int) ≤ (0 : Int) ∧ (0 : Int) ≤ 1) ∧ (Q [.inl (0 : Int)] M))) ∧ (x2 < M.1 1 h0 3 → (((0 : Int) ≤ (1 : Int) ∧ (1 : Int) ≤ 1) ∧ (Q [.inl (1 : Int)] M))))))))) ∧ (x3 < M.1 1 h0 3 → (((0 : Int) ≤ x3 ∧ x3 < ((10 : Nat) : Int)) ∧ ((0 ≤ (M.1 3 h0 x3.toNat) ∧ (M.1 3 h0 x3.toNat) < 256) ∧ ((¬ (M.1 3 h0 x3.toNat) / 64 = (2 : Int) → ((hm_in (x2 + (0 : Int))) ∧ ((hm_in (x3 + (1 : Int))) ∧ (g_R (D + 1) 85 Q 4 [.inr (1, h0), .inl x1, .inl (x2 + (0 : Int)), .inl (x3 + (1 : Int))] [] M)))) ∧ ((M.1 3 h0 x3.toNat) / 64 = (2 : Int) → ((hm_in (x2 + (1 : Int))) ∧ ((hm_in (x3 + (1 : Int))) ∧ (g_R (D + 1) 85 Q 4 [.inr (1, h0), .inl x1, .inl (x2 + (1 : Int)), .inl (x3 + (1 : Int))] [] M))))))))) : g_R (D + 1) 85 Q 4 [.inr (1, h0), .inl x1, .inl x2, .inl x3] [] M := by
  subst hD
  exact g_go hk_85 ⟨rfl, rfl⟩ (g_C_ok (g_F_ok (D := D1))) sp_85 19 h
theorem hn_86 : 3 ≤ (hm_me 86).2.2.1 := by decide +kernel
/-- HeapLaw$Parting.findFrom(II)Z -/
def sp_86 (pc : Nat) : Option Nat := match pc with
  | 29 => some 3
  | 69 => some 5
  | 99 => some 5
  | 116 => some 6
  | _ => none
set_option maxRecDepth 20000 in
theorem rg_86_0 {D : Nat} {Q : g_P} {M : g_M} {x1 : Int} {x2 : Int} {D1 : Nat} (hD : D = D1 + 2) (h : (x1 ≤ (4 : Int) → (((0 ≤ (hm_or (M.1 7 3 2) (M.1 7 4 2)) ∧ (hm_or (M.1 7 3 2) (M.1 7 4 2)) < 1024) ∧ (0 ≤ x1 ∧ x1 < 10)) ∧ ((g_bit (hm_or (M.1 7 3 2) (M.1 7 4 2)) x1 → (((1 : Int) = (0 : Int) → (g_R (D + 1) 86 Q 69 [.inr (0, 60), .inl x1, .inl x2, .inl (0 : Int), .inl (0 : Int)] [] M)) ∧ (¬ (1 : Int) = (0 : Int) → (g_R (D + 1) 86 Q 69 [.inr (0, 60), .inl x1, .inl x2, .inl (3 : Int), .inl (0 : Int)] [] M)))) ∧ (¬ g_bit (hm_or (M.1 7 3 2) (M.1 7 4 2)) x1 → (((0 : Int) = (0 : Int) → (g_R (D + 1) 86 Q 69 [.inr (0, 60), .inl x1, .inl x2, .inl (0 : Int), .inl (0 : Int)] [] M)) ∧ (¬ (0 : Int) = (0 : Int) → (g_R (D + 1) 86 Q 69 [.inr (0, 60), .inl x1, .inl x2, .inl (3 : Int), .inl (0 : Int)] [] M))))))) ∧ ((4 : Int) < x1 → ((¬ x2 = M.1 4 1 2 → (((0 : Int) ≤ (0 : Int) ∧ (0 : Int) ≤ 1) ∧ (Q [.inl (0 : Int)] M))) ∧ (x2 = M.1 4 1 2 → (g_Ev D 43 [.inr (4, 1), .inr (7, 4), .inl (0 : Int), .inl (0 : Int)] M (fun q M' => g_R (D + 1) 86 Q 29 [.inr (0, 60), .inl x1, .inl x2] (q ++ []) M')))))) : g_R (D + 1) 86 Q 0 [.inr (0, 60), .inl x1, .inl x2] [] M := by
  subst hD
  exact g_go hk_86 ⟨rfl, rfl⟩ (g_C_ok (g_F_ok (D := D1))) sp_86 19 h
set_option maxRecDepth 20000 in
theorem rg_86_29 {D : Nat} {Q : g_P} {M : g_M} {x1 : Int} {x2 : Int} {s0 : Int} {D1 : Nat} (hD : D = D1 + 2) (h : (¬ s0 = (0 : Int) → (((0 : Int) ≤ (0 : Int) ∧ (0 : Int) ≤ 1) ∧ (Q [.inl (0 : Int)] M))) ∧ (s0 = (0 : Int) → (((0 : Int) ≤ (1 : Int) ∧ (1 : Int) ≤ 1) ∧ (Q [.inl (1 : Int)] M)))) : g_R (D + 1) 86 Q 29 [.inr (0, 60), .inl x1, .inl x2] [.inl s0] M := by
  subst hD
  exact g_go hk_86 ⟨rfl, rfl⟩ (g_C_ok (g_F_ok (D := D1))) sp_86 5 h
set_option maxRecDepth 20000 in
theorem rg_86_69 {D : Nat} {Q : g_P} {M : g_M} {x1 : Int} {x2 : Int} {x3 : Int} {x4 : Int} {D1 : Nat} (hD : D = D1 + 2) (h : (x3 < x4 → (((0 : Int) ≤ (0 : Int) ∧ (0 : Int) ≤ 1) ∧ (Q [.inl (0 : Int)] M))) ∧ (x4 ≤ x3 → (((0 : Int) ≤ x1 ∧ x1 < ((8 : Nat) : Int)) ∧ (g_Ev D 45 [.inr (4, 1), .inr (7, 3), .inl x1, .inl x2] (g_uA M (6, 1) x1.toNat x4) (fun q M' => g_R (D + 1) 86 Q 99 [.inr (0, 60), .inl x1, .inl x2, .inl x3, .inl x4] (q ++ []) M'))))) : g_R (D + 1) 86 Q 69 [.inr (0, 60), .inl x1, .inl x2, .inl x3, .inl x4] [] M := by
  subst hD
  exact g_go hk_86 ⟨rfl, rfl⟩ (g_C_ok (g_F_ok (D := D1))) sp_86 17 h
set_option maxRecDepth 20000 in
theorem rg_86_99 {D : Nat} {Q : g_P} {M : g_M} {x1 : Int} {x2 : Int} {x3 : Int} {x4 : Int} {s0 : Int} {D1 : Nat} (hD : D = D1 + 2) (h : (s0 = (-1 : Int) → ((hm_in (x4 + (1 : Int))) ∧ (g_R (D + 1) 86 Q 69 [.inr (0, 60), .inl x1, .inl x2, .inl x3, .inl (x4 + (1 : Int))] [] M))) ∧ (¬ s0 = (-1 : Int) → ((hm_in (x1 + (1 : Int))) ∧ (g_Ev D 86 [.inr (0, 60), .inl (x1 + (1 : Int)), .inl s0] M (fun q M' => g_R (D + 1) 86 Q 116 [.inr (0, 60), .inl x1, .inl x2, .inl x3, .inl x4, .inl s0] (q ++ []) M'))))) : g_R (D + 1) 86 Q 99 [.inr (0, 60), .inl x1, .inl x2, .inl x3, .inl x4] [.inl s0] M := by
  subst hD
  exact g_go hk_86 ⟨rfl, rfl⟩ (g_C_ok (g_F_ok (D := D1))) sp_86 11 h
set_option maxRecDepth 20000 in
theorem rg_86_116 {D : Nat} {Q : g_P} {M : g_M} {x1 : Int} {x2 : Int} {x3 : Int} {x4 : Int} {x5 : Int} {s0 : Int} {D1 : Nat} (hD : D = D1 + 2) (h : (s0 = (0 : Int) → ((hm_in (x4 + (1 : Int))) ∧ (g_R (D + 1) 86 Q 69 [.inr (0, 60), .inl x1, .inl x2, .inl x3, .inl (x4 + (1 : Int))] [] M))) ∧ (¬ s0 = (0 : Int) → (((0 : Int) ≤ (1 : Int) ∧ (1 : Int) ≤ 1) ∧ (Q [.inl (1 : Int)] M)))) : g_R (D + 1) 86 Q 116 [.inr (0, 60), .inl x1, .inl x2, .inl x3, .inl x4, .inl x5] [.inl s0] M := by
  subst hD
  exact g_go hk_86 ⟨rfl, rfl⟩ (g_C_ok (g_F_ok (D := D1))) sp_86 4 h
theorem hn_87 : 2 ≤ (hm_me 87).2.2.1 := by decide +kernel
/-- HeapLaw$Memory.copyFrom(LHeapLaw$Memory;)V -/
def sp_87 (pc : Nat) : Option Nat := match pc with
  | _ => none
set_option maxRecDepth 20000 in
theorem rg_87_0 {D : Nat} {Q : g_P} {M : g_M} {h0 : Nat} {h1 : Nat} {D1 : Nat} (hD : D = D1 + 2) (h : ((0 : Int) ≤ (0 : Int) ∧ 0 ≤ (0 : Int) ∧ 0 ≤ ((10 : Nat) : Int) ∧ (0 : Int) + ((10 : Nat) : Int) ≤ ((10 : Nat) : Int) ∧ (0 : Int) + ((10 : Nat) : Int) ≤ ((10 : Nat) : Int)) ∧ (((0 : Int) ≤ (0 : Int) ∧ 0 ≤ (0 : Int) ∧ 0 ≤ ((8 : Nat) : Int) ∧ (0 : Int) + ((8 : Nat) : Int) ≤ ((8 : Nat) : Int) ∧ (0 : Int) + ((8 : Nat) : Int) ≤ ((8 : Nat) : Int)) ∧ (Q [] (g_uA (g_cp (g_cp M (5, h1) (5, h0) (0 : Int).toNat (0 : Int).toNat ((10 : Nat) : Int).toNat) (6, h1) (6, h0) (0 : Int).toNat (0 : Int).toNat ((8 : Nat) : Int).toNat) (4, h0) 2 (M.1 4 h1 2))))) : g_R (D + 1) 87 Q 0 [.inr (4, h0), .inr (4, h1)] [] M := by
  subst hD
  exact g_go hk_87 ⟨rfl, rfl⟩ (g_C_ok (g_F_ok (D := D1))) sp_87 26 h
theorem hn_88 : 2 ≤ (hm_me 88).2.2.1 := by decide +kernel
/-- HeapLaw.count(I)I -/
def sp_88 (pc : Nat) : Option Nat := match pc with
  | _ => none
set_option maxRecDepth 20000 in
theorem rg_88_0 {D : Nat} {Q : g_P} {M : g_M} {x1 : Int} {D1 : Nat} (hD : D = D1 + 2) (h : (¬ x1 = (0 : Int) → ((¬ x1 = (1 : Int) → (Q [.inl (-1 : Int)] M)) ∧ (x1 = (1 : Int) → (Q [.inl (M.1 0 2 7)] M)))) ∧ (x1 = (0 : Int) → (Q [.inl (M.1 0 2 6)] M))) : g_R (D + 1) 88 Q 0 [.inr (0, 2), .inl x1] [] M := by
  subst hD
  exact g_go hk_88 ⟨rfl, rfl⟩ (g_C_ok (g_F_ok (D := D1))) sp_88 10 h
theorem hn_90 : 1 ≤ (hm_me 90).2.2.1 := by decide +kernel
/-- HeapLawModel.formula()I -/
def sp_90 (pc : Nat) : Option Nat := match pc with
  | _ => none
set_option maxRecDepth 20000 in
theorem rg_90_0 {D : Nat} {Q : g_P} {M : g_M} {D1 : Nat} (hD : D = D1 + 2) (h : (¬ M.1 0 286 1 = (60 : Int) → (((0 : Int) ≤ M.1 0 286 1 ∧ M.1 0 286 1 < ((200 : Nat) : Int)) ∧ (((0 : Int) ≤ M.1 0 286 1 ∧ M.1 0 286 1 < ((200 : Nat) : Int)) ∧ ((hm_in ((M.1 0 286 1) + (1 : Int))) ∧ ((hm_in (((M.1 0 286 1) + (1 : Int)) - (1 : Int))) ∧ (Q [.inl (((M.1 0 286 1) + (1 : Int)) - (1 : Int))] (g_uA (g_uA (g_uA M (0, 287) (M.1 0 286 1).toNat (0 : Int)) (0, 291) (M.1 0 286 1).toNat (0 : Int)) (0, 286) 1 ((M.1 0 286 1) + (1 : Int))))))))) ∧ (M.1 0 286 1 = (60 : Int) → (Q [.inl (-2 : Int)] M))) : g_R (D + 1) 90 Q 0 [.inr (0, 286)] [] M := by
  subst hD
  exact g_go hk_90 ⟨rfl, rfl⟩ (g_C_ok (g_F_ok (D := D1))) sp_90 28 h
theorem hn_91 : 5 ≤ (hm_me 91).2.2.1 := by decide +kernel
/-- HeapLawModel.pure(IIII)I -/
def sp_91 (pc : Nat) : Option Nat := match pc with
  | 57 => some 5
  | _ => none
set_option maxRecDepth 20000 in
theorem rg_91_0 {D : Nat} {Q : g_P} {M : g_M} {x1 : Int} {x2 : Int} {x3 : Int} {x4 : Int} {D1 : Nat} (hD : D = D1 + 2) (h : ((0 ≤ x1 ∧ x1 < M.1 0 286 1) → (((1 : Int) = (0 : Int) → (Q [.inl (-1 : Int)] M)) ∧ (¬ (1 : Int) = (0 : Int) → ((x2 < (0 : Int) → (Q [.inl (-1 : Int)] M)) ∧ ((0 : Int) ≤ x2 → (((1 : Int) < x2 → (Q [.inl (-1 : Int)] M)) ∧ (x2 ≤ (1 : Int) → (((0 ≤ x3 ∧ x3 < 8) → (((1 : Int) = (0 : Int) → (Q [.inl (-1 : Int)] M)) ∧ (¬ (1 : Int) = (0 : Int) → (((0 ≤ x4 ∧ x4 < 8) → ((¬ (1 : Int) = (0 : Int) → (((0 : Int) ≤ x1 ∧ x1 < ((200 : Nat) : Int)) ∧ ((¬ M.1 0 287 x1.toNat = (16 : Int) → (g_Ev D 94 [.inr (0, 286), .inl x1, .inl x2, .inl x3, .inl x4] M (fun q M' => g_R (D + 1) 91 Q 57 [.inr (0, 286), .inl x1, .inl x2, .inl x3, .inl x4] (q ++ []) M'))) ∧ (M.1 0 287 x1.toNat = (16 : Int) → (Q [.inl (-2 : Int)] M))))) ∧ ((1 : Int) = (0 : Int) → (Q [.inl (-1 : Int)] M)))) ∧ (¬ (0 ≤ x4 ∧ x4 < 8) → ((¬ (0 : Int) = (0 : Int) → (((0 : Int) ≤ x1 ∧ x1 < ((200 : Nat) : Int)) ∧ ((¬ M.1 0 287 x1.toNat = (16 : Int) → (g_Ev D 94 [.inr (0, 286), .inl x1, .inl x2, .inl x3, .inl x4] M (fun q M' => g_R (D + 1) 91 Q 57 [.inr (0, 286), .inl x1, .inl x2, .inl x3, .inl x4] (q ++ []) M'))) ∧ (M.1 0 287 x1.toNat = (16 : Int) → (Q [.inl (-2 : Int)] M))))) ∧ ((0 : Int) = (0 : Int) → (Q [.inl (-1 : Int)] M)))))))) ∧ (¬ (0 ≤ x3 ∧ x3 < 8) → (((0 : Int) = (0 : Int) → (Q [.inl (-1 : Int)] M)) ∧ (¬ (0 : Int) = (0 : Int) → (((0 ≤ x4 ∧ x4 < 8) → ((¬ (1 : Int) = (0 : Int) → (((0 : Int) ≤ x1 ∧ x1 < ((200 : Nat) : Int)) ∧ ((¬ M.1 0 287 x1.toNat = (16 : Int) → (g_Ev D 94 [.inr (0, 286), .inl x1, .inl x2, .inl x3, .inl x4] M (fun q M' => g_R (D + 1) 91 Q 57 [.inr (0, 286), .inl x1, .inl x2, .inl x3, .inl x4] (q ++ []) M'))) ∧ (M.1 0 287 x1.toNat = (16 : Int) → (Q [.inl (-2 : Int)] M))))) ∧ ((1 : Int) = (0 : Int) → (Q [.inl (-1 : Int)] M)))) ∧ (¬ (0 ≤ x4 ∧ x4 < 8) → ((¬ (0 : Int) = (0 : Int) → (((0 : Int) ≤ x1 ∧ x1 < ((200 : Nat) : Int)) ∧ ((¬ M.1 0 287 x1.toNat = (16 : Int) → (g_Ev D 94 [.inr (0, 286), .inl x1, .inl x2, .inl x3, .inl x4] M (fun q M' => g_R (D + 1) 91 Q 57 [.inr (0, 286), .inl x1, .inl x2, .inl x3, .inl x4] (q ++ []) M'))) ∧ (M.1 0 287 x1.toNat = (16 : Int) → (Q [.inl (-2 : Int)] M))))) ∧ ((0 : Int) = (0 : Int) → (Q [.inl (-1 : Int)] M)))))))))))))))) ∧ (¬ (0 ≤ x1 ∧ x1 < M.1 0 286 1) → (((0 : Int) = (0 : Int) → (Q [.inl (-1 : Int)] M)) ∧ (¬ (0 : Int) = (0 : Int) → ((x2 < (0 : Int) → (Q [.inl (-1 : Int)] M)) ∧ ((0 : Int) ≤ x2 → (((1 : Int) < x2 → (Q [.inl (-1 : Int)] M)) ∧ (x2 ≤ (1 : Int) → (((0 ≤ x3 ∧ x3 < 8) → (((1 : Int) = (0 : Int) → (Q [.inl (-1 : Int)] M)) ∧ (¬ (1 : Int) = (0 : Int) → (((0 ≤ x4 ∧ x4 < 8) → ((¬ (1 : Int) = (0 : Int) → (((0 : Int) ≤ x1 ∧ x1 < ((200 : Nat) : Int)) ∧ ((¬ M.1 0 287 x1.toNat = (16 : Int) → (g_Ev D 94 [.inr (0, 286), .inl x1, .inl x2, .inl x3, .inl x4] M (fun q M' => g_R (D + 1) 91 Q 57 [.inr (0, 286), .inl x1, .inl x2, .inl x3, .inl x4] (q ++ []) M'))) ∧ (M.1 0 287 x1.toNat = (16 : Int) → (Q [.inl (-2 : Int)] M))))) ∧ ((1 : Int) = (0 : Int) → (Q [.inl (-1 : Int)] M)))) ∧ (¬ (0 ≤ x4 ∧ x4 < 8) → ((¬ (0 : Int) = (0 : Int) → (((0 : Int) ≤ x1 ∧ x1 < ((200 : Nat) : Int)) ∧ ((¬ M.1 0 287 x1.toNat = (16 : Int) → (g_Ev D 94 [.inr (0, 286), .inl x1, .inl x2, .inl x3, .inl x4] M (fun q M' => g_R (D + 1) 91 Q 57 [.inr (0, 286), .inl x1, .inl x2, .inl x3, .inl x4] (q ++ []) M'))) ∧ (M.1 0 287 x1.toNat = (16 : Int) → (Q [.inl (-2 : Int)] M))))) ∧ ((0 : Int) = (0 : Int) → (Q [.inl (-1 : Int)] M)))))))) ∧ (¬ (0 ≤ x3 ∧ x3 < 8) → (((0 : Int) = (0 : Int) → (Q [.inl (-1 : Int)] M)) ∧ (¬ (0 : Int) = (0 : Int) → (((0 ≤ x4 ∧ x4 < 8) → ((¬ (1 : Int) = (0 : Int) → (((0 : Int) ≤ x1 ∧ x1 < ((200 : Nat) : Int)) ∧ ((¬ M.1 0 287 x1.toNat = (16 : Int) → (g_Ev D 94 [.inr (0, 286), .inl x1, .inl x2, .inl x3, .inl x4] M (fun q M' => g_R (D + 1) 91 Q 57 [.inr (0, 286), .inl x1, .inl x2, .inl x3, .inl x4] (q ++ []) M'))) ∧ (M.1 0 287 x1.toNat = (16 : Int) → (Q [.inl (-2 : Int)] M))))) ∧ ((1 : Int) = (0 : Int) → (Q [.inl (-1 : Int)] M)))) ∧ (¬ (0 ≤ x4 ∧ x4 < 8) → ((¬ (0 : Int) = (0 : Int) → (((0 : Int) ≤ x1 ∧ x1 < ((200 : Nat) : Int)) ∧ ((¬ M.1 0 287 x1.toNat = (16 : Int) → (g_Ev D 94 [.inr (0, 286), .inl x1, .inl x2, .inl x3, .inl x4] M (fun q M' => g_R (D + 1) 91 Q 57 [.inr (0, 286), .inl x1, .inl x2, .inl x3, .inl x4] (q ++ []) M'))) ∧ (M.1 0 287 x1.toNat = (16 : Int) → (Q [.inl (-2 : Int)] M))))) ∧ ((0 : Int) = (0 : Int) → (Q [.inl (-1 : Int)] M))))))))))))))))) : g_R (D + 1) 91 Q 0 [.inr (0, 286), .inl x1, .inl x2, .inl x3, .inl x4] [] M := by
  subst hD
  exact g_go hk_91 ⟨rfl, rfl⟩ (g_C_ok (g_F_ok (D := D1))) sp_91 28 h
set_option maxRecDepth 20000 in
theorem rg_91_57 {D : Nat} {Q : g_P} {M : g_M} {x1 : Int} {x2 : Int} {x3 : Int} {x4 : Int} {D1 : Nat} (hD : D = D1 + 2) (h : ((0 : Int) ≤ x1 ∧ x1 < ((200 : Nat) : Int)) ∧ (Q [.inl (M.1 0 287 x1.toNat)] M)) : g_R (D + 1) 91 Q 57 [.inr (0, 286), .inl x1, .inl x2, .inl x3, .inl x4] [] M := by
  subst hD
  exact g_go hk_91 ⟨rfl, rfl⟩ (g_C_ok (g_F_ok (D := D1))) sp_91 6 h
theorem hn_94 : 5 ≤ (hm_me 94).2.2.1 := by decide +kernel
/-- HeapLawModel.addPure(IIII)V -/
def sp_94 (pc : Nat) : Option Nat := match pc with
  | _ => none
set_option maxRecDepth 20000 in
theorem rg_94_0 {D : Nat} {Q : g_P} {M : g_M} {x1 : Int} {x2 : Int} {x3 : Int} {x4 : Int} {D1 : Nat} (hD : D = D1 + 2) (h : (hm_in ((16 : Int) * x1)) ∧ (((0 : Int) ≤ x1 ∧ x1 < ((200 : Nat) : Int)) ∧ ((hm_in (((16 : Int) * x1) + (M.1 0 287 x1.toNat))) ∧ (((0 : Int) ≤ ((16 : Int) * x1) + (M.1 0 287 x1.toNat) ∧ ((16 : Int) * x1) + (M.1 0 287 x1.toNat) < ((3200 : Nat) : Int)) ∧ (((0 : Int) ≤ ((16 : Int) * x1) + (M.1 0 287 x1.toNat) ∧ ((16 : Int) * x1) + (M.1 0 287 x1.toNat) < ((3200 : Nat) : Int)) ∧ (((0 : Int) ≤ ((16 : Int) * x1) + (M.1 0 287 x1.toNat) ∧ ((16 : Int) * x1) + (M.1 0 287 x1.toNat) < ((3200 : Nat) : Int)) ∧ (((0 : Int) ≤ x1 ∧ x1 < ((200 : Nat) : Int)) ∧ ((hm_in ((M.1 0 287 x1.toNat) + (1 : Int))) ∧ (((0 : Int) ≤ x1 ∧ x1 < ((200 : Nat) : Int)) ∧ (Q [] (g_uA (g_uA (g_uA (g_uA M (0, 288) (((16 : Int) * x1) + (M.1 0 287 x1.toNat)).toNat x2) (0, 289) (((16 : Int) * x1) + (M.1 0 287 x1.toNat)).toNat x3) (0, 290) (((16 : Int) * x1) + (M.1 0 287 x1.toNat)).toNat x4) (0, 287) x1.toNat ((M.1 0 287 x1.toNat) + (1 : Int))))))))))))) : g_R (D + 1) 94 Q 0 [.inr (0, 286), .inl x1, .inl x2, .inl x3, .inl x4] [] M := by
  subst hD
  exact g_go hk_94 ⟨rfl, rfl⟩ (g_C_ok (g_F_ok (D := D1))) sp_94 34 h
theorem hn_95 : 5 ≤ (hm_me 95).2.2.1 := by decide +kernel
/-- HeapLawModel.part(IIII)I -/
def sp_95 (pc : Nat) : Option Nat := match pc with
  | 63 => some 5
  | _ => none
set_option maxRecDepth 20000 in
theorem rg_95_0 {D : Nat} {Q : g_P} {M : g_M} {x1 : Int} {x2 : Int} {x3 : Int} {x4 : Int} {D1 : Nat} (hD : D = D1 + 2) (h : ((0 ≤ x1 ∧ x1 < M.1 0 286 1) → (((1 : Int) = (0 : Int) → (Q [.inl (-1 : Int)] M)) ∧ (¬ (1 : Int) = (0 : Int) → ((x2 < (0 : Int) → (Q [.inl (-1 : Int)] M)) ∧ ((0 : Int) ≤ x2 → (((1 : Int) < x2 → (Q [.inl (-1 : Int)] M)) ∧ (x2 ≤ (1 : Int) → (((0 ≤ x3 ∧ x3 < 8) → (((1 : Int) = (0 : Int) → (Q [.inl (-1 : Int)] M)) ∧ (¬ (1 : Int) = (0 : Int) → (((0 ≤ x4 ∧ x4 < 8) → ((¬ (1 : Int) = (0 : Int) → (((0 : Int) ≤ x1 ∧ x1 < ((200 : Nat) : Int)) ∧ ((¬ M.1 0 291 x1.toNat = (10 : Int) → (((0 : Int) ≤ x1 ∧ x1 < ((200 : Nat) : Int)) ∧ (g_Ev D 96 [.inr (0, 286), .inl x1, .inl (M.1 0 291 x1.toNat), .inl x2, .inl x3, .inl x4] M (fun q M' => g_R (D + 1) 95 Q 63 [.inr (0, 286), .inl x1, .inl x2, .inl x3, .inl x4] (q ++ []) M')))) ∧ (M.1 0 291 x1.toNat = (10 : Int) → (Q [.inl (-2 : Int)] M))))) ∧ ((1 : Int) = (0 : Int) → (Q [.inl (-1 : Int)] M)))) ∧ (¬ (0 ≤ x4 ∧ x4 < 8) → ((¬ (0 : Int) = (0 : Int) → (((0 : Int) ≤ x1 ∧ x1 < ((200 : Nat) : Int)) ∧ ((¬ M.1 0 291 x1.toNat = (10 : Int) → (((0 : Int) ≤ x1 ∧ x1 < ((200 : Nat) : Int)) ∧ (g_Ev D 96 [.inr (0, 286), .inl x1, .inl (M.1 0 291 x1.toNat), .inl x2, .inl x3, .inl x4] M (fun q M' => g_R (D + 1) 95 Q 63 [.inr (0, 286), .inl x1, .inl x2, .inl x3, .inl x4] (q ++ []) M')))) ∧ (M.1 0 291 x1.toNat = (10 : Int) → (Q [.inl (-2 : Int)] M))))) ∧ ((0 : Int) = (0 : Int) → (Q [.inl (-1 : Int)] M)))))))) ∧ (¬ (0 ≤ x3 ∧ x3 < 8) → (((0 : Int) = (0 : Int) → (Q [.inl (-1 : Int)] M)) ∧ (¬ (0 : Int) = (0 : Int) → (((0 ≤ x4 ∧ x4 < 8) → ((¬ (1 : Int) = (0 : Int) → (((0 : Int) ≤ x1 ∧ x1 < ((200 : Nat) : Int)) ∧ ((¬ M.1 0 291 x1.toNat = (10 : Int) → (((0 : Int) ≤ x1 ∧ x1 < ((200 : Nat) : Int)) ∧ (g_Ev D 96 [.inr (0, 286), .inl x1, .inl (M.1 0 291 x1.toNat), .inl x2, .inl x3, .inl x4] M (fun q M' => g_R (D + 1) 95 Q 63 [.inr (0, 286), .inl x1, .inl x2, .inl x3, .inl x4] (q ++ []) M')))) ∧ (M.1 0 291 x1.toNat = (10 : Int) → (Q [.inl (-2 : Int)] M))))) ∧ ((1 : Int) = (0 : Int) → (Q [.inl (-1 : Int)] M)))) ∧ (¬ (0 ≤ x4 ∧ x4 < 8) → ((¬ (0 : Int) = (0 : Int) → (((0 : Int) ≤ x1 ∧ x1 < ((200 : Nat) : Int)) ∧ ((¬ M.1 0 291 x1.toNat = (10 : Int) → (((0 : Int) ≤ x1 ∧ x1 < ((200 : Nat) : Int)) ∧ (g_Ev D 96 [.inr (0, 286), .inl x1, .inl (M.1 0 291 x1.toNat), .inl x2, .inl x3, .inl x4] M (fun q M' => g_R (D + 1) 95 Q 63 [.inr (0, 286), .inl x1, .inl x2, .inl x3, .inl x4] (q ++ []) M')))) ∧ (M.1 0 291 x1.toNat = (10 : Int) → (Q [.inl (-2 : Int)] M))))) ∧ ((0 : Int) = (0 : Int) → (Q [.inl (-1 : Int)] M)))))))))))))))) ∧ (¬ (0 ≤ x1 ∧ x1 < M.1 0 286 1) → (((0 : Int) = (0 : Int) → (Q [.inl (-1 : Int)] M)) ∧ (¬ (0 : Int) = (0 : Int) → ((x2 < (0 : Int) → (Q [.inl (-1 : Int)] M)) ∧ ((0 : Int) ≤ x2 → (((1 : Int) < x2 → (Q [.inl (-1 : Int)] M)) ∧ (x2 ≤ (1 : Int) → (((0 ≤ x3 ∧ x3 < 8) → (((1 : Int) = (0 : Int) → (Q [.inl (-1 : Int)] M)) ∧ (¬ (1 : Int) = (0 : Int) → (((0 ≤ x4 ∧ x4 < 8) → ((¬ (1 : Int) = (0 : Int) → (((0 : Int) ≤ x1 ∧ x1 < ((200 : Nat) : Int)) ∧ ((¬ M.1 0 291 x1.toNat = (10 : Int) → (((0 : Int) ≤ x1 ∧ x1 < ((200 : Nat) : Int)) ∧ (g_Ev D 96 [.inr (0, 286), .inl x1, .inl (M.1 0 291 x1.toNat), .inl x2, .inl x3, .inl x4] M (fun q M' => g_R (D + 1) 95 Q 63 [.inr (0, 286), .inl x1, .inl x2, .inl x3, .inl x4] (q ++ []) M')))) ∧ (M.1 0 291 x1.toNat = (10 : Int) → (Q [.inl (-2 : Int)] M))))) ∧ ((1 : Int) = (0 : Int) → (Q [.inl (-1 : Int)] M)))) ∧ (¬ (0 ≤ x4 ∧ x4 < 8) → ((¬ (0 : Int) = (0 : Int) → (((0 : Int) ≤ x1 ∧ x1 < ((200 : Nat) : Int)) ∧ ((¬ M.1 0 291 x1.toNat = (10 : Int) → (((0 : Int) ≤ x1 ∧ x1 < ((200 : Nat) : Int)) ∧ (g_Ev D 96 [.inr (0, 286), .inl x1, .inl (M.1 0 291 x1.toNat), .inl x2, .inl x3, .inl x4] M (fun q M' => g_R (D + 1) 95 Q 63 [.inr (0, 286), .inl x1, .inl x2, .inl x3, .inl x4] (q ++ []) M')))) ∧ (M.1 0 291 x1.toNat = (10 : Int) → (Q [.inl (-2 : Int)] M))))) ∧ ((0 : Int) = (0 : Int) → (Q [.inl (-1 : Int)] M)))))))) ∧ (¬ (0 ≤ x3 ∧ x3 < 8) → (((0 : Int) = (0 : Int) → (Q [.inl (-1 : Int)] M)) ∧ (¬ (0 : Int) = (0 : Int) → (((0 ≤ x4 ∧ x4 < 8) → ((¬ (1 : Int) = (0 : Int) → (((0 : Int) ≤ x1 ∧ x1 < ((200 : Nat) : Int)) ∧ ((¬ M.1 0 291 x1.toNat = (10 : Int) → (((0 : Int) ≤ x1 ∧ x1 < ((200 : Nat) : Int)) ∧ (g_Ev D 96 [.inr (0, 286), .inl x1, .inl (M.1 0 291 x1.toNat), .inl x2, .inl x3, .inl x4] M (fun q M' => g_R (D + 1) 95 Q 63 [.inr (0, 286), .inl x1, .inl x2, .inl x3, .inl x4] (q ++ []) M')))) ∧ (M.1 0 291 x1.toNat = (10 : Int) → (Q [.inl (-2 : Int)] M))))) ∧ ((1 : Int) = (0 : Int) → (Q [.inl (-1 : Int)] M)))) ∧ (¬ (0 ≤ x4 ∧ x4 < 8) → ((¬ (0 : Int) = (0 : Int) → (((0 : Int) ≤ x1 ∧ x1 < ((200 : Nat) : Int)) ∧ ((¬ M.1 0 291 x1.toNat = (10 : Int) → (((0 : Int) ≤ x1 ∧ x1 < ((200 : Nat) : Int)) ∧ (g_Ev D 96 [.inr (0, 286), .inl x1, .inl (M.1 0 291 x1.toNat), .inl x2, .inl x3, .inl x4] M (fun q M' => g_R (D + 1) 95 Q 63 [.inr (0, 286), .inl x1, .inl x2, .inl x3, .inl x4] (q ++ []) M')))) ∧ (M.1 0 291 x1.toNat = (10 : Int) → (Q [.inl (-2 : Int)] M))))) ∧ ((0 : Int) = (0 : Int) → (Q [.inl (-1 : Int)] M))))))))))))))))) : g_R (D + 1) 95 Q 0 [.inr (0, 286), .inl x1, .inl x2, .inl x3, .inl x4] [] M := by
  subst hD
  exact g_go hk_95 ⟨rfl, rfl⟩ (g_C_ok (g_F_ok (D := D1))) sp_95 32 h
set_option maxRecDepth 20000 in
theorem rg_95_63 {D : Nat} {Q : g_P} {M : g_M} {x1 : Int} {x2 : Int} {x3 : Int} {x4 : Int} {D1 : Nat} (hD : D = D1 + 2) (h : ((0 : Int) ≤ x1 ∧ x1 < ((200 : Nat) : Int)) ∧ (Q [.inl (M.1 0 291 x1.toNat)] M)) : g_R (D + 1) 95 Q 63 [.inr (0, 286), .inl x1, .inl x2, .inl x3, .inl x4] [] M := by
  subst hD
  exact g_go hk_95 ⟨rfl, rfl⟩ (g_C_ok (g_F_ok (D := D1))) sp_95 6 h
theorem hn_96 : 6 ≤ (hm_me 96).2.2.1 := by decide +kernel
/-- HeapLawModel.addPart(IIIII)V -/
def sp_96 (pc : Nat) : Option Nat := match pc with
  | 8 => some 7
  | 25 => some 7
  | _ => none
set_option maxRecDepth 20000 in
theorem rg_96_0 {D : Nat} {Q : g_P} {M : g_M} {x1 : Int} {x2 : Int} {x3 : Int} {x4 : Int} {x5 : Int} {D1 : Nat} (hD : D = D1 + 2) (h : ((0 : Int) ≤ x1 ∧ x1 < ((200 : Nat) : Int)) ∧ (g_R (D + 1) 96 Q 8 [.inr (0, 286), .inl x1, .inl x2, .inl x3, .inl x4, .inl x5, .inl (M.1 0 291 x1.toNat)] [] M)) : g_R (D + 1) 96 Q 0 [.inr (0, 286), .inl x1, .inl x2, .inl x3, .inl x4, .inl x5] [] M := by
  subst hD
  exact g_go hk_96 ⟨rfl, rfl⟩ (g_C_ok (g_F_ok (D := D1))) sp_96 6 h
set_option maxRecDepth 20000 in
theorem rg_96_8 {D : Nat} {Q : g_P} {M : g_M} {x1 : Int} {x2 : Int} {x3 : Int} {x4 : Int} {x5 : Int} {x6 : Int} {D1 : Nat} (hD : D = D1 + 2) (h : (x6 ≤ x2 → ((hm_in ((10 : Int) * x1)) ∧ ((hm_in (((10 : Int) * x1) + x2)) ∧ (((0 : Int) ≤ ((10 : Int) * x1) + x2 ∧ ((10 : Int) * x1) + x2 < ((2000 : Nat) : Int)) ∧ ((hm_in ((10 : Int) * x1)) ∧ ((hm_in (((10 : Int) * x1) + x2)) ∧ (((0 : Int) ≤ ((10 : Int) * x1) + x2 ∧ ((10 : Int) * x1) + x2 < ((2000 : Nat) : Int)) ∧ ((hm_in ((10 : Int) * x1)) ∧ ((hm_in (((10 : Int) * x1) + x2)) ∧ (((0 : Int) ≤ ((10 : Int) * x1) + x2 ∧ ((10 : Int) * x1) + x2 < ((2000 : Nat) : Int)) ∧ (((0 : Int) ≤ x1 ∧ x1 < ((200 : Nat) : Int)) ∧ ((hm_in ((M.1 0 291 x1.toNat) + (1 : Int))) ∧ (((0 : Int) ≤ x1 ∧ x1 < ((200 : Nat) : Int)) ∧ (Q [] (g_uA (g_uA (g_uA (g_uA M (0, 292) (((10 : Int) * x1) + x2).toNat x3) (0, 293) (((10 : Int) * x1) + x2).toNat x4) (0, 294) (((10 : Int) * x1) + x2).toNat x5) (0, 291) x1.toNat ((M.1 0 291 x1.toNat) + (1 : Int))))))))))))))))) ∧ (x2 < x6 → ((hm_in (x6 - (1 : Int))) ∧ (g_Ev D 97 [.inr (0, 286), .inl x1, .inl (x6 - (1 : Int)), .inl x6] M (fun q M' => g_R (D + 1) 96 Q 25 [.inr (0, 286), .inl x1, .inl x2, .inl x3, .inl x4, .inl x5, .inl x6] (q ++ []) M'))))) : g_R (D + 1) 96 Q 8 [.inr (0, 286), .inl x1, .inl x2, .inl x3, .inl x4, .inl x5, .inl x6] [] M := by
  subst hD
  exact g_go hk_96 ⟨rfl, rfl⟩ (g_C_ok (g_F_ok (D := D1))) sp_96 40 h
set_option maxRecDepth 20000 in
theorem rg_96_25 {D : Nat} {Q : g_P} {M : g_M} {x1 : Int} {x2 : Int} {x3 : Int} {x4 : Int} {x5 : Int} {x6 : Int} {D1 : Nat} (hD : D = D1 + 2) (h : (hm_in (x6 + (-1 : Int))) ∧ (g_R (D + 1) 96 Q 8 [.inr (0, 286), .inl x1, .inl x2, .inl x3, .inl x4, .inl x5, .inl (x6 + (-1 : Int))] [] M)) : g_R (D + 1) 96 Q 25 [.inr (0, 286), .inl x1, .inl x2, .inl x3, .inl x4, .inl x5, .inl x6] [] M := by
  subst hD
  exact g_go hk_96 ⟨rfl, rfl⟩ (g_C_ok (g_F_ok (D := D1))) sp_96 3 h
theorem hn_97 : 4 ≤ (hm_me 97).2.2.1 := by decide +kernel
/-- HeapLawModel.movePart(III)V -/
def sp_97 (pc : Nat) : Option Nat := match pc with
  | _ => none
set_option maxRecDepth 20000 in
theorem rg_97_0 {D : Nat} {Q : g_P} {M : g_M} {x1 : Int} {x2 : Int} {x3 : Int} {D1 : Nat} (hD : D = D1 + 2) (h : (hm_in ((10 : Int) * x1)) ∧ ((hm_in (((10 : Int) * x1) + x3)) ∧ ((hm_in ((10 : Int) * x1)) ∧ ((hm_in (((10 : Int) * x1) + x2)) ∧ (((0 : Int) ≤ ((10 : Int) * x1) + x2 ∧ ((10 : Int) * x1) + x2 < ((2000 : Nat) : Int)) ∧ (((0 : Int) ≤ ((10 : Int) * x1) + x3 ∧ ((10 : Int) * x1) + x3 < ((2000 : Nat) : Int)) ∧ ((hm_in ((10 : Int) * x1)) ∧ ((hm_in (((10 : Int) * x1) + x3)) ∧ ((hm_in ((10 : Int) * x1)) ∧ ((hm_in (((10 : Int) * x1) + x2)) ∧ (((0 : Int) ≤ ((10 : Int) * x1) + x2 ∧ ((10 : Int) * x1) + x2 < ((2000 : Nat) : Int)) ∧ (((0 : Int) ≤ ((10 : Int) * x1) + x3 ∧ ((10 : Int) * x1) + x3 < ((2000 : Nat) : Int)) ∧ ((hm_in ((10 : Int) * x1)) ∧ ((hm_in (((10 : Int) * x1) + x3)) ∧ ((hm_in ((10 : Int) * x1)) ∧ ((hm_in (((10 : Int) * x1) + x2)) ∧ (((0 : Int) ≤ ((10 : Int) * x1) + x2 ∧ ((10 : Int) * x1) + x2 < ((2000 : Nat) : Int)) ∧ (((0 : Int) ≤ ((10 : Int) * x1) + x3 ∧ ((10 : Int) * x1) + x3 < ((2000 : Nat) : Int)) ∧ (Q [] (g_uA (g_uA (g_uA M (0, 292) (((10 : Int) * x1) + x3).toNat (M.1 0 292 (((10 : Int) * x1) + x2).toNat)) (0, 293) (((10 : Int) * x1) + x3).toNat (M.1 0 293 (((10 : Int) * x1) + x2).toNat)) (0, 294) (((10 : Int) * x1) + x3).toNat (M.1 0 294 (((10 : Int) * x1) + x2).toNat))))))))))))))))))))) : g_R (D + 1) 97 Q 0 [.inr (0, 286), .inl x1, .inl x2, .inl x3] [] M := by
  subst hD
  exact g_go hk_97 ⟨rfl, rfl⟩ (g_C_ok (g_F_ok (D := D1))) sp_97 50 h
theorem hn_98 : 3 ≤ (hm_me 98).2.2.1 := by decide +kernel
/-- HeapLawModel.beside(II)I -/
def sp_98 (pc : Nat) : Option Nat := match pc with
  | 77 => some 4
  | 80 => some 5
  | 132 => some 5
  | 141 => some 5
  | 199 => some 5
  | _ => none
set_option maxRecDepth 20000 in
theorem rg_98_0 {D : Nat} {Q : g_P} {M : g_M} {x1 : Int} {x2 : Int} {D1 : Nat} (hD : D = D1 + 2) (h : ((0 ≤ x1 ∧ x1 < M.1 0 286 1) → (((1 : Int) = (0 : Int) → (Q [.inl (-1 : Int)] M)) ∧ (¬ (1 : Int) = (0 : Int) → (((0 ≤ x2 ∧ x2 < M.1 0 286 1) → ((¬ (1 : Int) = (0 : Int) → ((M.1 0 286 1 = (60 : Int) → (Q [.inl (-2 : Int)] M)) ∧ (¬ M.1 0 286 1 = (60 : Int) → (((0 : Int) ≤ x1 ∧ x1 < ((200 : Nat) : Int)) ∧ (((0 : Int) ≤ x2 ∧ x2 < ((200 : Nat) : Int)) ∧ ((hm_in ((M.1 0 287 x1.toNat) + (M.1 0 287 x2.toNat))) ∧ (((16 : Int) < (M.1 0 287 x1.toNat) + (M.1 0 287 x2.toNat) → (Q [.inl (-2 : Int)] M)) ∧ ((M.1 0 287 x1.toNat) + (M.1 0 287 x2.toNat) ≤ (16 : Int) → (((0 : Int) ≤ x1 ∧ x1 < ((200 : Nat) : Int)) ∧ (((0 : Int) ≤ x2 ∧ x2 < ((200 : Nat) : Int)) ∧ ((hm_in ((M.1 0 291 x1.toNat) + (M.1 0 291 x2.toNat))) ∧ (((M.1 0 291 x1.toNat) + (M.1 0 291 x2.toNat) ≤ (10 : Int) → (g_Ev D 99 [.inr (0, 286), .inl x1, .inl (M.1 0 286 1)] M (fun q M' => g_R (D + 1) 98 Q 77 [.inr (0, 286), .inl x1, .inl x2, .inl (M.1 0 286 1)] (q ++ []) M'))) ∧ ((10 : Int) < (M.1 0 291 x1.toNat) + (M.1 0 291 x2.toNat) → (Q [.inl (-2 : Int)] M)))))))))))))) ∧ ((1 : Int) = (0 : Int) → (Q [.inl (-1 : Int)] M)))) ∧ (¬ (0 ≤ x2 ∧ x2 < M.1 0 286 1) → ((¬ (0 : Int) = (0 : Int) → ((M.1 0 286 1 = (60 : Int) → (Q [.inl (-2 : Int)] M)) ∧ (¬ M.1 0 286 1 = (60 : Int) → (((0 : Int) ≤ x1 ∧ x1 < ((200 : Nat) : Int)) ∧ (((0 : Int) ≤ x2 ∧ x2 < ((200 : Nat) : Int)) ∧ ((hm_in ((M.1 0 287 x1.toNat) + (M.1 0 287 x2.toNat))) ∧ (((16 : Int) < (M.1 0 287 x1.toNat) + (M.1 0 287 x2.toNat) → (Q [.inl (-2 : Int)] M)) ∧ ((M.1 0 287 x1.toNat) + (M.1 0 287 x2.toNat) ≤ (16 : Int) → (((0 : Int) ≤ x1 ∧ x1 < ((200 : Nat) : Int)) ∧ (((0 : Int) ≤ x2 ∧ x2 < ((200 : Nat) : Int)) ∧ ((hm_in ((M.1 0 291 x1.toNat) + (M.1 0 291 x2.toNat))) ∧ (((M.1 0 291 x1.toNat) + (M.1 0 291 x2.toNat) ≤ (10 : Int) → (g_Ev D 99 [.inr (0, 286), .inl x1, .inl (M.1 0 286 1)] M (fun q M' => g_R (D + 1) 98 Q 77 [.inr (0, 286), .inl x1, .inl x2, .inl (M.1 0 286 1)] (q ++ []) M'))) ∧ ((10 : Int) < (M.1 0 291 x1.toNat) + (M.1 0 291 x2.toNat) → (Q [.inl (-2 : Int)] M)))))))))))))) ∧ ((0 : Int) = (0 : Int) → (Q [.inl (-1 : Int)] M)))))))) ∧ (¬ (0 ≤ x1 ∧ x1 < M.1 0 286 1) → (((0 : Int) = (0 : Int) → (Q [.inl (-1 : Int)] M)) ∧ (¬ (0 : Int) = (0 : Int) → (((0 ≤ x2 ∧ x2 < M.1 0 286 1) → ((¬ (1 : Int) = (0 : Int) → ((M.1 0 286 1 = (60 : Int) → (Q [.inl (-2 : Int)] M)) ∧ (¬ M.1 0 286 1 = (60 : Int) → (((0 : Int) ≤ x1 ∧ x1 < ((200 : Nat) : Int)) ∧ (((0 : Int) ≤ x2 ∧ x2 < ((200 : Nat) : Int)) ∧ ((hm_in ((M.1 0 287 x1.toNat) + (M.1 0 287 x2.toNat))) ∧ (((16 : Int) < (M.1 0 287 x1.toNat) + (M.1 0 287 x2.toNat) → (Q [.inl (-2 : Int)] M)) ∧ ((M.1 0 287 x1.toNat) + (M.1 0 287 x2.toNat) ≤ (16 : Int) → (((0 : Int) ≤ x1 ∧ x1 < ((200 : Nat) : Int)) ∧ (((0 : Int) ≤ x2 ∧ x2 < ((200 : Nat) : Int)) ∧ ((hm_in ((M.1 0 291 x1.toNat) + (M.1 0 291 x2.toNat))) ∧ (((M.1 0 291 x1.toNat) + (M.1 0 291 x2.toNat) ≤ (10 : Int) → (g_Ev D 99 [.inr (0, 286), .inl x1, .inl (M.1 0 286 1)] M (fun q M' => g_R (D + 1) 98 Q 77 [.inr (0, 286), .inl x1, .inl x2, .inl (M.1 0 286 1)] (q ++ []) M'))) ∧ ((10 : Int) < (M.1 0 291 x1.toNat) + (M.1 0 291 x2.toNat) → (Q [.inl (-2 : Int)] M)))))))))))))) ∧ ((1 : Int) = (0 : Int) → (Q [.inl (-1 : Int)] M)))) ∧ (¬ (0 ≤ x2 ∧ x2 < M.1 0 286 1) → ((¬ (0 : Int) = (0 : Int) → ((M.1 0 286 1 = (60 : Int) → (Q [.inl (-2 : Int)] M)) ∧ (¬ M.1 0 286 1 = (60 : Int) → (((0 : Int) ≤ x1 ∧ x1 < ((200 : Nat) : Int)) ∧ (((0 : Int) ≤ x2 ∧ x2 < ((200 : Nat) : Int)) ∧ ((hm_in ((M.1 0 287 x1.toNat) + (M.1 0 287 x2.toNat))) ∧ (((16 : Int) < (M.1 0 287 x1.toNat) + (M.1 0 287 x2.toNat) → (Q [.inl (-2 : Int)] M)) ∧ ((M.1 0 287 x1.toNat) + (M.1 0 287 x2.toNat) ≤ (16 : Int) → (((0 : Int) ≤ x1 ∧ x1 < ((200 : Nat) : Int)) ∧ (((0 : Int) ≤ x2 ∧ x2 < ((200 : Nat) : Int)) ∧ ((hm_in ((M.1 0 291 x1.toNat) + (M.1 0 291 x2.toNat))) ∧ (((M.1 0 291 x1.toNat) + (M.1 0 291 x2.toNat) ≤ (10 : Int) → (g_Ev D 99 [.inr (0, 286), .inl x1, .inl (M.1 0 286 1)] M (fun q M' => g_R (D + 1) 98 Q 77 [.inr (0, 286), .inl x1, .inl x2, .inl (M.1 0 286 1)] (q ++ []) M'))) ∧ ((10 : Int) < (M.1 0 291 x1.toNat) + (M.1 0 291 x2.toNat) → (Q [.inl (-2 : Int)] M)))))))))))))) ∧ ((0 : Int) = (0 : Int) → (Q [.inl (-1 : Int)] M))))))))) : g_R (D + 1) 98 Q 0 [.inr (0, 286), .inl x1, .inl x2] [] M := by
  subst hD
  exact g_go hk_98 ⟨rfl, rfl⟩ (g_C_ok (g_F_ok (D := D1))) sp_98 42 h
set_option maxRecDepth 20000 in
theorem rg_98_77 {D : Nat} {Q : g_P} {M : g_M} {x1 : Int} {x2 : Int} {x3 : Int} {D1 : Nat} (hD : D = D1 + 2) (h : g_R (D + 1) 98 Q 80 [.inr (0, 286), .inl x1, .inl x2, .inl x3, .inl (0 : Int)] [] M) : g_R (D + 1) 98 Q 77 [.inr (0, 286), .inl x1, .inl x2, .inl x3] [] M := by
  subst hD
  exact g_go hk_98 ⟨rfl, rfl⟩ (g_C_ok (g_F_ok (D := D1))) sp_98 3 h
set_option maxRecDepth 20000 in
theorem rg_98_80 {D : Nat} {Q : g_P} {M : g_M} {x1 : Int} {x2 : Int} {x3 : Int} {x4 : Int} {D1 : Nat} (hD : D = D1 + 2) (h : ((0 : Int) ≤ x2 ∧ x2 < ((200 : Nat) : Int)) ∧ ((M.1 0 287 x2.toNat ≤ x4 → (g_R (D + 1) 98 Q 141 [.inr (0, 286), .inl x1, .inl x2, .inl x3, .inl (0 : Int)] [] M)) ∧ (x4 < M.1 0 287 x2.toNat → ((hm_in ((16 : Int) * x2)) ∧ ((hm_in (((16 : Int) * x2) + x4)) ∧ (((0 : Int) ≤ ((16 : Int) * x2) + x4 ∧ ((16 : Int) * x2) + x4 < ((3200 : Nat) : Int)) ∧ ((hm_in ((16 : Int) * x2)) ∧ ((hm_in (((16 : Int) * x2) + x4)) ∧ (((0 : Int) ≤ ((16 : Int) * x2) + x4 ∧ ((16 : Int) * x2) + x4 < ((3200 : Nat) : Int)) ∧ ((hm_in ((16 : Int) * x2)) ∧ ((hm_in (((16 : Int) * x2) + x4)) ∧ (((0 : Int) ≤ ((16 : Int) * x2) + x4 ∧ ((16 : Int) * x2) + x4 < ((3200 : Nat) : Int)) ∧ (g_Ev D 94 [.inr (0, 286), .inl x3, .inl (M.1 0 288 (((16 : Int) * x2) + x4).toNat), .inl (M.1 0 289 (((16 : Int) * x2) + x4).toNat), .inl (M.1 0 290 (((16 : Int) * x2) + x4).toNat)] M (fun q M' => g_R (D + 1) 98 Q 132 [.inr (0, 286), .inl x1, .inl x2, .inl x3, .inl x4] (q ++ []) M')))))))))))))) : g_R (D + 1) 98 Q 80 [.inr (0, 286), .inl x1, .inl x2, .inl x3, .inl x4] [] M := by
  subst hD
  exact g_go hk_98 ⟨rfl, rfl⟩ (g_C_ok (g_F_ok (D := D1))) sp_98 34 h
set_option maxRecDepth 20000 in
theorem rg_98_132 {D : Nat} {Q : g_P} {M : g_M} {x1 : Int} {x2 : Int} {x3 : Int} {x4 : Int} {D1 : Nat} (hD : D = D1 + 2) (h : (hm_in (x4 + (1 : Int))) ∧ (g_R (D + 1) 98 Q 80 [.inr (0, 286), .inl x1, .inl x2, .inl x3, .inl (x4 + (1 : Int))] [] M)) : g_R (D + 1) 98 Q 132 [.inr (0, 286), .inl x1, .inl x2, .inl x3, .inl x4] [] M := by
  subst hD
  exact g_go hk_98 ⟨rfl, rfl⟩ (g_C_ok (g_F_ok (D := D1))) sp_98 3 h
set_option maxRecDepth 20000 in
theorem rg_98_141 {D : Nat} {Q : g_P} {M : g_M} {x1 : Int} {x2 : Int} {x3 : Int} {x4 : Int} {D1 : Nat} (hD : D = D1 + 2) (h : ((0 : Int) ≤ x2 ∧ x2 < ((200 : Nat) : Int)) ∧ ((M.1 0 291 x2.toNat ≤ x4 → ((hm_in ((M.1 0 286 1) + (1 : Int))) ∧ (Q [.inl x3] (g_uA M (0, 286) 1 ((M.1 0 286 1) + (1 : Int)))))) ∧ (x4 < M.1 0 291 x2.toNat → (((0 : Int) ≤ x3 ∧ x3 < ((200 : Nat) : Int)) ∧ ((hm_in ((10 : Int) * x2)) ∧ ((hm_in (((10 : Int) * x2) + x4)) ∧ (((0 : Int) ≤ ((10 : Int) * x2) + x4 ∧ ((10 : Int) * x2) + x4 < ((2000 : Nat) : Int)) ∧ ((hm_in ((10 : Int) * x2)) ∧ ((hm_in (((10 : Int) * x2) + x4)) ∧ (((0 : Int) ≤ ((10 : Int) * x2) + x4 ∧ ((10 : Int) * x2) + x4 < ((2000 : Nat) : Int)) ∧ ((hm_in ((10 : Int) * x2)) ∧ ((hm_in (((10 : Int) * x2) + x4)) ∧ (((0 : Int) ≤ ((10 : Int) * x2) + x4 ∧ ((10 : Int) * x2) + x4 < ((2000 : Nat) : Int)) ∧ (g_Ev D 96 [.inr (0, 286), .inl x3, .inl (M.1 0 291 x3.toNat), .inl (M.1 0 292 (((10 : Int) * x2) + x4).toNat), .inl (M.1 0 293 (((10 : Int) * x2) + x4).toNat), .inl (M.1 0 294 (((10 : Int) * x2) + x4).toNat)] M (fun q M' => g_R (D + 1) 98 Q 199 [.inr (0, 286), .inl x1, .inl x2, .inl x3, .inl x4] (q ++ []) M'))))))))))))))) : g_R (D + 1) 98 Q 141 [.inr (0, 286), .inl x1, .inl x2, .inl x3, .inl x4] [] M := by
  subst hD
  exact g_go hk_98 ⟨rfl, rfl⟩ (g_C_ok (g_F_ok (D := D1))) sp_98 38 h
set_option maxRecDepth 20000 in
theorem rg_98_199 {D : Nat} {Q : g_P} {M : g_M} {x1 : Int} {x2 : Int} {x3 : Int} {x4 : Int} {D1 : Nat} (hD : D = D1 + 2) (h : (hm_in (x4 + (1 : Int))) ∧ (g_R (D + 1) 98 Q 141 [.inr (0, 286), .inl x1, .inl x2, .inl x3, .inl (x4 + (1 : Int))] [] M)) : g_R (D + 1) 98 Q 199 [.inr (0, 286), .inl x1, .inl x2, .inl x3, .inl x4] [] M := by
  subst hD
  exact g_go hk_98 ⟨rfl, rfl⟩ (g_C_ok (g_F_ok (D := D1))) sp_98 3 h
theorem hn_99 : 3 ≤ (hm_me 99).2.2.1 := by decide +kernel
/-- HeapLawModel.copy(II)V -/
def sp_99 (pc : Nat) : Option Nat := match pc with
  | 26 => some 4
  | 110 => some 4
  | _ => none
set_option maxRecDepth 20000 in
theorem rg_99_0 {D : Nat} {Q : g_P} {M : g_M} {x1 : Int} {x2 : Int} {D1 : Nat} (hD : D = D1 + 2) (h : ((0 : Int) ≤ x1 ∧ x1 < ((200 : Nat) : Int)) ∧ (((0 : Int) ≤ x2 ∧ x2 < ((200 : Nat) : Int)) ∧ (((0 : Int) ≤ x1 ∧ x1 < ((200 : Nat) : Int)) ∧ (((0 : Int) ≤ x2 ∧ x2 < ((200 : Nat) : Int)) ∧ (g_R (D + 1) 99 Q 26 [.inr (0, 286), .inl x1, .inl x2, .inl (0 : Int)] [] (g_uA (g_uA M (0, 287) x2.toNat (M.1 0 287 x1.toNat)) (0, 291) x2.toNat (M.1 0 291 x1.toNat))))))) : g_R (D + 1) 99 Q 0 [.inr (0, 286), .inl x1, .inl x2] [] M := by
  subst hD
  exact g_go hk_99 ⟨rfl, rfl⟩ (g_C_ok (g_F_ok (D := D1))) sp_99 19 h
set_option maxRecDepth 20000 in
theorem rg_99_26 {D : Nat} {Q : g_P} {M : g_M} {x1 : Int} {x2 : Int} {x3 : Int} {D1 : Nat} (hD : D = D1 + 2) (h : ((0 : Int) ≤ x1 ∧ x1 < ((200 : Nat) : Int)) ∧ ((M.1 0 287 x1.toNat ≤ x3 → (g_R (D + 1) 99 Q 110 [.inr (0, 286), .inl x1, .inl x2, .inl (0 : Int)] [] M)) ∧ (x3 < M.1 0 287 x1.toNat → ((hm_in ((16 : Int) * x2)) ∧ ((hm_in (((16 : Int) * x2) + x3)) ∧ ((hm_in ((16 : Int) * x1)) ∧ ((hm_in (((16 : Int) * x1) + x3)) ∧ (((0 : Int) ≤ ((16 : Int) * x1) + x3 ∧ ((16 : Int) * x1) + x3 < ((3200 : Nat) : Int)) ∧ (((0 : Int) ≤ ((16 : Int) * x2) + x3 ∧ ((16 : Int) * x2) + x3 < ((3200 : Nat) : Int)) ∧ ((hm_in ((16 : Int) * x2)) ∧ ((hm_in (((16 : Int) * x2) + x3)) ∧ ((hm_in ((16 : Int) * x1)) ∧ ((hm_in (((16 : Int) * x1) + x3)) ∧ (((0 : Int) ≤ ((16 : Int) * x1) + x3 ∧ ((16 : Int) * x1) + x3 < ((3200 : Nat) : Int)) ∧ (((0 : Int) ≤ ((16 : Int) * x2) + x3 ∧ ((16 : Int) * x2) + x3 < ((3200 : Nat) : Int)) ∧ ((hm_in ((16 : Int) * x2)) ∧ ((hm_in (((16 : Int) * x2) + x3)) ∧ ((hm_in ((16 : Int) * x1)) ∧ ((hm_in (((16 : Int) * x1) + x3)) ∧ (((0 : Int) ≤ ((16 : Int) * x1) + x3 ∧ ((16 : Int) * x1) + x3 < ((3200 : Nat) : Int)) ∧ (((0 : Int) ≤ ((16 : Int) * x2) + x3 ∧ ((16 : Int) * x2) + x3 < ((3200 : Nat) : Int)) ∧ ((hm_in (x3 + (1 : Int))) ∧ (g_R (D + 1) 99 Q 26 [.inr (0, 286), .inl x1, .inl x2, .inl (x3 + (1 : Int))] [] (g_uA (g_uA (g_uA M (0, 288) (((16 : Int) * x2) + x3).toNat (M.1 0 288 (((16 : Int) * x1) + x3).toNat)) (0, 289) (((16 : Int) * x2) + x3).toNat (M.1 0 289 (((16 : Int) * x1) + x3).toNat)) (0, 290) (((16 : Int) * x2) + x3).toNat (M.1 0 290 (((16 : Int) * x1) + x3).toNat))))))))))))))))))))))))) : g_R (D + 1) 99 Q 26 [.inr (0, 286), .inl x1, .inl x2, .inl x3] [] M := by
  subst hD
  exact g_go hk_99 ⟨rfl, rfl⟩ (g_C_ok (g_F_ok (D := D1))) sp_99 57 h
set_option maxRecDepth 20000 in
theorem rg_99_110 {D : Nat} {Q : g_P} {M : g_M} {x1 : Int} {x2 : Int} {x3 : Int} {D1 : Nat} (hD : D = D1 + 2) (h : ((0 : Int) ≤ x1 ∧ x1 < ((200 : Nat) : Int)) ∧ ((M.1 0 291 x1.toNat ≤ x3 → (Q [] M)) ∧ (x3 < M.1 0 291 x1.toNat → ((hm_in ((10 : Int) * x2)) ∧ ((hm_in (((10 : Int) * x2) + x3)) ∧ ((hm_in ((10 : Int) * x1)) ∧ ((hm_in (((10 : Int) * x1) + x3)) ∧ (((0 : Int) ≤ ((10 : Int) * x1) + x3 ∧ ((10 : Int) * x1) + x3 < ((2000 : Nat) : Int)) ∧ (((0 : Int) ≤ ((10 : Int) * x2) + x3 ∧ ((10 : Int) * x2) + x3 < ((2000 : Nat) : Int)) ∧ ((hm_in ((10 : Int) * x2)) ∧ ((hm_in (((10 : Int) * x2) + x3)) ∧ ((hm_in ((10 : Int) * x1)) ∧ ((hm_in (((10 : Int) * x1) + x3)) ∧ (((0 : Int) ≤ ((10 : Int) * x1) + x3 ∧ ((10 : Int) * x1) + x3 < ((2000 : Nat) : Int)) ∧ (((0 : Int) ≤ ((10 : Int) * x2) + x3 ∧ ((10 : Int) * x2) + x3 < ((2000 : Nat) : Int)) ∧ ((hm_in ((10 : Int) * x2)) ∧ ((hm_in (((10 : Int) * x2) + x3)) ∧ ((hm_in ((10 : Int) * x1)) ∧ ((hm_in (((10 : Int) * x1) + x3)) ∧ (((0 : Int) ≤ ((10 : Int) * x1) + x3 ∧ ((10 : Int) * x1) + x3 < ((2000 : Nat) : Int)) ∧ (((0 : Int) ≤ ((10 : Int) * x2) + x3 ∧ ((10 : Int) * x2) + x3 < ((2000 : Nat) : Int)) ∧ ((hm_in (x3 + (1 : Int))) ∧ (g_R (D + 1) 99 Q 110 [.inr (0, 286), .inl x1, .inl x2, .inl (x3 + (1 : Int))] [] (g_uA (g_uA (g_uA M (0, 292) (((10 : Int) * x2) + x3).toNat (M.1 0 292 (((10 : Int) * x1) + x3).toNat)) (0, 293) (((10 : Int) * x2) + x3).toNat (M.1 0 293 (((10 : Int) * x1) + x3).toNat)) (0, 294) (((10 : Int) * x2) + x3).toNat (M.1 0 294 (((10 : Int) * x1) + x3).toNat))))))))))))))))))))))))) : g_R (D + 1) 99 Q 110 [.inr (0, 286), .inl x1, .inl x2, .inl x3] [] M := by
  subst hD
  exact g_go hk_99 ⟨rfl, rfl⟩ (g_C_ok (g_F_ok (D := D1))) sp_99 57 h
theorem hn_100 : 3 ≤ (hm_me 100).2.2.1 := by decide +kernel
/-- HeapLawModel.size(II)I -/
def sp_100 (pc : Nat) : Option Nat := match pc with
  | _ => none
set_option maxRecDepth 20000 in
theorem rg_100_0 {D : Nat} {Q : g_P} {M : g_M} {x1 : Int} {x2 : Int} {D1 : Nat} (hD : D = D1 + 2) (h : ((0 ≤ x1 ∧ x1 < M.1 0 286 1) → (((1 : Int) = (0 : Int) → (Q [.inl (-1 : Int)] M)) ∧ (¬ (1 : Int) = (0 : Int) → ((x2 < (0 : Int) → (Q [.inl (-1 : Int)] M)) ∧ ((0 : Int) ≤ x2 → ((x2 ≤ (1 : Int) → ((¬ x2 = (0 : Int) → (((0 : Int) ≤ x1 ∧ x1 < ((200 : Nat) : Int)) ∧ (Q [.inl (M.1 0 291 x1.toNat)] M))) ∧ (x2 = (0 : Int) → (((0 : Int) ≤ x1 ∧ x1 < ((200 : Nat) : Int)) ∧ (Q [.inl (M.1 0 287 x1.toNat)] M))))) ∧ ((1 : Int) < x2 → (Q [.inl (-1 : Int)] M)))))))) ∧ (¬ (0 ≤ x1 ∧ x1 < M.1 0 286 1) → (((0 : Int) = (0 : Int) → (Q [.inl (-1 : Int)] M)) ∧ (¬ (0 : Int) = (0 : Int) → ((x2 < (0 : Int) → (Q [.inl (-1 : Int)] M)) ∧ ((0 : Int) ≤ x2 → ((x2 ≤ (1 : Int) → ((¬ x2 = (0 : Int) → (((0 : Int) ≤ x1 ∧ x1 < ((200 : Nat) : Int)) ∧ (Q [.inl (M.1 0 291 x1.toNat)] M))) ∧ (x2 = (0 : Int) → (((0 : Int) ≤ x1 ∧ x1 < ((200 : Nat) : Int)) ∧ (Q [.inl (M.1 0 287 x1.toNat)] M))))) ∧ ((1 : Int) < x2 → (Q [.inl (-1 : Int)] M))))))))) : g_R (D + 1) 100 Q 0 [.inr (0, 286), .inl x1, .inl x2] [] M := by
  subst hD
  exact g_go hk_100 ⟨rfl, rfl⟩ (g_C_ok (g_F_ok (D := D1))) sp_100 18 h
theorem hn_101 : 5 ≤ (hm_me 101).2.2.1 := by decide +kernel
/-- HeapLawModel.told(IIII)I -/
def sp_101 (pc : Nat) : Option Nat := match pc with
  | _ => none
set_option maxRecDepth 20000 in
theorem rg_101_0 {D : Nat} {Q : g_P} {M : g_M} {x1 : Int} {x2 : Int} {x3 : Int} {x4 : Int} {D1 : Nat} (hD : D = D1 + 2) (h : ((0 ≤ x1 ∧ x1 < M.1 0 286 1) → (((1 : Int) = (0 : Int) → (Q [.inl (-1 : Int)] M)) ∧ (¬ (1 : Int) = (0 : Int) → ((x2 < (0 : Int) → (Q [.inl (-1 : Int)] M)) ∧ ((0 : Int) ≤ x2 → (((1 : Int) < x2 → (Q [.inl (-1 : Int)] M)) ∧ (x2 ≤ (1 : Int) → ((x3 < (0 : Int) → (Q [.inl (-1 : Int)] M)) ∧ ((0 : Int) ≤ x3 → ((¬ x2 = (0 : Int) → (((0 : Int) ≤ x1 ∧ x1 < ((200 : Nat) : Int)) ∧ ((M.1 0 291 x1.toNat ≤ x3 → (Q [.inl (-1 : Int)] M)) ∧ (x3 < M.1 0 291 x1.toNat → ((x4 < (0 : Int) → (Q [.inl (-1 : Int)] M)) ∧ ((0 : Int) ≤ x4 → ((x4 ≤ (2 : Int) → ((¬ x2 = (0 : Int) → ((¬ x4 = (0 : Int) → ((¬ x4 = (1 : Int) → ((hm_in ((10 : Int) * x1)) ∧ ((hm_in (((10 : Int) * x1) + x3)) ∧ (((0 : Int) ≤ ((10 : Int) * x1) + x3 ∧ ((10 : Int) * x1) + x3 < ((2000 : Nat) : Int)) ∧ (Q [.inl (M.1 0 294 (((10 : Int) * x1) + x3).toNat)] M))))) ∧ (x4 = (1 : Int) → ((hm_in ((10 : Int) * x1)) ∧ ((hm_in (((10 : Int) * x1) + x3)) ∧ (((0 : Int) ≤ ((10 : Int) * x1) + x3 ∧ ((10 : Int) * x1) + x3 < ((2000 : Nat) : Int)) ∧ (Q [.inl (M.1 0 293 (((10 : Int) * x1) + x3).toNat)] M))))))) ∧ (x4 = (0 : Int) → ((hm_in ((10 : Int) * x1)) ∧ ((hm_in (((10 : Int) * x1) + x3)) ∧ (((0 : Int) ≤ ((10 : Int) * x1) + x3 ∧ ((10 : Int) * x1) + x3 < ((2000 : Nat) : Int)) ∧ (Q [.inl (M.1 0 292 (((10 : Int) * x1) + x3).toNat)] M))))))) ∧ (x2 = (0 : Int) → ((¬ x4 = (0 : Int) → ((¬ x4 = (1 : Int) → ((hm_in ((16 : Int) * x1)) ∧ ((hm_in (((16 : Int) * x1) + x3)) ∧ (((0 : Int) ≤ ((16 : Int) * x1) + x3 ∧ ((16 : Int) * x1) + x3 < ((3200 : Nat) : Int)) ∧ (Q [.inl (M.1 0 290 (((16 : Int) * x1) + x3).toNat)] M))))) ∧ (x4 = (1 : Int) → ((hm_in ((16 : Int) * x1)) ∧ ((hm_in (((16 : Int) * x1) + x3)) ∧ (((0 : Int) ≤ ((16 : Int) * x1) + x3 ∧ ((16 : Int) * x1) + x3 < ((3200 : Nat) : Int)) ∧ (Q [.inl (M.1 0 289 (((16 : Int) * x1) + x3).toNat)] M))))))) ∧ (x4 = (0 : Int) → ((hm_in ((16 : Int) * x1)) ∧ ((hm_in (((16 : Int) * x1) + x3)) ∧ (((0 : Int) ≤ ((16 : Int) * x1) + x3 ∧ ((16 : Int) * x1) + x3 < ((3200 : Nat) : Int)) ∧ (Q [.inl (M.1 0 288 (((16 : Int) * x1) + x3).toNat)] M))))))))) ∧ ((2 : Int) < x4 → (Q [.inl (-1 : Int)] M))))))))) ∧ (x2 = (0 : Int) → (((0 : Int) ≤ x1 ∧ x1 < ((200 : Nat) : Int)) ∧ ((M.1 0 287 x1.toNat ≤ x3 → (Q [.inl (-1 : Int)] M)) ∧ (x3 < M.1 0 287 x1.toNat → ((x4 < (0 : Int) → (Q [.inl (-1 : Int)] M)) ∧ ((0 : Int) ≤ x4 → ((x4 ≤ (2 : Int) → ((¬ x2 = (0 : Int) → ((¬ x4 = (0 : Int) → ((¬ x4 = (1 : Int) → ((hm_in ((10 : Int) * x1)) ∧ ((hm_in (((10 : Int) * x1) + x3)) ∧ (((0 : Int) ≤ ((10 : Int) * x1) + x3 ∧ ((10 : Int) * x1) + x3 < ((2000 : Nat) : Int)) ∧ (Q [.inl (M.1 0 294 (((10 : Int) * x1) + x3).toNat)] M))))) ∧ (x4 = (1 : Int) → ((hm_in ((10 : Int) * x1)) ∧ ((hm_in (((10 : Int) * x1) + x3)) ∧ (((0 : Int) ≤ ((10 : Int) * x1) + x3 ∧ ((10 : Int) * x1) + x3 < ((2000 : Nat) : Int)) ∧ (Q [.inl (M.1 0 293 (((10 : Int) * x1) + x3).toNat)] M))))))) ∧ (x4 = (0 : Int) → ((hm_in ((10 : Int) * x1)) ∧ ((hm_in (((10 : Int) * x1) + x3)) ∧ (((0 : Int) ≤ ((10 : Int) * x1) + x3 ∧ ((10 : Int) * x1) + x3 < ((2000 : Nat) : Int)) ∧ (Q [.inl (M.1 0 292 (((10 : Int) * x1) + x3).toNat)] M))))))) ∧ (x2 = (0 : Int) → ((¬ x4 = (0 : Int) → ((¬ x4 = (1 : Int) → ((hm_in ((16 : Int) * x1)) ∧ ((hm_in (((16 : Int) * x1) + x3)) ∧ (((0 : Int) ≤ ((16 : Int) * x1) + x3 ∧ ((16 : Int) * x1) + x3 < ((3200 : Nat) : Int)) ∧ (Q [.inl (M.1 0 290 (((16 : Int) * x1) + x3).toNat)] M))))) ∧ (x4 = (1 : Int) → ((hm_in ((16 : Int) * x1)) ∧ ((hm_in (((16 : Int) * x1) + x3)) ∧ (((0 : Int) ≤ ((16 : Int) * x1) + x3 ∧ ((16 : Int) * x1) + x3 < ((3200 : Nat) : Int)) ∧ (Q [.inl (M.1 0 289 (((16 : Int) * x1) + x3).toNat)] M))))))) ∧ (x4 = (0 : Int) → ((hm_in ((16 : Int) * x1)) ∧ ((hm_in (((16 : Int) * x1) + x3)) ∧ (((0 : Int) ≤ ((16 : Int) * x1) + x3 ∧ ((16 : Int) * x1) + x3 < ((3200 : Nat) : Int)) ∧ (Q [.inl (M.1 0 288 (((16 : Int) * x1) + x3).toNat)] M))))))))) ∧ ((2 : Int) < x4 → (Q [.inl (-1 : Int)] M))))))))))))))))))) ∧ (¬ (0 ≤ x1 ∧ x1 < M.1 0 286 1) → (((0 : Int) = (0 : Int) → (Q [.inl (-1 : Int)] M)) ∧ (¬ (0 : Int) = (0 : Int) → ((x2 < (0 : Int) → (Q [.inl (-1 : Int)] M)) ∧ ((0 : Int) ≤ x2 → (((1 : Int) < x2 → (Q [.inl (-1 : Int)] M)) ∧ (x2 ≤ (1 : Int) → ((x3 < (0 : Int) → (Q [.inl (-1 : Int)] M)) ∧ ((0 : Int) ≤ x3 → ((¬ x2 = (0 : Int) → (((0 : Int) ≤ x1 ∧ x1 < ((200 : Nat) : Int)) ∧ ((M.1 0 291 x1.toNat ≤ x3 → (Q [.inl (-1 : Int)] M)) ∧ (x3 < M.1 0 291 x1.toNat → ((x4 < (0 : Int) → (Q [.inl (-1 : Int)] M)) ∧ ((0 : Int) ≤ x4 → ((x4 ≤ (2 : Int) → ((¬ x2 = (0 : Int) → ((¬ x4 = (0 : Int) → ((¬ x4 = (1 : Int) → ((hm_in ((10 : Int) * x1)) ∧ ((hm_in (((10 : Int) * x1) + x3)) ∧ (((0 : Int) ≤ ((10 : Int) * x1) + x3 ∧ ((10 : Int) * x1) + x3 < ((2000 : Nat) : Int)) ∧ (Q [.inl (M.1 0 294 (((10 : Int) * x1) + x3).toNat)] M))))) ∧ (x4 = (1 : Int) → ((hm_in ((10 : Int) * x1)) ∧ ((hm_in (((10 : Int) * x1) + x3)) ∧ (((0 : Int) ≤ ((10 : Int) * x1) + x3 ∧ ((10 : Int) * x1) + x3 < ((2000 : Nat) : Int)) ∧ (Q [.inl (M.1 0 293 (((10 : Int) * x1) + x3).toNat)] M))))))) ∧ (x4 = (0 : Int) → ((hm_in ((10 : Int) * x1)) ∧ ((hm_in (((10 : Int) * x1) + x3)) ∧ (((0 : Int) ≤ ((10 : Int) * x1) + x3 ∧ ((10 : Int) * x1) + x3 < ((2000 : Nat) : Int)) ∧ (Q [.inl (M.1 0 292 (((10 : Int) * x1) + x3).toNat)] M))))))) ∧ (x2 = (0 : Int) → ((¬ x4 = (0 : Int) → ((¬ x4 = (1 : Int) → ((hm_in ((16 : Int) * x1)) ∧ ((hm_in (((16 : Int) * x1) + x3)) ∧ (((0 : Int) ≤ ((16 : Int) * x1) + x3 ∧ ((16 : Int) * x1) + x3 < ((3200 : Nat) : Int)) ∧ (Q [.inl (M.1 0 290 (((16 : Int) * x1) + x3).toNat)] M))))) ∧ (x4 = (1 : Int) → ((hm_in ((16 : Int) * x1)) ∧ ((hm_in (((16 : Int) * x1) + x3)) ∧ (((0 : Int) ≤ ((16 : Int) * x1) + x3 ∧ ((16 : Int) * x1) + x3 < ((3200 : Nat) : Int)) ∧ (Q [.inl (M.1 0 289 (((16 : Int) * x1) + x3).toNat)] M))))))) ∧ (x4 = (0 : Int) → ((hm_in ((16 : Int) * x1)) ∧ ((hm_in (((16 : Int) * x1) + x3)) ∧ (((0 : Int) ≤ ((16 : Int) * x1) + x3 ∧ ((16 : Int) * x1) + x3 < ((3200 : Nat) : Int)) ∧ (Q [.inl (M.1 0 288 (((16 : Int) * x1) + x3).toNat)] M))))))))) ∧ ((2 : Int) < x4 → (Q [.inl (-1 : Int)] M))))))))) ∧ (x2 = (0 : Int) → (((0 : Int) ≤ x1 ∧ x1 < ((200 : Nat) : Int)) ∧ ((M.1 0 287 x1.toNat ≤ x3 → (Q [.inl (-1 : Int)] M)) ∧ (x3 < M.1 0 287 x1.toNat → ((x4 < (0 : Int) → (Q [.inl (-1 : Int)] M)) ∧ ((0 : Int) ≤ x4 → ((x4 ≤ (2 : Int) → ((¬ x2 = (0 : Int) → ((¬ x4 = (0 : Int) → ((¬ x4 = (1 : Int) → ((hm_in ((10 : Int) * x1)) ∧ ((hm_in (((10 : Int) * x1) + x3)) ∧ (((0 : Int) ≤ ((10 : Int) * x1) + x3 ∧ ((10 : Int) * x1) + x3 < ((2000 : Nat) : Int)) ∧ (Q [.inl (M.1 0 294 (((10 : Int) * x1) + x3).toNat)] M))))) ∧ (x4 = (1 : Int) → ((hm_in ((10 : Int) * x1)) ∧ ((hm_in (((10 : Int) * x1) + x3)) ∧ (((0 : Int) ≤ ((10 : Int) * x1) + x3 ∧ ((10 : Int) * x1) + x3 < ((2000 : Nat) : Int)) ∧ (Q [.inl (M.1 0 293 (((10 : Int) * x1) + x3).toNat)] M))))))) ∧ (x4 = (0 : Int) → ((hm_in ((10 : Int) * x1)) ∧ ((hm_in (((10 : Int) * x1) + x3)) ∧ (((0 : Int) ≤ ((10 : Int) * x1) + x3 ∧ ((10 : Int) * x1) + x3 < ((2000 : Nat) : Int)) ∧ (Q [.inl (M.1 0 292 (((10 : Int) * x1) + x3).toNat)] M))))))) ∧ (x2 = (0 : Int) → ((¬ x4 = (0 : Int) → ((¬ x4 = (1 : Int) → ((hm_in ((16 : Int) * x1)) ∧ ((hm_in (((16 : Int) * x1) + x3)) ∧ (((0 : Int) ≤ ((16 : Int) * x1) + x3 ∧ ((16 : Int) * x1) + x3 < ((3200 : Nat) : Int)) ∧ (Q [.inl (M.1 0 290 (((16 : Int) * x1) + x3).toNat)] M))))) ∧ (x4 = (1 : Int) → ((hm_in ((16 : Int) * x1)) ∧ ((hm_in (((16 : Int) * x1) + x3)) ∧ (((0 : Int) ≤ ((16 : Int) * x1) + x3 ∧ ((16 : Int) * x1) + x3 < ((3200 : Nat) : Int)) ∧ (Q [.inl (M.1 0 289 (((16 : Int) * x1) + x3).toNat)] M))))))) ∧ (x4 = (0 : Int) → ((hm_in ((16 : Int) * x1)) ∧ ((hm_in (((16 : Int) * x1) + x3)) ∧ (((0 : Int) ≤ ((16 : Int) * x1) + x3 ∧ ((16 : Int) * x1) + x3 < ((3200 : Nat) : Int)) ∧ (Q [.inl (M.1 0 288 (((16 : Int) * x1) + x3).toNat)] M))))))))) ∧ ((2 : Int) < x4 → (Q [.inl (-1 : Int)] M)))))))))))))))))))) : g_R (D + 1) 101 Q 0 [.inr (0, 286), .inl x1, .inl x2, .inl x3, .inl x4] [] M := by
  subst hD
  exact g_go hk_101 ⟨rfl, rfl⟩ (g_C_ok (g_F_ok (D := D1))) sp_101 43 h
theorem hn_102 : 1 ≤ (hm_me 102).2.2.1 := by decide +kernel
/-- HeapLawModel.drop()I -/
def sp_102 (pc : Nat) : Option Nat := match pc with
  | _ => none
set_option maxRecDepth 20000 in
theorem rg_102_0 {D : Nat} {Q : g_P} {M : g_M} {D1 : Nat} (hD : D = D1 + 2) (h : (¬ M.1 0 286 1 = (0 : Int) → ((hm_in ((M.1 0 286 1) - (1 : Int))) ∧ (Q [.inl ((M.1 0 286 1) - (1 : Int))] (g_uA M (0, 286) 1 ((M.1 0 286 1) - (1 : Int)))))) ∧ (M.1 0 286 1 = (0 : Int) → (Q [.inl (-1 : Int)] M))) : g_R (D + 1) 102 Q 0 [.inr (0, 286)] [] M := by
  subst hD
  exact g_go hk_102 ⟨rfl, rfl⟩ (g_C_ok (g_F_ok (D := D1))) sp_102 13 h
theorem hn_103 : 3 ≤ (hm_me 103).2.2.1 := by decide +kernel
/-- HeapLawModel.set(II)I -/
def sp_103 (pc : Nat) : Option Nat := match pc with
  | _ => none
set_option maxRecDepth 20000 in
theorem rg_103_0 {D : Nat} {Q : g_P} {M : g_M} {x1 : Int} {x2 : Int} {D1 : Nat} (hD : D = D1 + 2) (h : ((0 < x1 ∧ x1 < 5) → (((1 : Int) = (0 : Int) → (Q [.inl (-1 : Int)] M)) ∧ (¬ (1 : Int) = (0 : Int) → (((0 ≤ x2 ∧ x2 < 10) → ((¬ (1 : Int) = (0 : Int) → (((0 : Int) ≤ x1 ∧ x1 < ((8 : Nat) : Int)) ∧ (((0 : Int) ≤ x1 ∧ x1 < ((8 : Nat) : Int)) ∧ (Q [.inl (M.1 0 295 x1.toNat)] (g_uA M (0, 295) x1.toNat x2))))) ∧ ((1 : Int) = (0 : Int) → (Q [.inl (-1 : Int)] M)))) ∧ (¬ (0 ≤ x2 ∧ x2 < 10) → ((¬ (0 : Int) = (0 : Int) → (((0 : Int) ≤ x1 ∧ x1 < ((8 : Nat) : Int)) ∧ (((0 : Int) ≤ x1 ∧ x1 < ((8 : Nat) : Int)) ∧ (Q [.inl (M.1 0 295 x1.toNat)] (g_uA M (0, 295) x1.toNat x2))))) ∧ ((0 : Int) = (0 : Int) → (Q [.inl (-1 : Int)] M)))))))) ∧ (¬ (0 < x1 ∧ x1 < 5) → (((0 : Int) = (0 : Int) → (Q [.inl (-1 : Int)] M)) ∧ (¬ (0 : Int) = (0 : Int) → (((0 ≤ x2 ∧ x2 < 10) → ((¬ (1 : Int) = (0 : Int) → (((0 : Int) ≤ x1 ∧ x1 < ((8 : Nat) : Int)) ∧ (((0 : Int) ≤ x1 ∧ x1 < ((8 : Nat) : Int)) ∧ (Q [.inl (M.1 0 295 x1.toNat)] (g_uA M (0, 295) x1.toNat x2))))) ∧ ((1 : Int) = (0 : Int) → (Q [.inl (-1 : Int)] M)))) ∧ (¬ (0 ≤ x2 ∧ x2 < 10) → ((¬ (0 : Int) = (0 : Int) → (((0 : Int) ≤ x1 ∧ x1 < ((8 : Nat) : Int)) ∧ (((0 : Int) ≤ x1 ∧ x1 < ((8 : Nat) : Int)) ∧ (Q [.inl (M.1 0 295 x1.toNat)] (g_uA M (0, 295) x1.toNat x2))))) ∧ ((0 : Int) = (0 : Int) → (Q [.inl (-1 : Int)] M))))))))) : g_R (D + 1) 103 Q 0 [.inr (0, 286), .inl x1, .inl x2] [] M := by
  subst hD
  exact g_go hk_103 ⟨rfl, rfl⟩ (g_C_ok (g_F_ok (D := D1))) sp_103 19 h
theorem hn_106 : 3 ≤ (hm_me 106).2.2.1 := by decide +kernel
/-- HeapLawModel.cell(II)I -/
def sp_106 (pc : Nat) : Option Nat := match pc with
  | _ => none
set_option maxRecDepth 20000 in
theorem rg_106_0 {D : Nat} {Q : g_P} {M : g_M} {x1 : Int} {x2 : Int} {D1 : Nat} (hD : D = D1 + 2) (h : (x1 < (1 : Int) → (Q [.inl (-1 : Int)] M)) ∧ ((1 : Int) ≤ x1 → (((9 : Int) < x1 → (Q [.inl (-1 : Int)] M)) ∧ (x1 ≤ (9 : Int) → ((x2 < (-1 : Int) → (Q [.inl (-1 : Int)] M)) ∧ ((-1 : Int) ≤ x2 → ((x2 ≤ (9 : Int) → (((0 : Int) ≤ x1 ∧ x1 < ((10 : Nat) : Int)) ∧ (((0 : Int) ≤ x1 ∧ x1 < ((10 : Nat) : Int)) ∧ (Q [.inl (M.1 0 296 x1.toNat)] (g_uA M (0, 296) x1.toNat x2))))) ∧ ((9 : Int) < x2 → (Q [.inl (-1 : Int)] M))))))))) : g_R (D + 1) 106 Q 0 [.inr (0, 286), .inl x1, .inl x2] [] M := by
  subst hD
  exact g_go hk_106 ⟨rfl, rfl⟩ (g_C_ok (g_F_ok (D := D1))) sp_106 25 h
theorem hn_107 : 2 ≤ (hm_me 107).2.2.1 := by decide +kernel
/-- HeapLawModel.value(I)I -/
def sp_107 (pc : Nat) : Option Nat := match pc with
  | _ => none
set_option maxRecDepth 20000 in
theorem rg_107_0 {D : Nat} {Q : g_P} {M : g_M} {x1 : Int} {D1 : Nat} (hD : D = D1 + 2) (h : ((0 < x1 ∧ x1 < 5) → (((1 : Int) = (0 : Int) → (Q [.inl (-1 : Int)] M)) ∧ (¬ (1 : Int) = (0 : Int) → (((0 : Int) ≤ x1 ∧ x1 < ((8 : Nat) : Int)) ∧ (Q [.inl (M.1 0 295 x1.toNat)] M))))) ∧ (¬ (0 < x1 ∧ x1 < 5) → (((0 : Int) = (0 : Int) → (Q [.inl (-1 : Int)] M)) ∧ (¬ (0 : Int) = (0 : Int) → (((0 : Int) ≤ x1 ∧ x1 < ((8 : Nat) : Int)) ∧ (Q [.inl (M.1 0 295 x1.toNat)] M)))))) : g_R (D + 1) 107 Q 0 [.inr (0, 286), .inl x1] [] M := by
  subst hD
  exact g_go hk_107 ⟨rfl, rfl⟩ (g_C_ok (g_F_ok (D := D1))) sp_107 10 h
theorem hn_108 : 2 ≤ (hm_me 108).2.2.1 := by decide +kernel
/-- HeapLawModel.holds(I)I -/
def sp_108 (pc : Nat) : Option Nat := match pc with
  | _ => none
set_option maxRecDepth 20000 in
theorem rg_108_0 {D : Nat} {Q : g_P} {M : g_M} {x1 : Int} {D1 : Nat} (hD : D = D1 + 2) (h : (x1 < (1 : Int) → (Q [.inl (-1 : Int)] M)) ∧ ((1 : Int) ≤ x1 → ((x1 ≤ (9 : Int) → (((0 : Int) ≤ x1 ∧ x1 < ((10 : Nat) : Int)) ∧ (Q [.inl (M.1 0 296 x1.toNat)] M))) ∧ ((9 : Int) < x1 → (Q [.inl (-1 : Int)] M))))) : g_R (D + 1) 108 Q 0 [.inr (0, 286), .inl x1] [] M := by
  subst hD
  exact g_go hk_108 ⟨rfl, rfl⟩ (g_C_ok (g_F_ok (D := D1))) sp_108 12 h
theorem hn_109 : 1 ≤ (hm_me 109).2.2.1 := by decide +kernel
/-- HeapLawModel.held()I -/
def sp_109 (pc : Nat) : Option Nat := match pc with
  | 4 => some 3
  | _ => none
set_option maxRecDepth 20000 in
theorem rg_109_0 {D : Nat} {Q : g_P} {M : g_M} {D1 : Nat} (hD : D = D1 + 2) (h : g_R (D + 1) 109 Q 4 [.inr (0, 286), .inl (0 : Int), .inl (1 : Int)] [] M) : g_R (D + 1) 109 Q 0 [.inr (0, 286)] [] M := by
  subst hD
  exact g_go hk_109 ⟨rfl, rfl⟩ (g_C_ok (g_F_ok (D := D1))) sp_109 5 h
set_option maxRecDepth 20000 in
theorem rg_109_4 {D : Nat} {Q : g_P} {M : g_M} {x1 : Int} {x2 : Int} {D1 : Nat} (hD : D = D1 + 2) (h : ((10 : Int) ≤ x2 → (Q [.inl x1] M)) ∧ (x2 < (10 : Int) → (((0 : Int) ≤ x2 ∧ x2 < ((10 : Nat) : Int)) ∧ ((M.1 0 296 x2.toNat < (0 : Int) → ((hm_in (x1 + (0 : Int))) ∧ ((hm_in (x2 + (1 : Int))) ∧ (g_R (D + 1) 109 Q 4 [.inr (0, 286), .inl (x1 + (0 : Int)), .inl (x2 + (1 : Int))] [] M)))) ∧ ((0 : Int) ≤ M.1 0 296 x2.toNat → ((hm_in (x1 + (1 : Int))) ∧ ((hm_in (x2 + (1 : Int))) ∧ (g_R (D + 1) 109 Q 4 [.inr (0, 286), .inl (x1 + (1 : Int)), .inl (x2 + (1 : Int))] [] M)))))))) : g_R (D + 1) 109 Q 4 [.inr (0, 286), .inl x1, .inl x2] [] M := by
  subst hD
  exact g_go hk_109 ⟨rfl, rfl⟩ (g_C_ok (g_F_ok (D := D1))) sp_109 16 h
theorem hn_110 : 2 ≤ (hm_me 110).2.2.1 := by decide +kernel
/-- HeapLawModel.fits(I)I -/
def sp_110 (pc : Nat) : Option Nat := match pc with
  | 17 => some 2
  | _ => none
set_option maxRecDepth 20000 in
theorem rg_110_0 {D : Nat} {Q : g_P} {M : g_M} {x1 : Int} {D1 : Nat} (hD : D = D1 + 2) (h : ((0 ≤ x1 ∧ x1 < M.1 0 286 1) → ((¬ (1 : Int) = (0 : Int) → (g_Ev D 111 [.inr (0, 286), .inl x1] M (fun q M' => g_R (D + 1) 110 Q 17 [.inr (0, 286), .inl x1] (q ++ []) M'))) ∧ ((1 : Int) = (0 : Int) → (Q [.inl (-1 : Int)] M)))) ∧ (¬ (0 ≤ x1 ∧ x1 < M.1 0 286 1) → ((¬ (0 : Int) = (0 : Int) → (g_Ev D 111 [.inr (0, 286), .inl x1] M (fun q M' => g_R (D + 1) 110 Q 17 [.inr (0, 286), .inl x1] (q ++ []) M'))) ∧ ((0 : Int) = (0 : Int) → (Q [.inl (-1 : Int)] M))))) : g_R (D + 1) 110 Q 0 [.inr (0, 286), .inl x1] [] M := by
  subst hD
  exact g_go hk_110 ⟨rfl, rfl⟩ (g_C_ok (g_F_ok (D := D1))) sp_110 8 h
set_option maxRecDepth 20000 in
theorem rg_110_17 {D : Nat} {Q : g_P} {M : g_M} {x1 : Int} {s0 : Int} {D1 : Nat} (hD : D = D1 + 2) (h : (s0 = (0 : Int) → (Q [.inl (0 : Int)] M)) ∧ (¬ s0 = (0 : Int) → (Q [.inl (1 : Int)] M))) : g_R (D + 1) 110 Q 17 [.inr (0, 286), .inl x1] [.inl s0] M := by
  subst hD
  exact g_go hk_110 ⟨rfl, rfl⟩ (g_C_ok (g_F_ok (D := D1))) sp_110 5 h
theorem hn_111 : 2 ≤ (hm_me 111).2.2.1 := by decide +kernel
/-- HeapLawModel.fitsSome(I)Z -/
def sp_111 (pc : Nat) : Option Nat := match pc with
  | 6 => some 2
  | 23 => some 3
  | 40 => some 4
  | 54 => some 6
  | 63 => some 7
  | 72 => some 8
  | 110 => some 8
  | _ => none
set_option maxRecDepth 20000 in
theorem rg_111_0 {D : Nat} {Q : g_P} {M : g_M} {x1 : Int} {D1 : Nat} (hD : D = D1 + 2) (h : g_Ev D 112 [.inr (0, 286), .inl x1, .inl (5 : Int)] M (fun q M' => g_R (D + 1) 111 Q 6 [.inr (0, 286), .inl x1] (q ++ []) M')) : g_R (D + 1) 111 Q 0 [.inr (0, 286), .inl x1] [] M := by
  subst hD
  exact g_go hk_111 ⟨rfl, rfl⟩ (g_C_ok (g_F_ok (D := D1))) sp_111 5 h
set_option maxRecDepth 20000 in
theorem rg_111_6 {D : Nat} {Q : g_P} {M : g_M} {x1 : Int} {s0 : Int} {D1 : Nat} (hD : D = D1 + 2) (h : (s0 = (0 : Int) → (g_Ev D 112 [.inr (0, 286), .inl x1, .inl (6 : Int)] M (fun q M' => g_R (D + 1) 111 Q 23 [.inr (0, 286), .inl x1, .inl (0 : Int)] (q ++ []) M'))) ∧ (¬ s0 = (0 : Int) → (g_Ev D 112 [.inr (0, 286), .inl x1, .inl (6 : Int)] M (fun q M' => g_R (D + 1) 111 Q 23 [.inr (0, 286), .inl x1, .inl (9 : Int)] (q ++ []) M')))) : g_R (D + 1) 111 Q 6 [.inr (0, 286), .inl x1] [.inl s0] M := by
  subst hD
  exact g_go hk_111 ⟨rfl, rfl⟩ (g_C_ok (g_F_ok (D := D1))) sp_111 9 h
set_option maxRecDepth 20000 in
theorem rg_111_23 {D : Nat} {Q : g_P} {M : g_M} {x1 : Int} {x2 : Int} {s0 : Int} {D1 : Nat} (hD : D = D1 + 2) (h : (s0 = (0 : Int) → (g_Ev D 112 [.inr (0, 286), .inl x1, .inl (7 : Int)] M (fun q M' => g_R (D + 1) 111 Q 40 [.inr (0, 286), .inl x1, .inl x2, .inl (0 : Int)] (q ++ []) M'))) ∧ (¬ s0 = (0 : Int) → (g_Ev D 112 [.inr (0, 286), .inl x1, .inl (7 : Int)] M (fun q M' => g_R (D + 1) 111 Q 40 [.inr (0, 286), .inl x1, .inl x2, .inl (9 : Int)] (q ++ []) M')))) : g_R (D + 1) 111 Q 23 [.inr (0, 286), .inl x1, .inl x2] [.inl s0] M := by
  subst hD
  exact g_go hk_111 ⟨rfl, rfl⟩ (g_C_ok (g_F_ok (D := D1))) sp_111 9 h
set_option maxRecDepth 20000 in
theorem rg_111_40 {D : Nat} {Q : g_P} {M : g_M} {x1 : Int} {x2 : Int} {x3 : Int} {s0 : Int} {D1 : Nat} (hD : D = D1 + 2) (h : (s0 = (0 : Int) → (g_R (D + 1) 111 Q 54 [.inr (0, 286), .inl x1, .inl x2, .inl x3, .inl (0 : Int), .inl (0 : Int)] [] M)) ∧ (¬ s0 = (0 : Int) → (g_R (D + 1) 111 Q 54 [.inr (0, 286), .inl x1, .inl x2, .inl x3, .inl (9 : Int), .inl (0 : Int)] [] M))) : g_R (D + 1) 111 Q 40 [.inr (0, 286), .inl x1, .inl x2, .inl x3] [.inl s0] M := by
  subst hD
  exact g_go hk_111 ⟨rfl, rfl⟩ (g_C_ok (g_F_ok (D := D1))) sp_111 7 h
set_option maxRecDepth 20000 in
theorem rg_111_54 {D : Nat} {Q : g_P} {M : g_M} {x1 : Int} {x2 : Int} {x3 : Int} {x4 : Int} {x5 : Int} {D1 : Nat} (hD : D = D1 + 2) (h : (x2 < x5 → (((0 : Int) ≤ (0 : Int) ∧ (0 : Int) ≤ 1) ∧ (Q [.inl (0 : Int)] M))) ∧ (x5 ≤ x2 → (g_R (D + 1) 111 Q 63 [.inr (0, 286), .inl x1, .inl x2, .inl x3, .inl x4, .inl x5, .inl (0 : Int)] [] M))) : g_R (D + 1) 111 Q 54 [.inr (0, 286), .inl x1, .inl x2, .inl x3, .inl x4, .inl x5] [] M := by
  subst hD
  exact g_go hk_111 ⟨rfl, rfl⟩ (g_C_ok (g_F_ok (D := D1))) sp_111 6 h
set_option maxRecDepth 20000 in
theorem rg_111_63 {D : Nat} {Q : g_P} {M : g_M} {x1 : Int} {x2 : Int} {x3 : Int} {x4 : Int} {x5 : Int} {x6 : Int} {D1 : Nat} (hD : D = D1 + 2) (h : (x3 < x6 → ((hm_in (x5 + (1 : Int))) ∧ (g_R (D + 1) 111 Q 54 [.inr (0, 286), .inl x1, .inl x2, .inl x3, .inl x4, .inl (x5 + (1 : Int))] [] M))) ∧ (x6 ≤ x3 → (g_R (D + 1) 111 Q 72 [.inr (0, 286), .inl x1, .inl x2, .inl x3, .inl x4, .inl x5, .inl x6, .inl (0 : Int)] [] M))) : g_R (D + 1) 111 Q 63 [.inr (0, 286), .inl x1, .inl x2, .inl x3, .inl x4, .inl x5, .inl x6] [] M := by
  subst hD
  exact g_go hk_111 ⟨rfl, rfl⟩ (g_C_ok (g_F_ok (D := D1))) sp_111 6 h
set_option maxRecDepth 20000 in
theorem rg_111_72 {D : Nat} {Q : g_P} {M : g_M} {x1 : Int} {x2 : Int} {x3 : Int} {x4 : Int} {x5 : Int} {x6 : Int} {x7 : Int} {D1 : Nat} (hD : D = D1 + 2) (h : (x4 < x7 → ((hm_in (x6 + (1 : Int))) ∧ (g_R (D + 1) 111 Q 63 [.inr (0, 286), .inl x1, .inl x2, .inl x3, .inl x4, .inl x5, .inl (x6 + (1 : Int))] [] M))) ∧ (x7 ≤ x4 → (((0 : Int) ≤ (5 : Int) ∧ (5 : Int) < ((8 : Nat) : Int)) ∧ (((0 : Int) ≤ (6 : Int) ∧ (6 : Int) < ((8 : Nat) : Int)) ∧ (((0 : Int) ≤ (7 : Int) ∧ (7 : Int) < ((8 : Nat) : Int)) ∧ (g_Ev D 113 [.inr (0, 286), .inl x1] (g_uA (g_uA (g_uA M (0, 295) (5 : Int).toNat x5) (0, 295) (6 : Int).toNat x6) (0, 295) (7 : Int).toNat x7) (fun q M' => g_R (D + 1) 111 Q 110 [.inr (0, 286), .inl x1, .inl x2, .inl x3, .inl x4, .inl x5, .inl x6, .inl x7] (q ++ []) M'))))))) : g_R (D + 1) 111 Q 72 [.inr (0, 286), .inl x1, .inl x2, .inl x3, .inl x4, .inl x5, .inl x6, .inl x7] [] M := by
  subst hD
  exact g_go hk_111 ⟨rfl, rfl⟩ (g_C_ok (g_F_ok (D := D1))) sp_111 22 h
set_option maxRecDepth 20000 in
theorem rg_111_110 {D : Nat} {Q : g_P} {M : g_M} {x1 : Int} {x2 : Int} {x3 : Int} {x4 : Int} {x5 : Int} {x6 : Int} {x7 : Int} {s0 : Int} {D1 : Nat} (hD : D = D1 + 2) (h : (s0 = (0 : Int) → ((hm_in (x7 + (1 : Int))) ∧ (g_R (D + 1) 111 Q 72 [.inr (0, 286), .inl x1, .inl x2, .inl x3, .inl x4, .inl x5, .inl x6, .inl (x7 + (1 : Int))] [] M))) ∧ (¬ s0 = (0 : Int) → (((0 : Int) ≤ (1 : Int) ∧ (1 : Int) ≤ 1) ∧ (Q [.inl (1 : Int)] M)))) : g_R (D + 1) 111 Q 110 [.inr (0, 286), .inl x1, .inl x2, .inl x3, .inl x4, .inl x5, .inl x6, .inl x7] [.inl s0] M := by
  subst hD
  exact g_go hk_111 ⟨rfl, rfl⟩ (g_C_ok (g_F_ok (D := D1))) sp_111 4 h
theorem hn_112 : 3 ≤ (hm_me 112).2.2.1 := by decide +kernel
/-- HeapLawModel.has(II)Z -/
def sp_112 (pc : Nat) : Option Nat := match pc with
  | 2 => some 4
  | 52 => some 4
  | _ => none
set_option maxRecDepth 20000 in
theorem rg_112_0 {D : Nat} {Q : g_P} {M : g_M} {x1 : Int} {x2 : Int} {D1 : Nat} (hD : D = D1 + 2) (h : g_R (D + 1) 112 Q 2 [.inr (0, 286), .inl x1, .inl x2, .inl (0 : Int)] [] M) : g_R (D + 1) 112 Q 0 [.inr (0, 286), .inl x1, .inl x2] [] M := by
  subst hD
  exact g_go hk_112 ⟨rfl, rfl⟩ (g_C_ok (g_F_ok (D := D1))) sp_112 3 h
set_option maxRecDepth 20000 in
theorem rg_112_2 {D : Nat} {Q : g_P} {M : g_M} {x1 : Int} {x2 : Int} {x3 : Int} {D1 : Nat} (hD : D = D1 + 2) (h : ((0 : Int) ≤ x1 ∧ x1 < ((200 : Nat) : Int)) ∧ ((M.1 0 287 x1.toNat ≤ x3 → (g_R (D + 1) 112 Q 52 [.inr (0, 286), .inl x1, .inl x2, .inl (0 : Int)] [] M)) ∧ (x3 < M.1 0 287 x1.toNat → ((hm_in ((16 : Int) * x1)) ∧ ((hm_in (((16 : Int) * x1) + x3)) ∧ (((0 : Int) ≤ ((16 : Int) * x1) + x3 ∧ ((16 : Int) * x1) + x3 < ((3200 : Nat) : Int)) ∧ ((M.1 0 289 (((16 : Int) * x1) + x3).toNat = x2 → (((0 : Int) ≤ (1 : Int) ∧ (1 : Int) ≤ 1) ∧ (Q [.inl (1 : Int)] M))) ∧ (¬ M.1 0 289 (((16 : Int) * x1) + x3).toNat = x2 → ((hm_in ((16 : Int) * x1)) ∧ ((hm_in (((16 : Int) * x1) + x3)) ∧ (((0 : Int) ≤ ((16 : Int) * x1) + x3 ∧ ((16 : Int) * x1) + x3 < ((3200 : Nat) : Int)) ∧ ((¬ M.1 0 290 (((16 : Int) * x1) + x3).toNat = x2 → ((hm_in (x3 + (1 : Int))) ∧ (g_R (D + 1) 112 Q 2 [.inr (0, 286), .inl x1, .inl x2, .inl (x3 + (1 : Int))] [] M))) ∧ (M.1 0 290 (((16 : Int) * x1) + x3).toNat = x2 → (((0 : Int) ≤ (1 : Int) ∧ (1 : Int) ≤ 1) ∧ (Q [.inl (1 : Int)] M))))))))))))))) : g_R (D + 1) 112 Q 2 [.inr (0, 286), .inl x1, .inl x2, .inl x3] [] M := by
  subst hD
  exact g_go hk_112 ⟨rfl, rfl⟩ (g_C_ok (g_F_ok (D := D1))) sp_112 29 h
set_option maxRecDepth 20000 in
theorem rg_112_52 {D : Nat} {Q : g_P} {M : g_M} {x1 : Int} {x2 : Int} {x3 : Int} {D1 : Nat} (hD : D = D1 + 2) (h : ((0 : Int) ≤ x1 ∧ x1 < ((200 : Nat) : Int)) ∧ ((M.1 0 291 x1.toNat ≤ x3 → (((0 : Int) ≤ (0 : Int) ∧ (0 : Int) ≤ 1) ∧ (Q [.inl (0 : Int)] M))) ∧ (x3 < M.1 0 291 x1.toNat → ((hm_in ((10 : Int) * x1)) ∧ ((hm_in (((10 : Int) * x1) + x3)) ∧ (((0 : Int) ≤ ((10 : Int) * x1) + x3 ∧ ((10 : Int) * x1) + x3 < ((2000 : Nat) : Int)) ∧ ((M.1 0 293 (((10 : Int) * x1) + x3).toNat = x2 → (((0 : Int) ≤ (1 : Int) ∧ (1 : Int) ≤ 1) ∧ (Q [.inl (1 : Int)] M))) ∧ (¬ M.1 0 293 (((10 : Int) * x1) + x3).toNat = x2 → ((hm_in ((10 : Int) * x1)) ∧ ((hm_in (((10 : Int) * x1) + x3)) ∧ (((0 : Int) ≤ ((10 : Int) * x1) + x3 ∧ ((10 : Int) * x1) + x3 < ((2000 : Nat) : Int)) ∧ ((¬ M.1 0 294 (((10 : Int) * x1) + x3).toNat = x2 → ((hm_in (x3 + (1 : Int))) ∧ (g_R (D + 1) 112 Q 52 [.inr (0, 286), .inl x1, .inl x2, .inl (x3 + (1 : Int))] [] M))) ∧ (M.1 0 294 (((10 : Int) * x1) + x3).toNat = x2 → (((0 : Int) ≤ (1 : Int) ∧ (1 : Int) ≤ 1) ∧ (Q [.inl (1 : Int)] M))))))))))))))) : g_R (D + 1) 112 Q 52 [.inr (0, 286), .inl x1, .inl x2, .inl x3] [] M := by
  subst hD
  exact g_go hk_112 ⟨rfl, rfl⟩ (g_C_ok (g_F_ok (D := D1))) sp_112 29 h
theorem hn_113 : 2 ≤ (hm_me 113).2.2.1 := by decide +kernel
/-- HeapLawModel.fitsNow(I)Z -/
def sp_113 (pc : Nat) : Option Nat := match pc with
  | 2 => some 3
  | 84 => some 3
  | 107 => some 4
  | 192 => some 8
  | 286 => some 4
  | _ => none
set_option maxRecDepth 20000 in
theorem rg_113_0 {D : Nat} {Q : g_P} {M : g_M} {x1 : Int} {D1 : Nat} (hD : D = D1 + 2) (h : g_R (D + 1) 113 Q 2 [.inr (0, 286), .inl x1, .inl (0 : Int)] [] M) : g_R (D + 1) 113 Q 0 [.inr (0, 286), .inl x1] [] M := by
  subst hD
  exact g_go hk_113 ⟨rfl, rfl⟩ (g_C_ok (g_F_ok (D := D1))) sp_113 3 h
set_option maxRecDepth 20000 in
theorem rg_113_2 {D : Nat} {Q : g_P} {M : g_M} {x1 : Int} {x2 : Int} {D1 : Nat} (hD : D = D1 + 2) (h : ((0 : Int) ≤ x1 ∧ x1 < ((200 : Nat) : Int)) ∧ ((M.1 0 287 x1.toNat ≤ x2 → (g_R (D + 1) 113 Q 84 [.inr (0, 286), .inl x1, .inl (0 : Int)] [] M)) ∧ (x2 < M.1 0 287 x1.toNat → ((hm_in ((16 : Int) * x1)) ∧ ((hm_in (((16 : Int) * x1) + x2)) ∧ (((0 : Int) ≤ ((16 : Int) * x1) + x2 ∧ ((16 : Int) * x1) + x2 < ((3200 : Nat) : Int)) ∧ (((0 : Int) ≤ M.1 0 289 (((16 : Int) * x1) + x2).toNat ∧ M.1 0 289 (((16 : Int) * x1) + x2).toNat < ((8 : Nat) : Int)) ∧ ((hm_in ((16 : Int) * x1)) ∧ ((hm_in (((16 : Int) * x1) + x2)) ∧ (((0 : Int) ≤ ((16 : Int) * x1) + x2 ∧ ((16 : Int) * x1) + x2 < ((3200 : Nat) : Int)) ∧ (((0 : Int) ≤ M.1 0 290 (((16 : Int) * x1) + x2).toNat ∧ M.1 0 290 (((16 : Int) * x1) + x2).toNat < ((8 : Nat) : Int)) ∧ ((¬ M.1 0 295 (M.1 0 289 (((16 : Int) * x1) + x2).toNat).toNat = M.1 0 295 (M.1 0 290 (((16 : Int) * x1) + x2).toNat).toNat → ((hm_in ((16 : Int) * x1)) ∧ ((hm_in (((16 : Int) * x1) + x2)) ∧ (((0 : Int) ≤ ((16 : Int) * x1) + x2 ∧ ((16 : Int) * x1) + x2 < ((3200 : Nat) : Int)) ∧ ((¬ M.1 0 288 (((16 : Int) * x1) + x2).toNat = (0 : Int) → (((0 : Int) = (0 : Int) → ((hm_in (x2 + (1 : Int))) ∧ (g_R (D + 1) 113 Q 2 [.inr (0, 286), .inl x1, .inl (x2 + (1 : Int))] [] M))) ∧ (¬ (0 : Int) = (0 : Int) → (((0 : Int) ≤ (0 : Int) ∧ (0 : Int) ≤ 1) ∧ (Q [.inl (0 : Int)] M))))) ∧ (M.1 0 288 (((16 : Int) * x1) + x2).toNat = (0 : Int) → (((0 : Int) = (1 : Int) → ((hm_in (x2 + (1 : Int))) ∧ (g_R (D + 1) 113 Q 2 [.inr (0, 286), .inl x1, .inl (x2 + (1 : Int))] [] M))) ∧ (¬ (0 : Int) = (1 : Int) → (((0 : Int) ≤ (0 : Int) ∧ (0 : Int) ≤ 1) ∧ (Q [.inl (0 : Int)] M)))))))))) ∧ (M.1 0 295 (M.1 0 289 (((16 : Int) * x1) + x2).toNat).toNat = M.1 0 295 (M.1 0 290 (((16 : Int) * x1) + x2).toNat).toNat → ((hm_in ((16 : Int) * x1)) ∧ ((hm_in (((16 : Int) * x1) + x2)) ∧ (((0 : Int) ≤ ((16 : Int) * x1) + x2 ∧ ((16 : Int) * x1) + x2 < ((3200 : Nat) : Int)) ∧ ((¬ M.1 0 288 (((16 : Int) * x1) + x2).toNat = (0 : Int) → (((1 : Int) = (0 : Int) → ((hm_in (x2 + (1 : Int))) ∧ (g_R (D + 1) 113 Q 2 [.inr (0, 286), .inl x1, .inl (x2 + (1 : Int))] [] M))) ∧ (¬ (1 : Int) = (0 : Int) → (((0 : Int) ≤ (0 : Int) ∧ (0 : Int) ≤ 1) ∧ (Q [.inl (0 : Int)] M))))) ∧ (M.1 0 288 (((16 : Int) * x1) + x2).toNat = (0 : Int) → (((1 : Int) = (1 : Int) → ((hm_in (x2 + (1 : Int))) ∧ (g_R (D + 1) 113 Q 2 [.inr (0, 286), .inl x1, .inl (x2 + (1 : Int))] [] M))) ∧ (¬ (1 : Int) = (1 : Int) → (((0 : Int) ≤ (0 : Int) ∧ (0 : Int) ≤ 1) ∧ (Q [.inl (0 : Int)] M)))))))))))))))))))))) : g_R (D + 1) 113 Q 2 [.inr (0, 286), .inl x1, .inl x2] [] M := by
  subst hD
  exact g_go hk_113 ⟨rfl, rfl⟩ (g_C_ok (g_F_ok (D := D1))) sp_113 46 h
set_option maxRecDepth 20000 in
theorem rg_113_84 {D : Nat} {Q : g_P} {M : g_M} {x1 : Int} {x2 : Int} {D1 : Nat} (hD : D = D1 + 2) (h : ((10 : Int) ≤ x2 → (g_R (D + 1) 113 Q 107 [.inr (0, 286), .inl x1, .inl (0 : Int), .inl (0 : Int)] [] M)) ∧ (x2 < (10 : Int) → (((0 : Int) ≤ x2 ∧ x2 < ((10 : Nat) : Int) ∧ (0 : Int) ≤ (0 : Int) ∧ (0 : Int) ≤ 1) ∧ ((hm_in (x2 + (1 : Int))) ∧ (g_R (D + 1) 113 Q 84 [.inr (0, 286), .inl x1, .inl (x2 + (1 : Int))] [] (g_uA M (0, 297) x2.toNat (0 : Int))))))) : g_R (D + 1) 113 Q 84 [.inr (0, 286), .inl x1, .inl x2] [] M := by
  subst hD
  exact g_go hk_113 ⟨rfl, rfl⟩ (g_C_ok (g_F_ok (D := D1))) sp_113 11 h
set_option maxRecDepth 20000 in
theorem rg_113_107 {D : Nat} {Q : g_P} {M : g_M} {x1 : Int} {x2 : Int} {x3 : Int} {D1 : Nat} (hD : D = D1 + 2) (h : ((0 : Int) ≤ x1 ∧ x1 < ((200 : Nat) : Int)) ∧ ((M.1 0 291 x1.toNat ≤ x3 → (g_Ev D 109 [.inr (0, 286)] M (fun q M' => g_R (D + 1) 113 Q 286 [.inr (0, 286), .inl x1, .inl x2, .inl x3] (q ++ [.inl x2]) M'))) ∧ (x3 < M.1 0 291 x1.toNat → ((hm_in ((10 : Int) * x1)) ∧ ((hm_in (((10 : Int) * x1) + x3)) ∧ (((0 : Int) ≤ ((10 : Int) * x1) + x3 ∧ ((10 : Int) * x1) + x3 < ((2000 : Nat) : Int)) ∧ (((0 : Int) ≤ M.1 0 293 (((10 : Int) * x1) + x3).toNat ∧ M.1 0 293 (((10 : Int) * x1) + x3).toNat < ((8 : Nat) : Int)) ∧ ((hm_in ((10 : Int) * x1)) ∧ ((hm_in (((10 : Int) * x1) + x3)) ∧ (((0 : Int) ≤ ((10 : Int) * x1) + x3 ∧ ((10 : Int) * x1) + x3 < ((2000 : Nat) : Int)) ∧ (((0 : Int) ≤ M.1 0 294 (((10 : Int) * x1) + x3).toNat ∧ M.1 0 294 (((10 : Int) * x1) + x3).toNat < ((8 : Nat) : Int)) ∧ ((hm_in ((10 : Int) * x1)) ∧ ((hm_in (((10 : Int) * x1) + x3)) ∧ (((0 : Int) ≤ ((10 : Int) * x1) + x3 ∧ ((10 : Int) * x1) + x3 < ((2000 : Nat) : Int)) ∧ ((¬ M.1 0 292 (((10 : Int) * x1) + x3).toNat = (0 : Int) → ((¬ (0 : Int) = (0 : Int) → (g_R (D + 1) 113 Q 192 [.inr (0, 286), .inl x1, .inl x2, .inl x3, .inl (M.1 0 295 (M.1 0 293 (((10 : Int) * x1) + x3).toNat).toNat), .inl (M.1 0 295 (M.1 0 294 (((10 : Int) * x1) + x3).toNat).toNat), .inl (0 : Int), .inl (1 : Int)] [] M)) ∧ ((0 : Int) = (0 : Int) → ((¬ M.1 0 295 (M.1 0 293 (((10 : Int) * x1) + x3).toNat).toNat = M.1 0 295 (M.1 0 294 (((10 : Int) * x1) + x3).toNat).toNat → (g_R (D + 1) 113 Q 192 [.inr (0, 286), .inl x1, .inl x2, .inl x3, .inl (M.1 0 295 (M.1 0 293 (((10 : Int) * x1) + x3).toNat).toNat), .inl (M.1 0 295 (M.1 0 294 (((10 : Int) * x1) + x3).toNat).toNat), .inl (0 : Int), .inl (1 : Int)] [] M)) ∧ (M.1 0 295 (M.1 0 293 (((10 : Int) * x1) + x3).toNat).toNat = M.1 0 295 (M.1 0 294 (((10 : Int) * x1) + x3).toNat).toNat → ((hm_in (x3 + (1 : Int))) ∧ (g_R (D + 1) 113 Q 107 [.inr (0, 286), .inl x1, .inl x2, .inl (x3 + (1 : Int))] [] M))))))) ∧ (M.1 0 292 (((10 : Int) * x1) + x3).toNat = (0 : Int) → ((¬ (1 : Int) = (0 : Int) → (g_R (D + 1) 113 Q 192 [.inr (0, 286), .inl x1, .inl x2, .inl x3, .inl (M.1 0 295 (M.1 0 293 (((10 : Int) * x1) + x3).toNat).toNat), .inl (M.1 0 295 (M.1 0 294 (((10 : Int) * x1) + x3).toNat).toNat), .inl (1 : Int), .inl (1 : Int)] [] M)) ∧ ((1 : Int) = (0 : Int) → ((¬ M.1 0 295 (M.1 0 293 (((10 : Int) * x1) + x3).toNat).toNat = M.1 0 295 (M.1 0 294 (((10 : Int) * x1) + x3).toNat).toNat → (g_R (D + 1) 113 Q 192 [.inr (0, 286), .inl x1, .inl x2, .inl x3, .inl (M.1 0 295 (M.1 0 293 (((10 : Int) * x1) + x3).toNat).toNat), .inl (M.1 0 295 (M.1 0 294 (((10 : Int) * x1) + x3).toNat).toNat), .inl (1 : Int), .inl (1 : Int)] [] M)) ∧ (M.1 0 295 (M.1 0 293 (((10 : Int) * x1) + x3).toNat).toNat = M.1 0 295 (M.1 0 294 (((10 : Int) * x1) + x3).toNat).toNat → ((hm_in (x3 + (1 : Int))) ∧ (g_R (D + 1) 113 Q 107 [.inr (0, 286), .inl x1, .inl x2, .inl (x3 + (1 : Int))] [] M)))))))))))))))))))))) : g_R (D + 1) 113 Q 107 [.inr (0, 286), .inl x1, .inl x2, .inl x3] [] M := by
  subst hD
  exact g_go hk_113 ⟨rfl, rfl⟩ (g_C_ok (g_F_ok (D := D1))) sp_113 51 h
set_option maxRecDepth 20000 in
theorem rg_113_192 {D : Nat} {Q : g_P} {M : g_M} {x1 : Int} {x2 : Int} {x3 : Int} {x4 : Int} {x5 : Int} {x6 : Int} {x7 : Int} {D1 : Nat} (hD : D = D1 + 2) (h : (x7 = (0 : Int) → ((x4 = x5 → ((hm_in (x3 + (1 : Int))) ∧ (g_R (D + 1) 113 Q 107 [.inr (0, 286), .inl x1, .inl x2, .inl (x3 + (1 : Int))] [] M))) ∧ (¬ x4 = x5 → (((0 : Int) ≤ (0 : Int) ∧ (0 : Int) ≤ 1) ∧ (Q [.inl (0 : Int)] M))))) ∧ (¬ x7 = (0 : Int) → ((x4 = (0 : Int) → (((0 : Int) ≤ (0 : Int) ∧ (0 : Int) ≤ 1) ∧ (Q [.inl (0 : Int)] M))) ∧ (¬ x4 = (0 : Int) → (((0 : Int) ≤ x4 ∧ x4 < ((10 : Nat) : Int)) ∧ ((M.1 0 296 x4.toNat < (0 : Int) → (((0 : Int) ≤ (0 : Int) ∧ (0 : Int) ≤ 1) ∧ (Q [.inl (0 : Int)] M))) ∧ ((0 : Int) ≤ M.1 0 296 x4.toNat → (((0 : Int) ≤ x4 ∧ x4 < ((10 : Nat) : Int)) ∧ ((M.1 0 297 x4.toNat = (0 : Int) → (((0 : Int) ≤ x4 ∧ x4 < ((10 : Nat) : Int) ∧ (0 : Int) ≤ (1 : Int) ∧ (1 : Int) ≤ 1) ∧ ((hm_in (x2 + (1 : Int))) ∧ (((0 : Int) ≤ x4 ∧ x4 < ((10 : Nat) : Int)) ∧ ((¬ x6 = (0 : Int) → (g_R (D + 1) 113 Q 192 [.inr (0, 286), .inl x1, .inl (x2 + (1 : Int)), .inl x3, .inl (M.1 0 296 x4.toNat), .inl x5, .inl x6, .inl (0 : Int)] [] (g_uA M (0, 297) x4.toNat (1 : Int)))) ∧ (x6 = (0 : Int) → ((M.1 0 296 x4.toNat = x5 → (g_R (D + 1) 113 Q 192 [.inr (0, 286), .inl x1, .inl (x2 + (1 : Int)), .inl x3, .inl (M.1 0 296 x4.toNat), .inl x5, .inl x6, .inl (0 : Int)] [] (g_uA M (0, 297) x4.toNat (1 : Int)))) ∧ (¬ M.1 0 296 x4.toNat = x5 → (g_R (D + 1) 113 Q 192 [.inr (0, 286), .inl x1, .inl (x2 + (1 : Int)), .inl x3, .inl (M.1 0 296 x4.toNat), .inl x5, .inl x6, .inl (1 : Int)] [] (g_uA M (0, 297) x4.toNat (1 : Int))))))))))) ∧ (¬ M.1 0 297 x4.toNat = (0 : Int) → (((0 : Int) ≤ (0 : Int) ∧ (0 : Int) ≤ 1) ∧ (Q [.inl (0 : Int)] M)))))))))))) : g_R (D + 1) 113 Q 192 [.inr (0, 286), .inl x1, .inl x2, .inl x3, .inl x4, .inl x5, .inl x6, .inl x7] [] M := by
  subst hD
  exact g_go hk_113 ⟨rfl, rfl⟩ (g_C_ok (g_F_ok (D := D1))) sp_113 35 h
set_option maxRecDepth 20000 in
theorem rg_113_286 {D : Nat} {Q : g_P} {M : g_M} {x1 : Int} {x2 : Int} {x3 : Int} {s0 : Int} {s1 : Int} {D1 : Nat} (hD : D = D1 + 2) (h : (¬ s1 = s0 → (((0 : Int) ≤ (0 : Int) ∧ (0 : Int) ≤ 1) ∧ (Q [.inl (0 : Int)] M))) ∧ (s1 = s0 → (((0 : Int) ≤ (1 : Int) ∧ (1 : Int) ≤ 1) ∧ (Q [.inl (1 : Int)] M)))) : g_R (D + 1) 113 Q 286 [.inr (0, 286), .inl x1, .inl x2, .inl x3] [.inl s0, .inl s1] M := by
  subst hD
  exact g_go hk_113 ⟨rfl, rfl⟩ (g_C_ok (g_F_ok (D := D1))) sp_113 5 h
theorem hn_114 : 5 ≤ (hm_me 114).2.2.1 := by decide +kernel
/-- HeapLawModel.run(IIII)I -/
def sp_114 (pc : Nat) : Option Nat := match pc with
  | 31 => some 5
  | 46 => some 5
  | 68 => some 6
  | 97 => some 6
  | 166 => some 7
  | _ => none
set_option maxRecDepth 20000 in
theorem rg_114_0 {D : Nat} {Q : g_P} {M : g_M} {x1 : Int} {x2 : Int} {x3 : Int} {x4 : Int} {D1 : Nat} (hD : D = D1 + 2) (h : (x1 < (0 : Int) → (Q [.inl (-1 : Int)] M)) ∧ ((0 : Int) ≤ x1 → (((7 : Int) < x1 → (Q [.inl (-1 : Int)] M)) ∧ (x1 ≤ (7 : Int) → (((0 < x2 ∧ x2 < 5) → (((1 : Int) = (0 : Int) → (Q [.inl (-1 : Int)] M)) ∧ (¬ (1 : Int) = (0 : Int) → (((x1 = 0 ∨ 3 < x1) → (((1 : Int) = (0 : Int) → (g_R (D + 1) 114 Q 31 [.inr (0, 286), .inl x1, .inl x2, .inl x3, .inl x4] [] M)) ∧ (¬ (1 : Int) = (0 : Int) → (((0 < x3 ∧ x3 < 5) → (((1 : Int) = (0 : Int) → (Q [.inl (-1 : Int)] M)) ∧ (¬ (1 : Int) = (0 : Int) → (g_R (D + 1) 114 Q 31 [.inr (0, 286), .inl x1, .inl x2, .inl x3, .inl x4] [] M)))) ∧ (¬ (0 < x3 ∧ x3 < 5) → (((0 : Int) = (0 : Int) → (Q [.inl (-1 : Int)] M)) ∧ (¬ (0 : Int) = (0 : Int) → (g_R (D + 1) 114 Q 31 [.inr (0, 286), .inl x1, .inl x2, .inl x3, .inl x4] [] M)))))))) ∧ (¬ (x1 = 0 ∨ 3 < x1) → (((0 : Int) = (0 : Int) → (g_R (D + 1) 114 Q 31 [.inr (0, 286), .inl x1, .inl x2, .inl x3, .inl x4] [] M)) ∧ (¬ (0 : Int) = (0 : Int) → (((0 < x3 ∧ x3 < 5) → (((1 : Int) = (0 : Int) → (Q [.inl (-1 : Int)] M)) ∧ (¬ (1 : Int) = (0 : Int) → (g_R (D + 1) 114 Q 31 [.inr (0, 286), .inl x1, .inl x2, .inl x3, .inl x4] [] M)))) ∧ (¬ (0 < x3 ∧ x3 < 5) → (((0 : Int) = (0 : Int) → (Q [.inl (-1 : Int)] M)) ∧ (¬ (0 : Int) = (0 : Int) → (g_R (D + 1) 114 Q 31 [.inr (0, 286), .inl x1, .inl x2, .inl x3, .inl x4] [] M)))))))))))) ∧ (¬ (0 < x2 ∧ x2 < 5) → (((0 : Int) = (0 : Int) → (Q [.inl (-1 : Int)] M)) ∧ (¬ (0 : Int) = (0 : Int) → (((x1 = 0 ∨ 3 < x1) → (((1 : Int) = (0 : Int) → (g_R (D + 1) 114 Q 31 [.inr (0, 286), .inl x1, .inl x2, .inl x3, .inl x4] [] M)) ∧ (¬ (1 : Int) = (0 : Int) → (((0 < x3 ∧ x3 < 5) → (((1 : Int) = (0 : Int) → (Q [.inl (-1 : Int)] M)) ∧ (¬ (1 : Int) = (0 : Int) → (g_R (D + 1) 114 Q 31 [.inr (0, 286), .inl x1, .inl x2, .inl x3, .inl x4] [] M)))) ∧ (¬ (0 < x3 ∧ x3 < 5) → (((0 : Int) = (0 : Int) → (Q [.inl (-1 : Int)] M)) ∧ (¬ (0 : Int) = (0 : Int) → (g_R (D + 1) 114 Q 31 [.inr (0, 286), .inl x1, .inl x2, .inl x3, .inl x4] [] M)))))))) ∧ (¬ (x1 = 0 ∨ 3 < x1) → (((0 : Int) = (0 : Int) → (g_R (D + 1) 114 Q 31 [.inr (0, 286), .inl x1, .inl x2, .inl x3, .inl x4] [] M)) ∧ (¬ (0 : Int) = (0 : Int) → (((0 < x3 ∧ x3 < 5) → (((1 : Int) = (0 : Int) → (Q [.inl (-1 : Int)] M)) ∧ (¬ (1 : Int) = (0 : Int) → (g_R (D + 1) 114 Q 31 [.inr (0, 286), .inl x1, .inl x2, .inl x3, .inl x4] [] M)))) ∧ (¬ (0 < x3 ∧ x3 < 5) → (((0 : Int) = (0 : Int) → (Q [.inl (-1 : Int)] M)) ∧ (¬ (0 : Int) = (0 : Int) → (g_R (D + 1) 114 Q 31 [.inr (0, 286), .inl x1, .inl x2, .inl x3, .inl x4] [] M))))))))))))))))) : g_R (D + 1) 114 Q 0 [.inr (0, 286), .inl x1, .inl x2, .inl x3, .inl x4] [] M := by
  subst hD
  exact g_go hk_114 ⟨rfl, rfl⟩ (g_C_ok (g_F_ok (D := D1))) sp_114 17 h
set_option maxRecDepth 20000 in
theorem rg_114_31 {D : Nat} {Q : g_P} {M : g_M} {x1 : Int} {x2 : Int} {x3 : Int} {x4 : Int} {D1 : Nat} (hD : D = D1 + 2) (h : (¬ x1 = (2 : Int) → (g_R (D + 1) 114 Q 46 [.inr (0, 286), .inl x1, .inl x2, .inl x3, .inl x4] [] M)) ∧ (x1 = (2 : Int) → (((0 ≤ x4 ∧ x4 < 10) → ((¬ (1 : Int) = (0 : Int) → (g_R (D + 1) 114 Q 46 [.inr (0, 286), .inl x1, .inl x2, .inl x3, .inl x4] [] M)) ∧ ((1 : Int) = (0 : Int) → (Q [.inl (-1 : Int)] M)))) ∧ (¬ (0 ≤ x4 ∧ x4 < 10) → ((¬ (0 : Int) = (0 : Int) → (g_R (D + 1) 114 Q 46 [.inr (0, 286), .inl x1, .inl x2, .inl x3, .inl x4] [] M)) ∧ ((0 : Int) = (0 : Int) → (Q [.inl (-1 : Int)] M))))))) : g_R (D + 1) 114 Q 31 [.inr (0, 286), .inl x1, .inl x2, .inl x3, .inl x4] [] M := by
  subst hD
  exact g_go hk_114 ⟨rfl, rfl⟩ (g_C_ok (g_F_ok (D := D1))) sp_114 9 h
set_option maxRecDepth 20000 in
theorem rg_114_46 {D : Nat} {Q : g_P} {M : g_M} {x1 : Int} {x2 : Int} {x3 : Int} {x4 : Int} {D1 : Nat} (hD : D = D1 + 2) (h : (¬ x1 = (4 : Int) → (((0 : Int) ≤ x2 ∧ x2 < ((8 : Nat) : Int)) ∧ (g_R (D + 1) 114 Q 68 [.inr (0, 286), .inl x1, .inl x2, .inl x3, .inl x4, .inl (M.1 0 295 x2.toNat)] [] M))) ∧ (x1 = (4 : Int) → (((0 : Int) ≤ x3 ∧ x3 < ((8 : Nat) : Int)) ∧ (g_R (D + 1) 114 Q 68 [.inr (0, 286), .inl x1, .inl x2, .inl x3, .inl x4, .inl (M.1 0 295 x3.toNat)] [] M)))) : g_R (D + 1) 114 Q 46 [.inr (0, 286), .inl x1, .inl x2, .inl x3, .inl x4] [] M := by
  subst hD
  exact g_go hk_114 ⟨rfl, rfl⟩ (g_C_ok (g_F_ok (D := D1))) sp_114 10 h
set_option maxRecDepth 20000 in
theorem rg_114_68 {D : Nat} {Q : g_P} {M : g_M} {x1 : Int} {x2 : Int} {x3 : Int} {x4 : Int} {x5 : Int} {D1 : Nat} (hD : D = D1 + 2) (h : (x1 ≤ (2 : Int) → (g_R (D + 1) 114 Q 97 [.inr (0, 286), .inl x1, .inl x2, .inl x3, .inl x4, .inl x5] [] M)) ∧ ((2 : Int) < x1 → (((6 : Int) ≤ x1 → (g_R (D + 1) 114 Q 97 [.inr (0, 286), .inl x1, .inl x2, .inl x3, .inl x4, .inl x5] [] M)) ∧ (x1 < (6 : Int) → ((x5 = (0 : Int) → (Q [.inl (-5 : Int)] M)) ∧ (¬ x5 = (0 : Int) → (((0 : Int) ≤ x5 ∧ x5 < ((10 : Nat) : Int)) ∧ (((0 : Int) ≤ M.1 0 296 x5.toNat → (g_R (D + 1) 114 Q 97 [.inr (0, 286), .inl x1, .inl x2, .inl x3, .inl x4, .inl x5] [] M)) ∧ (M.1 0 296 x5.toNat < (0 : Int) → (Q [.inl (-5 : Int)] M)))))))))) : g_R (D + 1) 114 Q 68 [.inr (0, 286), .inl x1, .inl x2, .inl x3, .inl x4, .inl x5] [] M := by
  subst hD
  exact g_go hk_114 ⟨rfl, rfl⟩ (g_C_ok (g_F_ok (D := D1))) sp_114 16 h
set_option maxRecDepth 20000 in
theorem rg_114_97 {D : Nat} {Q : g_P} {M : g_M} {x1 : Int} {x2 : Int} {x3 : Int} {x4 : Int} {x5 : Int} {D1 : Nat} (hD : D = D1 + 2) (h : ((x1 < 0 ∨ 6 < x1) → (((0 : Int) ≤ x2 ∧ x2 < ((8 : Nat) : Int)) ∧ (((0 : Int) ≤ x3 ∧ x3 < ((8 : Nat) : Int)) ∧ ((M.1 0 295 x2.toNat = M.1 0 295 x3.toNat → (Q [.inl (0 : Int)] M)) ∧ (¬ M.1 0 295 x2.toNat = M.1 0 295 x3.toNat → (Q [.inl (1 : Int)] M)))))) ∧ ((x1 = 0 → (((0 : Int) ≤ x3 ∧ x3 < ((8 : Nat) : Int)) ∧ (((0 : Int) ≤ x2 ∧ x2 < ((8 : Nat) : Int)) ∧ (Q [.inl (1 : Int)] (g_uA M (0, 295) x2.toNat (M.1 0 295 x3.toNat)))))) ∧ ((x1 = 1 → (((0 : Int) ≤ x2 ∧ x2 < ((8 : Nat) : Int)) ∧ (Q [.inl (1 : Int)] (g_uA M (0, 295) x2.toNat (0 : Int))))) ∧ ((x1 = 2 → (g_R (D + 1) 114 Q 166 [.inr (0, 286), .inl x1, .inl x2, .inl x3, .inl x4, .inl x5, .inl (1 : Int)] [] M)) ∧ ((x1 = 3 → (((0 : Int) ≤ x5 ∧ x5 < ((10 : Nat) : Int)) ∧ (Q [.inl (1 : Int)] (g_uA M (0, 296) x5.toNat (-1 : Int))))) ∧ ((x1 = 4 → (((0 : Int) ≤ x5 ∧ x5 < ((10 : Nat) : Int)) ∧ (((0 : Int) ≤ x2 ∧ x2 < ((8 : Nat) : Int)) ∧ (Q [.inl (1 : Int)] (g_uA M (0, 295) x2.toNat (M.1 0 296 x5.toNat)))))) ∧ ((x1 = 5 → (((0 : Int) ≤ x3 ∧ x3 < ((8 : Nat) : Int)) ∧ (((0 : Int) ≤ x5 ∧ x5 < ((10 : Nat) : Int)) ∧ (Q [.inl (1 : Int)] (g_uA M (0, 296) x5.toNat (M.1 0 295 x3.toNat)))))) ∧ ((x1 = 6 → (((0 : Int) ≤ x2 ∧ x2 < ((8 : Nat) : Int)) ∧ (((0 : Int) ≤ x3 ∧ x3 < ((8 : Nat) : Int)) ∧ ((¬ M.1 0 295 x2.toNat = M.1 0 295 x3.toNat → (Q [.inl (0 : Int)] M)) ∧ (M.1 0 295 x2.toNat = M.1 0 295 x3.toNat → (Q [.inl (1 : Int)] M)))))) ∧ (True))))))))) : g_R (D + 1) 114 Q 97 [.inr (0, 286), .inl x1, .inl x2, .inl x3, .inl x4, .inl x5] [] M := by
  subst hD
  exact g_go hk_114 ⟨rfl, rfl⟩ (g_C_ok (g_F_ok (D := D1))) sp_114 15 h
set_option maxRecDepth 20000 in
theorem rg_114_166 {D : Nat} {Q : g_P} {M : g_M} {x1 : Int} {x2 : Int} {x3 : Int} {x4 : Int} {x5 : Int} {x6 : Int} {D1 : Nat} (hD : D = D1 + 2) (h : ((10 : Int) ≤ x6 → ((¬ x6 = (10 : Int) → (((0 : Int) ≤ x6 ∧ x6 < ((10 : Nat) : Int)) ∧ (((0 : Int) ≤ x2 ∧ x2 < ((8 : Nat) : Int)) ∧ (Q [.inl (1 : Int)] (g_uA (g_uA M (0, 296) x6.toNat x4) (0, 295) x2.toNat x6))))) ∧ (x6 = (10 : Int) → (Q [.inl (-3 : Int)] M)))) ∧ (x6 < (10 : Int) → (((0 : Int) ≤ x6 ∧ x6 < ((10 : Nat) : Int)) ∧ ((M.1 0 296 x6.toNat < (0 : Int) → ((¬ x6 = (10 : Int) → (((0 : Int) ≤ x6 ∧ x6 < ((10 : Nat) : Int)) ∧ (((0 : Int) ≤ x2 ∧ x2 < ((8 : Nat) : Int)) ∧ (Q [.inl (1 : Int)] (g_uA (g_uA M (0, 296) x6.toNat x4) (0, 295) x2.toNat x6))))) ∧ (x6 = (10 : Int) → (Q [.inl (-3 : Int)] M)))) ∧ ((0 : Int) ≤ M.1 0 296 x6.toNat → ((hm_in (x6 + (1 : Int))) ∧ (g_R (D + 1) 114 Q 166 [.inr (0, 286), .inl x1, .inl x2, .inl x3, .inl x4, .inl x5, .inl (x6 + (1 : Int))] [] M))))))) : g_R (D + 1) 114 Q 166 [.inr (0, 286), .inl x1, .inl x2, .inl x3, .inl x4, .inl x5, .inl x6] [] M := by
  subst hD
  exact g_go hk_114 ⟨rfl, rfl⟩ (g_C_ok (g_F_ok (D := D1))) sp_114 24 h
theorem hn_116 : 2 ≤ (hm_me 116).2.2.1 := by decide +kernel
/-- HeapLawModel.is(I)I -/
def sp_116 (pc : Nat) : Option Nat := match pc with
  | 17 => some 2
  | _ => none
set_option maxRecDepth 20000 in
theorem rg_116_0 {D : Nat} {Q : g_P} {M : g_M} {x1 : Int} {D1 : Nat} (hD : D = D1 + 2) (h : ((0 ≤ x1 ∧ x1 < M.1 0 286 1) → ((¬ (1 : Int) = (0 : Int) → (g_Ev D 117 [.inr (0, 286), .inl x1] M (fun q M' => g_R (D + 1) 116 Q 17 [.inr (0, 286), .inl x1] (q ++ []) M'))) ∧ ((1 : Int) = (0 : Int) → (Q [.inl (-1 : Int)] M)))) ∧ (¬ (0 ≤ x1 ∧ x1 < M.1 0 286 1) → ((¬ (0 : Int) = (0 : Int) → (g_Ev D 117 [.inr (0, 286), .inl x1] M (fun q M' => g_R (D + 1) 116 Q 17 [.inr (0, 286), .inl x1] (q ++ []) M'))) ∧ ((0 : Int) = (0 : Int) → (Q [.inl (-1 : Int)] M))))) : g_R (D + 1) 116 Q 0 [.inr (0, 286), .inl x1] [] M := by
  subst hD
  exact g_go hk_116 ⟨rfl, rfl⟩ (g_C_ok (g_F_ok (D := D1))) sp_116 8 h
set_option maxRecDepth 20000 in
theorem rg_116_17 {D : Nat} {Q : g_P} {M : g_M} {x1 : Int} {s0 : Int} {D1 : Nat} (hD : D = D1 + 2) (h : (s0 = (0 : Int) → (Q [.inl (0 : Int)] M)) ∧ (¬ s0 = (0 : Int) → (Q [.inl (1 : Int)] M))) : g_R (D + 1) 116 Q 17 [.inr (0, 286), .inl x1] [.inl s0] M := by
  subst hD
  exact g_go hk_116 ⟨rfl, rfl⟩ (g_C_ok (g_F_ok (D := D1))) sp_116 5 h
theorem hn_117 : 2 ≤ (hm_me 117).2.2.1 := by decide +kernel
/-- HeapLawModel.isFit(I)Z -/
def sp_117 (pc : Nat) : Option Nat := match pc with
  | 6 => some 2
  | 10 => some 2
  | 12 => some 3
  | 21 => some 3
  | 30 => some 3
  | _ => none
set_option maxRecDepth 20000 in
theorem rg_117_0 {D : Nat} {Q : g_P} {M : g_M} {x1 : Int} {D1 : Nat} (hD : D = D1 + 2) (h : g_Ev D 118 [.inr (0, 286), .inl x1, .inl (-1 : Int)] M (fun q M' => g_R (D + 1) 117 Q 6 [.inr (0, 286), .inl x1] (q ++ []) M')) : g_R (D + 1) 117 Q 0 [.inr (0, 286), .inl x1] [] M := by
  subst hD
  exact g_go hk_117 ⟨rfl, rfl⟩ (g_C_ok (g_F_ok (D := D1))) sp_117 5 h
set_option maxRecDepth 20000 in
theorem rg_117_6 {D : Nat} {Q : g_P} {M : g_M} {x1 : Int} {D1 : Nat} (hD : D = D1 + 2) (h : g_Ev D 119 [.inr (0, 286)] M (fun q M' => g_R (D + 1) 117 Q 10 [.inr (0, 286), .inl x1] (q ++ []) M')) : g_R (D + 1) 117 Q 6 [.inr (0, 286), .inl x1] [] M := by
  subst hD
  exact g_go hk_117 ⟨rfl, rfl⟩ (g_C_ok (g_F_ok (D := D1))) sp_117 3 h
set_option maxRecDepth 20000 in
theorem rg_117_10 {D : Nat} {Q : g_P} {M : g_M} {x1 : Int} {D1 : Nat} (hD : D = D1 + 2) (h : g_R (D + 1) 117 Q 12 [.inr (0, 286), .inl x1, .inl (1 : Int)] [] M) : g_R (D + 1) 117 Q 10 [.inr (0, 286), .inl x1] [] M := by
  subst hD
  exact g_go hk_117 ⟨rfl, rfl⟩ (g_C_ok (g_F_ok (D := D1))) sp_117 3 h
set_option maxRecDepth 20000 in
theorem rg_117_12 {D : Nat} {Q : g_P} {M : g_M} {x1 : Int} {x2 : Int} {D1 : Nat} (hD : D = D1 + 2) (h : (x2 = (0 : Int) → (((0 : Int) ≤ (0 : Int) ∧ (0 : Int) ≤ 1) ∧ (Q [.inl (0 : Int)] M))) ∧ (¬ x2 = (0 : Int) → (g_Ev D 120 [.inr (0, 286), .inl x1] M (fun q M' => g_R (D + 1) 117 Q 21 [.inr (0, 286), .inl x1, .inl x2] (q ++ []) M')))) : g_R (D + 1) 117 Q 12 [.inr (0, 286), .inl x1, .inl x2] [] M := by
  subst hD
  exact g_go hk_117 ⟨rfl, rfl⟩ (g_C_ok (g_F_ok (D := D1))) sp_117 6 h
set_option maxRecDepth 20000 in
theorem rg_117_21 {D : Nat} {Q : g_P} {M : g_M} {x1 : Int} {x2 : Int} {s0 : Int} {D1 : Nat} (hD : D = D1 + 2) (h : (s0 = (0 : Int) → (g_Ev D 123 [.inr (0, 286)] M (fun q M' => g_R (D + 1) 117 Q 30 [.inr (0, 286), .inl x1, .inl x2] (q ++ []) M'))) ∧ (¬ s0 = (0 : Int) → (((0 : Int) ≤ (1 : Int) ∧ (1 : Int) ≤ 1) ∧ (Q [.inl (1 : Int)] M)))) : g_R (D + 1) 117 Q 21 [.inr (0, 286), .inl x1, .inl x2] [.inl s0] M := by
  subst hD
  exact g_go hk_117 ⟨rfl, rfl⟩ (g_C_ok (g_F_ok (D := D1))) sp_117 4 h
set_option maxRecDepth 20000 in
theorem rg_117_30 {D : Nat} {Q : g_P} {M : g_M} {x1 : Int} {x2 : Int} {s0 : Int} {D1 : Nat} (hD : D = D1 + 2) (h : g_R (D + 1) 117 Q 12 [.inr (0, 286), .inl x1, .inl s0] [] M) : g_R (D + 1) 117 Q 30 [.inr (0, 286), .inl x1, .inl x2] [.inl s0] M := by
  subst hD
  exact g_go hk_117 ⟨rfl, rfl⟩ (g_C_ok (g_F_ok (D := D1))) sp_117 3 h
theorem hn_118 : 3 ≤ (hm_me 118).2.2.1 := by decide +kernel
/-- HeapLawModel.gather(II)V -/
def sp_118 (pc : Nat) : Option Nat := match pc with
  | 7 => some 4
  | 19 => some 4
  | 32 => some 4
  | _ => none
set_option maxRecDepth 20000 in
theorem rg_118_0 {D : Nat} {Q : g_P} {M : g_M} {x1 : Int} {x2 : Int} {D1 : Nat} (hD : D = D1 + 2) (h : g_R (D + 1) 118 Q 7 [.inr (0, 286), .inl x1, .inl x2, .inl (1 : Int)] [] (g_uA M (0, 286) 15 (0 : Int))) : g_R (D + 1) 118 Q 0 [.inr (0, 286), .inl x1, .inl x2] [] M := by
  subst hD
  exact g_go hk_118 ⟨rfl, rfl⟩ (g_C_ok (g_F_ok (D := D1))) sp_118 6 h
set_option maxRecDepth 20000 in
theorem rg_118_7 {D : Nat} {Q : g_P} {M : g_M} {x1 : Int} {x2 : Int} {x3 : Int} {D1 : Nat} (hD : D = D1 + 2) (h : ((8 : Int) ≤ x3 → (((0 : Int) ≤ (0 : Int) ∧ (0 : Int) < ((8 : Nat) : Int)) ∧ (Q [] (g_uA M (0, 298) (0 : Int).toNat (0 : Int))))) ∧ (x3 < (8 : Int) → (g_Ev D 112 [.inr (0, 286), .inl x1, .inl x3] M (fun q M' => g_R (D + 1) 118 Q 19 [.inr (0, 286), .inl x1, .inl x2, .inl x3] (q ++ []) M')))) : g_R (D + 1) 118 Q 7 [.inr (0, 286), .inl x1, .inl x2, .inl x3] [] M := by
  subst hD
  exact g_go hk_118 ⟨rfl, rfl⟩ (g_C_ok (g_F_ok (D := D1))) sp_118 10 h
set_option maxRecDepth 20000 in
theorem rg_118_19 {D : Nat} {Q : g_P} {M : g_M} {x1 : Int} {x2 : Int} {x3 : Int} {s0 : Int} {D1 : Nat} (hD : D = D1 + 2) (h : (¬ s0 = (0 : Int) → (((0 : Int) ≤ M.1 0 286 15 ∧ M.1 0 286 15 < ((8 : Nat) : Int)) ∧ ((hm_in ((M.1 0 286 15) + (1 : Int))) ∧ ((hm_in (x3 + (1 : Int))) ∧ (g_R (D + 1) 118 Q 7 [.inr (0, 286), .inl x1, .inl x2, .inl (x3 + (1 : Int))] [] (g_uA (g_uA M (0, 299) (M.1 0 286 15).toNat x3) (0, 286) 15 ((M.1 0 286 15) + (1 : Int)))))))) ∧ (s0 = (0 : Int) → ((x2 < (0 : Int) → ((hm_in (x3 + (1 : Int))) ∧ (g_R (D + 1) 118 Q 7 [.inr (0, 286), .inl x1, .inl x2, .inl (x3 + (1 : Int))] [] M))) ∧ ((0 : Int) ≤ x2 → (g_Ev D 112 [.inr (0, 286), .inl x2, .inl x3] M (fun q M' => g_R (D + 1) 118 Q 32 [.inr (0, 286), .inl x1, .inl x2, .inl x3] (q ++ []) M')))))) : g_R (D + 1) 118 Q 19 [.inr (0, 286), .inl x1, .inl x2, .inl x3] [.inl s0] M := by
  subst hD
  exact g_go hk_118 ⟨rfl, rfl⟩ (g_C_ok (g_F_ok (D := D1))) sp_118 16 h
set_option maxRecDepth 20000 in
theorem rg_118_32 {D : Nat} {Q : g_P} {M : g_M} {x1 : Int} {x2 : Int} {x3 : Int} {s0 : Int} {D1 : Nat} (hD : D = D1 + 2) (h : (¬ s0 = (0 : Int) → (((0 : Int) ≤ M.1 0 286 15 ∧ M.1 0 286 15 < ((8 : Nat) : Int)) ∧ ((hm_in ((M.1 0 286 15) + (1 : Int))) ∧ ((hm_in (x3 + (1 : Int))) ∧ (g_R (D + 1) 118 Q 7 [.inr (0, 286), .inl x1, .inl x2, .inl (x3 + (1 : Int))] [] (g_uA (g_uA M (0, 299) (M.1 0 286 15).toNat x3) (0, 286) 15 ((M.1 0 286 15) + (1 : Int)))))))) ∧ (s0 = (0 : Int) → ((hm_in (x3 + (1 : Int))) ∧ (g_R (D + 1) 118 Q 7 [.inr (0, 286), .inl x1, .inl x2, .inl (x3 + (1 : Int))] [] M)))) : g_R (D + 1) 118 Q 32 [.inr (0, 286), .inl x1, .inl x2, .inl x3] [.inl s0] M := by
  subst hD
  exact g_go hk_118 ⟨rfl, rfl⟩ (g_C_ok (g_F_ok (D := D1))) sp_118 16 h
theorem hn_119 : 1 ≤ (hm_me 119).2.2.1 := by decide +kernel
/-- HeapLawModel.firstClasses()V -/
def sp_119 (pc : Nat) : Option Nat := match pc with
  | 2 => some 2
  | _ => none
set_option maxRecDepth 20000 in
theorem rg_119_0 {D : Nat} {Q : g_P} {M : g_M} {D1 : Nat} (hD : D = D1 + 2) (h : g_R (D + 1) 119 Q 2 [.inr (0, 286), .inl (0 : Int)] [] M) : g_R (D + 1) 119 Q 0 [.inr (0, 286)] [] M := by
  subst hD
  exact g_go hk_119 ⟨rfl, rfl⟩ (g_C_ok (g_F_ok (D := D1))) sp_119 3 h
set_option maxRecDepth 20000 in
theorem rg_119_2 {D : Nat} {Q : g_P} {M : g_M} {x1 : Int} {D1 : Nat} (hD : D = D1 + 2) (h : (M.1 0 286 15 ≤ x1 → (Q [] (g_uA M (0, 286) 16 (1 : Int)))) ∧ (x1 < M.1 0 286 15 → (((0 : Int) ≤ x1 ∧ x1 < ((8 : Nat) : Int)) ∧ (((0 : Int) ≤ M.1 0 299 x1.toNat ∧ M.1 0 299 x1.toNat < ((8 : Nat) : Int)) ∧ ((hm_in (x1 + (1 : Int))) ∧ (g_R (D + 1) 119 Q 2 [.inr (0, 286), .inl (x1 + (1 : Int))] [] (g_uA M (0, 298) (M.1 0 299 x1.toNat).toNat (0 : Int)))))))) : g_R (D + 1) 119 Q 2 [.inr (0, 286), .inl x1] [] M := by
  subst hD
  exact g_go hk_119 ⟨rfl, rfl⟩ (g_C_ok (g_F_ok (D := D1))) sp_119 15 h
theorem hn_120 : 2 ≤ (hm_me 120).2.2.1 := by decide +kernel
/-- HeapLawModel.suits(I)Z -/
def sp_120 (pc : Nat) : Option Nat := match pc with
  | 5 => some 2
  | 12 => some 3
  | 33 => some 3
  | 49 => some 3
  | _ => none
set_option maxRecDepth 20000 in
theorem rg_120_0 {D : Nat} {Q : g_P} {M : g_M} {x1 : Int} {D1 : Nat} (hD : D = D1 + 2) (h : g_Ev D 121 [.inr (0, 286), .inl x1] M (fun q M' => g_R (D + 1) 120 Q 5 [.inr (0, 286), .inl x1] (q ++ []) M')) : g_R (D + 1) 120 Q 0 [.inr (0, 286), .inl x1] [] M := by
  subst hD
  exact g_go hk_120 ⟨rfl, rfl⟩ (g_C_ok (g_F_ok (D := D1))) sp_120 4 h
set_option maxRecDepth 20000 in
theorem rg_120_5 {D : Nat} {Q : g_P} {M : g_M} {x1 : Int} {s0 : Int} {D1 : Nat} (hD : D = D1 + 2) (h : (¬ s0 = (0 : Int) → (g_R (D + 1) 120 Q 12 [.inr (0, 286), .inl x1, .inl (0 : Int)] [] M)) ∧ (s0 = (0 : Int) → (((0 : Int) ≤ (0 : Int) ∧ (0 : Int) ≤ 1) ∧ (Q [.inl (0 : Int)] M)))) : g_R (D + 1) 120 Q 5 [.inr (0, 286), .inl x1] [.inl s0] M := by
  subst hD
  exact g_go hk_120 ⟨rfl, rfl⟩ (g_C_ok (g_F_ok (D := D1))) sp_120 4 h
set_option maxRecDepth 20000 in
theorem rg_120_12 {D : Nat} {Q : g_P} {M : g_M} {x1 : Int} {x2 : Int} {D1 : Nat} (hD : D = D1 + 2) (h : ((8 : Int) ≤ x2 → (g_R (D + 1) 120 Q 33 [.inr (0, 286), .inl x1, .inl (0 : Int)] [] M)) ∧ (x2 < (8 : Int) → (((0 : Int) ≤ x2 ∧ x2 < ((8 : Nat) : Int)) ∧ ((hm_in (x2 + (1 : Int))) ∧ (g_R (D + 1) 120 Q 12 [.inr (0, 286), .inl x1, .inl (x2 + (1 : Int))] [] (g_uA M (0, 300) x2.toNat (-1 : Int))))))) : g_R (D + 1) 120 Q 12 [.inr (0, 286), .inl x1, .inl x2] [] M := by
  subst hD
  exact g_go hk_120 ⟨rfl, rfl⟩ (g_C_ok (g_F_ok (D := D1))) sp_120 11 h
set_option maxRecDepth 20000 in
theorem rg_120_33 {D : Nat} {Q : g_P} {M : g_M} {x1 : Int} {x2 : Int} {D1 : Nat} (hD : D = D1 + 2) (h : ((0 : Int) ≤ x1 ∧ x1 < ((200 : Nat) : Int)) ∧ ((M.1 0 291 x1.toNat ≤ x2 → (((0 : Int) ≤ (1 : Int) ∧ (1 : Int) ≤ 1) ∧ (Q [.inl (1 : Int)] M))) ∧ (x2 < M.1 0 291 x1.toNat → (g_Ev D 122 [.inr (0, 286), .inl x1, .inl x2] M (fun q M' => g_R (D + 1) 120 Q 49 [.inr (0, 286), .inl x1, .inl x2] (q ++ []) M'))))) : g_R (D + 1) 120 Q 33 [.inr (0, 286), .inl x1, .inl x2] [] M := by
  subst hD
  exact g_go hk_120 ⟨rfl, rfl⟩ (g_C_ok (g_F_ok (D := D1))) sp_120 11 h
set_option maxRecDepth 20000 in
theorem rg_120_49 {D : Nat} {Q : g_P} {M : g_M} {x1 : Int} {x2 : Int} {s0 : Int} {D1 : Nat} (hD : D = D1 + 2) (h : (s0 = (0 : Int) → ((hm_in ((10 : Int) * x1)) ∧ ((hm_in (((10 : Int) * x1) + x2)) ∧ (((0 : Int) ≤ ((10 : Int) * x1) + x2 ∧ ((10 : Int) * x1) + x2 < ((2000 : Nat) : Int)) ∧ (((0 : Int) ≤ M.1 0 293 (((10 : Int) * x1) + x2).toNat ∧ M.1 0 293 (((10 : Int) * x1) + x2).toNat < ((8 : Nat) : Int)) ∧ ((M.1 0 298 (M.1 0 293 (((10 : Int) * x1) + x2).toNat).toNat = (0 : Int) → (((0 : Int) ≤ (0 : Int) ∧ (0 : Int) ≤ 1) ∧ (Q [.inl (0 : Int)] M))) ∧ (¬ M.1 0 298 (M.1 0 293 (((10 : Int) * x1) + x2).toNat).toNat = (0 : Int) → (((0 : Int) ≤ M.1 0 298 (M.1 0 293 (((10 : Int) * x1) + x2).toNat).toNat ∧ M.1 0 298 (M.1 0 293 (((10 : Int) * x1) + x2).toNat).toNat < ((8 : Nat) : Int)) ∧ ((M.1 0 300 (M.1 0 298 (M.1 0 293 (((10 : Int) * x1) + x2).toNat).toNat).toNat < (0 : Int) → (((0 : Int) ≤ M.1 0 298 (M.1 0 293 (((10 : Int) * x1) + x2).toNat).toNat ∧ M.1 0 298 (M.1 0 293 (((10 : Int) * x1) + x2).toNat).toNat < ((8 : Nat) : Int)) ∧ ((hm_in (x2 + (1 : Int))) ∧ (g_R (D + 1) 120 Q 33 [.inr (0, 286), .inl x1, .inl (x2 + (1 : Int))] [] (g_uA M (0, 300) (M.1 0 298 (M.1 0 293 (((10 : Int) * x1) + x2).toNat).toNat).toNat x2))))) ∧ ((0 : Int) ≤ M.1 0 300 (M.1 0 298 (M.1 0 293 (((10 : Int) * x1) + x2).toNat).toNat).toNat → (((0 : Int) ≤ (0 : Int) ∧ (0 : Int) ≤ 1) ∧ (Q [.inl (0 : Int)] M)))))))))))) ∧ (¬ s0 = (0 : Int) → ((hm_in (x2 + (1 : Int))) ∧ (g_R (D + 1) 120 Q 33 [.inr (0, 286), .inl x1, .inl (x2 + (1 : Int))] [] M)))) : g_R (D + 1) 120 Q 49 [.inr (0, 286), .inl x1, .inl x2] [.inl s0] M := by
  subst hD
  exact g_go hk_120 ⟨rfl, rfl⟩ (g_C_ok (g_F_ok (D := D1))) sp_120 28 h
theorem hn_121 : 2 ≤ (hm_me 121).2.2.1 := by decide +kernel
/-- HeapLawModel.pureHolds(I)Z -/
def sp_121 (pc : Nat) : Option Nat := match pc with
  | 2 => some 3
  | _ => none
set_option maxRecDepth 20000 in
theorem rg_121_0 {D : Nat} {Q : g_P} {M : g_M} {x1 : Int} {D1 : Nat} (hD : D = D1 + 2) (h : g_R (D + 1) 121 Q 2 [.inr (0, 286), .inl x1, .inl (0 : Int)] [] M) : g_R (D + 1) 121 Q 0 [.inr (0, 286), .inl x1] [] M := by
  subst hD
  exact g_go hk_121 ⟨rfl, rfl⟩ (g_C_ok (g_F_ok (D := D1))) sp_121 3 h
set_option maxRecDepth 20000 in
theorem rg_121_2 {D : Nat} {Q : g_P} {M : g_M} {x1 : Int} {x2 : Int} {D1 : Nat} (hD : D = D1 + 2) (h : ((0 : Int) ≤ x1 ∧ x1 < ((200 : Nat) : Int)) ∧ ((M.1 0 287 x1.toNat ≤ x2 → (((0 : Int) ≤ (1 : Int) ∧ (1 : Int) ≤ 1) ∧ (Q [.inl (1 : Int)] M))) ∧ (x2 < M.1 0 287 x1.toNat → ((hm_in ((16 : Int) * x1)) ∧ ((hm_in (((16 : Int) * x1) + x2)) ∧ (((0 : Int) ≤ ((16 : Int) * x1) + x2 ∧ ((16 : Int) * x1) + x2 < ((3200 : Nat) : Int)) ∧ (((0 : Int) ≤ M.1 0 289 (((16 : Int) * x1) + x2).toNat ∧ M.1 0 289 (((16 : Int) * x1) + x2).toNat < ((8 : Nat) : Int)) ∧ ((hm_in ((16 : Int) * x1)) ∧ ((hm_in (((16 : Int) * x1) + x2)) ∧ (((0 : Int) ≤ ((16 : Int) * x1) + x2 ∧ ((16 : Int) * x1) + x2 < ((3200 : Nat) : Int)) ∧ (((0 : Int) ≤ M.1 0 290 (((16 : Int) * x1) + x2).toNat ∧ M.1 0 290 (((16 : Int) * x1) + x2).toNat < ((8 : Nat) : Int)) ∧ ((¬ M.1 0 298 (M.1 0 289 (((16 : Int) * x1) + x2).toNat).toNat = M.1 0 298 (M.1 0 290 (((16 : Int) * x1) + x2).toNat).toNat → ((hm_in ((16 : Int) * x1)) ∧ ((hm_in (((16 : Int) * x1) + x2)) ∧ (((0 : Int) ≤ ((16 : Int) * x1) + x2 ∧ ((16 : Int) * x1) + x2 < ((3200 : Nat) : Int)) ∧ ((¬ M.1 0 288 (((16 : Int) * x1) + x2).toNat = (0 : Int) → (((0 : Int) = (0 : Int) → ((hm_in (x2 + (1 : Int))) ∧ (g_R (D + 1) 121 Q 2 [.inr (0, 286), .inl x1, .inl (x2 + (1 : Int))] [] M))) ∧ (¬ (0 : Int) = (0 : Int) → (((0 : Int) ≤ (0 : Int) ∧ (0 : Int) ≤ 1) ∧ (Q [.inl (0 : Int)] M))))) ∧ (M.1 0 288 (((16 : Int) * x1) + x2).toNat = (0 : Int) → (((0 : Int) = (1 : Int) → ((hm_in (x2 + (1 : Int))) ∧ (g_R (D + 1) 121 Q 2 [.inr (0, 286), .inl x1, .inl (x2 + (1 : Int))] [] M))) ∧ (¬ (0 : Int) = (1 : Int) → (((0 : Int) ≤ (0 : Int) ∧ (0 : Int) ≤ 1) ∧ (Q [.inl (0 : Int)] M)))))))))) ∧ (M.1 0 298 (M.1 0 289 (((16 : Int) * x1) + x2).toNat).toNat = M.1 0 298 (M.1 0 290 (((16 : Int) * x1) + x2).toNat).toNat → ((hm_in ((16 : Int) * x1)) ∧ ((hm_in (((16 : Int) * x1) + x2)) ∧ (((0 : Int) ≤ ((16 : Int) * x1) + x2 ∧ ((16 : Int) * x1) + x2 < ((3200 : Nat) : Int)) ∧ ((¬ M.1 0 288 (((16 : Int) * x1) + x2).toNat = (0 : Int) → (((1 : Int) = (0 : Int) → ((hm_in (x2 + (1 : Int))) ∧ (g_R (D + 1) 121 Q 2 [.inr (0, 286), .inl x1, .inl (x2 + (1 : Int))] [] M))) ∧ (¬ (1 : Int) = (0 : Int) → (((0 : Int) ≤ (0 : Int) ∧ (0 : Int) ≤ 1) ∧ (Q [.inl (0 : Int)] M))))) ∧ (M.1 0 288 (((16 : Int) * x1) + x2).toNat = (0 : Int) → (((1 : Int) = (1 : Int) → ((hm_in (x2 + (1 : Int))) ∧ (g_R (D + 1) 121 Q 2 [.inr (0, 286), .inl x1, .inl (x2 + (1 : Int))] [] M))) ∧ (¬ (1 : Int) = (1 : Int) → (((0 : Int) ≤ (0 : Int) ∧ (0 : Int) ≤ 1) ∧ (Q [.inl (0 : Int)] M)))))))))))))))))))))) : g_R (D + 1) 121 Q 2 [.inr (0, 286), .inl x1, .inl x2] [] M := by
  subst hD
  exact g_go hk_121 ⟨rfl, rfl⟩ (g_C_ok (g_F_ok (D := D1))) sp_121 46 h
theorem hn_122 : 3 ≤ (hm_me 122).2.2.1 := by decide +kernel
/-- HeapLawModel.isEmpty(II)Z -/
def sp_122 (pc : Nat) : Option Nat := match pc with
  | _ => none
set_option maxRecDepth 20000 in
theorem rg_122_0 {D : Nat} {Q : g_P} {M : g_M} {x1 : Int} {x2 : Int} {D1 : Nat} (hD : D = D1 + 2) (h : (hm_in ((10 : Int) * x1)) ∧ ((hm_in (((10 : Int) * x1) + x2)) ∧ (((0 : Int) ≤ ((10 : Int) * x1) + x2 ∧ ((10 : Int) * x1) + x2 < ((2000 : Nat) : Int)) ∧ ((¬ M.1 0 292 (((10 : Int) * x1) + x2).toNat = (1 : Int) → (((0 : Int) ≤ (0 : Int) ∧ (0 : Int) ≤ 1) ∧ (Q [.inl (0 : Int)] M))) ∧ (M.1 0 292 (((10 : Int) * x1) + x2).toNat = (1 : Int) → ((hm_in ((10 : Int) * x1)) ∧ ((hm_in (((10 : Int) * x1) + x2)) ∧ (((0 : Int) ≤ ((10 : Int) * x1) + x2 ∧ ((10 : Int) * x1) + x2 < ((2000 : Nat) : Int)) ∧ (((0 : Int) ≤ M.1 0 293 (((10 : Int) * x1) + x2).toNat ∧ M.1 0 293 (((10 : Int) * x1) + x2).toNat < ((8 : Nat) : Int)) ∧ ((hm_in ((10 : Int) * x1)) ∧ ((hm_in (((10 : Int) * x1) + x2)) ∧ (((0 : Int) ≤ ((10 : Int) * x1) + x2 ∧ ((10 : Int) * x1) + x2 < ((2000 : Nat) : Int)) ∧ (((0 : Int) ≤ M.1 0 294 (((10 : Int) * x1) + x2).toNat ∧ M.1 0 294 (((10 : Int) * x1) + x2).toNat < ((8 : Nat) : Int)) ∧ ((¬ M.1 0 298 (M.1 0 293 (((10 : Int) * x1) + x2).toNat).toNat = M.1 0 298 (M.1 0 294 (((10 : Int) * x1) + x2).toNat).toNat → (((0 : Int) ≤ (0 : Int) ∧ (0 : Int) ≤ 1) ∧ (Q [.inl (0 : Int)] M))) ∧ (M.1 0 298 (M.1 0 293 (((10 : Int) * x1) + x2).toNat).toNat = M.1 0 298 (M.1 0 294 (((10 : Int) * x1) + x2).toNat).toNat → (((0 : Int) ≤ (1 : Int) ∧ (1 : Int) ≤ 1) ∧ (Q [.inl (1 : Int)] M))))))))))))))))) : g_R (D + 1) 122 Q 0 [.inr (0, 286), .inl x1, .inl x2] [] M := by
  subst hD
  exact g_go hk_122 ⟨rfl, rfl⟩ (g_C_ok (g_F_ok (D := D1))) sp_122 37 h
theorem hn_123 : 1 ≤ (hm_me 123).2.2.1 := by decide +kernel
/-- HeapLawModel.nextClasses()Z -/
def sp_123 (pc : Nat) : Option Nat := match pc with
  | 7 => some 2
  | 15 => some 4
  | 106 => some 3
  | 139 => some 3
  | _ => none
set_option maxRecDepth 20000 in
theorem rg_123_0 {D : Nat} {Q : g_P} {M : g_M} {D1 : Nat} (hD : D = D1 + 2) (h : (hm_in ((M.1 0 286 15) - (1 : Int))) ∧ (g_R (D + 1) 123 Q 7 [.inr (0, 286), .inl ((M.1 0 286 15) - (1 : Int))] [] M)) : g_R (D + 1) 123 Q 0 [.inr (0, 286)] [] M := by
  subst hD
  exact g_go hk_123 ⟨rfl, rfl⟩ (g_C_ok (g_F_ok (D := D1))) sp_123 6 h
set_option maxRecDepth 20000 in
theorem rg_123_7 {D : Nat} {Q : g_P} {M : g_M} {x1 : Int} {D1 : Nat} (hD : D = D1 + 2) (h : (x1 < (0 : Int) → (((0 : Int) ≤ x1 → (((0 : Int) ≤ x1 ∧ x1 < ((8 : Nat) : Int)) ∧ (((0 : Int) ≤ M.1 0 299 x1.toNat ∧ M.1 0 299 x1.toNat < ((8 : Nat) : Int)) ∧ ((hm_in ((M.1 0 298 (M.1 0 299 x1.toNat).toNat) + (1 : Int))) ∧ (((0 : Int) ≤ M.1 0 299 x1.toNat ∧ M.1 0 299 x1.toNat < ((8 : Nat) : Int)) ∧ ((hm_in (x1 + (1 : Int))) ∧ (g_R (D + 1) 123 Q 106 [.inr (0, 286), .inl x1, .inl (x1 + (1 : Int))] [] (g_uA M (0, 298) (M.1 0 299 x1.toNat).toNat ((M.1 0 298 (M.1 0 299 x1.toNat).toNat) + (1 : Int)))))))))) ∧ (x1 < (0 : Int) → (((0 : Int) ≤ (0 : Int) ∧ (0 : Int) ≤ 1) ∧ (Q [.inl (0 : Int)] M))))) ∧ ((0 : Int) ≤ x1 → (g_R (D + 1) 123 Q 15 [.inr (0, 286), .inl x1, .inl (0 : Int), .inl (0 : Int)] [] M))) : g_R (D + 1) 123 Q 7 [.inr (0, 286), .inl x1] [] M := by
  subst hD
  exact g_go hk_123 ⟨rfl, rfl⟩ (g_C_ok (g_F_ok (D := D1))) sp_123 20 h
set_option maxRecDepth 20000 in
theorem rg_123_15 {D : Nat} {Q : g_P} {M : g_M} {x1 : Int} {x2 : Int} {x3 : Int} {D1 : Nat} (hD : D = D1 + 2) (h : (x1 ≤ x3 → (((0 : Int) ≤ x1 ∧ x1 < ((8 : Nat) : Int)) ∧ (((0 : Int) ≤ M.1 0 299 x1.toNat ∧ M.1 0 299 x1.toNat < ((8 : Nat) : Int)) ∧ ((x2 < M.1 0 298 (M.1 0 299 x1.toNat).toNat → ((hm_in (x1 + (-1 : Int))) ∧ (g_R (D + 1) 123 Q 7 [.inr (0, 286), .inl (x1 + (-1 : Int))] [] M))) ∧ (M.1 0 298 (M.1 0 299 x1.toNat).toNat ≤ x2 → (((0 : Int) ≤ x1 → (((0 : Int) ≤ x1 ∧ x1 < ((8 : Nat) : Int)) ∧ (((0 : Int) ≤ M.1 0 299 x1.toNat ∧ M.1 0 299 x1.toNat < ((8 : Nat) : Int)) ∧ ((hm_in ((M.1 0 298 (M.1 0 299 x1.toNat).toNat) + (1 : Int))) ∧ (((0 : Int) ≤ M.1 0 299 x1.toNat ∧ M.1 0 299 x1.toNat < ((8 : Nat) : Int)) ∧ ((hm_in (x1 + (1 : Int))) ∧ (g_R (D + 1) 123 Q 106 [.inr (0, 286), .inl x1, .inl (x1 + (1 : Int))] [] (g_uA M (0, 298) (M.1 0 299 x1.toNat).toNat ((M.1 0 298 (M.1 0 299 x1.toNat).toNat) + (1 : Int)))))))))) ∧ (x1 < (0 : Int) → (((0 : Int) ≤ (0 : Int) ∧ (0 : Int) ≤ 1) ∧ (Q [.inl (0 : Int)] M))))))))) ∧ (x3 < x1 → (((0 : Int) ≤ x3 ∧ x3 < ((8 : Nat) : Int)) ∧ (((0 : Int) ≤ M.1 0 299 x3.toNat ∧ M.1 0 299 x3.toNat < ((8 : Nat) : Int)) ∧ ((M.1 0 298 (M.1 0 299 x3.toNat).toNat ≤ x2 → ((hm_in (x3 + (1 : Int))) ∧ (g_R (D + 1) 123 Q 15 [.inr (0, 286), .inl x1, .inl x2, .inl (x3 + (1 : Int))] [] M))) ∧ (x2 < M.1 0 298 (M.1 0 299 x3.toNat).toNat → (((0 : Int) ≤ x3 ∧ x3 < ((8 : Nat) : Int)) ∧ (((0 : Int) ≤ M.1 0 299 x3.toNat ∧ M.1 0 299 x3.toNat < ((8 : Nat) : Int)) ∧ ((hm_in (x3 + (1 : Int))) ∧ (g_R (D + 1) 123 Q 15 [.inr (0, 286), .inl x1, .inl (M.1 0 298 (M.1 0 299 x3.toNat).toNat), .inl (x3 + (1 : Int))] [] M)))))))))) : g_R (D + 1) 123 Q 15 [.inr (0, 286), .inl x1, .inl x2, .inl x3] [] M := by
  subst hD
  exact g_go hk_123 ⟨rfl, rfl⟩ (g_C_ok (g_F_ok (D := D1))) sp_123 31 h
set_option maxRecDepth 20000 in
theorem rg_123_106 {D : Nat} {Q : g_P} {M : g_M} {x1 : Int} {x2 : Int} {D1 : Nat} (hD : D = D1 + 2) (h : (M.1 0 286 15 ≤ x2 → (g_R (D + 1) 123 Q 139 [.inr (0, 286), .inl x1, .inl (0 : Int)] [] (g_uA M (0, 286) 16 (1 : Int)))) ∧ (x2 < M.1 0 286 15 → (((0 : Int) ≤ x2 ∧ x2 < ((8 : Nat) : Int)) ∧ (((0 : Int) ≤ M.1 0 299 x2.toNat ∧ M.1 0 299 x2.toNat < ((8 : Nat) : Int)) ∧ ((hm_in (x2 + (1 : Int))) ∧ (g_R (D + 1) 123 Q 106 [.inr (0, 286), .inl x1, .inl (x2 + (1 : Int))] [] (g_uA M (0, 298) (M.1 0 299 x2.toNat).toNat (0 : Int)))))))) : g_R (D + 1) 123 Q 106 [.inr (0, 286), .inl x1, .inl x2] [] M := by
  subst hD
  exact g_go hk_123 ⟨rfl, rfl⟩ (g_C_ok (g_F_ok (D := D1))) sp_123 15 h
set_option maxRecDepth 20000 in
theorem rg_123_139 {D : Nat} {Q : g_P} {M : g_M} {x1 : Int} {x2 : Int} {D1 : Nat} (hD : D = D1 + 2) (h : (M.1 0 286 15 ≤ x2 → (((0 : Int) ≤ (1 : Int) ∧ (1 : Int) ≤ 1) ∧ (Q [.inl (1 : Int)] M))) ∧ (x2 < M.1 0 286 15 → (((0 : Int) ≤ x2 ∧ x2 < ((8 : Nat) : Int)) ∧ (((0 : Int) ≤ M.1 0 299 x2.toNat ∧ M.1 0 299 x2.toNat < ((8 : Nat) : Int)) ∧ ((M.1 0 298 (M.1 0 299 x2.toNat).toNat < M.1 0 286 16 → ((hm_in (x2 + (1 : Int))) ∧ (g_R (D + 1) 123 Q 139 [.inr (0, 286), .inl x1, .inl (x2 + (1 : Int))] [] (g_uA M (0, 286) 16 (M.1 0 286 16))))) ∧ (M.1 0 286 16 ≤ M.1 0 298 (M.1 0 299 x2.toNat).toNat → (((0 : Int) ≤ x2 ∧ x2 < ((8 : Nat) : Int)) ∧ (((0 : Int) ≤ M.1 0 299 x2.toNat ∧ M.1 0 299 x2.toNat < ((8 : Nat) : Int)) ∧ ((hm_in ((M.1 0 298 (M.1 0 299 x2.toNat).toNat) + (1 : Int))) ∧ ((hm_in (x2 + (1 : Int))) ∧ (g_R (D + 1) 123 Q 139 [.inr (0, 286), .inl x1, .inl (x2 + (1 : Int))] [] (g_uA M (0, 286) 16 ((M.1 0 298 (M.1 0 299 x2.toNat).toNat) + (1 : Int)))))))))))))) : g_R (D + 1) 123 Q 139 [.inr (0, 286), .inl x1, .inl x2] [] M := by
  subst hD
  exact g_go hk_123 ⟨rfl, rfl⟩ (g_C_ok (g_F_ok (D := D1))) sp_123 29 h
theorem hn_124 : 3 ≤ (hm_me 124).2.2.1 := by decide +kernel
/-- HeapLawModel.says(II)I -/
def sp_124 (pc : Nat) : Option Nat := match pc with
  | 23 => some 3
  | 35 => some 3
  | 39 => some 3
  | 41 => some 4
  | 50 => some 4
  | 59 => some 4
  | 68 => some 4
  | _ => none
set_option maxRecDepth 20000 in
theorem rg_124_0 {D : Nat} {Q : g_P} {M : g_M} {x1 : Int} {x2 : Int} {D1 : Nat} (hD : D = D1 + 2) (h : ((0 ≤ x1 ∧ x1 < M.1 0 286 1) → (((1 : Int) = (0 : Int) → (Q [.inl (-1 : Int)] M)) ∧ (¬ (1 : Int) = (0 : Int) → (((0 ≤ x2 ∧ x2 < M.1 0 286 1) → ((¬ (1 : Int) = (0 : Int) → (g_Ev D 125 [.inr (0, 286), .inl x2] M (fun q M' => g_R (D + 1) 124 Q 23 [.inr (0, 286), .inl x1, .inl x2] (q ++ []) M'))) ∧ ((1 : Int) = (0 : Int) → (Q [.inl (-1 : Int)] M)))) ∧ (¬ (0 ≤ x2 ∧ x2 < M.1 0 286 1) → ((¬ (0 : Int) = (0 : Int) → (g_Ev D 125 [.inr (0, 286), .inl x2] M (fun q M' => g_R (D + 1) 124 Q 23 [.inr (0, 286), .inl x1, .inl x2] (q ++ []) M'))) ∧ ((0 : Int) = (0 : Int) → (Q [.inl (-1 : Int)] M)))))))) ∧ (¬ (0 ≤ x1 ∧ x1 < M.1 0 286 1) → (((0 : Int) = (0 : Int) → (Q [.inl (-1 : Int)] M)) ∧ (¬ (0 : Int) = (0 : Int) → (((0 ≤ x2 ∧ x2 < M.1 0 286 1) → ((¬ (1 : Int) = (0 : Int) → (g_Ev D 125 [.inr (0, 286), .inl x2] M (fun q M' => g_R (D + 1) 124 Q 23 [.inr (0, 286), .inl x1, .inl x2] (q ++ []) M'))) ∧ ((1 : Int) = (0 : Int) → (Q [.inl (-1 : Int)] M)))) ∧ (¬ (0 ≤ x2 ∧ x2 < M.1 0 286 1) → ((¬ (0 : Int) = (0 : Int) → (g_Ev D 125 [.inr (0, 286), .inl x2] M (fun q M' => g_R (D + 1) 124 Q 23 [.inr (0, 286), .inl x1, .inl x2] (q ++ []) M'))) ∧ ((0 : Int) = (0 : Int) → (Q [.inl (-1 : Int)] M))))))))) : g_R (D + 1) 124 Q 0 [.inr (0, 286), .inl x1, .inl x2] [] M := by
  subst hD
  exact g_go hk_124 ⟨rfl, rfl⟩ (g_C_ok (g_F_ok (D := D1))) sp_124 12 h
set_option maxRecDepth 20000 in
theorem rg_124_23 {D : Nat} {Q : g_P} {M : g_M} {x1 : Int} {x2 : Int} {s0 : Int} {D1 : Nat} (hD : D = D1 + 2) (h : (s0 = (0 : Int) → (g_Ev D 118 [.inr (0, 286), .inl x1, .inl x2] M (fun q M' => g_R (D + 1) 124 Q 35 [.inr (0, 286), .inl x1, .inl x2] (q ++ []) M'))) ∧ (¬ s0 = (0 : Int) → (Q [.inl (-3 : Int)] M))) : g_R (D + 1) 124 Q 23 [.inr (0, 286), .inl x1, .inl x2] [.inl s0] M := by
  subst hD
  exact g_go hk_124 ⟨rfl, rfl⟩ (g_C_ok (g_F_ok (D := D1))) sp_124 6 h
set_option maxRecDepth 20000 in
theorem rg_124_35 {D : Nat} {Q : g_P} {M : g_M} {x1 : Int} {x2 : Int} {D1 : Nat} (hD : D = D1 + 2) (h : g_Ev D 119 [.inr (0, 286)] M (fun q M' => g_R (D + 1) 124 Q 39 [.inr (0, 286), .inl x1, .inl x2] (q ++ []) M')) : g_R (D + 1) 124 Q 35 [.inr (0, 286), .inl x1, .inl x2] [] M := by
  subst hD
  exact g_go hk_124 ⟨rfl, rfl⟩ (g_C_ok (g_F_ok (D := D1))) sp_124 3 h
set_option maxRecDepth 20000 in
theorem rg_124_39 {D : Nat} {Q : g_P} {M : g_M} {x1 : Int} {x2 : Int} {D1 : Nat} (hD : D = D1 + 2) (h : g_R (D + 1) 124 Q 41 [.inr (0, 286), .inl x1, .inl x2, .inl (1 : Int)] [] M) : g_R (D + 1) 124 Q 39 [.inr (0, 286), .inl x1, .inl x2] [] M := by
  subst hD
  exact g_go hk_124 ⟨rfl, rfl⟩ (g_C_ok (g_F_ok (D := D1))) sp_124 3 h
set_option maxRecDepth 20000 in
theorem rg_124_41 {D : Nat} {Q : g_P} {M : g_M} {x1 : Int} {x2 : Int} {x3 : Int} {D1 : Nat} (hD : D = D1 + 2) (h : (x3 = (0 : Int) → (Q [.inl (1 : Int)] M)) ∧ (¬ x3 = (0 : Int) → (g_Ev D 120 [.inr (0, 286), .inl x1] M (fun q M' => g_R (D + 1) 124 Q 50 [.inr (0, 286), .inl x1, .inl x2, .inl x3] (q ++ []) M')))) : g_R (D + 1) 124 Q 41 [.inr (0, 286), .inl x1, .inl x2, .inl x3] [] M := by
  subst hD
  exact g_go hk_124 ⟨rfl, rfl⟩ (g_C_ok (g_F_ok (D := D1))) sp_124 6 h
set_option maxRecDepth 20000 in
theorem rg_124_50 {D : Nat} {Q : g_P} {M : g_M} {x1 : Int} {x2 : Int} {x3 : Int} {s0 : Int} {D1 : Nat} (hD : D = D1 + 2) (h : (s0 = (0 : Int) → (g_Ev D 123 [.inr (0, 286)] M (fun q M' => g_R (D + 1) 124 Q 68 [.inr (0, 286), .inl x1, .inl x2, .inl x3] (q ++ []) M'))) ∧ (¬ s0 = (0 : Int) → (g_Ev D 126 [.inr (0, 286), .inl x1, .inl x2] M (fun q M' => g_R (D + 1) 124 Q 59 [.inr (0, 286), .inl x1, .inl x2, .inl x3] (q ++ []) M')))) : g_R (D + 1) 124 Q 50 [.inr (0, 286), .inl x1, .inl x2, .inl x3] [.inl s0] M := by
  subst hD
  exact g_go hk_124 ⟨rfl, rfl⟩ (g_C_ok (g_F_ok (D := D1))) sp_124 6 h
set_option maxRecDepth 20000 in
theorem rg_124_59 {D : Nat} {Q : g_P} {M : g_M} {x1 : Int} {x2 : Int} {x3 : Int} {s0 : Int} {D1 : Nat} (hD : D = D1 + 2) (h : (¬ s0 = (0 : Int) → (g_Ev D 123 [.inr (0, 286)] M (fun q M' => g_R (D + 1) 124 Q 68 [.inr (0, 286), .inl x1, .inl x2, .inl x3] (q ++ []) M'))) ∧ (s0 = (0 : Int) → (Q [.inl (0 : Int)] M))) : g_R (D + 1) 124 Q 59 [.inr (0, 286), .inl x1, .inl x2, .inl x3] [.inl s0] M := by
  subst hD
  exact g_go hk_124 ⟨rfl, rfl⟩ (g_C_ok (g_F_ok (D := D1))) sp_124 4 h
set_option maxRecDepth 20000 in
theorem rg_124_68 {D : Nat} {Q : g_P} {M : g_M} {x1 : Int} {x2 : Int} {x3 : Int} {s0 : Int} {D1 : Nat} (hD : D = D1 + 2) (h : g_R (D + 1) 124 Q 41 [.inr (0, 286), .inl x1, .inl x2, .inl s0] [] M) : g_R (D + 1) 124 Q 68 [.inr (0, 286), .inl x1, .inl x2, .inl x3] [.inl s0] M := by
  subst hD
  exact g_go hk_124 ⟨rfl, rfl⟩ (g_C_ok (g_F_ok (D := D1))) sp_124 3 h
theorem hn_125 : 2 ≤ (hm_me 125).2.2.1 := by decide +kernel
/-- HeapLawModel.hasSpare(I)Z -/
def sp_125 (pc : Nat) : Option Nat := match pc with
  | 6 => some 2
  | 16 => some 2
  | 26 => some 2
  | _ => none
set_option maxRecDepth 20000 in
theorem rg_125_0 {D : Nat} {Q : g_P} {M : g_M} {x1 : Int} {D1 : Nat} (hD : D = D1 + 2) (h : g_Ev D 112 [.inr (0, 286), .inl x1, .inl (5 : Int)] M (fun q M' => g_R (D + 1) 125 Q 6 [.inr (0, 286), .inl x1] (q ++ []) M')) : g_R (D + 1) 125 Q 0 [.inr (0, 286), .inl x1] [] M := by
  subst hD
  exact g_go hk_125 ⟨rfl, rfl⟩ (g_C_ok (g_F_ok (D := D1))) sp_125 5 h
set_option maxRecDepth 20000 in
theorem rg_125_6 {D : Nat} {Q : g_P} {M : g_M} {x1 : Int} {s0 : Int} {D1 : Nat} (hD : D = D1 + 2) (h : (¬ s0 = (0 : Int) → (((0 : Int) ≤ (1 : Int) ∧ (1 : Int) ≤ 1) ∧ (Q [.inl (1 : Int)] M))) ∧ (s0 = (0 : Int) → (g_Ev D 112 [.inr (0, 286), .inl x1, .inl (6 : Int)] M (fun q M' => g_R (D + 1) 125 Q 16 [.inr (0, 286), .inl x1] (q ++ []) M')))) : g_R (D + 1) 125 Q 6 [.inr (0, 286), .inl x1] [.inl s0] M := by
  subst hD
  exact g_go hk_125 ⟨rfl, rfl⟩ (g_C_ok (g_F_ok (D := D1))) sp_125 6 h
set_option maxRecDepth 20000 in
theorem rg_125_16 {D : Nat} {Q : g_P} {M : g_M} {x1 : Int} {s0 : Int} {D1 : Nat} (hD : D = D1 + 2) (h : (¬ s0 = (0 : Int) → (((0 : Int) ≤ (1 : Int) ∧ (1 : Int) ≤ 1) ∧ (Q [.inl (1 : Int)] M))) ∧ (s0 = (0 : Int) → (g_Ev D 112 [.inr (0, 286), .inl x1, .inl (7 : Int)] M (fun q M' => g_R (D + 1) 125 Q 26 [.inr (0, 286), .inl x1] (q ++ []) M')))) : g_R (D + 1) 125 Q 16 [.inr (0, 286), .inl x1] [.inl s0] M := by
  subst hD
  exact g_go hk_125 ⟨rfl, rfl⟩ (g_C_ok (g_F_ok (D := D1))) sp_125 6 h
set_option maxRecDepth 20000 in
theorem rg_125_26 {D : Nat} {Q : g_P} {M : g_M} {x1 : Int} {s0 : Int} {D1 : Nat} (hD : D = D1 + 2) (h : (s0 = (0 : Int) → (((0 : Int) ≤ (0 : Int) ∧ (0 : Int) ≤ 1) ∧ (Q [.inl (0 : Int)] M))) ∧ (¬ s0 = (0 : Int) → (((0 : Int) ≤ (1 : Int) ∧ (1 : Int) ≤ 1) ∧ (Q [.inl (1 : Int)] M)))) : g_R (D + 1) 125 Q 26 [.inr (0, 286), .inl x1] [.inl s0] M := by
  subst hD
  exact g_go hk_125 ⟨rfl, rfl⟩ (g_C_ok (g_F_ok (D := D1))) sp_125 5 h
theorem hn_126 : 3 ≤ (hm_me 126).2.2.1 := by decide +kernel
/-- HeapLawModel.always(II)Z -/
def sp_126 (pc : Nat) : Option Nat := match pc with
  | 7 => some 4
  | 21 => some 6
  | 40 => some 6
  | 112 => some 4
  | 142 => some 4
  | 150 => some 4
  | 158 => some 4
  | 167 => some 4
  | 177 => some 4
  | _ => none
set_option maxRecDepth 20000 in
theorem rg_126_0 {D : Nat} {Q : g_P} {M : g_M} {x1 : Int} {x2 : Int} {D1 : Nat} (hD : D = D1 + 2) (h : g_R (D + 1) 126 Q 7 [.inr (0, 286), .inl x1, .inl x2, .inl (1 : Int)] [] (g_uA M (0, 286) 19 (0 : Int))) : g_R (D + 1) 126 Q 0 [.inr (0, 286), .inl x1, .inl x2] [] M := by
  subst hD
  exact g_go hk_126 ⟨rfl, rfl⟩ (g_C_ok (g_F_ok (D := D1))) sp_126 6 h
set_option maxRecDepth 20000 in
theorem rg_126_7 {D : Nat} {Q : g_P} {M : g_M} {x1 : Int} {x2 : Int} {x3 : Int} {D1 : Nat} (hD : D = D1 + 2) (h : (M.1 0 286 16 ≤ x3 → (g_R (D + 1) 126 Q 112 [.inr (0, 286), .inl x1, .inl x2, .inl (0 : Int)] [] M)) ∧ (x3 < M.1 0 286 16 → (g_R (D + 1) 126 Q 21 [.inr (0, 286), .inl x1, .inl x2, .inl x3, .inl (0 : Int), .inl (1 : Int)] [] M))) : g_R (D + 1) 126 Q 7 [.inr (0, 286), .inl x1, .inl x2, .inl x3] [] M := by
  subst hD
  exact g_go hk_126 ⟨rfl, rfl⟩ (g_C_ok (g_F_ok (D := D1))) sp_126 9 h
set_option maxRecDepth 20000 in
theorem rg_126_21 {D : Nat} {Q : g_P} {M : g_M} {x1 : Int} {x2 : Int} {x3 : Int} {x4 : Int} {x5 : Int} {D1 : Nat} (hD : D = D1 + 2) (h : ((8 : Int) ≤ x5 → ((x4 = (0 : Int) → ((hm_in (x3 + (1 : Int))) ∧ (g_R (D + 1) 126 Q 7 [.inr (0, 286), .inl x1, .inl x2, .inl (x3 + (1 : Int))] [] M))) ∧ (¬ x4 = (0 : Int) → (((0 : Int) ≤ x3 ∧ x3 < ((8 : Nat) : Int)) ∧ ((M.1 0 300 x3.toNat < (0 : Int) → (((0 : Int) ≤ M.1 0 286 19 ∧ M.1 0 286 19 < ((8 : Nat) : Int)) ∧ ((hm_in ((M.1 0 286 19) + (1 : Int))) ∧ ((hm_in (x3 + (1 : Int))) ∧ (g_R (D + 1) 126 Q 7 [.inr (0, 286), .inl x1, .inl x2, .inl (x3 + (1 : Int))] [] (g_uA (g_uA M (0, 301) (M.1 0 286 19).toNat x3) (0, 286) 19 ((M.1 0 286 19) + (1 : Int)))))))) ∧ ((0 : Int) ≤ M.1 0 300 x3.toNat → ((hm_in (x3 + (1 : Int))) ∧ (g_R (D + 1) 126 Q 7 [.inr (0, 286), .inl x1, .inl x2, .inl (x3 + (1 : Int))] [] M)))))))) ∧ (x5 < (8 : Int) → ((¬ x4 = (0 : Int) → ((hm_in (x5 + (1 : Int))) ∧ (g_R (D + 1) 126 Q 21 [.inr (0, 286), .inl x1, .inl x2, .inl x3, .inl (1 : Int), .inl (x5 + (1 : Int))] [] M))) ∧ (x4 = (0 : Int) → (g_Ev D 112 [.inr (0, 286), .inl x2, .inl x5] M (fun q M' => g_R (D + 1) 126 Q 40 [.inr (0, 286), .inl x1, .inl x2, .inl x3, .inl x4, .inl x5] (q ++ []) M')))))) : g_R (D + 1) 126 Q 21 [.inr (0, 286), .inl x1, .inl x2, .inl x3, .inl x4, .inl x5] [] M := by
  subst hD
  exact g_go hk_126 ⟨rfl, rfl⟩ (g_C_ok (g_F_ok (D := D1))) sp_126 25 h
set_option maxRecDepth 20000 in
theorem rg_126_40 {D : Nat} {Q : g_P} {M : g_M} {x1 : Int} {x2 : Int} {x3 : Int} {x4 : Int} {x5 : Int} {s0 : Int} {D1 : Nat} (hD : D = D1 + 2) (h : (s0 = (0 : Int) → ((hm_in (x5 + (1 : Int))) ∧ (g_R (D + 1) 126 Q 21 [.inr (0, 286), .inl x1, .inl x2, .inl x3, .inl (0 : Int), .inl (x5 + (1 : Int))] [] M))) ∧ (¬ s0 = (0 : Int) → (((0 : Int) ≤ x5 ∧ x5 < ((8 : Nat) : Int)) ∧ ((¬ M.1 0 298 x5.toNat = x3 → ((hm_in (x5 + (1 : Int))) ∧ (g_R (D + 1) 126 Q 21 [.inr (0, 286), .inl x1, .inl x2, .inl x3, .inl (0 : Int), .inl (x5 + (1 : Int))] [] M))) ∧ (M.1 0 298 x5.toNat = x3 → ((hm_in (x5 + (1 : Int))) ∧ (g_R (D + 1) 126 Q 21 [.inr (0, 286), .inl x1, .inl x2, .inl x3, .inl (1 : Int), .inl (x5 + (1 : Int))] [] M))))))) : g_R (D + 1) 126 Q 40 [.inr (0, 286), .inl x1, .inl x2, .inl x3, .inl x4, .inl x5] [.inl s0] M := by
  subst hD
  exact g_go hk_126 ⟨rfl, rfl⟩ (g_C_ok (g_F_ok (D := D1))) sp_126 13 h
set_option maxRecDepth 20000 in
theorem rg_126_112 {D : Nat} {Q : g_P} {M : g_M} {x1 : Int} {x2 : Int} {x3 : Int} {D1 : Nat} (hD : D = D1 + 2) (h : (M.1 0 286 19 ≤ x3 → (g_R (D + 1) 126 Q 142 [.inr (0, 286), .inl x1, .inl x2, .inl (1 : Int)] [] M)) ∧ (x3 < M.1 0 286 19 → (((0 : Int) ≤ x3 ∧ x3 < ((8 : Nat) : Int)) ∧ (((0 : Int) ≤ x3 ∧ x3 < ((8 : Nat) : Int)) ∧ ((hm_in (x3 + (1 : Int))) ∧ (g_R (D + 1) 126 Q 112 [.inr (0, 286), .inl x1, .inl x2, .inl (x3 + (1 : Int))] [] (g_uA (g_uA M (0, 302) x3.toNat (-1 : Int)) (0, 303) x3.toNat (0 : Int)))))))) : g_R (D + 1) 126 Q 112 [.inr (0, 286), .inl x1, .inl x2, .inl x3] [] M := by
  subst hD
  exact g_go hk_126 ⟨rfl, rfl⟩ (g_C_ok (g_F_ok (D := D1))) sp_126 17 h
set_option maxRecDepth 20000 in
theorem rg_126_142 {D : Nat} {Q : g_P} {M : g_M} {x1 : Int} {x2 : Int} {x3 : Int} {D1 : Nat} (hD : D = D1 + 2) (h : (x3 = (0 : Int) → (((0 : Int) ≤ (1 : Int) ∧ (1 : Int) ≤ 1) ∧ (Q [.inl (1 : Int)] M))) ∧ (¬ x3 = (0 : Int) → (g_Ev D 127 [.inr (0, 286)] M (fun q M' => g_R (D + 1) 126 Q 150 [.inr (0, 286), .inl x1, .inl x2, .inl x3] (q ++ []) M')))) : g_R (D + 1) 126 Q 142 [.inr (0, 286), .inl x1, .inl x2, .inl x3] [] M := by
  subst hD
  exact g_go hk_126 ⟨rfl, rfl⟩ (g_C_ok (g_F_ok (D := D1))) sp_126 5 h
set_option maxRecDepth 20000 in
theorem rg_126_150 {D : Nat} {Q : g_P} {M : g_M} {x1 : Int} {x2 : Int} {x3 : Int} {s0 : Int} {D1 : Nat} (hD : D = D1 + 2) (h : (s0 = (0 : Int) → (g_Ev D 133 [.inr (0, 286), .inl x1] M (fun q M' => g_R (D + 1) 126 Q 177 [.inr (0, 286), .inl x1, .inl x2, .inl x3] (q ++ []) M'))) ∧ (¬ s0 = (0 : Int) → (g_Ev D 128 [.inr (0, 286), .inl x1] M (fun q M' => g_R (D + 1) 126 Q 158 [.inr (0, 286), .inl x1, .inl x2, .inl x3] (q ++ []) M')))) : g_R (D + 1) 126 Q 150 [.inr (0, 286), .inl x1, .inl x2, .inl x3] [.inl s0] M := by
  subst hD
  exact g_go hk_126 ⟨rfl, rfl⟩ (g_C_ok (g_F_ok (D := D1))) sp_126 5 h
set_option maxRecDepth 20000 in
theorem rg_126_158 {D : Nat} {Q : g_P} {M : g_M} {x1 : Int} {x2 : Int} {x3 : Int} {s0 : Int} {D1 : Nat} (hD : D = D1 + 2) (h : (s0 = (0 : Int) → (g_Ev D 133 [.inr (0, 286), .inl x1] M (fun q M' => g_R (D + 1) 126 Q 177 [.inr (0, 286), .inl x1, .inl x2, .inl x3] (q ++ []) M'))) ∧ (¬ s0 = (0 : Int) → (g_Ev D 129 [.inr (0, 286), .inl x1, .inl x2] M (fun q M' => g_R (D + 1) 126 Q 167 [.inr (0, 286), .inl x1, .inl x2, .inl x3] (q ++ []) M')))) : g_R (D + 1) 126 Q 158 [.inr (0, 286), .inl x1, .inl x2, .inl x3] [.inl s0] M := by
  subst hD
  exact g_go hk_126 ⟨rfl, rfl⟩ (g_C_ok (g_F_ok (D := D1))) sp_126 6 h
set_option maxRecDepth 20000 in
theorem rg_126_167 {D : Nat} {Q : g_P} {M : g_M} {x1 : Int} {x2 : Int} {x3 : Int} {s0 : Int} {D1 : Nat} (hD : D = D1 + 2) (h : (¬ s0 = (0 : Int) → (g_Ev D 133 [.inr (0, 286), .inl x1] M (fun q M' => g_R (D + 1) 126 Q 177 [.inr (0, 286), .inl x1, .inl x2, .inl x3] (q ++ []) M'))) ∧ (s0 = (0 : Int) → (((0 : Int) ≤ (0 : Int) ∧ (0 : Int) ≤ 1) ∧ (Q [.inl (0 : Int)] M)))) : g_R (D + 1) 126 Q 167 [.inr (0, 286), .inl x1, .inl x2, .inl x3] [.inl s0] M := by
  subst hD
  exact g_go hk_126 ⟨rfl, rfl⟩ (g_C_ok (g_F_ok (D := D1))) sp_126 5 h
set_option maxRecDepth 20000 in
theorem rg_126_177 {D : Nat} {Q : g_P} {M : g_M} {x1 : Int} {x2 : Int} {x3 : Int} {s0 : Int} {D1 : Nat} (hD : D = D1 + 2) (h : g_R (D + 1) 126 Q 142 [.inr (0, 286), .inl x1, .inl x2, .inl s0] [] M) : g_R (D + 1) 126 Q 177 [.inr (0, 286), .inl x1, .inl x2, .inl x3] [.inl s0] M := by
  subst hD
  exact g_go hk_126 ⟨rfl, rfl⟩ (g_C_ok (g_F_ok (D := D1))) sp_126 3 h
theorem hn_127 : 1 ≤ (hm_me 127).2.2.1 := by decide +kernel
/-- HeapLawModel.isOrdered()Z -/
def sp_127 (pc : Nat) : Option Nat := match pc with
  | 2 => some 2
  | 26 => some 4
  | _ => none
set_option maxRecDepth 20000 in
theorem rg_127_0 {D : Nat} {Q : g_P} {M : g_M} {D1 : Nat} (hD : D = D1 + 2) (h : g_R (D + 1) 127 Q 2 [.inr (0, 286), .inl (0 : Int)] [] M) : g_R (D + 1) 127 Q 0 [.inr (0, 286)] [] M := by
  subst hD
  exact g_go hk_127 ⟨rfl, rfl⟩ (g_C_ok (g_F_ok (D := D1))) sp_127 3 h
set_option maxRecDepth 20000 in
theorem rg_127_2 {D : Nat} {Q : g_P} {M : g_M} {x1 : Int} {D1 : Nat} (hD : D = D1 + 2) (h : (M.1 0 286 19 ≤ x1 → (((0 : Int) ≤ (1 : Int) ∧ (1 : Int) ≤ 1) ∧ (Q [.inl (1 : Int)] M))) ∧ (x1 < M.1 0 286 19 → (((0 : Int) ≤ x1 ∧ x1 < ((8 : Nat) : Int)) ∧ (((0 : Int) ≤ M.1 0 302 x1.toNat → (g_R (D + 1) 127 Q 26 [.inr (0, 286), .inl x1, .inl (0 : Int), .inl (0 : Int)] [] M)) ∧ (M.1 0 302 x1.toNat < (0 : Int) → ((hm_in (x1 + (1 : Int))) ∧ (g_R (D + 1) 127 Q 2 [.inr (0, 286), .inl (x1 + (1 : Int))] [] M))))))) : g_R (D + 1) 127 Q 2 [.inr (0, 286), .inl x1] [] M := by
  subst hD
  exact g_go hk_127 ⟨rfl, rfl⟩ (g_C_ok (g_F_ok (D := D1))) sp_127 14 h
set_option maxRecDepth 20000 in
theorem rg_127_26 {D : Nat} {Q : g_P} {M : g_M} {x1 : Int} {x2 : Int} {x3 : Int} {D1 : Nat} (hD : D = D1 + 2) (h : (M.1 0 286 19 ≤ x3 → (((0 : Int) ≤ x1 ∧ x1 < ((8 : Nat) : Int)) ∧ ((x2 = M.1 0 303 x1.toNat → ((hm_in (x1 + (1 : Int))) ∧ (g_R (D + 1) 127 Q 2 [.inr (0, 286), .inl (x1 + (1 : Int))] [] M))) ∧ (¬ x2 = M.1 0 303 x1.toNat → (((0 : Int) ≤ (0 : Int) ∧ (0 : Int) ≤ 1) ∧ (Q [.inl (0 : Int)] M)))))) ∧ (x3 < M.1 0 286 19 → ((x3 = x1 → ((hm_in (x3 + (1 : Int))) ∧ (g_R (D + 1) 127 Q 26 [.inr (0, 286), .inl x1, .inl x2, .inl (x3 + (1 : Int))] [] M))) ∧ (¬ x3 = x1 → (((0 : Int) ≤ x3 ∧ x3 < ((8 : Nat) : Int)) ∧ (((0 : Int) ≤ x1 ∧ x1 < ((8 : Nat) : Int)) ∧ ((M.1 0 302 x3.toNat = M.1 0 302 x1.toNat → (((0 : Int) ≤ x3 ∧ x3 < ((8 : Nat) : Int)) ∧ (((0 : Int) ≤ x1 ∧ x1 < ((8 : Nat) : Int)) ∧ ((¬ M.1 0 303 x3.toNat = M.1 0 303 x1.toNat → (((0 : Int) ≤ x3 ∧ x3 < ((8 : Nat) : Int)) ∧ (((0 : Int) ≤ x1 ∧ x1 < ((8 : Nat) : Int)) ∧ ((M.1 0 303 x1.toNat ≤ M.1 0 303 x3.toNat → ((hm_in (x2 + (0 : Int))) ∧ ((hm_in (x3 + (1 : Int))) ∧ (g_R (D + 1) 127 Q 26 [.inr (0, 286), .inl x1, .inl (x2 + (0 : Int)), .inl (x3 + (1 : Int))] [] M)))) ∧ (M.1 0 303 x3.toNat < M.1 0 303 x1.toNat → ((hm_in (x2 + (1 : Int))) ∧ ((hm_in (x3 + (1 : Int))) ∧ (g_R (D + 1) 127 Q 26 [.inr (0, 286), .inl x1, .inl (x2 + (1 : Int)), .inl (x3 + (1 : Int))] [] M)))))))) ∧ (M.1 0 303 x3.toNat = M.1 0 303 x1.toNat → (((0 : Int) ≤ (0 : Int) ∧ (0 : Int) ≤ 1) ∧ (Q [.inl (0 : Int)] M))))))) ∧ (¬ M.1 0 302 x3.toNat = M.1 0 302 x1.toNat → ((hm_in (x3 + (1 : Int))) ∧ (g_R (D + 1) 127 Q 26 [.inr (0, 286), .inl x1, .inl x2, .inl (x3 + (1 : Int))] [] M)))))))))) : g_R (D + 1) 127 Q 26 [.inr (0, 286), .inl x1, .inl x2, .inl x3] [] M := by
  subst hD
  exact g_go hk_127 ⟨rfl, rfl⟩ (g_C_ok (g_F_ok (D := D1))) sp_127 42 h
theorem hn_128 : 2 ≤ (hm_me 128).2.2.1 := by decide +kernel
/-- HeapLawModel.mayLie(I)Z -/
def sp_128 (pc : Nat) : Option Nat := match pc with
  | 2 => some 3
  | 44 => some 4
  | _ => none
set_option maxRecDepth 20000 in
theorem rg_128_0 {D : Nat} {Q : g_P} {M : g_M} {x1 : Int} {D1 : Nat} (hD : D = D1 + 2) (h : g_R (D + 1) 128 Q 2 [.inr (0, 286), .inl x1, .inl (0 : Int)] [] M) : g_R (D + 1) 128 Q 0 [.inr (0, 286), .inl x1] [] M := by
  subst hD
  exact g_go hk_128 ⟨rfl, rfl⟩ (g_C_ok (g_F_ok (D := D1))) sp_128 3 h
set_option maxRecDepth 20000 in
theorem rg_128_2 {D : Nat} {Q : g_P} {M : g_M} {x1 : Int} {x2 : Int} {D1 : Nat} (hD : D = D1 + 2) (h : (M.1 0 286 19 ≤ x2 → (((0 : Int) ≤ (1 : Int) ∧ (1 : Int) ≤ 1) ∧ (Q [.inl (1 : Int)] M))) ∧ (x2 < M.1 0 286 19 → (((0 : Int) ≤ x2 ∧ x2 < ((8 : Nat) : Int)) ∧ (((0 : Int) ≤ M.1 0 302 x2.toNat → ((hm_in ((10 : Int) * x1)) ∧ ((hm_in (((10 : Int) * x1) + (M.1 0 302 x2.toNat))) ∧ (((0 : Int) ≤ ((10 : Int) * x1) + (M.1 0 302 x2.toNat) ∧ ((10 : Int) * x1) + (M.1 0 302 x2.toNat) < ((2000 : Nat) : Int)) ∧ ((M.1 0 292 (((10 : Int) * x1) + (M.1 0 302 x2.toNat)).toNat = (0 : Int) → (((0 : Int) ≤ (0 : Int) ∧ (0 : Int) ≤ 1) ∧ (Q [.inl (0 : Int)] M))) ∧ (¬ M.1 0 292 (((10 : Int) * x1) + (M.1 0 302 x2.toNat)).toNat = (0 : Int) → (g_Ev D 122 [.inr (0, 286), .inl x1, .inl (M.1 0 302 x2.toNat)] M (fun q M' => g_R (D + 1) 128 Q 44 [.inr (0, 286), .inl x1, .inl x2, .inl (M.1 0 302 x2.toNat)] (q ++ []) M')))))))) ∧ (M.1 0 302 x2.toNat < (0 : Int) → ((hm_in (x2 + (1 : Int))) ∧ (g_R (D + 1) 128 Q 2 [.inr (0, 286), .inl x1, .inl (x2 + (1 : Int))] [] M))))))) : g_R (D + 1) 128 Q 2 [.inr (0, 286), .inl x1, .inl x2] [] M := by
  subst hD
  exact g_go hk_128 ⟨rfl, rfl⟩ (g_C_ok (g_F_ok (D := D1))) sp_128 25 h
set_option maxRecDepth 20000 in
theorem rg_128_44 {D : Nat} {Q : g_P} {M : g_M} {x1 : Int} {x2 : Int} {x3 : Int} {s0 : Int} {D1 : Nat} (hD : D = D1 + 2) (h : (¬ s0 = (0 : Int) → (((0 : Int) ≤ (0 : Int) ∧ (0 : Int) ≤ 1) ∧ (Q [.inl (0 : Int)] M))) ∧ (s0 = (0 : Int) → ((hm_in ((10 : Int) * x1)) ∧ ((hm_in (((10 : Int) * x1) + x3)) ∧ (((0 : Int) ≤ ((10 : Int) * x1) + x3 ∧ ((10 : Int) * x1) + x3 < ((2000 : Nat) : Int)) ∧ (((0 : Int) ≤ M.1 0 294 (((10 : Int) * x1) + x3).toNat ∧ M.1 0 294 (((10 : Int) * x1) + x3).toNat < ((8 : Nat) : Int)) ∧ (((0 : Int) ≤ x2 ∧ x2 < ((8 : Nat) : Int)) ∧ ((¬ M.1 0 298 (M.1 0 294 (((10 : Int) * x1) + x3).toNat).toNat = M.1 0 301 x2.toNat → ((hm_in (x2 + (1 : Int))) ∧ (g_R (D + 1) 128 Q 2 [.inr (0, 286), .inl x1, .inl (x2 + (1 : Int))] [] M))) ∧ (M.1 0 298 (M.1 0 294 (((10 : Int) * x1) + x3).toNat).toNat = M.1 0 301 x2.toNat → (((0 : Int) ≤ (0 : Int) ∧ (0 : Int) ≤ 1) ∧ (Q [.inl (0 : Int)] M))))))))))) : g_R (D + 1) 128 Q 44 [.inr (0, 286), .inl x1, .inl x2, .inl x3] [.inl s0] M := by
  subst hD
  exact g_go hk_128 ⟨rfl, rfl⟩ (g_C_ok (g_F_ok (D := D1))) sp_128 20 h
theorem hn_129 : 3 ≤ (hm_me 129).2.2.1 := by decide +kernel
/-- HeapLawModel.allGaps(II)Z -/
def sp_129 (pc : Nat) : Option Nat := match pc with
  | 5 => some 5
  | 39 => some 5
  | 54 => some 5
  | 90 => some 5
  | 105 => some 5
  | 110 => some 5
  | _ => none
set_option maxRecDepth 20000 in
theorem rg_129_0 {D : Nat} {Q : g_P} {M : g_M} {x1 : Int} {x2 : Int} {D1 : Nat} (hD : D = D1 + 2) (h : g_R (D + 1) 129 Q 5 [.inr (0, 286), .inl x1, .inl x2, .inl (0 : Int), .inl (0 : Int)] [] M) : g_R (D + 1) 129 Q 0 [.inr (0, 286), .inl x1, .inl x2] [] M := by
  subst hD
  exact g_go hk_129 ⟨rfl, rfl⟩ (g_C_ok (g_F_ok (D := D1))) sp_129 5 h
set_option maxRecDepth 20000 in
theorem rg_129_5 {D : Nat} {Q : g_P} {M : g_M} {x1 : Int} {x2 : Int} {x3 : Int} {x4 : Int} {D1 : Nat} (hD : D = D1 + 2) (h : ((0 : Int) ≤ x1 ∧ x1 < ((200 : Nat) : Int)) ∧ ((M.1 0 291 x1.toNat ≤ x4 → (g_R (D + 1) 129 Q 54 [.inr (0, 286), .inl x1, .inl x2, .inl x3, .inl (0 : Int)] [] M)) ∧ (x4 < M.1 0 291 x1.toNat → ((hm_in ((10 : Int) * x1)) ∧ ((hm_in (((10 : Int) * x1) + x4)) ∧ (((0 : Int) ≤ ((10 : Int) * x1) + x4 ∧ ((10 : Int) * x1) + x4 < ((2000 : Nat) : Int)) ∧ ((¬ M.1 0 292 (((10 : Int) * x1) + x4).toNat = (1 : Int) → ((hm_in (x4 + (1 : Int))) ∧ (g_R (D + 1) 129 Q 5 [.inr (0, 286), .inl x1, .inl x2, .inl x3, .inl (x4 + (1 : Int))] [] M))) ∧ (M.1 0 292 (((10 : Int) * x1) + x4).toNat = (1 : Int) → (g_Ev D 122 [.inr (0, 286), .inl x1, .inl x4] M (fun q M' => g_R (D + 1) 129 Q 39 [.inr (0, 286), .inl x1, .inl x2, .inl x3, .inl x4] (q ++ []) M')))))))))) : g_R (D + 1) 129 Q 5 [.inr (0, 286), .inl x1, .inl x2, .inl x3, .inl x4] [] M := by
  subst hD
  exact g_go hk_129 ⟨rfl, rfl⟩ (g_C_ok (g_F_ok (D := D1))) sp_129 21 h
set_option maxRecDepth 20000 in
theorem rg_129_39 {D : Nat} {Q : g_P} {M : g_M} {x1 : Int} {x2 : Int} {x3 : Int} {x4 : Int} {s0 : Int} {D1 : Nat} (hD : D = D1 + 2) (h : (¬ s0 = (0 : Int) → ((hm_in (x4 + (1 : Int))) ∧ (g_R (D + 1) 129 Q 5 [.inr (0, 286), .inl x1, .inl x2, .inl x3, .inl (x4 + (1 : Int))] [] M))) ∧ (s0 = (0 : Int) → ((hm_in (x3 + (1 : Int))) ∧ ((hm_in (x4 + (1 : Int))) ∧ (g_R (D + 1) 129 Q 5 [.inr (0, 286), .inl x1, .inl x2, .inl (x3 + (1 : Int)), .inl (x4 + (1 : Int))] [] M))))) : g_R (D + 1) 129 Q 39 [.inr (0, 286), .inl x1, .inl x2, .inl x3, .inl x4] [.inl s0] M := by
  subst hD
  exact g_go hk_129 ⟨rfl, rfl⟩ (g_C_ok (g_F_ok (D := D1))) sp_129 5 h
set_option maxRecDepth 20000 in
theorem rg_129_54 {D : Nat} {Q : g_P} {M : g_M} {x1 : Int} {x2 : Int} {x3 : Int} {x4 : Int} {D1 : Nat} (hD : D = D1 + 2) (h : (M.1 0 286 19 ≤ x4 → (g_R (D + 1) 129 Q 90 [.inr (0, 286), .inl x1, .inl x2, .inl x3, .inl (0 : Int)] [] M)) ∧ (x4 < M.1 0 286 19 → (((0 : Int) ≤ x4 ∧ x4 < ((8 : Nat) : Int)) ∧ ((M.1 0 302 x4.toNat < (0 : Int) → ((hm_in (x3 + (0 : Int))) ∧ ((hm_in (x4 + (1 : Int))) ∧ (g_R (D + 1) 129 Q 54 [.inr (0, 286), .inl x1, .inl x2, .inl (x3 + (0 : Int)), .inl (x4 + (1 : Int))] [] M)))) ∧ ((0 : Int) ≤ M.1 0 302 x4.toNat → ((hm_in (x3 + (1 : Int))) ∧ ((hm_in (x4 + (1 : Int))) ∧ (g_R (D + 1) 129 Q 54 [.inr (0, 286), .inl x1, .inl x2, .inl (x3 + (1 : Int)), .inl (x4 + (1 : Int))] [] M)))))))) : g_R (D + 1) 129 Q 54 [.inr (0, 286), .inl x1, .inl x2, .inl x3, .inl x4] [] M := by
  subst hD
  exact g_go hk_129 ⟨rfl, rfl⟩ (g_C_ok (g_F_ok (D := D1))) sp_129 17 h
set_option maxRecDepth 20000 in
theorem rg_129_90 {D : Nat} {Q : g_P} {M : g_M} {x1 : Int} {x2 : Int} {x3 : Int} {x4 : Int} {D1 : Nat} (hD : D = D1 + 2) (h : (hm_shl (1 : Int) x3 ≤ x4 → (((0 : Int) ≤ (1 : Int) ∧ (1 : Int) ≤ 1) ∧ (Q [.inl (1 : Int)] M))) ∧ (x4 < hm_shl (1 : Int) x3 → (g_Ev D 130 [.inr (0, 286), .inl x1, .inl x4] M (fun q M' => g_R (D + 1) 129 Q 105 [.inr (0, 286), .inl x1, .inl x2, .inl x3, .inl x4] (q ++ []) M')))) : g_R (D + 1) 129 Q 90 [.inr (0, 286), .inl x1, .inl x2, .inl x3, .inl x4] [] M := by
  subst hD
  exact g_go hk_129 ⟨rfl, rfl⟩ (g_C_ok (g_F_ok (D := D1))) sp_129 10 h
set_option maxRecDepth 20000 in
theorem rg_129_105 {D : Nat} {Q : g_P} {M : g_M} {x1 : Int} {x2 : Int} {x3 : Int} {x4 : Int} {D1 : Nat} (hD : D = D1 + 2) (h : g_Ev D 132 [.inr (0, 286), .inl x2] M (fun q M' => g_R (D + 1) 129 Q 110 [.inr (0, 286), .inl x1, .inl x2, .inl x3, .inl x4] (q ++ []) M')) : g_R (D + 1) 129 Q 105 [.inr (0, 286), .inl x1, .inl x2, .inl x3, .inl x4] [] M := by
  subst hD
  exact g_go hk_129 ⟨rfl, rfl⟩ (g_C_ok (g_F_ok (D := D1))) sp_129 4 h
set_option maxRecDepth 20000 in
theorem rg_129_110 {D : Nat} {Q : g_P} {M : g_M} {x1 : Int} {x2 : Int} {x3 : Int} {x4 : Int} {s0 : Int} {D1 : Nat} (hD : D = D1 + 2) (h : (¬ s0 = (0 : Int) → ((hm_in (x4 + (1 : Int))) ∧ (g_R (D + 1) 129 Q 90 [.inr (0, 286), .inl x1, .inl x2, .inl x3, .inl (x4 + (1 : Int))] [] M))) ∧ (s0 = (0 : Int) → (((0 : Int) ≤ (0 : Int) ∧ (0 : Int) ≤ 1) ∧ (Q [.inl (0 : Int)] M)))) : g_R (D + 1) 129 Q 110 [.inr (0, 286), .inl x1, .inl x2, .inl x3, .inl x4] [.inl s0] M := by
  subst hD
  exact g_go hk_129 ⟨rfl, rfl⟩ (g_C_ok (g_F_ok (D := D1))) sp_129 4 h
theorem hn_130 : 3 ≤ (hm_me 130).2.2.1 := by decide +kernel
/-- HeapLawModel.build(II)V -/
def sp_130 (pc : Nat) : Option Nat := match pc with
  | 8 => some 4
  | 32 => some 5
  | 50 => some 5
  | 127 => some 9
  | 140 => some 9
  | _ => none
set_option maxRecDepth 20000 in
theorem rg_130_0 {D : Nat} {Q : g_P} {M : g_M} {x1 : Int} {x2 : Int} {D1 : Nat} (hD : D = D1 + 2) (h : g_R (D + 1) 130 Q 8 [.inr (0, 286), .inl x1, .inl x2, .inl (0 : Int)] [] (g_uA M (0, 286) 23 (8 : Int))) : g_R (D + 1) 130 Q 0 [.inr (0, 286), .inl x1, .inl x2] [] M := by
  subst hD
  exact g_go hk_130 ⟨rfl, rfl⟩ (g_C_ok (g_F_ok (D := D1))) sp_130 6 h
set_option maxRecDepth 20000 in
theorem rg_130_8 {D : Nat} {Q : g_P} {M : g_M} {x1 : Int} {x2 : Int} {x3 : Int} {D1 : Nat} (hD : D = D1 + 2) (h : ((64 : Int) ≤ x3 → (g_R (D + 1) 130 Q 32 [.inr (0, 286), .inl x1, .inl x2, .inl (0 : Int), .inl (0 : Int)] [] M)) ∧ (x3 < (64 : Int) → (((0 : Int) ≤ x3 ∧ x3 < ((64 : Nat) : Int)) ∧ ((hm_in (x3 + (1 : Int))) ∧ (g_R (D + 1) 130 Q 8 [.inr (0, 286), .inl x1, .inl x2, .inl (x3 + (1 : Int))] [] (g_uA M (0, 304) x3.toNat (-1 : Int))))))) : g_R (D + 1) 130 Q 8 [.inr (0, 286), .inl x1, .inl x2, .inl x3] [] M := by
  subst hD
  exact g_go hk_130 ⟨rfl, rfl⟩ (g_C_ok (g_F_ok (D := D1))) sp_130 11 h
set_option maxRecDepth 20000 in
theorem rg_130_32 {D : Nat} {Q : g_P} {M : g_M} {x1 : Int} {x2 : Int} {x3 : Int} {x4 : Int} {D1 : Nat} (hD : D = D1 + 2) (h : ((0 : Int) ≤ x1 ∧ x1 < ((200 : Nat) : Int)) ∧ ((M.1 0 291 x1.toNat ≤ x4 → (Q [] M)) ∧ (x4 < M.1 0 291 x1.toNat → (g_Ev D 122 [.inr (0, 286), .inl x1, .inl x4] M (fun q M' => g_R (D + 1) 130 Q 50 [.inr (0, 286), .inl x1, .inl x2, .inl x3, .inl x4] (q ++ []) M'))))) : g_R (D + 1) 130 Q 32 [.inr (0, 286), .inl x1, .inl x2, .inl x3, .inl x4] [] M := by
  subst hD
  exact g_go hk_130 ⟨rfl, rfl⟩ (g_C_ok (g_F_ok (D := D1))) sp_130 11 h
set_option maxRecDepth 20000 in
theorem rg_130_50 {D : Nat} {Q : g_P} {M : g_M} {x1 : Int} {x2 : Int} {x3 : Int} {x4 : Int} {s0 : Int} {D1 : Nat} (hD : D = D1 + 2) (h : (s0 = (0 : Int) → ((hm_in ((10 : Int) * x1)) ∧ ((hm_in (((10 : Int) * x1) + x4)) ∧ (((0 : Int) ≤ ((10 : Int) * x1) + x4 ∧ ((10 : Int) * x1) + x4 < ((2000 : Nat) : Int)) ∧ (((0 : Int) ≤ M.1 0 293 (((10 : Int) * x1) + x4).toNat ∧ M.1 0 293 (((10 : Int) * x1) + x4).toNat < ((8 : Nat) : Int)) ∧ ((hm_in ((10 : Int) * x1)) ∧ ((hm_in (((10 : Int) * x1) + x4)) ∧ (((0 : Int) ≤ ((10 : Int) * x1) + x4 ∧ ((10 : Int) * x1) + x4 < ((2000 : Nat) : Int)) ∧ (((0 : Int) ≤ M.1 0 294 (((10 : Int) * x1) + x4).toNat ∧ M.1 0 294 (((10 : Int) * x1) + x4).toNat < ((8 : Nat) : Int)) ∧ ((hm_in ((10 : Int) * x1)) ∧ ((hm_in (((10 : Int) * x1) + x4)) ∧ (((0 : Int) ≤ ((10 : Int) * x1) + x4 ∧ ((10 : Int) * x1) + x4 < ((2000 : Nat) : Int)) ∧ ((¬ M.1 0 292 (((10 : Int) * x1) + x4).toNat = (0 : Int) → (g_R (D + 1) 130 Q 127 [.inr (0, 286), .inl x1, .inl x2, .inl x3, .inl x4, .inl (M.1 0 298 (M.1 0 293 (((10 : Int) * x1) + x4).toNat).toNat), .inl (M.1 0 298 (M.1 0 294 (((10 : Int) * x1) + x4).toNat).toNat), .inl (0 : Int), .inl (1 : Int)] [] M)) ∧ (M.1 0 292 (((10 : Int) * x1) + x4).toNat = (0 : Int) → (((0 : Int) ≤ M.1 0 298 (M.1 0 293 (((10 : Int) * x1) + x4).toNat).toNat ∧ M.1 0 298 (M.1 0 293 (((10 : Int) * x1) + x4).toNat).toNat < ((64 : Nat) : Int)) ∧ ((hm_in (x4 + (1 : Int))) ∧ (g_R (D + 1) 130 Q 32 [.inr (0, 286), .inl x1, .inl x2, .inl x3, .inl (x4 + (1 : Int))] [] (g_uA M (0, 304) (M.1 0 298 (M.1 0 293 (((10 : Int) * x1) + x4).toNat).toNat).toNat (M.1 0 298 (M.1 0 294 (((10 : Int) * x1) + x4).toNat).toNat))))))))))))))))))) ∧ (¬ s0 = (0 : Int) → ((hm_in (x4 + (1 : Int))) ∧ (g_R (D + 1) 130 Q 32 [.inr (0, 286), .inl x1, .inl x2, .inl x3, .inl (x4 + (1 : Int))] [] M)))) : g_R (D + 1) 130 Q 50 [.inr (0, 286), .inl x1, .inl x2, .inl x3, .inl x4] [.inl s0] M := by
  subst hD
  exact g_go hk_130 ⟨rfl, rfl⟩ (g_C_ok (g_F_ok (D := D1))) sp_130 43 h
set_option maxRecDepth 20000 in
theorem rg_130_127 {D : Nat} {Q : g_P} {M : g_M} {x1 : Int} {x2 : Int} {x3 : Int} {x4 : Int} {x5 : Int} {x6 : Int} {x7 : Int} {x8 : Int} {D1 : Nat} (hD : D = D1 + 2) (h : (x8 = (0 : Int) → ((hm_in (x4 + (1 : Int))) ∧ (g_R (D + 1) 130 Q 32 [.inr (0, 286), .inl x1, .inl x2, .inl x3, .inl (x4 + (1 : Int))] [] M))) ∧ (¬ x8 = (0 : Int) → (g_Ev D 131 [.inr (0, 286), .inl x4, .inl x7] M (fun q M' => g_R (D + 1) 130 Q 140 [.inr (0, 286), .inl x1, .inl x2, .inl x3, .inl x4, .inl x5, .inl x6, .inl x7, .inl x8] (q ++ []) M')))) : g_R (D + 1) 130 Q 127 [.inr (0, 286), .inl x1, .inl x2, .inl x3, .inl x4, .inl x5, .inl x6, .inl x7, .inl x8] [] M := by
  subst hD
  exact g_go hk_130 ⟨rfl, rfl⟩ (g_C_ok (g_F_ok (D := D1))) sp_130 7 h
set_option maxRecDepth 20000 in
theorem rg_130_140 {D : Nat} {Q : g_P} {M : g_M} {x1 : Int} {x2 : Int} {x3 : Int} {x4 : Int} {x5 : Int} {x6 : Int} {x7 : Int} {x8 : Int} {s0 : Int} {D1 : Nat} (hD : D = D1 + 2) (h : ((0 : Int) ≤ s0 → ((¬ hm_and (hm_shr x2 x3) (1 : Int) = (1 : Int) → ((hm_in (x3 + (1 : Int))) ∧ (((0 : Int) ≤ x5 ∧ x5 < ((64 : Nat) : Int)) ∧ ((hm_in (x7 + (1 : Int))) ∧ ((s0 < (0 : Int) → (g_R (D + 1) 130 Q 127 [.inr (0, 286), .inl x1, .inl x2, .inl (x3 + (1 : Int)), .inl x4, .inl s0, .inl x6, .inl (x7 + (1 : Int)), .inl (0 : Int)] [] (g_uA M (0, 304) x5.toNat s0))) ∧ ((0 : Int) ≤ s0 → (g_R (D + 1) 130 Q 127 [.inr (0, 286), .inl x1, .inl x2, .inl (x3 + (1 : Int)), .inl x4, .inl s0, .inl x6, .inl (x7 + (1 : Int)), .inl (1 : Int)] [] (g_uA M (0, 304) x5.toNat s0)))))))) ∧ (hm_and (hm_shr x2 x3) (1 : Int) = (1 : Int) → (((0 : Int) ≤ x5 ∧ x5 < ((64 : Nat) : Int)) ∧ ((hm_in ((M.1 0 286 23) + (1 : Int))) ∧ ((hm_in (x3 + (1 : Int))) ∧ (((0 : Int) ≤ M.1 0 286 23 ∧ M.1 0 286 23 < ((64 : Nat) : Int)) ∧ ((hm_in (x7 + (1 : Int))) ∧ ((s0 < (0 : Int) → (g_R (D + 1) 130 Q 127 [.inr (0, 286), .inl x1, .inl x2, .inl (x3 + (1 : Int)), .inl x4, .inl s0, .inl x6, .inl (x7 + (1 : Int)), .inl (0 : Int)] [] (g_uA (g_uA (g_uA M (0, 304) x5.toNat (M.1 0 286 23)) (0, 286) 23 ((M.1 0 286 23) + (1 : Int))) (0, 304) (M.1 0 286 23).toNat s0))) ∧ ((0 : Int) ≤ s0 → (g_R (D + 1) 130 Q 127 [.inr (0, 286), .inl x1, .inl x2, .inl (x3 + (1 : Int)), .inl x4, .inl s0, .inl x6, .inl (x7 + (1 : Int)), .inl (1 : Int)] [] (g_uA (g_uA (g_uA M (0, 304) x5.toNat (M.1 0 286 23)) (0, 286) 23 ((M.1 0 286 23) + (1 : Int))) (0, 304) (M.1 0 286 23).toNat s0)))))))))))) ∧ (s0 < (0 : Int) → ((¬ hm_and (hm_shr x2 x3) (1 : Int) = (1 : Int) → ((hm_in (x3 + (1 : Int))) ∧ (((0 : Int) ≤ x5 ∧ x5 < ((64 : Nat) : Int)) ∧ ((hm_in (x7 + (1 : Int))) ∧ ((s0 < (0 : Int) → (g_R (D + 1) 130 Q 127 [.inr (0, 286), .inl x1, .inl x2, .inl (x3 + (1 : Int)), .inl x4, .inl x6, .inl x6, .inl (x7 + (1 : Int)), .inl (0 : Int)] [] (g_uA M (0, 304) x5.toNat x6))) ∧ ((0 : Int) ≤ s0 → (g_R (D + 1) 130 Q 127 [.inr (0, 286), .inl x1, .inl x2, .inl (x3 + (1 : Int)), .inl x4, .inl x6, .inl x6, .inl (x7 + (1 : Int)), .inl (1 : Int)] [] (g_uA M (0, 304) x5.toNat x6)))))))) ∧ (hm_and (hm_shr x2 x3) (1 : Int) = (1 : Int) → (((0 : Int) ≤ x5 ∧ x5 < ((64 : Nat) : Int)) ∧ ((hm_in ((M.1 0 286 23) + (1 : Int))) ∧ ((hm_in (x3 + (1 : Int))) ∧ (((0 : Int) ≤ M.1 0 286 23 ∧ M.1 0 286 23 < ((64 : Nat) : Int)) ∧ ((hm_in (x7 + (1 : Int))) ∧ ((s0 < (0 : Int) → (g_R (D + 1) 130 Q 127 [.inr (0, 286), .inl x1, .inl x2, .inl (x3 + (1 : Int)), .inl x4, .inl x6, .inl x6, .inl (x7 + (1 : Int)), .inl (0 : Int)] [] (g_uA (g_uA (g_uA M (0, 304) x5.toNat (M.1 0 286 23)) (0, 286) 23 ((M.1 0 286 23) + (1 : Int))) (0, 304) (M.1 0 286 23).toNat x6))) ∧ ((0 : Int) ≤ s0 → (g_R (D + 1) 130 Q 127 [.inr (0, 286), .inl x1, .inl x2, .inl (x3 + (1 : Int)), .inl x4, .inl x6, .inl x6, .inl (x7 + (1 : Int)), .inl (1 : Int)] [] (g_uA (g_uA (g_uA M (0, 304) x5.toNat (M.1 0 286 23)) (0, 286) 23 ((M.1 0 286 23) + (1 : Int))) (0, 304) (M.1 0 286 23).toNat x6))))))))))))) : g_R (D + 1) 130 Q 140 [.inr (0, 286), .inl x1, .inl x2, .inl x3, .inl x4, .inl x5, .inl x6, .inl x7, .inl x8] [.inl s0] M := by
  subst hD
  exact g_go hk_130 ⟨rfl, rfl⟩ (g_C_ok (g_F_ok (D := D1))) sp_130 44 h

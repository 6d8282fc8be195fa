/-! REGIONS of the code, by wip/gen/gen17.py -/
theorem hn_131 : 3 ≤ (hm_me 131).2.2.1 := by decide +kernel
/-- HeapLawModel.looseAt(II)I -/
def sp_131 (pc : Nat) : Option Nat := match pc with
  | 2 => some 4
  | _ => none
set_option maxRecDepth 20000 in
theorem rg_131_0 {D : Nat} {Q : g_P} {M : g_M} {x1 : Int} {x2 : Int} {D1 : Nat} (hD : D = D1 + 2) (h : g_R (D + 1) 131 Q 2 [.inr (0, 286), .inl x1, .inl x2, .inl (0 : Int)] [] M) : g_R (D + 1) 131 Q 0 [.inr (0, 286), .inl x1, .inl x2] [] M := by
  subst hD
  exact g_go hk_131 ⟨rfl, rfl⟩ (g_C_ok (g_F_ok (D := D1))) sp_131 3 h
set_option maxRecDepth 20000 in
theorem rg_131_2 {D : Nat} {Q : g_P} {M : g_M} {x1 : Int} {x2 : Int} {x3 : Int} {D1 : Nat} (hD : D = D1 + 2) (h : (M.1 0 286 19 ≤ x3 → (Q [.inl (-1 : Int)] M)) ∧ (x3 < M.1 0 286 19 → (((0 : Int) ≤ x3 ∧ x3 < ((8 : Nat) : Int)) ∧ ((¬ M.1 0 302 x3.toNat = x1 → ((hm_in (x3 + (1 : Int))) ∧ (g_R (D + 1) 131 Q 2 [.inr (0, 286), .inl x1, .inl x2, .inl (x3 + (1 : Int))] [] M))) ∧ (M.1 0 302 x3.toNat = x1 → (((0 : Int) ≤ x3 ∧ x3 < ((8 : Nat) : Int)) ∧ ((¬ M.1 0 303 x3.toNat = x2 → ((hm_in (x3 + (1 : Int))) ∧ (g_R (D + 1) 131 Q 2 [.inr (0, 286), .inl x1, .inl x2, .inl (x3 + (1 : Int))] [] M))) ∧ (M.1 0 303 x3.toNat = x2 → (((0 : Int) ≤ x3 ∧ x3 < ((8 : Nat) : Int)) ∧ (Q [.inl (M.1 0 301 x3.toNat)] M)))))))))) : g_R (D + 1) 131 Q 2 [.inr (0, 286), .inl x1, .inl x2, .inl x3] [] M := by
  subst hD
  exact g_go hk_131 ⟨rfl, rfl⟩ (g_C_ok (g_F_ok (D := D1))) sp_131 22 h
theorem hn_132 : 2 ≤ (hm_me 132).2.2.1 := by decide +kernel
/-- HeapLawModel.suitsMemory(I)Z -/
def sp_132 (pc : Nat) : Option Nat := match pc with
  | 5 => some 2
  | 12 => some 3
  | 35 => some 3
  | 118 => some 7
  | 198 => some 3
  | _ => none
set_option maxRecDepth 20000 in
theorem rg_132_0 {D : Nat} {Q : g_P} {M : g_M} {x1 : Int} {D1 : Nat} (hD : D = D1 + 2) (h : g_Ev D 121 [.inr (0, 286), .inl x1] M (fun q M' => g_R (D + 1) 132 Q 5 [.inr (0, 286), .inl x1] (q ++ []) M')) : g_R (D + 1) 132 Q 0 [.inr (0, 286), .inl x1] [] M := by
  subst hD
  exact g_go hk_132 ⟨rfl, rfl⟩ (g_C_ok (g_F_ok (D := D1))) sp_132 4 h
set_option maxRecDepth 20000 in
theorem rg_132_5 {D : Nat} {Q : g_P} {M : g_M} {x1 : Int} {s0 : Int} {D1 : Nat} (hD : D = D1 + 2) (h : (¬ s0 = (0 : Int) → (g_R (D + 1) 132 Q 12 [.inr (0, 286), .inl x1, .inl (0 : Int)] [] M)) ∧ (s0 = (0 : Int) → (((0 : Int) ≤ (0 : Int) ∧ (0 : Int) ≤ 1) ∧ (Q [.inl (0 : Int)] M)))) : g_R (D + 1) 132 Q 5 [.inr (0, 286), .inl x1] [.inl s0] M := by
  subst hD
  exact g_go hk_132 ⟨rfl, rfl⟩ (g_C_ok (g_F_ok (D := D1))) sp_132 4 h
set_option maxRecDepth 20000 in
theorem rg_132_12 {D : Nat} {Q : g_P} {M : g_M} {x1 : Int} {x2 : Int} {D1 : Nat} (hD : D = D1 + 2) (h : (M.1 0 286 23 ≤ x2 → (g_R (D + 1) 132 Q 35 [.inr (0, 286), .inl x1, .inl (0 : Int)] [] M)) ∧ (x2 < M.1 0 286 23 → (((0 : Int) ≤ x2 ∧ x2 < ((64 : Nat) : Int) ∧ (0 : Int) ≤ (0 : Int) ∧ (0 : Int) ≤ 1) ∧ ((hm_in (x2 + (1 : Int))) ∧ (g_R (D + 1) 132 Q 12 [.inr (0, 286), .inl x1, .inl (x2 + (1 : Int))] [] (g_uA M (0, 305) x2.toNat (0 : Int))))))) : g_R (D + 1) 132 Q 12 [.inr (0, 286), .inl x1, .inl x2] [] M := by
  subst hD
  exact g_go hk_132 ⟨rfl, rfl⟩ (g_C_ok (g_F_ok (D := D1))) sp_132 12 h
set_option maxRecDepth 20000 in
theorem rg_132_35 {D : Nat} {Q : g_P} {M : g_M} {x1 : Int} {x2 : Int} {D1 : Nat} (hD : D = D1 + 2) (h : ((0 : Int) ≤ x1 ∧ x1 < ((200 : Nat) : Int)) ∧ ((M.1 0 291 x1.toNat ≤ x2 → (g_R (D + 1) 132 Q 198 [.inr (0, 286), .inl x1, .inl (0 : Int)] [] M)) ∧ (x2 < M.1 0 291 x1.toNat → ((hm_in ((10 : Int) * x1)) ∧ ((hm_in (((10 : Int) * x1) + x2)) ∧ (((0 : Int) ≤ ((10 : Int) * x1) + x2 ∧ ((10 : Int) * x1) + x2 < ((2000 : Nat) : Int)) ∧ (((0 : Int) ≤ M.1 0 293 (((10 : Int) * x1) + x2).toNat ∧ M.1 0 293 (((10 : Int) * x1) + x2).toNat < ((8 : Nat) : Int)) ∧ ((hm_in ((10 : Int) * x1)) ∧ ((hm_in (((10 : Int) * x1) + x2)) ∧ (((0 : Int) ≤ ((10 : Int) * x1) + x2 ∧ ((10 : Int) * x1) + x2 < ((2000 : Nat) : Int)) ∧ (((0 : Int) ≤ M.1 0 294 (((10 : Int) * x1) + x2).toNat ∧ M.1 0 294 (((10 : Int) * x1) + x2).toNat < ((8 : Nat) : Int)) ∧ ((hm_in ((10 : Int) * x1)) ∧ ((hm_in (((10 : Int) * x1) + x2)) ∧ (((0 : Int) ≤ ((10 : Int) * x1) + x2 ∧ ((10 : Int) * x1) + x2 < ((2000 : Nat) : Int)) ∧ ((¬ M.1 0 292 (((10 : Int) * x1) + x2).toNat = (0 : Int) → ((¬ (0 : Int) = (0 : Int) → (g_R (D + 1) 132 Q 118 [.inr (0, 286), .inl x1, .inl x2, .inl (M.1 0 298 (M.1 0 293 (((10 : Int) * x1) + x2).toNat).toNat), .inl (M.1 0 298 (M.1 0 294 (((10 : Int) * x1) + x2).toNat).toNat), .inl (0 : Int), .inl (1 : Int)] [] M)) ∧ ((0 : Int) = (0 : Int) → ((¬ M.1 0 298 (M.1 0 293 (((10 : Int) * x1) + x2).toNat).toNat = M.1 0 298 (M.1 0 294 (((10 : Int) * x1) + x2).toNat).toNat → (g_R (D + 1) 132 Q 118 [.inr (0, 286), .inl x1, .inl x2, .inl (M.1 0 298 (M.1 0 293 (((10 : Int) * x1) + x2).toNat).toNat), .inl (M.1 0 298 (M.1 0 294 (((10 : Int) * x1) + x2).toNat).toNat), .inl (0 : Int), .inl (1 : Int)] [] M)) ∧ (M.1 0 298 (M.1 0 293 (((10 : Int) * x1) + x2).toNat).toNat = M.1 0 298 (M.1 0 294 (((10 : Int) * x1) + x2).toNat).toNat → ((hm_in (x2 + (1 : Int))) ∧ (g_R (D + 1) 132 Q 35 [.inr (0, 286), .inl x1, .inl (x2 + (1 : Int))] [] M))))))) ∧ (M.1 0 292 (((10 : Int) * x1) + x2).toNat = (0 : Int) → ((¬ (1 : Int) = (0 : Int) → (g_R (D + 1) 132 Q 118 [.inr (0, 286), .inl x1, .inl x2, .inl (M.1 0 298 (M.1 0 293 (((10 : Int) * x1) + x2).toNat).toNat), .inl (M.1 0 298 (M.1 0 294 (((10 : Int) * x1) + x2).toNat).toNat), .inl (1 : Int), .inl (1 : Int)] [] M)) ∧ ((1 : Int) = (0 : Int) → ((¬ M.1 0 298 (M.1 0 293 (((10 : Int) * x1) + x2).toNat).toNat = M.1 0 298 (M.1 0 294 (((10 : Int) * x1) + x2).toNat).toNat → (g_R (D + 1) 132 Q 118 [.inr (0, 286), .inl x1, .inl x2, .inl (M.1 0 298 (M.1 0 293 (((10 : Int) * x1) + x2).toNat).toNat), .inl (M.1 0 298 (M.1 0 294 (((10 : Int) * x1) + x2).toNat).toNat), .inl (1 : Int), .inl (1 : Int)] [] M)) ∧ (M.1 0 298 (M.1 0 293 (((10 : Int) * x1) + x2).toNat).toNat = M.1 0 298 (M.1 0 294 (((10 : Int) * x1) + x2).toNat).toNat → ((hm_in (x2 + (1 : Int))) ∧ (g_R (D + 1) 132 Q 35 [.inr (0, 286), .inl x1, .inl (x2 + (1 : Int))] [] M)))))))))))))))))))))) : g_R (D + 1) 132 Q 35 [.inr (0, 286), .inl x1, .inl x2] [] M := by
  subst hD
  exact g_go hk_132 ⟨rfl, rfl⟩ (g_C_ok (g_F_ok (D := D1))) sp_132 51 h
set_option maxRecDepth 20000 in
theorem rg_132_118 {D : Nat} {Q : g_P} {M : g_M} {x1 : Int} {x2 : Int} {x3 : Int} {x4 : Int} {x5 : Int} {x6 : Int} {D1 : Nat} (hD : D = D1 + 2) (h : (x6 = (0 : Int) → ((x3 = x4 → ((hm_in (x2 + (1 : Int))) ∧ (g_R (D + 1) 132 Q 35 [.inr (0, 286), .inl x1, .inl (x2 + (1 : Int))] [] M))) ∧ (¬ x3 = x4 → (((0 : Int) ≤ (0 : Int) ∧ (0 : Int) ≤ 1) ∧ (Q [.inl (0 : Int)] M))))) ∧ (¬ x6 = (0 : Int) → ((x3 = (0 : Int) → (((0 : Int) ≤ (0 : Int) ∧ (0 : Int) ≤ 1) ∧ (Q [.inl (0 : Int)] M))) ∧ (¬ x3 = (0 : Int) → (((0 : Int) ≤ x3 ∧ x3 < ((64 : Nat) : Int)) ∧ ((M.1 0 304 x3.toNat < (0 : Int) → (((0 : Int) ≤ (0 : Int) ∧ (0 : Int) ≤ 1) ∧ (Q [.inl (0 : Int)] M))) ∧ ((0 : Int) ≤ M.1 0 304 x3.toNat → (((0 : Int) ≤ x3 ∧ x3 < ((64 : Nat) : Int)) ∧ ((M.1 0 305 x3.toNat = (0 : Int) → (((0 : Int) ≤ x3 ∧ x3 < ((64 : Nat) : Int) ∧ (0 : Int) ≤ (1 : Int) ∧ (1 : Int) ≤ 1) ∧ (((0 : Int) ≤ x3 ∧ x3 < ((64 : Nat) : Int)) ∧ ((¬ x5 = (0 : Int) → (g_R (D + 1) 132 Q 118 [.inr (0, 286), .inl x1, .inl x2, .inl (M.1 0 304 x3.toNat), .inl x4, .inl x5, .inl (0 : Int)] [] (g_uA M (0, 305) x3.toNat (1 : Int)))) ∧ (x5 = (0 : Int) → ((M.1 0 304 x3.toNat = x4 → (g_R (D + 1) 132 Q 118 [.inr (0, 286), .inl x1, .inl x2, .inl (M.1 0 304 x3.toNat), .inl x4, .inl x5, .inl (0 : Int)] [] (g_uA M (0, 305) x3.toNat (1 : Int)))) ∧ (¬ M.1 0 304 x3.toNat = x4 → (g_R (D + 1) 132 Q 118 [.inr (0, 286), .inl x1, .inl x2, .inl (M.1 0 304 x3.toNat), .inl x4, .inl x5, .inl (1 : Int)] [] (g_uA M (0, 305) x3.toNat (1 : Int)))))))))) ∧ (¬ M.1 0 305 x3.toNat = (0 : Int) → (((0 : Int) ≤ (0 : Int) ∧ (0 : Int) ≤ 1) ∧ (Q [.inl (0 : Int)] M)))))))))))) : g_R (D + 1) 132 Q 118 [.inr (0, 286), .inl x1, .inl x2, .inl x3, .inl x4, .inl x5, .inl x6] [] M := by
  subst hD
  exact g_go hk_132 ⟨rfl, rfl⟩ (g_C_ok (g_F_ok (D := D1))) sp_132 34 h
set_option maxRecDepth 20000 in
theorem rg_132_198 {D : Nat} {Q : g_P} {M : g_M} {x1 : Int} {x2 : Int} {D1 : Nat} (hD : D = D1 + 2) (h : (M.1 0 286 23 ≤ x2 → (((0 : Int) ≤ (1 : Int) ∧ (1 : Int) ≤ 1) ∧ (Q [.inl (1 : Int)] M))) ∧ (x2 < M.1 0 286 23 → (((0 : Int) ≤ x2 ∧ x2 < ((64 : Nat) : Int)) ∧ ((M.1 0 304 x2.toNat < (0 : Int) → ((hm_in (x2 + (1 : Int))) ∧ (g_R (D + 1) 132 Q 198 [.inr (0, 286), .inl x1, .inl (x2 + (1 : Int))] [] M))) ∧ ((0 : Int) ≤ M.1 0 304 x2.toNat → (((0 : Int) ≤ x2 ∧ x2 < ((64 : Nat) : Int)) ∧ ((¬ M.1 0 305 x2.toNat = (0 : Int) → ((hm_in (x2 + (1 : Int))) ∧ (g_R (D + 1) 132 Q 198 [.inr (0, 286), .inl x1, .inl (x2 + (1 : Int))] [] M))) ∧ (M.1 0 305 x2.toNat = (0 : Int) → (((0 : Int) ≤ (0 : Int) ∧ (0 : Int) ≤ 1) ∧ (Q [.inl (0 : Int)] M)))))))))) : g_R (D + 1) 132 Q 198 [.inr (0, 286), .inl x1, .inl x2] [] M := by
  subst hD
  exact g_go hk_132 ⟨rfl, rfl⟩ (g_C_ok (g_F_ok (D := D1))) sp_132 17 h
theorem hn_133 : 2 ≤ (hm_me 133).2.2.1 := by decide +kernel
/-- HeapLawModel.nextPlaces(I)Z -/
def sp_133 (pc : Nat) : Option Nat := match pc with
  | 2 => some 3
  | _ => none
set_option maxRecDepth 20000 in
theorem rg_133_0 {D : Nat} {Q : g_P} {M : g_M} {x1 : Int} {D1 : Nat} (hD : D = D1 + 2) (h : g_R (D + 1) 133 Q 2 [.inr (0, 286), .inl x1, .inl (0 : Int)] [] M) : g_R (D + 1) 133 Q 0 [.inr (0, 286), .inl x1] [] M := by
  subst hD
  exact g_go hk_133 ⟨rfl, rfl⟩ (g_C_ok (g_F_ok (D := D1))) sp_133 3 h
set_option maxRecDepth 20000 in
theorem rg_133_2 {D : Nat} {Q : g_P} {M : g_M} {x1 : Int} {x2 : Int} {D1 : Nat} (hD : D = D1 + 2) (h : (M.1 0 286 19 ≤ x2 → (((0 : Int) ≤ (0 : Int) ∧ (0 : Int) ≤ 1) ∧ (Q [.inl (0 : Int)] M))) ∧ (x2 < M.1 0 286 19 → (((0 : Int) ≤ x2 ∧ x2 < ((8 : Nat) : Int)) ∧ ((M.1 0 302 x2.toNat < (0 : Int) → (((0 : Int) ≤ x2 ∧ x2 < ((8 : Nat) : Int)) ∧ (((0 : Int) ≤ x2 ∧ x2 < ((8 : Nat) : Int)) ∧ ((hm_in ((M.1 0 302 x2.toNat) + (1 : Int))) ∧ (((0 : Int) ≤ x2 ∧ x2 < ((8 : Nat) : Int)) ∧ (((0 : Int) ≤ x2 ∧ x2 < ((8 : Nat) : Int)) ∧ (((0 : Int) ≤ x1 ∧ x1 < ((200 : Nat) : Int)) ∧ ((M.1 0 291 x1.toNat ≤ (g_uA (g_uA M (0, 303) x2.toNat (0 : Int)) (0, 302) x2.toNat ((M.1 0 302 x2.toNat) + (1 : Int))).1 0 302 x2.toNat → (((0 : Int) ≤ x2 ∧ x2 < ((8 : Nat) : Int)) ∧ ((hm_in (x2 + (1 : Int))) ∧ (g_R (D + 1) 133 Q 2 [.inr (0, 286), .inl x1, .inl (x2 + (1 : Int))] [] (g_uA (g_uA (g_uA M (0, 303) x2.toNat (0 : Int)) (0, 302) x2.toNat ((M.1 0 302 x2.toNat) + (1 : Int))) (0, 302) x2.toNat (-1 : Int)))))) ∧ ((g_uA (g_uA M (0, 303) x2.toNat (0 : Int)) (0, 302) x2.toNat ((M.1 0 302 x2.toNat) + (1 : Int))).1 0 302 x2.toNat < M.1 0 291 x1.toNat → (((0 : Int) ≤ (1 : Int) ∧ (1 : Int) ≤ 1) ∧ (Q [.inl (1 : Int)] (g_uA (g_uA M (0, 303) x2.toNat (0 : Int)) (0, 302) x2.toNat ((M.1 0 302 x2.toNat) + (1 : Int)))))))))))))) ∧ ((0 : Int) ≤ M.1 0 302 x2.toNat → (((0 : Int) ≤ x2 ∧ x2 < ((8 : Nat) : Int)) ∧ ((hm_in ((M.1 0 286 19) - (1 : Int))) ∧ (((M.1 0 286 19) - (1 : Int) ≤ M.1 0 303 x2.toNat → (((0 : Int) ≤ x2 ∧ x2 < ((8 : Nat) : Int)) ∧ (((0 : Int) ≤ x2 ∧ x2 < ((8 : Nat) : Int)) ∧ ((hm_in ((M.1 0 302 x2.toNat) + (1 : Int))) ∧ (((0 : Int) ≤ x2 ∧ x2 < ((8 : Nat) : Int)) ∧ (((0 : Int) ≤ x2 ∧ x2 < ((8 : Nat) : Int)) ∧ (((0 : Int) ≤ x1 ∧ x1 < ((200 : Nat) : Int)) ∧ ((M.1 0 291 x1.toNat ≤ (g_uA (g_uA M (0, 303) x2.toNat (0 : Int)) (0, 302) x2.toNat ((M.1 0 302 x2.toNat) + (1 : Int))).1 0 302 x2.toNat → (((0 : Int) ≤ x2 ∧ x2 < ((8 : Nat) : Int)) ∧ ((hm_in (x2 + (1 : Int))) ∧ (g_R (D + 1) 133 Q 2 [.inr (0, 286), .inl x1, .inl (x2 + (1 : Int))] [] (g_uA (g_uA (g_uA M (0, 303) x2.toNat (0 : Int)) (0, 302) x2.toNat ((M.1 0 302 x2.toNat) + (1 : Int))) (0, 302) x2.toNat (-1 : Int)))))) ∧ ((g_uA (g_uA M (0, 303) x2.toNat (0 : Int)) (0, 302) x2.toNat ((M.1 0 302 x2.toNat) + (1 : Int))).1 0 302 x2.toNat < M.1 0 291 x1.toNat → (((0 : Int) ≤ (1 : Int) ∧ (1 : Int) ≤ 1) ∧ (Q [.inl (1 : Int)] (g_uA (g_uA M (0, 303) x2.toNat (0 : Int)) (0, 302) x2.toNat ((M.1 0 302 x2.toNat) + (1 : Int)))))))))))))) ∧ (M.1 0 303 x2.toNat < (M.1 0 286 19) - (1 : Int) → (((0 : Int) ≤ x2 ∧ x2 < ((8 : Nat) : Int)) ∧ ((hm_in ((M.1 0 303 x2.toNat) + (1 : Int))) ∧ (((0 : Int) ≤ x2 ∧ x2 < ((8 : Nat) : Int)) ∧ (((0 : Int) ≤ (1 : Int) ∧ (1 : Int) ≤ 1) ∧ (Q [.inl (1 : Int)] (g_uA M (0, 303) x2.toNat ((M.1 0 303 x2.toNat) + (1 : Int))))))))))))))))) : g_R (D + 1) 133 Q 2 [.inr (0, 286), .inl x1, .inl x2] [] M := by
  subst hD
  exact g_go hk_133 ⟨rfl, rfl⟩ (g_C_ok (g_F_ok (D := D1))) sp_133 48 h
theorem hn_134 : 5 ≤ (hm_me 134).2.2.1 := by decide +kernel
/-- HeapLawModel.step(IIII)I -/
def sp_134 (pc : Nat) : Option Nat := match pc with
  | 59 => some 5
  | 85 => some 6
  | 127 => some 7
  | 139 => some 7
  | 170 => some 8
  | 177 => some 8
  | 186 => some 8
  | 214 => some 9
  | 232 => some 8
  | 244 => some 8
  | 264 => some 8
  | 297 => some 7
  | 323 => some 7
  | _ => none
set_option maxRecDepth 20000 in
theorem rg_134_0 {D : Nat} {Q : g_P} {M : g_M} {x1 : Int} {x2 : Int} {x3 : Int} {x4 : Int} {D1 : Nat} (hD : D = D1 + 2) (h : ((0 ≤ x1 ∧ x1 < M.1 0 286 1) → (((1 : Int) = (0 : Int) → (Q [.inl (-1 : Int)] M)) ∧ (¬ (1 : Int) = (0 : Int) → ((x2 < (0 : Int) → (Q [.inl (-1 : Int)] M)) ∧ ((0 : Int) ≤ x2 → (((7 : Int) < x2 → (Q [.inl (-1 : Int)] M)) ∧ (x2 ≤ (7 : Int) → (((0 < x3 ∧ x3 < 5) → (((1 : Int) = (0 : Int) → (Q [.inl (-1 : Int)] M)) ∧ (¬ (1 : Int) = (0 : Int) → (((x2 = 0 ∨ 3 < x2) → (((1 : Int) = (0 : Int) → (g_Ev D 99 [.inr (0, 286), .inl x1, .inl (66 : Int)] (g_uA (g_uA M (0, 286) 25 (1 : Int)) (0, 286) 26 (0 : Int)) (fun q M' => g_R (D + 1) 134 Q 59 [.inr (0, 286), .inl x1, .inl x2, .inl x3, .inl x4] (q ++ []) M'))) ∧ (¬ (1 : Int) = (0 : Int) → (((0 < x4 ∧ x4 < 5) → ((¬ (1 : Int) = (0 : Int) → (g_Ev D 99 [.inr (0, 286), .inl x1, .inl (66 : Int)] (g_uA (g_uA M (0, 286) 25 (1 : Int)) (0, 286) 26 (0 : Int)) (fun q M' => g_R (D + 1) 134 Q 59 [.inr (0, 286), .inl x1, .inl x2, .inl x3, .inl x4] (q ++ []) M'))) ∧ ((1 : Int) = (0 : Int) → (Q [.inl (-1 : Int)] M)))) ∧ (¬ (0 < x4 ∧ x4 < 5) → ((¬ (0 : Int) = (0 : Int) → (g_Ev D 99 [.inr (0, 286), .inl x1, .inl (66 : Int)] (g_uA (g_uA M (0, 286) 25 (1 : Int)) (0, 286) 26 (0 : Int)) (fun q M' => g_R (D + 1) 134 Q 59 [.inr (0, 286), .inl x1, .inl x2, .inl x3, .inl x4] (q ++ []) M'))) ∧ ((0 : Int) = (0 : Int) → (Q [.inl (-1 : Int)] M)))))))) ∧ (¬ (x2 = 0 ∨ 3 < x2) → (((0 : Int) = (0 : Int) → (g_Ev D 99 [.inr (0, 286), .inl x1, .inl (66 : Int)] (g_uA (g_uA M (0, 286) 25 (1 : Int)) (0, 286) 26 (0 : Int)) (fun q M' => g_R (D + 1) 134 Q 59 [.inr (0, 286), .inl x1, .inl x2, .inl x3, .inl x4] (q ++ []) M'))) ∧ (¬ (0 : Int) = (0 : Int) → (((0 < x4 ∧ x4 < 5) → ((¬ (1 : Int) = (0 : Int) → (g_Ev D 99 [.inr (0, 286), .inl x1, .inl (66 : Int)] (g_uA (g_uA M (0, 286) 25 (1 : Int)) (0, 286) 26 (0 : Int)) (fun q M' => g_R (D + 1) 134 Q 59 [.inr (0, 286), .inl x1, .inl x2, .inl x3, .inl x4] (q ++ []) M'))) ∧ ((1 : Int) = (0 : Int) → (Q [.inl (-1 : Int)] M)))) ∧ (¬ (0 < x4 ∧ x4 < 5) → ((¬ (0 : Int) = (0 : Int) → (g_Ev D 99 [.inr (0, 286), .inl x1, .inl (66 : Int)] (g_uA (g_uA M (0, 286) 25 (1 : Int)) (0, 286) 26 (0 : Int)) (fun q M' => g_R (D + 1) 134 Q 59 [.inr (0, 286), .inl x1, .inl x2, .inl x3, .inl x4] (q ++ []) M'))) ∧ ((0 : Int) = (0 : Int) → (Q [.inl (-1 : Int)] M)))))))))))) ∧ (¬ (0 < x3 ∧ x3 < 5) → (((0 : Int) = (0 : Int) → (Q [.inl (-1 : Int)] M)) ∧ (¬ (0 : Int) = (0 : Int) → (((x2 = 0 ∨ 3 < x2) → (((1 : Int) = (0 : Int) → (g_Ev D 99 [.inr (0, 286), .inl x1, .inl (66 : Int)] (g_uA (g_uA M (0, 286) 25 (1 : Int)) (0, 286) 26 (0 : Int)) (fun q M' => g_R (D + 1) 134 Q 59 [.inr (0, 286), .inl x1, .inl x2, .inl x3, .inl x4] (q ++ []) M'))) ∧ (¬ (1 : Int) = (0 : Int) → (((0 < x4 ∧ x4 < 5) → ((¬ (1 : Int) = (0 : Int) → (g_Ev D 99 [.inr (0, 286), .inl x1, .inl (66 : Int)] (g_uA (g_uA M (0, 286) 25 (1 : Int)) (0, 286) 26 (0 : Int)) (fun q M' => g_R (D + 1) 134 Q 59 [.inr (0, 286), .inl x1, .inl x2, .inl x3, .inl x4] (q ++ []) M'))) ∧ ((1 : Int) = (0 : Int) → (Q [.inl (-1 : Int)] M)))) ∧ (¬ (0 < x4 ∧ x4 < 5) → ((¬ (0 : Int) = (0 : Int) → (g_Ev D 99 [.inr (0, 286), .inl x1, .inl (66 : Int)] (g_uA (g_uA M (0, 286) 25 (1 : Int)) (0, 286) 26 (0 : Int)) (fun q M' => g_R (D + 1) 134 Q 59 [.inr (0, 286), .inl x1, .inl x2, .inl x3, .inl x4] (q ++ []) M'))) ∧ ((0 : Int) = (0 : Int) → (Q [.inl (-1 : Int)] M)))))))) ∧ (¬ (x2 = 0 ∨ 3 < x2) → (((0 : Int) = (0 : Int) → (g_Ev D 99 [.inr (0, 286), .inl x1, .inl (66 : Int)] (g_uA (g_uA M (0, 286) 25 (1 : Int)) (0, 286) 26 (0 : Int)) (fun q M' => g_R (D + 1) 134 Q 59 [.inr (0, 286), .inl x1, .inl x2, .inl x3, .inl x4] (q ++ []) M'))) ∧ (¬ (0 : Int) = (0 : Int) → (((0 < x4 ∧ x4 < 5) → ((¬ (1 : Int) = (0 : Int) → (g_Ev D 99 [.inr (0, 286), .inl x1, .inl (66 : Int)] (g_uA (g_uA M (0, 286) 25 (1 : Int)) (0, 286) 26 (0 : Int)) (fun q M' => g_R (D + 1) 134 Q 59 [.inr (0, 286), .inl x1, .inl x2, .inl x3, .inl x4] (q ++ []) M'))) ∧ ((1 : Int) = (0 : Int) → (Q [.inl (-1 : Int)] M)))) ∧ (¬ (0 < x4 ∧ x4 < 5) → ((¬ (0 : Int) = (0 : Int) → (g_Ev D 99 [.inr (0, 286), .inl x1, .inl (66 : Int)] (g_uA (g_uA M (0, 286) 25 (1 : Int)) (0, 286) 26 (0 : Int)) (fun q M' => g_R (D + 1) 134 Q 59 [.inr (0, 286), .inl x1, .inl x2, .inl x3, .inl x4] (q ++ []) M'))) ∧ ((0 : Int) = (0 : Int) → (Q [.inl (-1 : Int)] M)))))))))))))))))))) ∧ (¬ (0 ≤ x1 ∧ x1 < M.1 0 286 1) → (((0 : Int) = (0 : Int) → (Q [.inl (-1 : Int)] M)) ∧ (¬ (0 : Int) = (0 : Int) → ((x2 < (0 : Int) → (Q [.inl (-1 : Int)] M)) ∧ ((0 : Int) ≤ x2 → (((7 : Int) < x2 → (Q [.inl (-1 : Int)] M)) ∧ (x2 ≤ (7 : Int) → (((0 < x3 ∧ x3 < 5) → (((1 : Int) = (0 : Int) → (Q [.inl (-1 : Int)] M)) ∧ (¬ (1 : Int) = (0 : Int) → (((x2 = 0 ∨ 3 < x2) → (((1 : Int) = (0 : Int) → (g_Ev D 99 [.inr (0, 286), .inl x1, .inl (66 : Int)] (g_uA (g_uA M (0, 286) 25 (1 : Int)) (0, 286) 26 (0 : Int)) (fun q M' => g_R (D + 1) 134 Q 59 [.inr (0, 286), .inl x1, .inl x2, .inl x3, .inl x4] (q ++ []) M'))) ∧ (¬ (1 : Int) = (0 : Int) → (((0 < x4 ∧ x4 < 5) → ((¬ (1 : Int) = (0 : Int) → (g_Ev D 99 [.inr (0, 286), .inl x1, .inl (66 : Int)] (g_uA (g_uA M (0, 286) 25 (1 : Int)) (0, 286) 26 (0 : Int)) (fun q M' => g_R (D + 1) 134 Q 59 [.inr (0, 286), .inl x1, .inl x2, .inl x3, .inl x4] (q ++ []) M'))) ∧ ((1 : Int) = (0 : Int) → (Q [.inl (-1 : Int)] M)))) ∧ (¬ (0 < x4 ∧ x4 < 5) → ((¬ (0 : Int) = (0 : Int) → (g_Ev D 99 [.inr (0, 286), .inl x1, .inl (66 : Int)] (g_uA (g_uA M (0, 286) 25 (1 : Int)) (0, 286) 26 (0 : Int)) (fun q M' => g_R (D + 1) 134 Q 59 [.inr (0, 286), .inl x1, .inl x2, .inl x3, .inl x4] (q ++ []) M'))) ∧ ((0 : Int) = (0 : Int) → (Q [.inl (-1 : Int)] M)))))))) ∧ (¬ (x2 = 0 ∨ 3 < x2) → (((0 : Int) = (0 : Int) → (g_Ev D 99 [.inr (0, 286), .inl x1, .inl (66 : Int)] (g_uA (g_uA M (0, 286) 25 (1 : Int)) (0, 286) 26 (0 : Int)) (fun q M' => g_R (D + 1) 134 Q 59 [.inr (0, 286), .inl x1, .inl x2, .inl x3, .inl x4] (q ++ []) M'))) ∧ (¬ (0 : Int) = (0 : Int) → (((0 < x4 ∧ x4 < 5) → ((¬ (1 : Int) = (0 : Int) → (g_Ev D 99 [.inr (0, 286), .inl x1, .inl (66 : Int)] (g_uA (g_uA M (0, 286) 25 (1 : Int)) (0, 286) 26 (0 : Int)) (fun q M' => g_R (D + 1) 134 Q 59 [.inr (0, 286), .inl x1, .inl x2, .inl x3, .inl x4] (q ++ []) M'))) ∧ ((1 : Int) = (0 : Int) → (Q [.inl (-1 : Int)] M)))) ∧ (¬ (0 < x4 ∧ x4 < 5) → ((¬ (0 : Int) = (0 : Int) → (g_Ev D 99 [.inr (0, 286), .inl x1, .inl (66 : Int)] (g_uA (g_uA M (0, 286) 25 (1 : Int)) (0, 286) 26 (0 : Int)) (fun q M' => g_R (D + 1) 134 Q 59 [.inr (0, 286), .inl x1, .inl x2, .inl x3, .inl x4] (q ++ []) M'))) ∧ ((0 : Int) = (0 : Int) → (Q [.inl (-1 : Int)] M)))))))))))) ∧ (¬ (0 < x3 ∧ x3 < 5) → (((0 : Int) = (0 : Int) → (Q [.inl (-1 : Int)] M)) ∧ (¬ (0 : Int) = (0 : Int) → (((x2 = 0 ∨ 3 < x2) → (((1 : Int) = (0 : Int) → (g_Ev D 99 [.inr (0, 286), .inl x1, .inl (66 : Int)] (g_uA (g_uA M (0, 286) 25 (1 : Int)) (0, 286) 26 (0 : Int)) (fun q M' => g_R (D + 1) 134 Q 59 [.inr (0, 286), .inl x1, .inl x2, .inl x3, .inl x4] (q ++ []) M'))) ∧ (¬ (1 : Int) = (0 : Int) → (((0 < x4 ∧ x4 < 5) → ((¬ (1 : Int) = (0 : Int) → (g_Ev D 99 [.inr (0, 286), .inl x1, .inl (66 : Int)] (g_uA (g_uA M (0, 286) 25 (1 : Int)) (0, 286) 26 (0 : Int)) (fun q M' => g_R (D + 1) 134 Q 59 [.inr (0, 286), .inl x1, .inl x2, .inl x3, .inl x4] (q ++ []) M'))) ∧ ((1 : Int) = (0 : Int) → (Q [.inl (-1 : Int)] M)))) ∧ (¬ (0 < x4 ∧ x4 < 5) → ((¬ (0 : Int) = (0 : Int) → (g_Ev D 99 [.inr (0, 286), .inl x1, .inl (66 : Int)] (g_uA (g_uA M (0, 286) 25 (1 : Int)) (0, 286) 26 (0 : Int)) (fun q M' => g_R (D + 1) 134 Q 59 [.inr (0, 286), .inl x1, .inl x2, .inl x3, .inl x4] (q ++ []) M'))) ∧ ((0 : Int) = (0 : Int) → (Q [.inl (-1 : Int)] M)))))))) ∧ (¬ (x2 = 0 ∨ 3 < x2) → (((0 : Int) = (0 : Int) → (g_Ev D 99 [.inr (0, 286), .inl x1, .inl (66 : Int)] (g_uA (g_uA M (0, 286) 25 (1 : Int)) (0, 286) 26 (0 : Int)) (fun q M' => g_R (D + 1) 134 Q 59 [.inr (0, 286), .inl x1, .inl x2, .inl x3, .inl x4] (q ++ []) M'))) ∧ (¬ (0 : Int) = (0 : Int) → (((0 < x4 ∧ x4 < 5) → ((¬ (1 : Int) = (0 : Int) → (g_Ev D 99 [.inr (0, 286), .inl x1, .inl (66 : Int)] (g_uA (g_uA M (0, 286) 25 (1 : Int)) (0, 286) 26 (0 : Int)) (fun q M' => g_R (D + 1) 134 Q 59 [.inr (0, 286), .inl x1, .inl x2, .inl x3, .inl x4] (q ++ []) M'))) ∧ ((1 : Int) = (0 : Int) → (Q [.inl (-1 : Int)] M)))) ∧ (¬ (0 < x4 ∧ x4 < 5) → ((¬ (0 : Int) = (0 : Int) → (g_Ev D 99 [.inr (0, 286), .inl x1, .inl (66 : Int)] (g_uA (g_uA M (0, 286) 25 (1 : Int)) (0, 286) 26 (0 : Int)) (fun q M' => g_R (D + 1) 134 Q 59 [.inr (0, 286), .inl x1, .inl x2, .inl x3, .inl x4] (q ++ []) M'))) ∧ ((0 : Int) = (0 : Int) → (Q [.inl (-1 : Int)] M))))))))))))))))))))) : g_R (D + 1) 134 Q 0 [.inr (0, 286), .inl x1, .inl x2, .inl x3, .inl x4] [] M := by
  subst hD
  exact g_go hk_134 ⟨rfl, rfl⟩ (g_C_ok (g_F_ok (D := D1))) sp_134 29 h
set_option maxRecDepth 20000 in
theorem rg_134_59 {D : Nat} {Q : g_P} {M : g_M} {x1 : Int} {x2 : Int} {x3 : Int} {x4 : Int} {D1 : Nat} (hD : D = D1 + 2) (h : ((0 : Int) ≤ (66 : Int) ∧ (66 : Int) < ((200 : Nat) : Int)) ∧ ((x2 ≤ (2 : Int) → (g_R (D + 1) 134 Q 85 [.inr (0, 286), .inl x1, .inl x2, .inl x3, .inl x4, .inl (0 : Int)] [] (g_uA M (0, 307) (66 : Int).toNat (-1 : Int)))) ∧ ((2 : Int) < x2 → (((6 : Int) ≤ x2 → (g_R (D + 1) 134 Q 85 [.inr (0, 286), .inl x1, .inl x2, .inl x3, .inl x4, .inl (0 : Int)] [] (g_uA M (0, 307) (66 : Int).toNat (-1 : Int)))) ∧ (x2 < (6 : Int) → (g_R (D + 1) 134 Q 85 [.inr (0, 286), .inl x1, .inl x2, .inl x3, .inl x4, .inl (1 : Int)] [] (g_uA M (0, 307) (66 : Int).toNat (-1 : Int)))))))) : g_R (D + 1) 134 Q 59 [.inr (0, 286), .inl x1, .inl x2, .inl x3, .inl x4] [] M := by
  subst hD
  exact g_go hk_134 ⟨rfl, rfl⟩ (g_C_ok (g_F_ok (D := D1))) sp_134 15 h
set_option maxRecDepth 20000 in
theorem rg_134_85 {D : Nat} {Q : g_P} {M : g_M} {x1 : Int} {x2 : Int} {x3 : Int} {x4 : Int} {x5 : Int} {D1 : Nat} (hD : D = D1 + 2) (h : (M.1 0 286 25 ≤ (0 : Int) → ((hm_in ((M.1 0 286 1) + (M.1 0 286 26))) ∧ (((M.1 0 286 1) + (M.1 0 286 26) ≤ (60 : Int) → (g_R (D + 1) 134 Q 297 [.inr (0, 286), .inl x1, .inl x2, .inl x3, .inl x4, .inl x5, .inl (0 : Int)] [] M)) ∧ ((60 : Int) < (M.1 0 286 1) + (M.1 0 286 26) → (Q [.inl (-2 : Int)] M))))) ∧ ((0 : Int) < M.1 0 286 25 → ((hm_in ((M.1 0 286 25) - (1 : Int))) ∧ ((hm_in ((66 : Int) + ((M.1 0 286 25) - (1 : Int)))) ∧ (((0 : Int) ≤ (66 : Int) + ((M.1 0 286 25) - (1 : Int)) ∧ (66 : Int) + ((M.1 0 286 25) - (1 : Int)) < ((200 : Nat) : Int)) ∧ ((M.1 0 307 ((66 : Int) + ((M.1 0 286 25) - (1 : Int))).toNat < (0 : Int) → (g_Ev D 117 [.inr (0, 286), .inl ((66 : Int) + ((M.1 0 286 25) - (1 : Int)))] (g_uA M (0, 286) 25 ((M.1 0 286 25) - (1 : Int))) (fun q M' => g_R (D + 1) 134 Q 139 [.inr (0, 286), .inl x1, .inl x2, .inl x3, .inl x4, .inl x5, .inl ((66 : Int) + ((M.1 0 286 25) - (1 : Int)))] (q ++ []) M'))) ∧ ((0 : Int) ≤ M.1 0 307 ((66 : Int) + ((M.1 0 286 25) - (1 : Int))).toNat → (g_Ev D 135 [.inr (0, 286), .inl ((66 : Int) + ((M.1 0 286 25) - (1 : Int)))] (g_uA M (0, 286) 25 ((M.1 0 286 25) - (1 : Int))) (fun q M' => g_R (D + 1) 134 Q 127 [.inr (0, 286), .inl x1, .inl x2, .inl x3, .inl x4, .inl x5, .inl ((66 : Int) + ((M.1 0 286 25) - (1 : Int)))] (q ++ []) M'))))))))) : g_R (D + 1) 134 Q 85 [.inr (0, 286), .inl x1, .inl x2, .inl x3, .inl x4, .inl x5] [] M := by
  subst hD
  exact g_go hk_134 ⟨rfl, rfl⟩ (g_C_ok (g_F_ok (D := D1))) sp_134 23 h
set_option maxRecDepth 20000 in
theorem rg_134_127 {D : Nat} {Q : g_P} {M : g_M} {x1 : Int} {x2 : Int} {x3 : Int} {x4 : Int} {x5 : Int} {x6 : Int} {s0 : Int} {D1 : Nat} (hD : D = D1 + 2) (h : (¬ s0 = (0 : Int) → (g_Ev D 117 [.inr (0, 286), .inl x6] M (fun q M' => g_R (D + 1) 134 Q 139 [.inr (0, 286), .inl x1, .inl x2, .inl x3, .inl x4, .inl x5, .inl x6] (q ++ []) M'))) ∧ (s0 = (0 : Int) → (Q [.inl (-4 : Int)] M))) : g_R (D + 1) 134 Q 127 [.inr (0, 286), .inl x1, .inl x2, .inl x3, .inl x4, .inl x5, .inl x6] [.inl s0] M := by
  subst hD
  exact g_go hk_134 ⟨rfl, rfl⟩ (g_C_ok (g_F_ok (D := D1))) sp_134 5 h
set_option maxRecDepth 20000 in
theorem rg_134_139 {D : Nat} {Q : g_P} {M : g_M} {x1 : Int} {x2 : Int} {x3 : Int} {x4 : Int} {x5 : Int} {x6 : Int} {s0 : Int} {D1 : Nat} (hD : D = D1 + 2) (h : (¬ s0 = (0 : Int) → ((x5 = (0 : Int) → (g_Ev D 143 [.inr (0, 286), .inl x6, .inl x2, .inl x3, .inl x4, .inl (-1 : Int)] M (fun q M' => g_R (D + 1) 134 Q 232 [.inr (0, 286), .inl x1, .inl x2, .inl x3, .inl x4, .inl x5, .inl x6, .inl (-1 : Int)] (q ++ []) M'))) ∧ (¬ x5 = (0 : Int) → ((¬ x2 = (4 : Int) → (g_Ev D 140 [.inr (0, 286), .inl x6, .inl x3] M (fun q M' => g_R (D + 1) 134 Q 170 [.inr (0, 286), .inl x1, .inl x2, .inl x3, .inl x4, .inl x5, .inl x6, .inl (-1 : Int)] (q ++ []) M'))) ∧ (x2 = (4 : Int) → (g_Ev D 140 [.inr (0, 286), .inl x6, .inl x4] M (fun q M' => g_R (D + 1) 134 Q 170 [.inr (0, 286), .inl x1, .inl x2, .inl x3, .inl x4, .inl x5, .inl x6, .inl (-1 : Int)] (q ++ []) M'))))))) ∧ (s0 = (0 : Int) → (g_R (D + 1) 134 Q 85 [.inr (0, 286), .inl x1, .inl x2, .inl x3, .inl x4, .inl x5] [] M))) : g_R (D + 1) 134 Q 139 [.inr (0, 286), .inl x1, .inl x2, .inl x3, .inl x4, .inl x5, .inl x6] [.inl s0] M := by
  subst hD
  exact g_go hk_134 ⟨rfl, rfl⟩ (g_C_ok (g_F_ok (D := D1))) sp_134 14 h
set_option maxRecDepth 20000 in
theorem rg_134_170 {D : Nat} {Q : g_P} {M : g_M} {x1 : Int} {x2 : Int} {x3 : Int} {x4 : Int} {x5 : Int} {x6 : Int} {x7 : Int} {D1 : Nat} (hD : D = D1 + 2) (h : g_Ev D 141 [.inr (0, 286), .inl x6, .inl (0 : Int)] M (fun q M' => g_R (D + 1) 134 Q 177 [.inr (0, 286), .inl x1, .inl x2, .inl x3, .inl x4, .inl x5, .inl x6, .inl x7] (q ++ []) M')) : g_R (D + 1) 134 Q 170 [.inr (0, 286), .inl x1, .inl x2, .inl x3, .inl x4, .inl x5, .inl x6, .inl x7] [] M := by
  subst hD
  exact g_go hk_134 ⟨rfl, rfl⟩ (g_C_ok (g_F_ok (D := D1))) sp_134 5 h
set_option maxRecDepth 20000 in
theorem rg_134_177 {D : Nat} {Q : g_P} {M : g_M} {x1 : Int} {x2 : Int} {x3 : Int} {x4 : Int} {x5 : Int} {x6 : Int} {x7 : Int} {s0 : Int} {D1 : Nat} (hD : D = D1 + 2) (h : g_Ev D 141 [.inr (0, 286), .inl x6, .inl (1 : Int)] M (fun q M' => g_R (D + 1) 134 Q 186 [.inr (0, 286), .inl x1, .inl x2, .inl x3, .inl x4, .inl x5, .inl x6, .inl s0] (q ++ []) M')) : g_R (D + 1) 134 Q 177 [.inr (0, 286), .inl x1, .inl x2, .inl x3, .inl x4, .inl x5, .inl x6, .inl x7] [.inl s0] M := by
  subst hD
  exact g_go hk_134 ⟨rfl, rfl⟩ (g_C_ok (g_F_ok (D := D1))) sp_134 6 h
set_option maxRecDepth 20000 in
theorem rg_134_186 {D : Nat} {Q : g_P} {M : g_M} {x1 : Int} {x2 : Int} {x3 : Int} {x4 : Int} {x5 : Int} {x6 : Int} {x7 : Int} {s0 : Int} {D1 : Nat} (hD : D = D1 + 2) (h : ((0 : Int) ≤ x7 → (((0 : Int) ≤ x7 → (g_Ev D 143 [.inr (0, 286), .inl x6, .inl x2, .inl x3, .inl x4, .inl x7] M (fun q M' => g_R (D + 1) 134 Q 232 [.inr (0, 286), .inl x1, .inl x2, .inl x3, .inl x4, .inl x5, .inl x6, .inl x7] (q ++ []) M'))) ∧ (x7 < (0 : Int) → (g_Ev D 142 [.inr (0, 286), .inl x6, .inl s0] M (fun q M' => g_R (D + 1) 134 Q 214 [.inr (0, 286), .inl x1, .inl x2, .inl x3, .inl x4, .inl x5, .inl x6, .inl x7, .inl s0] (q ++ []) M'))))) ∧ (x7 < (0 : Int) → (((0 : Int) ≤ s0 → (((0 : Int) ≤ x7 → (g_Ev D 143 [.inr (0, 286), .inl x6, .inl x2, .inl x3, .inl x4, .inl x7] M (fun q M' => g_R (D + 1) 134 Q 232 [.inr (0, 286), .inl x1, .inl x2, .inl x3, .inl x4, .inl x5, .inl x6, .inl x7] (q ++ []) M'))) ∧ (x7 < (0 : Int) → (g_Ev D 142 [.inr (0, 286), .inl x6, .inl s0] M (fun q M' => g_R (D + 1) 134 Q 214 [.inr (0, 286), .inl x1, .inl x2, .inl x3, .inl x4, .inl x5, .inl x6, .inl x7, .inl s0] (q ++ []) M'))))) ∧ (s0 < (0 : Int) → (Q [.inl (-5 : Int)] M))))) : g_R (D + 1) 134 Q 186 [.inr (0, 286), .inl x1, .inl x2, .inl x3, .inl x4, .inl x5, .inl x6, .inl x7] [.inl s0] M := by
  subst hD
  exact g_go hk_134 ⟨rfl, rfl⟩ (g_C_ok (g_F_ok (D := D1))) sp_134 15 h
set_option maxRecDepth 20000 in
theorem rg_134_214 {D : Nat} {Q : g_P} {M : g_M} {x1 : Int} {x2 : Int} {x3 : Int} {x4 : Int} {x5 : Int} {x6 : Int} {x7 : Int} {x8 : Int} {s0 : Int} {D1 : Nat} (hD : D = D1 + 2) (h : (¬ s0 = (0 : Int) → (g_R (D + 1) 134 Q 85 [.inr (0, 286), .inl x1, .inl x2, .inl x3, .inl x4, .inl x5] [] M)) ∧ (s0 = (0 : Int) → (Q [.inl (-4 : Int)] M))) : g_R (D + 1) 134 Q 214 [.inr (0, 286), .inl x1, .inl x2, .inl x3, .inl x4, .inl x5, .inl x6, .inl x7, .inl x8] [.inl s0] M := by
  subst hD
  exact g_go hk_134 ⟨rfl, rfl⟩ (g_C_ok (g_F_ok (D := D1))) sp_134 4 h
set_option maxRecDepth 20000 in
theorem rg_134_232 {D : Nat} {Q : g_P} {M : g_M} {x1 : Int} {x2 : Int} {x3 : Int} {x4 : Int} {x5 : Int} {x6 : Int} {x7 : Int} {s0 : Int} {D1 : Nat} (hD : D = D1 + 2) (h : (¬ s0 = (0 : Int) → (g_Ev D 117 [.inr (0, 286), .inl x6] M (fun q M' => g_R (D + 1) 134 Q 244 [.inr (0, 286), .inl x1, .inl x2, .inl x3, .inl x4, .inl x5, .inl x6, .inl x7] (q ++ []) M'))) ∧ (s0 = (0 : Int) → (Q [.inl (-4 : Int)] M))) : g_R (D + 1) 134 Q 232 [.inr (0, 286), .inl x1, .inl x2, .inl x3, .inl x4, .inl x5, .inl x6, .inl x7] [.inl s0] M := by
  subst hD
  exact g_go hk_134 ⟨rfl, rfl⟩ (g_C_ok (g_F_ok (D := D1))) sp_134 5 h
set_option maxRecDepth 20000 in
theorem rg_134_244 {D : Nat} {Q : g_P} {M : g_M} {x1 : Int} {x2 : Int} {x3 : Int} {x4 : Int} {x5 : Int} {x6 : Int} {x7 : Int} {s0 : Int} {D1 : Nat} (hD : D = D1 + 2) (h : (¬ s0 = (0 : Int) → ((hm_in ((130 : Int) + (M.1 0 286 26))) ∧ (g_Ev D 99 [.inr (0, 286), .inl x6, .inl ((130 : Int) + (M.1 0 286 26))] M (fun q M' => g_R (D + 1) 134 Q 264 [.inr (0, 286), .inl x1, .inl x2, .inl x3, .inl x4, .inl x5, .inl x6, .inl x7] (q ++ []) M')))) ∧ (s0 = (0 : Int) → (g_R (D + 1) 134 Q 85 [.inr (0, 286), .inl x1, .inl x2, .inl x3, .inl x4, .inl x5] [] M))) : g_R (D + 1) 134 Q 244 [.inr (0, 286), .inl x1, .inl x2, .inl x3, .inl x4, .inl x5, .inl x6, .inl x7] [.inl s0] M := by
  subst hD
  exact g_go hk_134 ⟨rfl, rfl⟩ (g_C_ok (g_F_ok (D := D1))) sp_134 9 h
set_option maxRecDepth 20000 in
theorem rg_134_264 {D : Nat} {Q : g_P} {M : g_M} {x1 : Int} {x2 : Int} {x3 : Int} {x4 : Int} {x5 : Int} {x6 : Int} {x7 : Int} {D1 : Nat} (hD : D = D1 + 2) (h : (hm_in ((M.1 0 286 26) + (1 : Int))) ∧ (g_R (D + 1) 134 Q 85 [.inr (0, 286), .inl x1, .inl x2, .inl x3, .inl x4, .inl x5] [] (g_uA M (0, 286) 26 ((M.1 0 286 26) + (1 : Int))))) : g_R (D + 1) 134 Q 264 [.inr (0, 286), .inl x1, .inl x2, .inl x3, .inl x4, .inl x5, .inl x6, .inl x7] [] M := by
  subst hD
  exact g_go hk_134 ⟨rfl, rfl⟩ (g_C_ok (g_F_ok (D := D1))) sp_134 8 h
set_option maxRecDepth 20000 in
theorem rg_134_297 {D : Nat} {Q : g_P} {M : g_M} {x1 : Int} {x2 : Int} {x3 : Int} {x4 : Int} {x5 : Int} {x6 : Int} {D1 : Nat} (hD : D = D1 + 2) (h : (M.1 0 286 26 ≤ x6 → ((hm_in ((M.1 0 286 1) + (M.1 0 286 26))) ∧ (Q [.inl (M.1 0 286 26)] (g_uA M (0, 286) 1 ((M.1 0 286 1) + (M.1 0 286 26)))))) ∧ (x6 < M.1 0 286 26 → ((hm_in ((130 : Int) + x6)) ∧ ((hm_in ((M.1 0 286 1) + x6)) ∧ (g_Ev D 99 [.inr (0, 286), .inl ((130 : Int) + x6), .inl ((M.1 0 286 1) + x6)] M (fun q M' => g_R (D + 1) 134 Q 323 [.inr (0, 286), .inl x1, .inl x2, .inl x3, .inl x4, .inl x5, .inl x6] (q ++ []) M')))))) : g_R (D + 1) 134 Q 297 [.inr (0, 286), .inl x1, .inl x2, .inl x3, .inl x4, .inl x5, .inl x6] [] M := by
  subst hD
  exact g_go hk_134 ⟨rfl, rfl⟩ (g_C_ok (g_F_ok (D := D1))) sp_134 15 h
set_option maxRecDepth 20000 in
theorem rg_134_323 {D : Nat} {Q : g_P} {M : g_M} {x1 : Int} {x2 : Int} {x3 : Int} {x4 : Int} {x5 : Int} {x6 : Int} {D1 : Nat} (hD : D = D1 + 2) (h : (hm_in (x6 + (1 : Int))) ∧ (g_R (D + 1) 134 Q 297 [.inr (0, 286), .inl x1, .inl x2, .inl x3, .inl x4, .inl x5, .inl (x6 + (1 : Int))] [] M)) : g_R (D + 1) 134 Q 323 [.inr (0, 286), .inl x1, .inl x2, .inl x3, .inl x4, .inl x5, .inl x6] [] M := by
  subst hD
  exact g_go hk_134 ⟨rfl, rfl⟩ (g_C_ok (g_F_ok (D := D1))) sp_134 3 h
theorem hn_135 : 2 ≤ (hm_me 135).2.2.1 := by decide +kernel
/-- HeapLawModel.openOther(I)Z -/
def sp_135 (pc : Nat) : Option Nat := match pc with
  | 44 => some 5
  | 70 => some 6
  | 80 => some 6
  | 93 => some 6
  | 102 => some 6
  | _ => none
set_option maxRecDepth 20000 in
theorem rg_135_0 {D : Nat} {Q : g_P} {M : g_M} {x1 : Int} {D1 : Nat} (hD : D = D1 + 2) (h : ((0 : Int) ≤ x1 ∧ x1 < ((200 : Nat) : Int)) ∧ (((0 : Int) ≤ x1 ∧ x1 < ((200 : Nat) : Int)) ∧ ((hm_in ((10 : Int) * x1)) ∧ ((hm_in (((10 : Int) * x1) + (M.1 0 307 x1.toNat))) ∧ (((0 : Int) ≤ ((10 : Int) * x1) + (M.1 0 307 x1.toNat) ∧ ((10 : Int) * x1) + (M.1 0 307 x1.toNat) < ((2000 : Nat) : Int)) ∧ ((hm_in ((10 : Int) * x1)) ∧ ((hm_in (((10 : Int) * x1) + (M.1 0 307 x1.toNat))) ∧ (((0 : Int) ≤ ((10 : Int) * x1) + (M.1 0 307 x1.toNat) ∧ ((10 : Int) * x1) + (M.1 0 307 x1.toNat) < ((2000 : Nat) : Int)) ∧ (g_Ev D 136 [.inr (0, 286), .inl x1] (g_uA M (0, 307) x1.toNat (-1 : Int)) (fun q M' => g_R (D + 1) 135 Q 44 [.inr (0, 286), .inl x1, .inl (M.1 0 307 x1.toNat), .inl (M.1 0 293 (((10 : Int) * x1) + (M.1 0 307 x1.toNat)).toNat), .inl (M.1 0 294 (((10 : Int) * x1) + (M.1 0 307 x1.toNat)).toNat)] (q ++ []) M')))))))))) : g_R (D + 1) 135 Q 0 [.inr (0, 286), .inl x1] [] M := by
  subst hD
  exact g_go hk_135 ⟨rfl, rfl⟩ (g_C_ok (g_F_ok (D := D1))) sp_135 32 h
set_option maxRecDepth 20000 in
theorem rg_135_44 {D : Nat} {Q : g_P} {M : g_M} {x1 : Int} {x2 : Int} {x3 : Int} {x4 : Int} {s0 : Int} {D1 : Nat} (hD : D = D1 + 2) (h : (s0 < (0 : Int) → (((0 : Int) ≤ (0 : Int) ∧ (0 : Int) ≤ 1) ∧ (Q [.inl (0 : Int)] M))) ∧ ((0 : Int) ≤ s0 → (((0 : Int) ≤ x1 ∧ x1 < ((200 : Nat) : Int)) ∧ ((¬ M.1 0 291 x1.toNat = (10 : Int) → (g_Ev D 137 [.inr (0, 286), .inl x1, .inl x2] M (fun q M' => g_R (D + 1) 135 Q 70 [.inr (0, 286), .inl x1, .inl x2, .inl x3, .inl x4, .inl s0] (q ++ []) M'))) ∧ (M.1 0 291 x1.toNat = (10 : Int) → (((0 : Int) ≤ (0 : Int) ∧ (0 : Int) ≤ 1) ∧ (Q [.inl (0 : Int)] M))))))) : g_R (D + 1) 135 Q 44 [.inr (0, 286), .inl x1, .inl x2, .inl x3, .inl x4] [.inl s0] M := by
  subst hD
  exact g_go hk_135 ⟨rfl, rfl⟩ (g_C_ok (g_F_ok (D := D1))) sp_135 14 h
set_option maxRecDepth 20000 in
theorem rg_135_70 {D : Nat} {Q : g_P} {M : g_M} {x1 : Int} {x2 : Int} {x3 : Int} {x4 : Int} {x5 : Int} {D1 : Nat} (hD : D = D1 + 2) (h : g_Ev D 96 [.inr (0, 286), .inl x1, .inl x2, .inl (0 : Int), .inl x3, .inl x5] M (fun q M' => g_R (D + 1) 135 Q 80 [.inr (0, 286), .inl x1, .inl x2, .inl x3, .inl x4, .inl x5] (q ++ []) M')) : g_R (D + 1) 135 Q 70 [.inr (0, 286), .inl x1, .inl x2, .inl x3, .inl x4, .inl x5] [] M := by
  subst hD
  exact g_go hk_135 ⟨rfl, rfl⟩ (g_C_ok (g_F_ok (D := D1))) sp_135 8 h
set_option maxRecDepth 20000 in
theorem rg_135_80 {D : Nat} {Q : g_P} {M : g_M} {x1 : Int} {x2 : Int} {x3 : Int} {x4 : Int} {x5 : Int} {D1 : Nat} (hD : D = D1 + 2) (h : (hm_in (x2 + (1 : Int))) ∧ (g_Ev D 96 [.inr (0, 286), .inl x1, .inl (x2 + (1 : Int)), .inl (1 : Int), .inl x5, .inl x4] M (fun q M' => g_R (D + 1) 135 Q 93 [.inr (0, 286), .inl x1, .inl x2, .inl x3, .inl x4, .inl x5] (q ++ []) M'))) : g_R (D + 1) 135 Q 80 [.inr (0, 286), .inl x1, .inl x2, .inl x3, .inl x4, .inl x5] [] M := by
  subst hD
  exact g_go hk_135 ⟨rfl, rfl⟩ (g_C_ok (g_F_ok (D := D1))) sp_135 10 h
set_option maxRecDepth 20000 in
theorem rg_135_93 {D : Nat} {Q : g_P} {M : g_M} {x1 : Int} {x2 : Int} {x3 : Int} {x4 : Int} {x5 : Int} {D1 : Nat} (hD : D = D1 + 2) (h : g_Ev D 138 [.inr (0, 286), .inl x1, .inl (1 : Int), .inl x3, .inl x4] M (fun q M' => g_R (D + 1) 135 Q 102 [.inr (0, 286), .inl x1, .inl x2, .inl x3, .inl x4, .inl x5] (q ++ []) M')) : g_R (D + 1) 135 Q 93 [.inr (0, 286), .inl x1, .inl x2, .inl x3, .inl x4, .inl x5] [] M := by
  subst hD
  exact g_go hk_135 ⟨rfl, rfl⟩ (g_C_ok (g_F_ok (D := D1))) sp_135 7 h
set_option maxRecDepth 20000 in
theorem rg_135_102 {D : Nat} {Q : g_P} {M : g_M} {x1 : Int} {x2 : Int} {x3 : Int} {x4 : Int} {x5 : Int} {s0 : Int} {D1 : Nat} (hD : D = D1 + 2) (h : ((0 : Int) ≤ s0 ∧ s0 ≤ 1) ∧ (Q [.inl s0] M)) : g_R (D + 1) 135 Q 102 [.inr (0, 286), .inl x1, .inl x2, .inl x3, .inl x4, .inl x5] [.inl s0] M := by
  subst hD
  exact g_go hk_135 ⟨rfl, rfl⟩ (g_C_ok (g_F_ok (D := D1))) sp_135 2 h
theorem hn_136 : 2 ≤ (hm_me 136).2.2.1 := by decide +kernel
/-- HeapLawModel.leastSpare(I)I -/
def sp_136 (pc : Nat) : Option Nat := match pc with
  | 2 => some 3
  | 14 => some 3
  | _ => none
set_option maxRecDepth 20000 in
theorem rg_136_0 {D : Nat} {Q : g_P} {M : g_M} {x1 : Int} {D1 : Nat} (hD : D = D1 + 2) (h : g_R (D + 1) 136 Q 2 [.inr (0, 286), .inl x1, .inl (5 : Int)] [] M) : g_R (D + 1) 136 Q 0 [.inr (0, 286), .inl x1] [] M := by
  subst hD
  exact g_go hk_136 ⟨rfl, rfl⟩ (g_C_ok (g_F_ok (D := D1))) sp_136 3 h
set_option maxRecDepth 20000 in
theorem rg_136_2 {D : Nat} {Q : g_P} {M : g_M} {x1 : Int} {x2 : Int} {D1 : Nat} (hD : D = D1 + 2) (h : ((8 : Int) ≤ x2 → (Q [.inl (-1 : Int)] M)) ∧ (x2 < (8 : Int) → (g_Ev D 112 [.inr (0, 286), .inl x1, .inl x2] M (fun q M' => g_R (D + 1) 136 Q 14 [.inr (0, 286), .inl x1, .inl x2] (q ++ []) M')))) : g_R (D + 1) 136 Q 2 [.inr (0, 286), .inl x1, .inl x2] [] M := by
  subst hD
  exact g_go hk_136 ⟨rfl, rfl⟩ (g_C_ok (g_F_ok (D := D1))) sp_136 8 h
set_option maxRecDepth 20000 in
theorem rg_136_14 {D : Nat} {Q : g_P} {M : g_M} {x1 : Int} {x2 : Int} {s0 : Int} {D1 : Nat} (hD : D = D1 + 2) (h : (¬ s0 = (0 : Int) → ((hm_in (x2 + (1 : Int))) ∧ (g_R (D + 1) 136 Q 2 [.inr (0, 286), .inl x1, .inl (x2 + (1 : Int))] [] M))) ∧ (s0 = (0 : Int) → (Q [.inl x2] M))) : g_R (D + 1) 136 Q 14 [.inr (0, 286), .inl x1, .inl x2] [.inl s0] M := by
  subst hD
  exact g_go hk_136 ⟨rfl, rfl⟩ (g_C_ok (g_F_ok (D := D1))) sp_136 4 h
theorem hn_137 : 3 ≤ (hm_me 137).2.2.1 := by decide +kernel
/-- HeapLawModel.dropPart(II)V -/
def sp_137 (pc : Nat) : Option Nat := match pc with
  | 2 => some 4
  | 23 => some 4
  | _ => none
set_option maxRecDepth 20000 in
theorem rg_137_0 {D : Nat} {Q : g_P} {M : g_M} {x1 : Int} {x2 : Int} {D1 : Nat} (hD : D = D1 + 2) (h : g_R (D + 1) 137 Q 2 [.inr (0, 286), .inl x1, .inl x2, .inl x2] [] M) : g_R (D + 1) 137 Q 0 [.inr (0, 286), .inl x1, .inl x2] [] M := by
  subst hD
  exact g_go hk_137 ⟨rfl, rfl⟩ (g_C_ok (g_F_ok (D := D1))) sp_137 3 h
set_option maxRecDepth 20000 in
theorem rg_137_2 {D : Nat} {Q : g_P} {M : g_M} {x1 : Int} {x2 : Int} {x3 : Int} {D1 : Nat} (hD : D = D1 + 2) (h : ((0 : Int) ≤ x1 ∧ x1 < ((200 : Nat) : Int)) ∧ ((hm_in ((M.1 0 291 x1.toNat) - (1 : Int))) ∧ (((M.1 0 291 x1.toNat) - (1 : Int) ≤ x3 → (((0 : Int) ≤ x1 ∧ x1 < ((200 : Nat) : Int)) ∧ ((hm_in ((M.1 0 291 x1.toNat) - (1 : Int))) ∧ (((0 : Int) ≤ x1 ∧ x1 < ((200 : Nat) : Int)) ∧ (Q [] (g_uA M (0, 291) x1.toNat ((M.1 0 291 x1.toNat) - (1 : Int)))))))) ∧ (x3 < (M.1 0 291 x1.toNat) - (1 : Int) → ((hm_in (x3 + (1 : Int))) ∧ (g_Ev D 97 [.inr (0, 286), .inl x1, .inl (x3 + (1 : Int)), .inl x3] M (fun q M' => g_R (D + 1) 137 Q 23 [.inr (0, 286), .inl x1, .inl x2, .inl x3] (q ++ []) M'))))))) : g_R (D + 1) 137 Q 2 [.inr (0, 286), .inl x1, .inl x2, .inl x3] [] M := by
  subst hD
  exact g_go hk_137 ⟨rfl, rfl⟩ (g_C_ok (g_F_ok (D := D1))) sp_137 18 h
set_option maxRecDepth 20000 in
theorem rg_137_23 {D : Nat} {Q : g_P} {M : g_M} {x1 : Int} {x2 : Int} {x3 : Int} {D1 : Nat} (hD : D = D1 + 2) (h : (hm_in (x3 + (1 : Int))) ∧ (g_R (D + 1) 137 Q 2 [.inr (0, 286), .inl x1, .inl x2, .inl (x3 + (1 : Int))] [] M)) : g_R (D + 1) 137 Q 23 [.inr (0, 286), .inl x1, .inl x2, .inl x3] [] M := by
  subst hD
  exact g_go hk_137 ⟨rfl, rfl⟩ (g_C_ok (g_F_ok (D := D1))) sp_137 3 h
theorem hn_138 : 5 ≤ (hm_me 138).2.2.1 := by decide +kernel
/-- HeapLawModel.put(IIII)Z -/
def sp_138 (pc : Nat) : Option Nat := match pc with
  | 9 => some 5
  | 36 => some 5
  | _ => none
set_option maxRecDepth 20000 in
theorem rg_138_0 {D : Nat} {Q : g_P} {M : g_M} {x1 : Int} {x2 : Int} {x3 : Int} {x4 : Int} {D1 : Nat} (hD : D = D1 + 2) (h : g_Ev D 139 [.inr (0, 286), .inl x1, .inl x2, .inl x3, .inl x4] M (fun q M' => g_R (D + 1) 138 Q 9 [.inr (0, 286), .inl x1, .inl x2, .inl x3, .inl x4] (q ++ []) M')) : g_R (D + 1) 138 Q 0 [.inr (0, 286), .inl x1, .inl x2, .inl x3, .inl x4] [] M := by
  subst hD
  exact g_go hk_138 ⟨rfl, rfl⟩ (g_C_ok (g_F_ok (D := D1))) sp_138 7 h
set_option maxRecDepth 20000 in
theorem rg_138_9 {D : Nat} {Q : g_P} {M : g_M} {x1 : Int} {x2 : Int} {x3 : Int} {x4 : Int} {s0 : Int} {D1 : Nat} (hD : D = D1 + 2) (h : (s0 = (0 : Int) → (((0 : Int) ≤ x1 ∧ x1 < ((200 : Nat) : Int)) ∧ ((¬ M.1 0 287 x1.toNat = (16 : Int) → (g_Ev D 94 [.inr (0, 286), .inl x1, .inl x2, .inl x3, .inl x4] M (fun q M' => g_R (D + 1) 138 Q 36 [.inr (0, 286), .inl x1, .inl x2, .inl x3, .inl x4] (q ++ []) M'))) ∧ (M.1 0 287 x1.toNat = (16 : Int) → (((0 : Int) ≤ (0 : Int) ∧ (0 : Int) ≤ 1) ∧ (Q [.inl (0 : Int)] M)))))) ∧ (¬ s0 = (0 : Int) → (((0 : Int) ≤ (1 : Int) ∧ (1 : Int) ≤ 1) ∧ (Q [.inl (1 : Int)] M)))) : g_R (D + 1) 138 Q 9 [.inr (0, 286), .inl x1, .inl x2, .inl x3, .inl x4] [.inl s0] M := by
  subst hD
  exact g_go hk_138 ⟨rfl, rfl⟩ (g_C_ok (g_F_ok (D := D1))) sp_138 14 h
set_option maxRecDepth 20000 in
theorem rg_138_36 {D : Nat} {Q : g_P} {M : g_M} {x1 : Int} {x2 : Int} {x3 : Int} {x4 : Int} {D1 : Nat} (hD : D = D1 + 2) (h : ((0 : Int) ≤ (1 : Int) ∧ (1 : Int) ≤ 1) ∧ (Q [.inl (1 : Int)] M)) : g_R (D + 1) 138 Q 36 [.inr (0, 286), .inl x1, .inl x2, .inl x3, .inl x4] [] M := by
  subst hD
  exact g_go hk_138 ⟨rfl, rfl⟩ (g_C_ok (g_F_ok (D := D1))) sp_138 3 h
theorem hn_139 : 5 ≤ (hm_me 139).2.2.1 := by decide +kernel
/-- HeapLawModel.stands(IIII)Z -/
def sp_139 (pc : Nat) : Option Nat := match pc with
  | 3 => some 6
  | _ => none
set_option maxRecDepth 20000 in
theorem rg_139_0 {D : Nat} {Q : g_P} {M : g_M} {x1 : Int} {x2 : Int} {x3 : Int} {x4 : Int} {D1 : Nat} (hD : D = D1 + 2) (h : g_R (D + 1) 139 Q 3 [.inr (0, 286), .inl x1, .inl x2, .inl x3, .inl x4, .inl (0 : Int)] [] M) : g_R (D + 1) 139 Q 0 [.inr (0, 286), .inl x1, .inl x2, .inl x3, .inl x4] [] M := by
  subst hD
  exact g_go hk_139 ⟨rfl, rfl⟩ (g_C_ok (g_F_ok (D := D1))) sp_139 3 h
set_option maxRecDepth 20000 in
theorem rg_139_3 {D : Nat} {Q : g_P} {M : g_M} {x1 : Int} {x2 : Int} {x3 : Int} {x4 : Int} {x5 : Int} {D1 : Nat} (hD : D = D1 + 2) (h : ((0 : Int) ≤ x1 ∧ x1 < ((200 : Nat) : Int)) ∧ ((M.1 0 287 x1.toNat ≤ x5 → (((0 : Int) ≤ (0 : Int) ∧ (0 : Int) ≤ 1) ∧ (Q [.inl (0 : Int)] M))) ∧ (x5 < M.1 0 287 x1.toNat → ((hm_in ((16 : Int) * x1)) ∧ ((hm_in (((16 : Int) * x1) + x5)) ∧ (((0 : Int) ≤ ((16 : Int) * x1) + x5 ∧ ((16 : Int) * x1) + x5 < ((3200 : Nat) : Int)) ∧ ((¬ M.1 0 288 (((16 : Int) * x1) + x5).toNat = x2 → ((hm_in (x5 + (1 : Int))) ∧ (g_R (D + 1) 139 Q 3 [.inr (0, 286), .inl x1, .inl x2, .inl x3, .inl x4, .inl (x5 + (1 : Int))] [] M))) ∧ (M.1 0 288 (((16 : Int) * x1) + x5).toNat = x2 → ((hm_in ((16 : Int) * x1)) ∧ ((hm_in (((16 : Int) * x1) + x5)) ∧ (((0 : Int) ≤ ((16 : Int) * x1) + x5 ∧ ((16 : Int) * x1) + x5 < ((3200 : Nat) : Int)) ∧ ((¬ M.1 0 289 (((16 : Int) * x1) + x5).toNat = x3 → ((hm_in (x5 + (1 : Int))) ∧ (g_R (D + 1) 139 Q 3 [.inr (0, 286), .inl x1, .inl x2, .inl x3, .inl x4, .inl (x5 + (1 : Int))] [] M))) ∧ (M.1 0 289 (((16 : Int) * x1) + x5).toNat = x3 → ((hm_in ((16 : Int) * x1)) ∧ ((hm_in (((16 : Int) * x1) + x5)) ∧ (((0 : Int) ≤ ((16 : Int) * x1) + x5 ∧ ((16 : Int) * x1) + x5 < ((3200 : Nat) : Int)) ∧ ((¬ M.1 0 290 (((16 : Int) * x1) + x5).toNat = x4 → ((hm_in (x5 + (1 : Int))) ∧ (g_R (D + 1) 139 Q 3 [.inr (0, 286), .inl x1, .inl x2, .inl x3, .inl x4, .inl (x5 + (1 : Int))] [] M))) ∧ (M.1 0 290 (((16 : Int) * x1) + x5).toNat = x4 → (((0 : Int) ≤ (1 : Int) ∧ (1 : Int) ≤ 1) ∧ (Q [.inl (1 : Int)] M)))))))))))))))))))) : g_R (D + 1) 139 Q 3 [.inr (0, 286), .inl x1, .inl x2, .inl x3, .inl x4, .inl x5] [] M := by
  subst hD
  exact g_go hk_139 ⟨rfl, rfl⟩ (g_C_ok (g_F_ok (D := D1))) sp_139 39 h
theorem hn_140 : 3 ≤ (hm_me 140).2.2.1 := by decide +kernel
/-- HeapLawModel.know(II)V -/
def sp_140 (pc : Nat) : Option Nat := match pc with
  | 2 => some 4
  | 32 => some 4
  | 41 => some 5
  | _ => none
set_option maxRecDepth 20000 in
theorem rg_140_0 {D : Nat} {Q : g_P} {M : g_M} {x1 : Int} {x2 : Int} {D1 : Nat} (hD : D = D1 + 2) (h : g_R (D + 1) 140 Q 2 [.inr (0, 286), .inl x1, .inl x2, .inl (0 : Int)] [] M) : g_R (D + 1) 140 Q 0 [.inr (0, 286), .inl x1, .inl x2] [] M := by
  subst hD
  exact g_go hk_140 ⟨rfl, rfl⟩ (g_C_ok (g_F_ok (D := D1))) sp_140 3 h
set_option maxRecDepth 20000 in
theorem rg_140_2 {D : Nat} {Q : g_P} {M : g_M} {x1 : Int} {x2 : Int} {x3 : Int} {D1 : Nat} (hD : D = D1 + 2) (h : ((8 : Int) ≤ x3 → (g_R (D + 1) 140 Q 32 [.inr (0, 286), .inl x1, .inl x2, .inl (1 : Int)] [] M)) ∧ (x3 < (8 : Int) → ((¬ x3 = x2 → (((0 : Int) ≤ x3 ∧ x3 < ((8 : Nat) : Int) ∧ (0 : Int) ≤ (0 : Int) ∧ (0 : Int) ≤ 1) ∧ ((hm_in (x3 + (1 : Int))) ∧ (g_R (D + 1) 140 Q 2 [.inr (0, 286), .inl x1, .inl x2, .inl (x3 + (1 : Int))] [] (g_uA M (0, 306) x3.toNat (0 : Int)))))) ∧ (x3 = x2 → (((0 : Int) ≤ x3 ∧ x3 < ((8 : Nat) : Int) ∧ (0 : Int) ≤ (1 : Int) ∧ (1 : Int) ≤ 1) ∧ ((hm_in (x3 + (1 : Int))) ∧ (g_R (D + 1) 140 Q 2 [.inr (0, 286), .inl x1, .inl x2, .inl (x3 + (1 : Int))] [] (g_uA M (0, 306) x3.toNat (1 : Int))))))))) : g_R (D + 1) 140 Q 2 [.inr (0, 286), .inl x1, .inl x2, .inl x3] [] M := by
  subst hD
  exact g_go hk_140 ⟨rfl, rfl⟩ (g_C_ok (g_F_ok (D := D1))) sp_140 15 h
set_option maxRecDepth 20000 in
theorem rg_140_32 {D : Nat} {Q : g_P} {M : g_M} {x1 : Int} {x2 : Int} {x3 : Int} {D1 : Nat} (hD : D = D1 + 2) (h : (x3 = (0 : Int) → (Q [] M)) ∧ (¬ x3 = (0 : Int) → (g_R (D + 1) 140 Q 41 [.inr (0, 286), .inl x1, .inl x2, .inl (0 : Int), .inl (0 : Int)] [] M))) : g_R (D + 1) 140 Q 32 [.inr (0, 286), .inl x1, .inl x2, .inl x3] [] M := by
  subst hD
  exact g_go hk_140 ⟨rfl, rfl⟩ (g_C_ok (g_F_ok (D := D1))) sp_140 7 h
set_option maxRecDepth 20000 in
theorem rg_140_41 {D : Nat} {Q : g_P} {M : g_M} {x1 : Int} {x2 : Int} {x3 : Int} {x4 : Int} {D1 : Nat} (hD : D = D1 + 2) (h : ((0 : Int) ≤ x1 ∧ x1 < ((200 : Nat) : Int)) ∧ ((M.1 0 287 x1.toNat ≤ x4 → (g_R (D + 1) 140 Q 32 [.inr (0, 286), .inl x1, .inl x2, .inl x3] [] M)) ∧ (x4 < M.1 0 287 x1.toNat → ((hm_in ((16 : Int) * x1)) ∧ ((hm_in (((16 : Int) * x1) + x4)) ∧ (((0 : Int) ≤ ((16 : Int) * x1) + x4 ∧ ((16 : Int) * x1) + x4 < ((3200 : Nat) : Int)) ∧ ((hm_in ((16 : Int) * x1)) ∧ ((hm_in (((16 : Int) * x1) + x4)) ∧ (((0 : Int) ≤ ((16 : Int) * x1) + x4 ∧ ((16 : Int) * x1) + x4 < ((3200 : Nat) : Int)) ∧ ((hm_in ((16 : Int) * x1)) ∧ ((hm_in (((16 : Int) * x1) + x4)) ∧ (((0 : Int) ≤ ((16 : Int) * x1) + x4 ∧ ((16 : Int) * x1) + x4 < ((3200 : Nat) : Int)) ∧ ((¬ M.1 0 288 (((16 : Int) * x1) + x4).toNat = (0 : Int) → ((hm_in (x4 + (1 : Int))) ∧ (g_R (D + 1) 140 Q 41 [.inr (0, 286), .inl x1, .inl x2, .inl x3, .inl (x4 + (1 : Int))] [] M))) ∧ (M.1 0 288 (((16 : Int) * x1) + x4).toNat = (0 : Int) → (((0 : Int) ≤ M.1 0 289 (((16 : Int) * x1) + x4).toNat ∧ M.1 0 289 (((16 : Int) * x1) + x4).toNat < ((8 : Nat) : Int)) ∧ (((0 : Int) ≤ M.1 0 290 (((16 : Int) * x1) + x4).toNat ∧ M.1 0 290 (((16 : Int) * x1) + x4).toNat < ((8 : Nat) : Int)) ∧ ((¬ M.1 0 306 (M.1 0 289 (((16 : Int) * x1) + x4).toNat).toNat = M.1 0 306 (M.1 0 290 (((16 : Int) * x1) + x4).toNat).toNat → (((0 : Int) ≤ M.1 0 289 (((16 : Int) * x1) + x4).toNat ∧ M.1 0 289 (((16 : Int) * x1) + x4).toNat < ((8 : Nat) : Int) ∧ (0 : Int) ≤ (1 : Int) ∧ (1 : Int) ≤ 1) ∧ (((0 : Int) ≤ M.1 0 290 (((16 : Int) * x1) + x4).toNat ∧ M.1 0 290 (((16 : Int) * x1) + x4).toNat < ((8 : Nat) : Int) ∧ (0 : Int) ≤ (1 : Int) ∧ (1 : Int) ≤ 1) ∧ ((hm_in (x4 + (1 : Int))) ∧ (g_R (D + 1) 140 Q 41 [.inr (0, 286), .inl x1, .inl x2, .inl (1 : Int), .inl (x4 + (1 : Int))] [] (g_uA (g_uA M (0, 306) (M.1 0 289 (((16 : Int) * x1) + x4).toNat).toNat (1 : Int)) (0, 306) (M.1 0 290 (((16 : Int) * x1) + x4).toNat).toNat (1 : Int))))))) ∧ (M.1 0 306 (M.1 0 289 (((16 : Int) * x1) + x4).toNat).toNat = M.1 0 306 (M.1 0 290 (((16 : Int) * x1) + x4).toNat).toNat → ((hm_in (x4 + (1 : Int))) ∧ (g_R (D + 1) 140 Q 41 [.inr (0, 286), .inl x1, .inl x2, .inl x3, .inl (x4 + (1 : Int))] [] M)))))))))))))))))))) : g_R (D + 1) 140 Q 41 [.inr (0, 286), .inl x1, .inl x2, .inl x3, .inl x4] [] M := by
  subst hD
  exact g_go hk_140 ⟨rfl, rfl⟩ (g_C_ok (g_F_ok (D := D1))) sp_140 57 h
theorem hn_141 : 3 ≤ (hm_me 141).2.2.1 := by decide +kernel
/-- HeapLawModel.partFrom(II)I -/
def sp_141 (pc : Nat) : Option Nat := match pc with
  | 2 => some 4
  | _ => none
set_option maxRecDepth 20000 in
theorem rg_141_0 {D : Nat} {Q : g_P} {M : g_M} {x1 : Int} {x2 : Int} {D1 : Nat} (hD : D = D1 + 2) (h : g_R (D + 1) 141 Q 2 [.inr (0, 286), .inl x1, .inl x2, .inl (0 : Int)] [] M) : g_R (D + 1) 141 Q 0 [.inr (0, 286), .inl x1, .inl x2] [] M := by
  subst hD
  exact g_go hk_141 ⟨rfl, rfl⟩ (g_C_ok (g_F_ok (D := D1))) sp_141 3 h
set_option maxRecDepth 20000 in
theorem rg_141_2 {D : Nat} {Q : g_P} {M : g_M} {x1 : Int} {x2 : Int} {x3 : Int} {D1 : Nat} (hD : D = D1 + 2) (h : ((0 : Int) ≤ x1 ∧ x1 < ((200 : Nat) : Int)) ∧ ((M.1 0 291 x1.toNat ≤ x3 → (Q [.inl (-1 : Int)] M)) ∧ (x3 < M.1 0 291 x1.toNat → ((hm_in ((10 : Int) * x1)) ∧ ((hm_in (((10 : Int) * x1) + x3)) ∧ (((0 : Int) ≤ ((10 : Int) * x1) + x3 ∧ ((10 : Int) * x1) + x3 < ((2000 : Nat) : Int)) ∧ ((¬ M.1 0 292 (((10 : Int) * x1) + x3).toNat = x2 → ((hm_in (x3 + (1 : Int))) ∧ (g_R (D + 1) 141 Q 2 [.inr (0, 286), .inl x1, .inl x2, .inl (x3 + (1 : Int))] [] M))) ∧ (M.1 0 292 (((10 : Int) * x1) + x3).toNat = x2 → ((hm_in ((10 : Int) * x1)) ∧ ((hm_in (((10 : Int) * x1) + x3)) ∧ (((0 : Int) ≤ ((10 : Int) * x1) + x3 ∧ ((10 : Int) * x1) + x3 < ((2000 : Nat) : Int)) ∧ (((0 : Int) ≤ M.1 0 293 (((10 : Int) * x1) + x3).toNat ∧ M.1 0 293 (((10 : Int) * x1) + x3).toNat < ((8 : Nat) : Int)) ∧ ((M.1 0 306 (M.1 0 293 (((10 : Int) * x1) + x3).toNat).toNat = (0 : Int) → ((hm_in (x3 + (1 : Int))) ∧ (g_R (D + 1) 141 Q 2 [.inr (0, 286), .inl x1, .inl x2, .inl (x3 + (1 : Int))] [] M))) ∧ (¬ M.1 0 306 (M.1 0 293 (((10 : Int) * x1) + x3).toNat).toNat = (0 : Int) → (Q [.inl x3] M))))))))))))))) : g_R (D + 1) 141 Q 2 [.inr (0, 286), .inl x1, .inl x2, .inl x3] [] M := by
  subst hD
  exact g_go hk_141 ⟨rfl, rfl⟩ (g_C_ok (g_F_ok (D := D1))) sp_141 31 h
theorem hn_142 : 3 ≤ (hm_me 142).2.2.1 := by decide +kernel
/-- HeapLawModel.open(II)Z -/
def sp_142 (pc : Nat) : Option Nat := match pc with
  | 10 => some 4
  | 66 => some 6
  | 76 => some 6
  | _ => none
set_option maxRecDepth 20000 in
theorem rg_142_0 {D : Nat} {Q : g_P} {M : g_M} {x1 : Int} {x2 : Int} {D1 : Nat} (hD : D = D1 + 2) (h : (hm_in (x1 + (1 : Int))) ∧ (g_Ev D 99 [.inr (0, 286), .inl x1, .inl (x1 + (1 : Int))] M (fun q M' => g_R (D + 1) 142 Q 10 [.inr (0, 286), .inl x1, .inl x2, .inl (x1 + (1 : Int))] (q ++ []) M'))) : g_R (D + 1) 142 Q 0 [.inr (0, 286), .inl x1, .inl x2] [] M := by
  subst hD
  exact g_go hk_142 ⟨rfl, rfl⟩ (g_C_ok (g_F_ok (D := D1))) sp_142 9 h
set_option maxRecDepth 20000 in
theorem rg_142_10 {D : Nat} {Q : g_P} {M : g_M} {x1 : Int} {x2 : Int} {x3 : Int} {D1 : Nat} (hD : D = D1 + 2) (h : ((0 : Int) ≤ x1 ∧ x1 < ((200 : Nat) : Int)) ∧ (((0 : Int) ≤ x3 ∧ x3 < ((200 : Nat) : Int)) ∧ ((hm_in ((M.1 0 286 25) + (2 : Int))) ∧ ((hm_in ((10 : Int) * x1)) ∧ ((hm_in (((10 : Int) * x1) + x2)) ∧ (((0 : Int) ≤ ((10 : Int) * x1) + x2 ∧ ((10 : Int) * x1) + x2 < ((2000 : Nat) : Int)) ∧ ((hm_in ((10 : Int) * x1)) ∧ ((hm_in (((10 : Int) * x1) + x2)) ∧ (((0 : Int) ≤ ((10 : Int) * x1) + x2 ∧ ((10 : Int) * x1) + x2 < ((2000 : Nat) : Int)) ∧ (g_Ev D 137 [.inr (0, 286), .inl x3, .inl x2] (g_uA (g_uA (g_uA M (0, 307) x1.toNat x2) (0, 307) x3.toNat (-1 : Int)) (0, 286) 25 ((M.1 0 286 25) + (2 : Int))) (fun q M' => g_R (D + 1) 142 Q 66 [.inr (0, 286), .inl x1, .inl x2, .inl x3, .inl (M.1 0 293 (((10 : Int) * x1) + x2).toNat), .inl (M.1 0 294 (((10 : Int) * x1) + x2).toNat)] (q ++ []) M'))))))))))) : g_R (D + 1) 142 Q 10 [.inr (0, 286), .inl x1, .inl x2, .inl x3] [] M := by
  subst hD
  exact g_go hk_142 ⟨rfl, rfl⟩ (g_C_ok (g_F_ok (D := D1))) sp_142 39 h
set_option maxRecDepth 20000 in
theorem rg_142_66 {D : Nat} {Q : g_P} {M : g_M} {x1 : Int} {x2 : Int} {x3 : Int} {x4 : Int} {x5 : Int} {D1 : Nat} (hD : D = D1 + 2) (h : g_Ev D 138 [.inr (0, 286), .inl x3, .inl (0 : Int), .inl x4, .inl x5] M (fun q M' => g_R (D + 1) 142 Q 76 [.inr (0, 286), .inl x1, .inl x2, .inl x3, .inl x4, .inl x5] (q ++ []) M')) : g_R (D + 1) 142 Q 66 [.inr (0, 286), .inl x1, .inl x2, .inl x3, .inl x4, .inl x5] [] M := by
  subst hD
  exact g_go hk_142 ⟨rfl, rfl⟩ (g_C_ok (g_F_ok (D := D1))) sp_142 7 h
set_option maxRecDepth 20000 in
theorem rg_142_76 {D : Nat} {Q : g_P} {M : g_M} {x1 : Int} {x2 : Int} {x3 : Int} {x4 : Int} {x5 : Int} {s0 : Int} {D1 : Nat} (hD : D = D1 + 2) (h : ((0 : Int) ≤ s0 ∧ s0 ≤ 1) ∧ (Q [.inl s0] M)) : g_R (D + 1) 142 Q 76 [.inr (0, 286), .inl x1, .inl x2, .inl x3, .inl x4, .inl x5] [.inl s0] M := by
  subst hD
  exact g_go hk_142 ⟨rfl, rfl⟩ (g_C_ok (g_F_ok (D := D1))) sp_142 2 h
theorem hn_143 : 6 ≤ (hm_me 143).2.2.1 := by decide +kernel
/-- HeapLawModel.act(IIIII)Z -/
def sp_143 (pc : Nat) : Option Nat := match pc with
  | 43 => some 6
  | 73 => some 6
  | 85 => some 6
  | _ => none
set_option maxRecDepth 20000 in
theorem rg_143_0 {D : Nat} {Q : g_P} {M : g_M} {x1 : Int} {x2 : Int} {x3 : Int} {x4 : Int} {x5 : Int} {D1 : Nat} (hD : D = D1 + 2) (h : ((x2 < 3 ∨ 7 < x2) → (g_Ev D 144 [.inr (0, 286), .inl x1, .inl x2, .inl x3, .inl x4, .inl x5] M (fun q M' => g_R (D + 1) 143 Q 85 [.inr (0, 286), .inl x1, .inl x2, .inl x3, .inl x4, .inl x5] (q ++ []) M'))) ∧ ((x2 = 3 → (g_Ev D 137 [.inr (0, 286), .inl x1, .inl x5] M (fun q M' => g_R (D + 1) 143 Q 43 [.inr (0, 286), .inl x1, .inl x2, .inl x3, .inl x4, .inl x5] (q ++ []) M'))) ∧ ((x2 = 4 → (g_Ev D 144 [.inr (0, 286), .inl x1, .inl x2, .inl x3, .inl x4, .inl x5] M (fun q M' => g_R (D + 1) 143 Q 85 [.inr (0, 286), .inl x1, .inl x2, .inl x3, .inl x4, .inl x5] (q ++ []) M'))) ∧ ((x2 = 5 → ((hm_in ((10 : Int) * x1)) ∧ ((hm_in (((10 : Int) * x1) + x5)) ∧ (((0 : Int) ≤ ((10 : Int) * x1) + x5 ∧ ((10 : Int) * x1) + x5 < ((2000 : Nat) : Int)) ∧ (((0 : Int) ≤ (1 : Int) ∧ (1 : Int) ≤ 1) ∧ (Q [.inl (1 : Int)] (g_uA M (0, 294) (((10 : Int) * x1) + x5).toNat x4))))))) ∧ ((x2 = 6 → ((hm_in (x2 - (6 : Int))) ∧ (g_Ev D 138 [.inr (0, 286), .inl x1, .inl (x2 - (6 : Int)), .inl x3, .inl x4] M (fun q M' => g_R (D + 1) 143 Q 73 [.inr (0, 286), .inl x1, .inl x2, .inl x3, .inl x4, .inl x5] (q ++ []) M')))) ∧ ((x2 = 7 → ((hm_in (x2 - (6 : Int))) ∧ (g_Ev D 138 [.inr (0, 286), .inl x1, .inl (x2 - (6 : Int)), .inl x3, .inl x4] M (fun q M' => g_R (D + 1) 143 Q 73 [.inr (0, 286), .inl x1, .inl x2, .inl x3, .inl x4, .inl x5] (q ++ []) M')))) ∧ (True))))))) : g_R (D + 1) 143 Q 0 [.inr (0, 286), .inl x1, .inl x2, .inl x3, .inl x4, .inl x5] [] M := by
  subst hD
  exact g_go hk_143 ⟨rfl, rfl⟩ (g_C_ok (g_F_ok (D := D1))) sp_143 14 h
set_option maxRecDepth 20000 in
theorem rg_143_43 {D : Nat} {Q : g_P} {M : g_M} {x1 : Int} {x2 : Int} {x3 : Int} {x4 : Int} {x5 : Int} {D1 : Nat} (hD : D = D1 + 2) (h : ((0 : Int) ≤ (1 : Int) ∧ (1 : Int) ≤ 1) ∧ (Q [.inl (1 : Int)] M)) : g_R (D + 1) 143 Q 43 [.inr (0, 286), .inl x1, .inl x2, .inl x3, .inl x4, .inl x5] [] M := by
  subst hD
  exact g_go hk_143 ⟨rfl, rfl⟩ (g_C_ok (g_F_ok (D := D1))) sp_143 3 h
set_option maxRecDepth 20000 in
theorem rg_143_73 {D : Nat} {Q : g_P} {M : g_M} {x1 : Int} {x2 : Int} {x3 : Int} {x4 : Int} {x5 : Int} {s0 : Int} {D1 : Nat} (hD : D = D1 + 2) (h : ((0 : Int) ≤ s0 ∧ s0 ≤ 1) ∧ (Q [.inl s0] M)) : g_R (D + 1) 143 Q 73 [.inr (0, 286), .inl x1, .inl x2, .inl x3, .inl x4, .inl x5] [.inl s0] M := by
  subst hD
  exact g_go hk_143 ⟨rfl, rfl⟩ (g_C_ok (g_F_ok (D := D1))) sp_143 2 h
set_option maxRecDepth 20000 in
theorem rg_143_85 {D : Nat} {Q : g_P} {M : g_M} {x1 : Int} {x2 : Int} {x3 : Int} {x4 : Int} {x5 : Int} {s0 : Int} {D1 : Nat} (hD : D = D1 + 2) (h : ((0 : Int) ≤ s0 ∧ s0 ≤ 1) ∧ (Q [.inl s0] M)) : g_R (D + 1) 143 Q 85 [.inr (0, 286), .inl x1, .inl x2, .inl x3, .inl x4, .inl x5] [.inl s0] M := by
  subst hD
  exact g_go hk_143 ⟨rfl, rfl⟩ (g_C_ok (g_F_ok (D := D1))) sp_143 2 h
theorem hn_144 : 6 ≤ (hm_me 144).2.2.1 := by decide +kernel
/-- HeapLawModel.becomes(IIIII)Z -/
def sp_144 (pc : Nat) : Option Nat := match pc with
  | 50 => some 7
  | 58 => some 7
  | 75 => some 8
  | 104 => some 7
  | 110 => some 7
  | 145 => some 8
  | _ => none
set_option maxRecDepth 20000 in
theorem rg_144_0 {D : Nat} {Q : g_P} {M : g_M} {x1 : Int} {x2 : Int} {x3 : Int} {x4 : Int} {x5 : Int} {D1 : Nat} (hD : D = D1 + 2) (h : (¬ x2 = (0 : Int) → ((¬ x2 = (4 : Int) → ((¬ x2 = (0 : Int) → (g_Ev D 112 [.inr (0, 286), .inl x1, .inl x3] M (fun q M' => g_R (D + 1) 144 Q 50 [.inr (0, 286), .inl x1, .inl x2, .inl x3, .inl x4, .inl x5, .inl (0 : Int)] (q ++ []) M'))) ∧ (x2 = (0 : Int) → ((¬ x3 = x4 → (g_Ev D 112 [.inr (0, 286), .inl x1, .inl x3] M (fun q M' => g_R (D + 1) 144 Q 50 [.inr (0, 286), .inl x1, .inl x2, .inl x3, .inl x4, .inl x5, .inl (0 : Int)] (q ++ []) M'))) ∧ (x3 = x4 → (((0 : Int) ≤ (1 : Int) ∧ (1 : Int) ≤ 1) ∧ (Q [.inl (1 : Int)] M))))))) ∧ (x2 = (4 : Int) → ((hm_in ((10 : Int) * x1)) ∧ ((hm_in (((10 : Int) * x1) + x5)) ∧ (((0 : Int) ≤ ((10 : Int) * x1) + x5 ∧ ((10 : Int) * x1) + x5 < ((2000 : Nat) : Int)) ∧ ((¬ x2 = (0 : Int) → (g_Ev D 112 [.inr (0, 286), .inl x1, .inl x3] M (fun q M' => g_R (D + 1) 144 Q 50 [.inr (0, 286), .inl x1, .inl x2, .inl x3, .inl x4, .inl x5, .inl (M.1 0 294 (((10 : Int) * x1) + x5).toNat)] (q ++ []) M'))) ∧ (x2 = (0 : Int) → ((¬ x3 = x4 → (g_Ev D 112 [.inr (0, 286), .inl x1, .inl x3] M (fun q M' => g_R (D + 1) 144 Q 50 [.inr (0, 286), .inl x1, .inl x2, .inl x3, .inl x4, .inl x5, .inl (M.1 0 294 (((10 : Int) * x1) + x5).toNat)] (q ++ []) M'))) ∧ (x3 = x4 → (((0 : Int) ≤ (1 : Int) ∧ (1 : Int) ≤ 1) ∧ (Q [.inl (1 : Int)] M)))))))))))) ∧ (x2 = (0 : Int) → ((¬ x2 = (0 : Int) → (g_Ev D 112 [.inr (0, 286), .inl x1, .inl x3] M (fun q M' => g_R (D + 1) 144 Q 50 [.inr (0, 286), .inl x1, .inl x2, .inl x3, .inl x4, .inl x5, .inl x4] (q ++ []) M'))) ∧ (x2 = (0 : Int) → ((¬ x3 = x4 → (g_Ev D 112 [.inr (0, 286), .inl x1, .inl x3] M (fun q M' => g_R (D + 1) 144 Q 50 [.inr (0, 286), .inl x1, .inl x2, .inl x3, .inl x4, .inl x5, .inl x4] (q ++ []) M'))) ∧ (x3 = x4 → (((0 : Int) ≤ (1 : Int) ∧ (1 : Int) ≤ 1) ∧ (Q [.inl (1 : Int)] M)))))))) : g_R (D + 1) 144 Q 0 [.inr (0, 286), .inl x1, .inl x2, .inl x3, .inl x4, .inl x5] [] M := by
  subst hD
  exact g_go hk_144 ⟨rfl, rfl⟩ (g_C_ok (g_F_ok (D := D1))) sp_144 25 h
set_option maxRecDepth 20000 in
theorem rg_144_50 {D : Nat} {Q : g_P} {M : g_M} {x1 : Int} {x2 : Int} {x3 : Int} {x4 : Int} {x5 : Int} {x6 : Int} {s0 : Int} {D1 : Nat} (hD : D = D1 + 2) (h : (s0 = (0 : Int) → ((x2 = (2 : Int) → (g_Ev D 136 [.inr (0, 286), .inl x1] M (fun q M' => g_R (D + 1) 144 Q 110 [.inr (0, 286), .inl x1, .inl x2, .inl x3, .inl x4, .inl x5, .inl x6] (q ++ []) M'))) ∧ (¬ x2 = (2 : Int) → (g_Ev D 138 [.inr (0, 286), .inl x1, .inl (0 : Int), .inl x3, .inl x6] M (fun q M' => g_R (D + 1) 144 Q 104 [.inr (0, 286), .inl x1, .inl x2, .inl x3, .inl x4, .inl x5, .inl x6] (q ++ []) M'))))) ∧ (¬ s0 = (0 : Int) → (g_Ev D 136 [.inr (0, 286), .inl x1] M (fun q M' => g_R (D + 1) 144 Q 58 [.inr (0, 286), .inl x1, .inl x2, .inl x3, .inl x4, .inl x5, .inl x6] (q ++ []) M')))) : g_R (D + 1) 144 Q 50 [.inr (0, 286), .inl x1, .inl x2, .inl x3, .inl x4, .inl x5, .inl x6] [.inl s0] M := by
  subst hD
  exact g_go hk_144 ⟨rfl, rfl⟩ (g_C_ok (g_F_ok (D := D1))) sp_144 11 h
set_option maxRecDepth 20000 in
theorem rg_144_58 {D : Nat} {Q : g_P} {M : g_M} {x1 : Int} {x2 : Int} {x3 : Int} {x4 : Int} {x5 : Int} {x6 : Int} {s0 : Int} {D1 : Nat} (hD : D = D1 + 2) (h : ((0 : Int) ≤ s0 → (g_Ev D 145 [.inr (0, 286), .inl x1, .inl x3, .inl s0] M (fun q M' => g_R (D + 1) 144 Q 75 [.inr (0, 286), .inl x1, .inl x2, .inl x3, .inl x4, .inl x5, .inl x6, .inl s0] (q ++ []) M'))) ∧ (s0 < (0 : Int) → (((0 : Int) ≤ (0 : Int) ∧ (0 : Int) ≤ 1) ∧ (Q [.inl (0 : Int)] M)))) : g_R (D + 1) 144 Q 58 [.inr (0, 286), .inl x1, .inl x2, .inl x3, .inl x4, .inl x5, .inl x6] [.inl s0] M := by
  subst hD
  exact g_go hk_144 ⟨rfl, rfl⟩ (g_C_ok (g_F_ok (D := D1))) sp_144 9 h
set_option maxRecDepth 20000 in
theorem rg_144_75 {D : Nat} {Q : g_P} {M : g_M} {x1 : Int} {x2 : Int} {x3 : Int} {x4 : Int} {x5 : Int} {x6 : Int} {x7 : Int} {D1 : Nat} (hD : D = D1 + 2) (h : (¬ x6 = x3 → ((x2 = (2 : Int) → (g_Ev D 136 [.inr (0, 286), .inl x1] M (fun q M' => g_R (D + 1) 144 Q 110 [.inr (0, 286), .inl x1, .inl x2, .inl x3, .inl x4, .inl x5, .inl x6] (q ++ []) M'))) ∧ (¬ x2 = (2 : Int) → (g_Ev D 138 [.inr (0, 286), .inl x1, .inl (0 : Int), .inl x3, .inl x6] M (fun q M' => g_R (D + 1) 144 Q 104 [.inr (0, 286), .inl x1, .inl x2, .inl x3, .inl x4, .inl x5, .inl x6] (q ++ []) M'))))) ∧ (x6 = x3 → ((x2 = (2 : Int) → (g_Ev D 136 [.inr (0, 286), .inl x1] M (fun q M' => g_R (D + 1) 144 Q 110 [.inr (0, 286), .inl x1, .inl x2, .inl x3, .inl x4, .inl x5, .inl x7] (q ++ []) M'))) ∧ (¬ x2 = (2 : Int) → (g_Ev D 138 [.inr (0, 286), .inl x1, .inl (0 : Int), .inl x3, .inl x7] M (fun q M' => g_R (D + 1) 144 Q 104 [.inr (0, 286), .inl x1, .inl x2, .inl x3, .inl x4, .inl x5, .inl x7] (q ++ []) M')))))) : g_R (D + 1) 144 Q 75 [.inr (0, 286), .inl x1, .inl x2, .inl x3, .inl x4, .inl x5, .inl x6, .inl x7] [] M := by
  subst hD
  exact g_go hk_144 ⟨rfl, rfl⟩ (g_C_ok (g_F_ok (D := D1))) sp_144 16 h
set_option maxRecDepth 20000 in
theorem rg_144_104 {D : Nat} {Q : g_P} {M : g_M} {x1 : Int} {x2 : Int} {x3 : Int} {x4 : Int} {x5 : Int} {x6 : Int} {s0 : Int} {D1 : Nat} (hD : D = D1 + 2) (h : ((0 : Int) ≤ s0 ∧ s0 ≤ 1) ∧ (Q [.inl s0] M)) : g_R (D + 1) 144 Q 104 [.inr (0, 286), .inl x1, .inl x2, .inl x3, .inl x4, .inl x5, .inl x6] [.inl s0] M := by
  subst hD
  exact g_go hk_144 ⟨rfl, rfl⟩ (g_C_ok (g_F_ok (D := D1))) sp_144 2 h
set_option maxRecDepth 20000 in
theorem rg_144_110 {D : Nat} {Q : g_P} {M : g_M} {x1 : Int} {x2 : Int} {x3 : Int} {x4 : Int} {x5 : Int} {x6 : Int} {s0 : Int} {D1 : Nat} (hD : D = D1 + 2) (h : (s0 < (0 : Int) → (((0 : Int) ≤ (0 : Int) ∧ (0 : Int) ≤ 1) ∧ (Q [.inl (0 : Int)] M))) ∧ ((0 : Int) ≤ s0 → (((0 : Int) ≤ x1 ∧ x1 < ((200 : Nat) : Int)) ∧ ((¬ M.1 0 291 x1.toNat = (10 : Int) → (((0 : Int) ≤ x1 ∧ x1 < ((200 : Nat) : Int)) ∧ (g_Ev D 96 [.inr (0, 286), .inl x1, .inl (M.1 0 291 x1.toNat), .inl (0 : Int), .inl x3, .inl s0] M (fun q M' => g_R (D + 1) 144 Q 145 [.inr (0, 286), .inl x1, .inl x2, .inl x3, .inl x4, .inl x5, .inl x6, .inl s0] (q ++ []) M')))) ∧ (M.1 0 291 x1.toNat = (10 : Int) → (((0 : Int) ≤ (0 : Int) ∧ (0 : Int) ≤ 1) ∧ (Q [.inl (0 : Int)] M))))))) : g_R (D + 1) 144 Q 110 [.inr (0, 286), .inl x1, .inl x2, .inl x3, .inl x4, .inl x5, .inl x6] [.inl s0] M := by
  subst hD
  exact g_go hk_144 ⟨rfl, rfl⟩ (g_C_ok (g_F_ok (D := D1))) sp_144 20 h
set_option maxRecDepth 20000 in
theorem rg_144_145 {D : Nat} {Q : g_P} {M : g_M} {x1 : Int} {x2 : Int} {x3 : Int} {x4 : Int} {x5 : Int} {x6 : Int} {x7 : Int} {D1 : Nat} (hD : D = D1 + 2) (h : ((0 : Int) ≤ (1 : Int) ∧ (1 : Int) ≤ 1) ∧ (Q [.inl (1 : Int)] M)) : g_R (D + 1) 144 Q 145 [.inr (0, 286), .inl x1, .inl x2, .inl x3, .inl x4, .inl x5, .inl x6, .inl x7] [] M := by
  subst hD
  exact g_go hk_144 ⟨rfl, rfl⟩ (g_C_ok (g_F_ok (D := D1))) sp_144 3 h
theorem hn_145 : 4 ≤ (hm_me 145).2.2.1 := by decide +kernel
/-- HeapLawModel.rename(III)V -/
def sp_145 (pc : Nat) : Option Nat := match pc with
  | 3 => some 5
  | 81 => some 5
  | _ => none
set_option maxRecDepth 20000 in
theorem rg_145_0 {D : Nat} {Q : g_P} {M : g_M} {x1 : Int} {x2 : Int} {x3 : Int} {D1 : Nat} (hD : D = D1 + 2) (h : g_R (D + 1) 145 Q 3 [.inr (0, 286), .inl x1, .inl x2, .inl x3, .inl (0 : Int)] [] M) : g_R (D + 1) 145 Q 0 [.inr (0, 286), .inl x1, .inl x2, .inl x3] [] M := by
  subst hD
  exact g_go hk_145 ⟨rfl, rfl⟩ (g_C_ok (g_F_ok (D := D1))) sp_145 3 h
set_option maxRecDepth 20000 in
theorem rg_145_3 {D : Nat} {Q : g_P} {M : g_M} {x1 : Int} {x2 : Int} {x3 : Int} {x4 : Int} {D1 : Nat} (hD : D = D1 + 2) (h : ((0 : Int) ≤ x1 ∧ x1 < ((200 : Nat) : Int)) ∧ ((M.1 0 287 x1.toNat ≤ x4 → (g_R (D + 1) 145 Q 81 [.inr (0, 286), .inl x1, .inl x2, .inl x3, .inl (0 : Int)] [] M)) ∧ (x4 < M.1 0 287 x1.toNat → ((hm_in ((16 : Int) * x1)) ∧ ((hm_in (((16 : Int) * x1) + x4)) ∧ (((0 : Int) ≤ ((16 : Int) * x1) + x4 ∧ ((16 : Int) * x1) + x4 < ((3200 : Nat) : Int)) ∧ ((¬ M.1 0 289 (((16 : Int) * x1) + x4).toNat = x2 → ((hm_in ((16 : Int) * x1)) ∧ ((hm_in (((16 : Int) * x1) + x4)) ∧ (((0 : Int) ≤ ((16 : Int) * x1) + x4 ∧ ((16 : Int) * x1) + x4 < ((3200 : Nat) : Int)) ∧ ((¬ M.1 0 290 (((16 : Int) * x1) + x4).toNat = x2 → ((hm_in (x4 + (1 : Int))) ∧ (g_R (D + 1) 145 Q 3 [.inr (0, 286), .inl x1, .inl x2, .inl x3, .inl (x4 + (1 : Int))] [] M))) ∧ (M.1 0 290 (((16 : Int) * x1) + x4).toNat = x2 → ((hm_in ((16 : Int) * x1)) ∧ ((hm_in (((16 : Int) * x1) + x4)) ∧ (((0 : Int) ≤ ((16 : Int) * x1) + x4 ∧ ((16 : Int) * x1) + x4 < ((3200 : Nat) : Int)) ∧ ((hm_in (x4 + (1 : Int))) ∧ (g_R (D + 1) 145 Q 3 [.inr (0, 286), .inl x1, .inl x2, .inl x3, .inl (x4 + (1 : Int))] [] (g_uA M (0, 290) (((16 : Int) * x1) + x4).toNat x3)))))))))))) ∧ (M.1 0 289 (((16 : Int) * x1) + x4).toNat = x2 → ((hm_in ((16 : Int) * x1)) ∧ ((hm_in (((16 : Int) * x1) + x4)) ∧ (((0 : Int) ≤ ((16 : Int) * x1) + x4 ∧ ((16 : Int) * x1) + x4 < ((3200 : Nat) : Int)) ∧ ((hm_in ((16 : Int) * x1)) ∧ ((hm_in (((16 : Int) * x1) + x4)) ∧ (((0 : Int) ≤ ((16 : Int) * x1) + x4 ∧ ((16 : Int) * x1) + x4 < ((3200 : Nat) : Int)) ∧ ((¬ M.1 0 290 (((16 : Int) * x1) + x4).toNat = x2 → ((hm_in (x4 + (1 : Int))) ∧ (g_R (D + 1) 145 Q 3 [.inr (0, 286), .inl x1, .inl x2, .inl x3, .inl (x4 + (1 : Int))] [] (g_uA M (0, 289) (((16 : Int) * x1) + x4).toNat x3)))) ∧ (M.1 0 290 (((16 : Int) * x1) + x4).toNat = x2 → ((hm_in ((16 : Int) * x1)) ∧ ((hm_in (((16 : Int) * x1) + x4)) ∧ (((0 : Int) ≤ ((16 : Int) * x1) + x4 ∧ ((16 : Int) * x1) + x4 < ((3200 : Nat) : Int)) ∧ ((hm_in (x4 + (1 : Int))) ∧ (g_R (D + 1) 145 Q 3 [.inr (0, 286), .inl x1, .inl x2, .inl x3, .inl (x4 + (1 : Int))] [] (g_uA (g_uA M (0, 289) (((16 : Int) * x1) + x4).toNat x3) (0, 290) (((16 : Int) * x1) + x4).toNat x3)))))))))))))))))))))) : g_R (D + 1) 145 Q 3 [.inr (0, 286), .inl x1, .inl x2, .inl x3, .inl x4] [] M := by
  subst hD
  exact g_go hk_145 ⟨rfl, rfl⟩ (g_C_ok (g_F_ok (D := D1))) sp_145 47 h
set_option maxRecDepth 20000 in
theorem rg_145_81 {D : Nat} {Q : g_P} {M : g_M} {x1 : Int} {x2 : Int} {x3 : Int} {x4 : Int} {D1 : Nat} (hD : D = D1 + 2) (h : ((0 : Int) ≤ x1 ∧ x1 < ((200 : Nat) : Int)) ∧ ((M.1 0 291 x1.toNat ≤ x4 → (Q [] M)) ∧ (x4 < M.1 0 291 x1.toNat → ((hm_in ((10 : Int) * x1)) ∧ ((hm_in (((10 : Int) * x1) + x4)) ∧ (((0 : Int) ≤ ((10 : Int) * x1) + x4 ∧ ((10 : Int) * x1) + x4 < ((2000 : Nat) : Int)) ∧ ((¬ M.1 0 293 (((10 : Int) * x1) + x4).toNat = x2 → ((hm_in ((10 : Int) * x1)) ∧ ((hm_in (((10 : Int) * x1) + x4)) ∧ (((0 : Int) ≤ ((10 : Int) * x1) + x4 ∧ ((10 : Int) * x1) + x4 < ((2000 : Nat) : Int)) ∧ ((¬ M.1 0 294 (((10 : Int) * x1) + x4).toNat = x2 → ((hm_in (x4 + (1 : Int))) ∧ (g_R (D + 1) 145 Q 81 [.inr (0, 286), .inl x1, .inl x2, .inl x3, .inl (x4 + (1 : Int))] [] M))) ∧ (M.1 0 294 (((10 : Int) * x1) + x4).toNat = x2 → ((hm_in ((10 : Int) * x1)) ∧ ((hm_in (((10 : Int) * x1) + x4)) ∧ (((0 : Int) ≤ ((10 : Int) * x1) + x4 ∧ ((10 : Int) * x1) + x4 < ((2000 : Nat) : Int)) ∧ ((hm_in (x4 + (1 : Int))) ∧ (g_R (D + 1) 145 Q 81 [.inr (0, 286), .inl x1, .inl x2, .inl x3, .inl (x4 + (1 : Int))] [] (g_uA M (0, 294) (((10 : Int) * x1) + x4).toNat x3)))))))))))) ∧ (M.1 0 293 (((10 : Int) * x1) + x4).toNat = x2 → ((hm_in ((10 : Int) * x1)) ∧ ((hm_in (((10 : Int) * x1) + x4)) ∧ (((0 : Int) ≤ ((10 : Int) * x1) + x4 ∧ ((10 : Int) * x1) + x4 < ((2000 : Nat) : Int)) ∧ ((hm_in ((10 : Int) * x1)) ∧ ((hm_in (((10 : Int) * x1) + x4)) ∧ (((0 : Int) ≤ ((10 : Int) * x1) + x4 ∧ ((10 : Int) * x1) + x4 < ((2000 : Nat) : Int)) ∧ ((¬ M.1 0 294 (((10 : Int) * x1) + x4).toNat = x2 → ((hm_in (x4 + (1 : Int))) ∧ (g_R (D + 1) 145 Q 81 [.inr (0, 286), .inl x1, .inl x2, .inl x3, .inl (x4 + (1 : Int))] [] (g_uA M (0, 293) (((10 : Int) * x1) + x4).toNat x3)))) ∧ (M.1 0 294 (((10 : Int) * x1) + x4).toNat = x2 → ((hm_in ((10 : Int) * x1)) ∧ ((hm_in (((10 : Int) * x1) + x4)) ∧ (((0 : Int) ≤ ((10 : Int) * x1) + x4 ∧ ((10 : Int) * x1) + x4 < ((2000 : Nat) : Int)) ∧ ((hm_in (x4 + (1 : Int))) ∧ (g_R (D + 1) 145 Q 81 [.inr (0, 286), .inl x1, .inl x2, .inl x3, .inl (x4 + (1 : Int))] [] (g_uA (g_uA M (0, 293) (((10 : Int) * x1) + x4).toNat x3) (0, 294) (((10 : Int) * x1) + x4).toNat x3)))))))))))))))))))))) : g_R (D + 1) 145 Q 81 [.inr (0, 286), .inl x1, .inl x2, .inl x3, .inl x4] [] M := by
  subst hD
  exact g_go hk_145 ⟨rfl, rfl⟩ (g_C_ok (g_F_ok (D := D1))) sp_145 47 h
theorem hn_146 : 3 ≤ (hm_me 146).2.2.1 := by decide +kernel
/-- HeapLawModel.differ(II)I -/
def sp_146 (pc : Nat) : Option Nat := match pc with
  | 23 => some 3
  | 31 => some 3
  | 58 => some 4
  | 91 => some 4
  | 117 => some 4
  | 176 => some 4
  | 181 => some 4
  | 189 => some 4
  | 202 => some 4
  | 228 => some 4
  | _ => none
set_option maxRecDepth 20000 in
theorem rg_146_0 {D : Nat} {Q : g_P} {M : g_M} {x1 : Int} {x2 : Int} {D1 : Nat} (hD : D = D1 + 2) (h : ((0 ≤ x1 ∧ x1 < M.1 0 286 1) → (((1 : Int) = (0 : Int) → (Q [.inl (-1 : Int)] M)) ∧ (¬ (1 : Int) = (0 : Int) → (((0 ≤ x2 ∧ x2 < M.1 0 286 1) → ((¬ (1 : Int) = (0 : Int) → (g_Ev D 125 [.inr (0, 286), .inl x1] M (fun q M' => g_R (D + 1) 146 Q 23 [.inr (0, 286), .inl x1, .inl x2] (q ++ []) M'))) ∧ ((1 : Int) = (0 : Int) → (Q [.inl (-1 : Int)] M)))) ∧ (¬ (0 ≤ x2 ∧ x2 < M.1 0 286 1) → ((¬ (0 : Int) = (0 : Int) → (g_Ev D 125 [.inr (0, 286), .inl x1] M (fun q M' => g_R (D + 1) 146 Q 23 [.inr (0, 286), .inl x1, .inl x2] (q ++ []) M'))) ∧ ((0 : Int) = (0 : Int) → (Q [.inl (-1 : Int)] M)))))))) ∧ (¬ (0 ≤ x1 ∧ x1 < M.1 0 286 1) → (((0 : Int) = (0 : Int) → (Q [.inl (-1 : Int)] M)) ∧ (¬ (0 : Int) = (0 : Int) → (((0 ≤ x2 ∧ x2 < M.1 0 286 1) → ((¬ (1 : Int) = (0 : Int) → (g_Ev D 125 [.inr (0, 286), .inl x1] M (fun q M' => g_R (D + 1) 146 Q 23 [.inr (0, 286), .inl x1, .inl x2] (q ++ []) M'))) ∧ ((1 : Int) = (0 : Int) → (Q [.inl (-1 : Int)] M)))) ∧ (¬ (0 ≤ x2 ∧ x2 < M.1 0 286 1) → ((¬ (0 : Int) = (0 : Int) → (g_Ev D 125 [.inr (0, 286), .inl x1] M (fun q M' => g_R (D + 1) 146 Q 23 [.inr (0, 286), .inl x1, .inl x2] (q ++ []) M'))) ∧ ((0 : Int) = (0 : Int) → (Q [.inl (-1 : Int)] M))))))))) : g_R (D + 1) 146 Q 0 [.inr (0, 286), .inl x1, .inl x2] [] M := by
  subst hD
  exact g_go hk_146 ⟨rfl, rfl⟩ (g_C_ok (g_F_ok (D := D1))) sp_146 12 h
set_option maxRecDepth 20000 in
theorem rg_146_23 {D : Nat} {Q : g_P} {M : g_M} {x1 : Int} {x2 : Int} {s0 : Int} {D1 : Nat} (hD : D = D1 + 2) (h : (¬ s0 = (0 : Int) → (Q [.inl (-3 : Int)] M)) ∧ (s0 = (0 : Int) → (g_Ev D 125 [.inr (0, 286), .inl x2] M (fun q M' => g_R (D + 1) 146 Q 31 [.inr (0, 286), .inl x1, .inl x2] (q ++ []) M')))) : g_R (D + 1) 146 Q 23 [.inr (0, 286), .inl x1, .inl x2] [.inl s0] M := by
  subst hD
  exact g_go hk_146 ⟨rfl, rfl⟩ (g_C_ok (g_F_ok (D := D1))) sp_146 5 h
set_option maxRecDepth 20000 in
theorem rg_146_31 {D : Nat} {Q : g_P} {M : g_M} {x1 : Int} {x2 : Int} {s0 : Int} {D1 : Nat} (hD : D = D1 + 2) (h : (¬ s0 = (0 : Int) → (Q [.inl (-3 : Int)] M)) ∧ (s0 = (0 : Int) → ((¬ M.1 0 286 29 = (40 : Int) → ((hm_in ((M.1 0 286 29) + (1 : Int))) ∧ (g_R (D + 1) 146 Q 58 [.inr (0, 286), .inl x1, .inl x2, .inl (0 : Int)] [] (g_uA M (0, 286) 29 ((M.1 0 286 29) + (1 : Int)))))) ∧ (M.1 0 286 29 = (40 : Int) → (Q [.inl (-3 : Int)] M))))) : g_R (D + 1) 146 Q 31 [.inr (0, 286), .inl x1, .inl x2] [.inl s0] M := by
  subst hD
  exact g_go hk_146 ⟨rfl, rfl⟩ (g_C_ok (g_F_ok (D := D1))) sp_146 14 h
set_option maxRecDepth 20000 in
theorem rg_146_58 {D : Nat} {Q : g_P} {M : g_M} {x1 : Int} {x2 : Int} {x3 : Int} {D1 : Nat} (hD : D = D1 + 2) (h : ((10 : Int) ≤ x3 → (g_R (D + 1) 146 Q 91 [.inr (0, 286), .inl x1, .inl x2, .inl (0 : Int)] [] M)) ∧ (x3 < (10 : Int) → (((0 : Int) ≤ x3 ∧ x3 < ((10 : Nat) : Int)) ∧ (((0 : Int) ≤ x3 ∧ x3 < ((10 : Nat) : Int)) ∧ (((0 : Int) ≤ x3 ∧ x3 < ((10 : Nat) : Int)) ∧ ((hm_in (x3 + (1 : Int))) ∧ (g_R (D + 1) 146 Q 58 [.inr (0, 286), .inl x1, .inl x2, .inl (x3 + (1 : Int))] [] (g_uA (g_uA M (0, 308) x3.toNat (M.1 0 296 x3.toNat)) (0, 296) x3.toNat (-1 : Int))))))))) : g_R (D + 1) 146 Q 58 [.inr (0, 286), .inl x1, .inl x2, .inl x3] [] M := by
  subst hD
  exact g_go hk_146 ⟨rfl, rfl⟩ (g_C_ok (g_F_ok (D := D1))) sp_146 19 h
set_option maxRecDepth 20000 in
theorem rg_146_91 {D : Nat} {Q : g_P} {M : g_M} {x1 : Int} {x2 : Int} {x3 : Int} {D1 : Nat} (hD : D = D1 + 2) (h : ((8 : Int) ≤ x3 → (g_R (D + 1) 146 Q 117 [.inr (0, 286), .inl x1, .inl x2, .inl (0 : Int)] [] M)) ∧ (x3 < (8 : Int) → (((0 : Int) ≤ x3 ∧ x3 < ((8 : Nat) : Int)) ∧ (((0 : Int) ≤ x3 ∧ x3 < ((8 : Nat) : Int)) ∧ ((hm_in (x3 + (1 : Int))) ∧ (g_R (D + 1) 146 Q 91 [.inr (0, 286), .inl x1, .inl x2, .inl (x3 + (1 : Int))] [] (g_uA M (0, 309) x3.toNat (M.1 0 295 x3.toNat)))))))) : g_R (D + 1) 146 Q 91 [.inr (0, 286), .inl x1, .inl x2, .inl x3] [] M := by
  subst hD
  exact g_go hk_146 ⟨rfl, rfl⟩ (g_C_ok (g_F_ok (D := D1))) sp_146 14 h
set_option maxRecDepth 20000 in
theorem rg_146_117 {D : Nat} {Q : g_P} {M : g_M} {x1 : Int} {x2 : Int} {x3 : Int} {D1 : Nat} (hD : D = D1 + 2) (h : ((32000 : Int) ≤ x3 → (g_R (D + 1) 146 Q 202 [.inr (0, 286), .inl x1, .inl x2, .inl (0 : Int)] [] M)) ∧ (x3 < (32000 : Int) → (((0 : Int) ≤ x3 ∧ (0 : Int) < (6400 : Int)) ∧ ((hm_in ((x3 / (6400 : Int)) - (1 : Int))) ∧ (((0 : Int) ≤ (1 : Int) ∧ (1 : Int) < ((10 : Nat) : Int)) ∧ (((0 : Int) ≤ x3 ∧ (0 : Int) < (1280 : Int)) ∧ (((0 : Int) ≤ x3 / (1280 : Int) ∧ (0 : Int) < (5 : Int)) ∧ ((hm_in (((x3 / (1280 : Int)) % (5 : Int)) - (1 : Int))) ∧ (((0 : Int) ≤ (2 : Int) ∧ (2 : Int) < ((10 : Nat) : Int)) ∧ (((0 : Int) ≤ x3 ∧ (0 : Int) < (256 : Int)) ∧ (((0 : Int) ≤ x3 / (256 : Int) ∧ (0 : Int) < (5 : Int)) ∧ ((hm_in (((x3 / (256 : Int)) % (5 : Int)) - (1 : Int))) ∧ (((0 : Int) ≤ (3 : Int) ∧ (3 : Int) < ((10 : Nat) : Int)) ∧ (((0 : Int) ≤ x3 ∧ (0 : Int) < (256 : Int)) ∧ (g_Ev D 147 [.inr (0, 286), .inl (x3 % (256 : Int))] (g_uA (g_uA (g_uA M (0, 296) (1 : Int).toNat ((x3 / (6400 : Int)) - (1 : Int))) (0, 296) (2 : Int).toNat (((x3 / (1280 : Int)) % (5 : Int)) - (1 : Int))) (0, 296) (3 : Int).toNat (((x3 / (256 : Int)) % (5 : Int)) - (1 : Int))) (fun q M' => g_R (D + 1) 146 Q 176 [.inr (0, 286), .inl x1, .inl x2, .inl x3] (q ++ []) M')))))))))))))))) : g_R (D + 1) 146 Q 117 [.inr (0, 286), .inl x1, .inl x2, .inl x3] [] M := by
  subst hD
  exact g_go hk_146 ⟨rfl, rfl⟩ (g_C_ok (g_F_ok (D := D1))) sp_146 40 h
set_option maxRecDepth 20000 in
theorem rg_146_176 {D : Nat} {Q : g_P} {M : g_M} {x1 : Int} {x2 : Int} {x3 : Int} {D1 : Nat} (hD : D = D1 + 2) (h : g_Ev D 113 [.inr (0, 286), .inl x1] M (fun q M' => g_R (D + 1) 146 Q 181 [.inr (0, 286), .inl x1, .inl x2, .inl x3] (q ++ []) M')) : g_R (D + 1) 146 Q 176 [.inr (0, 286), .inl x1, .inl x2, .inl x3] [] M := by
  subst hD
  exact g_go hk_146 ⟨rfl, rfl⟩ (g_C_ok (g_F_ok (D := D1))) sp_146 4 h
set_option maxRecDepth 20000 in
theorem rg_146_181 {D : Nat} {Q : g_P} {M : g_M} {x1 : Int} {x2 : Int} {x3 : Int} {s0 : Int} {D1 : Nat} (hD : D = D1 + 2) (h : (s0 = (0 : Int) → ((hm_in (x3 + (1 : Int))) ∧ (g_R (D + 1) 146 Q 117 [.inr (0, 286), .inl x1, .inl x2, .inl (x3 + (1 : Int))] [] M))) ∧ (¬ s0 = (0 : Int) → (g_Ev D 113 [.inr (0, 286), .inl x2] M (fun q M' => g_R (D + 1) 146 Q 189 [.inr (0, 286), .inl x1, .inl x2, .inl x3] (q ++ []) M')))) : g_R (D + 1) 146 Q 181 [.inr (0, 286), .inl x1, .inl x2, .inl x3] [.inl s0] M := by
  subst hD
  exact g_go hk_146 ⟨rfl, rfl⟩ (g_C_ok (g_F_ok (D := D1))) sp_146 5 h
set_option maxRecDepth 20000 in
theorem rg_146_189 {D : Nat} {Q : g_P} {M : g_M} {x1 : Int} {x2 : Int} {x3 : Int} {s0 : Int} {D1 : Nat} (hD : D = D1 + 2) (h : (¬ s0 = (0 : Int) → ((hm_in (x3 + (1 : Int))) ∧ (g_R (D + 1) 146 Q 117 [.inr (0, 286), .inl x1, .inl x2, .inl (x3 + (1 : Int))] [] M))) ∧ (s0 = (0 : Int) → (Q [.inl (1 : Int)] M))) : g_R (D + 1) 146 Q 189 [.inr (0, 286), .inl x1, .inl x2, .inl x3] [.inl s0] M := by
  subst hD
  exact g_go hk_146 ⟨rfl, rfl⟩ (g_C_ok (g_F_ok (D := D1))) sp_146 4 h
set_option maxRecDepth 20000 in
theorem rg_146_202 {D : Nat} {Q : g_P} {M : g_M} {x1 : Int} {x2 : Int} {x3 : Int} {D1 : Nat} (hD : D = D1 + 2) (h : ((10 : Int) ≤ x3 → (g_R (D + 1) 146 Q 228 [.inr (0, 286), .inl x1, .inl x2, .inl (0 : Int)] [] M)) ∧ (x3 < (10 : Int) → (((0 : Int) ≤ x3 ∧ x3 < ((10 : Nat) : Int)) ∧ (((0 : Int) ≤ x3 ∧ x3 < ((10 : Nat) : Int)) ∧ ((hm_in (x3 + (1 : Int))) ∧ (g_R (D + 1) 146 Q 202 [.inr (0, 286), .inl x1, .inl x2, .inl (x3 + (1 : Int))] [] (g_uA M (0, 296) x3.toNat (M.1 0 308 x3.toNat)))))))) : g_R (D + 1) 146 Q 202 [.inr (0, 286), .inl x1, .inl x2, .inl x3] [] M := by
  subst hD
  exact g_go hk_146 ⟨rfl, rfl⟩ (g_C_ok (g_F_ok (D := D1))) sp_146 14 h
set_option maxRecDepth 20000 in
theorem rg_146_228 {D : Nat} {Q : g_P} {M : g_M} {x1 : Int} {x2 : Int} {x3 : Int} {D1 : Nat} (hD : D = D1 + 2) (h : ((8 : Int) ≤ x3 → (Q [.inl (0 : Int)] M)) ∧ (x3 < (8 : Int) → (((0 : Int) ≤ x3 ∧ x3 < ((8 : Nat) : Int)) ∧ (((0 : Int) ≤ x3 ∧ x3 < ((8 : Nat) : Int)) ∧ ((hm_in (x3 + (1 : Int))) ∧ (g_R (D + 1) 146 Q 228 [.inr (0, 286), .inl x1, .inl x2, .inl (x3 + (1 : Int))] [] (g_uA M (0, 295) x3.toNat (M.1 0 309 x3.toNat)))))))) : g_R (D + 1) 146 Q 228 [.inr (0, 286), .inl x1, .inl x2, .inl x3] [] M := by
  subst hD
  exact g_go hk_146 ⟨rfl, rfl⟩ (g_C_ok (g_F_ok (D := D1))) sp_146 14 h
theorem hn_147 : 2 ≤ (hm_me 147).2.2.1 := by decide +kernel
/-- HeapLawModel.layValues(I)V -/
def sp_147 (pc : Nat) : Option Nat := match pc with
  | 2 => some 3
  | _ => none
set_option maxRecDepth 20000 in
theorem rg_147_0 {D : Nat} {Q : g_P} {M : g_M} {x1 : Int} {D1 : Nat} (hD : D = D1 + 2) (h : g_R (D + 1) 147 Q 2 [.inr (0, 286), .inl x1, .inl (1 : Int)] [] M) : g_R (D + 1) 147 Q 0 [.inr (0, 286), .inl x1] [] M := by
  subst hD
  exact g_go hk_147 ⟨rfl, rfl⟩ (g_C_ok (g_F_ok (D := D1))) sp_147 3 h
set_option maxRecDepth 20000 in
theorem rg_147_2 {D : Nat} {Q : g_P} {M : g_M} {x1 : Int} {x2 : Int} {D1 : Nat} (hD : D = D1 + 2) (h : ((5 : Int) ≤ x2 → (Q [] M)) ∧ (x2 < (5 : Int) → ((hm_in ((2 : Int) * x2)) ∧ ((hm_in ((8 : Int) - ((2 : Int) * x2))) ∧ (((0 : Int) ≤ x2 ∧ x2 < ((8 : Nat) : Int)) ∧ ((hm_in (x2 + (1 : Int))) ∧ (g_R (D + 1) 147 Q 2 [.inr (0, 286), .inl x1, .inl (x2 + (1 : Int))] [] (g_uA M (0, 295) x2.toNat (hm_and (hm_shr x1 ((8 : Int) - ((2 : Int) * x2))) (3 : Int)))))))))) : g_R (D + 1) 147 Q 2 [.inr (0, 286), .inl x1, .inl x2] [] M := by
  subst hD
  exact g_go hk_147 ⟨rfl, rfl⟩ (g_C_ok (g_F_ok (D := D1))) sp_147 19 h
theorem hn_148 : 2 ≤ (hm_me 148).2.2.1 := by decide +kernel
/-- HeapLawModel.count(I)I -/
def sp_148 (pc : Nat) : Option Nat := match pc with
  | _ => none
set_option maxRecDepth 20000 in
theorem rg_148_0 {D : Nat} {Q : g_P} {M : g_M} {x1 : Int} {D1 : Nat} (hD : D = D1 + 2) (h : (¬ x1 = (0 : Int) → ((¬ x1 = (1 : Int) → (Q [.inl (-1 : Int)] M)) ∧ (x1 = (1 : Int) → (Q [.inl (M.1 0 286 29)] M)))) ∧ (x1 = (0 : Int) → (Q [.inl (M.1 0 286 1)] M))) : g_R (D + 1) 148 Q 0 [.inr (0, 286), .inl x1] [] M := by
  subst hD
  exact g_go hk_148 ⟨rfl, rfl⟩ (g_C_ok (g_F_ok (D := D1))) sp_148 10 h

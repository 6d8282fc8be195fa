/-! REGIONS of the code, by wip/gen/gen17.py -/
theorem hn_58 : 4 ≤ (hm_me 58).2.2.1 := by decide +kernel
/-- HeapLaw$Sharing.coverCell(III)I -/
def sp_58 (pc : Nat) : Option Nat := match pc with
  | _ => none
set_option maxRecDepth 20000 in
theorem rg_58_0 {D : Nat} {Q : g_P} {M : g_M} {h0 : Nat} {x1 : Int} {x2 : Int} {x3 : Int} {D1 : Nat} (hD : D = D1 + 2) (h : ((0 ≤ (hm_and x3 (hm_xor (M.1 12 h0 3) (-1 : Int))) ∧ (hm_and x3 (hm_xor (M.1 12 h0 3) (-1 : Int))) < 1024) ∧ (0 ≤ x1 ∧ x1 < 10)) ∧ ((g_bit (hm_and x3 (hm_xor (M.1 12 h0 3) (-1 : Int))) x1 → (((1 : Int) = (0 : Int) → (((0 : Int) = (0 : Int) → (Q [.inl (-1 : Int)] M)) ∧ (¬ (0 : Int) = (0 : Int) → (Q [.inl (hm_and x3 (hm_xor (hm_shl (1 : Int) x1) (-1 : Int)))] M)))) ∧ (¬ (1 : Int) = (0 : Int) → (((0 : Int) ≤ x1 ∧ x1 < ((8 : Nat) : Int)) ∧ ((¬ M.1 14 h0 x1.toNat = x2 → (((0 : Int) = (0 : Int) → (Q [.inl (-1 : Int)] M)) ∧ (¬ (0 : Int) = (0 : Int) → (Q [.inl (hm_and x3 (hm_xor (hm_shl (1 : Int) x1) (-1 : Int)))] M)))) ∧ (M.1 14 h0 x1.toNat = x2 → (((1 : Int) = (0 : Int) → (Q [.inl (-1 : Int)] M)) ∧ (¬ (1 : Int) = (0 : Int) → (Q [.inl (hm_and x3 (hm_xor (hm_shl (1 : Int) x1) (-1 : Int)))] M))))))))) ∧ (¬ g_bit (hm_and x3 (hm_xor (M.1 12 h0 3) (-1 : Int))) x1 → (((0 : Int) = (0 : Int) → (((0 : Int) = (0 : Int) → (Q [.inl (-1 : Int)] M)) ∧ (¬ (0 : Int) = (0 : Int) → (Q [.inl (hm_and x3 (hm_xor (hm_shl (1 : Int) x1) (-1 : Int)))] M)))) ∧ (¬ (0 : Int) = (0 : Int) → (((0 : Int) ≤ x1 ∧ x1 < ((8 : Nat) : Int)) ∧ ((¬ M.1 14 h0 x1.toNat = x2 → (((0 : Int) = (0 : Int) → (Q [.inl (-1 : Int)] M)) ∧ (¬ (0 : Int) = (0 : Int) → (Q [.inl (hm_and x3 (hm_xor (hm_shl (1 : Int) x1) (-1 : Int)))] M)))) ∧ (M.1 14 h0 x1.toNat = x2 → (((1 : Int) = (0 : Int) → (Q [.inl (-1 : Int)] M)) ∧ (¬ (1 : Int) = (0 : Int) → (Q [.inl (hm_and x3 (hm_xor (hm_shl (1 : Int) x1) (-1 : Int)))] M))))))))))) : g_R (D + 1) 58 Q 0 [.inr (12, h0), .inl x1, .inl x2, .inl x3] [] M := by
  subst hD
  exact g_go hk_58 ⟨rfl, rfl⟩ (g_C_ok (g_F_ok (D := D1))) sp_58 30 h
set_option maxRecDepth 20000 in
theorem rp_58_0 {D : Nat} {Q : g_P} {M : g_M} {h0 : Nat} {x1 : Int} {x2 : Int} {x3 : Int} {D1 : Nat} (hD : D = D1 + 2) (h : ((0 ≤ (hm_and x3 (hm_xor (M.1 12 h0 3) (-1 : Int))) ∧ (hm_and x3 (hm_xor (M.1 12 h0 3) (-1 : Int))) < 1024) ∧ (0 ≤ x1 ∧ x1 < 10)) ∧ ((g_bit (hm_and x3 (hm_xor (M.1 12 h0 3) (-1 : Int))) x1 → (((0 : Int) ≤ x1 ∧ x1 < ((8 : Nat) : Int)) ∧ ((¬ M.1 14 h0 x1.toNat = x2 → (Q [.inl (-1 : Int)] M)) ∧ (M.1 14 h0 x1.toNat = x2 → (Q [.inl (hm_and x3 (hm_xor (hm_shl (1 : Int) x1) (-1 : Int)))] M))))) ∧ (¬ g_bit (hm_and x3 (hm_xor (M.1 12 h0 3) (-1 : Int))) x1 → (Q [.inl (-1 : Int)] M)))) : g_R (D + 1) 58 Q 0 [.inr (12, h0), .inl x1, .inl x2, .inl x3] [] M :=
  rg_58_0 hD (have a1 := And.left h; ⟨a1, ⟨fun b2 => ⟨(fun z => absurd z (by decide)), fun _ => (have a4 := And.left (And.left (And.right h) b2); ⟨a4, ⟨fun b5 => ⟨fun _ => (And.left (And.right (And.left (And.right h) b2)) b5), (fun z => absurd z (by decide))⟩, fun b6 => ⟨(fun z => absurd z (by decide)), fun _ => (And.right (And.right (And.left (And.right h) b2)) b6)⟩⟩⟩)⟩, fun b3 => ⟨fun _ => ⟨fun _ => (And.right (And.right h) b3), (fun z => absurd z (by decide))⟩, (fun z => absurd z (by decide))⟩⟩⟩)
theorem hn_59 : 5 ≤ (hm_me 59).2.2.1 := by decide +kernel
/-- HeapLaw$Sharing.coverRow(IIII)I -/
def sp_59 (pc : Nat) : Option Nat := match pc with
  | 29 => some 9
  | _ => none
set_option maxRecDepth 20000 in
theorem rg_59_0 {D : Nat} {Q : g_P} {M : g_M} {h0 : Nat} {x1 : Int} {x2 : Int} {x3 : Int} {x4 : Int} {D1 : Nat} (hD : D = D1 + 2) (h : (x2 = (0 : Int) → (g_R (D + 1) 59 Q 29 [.inr (12, h0), .inl x1, .inl x2, .inl x3, .inl x4, .inl (0 : Int), .inl x3, .inl x1, .inl (0 : Int)] [] M)) ∧ (¬ x2 = (0 : Int) → (((0 ≤ x4 ∧ x4 < 1024) ∧ (0 ≤ x2 ∧ x2 < 10)) ∧ ((g_bit x4 x2 → ((¬ (1 : Int) = (0 : Int) → (g_R (D + 1) 59 Q 29 [.inr (12, h0), .inl x1, .inl x2, .inl x3, .inl x4, .inl (0 : Int), .inl x3, .inl x1, .inl (0 : Int)] [] M)) ∧ ((1 : Int) = (0 : Int) → (g_R (D + 1) 59 Q 29 [.inr (12, h0), .inl x1, .inl x2, .inl x3, .inl x4, .inl (1 : Int), .inl x3, .inl x1, .inl (0 : Int)] [] M)))) ∧ (¬ g_bit x4 x2 → ((¬ (0 : Int) = (0 : Int) → (g_R (D + 1) 59 Q 29 [.inr (12, h0), .inl x1, .inl x2, .inl x3, .inl x4, .inl (0 : Int), .inl x3, .inl x1, .inl (0 : Int)] [] M)) ∧ ((0 : Int) = (0 : Int) → (g_R (D + 1) 59 Q 29 [.inr (12, h0), .inl x1, .inl x2, .inl x3, .inl x4, .inl (1 : Int), .inl x3, .inl x1, .inl (0 : Int)] [] M)))))))) : g_R (D + 1) 59 Q 0 [.inr (12, h0), .inl x1, .inl x2, .inl x3, .inl x4] [] M := by
  subst hD
  exact g_go hk_59 ⟨rfl, rfl⟩ (g_C_ok (g_F_ok (D := D1))) sp_59 16 h
set_option maxRecDepth 20000 in
theorem rp_59_0 {D : Nat} {Q : g_P} {M : g_M} {h0 : Nat} {x1 : Int} {x2 : Int} {x3 : Int} {x4 : Int} {D1 : Nat} (hD : D = D1 + 2) (h : (x2 = (0 : Int) → (g_R (D + 1) 59 Q 29 [.inr (12, h0), .inl x1, .inl x2, .inl x3, .inl x4, .inl (0 : Int), .inl x3, .inl x1, .inl (0 : Int)] [] M)) ∧ (¬ x2 = (0 : Int) → (((0 ≤ x4 ∧ x4 < 1024) ∧ (0 ≤ x2 ∧ x2 < 10)) ∧ ((g_bit x4 x2 → (g_R (D + 1) 59 Q 29 [.inr (12, h0), .inl x1, .inl x2, .inl x3, .inl x4, .inl (0 : Int), .inl x3, .inl x1, .inl (0 : Int)] [] M)) ∧ (¬ g_bit x4 x2 → (g_R (D + 1) 59 Q 29 [.inr (12, h0), .inl x1, .inl x2, .inl x3, .inl x4, .inl (1 : Int), .inl x3, .inl x1, .inl (0 : Int)] [] M)))))) : g_R (D + 1) 59 Q 0 [.inr (12, h0), .inl x1, .inl x2, .inl x3, .inl x4] [] M :=
  rg_59_0 hD ⟨fun b1 => (And.left h b1), fun b2 => (have a3 := And.left (And.right h b2); ⟨a3, ⟨fun b4 => ⟨fun _ => (And.left (And.right (And.right h b2)) b4), (fun z => absurd z (by decide))⟩, fun b5 => ⟨(fun z => absurd z (by decide)), fun _ => (And.right (And.right (And.right h b2)) b5)⟩⟩⟩)⟩
set_option maxRecDepth 20000 in
theorem rg_59_29 {D : Nat} {Q : g_P} {M : g_M} {h0 : Nat} {x1 : Int} {x2 : Int} {x3 : Int} {x4 : Int} {x5 : Int} {x6 : Int} {x7 : Int} {x8 : Int} {D1 : Nat} (hD : D = D1 + 2) (h : ((8 : Int) ≤ x8 → ((¬ x7 = x2 → (Q [.inl (-1 : Int)] M)) ∧ (x7 = x2 → (Q [.inl x6] M)))) ∧ (x8 < (8 : Int) → ((x7 = x2 → ((¬ x7 = x2 → (Q [.inl (-1 : Int)] M)) ∧ (x7 = x2 → (Q [.inl x6] M)))) ∧ (¬ x7 = x2 → (((0 ≤ x6 ∧ x6 < 1024) ∧ (0 ≤ x7 ∧ x7 < 10)) ∧ ((g_bit x6 x7 → ((¬ (1 : Int) = (0 : Int) → ((x5 = (0 : Int) → (((0 : Int) ≤ x7 ∧ x7 < ((8 : Nat) : Int)) ∧ ((hm_in (x8 + (1 : Int))) ∧ (g_R (D + 1) 59 Q 29 [.inr (12, h0), .inl x1, .inl x2, .inl x3, .inl x4, .inl x5, .inl (hm_and x6 (hm_xor (hm_shl (1 : Int) x7) (-1 : Int))), .inl (M.1 14 h0 x7.toNat), .inl (x8 + (1 : Int))] [] M)))) ∧ (¬ x5 = (0 : Int) → (((0 ≤ (M.1 12 h0 3) ∧ (M.1 12 h0 3) < 1024) ∧ (0 ≤ x7 ∧ x7 < 10)) ∧ ((g_bit (M.1 12 h0 3) x7 → (((1 : Int) = (0 : Int) → (((0 : Int) ≤ x7 ∧ x7 < ((8 : Nat) : Int)) ∧ ((hm_in (x8 + (1 : Int))) ∧ (g_R (D + 1) 59 Q 29 [.inr (12, h0), .inl x1, .inl x2, .inl x3, .inl x4, .inl x5, .inl (hm_and x6 (hm_xor (hm_shl (1 : Int) x7) (-1 : Int))), .inl (M.1 14 h0 x7.toNat), .inl (x8 + (1 : Int))] [] M)))) ∧ (¬ (1 : Int) = (0 : Int) → (((0 : Int) ≤ x7 ∧ x7 < ((8 : Nat) : Int)) ∧ ((M.1 14 h0 x7.toNat = x2 → (((0 : Int) ≤ x7 ∧ x7 < ((8 : Nat) : Int)) ∧ ((hm_in (x8 + (1 : Int))) ∧ (g_R (D + 1) 59 Q 29 [.inr (12, h0), .inl x1, .inl x2, .inl x3, .inl x4, .inl x5, .inl (hm_and x6 (hm_xor (hm_shl (1 : Int) x7) (-1 : Int))), .inl (M.1 14 h0 x7.toNat), .inl (x8 + (1 : Int))] [] M)))) ∧ (¬ M.1 14 h0 x7.toNat = x2 → (Q [.inl (-1 : Int)] M))))))) ∧ (¬ g_bit (M.1 12 h0 3) x7 → (((0 : Int) = (0 : Int) → (((0 : Int) ≤ x7 ∧ x7 < ((8 : Nat) : Int)) ∧ ((hm_in (x8 + (1 : Int))) ∧ (g_R (D + 1) 59 Q 29 [.inr (12, h0), .inl x1, .inl x2, .inl x3, .inl x4, .inl x5, .inl (hm_and x6 (hm_xor (hm_shl (1 : Int) x7) (-1 : Int))), .inl (M.1 14 h0 x7.toNat), .inl (x8 + (1 : Int))] [] M)))) ∧ (¬ (0 : Int) = (0 : Int) → (((0 : Int) ≤ x7 ∧ x7 < ((8 : Nat) : Int)) ∧ ((M.1 14 h0 x7.toNat = x2 → (((0 : Int) ≤ x7 ∧ x7 < ((8 : Nat) : Int)) ∧ ((hm_in (x8 + (1 : Int))) ∧ (g_R (D + 1) 59 Q 29 [.inr (12, h0), .inl x1, .inl x2, .inl x3, .inl x4, .inl x5, .inl (hm_and x6 (hm_xor (hm_shl (1 : Int) x7) (-1 : Int))), .inl (M.1 14 h0 x7.toNat), .inl (x8 + (1 : Int))] [] M)))) ∧ (¬ M.1 14 h0 x7.toNat = x2 → (Q [.inl (-1 : Int)] M)))))))))))) ∧ ((1 : Int) = (0 : Int) → (Q [.inl (-1 : Int)] M)))) ∧ (¬ g_bit x6 x7 → ((¬ (0 : Int) = (0 : Int) → ((x5 = (0 : Int) → (((0 : Int) ≤ x7 ∧ x7 < ((8 : Nat) : Int)) ∧ ((hm_in (x8 + (1 : Int))) ∧ (g_R (D + 1) 59 Q 29 [.inr (12, h0), .inl x1, .inl x2, .inl x3, .inl x4, .inl x5, .inl (hm_and x6 (hm_xor (hm_shl (1 : Int) x7) (-1 : Int))), .inl (M.1 14 h0 x7.toNat), .inl (x8 + (1 : Int))] [] M)))) ∧ (¬ x5 = (0 : Int) → (((0 ≤ (M.1 12 h0 3) ∧ (M.1 12 h0 3) < 1024) ∧ (0 ≤ x7 ∧ x7 < 10)) ∧ ((g_bit (M.1 12 h0 3) x7 → (((1 : Int) = (0 : Int) → (((0 : Int) ≤ x7 ∧ x7 < ((8 : Nat) : Int)) ∧ ((hm_in (x8 + (1 : Int))) ∧ (g_R (D + 1) 59 Q 29 [.inr (12, h0), .inl x1, .inl x2, .inl x3, .inl x4, .inl x5, .inl (hm_and x6 (hm_xor (hm_shl (1 : Int) x7) (-1 : Int))), .inl (M.1 14 h0 x7.toNat), .inl (x8 + (1 : Int))] [] M)))) ∧ (¬ (1 : Int) = (0 : Int) → (((0 : Int) ≤ x7 ∧ x7 < ((8 : Nat) : Int)) ∧ ((M.1 14 h0 x7.toNat = x2 → (((0 : Int) ≤ x7 ∧ x7 < ((8 : Nat) : Int)) ∧ ((hm_in (x8 + (1 : Int))) ∧ (g_R (D + 1) 59 Q 29 [.inr (12, h0), .inl x1, .inl x2, .inl x3, .inl x4, .inl x5, .inl (hm_and x6 (hm_xor (hm_shl (1 : Int) x7) (-1 : Int))), .inl (M.1 14 h0 x7.toNat), .inl (x8 + (1 : Int))] [] M)))) ∧ (¬ M.1 14 h0 x7.toNat = x2 → (Q [.inl (-1 : Int)] M))))))) ∧ (¬ g_bit (M.1 12 h0 3) x7 → (((0 : Int) = (0 : Int) → (((0 : Int) ≤ x7 ∧ x7 < ((8 : Nat) : Int)) ∧ ((hm_in (x8 + (1 : Int))) ∧ (g_R (D + 1) 59 Q 29 [.inr (12, h0), .inl x1, .inl x2, .inl x3, .inl x4, .inl x5, .inl (hm_and x6 (hm_xor (hm_shl (1 : Int) x7) (-1 : Int))), .inl (M.1 14 h0 x7.toNat), .inl (x8 + (1 : Int))] [] M)))) ∧ (¬ (0 : Int) = (0 : Int) → (((0 : Int) ≤ x7 ∧ x7 < ((8 : Nat) : Int)) ∧ ((M.1 14 h0 x7.toNat = x2 → (((0 : Int) ≤ x7 ∧ x7 < ((8 : Nat) : Int)) ∧ ((hm_in (x8 + (1 : Int))) ∧ (g_R (D + 1) 59 Q 29 [.inr (12, h0), .inl x1, .inl x2, .inl x3, .inl x4, .inl x5, .inl (hm_and x6 (hm_xor (hm_shl (1 : Int) x7) (-1 : Int))), .inl (M.1 14 h0 x7.toNat), .inl (x8 + (1 : Int))] [] M)))) ∧ (¬ M.1 14 h0 x7.toNat = x2 → (Q [.inl (-1 : Int)] M)))))))))))) ∧ ((0 : Int) = (0 : Int) → (Q [.inl (-1 : Int)] M)))))))))) : g_R (D + 1) 59 Q 29 [.inr (12, h0), .inl x1, .inl x2, .inl x3, .inl x4, .inl x5, .inl x6, .inl x7, .inl x8] [] M := by
  subst hD
  exact g_go hk_59 ⟨rfl, rfl⟩ (g_C_ok (g_F_ok (D := D1))) sp_59 39 h
set_option maxRecDepth 20000 in
theorem rp_59_29 {D : Nat} {Q : g_P} {M : g_M} {h0 : Nat} {x1 : Int} {x2 : Int} {x3 : Int} {x4 : Int} {x5 : Int} {x6 : Int} {x7 : Int} {x8 : Int} {D1 : Nat} (hD : D = D1 + 2) (h : ((8 : Int) ≤ x8 → ((¬ x7 = x2 → (Q [.inl (-1 : Int)] M)) ∧ (x7 = x2 → (Q [.inl x6] M)))) ∧ (x8 < (8 : Int) → ((x7 = x2 → (Q [.inl x6] M)) ∧ (¬ x7 = x2 → (((0 ≤ x6 ∧ x6 < 1024) ∧ (0 ≤ x7 ∧ x7 < 10)) ∧ ((g_bit x6 x7 → ((x5 = (0 : Int) → (((0 : Int) ≤ x7 ∧ x7 < ((8 : Nat) : Int)) ∧ ((hm_in (x8 + (1 : Int))) ∧ (g_R (D + 1) 59 Q 29 [.inr (12, h0), .inl x1, .inl x2, .inl x3, .inl x4, .inl x5, .inl (hm_and x6 (hm_xor (hm_shl (1 : Int) x7) (-1 : Int))), .inl (M.1 14 h0 x7.toNat), .inl (x8 + (1 : Int))] [] M)))) ∧ (¬ x5 = (0 : Int) → (((0 ≤ (M.1 12 h0 3) ∧ (M.1 12 h0 3) < 1024) ∧ (0 ≤ x7 ∧ x7 < 10)) ∧ ((g_bit (M.1 12 h0 3) x7 → (((0 : Int) ≤ x7 ∧ x7 < ((8 : Nat) : Int)) ∧ ((M.1 14 h0 x7.toNat = x2 → ((hm_in (x8 + (1 : Int))) ∧ (g_R (D + 1) 59 Q 29 [.inr (12, h0), .inl x1, .inl x2, .inl x3, .inl x4, .inl x5, .inl (hm_and x6 (hm_xor (hm_shl (1 : Int) x7) (-1 : Int))), .inl (M.1 14 h0 x7.toNat), .inl (x8 + (1 : Int))] [] M))) ∧ (¬ M.1 14 h0 x7.toNat = x2 → (Q [.inl (-1 : Int)] M))))) ∧ (¬ g_bit (M.1 12 h0 3) x7 → (((0 : Int) ≤ x7 ∧ x7 < ((8 : Nat) : Int)) ∧ ((hm_in (x8 + (1 : Int))) ∧ (g_R (D + 1) 59 Q 29 [.inr (12, h0), .inl x1, .inl x2, .inl x3, .inl x4, .inl x5, .inl (hm_and x6 (hm_xor (hm_shl (1 : Int) x7) (-1 : Int))), .inl (M.1 14 h0 x7.toNat), .inl (x8 + (1 : Int))] [] M))))))))) ∧ (¬ g_bit x6 x7 → (Q [.inl (-1 : Int)] M)))))))) : g_R (D + 1) 59 Q 29 [.inr (12, h0), .inl x1, .inl x2, .inl x3, .inl x4, .inl x5, .inl x6, .inl x7, .inl x8] [] M :=
  rg_59_29 hD ⟨fun b1 => ⟨fun b3 => (And.left (And.left h b1) b3), fun b4 => (And.right (And.left h b1) b4)⟩, fun b2 => ⟨fun b5 => ⟨fun z => absurd b5 (by omega), fun _ => (And.left (And.right h b2) b5)⟩, fun b6 => (have a7 := And.left (And.right (And.right h b2) b6); ⟨a7, ⟨fun b8 => ⟨fun _ => ⟨fun b10 => (have a12 := And.left (And.left (And.left (And.right (And.right (And.right h b2) b6)) b8) b10); ⟨a12, (have a13 := And.left (And.right (And.left (And.left (And.right (And.right (And.right h b2) b6)) b8) b10)); ⟨a13, (And.right (And.right (And.left (And.left (And.right (And.right (And.right h b2) b6)) b8) b10)))⟩)⟩), fun b11 => (have a14 := And.left (And.right (And.left (And.right (And.right (And.right h b2) b6)) b8) b11); ⟨a14, ⟨fun b15 => ⟨(fun z => absurd z (by decide)), fun _ => (have a17 := And.left (And.left (And.right (And.right (And.left (And.right (And.right (And.right h b2) b6)) b8) b11)) b15); ⟨a17, ⟨fun b18 => ⟨a17, (have a20 := And.left (And.left (And.right (And.left (And.right (And.right (And.left (And.right (And.right (And.right h b2) b6)) b8) b11)) b15)) b18); ⟨a20, (And.right (And.left (And.right (And.left (And.right (And.right (And.left (And.right (And.right (And.right h b2) b6)) b8) b11)) b15)) b18))⟩)⟩, fun b19 => (And.right (And.right (And.left (And.right (And.right (And.left (And.right (And.right (And.right h b2) b6)) b8) b11)) b15)) b19)⟩⟩)⟩, fun b16 => ⟨fun _ => (have a21 := And.left (And.right (And.right (And.right (And.left (And.right (And.right (And.right h b2) b6)) b8) b11)) b16); ⟨a21, (have a22 := And.left (And.right (And.right (And.right (And.right (And.left (And.right (And.right (And.right h b2) b6)) b8) b11)) b16)); ⟨a22, (And.right (And.right (And.right (And.right (And.right (And.left (And.right (And.right (And.right h b2) b6)) b8) b11)) b16)))⟩)⟩), (fun z => absurd z (by decide))⟩⟩⟩)⟩, (fun z => absurd z (by decide))⟩, fun b9 => ⟨(fun z => absurd z (by decide)), fun _ => (And.right (And.right (And.right (And.right h b2) b6)) b9)⟩⟩⟩)⟩⟩
theorem hn_60 : 3 ≤ (hm_me 60).2.2.1 := by decide +kernel
/-- HeapLaw$Sharing, (II)I -/
def sp_60 (pc : Nat) : Option Nat := match pc with
  | 13 => some 5
  | 76 => some 6
  | _ => none
set_option maxRecDepth 20000 in
theorem rg_60_0 {D : Nat} {Q : g_P} {M : g_M} {h0 : Nat} {x1 : Int} {x2 : Int} {D1 : Nat} (hD : D = D1 + 2) (h : ((0 : Int) ≤ x1 ∧ x1 < ((9 : Nat) : Int)) ∧ (g_R (D + 1) 60 Q 13 [.inr (12, h0), .inl x1, .inl x2, .inl x2, .inl (M.1 11 (h0 + 1) x1.toNat)] [] M)) : g_R (D + 1) 60 Q 0 [.inr (12, h0), .inl x1, .inl x2] [] M := by
  subst hD
  exact g_go hk_60 ⟨rfl, rfl⟩ (g_C_ok (g_F_ok (D := D1))) sp_60 9 h
theorem rp_60_0 {D : Nat} {Q : g_P} {M : g_M} {h0 : Nat} {x1 : Int} {x2 : Int} {D1 : Nat} (hD : D = D1 + 2) (h : ((0 : Int) ≤ x1 ∧ x1 < ((9 : Nat) : Int)) ∧ (g_R (D + 1) 60 Q 13 [.inr (12, h0), .inl x1, .inl x2, .inl x2, .inl (M.1 11 (h0 + 1) x1.toNat)] [] M)) : g_R (D + 1) 60 Q 0 [.inr (12, h0), .inl x1, .inl x2] [] M := rg_60_0 hD h
set_option maxRecDepth 20000 in
theorem rg_60_13 {D : Nat} {Q : g_P} {M : g_M} {h0 : Nat} {x1 : Int} {x2 : Int} {x3 : Int} {x4 : Int} {D1 : Nat} (hD : D = D1 + 2) (h : (hm_in (x1 + (1 : Int))) ∧ (((0 : Int) ≤ x1 + (1 : Int) ∧ x1 + (1 : Int) < ((9 : Nat) : Int)) ∧ ((M.1 11 (h0 + 1) (x1 + (1 : Int)).toNat ≤ x4 → (Q [.inl x3] M)) ∧ (x4 < M.1 11 (h0 + 1) (x1 + (1 : Int)).toNat → ((x3 = (-1 : Int) → (Q [.inl x3] M)) ∧ (¬ x3 = (-1 : Int) → (((0 : Int) ≤ x4 ∧ x4 < ((26 : Nat) : Int)) ∧ ((0 ≤ (M.1 10 (h0 + 1) x4.toNat) ∧ (M.1 10 (h0 + 1) x4.toNat) < 256) ∧ ((0 ≤ (M.1 10 (h0 + 1) x4.toNat) ∧ (M.1 10 (h0 + 1) x4.toNat) < 256) ∧ (((0 : Int) ≤ (M.1 10 (h0 + 1) x4.toNat) / 8 % 8 ∧ (M.1 10 (h0 + 1) x4.toNat) / 8 % 8 < ((8 : Nat) : Int)) ∧ ((0 ≤ (M.1 10 (h0 + 1) x4.toNat) ∧ (M.1 10 (h0 + 1) x4.toNat) < 256) ∧ (((0 : Int) ≤ (M.1 10 (h0 + 1) x4.toNat) % 8 ∧ (M.1 10 (h0 + 1) x4.toNat) % 8 < ((8 : Nat) : Int)) ∧ (g_Ev D 61 [.inr (12, h0), .inl ((M.1 10 (h0 + 1) x4.toNat) / 64), .inl (M.1 13 h0 ((M.1 10 (h0 + 1) x4.toNat) / 8 % 8).toNat), .inl (M.1 13 h0 ((M.1 10 (h0 + 1) x4.toNat) % 8).toNat), .inl x3] M (fun q M' => g_R (D + 1) 60 Q 76 [.inr (12, h0), .inl x1, .inl x2, .inl x3, .inl x4, .inl (M.1 10 (h0 + 1) x4.toNat)] (q ++ []) M')))))))))))))) : g_R (D + 1) 60 Q 13 [.inr (12, h0), .inl x1, .inl x2, .inl x3, .inl x4] [] M := by
  subst hD
  exact g_go hk_60 ⟨rfl, rfl⟩ (g_C_ok (g_F_ok (D := D1))) sp_60 34 h
set_option maxRecDepth 20000 in
theorem rp_60_13 {D : Nat} {Q : g_P} {M : g_M} {h0 : Nat} {x1 : Int} {x2 : Int} {x3 : Int} {x4 : Int} {D1 : Nat} (hD : D = D1 + 2) (h : (hm_in (x1 + (1 : Int))) ∧ (((0 : Int) ≤ x1 + (1 : Int) ∧ x1 + (1 : Int) < ((9 : Nat) : Int)) ∧ ((M.1 11 (h0 + 1) (x1 + (1 : Int)).toNat ≤ x4 → (Q [.inl x3] M)) ∧ (x4 < M.1 11 (h0 + 1) (x1 + (1 : Int)).toNat → ((x3 = (-1 : Int) → (Q [.inl x3] M)) ∧ (¬ x3 = (-1 : Int) → (((0 : Int) ≤ x4 ∧ x4 < ((26 : Nat) : Int)) ∧ ((0 ≤ (M.1 10 (h0 + 1) x4.toNat) ∧ (M.1 10 (h0 + 1) x4.toNat) < 256) ∧ (((0 : Int) ≤ (M.1 10 (h0 + 1) x4.toNat) / 8 % 8 ∧ (M.1 10 (h0 + 1) x4.toNat) / 8 % 8 < ((8 : Nat) : Int)) ∧ (((0 : Int) ≤ (M.1 10 (h0 + 1) x4.toNat) % 8 ∧ (M.1 10 (h0 + 1) x4.toNat) % 8 < ((8 : Nat) : Int)) ∧ (g_Ev D 61 [.inr (12, h0), .inl ((M.1 10 (h0 + 1) x4.toNat) / 64), .inl (M.1 13 h0 ((M.1 10 (h0 + 1) x4.toNat) / 8 % 8).toNat), .inl (M.1 13 h0 ((M.1 10 (h0 + 1) x4.toNat) % 8).toNat), .inl x3] M (fun q M' => g_R (D + 1) 60 Q 76 [.inr (12, h0), .inl x1, .inl x2, .inl x3, .inl x4, .inl (M.1 10 (h0 + 1) x4.toNat)] (q ++ []) M')))))))))))) : g_R (D + 1) 60 Q 13 [.inr (12, h0), .inl x1, .inl x2, .inl x3, .inl x4] [] M :=
  rg_60_13 hD (have a1 := And.left h; ⟨a1, (have a2 := And.left (And.right h); ⟨a2, ⟨fun b3 => (And.left (And.right (And.right h)) b3), fun b4 => ⟨fun b5 => (And.left (And.right (And.right (And.right h)) b4) b5), fun b6 => (have a7 := And.left (And.right (And.right (And.right (And.right h)) b4) b6); ⟨a7, (have a8 := And.left (And.right (And.right (And.right (And.right (And.right h)) b4) b6)); ⟨a8, ⟨a8, (have a9 := And.left (And.right (And.right (And.right (And.right (And.right (And.right h)) b4) b6))); ⟨a9, ⟨a8, (have a10 := And.left (And.right (And.right (And.right (And.right (And.right (And.right (And.right h)) b4) b6)))); ⟨a10, (And.right (And.right (And.right (And.right (And.right (And.right (And.right (And.right h)) b4) b6)))))⟩)⟩⟩)⟩⟩)⟩)⟩⟩⟩)⟩)
set_option maxRecDepth 20000 in
theorem rg_60_76 {D : Nat} {Q : g_P} {M : g_M} {h0 : Nat} {x1 : Int} {x2 : Int} {x3 : Int} {x4 : Int} {x5 : Int} {s0 : Int} {D1 : Nat} (hD : D = D1 + 2) (h : (hm_in (x4 + (1 : Int))) ∧ (g_R (D + 1) 60 Q 13 [.inr (12, h0), .inl x1, .inl x2, .inl s0, .inl (x4 + (1 : Int))] [] M)) : g_R (D + 1) 60 Q 76 [.inr (12, h0), .inl x1, .inl x2, .inl x3, .inl x4, .inl x5] [.inl s0] M := by
  subst hD
  exact g_go hk_60 ⟨rfl, rfl⟩ (g_C_ok (g_F_ok (D := D1))) sp_60 4 h
theorem rp_60_76 {D : Nat} {Q : g_P} {M : g_M} {h0 : Nat} {x1 : Int} {x2 : Int} {x3 : Int} {x4 : Int} {x5 : Int} {s0 : Int} {D1 : Nat} (hD : D = D1 + 2) (h : (hm_in (x4 + (1 : Int))) ∧ (g_R (D + 1) 60 Q 13 [.inr (12, h0), .inl x1, .inl x2, .inl s0, .inl (x4 + (1 : Int))] [] M)) : g_R (D + 1) 60 Q 76 [.inr (12, h0), .inl x1, .inl x2, .inl x3, .inl x4, .inl x5] [.inl s0] M := rg_60_76 hD h
theorem hn_61 : 5 ≤ (hm_me 61).2.2.1 := by decide +kernel
/-- HeapLaw$Sharing, One(IIII)I -/
def sp_61 (pc : Nat) : Option Nat := match pc with
  | _ => none
set_option maxRecDepth 20000 in
theorem rg_61_0 {D : Nat} {Q : g_P} {M : g_M} {h0 : Nat} {x1 : Int} {x2 : Int} {x3 : Int} {x4 : Int} {D1 : Nat} (hD : D = D1 + 2) (h : (x1 = (0 : Int) → ((¬ x1 = (0 : Int) → ((¬ x2 = x3 → ((¬ (0 : Int) = (0 : Int) → (Q [.inl (-1 : Int)] M)) ∧ ((0 : Int) = (0 : Int) → (Q [.inl x4] M)))) ∧ (x2 = x3 → ((¬ (0 : Int) = (1 : Int) → (Q [.inl (-1 : Int)] M)) ∧ ((0 : Int) = (1 : Int) → (Q [.inl x4] M)))))) ∧ (x1 = (0 : Int) → ((¬ x2 = x3 → ((¬ (1 : Int) = (0 : Int) → (Q [.inl (-1 : Int)] M)) ∧ ((1 : Int) = (0 : Int) → (Q [.inl x4] M)))) ∧ (x2 = x3 → ((¬ (1 : Int) = (1 : Int) → (Q [.inl (-1 : Int)] M)) ∧ ((1 : Int) = (1 : Int) → (Q [.inl x4] M)))))))) ∧ (¬ x1 = (0 : Int) → ((¬ x1 = (1 : Int) → ((¬ x1 = (3 : Int) → ((x2 = (0 : Int) → (Q [.inl (-1 : Int)] M)) ∧ (¬ x2 = (0 : Int) → (((0 ≤ x4 ∧ x4 < 1024) ∧ (0 ≤ x2 ∧ x2 < 10)) ∧ ((g_bit x4 x2 → (((1 : Int) = (0 : Int) → (((0 : Int) ≤ x2 ∧ x2 < ((8 : Nat) : Int)) ∧ ((¬ x1 = (3 : Int) → (Q [.inl (hm_or x4 (hm_shl (1 : Int) x2))] (g_uA (g_uA M (14, h0) x2.toNat x3) (12, h0) 3 (hm_and (M.1 12 h0 3) (hm_xor (hm_shl (1 : Int) x2) (-1 : Int)))))) ∧ (x1 = (3 : Int) → (Q [.inl (hm_or x4 (hm_shl (1 : Int) x2))] (g_uA (g_uA M (14, h0) x2.toNat x3) (12, h0) 3 (hm_or (M.1 12 h0 3) (hm_shl (1 : Int) x2)))))))) ∧ (¬ (1 : Int) = (0 : Int) → (Q [.inl (-1 : Int)] M)))) ∧ (¬ g_bit x4 x2 → (((0 : Int) = (0 : Int) → (((0 : Int) ≤ x2 ∧ x2 < ((8 : Nat) : Int)) ∧ ((¬ x1 = (3 : Int) → (Q [.inl (hm_or x4 (hm_shl (1 : Int) x2))] (g_uA (g_uA M (14, h0) x2.toNat x3) (12, h0) 3 (hm_and (M.1 12 h0 3) (hm_xor (hm_shl (1 : Int) x2) (-1 : Int)))))) ∧ (x1 = (3 : Int) → (Q [.inl (hm_or x4 (hm_shl (1 : Int) x2))] (g_uA (g_uA M (14, h0) x2.toNat x3) (12, h0) 3 (hm_or (M.1 12 h0 3) (hm_shl (1 : Int) x2)))))))) ∧ (¬ (0 : Int) = (0 : Int) → (Q [.inl (-1 : Int)] M))))))))) ∧ (x1 = (3 : Int) → ((¬ x2 = x3 → ((x2 = (0 : Int) → (Q [.inl (-1 : Int)] M)) ∧ (¬ x2 = (0 : Int) → (((0 ≤ x4 ∧ x4 < 1024) ∧ (0 ≤ x2 ∧ x2 < 10)) ∧ ((g_bit x4 x2 → (((1 : Int) = (0 : Int) → (((0 : Int) ≤ x2 ∧ x2 < ((8 : Nat) : Int)) ∧ ((¬ x1 = (3 : Int) → (Q [.inl (hm_or x4 (hm_shl (1 : Int) x2))] (g_uA (g_uA M (14, h0) x2.toNat x3) (12, h0) 3 (hm_and (M.1 12 h0 3) (hm_xor (hm_shl (1 : Int) x2) (-1 : Int)))))) ∧ (x1 = (3 : Int) → (Q [.inl (hm_or x4 (hm_shl (1 : Int) x2))] (g_uA (g_uA M (14, h0) x2.toNat x3) (12, h0) 3 (hm_or (M.1 12 h0 3) (hm_shl (1 : Int) x2)))))))) ∧ (¬ (1 : Int) = (0 : Int) → (Q [.inl (-1 : Int)] M)))) ∧ (¬ g_bit x4 x2 → (((0 : Int) = (0 : Int) → (((0 : Int) ≤ x2 ∧ x2 < ((8 : Nat) : Int)) ∧ ((¬ x1 = (3 : Int) → (Q [.inl (hm_or x4 (hm_shl (1 : Int) x2))] (g_uA (g_uA M (14, h0) x2.toNat x3) (12, h0) 3 (hm_and (M.1 12 h0 3) (hm_xor (hm_shl (1 : Int) x2) (-1 : Int)))))) ∧ (x1 = (3 : Int) → (Q [.inl (hm_or x4 (hm_shl (1 : Int) x2))] (g_uA (g_uA M (14, h0) x2.toNat x3) (12, h0) 3 (hm_or (M.1 12 h0 3) (hm_shl (1 : Int) x2)))))))) ∧ (¬ (0 : Int) = (0 : Int) → (Q [.inl (-1 : Int)] M))))))))) ∧ (x2 = x3 → (Q [.inl x4] M)))))) ∧ (x1 = (1 : Int) → ((¬ x1 = (0 : Int) → ((¬ x2 = x3 → ((¬ (0 : Int) = (0 : Int) → (Q [.inl (-1 : Int)] M)) ∧ ((0 : Int) = (0 : Int) → (Q [.inl x4] M)))) ∧ (x2 = x3 → ((¬ (0 : Int) = (1 : Int) → (Q [.inl (-1 : Int)] M)) ∧ ((0 : Int) = (1 : Int) → (Q [.inl x4] M)))))) ∧ (x1 = (0 : Int) → ((¬ x2 = x3 → ((¬ (1 : Int) = (0 : Int) → (Q [.inl (-1 : Int)] M)) ∧ ((1 : Int) = (0 : Int) → (Q [.inl x4] M)))) ∧ (x2 = x3 → ((¬ (1 : Int) = (1 : Int) → (Q [.inl (-1 : Int)] M)) ∧ ((1 : Int) = (1 : Int) → (Q [.inl x4] M))))))))))) : g_R (D + 1) 61 Q 0 [.inr (12, h0), .inl x1, .inl x2, .inl x3, .inl x4] [] M := by
  subst hD
  exact g_go hk_61 ⟨rfl, rfl⟩ (g_C_ok (g_F_ok (D := D1))) sp_61 42 h
set_option maxRecDepth 20000 in
theorem rp_61_0 {D : Nat} {Q : g_P} {M : g_M} {h0 : Nat} {x1 : Int} {x2 : Int} {x3 : Int} {x4 : Int} {D1 : Nat} (hD : D = D1 + 2) (h : (x1 = (0 : Int) → ((¬ x2 = x3 → (Q [.inl (-1 : Int)] M)) ∧ (x2 = x3 → (Q [.inl x4] M)))) ∧ (¬ x1 = (0 : Int) → ((¬ x1 = (1 : Int) → ((¬ x1 = (3 : Int) → ((x2 = (0 : Int) → (Q [.inl (-1 : Int)] M)) ∧ (¬ x2 = (0 : Int) → (((0 ≤ x4 ∧ x4 < 1024) ∧ (0 ≤ x2 ∧ x2 < 10)) ∧ ((g_bit x4 x2 → (Q [.inl (-1 : Int)] M)) ∧ (¬ g_bit x4 x2 → (((0 : Int) ≤ x2 ∧ x2 < ((8 : Nat) : Int)) ∧ (Q [.inl (hm_or x4 (hm_shl (1 : Int) x2))] (g_uA (g_uA M (14, h0) x2.toNat x3) (12, h0) 3 (hm_and (M.1 12 h0 3) (hm_xor (hm_shl (1 : Int) x2) (-1 : Int)))))))))))) ∧ (x1 = (3 : Int) → ((¬ x2 = x3 → ((x2 = (0 : Int) → (Q [.inl (-1 : Int)] M)) ∧ (¬ x2 = (0 : Int) → (((0 ≤ x4 ∧ x4 < 1024) ∧ (0 ≤ x2 ∧ x2 < 10)) ∧ ((g_bit x4 x2 → (Q [.inl (-1 : Int)] M)) ∧ (¬ g_bit x4 x2 → (((0 : Int) ≤ x2 ∧ x2 < ((8 : Nat) : Int)) ∧ (Q [.inl (hm_or x4 (hm_shl (1 : Int) x2))] (g_uA (g_uA M (14, h0) x2.toNat x3) (12, h0) 3 (hm_or (M.1 12 h0 3) (hm_shl (1 : Int) x2))))))))))) ∧ (x2 = x3 → (Q [.inl x4] M)))))) ∧ (x1 = (1 : Int) → ((¬ x2 = x3 → (Q [.inl x4] M)) ∧ (x2 = x3 → (Q [.inl (-1 : Int)] M))))))) : g_R (D + 1) 61 Q 0 [.inr (12, h0), .inl x1, .inl x2, .inl x3, .inl x4] [] M :=
  rg_61_0 hD ⟨fun b1 => ⟨fun z => absurd b1 (by omega), fun _ => ⟨fun b3 => ⟨fun _ => (And.left (And.left h b1) b3), (fun z => absurd z (by decide))⟩, fun b4 => ⟨(fun z => absurd z (by decide)), fun _ => (And.right (And.left h b1) b4)⟩⟩⟩, fun b2 => ⟨fun b5 => ⟨fun b7 => ⟨fun b9 => (And.left (And.left (And.left (And.right h b2) b5) b7) b9), fun b10 => (have a11 := And.left (And.right (And.left (And.left (And.right h b2) b5) b7) b10); ⟨a11, ⟨fun b12 => ⟨(fun z => absurd z (by decide)), fun _ => (And.left (And.right (And.right (And.left (And.left (And.right h b2) b5) b7) b10)) b12)⟩, fun b13 => ⟨fun _ => (have a14 := And.left (And.right (And.right (And.right (And.left (And.left (And.right h b2) b5) b7) b10)) b13); ⟨a14, ⟨fun _ => (And.right (And.right (And.right (And.right (And.left (And.left (And.right h b2) b5) b7) b10)) b13)), fun z => absurd b7 (by omega)⟩⟩), (fun z => absurd z (by decide))⟩⟩⟩)⟩, fun b8 => ⟨fun b15 => ⟨fun b17 => (And.left (And.left (And.right (And.left (And.right h b2) b5) b8) b15) b17), fun b18 => (have a19 := And.left (And.right (And.left (And.right (And.left (And.right h b2) b5) b8) b15) b18); ⟨a19, ⟨fun b20 => ⟨(fun z => absurd z (by decide)), fun _ => (And.left (And.right (And.right (And.left (And.right (And.left (And.right h b2) b5) b8) b15) b18)) b20)⟩, fun b21 => ⟨fun _ => (have a22 := And.left (And.right (And.right (And.right (And.left (And.right (And.left (And.right h b2) b5) b8) b15) b18)) b21); ⟨a22, ⟨fun z => absurd b8 (by omega), fun _ => (And.right (And.right (And.right (And.right (And.left (And.right (And.left (And.right h b2) b5) b8) b15) b18)) b21))⟩⟩), (fun z => absurd z (by decide))⟩⟩⟩)⟩, fun b16 => (And.right (And.right (And.left (And.right h b2) b5) b8) b16)⟩⟩, fun b6 => ⟨fun _ => ⟨fun b23 => ⟨(fun z => absurd z (by decide)), fun _ => (And.left (And.right (And.right h b2) b6) b23)⟩, fun b24 => ⟨fun _ => (And.right (And.right (And.right h b2) b6) b24), (fun z => absurd z (by decide))⟩⟩, fun z => absurd b2 (by omega)⟩⟩⟩
theorem hn_62 : 3 ≤ (hm_me 62).2.2.1 := by decide +kernel
/-- HeapLaw.says(II)I -/
def sp_62 (pc : Nat) : Option Nat := match pc with
  | 27 => some 3
  | 52 => some 3
  | _ => none
set_option maxRecDepth 20000 in
theorem rg_62_0 {D : Nat} {Q : g_P} {M : g_M} {x1 : Int} {x2 : Int} {D1 : Nat} (hD : D = D1 + 2) (h : ((0 ≤ x1 ∧ x1 < M.1 0 2 6) → (((1 : Int) = (0 : Int) → (Q [.inl (-1 : Int)] M)) ∧ (¬ (1 : Int) = (0 : Int) → (((0 ≤ x2 ∧ x2 < M.1 0 2 6) → ((¬ (1 : Int) = (0 : Int) → (((0 : Int) ≤ x2 ∧ x2 < 72) ∧ (g_Ev D 63 [.inr (1, (12 + x2.toNat))] M (fun q M' => g_R (D + 1) 62 Q 27 [.inr (0, 2), .inl x1, .inl x2] (q ++ []) M')))) ∧ ((1 : Int) = (0 : Int) → (Q [.inl (-1 : Int)] M)))) ∧ (¬ (0 ≤ x2 ∧ x2 < M.1 0 2 6) → ((¬ (0 : Int) = (0 : Int) → (((0 : Int) ≤ x2 ∧ x2 < 72) ∧ (g_Ev D 63 [.inr (1, (12 + x2.toNat))] M (fun q M' => g_R (D + 1) 62 Q 27 [.inr (0, 2), .inl x1, .inl x2] (q ++ []) M')))) ∧ ((0 : Int) = (0 : Int) → (Q [.inl (-1 : Int)] M)))))))) ∧ (¬ (0 ≤ x1 ∧ x1 < M.1 0 2 6) → (((0 : Int) = (0 : Int) → (Q [.inl (-1 : Int)] M)) ∧ (¬ (0 : Int) = (0 : Int) → (((0 ≤ x2 ∧ x2 < M.1 0 2 6) → ((¬ (1 : Int) = (0 : Int) → (((0 : Int) ≤ x2 ∧ x2 < 72) ∧ (g_Ev D 63 [.inr (1, (12 + x2.toNat))] M (fun q M' => g_R (D + 1) 62 Q 27 [.inr (0, 2), .inl x1, .inl x2] (q ++ []) M')))) ∧ ((1 : Int) = (0 : Int) → (Q [.inl (-1 : Int)] M)))) ∧ (¬ (0 ≤ x2 ∧ x2 < M.1 0 2 6) → ((¬ (0 : Int) = (0 : Int) → (((0 : Int) ≤ x2 ∧ x2 < 72) ∧ (g_Ev D 63 [.inr (1, (12 + x2.toNat))] M (fun q M' => g_R (D + 1) 62 Q 27 [.inr (0, 2), .inl x1, .inl x2] (q ++ []) M')))) ∧ ((0 : Int) = (0 : Int) → (Q [.inl (-1 : Int)] M))))))))) : g_R (D + 1) 62 Q 0 [.inr (0, 2), .inl x1, .inl x2] [] M := by
  subst hD
  exact g_go hk_62 ⟨rfl, rfl⟩ (g_C_ok (g_F_ok (D := D1))) sp_62 14 h
set_option maxRecDepth 20000 in
theorem rp_62_0 {D : Nat} {Q : g_P} {M : g_M} {x1 : Int} {x2 : Int} {D1 : Nat} (hD : D = D1 + 2) (h : ((0 ≤ x1 ∧ x1 < M.1 0 2 6) → (((0 ≤ x2 ∧ x2 < M.1 0 2 6) → (((0 : Int) ≤ x2 ∧ x2 < 72) ∧ (g_Ev D 63 [.inr (1, (12 + x2.toNat))] M (fun q M' => g_R (D + 1) 62 Q 27 [.inr (0, 2), .inl x1, .inl x2] (q ++ []) M')))) ∧ (¬ (0 ≤ x2 ∧ x2 < M.1 0 2 6) → (Q [.inl (-1 : Int)] M)))) ∧ (¬ (0 ≤ x1 ∧ x1 < M.1 0 2 6) → (Q [.inl (-1 : Int)] M))) : g_R (D + 1) 62 Q 0 [.inr (0, 2), .inl x1, .inl x2] [] M :=
  rg_62_0 hD ⟨fun b1 => ⟨(fun z => absurd z (by decide)), fun _ => ⟨fun b3 => ⟨fun _ => (have a5 := And.left (And.left (And.left h b1) b3); ⟨a5, (And.right (And.left (And.left h b1) b3))⟩), (fun z => absurd z (by decide))⟩, fun b4 => ⟨(fun z => absurd z (by decide)), fun _ => (And.right (And.left h b1) b4)⟩⟩⟩, fun b2 => ⟨fun _ => (And.right h b2), (fun z => absurd z (by decide))⟩⟩
set_option maxRecDepth 20000 in
theorem rg_62_27 {D : Nat} {Q : g_P} {M : g_M} {x1 : Int} {x2 : Int} {s0 : Int} {D1 : Nat} (hD : D = D1 + 2) (h : (s0 = (0 : Int) → (((0 : Int) ≤ x1 ∧ x1 < 72) ∧ (((0 : Int) ≤ x2 ∧ x2 < 72) ∧ (g_Ev D 64 [.inr (12, 0), .inr (1, (12 + x1.toNat)), .inr (1, (12 + x2.toNat))] M (fun q M' => g_R (D + 1) 62 Q 52 [.inr (0, 2), .inl x1, .inl x2] (q ++ []) M'))))) ∧ (¬ s0 = (0 : Int) → (Q [.inl (-3 : Int)] M))) : g_R (D + 1) 62 Q 27 [.inr (0, 2), .inl x1, .inl x2] [.inl s0] M := by
  subst hD
  exact g_go hk_62 ⟨rfl, rfl⟩ (g_C_ok (g_F_ok (D := D1))) sp_62 13 h
theorem rp_62_27 {D : Nat} {Q : g_P} {M : g_M} {x1 : Int} {x2 : Int} {s0 : Int} {D1 : Nat} (hD : D = D1 + 2) (h : (s0 = (0 : Int) → (((0 : Int) ≤ x1 ∧ x1 < 72) ∧ (((0 : Int) ≤ x2 ∧ x2 < 72) ∧ (g_Ev D 64 [.inr (12, 0), .inr (1, (12 + x1.toNat)), .inr (1, (12 + x2.toNat))] M (fun q M' => g_R (D + 1) 62 Q 52 [.inr (0, 2), .inl x1, .inl x2] (q ++ []) M'))))) ∧ (¬ s0 = (0 : Int) → (Q [.inl (-3 : Int)] M))) : g_R (D + 1) 62 Q 27 [.inr (0, 2), .inl x1, .inl x2] [.inl s0] M := rg_62_27 hD h
set_option maxRecDepth 20000 in
theorem rg_62_52 {D : Nat} {Q : g_P} {M : g_M} {x1 : Int} {x2 : Int} {s0 : Int} {D1 : Nat} (hD : D = D1 + 2) (h : (s0 = (0 : Int) → (Q [.inl (1 : Int)] M)) ∧ (¬ s0 = (0 : Int) → (Q [.inl (0 : Int)] M))) : g_R (D + 1) 62 Q 52 [.inr (0, 2), .inl x1, .inl x2] [.inl s0] M := by
  subst hD
  exact g_go hk_62 ⟨rfl, rfl⟩ (g_C_ok (g_F_ok (D := D1))) sp_62 5 h
theorem rp_62_52 {D : Nat} {Q : g_P} {M : g_M} {x1 : Int} {x2 : Int} {s0 : Int} {D1 : Nat} (hD : D = D1 + 2) (h : (s0 = (0 : Int) → (Q [.inl (1 : Int)] M)) ∧ (¬ s0 = (0 : Int) → (Q [.inl (0 : Int)] M))) : g_R (D + 1) 62 Q 52 [.inr (0, 2), .inl x1, .inl x2] [.inl s0] M := rg_62_52 hD h
theorem hn_63 : 1 ≤ (hm_me 63).2.2.1 := by decide +kernel
/-- HeapLaw$Formula.hasSpare()Z -/
def sp_63 (pc : Nat) : Option Nat := match pc with
  | 4 => some 1
  | _ => none
set_option maxRecDepth 20000 in
theorem rg_63_0 {D : Nat} {Q : g_P} {M : g_M} {h0 : Nat} {D1 : Nat} (hD : D = D1 + 2) (h : g_Ev D 40 [.inr (1, h0)] M (fun q M' => g_R (D + 1) 63 Q 4 [.inr (1, h0)] (q ++ []) M')) : g_R (D + 1) 63 Q 0 [.inr (1, h0)] [] M := by
  subst hD
  exact g_go hk_63 ⟨rfl, rfl⟩ (g_C_ok (g_F_ok (D := D1))) sp_63 3 h
theorem rp_63_0 {D : Nat} {Q : g_P} {M : g_M} {h0 : Nat} {D1 : Nat} (hD : D = D1 + 2) (h : g_Ev D 40 [.inr (1, h0)] M (fun q M' => g_R (D + 1) 63 Q 4 [.inr (1, h0)] (q ++ []) M')) : g_R (D + 1) 63 Q 0 [.inr (1, h0)] [] M := rg_63_0 hD h
set_option maxRecDepth 20000 in
theorem rg_63_4 {D : Nat} {Q : g_P} {M : g_M} {h0 : Nat} {s0 : Int} {D1 : Nat} (hD : D = D1 + 2) (h : (hm_and s0 (224 : Int) = (0 : Int) → (((0 : Int) ≤ (0 : Int) ∧ (0 : Int) ≤ 1) ∧ (Q [.inl (0 : Int)] M))) ∧ (¬ hm_and s0 (224 : Int) = (0 : Int) → (((0 : Int) ≤ (1 : Int) ∧ (1 : Int) ≤ 1) ∧ (Q [.inl (1 : Int)] M)))) : g_R (D + 1) 63 Q 4 [.inr (1, h0)] [.inl s0] M := by
  subst hD
  exact g_go hk_63 ⟨rfl, rfl⟩ (g_C_ok (g_F_ok (D := D1))) sp_63 7 h
set_option maxRecDepth 20000 in
theorem rp_63_4 {D : Nat} {Q : g_P} {M : g_M} {h0 : Nat} {s0 : Int} {D1 : Nat} (hD : D = D1 + 2) (h : (hm_and s0 (224 : Int) = (0 : Int) → (Q [.inl (0 : Int)] M)) ∧ (¬ hm_and s0 (224 : Int) = (0 : Int) → (Q [.inl (1 : Int)] M))) : g_R (D + 1) 63 Q 4 [.inr (1, h0)] [.inl s0] M :=
  rg_63_4 hD ⟨fun b1 => ⟨by decide, (And.left h b1)⟩, fun b2 => ⟨by decide, (And.right h b2)⟩⟩
theorem hn_64 : 3 ≤ (hm_me 64).2.2.1 := by decide +kernel
/-- HeapLaw$Sharing.canPart(LHeapLaw$Formula;LHeapLaw$Formula;)Z -/
def sp_64 (pc : Nat) : Option Nat := match pc with
  | 13 => some 3
  | 25 => some 3
  | 38 => some 3
  | _ => none
set_option maxRecDepth 20000 in
theorem rg_64_0 {D : Nat} {Q : g_P} {M : g_M} {h0 : Nat} {h1 : Nat} {h2 : Nat} {D1 : Nat} (hD : D = D1 + 2) (h : g_Ev D 39 [.inr (7, (h0 + 1)), .inr (1, h1)] (g_uB M h0 (some h2)) (fun q M' => g_R (D + 1) 64 Q 13 [.inr (12, h0), .inr (1, h1), .inr (1, h2)] (q ++ []) M')) : g_R (D + 1) 64 Q 0 [.inr (12, h0), .inr (1, h1), .inr (1, h2)] [] M := by
  subst hD
  exact g_go hk_64 ⟨rfl, rfl⟩ (g_C_ok (g_F_ok (D := D1))) sp_64 8 h
theorem rp_64_0 {D : Nat} {Q : g_P} {M : g_M} {h0 : Nat} {h1 : Nat} {h2 : Nat} {D1 : Nat} (hD : D = D1 + 2) (h : g_Ev D 39 [.inr (7, (h0 + 1)), .inr (1, h1)] (g_uB M h0 (some h2)) (fun q M' => g_R (D + 1) 64 Q 13 [.inr (12, h0), .inr (1, h1), .inr (1, h2)] (q ++ []) M')) : g_R (D + 1) 64 Q 0 [.inr (12, h0), .inr (1, h1), .inr (1, h2)] [] M := rg_64_0 hD h
set_option maxRecDepth 20000 in
theorem rg_64_13 {D : Nat} {Q : g_P} {M : g_M} {h0 : Nat} {h1 : Nat} {h2 : Nat} {D1 : Nat} (hD : D = D1 + 2) (h : g_Ev D 40 [.inr (1, h2)] M (fun q M' => g_R (D + 1) 64 Q 25 [.inr (12, h0), .inr (1, h1), .inr (1, h2)] (q ++ [.inl (M.1 7 (h0 + 1) 2), .inr (12, h0)]) M')) : g_R (D + 1) 64 Q 13 [.inr (12, h0), .inr (1, h1), .inr (1, h2)] [] M := by
  subst hD
  exact g_go hk_64 ⟨rfl, rfl⟩ (g_C_ok (g_F_ok (D := D1))) sp_64 7 h
theorem rp_64_13 {D : Nat} {Q : g_P} {M : g_M} {h0 : Nat} {h1 : Nat} {h2 : Nat} {D1 : Nat} (hD : D = D1 + 2) (h : g_Ev D 40 [.inr (1, h2)] M (fun q M' => g_R (D + 1) 64 Q 25 [.inr (12, h0), .inr (1, h1), .inr (1, h2)] (q ++ [.inl (M.1 7 (h0 + 1) 2), .inr (12, h0)]) M')) : g_R (D + 1) 64 Q 13 [.inr (12, h0), .inr (1, h1), .inr (1, h2)] [] M := rg_64_13 hD h
set_option maxRecDepth 20000 in
theorem rg_64_25 {D : Nat} {Q : g_P} {M : g_M} {h0 : Nat} {h1 : Nat} {h2 : Nat} {s0 : Int} {s1 : Int} {q2 : Nat} {D1 : Nat} (hD : D = D1 + 2) (h : g_Ev D 56 [.inr (12, h0), .inl (0 : Int), .inl (0 : Int), .inl (0 : Int)] (g_uA M (12, q2) 4 (hm_or (hm_or s1 s0) (1 : Int))) (fun q M' => g_R (D + 1) 64 Q 38 [.inr (12, h0), .inr (1, h1), .inr (1, h2)] (q ++ []) M')) : g_R (D + 1) 64 Q 25 [.inr (12, h0), .inr (1, h1), .inr (1, h2)] [.inl s0, .inl s1, .inr (12, q2)] M := by
  subst hD
  exact g_go hk_64 ⟨rfl, rfl⟩ (g_C_ok (g_F_ok (D := D1))) sp_64 10 h
theorem rp_64_25 {D : Nat} {Q : g_P} {M : g_M} {h0 : Nat} {h1 : Nat} {h2 : Nat} {s0 : Int} {s1 : Int} {q2 : Nat} {D1 : Nat} (hD : D = D1 + 2) (h : g_Ev D 56 [.inr (12, h0), .inl (0 : Int), .inl (0 : Int), .inl (0 : Int)] (g_uA M (12, q2) 4 (hm_or (hm_or s1 s0) (1 : Int))) (fun q M' => g_R (D + 1) 64 Q 38 [.inr (12, h0), .inr (1, h1), .inr (1, h2)] (q ++ []) M')) : g_R (D + 1) 64 Q 25 [.inr (12, h0), .inr (1, h1), .inr (1, h2)] [.inl s0, .inl s1, .inr (12, q2)] M := rg_64_25 hD h
set_option maxRecDepth 20000 in
theorem rg_64_38 {D : Nat} {Q : g_P} {M : g_M} {h0 : Nat} {h1 : Nat} {h2 : Nat} {s0 : Int} {D1 : Nat} (hD : D = D1 + 2) (h : ((0 : Int) ≤ s0 ∧ s0 ≤ 1) ∧ (Q [.inl s0] M)) : g_R (D + 1) 64 Q 38 [.inr (12, h0), .inr (1, h1), .inr (1, h2)] [.inl s0] M := by
  subst hD
  exact g_go hk_64 ⟨rfl, rfl⟩ (g_C_ok (g_F_ok (D := D1))) sp_64 2 h
theorem rp_64_38 {D : Nat} {Q : g_P} {M : g_M} {h0 : Nat} {h1 : Nat} {h2 : Nat} {s0 : Int} {D1 : Nat} (hD : D = D1 + 2) (h : ((0 : Int) ≤ s0 ∧ s0 ≤ 1) ∧ (Q [.inl s0] M)) : g_R (D + 1) 64 Q 38 [.inr (12, h0), .inr (1, h1), .inr (1, h2)] [.inl s0] M := rg_64_38 hD h
theorem hn_65 : 5 ≤ (hm_me 65).2.2.1 := by decide +kernel
/-- HeapLaw.step(IIII)I -/
def sp_65 (pc : Nat) : Option Nat := match pc with
  | 37 => some 5
  | 52 => some 5
  | 59 => some 5
  | _ => none
set_option maxRecDepth 20000 in
theorem rg_65_0 {D : Nat} {Q : g_P} {M : g_M} {x1 : Int} {x2 : Int} {x3 : Int} {x4 : Int} {D1 : Nat} (hD : D = D1 + 2) (h : ((0 ≤ x1 ∧ x1 < M.1 0 2 6) → (((1 : Int) = (0 : Int) → (Q [.inl (-1 : Int)] M)) ∧ (¬ (1 : Int) = (0 : Int) → ((((0 ≤ x2 ∧ x2 < 8) ∧ (0 < x3 ∧ x3 < 5) ∧ ((x2 = 0 ∨ 3 < x2) → (0 < x4 ∧ x4 < 5))) → ((¬ (1 : Int) = (0 : Int) → (((0 : Int) ≤ x1 ∧ x1 < 72) ∧ (g_Ev D 66 [.inr (0, 16), .inr (1, (12 + x1.toNat)), .inl x2, .inl x3, .inl x4] M (fun q M' => g_R (D + 1) 65 Q 37 [.inr (0, 2), .inl x1, .inl x2, .inl x3, .inl x4] (q ++ []) M')))) ∧ ((1 : Int) = (0 : Int) → (Q [.inl (-1 : Int)] M)))) ∧ (¬ ((0 ≤ x2 ∧ x2 < 8) ∧ (0 < x3 ∧ x3 < 5) ∧ ((x2 = 0 ∨ 3 < x2) → (0 < x4 ∧ x4 < 5))) → ((¬ (0 : Int) = (0 : Int) → (((0 : Int) ≤ x1 ∧ x1 < 72) ∧ (g_Ev D 66 [.inr (0, 16), .inr (1, (12 + x1.toNat)), .inl x2, .inl x3, .inl x4] M (fun q M' => g_R (D + 1) 65 Q 37 [.inr (0, 2), .inl x1, .inl x2, .inl x3, .inl x4] (q ++ []) M')))) ∧ ((0 : Int) = (0 : Int) → (Q [.inl (-1 : Int)] M)))))))) ∧ (¬ (0 ≤ x1 ∧ x1 < M.1 0 2 6) → (((0 : Int) = (0 : Int) → (Q [.inl (-1 : Int)] M)) ∧ (¬ (0 : Int) = (0 : Int) → ((((0 ≤ x2 ∧ x2 < 8) ∧ (0 < x3 ∧ x3 < 5) ∧ ((x2 = 0 ∨ 3 < x2) → (0 < x4 ∧ x4 < 5))) → ((¬ (1 : Int) = (0 : Int) → (((0 : Int) ≤ x1 ∧ x1 < 72) ∧ (g_Ev D 66 [.inr (0, 16), .inr (1, (12 + x1.toNat)), .inl x2, .inl x3, .inl x4] M (fun q M' => g_R (D + 1) 65 Q 37 [.inr (0, 2), .inl x1, .inl x2, .inl x3, .inl x4] (q ++ []) M')))) ∧ ((1 : Int) = (0 : Int) → (Q [.inl (-1 : Int)] M)))) ∧ (¬ ((0 ≤ x2 ∧ x2 < 8) ∧ (0 < x3 ∧ x3 < 5) ∧ ((x2 = 0 ∨ 3 < x2) → (0 < x4 ∧ x4 < 5))) → ((¬ (0 : Int) = (0 : Int) → (((0 : Int) ≤ x1 ∧ x1 < 72) ∧ (g_Ev D 66 [.inr (0, 16), .inr (1, (12 + x1.toNat)), .inl x2, .inl x3, .inl x4] M (fun q M' => g_R (D + 1) 65 Q 37 [.inr (0, 2), .inl x1, .inl x2, .inl x3, .inl x4] (q ++ []) M')))) ∧ ((0 : Int) = (0 : Int) → (Q [.inl (-1 : Int)] M))))))))) : g_R (D + 1) 65 Q 0 [.inr (0, 2), .inl x1, .inl x2, .inl x3, .inl x4] [] M := by
  subst hD
  exact g_go hk_65 ⟨rfl, rfl⟩ (g_C_ok (g_F_ok (D := D1))) sp_65 20 h
set_option maxRecDepth 20000 in
theorem rp_65_0 {D : Nat} {Q : g_P} {M : g_M} {x1 : Int} {x2 : Int} {x3 : Int} {x4 : Int} {D1 : Nat} (hD : D = D1 + 2) (h : ((0 ≤ x1 ∧ x1 < M.1 0 2 6) → ((((0 ≤ x2 ∧ x2 < 8) ∧ (0 < x3 ∧ x3 < 5) ∧ ((x2 = 0 ∨ 3 < x2) → (0 < x4 ∧ x4 < 5))) → (((0 : Int) ≤ x1 ∧ x1 < 72) ∧ (g_Ev D 66 [.inr (0, 16), .inr (1, (12 + x1.toNat)), .inl x2, .inl x3, .inl x4] M (fun q M' => g_R (D + 1) 65 Q 37 [.inr (0, 2), .inl x1, .inl x2, .inl x3, .inl x4] (q ++ []) M')))) ∧ (¬ ((0 ≤ x2 ∧ x2 < 8) ∧ (0 < x3 ∧ x3 < 5) ∧ ((x2 = 0 ∨ 3 < x2) → (0 < x4 ∧ x4 < 5))) → (Q [.inl (-1 : Int)] M)))) ∧ (¬ (0 ≤ x1 ∧ x1 < M.1 0 2 6) → (Q [.inl (-1 : Int)] M))) : g_R (D + 1) 65 Q 0 [.inr (0, 2), .inl x1, .inl x2, .inl x3, .inl x4] [] M :=
  rg_65_0 hD ⟨fun b1 => ⟨(fun z => absurd z (by decide)), fun _ => ⟨fun b3 => ⟨fun _ => (have a5 := And.left (And.left (And.left h b1) b3); ⟨a5, (And.right (And.left (And.left h b1) b3))⟩), (fun z => absurd z (by decide))⟩, fun b4 => ⟨(fun z => absurd z (by decide)), fun _ => (And.right (And.left h b1) b4)⟩⟩⟩, fun b2 => ⟨fun _ => (And.right h b2), (fun z => absurd z (by decide))⟩⟩
set_option maxRecDepth 20000 in
theorem rg_65_37 {D : Nat} {Q : g_P} {M : g_M} {x1 : Int} {x2 : Int} {x3 : Int} {x4 : Int} {D1 : Nat} (hD : D = D1 + 2) (h : g_Ev D 67 [.inr (0, 16), .inr (0, 3), .inl (M.1 0 2 6)] M (fun q M' => g_R (D + 1) 65 Q 52 [.inr (0, 2), .inl x1, .inl x2, .inl x3, .inl x4] (q ++ []) M')) : g_R (D + 1) 65 Q 37 [.inr (0, 2), .inl x1, .inl x2, .inl x3, .inl x4] [] M := by
  subst hD
  exact g_go hk_65 ⟨rfl, rfl⟩ (g_C_ok (g_F_ok (D := D1))) sp_65 8 h
theorem rp_65_37 {D : Nat} {Q : g_P} {M : g_M} {x1 : Int} {x2 : Int} {x3 : Int} {x4 : Int} {D1 : Nat} (hD : D = D1 + 2) (h : g_Ev D 67 [.inr (0, 16), .inr (0, 3), .inl (M.1 0 2 6)] M (fun q M' => g_R (D + 1) 65 Q 52 [.inr (0, 2), .inl x1, .inl x2, .inl x3, .inl x4] (q ++ []) M')) : g_R (D + 1) 65 Q 37 [.inr (0, 2), .inl x1, .inl x2, .inl x3, .inl x4] [] M := rg_65_37 hD h
set_option maxRecDepth 20000 in
theorem rg_65_52 {D : Nat} {Q : g_P} {M : g_M} {x1 : Int} {x2 : Int} {x3 : Int} {x4 : Int} {D1 : Nat} (hD : D = D1 + 2) (h : g_Ev D 150 [.inr (0, 16)] M (fun q M' => g_R (D + 1) 65 Q 59 [.inr (0, 2), .inl x1, .inl x2, .inl x3, .inl x4] (q ++ []) M')) : g_R (D + 1) 65 Q 52 [.inr (0, 2), .inl x1, .inl x2, .inl x3, .inl x4] [] M := by
  subst hD
  exact g_go hk_65 ⟨rfl, rfl⟩ (g_C_ok (g_F_ok (D := D1))) sp_65 4 h
theorem rp_65_52 {D : Nat} {Q : g_P} {M : g_M} {x1 : Int} {x2 : Int} {x3 : Int} {x4 : Int} {D1 : Nat} (hD : D = D1 + 2) (h : g_Ev D 150 [.inr (0, 16)] M (fun q M' => g_R (D + 1) 65 Q 59 [.inr (0, 2), .inl x1, .inl x2, .inl x3, .inl x4] (q ++ []) M')) : g_R (D + 1) 65 Q 52 [.inr (0, 2), .inl x1, .inl x2, .inl x3, .inl x4] [] M := rg_65_52 hD h
set_option maxRecDepth 20000 in
theorem rg_65_59 {D : Nat} {Q : g_P} {M : g_M} {x1 : Int} {x2 : Int} {x3 : Int} {x4 : Int} {s0 : Int} {D1 : Nat} (hD : D = D1 + 2) (h : ((0 : Int) ≤ s0 → ((hm_in ((M.1 0 2 6) + (M.1 0 16 7))) ∧ (((M.1 0 2 6) + (M.1 0 16 7) ≤ (60 : Int) → ((hm_in ((M.1 0 2 6) + (M.1 0 16 7))) ∧ (Q [.inl (M.1 0 16 7)] (g_uA M (0, 2) 6 ((M.1 0 2 6) + (M.1 0 16 7)))))) ∧ ((60 : Int) < (M.1 0 2 6) + (M.1 0 16 7) → (Q [.inl (-2 : Int)] M))))) ∧ (s0 < (0 : Int) → (Q [.inl s0] M))) : g_R (D + 1) 65 Q 59 [.inr (0, 2), .inl x1, .inl x2, .inl x3, .inl x4] [.inl s0] M := by
  subst hD
  exact g_go hk_65 ⟨rfl, rfl⟩ (g_C_ok (g_F_ok (D := D1))) sp_65 22 h
set_option maxRecDepth 20000 in
theorem rp_65_59 {D : Nat} {Q : g_P} {M : g_M} {x1 : Int} {x2 : Int} {x3 : Int} {x4 : Int} {s0 : Int} {D1 : Nat} (hD : D = D1 + 2) (h : ((0 : Int) ≤ s0 → ((hm_in ((M.1 0 2 6) + (M.1 0 16 7))) ∧ (((M.1 0 2 6) + (M.1 0 16 7) ≤ (60 : Int) → (Q [.inl (M.1 0 16 7)] (g_uA M (0, 2) 6 ((M.1 0 2 6) + (M.1 0 16 7))))) ∧ ((60 : Int) < (M.1 0 2 6) + (M.1 0 16 7) → (Q [.inl (-2 : Int)] M))))) ∧ (s0 < (0 : Int) → (Q [.inl s0] M))) : g_R (D + 1) 65 Q 59 [.inr (0, 2), .inl x1, .inl x2, .inl x3, .inl x4] [.inl s0] M :=
  rg_65_59 hD ⟨fun b1 => (have a3 := And.left (And.left h b1); ⟨a3, ⟨fun b4 => ⟨a3, (And.left (And.right (And.left h b1)) b4)⟩, fun b5 => (And.right (And.right (And.left h b1)) b5)⟩⟩), fun b2 => (And.right h b2)⟩
theorem hn_66 : 5 ≤ (hm_me 66).2.2.1 := by decide +kernel
/-- HeapLaw$Stepper.start(LHeapLaw$Formula;III)V -/
def sp_66 (pc : Nat) : Option Nat := match pc with
  | 10 => some 5
  | _ => none
set_option maxRecDepth 20000 in
theorem rg_66_0 {D : Nat} {Q : g_P} {M : g_M} {h1 : Nat} {x2 : Int} {x3 : Int} {x4 : Int} {D1 : Nat} (hD : D = D1 + 2) (h : ((0 : Int) ≤ (0 : Int) ∧ (0 : Int) < 12) ∧ (g_Ev D 20 [.inr (1, (0 : Int).toNat), .inr (1, h1)] M (fun q M' => g_R (D + 1) 66 Q 10 [.inr (0, 16), .inr (1, h1), .inl x2, .inl x3, .inl x4] (q ++ []) M'))) : g_R (D + 1) 66 Q 0 [.inr (0, 16), .inr (1, h1), .inl x2, .inl x3, .inl x4] [] M := by
  subst hD
  exact g_go hk_66 ⟨rfl, rfl⟩ (g_C_ok (g_F_ok (D := D1))) sp_66 7 h
set_option maxRecDepth 20000 in
theorem rp_66_0 {D : Nat} {Q : g_P} {M : g_M} {h1 : Nat} {x2 : Int} {x3 : Int} {x4 : Int} {D1 : Nat} (hD : D = D1 + 2) (h : g_Ev D 20 [.inr (1, (0 : Int).toNat), .inr (1, h1)] M (fun q M' => g_R (D + 1) 66 Q 10 [.inr (0, 16), .inr (1, h1), .inl x2, .inl x3, .inl x4] (q ++ []) M')) : g_R (D + 1) 66 Q 0 [.inr (0, 16), .inr (1, h1), .inl x2, .inl x3, .inl x4] [] M :=
  rg_66_0 hD ⟨by decide, h⟩
set_option maxRecDepth 20000 in
theorem rg_66_10 {D : Nat} {Q : g_P} {M : g_M} {h1 : Nat} {x2 : Int} {x3 : Int} {x4 : Int} {D1 : Nat} (hD : D = D1 + 2) (h : Q [] (g_uA (g_uA (g_uA M (0, 16) 4 x2) (0, 16) 5 x3) (0, 16) 6 x4)) : g_R (D + 1) 66 Q 10 [.inr (0, 16), .inr (1, h1), .inl x2, .inl x3, .inl x4] [] M := by
  subst hD
  exact g_go hk_66 ⟨rfl, rfl⟩ (g_C_ok (g_F_ok (D := D1))) sp_66 11 h
theorem rp_66_10 {D : Nat} {Q : g_P} {M : g_M} {h1 : Nat} {x2 : Int} {x3 : Int} {x4 : Int} {D1 : Nat} (hD : D = D1 + 2) (h : Q [] (g_uA (g_uA (g_uA M (0, 16) 4 x2) (0, 16) 5 x3) (0, 16) 6 x4)) : g_R (D + 1) 66 Q 10 [.inr (0, 16), .inr (1, h1), .inl x2, .inl x3, .inl x4] [] M := rg_66_10 hD h
theorem hn_67 : 3 ≤ (hm_me 67).2.2.1 := by decide +kernel
/-- HeapLaw$Stepper.fillFrom([LHeapLaw$Formula;I)V -/
def sp_67 (pc : Nat) : Option Nat := match pc with
  | _ => none
set_option maxRecDepth 20000 in
theorem rg_67_0 {D : Nat} {Q : g_P} {M : g_M} {x2 : Int} {D1 : Nat} (hD : D = D1 + 2) (h : Q [] (g_uA (g_uA (g_uB M 2 (some 0)) (0, 16) 3 x2) (0, 16) 7 (0 : Int))) : g_R (D + 1) 67 Q 0 [.inr (0, 16), .inr (0, 3), .inl x2] [] M := by
  subst hD
  exact g_go hk_67 ⟨rfl, rfl⟩ (g_C_ok (g_F_ok (D := D1))) sp_67 11 h
theorem rp_67_0 {D : Nat} {Q : g_P} {M : g_M} {x2 : Int} {D1 : Nat} (hD : D = D1 + 2) (h : Q [] (g_uA (g_uA (g_uB M 2 (some 0)) (0, 16) 3 x2) (0, 16) 7 (0 : Int))) : g_R (D + 1) 67 Q 0 [.inr (0, 16), .inr (0, 3), .inl x2] [] M := rg_67_0 hD h
theorem hn_68 : 2 ≤ (hm_me 68).2.2.1 := by decide +kernel
/-- HeapLaw$Stepper.goThrough(I)I -/
def sp_68 (pc : Nat) : Option Nat := match pc with
  | 15 => some 3
  | 61 => some 4
  | 70 => some 5
  | 85 => some 5
  | 91 => some 5
  | 134 => some 5
  | 146 => some 5
  | 171 => some 5
  | _ => none
set_option maxRecDepth 20000 in
theorem rg_68_0 {D : Nat} {Q : g_P} {M : g_M} {x1 : Int} {D1 : Nat} (hD : D = D1 + 2) (h : ((0 : Int) ≤ x1 ∧ x1 < 12) ∧ (g_Ev D 55 [.inr (12, 1), .inr (1, x1.toNat)] M (fun q M' => g_R (D + 1) 68 Q 15 [.inr (0, 16), .inl x1, .inr (1, x1.toNat)] (q ++ []) M'))) : g_R (D + 1) 68 Q 0 [.inr (0, 16), .inl x1] [] M := by
  subst hD
  exact g_go hk_68 ⟨rfl, rfl⟩ (g_C_ok (g_F_ok (D := D1))) sp_68 10 h
theorem rp_68_0 {D : Nat} {Q : g_P} {M : g_M} {x1 : Int} {D1 : Nat} (hD : D = D1 + 2) (h : ((0 : Int) ≤ x1 ∧ x1 < 12) ∧ (g_Ev D 55 [.inr (12, 1), .inr (1, x1.toNat)] M (fun q M' => g_R (D + 1) 68 Q 15 [.inr (0, 16), .inl x1, .inr (1, x1.toNat)] (q ++ []) M'))) : g_R (D + 1) 68 Q 0 [.inr (0, 16), .inl x1] [] M := rg_68_0 hD h
set_option maxRecDepth 20000 in
theorem rg_68_15 {D : Nat} {Q : g_P} {M : g_M} {x1 : Int} {h2 : Nat} {s0 : Int} {D1 : Nat} (hD : D = D1 + 2) (h : (¬ s0 = (0 : Int) → ((M.1 0 16 4 < (3 : Int) → ((hm_in ((M.1 0 16 3) + (M.1 0 16 7))) ∧ ((M.2 2 = none → (Q [.inl (-4 : Int)] M)) ∧ (∀ f104, M.2 2 = some f104 → ((M.2 2 = none → (False)) ∧ (∀ f113, M.2 2 = some f113 → (((M.1 0 16 3) + (M.1 0 16 7) < ((72 : Nat) : Int) → ((M.2 2 = none → (False)) ∧ (∀ f124, M.2 2 = some f124 → (((0 : Int) ≤ (M.1 0 16 3) + (M.1 0 16 7) ∧ (M.1 0 16 3) + (M.1 0 16 7) < 72) ∧ (g_Ev D 20 [.inr (1, (12 + ((M.1 0 16 3) + (M.1 0 16 7)).toNat)), .inr (1, h2)] M (fun q M' => g_R (D + 1) 68 Q 134 [.inr (0, 16), .inl x1, .inr (1, h2), .inl (-1 : Int), .inl ((M.1 0 16 3) + (M.1 0 16 7))] (q ++ []) M')))))) ∧ (((72 : Nat) : Int) ≤ (M.1 0 16 3) + (M.1 0 16 7) → (Q [.inl (-4 : Int)] M))))))))) ∧ ((3 : Int) ≤ M.1 0 16 4 → (((5 : Int) < M.1 0 16 4 → ((hm_in ((M.1 0 16 3) + (M.1 0 16 7))) ∧ ((M.2 2 = none → (Q [.inl (-4 : Int)] M)) ∧ (∀ f104, M.2 2 = some f104 → ((M.2 2 = none → (False)) ∧ (∀ f113, M.2 2 = some f113 → (((M.1 0 16 3) + (M.1 0 16 7) < ((72 : Nat) : Int) → ((M.2 2 = none → (False)) ∧ (∀ f124, M.2 2 = some f124 → (((0 : Int) ≤ (M.1 0 16 3) + (M.1 0 16 7) ∧ (M.1 0 16 3) + (M.1 0 16 7) < 72) ∧ (g_Ev D 20 [.inr (1, (12 + ((M.1 0 16 3) + (M.1 0 16 7)).toNat)), .inr (1, h2)] M (fun q M' => g_R (D + 1) 68 Q 134 [.inr (0, 16), .inl x1, .inr (1, h2), .inl (-1 : Int), .inl ((M.1 0 16 3) + (M.1 0 16 7))] (q ++ []) M')))))) ∧ (((72 : Nat) : Int) ≤ (M.1 0 16 3) + (M.1 0 16 7) → (Q [.inl (-4 : Int)] M))))))))) ∧ (M.1 0 16 4 ≤ (5 : Int) → ((¬ M.1 0 16 4 = (4 : Int) → (g_Ev D 69 [.inr (1, h2), .inl (M.1 0 16 5)] M (fun q M' => g_R (D + 1) 68 Q 61 [.inr (0, 16), .inl x1, .inr (1, h2), .inl (-1 : Int)] (q ++ []) M'))) ∧ (M.1 0 16 4 = (4 : Int) → (g_Ev D 69 [.inr (1, h2), .inl (M.1 0 16 6)] M (fun q M' => g_R (D + 1) 68 Q 61 [.inr (0, 16), .inl x1, .inr (1, h2), .inl (-1 : Int)] (q ++ []) M'))))))))) ∧ (s0 = (0 : Int) → (Q [.inl (0 : Int)] M))) : g_R (D + 1) 68 Q 15 [.inr (0, 16), .inl x1, .inr (1, h2)] [.inl s0] M := by
  subst hD
  exact g_go hk_68 ⟨rfl, rfl⟩ (g_C_ok (g_F_ok (D := D1))) sp_68 32 h
theorem rp_68_15 {D : Nat} {Q : g_P} {M : g_M} {x1 : Int} {h2 : Nat} {s0 : Int} {D1 : Nat} (hD : D = D1 + 2) (h : (¬ s0 = (0 : Int) → ((M.1 0 16 4 < (3 : Int) → ((hm_in ((M.1 0 16 3) + (M.1 0 16 7))) ∧ ((M.2 2 = none → (Q [.inl (-4 : Int)] M)) ∧ (∀ f104, M.2 2 = some f104 → ((M.2 2 = none → (False)) ∧ (∀ f113, M.2 2 = some f113 → (((M.1 0 16 3) + (M.1 0 16 7) < ((72 : Nat) : Int) → ((M.2 2 = none → (False)) ∧ (∀ f124, M.2 2 = some f124 → (((0 : Int) ≤ (M.1 0 16 3) + (M.1 0 16 7) ∧ (M.1 0 16 3) + (M.1 0 16 7) < 72) ∧ (g_Ev D 20 [.inr (1, (12 + ((M.1 0 16 3) + (M.1 0 16 7)).toNat)), .inr (1, h2)] M (fun q M' => g_R (D + 1) 68 Q 134 [.inr (0, 16), .inl x1, .inr (1, h2), .inl (-1 : Int), .inl ((M.1 0 16 3) + (M.1 0 16 7))] (q ++ []) M')))))) ∧ (((72 : Nat) : Int) ≤ (M.1 0 16 3) + (M.1 0 16 7) → (Q [.inl (-4 : Int)] M))))))))) ∧ ((3 : Int) ≤ M.1 0 16 4 → (((5 : Int) < M.1 0 16 4 → ((hm_in ((M.1 0 16 3) + (M.1 0 16 7))) ∧ ((M.2 2 = none → (Q [.inl (-4 : Int)] M)) ∧ (∀ f104, M.2 2 = some f104 → ((M.2 2 = none → (False)) ∧ (∀ f113, M.2 2 = some f113 → (((M.1 0 16 3) + (M.1 0 16 7) < ((72 : Nat) : Int) → ((M.2 2 = none → (False)) ∧ (∀ f124, M.2 2 = some f124 → (((0 : Int) ≤ (M.1 0 16 3) + (M.1 0 16 7) ∧ (M.1 0 16 3) + (M.1 0 16 7) < 72) ∧ (g_Ev D 20 [.inr (1, (12 + ((M.1 0 16 3) + (M.1 0 16 7)).toNat)), .inr (1, h2)] M (fun q M' => g_R (D + 1) 68 Q 134 [.inr (0, 16), .inl x1, .inr (1, h2), .inl (-1 : Int), .inl ((M.1 0 16 3) + (M.1 0 16 7))] (q ++ []) M')))))) ∧ (((72 : Nat) : Int) ≤ (M.1 0 16 3) + (M.1 0 16 7) → (Q [.inl (-4 : Int)] M))))))))) ∧ (M.1 0 16 4 ≤ (5 : Int) → ((¬ M.1 0 16 4 = (4 : Int) → (g_Ev D 69 [.inr (1, h2), .inl (M.1 0 16 5)] M (fun q M' => g_R (D + 1) 68 Q 61 [.inr (0, 16), .inl x1, .inr (1, h2), .inl (-1 : Int)] (q ++ []) M'))) ∧ (M.1 0 16 4 = (4 : Int) → (g_Ev D 69 [.inr (1, h2), .inl (M.1 0 16 6)] M (fun q M' => g_R (D + 1) 68 Q 61 [.inr (0, 16), .inl x1, .inr (1, h2), .inl (-1 : Int)] (q ++ []) M'))))))))) ∧ (s0 = (0 : Int) → (Q [.inl (0 : Int)] M))) : g_R (D + 1) 68 Q 15 [.inr (0, 16), .inl x1, .inr (1, h2)] [.inl s0] M := rg_68_15 hD h
set_option maxRecDepth 20000 in
theorem rg_68_61 {D : Nat} {Q : g_P} {M : g_M} {x1 : Int} {h2 : Nat} {x3 : Int} {s0 : Int} {D1 : Nat} (hD : D = D1 + 2) (h : g_Ev D 70 [.inr (1, h2), .inl (2 : Int), .inl s0] M (fun q M' => g_R (D + 1) 68 Q 70 [.inr (0, 16), .inl x1, .inr (1, h2), .inl x3, .inl s0] (q ++ []) M')) : g_R (D + 1) 68 Q 61 [.inr (0, 16), .inl x1, .inr (1, h2), .inl x3] [.inl s0] M := by
  subst hD
  exact g_go hk_68 ⟨rfl, rfl⟩ (g_C_ok (g_F_ok (D := D1))) sp_68 6 h
theorem rp_68_61 {D : Nat} {Q : g_P} {M : g_M} {x1 : Int} {h2 : Nat} {x3 : Int} {s0 : Int} {D1 : Nat} (hD : D = D1 + 2) (h : g_Ev D 70 [.inr (1, h2), .inl (2 : Int), .inl s0] M (fun q M' => g_R (D + 1) 68 Q 70 [.inr (0, 16), .inl x1, .inr (1, h2), .inl x3, .inl s0] (q ++ []) M')) : g_R (D + 1) 68 Q 61 [.inr (0, 16), .inl x1, .inr (1, h2), .inl x3] [.inl s0] M := rg_68_61 hD h
set_option maxRecDepth 20000 in
theorem rg_68_70 {D : Nat} {Q : g_P} {M : g_M} {x1 : Int} {h2 : Nat} {x3 : Int} {x4 : Int} {s0 : Int} {D1 : Nat} (hD : D = D1 + 2) (h : (¬ s0 = (-1 : Int) → ((hm_in ((M.1 0 16 3) + (M.1 0 16 7))) ∧ ((M.2 2 = none → (Q [.inl (-4 : Int)] M)) ∧ (∀ f104, M.2 2 = some f104 → ((M.2 2 = none → (False)) ∧ (∀ f113, M.2 2 = some f113 → (((M.1 0 16 3) + (M.1 0 16 7) < ((72 : Nat) : Int) → ((M.2 2 = none → (False)) ∧ (∀ f124, M.2 2 = some f124 → (((0 : Int) ≤ (M.1 0 16 3) + (M.1 0 16 7) ∧ (M.1 0 16 3) + (M.1 0 16 7) < 72) ∧ (g_Ev D 20 [.inr (1, (12 + ((M.1 0 16 3) + (M.1 0 16 7)).toNat)), .inr (1, h2)] M (fun q M' => g_R (D + 1) 68 Q 134 [.inr (0, 16), .inl x1, .inr (1, h2), .inl s0, .inl ((M.1 0 16 3) + (M.1 0 16 7))] (q ++ []) M')))))) ∧ (((72 : Nat) : Int) ≤ (M.1 0 16 3) + (M.1 0 16 7) → (Q [.inl (-4 : Int)] M))))))))) ∧ (s0 = (-1 : Int) → (g_Ev D 70 [.inr (1, h2), .inl (3 : Int), .inl x4] M (fun q M' => g_R (D + 1) 68 Q 85 [.inr (0, 16), .inl x1, .inr (1, h2), .inl s0, .inl x4] (q ++ [.inr (1, h2), .inr (0, 16)]) M')))) : g_R (D + 1) 68 Q 70 [.inr (0, 16), .inl x1, .inr (1, h2), .inl x3, .inl x4] [.inl s0] M := by
  subst hD
  exact g_go hk_68 ⟨rfl, rfl⟩ (g_C_ok (g_F_ok (D := D1))) sp_68 25 h
theorem rp_68_70 {D : Nat} {Q : g_P} {M : g_M} {x1 : Int} {h2 : Nat} {x3 : Int} {x4 : Int} {s0 : Int} {D1 : Nat} (hD : D = D1 + 2) (h : (¬ s0 = (-1 : Int) → ((hm_in ((M.1 0 16 3) + (M.1 0 16 7))) ∧ ((M.2 2 = none → (Q [.inl (-4 : Int)] M)) ∧ (∀ f104, M.2 2 = some f104 → ((M.2 2 = none → (False)) ∧ (∀ f113, M.2 2 = some f113 → (((M.1 0 16 3) + (M.1 0 16 7) < ((72 : Nat) : Int) → ((M.2 2 = none → (False)) ∧ (∀ f124, M.2 2 = some f124 → (((0 : Int) ≤ (M.1 0 16 3) + (M.1 0 16 7) ∧ (M.1 0 16 3) + (M.1 0 16 7) < 72) ∧ (g_Ev D 20 [.inr (1, (12 + ((M.1 0 16 3) + (M.1 0 16 7)).toNat)), .inr (1, h2)] M (fun q M' => g_R (D + 1) 68 Q 134 [.inr (0, 16), .inl x1, .inr (1, h2), .inl s0, .inl ((M.1 0 16 3) + (M.1 0 16 7))] (q ++ []) M')))))) ∧ (((72 : Nat) : Int) ≤ (M.1 0 16 3) + (M.1 0 16 7) → (Q [.inl (-4 : Int)] M))))))))) ∧ (s0 = (-1 : Int) → (g_Ev D 70 [.inr (1, h2), .inl (3 : Int), .inl x4] M (fun q M' => g_R (D + 1) 68 Q 85 [.inr (0, 16), .inl x1, .inr (1, h2), .inl s0, .inl x4] (q ++ [.inr (1, h2), .inr (0, 16)]) M')))) : g_R (D + 1) 68 Q 70 [.inr (0, 16), .inl x1, .inr (1, h2), .inl x3, .inl x4] [.inl s0] M := rg_68_70 hD h
set_option maxRecDepth 20000 in
theorem rg_68_85 {D : Nat} {Q : g_P} {M : g_M} {x1 : Int} {h2 : Nat} {x3 : Int} {x4 : Int} {s0 : Int} {q1 : Nat} {D1 : Nat} (hD : D = D1 + 2) (h : (hm_in (x1 + (1 : Int))) ∧ (g_Ev D 71 [.inr (0, 16), .inr (1, q1), .inl s0, .inl (x1 + (1 : Int))] M (fun q M' => g_R (D + 1) 68 Q 91 [.inr (0, 16), .inl x1, .inr (1, h2), .inl x3, .inl x4] (q ++ []) M'))) : g_R (D + 1) 68 Q 85 [.inr (0, 16), .inl x1, .inr (1, h2), .inl x3, .inl x4] [.inl s0, .inr (1, q1), .inr (0, 16)] M := by
  subst hD
  exact g_go hk_68 ⟨rfl, rfl⟩ (g_C_ok (g_F_ok (D := D1))) sp_68 5 h
theorem rp_68_85 {D : Nat} {Q : g_P} {M : g_M} {x1 : Int} {h2 : Nat} {x3 : Int} {x4 : Int} {s0 : Int} {q1 : Nat} {D1 : Nat} (hD : D = D1 + 2) (h : (hm_in (x1 + (1 : Int))) ∧ (g_Ev D 71 [.inr (0, 16), .inr (1, q1), .inl s0, .inl (x1 + (1 : Int))] M (fun q M' => g_R (D + 1) 68 Q 91 [.inr (0, 16), .inl x1, .inr (1, h2), .inl x3, .inl x4] (q ++ []) M'))) : g_R (D + 1) 68 Q 85 [.inr (0, 16), .inl x1, .inr (1, h2), .inl x3, .inl x4] [.inl s0, .inr (1, q1), .inr (0, 16)] M := rg_68_85 hD h
set_option maxRecDepth 20000 in
theorem rg_68_91 {D : Nat} {Q : g_P} {M : g_M} {x1 : Int} {h2 : Nat} {x3 : Int} {x4 : Int} {s0 : Int} {D1 : Nat} (hD : D = D1 + 2) (h : Q [.inl s0] M) : g_R (D + 1) 68 Q 91 [.inr (0, 16), .inl x1, .inr (1, h2), .inl x3, .inl x4] [.inl s0] M := by
  subst hD
  exact g_go hk_68 ⟨rfl, rfl⟩ (g_C_ok (g_F_ok (D := D1))) sp_68 2 h
theorem rp_68_91 {D : Nat} {Q : g_P} {M : g_M} {x1 : Int} {h2 : Nat} {x3 : Int} {x4 : Int} {s0 : Int} {D1 : Nat} (hD : D = D1 + 2) (h : Q [.inl s0] M) : g_R (D + 1) 68 Q 91 [.inr (0, 16), .inl x1, .inr (1, h2), .inl x3, .inl x4] [.inl s0] M := rg_68_91 hD h
set_option maxRecDepth 20000 in
theorem rg_68_134 {D : Nat} {Q : g_P} {M : g_M} {x1 : Int} {h2 : Nat} {x3 : Int} {x4 : Int} {D1 : Nat} (hD : D = D1 + 2) (h : (M.2 2 = none → (False)) ∧ (∀ f136, M.2 2 = some f136 → (((0 : Int) ≤ x4 ∧ x4 < 72) ∧ (g_Ev D 77 [.inr (0, 16), .inr (1, (12 + x4.toNat)), .inl x3] M (fun q M' => g_R (D + 1) 68 Q 146 [.inr (0, 16), .inl x1, .inr (1, h2), .inl x3, .inl x4] (q ++ []) M'))))) : g_R (D + 1) 68 Q 134 [.inr (0, 16), .inl x1, .inr (1, h2), .inl x3, .inl x4] [] M := by
  subst hD
  exact g_go hk_68 ⟨rfl, rfl⟩ (g_C_ok (g_F_ok (D := D1))) sp_68 8 h
theorem rp_68_134 {D : Nat} {Q : g_P} {M : g_M} {x1 : Int} {h2 : Nat} {x3 : Int} {x4 : Int} {D1 : Nat} (hD : D = D1 + 2) (h : (M.2 2 = none → (False)) ∧ (∀ f136, M.2 2 = some f136 → (((0 : Int) ≤ x4 ∧ x4 < 72) ∧ (g_Ev D 77 [.inr (0, 16), .inr (1, (12 + x4.toNat)), .inl x3] M (fun q M' => g_R (D + 1) 68 Q 146 [.inr (0, 16), .inl x1, .inr (1, h2), .inl x3, .inl x4] (q ++ []) M'))))) : g_R (D + 1) 68 Q 134 [.inr (0, 16), .inl x1, .inr (1, h2), .inl x3, .inl x4] [] M := rg_68_134 hD h
set_option maxRecDepth 20000 in
theorem rg_68_146 {D : Nat} {Q : g_P} {M : g_M} {x1 : Int} {h2 : Nat} {x3 : Int} {x4 : Int} {s0 : Int} {D1 : Nat} (hD : D = D1 + 2) (h : (¬ s0 = (0 : Int) → ((M.2 2 = none → (False)) ∧ (∀ f162, M.2 2 = some f162 → (((0 : Int) ≤ x4 ∧ x4 < 72) ∧ (g_Ev D 55 [.inr (12, 1), .inr (1, (12 + x4.toNat))] M (fun q M' => g_R (D + 1) 68 Q 171 [.inr (0, 16), .inl x1, .inr (1, h2), .inl x3, .inl x4] (q ++ [.inl (M.1 0 16 7), .inr (0, 16)]) M')))))) ∧ (s0 = (0 : Int) → (Q [.inl (-4 : Int)] M))) : g_R (D + 1) 68 Q 146 [.inr (0, 16), .inl x1, .inr (1, h2), .inl x3, .inl x4] [.inl s0] M := by
  subst hD
  exact g_go hk_68 ⟨rfl, rfl⟩ (g_C_ok (g_F_ok (D := D1))) sp_68 12 h
theorem rp_68_146 {D : Nat} {Q : g_P} {M : g_M} {x1 : Int} {h2 : Nat} {x3 : Int} {x4 : Int} {s0 : Int} {D1 : Nat} (hD : D = D1 + 2) (h : (¬ s0 = (0 : Int) → ((M.2 2 = none → (False)) ∧ (∀ f162, M.2 2 = some f162 → (((0 : Int) ≤ x4 ∧ x4 < 72) ∧ (g_Ev D 55 [.inr (12, 1), .inr (1, (12 + x4.toNat))] M (fun q M' => g_R (D + 1) 68 Q 171 [.inr (0, 16), .inl x1, .inr (1, h2), .inl x3, .inl x4] (q ++ [.inl (M.1 0 16 7), .inr (0, 16)]) M')))))) ∧ (s0 = (0 : Int) → (Q [.inl (-4 : Int)] M))) : g_R (D + 1) 68 Q 146 [.inr (0, 16), .inl x1, .inr (1, h2), .inl x3, .inl x4] [.inl s0] M := rg_68_146 hD h
set_option maxRecDepth 20000 in
theorem rg_68_171 {D : Nat} {Q : g_P} {M : g_M} {x1 : Int} {h2 : Nat} {x3 : Int} {x4 : Int} {s0 : Int} {s1 : Int} {D1 : Nat} (hD : D = D1 + 2) (h : (s0 = (0 : Int) → ((hm_in (s1 + (0 : Int))) ∧ (Q [.inl (0 : Int)] (g_uA M (0, 16) 7 (s1 + (0 : Int)))))) ∧ (¬ s0 = (0 : Int) → ((hm_in (s1 + (1 : Int))) ∧ (Q [.inl (0 : Int)] (g_uA M (0, 16) 7 (s1 + (1 : Int))))))) : g_R (D + 1) 68 Q 171 [.inr (0, 16), .inl x1, .inr (1, h2), .inl x3, .inl x4] [.inl s0, .inl s1, .inr (0, 16)] M := by
  subst hD
  exact g_go hk_68 ⟨rfl, rfl⟩ (g_C_ok (g_F_ok (D := D1))) sp_68 8 h
theorem rp_68_171 {D : Nat} {Q : g_P} {M : g_M} {x1 : Int} {h2 : Nat} {x3 : Int} {x4 : Int} {s0 : Int} {s1 : Int} {D1 : Nat} (hD : D = D1 + 2) (h : (s0 = (0 : Int) → ((hm_in (s1 + (0 : Int))) ∧ (Q [.inl (0 : Int)] (g_uA M (0, 16) 7 (s1 + (0 : Int)))))) ∧ (¬ s0 = (0 : Int) → ((hm_in (s1 + (1 : Int))) ∧ (Q [.inl (0 : Int)] (g_uA M (0, 16) 7 (s1 + (1 : Int))))))) : g_R (D + 1) 68 Q 171 [.inr (0, 16), .inl x1, .inr (1, h2), .inl x3, .inl x4] [.inl s0, .inl s1, .inr (0, 16)] M := rg_68_171 hD h
theorem hn_69 : 2 ≤ (hm_me 69).2.2.1 := by decide +kernel
/-- HeapLaw$Formula.known(I)I -/
def sp_69 (pc : Nat) : Option Nat := match pc with
  | 6 => some 4
  | 15 => some 5
  | _ => none
set_option maxRecDepth 20000 in
theorem rg_69_0 {D : Nat} {Q : g_P} {M : g_M} {h0 : Nat} {x1 : Int} {D1 : Nat} (hD : D = D1 + 2) (h : g_R (D + 1) 69 Q 6 [.inr (1, h0), .inl x1, .inl (hm_shl (1 : Int) x1), .inl (1 : Int)] [] M) : g_R (D + 1) 69 Q 0 [.inr (1, h0), .inl x1] [] M := by
  subst hD
  exact g_go hk_69 ⟨rfl, rfl⟩ (g_C_ok (g_F_ok (D := D1))) sp_69 7 h
theorem rp_69_0 {D : Nat} {Q : g_P} {M : g_M} {h0 : Nat} {x1 : Int} {D1 : Nat} (hD : D = D1 + 2) (h : g_R (D + 1) 69 Q 6 [.inr (1, h0), .inl x1, .inl (hm_shl (1 : Int) x1), .inl (1 : Int)] [] M) : g_R (D + 1) 69 Q 0 [.inr (1, h0), .inl x1] [] M := rg_69_0 hD h
set_option maxRecDepth 20000 in
theorem rg_69_6 {D : Nat} {Q : g_P} {M : g_M} {h0 : Nat} {x1 : Int} {x2 : Int} {x3 : Int} {D1 : Nat} (hD : D = D1 + 2) (h : ((8 : Int) ≤ x3 → (Q [.inl x2] M)) ∧ (x3 < (8 : Int) → (g_R (D + 1) 69 Q 15 [.inr (1, h0), .inl x1, .inl x2, .inl x3, .inl (0 : Int)] [] M))) : g_R (D + 1) 69 Q 6 [.inr (1, h0), .inl x1, .inl x2, .inl x3] [] M := by
  subst hD
  exact g_go hk_69 ⟨rfl, rfl⟩ (g_C_ok (g_F_ok (D := D1))) sp_69 6 h
theorem rp_69_6 {D : Nat} {Q : g_P} {M : g_M} {h0 : Nat} {x1 : Int} {x2 : Int} {x3 : Int} {D1 : Nat} (hD : D = D1 + 2) (h : ((8 : Int) ≤ x3 → (Q [.inl x2] M)) ∧ (x3 < (8 : Int) → (g_R (D + 1) 69 Q 15 [.inr (1, h0), .inl x1, .inl x2, .inl x3, .inl (0 : Int)] [] M))) : g_R (D + 1) 69 Q 6 [.inr (1, h0), .inl x1, .inl x2, .inl x3] [] M := rg_69_6 hD h
set_option maxRecDepth 20000 in
theorem rg_69_15 {D : Nat} {Q : g_P} {M : g_M} {h0 : Nat} {x1 : Int} {x2 : Int} {x3 : Int} {x4 : Int} {D1 : Nat} (hD : D = D1 + 2) (h : (M.1 1 h0 2 ≤ x4 → ((hm_in (x3 + (1 : Int))) ∧ (g_R (D + 1) 69 Q 6 [.inr (1, h0), .inl x1, .inl x2, .inl (x3 + (1 : Int))] [] M))) ∧ (x4 < M.1 1 h0 2 → (((0 : Int) ≤ x4 ∧ x4 < ((16 : Nat) : Int)) ∧ ((0 ≤ (M.1 2 h0 x4.toNat) ∧ (M.1 2 h0 x4.toNat) < 256) ∧ (((0 : Int) ≤ x4 ∧ x4 < ((16 : Nat) : Int)) ∧ ((0 ≤ (M.1 2 h0 x4.toNat) ∧ (M.1 2 h0 x4.toNat) < 256) ∧ (((0 : Int) ≤ x4 ∧ x4 < ((16 : Nat) : Int)) ∧ ((0 ≤ (M.1 2 h0 x4.toNat) ∧ (M.1 2 h0 x4.toNat) < 256) ∧ ((¬ (M.1 2 h0 x4.toNat) / 64 = (0 : Int) → ((hm_in (x4 + (1 : Int))) ∧ (g_R (D + 1) 69 Q 15 [.inr (1, h0), .inl x1, .inl x2, .inl x3, .inl (x4 + (1 : Int))] [] M))) ∧ ((M.1 2 h0 x4.toNat) / 64 = (0 : Int) → ((hm_and (hm_or (hm_shl (1 : Int) ((M.1 2 h0 x4.toNat) / 8 % 8)) (hm_shl (1 : Int) ((M.1 2 h0 x4.toNat) % 8))) x2 = (0 : Int) → ((hm_in (x4 + (1 : Int))) ∧ (g_R (D + 1) 69 Q 15 [.inr (1, h0), .inl x1, .inl x2, .inl x3, .inl (x4 + (1 : Int))] [] M))) ∧ (¬ hm_and (hm_or (hm_shl (1 : Int) ((M.1 2 h0 x4.toNat) / 8 % 8)) (hm_shl (1 : Int) ((M.1 2 h0 x4.toNat) % 8))) x2 = (0 : Int) → ((hm_in (x4 + (1 : Int))) ∧ (g_R (D + 1) 69 Q 15 [.inr (1, h0), .inl x1, .inl (hm_or x2 (hm_or (hm_shl (1 : Int) ((M.1 2 h0 x4.toNat) / 8 % 8)) (hm_shl (1 : Int) ((M.1 2 h0 x4.toNat) % 8)))), .inl x3, .inl (x4 + (1 : Int))] [] M)))))))))))))) : g_R (D + 1) 69 Q 15 [.inr (1, h0), .inl x1, .inl x2, .inl x3, .inl x4] [] M := by
  subst hD
  exact g_go hk_69 ⟨rfl, rfl⟩ (g_C_ok (g_F_ok (D := D1))) sp_69 37 h
set_option maxRecDepth 20000 in
theorem rp_69_15 {D : Nat} {Q : g_P} {M : g_M} {h0 : Nat} {x1 : Int} {x2 : Int} {x3 : Int} {x4 : Int} {D1 : Nat} (hD : D = D1 + 2) (h : (M.1 1 h0 2 ≤ x4 → ((hm_in (x3 + (1 : Int))) ∧ (g_R (D + 1) 69 Q 6 [.inr (1, h0), .inl x1, .inl x2, .inl (x3 + (1 : Int))] [] M))) ∧ (x4 < M.1 1 h0 2 → (((0 : Int) ≤ x4 ∧ x4 < ((16 : Nat) : Int)) ∧ ((0 ≤ (M.1 2 h0 x4.toNat) ∧ (M.1 2 h0 x4.toNat) < 256) ∧ ((¬ (M.1 2 h0 x4.toNat) / 64 = (0 : Int) → ((hm_in (x4 + (1 : Int))) ∧ (g_R (D + 1) 69 Q 15 [.inr (1, h0), .inl x1, .inl x2, .inl x3, .inl (x4 + (1 : Int))] [] M))) ∧ ((M.1 2 h0 x4.toNat) / 64 = (0 : Int) → ((hm_and (hm_or (hm_shl (1 : Int) ((M.1 2 h0 x4.toNat) / 8 % 8)) (hm_shl (1 : Int) ((M.1 2 h0 x4.toNat) % 8))) x2 = (0 : Int) → ((hm_in (x4 + (1 : Int))) ∧ (g_R (D + 1) 69 Q 15 [.inr (1, h0), .inl x1, .inl x2, .inl x3, .inl (x4 + (1 : Int))] [] M))) ∧ (¬ hm_and (hm_or (hm_shl (1 : Int) ((M.1 2 h0 x4.toNat) / 8 % 8)) (hm_shl (1 : Int) ((M.1 2 h0 x4.toNat) % 8))) x2 = (0 : Int) → ((hm_in (x4 + (1 : Int))) ∧ (g_R (D + 1) 69 Q 15 [.inr (1, h0), .inl x1, .inl (hm_or x2 (hm_or (hm_shl (1 : Int) ((M.1 2 h0 x4.toNat) / 8 % 8)) (hm_shl (1 : Int) ((M.1 2 h0 x4.toNat) % 8)))), .inl x3, .inl (x4 + (1 : Int))] [] M)))))))))) : g_R (D + 1) 69 Q 15 [.inr (1, h0), .inl x1, .inl x2, .inl x3, .inl x4] [] M :=
  rg_69_15 hD ⟨fun b1 => (have a3 := And.left (And.left h b1); ⟨a3, (And.right (And.left h b1))⟩), fun b2 => (have a4 := And.left (And.right h b2); ⟨a4, (have a5 := And.left (And.right (And.right h b2)); ⟨a5, ⟨a4, ⟨a5, ⟨a4, ⟨a5, ⟨fun b6 => (have a8 := And.left (And.left (And.right (And.right (And.right h b2))) b6); ⟨a8, (And.right (And.left (And.right (And.right (And.right h b2))) b6))⟩), fun b7 => ⟨fun b9 => (have a11 := And.left (And.left (And.right (And.right (And.right (And.right h b2))) b7) b9); ⟨a11, (And.right (And.left (And.right (And.right (And.right (And.right h b2))) b7) b9))⟩), fun b10 => (have a12 := And.left (And.right (And.right (And.right (And.right (And.right h b2))) b7) b10); ⟨a12, (And.right (And.right (And.right (And.right (And.right (And.right h b2))) b7) b10))⟩)⟩⟩⟩⟩⟩⟩⟩)⟩)⟩
theorem hn_70 : 3 ≤ (hm_me 70).2.2.1 := by decide +kernel
/-- HeapLaw$Formula.firstFrom(II)I -/
def sp_70 (pc : Nat) : Option Nat := match pc with
  | 2 => some 4
  | _ => none
set_option maxRecDepth 20000 in
theorem rg_70_0 {D : Nat} {Q : g_P} {M : g_M} {h0 : Nat} {x1 : Int} {x2 : Int} {D1 : Nat} (hD : D = D1 + 2) (h : g_R (D + 1) 70 Q 2 [.inr (1, h0), .inl x1, .inl x2, .inl (0 : Int)] [] M) : g_R (D + 1) 70 Q 0 [.inr (1, h0), .inl x1, .inl x2] [] M := by
  subst hD
  exact g_go hk_70 ⟨rfl, rfl⟩ (g_C_ok (g_F_ok (D := D1))) sp_70 3 h
theorem rp_70_0 {D : Nat} {Q : g_P} {M : g_M} {h0 : Nat} {x1 : Int} {x2 : Int} {D1 : Nat} (hD : D = D1 + 2) (h : g_R (D + 1) 70 Q 2 [.inr (1, h0), .inl x1, .inl x2, .inl (0 : Int)] [] M) : g_R (D + 1) 70 Q 0 [.inr (1, h0), .inl x1, .inl x2] [] M := rg_70_0 hD h
set_option maxRecDepth 20000 in
theorem rg_70_2 {D : Nat} {Q : g_P} {M : g_M} {h0 : Nat} {x1 : Int} {x2 : Int} {x3 : Int} {D1 : Nat} (hD : D = D1 + 2) (h : (M.1 1 h0 3 ≤ x3 → (Q [.inl (-1 : Int)] M)) ∧ (x3 < M.1 1 h0 3 → (((0 : Int) ≤ x3 ∧ x3 < ((10 : Nat) : Int)) ∧ ((0 ≤ (M.1 3 h0 x3.toNat) ∧ (M.1 3 h0 x3.toNat) < 256) ∧ ((¬ (M.1 3 h0 x3.toNat) / 64 = x1 → ((hm_in (x3 + (1 : Int))) ∧ (g_R (D + 1) 70 Q 2 [.inr (1, h0), .inl x1, .inl x2, .inl (x3 + (1 : Int))] [] M))) ∧ ((M.1 3 h0 x3.toNat) / 64 = x1 → (((0 : Int) ≤ x3 ∧ x3 < ((10 : Nat) : Int)) ∧ ((0 ≤ (M.1 3 h0 x3.toNat) ∧ (M.1 3 h0 x3.toNat) < 256) ∧ (((0 ≤ x2 ∧ x2 < 1024) ∧ (0 ≤ ((M.1 3 h0 x3.toNat) / 8 % 8) ∧ ((M.1 3 h0 x3.toNat) / 8 % 8) < 10)) ∧ ((g_bit x2 ((M.1 3 h0 x3.toNat) / 8 % 8) → (((1 : Int) = (0 : Int) → ((hm_in (x3 + (1 : Int))) ∧ (g_R (D + 1) 70 Q 2 [.inr (1, h0), .inl x1, .inl x2, .inl (x3 + (1 : Int))] [] M))) ∧ (¬ (1 : Int) = (0 : Int) → (Q [.inl x3] M)))) ∧ (¬ g_bit x2 ((M.1 3 h0 x3.toNat) / 8 % 8) → (((0 : Int) = (0 : Int) → ((hm_in (x3 + (1 : Int))) ∧ (g_R (D + 1) 70 Q 2 [.inr (1, h0), .inl x1, .inl x2, .inl (x3 + (1 : Int))] [] M))) ∧ (¬ (0 : Int) = (0 : Int) → (Q [.inl x3] M)))))))))))))) : g_R (D + 1) 70 Q 2 [.inr (1, h0), .inl x1, .inl x2, .inl x3] [] M := by
  subst hD
  exact g_go hk_70 ⟨rfl, rfl⟩ (g_C_ok (g_F_ok (D := D1))) sp_70 22 h
set_option maxRecDepth 20000 in
theorem rp_70_2 {D : Nat} {Q : g_P} {M : g_M} {h0 : Nat} {x1 : Int} {x2 : Int} {x3 : Int} {D1 : Nat} (hD : D = D1 + 2) (h : (M.1 1 h0 3 ≤ x3 → (Q [.inl (-1 : Int)] M)) ∧ (x3 < M.1 1 h0 3 → (((0 : Int) ≤ x3 ∧ x3 < ((10 : Nat) : Int)) ∧ ((0 ≤ (M.1 3 h0 x3.toNat) ∧ (M.1 3 h0 x3.toNat) < 256) ∧ ((¬ (M.1 3 h0 x3.toNat) / 64 = x1 → ((hm_in (x3 + (1 : Int))) ∧ (g_R (D + 1) 70 Q 2 [.inr (1, h0), .inl x1, .inl x2, .inl (x3 + (1 : Int))] [] M))) ∧ ((M.1 3 h0 x3.toNat) / 64 = x1 → (((0 ≤ x2 ∧ x2 < 1024) ∧ (0 ≤ ((M.1 3 h0 x3.toNat) / 8 % 8) ∧ ((M.1 3 h0 x3.toNat) / 8 % 8) < 10)) ∧ ((g_bit x2 ((M.1 3 h0 x3.toNat) / 8 % 8) → (Q [.inl x3] M)) ∧ (¬ g_bit x2 ((M.1 3 h0 x3.toNat) / 8 % 8) → ((hm_in (x3 + (1 : Int))) ∧ (g_R (D + 1) 70 Q 2 [.inr (1, h0), .inl x1, .inl x2, .inl (x3 + (1 : Int))] [] M))))))))))) : g_R (D + 1) 70 Q 2 [.inr (1, h0), .inl x1, .inl x2, .inl x3] [] M :=
  rg_70_2 hD ⟨fun b1 => (And.left h b1), fun b2 => (have a3 := And.left (And.right h b2); ⟨a3, (have a4 := And.left (And.right (And.right h b2)); ⟨a4, ⟨fun b5 => (have a7 := And.left (And.left (And.right (And.right (And.right h b2))) b5); ⟨a7, (And.right (And.left (And.right (And.right (And.right h b2))) b5))⟩), fun b6 => ⟨a3, ⟨a4, (have a8 := And.left (And.right (And.right (And.right (And.right h b2))) b6); ⟨a8, ⟨fun b9 => ⟨(fun z => absurd z (by decide)), fun _ => (And.left (And.right (And.right (And.right (And.right (And.right h b2))) b6)) b9)⟩, fun b10 => ⟨fun _ => (have a11 := And.left (And.right (And.right (And.right (And.right (And.right (And.right h b2))) b6)) b10); ⟨a11, (And.right (And.right (And.right (And.right (And.right (And.right (And.right h b2))) b6)) b10))⟩), (fun z => absurd z (by decide))⟩⟩⟩)⟩⟩⟩⟩)⟩)⟩
theorem hn_71 : 4 ≤ (hm_me 71).2.2.1 := by decide +kernel
/-- HeapLaw$Stepper.open(LHeapLaw$Formula;II)I -/
def sp_71 (pc : Nat) : Option Nat := match pc with
  | 34 => some 5
  | 40 => some 5
  | 51 => some 5
  | 67 => some 6
  | 73 => some 6
  | 81 => some 6
  | _ => none
set_option maxRecDepth 20000 in
theorem rg_71_0 {D : Nat} {Q : g_P} {M : g_M} {h1 : Nat} {x2 : Int} {x3 : Int} {D1 : Nat} (hD : D = D1 + 2) (h : (¬ x2 = (-1 : Int) → ((x3 < ((12 : Nat) : Int) → (((0 : Int) ≤ x3 ∧ x3 < 12) ∧ (g_Ev D 20 [.inr (1, x3.toNat), .inr (1, h1)] M (fun q M' => g_R (D + 1) 71 Q 34 [.inr (0, 16), .inr (1, h1), .inl x2, .inl x3, .inr (1, x3.toNat)] (q ++ []) M')))) ∧ (((12 : Nat) : Int) ≤ x3 → (Q [.inl (-4 : Int)] M)))) ∧ (x2 = (-1 : Int) → (Q [.inl (-5 : Int)] M))) : g_R (D + 1) 71 Q 0 [.inr (0, 16), .inr (1, h1), .inl x2, .inl x3] [] M := by
  subst hD
  exact g_go hk_71 ⟨rfl, rfl⟩ (g_C_ok (g_F_ok (D := D1))) sp_71 17 h
theorem rp_71_0 {D : Nat} {Q : g_P} {M : g_M} {h1 : Nat} {x2 : Int} {x3 : Int} {D1 : Nat} (hD : D = D1 + 2) (h : (¬ x2 = (-1 : Int) → ((x3 < ((12 : Nat) : Int) → (((0 : Int) ≤ x3 ∧ x3 < 12) ∧ (g_Ev D 20 [.inr (1, x3.toNat), .inr (1, h1)] M (fun q M' => g_R (D + 1) 71 Q 34 [.inr (0, 16), .inr (1, h1), .inl x2, .inl x3, .inr (1, x3.toNat)] (q ++ []) M')))) ∧ (((12 : Nat) : Int) ≤ x3 → (Q [.inl (-4 : Int)] M)))) ∧ (x2 = (-1 : Int) → (Q [.inl (-5 : Int)] M))) : g_R (D + 1) 71 Q 0 [.inr (0, 16), .inr (1, h1), .inl x2, .inl x3] [] M := rg_71_0 hD h
set_option maxRecDepth 20000 in
theorem rg_71_34 {D : Nat} {Q : g_P} {M : g_M} {h1 : Nat} {x2 : Int} {x3 : Int} {h4 : Nat} {D1 : Nat} (hD : D = D1 + 2) (h : g_Ev D 72 [.inr (1, h4), .inl x2] M (fun q M' => g_R (D + 1) 71 Q 40 [.inr (0, 16), .inr (1, h1), .inl x2, .inl x3, .inr (1, h4)] (q ++ []) M')) : g_R (D + 1) 71 Q 34 [.inr (0, 16), .inr (1, h1), .inl x2, .inl x3, .inr (1, h4)] [] M := by
  subst hD
  exact g_go hk_71 ⟨rfl, rfl⟩ (g_C_ok (g_F_ok (D := D1))) sp_71 4 h
theorem rp_71_34 {D : Nat} {Q : g_P} {M : g_M} {h1 : Nat} {x2 : Int} {x3 : Int} {h4 : Nat} {D1 : Nat} (hD : D = D1 + 2) (h : g_Ev D 72 [.inr (1, h4), .inl x2] M (fun q M' => g_R (D + 1) 71 Q 40 [.inr (0, 16), .inr (1, h1), .inl x2, .inl x3, .inr (1, h4)] (q ++ []) M')) : g_R (D + 1) 71 Q 34 [.inr (0, 16), .inr (1, h1), .inl x2, .inl x3, .inr (1, h4)] [] M := rg_71_34 hD h
set_option maxRecDepth 20000 in
theorem rg_71_40 {D : Nat} {Q : g_P} {M : g_M} {h1 : Nat} {x2 : Int} {x3 : Int} {h4 : Nat} {s0 : Int} {D1 : Nat} (hD : D = D1 + 2) (h : (¬ s0 = (0 : Int) → (g_Ev D 68 [.inr (0, 16), .inl x3] M (fun q M' => g_R (D + 1) 71 Q 51 [.inr (0, 16), .inr (1, h1), .inl x2, .inl x3, .inr (1, h4)] (q ++ []) M'))) ∧ (s0 = (0 : Int) → (Q [.inl (-4 : Int)] M))) : g_R (D + 1) 71 Q 40 [.inr (0, 16), .inr (1, h1), .inl x2, .inl x3, .inr (1, h4)] [.inl s0] M := by
  subst hD
  exact g_go hk_71 ⟨rfl, rfl⟩ (g_C_ok (g_F_ok (D := D1))) sp_71 5 h
theorem rp_71_40 {D : Nat} {Q : g_P} {M : g_M} {h1 : Nat} {x2 : Int} {x3 : Int} {h4 : Nat} {s0 : Int} {D1 : Nat} (hD : D = D1 + 2) (h : (¬ s0 = (0 : Int) → (g_Ev D 68 [.inr (0, 16), .inl x3] M (fun q M' => g_R (D + 1) 71 Q 51 [.inr (0, 16), .inr (1, h1), .inl x2, .inl x3, .inr (1, h4)] (q ++ []) M'))) ∧ (s0 = (0 : Int) → (Q [.inl (-4 : Int)] M))) : g_R (D + 1) 71 Q 40 [.inr (0, 16), .inr (1, h1), .inl x2, .inl x3, .inr (1, h4)] [.inl s0] M := rg_71_40 hD h
set_option maxRecDepth 20000 in
theorem rg_71_51 {D : Nat} {Q : g_P} {M : g_M} {h1 : Nat} {x2 : Int} {x3 : Int} {h4 : Nat} {s0 : Int} {D1 : Nat} (hD : D = D1 + 2) (h : ((0 : Int) ≤ s0 → (g_Ev D 20 [.inr (1, h4), .inr (1, h1)] M (fun q M' => g_R (D + 1) 71 Q 67 [.inr (0, 16), .inr (1, h1), .inl x2, .inl x3, .inr (1, h4), .inl s0] (q ++ []) M'))) ∧ (s0 < (0 : Int) → (Q [.inl s0] M))) : g_R (D + 1) 71 Q 51 [.inr (0, 16), .inr (1, h1), .inl x2, .inl x3, .inr (1, h4)] [.inl s0] M := by
  subst hD
  exact g_go hk_71 ⟨rfl, rfl⟩ (g_C_ok (g_F_ok (D := D1))) sp_71 7 h
theorem rp_71_51 {D : Nat} {Q : g_P} {M : g_M} {h1 : Nat} {x2 : Int} {x3 : Int} {h4 : Nat} {s0 : Int} {D1 : Nat} (hD : D = D1 + 2) (h : ((0 : Int) ≤ s0 → (g_Ev D 20 [.inr (1, h4), .inr (1, h1)] M (fun q M' => g_R (D + 1) 71 Q 67 [.inr (0, 16), .inr (1, h1), .inl x2, .inl x3, .inr (1, h4), .inl s0] (q ++ []) M'))) ∧ (s0 < (0 : Int) → (Q [.inl s0] M))) : g_R (D + 1) 71 Q 51 [.inr (0, 16), .inr (1, h1), .inl x2, .inl x3, .inr (1, h4)] [.inl s0] M := rg_71_51 hD h
set_option maxRecDepth 20000 in
theorem rg_71_67 {D : Nat} {Q : g_P} {M : g_M} {h1 : Nat} {x2 : Int} {x3 : Int} {h4 : Nat} {x5 : Int} {D1 : Nat} (hD : D = D1 + 2) (h : g_Ev D 75 [.inr (1, h4), .inl x2] M (fun q M' => g_R (D + 1) 71 Q 73 [.inr (0, 16), .inr (1, h1), .inl x2, .inl x3, .inr (1, h4), .inl x5] (q ++ []) M')) : g_R (D + 1) 71 Q 67 [.inr (0, 16), .inr (1, h1), .inl x2, .inl x3, .inr (1, h4), .inl x5] [] M := by
  subst hD
  exact g_go hk_71 ⟨rfl, rfl⟩ (g_C_ok (g_F_ok (D := D1))) sp_71 4 h
theorem rp_71_67 {D : Nat} {Q : g_P} {M : g_M} {h1 : Nat} {x2 : Int} {x3 : Int} {h4 : Nat} {x5 : Int} {D1 : Nat} (hD : D = D1 + 2) (h : g_Ev D 75 [.inr (1, h4), .inl x2] M (fun q M' => g_R (D + 1) 71 Q 73 [.inr (0, 16), .inr (1, h1), .inl x2, .inl x3, .inr (1, h4), .inl x5] (q ++ []) M')) : g_R (D + 1) 71 Q 67 [.inr (0, 16), .inr (1, h1), .inl x2, .inl x3, .inr (1, h4), .inl x5] [] M := rg_71_67 hD h
set_option maxRecDepth 20000 in
theorem rg_71_73 {D : Nat} {Q : g_P} {M : g_M} {h1 : Nat} {x2 : Int} {x3 : Int} {h4 : Nat} {x5 : Int} {s0 : Int} {D1 : Nat} (hD : D = D1 + 2) (h : (s0 = (0 : Int) → (Q [.inl (-4 : Int)] M)) ∧ (¬ s0 = (0 : Int) → (g_Ev D 68 [.inr (0, 16), .inl x3] M (fun q M' => g_R (D + 1) 71 Q 81 [.inr (0, 16), .inr (1, h1), .inl x2, .inl x3, .inr (1, h4), .inl x5] (q ++ []) M')))) : g_R (D + 1) 71 Q 73 [.inr (0, 16), .inr (1, h1), .inl x2, .inl x3, .inr (1, h4), .inl x5] [.inl s0] M := by
  subst hD
  exact g_go hk_71 ⟨rfl, rfl⟩ (g_C_ok (g_F_ok (D := D1))) sp_71 5 h
theorem rp_71_73 {D : Nat} {Q : g_P} {M : g_M} {h1 : Nat} {x2 : Int} {x3 : Int} {h4 : Nat} {x5 : Int} {s0 : Int} {D1 : Nat} (hD : D = D1 + 2) (h : (s0 = (0 : Int) → (Q [.inl (-4 : Int)] M)) ∧ (¬ s0 = (0 : Int) → (g_Ev D 68 [.inr (0, 16), .inl x3] M (fun q M' => g_R (D + 1) 71 Q 81 [.inr (0, 16), .inr (1, h1), .inl x2, .inl x3, .inr (1, h4), .inl x5] (q ++ []) M')))) : g_R (D + 1) 71 Q 73 [.inr (0, 16), .inr (1, h1), .inl x2, .inl x3, .inr (1, h4), .inl x5] [.inl s0] M := rg_71_73 hD h
set_option maxRecDepth 20000 in
theorem rg_71_81 {D : Nat} {Q : g_P} {M : g_M} {h1 : Nat} {x2 : Int} {x3 : Int} {h4 : Nat} {x5 : Int} {s0 : Int} {D1 : Nat} (hD : D = D1 + 2) (h : Q [.inl s0] M) : g_R (D + 1) 71 Q 81 [.inr (0, 16), .inr (1, h1), .inl x2, .inl x3, .inr (1, h4), .inl x5] [.inl s0] M := by
  subst hD
  exact g_go hk_71 ⟨rfl, rfl⟩ (g_C_ok (g_F_ok (D := D1))) sp_71 3 h
theorem rp_71_81 {D : Nat} {Q : g_P} {M : g_M} {h1 : Nat} {x2 : Int} {x3 : Int} {h4 : Nat} {x5 : Int} {s0 : Int} {D1 : Nat} (hD : D = D1 + 2) (h : Q [.inl s0] M) : g_R (D + 1) 71 Q 81 [.inr (0, 16), .inr (1, h1), .inl x2, .inl x3, .inr (1, h4), .inl x5] [.inl s0] M := rg_71_81 hD h
theorem hn_72 : 2 ≤ (hm_me 72).2.2.1 := by decide +kernel
/-- HeapLaw$Stepper.makeEmpty(LHeapLaw$Formula;I)Z -/
def sp_72 (pc : Nat) : Option Nat := match pc with
  | 12 => some 3
  | 28 => some 3
  | _ => none
set_option maxRecDepth 20000 in
theorem rg_72_0 {D : Nat} {Q : g_P} {M : g_M} {h0 : Nat} {x1 : Int} {D1 : Nat} (hD : D = D1 + 2) (h : ((0 : Int) ≤ x1 ∧ x1 < ((10 : Nat) : Int)) ∧ (g_Ev D 73 [.inr (1, h0), .inl x1] M (fun q M' => g_R (D + 1) 72 Q 12 [.inr (1, h0), .inl x1, .inl (M.1 3 h0 x1.toNat)] (q ++ []) M'))) : g_R (D + 1) 72 Q 0 [.inr (1, h0), .inl x1] [] M := by
  subst hD
  exact g_go hk_72 ⟨rfl, rfl⟩ (g_C_ok (g_F_ok (D := D1))) sp_72 9 h
theorem rp_72_0 {D : Nat} {Q : g_P} {M : g_M} {h0 : Nat} {x1 : Int} {D1 : Nat} (hD : D = D1 + 2) (h : ((0 : Int) ≤ x1 ∧ x1 < ((10 : Nat) : Int)) ∧ (g_Ev D 73 [.inr (1, h0), .inl x1] M (fun q M' => g_R (D + 1) 72 Q 12 [.inr (1, h0), .inl x1, .inl (M.1 3 h0 x1.toNat)] (q ++ []) M'))) : g_R (D + 1) 72 Q 0 [.inr (1, h0), .inl x1] [] M := rg_72_0 hD h
set_option maxRecDepth 20000 in
theorem rg_72_12 {D : Nat} {Q : g_P} {M : g_M} {h0 : Nat} {x1 : Int} {x2 : Int} {D1 : Nat} (hD : D = D1 + 2) (h : (0 ≤ x2 ∧ x2 < 256) ∧ ((0 ≤ x2 ∧ x2 < 256) ∧ (((0 ≤ (0 : Int) ∧ (0 : Int) < 4) ∧ (0 ≤ (x2 / 8 % 8) ∧ (x2 / 8 % 8) < 8) ∧ (0 ≤ (x2 % 8) ∧ (x2 % 8) < 8)) ∧ (g_Ev D 74 [.inr (1, h0), .inl (64 * (0 : Int) + 8 * (x2 / 8 % 8) + (x2 % 8))] M (fun q M' => g_R (D + 1) 72 Q 28 [.inr (1, h0), .inl x1, .inl x2] (q ++ []) M'))))) : g_R (D + 1) 72 Q 12 [.inr (1, h0), .inl x1, .inl x2] [] M := by
  subst hD
  exact g_go hk_72 ⟨rfl, rfl⟩ (g_C_ok (g_F_ok (D := D1))) sp_72 9 h
set_option maxRecDepth 20000 in
theorem rp_72_12 {D : Nat} {Q : g_P} {M : g_M} {h0 : Nat} {x1 : Int} {x2 : Int} {D1 : Nat} (hD : D = D1 + 2) (h : (0 ≤ x2 ∧ x2 < 256) ∧ (((0 ≤ (0 : Int) ∧ (0 : Int) < 4) ∧ (0 ≤ (x2 / 8 % 8) ∧ (x2 / 8 % 8) < 8) ∧ (0 ≤ (x2 % 8) ∧ (x2 % 8) < 8)) ∧ (g_Ev D 74 [.inr (1, h0), .inl (64 * (0 : Int) + 8 * (x2 / 8 % 8) + (x2 % 8))] M (fun q M' => g_R (D + 1) 72 Q 28 [.inr (1, h0), .inl x1, .inl x2] (q ++ []) M')))) : g_R (D + 1) 72 Q 12 [.inr (1, h0), .inl x1, .inl x2] [] M :=
  rg_72_12 hD (have a1 := And.left h; ⟨a1, ⟨a1, (have a2 := And.left (And.right h); ⟨a2, (And.right (And.right h))⟩)⟩⟩)
set_option maxRecDepth 20000 in
theorem rg_72_28 {D : Nat} {Q : g_P} {M : g_M} {h0 : Nat} {x1 : Int} {x2 : Int} {s0 : Int} {D1 : Nat} (hD : D = D1 + 2) (h : ((0 : Int) ≤ s0 ∧ s0 ≤ 1) ∧ (Q [.inl s0] M)) : g_R (D + 1) 72 Q 28 [.inr (1, h0), .inl x1, .inl x2] [.inl s0] M := by
  subst hD
  exact g_go hk_72 ⟨rfl, rfl⟩ (g_C_ok (g_F_ok (D := D1))) sp_72 2 h
theorem rp_72_28 {D : Nat} {Q : g_P} {M : g_M} {h0 : Nat} {x1 : Int} {x2 : Int} {s0 : Int} {D1 : Nat} (hD : D = D1 + 2) (h : ((0 : Int) ≤ s0 ∧ s0 ≤ 1) ∧ (Q [.inl s0] M)) : g_R (D + 1) 72 Q 28 [.inr (1, h0), .inl x1, .inl x2] [.inl s0] M := rg_72_28 hD h
theorem hn_73 : 2 ≤ (hm_me 73).2.2.1 := by decide +kernel
/-- HeapLaw$Formula.removePart(I)V -/
def sp_73 (pc : Nat) : Option Nat := match pc with
  | 25 => some 3
  | _ => none
set_option maxRecDepth 20000 in
theorem rg_73_0 {D : Nat} {Q : g_P} {M : g_M} {h0 : Nat} {x1 : Int} {D1 : Nat} (hD : D = D1 + 2) (h : (x1 < (0 : Int) → (Q [] M)) ∧ ((0 : Int) ≤ x1 → ((x1 < M.1 1 h0 3 → ((hm_in ((M.1 1 h0 3) - (1 : Int))) ∧ (g_R (D + 1) 73 Q 25 [.inr (1, h0), .inl x1, .inl x1] [] (g_uA M (1, h0) 3 ((M.1 1 h0 3) - (1 : Int)))))) ∧ (M.1 1 h0 3 ≤ x1 → (Q [] M))))) : g_R (D + 1) 73 Q 0 [.inr (1, h0), .inl x1] [] M := by
  subst hD
  exact g_go hk_73 ⟨rfl, rfl⟩ (g_C_ok (g_F_ok (D := D1))) sp_73 15 h
theorem rp_73_0 {D : Nat} {Q : g_P} {M : g_M} {h0 : Nat} {x1 : Int} {D1 : Nat} (hD : D = D1 + 2) (h : (x1 < (0 : Int) → (Q [] M)) ∧ ((0 : Int) ≤ x1 → ((x1 < M.1 1 h0 3 → ((hm_in ((M.1 1 h0 3) - (1 : Int))) ∧ (g_R (D + 1) 73 Q 25 [.inr (1, h0), .inl x1, .inl x1] [] (g_uA M (1, h0) 3 ((M.1 1 h0 3) - (1 : Int)))))) ∧ (M.1 1 h0 3 ≤ x1 → (Q [] M))))) : g_R (D + 1) 73 Q 0 [.inr (1, h0), .inl x1] [] M := rg_73_0 hD h
set_option maxRecDepth 20000 in
theorem rg_73_25 {D : Nat} {Q : g_P} {M : g_M} {h0 : Nat} {x1 : Int} {x2 : Int} {D1 : Nat} (hD : D = D1 + 2) (h : (M.1 1 h0 3 ≤ x2 → (Q [] M)) ∧ (x2 < M.1 1 h0 3 → ((hm_in (x2 + (1 : Int))) ∧ (((0 : Int) ≤ x2 + (1 : Int) ∧ x2 + (1 : Int) < ((10 : Nat) : Int)) ∧ (((0 : Int) ≤ x2 ∧ x2 < ((10 : Nat) : Int)) ∧ ((hm_in (x2 + (1 : Int))) ∧ (g_R (D + 1) 73 Q 25 [.inr (1, h0), .inl x1, .inl (x2 + (1 : Int))] [] (g_uA M (3, h0) x2.toNat (M.1 3 h0 (x2 + (1 : Int)).toNat))))))))) : g_R (D + 1) 73 Q 25 [.inr (1, h0), .inl x1, .inl x2] [] M := by
  subst hD
  exact g_go hk_73 ⟨rfl, rfl⟩ (g_C_ok (g_F_ok (D := D1))) sp_73 17 h
set_option maxRecDepth 20000 in
theorem rp_73_25 {D : Nat} {Q : g_P} {M : g_M} {h0 : Nat} {x1 : Int} {x2 : Int} {D1 : Nat} (hD : D = D1 + 2) (h : (M.1 1 h0 3 ≤ x2 → (Q [] M)) ∧ (x2 < M.1 1 h0 3 → ((hm_in (x2 + (1 : Int))) ∧ (((0 : Int) ≤ x2 + (1 : Int) ∧ x2 + (1 : Int) < ((10 : Nat) : Int)) ∧ (((0 : Int) ≤ x2 ∧ x2 < ((10 : Nat) : Int)) ∧ (g_R (D + 1) 73 Q 25 [.inr (1, h0), .inl x1, .inl (x2 + (1 : Int))] [] (g_uA M (3, h0) x2.toNat (M.1 3 h0 (x2 + (1 : Int)).toNat)))))))) : g_R (D + 1) 73 Q 25 [.inr (1, h0), .inl x1, .inl x2] [] M :=
  rg_73_25 hD ⟨fun b1 => (And.left h b1), fun b2 => (have a3 := And.left (And.right h b2); ⟨a3, (have a4 := And.left (And.right (And.right h b2)); ⟨a4, (have a5 := And.left (And.right (And.right (And.right h b2))); ⟨a5, ⟨a3, (And.right (And.right (And.right (And.right h b2))))⟩⟩)⟩)⟩)⟩
theorem hn_74 : 2 ≤ (hm_me 74).2.2.1 := by decide +kernel
/-- HeapLaw$Formula.putPure(I)Z -/
def sp_74 (pc : Nat) : Option Nat := match pc with
  | 2 => some 3
  | 33 => some 3
  | _ => none
set_option maxRecDepth 20000 in
theorem rg_74_0 {D : Nat} {Q : g_P} {M : g_M} {h0 : Nat} {x1 : Int} {D1 : Nat} (hD : D = D1 + 2) (h : g_R (D + 1) 74 Q 2 [.inr (1, h0), .inl x1, .inl (0 : Int)] [] M) : g_R (D + 1) 74 Q 0 [.inr (1, h0), .inl x1] [] M := by
  subst hD
  exact g_go hk_74 ⟨rfl, rfl⟩ (g_C_ok (g_F_ok (D := D1))) sp_74 3 h
theorem rp_74_0 {D : Nat} {Q : g_P} {M : g_M} {h0 : Nat} {x1 : Int} {D1 : Nat} (hD : D = D1 + 2) (h : g_R (D + 1) 74 Q 2 [.inr (1, h0), .inl x1, .inl (0 : Int)] [] M) : g_R (D + 1) 74 Q 0 [.inr (1, h0), .inl x1] [] M := rg_74_0 hD h
set_option maxRecDepth 20000 in
theorem rg_74_2 {D : Nat} {Q : g_P} {M : g_M} {h0 : Nat} {x1 : Int} {x2 : Int} {D1 : Nat} (hD : D = D1 + 2) (h : (M.1 1 h0 2 ≤ x2 → (g_Ev D 15 [.inr (1, h0), .inl x1] M (fun q M' => g_R (D + 1) 74 Q 33 [.inr (1, h0), .inl x1, .inl x2] (q ++ []) M'))) ∧ (x2 < M.1 1 h0 2 → (((0 : Int) ≤ x2 ∧ x2 < ((16 : Nat) : Int)) ∧ ((¬ M.1 2 h0 x2.toNat = x1 → ((hm_in (x2 + (1 : Int))) ∧ (g_R (D + 1) 74 Q 2 [.inr (1, h0), .inl x1, .inl (x2 + (1 : Int))] [] M))) ∧ (M.1 2 h0 x2.toNat = x1 → (((0 : Int) ≤ (1 : Int) ∧ (1 : Int) ≤ 1) ∧ (Q [.inl (1 : Int)] M))))))) : g_R (D + 1) 74 Q 2 [.inr (1, h0), .inl x1, .inl x2] [] M := by
  subst hD
  exact g_go hk_74 ⟨rfl, rfl⟩ (g_C_ok (g_F_ok (D := D1))) sp_74 13 h
set_option maxRecDepth 20000 in
theorem rp_74_2 {D : Nat} {Q : g_P} {M : g_M} {h0 : Nat} {x1 : Int} {x2 : Int} {D1 : Nat} (hD : D = D1 + 2) (h : (M.1 1 h0 2 ≤ x2 → (g_Ev D 15 [.inr (1, h0), .inl x1] M (fun q M' => g_R (D + 1) 74 Q 33 [.inr (1, h0), .inl x1, .inl x2] (q ++ []) M'))) ∧ (x2 < M.1 1 h0 2 → (((0 : Int) ≤ x2 ∧ x2 < ((16 : Nat) : Int)) ∧ ((¬ M.1 2 h0 x2.toNat = x1 → ((hm_in (x2 + (1 : Int))) ∧ (g_R (D + 1) 74 Q 2 [.inr (1, h0), .inl x1, .inl (x2 + (1 : Int))] [] M))) ∧ (M.1 2 h0 x2.toNat = x1 → (Q [.inl (1 : Int)] M)))))) : g_R (D + 1) 74 Q 2 [.inr (1, h0), .inl x1, .inl x2] [] M :=
  rg_74_2 hD ⟨fun b1 => (And.left h b1), fun b2 => (have a3 := And.left (And.right h b2); ⟨a3, ⟨fun b4 => (have a6 := And.left (And.left (And.right (And.right h b2)) b4); ⟨a6, (And.right (And.left (And.right (And.right h b2)) b4))⟩), fun b5 => ⟨by decide, (And.right (And.right (And.right h b2)) b5)⟩⟩⟩)⟩
set_option maxRecDepth 20000 in
theorem rg_74_33 {D : Nat} {Q : g_P} {M : g_M} {h0 : Nat} {x1 : Int} {x2 : Int} {s0 : Int} {D1 : Nat} (hD : D = D1 + 2) (h : ((0 : Int) ≤ s0 ∧ s0 ≤ 1) ∧ (Q [.inl s0] M)) : g_R (D + 1) 74 Q 33 [.inr (1, h0), .inl x1, .inl x2] [.inl s0] M := by
  subst hD
  exact g_go hk_74 ⟨rfl, rfl⟩ (g_C_ok (g_F_ok (D := D1))) sp_74 2 h
theorem rp_74_33 {D : Nat} {Q : g_P} {M : g_M} {h0 : Nat} {x1 : Int} {x2 : Int} {s0 : Int} {D1 : Nat} (hD : D = D1 + 2) (h : ((0 : Int) ≤ s0 ∧ s0 ≤ 1) ∧ (Q [.inl s0] M)) : g_R (D + 1) 74 Q 33 [.inr (1, h0), .inl x1, .inl x2] [.inl s0] M := rg_74_33 hD h
theorem hn_75 : 2 ≤ (hm_me 75).2.2.1 := by decide +kernel
/-- HeapLaw$Stepper.makeLonger(LHeapLaw$Formula;I)Z -/
def sp_75 (pc : Nat) : Option Nat := match pc with
  | 11 => some 3
  | 53 => some 4
  | 72 => some 4
  | _ => none
set_option maxRecDepth 20000 in
theorem rg_75_0 {D : Nat} {Q : g_P} {M : g_M} {h0 : Nat} {x1 : Int} {D1 : Nat} (hD : D = D1 + 2) (h : ((0 : Int) ≤ x1 ∧ x1 < ((10 : Nat) : Int)) ∧ (g_Ev D 40 [.inr (1, h0)] M (fun q M' => g_R (D + 1) 75 Q 11 [.inr (1, h0), .inl x1, .inl (M.1 3 h0 x1.toNat)] (q ++ []) M'))) : g_R (D + 1) 75 Q 0 [.inr (1, h0), .inl x1] [] M := by
  subst hD
  exact g_go hk_75 ⟨rfl, rfl⟩ (g_C_ok (g_F_ok (D := D1))) sp_75 8 h
theorem rp_75_0 {D : Nat} {Q : g_P} {M : g_M} {h0 : Nat} {x1 : Int} {D1 : Nat} (hD : D = D1 + 2) (h : ((0 : Int) ≤ x1 ∧ x1 < ((10 : Nat) : Int)) ∧ (g_Ev D 40 [.inr (1, h0)] M (fun q M' => g_R (D + 1) 75 Q 11 [.inr (1, h0), .inl x1, .inl (M.1 3 h0 x1.toNat)] (q ++ []) M'))) : g_R (D + 1) 75 Q 0 [.inr (1, h0), .inl x1] [] M := rg_75_0 hD h
set_option maxRecDepth 20000 in
theorem rg_75_11 {D : Nat} {Q : g_P} {M : g_M} {h0 : Nat} {x1 : Int} {x2 : Int} {s0 : Int} {D1 : Nat} (hD : D = D1 + 2) (h : (0 ≤ s0 ∧ s0 < 256) ∧ ((¬ g_spare s0 = (-1 : Int) → ((0 ≤ x2 ∧ x2 < 256) ∧ (((0 ≤ (2 : Int) ∧ (2 : Int) < 4) ∧ (0 ≤ (x2 / 8 % 8) ∧ (x2 / 8 % 8) < 8) ∧ (0 ≤ (g_spare s0) ∧ (g_spare s0) < 8)) ∧ (((0 : Int) ≤ x1 ∧ x1 < ((10 : Nat) : Int)) ∧ ((hm_in (x1 + (1 : Int))) ∧ ((0 ≤ x2 ∧ x2 < 256) ∧ (((0 ≤ (3 : Int) ∧ (3 : Int) < 4) ∧ (0 ≤ (g_spare s0) ∧ (g_spare s0) < 8) ∧ (0 ≤ (x2 % 8) ∧ (x2 % 8) < 8)) ∧ (g_Ev D 18 [.inr (1, h0), .inl (x1 + (1 : Int)), .inl (64 * (3 : Int) + 8 * (g_spare s0) + (x2 % 8))] (g_uA M (3, h0) x1.toNat (64 * (2 : Int) + 8 * (x2 / 8 % 8) + (g_spare s0))) (fun q M' => g_R (D + 1) 75 Q 53 [.inr (1, h0), .inl x1, .inl x2, .inl (g_spare s0)] (q ++ []) M'))))))))) ∧ (g_spare s0 = (-1 : Int) → (((0 : Int) ≤ (0 : Int) ∧ (0 : Int) ≤ 1) ∧ (Q [.inl (0 : Int)] M))))) : g_R (D + 1) 75 Q 11 [.inr (1, h0), .inl x1, .inl x2] [.inl s0] M := by
  subst hD
  exact g_go hk_75 ⟨rfl, rfl⟩ (g_C_ok (g_F_ok (D := D1))) sp_75 25 h
set_option maxRecDepth 20000 in
theorem rp_75_11 {D : Nat} {Q : g_P} {M : g_M} {h0 : Nat} {x1 : Int} {x2 : Int} {s0 : Int} {D1 : Nat} (hD : D = D1 + 2) (h : (0 ≤ s0 ∧ s0 < 256) ∧ ((¬ g_spare s0 = (-1 : Int) → ((0 ≤ x2 ∧ x2 < 256) ∧ (((0 ≤ (2 : Int) ∧ (2 : Int) < 4) ∧ (0 ≤ (x2 / 8 % 8) ∧ (x2 / 8 % 8) < 8) ∧ (0 ≤ (g_spare s0) ∧ (g_spare s0) < 8)) ∧ (((0 : Int) ≤ x1 ∧ x1 < ((10 : Nat) : Int)) ∧ ((hm_in (x1 + (1 : Int))) ∧ (((0 ≤ (3 : Int) ∧ (3 : Int) < 4) ∧ (0 ≤ (g_spare s0) ∧ (g_spare s0) < 8) ∧ (0 ≤ (x2 % 8) ∧ (x2 % 8) < 8)) ∧ (g_Ev D 18 [.inr (1, h0), .inl (x1 + (1 : Int)), .inl (64 * (3 : Int) + 8 * (g_spare s0) + (x2 % 8))] (g_uA M (3, h0) x1.toNat (64 * (2 : Int) + 8 * (x2 / 8 % 8) + (g_spare s0))) (fun q M' => g_R (D + 1) 75 Q 53 [.inr (1, h0), .inl x1, .inl x2, .inl (g_spare s0)] (q ++ []) M')))))))) ∧ (g_spare s0 = (-1 : Int) → (Q [.inl (0 : Int)] M)))) : g_R (D + 1) 75 Q 11 [.inr (1, h0), .inl x1, .inl x2] [.inl s0] M :=
  rg_75_11 hD (have a1 := And.left h; ⟨a1, ⟨fun b2 => (have a4 := And.left (And.left (And.right h) b2); ⟨a4, (have a5 := And.left (And.right (And.left (And.right h) b2)); ⟨a5, (have a6 := And.left (And.right (And.right (And.left (And.right h) b2))); ⟨a6, (have a7 := And.left (And.right (And.right (And.right (And.left (And.right h) b2)))); ⟨a7, ⟨a4, (have a8 := And.left (And.right (And.right (And.right (And.right (And.left (And.right h) b2))))); ⟨a8, (And.right (And.right (And.right (And.right (And.right (And.left (And.right h) b2))))))⟩)⟩⟩)⟩)⟩)⟩), fun b3 => ⟨by decide, (And.right (And.right h) b3)⟩⟩⟩)
set_option maxRecDepth 20000 in
theorem rg_75_53 {D : Nat} {Q : g_P} {M : g_M} {h0 : Nat} {x1 : Int} {x2 : Int} {x3 : Int} {s0 : Int} {D1 : Nat} (hD : D = D1 + 2) (h : (s0 = (0 : Int) → (((0 : Int) ≤ (0 : Int) ∧ (0 : Int) ≤ 1) ∧ (Q [.inl (0 : Int)] M))) ∧ (¬ s0 = (0 : Int) → ((0 ≤ x2 ∧ x2 < 256) ∧ ((0 ≤ x2 ∧ x2 < 256) ∧ (((0 ≤ (1 : Int) ∧ (1 : Int) < 4) ∧ (0 ≤ (x2 / 8 % 8) ∧ (x2 / 8 % 8) < 8) ∧ (0 ≤ (x2 % 8) ∧ (x2 % 8) < 8)) ∧ (g_Ev D 74 [.inr (1, h0), .inl (64 * (1 : Int) + 8 * (x2 / 8 % 8) + (x2 % 8))] M (fun q M' => g_R (D + 1) 75 Q 72 [.inr (1, h0), .inl x1, .inl x2, .inl x3] (q ++ []) M'))))))) : g_R (D + 1) 75 Q 53 [.inr (1, h0), .inl x1, .inl x2, .inl x3] [.inl s0] M := by
  subst hD
  exact g_go hk_75 ⟨rfl, rfl⟩ (g_C_ok (g_F_ok (D := D1))) sp_75 10 h
set_option maxRecDepth 20000 in
theorem rp_75_53 {D : Nat} {Q : g_P} {M : g_M} {h0 : Nat} {x1 : Int} {x2 : Int} {x3 : Int} {s0 : Int} {D1 : Nat} (hD : D = D1 + 2) (h : (s0 = (0 : Int) → (Q [.inl (0 : Int)] M)) ∧ (¬ s0 = (0 : Int) → ((0 ≤ x2 ∧ x2 < 256) ∧ (((0 ≤ (1 : Int) ∧ (1 : Int) < 4) ∧ (0 ≤ (x2 / 8 % 8) ∧ (x2 / 8 % 8) < 8) ∧ (0 ≤ (x2 % 8) ∧ (x2 % 8) < 8)) ∧ (g_Ev D 74 [.inr (1, h0), .inl (64 * (1 : Int) + 8 * (x2 / 8 % 8) + (x2 % 8))] M (fun q M' => g_R (D + 1) 75 Q 72 [.inr (1, h0), .inl x1, .inl x2, .inl x3] (q ++ []) M')))))) : g_R (D + 1) 75 Q 53 [.inr (1, h0), .inl x1, .inl x2, .inl x3] [.inl s0] M :=
  rg_75_53 hD ⟨fun b1 => ⟨by decide, (And.left h b1)⟩, fun b2 => (have a3 := And.left (And.right h b2); ⟨a3, ⟨a3, (have a4 := And.left (And.right (And.right h b2)); ⟨a4, (And.right (And.right (And.right h b2)))⟩)⟩⟩)⟩
set_option maxRecDepth 20000 in
theorem rg_75_72 {D : Nat} {Q : g_P} {M : g_M} {h0 : Nat} {x1 : Int} {x2 : Int} {x3 : Int} {s0 : Int} {D1 : Nat} (hD : D = D1 + 2) (h : (s0 = (0 : Int) → (((0 : Int) ≤ (0 : Int) ∧ (0 : Int) ≤ 1) ∧ (Q [.inl (0 : Int)] M))) ∧ (¬ s0 = (0 : Int) → (((0 : Int) ≤ (1 : Int) ∧ (1 : Int) ≤ 1) ∧ (Q [.inl (1 : Int)] M)))) : g_R (D + 1) 75 Q 72 [.inr (1, h0), .inl x1, .inl x2, .inl x3] [.inl s0] M := by
  subst hD
  exact g_go hk_75 ⟨rfl, rfl⟩ (g_C_ok (g_F_ok (D := D1))) sp_75 5 h
set_option maxRecDepth 20000 in
theorem rp_75_72 {D : Nat} {Q : g_P} {M : g_M} {h0 : Nat} {x1 : Int} {x2 : Int} {x3 : Int} {s0 : Int} {D1 : Nat} (hD : D = D1 + 2) (h : (s0 = (0 : Int) → (Q [.inl (0 : Int)] M)) ∧ (¬ s0 = (0 : Int) → (Q [.inl (1 : Int)] M))) : g_R (D + 1) 75 Q 72 [.inr (1, h0), .inl x1, .inl x2, .inl x3] [.inl s0] M :=
  rg_75_72 hD ⟨fun b1 => ⟨by decide, (And.left h b1)⟩, fun b2 => ⟨by decide, (And.right h b2)⟩⟩
theorem hn_77 : 3 ≤ (hm_me 77).2.2.1 := by decide +kernel
/-- HeapLaw$Stepper.change(LHeapLaw$Formula;I)Z -/
def sp_77 (pc : Nat) : Option Nat := match pc with
  | 68 => some 3
  | 83 => some 3
  | 89 => some 3
  | 95 => some 3
  | 111 => some 3
  | 153 => some 3
  | 170 => some 3
  | _ => none
set_option maxRecDepth 20000 in
theorem rg_77_0 {D : Nat} {Q : g_P} {M : g_M} {h1 : Nat} {x2 : Int} {D1 : Nat} (hD : D = D1 + 2) (h : ((M.1 0 16 4 < 0 ∨ 6 < M.1 0 16 4) → (((0 ≤ (1 : Int) ∧ (1 : Int) < 4) ∧ (0 ≤ (M.1 0 16 5) ∧ (M.1 0 16 5) < 8) ∧ (0 ≤ (M.1 0 16 6) ∧ (M.1 0 16 6) < 8)) ∧ (g_Ev D 74 [.inr (1, h1), .inl (64 * (1 : Int) + 8 * (M.1 0 16 5) + (M.1 0 16 6))] M (fun q M' => g_R (D + 1) 77 Q 170 [.inr (0, 16), .inr (1, h1), .inl x2] (q ++ []) M')))) ∧ ((M.1 0 16 4 = 0 → ((M.1 0 16 5 = M.1 0 16 6 → (((0 : Int) ≤ (1 : Int) ∧ (1 : Int) ≤ 1) ∧ (Q [.inl (1 : Int)] M))) ∧ (¬ M.1 0 16 5 = M.1 0 16 6 → (g_Ev D 78 [.inr (0, 16), .inr (1, h1), .inl (M.1 0 16 6)] M (fun q M' => g_R (D + 1) 77 Q 68 [.inr (0, 16), .inr (1, h1), .inl x2] (q ++ []) M'))))) ∧ ((M.1 0 16 4 = 1 → (g_Ev D 78 [.inr (0, 16), .inr (1, h1), .inl (0 : Int)] M (fun q M' => g_R (D + 1) 77 Q 83 [.inr (0, 16), .inr (1, h1), .inl x2] (q ++ []) M'))) ∧ ((M.1 0 16 4 = 2 → (g_Ev D 82 [.inr (0, 16), .inr (1, h1)] M (fun q M' => g_R (D + 1) 77 Q 89 [.inr (0, 16), .inr (1, h1), .inl x2] (q ++ []) M'))) ∧ ((M.1 0 16 4 = 3 → (g_Ev D 73 [.inr (1, h1), .inl x2] M (fun q M' => g_R (D + 1) 77 Q 95 [.inr (0, 16), .inr (1, h1), .inl x2] (q ++ []) M'))) ∧ ((M.1 0 16 4 = 4 → (((0 : Int) ≤ x2 ∧ x2 < ((10 : Nat) : Int)) ∧ ((0 ≤ (M.1 3 h1 x2.toNat) ∧ (M.1 3 h1 x2.toNat) < 256) ∧ (g_Ev D 78 [.inr (0, 16), .inr (1, h1), .inl ((M.1 3 h1 x2.toNat) % 8)] M (fun q M' => g_R (D + 1) 77 Q 111 [.inr (0, 16), .inr (1, h1), .inl x2] (q ++ []) M'))))) ∧ ((M.1 0 16 4 = 5 → (((0 : Int) ≤ x2 ∧ x2 < ((10 : Nat) : Int)) ∧ ((0 ≤ (M.1 3 h1 x2.toNat) ∧ (M.1 3 h1 x2.toNat) < 256) ∧ (((0 ≤ (2 : Int) ∧ (2 : Int) < 4) ∧ (0 ≤ ((M.1 3 h1 x2.toNat) / 8 % 8) ∧ ((M.1 3 h1 x2.toNat) / 8 % 8) < 8) ∧ (0 ≤ (M.1 0 16 6) ∧ (M.1 0 16 6) < 8)) ∧ (((0 : Int) ≤ x2 ∧ x2 < ((10 : Nat) : Int)) ∧ (((0 : Int) ≤ (1 : Int) ∧ (1 : Int) ≤ 1) ∧ (Q [.inl (1 : Int)] (g_uA M (3, h1) x2.toNat (64 * (2 : Int) + 8 * ((M.1 3 h1 x2.toNat) / 8 % 8) + (M.1 0 16 6)))))))))) ∧ ((M.1 0 16 4 = 6 → (((0 ≤ (0 : Int) ∧ (0 : Int) < 4) ∧ (0 ≤ (M.1 0 16 5) ∧ (M.1 0 16 5) < 8) ∧ (0 ≤ (M.1 0 16 6) ∧ (M.1 0 16 6) < 8)) ∧ (g_Ev D 74 [.inr (1, h1), .inl (64 * (0 : Int) + 8 * (M.1 0 16 5) + (M.1 0 16 6))] M (fun q M' => g_R (D + 1) 77 Q 153 [.inr (0, 16), .inr (1, h1), .inl x2] (q ++ []) M')))) ∧ (True))))))))) : g_R (D + 1) 77 Q 0 [.inr (0, 16), .inr (1, h1), .inl x2] [] M := by
  subst hD
  exact g_go hk_77 ⟨rfl, rfl⟩ (g_C_ok (g_F_ok (D := D1))) sp_77 19 h
set_option maxRecDepth 20000 in
theorem rp_77_0 {D : Nat} {Q : g_P} {M : g_M} {h1 : Nat} {x2 : Int} {D1 : Nat} (hD : D = D1 + 2) (h : ((M.1 0 16 4 < 0 ∨ 6 < M.1 0 16 4) → (((0 ≤ (1 : Int) ∧ (1 : Int) < 4) ∧ (0 ≤ (M.1 0 16 5) ∧ (M.1 0 16 5) < 8) ∧ (0 ≤ (M.1 0 16 6) ∧ (M.1 0 16 6) < 8)) ∧ (g_Ev D 74 [.inr (1, h1), .inl (64 * (1 : Int) + 8 * (M.1 0 16 5) + (M.1 0 16 6))] M (fun q M' => g_R (D + 1) 77 Q 170 [.inr (0, 16), .inr (1, h1), .inl x2] (q ++ []) M')))) ∧ (M.1 0 16 4 = 0 → ((M.1 0 16 5 = M.1 0 16 6 → (Q [.inl (1 : Int)] M)) ∧ (¬ M.1 0 16 5 = M.1 0 16 6 → (g_Ev D 78 [.inr (0, 16), .inr (1, h1), .inl (M.1 0 16 6)] M (fun q M' => g_R (D + 1) 77 Q 68 [.inr (0, 16), .inr (1, h1), .inl x2] (q ++ []) M'))))) ∧ (M.1 0 16 4 = 1 → (g_Ev D 78 [.inr (0, 16), .inr (1, h1), .inl (0 : Int)] M (fun q M' => g_R (D + 1) 77 Q 83 [.inr (0, 16), .inr (1, h1), .inl x2] (q ++ []) M'))) ∧ (M.1 0 16 4 = 2 → (g_Ev D 82 [.inr (0, 16), .inr (1, h1)] M (fun q M' => g_R (D + 1) 77 Q 89 [.inr (0, 16), .inr (1, h1), .inl x2] (q ++ []) M'))) ∧ (M.1 0 16 4 = 3 → (g_Ev D 73 [.inr (1, h1), .inl x2] M (fun q M' => g_R (D + 1) 77 Q 95 [.inr (0, 16), .inr (1, h1), .inl x2] (q ++ []) M'))) ∧ (M.1 0 16 4 = 4 → (((0 : Int) ≤ x2 ∧ x2 < ((10 : Nat) : Int)) ∧ ((0 ≤ (M.1 3 h1 x2.toNat) ∧ (M.1 3 h1 x2.toNat) < 256) ∧ (g_Ev D 78 [.inr (0, 16), .inr (1, h1), .inl ((M.1 3 h1 x2.toNat) % 8)] M (fun q M' => g_R (D + 1) 77 Q 111 [.inr (0, 16), .inr (1, h1), .inl x2] (q ++ []) M'))))) ∧ (M.1 0 16 4 = 5 → (((0 : Int) ≤ x2 ∧ x2 < ((10 : Nat) : Int)) ∧ ((0 ≤ (M.1 3 h1 x2.toNat) ∧ (M.1 3 h1 x2.toNat) < 256) ∧ (((0 ≤ (2 : Int) ∧ (2 : Int) < 4) ∧ (0 ≤ ((M.1 3 h1 x2.toNat) / 8 % 8) ∧ ((M.1 3 h1 x2.toNat) / 8 % 8) < 8) ∧ (0 ≤ (M.1 0 16 6) ∧ (M.1 0 16 6) < 8)) ∧ (Q [.inl (1 : Int)] (g_uA M (3, h1) x2.toNat (64 * (2 : Int) + 8 * ((M.1 3 h1 x2.toNat) / 8 % 8) + (M.1 0 16 6)))))))) ∧ (M.1 0 16 4 = 6 → (((0 ≤ (0 : Int) ∧ (0 : Int) < 4) ∧ (0 ≤ (M.1 0 16 5) ∧ (M.1 0 16 5) < 8) ∧ (0 ≤ (M.1 0 16 6) ∧ (M.1 0 16 6) < 8)) ∧ (g_Ev D 74 [.inr (1, h1), .inl (64 * (0 : Int) + 8 * (M.1 0 16 5) + (M.1 0 16 6))] M (fun q M' => g_R (D + 1) 77 Q 153 [.inr (0, 16), .inr (1, h1), .inl x2] (q ++ []) M'))))) : g_R (D + 1) 77 Q 0 [.inr (0, 16), .inr (1, h1), .inl x2] [] M :=
  rg_77_0 hD ⟨fun b1 => (have a2 := And.left ((And.left h) b1); ⟨a2, (And.right ((And.left h) b1))⟩), fun b3 => ⟨fun b4 => ⟨by decide, (And.left ((And.left (And.right h)) b3) b4)⟩, fun b5 => (And.right ((And.left (And.right h)) b3) b5)⟩, fun b6 => ((And.left (And.right (And.right h))) b6), fun b7 => ((And.left (And.right (And.right (And.right h)))) b7), fun b8 => ((And.left (And.right (And.right (And.right (And.right h))))) b8), fun b9 => (have a10 := And.left ((And.left (And.right (And.right (And.right (And.right (And.right h)))))) b9); ⟨a10, (have a11 := And.left (And.right ((And.left (And.right (And.right (And.right (And.right (And.right h)))))) b9)); ⟨a11, (And.right (And.right ((And.left (And.right (And.right (And.right (And.right (And.right h)))))) b9)))⟩)⟩), fun b12 => (have a13 := And.left ((And.left (And.right (And.right (And.right (And.right (And.right (And.right h))))))) b12); ⟨a13, (have a14 := And.left (And.right ((And.left (And.right (And.right (And.right (And.right (And.right (And.right h))))))) b12)); ⟨a14, (have a15 := And.left (And.right (And.right ((And.left (And.right (And.right (And.right (And.right (And.right (And.right h))))))) b12))); ⟨a15, ⟨a13, ⟨by decide, (And.right (And.right (And.right ((And.left (And.right (And.right (And.right (And.right (And.right (And.right h))))))) b12))))⟩⟩⟩)⟩)⟩), fun b16 => (have a17 := And.left ((And.right (And.right (And.right (And.right (And.right (And.right (And.right h))))))) b16); ⟨a17, (And.right ((And.right (And.right (And.right (And.right (And.right (And.right (And.right h))))))) b16))⟩), trivial⟩
set_option maxRecDepth 20000 in
theorem rg_77_68 {D : Nat} {Q : g_P} {M : g_M} {h1 : Nat} {x2 : Int} {s0 : Int} {D1 : Nat} (hD : D = D1 + 2) (h : (s0 = (0 : Int) → (((0 : Int) ≤ (0 : Int) ∧ (0 : Int) ≤ 1) ∧ (Q [.inl (0 : Int)] M))) ∧ (¬ s0 = (0 : Int) → (((0 : Int) ≤ (1 : Int) ∧ (1 : Int) ≤ 1) ∧ (Q [.inl (1 : Int)] M)))) : g_R (D + 1) 77 Q 68 [.inr (0, 16), .inr (1, h1), .inl x2] [.inl s0] M := by
  subst hD
  exact g_go hk_77 ⟨rfl, rfl⟩ (g_C_ok (g_F_ok (D := D1))) sp_77 5 h
set_option maxRecDepth 20000 in
theorem rp_77_68 {D : Nat} {Q : g_P} {M : g_M} {h1 : Nat} {x2 : Int} {s0 : Int} {D1 : Nat} (hD : D = D1 + 2) (h : (s0 = (0 : Int) → (Q [.inl (0 : Int)] M)) ∧ (¬ s0 = (0 : Int) → (Q [.inl (1 : Int)] M))) : g_R (D + 1) 77 Q 68 [.inr (0, 16), .inr (1, h1), .inl x2] [.inl s0] M :=
  rg_77_68 hD ⟨fun b1 => ⟨by decide, (And.left h b1)⟩, fun b2 => ⟨by decide, (And.right h b2)⟩⟩
set_option maxRecDepth 20000 in
theorem rg_77_83 {D : Nat} {Q : g_P} {M : g_M} {h1 : Nat} {x2 : Int} {s0 : Int} {D1 : Nat} (hD : D = D1 + 2) (h : ((0 : Int) ≤ s0 ∧ s0 ≤ 1) ∧ (Q [.inl s0] M)) : g_R (D + 1) 77 Q 83 [.inr (0, 16), .inr (1, h1), .inl x2] [.inl s0] M := by
  subst hD
  exact g_go hk_77 ⟨rfl, rfl⟩ (g_C_ok (g_F_ok (D := D1))) sp_77 2 h
theorem rp_77_83 {D : Nat} {Q : g_P} {M : g_M} {h1 : Nat} {x2 : Int} {s0 : Int} {D1 : Nat} (hD : D = D1 + 2) (h : ((0 : Int) ≤ s0 ∧ s0 ≤ 1) ∧ (Q [.inl s0] M)) : g_R (D + 1) 77 Q 83 [.inr (0, 16), .inr (1, h1), .inl x2] [.inl s0] M := rg_77_83 hD h
set_option maxRecDepth 20000 in
theorem rg_77_89 {D : Nat} {Q : g_P} {M : g_M} {h1 : Nat} {x2 : Int} {s0 : Int} {D1 : Nat} (hD : D = D1 + 2) (h : ((0 : Int) ≤ s0 ∧ s0 ≤ 1) ∧ (Q [.inl s0] M)) : g_R (D + 1) 77 Q 89 [.inr (0, 16), .inr (1, h1), .inl x2] [.inl s0] M := by
  subst hD
  exact g_go hk_77 ⟨rfl, rfl⟩ (g_C_ok (g_F_ok (D := D1))) sp_77 2 h
theorem rp_77_89 {D : Nat} {Q : g_P} {M : g_M} {h1 : Nat} {x2 : Int} {s0 : Int} {D1 : Nat} (hD : D = D1 + 2) (h : ((0 : Int) ≤ s0 ∧ s0 ≤ 1) ∧ (Q [.inl s0] M)) : g_R (D + 1) 77 Q 89 [.inr (0, 16), .inr (1, h1), .inl x2] [.inl s0] M := rg_77_89 hD h
set_option maxRecDepth 20000 in
theorem rg_77_95 {D : Nat} {Q : g_P} {M : g_M} {h1 : Nat} {x2 : Int} {D1 : Nat} (hD : D = D1 + 2) (h : ((0 : Int) ≤ (1 : Int) ∧ (1 : Int) ≤ 1) ∧ (Q [.inl (1 : Int)] M)) : g_R (D + 1) 77 Q 95 [.inr (0, 16), .inr (1, h1), .inl x2] [] M := by
  subst hD
  exact g_go hk_77 ⟨rfl, rfl⟩ (g_C_ok (g_F_ok (D := D1))) sp_77 3 h
set_option maxRecDepth 20000 in
theorem rp_77_95 {D : Nat} {Q : g_P} {M : g_M} {h1 : Nat} {x2 : Int} {D1 : Nat} (hD : D = D1 + 2) (h : Q [.inl (1 : Int)] M) : g_R (D + 1) 77 Q 95 [.inr (0, 16), .inr (1, h1), .inl x2] [] M :=
  rg_77_95 hD ⟨by decide, h⟩
set_option maxRecDepth 20000 in
theorem rg_77_111 {D : Nat} {Q : g_P} {M : g_M} {h1 : Nat} {x2 : Int} {s0 : Int} {D1 : Nat} (hD : D = D1 + 2) (h : ((0 : Int) ≤ s0 ∧ s0 ≤ 1) ∧ (Q [.inl s0] M)) : g_R (D + 1) 77 Q 111 [.inr (0, 16), .inr (1, h1), .inl x2] [.inl s0] M := by
  subst hD
  exact g_go hk_77 ⟨rfl, rfl⟩ (g_C_ok (g_F_ok (D := D1))) sp_77 2 h
theorem rp_77_111 {D : Nat} {Q : g_P} {M : g_M} {h1 : Nat} {x2 : Int} {s0 : Int} {D1 : Nat} (hD : D = D1 + 2) (h : ((0 : Int) ≤ s0 ∧ s0 ≤ 1) ∧ (Q [.inl s0] M)) : g_R (D + 1) 77 Q 111 [.inr (0, 16), .inr (1, h1), .inl x2] [.inl s0] M := rg_77_111 hD h
set_option maxRecDepth 20000 in
theorem rg_77_153 {D : Nat} {Q : g_P} {M : g_M} {h1 : Nat} {x2 : Int} {s0 : Int} {D1 : Nat} (hD : D = D1 + 2) (h : ((0 : Int) ≤ s0 ∧ s0 ≤ 1) ∧ (Q [.inl s0] M)) : g_R (D + 1) 77 Q 153 [.inr (0, 16), .inr (1, h1), .inl x2] [.inl s0] M := by
  subst hD
  exact g_go hk_77 ⟨rfl, rfl⟩ (g_C_ok (g_F_ok (D := D1))) sp_77 2 h
theorem rp_77_153 {D : Nat} {Q : g_P} {M : g_M} {h1 : Nat} {x2 : Int} {s0 : Int} {D1 : Nat} (hD : D = D1 + 2) (h : ((0 : Int) ≤ s0 ∧ s0 ≤ 1) ∧ (Q [.inl s0] M)) : g_R (D + 1) 77 Q 153 [.inr (0, 16), .inr (1, h1), .inl x2] [.inl s0] M := rg_77_153 hD h
set_option maxRecDepth 20000 in
theorem rg_77_170 {D : Nat} {Q : g_P} {M : g_M} {h1 : Nat} {x2 : Int} {s0 : Int} {D1 : Nat} (hD : D = D1 + 2) (h : ((0 : Int) ≤ s0 ∧ s0 ≤ 1) ∧ (Q [.inl s0] M)) : g_R (D + 1) 77 Q 170 [.inr (0, 16), .inr (1, h1), .inl x2] [.inl s0] M := by
  subst hD
  exact g_go hk_77 ⟨rfl, rfl⟩ (g_C_ok (g_F_ok (D := D1))) sp_77 2 h
theorem rp_77_170 {D : Nat} {Q : g_P} {M : g_M} {h1 : Nat} {x2 : Int} {s0 : Int} {D1 : Nat} (hD : D = D1 + 2) (h : ((0 : Int) ≤ s0 ∧ s0 ≤ 1) ∧ (Q [.inl s0] M)) : g_R (D + 1) 77 Q 170 [.inr (0, 16), .inr (1, h1), .inl x2] [.inl s0] M := rg_77_170 hD h
theorem hn_78 : 3 ≤ (hm_me 78).2.2.1 := by decide +kernel
/-- HeapLaw$Stepper.become(LHeapLaw$Formula;I)Z -/
def sp_78 (pc : Nat) : Option Nat := match pc with
  | 5 => some 3
  | 36 => some 4
  | _ => none
set_option maxRecDepth 20000 in
theorem rg_78_0 {D : Nat} {Q : g_P} {M : g_M} {h1 : Nat} {x2 : Int} {D1 : Nat} (hD : D = D1 + 2) (h : g_Ev D 79 [.inr (0, 16), .inr (1, h1)] M (fun q M' => g_R (D + 1) 78 Q 5 [.inr (0, 16), .inr (1, h1), .inl x2] (q ++ []) M')) : g_R (D + 1) 78 Q 0 [.inr (0, 16), .inr (1, h1), .inl x2] [] M := by
  subst hD
  exact g_go hk_78 ⟨rfl, rfl⟩ (g_C_ok (g_F_ok (D := D1))) sp_78 4 h
theorem rp_78_0 {D : Nat} {Q : g_P} {M : g_M} {h1 : Nat} {x2 : Int} {D1 : Nat} (hD : D = D1 + 2) (h : g_Ev D 79 [.inr (0, 16), .inr (1, h1)] M (fun q M' => g_R (D + 1) 78 Q 5 [.inr (0, 16), .inr (1, h1), .inl x2] (q ++ []) M')) : g_R (D + 1) 78 Q 0 [.inr (0, 16), .inr (1, h1), .inl x2] [] M := rg_78_0 hD h
set_option maxRecDepth 20000 in
theorem rg_78_5 {D : Nat} {Q : g_P} {M : g_M} {h1 : Nat} {x2 : Int} {s0 : Int} {D1 : Nat} (hD : D = D1 + 2) (h : (s0 = (-1 : Int) → (((0 : Int) ≤ (0 : Int) ∧ (0 : Int) ≤ 1) ∧ (Q [.inl (0 : Int)] M))) ∧ (¬ s0 = (-1 : Int) → ((¬ x2 = M.1 0 16 5 → (((0 ≤ (0 : Int) ∧ (0 : Int) < 4) ∧ (0 ≤ (M.1 0 16 5) ∧ (M.1 0 16 5) < 8) ∧ (0 ≤ x2 ∧ x2 < 8)) ∧ (g_Ev D 74 [.inr (1, h1), .inl (64 * (0 : Int) + 8 * (M.1 0 16 5) + x2)] M (fun q M' => g_R (D + 1) 78 Q 36 [.inr (0, 16), .inr (1, h1), .inl x2, .inl s0] (q ++ []) M')))) ∧ (x2 = M.1 0 16 5 → (((0 ≤ (0 : Int) ∧ (0 : Int) < 4) ∧ (0 ≤ (M.1 0 16 5) ∧ (M.1 0 16 5) < 8) ∧ (0 ≤ s0 ∧ s0 < 8)) ∧ (g_Ev D 74 [.inr (1, h1), .inl (64 * (0 : Int) + 8 * (M.1 0 16 5) + s0)] M (fun q M' => g_R (D + 1) 78 Q 36 [.inr (0, 16), .inr (1, h1), .inl x2, .inl s0] (q ++ []) M'))))))) : g_R (D + 1) 78 Q 5 [.inr (0, 16), .inr (1, h1), .inl x2] [.inl s0] M := by
  subst hD
  exact g_go hk_78 ⟨rfl, rfl⟩ (g_C_ok (g_F_ok (D := D1))) sp_78 17 h
set_option maxRecDepth 20000 in
theorem rp_78_5 {D : Nat} {Q : g_P} {M : g_M} {h1 : Nat} {x2 : Int} {s0 : Int} {D1 : Nat} (hD : D = D1 + 2) (h : (s0 = (-1 : Int) → (Q [.inl (0 : Int)] M)) ∧ (¬ s0 = (-1 : Int) → ((¬ x2 = M.1 0 16 5 → (((0 ≤ (0 : Int) ∧ (0 : Int) < 4) ∧ (0 ≤ (M.1 0 16 5) ∧ (M.1 0 16 5) < 8) ∧ (0 ≤ x2 ∧ x2 < 8)) ∧ (g_Ev D 74 [.inr (1, h1), .inl (64 * (0 : Int) + 8 * (M.1 0 16 5) + x2)] M (fun q M' => g_R (D + 1) 78 Q 36 [.inr (0, 16), .inr (1, h1), .inl x2, .inl s0] (q ++ []) M')))) ∧ (x2 = M.1 0 16 5 → (((0 ≤ (0 : Int) ∧ (0 : Int) < 4) ∧ (0 ≤ (M.1 0 16 5) ∧ (M.1 0 16 5) < 8) ∧ (0 ≤ s0 ∧ s0 < 8)) ∧ (g_Ev D 74 [.inr (1, h1), .inl (64 * (0 : Int) + 8 * (M.1 0 16 5) + s0)] M (fun q M' => g_R (D + 1) 78 Q 36 [.inr (0, 16), .inr (1, h1), .inl x2, .inl s0] (q ++ []) M'))))))) : g_R (D + 1) 78 Q 5 [.inr (0, 16), .inr (1, h1), .inl x2] [.inl s0] M :=
  rg_78_5 hD ⟨fun b1 => ⟨by decide, (And.left h b1)⟩, fun b2 => ⟨fun b3 => (have a5 := And.left (And.left (And.right h b2) b3); ⟨a5, (And.right (And.left (And.right h b2) b3))⟩), fun b4 => (have a6 := And.left (And.right (And.right h b2) b4); ⟨a6, (And.right (And.right (And.right h b2) b4))⟩)⟩⟩
set_option maxRecDepth 20000 in
theorem rg_78_36 {D : Nat} {Q : g_P} {M : g_M} {h1 : Nat} {x2 : Int} {x3 : Int} {s0 : Int} {D1 : Nat} (hD : D = D1 + 2) (h : (s0 = (0 : Int) → (((0 : Int) ≤ (0 : Int) ∧ (0 : Int) ≤ 1) ∧ (Q [.inl (0 : Int)] M))) ∧ (¬ s0 = (0 : Int) → (((0 : Int) ≤ (1 : Int) ∧ (1 : Int) ≤ 1) ∧ (Q [.inl (1 : Int)] M)))) : g_R (D + 1) 78 Q 36 [.inr (0, 16), .inr (1, h1), .inl x2, .inl x3] [.inl s0] M := by
  subst hD
  exact g_go hk_78 ⟨rfl, rfl⟩ (g_C_ok (g_F_ok (D := D1))) sp_78 5 h
set_option maxRecDepth 20000 in
theorem rp_78_36 {D : Nat} {Q : g_P} {M : g_M} {h1 : Nat} {x2 : Int} {x3 : Int} {s0 : Int} {D1 : Nat} (hD : D = D1 + 2) (h : (s0 = (0 : Int) → (Q [.inl (0 : Int)] M)) ∧ (¬ s0 = (0 : Int) → (Q [.inl (1 : Int)] M))) : g_R (D + 1) 78 Q 36 [.inr (0, 16), .inr (1, h1), .inl x2, .inl x3] [.inl s0] M :=
  rg_78_36 hD ⟨fun b1 => ⟨by decide, (And.left h b1)⟩, fun b2 => ⟨by decide, (And.right h b2)⟩⟩
theorem hn_79 : 2 ≤ (hm_me 79).2.2.1 := by decide +kernel
/-- HeapLaw$Stepper.vacate(LHeapLaw$Formula;)I -/
def sp_79 (pc : Nat) : Option Nat := match pc with
  | 4 => some 2
  | 40 => some 4
  | _ => none
set_option maxRecDepth 20000 in
theorem rg_79_0 {D : Nat} {Q : g_P} {M : g_M} {h1 : Nat} {D1 : Nat} (hD : D = D1 + 2) (h : g_Ev D 40 [.inr (1, h1)] M (fun q M' => g_R (D + 1) 79 Q 4 [.inr (0, 16), .inr (1, h1)] (q ++ []) M')) : g_R (D + 1) 79 Q 0 [.inr (0, 16), .inr (1, h1)] [] M := by
  subst hD
  exact g_go hk_79 ⟨rfl, rfl⟩ (g_C_ok (g_F_ok (D := D1))) sp_79 3 h
theorem rp_79_0 {D : Nat} {Q : g_P} {M : g_M} {h1 : Nat} {D1 : Nat} (hD : D = D1 + 2) (h : g_Ev D 40 [.inr (1, h1)] M (fun q M' => g_R (D + 1) 79 Q 4 [.inr (0, 16), .inr (1, h1)] (q ++ []) M')) : g_R (D + 1) 79 Q 0 [.inr (0, 16), .inr (1, h1)] [] M := rg_79_0 hD h
set_option maxRecDepth 20000 in
theorem rg_79_4 {D : Nat} {Q : g_P} {M : g_M} {h1 : Nat} {s0 : Int} {D1 : Nat} (hD : D = D1 + 2) (h : ((0 ≤ s0 ∧ s0 < 1024) ∧ (0 ≤ (M.1 0 16 5) ∧ (M.1 0 16 5) < 10)) ∧ ((g_bit s0 (M.1 0 16 5) → ((¬ (1 : Int) = (0 : Int) → ((0 ≤ s0 ∧ s0 < 256) ∧ ((g_spare s0 = (-1 : Int) → (g_R (D + 1) 79 Q 40 [.inr (0, 16), .inr (1, h1), .inl s0, .inl (g_spare s0)] [] M)) ∧ (¬ g_spare s0 = (-1 : Int) → (g_Ev D 80 [.inr (1, h1), .inl (M.1 0 16 5), .inl (g_spare s0)] M (fun q M' => g_R (D + 1) 79 Q 40 [.inr (0, 16), .inr (1, h1), .inl s0, .inl (g_spare s0)] (q ++ []) M')))))) ∧ ((1 : Int) = (0 : Int) → (Q [.inl (M.1 0 16 5)] M)))) ∧ (¬ g_bit s0 (M.1 0 16 5) → ((¬ (0 : Int) = (0 : Int) → ((0 ≤ s0 ∧ s0 < 256) ∧ ((g_spare s0 = (-1 : Int) → (g_R (D + 1) 79 Q 40 [.inr (0, 16), .inr (1, h1), .inl s0, .inl (g_spare s0)] [] M)) ∧ (¬ g_spare s0 = (-1 : Int) → (g_Ev D 80 [.inr (1, h1), .inl (M.1 0 16 5), .inl (g_spare s0)] M (fun q M' => g_R (D + 1) 79 Q 40 [.inr (0, 16), .inr (1, h1), .inl s0, .inl (g_spare s0)] (q ++ []) M')))))) ∧ ((0 : Int) = (0 : Int) → (Q [.inl (M.1 0 16 5)] M)))))) : g_R (D + 1) 79 Q 4 [.inr (0, 16), .inr (1, h1)] [.inl s0] M := by
  subst hD
  exact g_go hk_79 ⟨rfl, rfl⟩ (g_C_ok (g_F_ok (D := D1))) sp_79 18 h
set_option maxRecDepth 20000 in
theorem rp_79_4 {D : Nat} {Q : g_P} {M : g_M} {h1 : Nat} {s0 : Int} {D1 : Nat} (hD : D = D1 + 2) (h : ((0 ≤ s0 ∧ s0 < 1024) ∧ (0 ≤ (M.1 0 16 5) ∧ (M.1 0 16 5) < 10)) ∧ ((g_bit s0 (M.1 0 16 5) → ((0 ≤ s0 ∧ s0 < 256) ∧ ((g_spare s0 = (-1 : Int) → (g_R (D + 1) 79 Q 40 [.inr (0, 16), .inr (1, h1), .inl s0, .inl (g_spare s0)] [] M)) ∧ (¬ g_spare s0 = (-1 : Int) → (g_Ev D 80 [.inr (1, h1), .inl (M.1 0 16 5), .inl (g_spare s0)] M (fun q M' => g_R (D + 1) 79 Q 40 [.inr (0, 16), .inr (1, h1), .inl s0, .inl (g_spare s0)] (q ++ []) M')))))) ∧ (¬ g_bit s0 (M.1 0 16 5) → (Q [.inl (M.1 0 16 5)] M)))) : g_R (D + 1) 79 Q 4 [.inr (0, 16), .inr (1, h1)] [.inl s0] M :=
  rg_79_4 hD (have a1 := And.left h; ⟨a1, ⟨fun b2 => ⟨fun _ => (have a4 := And.left (And.left (And.right h) b2); ⟨a4, ⟨fun b5 => (And.left (And.right (And.left (And.right h) b2)) b5), fun b6 => (And.right (And.right (And.left (And.right h) b2)) b6)⟩⟩), (fun z => absurd z (by decide))⟩, fun b3 => ⟨(fun z => absurd z (by decide)), fun _ => (And.right (And.right h) b3)⟩⟩⟩)
set_option maxRecDepth 20000 in
theorem rg_79_40 {D : Nat} {Q : g_P} {M : g_M} {h1 : Nat} {x2 : Int} {x3 : Int} {D1 : Nat} (hD : D = D1 + 2) (h : Q [.inl x3] M) : g_R (D + 1) 79 Q 40 [.inr (0, 16), .inr (1, h1), .inl x2, .inl x3] [] M := by
  subst hD
  exact g_go hk_79 ⟨rfl, rfl⟩ (g_C_ok (g_F_ok (D := D1))) sp_79 3 h
theorem rp_79_40 {D : Nat} {Q : g_P} {M : g_M} {h1 : Nat} {x2 : Int} {x3 : Int} {D1 : Nat} (hD : D = D1 + 2) (h : Q [.inl x3] M) : g_R (D + 1) 79 Q 40 [.inr (0, 16), .inr (1, h1), .inl x2, .inl x3] [] M := rg_79_40 hD h
theorem hn_80 : 3 ≤ (hm_me 80).2.2.1 := by decide +kernel
/-- HeapLaw$Formula.rename(II)V -/
def sp_80 (pc : Nat) : Option Nat := match pc with
  | 2 => some 4
  | 35 => some 4
  | _ => none
set_option maxRecDepth 20000 in
theorem rg_80_0 {D : Nat} {Q : g_P} {M : g_M} {h0 : Nat} {x1 : Int} {x2 : Int} {D1 : Nat} (hD : D = D1 + 2) (h : g_R (D + 1) 80 Q 2 [.inr (1, h0), .inl x1, .inl x2, .inl (0 : Int)] [] M) : g_R (D + 1) 80 Q 0 [.inr (1, h0), .inl x1, .inl x2] [] M := by
  subst hD
  exact g_go hk_80 ⟨rfl, rfl⟩ (g_C_ok (g_F_ok (D := D1))) sp_80 3 h
theorem rp_80_0 {D : Nat} {Q : g_P} {M : g_M} {h0 : Nat} {x1 : Int} {x2 : Int} {D1 : Nat} (hD : D = D1 + 2) (h : g_R (D + 1) 80 Q 2 [.inr (1, h0), .inl x1, .inl x2, .inl (0 : Int)] [] M) : g_R (D + 1) 80 Q 0 [.inr (1, h0), .inl x1, .inl x2] [] M := rg_80_0 hD h
set_option maxRecDepth 20000 in
theorem rg_80_2 {D : Nat} {Q : g_P} {M : g_M} {h0 : Nat} {x1 : Int} {x2 : Int} {x3 : Int} {D1 : Nat} (hD : D = D1 + 2) (h : (M.1 1 h0 2 ≤ x3 → (g_R (D + 1) 80 Q 35 [.inr (1, h0), .inl x1, .inl x2, .inl (0 : Int)] [] M)) ∧ (x3 < M.1 1 h0 2 → (((0 : Int) ≤ x3 ∧ x3 < ((16 : Nat) : Int)) ∧ (((0 ≤ (M.1 2 h0 x3.toNat) ∧ (M.1 2 h0 x3.toNat) < 256) ∧ (0 ≤ x1 ∧ x1 < 8) ∧ (0 ≤ x2 ∧ x2 < 8)) ∧ (((0 : Int) ≤ x3 ∧ x3 < ((16 : Nat) : Int)) ∧ ((hm_in (x3 + (1 : Int))) ∧ (g_R (D + 1) 80 Q 2 [.inr (1, h0), .inl x1, .inl x2, .inl (x3 + (1 : Int))] [] (g_uA M (2, h0) x3.toNat (g_ren (M.1 2 h0 x3.toNat) x1 x2))))))))) : g_R (D + 1) 80 Q 2 [.inr (1, h0), .inl x1, .inl x2, .inl x3] [] M := by
  subst hD
  exact g_go hk_80 ⟨rfl, rfl⟩ (g_C_ok (g_F_ok (D := D1))) sp_80 18 h
set_option maxRecDepth 20000 in
theorem rp_80_2 {D : Nat} {Q : g_P} {M : g_M} {h0 : Nat} {x1 : Int} {x2 : Int} {x3 : Int} {D1 : Nat} (hD : D = D1 + 2) (h : (M.1 1 h0 2 ≤ x3 → (g_R (D + 1) 80 Q 35 [.inr (1, h0), .inl x1, .inl x2, .inl (0 : Int)] [] M)) ∧ (x3 < M.1 1 h0 2 → (((0 : Int) ≤ x3 ∧ x3 < ((16 : Nat) : Int)) ∧ (((0 ≤ (M.1 2 h0 x3.toNat) ∧ (M.1 2 h0 x3.toNat) < 256) ∧ (0 ≤ x1 ∧ x1 < 8) ∧ (0 ≤ x2 ∧ x2 < 8)) ∧ ((hm_in (x3 + (1 : Int))) ∧ (g_R (D + 1) 80 Q 2 [.inr (1, h0), .inl x1, .inl x2, .inl (x3 + (1 : Int))] [] (g_uA M (2, h0) x3.toNat (g_ren (M.1 2 h0 x3.toNat) x1 x2)))))))) : g_R (D + 1) 80 Q 2 [.inr (1, h0), .inl x1, .inl x2, .inl x3] [] M :=
  rg_80_2 hD ⟨fun b1 => (And.left h b1), fun b2 => (have a3 := And.left (And.right h b2); ⟨a3, (have a4 := And.left (And.right (And.right h b2)); ⟨a4, ⟨a3, (have a5 := And.left (And.right (And.right (And.right h b2))); ⟨a5, (And.right (And.right (And.right (And.right h b2))))⟩)⟩⟩)⟩)⟩
set_option maxRecDepth 20000 in
theorem rg_80_35 {D : Nat} {Q : g_P} {M : g_M} {h0 : Nat} {x1 : Int} {x2 : Int} {x3 : Int} {D1 : Nat} (hD : D = D1 + 2) (h : (M.1 1 h0 3 ≤ x3 → (Q [] M)) ∧ (x3 < M.1 1 h0 3 → (((0 : Int) ≤ x3 ∧ x3 < ((10 : Nat) : Int)) ∧ (((0 ≤ (M.1 3 h0 x3.toNat) ∧ (M.1 3 h0 x3.toNat) < 256) ∧ (0 ≤ x1 ∧ x1 < 8) ∧ (0 ≤ x2 ∧ x2 < 8)) ∧ (((0 : Int) ≤ x3 ∧ x3 < ((10 : Nat) : Int)) ∧ ((hm_in (x3 + (1 : Int))) ∧ (g_R (D + 1) 80 Q 35 [.inr (1, h0), .inl x1, .inl x2, .inl (x3 + (1 : Int))] [] (g_uA M (3, h0) x3.toNat (g_ren (M.1 3 h0 x3.toNat) x1 x2))))))))) : g_R (D + 1) 80 Q 35 [.inr (1, h0), .inl x1, .inl x2, .inl x3] [] M := by
  subst hD
  exact g_go hk_80 ⟨rfl, rfl⟩ (g_C_ok (g_F_ok (D := D1))) sp_80 18 h
set_option maxRecDepth 20000 in
theorem rp_80_35 {D : Nat} {Q : g_P} {M : g_M} {h0 : Nat} {x1 : Int} {x2 : Int} {x3 : Int} {D1 : Nat} (hD : D = D1 + 2) (h : (M.1 1 h0 3 ≤ x3 → (Q [] M)) ∧ (x3 < M.1 1 h0 3 → (((0 : Int) ≤ x3 ∧ x3 < ((10 : Nat) : Int)) ∧ (((0 ≤ (M.1 3 h0 x3.toNat) ∧ (M.1 3 h0 x3.toNat) < 256) ∧ (0 ≤ x1 ∧ x1 < 8) ∧ (0 ≤ x2 ∧ x2 < 8)) ∧ ((hm_in (x3 + (1 : Int))) ∧ (g_R (D + 1) 80 Q 35 [.inr (1, h0), .inl x1, .inl x2, .inl (x3 + (1 : Int))] [] (g_uA M (3, h0) x3.toNat (g_ren (M.1 3 h0 x3.toNat) x1 x2)))))))) : g_R (D + 1) 80 Q 35 [.inr (1, h0), .inl x1, .inl x2, .inl x3] [] M :=
  rg_80_35 hD ⟨fun b1 => (And.left h b1), fun b2 => (have a3 := And.left (And.right h b2); ⟨a3, (have a4 := And.left (And.right (And.right h b2)); ⟨a4, ⟨a3, (have a5 := And.left (And.right (And.right (And.right h b2))); ⟨a5, (And.right (And.right (And.right (And.right h b2))))⟩)⟩⟩)⟩)⟩
theorem hn_82 : 2 ≤ (hm_me 82).2.2.1 := by decide +kernel
/-- HeapLaw$Stepper.becomeNew(LHeapLaw$Formula;)Z -/
def sp_82 (pc : Nat) : Option Nat := match pc with
  | 5 => some 2
  | 15 => some 2
  | 37 => some 3
  | _ => none
set_option maxRecDepth 20000 in
theorem rg_82_0 {D : Nat} {Q : g_P} {M : g_M} {h1 : Nat} {D1 : Nat} (hD : D = D1 + 2) (h : g_Ev D 79 [.inr (0, 16), .inr (1, h1)] M (fun q M' => g_R (D + 1) 82 Q 5 [.inr (0, 16), .inr (1, h1)] (q ++ []) M')) : g_R (D + 1) 82 Q 0 [.inr (0, 16), .inr (1, h1)] [] M := by
  subst hD
  exact g_go hk_82 ⟨rfl, rfl⟩ (g_C_ok (g_F_ok (D := D1))) sp_82 4 h
theorem rp_82_0 {D : Nat} {Q : g_P} {M : g_M} {h1 : Nat} {D1 : Nat} (hD : D = D1 + 2) (h : g_Ev D 79 [.inr (0, 16), .inr (1, h1)] M (fun q M' => g_R (D + 1) 82 Q 5 [.inr (0, 16), .inr (1, h1)] (q ++ []) M')) : g_R (D + 1) 82 Q 0 [.inr (0, 16), .inr (1, h1)] [] M := rg_82_0 hD h
set_option maxRecDepth 20000 in
theorem rg_82_5 {D : Nat} {Q : g_P} {M : g_M} {h1 : Nat} {s0 : Int} {D1 : Nat} (hD : D = D1 + 2) (h : (¬ s0 = (-1 : Int) → (g_Ev D 40 [.inr (1, h1)] M (fun q M' => g_R (D + 1) 82 Q 15 [.inr (0, 16), .inr (1, h1)] (q ++ []) M'))) ∧ (s0 = (-1 : Int) → (((0 : Int) ≤ (0 : Int) ∧ (0 : Int) ≤ 1) ∧ (Q [.inl (0 : Int)] M)))) : g_R (D + 1) 82 Q 5 [.inr (0, 16), .inr (1, h1)] [.inl s0] M := by
  subst hD
  exact g_go hk_82 ⟨rfl, rfl⟩ (g_C_ok (g_F_ok (D := D1))) sp_82 5 h
set_option maxRecDepth 20000 in
theorem rp_82_5 {D : Nat} {Q : g_P} {M : g_M} {h1 : Nat} {s0 : Int} {D1 : Nat} (hD : D = D1 + 2) (h : (¬ s0 = (-1 : Int) → (g_Ev D 40 [.inr (1, h1)] M (fun q M' => g_R (D + 1) 82 Q 15 [.inr (0, 16), .inr (1, h1)] (q ++ []) M'))) ∧ (s0 = (-1 : Int) → (Q [.inl (0 : Int)] M))) : g_R (D + 1) 82 Q 5 [.inr (0, 16), .inr (1, h1)] [.inl s0] M :=
  rg_82_5 hD ⟨fun b1 => (And.left h b1), fun b2 => ⟨by decide, (And.right h b2)⟩⟩
set_option maxRecDepth 20000 in
theorem rg_82_15 {D : Nat} {Q : g_P} {M : g_M} {h1 : Nat} {s0 : Int} {D1 : Nat} (hD : D = D1 + 2) (h : (0 ≤ s0 ∧ s0 < 256) ∧ ((g_spare s0 = (-1 : Int) → (((0 : Int) ≤ (0 : Int) ∧ (0 : Int) ≤ 1) ∧ (Q [.inl (0 : Int)] M))) ∧ (¬ g_spare s0 = (-1 : Int) → (((0 ≤ (2 : Int) ∧ (2 : Int) < 4) ∧ (0 ≤ (M.1 0 16 5) ∧ (M.1 0 16 5) < 8) ∧ (0 ≤ (g_spare s0) ∧ (g_spare s0) < 8)) ∧ (g_Ev D 17 [.inr (1, h1), .inl (64 * (2 : Int) + 8 * (M.1 0 16 5) + (g_spare s0))] M (fun q M' => g_R (D + 1) 82 Q 37 [.inr (0, 16), .inr (1, h1), .inl (g_spare s0)] (q ++ []) M')))))) : g_R (D + 1) 82 Q 15 [.inr (0, 16), .inr (1, h1)] [.inl s0] M := by
  subst hD
  exact g_go hk_82 ⟨rfl, rfl⟩ (g_C_ok (g_F_ok (D := D1))) sp_82 13 h
set_option maxRecDepth 20000 in
theorem rp_82_15 {D : Nat} {Q : g_P} {M : g_M} {h1 : Nat} {s0 : Int} {D1 : Nat} (hD : D = D1 + 2) (h : (0 ≤ s0 ∧ s0 < 256) ∧ ((g_spare s0 = (-1 : Int) → (Q [.inl (0 : Int)] M)) ∧ (¬ g_spare s0 = (-1 : Int) → (((0 ≤ (2 : Int) ∧ (2 : Int) < 4) ∧ (0 ≤ (M.1 0 16 5) ∧ (M.1 0 16 5) < 8) ∧ (0 ≤ (g_spare s0) ∧ (g_spare s0) < 8)) ∧ (g_Ev D 17 [.inr (1, h1), .inl (64 * (2 : Int) + 8 * (M.1 0 16 5) + (g_spare s0))] M (fun q M' => g_R (D + 1) 82 Q 37 [.inr (0, 16), .inr (1, h1), .inl (g_spare s0)] (q ++ []) M')))))) : g_R (D + 1) 82 Q 15 [.inr (0, 16), .inr (1, h1)] [.inl s0] M :=
  rg_82_15 hD (have a1 := And.left h; ⟨a1, ⟨fun b2 => ⟨by decide, (And.left (And.right h) b2)⟩, fun b3 => (have a4 := And.left (And.right (And.right h) b3); ⟨a4, (And.right (And.right (And.right h) b3))⟩)⟩⟩)
set_option maxRecDepth 20000 in
theorem rg_82_37 {D : Nat} {Q : g_P} {M : g_M} {h1 : Nat} {x2 : Int} {s0 : Int} {D1 : Nat} (hD : D = D1 + 2) (h : (s0 = (0 : Int) → (((0 : Int) ≤ (0 : Int) ∧ (0 : Int) ≤ 1) ∧ (Q [.inl (0 : Int)] M))) ∧ (¬ s0 = (0 : Int) → (((0 : Int) ≤ (1 : Int) ∧ (1 : Int) ≤ 1) ∧ (Q [.inl (1 : Int)] M)))) : g_R (D + 1) 82 Q 37 [.inr (0, 16), .inr (1, h1), .inl x2] [.inl s0] M := by
  subst hD
  exact g_go hk_82 ⟨rfl, rfl⟩ (g_C_ok (g_F_ok (D := D1))) sp_82 5 h
set_option maxRecDepth 20000 in
theorem rp_82_37 {D : Nat} {Q : g_P} {M : g_M} {h1 : Nat} {x2 : Int} {s0 : Int} {D1 : Nat} (hD : D = D1 + 2) (h : (s0 = (0 : Int) → (Q [.inl (0 : Int)] M)) ∧ (¬ s0 = (0 : Int) → (Q [.inl (1 : Int)] M))) : g_R (D + 1) 82 Q 37 [.inr (0, 16), .inr (1, h1), .inl x2] [.inl s0] M :=
  rg_82_37 hD ⟨fun b1 => ⟨by decide, (And.left h b1)⟩, fun b2 => ⟨by decide, (And.right h b2)⟩⟩
theorem hn_83 : 3 ≤ (hm_me 83).2.2.1 := by decide +kernel
/-- HeapLaw.differ(II)I -/
def sp_83 (pc : Nat) : Option Nat := match pc with
  | 27 => some 3
  | 39 => some 3
  | 83 => some 3
  | 102 => some 3
  | _ => none
set_option maxRecDepth 20000 in
theorem rg_83_0 {D : Nat} {Q : g_P} {M : g_M} {x1 : Int} {x2 : Int} {D1 : Nat} (hD : D = D1 + 2) (h : ((0 ≤ x1 ∧ x1 < M.1 0 2 6) → (((1 : Int) = (0 : Int) → (Q [.inl (-1 : Int)] M)) ∧ (¬ (1 : Int) = (0 : Int) → (((0 ≤ x2 ∧ x2 < M.1 0 2 6) → ((¬ (1 : Int) = (0 : Int) → (((0 : Int) ≤ x1 ∧ x1 < 72) ∧ (g_Ev D 63 [.inr (1, (12 + x1.toNat))] M (fun q M' => g_R (D + 1) 83 Q 27 [.inr (0, 2), .inl x1, .inl x2] (q ++ []) M')))) ∧ ((1 : Int) = (0 : Int) → (Q [.inl (-1 : Int)] M)))) ∧ (¬ (0 ≤ x2 ∧ x2 < M.1 0 2 6) → ((¬ (0 : Int) = (0 : Int) → (((0 : Int) ≤ x1 ∧ x1 < 72) ∧ (g_Ev D 63 [.inr (1, (12 + x1.toNat))] M (fun q M' => g_R (D + 1) 83 Q 27 [.inr (0, 2), .inl x1, .inl x2] (q ++ []) M')))) ∧ ((0 : Int) = (0 : Int) → (Q [.inl (-1 : Int)] M)))))))) ∧ (¬ (0 ≤ x1 ∧ x1 < M.1 0 2 6) → (((0 : Int) = (0 : Int) → (Q [.inl (-1 : Int)] M)) ∧ (¬ (0 : Int) = (0 : Int) → (((0 ≤ x2 ∧ x2 < M.1 0 2 6) → ((¬ (1 : Int) = (0 : Int) → (((0 : Int) ≤ x1 ∧ x1 < 72) ∧ (g_Ev D 63 [.inr (1, (12 + x1.toNat))] M (fun q M' => g_R (D + 1) 83 Q 27 [.inr (0, 2), .inl x1, .inl x2] (q ++ []) M')))) ∧ ((1 : Int) = (0 : Int) → (Q [.inl (-1 : Int)] M)))) ∧ (¬ (0 ≤ x2 ∧ x2 < M.1 0 2 6) → ((¬ (0 : Int) = (0 : Int) → (((0 : Int) ≤ x1 ∧ x1 < 72) ∧ (g_Ev D 63 [.inr (1, (12 + x1.toNat))] M (fun q M' => g_R (D + 1) 83 Q 27 [.inr (0, 2), .inl x1, .inl x2] (q ++ []) M')))) ∧ ((0 : Int) = (0 : Int) → (Q [.inl (-1 : Int)] M))))))))) : g_R (D + 1) 83 Q 0 [.inr (0, 2), .inl x1, .inl x2] [] M := by
  subst hD
  exact g_go hk_83 ⟨rfl, rfl⟩ (g_C_ok (g_F_ok (D := D1))) sp_83 14 h
set_option maxRecDepth 20000 in
theorem rp_83_0 {D : Nat} {Q : g_P} {M : g_M} {x1 : Int} {x2 : Int} {D1 : Nat} (hD : D = D1 + 2) (h : ((0 ≤ x1 ∧ x1 < M.1 0 2 6) → (((0 ≤ x2 ∧ x2 < M.1 0 2 6) → (((0 : Int) ≤ x1 ∧ x1 < 72) ∧ (g_Ev D 63 [.inr (1, (12 + x1.toNat))] M (fun q M' => g_R (D + 1) 83 Q 27 [.inr (0, 2), .inl x1, .inl x2] (q ++ []) M')))) ∧ (¬ (0 ≤ x2 ∧ x2 < M.1 0 2 6) → (Q [.inl (-1 : Int)] M)))) ∧ (¬ (0 ≤ x1 ∧ x1 < M.1 0 2 6) → (Q [.inl (-1 : Int)] M))) : g_R (D + 1) 83 Q 0 [.inr (0, 2), .inl x1, .inl x2] [] M :=
  rg_83_0 hD ⟨fun b1 => ⟨(fun z => absurd z (by decide)), fun _ => ⟨fun b3 => ⟨fun _ => (have a5 := And.left (And.left (And.left h b1) b3); ⟨a5, (And.right (And.left (And.left h b1) b3))⟩), (fun z => absurd z (by decide))⟩, fun b4 => ⟨(fun z => absurd z (by decide)), fun _ => (And.right (And.left h b1) b4)⟩⟩⟩, fun b2 => ⟨fun _ => (And.right h b2), (fun z => absurd z (by decide))⟩⟩
set_option maxRecDepth 20000 in
theorem rg_83_27 {D : Nat} {Q : g_P} {M : g_M} {x1 : Int} {x2 : Int} {s0 : Int} {D1 : Nat} (hD : D = D1 + 2) (h : (¬ s0 = (0 : Int) → (Q [.inl (-3 : Int)] M)) ∧ (s0 = (0 : Int) → (((0 : Int) ≤ x2 ∧ x2 < 72) ∧ (g_Ev D 63 [.inr (1, (12 + x2.toNat))] M (fun q M' => g_R (D + 1) 83 Q 39 [.inr (0, 2), .inl x1, .inl x2] (q ++ []) M'))))) : g_R (D + 1) 83 Q 27 [.inr (0, 2), .inl x1, .inl x2] [.inl s0] M := by
  subst hD
  exact g_go hk_83 ⟨rfl, rfl⟩ (g_C_ok (g_F_ok (D := D1))) sp_83 7 h
theorem rp_83_27 {D : Nat} {Q : g_P} {M : g_M} {x1 : Int} {x2 : Int} {s0 : Int} {D1 : Nat} (hD : D = D1 + 2) (h : (¬ s0 = (0 : Int) → (Q [.inl (-3 : Int)] M)) ∧ (s0 = (0 : Int) → (((0 : Int) ≤ x2 ∧ x2 < 72) ∧ (g_Ev D 63 [.inr (1, (12 + x2.toNat))] M (fun q M' => g_R (D + 1) 83 Q 39 [.inr (0, 2), .inl x1, .inl x2] (q ++ []) M'))))) : g_R (D + 1) 83 Q 27 [.inr (0, 2), .inl x1, .inl x2] [.inl s0] M := rg_83_27 hD h
set_option maxRecDepth 20000 in
theorem rg_83_39 {D : Nat} {Q : g_P} {M : g_M} {x1 : Int} {x2 : Int} {s0 : Int} {D1 : Nat} (hD : D = D1 + 2) (h : (¬ s0 = (0 : Int) → (Q [.inl (-3 : Int)] M)) ∧ (s0 = (0 : Int) → ((M.1 0 2 7 < (40 : Int) → ((hm_in ((M.1 0 2 7) + (1 : Int))) ∧ (((0 : Int) ≤ x1 ∧ x1 < 72) ∧ (((0 : Int) ≤ x2 ∧ x2 < 72) ∧ (g_Ev D 84 [.inr (0, 60), .inr (1, (12 + x1.toNat)), .inr (1, (12 + x2.toNat))] (g_uA M (0, 2) 7 ((M.1 0 2 7) + (1 : Int))) (fun q M' => g_R (D + 1) 83 Q 83 [.inr (0, 2), .inl x1, .inl x2] (q ++ []) M')))))) ∧ ((40 : Int) ≤ M.1 0 2 7 → (Q [.inl (-3 : Int)] M))))) : g_R (D + 1) 83 Q 39 [.inr (0, 2), .inl x1, .inl x2] [.inl s0] M := by
  subst hD
  exact g_go hk_83 ⟨rfl, rfl⟩ (g_C_ok (g_F_ok (D := D1))) sp_83 23 h
theorem rp_83_39 {D : Nat} {Q : g_P} {M : g_M} {x1 : Int} {x2 : Int} {s0 : Int} {D1 : Nat} (hD : D = D1 + 2) (h : (¬ s0 = (0 : Int) → (Q [.inl (-3 : Int)] M)) ∧ (s0 = (0 : Int) → ((M.1 0 2 7 < (40 : Int) → ((hm_in ((M.1 0 2 7) + (1 : Int))) ∧ (((0 : Int) ≤ x1 ∧ x1 < 72) ∧ (((0 : Int) ≤ x2 ∧ x2 < 72) ∧ (g_Ev D 84 [.inr (0, 60), .inr (1, (12 + x1.toNat)), .inr (1, (12 + x2.toNat))] (g_uA M (0, 2) 7 ((M.1 0 2 7) + (1 : Int))) (fun q M' => g_R (D + 1) 83 Q 83 [.inr (0, 2), .inl x1, .inl x2] (q ++ []) M')))))) ∧ ((40 : Int) ≤ M.1 0 2 7 → (Q [.inl (-3 : Int)] M))))) : g_R (D + 1) 83 Q 39 [.inr (0, 2), .inl x1, .inl x2] [.inl s0] M := rg_83_39 hD h
set_option maxRecDepth 20000 in
theorem rg_83_83 {D : Nat} {Q : g_P} {M : g_M} {x1 : Int} {x2 : Int} {s0 : Int} {D1 : Nat} (hD : D = D1 + 2) (h : (¬ s0 = (0 : Int) → (g_Ev D 87 [.inr (4, 0), .inr (4, 1)] M (fun q M' => g_R (D + 1) 83 Q 102 [.inr (0, 2), .inl x1, .inl x2] (q ++ []) M'))) ∧ (s0 = (0 : Int) → (Q [.inl (0 : Int)] M))) : g_R (D + 1) 83 Q 83 [.inr (0, 2), .inl x1, .inl x2] [.inl s0] M := by
  subst hD
  exact g_go hk_83 ⟨rfl, rfl⟩ (g_C_ok (g_F_ok (D := D1))) sp_83 8 h
theorem rp_83_83 {D : Nat} {Q : g_P} {M : g_M} {x1 : Int} {x2 : Int} {s0 : Int} {D1 : Nat} (hD : D = D1 + 2) (h : (¬ s0 = (0 : Int) → (g_Ev D 87 [.inr (4, 0), .inr (4, 1)] M (fun q M' => g_R (D + 1) 83 Q 102 [.inr (0, 2), .inl x1, .inl x2] (q ++ []) M'))) ∧ (s0 = (0 : Int) → (Q [.inl (0 : Int)] M))) : g_R (D + 1) 83 Q 83 [.inr (0, 2), .inl x1, .inl x2] [.inl s0] M := rg_83_83 hD h
set_option maxRecDepth 20000 in
theorem rg_83_102 {D : Nat} {Q : g_P} {M : g_M} {x1 : Int} {x2 : Int} {D1 : Nat} (hD : D = D1 + 2) (h : Q [.inl (1 : Int)] M) : g_R (D + 1) 83 Q 102 [.inr (0, 2), .inl x1, .inl x2] [] M := by
  subst hD
  exact g_go hk_83 ⟨rfl, rfl⟩ (g_C_ok (g_F_ok (D := D1))) sp_83 3 h
theorem rp_83_102 {D : Nat} {Q : g_P} {M : g_M} {x1 : Int} {x2 : Int} {D1 : Nat} (hD : D = D1 + 2) (h : Q [.inl (1 : Int)] M) : g_R (D + 1) 83 Q 102 [.inr (0, 2), .inl x1, .inl x2] [] M := rg_83_102 hD h
theorem hn_84 : 3 ≤ (hm_me 84).2.2.1 := by decide +kernel
/-- HeapLaw$Parting.find(LHeapLaw$Formula;LHeapLaw$Formula;)Z -/
def sp_84 (pc : Nat) : Option Nat := match pc with
  | 8 => some 3
  | 16 => some 3
  | 18 => some 4
  | 38 => some 4
  | 53 => some 4
  | 66 => some 4
  | 79 => some 4
  | 101 => some 5
  | 111 => some 5
  | _ => none
set_option maxRecDepth 20000 in
theorem rg_84_0 {D : Nat} {Q : g_P} {M : g_M} {h1 : Nat} {h2 : Nat} {D1 : Nat} (hD : D = D1 + 2) (h : g_Ev D 39 [.inr (7, 3), .inr (1, h1)] M (fun q M' => g_R (D + 1) 84 Q 8 [.inr (0, 60), .inr (1, h1), .inr (1, h2)] (q ++ []) M')) : g_R (D + 1) 84 Q 0 [.inr (0, 60), .inr (1, h1), .inr (1, h2)] [] M := by
  subst hD
  exact g_go hk_84 ⟨rfl, rfl⟩ (g_C_ok (g_F_ok (D := D1))) sp_84 5 h
theorem rp_84_0 {D : Nat} {Q : g_P} {M : g_M} {h1 : Nat} {h2 : Nat} {D1 : Nat} (hD : D = D1 + 2) (h : g_Ev D 39 [.inr (7, 3), .inr (1, h1)] M (fun q M' => g_R (D + 1) 84 Q 8 [.inr (0, 60), .inr (1, h1), .inr (1, h2)] (q ++ []) M')) : g_R (D + 1) 84 Q 0 [.inr (0, 60), .inr (1, h1), .inr (1, h2)] [] M := rg_84_0 hD h
set_option maxRecDepth 20000 in
theorem rg_84_8 {D : Nat} {Q : g_P} {M : g_M} {h1 : Nat} {h2 : Nat} {D1 : Nat} (hD : D = D1 + 2) (h : g_Ev D 39 [.inr (7, 4), .inr (1, h2)] M (fun q M' => g_R (D + 1) 84 Q 16 [.inr (0, 60), .inr (1, h1), .inr (1, h2)] (q ++ []) M')) : g_R (D + 1) 84 Q 8 [.inr (0, 60), .inr (1, h1), .inr (1, h2)] [] M := by
  subst hD
  exact g_go hk_84 ⟨rfl, rfl⟩ (g_C_ok (g_F_ok (D := D1))) sp_84 5 h
theorem rp_84_8 {D : Nat} {Q : g_P} {M : g_M} {h1 : Nat} {h2 : Nat} {D1 : Nat} (hD : D = D1 + 2) (h : g_Ev D 39 [.inr (7, 4), .inr (1, h2)] M (fun q M' => g_R (D + 1) 84 Q 16 [.inr (0, 60), .inr (1, h1), .inr (1, h2)] (q ++ []) M')) : g_R (D + 1) 84 Q 8 [.inr (0, 60), .inr (1, h1), .inr (1, h2)] [] M := rg_84_8 hD h
set_option maxRecDepth 20000 in
theorem rg_84_16 {D : Nat} {Q : g_P} {M : g_M} {h1 : Nat} {h2 : Nat} {D1 : Nat} (hD : D = D1 + 2) (h : g_R (D + 1) 84 Q 18 [.inr (0, 60), .inr (1, h1), .inr (1, h2), .inl (0 : Int)] [] M) : g_R (D + 1) 84 Q 16 [.inr (0, 60), .inr (1, h1), .inr (1, h2)] [] M := by
  subst hD
  exact g_go hk_84 ⟨rfl, rfl⟩ (g_C_ok (g_F_ok (D := D1))) sp_84 3 h
theorem rp_84_16 {D : Nat} {Q : g_P} {M : g_M} {h1 : Nat} {h2 : Nat} {D1 : Nat} (hD : D = D1 + 2) (h : g_R (D + 1) 84 Q 18 [.inr (0, 60), .inr (1, h1), .inr (1, h2), .inl (0 : Int)] [] M) : g_R (D + 1) 84 Q 16 [.inr (0, 60), .inr (1, h1), .inr (1, h2)] [] M := rg_84_16 hD h
set_option maxRecDepth 20000 in
theorem rg_84_18 {D : Nat} {Q : g_P} {M : g_M} {h1 : Nat} {h2 : Nat} {x3 : Int} {D1 : Nat} (hD : D = D1 + 2) (h : ((125 : Int) ≤ x3 → (((0 : Int) ≤ (0 : Int) ∧ (0 : Int) ≤ 1) ∧ (Q [.inl (0 : Int)] M))) ∧ (x3 < (125 : Int) → (((0 : Int) ≤ x3 ∧ (0 : Int) < (25 : Int)) ∧ ((hm_in ((x3 / (25 : Int)) + (-1 : Int))) ∧ (g_Ev D 33 [.inr (4, 1), .inl (1 : Int), .inl ((x3 / (25 : Int)) + (-1 : Int))] M (fun q M' => g_R (D + 1) 84 Q 38 [.inr (0, 60), .inr (1, h1), .inr (1, h2), .inl x3] (q ++ []) M')))))) : g_R (D + 1) 84 Q 18 [.inr (0, 60), .inr (1, h1), .inr (1, h2), .inl x3] [] M := by
  subst hD
  exact g_go hk_84 ⟨rfl, rfl⟩ (g_C_ok (g_F_ok (D := D1))) sp_84 13 h
set_option maxRecDepth 20000 in
theorem rp_84_18 {D : Nat} {Q : g_P} {M : g_M} {h1 : Nat} {h2 : Nat} {x3 : Int} {D1 : Nat} (hD : D = D1 + 2) (h : ((125 : Int) ≤ x3 → (Q [.inl (0 : Int)] M)) ∧ (x3 < (125 : Int) → (((0 : Int) ≤ x3 ∧ (0 : Int) < (25 : Int)) ∧ ((hm_in ((x3 / (25 : Int)) + (-1 : Int))) ∧ (g_Ev D 33 [.inr (4, 1), .inl (1 : Int), .inl ((x3 / (25 : Int)) + (-1 : Int))] M (fun q M' => g_R (D + 1) 84 Q 38 [.inr (0, 60), .inr (1, h1), .inr (1, h2), .inl x3] (q ++ []) M')))))) : g_R (D + 1) 84 Q 18 [.inr (0, 60), .inr (1, h1), .inr (1, h2), .inl x3] [] M :=
  rg_84_18 hD ⟨fun b1 => ⟨by decide, (And.left h b1)⟩, fun b2 => (have a3 := And.left (And.right h b2); ⟨a3, (have a4 := And.left (And.right (And.right h b2)); ⟨a4, (And.right (And.right (And.right h b2)))⟩)⟩)⟩
set_option maxRecDepth 20000 in
theorem rg_84_38 {D : Nat} {Q : g_P} {M : g_M} {h1 : Nat} {h2 : Nat} {x3 : Int} {D1 : Nat} (hD : D = D1 + 2) (h : ((0 : Int) ≤ x3 ∧ (0 : Int) < (5 : Int)) ∧ (((0 : Int) ≤ x3 / (5 : Int) ∧ (0 : Int) < (5 : Int)) ∧ ((hm_in (((x3 / (5 : Int)) % (5 : Int)) + (-1 : Int))) ∧ (g_Ev D 33 [.inr (4, 1), .inl (2 : Int), .inl (((x3 / (5 : Int)) % (5 : Int)) + (-1 : Int))] M (fun q M' => g_R (D + 1) 84 Q 53 [.inr (0, 60), .inr (1, h1), .inr (1, h2), .inl x3] (q ++ []) M'))))) : g_R (D + 1) 84 Q 38 [.inr (0, 60), .inr (1, h1), .inr (1, h2), .inl x3] [] M := by
  subst hD
  exact g_go hk_84 ⟨rfl, rfl⟩ (g_C_ok (g_F_ok (D := D1))) sp_84 12 h
theorem rp_84_38 {D : Nat} {Q : g_P} {M : g_M} {h1 : Nat} {h2 : Nat} {x3 : Int} {D1 : Nat} (hD : D = D1 + 2) (h : ((0 : Int) ≤ x3 ∧ (0 : Int) < (5 : Int)) ∧ (((0 : Int) ≤ x3 / (5 : Int) ∧ (0 : Int) < (5 : Int)) ∧ ((hm_in (((x3 / (5 : Int)) % (5 : Int)) + (-1 : Int))) ∧ (g_Ev D 33 [.inr (4, 1), .inl (2 : Int), .inl (((x3 / (5 : Int)) % (5 : Int)) + (-1 : Int))] M (fun q M' => g_R (D + 1) 84 Q 53 [.inr (0, 60), .inr (1, h1), .inr (1, h2), .inl x3] (q ++ []) M'))))) : g_R (D + 1) 84 Q 38 [.inr (0, 60), .inr (1, h1), .inr (1, h2), .inl x3] [] M := rg_84_38 hD h
set_option maxRecDepth 20000 in
theorem rg_84_53 {D : Nat} {Q : g_P} {M : g_M} {h1 : Nat} {h2 : Nat} {x3 : Int} {D1 : Nat} (hD : D = D1 + 2) (h : ((0 : Int) ≤ x3 ∧ (0 : Int) < (5 : Int)) ∧ ((hm_in ((x3 % (5 : Int)) + (-1 : Int))) ∧ (g_Ev D 33 [.inr (4, 1), .inl (3 : Int), .inl ((x3 % (5 : Int)) + (-1 : Int))] M (fun q M' => g_R (D + 1) 84 Q 66 [.inr (0, 60), .inr (1, h1), .inr (1, h2), .inl x3] (q ++ []) M')))) : g_R (D + 1) 84 Q 53 [.inr (0, 60), .inr (1, h1), .inr (1, h2), .inl x3] [] M := by
  subst hD
  exact g_go hk_84 ⟨rfl, rfl⟩ (g_C_ok (g_F_ok (D := D1))) sp_84 10 h
theorem rp_84_53 {D : Nat} {Q : g_P} {M : g_M} {h1 : Nat} {h2 : Nat} {x3 : Int} {D1 : Nat} (hD : D = D1 + 2) (h : ((0 : Int) ≤ x3 ∧ (0 : Int) < (5 : Int)) ∧ ((hm_in ((x3 % (5 : Int)) + (-1 : Int))) ∧ (g_Ev D 33 [.inr (4, 1), .inl (3 : Int), .inl ((x3 % (5 : Int)) + (-1 : Int))] M (fun q M' => g_R (D + 1) 84 Q 66 [.inr (0, 60), .inr (1, h1), .inr (1, h2), .inl x3] (q ++ []) M')))) : g_R (D + 1) 84 Q 53 [.inr (0, 60), .inr (1, h1), .inr (1, h2), .inl x3] [] M := rg_84_53 hD h
set_option maxRecDepth 20000 in
theorem rg_84_66 {D : Nat} {Q : g_P} {M : g_M} {h1 : Nat} {h2 : Nat} {x3 : Int} {D1 : Nat} (hD : D = D1 + 2) (h : g_Ev D 45 [.inr (4, 1), .inr (7, 3), .inl (0 : Int), .inl (0 : Int)] M (fun q M' => g_R (D + 1) 84 Q 79 [.inr (0, 60), .inr (1, h1), .inr (1, h2), .inl x3] (q ++ []) M')) : g_R (D + 1) 84 Q 66 [.inr (0, 60), .inr (1, h1), .inr (1, h2), .inl x3] [] M := by
  subst hD
  exact g_go hk_84 ⟨rfl, rfl⟩ (g_C_ok (g_F_ok (D := D1))) sp_84 8 h
theorem rp_84_66 {D : Nat} {Q : g_P} {M : g_M} {h1 : Nat} {h2 : Nat} {x3 : Int} {D1 : Nat} (hD : D = D1 + 2) (h : g_Ev D 45 [.inr (4, 1), .inr (7, 3), .inl (0 : Int), .inl (0 : Int)] M (fun q M' => g_R (D + 1) 84 Q 79 [.inr (0, 60), .inr (1, h1), .inr (1, h2), .inl x3] (q ++ []) M')) : g_R (D + 1) 84 Q 66 [.inr (0, 60), .inr (1, h1), .inr (1, h2), .inl x3] [] M := rg_84_66 hD h
set_option maxRecDepth 20000 in
theorem rg_84_79 {D : Nat} {Q : g_P} {M : g_M} {h1 : Nat} {h2 : Nat} {x3 : Int} {s0 : Int} {D1 : Nat} (hD : D = D1 + 2) (h : (s0 = (-1 : Int) → ((hm_in (x3 + (1 : Int))) ∧ (g_R (D + 1) 84 Q 18 [.inr (0, 60), .inr (1, h1), .inr (1, h2), .inl (x3 + (1 : Int))] [] M))) ∧ (¬ s0 = (-1 : Int) → ((0 ≤ (M.1 4 1 2) ∧ (M.1 4 1 2) < 1024) ∧ (g_Ev D 85 [.inr (1, h1), .inl (g_pop (M.1 4 1 2))] M (fun q M' => g_R (D + 1) 84 Q 101 [.inr (0, 60), .inr (1, h1), .inr (1, h2), .inl x3, .inl s0] (q ++ []) M'))))) : g_R (D + 1) 84 Q 79 [.inr (0, 60), .inr (1, h1), .inr (1, h2), .inl x3] [.inl s0] M := by
  subst hD
  exact g_go hk_84 ⟨rfl, rfl⟩ (g_C_ok (g_F_ok (D := D1))) sp_84 11 h
theorem rp_84_79 {D : Nat} {Q : g_P} {M : g_M} {h1 : Nat} {h2 : Nat} {x3 : Int} {s0 : Int} {D1 : Nat} (hD : D = D1 + 2) (h : (s0 = (-1 : Int) → ((hm_in (x3 + (1 : Int))) ∧ (g_R (D + 1) 84 Q 18 [.inr (0, 60), .inr (1, h1), .inr (1, h2), .inl (x3 + (1 : Int))] [] M))) ∧ (¬ s0 = (-1 : Int) → ((0 ≤ (M.1 4 1 2) ∧ (M.1 4 1 2) < 1024) ∧ (g_Ev D 85 [.inr (1, h1), .inl (g_pop (M.1 4 1 2))] M (fun q M' => g_R (D + 1) 84 Q 101 [.inr (0, 60), .inr (1, h1), .inr (1, h2), .inl x3, .inl s0] (q ++ []) M'))))) : g_R (D + 1) 84 Q 79 [.inr (0, 60), .inr (1, h1), .inr (1, h2), .inl x3] [.inl s0] M := rg_84_79 hD h
set_option maxRecDepth 20000 in
theorem rg_84_101 {D : Nat} {Q : g_P} {M : g_M} {h1 : Nat} {h2 : Nat} {x3 : Int} {x4 : Int} {s0 : Int} {D1 : Nat} (hD : D = D1 + 2) (h : (s0 = (0 : Int) → ((hm_in (x3 + (1 : Int))) ∧ (g_R (D + 1) 84 Q 18 [.inr (0, 60), .inr (1, h1), .inr (1, h2), .inl (x3 + (1 : Int))] [] M))) ∧ (¬ s0 = (0 : Int) → (g_Ev D 86 [.inr (0, 60), .inl (1 : Int), .inl x4] M (fun q M' => g_R (D + 1) 84 Q 111 [.inr (0, 60), .inr (1, h1), .inr (1, h2), .inl x3, .inl x4] (q ++ []) M')))) : g_R (D + 1) 84 Q 101 [.inr (0, 60), .inr (1, h1), .inr (1, h2), .inl x3, .inl x4] [.inl s0] M := by
  subst hD
  exact g_go hk_84 ⟨rfl, rfl⟩ (g_C_ok (g_F_ok (D := D1))) sp_84 6 h
theorem rp_84_101 {D : Nat} {Q : g_P} {M : g_M} {h1 : Nat} {h2 : Nat} {x3 : Int} {x4 : Int} {s0 : Int} {D1 : Nat} (hD : D = D1 + 2) (h : (s0 = (0 : Int) → ((hm_in (x3 + (1 : Int))) ∧ (g_R (D + 1) 84 Q 18 [.inr (0, 60), .inr (1, h1), .inr (1, h2), .inl (x3 + (1 : Int))] [] M))) ∧ (¬ s0 = (0 : Int) → (g_Ev D 86 [.inr (0, 60), .inl (1 : Int), .inl x4] M (fun q M' => g_R (D + 1) 84 Q 111 [.inr (0, 60), .inr (1, h1), .inr (1, h2), .inl x3, .inl x4] (q ++ []) M')))) : g_R (D + 1) 84 Q 101 [.inr (0, 60), .inr (1, h1), .inr (1, h2), .inl x3, .inl x4] [.inl s0] M := rg_84_101 hD h
set_option maxRecDepth 20000 in
theorem rg_84_111 {D : Nat} {Q : g_P} {M : g_M} {h1 : Nat} {h2 : Nat} {x3 : Int} {x4 : Int} {s0 : Int} {D1 : Nat} (hD : D = D1 + 2) (h : (s0 = (0 : Int) → ((hm_in (x3 + (1 : Int))) ∧ (g_R (D + 1) 84 Q 18 [.inr (0, 60), .inr (1, h1), .inr (1, h2), .inl (x3 + (1 : Int))] [] M))) ∧ (¬ s0 = (0 : Int) → (((0 : Int) ≤ (1 : Int) ∧ (1 : Int) ≤ 1) ∧ (Q [.inl (1 : Int)] M)))) : g_R (D + 1) 84 Q 111 [.inr (0, 60), .inr (1, h1), .inr (1, h2), .inl x3, .inl x4] [.inl s0] M := by
  subst hD
  exact g_go hk_84 ⟨rfl, rfl⟩ (g_C_ok (g_F_ok (D := D1))) sp_84 4 h
set_option maxRecDepth 20000 in
theorem rp_84_111 {D : Nat} {Q : g_P} {M : g_M} {h1 : Nat} {h2 : Nat} {x3 : Int} {x4 : Int} {s0 : Int} {D1 : Nat} (hD : D = D1 + 2) (h : (s0 = (0 : Int) → ((hm_in (x3 + (1 : Int))) ∧ (g_R (D + 1) 84 Q 18 [.inr (0, 60), .inr (1, h1), .inr (1, h2), .inl (x3 + (1 : Int))] [] M))) ∧ (¬ s0 = (0 : Int) → (Q [.inl (1 : Int)] M))) : g_R (D + 1) 84 Q 111 [.inr (0, 60), .inr (1, h1), .inr (1, h2), .inl x3, .inl x4] [.inl s0] M :=
  rg_84_111 hD ⟨fun b1 => (have a3 := And.left (And.left h b1); ⟨a3, (And.right (And.left h b1))⟩), fun b2 => ⟨by decide, (And.right h b2)⟩⟩
theorem hn_85 : 2 ≤ (hm_me 85).2.2.1 := by decide +kernel
/-- HeapLaw$Formula.canTake(I)Z -/
def sp_85 (pc : Nat) : Option Nat := match pc with
  | 4 => some 4
  | _ => none
set_option maxRecDepth 20000 in
theorem rg_85_0 {D : Nat} {Q : g_P} {M : g_M} {h0 : Nat} {x1 : Int} {D1 : Nat} (hD : D = D1 + 2) (h : g_R (D + 1) 85 Q 4 [.inr (1, h0), .inl x1, .inl (0 : Int), .inl (0 : Int)] [] M) : g_R (D + 1) 85 Q 0 [.inr (1, h0), .inl x1] [] M := by
  subst hD
  exact g_go hk_85 ⟨rfl, rfl⟩ (g_C_ok (g_F_ok (D := D1))) sp_85 5 h
theorem rp_85_0 {D : Nat} {Q : g_P} {M : g_M} {h0 : Nat} {x1 : Int} {D1 : Nat} (hD : D = D1 + 2) (h : g_R (D + 1) 85 Q 4 [.inr (1, h0), .inl x1, .inl (0 : Int), .inl (0 : Int)] [] M) : g_R (D + 1) 85 Q 0 [.inr (1, h0), .inl x1] [] M := rg_85_0 hD h
set_option maxRecDepth 20000 in
theorem rg_85_4 {D : Nat} {Q : g_P} {M : g_M} {h0 : Nat} {x1 : Int} {x2 : Int} {x3 : Int} {D1 : Nat} (hD : D = D1 + 2) (h : (M.1 1 h0 3 ≤ x3 → ((x1 = x2 → (((0 : Int) ≤ (1 : Int) ∧ (1 : Int) ≤ 1) ∧ (Q [.inl (1 : Int)] M))) ∧ (¬ x1 = x2 → ((x1 ≤ x2 → (((0 : Int) ≤ (0 : Int) ∧ (0 : Int) ≤ 1) ∧ (Q [.inl (0 : Int)] M))) ∧ (x2 < x1 → ((M.1 1 h0 3 ≤ x2 → (((0 : Int) ≤ (0 : Int) ∧ (0 : Int) ≤ 1) ∧ (Q [.inl (0 : Int)] M))) ∧ (x2 < M.1 1 h0 3 → (((0 : Int) ≤ (1 : Int) ∧ (1 : Int) ≤ 1) ∧ (Q [.inl (1 : Int)] M))))))))) ∧ (x3 < M.1 1 h0 3 → (((0 : Int) ≤ x3 ∧ x3 < ((10 : Nat) : Int)) ∧ ((0 ≤ (M.1 3 h0 x3.toNat) ∧ (M.1 3 h0 x3.toNat) < 256) ∧ ((¬ (M.1 3 h0 x3.toNat) / 64 = (2 : Int) → ((hm_in (x2 + (0 : Int))) ∧ ((hm_in (x3 + (1 : Int))) ∧ (g_R (D + 1) 85 Q 4 [.inr (1, h0), .inl x1, .inl (x2 + (0 : Int)), .inl (x3 + (1 : Int))] [] M)))) ∧ ((M.1 3 h0 x3.toNat) / 64 = (2 : Int) → ((hm_in (x2 + (1 : Int))) ∧ ((hm_in (x3 + (1 : Int))) ∧ (g_R (D + 1) 85 Q 4 [.inr (1, h0), .inl x1, .inl (x2 + (1 : Int)), .inl (x3 + (1 : Int))] [] M))))))))) : g_R (D + 1) 85 Q 4 [.inr (1, h0), .inl x1, .inl x2, .inl x3] [] M := by
  subst hD
  exact g_go hk_85 ⟨rfl, rfl⟩ (g_C_ok (g_F_ok (D := D1))) sp_85 19 h
set_option maxRecDepth 20000 in
theorem rp_85_4 {D : Nat} {Q : g_P} {M : g_M} {h0 : Nat} {x1 : Int} {x2 : Int} {x3 : Int} {D1 : Nat} (hD : D = D1 + 2) (h : (M.1 1 h0 3 ≤ x3 → ((x1 = x2 → (Q [.inl (1 : Int)] M)) ∧ (¬ x1 = x2 → ((x1 ≤ x2 → (Q [.inl (0 : Int)] M)) ∧ (x2 < x1 → ((M.1 1 h0 3 ≤ x2 → (Q [.inl (0 : Int)] M)) ∧ (x2 < M.1 1 h0 3 → (Q [.inl (1 : Int)] M)))))))) ∧ (x3 < M.1 1 h0 3 → (((0 : Int) ≤ x3 ∧ x3 < ((10 : Nat) : Int)) ∧ ((0 ≤ (M.1 3 h0 x3.toNat) ∧ (M.1 3 h0 x3.toNat) < 256) ∧ ((¬ (M.1 3 h0 x3.toNat) / 64 = (2 : Int) → ((hm_in (x2 + (0 : Int))) ∧ ((hm_in (x3 + (1 : Int))) ∧ (g_R (D + 1) 85 Q 4 [.inr (1, h0), .inl x1, .inl (x2 + (0 : Int)), .inl (x3 + (1 : Int))] [] M)))) ∧ ((M.1 3 h0 x3.toNat) / 64 = (2 : Int) → ((hm_in (x2 + (1 : Int))) ∧ ((hm_in (x3 + (1 : Int))) ∧ (g_R (D + 1) 85 Q 4 [.inr (1, h0), .inl x1, .inl (x2 + (1 : Int)), .inl (x3 + (1 : Int))] [] M))))))))) : g_R (D + 1) 85 Q 4 [.inr (1, h0), .inl x1, .inl x2, .inl x3] [] M :=
  rg_85_4 hD ⟨fun b1 => ⟨fun b3 => ⟨by decide, (And.left (And.left h b1) b3)⟩, fun b4 => ⟨fun b5 => ⟨by decide, (And.left (And.right (And.left h b1) b4) b5)⟩, fun b6 => ⟨fun b7 => ⟨by decide, (And.left (And.right (And.right (And.left h b1) b4) b6) b7)⟩, fun b8 => ⟨by decide, (And.right (And.right (And.right (And.left h b1) b4) b6) b8)⟩⟩⟩⟩, fun b2 => (have a9 := And.left (And.right h b2); ⟨a9, (have a10 := And.left (And.right (And.right h b2)); ⟨a10, ⟨fun b11 => (have a13 := And.left (And.left (And.right (And.right (And.right h b2))) b11); ⟨a13, (have a14 := And.left (And.right (And.left (And.right (And.right (And.right h b2))) b11)); ⟨a14, (And.right (And.right (And.left (And.right (And.right (And.right h b2))) b11)))⟩)⟩), fun b12 => (have a15 := And.left (And.right (And.right (And.right (And.right h b2))) b12); ⟨a15, (have a16 := And.left (And.right (And.right (And.right (And.right (And.right h b2))) b12)); ⟨a16, (And.right (And.right (And.right (And.right (And.right (And.right h b2))) b12)))⟩)⟩)⟩⟩)⟩)⟩
theorem hn_86 : 3 ≤ (hm_me 86).2.2.1 := by decide +kernel
/-- HeapLaw$Parting.findFrom(II)Z -/
def sp_86 (pc : Nat) : Option Nat := match pc with
  | 27 => some 3
  | 67 => some 5
  | 97 => some 5
  | 114 => some 6
  | _ => none
set_option maxRecDepth 20000 in
theorem rg_86_0 {D : Nat} {Q : g_P} {M : g_M} {x1 : Int} {x2 : Int} {D1 : Nat} (hD : D = D1 + 2) (h : (x1 ≤ (4 : Int) → (((0 ≤ (hm_or (M.1 7 3 2) (M.1 7 4 2)) ∧ (hm_or (M.1 7 3 2) (M.1 7 4 2)) < 1024) ∧ (0 ≤ x1 ∧ x1 < 10)) ∧ ((g_bit (hm_or (M.1 7 3 2) (M.1 7 4 2)) x1 → (((1 : Int) = (0 : Int) → (g_R (D + 1) 86 Q 67 [.inr (0, 60), .inl x1, .inl x2, .inl (0 : Int), .inl (0 : Int)] [] M)) ∧ (¬ (1 : Int) = (0 : Int) → (g_R (D + 1) 86 Q 67 [.inr (0, 60), .inl x1, .inl x2, .inl (3 : Int), .inl (0 : Int)] [] M)))) ∧ (¬ g_bit (hm_or (M.1 7 3 2) (M.1 7 4 2)) x1 → (((0 : Int) = (0 : Int) → (g_R (D + 1) 86 Q 67 [.inr (0, 60), .inl x1, .inl x2, .inl (0 : Int), .inl (0 : Int)] [] M)) ∧ (¬ (0 : Int) = (0 : Int) → (g_R (D + 1) 86 Q 67 [.inr (0, 60), .inl x1, .inl x2, .inl (3 : Int), .inl (0 : Int)] [] M))))))) ∧ ((4 : Int) < x1 → ((¬ x2 = M.1 4 1 2 → (((0 : Int) ≤ (0 : Int) ∧ (0 : Int) ≤ 1) ∧ (Q [.inl (0 : Int)] M))) ∧ (x2 = M.1 4 1 2 → (g_Ev D 149 [.inr (4, 1), .inr (7, 4)] M (fun q M' => g_R (D + 1) 86 Q 27 [.inr (0, 60), .inl x1, .inl x2] (q ++ []) M')))))) : g_R (D + 1) 86 Q 0 [.inr (0, 60), .inl x1, .inl x2] [] M := by
  subst hD
  exact g_go hk_86 ⟨rfl, rfl⟩ (g_C_ok (g_F_ok (D := D1))) sp_86 19 h
set_option maxRecDepth 20000 in
theorem rp_86_0 {D : Nat} {Q : g_P} {M : g_M} {x1 : Int} {x2 : Int} {D1 : Nat} (hD : D = D1 + 2) (h : (x1 ≤ (4 : Int) → (((0 ≤ (hm_or (M.1 7 3 2) (M.1 7 4 2)) ∧ (hm_or (M.1 7 3 2) (M.1 7 4 2)) < 1024) ∧ (0 ≤ x1 ∧ x1 < 10)) ∧ ((g_bit (hm_or (M.1 7 3 2) (M.1 7 4 2)) x1 → (g_R (D + 1) 86 Q 67 [.inr (0, 60), .inl x1, .inl x2, .inl (3 : Int), .inl (0 : Int)] [] M)) ∧ (¬ g_bit (hm_or (M.1 7 3 2) (M.1 7 4 2)) x1 → (g_R (D + 1) 86 Q 67 [.inr (0, 60), .inl x1, .inl x2, .inl (0 : Int), .inl (0 : Int)] [] M))))) ∧ ((4 : Int) < x1 → ((¬ x2 = M.1 4 1 2 → (Q [.inl (0 : Int)] M)) ∧ (x2 = M.1 4 1 2 → (g_Ev D 149 [.inr (4, 1), .inr (7, 4)] M (fun q M' => g_R (D + 1) 86 Q 27 [.inr (0, 60), .inl x1, .inl x2] (q ++ []) M')))))) : g_R (D + 1) 86 Q 0 [.inr (0, 60), .inl x1, .inl x2] [] M :=
  rg_86_0 hD ⟨fun b1 => (have a3 := And.left (And.left h b1); ⟨a3, ⟨fun b4 => ⟨(fun z => absurd z (by decide)), fun _ => (And.left (And.right (And.left h b1)) b4)⟩, fun b5 => ⟨fun _ => (And.right (And.right (And.left h b1)) b5), (fun z => absurd z (by decide))⟩⟩⟩), fun b2 => ⟨fun b6 => ⟨by decide, (And.left (And.right h b2) b6)⟩, fun b7 => (And.right (And.right h b2) b7)⟩⟩
set_option maxRecDepth 20000 in
theorem rg_86_27 {D : Nat} {Q : g_P} {M : g_M} {x1 : Int} {x2 : Int} {s0 : Int} {D1 : Nat} (hD : D = D1 + 2) (h : (¬ s0 = (0 : Int) → (((0 : Int) ≤ (0 : Int) ∧ (0 : Int) ≤ 1) ∧ (Q [.inl (0 : Int)] M))) ∧ (s0 = (0 : Int) → (((0 : Int) ≤ (1 : Int) ∧ (1 : Int) ≤ 1) ∧ (Q [.inl (1 : Int)] M)))) : g_R (D + 1) 86 Q 27 [.inr (0, 60), .inl x1, .inl x2] [.inl s0] M := by
  subst hD
  exact g_go hk_86 ⟨rfl, rfl⟩ (g_C_ok (g_F_ok (D := D1))) sp_86 5 h
set_option maxRecDepth 20000 in
theorem rp_86_27 {D : Nat} {Q : g_P} {M : g_M} {x1 : Int} {x2 : Int} {s0 : Int} {D1 : Nat} (hD : D = D1 + 2) (h : (¬ s0 = (0 : Int) → (Q [.inl (0 : Int)] M)) ∧ (s0 = (0 : Int) → (Q [.inl (1 : Int)] M))) : g_R (D + 1) 86 Q 27 [.inr (0, 60), .inl x1, .inl x2] [.inl s0] M :=
  rg_86_27 hD ⟨fun b1 => ⟨by decide, (And.left h b1)⟩, fun b2 => ⟨by decide, (And.right h b2)⟩⟩
set_option maxRecDepth 20000 in
theorem rg_86_67 {D : Nat} {Q : g_P} {M : g_M} {x1 : Int} {x2 : Int} {x3 : Int} {x4 : Int} {D1 : Nat} (hD : D = D1 + 2) (h : (x3 < x4 → (((0 : Int) ≤ (0 : Int) ∧ (0 : Int) ≤ 1) ∧ (Q [.inl (0 : Int)] M))) ∧ (x4 ≤ x3 → (((0 : Int) ≤ x1 ∧ x1 < ((8 : Nat) : Int)) ∧ (g_Ev D 45 [.inr (4, 1), .inr (7, 3), .inl x1, .inl x2] (g_uA M (6, 1) x1.toNat x4) (fun q M' => g_R (D + 1) 86 Q 97 [.inr (0, 60), .inl x1, .inl x2, .inl x3, .inl x4] (q ++ []) M'))))) : g_R (D + 1) 86 Q 67 [.inr (0, 60), .inl x1, .inl x2, .inl x3, .inl x4] [] M := by
  subst hD
  exact g_go hk_86 ⟨rfl, rfl⟩ (g_C_ok (g_F_ok (D := D1))) sp_86 17 h
set_option maxRecDepth 20000 in
theorem rp_86_67 {D : Nat} {Q : g_P} {M : g_M} {x1 : Int} {x2 : Int} {x3 : Int} {x4 : Int} {D1 : Nat} (hD : D = D1 + 2) (h : (x3 < x4 → (Q [.inl (0 : Int)] M)) ∧ (x4 ≤ x3 → (((0 : Int) ≤ x1 ∧ x1 < ((8 : Nat) : Int)) ∧ (g_Ev D 45 [.inr (4, 1), .inr (7, 3), .inl x1, .inl x2] (g_uA M (6, 1) x1.toNat x4) (fun q M' => g_R (D + 1) 86 Q 97 [.inr (0, 60), .inl x1, .inl x2, .inl x3, .inl x4] (q ++ []) M'))))) : g_R (D + 1) 86 Q 67 [.inr (0, 60), .inl x1, .inl x2, .inl x3, .inl x4] [] M :=
  rg_86_67 hD ⟨fun b1 => ⟨by decide, (And.left h b1)⟩, fun b2 => (have a3 := And.left (And.right h b2); ⟨a3, (And.right (And.right h b2))⟩)⟩
set_option maxRecDepth 20000 in
theorem rg_86_97 {D : Nat} {Q : g_P} {M : g_M} {x1 : Int} {x2 : Int} {x3 : Int} {x4 : Int} {s0 : Int} {D1 : Nat} (hD : D = D1 + 2) (h : (s0 = (-1 : Int) → ((hm_in (x4 + (1 : Int))) ∧ (g_R (D + 1) 86 Q 67 [.inr (0, 60), .inl x1, .inl x2, .inl x3, .inl (x4 + (1 : Int))] [] M))) ∧ (¬ s0 = (-1 : Int) → ((hm_in (x1 + (1 : Int))) ∧ (g_Ev D 86 [.inr (0, 60), .inl (x1 + (1 : Int)), .inl s0] M (fun q M' => g_R (D + 1) 86 Q 114 [.inr (0, 60), .inl x1, .inl x2, .inl x3, .inl x4, .inl s0] (q ++ []) M'))))) : g_R (D + 1) 86 Q 97 [.inr (0, 60), .inl x1, .inl x2, .inl x3, .inl x4] [.inl s0] M := by
  subst hD
  exact g_go hk_86 ⟨rfl, rfl⟩ (g_C_ok (g_F_ok (D := D1))) sp_86 11 h
theorem rp_86_97 {D : Nat} {Q : g_P} {M : g_M} {x1 : Int} {x2 : Int} {x3 : Int} {x4 : Int} {s0 : Int} {D1 : Nat} (hD : D = D1 + 2) (h : (s0 = (-1 : Int) → ((hm_in (x4 + (1 : Int))) ∧ (g_R (D + 1) 86 Q 67 [.inr (0, 60), .inl x1, .inl x2, .inl x3, .inl (x4 + (1 : Int))] [] M))) ∧ (¬ s0 = (-1 : Int) → ((hm_in (x1 + (1 : Int))) ∧ (g_Ev D 86 [.inr (0, 60), .inl (x1 + (1 : Int)), .inl s0] M (fun q M' => g_R (D + 1) 86 Q 114 [.inr (0, 60), .inl x1, .inl x2, .inl x3, .inl x4, .inl s0] (q ++ []) M'))))) : g_R (D + 1) 86 Q 97 [.inr (0, 60), .inl x1, .inl x2, .inl x3, .inl x4] [.inl s0] M := rg_86_97 hD h
set_option maxRecDepth 20000 in
theorem rg_86_114 {D : Nat} {Q : g_P} {M : g_M} {x1 : Int} {x2 : Int} {x3 : Int} {x4 : Int} {x5 : Int} {s0 : Int} {D1 : Nat} (hD : D = D1 + 2) (h : (s0 = (0 : Int) → ((hm_in (x4 + (1 : Int))) ∧ (g_R (D + 1) 86 Q 67 [.inr (0, 60), .inl x1, .inl x2, .inl x3, .inl (x4 + (1 : Int))] [] M))) ∧ (¬ s0 = (0 : Int) → (((0 : Int) ≤ (1 : Int) ∧ (1 : Int) ≤ 1) ∧ (Q [.inl (1 : Int)] M)))) : g_R (D + 1) 86 Q 114 [.inr (0, 60), .inl x1, .inl x2, .inl x3, .inl x4, .inl x5] [.inl s0] M := by
  subst hD
  exact g_go hk_86 ⟨rfl, rfl⟩ (g_C_ok (g_F_ok (D := D1))) sp_86 4 h
set_option maxRecDepth 20000 in
theorem rp_86_114 {D : Nat} {Q : g_P} {M : g_M} {x1 : Int} {x2 : Int} {x3 : Int} {x4 : Int} {x5 : Int} {s0 : Int} {D1 : Nat} (hD : D = D1 + 2) (h : (s0 = (0 : Int) → ((hm_in (x4 + (1 : Int))) ∧ (g_R (D + 1) 86 Q 67 [.inr (0, 60), .inl x1, .inl x2, .inl x3, .inl (x4 + (1 : Int))] [] M))) ∧ (¬ s0 = (0 : Int) → (Q [.inl (1 : Int)] M))) : g_R (D + 1) 86 Q 114 [.inr (0, 60), .inl x1, .inl x2, .inl x3, .inl x4, .inl x5] [.inl s0] M :=
  rg_86_114 hD ⟨fun b1 => (have a3 := And.left (And.left h b1); ⟨a3, (And.right (And.left h b1))⟩), fun b2 => ⟨by decide, (And.right h b2)⟩⟩
theorem hn_87 : 2 ≤ (hm_me 87).2.2.1 := by decide +kernel
/-- HeapLaw$Memory.copyFrom(LHeapLaw$Memory;)V -/
def sp_87 (pc : Nat) : Option Nat := match pc with
  | _ => none
set_option maxRecDepth 20000 in
theorem rg_87_0 {D : Nat} {Q : g_P} {M : g_M} {h0 : Nat} {h1 : Nat} {D1 : Nat} (hD : D = D1 + 2) (h : ((0 : Int) ≤ (0 : Int) ∧ 0 ≤ (0 : Int) ∧ 0 ≤ ((10 : Nat) : Int) ∧ (0 : Int) + ((10 : Nat) : Int) ≤ ((10 : Nat) : Int) ∧ (0 : Int) + ((10 : Nat) : Int) ≤ ((10 : Nat) : Int)) ∧ (((0 : Int) ≤ (0 : Int) ∧ 0 ≤ (0 : Int) ∧ 0 ≤ ((8 : Nat) : Int) ∧ (0 : Int) + ((8 : Nat) : Int) ≤ ((8 : Nat) : Int) ∧ (0 : Int) + ((8 : Nat) : Int) ≤ ((8 : Nat) : Int)) ∧ (Q [] (g_uA (g_cp (g_cp M (5, h1) (5, h0) (0 : Int).toNat (0 : Int).toNat ((10 : Nat) : Int).toNat) (6, h1) (6, h0) (0 : Int).toNat (0 : Int).toNat ((8 : Nat) : Int).toNat) (4, h0) 2 (M.1 4 h1 2))))) : g_R (D + 1) 87 Q 0 [.inr (4, h0), .inr (4, h1)] [] M := by
  subst hD
  exact g_go hk_87 ⟨rfl, rfl⟩ (g_C_ok (g_F_ok (D := D1))) sp_87 26 h
set_option maxRecDepth 20000 in
theorem rp_87_0 {D : Nat} {Q : g_P} {M : g_M} {h0 : Nat} {h1 : Nat} {D1 : Nat} (hD : D = D1 + 2) (h : Q [] (g_uA (g_cp (g_cp M (5, h1) (5, h0) (0 : Int).toNat (0 : Int).toNat ((10 : Nat) : Int).toNat) (6, h1) (6, h0) (0 : Int).toNat (0 : Int).toNat ((8 : Nat) : Int).toNat) (4, h0) 2 (M.1 4 h1 2))) : g_R (D + 1) 87 Q 0 [.inr (4, h0), .inr (4, h1)] [] M :=
  rg_87_0 hD ⟨by decide, ⟨by decide, h⟩⟩
theorem hn_88 : 2 ≤ (hm_me 88).2.2.1 := by decide +kernel
/-- HeapLaw.count(I)I -/
def sp_88 (pc : Nat) : Option Nat := match pc with
  | _ => none
set_option maxRecDepth 20000 in
theorem rg_88_0 {D : Nat} {Q : g_P} {M : g_M} {x1 : Int} {D1 : Nat} (hD : D = D1 + 2) (h : (¬ x1 = (0 : Int) → ((¬ x1 = (1 : Int) → (Q [.inl (-1 : Int)] M)) ∧ (x1 = (1 : Int) → (Q [.inl (M.1 0 2 7)] M)))) ∧ (x1 = (0 : Int) → (Q [.inl (M.1 0 2 6)] M))) : g_R (D + 1) 88 Q 0 [.inr (0, 2), .inl x1] [] M := by
  subst hD
  exact g_go hk_88 ⟨rfl, rfl⟩ (g_C_ok (g_F_ok (D := D1))) sp_88 10 h
theorem rp_88_0 {D : Nat} {Q : g_P} {M : g_M} {x1 : Int} {D1 : Nat} (hD : D = D1 + 2) (h : (¬ x1 = (0 : Int) → ((¬ x1 = (1 : Int) → (Q [.inl (-1 : Int)] M)) ∧ (x1 = (1 : Int) → (Q [.inl (M.1 0 2 7)] M)))) ∧ (x1 = (0 : Int) → (Q [.inl (M.1 0 2 6)] M))) : g_R (D + 1) 88 Q 0 [.inr (0, 2), .inl x1] [] M := rg_88_0 hD h
theorem hn_90 : 1 ≤ (hm_me 90).2.2.1 := by decide +kernel
/-- HeapLawModel.formula()I -/
def sp_90 (pc : Nat) : Option Nat := match pc with
  | _ => none
set_option maxRecDepth 20000 in
theorem rg_90_0 {D : Nat} {Q : g_P} {M : g_M} {D1 : Nat} (hD : D = D1 + 2) (h : (¬ M.1 0 286 1 = (60 : Int) → (((0 : Int) ≤ M.1 0 286 1 ∧ M.1 0 286 1 < ((200 : Nat) : Int)) ∧ (((0 : Int) ≤ M.1 0 286 1 ∧ M.1 0 286 1 < ((200 : Nat) : Int)) ∧ ((hm_in ((M.1 0 286 1) + (1 : Int))) ∧ ((hm_in (((M.1 0 286 1) + (1 : Int)) - (1 : Int))) ∧ (Q [.inl (((M.1 0 286 1) + (1 : Int)) - (1 : Int))] (g_uA (g_uA (g_uA M (0, 287) (M.1 0 286 1).toNat (0 : Int)) (0, 291) (M.1 0 286 1).toNat (0 : Int)) (0, 286) 1 ((M.1 0 286 1) + (1 : Int))))))))) ∧ (M.1 0 286 1 = (60 : Int) → (Q [.inl (-2 : Int)] M))) : g_R (D + 1) 90 Q 0 [.inr (0, 286)] [] M := by
  subst hD
  exact g_go hk_90 ⟨rfl, rfl⟩ (g_C_ok (g_F_ok (D := D1))) sp_90 28 h
set_option maxRecDepth 20000 in
theorem rp_90_0 {D : Nat} {Q : g_P} {M : g_M} {D1 : Nat} (hD : D = D1 + 2) (h : (¬ M.1 0 286 1 = (60 : Int) → (((0 : Int) ≤ M.1 0 286 1 ∧ M.1 0 286 1 < ((200 : Nat) : Int)) ∧ ((hm_in ((M.1 0 286 1) + (1 : Int))) ∧ ((hm_in (((M.1 0 286 1) + (1 : Int)) - (1 : Int))) ∧ (Q [.inl (((M.1 0 286 1) + (1 : Int)) - (1 : Int))] (g_uA (g_uA (g_uA M (0, 287) (M.1 0 286 1).toNat (0 : Int)) (0, 291) (M.1 0 286 1).toNat (0 : Int)) (0, 286) 1 ((M.1 0 286 1) + (1 : Int)))))))) ∧ (M.1 0 286 1 = (60 : Int) → (Q [.inl (-2 : Int)] M))) : g_R (D + 1) 90 Q 0 [.inr (0, 286)] [] M :=
  rg_90_0 hD ⟨fun b1 => (have a3 := And.left (And.left h b1); ⟨a3, ⟨a3, (have a4 := And.left (And.right (And.left h b1)); ⟨a4, (have a5 := And.left (And.right (And.right (And.left h b1))); ⟨a5, (And.right (And.right (And.right (And.left h b1))))⟩)⟩)⟩⟩), fun b2 => (And.right h b2)⟩
theorem hn_91 : 5 ≤ (hm_me 91).2.2.1 := by decide +kernel
/-- HeapLawModel.pure(IIII)I -/
def sp_91 (pc : Nat) : Option Nat := match pc with
  | 57 => some 5
  | _ => none
set_option maxRecDepth 20000 in
theorem rg_91_0 {D : Nat} {Q : g_P} {M : g_M} {x1 : Int} {x2 : Int} {x3 : Int} {x4 : Int} {D1 : Nat} (hD : D = D1 + 2) (h : ((0 ≤ x1 ∧ x1 < M.1 0 286 1) → (((1 : Int) = (0 : Int) → (Q [.inl (-1 : Int)] M)) ∧ (¬ (1 : Int) = (0 : Int) → ((x2 < (0 : Int) → (Q [.inl (-1 : Int)] M)) ∧ ((0 : Int) ≤ x2 → (((1 : Int) < x2 → (Q [.inl (-1 : Int)] M)) ∧ (x2 ≤ (1 : Int) → (((0 ≤ x3 ∧ x3 < 8) → (((1 : Int) = (0 : Int) → (Q [.inl (-1 : Int)] M)) ∧ (¬ (1 : Int) = (0 : Int) → (((0 ≤ x4 ∧ x4 < 8) → ((¬ (1 : Int) = (0 : Int) → (((0 : Int) ≤ x1 ∧ x1 < ((200 : Nat) : Int)) ∧ ((¬ M.1 0 287 x1.toNat = (16 : Int) → (g_Ev D 94 [.inr (0, 286), .inl x1, .inl x2, .inl x3, .inl x4] M (fun q M' => g_R (D + 1) 91 Q 57 [.inr (0, 286), .inl x1, .inl x2, .inl x3, .inl x4] (q ++ []) M'))) ∧ (M.1 0 287 x1.toNat = (16 : Int) → (Q [.inl (-2 : Int)] M))))) ∧ ((1 : Int) = (0 : Int) → (Q [.inl (-1 : Int)] M)))) ∧ (¬ (0 ≤ x4 ∧ x4 < 8) → ((¬ (0 : Int) = (0 : Int) → (((0 : Int) ≤ x1 ∧ x1 < ((200 : Nat) : Int)) ∧ ((¬ M.1 0 287 x1.toNat = (16 : Int) → (g_Ev D 94 [.inr (0, 286), .inl x1, .inl x2, .inl x3, .inl x4] M (fun q M' => g_R (D + 1) 91 Q 57 [.inr (0, 286), .inl x1, .inl x2, .inl x3, .inl x4] (q ++ []) M'))) ∧ (M.1 0 287 x1.toNat = (16 : Int) → (Q [.inl (-2 : Int)] M))))) ∧ ((0 : Int) = (0 : Int) → (Q [.inl (-1 : Int)] M)))))))) ∧ (¬ (0 ≤ x3 ∧ x3 < 8) → (((0 : Int) = (0 : Int) → (Q [.inl (-1 : Int)] M)) ∧ (¬ (0 : Int) = (0 : Int) → (((0 ≤ x4 ∧ x4 < 8) → ((¬ (1 : Int) = (0 : Int) → (((0 : Int) ≤ x1 ∧ x1 < ((200 : Nat) : Int)) ∧ ((¬ M.1 0 287 x1.toNat = (16 : Int) → (g_Ev D 94 [.inr (0, 286), .inl x1, .inl x2, .inl x3, .inl x4] M (fun q M' => g_R (D + 1) 91 Q 57 [.inr (0, 286), .inl x1, .inl x2, .inl x3, .inl x4] (q ++ []) M'))) ∧ (M.1 0 287 x1.toNat = (16 : Int) → (Q [.inl (-2 : Int)] M))))) ∧ ((1 : Int) = (0 : Int) → (Q [.inl (-1 : Int)] M)))) ∧ (¬ (0 ≤ x4 ∧ x4 < 8) → ((¬ (0 : Int) = (0 : Int) → (((0 : Int) ≤ x1 ∧ x1 < ((200 : Nat) : Int)) ∧ ((¬ M.1 0 287 x1.toNat = (16 : Int) → (g_Ev D 94 [.inr (0, 286), .inl x1, .inl x2, .inl x3, .inl x4] M (fun q M' => g_R (D + 1) 91 Q 57 [.inr (0, 286), .inl x1, .inl x2, .inl x3, .inl x4] (q ++ []) M'))) ∧ (M.1 0 287 x1.toNat = (16 : Int) → (Q [.inl (-2 : Int)] M))))) ∧ ((0 : Int) = (0 : Int) → (Q [.inl (-1 : Int)] M)))))))))))))))) ∧ (¬ (0 ≤ x1 ∧ x1 < M.1 0 286 1) → (((0 : Int) = (0 : Int) → (Q [.inl (-1 : Int)] M)) ∧ (¬ (0 : Int) = (0 : Int) → ((x2 < (0 : Int) → (Q [.inl (-1 : Int)] M)) ∧ ((0 : Int) ≤ x2 → (((1 : Int) < x2 → (Q [.inl (-1 : Int)] M)) ∧ (x2 ≤ (1 : Int) → (((0 ≤ x3 ∧ x3 < 8) → (((1 : Int) = (0 : Int) → (Q [.inl (-1 : Int)] M)) ∧ (¬ (1 : Int) = (0 : Int) → (((0 ≤ x4 ∧ x4 < 8) → ((¬ (1 : Int) = (0 : Int) → (((0 : Int) ≤ x1 ∧ x1 < ((200 : Nat) : Int)) ∧ ((¬ M.1 0 287 x1.toNat = (16 : Int) → (g_Ev D 94 [.inr (0, 286), .inl x1, .inl x2, .inl x3, .inl x4] M (fun q M' => g_R (D + 1) 91 Q 57 [.inr (0, 286), .inl x1, .inl x2, .inl x3, .inl x4] (q ++ []) M'))) ∧ (M.1 0 287 x1.toNat = (16 : Int) → (Q [.inl (-2 : Int)] M))))) ∧ ((1 : Int) = (0 : Int) → (Q [.inl (-1 : Int)] M)))) ∧ (¬ (0 ≤ x4 ∧ x4 < 8) → ((¬ (0 : Int) = (0 : Int) → (((0 : Int) ≤ x1 ∧ x1 < ((200 : Nat) : Int)) ∧ ((¬ M.1 0 287 x1.toNat = (16 : Int) → (g_Ev D 94 [.inr (0, 286), .inl x1, .inl x2, .inl x3, .inl x4] M (fun q M' => g_R (D + 1) 91 Q 57 [.inr (0, 286), .inl x1, .inl x2, .inl x3, .inl x4] (q ++ []) M'))) ∧ (M.1 0 287 x1.toNat = (16 : Int) → (Q [.inl (-2 : Int)] M))))) ∧ ((0 : Int) = (0 : Int) → (Q [.inl (-1 : Int)] M)))))))) ∧ (¬ (0 ≤ x3 ∧ x3 < 8) → (((0 : Int) = (0 : Int) → (Q [.inl (-1 : Int)] M)) ∧ (¬ (0 : Int) = (0 : Int) → (((0 ≤ x4 ∧ x4 < 8) → ((¬ (1 : Int) = (0 : Int) → (((0 : Int) ≤ x1 ∧ x1 < ((200 : Nat) : Int)) ∧ ((¬ M.1 0 287 x1.toNat = (16 : Int) → (g_Ev D 94 [.inr (0, 286), .inl x1, .inl x2, .inl x3, .inl x4] M (fun q M' => g_R (D + 1) 91 Q 57 [.inr (0, 286), .inl x1, .inl x2, .inl x3, .inl x4] (q ++ []) M'))) ∧ (M.1 0 287 x1.toNat = (16 : Int) → (Q [.inl (-2 : Int)] M))))) ∧ ((1 : Int) = (0 : Int) → (Q [.inl (-1 : Int)] M)))) ∧ (¬ (0 ≤ x4 ∧ x4 < 8) → ((¬ (0 : Int) = (0 : Int) → (((0 : Int) ≤ x1 ∧ x1 < ((200 : Nat) : Int)) ∧ ((¬ M.1 0 287 x1.toNat = (16 : Int) → (g_Ev D 94 [.inr (0, 286), .inl x1, .inl x2, .inl x3, .inl x4] M (fun q M' => g_R (D + 1) 91 Q 57 [.inr (0, 286), .inl x1, .inl x2, .inl x3, .inl x4] (q ++ []) M'))) ∧ (M.1 0 287 x1.toNat = (16 : Int) → (Q [.inl (-2 : Int)] M))))) ∧ ((0 : Int) = (0 : Int) → (Q [.inl (-1 : Int)] M))))))))))))))))) : g_R (D + 1) 91 Q 0 [.inr (0, 286), .inl x1, .inl x2, .inl x3, .inl x4] [] M := by
  subst hD
  exact g_go hk_91 ⟨rfl, rfl⟩ (g_C_ok (g_F_ok (D := D1))) sp_91 28 h
set_option maxRecDepth 20000 in
theorem rp_91_0 {D : Nat} {Q : g_P} {M : g_M} {x1 : Int} {x2 : Int} {x3 : Int} {x4 : Int} {D1 : Nat} (hD : D = D1 + 2) (h : ((0 ≤ x1 ∧ x1 < M.1 0 286 1) → ((x2 < (0 : Int) → (Q [.inl (-1 : Int)] M)) ∧ ((0 : Int) ≤ x2 → (((1 : Int) < x2 → (Q [.inl (-1 : Int)] M)) ∧ (x2 ≤ (1 : Int) → (((0 ≤ x3 ∧ x3 < 8) → (((0 ≤ x4 ∧ x4 < 8) → (((0 : Int) ≤ x1 ∧ x1 < ((200 : Nat) : Int)) ∧ ((¬ M.1 0 287 x1.toNat = (16 : Int) → (g_Ev D 94 [.inr (0, 286), .inl x1, .inl x2, .inl x3, .inl x4] M (fun q M' => g_R (D + 1) 91 Q 57 [.inr (0, 286), .inl x1, .inl x2, .inl x3, .inl x4] (q ++ []) M'))) ∧ (M.1 0 287 x1.toNat = (16 : Int) → (Q [.inl (-2 : Int)] M))))) ∧ (¬ (0 ≤ x4 ∧ x4 < 8) → (Q [.inl (-1 : Int)] M)))) ∧ (¬ (0 ≤ x3 ∧ x3 < 8) → (Q [.inl (-1 : Int)] M)))))))) ∧ (¬ (0 ≤ x1 ∧ x1 < M.1 0 286 1) → (Q [.inl (-1 : Int)] M))) : g_R (D + 1) 91 Q 0 [.inr (0, 286), .inl x1, .inl x2, .inl x3, .inl x4] [] M :=
  rg_91_0 hD ⟨fun b1 => ⟨(fun z => absurd z (by decide)), fun _ => ⟨fun b3 => (And.left (And.left h b1) b3), fun b4 => ⟨fun b5 => (And.left (And.right (And.left h b1) b4) b5), fun b6 => ⟨fun b7 => ⟨(fun z => absurd z (by decide)), fun _ => ⟨fun b9 => ⟨fun _ => (have a11 := And.left (And.left (And.left (And.right (And.right (And.left h b1) b4) b6) b7) b9); ⟨a11, ⟨fun b12 => (And.left (And.right (And.left (And.left (And.right (And.right (And.left h b1) b4) b6) b7) b9)) b12), fun b13 => (And.right (And.right (And.left (And.left (And.right (And.right (And.left h b1) b4) b6) b7) b9)) b13)⟩⟩), (fun z => absurd z (by decide))⟩, fun b10 => ⟨(fun z => absurd z (by decide)), fun _ => (And.right (And.left (And.right (And.right (And.left h b1) b4) b6) b7) b10)⟩⟩⟩, fun b8 => ⟨fun _ => (And.right (And.right (And.right (And.left h b1) b4) b6) b8), (fun z => absurd z (by decide))⟩⟩⟩⟩⟩, fun b2 => ⟨fun _ => (And.right h b2), (fun z => absurd z (by decide))⟩⟩
set_option maxRecDepth 20000 in
theorem rg_91_57 {D : Nat} {Q : g_P} {M : g_M} {x1 : Int} {x2 : Int} {x3 : Int} {x4 : Int} {D1 : Nat} (hD : D = D1 + 2) (h : ((0 : Int) ≤ x1 ∧ x1 < ((200 : Nat) : Int)) ∧ (Q [.inl (M.1 0 287 x1.toNat)] M)) : g_R (D + 1) 91 Q 57 [.inr (0, 286), .inl x1, .inl x2, .inl x3, .inl x4] [] M := by
  subst hD
  exact g_go hk_91 ⟨rfl, rfl⟩ (g_C_ok (g_F_ok (D := D1))) sp_91 6 h
theorem rp_91_57 {D : Nat} {Q : g_P} {M : g_M} {x1 : Int} {x2 : Int} {x3 : Int} {x4 : Int} {D1 : Nat} (hD : D = D1 + 2) (h : ((0 : Int) ≤ x1 ∧ x1 < ((200 : Nat) : Int)) ∧ (Q [.inl (M.1 0 287 x1.toNat)] M)) : g_R (D + 1) 91 Q 57 [.inr (0, 286), .inl x1, .inl x2, .inl x3, .inl x4] [] M := rg_91_57 hD h

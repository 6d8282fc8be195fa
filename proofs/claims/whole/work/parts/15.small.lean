/-! SMALL METHODS WITHOUT MEMORY, AS A TABLE (wip/gen/gen15.py) -/
def g_bit (m i : Int) : Prop := m.toNat.testBit i.toNat = true
def g_pop (m : Int) : Int := (((List.range 10).filter (fun i => m.toNat.testBit i)).length : Nat)
def g_ren (a x y : Int) : Int := 64 * (a / 64) + 8 * (if a / 8 % 8 = x then y else a / 8 % 8) + (if a % 8 = x then y else a % 8)
noncomputable def g_spare (f : Int) : Int := if f.toNat.testBit 5 = false then 5 else if f.toNat.testBit 6 = false then 6 else if f.toNat.testBit 7 = false then 7 else -1
def g_Fa (k : Nat) : Option (List g_V → g_M → g_P → Prop) := match k with
  | 11 => some (fun as M Q => match as with | [.inr (0, 2), .inl f] => ((0 ≤ f ∧ f < M.1 0 2 6) → Q [.inl 1] M) ∧ (¬ (0 ≤ f ∧ f < M.1 0 2 6) → Q [.inl 0] M) | _ => False)
  | 12 => some (fun as M Q => match as with | [.inl f] => ((f = 0 ∨ f = 1) → Q [.inl 1] M) ∧ (¬ (f = 0 ∨ f = 1) → Q [.inl 0] M) | _ => False)
  | 13 => some (fun as M Q => match as with | [.inl f] => ((0 ≤ f ∧ f < 8) → Q [.inl 1] M) ∧ (¬ (0 ≤ f ∧ f < 8) → Q [.inl 0] M) | _ => False)
  | 29 => some (fun as M Q => match as with | [.inl f] => ((0 < f ∧ f < 5) → Q [.inl 1] M) ∧ (¬ (0 < f ∧ f < 5) → Q [.inl 0] M) | _ => False)
  | 30 => some (fun as M Q => match as with | [.inl f] => ((0 ≤ f ∧ f < 10) → Q [.inl 1] M) ∧ (¬ (0 ≤ f ∧ f < 10) → Q [.inl 0] M) | _ => False)
  | 32 => some (fun as M Q => match as with | [.inl f] => ((0 < f ∧ f < 10) → Q [.inl 1] M) ∧ (¬ (0 < f ∧ f < 10) → Q [.inl 0] M) | _ => False)
  | 50 => some (fun as M Q => match as with | [.inl f] => ((0 ≤ f ∧ f < 8) → Q [.inl 1] M) ∧ (¬ (0 ≤ f ∧ f < 8) → Q [.inl 0] M) | _ => False)
  | 51 => some (fun as M Q => match as with | [.inl f] => ((f = 0 ∨ 3 < f) → Q [.inl 1] M) ∧ (¬ (f = 0 ∨ 3 < f) → Q [.inl 0] M) | _ => False)
  | 92 => some (fun as M Q => match as with | [.inr (0, 286), .inl f] => ((0 ≤ f ∧ f < M.1 0 286 1) → Q [.inl 1] M) ∧ (¬ (0 ≤ f ∧ f < M.1 0 286 1) → Q [.inl 0] M) | _ => False)
  | 93 => some (fun as M Q => match as with | [.inl f] => ((0 ≤ f ∧ f < 8) → Q [.inl 1] M) ∧ (¬ (0 ≤ f ∧ f < 8) → Q [.inl 0] M) | _ => False)
  | 104 => some (fun as M Q => match as with | [.inl f] => ((0 < f ∧ f < 5) → Q [.inl 1] M) ∧ (¬ (0 < f ∧ f < 5) → Q [.inl 0] M) | _ => False)
  | 105 => some (fun as M Q => match as with | [.inl f] => ((0 ≤ f ∧ f < 10) → Q [.inl 1] M) ∧ (¬ (0 ≤ f ∧ f < 10) → Q [.inl 0] M) | _ => False)
  | 115 => some (fun as M Q => match as with | [.inl f] => ((f = 0 ∨ 3 < f) → Q [.inl 1] M) ∧ (¬ (f = 0 ∨ 3 < f) → Q [.inl 0] M) | _ => False)
  | 14 => some (fun as M Q => match as with | [.inl k, .inl x, .inl y] => ((0 ≤ k ∧ k < 4) ∧ (0 ≤ x ∧ x < 8) ∧ (0 ≤ y ∧ y < 8)) ∧ Q [.inl (64 * k + 8 * x + y)] M | _ => False)
  | 24 => some (fun as M Q => match as with | [.inl f] => (0 ≤ f ∧ f < 256) ∧ Q [.inl (f / 64)] M | _ => False)
  | 25 => some (fun as M Q => match as with | [.inl f] => (0 ≤ f ∧ f < 256) ∧ Q [.inl (f / 8 % 8)] M | _ => False)
  | 26 => some (fun as M Q => match as with | [.inl f] => (0 ≤ f ∧ f < 256) ∧ Q [.inl (f % 8)] M | _ => False)
  | 37 => some (fun as M Q => match as with | [.inl f] => (0 ≤ f ∧ f < 1024) ∧ Q [.inl (g_pop f)] M | _ => False)
  | 44 => some (fun as M Q => match as with | [.inl m, .inl i] => ((0 ≤ m ∧ m < 1024) ∧ (0 ≤ i ∧ i < 10)) ∧ ((g_bit m i → Q [.inl 1] M) ∧ (¬ g_bit m i → Q [.inl 0] M)) | _ => False)
  | _ => none
theorem hn_11 : 2 ≤ (hm_me 11).2.2.1 := by decide +kernel
/-- HeapLaw.isFormula(I)Z -/
def sp_11 (pc : Nat) : Option Nat := match pc with
  | _ => none
set_option maxRecDepth 20000 in
theorem rg_11_0 {D : Nat} {Q : g_P} {M : g_M} {x1 : Int} (h : (x1 < (0 : Int) → (((0 : Int) ≤ (0 : Int) ∧ (0 : Int) ≤ 1) ∧ (Q [.inl (0 : Int)] M))) ∧ ((0 : Int) ≤ x1 → ((M.1 0 2 6 ≤ x1 → (((0 : Int) ≤ (0 : Int) ∧ (0 : Int) ≤ 1) ∧ (Q [.inl (0 : Int)] M))) ∧ (x1 < M.1 0 2 6 → (((0 : Int) ≤ (1 : Int) ∧ (1 : Int) ≤ 1) ∧ (Q [.inl (1 : Int)] M)))))) : g_R (D + 1) 11 Q 0 [.inr (0, 2), .inl x1] [] M := 
  g_go hk_11 ⟨rfl, rfl⟩ (g_C_ok g_F0_ok) sp_11 10 h
set_option maxRecDepth 20000 in
theorem rp_11_0 {D : Nat} {Q : g_P} {M : g_M} {x1 : Int} (h : (x1 < (0 : Int) → (Q [.inl (0 : Int)] M)) ∧ ((0 : Int) ≤ x1 → ((M.1 0 2 6 ≤ x1 → (Q [.inl (0 : Int)] M)) ∧ (x1 < M.1 0 2 6 → (Q [.inl (1 : Int)] M))))) : g_R (D + 1) 11 Q 0 [.inr (0, 2), .inl x1] [] M :=
  rg_11_0 ⟨fun b1 => ⟨by decide, (And.left h b1)⟩, fun b2 => ⟨fun b3 => ⟨by decide, (And.left (And.right h b2) b3)⟩, fun b4 => ⟨by decide, (And.right (And.right h b2) b4)⟩⟩⟩

theorem hn_12 : 1 ≤ (hm_me 12).2.2.1 := by decide +kernel
/-- HeapLaw.isHow(I)Z -/
def sp_12 (pc : Nat) : Option Nat := match pc with
  | _ => none
set_option maxRecDepth 20000 in
theorem rg_12_0 {D : Nat} {Q : g_P} {M : g_M} {x0 : Int} (h : (x0 = (0 : Int) → (((0 : Int) ≤ (1 : Int) ∧ (1 : Int) ≤ 1) ∧ (Q [.inl (1 : Int)] M))) ∧ (¬ x0 = (0 : Int) → ((¬ x0 = (1 : Int) → (((0 : Int) ≤ (0 : Int) ∧ (0 : Int) ≤ 1) ∧ (Q [.inl (0 : Int)] M))) ∧ (x0 = (1 : Int) → (((0 : Int) ≤ (1 : Int) ∧ (1 : Int) ≤ 1) ∧ (Q [.inl (1 : Int)] M)))))) : g_R (D + 1) 12 Q 0 [.inl x0] [] M := 
  g_go hk_12 ⟨rfl, rfl⟩ (g_C_ok g_F0_ok) sp_12 9 h
set_option maxRecDepth 20000 in
theorem rp_12_0 {D : Nat} {Q : g_P} {M : g_M} {x0 : Int} (h : (x0 = (0 : Int) → (Q [.inl (1 : Int)] M)) ∧ (¬ x0 = (0 : Int) → ((¬ x0 = (1 : Int) → (Q [.inl (0 : Int)] M)) ∧ (x0 = (1 : Int) → (Q [.inl (1 : Int)] M))))) : g_R (D + 1) 12 Q 0 [.inl x0] [] M :=
  rg_12_0 ⟨fun b1 => ⟨by decide, (And.left h b1)⟩, fun b2 => ⟨fun b3 => ⟨by decide, (And.left (And.right h b2) b3)⟩, fun b4 => ⟨by decide, (And.right (And.right h b2) b4)⟩⟩⟩

theorem hn_13 : 1 ≤ (hm_me 13).2.2.1 := by decide +kernel
/-- HeapLaw.isTerm(I)Z -/
def sp_13 (pc : Nat) : Option Nat := match pc with
  | _ => none
set_option maxRecDepth 20000 in
theorem rg_13_0 {D : Nat} {Q : g_P} {M : g_M} {x0 : Int} (h : (x0 < (0 : Int) → (((0 : Int) ≤ (0 : Int) ∧ (0 : Int) ≤ 1) ∧ (Q [.inl (0 : Int)] M))) ∧ ((0 : Int) ≤ x0 → (((7 : Int) < x0 → (((0 : Int) ≤ (0 : Int) ∧ (0 : Int) ≤ 1) ∧ (Q [.inl (0 : Int)] M))) ∧ (x0 ≤ (7 : Int) → (((0 : Int) ≤ (1 : Int) ∧ (1 : Int) ≤ 1) ∧ (Q [.inl (1 : Int)] M)))))) : g_R (D + 1) 13 Q 0 [.inl x0] [] M := 
  g_go hk_13 ⟨rfl, rfl⟩ (g_C_ok g_F0_ok) sp_13 9 h
set_option maxRecDepth 20000 in
theorem rp_13_0 {D : Nat} {Q : g_P} {M : g_M} {x0 : Int} (h : (x0 < (0 : Int) → (Q [.inl (0 : Int)] M)) ∧ ((0 : Int) ≤ x0 → (((7 : Int) < x0 → (Q [.inl (0 : Int)] M)) ∧ (x0 ≤ (7 : Int) → (Q [.inl (1 : Int)] M))))) : g_R (D + 1) 13 Q 0 [.inl x0] [] M :=
  rg_13_0 ⟨fun b1 => ⟨by decide, (And.left h b1)⟩, fun b2 => ⟨fun b3 => ⟨by decide, (And.left (And.right h b2) b3)⟩, fun b4 => ⟨by decide, (And.right (And.right h b2) b4)⟩⟩⟩

theorem hn_14 : 3 ≤ (hm_me 14).2.2.1 := by decide +kernel
/-- HeapLaw.pack(III)I -/
def sp_14 (pc : Nat) : Option Nat := match pc with
  | _ => none
set_option maxRecDepth 20000 in
theorem rg_14_0 {D : Nat} {Q : g_P} {M : g_M} {x0 : Int} {x1 : Int} {x2 : Int} (h : Q [.inl (hm_or (hm_or (hm_shl x0 (6 : Int)) (hm_shl x1 (3 : Int))) x2)] M) : g_R (D + 1) 14 Q 0 [.inl x0, .inl x1, .inl x2] [] M := 
  g_go hk_14 ⟨rfl, rfl⟩ (g_C_ok g_F0_ok) sp_14 11 h
theorem rp_14_0 {D : Nat} {Q : g_P} {M : g_M} {x0 : Int} {x1 : Int} {x2 : Int} (h : Q [.inl (hm_or (hm_or (hm_shl x0 (6 : Int)) (hm_shl x1 (3 : Int))) x2)] M) : g_R (D + 1) 14 Q 0 [.inl x0, .inl x1, .inl x2] [] M := rg_14_0 h

theorem hn_24 : 1 ≤ (hm_me 24).2.2.1 := by decide +kernel
/-- HeapLaw.kindOf(I)I -/
def sp_24 (pc : Nat) : Option Nat := match pc with
  | _ => none
set_option maxRecDepth 20000 in
theorem rg_24_0 {D : Nat} {Q : g_P} {M : g_M} {x0 : Int} (h : Q [.inl (hm_and (hm_shr x0 (6 : Int)) (3 : Int))] M) : g_R (D + 1) 24 Q 0 [.inl x0] [] M := 
  g_go hk_24 ⟨rfl, rfl⟩ (g_C_ok g_F0_ok) sp_24 7 h
theorem rp_24_0 {D : Nat} {Q : g_P} {M : g_M} {x0 : Int} (h : Q [.inl (hm_and (hm_shr x0 (6 : Int)) (3 : Int))] M) : g_R (D + 1) 24 Q 0 [.inl x0] [] M := rg_24_0 h

theorem hn_25 : 1 ≤ (hm_me 25).2.2.1 := by decide +kernel
/-- HeapLaw.xOf(I)I -/
def sp_25 (pc : Nat) : Option Nat := match pc with
  | _ => none
set_option maxRecDepth 20000 in
theorem rg_25_0 {D : Nat} {Q : g_P} {M : g_M} {x0 : Int} (h : Q [.inl (hm_and (hm_shr x0 (3 : Int)) (7 : Int))] M) : g_R (D + 1) 25 Q 0 [.inl x0] [] M := 
  g_go hk_25 ⟨rfl, rfl⟩ (g_C_ok g_F0_ok) sp_25 7 h
theorem rp_25_0 {D : Nat} {Q : g_P} {M : g_M} {x0 : Int} (h : Q [.inl (hm_and (hm_shr x0 (3 : Int)) (7 : Int))] M) : g_R (D + 1) 25 Q 0 [.inl x0] [] M := rg_25_0 h

theorem hn_26 : 1 ≤ (hm_me 26).2.2.1 := by decide +kernel
/-- HeapLaw.yOf(I)I -/
def sp_26 (pc : Nat) : Option Nat := match pc with
  | _ => none
set_option maxRecDepth 20000 in
theorem rg_26_0 {D : Nat} {Q : g_P} {M : g_M} {x0 : Int} (h : Q [.inl (hm_and x0 (7 : Int))] M) : g_R (D + 1) 26 Q 0 [.inl x0] [] M := 
  g_go hk_26 ⟨rfl, rfl⟩ (g_C_ok g_F0_ok) sp_26 5 h
theorem rp_26_0 {D : Nat} {Q : g_P} {M : g_M} {x0 : Int} (h : Q [.inl (hm_and x0 (7 : Int))] M) : g_R (D + 1) 26 Q 0 [.inl x0] [] M := rg_26_0 h

theorem hn_29 : 1 ≤ (hm_me 29).2.2.1 := by decide +kernel
/-- HeapLaw.isName(I)Z -/
def sp_29 (pc : Nat) : Option Nat := match pc with
  | _ => none
set_option maxRecDepth 20000 in
theorem rg_29_0 {D : Nat} {Q : g_P} {M : g_M} {x0 : Int} (h : (x0 < (1 : Int) → (((0 : Int) ≤ (0 : Int) ∧ (0 : Int) ≤ 1) ∧ (Q [.inl (0 : Int)] M))) ∧ ((1 : Int) ≤ x0 → (((4 : Int) < x0 → (((0 : Int) ≤ (0 : Int) ∧ (0 : Int) ≤ 1) ∧ (Q [.inl (0 : Int)] M))) ∧ (x0 ≤ (4 : Int) → (((0 : Int) ≤ (1 : Int) ∧ (1 : Int) ≤ 1) ∧ (Q [.inl (1 : Int)] M)))))) : g_R (D + 1) 29 Q 0 [.inl x0] [] M := 
  g_go hk_29 ⟨rfl, rfl⟩ (g_C_ok g_F0_ok) sp_29 10 h
set_option maxRecDepth 20000 in
theorem rp_29_0 {D : Nat} {Q : g_P} {M : g_M} {x0 : Int} (h : (x0 < (1 : Int) → (Q [.inl (0 : Int)] M)) ∧ ((1 : Int) ≤ x0 → (((4 : Int) < x0 → (Q [.inl (0 : Int)] M)) ∧ (x0 ≤ (4 : Int) → (Q [.inl (1 : Int)] M))))) : g_R (D + 1) 29 Q 0 [.inl x0] [] M :=
  rg_29_0 ⟨fun b1 => ⟨by decide, (And.left h b1)⟩, fun b2 => ⟨fun b3 => ⟨by decide, (And.left (And.right h b2) b3)⟩, fun b4 => ⟨by decide, (And.right (And.right h b2) b4)⟩⟩⟩

theorem hn_30 : 1 ≤ (hm_me 30).2.2.1 := by decide +kernel
/-- HeapLaw.isAddress(I)Z -/
def sp_30 (pc : Nat) : Option Nat := match pc with
  | _ => none
set_option maxRecDepth 20000 in
theorem rg_30_0 {D : Nat} {Q : g_P} {M : g_M} {x0 : Int} (h : (x0 < (0 : Int) → (((0 : Int) ≤ (0 : Int) ∧ (0 : Int) ≤ 1) ∧ (Q [.inl (0 : Int)] M))) ∧ ((0 : Int) ≤ x0 → (((9 : Int) < x0 → (((0 : Int) ≤ (0 : Int) ∧ (0 : Int) ≤ 1) ∧ (Q [.inl (0 : Int)] M))) ∧ (x0 ≤ (9 : Int) → (((0 : Int) ≤ (1 : Int) ∧ (1 : Int) ≤ 1) ∧ (Q [.inl (1 : Int)] M)))))) : g_R (D + 1) 30 Q 0 [.inl x0] [] M := 
  g_go hk_30 ⟨rfl, rfl⟩ (g_C_ok g_F0_ok) sp_30 9 h
set_option maxRecDepth 20000 in
theorem rp_30_0 {D : Nat} {Q : g_P} {M : g_M} {x0 : Int} (h : (x0 < (0 : Int) → (Q [.inl (0 : Int)] M)) ∧ ((0 : Int) ≤ x0 → (((9 : Int) < x0 → (Q [.inl (0 : Int)] M)) ∧ (x0 ≤ (9 : Int) → (Q [.inl (1 : Int)] M))))) : g_R (D + 1) 30 Q 0 [.inl x0] [] M :=
  rg_30_0 ⟨fun b1 => ⟨by decide, (And.left h b1)⟩, fun b2 => ⟨fun b3 => ⟨by decide, (And.left (And.right h b2) b3)⟩, fun b4 => ⟨by decide, (And.right (And.right h b2) b4)⟩⟩⟩

theorem hn_32 : 1 ≤ (hm_me 32).2.2.1 := by decide +kernel
/-- HeapLaw.isCellAddress(I)Z -/
def sp_32 (pc : Nat) : Option Nat := match pc with
  | _ => none
set_option maxRecDepth 20000 in
theorem rg_32_0 {D : Nat} {Q : g_P} {M : g_M} {x0 : Int} (h : (x0 < (1 : Int) → (((0 : Int) ≤ (0 : Int) ∧ (0 : Int) ≤ 1) ∧ (Q [.inl (0 : Int)] M))) ∧ ((1 : Int) ≤ x0 → (((9 : Int) < x0 → (((0 : Int) ≤ (0 : Int) ∧ (0 : Int) ≤ 1) ∧ (Q [.inl (0 : Int)] M))) ∧ (x0 ≤ (9 : Int) → (((0 : Int) ≤ (1 : Int) ∧ (1 : Int) ≤ 1) ∧ (Q [.inl (1 : Int)] M)))))) : g_R (D + 1) 32 Q 0 [.inl x0] [] M := 
  g_go hk_32 ⟨rfl, rfl⟩ (g_C_ok g_F0_ok) sp_32 10 h
set_option maxRecDepth 20000 in
theorem rp_32_0 {D : Nat} {Q : g_P} {M : g_M} {x0 : Int} (h : (x0 < (1 : Int) → (Q [.inl (0 : Int)] M)) ∧ ((1 : Int) ≤ x0 → (((9 : Int) < x0 → (Q [.inl (0 : Int)] M)) ∧ (x0 ≤ (9 : Int) → (Q [.inl (1 : Int)] M))))) : g_R (D + 1) 32 Q 0 [.inl x0] [] M :=
  rg_32_0 ⟨fun b1 => ⟨by decide, (And.left h b1)⟩, fun b2 => ⟨fun b3 => ⟨by decide, (And.left (And.right h b2) b3)⟩, fun b4 => ⟨by decide, (And.right (And.right h b2) b4)⟩⟩⟩

theorem hn_37 : 1 ≤ (hm_me 37).2.2.1 := by decide +kernel
/-- java/lang/Integer.bitCount(I)I -/
def sp_37 (pc : Nat) : Option Nat := match pc with
  | _ => none
set_option maxRecDepth 20000 in
theorem rg_37_0 {D : Nat} {Q : g_P} {M : g_M} {x0 : Int} (h : (hm_in (x0 - (hm_and (hm_ush x0 (1 : Int)) ((1431655765 : Nat) : Int)))) ∧ ((hm_in ((hm_and (x0 - (hm_and (hm_ush x0 (1 : Int)) ((1431655765 : Nat) : Int))) ((858993459 : Nat) : Int)) + (hm_and (hm_ush (x0 - (hm_and (hm_ush x0 (1 : Int)) ((1431655765 : Nat) : Int))) (2 : Int)) ((858993459 : Nat) : Int)))) ∧ ((hm_in (((hm_and (x0 - (hm_and (hm_ush x0 (1 : Int)) ((1431655765 : Nat) : Int))) ((858993459 : Nat) : Int)) + (hm_and (hm_ush (x0 - (hm_and (hm_ush x0 (1 : Int)) ((1431655765 : Nat) : Int))) (2 : Int)) ((858993459 : Nat) : Int))) + (hm_ush ((hm_and (x0 - (hm_and (hm_ush x0 (1 : Int)) ((1431655765 : Nat) : Int))) ((858993459 : Nat) : Int)) + (hm_and (hm_ush (x0 - (hm_and (hm_ush x0 (1 : Int)) ((1431655765 : Nat) : Int))) (2 : Int)) ((858993459 : Nat) : Int))) (4 : Int)))) ∧ ((hm_in ((hm_and (((hm_and (x0 - (hm_and (hm_ush x0 (1 : Int)) ((1431655765 : Nat) : Int))) ((858993459 : Nat) : Int)) + (hm_and (hm_ush (x0 - (hm_and (hm_ush x0 (1 : Int)) ((1431655765 : Nat) : Int))) (2 : Int)) ((858993459 : Nat) : Int))) + (hm_ush ((hm_and (x0 - (hm_and (hm_ush x0 (1 : Int)) ((1431655765 : Nat) : Int))) ((858993459 : Nat) : Int)) + (hm_and (hm_ush (x0 - (hm_and (hm_ush x0 (1 : Int)) ((1431655765 : Nat) : Int))) (2 : Int)) ((858993459 : Nat) : Int))) (4 : Int))) ((252645135 : Nat) : Int)) + (hm_ush (hm_and (((hm_and (x0 - (hm_and (hm_ush x0 (1 : Int)) ((1431655765 : Nat) : Int))) ((858993459 : Nat) : Int)) + (hm_and (hm_ush (x0 - (hm_and (hm_ush x0 (1 : Int)) ((1431655765 : Nat) : Int))) (2 : Int)) ((858993459 : Nat) : Int))) + (hm_ush ((hm_and (x0 - (hm_and (hm_ush x0 (1 : Int)) ((1431655765 : Nat) : Int))) ((858993459 : Nat) : Int)) + (hm_and (hm_ush (x0 - (hm_and (hm_ush x0 (1 : Int)) ((1431655765 : Nat) : Int))) (2 : Int)) ((858993459 : Nat) : Int))) (4 : Int))) ((252645135 : Nat) : Int)) (8 : Int)))) ∧ ((hm_in (((hm_and (((hm_and (x0 - (hm_and (hm_ush x0 (1 : Int)) ((1431655765 : Nat) : Int))) ((858993459 : Nat) : Int)) + (hm_and (hm_ush (x0 - (hm_and (hm_ush x0 (1 : Int)) ((1431655765 : Nat) : Int))) (2 : Int)) ((858993459 : Nat) : Int))) + (hm_ush ((hm_and (x0 - (hm_and (hm_ush x0 (1 : Int)) ((1431655765 : Nat) : Int))) ((858993459 : Nat) : Int)) + (hm_and (hm_ush (x0 - (hm_and (hm_ush x0 (1 : Int)) ((1431655765 : Nat) : Int))) (2 : Int)) ((858993459 : Nat) : Int))) (4 : Int))) ((252645135 : Nat) : Int)) + (hm_ush (hm_and (((hm_and (x0 - (hm_and (hm_ush x0 (1 : Int)) ((1431655765 : Nat) : Int))) ((858993459 : Nat) : Int)) + (hm_and (hm_ush (x0 - (hm_and (hm_ush x0 (1 : Int)) ((1431655765 : Nat) : Int))) (2 : Int)) ((858993459 : Nat) : Int))) + (hm_ush ((hm_and (x0 - (hm_and (hm_ush x0 (1 : Int)) ((1431655765 : Nat) : Int))) ((858993459 : Nat) : Int)) + (hm_and (hm_ush (x0 - (hm_and (hm_ush x0 (1 : Int)) ((1431655765 : Nat) : Int))) (2 : Int)) ((858993459 : Nat) : Int))) (4 : Int))) ((252645135 : Nat) : Int)) (8 : Int))) + (hm_ush ((hm_and (((hm_and (x0 - (hm_and (hm_ush x0 (1 : Int)) ((1431655765 : Nat) : Int))) ((858993459 : Nat) : Int)) + (hm_and (hm_ush (x0 - (hm_and (hm_ush x0 (1 : Int)) ((1431655765 : Nat) : Int))) (2 : Int)) ((858993459 : Nat) : Int))) + (hm_ush ((hm_and (x0 - (hm_and (hm_ush x0 (1 : Int)) ((1431655765 : Nat) : Int))) ((858993459 : Nat) : Int)) + (hm_and (hm_ush (x0 - (hm_and (hm_ush x0 (1 : Int)) ((1431655765 : Nat) : Int))) (2 : Int)) ((858993459 : Nat) : Int))) (4 : Int))) ((252645135 : Nat) : Int)) + (hm_ush (hm_and (((hm_and (x0 - (hm_and (hm_ush x0 (1 : Int)) ((1431655765 : Nat) : Int))) ((858993459 : Nat) : Int)) + (hm_and (hm_ush (x0 - (hm_and (hm_ush x0 (1 : Int)) ((1431655765 : Nat) : Int))) (2 : Int)) ((858993459 : Nat) : Int))) + (hm_ush ((hm_and (x0 - (hm_and (hm_ush x0 (1 : Int)) ((1431655765 : Nat) : Int))) ((858993459 : Nat) : Int)) + (hm_and (hm_ush (x0 - (hm_and (hm_ush x0 (1 : Int)) ((1431655765 : Nat) : Int))) (2 : Int)) ((858993459 : Nat) : Int))) (4 : Int))) ((252645135 : Nat) : Int)) (8 : Int))) (16 : Int)))) ∧ (Q [.inl (hm_and (((hm_and (((hm_and (x0 - (hm_and (hm_ush x0 (1 : Int)) ((1431655765 : Nat) : Int))) ((858993459 : Nat) : Int)) + (hm_and (hm_ush (x0 - (hm_and (hm_ush x0 (1 : Int)) ((1431655765 : Nat) : Int))) (2 : Int)) ((858993459 : Nat) : Int))) + (hm_ush ((hm_and (x0 - (hm_and (hm_ush x0 (1 : Int)) ((1431655765 : Nat) : Int))) ((858993459 : Nat) : Int)) + (hm_and (hm_ush (x0 - (hm_and (hm_ush x0 (1 : Int)) ((1431655765 : Nat) : Int))) (2 : Int)) ((858993459 : Nat) : Int))) (4 : Int))) ((252645135 : Nat) : Int)) + (hm_ush (hm_and (((hm_and (x0 - (hm_and (hm_ush x0 (1 : Int)) ((1431655765 : Nat) : Int))) ((858993459 : Nat) : Int)) + (hm_and (hm_ush (x0 - (hm_and (hm_ush x0 (1 : Int)) ((1431655765 : Nat) : Int))) (2 : Int)) ((858993459 : Nat) : Int))) + (hm_ush ((hm_and (x0 - (hm_and (hm_ush x0 (1 : Int)) ((1431655765 : Nat) : Int))) ((858993459 : Nat) : Int)) + (hm_and (hm_ush (x0 - (hm_and (hm_ush x0 (1 : Int)) ((1431655765 : Nat) : Int))) (2 : Int)) ((858993459 : Nat) : Int))) (4 : Int))) ((252645135 : Nat) : Int)) (8 : Int))) + (hm_ush ((hm_and (((hm_and (x0 - (hm_and (hm_ush x0 (1 : Int)) ((1431655765 : Nat) : Int))) ((858993459 : Nat) : Int)) + (hm_and (hm_ush (x0 - (hm_and (hm_ush x0 (1 : Int)) ((1431655765 : Nat) : Int))) (2 : Int)) ((858993459 : Nat) : Int))) + (hm_ush ((hm_and (x0 - (hm_and (hm_ush x0 (1 : Int)) ((1431655765 : Nat) : Int))) ((858993459 : Nat) : Int)) + (hm_and (hm_ush (x0 - (hm_and (hm_ush x0 (1 : Int)) ((1431655765 : Nat) : Int))) (2 : Int)) ((858993459 : Nat) : Int))) (4 : Int))) ((252645135 : Nat) : Int)) + (hm_ush (hm_and (((hm_and (x0 - (hm_and (hm_ush x0 (1 : Int)) ((1431655765 : Nat) : Int))) ((858993459 : Nat) : Int)) + (hm_and (hm_ush (x0 - (hm_and (hm_ush x0 (1 : Int)) ((1431655765 : Nat) : Int))) (2 : Int)) ((858993459 : Nat) : Int))) + (hm_ush ((hm_and (x0 - (hm_and (hm_ush x0 (1 : Int)) ((1431655765 : Nat) : Int))) ((858993459 : Nat) : Int)) + (hm_and (hm_ush (x0 - (hm_and (hm_ush x0 (1 : Int)) ((1431655765 : Nat) : Int))) (2 : Int)) ((858993459 : Nat) : Int))) (4 : Int))) ((252645135 : Nat) : Int)) (8 : Int))) (16 : Int))) (63 : Int))] M)))))) : g_R (D + 1) 37 Q 0 [.inl x0] [] M := 
  g_go hk_37 ⟨rfl, rfl⟩ (g_C_ok g_F0_ok) sp_37 43 h
theorem rp_37_0 {D : Nat} {Q : g_P} {M : g_M} {x0 : Int} (h : (hm_in (x0 - (hm_and (hm_ush x0 (1 : Int)) ((1431655765 : Nat) : Int)))) ∧ ((hm_in ((hm_and (x0 - (hm_and (hm_ush x0 (1 : Int)) ((1431655765 : Nat) : Int))) ((858993459 : Nat) : Int)) + (hm_and (hm_ush (x0 - (hm_and (hm_ush x0 (1 : Int)) ((1431655765 : Nat) : Int))) (2 : Int)) ((858993459 : Nat) : Int)))) ∧ ((hm_in (((hm_and (x0 - (hm_and (hm_ush x0 (1 : Int)) ((1431655765 : Nat) : Int))) ((858993459 : Nat) : Int)) + (hm_and (hm_ush (x0 - (hm_and (hm_ush x0 (1 : Int)) ((1431655765 : Nat) : Int))) (2 : Int)) ((858993459 : Nat) : Int))) + (hm_ush ((hm_and (x0 - (hm_and (hm_ush x0 (1 : Int)) ((1431655765 : Nat) : Int))) ((858993459 : Nat) : Int)) + (hm_and (hm_ush (x0 - (hm_and (hm_ush x0 (1 : Int)) ((1431655765 : Nat) : Int))) (2 : Int)) ((858993459 : Nat) : Int))) (4 : Int)))) ∧ ((hm_in ((hm_and (((hm_and (x0 - (hm_and (hm_ush x0 (1 : Int)) ((1431655765 : Nat) : Int))) ((858993459 : Nat) : Int)) + (hm_and (hm_ush (x0 - (hm_and (hm_ush x0 (1 : Int)) ((1431655765 : Nat) : Int))) (2 : Int)) ((858993459 : Nat) : Int))) + (hm_ush ((hm_and (x0 - (hm_and (hm_ush x0 (1 : Int)) ((1431655765 : Nat) : Int))) ((858993459 : Nat) : Int)) + (hm_and (hm_ush (x0 - (hm_and (hm_ush x0 (1 : Int)) ((1431655765 : Nat) : Int))) (2 : Int)) ((858993459 : Nat) : Int))) (4 : Int))) ((252645135 : Nat) : Int)) + (hm_ush (hm_and (((hm_and (x0 - (hm_and (hm_ush x0 (1 : Int)) ((1431655765 : Nat) : Int))) ((858993459 : Nat) : Int)) + (hm_and (hm_ush (x0 - (hm_and (hm_ush x0 (1 : Int)) ((1431655765 : Nat) : Int))) (2 : Int)) ((858993459 : Nat) : Int))) + (hm_ush ((hm_and (x0 - (hm_and (hm_ush x0 (1 : Int)) ((1431655765 : Nat) : Int))) ((858993459 : Nat) : Int)) + (hm_and (hm_ush (x0 - (hm_and (hm_ush x0 (1 : Int)) ((1431655765 : Nat) : Int))) (2 : Int)) ((858993459 : Nat) : Int))) (4 : Int))) ((252645135 : Nat) : Int)) (8 : Int)))) ∧ ((hm_in (((hm_and (((hm_and (x0 - (hm_and (hm_ush x0 (1 : Int)) ((1431655765 : Nat) : Int))) ((858993459 : Nat) : Int)) + (hm_and (hm_ush (x0 - (hm_and (hm_ush x0 (1 : Int)) ((1431655765 : Nat) : Int))) (2 : Int)) ((858993459 : Nat) : Int))) + (hm_ush ((hm_and (x0 - (hm_and (hm_ush x0 (1 : Int)) ((1431655765 : Nat) : Int))) ((858993459 : Nat) : Int)) + (hm_and (hm_ush (x0 - (hm_and (hm_ush x0 (1 : Int)) ((1431655765 : Nat) : Int))) (2 : Int)) ((858993459 : Nat) : Int))) (4 : Int))) ((252645135 : Nat) : Int)) + (hm_ush (hm_and (((hm_and (x0 - (hm_and (hm_ush x0 (1 : Int)) ((1431655765 : Nat) : Int))) ((858993459 : Nat) : Int)) + (hm_and (hm_ush (x0 - (hm_and (hm_ush x0 (1 : Int)) ((1431655765 : Nat) : Int))) (2 : Int)) ((858993459 : Nat) : Int))) + (hm_ush ((hm_and (x0 - (hm_and (hm_ush x0 (1 : Int)) ((1431655765 : Nat) : Int))) ((858993459 : Nat) : Int)) + (hm_and (hm_ush (x0 - (hm_and (hm_ush x0 (1 : Int)) ((1431655765 : Nat) : Int))) (2 : Int)) ((858993459 : Nat) : Int))) (4 : Int))) ((252645135 : Nat) : Int)) (8 : Int))) + (hm_ush ((hm_and (((hm_and (x0 - (hm_and (hm_ush x0 (1 : Int)) ((1431655765 : Nat) : Int))) ((858993459 : Nat) : Int)) + (hm_and (hm_ush (x0 - (hm_and (hm_ush x0 (1 : Int)) ((1431655765 : Nat) : Int))) (2 : Int)) ((858993459 : Nat) : Int))) + (hm_ush ((hm_and (x0 - (hm_and (hm_ush x0 (1 : Int)) ((1431655765 : Nat) : Int))) ((858993459 : Nat) : Int)) + (hm_and (hm_ush (x0 - (hm_and (hm_ush x0 (1 : Int)) ((1431655765 : Nat) : Int))) (2 : Int)) ((858993459 : Nat) : Int))) (4 : Int))) ((252645135 : Nat) : Int)) + (hm_ush (hm_and (((hm_and (x0 - (hm_and (hm_ush x0 (1 : Int)) ((1431655765 : Nat) : Int))) ((858993459 : Nat) : Int)) + (hm_and (hm_ush (x0 - (hm_and (hm_ush x0 (1 : Int)) ((1431655765 : Nat) : Int))) (2 : Int)) ((858993459 : Nat) : Int))) + (hm_ush ((hm_and (x0 - (hm_and (hm_ush x0 (1 : Int)) ((1431655765 : Nat) : Int))) ((858993459 : Nat) : Int)) + (hm_and (hm_ush (x0 - (hm_and (hm_ush x0 (1 : Int)) ((1431655765 : Nat) : Int))) (2 : Int)) ((858993459 : Nat) : Int))) (4 : Int))) ((252645135 : Nat) : Int)) (8 : Int))) (16 : Int)))) ∧ (Q [.inl (hm_and (((hm_and (((hm_and (x0 - (hm_and (hm_ush x0 (1 : Int)) ((1431655765 : Nat) : Int))) ((858993459 : Nat) : Int)) + (hm_and (hm_ush (x0 - (hm_and (hm_ush x0 (1 : Int)) ((1431655765 : Nat) : Int))) (2 : Int)) ((858993459 : Nat) : Int))) + (hm_ush ((hm_and (x0 - (hm_and (hm_ush x0 (1 : Int)) ((1431655765 : Nat) : Int))) ((858993459 : Nat) : Int)) + (hm_and (hm_ush (x0 - (hm_and (hm_ush x0 (1 : Int)) ((1431655765 : Nat) : Int))) (2 : Int)) ((858993459 : Nat) : Int))) (4 : Int))) ((252645135 : Nat) : Int)) + (hm_ush (hm_and (((hm_and (x0 - (hm_and (hm_ush x0 (1 : Int)) ((1431655765 : Nat) : Int))) ((858993459 : Nat) : Int)) + (hm_and (hm_ush (x0 - (hm_and (hm_ush x0 (1 : Int)) ((1431655765 : Nat) : Int))) (2 : Int)) ((858993459 : Nat) : Int))) + (hm_ush ((hm_and (x0 - (hm_and (hm_ush x0 (1 : Int)) ((1431655765 : Nat) : Int))) ((858993459 : Nat) : Int)) + (hm_and (hm_ush (x0 - (hm_and (hm_ush x0 (1 : Int)) ((1431655765 : Nat) : Int))) (2 : Int)) ((858993459 : Nat) : Int))) (4 : Int))) ((252645135 : Nat) : Int)) (8 : Int))) + (hm_ush ((hm_and (((hm_and (x0 - (hm_and (hm_ush x0 (1 : Int)) ((1431655765 : Nat) : Int))) ((858993459 : Nat) : Int)) + (hm_and (hm_ush (x0 - (hm_and (hm_ush x0 (1 : Int)) ((1431655765 : Nat) : Int))) (2 : Int)) ((858993459 : Nat) : Int))) + (hm_ush ((hm_and (x0 - (hm_and (hm_ush x0 (1 : Int)) ((1431655765 : Nat) : Int))) ((858993459 : Nat) : Int)) + (hm_and (hm_ush (x0 - (hm_and (hm_ush x0 (1 : Int)) ((1431655765 : Nat) : Int))) (2 : Int)) ((858993459 : Nat) : Int))) (4 : Int))) ((252645135 : Nat) : Int)) + (hm_ush (hm_and (((hm_and (x0 - (hm_and (hm_ush x0 (1 : Int)) ((1431655765 : Nat) : Int))) ((858993459 : Nat) : Int)) + (hm_and (hm_ush (x0 - (hm_and (hm_ush x0 (1 : Int)) ((1431655765 : Nat) : Int))) (2 : Int)) ((858993459 : Nat) : Int))) + (hm_ush ((hm_and (x0 - (hm_and (hm_ush x0 (1 : Int)) ((1431655765 : Nat) : Int))) ((858993459 : Nat) : Int)) + (hm_and (hm_ush (x0 - (hm_and (hm_ush x0 (1 : Int)) ((1431655765 : Nat) : Int))) (2 : Int)) ((858993459 : Nat) : Int))) (4 : Int))) ((252645135 : Nat) : Int)) (8 : Int))) (16 : Int))) (63 : Int))] M)))))) : g_R (D + 1) 37 Q 0 [.inl x0] [] M := rg_37_0 h

theorem hn_44 : 2 ≤ (hm_me 44).2.2.1 := by decide +kernel
/-- HeapLaw.has(II)Z -/
def sp_44 (pc : Nat) : Option Nat := match pc with
  | _ => none
set_option maxRecDepth 20000 in
theorem rg_44_0 {D : Nat} {Q : g_P} {M : g_M} {x0 : Int} {x1 : Int} (h : (hm_and (hm_shr x0 x1) (1 : Int) = (0 : Int) → (((0 : Int) ≤ (0 : Int) ∧ (0 : Int) ≤ 1) ∧ (Q [.inl (0 : Int)] M))) ∧ (¬ hm_and (hm_shr x0 x1) (1 : Int) = (0 : Int) → (((0 : Int) ≤ (1 : Int) ∧ (1 : Int) ≤ 1) ∧ (Q [.inl (1 : Int)] M)))) : g_R (D + 1) 44 Q 0 [.inl x0, .inl x1] [] M := 
  g_go hk_44 ⟨rfl, rfl⟩ (g_C_ok g_F0_ok) sp_44 10 h
set_option maxRecDepth 20000 in
theorem rp_44_0 {D : Nat} {Q : g_P} {M : g_M} {x0 : Int} {x1 : Int} (h : (hm_and (hm_shr x0 x1) (1 : Int) = (0 : Int) → (Q [.inl (0 : Int)] M)) ∧ (¬ hm_and (hm_shr x0 x1) (1 : Int) = (0 : Int) → (Q [.inl (1 : Int)] M))) : g_R (D + 1) 44 Q 0 [.inl x0, .inl x1] [] M :=
  rg_44_0 ⟨fun b1 => ⟨by decide, (And.left h b1)⟩, fun b2 => ⟨by decide, (And.right h b2)⟩⟩

theorem hn_50 : 1 ≤ (hm_me 50).2.2.1 := by decide +kernel
/-- HeapLaw.isAct(I)Z -/
def sp_50 (pc : Nat) : Option Nat := match pc with
  | _ => none
set_option maxRecDepth 20000 in
theorem rg_50_0 {D : Nat} {Q : g_P} {M : g_M} {x0 : Int} (h : (x0 < (0 : Int) → (((0 : Int) ≤ (0 : Int) ∧ (0 : Int) ≤ 1) ∧ (Q [.inl (0 : Int)] M))) ∧ ((0 : Int) ≤ x0 → (((7 : Int) < x0 → (((0 : Int) ≤ (0 : Int) ∧ (0 : Int) ≤ 1) ∧ (Q [.inl (0 : Int)] M))) ∧ (x0 ≤ (7 : Int) → (((0 : Int) ≤ (1 : Int) ∧ (1 : Int) ≤ 1) ∧ (Q [.inl (1 : Int)] M)))))) : g_R (D + 1) 50 Q 0 [.inl x0] [] M := 
  g_go hk_50 ⟨rfl, rfl⟩ (g_C_ok g_F0_ok) sp_50 9 h
set_option maxRecDepth 20000 in
theorem rp_50_0 {D : Nat} {Q : g_P} {M : g_M} {x0 : Int} (h : (x0 < (0 : Int) → (Q [.inl (0 : Int)] M)) ∧ ((0 : Int) ≤ x0 → (((7 : Int) < x0 → (Q [.inl (0 : Int)] M)) ∧ (x0 ≤ (7 : Int) → (Q [.inl (1 : Int)] M))))) : g_R (D + 1) 50 Q 0 [.inl x0] [] M :=
  rg_50_0 ⟨fun b1 => ⟨by decide, (And.left h b1)⟩, fun b2 => ⟨fun b3 => ⟨by decide, (And.left (And.right h b2) b3)⟩, fun b4 => ⟨by decide, (And.right (And.right h b2) b4)⟩⟩⟩

theorem hn_51 : 1 ≤ (hm_me 51).2.2.1 := by decide +kernel
/-- HeapLaw.needsY(I)Z -/
def sp_51 (pc : Nat) : Option Nat := match pc with
  | _ => none
set_option maxRecDepth 20000 in
theorem rg_51_0 {D : Nat} {Q : g_P} {M : g_M} {x0 : Int} (h : (x0 = (0 : Int) → (((0 : Int) ≤ (1 : Int) ∧ (1 : Int) ≤ 1) ∧ (Q [.inl (1 : Int)] M))) ∧ (¬ x0 = (0 : Int) → ((x0 < (4 : Int) → (((0 : Int) ≤ (0 : Int) ∧ (0 : Int) ≤ 1) ∧ (Q [.inl (0 : Int)] M))) ∧ ((4 : Int) ≤ x0 → (((0 : Int) ≤ (1 : Int) ∧ (1 : Int) ≤ 1) ∧ (Q [.inl (1 : Int)] M)))))) : g_R (D + 1) 51 Q 0 [.inl x0] [] M := 
  g_go hk_51 ⟨rfl, rfl⟩ (g_C_ok g_F0_ok) sp_51 9 h
set_option maxRecDepth 20000 in
theorem rp_51_0 {D : Nat} {Q : g_P} {M : g_M} {x0 : Int} (h : (x0 = (0 : Int) → (Q [.inl (1 : Int)] M)) ∧ (¬ x0 = (0 : Int) → ((x0 < (4 : Int) → (Q [.inl (0 : Int)] M)) ∧ ((4 : Int) ≤ x0 → (Q [.inl (1 : Int)] M))))) : g_R (D + 1) 51 Q 0 [.inl x0] [] M :=
  rg_51_0 ⟨fun b1 => ⟨by decide, (And.left h b1)⟩, fun b2 => ⟨fun b3 => ⟨by decide, (And.left (And.right h b2) b3)⟩, fun b4 => ⟨by decide, (And.right (And.right h b2) b4)⟩⟩⟩

theorem hn_92 : 2 ≤ (hm_me 92).2.2.1 := by decide +kernel
/-- HeapLawModel.isFormula(I)Z -/
def sp_92 (pc : Nat) : Option Nat := match pc with
  | _ => none
set_option maxRecDepth 20000 in
theorem rg_92_0 {D : Nat} {Q : g_P} {M : g_M} {x1 : Int} (h : (x1 < (0 : Int) → (((0 : Int) ≤ (0 : Int) ∧ (0 : Int) ≤ 1) ∧ (Q [.inl (0 : Int)] M))) ∧ ((0 : Int) ≤ x1 → ((M.1 0 286 1 ≤ x1 → (((0 : Int) ≤ (0 : Int) ∧ (0 : Int) ≤ 1) ∧ (Q [.inl (0 : Int)] M))) ∧ (x1 < M.1 0 286 1 → (((0 : Int) ≤ (1 : Int) ∧ (1 : Int) ≤ 1) ∧ (Q [.inl (1 : Int)] M)))))) : g_R (D + 1) 92 Q 0 [.inr (0, 286), .inl x1] [] M := 
  g_go hk_92 ⟨rfl, rfl⟩ (g_C_ok g_F0_ok) sp_92 10 h
set_option maxRecDepth 20000 in
theorem rp_92_0 {D : Nat} {Q : g_P} {M : g_M} {x1 : Int} (h : (x1 < (0 : Int) → (Q [.inl (0 : Int)] M)) ∧ ((0 : Int) ≤ x1 → ((M.1 0 286 1 ≤ x1 → (Q [.inl (0 : Int)] M)) ∧ (x1 < M.1 0 286 1 → (Q [.inl (1 : Int)] M))))) : g_R (D + 1) 92 Q 0 [.inr (0, 286), .inl x1] [] M :=
  rg_92_0 ⟨fun b1 => ⟨by decide, (And.left h b1)⟩, fun b2 => ⟨fun b3 => ⟨by decide, (And.left (And.right h b2) b3)⟩, fun b4 => ⟨by decide, (And.right (And.right h b2) b4)⟩⟩⟩

theorem hn_93 : 1 ≤ (hm_me 93).2.2.1 := by decide +kernel
/-- HeapLawModel.isTerm(I)Z -/
def sp_93 (pc : Nat) : Option Nat := match pc with
  | _ => none
set_option maxRecDepth 20000 in
theorem rg_93_0 {D : Nat} {Q : g_P} {M : g_M} {x0 : Int} (h : (x0 < (0 : Int) → (((0 : Int) ≤ (0 : Int) ∧ (0 : Int) ≤ 1) ∧ (Q [.inl (0 : Int)] M))) ∧ ((0 : Int) ≤ x0 → (((8 : Int) ≤ x0 → (((0 : Int) ≤ (0 : Int) ∧ (0 : Int) ≤ 1) ∧ (Q [.inl (0 : Int)] M))) ∧ (x0 < (8 : Int) → (((0 : Int) ≤ (1 : Int) ∧ (1 : Int) ≤ 1) ∧ (Q [.inl (1 : Int)] M)))))) : g_R (D + 1) 93 Q 0 [.inl x0] [] M := 
  g_go hk_93 ⟨rfl, rfl⟩ (g_C_ok g_F0_ok) sp_93 9 h
set_option maxRecDepth 20000 in
theorem rp_93_0 {D : Nat} {Q : g_P} {M : g_M} {x0 : Int} (h : (x0 < (0 : Int) → (Q [.inl (0 : Int)] M)) ∧ ((0 : Int) ≤ x0 → (((8 : Int) ≤ x0 → (Q [.inl (0 : Int)] M)) ∧ (x0 < (8 : Int) → (Q [.inl (1 : Int)] M))))) : g_R (D + 1) 93 Q 0 [.inl x0] [] M :=
  rg_93_0 ⟨fun b1 => ⟨by decide, (And.left h b1)⟩, fun b2 => ⟨fun b3 => ⟨by decide, (And.left (And.right h b2) b3)⟩, fun b4 => ⟨by decide, (And.right (And.right h b2) b4)⟩⟩⟩

theorem hn_104 : 1 ≤ (hm_me 104).2.2.1 := by decide +kernel
/-- HeapLawModel.isName(I)Z -/
def sp_104 (pc : Nat) : Option Nat := match pc with
  | _ => none
set_option maxRecDepth 20000 in
theorem rg_104_0 {D : Nat} {Q : g_P} {M : g_M} {x0 : Int} (h : (x0 ≤ (0 : Int) → (((0 : Int) ≤ (0 : Int) ∧ (0 : Int) ≤ 1) ∧ (Q [.inl (0 : Int)] M))) ∧ ((0 : Int) < x0 → (((5 : Int) ≤ x0 → (((0 : Int) ≤ (0 : Int) ∧ (0 : Int) ≤ 1) ∧ (Q [.inl (0 : Int)] M))) ∧ (x0 < (5 : Int) → (((0 : Int) ≤ (1 : Int) ∧ (1 : Int) ≤ 1) ∧ (Q [.inl (1 : Int)] M)))))) : g_R (D + 1) 104 Q 0 [.inl x0] [] M := 
  g_go hk_104 ⟨rfl, rfl⟩ (g_C_ok g_F0_ok) sp_104 9 h
set_option maxRecDepth 20000 in
theorem rp_104_0 {D : Nat} {Q : g_P} {M : g_M} {x0 : Int} (h : (x0 ≤ (0 : Int) → (Q [.inl (0 : Int)] M)) ∧ ((0 : Int) < x0 → (((5 : Int) ≤ x0 → (Q [.inl (0 : Int)] M)) ∧ (x0 < (5 : Int) → (Q [.inl (1 : Int)] M))))) : g_R (D + 1) 104 Q 0 [.inl x0] [] M :=
  rg_104_0 ⟨fun b1 => ⟨by decide, (And.left h b1)⟩, fun b2 => ⟨fun b3 => ⟨by decide, (And.left (And.right h b2) b3)⟩, fun b4 => ⟨by decide, (And.right (And.right h b2) b4)⟩⟩⟩

theorem hn_105 : 1 ≤ (hm_me 105).2.2.1 := by decide +kernel
/-- HeapLawModel.isAddress(I)Z -/
def sp_105 (pc : Nat) : Option Nat := match pc with
  | _ => none
set_option maxRecDepth 20000 in
theorem rg_105_0 {D : Nat} {Q : g_P} {M : g_M} {x0 : Int} (h : (x0 < (0 : Int) → (((0 : Int) ≤ (0 : Int) ∧ (0 : Int) ≤ 1) ∧ (Q [.inl (0 : Int)] M))) ∧ ((0 : Int) ≤ x0 → (((9 : Int) < x0 → (((0 : Int) ≤ (0 : Int) ∧ (0 : Int) ≤ 1) ∧ (Q [.inl (0 : Int)] M))) ∧ (x0 ≤ (9 : Int) → (((0 : Int) ≤ (1 : Int) ∧ (1 : Int) ≤ 1) ∧ (Q [.inl (1 : Int)] M)))))) : g_R (D + 1) 105 Q 0 [.inl x0] [] M := 
  g_go hk_105 ⟨rfl, rfl⟩ (g_C_ok g_F0_ok) sp_105 9 h
set_option maxRecDepth 20000 in
theorem rp_105_0 {D : Nat} {Q : g_P} {M : g_M} {x0 : Int} (h : (x0 < (0 : Int) → (Q [.inl (0 : Int)] M)) ∧ ((0 : Int) ≤ x0 → (((9 : Int) < x0 → (Q [.inl (0 : Int)] M)) ∧ (x0 ≤ (9 : Int) → (Q [.inl (1 : Int)] M))))) : g_R (D + 1) 105 Q 0 [.inl x0] [] M :=
  rg_105_0 ⟨fun b1 => ⟨by decide, (And.left h b1)⟩, fun b2 => ⟨fun b3 => ⟨by decide, (And.left (And.right h b2) b3)⟩, fun b4 => ⟨by decide, (And.right (And.right h b2) b4)⟩⟩⟩

theorem hn_115 : 1 ≤ (hm_me 115).2.2.1 := by decide +kernel
/-- HeapLawModel.needsY(I)Z -/
def sp_115 (pc : Nat) : Option Nat := match pc with
  | _ => none
set_option maxRecDepth 20000 in
theorem rg_115_0 {D : Nat} {Q : g_P} {M : g_M} {x0 : Int} (h : (x0 = (0 : Int) → (((0 : Int) ≤ (1 : Int) ∧ (1 : Int) ≤ 1) ∧ (Q [.inl (1 : Int)] M))) ∧ (¬ x0 = (0 : Int) → ((x0 ≤ (3 : Int) → (((0 : Int) ≤ (0 : Int) ∧ (0 : Int) ≤ 1) ∧ (Q [.inl (0 : Int)] M))) ∧ ((3 : Int) < x0 → (((0 : Int) ≤ (1 : Int) ∧ (1 : Int) ≤ 1) ∧ (Q [.inl (1 : Int)] M)))))) : g_R (D + 1) 115 Q 0 [.inl x0] [] M := 
  g_go hk_115 ⟨rfl, rfl⟩ (g_C_ok g_F0_ok) sp_115 9 h
set_option maxRecDepth 20000 in
theorem rp_115_0 {D : Nat} {Q : g_P} {M : g_M} {x0 : Int} (h : (x0 = (0 : Int) → (Q [.inl (1 : Int)] M)) ∧ (¬ x0 = (0 : Int) → ((x0 ≤ (3 : Int) → (Q [.inl (0 : Int)] M)) ∧ ((3 : Int) < x0 → (Q [.inl (1 : Int)] M))))) : g_R (D + 1) 115 Q 0 [.inl x0] [] M :=
  rg_115_0 ⟨fun b1 => ⟨by decide, (And.left h b1)⟩, fun b2 => ⟨fun b3 => ⟨by decide, (And.left (And.right h b2) b3)⟩, fun b4 => ⟨by decide, (And.right (And.right h b2) b4)⟩⟩⟩

theorem g_natof {a : Int} {N : Nat} (h : 0 ≤ a ∧ a < (N : Int)) : ∃ n : Nat, n < N ∧ a = (n : Int) := ⟨a.toNat, by omega, by omega⟩
theorem g_kind_ck : (List.range 256).all (fun n => decide (hm_and (hm_shr (n : Int) 6) 3 = (n : Int) / 64) && decide (hm_and (hm_shr (n : Int) 3) 7 = (n : Int) / 8 % 8) && decide (hm_and (n : Int) 7 = (n : Int) % 8)) = true := by decide +kernel
theorem g_kind_eq {a : Int} (h : 0 ≤ a ∧ a < 256) : hm_and (hm_shr a 6) 3 = a / 64 ∧ hm_and (hm_shr a 3) 7 = a / 8 % 8 ∧ hm_and a 7 = a % 8 := by
  obtain ⟨n, hn, rfl⟩ := g_natof (N := 256) h
  have := List.all_eq_true.mp g_kind_ck n (List.mem_range.mpr hn)
  simp only [Bool.and_eq_true, decide_eq_true_eq] at this
  exact ⟨this.1.1, this.1.2, this.2⟩
theorem g_pack_ck : (List.range 4).all (fun k => (List.range 8).all (fun x => (List.range 8).all (fun y => decide (hm_or (hm_or (hm_shl (k : Int) 6) (hm_shl (x : Int) 3)) (y : Int) = 64 * (k : Int) + 8 * (x : Int) + (y : Int))))) = true := by decide +kernel
theorem g_pack_eq {k x y : Int} (h : (0 ≤ k ∧ k < 4) ∧ (0 ≤ x ∧ x < 8) ∧ (0 ≤ y ∧ y < 8)) : hm_or (hm_or (hm_shl k 6) (hm_shl x 3)) y = 64 * k + 8 * x + y := by
  obtain ⟨k, hk, rfl⟩ := g_natof (N := 4) h.1
  obtain ⟨x, hx, rfl⟩ := g_natof (N := 8) h.2.1
  obtain ⟨y, hy, rfl⟩ := g_natof (N := 8) h.2.2
  have := List.all_eq_true.mp (List.all_eq_true.mp (List.all_eq_true.mp g_pack_ck k (List.mem_range.mpr hk)) x (List.mem_range.mpr hx)) y (List.mem_range.mpr hy)
  simpa using this
theorem g_has_ck : (List.range 1024).all (fun m => (List.range 10).all (fun i => decide (hm_and (hm_shr (m : Int) (i : Int)) 1 = 0) == !(m.testBit i))) = true := by decide +kernel
theorem g_has_eq {m i : Int} (h : (0 ≤ m ∧ m < 1024) ∧ (0 ≤ i ∧ i < 10)) : hm_and (hm_shr m i) 1 = 0 ↔ ¬ g_bit m i := by
  obtain ⟨m, hm, rfl⟩ := g_natof (N := 1024) h.1
  obtain ⟨i, hi, rfl⟩ := g_natof (N := 10) h.2
  have := List.all_eq_true.mp (List.all_eq_true.mp g_has_ck m (List.mem_range.mpr hm)) i (List.mem_range.mpr hi)
  simp only [beq_iff_eq] at this
  unfold g_bit
  rw [Int.toNat_natCast, Int.toNat_natCast]
  constructor
  · intro q
    rw [decide_eq_true q] at this
    cases hb : m.testBit i
    · simp
    · rw [hb] at this; cases this
  · intro q
    have hb : m.testBit i = false := by simpa using q
    rw [hb] at this
    exact of_decide_eq_true this
theorem g_pop_ck : (List.range 1024).all (fun (n : Nat) => hm_inb ((n : Int) - (hm_and (hm_ush (n : Int) (1 : Int)) ((1431655765 : Nat) : Int))) && hm_inb ((hm_and ((n : Int) - (hm_and (hm_ush (n : Int) (1 : Int)) ((1431655765 : Nat) : Int))) ((858993459 : Nat) : Int)) + (hm_and (hm_ush ((n : Int) - (hm_and (hm_ush (n : Int) (1 : Int)) ((1431655765 : Nat) : Int))) (2 : Int)) ((858993459 : Nat) : Int))) && hm_inb (((hm_and ((n : Int) - (hm_and (hm_ush (n : Int) (1 : Int)) ((1431655765 : Nat) : Int))) ((858993459 : Nat) : Int)) + (hm_and (hm_ush ((n : Int) - (hm_and (hm_ush (n : Int) (1 : Int)) ((1431655765 : Nat) : Int))) (2 : Int)) ((858993459 : Nat) : Int))) + (hm_ush ((hm_and ((n : Int) - (hm_and (hm_ush (n : Int) (1 : Int)) ((1431655765 : Nat) : Int))) ((858993459 : Nat) : Int)) + (hm_and (hm_ush ((n : Int) - (hm_and (hm_ush (n : Int) (1 : Int)) ((1431655765 : Nat) : Int))) (2 : Int)) ((858993459 : Nat) : Int))) (4 : Int))) && hm_inb ((hm_and (((hm_and ((n : Int) - (hm_and (hm_ush (n : Int) (1 : Int)) ((1431655765 : Nat) : Int))) ((858993459 : Nat) : Int)) + (hm_and (hm_ush ((n : Int) - (hm_and (hm_ush (n : Int) (1 : Int)) ((1431655765 : Nat) : Int))) (2 : Int)) ((858993459 : Nat) : Int))) + (hm_ush ((hm_and ((n : Int) - (hm_and (hm_ush (n : Int) (1 : Int)) ((1431655765 : Nat) : Int))) ((858993459 : Nat) : Int)) + (hm_and (hm_ush ((n : Int) - (hm_and (hm_ush (n : Int) (1 : Int)) ((1431655765 : Nat) : Int))) (2 : Int)) ((858993459 : Nat) : Int))) (4 : Int))) ((252645135 : Nat) : Int)) + (hm_ush (hm_and (((hm_and ((n : Int) - (hm_and (hm_ush (n : Int) (1 : Int)) ((1431655765 : Nat) : Int))) ((858993459 : Nat) : Int)) + (hm_and (hm_ush ((n : Int) - (hm_and (hm_ush (n : Int) (1 : Int)) ((1431655765 : Nat) : Int))) (2 : Int)) ((858993459 : Nat) : Int))) + (hm_ush ((hm_and ((n : Int) - (hm_and (hm_ush (n : Int) (1 : Int)) ((1431655765 : Nat) : Int))) ((858993459 : Nat) : Int)) + (hm_and (hm_ush ((n : Int) - (hm_and (hm_ush (n : Int) (1 : Int)) ((1431655765 : Nat) : Int))) (2 : Int)) ((858993459 : Nat) : Int))) (4 : Int))) ((252645135 : Nat) : Int)) (8 : Int))) && hm_inb (((hm_and (((hm_and ((n : Int) - (hm_and (hm_ush (n : Int) (1 : Int)) ((1431655765 : Nat) : Int))) ((858993459 : Nat) : Int)) + (hm_and (hm_ush ((n : Int) - (hm_and (hm_ush (n : Int) (1 : Int)) ((1431655765 : Nat) : Int))) (2 : Int)) ((858993459 : Nat) : Int))) + (hm_ush ((hm_and ((n : Int) - (hm_and (hm_ush (n : Int) (1 : Int)) ((1431655765 : Nat) : Int))) ((858993459 : Nat) : Int)) + (hm_and (hm_ush ((n : Int) - (hm_and (hm_ush (n : Int) (1 : Int)) ((1431655765 : Nat) : Int))) (2 : Int)) ((858993459 : Nat) : Int))) (4 : Int))) ((252645135 : Nat) : Int)) + (hm_ush (hm_and (((hm_and ((n : Int) - (hm_and (hm_ush (n : Int) (1 : Int)) ((1431655765 : Nat) : Int))) ((858993459 : Nat) : Int)) + (hm_and (hm_ush ((n : Int) - (hm_and (hm_ush (n : Int) (1 : Int)) ((1431655765 : Nat) : Int))) (2 : Int)) ((858993459 : Nat) : Int))) + (hm_ush ((hm_and ((n : Int) - (hm_and (hm_ush (n : Int) (1 : Int)) ((1431655765 : Nat) : Int))) ((858993459 : Nat) : Int)) + (hm_and (hm_ush ((n : Int) - (hm_and (hm_ush (n : Int) (1 : Int)) ((1431655765 : Nat) : Int))) (2 : Int)) ((858993459 : Nat) : Int))) (4 : Int))) ((252645135 : Nat) : Int)) (8 : Int))) + (hm_ush ((hm_and (((hm_and ((n : Int) - (hm_and (hm_ush (n : Int) (1 : Int)) ((1431655765 : Nat) : Int))) ((858993459 : Nat) : Int)) + (hm_and (hm_ush ((n : Int) - (hm_and (hm_ush (n : Int) (1 : Int)) ((1431655765 : Nat) : Int))) (2 : Int)) ((858993459 : Nat) : Int))) + (hm_ush ((hm_and ((n : Int) - (hm_and (hm_ush (n : Int) (1 : Int)) ((1431655765 : Nat) : Int))) ((858993459 : Nat) : Int)) + (hm_and (hm_ush ((n : Int) - (hm_and (hm_ush (n : Int) (1 : Int)) ((1431655765 : Nat) : Int))) (2 : Int)) ((858993459 : Nat) : Int))) (4 : Int))) ((252645135 : Nat) : Int)) + (hm_ush (hm_and (((hm_and ((n : Int) - (hm_and (hm_ush (n : Int) (1 : Int)) ((1431655765 : Nat) : Int))) ((858993459 : Nat) : Int)) + (hm_and (hm_ush ((n : Int) - (hm_and (hm_ush (n : Int) (1 : Int)) ((1431655765 : Nat) : Int))) (2 : Int)) ((858993459 : Nat) : Int))) + (hm_ush ((hm_and ((n : Int) - (hm_and (hm_ush (n : Int) (1 : Int)) ((1431655765 : Nat) : Int))) ((858993459 : Nat) : Int)) + (hm_and (hm_ush ((n : Int) - (hm_and (hm_ush (n : Int) (1 : Int)) ((1431655765 : Nat) : Int))) (2 : Int)) ((858993459 : Nat) : Int))) (4 : Int))) ((252645135 : Nat) : Int)) (8 : Int))) (16 : Int))) && decide ((hm_and (((hm_and (((hm_and ((n : Int) - (hm_and (hm_ush (n : Int) (1 : Int)) ((1431655765 : Nat) : Int))) ((858993459 : Nat) : Int)) + (hm_and (hm_ush ((n : Int) - (hm_and (hm_ush (n : Int) (1 : Int)) ((1431655765 : Nat) : Int))) (2 : Int)) ((858993459 : Nat) : Int))) + (hm_ush ((hm_and ((n : Int) - (hm_and (hm_ush (n : Int) (1 : Int)) ((1431655765 : Nat) : Int))) ((858993459 : Nat) : Int)) + (hm_and (hm_ush ((n : Int) - (hm_and (hm_ush (n : Int) (1 : Int)) ((1431655765 : Nat) : Int))) (2 : Int)) ((858993459 : Nat) : Int))) (4 : Int))) ((252645135 : Nat) : Int)) + (hm_ush (hm_and (((hm_and ((n : Int) - (hm_and (hm_ush (n : Int) (1 : Int)) ((1431655765 : Nat) : Int))) ((858993459 : Nat) : Int)) + (hm_and (hm_ush ((n : Int) - (hm_and (hm_ush (n : Int) (1 : Int)) ((1431655765 : Nat) : Int))) (2 : Int)) ((858993459 : Nat) : Int))) + (hm_ush ((hm_and ((n : Int) - (hm_and (hm_ush (n : Int) (1 : Int)) ((1431655765 : Nat) : Int))) ((858993459 : Nat) : Int)) + (hm_and (hm_ush ((n : Int) - (hm_and (hm_ush (n : Int) (1 : Int)) ((1431655765 : Nat) : Int))) (2 : Int)) ((858993459 : Nat) : Int))) (4 : Int))) ((252645135 : Nat) : Int)) (8 : Int))) + (hm_ush ((hm_and (((hm_and ((n : Int) - (hm_and (hm_ush (n : Int) (1 : Int)) ((1431655765 : Nat) : Int))) ((858993459 : Nat) : Int)) + (hm_and (hm_ush ((n : Int) - (hm_and (hm_ush (n : Int) (1 : Int)) ((1431655765 : Nat) : Int))) (2 : Int)) ((858993459 : Nat) : Int))) + (hm_ush ((hm_and ((n : Int) - (hm_and (hm_ush (n : Int) (1 : Int)) ((1431655765 : Nat) : Int))) ((858993459 : Nat) : Int)) + (hm_and (hm_ush ((n : Int) - (hm_and (hm_ush (n : Int) (1 : Int)) ((1431655765 : Nat) : Int))) (2 : Int)) ((858993459 : Nat) : Int))) (4 : Int))) ((252645135 : Nat) : Int)) + (hm_ush (hm_and (((hm_and ((n : Int) - (hm_and (hm_ush (n : Int) (1 : Int)) ((1431655765 : Nat) : Int))) ((858993459 : Nat) : Int)) + (hm_and (hm_ush ((n : Int) - (hm_and (hm_ush (n : Int) (1 : Int)) ((1431655765 : Nat) : Int))) (2 : Int)) ((858993459 : Nat) : Int))) + (hm_ush ((hm_and ((n : Int) - (hm_and (hm_ush (n : Int) (1 : Int)) ((1431655765 : Nat) : Int))) ((858993459 : Nat) : Int)) + (hm_and (hm_ush ((n : Int) - (hm_and (hm_ush (n : Int) (1 : Int)) ((1431655765 : Nat) : Int))) (2 : Int)) ((858993459 : Nat) : Int))) (4 : Int))) ((252645135 : Nat) : Int)) (8 : Int))) (16 : Int))) (63 : Int)) = g_pop (n : Int))) = true := by decide +kernel
theorem fa_11 {D : Nat} {f : Int} {M : g_M} {Q : g_P} (h : ((0 ≤ f ∧ f < M.1 0 2 6) → Q [.inl 1] M) ∧ (¬ (0 ≤ f ∧ f < M.1 0 2 6) → Q [.inl 0] M)) : g_Ev (D + 1) 11 [.inr (0, 2), .inl f] M Q := by
  refine g_enter hk_11 hn_11 (rg_11_0 ?_)
  obtain ⟨h1, h2⟩ := h
  (repeat' first | refine ⟨?_, ?_⟩ | intro _) <;> first | omega | exact h1 (by omega) | exact h2 (by omega)
theorem fa_12 {D : Nat} {f : Int} {M : g_M} {Q : g_P} (h : ((f = 0 ∨ f = 1) → Q [.inl 1] M) ∧ (¬ (f = 0 ∨ f = 1) → Q [.inl 0] M)) : g_Ev (D + 1) 12 [.inl f] M Q := by
  refine g_enter hk_12 hn_12 (rg_12_0 ?_)
  obtain ⟨h1, h2⟩ := h
  (repeat' first | refine ⟨?_, ?_⟩ | intro _) <;> first | omega | exact h1 (by omega) | exact h2 (by omega)
theorem fa_13 {D : Nat} {f : Int} {M : g_M} {Q : g_P} (h : ((0 ≤ f ∧ f < 8) → Q [.inl 1] M) ∧ (¬ (0 ≤ f ∧ f < 8) → Q [.inl 0] M)) : g_Ev (D + 1) 13 [.inl f] M Q := by
  refine g_enter hk_13 hn_13 (rg_13_0 ?_)
  obtain ⟨h1, h2⟩ := h
  (repeat' first | refine ⟨?_, ?_⟩ | intro _) <;> first | omega | exact h1 (by omega) | exact h2 (by omega)
theorem fa_29 {D : Nat} {f : Int} {M : g_M} {Q : g_P} (h : ((0 < f ∧ f < 5) → Q [.inl 1] M) ∧ (¬ (0 < f ∧ f < 5) → Q [.inl 0] M)) : g_Ev (D + 1) 29 [.inl f] M Q := by
  refine g_enter hk_29 hn_29 (rg_29_0 ?_)
  obtain ⟨h1, h2⟩ := h
  (repeat' first | refine ⟨?_, ?_⟩ | intro _) <;> first | omega | exact h1 (by omega) | exact h2 (by omega)
theorem fa_30 {D : Nat} {f : Int} {M : g_M} {Q : g_P} (h : ((0 ≤ f ∧ f < 10) → Q [.inl 1] M) ∧ (¬ (0 ≤ f ∧ f < 10) → Q [.inl 0] M)) : g_Ev (D + 1) 30 [.inl f] M Q := by
  refine g_enter hk_30 hn_30 (rg_30_0 ?_)
  obtain ⟨h1, h2⟩ := h
  (repeat' first | refine ⟨?_, ?_⟩ | intro _) <;> first | omega | exact h1 (by omega) | exact h2 (by omega)
theorem fa_32 {D : Nat} {f : Int} {M : g_M} {Q : g_P} (h : ((0 < f ∧ f < 10) → Q [.inl 1] M) ∧ (¬ (0 < f ∧ f < 10) → Q [.inl 0] M)) : g_Ev (D + 1) 32 [.inl f] M Q := by
  refine g_enter hk_32 hn_32 (rg_32_0 ?_)
  obtain ⟨h1, h2⟩ := h
  (repeat' first | refine ⟨?_, ?_⟩ | intro _) <;> first | omega | exact h1 (by omega) | exact h2 (by omega)
theorem fa_50 {D : Nat} {f : Int} {M : g_M} {Q : g_P} (h : ((0 ≤ f ∧ f < 8) → Q [.inl 1] M) ∧ (¬ (0 ≤ f ∧ f < 8) → Q [.inl 0] M)) : g_Ev (D + 1) 50 [.inl f] M Q := by
  refine g_enter hk_50 hn_50 (rg_50_0 ?_)
  obtain ⟨h1, h2⟩ := h
  (repeat' first | refine ⟨?_, ?_⟩ | intro _) <;> first | omega | exact h1 (by omega) | exact h2 (by omega)
theorem fa_51 {D : Nat} {f : Int} {M : g_M} {Q : g_P} (h : ((f = 0 ∨ 3 < f) → Q [.inl 1] M) ∧ (¬ (f = 0 ∨ 3 < f) → Q [.inl 0] M)) : g_Ev (D + 1) 51 [.inl f] M Q := by
  refine g_enter hk_51 hn_51 (rg_51_0 ?_)
  obtain ⟨h1, h2⟩ := h
  (repeat' first | refine ⟨?_, ?_⟩ | intro _) <;> first | omega | exact h1 (by omega) | exact h2 (by omega)
theorem fa_92 {D : Nat} {f : Int} {M : g_M} {Q : g_P} (h : ((0 ≤ f ∧ f < M.1 0 286 1) → Q [.inl 1] M) ∧ (¬ (0 ≤ f ∧ f < M.1 0 286 1) → Q [.inl 0] M)) : g_Ev (D + 1) 92 [.inr (0, 286), .inl f] M Q := by
  refine g_enter hk_92 hn_92 (rg_92_0 ?_)
  obtain ⟨h1, h2⟩ := h
  (repeat' first | refine ⟨?_, ?_⟩ | intro _) <;> first | omega | exact h1 (by omega) | exact h2 (by omega)
theorem fa_93 {D : Nat} {f : Int} {M : g_M} {Q : g_P} (h : ((0 ≤ f ∧ f < 8) → Q [.inl 1] M) ∧ (¬ (0 ≤ f ∧ f < 8) → Q [.inl 0] M)) : g_Ev (D + 1) 93 [.inl f] M Q := by
  refine g_enter hk_93 hn_93 (rg_93_0 ?_)
  obtain ⟨h1, h2⟩ := h
  (repeat' first | refine ⟨?_, ?_⟩ | intro _) <;> first | omega | exact h1 (by omega) | exact h2 (by omega)
theorem fa_104 {D : Nat} {f : Int} {M : g_M} {Q : g_P} (h : ((0 < f ∧ f < 5) → Q [.inl 1] M) ∧ (¬ (0 < f ∧ f < 5) → Q [.inl 0] M)) : g_Ev (D + 1) 104 [.inl f] M Q := by
  refine g_enter hk_104 hn_104 (rg_104_0 ?_)
  obtain ⟨h1, h2⟩ := h
  (repeat' first | refine ⟨?_, ?_⟩ | intro _) <;> first | omega | exact h1 (by omega) | exact h2 (by omega)
theorem fa_105 {D : Nat} {f : Int} {M : g_M} {Q : g_P} (h : ((0 ≤ f ∧ f < 10) → Q [.inl 1] M) ∧ (¬ (0 ≤ f ∧ f < 10) → Q [.inl 0] M)) : g_Ev (D + 1) 105 [.inl f] M Q := by
  refine g_enter hk_105 hn_105 (rg_105_0 ?_)
  obtain ⟨h1, h2⟩ := h
  (repeat' first | refine ⟨?_, ?_⟩ | intro _) <;> first | omega | exact h1 (by omega) | exact h2 (by omega)
theorem fa_115 {D : Nat} {f : Int} {M : g_M} {Q : g_P} (h : ((f = 0 ∨ 3 < f) → Q [.inl 1] M) ∧ (¬ (f = 0 ∨ 3 < f) → Q [.inl 0] M)) : g_Ev (D + 1) 115 [.inl f] M Q := by
  refine g_enter hk_115 hn_115 (rg_115_0 ?_)
  obtain ⟨h1, h2⟩ := h
  (repeat' first | refine ⟨?_, ?_⟩ | intro _) <;> first | omega | exact h1 (by omega) | exact h2 (by omega)
theorem fa_24 {D : Nat} {f : Int} {M : g_M} {Q : g_P} (h : (0 ≤ f ∧ f < 256) ∧ Q [.inl (f / 64)] M) : g_Ev (D + 1) 24 [.inl f] M Q :=
  g_enter hk_24 hn_24 (rg_24_0 (by rw [(g_kind_eq h.1).1]; exact h.2))
theorem fa_25 {D : Nat} {f : Int} {M : g_M} {Q : g_P} (h : (0 ≤ f ∧ f < 256) ∧ Q [.inl (f / 8 % 8)] M) : g_Ev (D + 1) 25 [.inl f] M Q :=
  g_enter hk_25 hn_25 (rg_25_0 (by rw [(g_kind_eq h.1).2.1]; exact h.2))
theorem fa_26 {D : Nat} {f : Int} {M : g_M} {Q : g_P} (h : (0 ≤ f ∧ f < 256) ∧ Q [.inl (f % 8)] M) : g_Ev (D + 1) 26 [.inl f] M Q :=
  g_enter hk_26 hn_26 (rg_26_0 (by rw [(g_kind_eq h.1).2.2]; exact h.2))
theorem fa_14 {D : Nat} {k : Int} {x : Int} {y : Int} {M : g_M} {Q : g_P} (h : ((0 ≤ k ∧ k < 4) ∧ (0 ≤ x ∧ x < 8) ∧ (0 ≤ y ∧ y < 8)) ∧ Q [.inl (64 * k + 8 * x + y)] M) : g_Ev (D + 1) 14 [.inl k, .inl x, .inl y] M Q :=
  g_enter hk_14 hn_14 (rg_14_0 (by rw [g_pack_eq h.1]; exact h.2))
theorem fa_44 {D : Nat} {m i : Int} {M : g_M} {Q : g_P} (h : ((0 ≤ m ∧ m < 1024) ∧ (0 ≤ i ∧ i < 10)) ∧ ((g_bit m i → Q [.inl 1] M) ∧ (¬ g_bit m i → Q [.inl 0] M))) : g_Ev (D + 1) 44 [.inl m, .inl i] M Q :=
  g_enter hk_44 hn_44 (rg_44_0 ⟨fun q => ⟨⟨by omega, by omega⟩, h.2.2 ((g_has_eq h.1).mp q)⟩, fun q => ⟨⟨by omega, by omega⟩, h.2.1 (Classical.byContradiction fun z => q ((g_has_eq h.1).mpr z))⟩⟩)
theorem fa_37 {D : Nat} {f : Int} {M : g_M} {Q : g_P} (h : (0 ≤ f ∧ f < 1024) ∧ Q [.inl (g_pop f)] M) : g_Ev (D + 1) 37 [.inl f] M Q := by
  obtain ⟨n, hn, rfl⟩ := g_natof (N := 1024) h.1
  have h1 := List.all_eq_true.mp g_pop_ck n (List.mem_range.mpr hn)
  simp only [Bool.and_eq_true, decide_eq_true_eq] at h1
  obtain ⟨⟨⟨⟨⟨c0, c1⟩, c2⟩, c3⟩, c4⟩, c5⟩ := h1
  refine g_enter hk_37 hn_37 (rg_37_0 ⟨hm_inb_in c0, hm_inb_in c1, hm_inb_in c2, hm_inb_in c3, hm_inb_in c4, ?_⟩)
  rw [c5]
  exact h.2
theorem g_Fa_ok {D : Nat} : ∀ k f as M Q, g_Fa k = some f → f as M Q → g_Ev (D + 1) k as M Q := by
  intro k f as M Q h h1
  unfold g_Fa at h
  split at h <;> first | (cases h; done) | skip
  · cases h
    split at h1
    · exact fa_11 h1
    · exact h1.elim
  · cases h
    split at h1
    · exact fa_12 h1
    · exact h1.elim
  · cases h
    split at h1
    · exact fa_13 h1
    · exact h1.elim
  · cases h
    split at h1
    · exact fa_29 h1
    · exact h1.elim
  · cases h
    split at h1
    · exact fa_30 h1
    · exact h1.elim
  · cases h
    split at h1
    · exact fa_32 h1
    · exact h1.elim
  · cases h
    split at h1
    · exact fa_50 h1
    · exact h1.elim
  · cases h
    split at h1
    · exact fa_51 h1
    · exact h1.elim
  · cases h
    split at h1
    · exact fa_92 h1
    · exact h1.elim
  · cases h
    split at h1
    · exact fa_93 h1
    · exact h1.elim
  · cases h
    split at h1
    · exact fa_104 h1
    · exact h1.elim
  · cases h
    split at h1
    · exact fa_105 h1
    · exact h1.elim
  · cases h
    split at h1
    · exact fa_115 h1
    · exact h1.elim
  · cases h
    split at h1
    · exact fa_14 h1
    · exact h1.elim
  · cases h
    split at h1
    · exact fa_24 h1
    · exact h1.elim
  · cases h
    split at h1
    · exact fa_25 h1
    · exact h1.elim
  · cases h
    split at h1
    · exact fa_26 h1
    · exact h1.elim
  · cases h
    split at h1
    · exact fa_37 h1
    · exact h1.elim
  · cases h
    split at h1
    · exact fa_44 h1
    · exact h1.elim
theorem hn_49 : 3 ≤ (hm_me 49).2.2.1 := by decide +kernel
/-- HeapLaw.areNames(III)Z -/
def sp_49 (pc : Nat) : Option Nat := match pc with
  | _ => none
set_option maxRecDepth 20000 in
theorem rg_49_0 {D : Nat} {Q : g_P} {M : g_M} {x0 : Int} {x1 : Int} {x2 : Int} {D1 : Nat} (hD : D = D1 + 1) (h : ((0 ≤ x0 ∧ x0 < 8) → (((1 : Int) = (0 : Int) → (((0 : Int) ≤ (0 : Int) ∧ (0 : Int) ≤ 1) ∧ (Q [.inl (0 : Int)] M))) ∧ (¬ (1 : Int) = (0 : Int) → (((0 < x1 ∧ x1 < 5) → (((1 : Int) = (0 : Int) → (((0 : Int) ≤ (0 : Int) ∧ (0 : Int) ≤ 1) ∧ (Q [.inl (0 : Int)] M))) ∧ (¬ (1 : Int) = (0 : Int) → (((x0 = 0 ∨ 3 < x0) → (((1 : Int) = (0 : Int) → (((0 : Int) ≤ (1 : Int) ∧ (1 : Int) ≤ 1) ∧ (Q [.inl (1 : Int)] M))) ∧ (¬ (1 : Int) = (0 : Int) → (((0 < x2 ∧ x2 < 5) → (((1 : Int) = (0 : Int) → (((0 : Int) ≤ (0 : Int) ∧ (0 : Int) ≤ 1) ∧ (Q [.inl (0 : Int)] M))) ∧ (¬ (1 : Int) = (0 : Int) → (((0 : Int) ≤ (1 : Int) ∧ (1 : Int) ≤ 1) ∧ (Q [.inl (1 : Int)] M))))) ∧ (¬ (0 < x2 ∧ x2 < 5) → (((0 : Int) = (0 : Int) → (((0 : Int) ≤ (0 : Int) ∧ (0 : Int) ≤ 1) ∧ (Q [.inl (0 : Int)] M))) ∧ (¬ (0 : Int) = (0 : Int) → (((0 : Int) ≤ (1 : Int) ∧ (1 : Int) ≤ 1) ∧ (Q [.inl (1 : Int)] M))))))))) ∧ (¬ (x0 = 0 ∨ 3 < x0) → (((0 : Int) = (0 : Int) → (((0 : Int) ≤ (1 : Int) ∧ (1 : Int) ≤ 1) ∧ (Q [.inl (1 : Int)] M))) ∧ (¬ (0 : Int) = (0 : Int) → (((0 < x2 ∧ x2 < 5) → (((1 : Int) = (0 : Int) → (((0 : Int) ≤ (0 : Int) ∧ (0 : Int) ≤ 1) ∧ (Q [.inl (0 : Int)] M))) ∧ (¬ (1 : Int) = (0 : Int) → (((0 : Int) ≤ (1 : Int) ∧ (1 : Int) ≤ 1) ∧ (Q [.inl (1 : Int)] M))))) ∧ (¬ (0 < x2 ∧ x2 < 5) → (((0 : Int) = (0 : Int) → (((0 : Int) ≤ (0 : Int) ∧ (0 : Int) ≤ 1) ∧ (Q [.inl (0 : Int)] M))) ∧ (¬ (0 : Int) = (0 : Int) → (((0 : Int) ≤ (1 : Int) ∧ (1 : Int) ≤ 1) ∧ (Q [.inl (1 : Int)] M))))))))))))) ∧ (¬ (0 < x1 ∧ x1 < 5) → (((0 : Int) = (0 : Int) → (((0 : Int) ≤ (0 : Int) ∧ (0 : Int) ≤ 1) ∧ (Q [.inl (0 : Int)] M))) ∧ (¬ (0 : Int) = (0 : Int) → (((x0 = 0 ∨ 3 < x0) → (((1 : Int) = (0 : Int) → (((0 : Int) ≤ (1 : Int) ∧ (1 : Int) ≤ 1) ∧ (Q [.inl (1 : Int)] M))) ∧ (¬ (1 : Int) = (0 : Int) → (((0 < x2 ∧ x2 < 5) → (((1 : Int) = (0 : Int) → (((0 : Int) ≤ (0 : Int) ∧ (0 : Int) ≤ 1) ∧ (Q [.inl (0 : Int)] M))) ∧ (¬ (1 : Int) = (0 : Int) → (((0 : Int) ≤ (1 : Int) ∧ (1 : Int) ≤ 1) ∧ (Q [.inl (1 : Int)] M))))) ∧ (¬ (0 < x2 ∧ x2 < 5) → (((0 : Int) = (0 : Int) → (((0 : Int) ≤ (0 : Int) ∧ (0 : Int) ≤ 1) ∧ (Q [.inl (0 : Int)] M))) ∧ (¬ (0 : Int) = (0 : Int) → (((0 : Int) ≤ (1 : Int) ∧ (1 : Int) ≤ 1) ∧ (Q [.inl (1 : Int)] M))))))))) ∧ (¬ (x0 = 0 ∨ 3 < x0) → (((0 : Int) = (0 : Int) → (((0 : Int) ≤ (1 : Int) ∧ (1 : Int) ≤ 1) ∧ (Q [.inl (1 : Int)] M))) ∧ (¬ (0 : Int) = (0 : Int) → (((0 < x2 ∧ x2 < 5) → (((1 : Int) = (0 : Int) → (((0 : Int) ≤ (0 : Int) ∧ (0 : Int) ≤ 1) ∧ (Q [.inl (0 : Int)] M))) ∧ (¬ (1 : Int) = (0 : Int) → (((0 : Int) ≤ (1 : Int) ∧ (1 : Int) ≤ 1) ∧ (Q [.inl (1 : Int)] M))))) ∧ (¬ (0 < x2 ∧ x2 < 5) → (((0 : Int) = (0 : Int) → (((0 : Int) ≤ (0 : Int) ∧ (0 : Int) ≤ 1) ∧ (Q [.inl (0 : Int)] M))) ∧ (¬ (0 : Int) = (0 : Int) → (((0 : Int) ≤ (1 : Int) ∧ (1 : Int) ≤ 1) ∧ (Q [.inl (1 : Int)] M))))))))))))))))) ∧ (¬ (0 ≤ x0 ∧ x0 < 8) → (((0 : Int) = (0 : Int) → (((0 : Int) ≤ (0 : Int) ∧ (0 : Int) ≤ 1) ∧ (Q [.inl (0 : Int)] M))) ∧ (¬ (0 : Int) = (0 : Int) → (((0 < x1 ∧ x1 < 5) → (((1 : Int) = (0 : Int) → (((0 : Int) ≤ (0 : Int) ∧ (0 : Int) ≤ 1) ∧ (Q [.inl (0 : Int)] M))) ∧ (¬ (1 : Int) = (0 : Int) → (((x0 = 0 ∨ 3 < x0) → (((1 : Int) = (0 : Int) → (((0 : Int) ≤ (1 : Int) ∧ (1 : Int) ≤ 1) ∧ (Q [.inl (1 : Int)] M))) ∧ (¬ (1 : Int) = (0 : Int) → (((0 < x2 ∧ x2 < 5) → (((1 : Int) = (0 : Int) → (((0 : Int) ≤ (0 : Int) ∧ (0 : Int) ≤ 1) ∧ (Q [.inl (0 : Int)] M))) ∧ (¬ (1 : Int) = (0 : Int) → (((0 : Int) ≤ (1 : Int) ∧ (1 : Int) ≤ 1) ∧ (Q [.inl (1 : Int)] M))))) ∧ (¬ (0 < x2 ∧ x2 < 5) → (((0 : Int) = (0 : Int) → (((0 : Int) ≤ (0 : Int) ∧ (0 : Int) ≤ 1) ∧ (Q [.inl (0 : Int)] M))) ∧ (¬ (0 : Int) = (0 : Int) → (((0 : Int) ≤ (1 : Int) ∧ (1 : Int) ≤ 1) ∧ (Q [.inl (1 : Int)] M))))))))) ∧ (¬ (x0 = 0 ∨ 3 < x0) → (((0 : Int) = (0 : Int) → (((0 : Int) ≤ (1 : Int) ∧ (1 : Int) ≤ 1) ∧ (Q [.inl (1 : Int)] M))) ∧ (¬ (0 : Int) = (0 : Int) → (((0 < x2 ∧ x2 < 5) → (((1 : Int) = (0 : Int) → (((0 : Int) ≤ (0 : Int) ∧ (0 : Int) ≤ 1) ∧ (Q [.inl (0 : Int)] M))) ∧ (¬ (1 : Int) = (0 : Int) → (((0 : Int) ≤ (1 : Int) ∧ (1 : Int) ≤ 1) ∧ (Q [.inl (1 : Int)] M))))) ∧ (¬ (0 < x2 ∧ x2 < 5) → (((0 : Int) = (0 : Int) → (((0 : Int) ≤ (0 : Int) ∧ (0 : Int) ≤ 1) ∧ (Q [.inl (0 : Int)] M))) ∧ (¬ (0 : Int) = (0 : Int) → (((0 : Int) ≤ (1 : Int) ∧ (1 : Int) ≤ 1) ∧ (Q [.inl (1 : Int)] M))))))))))))) ∧ (¬ (0 < x1 ∧ x1 < 5) → (((0 : Int) = (0 : Int) → (((0 : Int) ≤ (0 : Int) ∧ (0 : Int) ≤ 1) ∧ (Q [.inl (0 : Int)] M))) ∧ (¬ (0 : Int) = (0 : Int) → (((x0 = 0 ∨ 3 < x0) → (((1 : Int) = (0 : Int) → (((0 : Int) ≤ (1 : Int) ∧ (1 : Int) ≤ 1) ∧ (Q [.inl (1 : Int)] M))) ∧ (¬ (1 : Int) = (0 : Int) → (((0 < x2 ∧ x2 < 5) → (((1 : Int) = (0 : Int) → (((0 : Int) ≤ (0 : Int) ∧ (0 : Int) ≤ 1) ∧ (Q [.inl (0 : Int)] M))) ∧ (¬ (1 : Int) = (0 : Int) → (((0 : Int) ≤ (1 : Int) ∧ (1 : Int) ≤ 1) ∧ (Q [.inl (1 : Int)] M))))) ∧ (¬ (0 < x2 ∧ x2 < 5) → (((0 : Int) = (0 : Int) → (((0 : Int) ≤ (0 : Int) ∧ (0 : Int) ≤ 1) ∧ (Q [.inl (0 : Int)] M))) ∧ (¬ (0 : Int) = (0 : Int) → (((0 : Int) ≤ (1 : Int) ∧ (1 : Int) ≤ 1) ∧ (Q [.inl (1 : Int)] M))))))))) ∧ (¬ (x0 = 0 ∨ 3 < x0) → (((0 : Int) = (0 : Int) → (((0 : Int) ≤ (1 : Int) ∧ (1 : Int) ≤ 1) ∧ (Q [.inl (1 : Int)] M))) ∧ (¬ (0 : Int) = (0 : Int) → (((0 < x2 ∧ x2 < 5) → (((1 : Int) = (0 : Int) → (((0 : Int) ≤ (0 : Int) ∧ (0 : Int) ≤ 1) ∧ (Q [.inl (0 : Int)] M))) ∧ (¬ (1 : Int) = (0 : Int) → (((0 : Int) ≤ (1 : Int) ∧ (1 : Int) ≤ 1) ∧ (Q [.inl (1 : Int)] M))))) ∧ (¬ (0 < x2 ∧ x2 < 5) → (((0 : Int) = (0 : Int) → (((0 : Int) ≤ (0 : Int) ∧ (0 : Int) ≤ 1) ∧ (Q [.inl (0 : Int)] M))) ∧ (¬ (0 : Int) = (0 : Int) → (((0 : Int) ≤ (1 : Int) ∧ (1 : Int) ≤ 1) ∧ (Q [.inl (1 : Int)] M)))))))))))))))))) : g_R (D + 1) 49 Q 0 [.inl x0, .inl x1, .inl x2] [] M := by
  subst hD
  exact g_go hk_49 ⟨rfl, rfl⟩ (g_C_ok (g_Fa_ok (D := D1))) sp_49 16 h
set_option maxRecDepth 20000 in
theorem rp_49_0 {D : Nat} {Q : g_P} {M : g_M} {x0 : Int} {x1 : Int} {x2 : Int} {D1 : Nat} (hD : D = D1 + 1) (h : ((0 ≤ x0 ∧ x0 < 8) → (((0 < x1 ∧ x1 < 5) → (((x0 = 0 ∨ 3 < x0) → (((0 < x2 ∧ x2 < 5) → (Q [.inl (1 : Int)] M)) ∧ (¬ (0 < x2 ∧ x2 < 5) → (Q [.inl (0 : Int)] M)))) ∧ (¬ (x0 = 0 ∨ 3 < x0) → (Q [.inl (1 : Int)] M)))) ∧ (¬ (0 < x1 ∧ x1 < 5) → (Q [.inl (0 : Int)] M)))) ∧ (¬ (0 ≤ x0 ∧ x0 < 8) → (Q [.inl (0 : Int)] M))) : g_R (D + 1) 49 Q 0 [.inl x0, .inl x1, .inl x2] [] M :=
  rg_49_0 hD ⟨fun b1 => ⟨(fun z => absurd z (by decide)), fun _ => ⟨fun b3 => ⟨(fun z => absurd z (by decide)), fun _ => ⟨fun b5 => ⟨(fun z => absurd z (by decide)), fun _ => ⟨fun b7 => ⟨(fun z => absurd z (by decide)), fun _ => ⟨by decide, (And.left (And.left (And.left (And.left h b1) b3) b5) b7)⟩⟩, fun b8 => ⟨fun _ => ⟨by decide, (And.right (And.left (And.left (And.left h b1) b3) b5) b8)⟩, (fun z => absurd z (by decide))⟩⟩⟩, fun b6 => ⟨fun _ => ⟨by decide, (And.right (And.left (And.left h b1) b3) b6)⟩, (fun z => absurd z (by decide))⟩⟩⟩, fun b4 => ⟨fun _ => ⟨by decide, (And.right (And.left h b1) b4)⟩, (fun z => absurd z (by decide))⟩⟩⟩, fun b2 => ⟨fun _ => ⟨by decide, (And.right h b2)⟩, (fun z => absurd z (by decide))⟩⟩

theorem hn_76 : 1 ≤ (hm_me 76).2.2.1 := by decide +kernel
/-- HeapLaw.spareBeside(I)I -/
def sp_76 (pc : Nat) : Option Nat := match pc with
  | 2 => some 2
  | _ => none
set_option maxRecDepth 20000 in
theorem rg_76_0 {D : Nat} {Q : g_P} {M : g_M} {x0 : Int} {D1 : Nat} (hD : D = D1 + 1) (h : g_R (D + 1) 76 Q 2 [.inl x0, .inl (5 : Int)] [] M) : g_R (D + 1) 76 Q 0 [.inl x0] [] M := by
  subst hD
  exact g_go hk_76 ⟨rfl, rfl⟩ (g_C_ok (g_Fa_ok (D := D1))) sp_76 3 h
theorem rp_76_0 {D : Nat} {Q : g_P} {M : g_M} {x0 : Int} {D1 : Nat} (hD : D = D1 + 1) (h : g_R (D + 1) 76 Q 2 [.inl x0, .inl (5 : Int)] [] M) : g_R (D + 1) 76 Q 0 [.inl x0] [] M := rg_76_0 hD h
set_option maxRecDepth 20000 in
theorem rg_76_2 {D : Nat} {Q : g_P} {M : g_M} {x0 : Int} {x1 : Int} {D1 : Nat} (hD : D = D1 + 1) (h : ((7 : Int) < x1 → (Q [.inl (-1 : Int)] M)) ∧ (x1 ≤ (7 : Int) → (((0 ≤ x0 ∧ x0 < 1024) ∧ (0 ≤ x1 ∧ x1 < 10)) ∧ ((g_bit x0 x1 → ((¬ (1 : Int) = (0 : Int) → ((hm_in (x1 + (1 : Int))) ∧ (g_R (D + 1) 76 Q 2 [.inl x0, .inl (x1 + (1 : Int))] [] M))) ∧ ((1 : Int) = (0 : Int) → (Q [.inl x1] M)))) ∧ (¬ g_bit x0 x1 → ((¬ (0 : Int) = (0 : Int) → ((hm_in (x1 + (1 : Int))) ∧ (g_R (D + 1) 76 Q 2 [.inl x0, .inl (x1 + (1 : Int))] [] M))) ∧ ((0 : Int) = (0 : Int) → (Q [.inl x1] M)))))))) : g_R (D + 1) 76 Q 2 [.inl x0, .inl x1] [] M := by
  subst hD
  exact g_go hk_76 ⟨rfl, rfl⟩ (g_C_ok (g_Fa_ok (D := D1))) sp_76 10 h
set_option maxRecDepth 20000 in
theorem rp_76_2 {D : Nat} {Q : g_P} {M : g_M} {x0 : Int} {x1 : Int} {D1 : Nat} (hD : D = D1 + 1) (h : ((7 : Int) < x1 → (Q [.inl (-1 : Int)] M)) ∧ (x1 ≤ (7 : Int) → (((0 ≤ x0 ∧ x0 < 1024) ∧ (0 ≤ x1 ∧ x1 < 10)) ∧ ((g_bit x0 x1 → ((hm_in (x1 + (1 : Int))) ∧ (g_R (D + 1) 76 Q 2 [.inl x0, .inl (x1 + (1 : Int))] [] M))) ∧ (¬ g_bit x0 x1 → (Q [.inl x1] M)))))) : g_R (D + 1) 76 Q 2 [.inl x0, .inl x1] [] M :=
  rg_76_2 hD ⟨fun b1 => (And.left h b1), fun b2 => (have a3 := And.left (And.right h b2); ⟨a3, ⟨fun b4 => ⟨fun _ => (have a6 := And.left (And.left (And.right (And.right h b2)) b4); ⟨a6, (And.right (And.left (And.right (And.right h b2)) b4))⟩), (fun z => absurd z (by decide))⟩, fun b5 => ⟨(fun z => absurd z (by decide)), fun _ => (And.right (And.right (And.right h b2)) b5)⟩⟩⟩)⟩


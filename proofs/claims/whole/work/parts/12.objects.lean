/-! THE MACHINE OVER THE OBJECTS AS THEY STAND WHEN BOTH CONSTRUCTORS ARE THROUGH (wip/gen/gen12.py): a reference is a pair (family, which): 0 single objects by number; 1, 2, 3 a Formula, its pures, its parts; 4, 5, 6 a Memory, its cells, its values; 7, 10, 11 a Plan, its codes, its starts; 12, 13, 14 a Sharing, its sorts, its goesTo; 8 the script; 9 null -/
abbrev g_V : Type := Int ⊕ (Nat × Nat)
abbrev g_M : Type := (Nat → Nat → Nat → Int) × (Nat → Option Nat)
abbrev g_P : Type := List g_V → g_M → Prop
def g_sh : List (Nat × Nat) := [(1000, 0), (1000, 0), (9, 8), (2, 72), (4, 3), (0, 10), (0, 8), (6, 3), (0, 26), (0, 9), (7, 6), (0, 8), (0, 8), (6, 3), (0, 26), (0, 9), (8, 8), (2, 12), (7, 6), (0, 8), (0, 8), (6, 3), (0, 26), (0, 9), (3, 4), (0, 16), (0, 10), (3, 4), (0, 16), (0, 10), (3, 4), (0, 16), (0, 10), (3, 4), (0, 16), (0, 10), (3, 4), (0, 16), (0, 10), (3, 4), (0, 16), (0, 10), (3, 4), (0, 16), (0, 10), (3, 4), (0, 16), (0, 10), (3, 4), (0, 16), (0, 10), (3, 4), (0, 16), (0, 10), (3, 4), (0, 16), (0, 10), (3, 4), (0, 16), (0, 10), (5, 3), (4, 3), (0, 10), (0, 8), (6, 3), (0, 26), (0, 9), (6, 3), (0, 26), (0, 9), (3, 4), (0, 16), (0, 10), (3, 4), (0, 16), (0, 10), (3, 4), (0, 16), (0, 10), (3, 4), (0, 16), (0, 10), (3, 4), (0, 16), (0, 10), (3, 4), (0, 16), (0, 10), (3, 4), (0, 16), (0, 10), (3, 4), (0, 16), (0, 10), (3, 4), (0, 16), (0, 10), (3, 4), (0, 16), (0, 10), (3, 4), (0, 16), (0, 10), (3, 4), (0, 16), (0, 10), (3, 4), (0, 16), (0, 10), (3, 4), (0, 16), (0, 10), (3, 4), (0, 16), (0, 10), (3, 4), (0, 16), (0, 10), (3, 4), (0, 16), (0, 10), (3, 4), (0, 16), (0, 10), (3, 4), (0, 16), (0, 10), (3, 4), (0, 16), (0, 10), (3, 4), (0, 16), (0, 10), (3, 4), (0, 16), (0, 10), (3, 4), (0, 16), (0, 10), (3, 4), (0, 16), (0, 10), (3, 4), (0, 16), (0, 10), (3, 4), (0, 16), (0, 10), (3, 4), (0, 16), (0, 10), (3, 4), (0, 16), (0, 10), (3, 4), (0, 16), (0, 10), (3, 4), (0, 16), (0, 10), (3, 4), (0, 16), (0, 10), (3, 4), (0, 16), (0, 10), (3, 4), (0, 16), (0, 10), (3, 4), (0, 16), (0, 10), (3, 4), (0, 16), (0, 10), (3, 4), (0, 16), (0, 10), (3, 4), (0, 16), (0, 10), (3, 4), (0, 16), (0, 10), (3, 4), (0, 16), (0, 10), (3, 4), (0, 16), (0, 10), (3, 4), (0, 16), (0, 10), (3, 4), (0, 16), (0, 10), (3, 4), (0, 16), (0, 10), (3, 4), (0, 16), (0, 10), (3, 4), (0, 16), (0, 10), (3, 4), (0, 16), (0, 10), (3, 4), (0, 16), (0, 10), (3, 4), (0, 16), (0, 10), (3, 4), (0, 16), (0, 10), (3, 4), (0, 16), (0, 10), (3, 4), (0, 16), (0, 10), (3, 4), (0, 16), (0, 10), (3, 4), (0, 16), (0, 10), (3, 4), (0, 16), (0, 10), (3, 4), (0, 16), (0, 10), (3, 4), (0, 16), (0, 10), (3, 4), (0, 16), (0, 10), (3, 4), (0, 16), (0, 10), (3, 4), (0, 16), (0, 10), (3, 4), (0, 16), (0, 10), (3, 4), (0, 16), (0, 10), (3, 4), (0, 16), (0, 10), (3, 4), (0, 16), (0, 10), (3, 4), (0, 16), (0, 10), (3, 4), (0, 16), (0, 10), (3, 4), (0, 16), (0, 10), (3, 4), (0, 16), (0, 10), (3, 4), (0, 16), (0, 10), (3, 4), (0, 16), (0, 10), (3, 4), (0, 16), (0, 10), (3, 4), (0, 16), (0, 10), (3, 4), (0, 16), (0, 10), (10, 32), (0, 200), (0, 3200), (0, 3200), (0, 3200), (0, 200), (0, 2000), (0, 2000), (0, 2000), (0, 8), (0, 10), (1, 10), (0, 8), (0, 8), (0, 8), (0, 8), (0, 8), (0, 8), (0, 64), (1, 64), (1, 8), (0, 200), (0, 10), (0, 8)]
def g_il : List (Nat × Nat) := [(9, 0), (8, 0), (0, 2), (0, 3), (4, 0), (5, 0), (6, 0), (7, 0), (10, 0), (11, 0), (12, 0), (13, 0), (14, 0), (7, 1), (10, 1), (11, 1), (0, 16), (0, 17), (12, 1), (13, 1), (14, 1), (7, 2), (10, 2), (11, 2), (1, 0), (2, 0), (3, 0), (1, 1), (2, 1), (3, 1), (1, 2), (2, 2), (3, 2), (1, 3), (2, 3), (3, 3), (1, 4), (2, 4), (3, 4), (1, 5), (2, 5), (3, 5), (1, 6), (2, 6), (3, 6), (1, 7), (2, 7), (3, 7), (1, 8), (2, 8), (3, 8), (1, 9), (2, 9), (3, 9), (1, 10), (2, 10), (3, 10), (1, 11), (2, 11), (3, 11), (0, 60), (4, 1), (5, 1), (6, 1), (7, 3), (10, 3), (11, 3), (7, 4), (10, 4), (11, 4), (1, 12), (2, 12), (3, 12), (1, 13), (2, 13), (3, 13), (1, 14), (2, 14), (3, 14), (1, 15), (2, 15), (3, 15), (1, 16), (2, 16), (3, 16), (1, 17), (2, 17), (3, 17), (1, 18), (2, 18), (3, 18), (1, 19), (2, 19), (3, 19), (1, 20), (2, 20), (3, 20), (1, 21), (2, 21), (3, 21), (1, 22), (2, 22), (3, 22), (1, 23), (2, 23), (3, 23), (1, 24), (2, 24), (3, 24), (1, 25), (2, 25), (3, 25), (1, 26), (2, 26), (3, 26), (1, 27), (2, 27), (3, 27), (1, 28), (2, 28), (3, 28), (1, 29), (2, 29), (3, 29), (1, 30), (2, 30), (3, 30), (1, 31), (2, 31), (3, 31), (1, 32), (2, 32), (3, 32), (1, 33), (2, 33), (3, 33), (1, 34), (2, 34), (3, 34), (1, 35), (2, 35), (3, 35), (1, 36), (2, 36), (3, 36), (1, 37), (2, 37), (3, 37), (1, 38), (2, 38), (3, 38), (1, 39), (2, 39), (3, 39), (1, 40), (2, 40), (3, 40), (1, 41), (2, 41), (3, 41), (1, 42), (2, 42), (3, 42), (1, 43), (2, 43), (3, 43), (1, 44), (2, 44), (3, 44), (1, 45), (2, 45), (3, 45), (1, 46), (2, 46), (3, 46), (1, 47), (2, 47), (3, 47), (1, 48), (2, 48), (3, 48), (1, 49), (2, 49), (3, 49), (1, 50), (2, 50), (3, 50), (1, 51), (2, 51), (3, 51), (1, 52), (2, 52), (3, 52), (1, 53), (2, 53), (3, 53), (1, 54), (2, 54), (3, 54), (1, 55), (2, 55), (3, 55), (1, 56), (2, 56), (3, 56), (1, 57), (2, 57), (3, 57), (1, 58), (2, 58), (3, 58), (1, 59), (2, 59), (3, 59), (1, 60), (2, 60), (3, 60), (1, 61), (2, 61), (3, 61), (1, 62), (2, 62), (3, 62), (1, 63), (2, 63), (3, 63), (1, 64), (2, 64), (3, 64), (1, 65), (2, 65), (3, 65), (1, 66), (2, 66), (3, 66), (1, 67), (2, 67), (3, 67), (1, 68), (2, 68), (3, 68), (1, 69), (2, 69), (3, 69), (1, 70), (2, 70), (3, 70), (1, 71), (2, 71), (3, 71), (1, 72), (2, 72), (3, 72), (1, 73), (2, 73), (3, 73), (1, 74), (2, 74), (3, 74), (1, 75), (2, 75), (3, 75), (1, 76), (2, 76), (3, 76), (1, 77), (2, 77), (3, 77), (1, 78), (2, 78), (3, 78), (1, 79), (2, 79), (3, 79), (1, 80), (2, 80), (3, 80), (1, 81), (2, 81), (3, 81), (1, 82), (2, 82), (3, 82), (1, 83), (2, 83), (3, 83), (0, 286), (0, 287), (0, 288), (0, 289), (0, 290), (0, 291), (0, 292), (0, 293), (0, 294), (0, 295), (0, 296), (0, 297), (0, 298), (0, 299), (0, 300), (0, 301), (0, 302), (0, 303), (0, 304), (0, 305), (0, 306), (0, 307), (0, 308), (0, 309)]
def g_inv (i : Nat) : Nat × Nat := g_il.getD i (0, i)
def g_kd0 (n : Nat) : Nat := match n with
  | 2 => 9
  | 3 => 2
  | 16 => 8
  | 17 => 2
  | 60 => 5
  | 286 => 10
  | 287 => 0
  | 288 => 0
  | 289 => 0
  | 290 => 0
  | 291 => 0
  | 292 => 0
  | 293 => 0
  | 294 => 0
  | 295 => 0
  | 296 => 0
  | 297 => 1
  | 298 => 0
  | 299 => 0
  | 300 => 0
  | 301 => 0
  | 302 => 0
  | 303 => 0
  | 304 => 0
  | 305 => 1
  | 306 => 1
  | 307 => 0
  | 308 => 0
  | 309 => 0
  | _ => 1000
def g_ln0 (n : Nat) : Nat := match n with
  | 2 => 8
  | 3 => 72
  | 16 => 8
  | 17 => 12
  | 60 => 3
  | 286 => 32
  | 287 => 200
  | 288 => 3200
  | 289 => 3200
  | 290 => 3200
  | 291 => 200
  | 292 => 2000
  | 293 => 2000
  | 294 => 2000
  | 295 => 8
  | 296 => 10
  | 297 => 10
  | 298 => 8
  | 299 => 8
  | 300 => 8
  | 301 => 8
  | 302 => 8
  | 303 => 8
  | 304 => 64
  | 305 => 64
  | 306 => 8
  | 307 => 200
  | 308 => 10
  | 309 => 8
  | _ => 0
def g_kd (q : Nat × Nat) : Nat := match q.1 with
  | 0 => g_kd0 q.2
  | 1 => 3
  | 2 => 0
  | 3 => 0
  | 4 => 4
  | 5 => 0
  | 6 => 0
  | 7 => 6
  | 10 => 0
  | 11 => 0
  | 12 => 7
  | 13 => 0
  | 14 => 0
  | _ => 1000
def g_ln (q : Nat × Nat) : Nat := match q.1 with
  | 0 => g_ln0 q.2
  | 1 => 4
  | 2 => 16
  | 3 => 10
  | 4 => 3
  | 5 => 10
  | 6 => 8
  | 7 => 3
  | 10 => 26
  | 11 => 9
  | 12 => 6
  | 13 => 8
  | 14 => 8
  | _ => 0
def g_rf0 (n k : Nat) : Nat × Nat := match n, k with
  | 2, 0 => (0, 3)
  | 2, 1 => (4, 0)
  | 2, 2 => (7, 0)
  | 2, 3 => (12, 0)
  | 2, 4 => (0, 16)
  | 2, 5 => (0, 60)
  | 16, 0 => (0, 17)
  | 16, 1 => (12, 1)
  | 60, 0 => (4, 1)
  | 60, 1 => (7, 3)
  | 60, 2 => (7, 4)
  | 286, 2 => (0, 287)
  | 286, 3 => (0, 288)
  | 286, 4 => (0, 289)
  | 286, 5 => (0, 290)
  | 286, 6 => (0, 291)
  | 286, 7 => (0, 292)
  | 286, 8 => (0, 293)
  | 286, 9 => (0, 294)
  | 286, 10 => (0, 295)
  | 286, 11 => (0, 296)
  | 286, 12 => (0, 297)
  | 286, 13 => (0, 298)
  | 286, 14 => (0, 299)
  | 286, 17 => (0, 300)
  | 286, 18 => (0, 301)
  | 286, 20 => (0, 302)
  | 286, 21 => (0, 303)
  | 286, 22 => (0, 304)
  | 286, 24 => (0, 305)
  | 286, 27 => (0, 306)
  | 286, 28 => (0, 307)
  | 286, 30 => (0, 308)
  | 286, 31 => (0, 309)
  | _, _ => (9, 0)
/-- the references that never change -/
def g_rf (q : Nat × Nat) (k : Nat) : Nat × Nat := match q.1 with
  | 0 => g_rf0 q.2 k
  | 1 => (k + 2, q.2)
  | 4 => (k + 5, q.2)
  | 7 => (k + 10, q.2)
  | 12 => match k with
    | 2 => (7, q.2 + 1)
    | _ => (k + 13, q.2)
  | _ => (9, 0)
/-- how many there are of a family -/
def g_ct (t : Nat) : Nat := match t with
  | 1 => 84
  | 2 => 84
  | 3 => 84
  | 4 => 2
  | 5 => 2
  | 6 => 2
  | 7 => 5
  | 10 => 5
  | 11 => 5
  | 12 => 2
  | 13 => 2
  | 14 => 2
  | 8 => 1
  | 9 => 1
  | _ => 0
def g_sing : List Nat := [2, 3, 16, 17, 60, 286, 287, 288, 289, 290, 291, 292, 293, 294, 295, 296, 297, 298, 299, 300, 301, 302, 303, 304, 305, 306, 307, 308, 309]
def g_ok (q : Nat × Nat) : Prop := match q.1 with
  | 0 => q.2 ∈ g_sing
  | t + 1 => q.2 < g_ct (t + 1)
def g_fo (f : Nat) : Nat := bif Nat.blt f 12 then 24 + 3 * f else 34 + 3 * f
def g_io (q : Nat × Nat) : Nat := match q.1 with
  | 0 => q.2
  | 1 => g_fo q.2
  | 2 => g_fo q.2 + 1
  | 3 => g_fo q.2 + 2
  | 4 => 4 + 57 * q.2
  | 5 => 5 + 57 * q.2
  | 6 => 6 + 57 * q.2
  | 7 => [7, 13, 21, 64, 67].getD q.2 0
  | 10 => [8, 14, 22, 65, 68].getD q.2 0
  | 11 => [9, 15, 23, 66, 69].getD q.2 0
  | 12 => 10 + 8 * q.2
  | 13 => 11 + 8 * q.2
  | 14 => 12 + 8 * q.2
  | 8 => 1
  | _ => 0
def g_iv (v : g_V) : hm_V := match v with
  | .inl i => .inl i
  | .inr q => .inr (g_io q)
/-- the references that change: the 'other' of the two Sharings (0, 1), the 'slots' of the Stepper (2) -/
def g_mr (o : Option Nat) (slots : Bool) : Nat := match o with
  | none => 0
  | some f => bif slots then 3 else g_fo f
def g_rb (M : g_M) (i k : Nat) : Nat := match (g_inv i).1, k with
  | 12, 5 => g_mr (M.2 (g_inv i).2) false
  | 0, 2 => bif Nat.beq i 16 then g_mr (M.2 2) true else bif Nat.beq i 3 then g_fo (12 + k) else bif Nat.beq i 17 then g_fo k else g_io (g_rf (g_inv i) k)
  | 0, k => bif Nat.beq i 3 then g_fo (12 + k) else bif Nat.beq i 17 then g_fo k else g_io (g_rf (g_inv i) k)
  | _, k => g_io (g_rf (g_inv i) k)
def g_ph (M : g_M) : hm_M := (g_sh, fun i k => M.1 (g_inv i).1 (g_inv i).2 k, g_rb M)
def g_mok (M : g_M) : Prop := ∀ n f, n < 2 → M.2 n = some f → f < 84
def g_va (ls st : List g_V) (M : g_M) : Prop := (∀ q, Sum.inr q ∈ ls → g_ok q) ∧ (∀ q, Sum.inr q ∈ st → g_ok q) ∧ g_mok M
def g_uA (M : g_M) (q : Nat × Nat) (k : Nat) (v : Int) : g_M := (fun t n => bif Nat.beq t q.1 && Nat.beq n q.2 then va_up (M.1 t n) k v else M.1 t n, M.2)
def g_uB (M : g_M) (n : Nat) (v : Option Nat) : g_M := (M.1, va_up M.2 n v)
def g_cp (M : g_M) (src dst : Nat × Nat) (sp dp n : Nat) : g_M := (fun t k => bif Nat.beq t dst.1 && Nat.beq k dst.2 then va_cpy (M.1 src.1 src.2) (M.1 dst.1 dst.2) sp dp n else M.1 t k, M.2)
def g_set (ls : List g_V) (i : Nat) (v : g_V) : List g_V := ls.take i ++ v :: ls.drop (i + 1)
/-- 'other' of a Sharing (class 4, field 5), 'slots' of the Stepper (class 5, field 2) -/
def g_mut (c k : Nat) : Bool := (Nat.beq c 4 && Nat.beq k 5) || (Nat.beq c 5 && Nat.beq k 2)
def g_sw (pc : Nat) (v : Int) (nx : Nat → Prop) : Int → List Int → Prop
  | _, [] => True
  | lo, o :: os => (v = lo → nx ((pc : Int) + o).toNat) ∧ g_sw pc v nx (lo + 1) os
def g_st (lw : Bool) (L : Nat) (xs : Nat → Int) (zb : Bool) (C : Nat → List g_V → g_M → g_P → Prop) (Q : g_P) (row : hm_row) (pc : Nat) (ls st : List g_V) (M : g_M) (nx : Nat → List g_V → List g_V → g_M → Prop) : Prop :=
  match row.1 with
  | .iconst n => nx (pc + 1) ls (.inl n :: st) M
  | .bipush n => nx (pc + 2) ls (.inl n :: st) M
  | .sipush n => nx (pc + 3) ls (.inl n :: st) M
  | .ldc_w _ => nx (pc + 3) ls (.inl (row.2.2.1 : Int) :: st) M
  | .aconst_null => nx (pc + 1) ls (.inr (9, 0) :: st) M
  | .iload i => match ls[i]? with | some (.inl a) => nx (pc + 2) ls (.inl a :: st) M | _ => False
  | .iload_n i => match ls[(i : Nat)]? with | some (.inl a) => nx (pc + 1) ls (.inl a :: st) M | _ => False
  | .aload i => match ls[i]? with | some (.inr a) => nx (pc + 2) ls (.inr a :: st) M | _ => False
  | .aload_n i => match ls[(i : Nat)]? with | some (.inr a) => nx (pc + 1) ls (.inr a :: st) M | _ => False
  | .istore i => match st with | .inl a :: s => (bif Nat.ble i ls.length then nx (pc + 2) (g_set ls i (.inl a)) s M else False) | _ => False
  | .istore_n i => match st with | .inl a :: s => (bif Nat.ble (i : Nat) ls.length then nx (pc + 1) (g_set ls (i : Nat) (.inl a)) s M else False) | _ => False
  | .astore i => match st with | .inr a :: s => (bif Nat.ble i ls.length then nx (pc + 2) (g_set ls i (.inr a)) s M else False) | _ => False
  | .astore_n i => match st with | .inr a :: s => (bif Nat.ble (i : Nat) ls.length then nx (pc + 1) (g_set ls (i : Nat) (.inr a)) s M else False) | _ => False
  | .iinc i n => match ls[i]? with | some (.inl a) => hm_in (a + n) ∧ nx (pc + 3) (g_set ls i (.inl (a + n))) st M | _ => False
  | .iadd => match st with | .inl b :: .inl a :: s => hm_in (a + b) ∧ nx (pc + 1) ls (.inl (a + b) :: s) M | _ => False
  | .isub => match st with | .inl b :: .inl a :: s => hm_in (a - b) ∧ nx (pc + 1) ls (.inl (a - b) :: s) M | _ => False
  | .imul => match st with | .inl b :: .inl a :: s => hm_in (a * b) ∧ nx (pc + 1) ls (.inl (a * b) :: s) M | _ => False
  | .idiv => match st with | .inl b :: .inl a :: s => (0 ≤ a ∧ 0 < b) ∧ nx (pc + 1) ls (.inl (a / b) :: s) M | _ => False
  | .irem => match st with | .inl b :: .inl a :: s => (0 ≤ a ∧ 0 < b) ∧ nx (pc + 1) ls (.inl (a % b) :: s) M | _ => False
  | .iand => match st with | .inl b :: .inl a :: s => nx (pc + 1) ls (.inl (hm_and a b) :: s) M | _ => False
  | .ior => match st with | .inl b :: .inl a :: s => nx (pc + 1) ls (.inl (hm_or a b) :: s) M | _ => False
  | .ixor => match st with | .inl b :: .inl a :: s => nx (pc + 1) ls (.inl (hm_xor a b) :: s) M | _ => False
  | .ishl => match st with | .inl b :: .inl a :: s => nx (pc + 1) ls (.inl (hm_shl a b) :: s) M | _ => False
  | .ishr => match st with | .inl b :: .inl a :: s => nx (pc + 1) ls (.inl (hm_shr a b) :: s) M | _ => False
  | .iushr => match st with | .inl b :: .inl a :: s => nx (pc + 1) ls (.inl (hm_ush a b) :: s) M | _ => False
  | .if_icmp c _ => match st with | .inl b :: .inl a :: s => (hm_cmp c a b → nx row.2.2.1 ls s M) ∧ (hm_cmn c a b → nx (pc + 3) ls s M) | _ => False
  | .ifCond c _ => match st with | .inl a :: s => (hm_cmp c a 0 → nx row.2.2.1 ls s M) ∧ (hm_cmn c a 0 → nx (pc + 3) ls s M) | _ => False
  | .ifnull _ => match st with | .inr r :: s => (bif Nat.beq r.1 9 then nx row.2.2.1 ls s M else nx (pc + 3) ls s M) | _ => False
  | .goto _ => nx row.2.2.1 ls st M
  | .dup => match st with | v :: s => nx (pc + 1) ls (v :: v :: s) M | _ => False
  | .dup2 => match st with | v :: w :: s => nx (pc + 1) ls (v :: w :: v :: w :: s) M | _ => False
  | .pop => match st with | _ :: s => nx (pc + 1) ls s M | _ => False
  | .tableswitch _ lo hi offs => match st with | .inl v :: s => ((v < lo ∨ hi < v) → nx row.2.2.1 ls s M) ∧ g_sw pc v (fun q => nx q ls s M) lo offs.toList | _ => False
  | .getfield _ => match st with | .inr r :: s => (bif Nat.beq (g_kd r) (row.2.2.1 + 3) then (bif hm_isr row.2.2.1 row.2.2.2.1 then (bif g_mut row.2.2.1 row.2.2.2.1 then (bif Nat.beq row.2.2.1 5 then (M.2 2 = none → nx (pc + 3) ls (.inr (9, 0) :: s) M) ∧ (∀ f, M.2 2 = some f → nx (pc + 3) ls (.inr (0, 3) :: s) M) else (M.2 r.2 = none → nx (pc + 3) ls (.inr (9, 0) :: s) M) ∧ (∀ f, M.2 r.2 = some f → nx (pc + 3) ls (.inr (1, f) :: s) M)) else nx (pc + 3) ls (.inr (g_rf r row.2.2.2.1) :: s) M) else nx (pc + 3) ls (.inl (M.1 r.1 r.2 row.2.2.2.1) :: s) M) else False) | _ => False
  | .putfield _ => bif hm_isr row.2.2.1 row.2.2.2.1 then (match st with | .inr v :: .inr r :: s => (bif Nat.beq (g_kd r) (row.2.2.1 + 3) && g_mut row.2.2.1 row.2.2.2.1 then (bif Nat.beq row.2.2.1 5 then (bif Nat.beq v.1 0 && Nat.beq v.2 3 then nx (pc + 3) ls s (g_uB M 2 (some 0)) else False) else (bif Nat.beq v.1 9 then nx (pc + 3) ls s (g_uB M r.2 none) else (bif Nat.beq v.1 1 then nx (pc + 3) ls s (g_uB M r.2 (some v.2)) else False))) else False) | _ => False) else (match st with | .inl v :: .inr r :: s => (bif Nat.beq (g_kd r) (row.2.2.1 + 3) then nx (pc + 3) ls s (g_uA M r row.2.2.2.1 v) else False) | _ => False)
  | .iaload => match st with | .inl i :: .inr r :: s => (bif lw then (bif Nat.beq r.1 8 then (0 ≤ i ∧ i < (L : Int)) ∧ nx (pc + 1) ls (.inl (xs i.toNat) :: s) M else False) else (bif Nat.beq (g_kd r) 0 then (0 ≤ i ∧ i < (g_ln r : Int)) ∧ nx (pc + 1) ls (.inl (M.1 r.1 r.2 i.toNat) :: s) M else False)) | _ => False
  | .baload => match st with | .inl i :: .inr r :: s => (bif Nat.beq (g_kd r) 1 then (0 ≤ i ∧ i < (g_ln r : Int)) ∧ nx (pc + 1) ls (.inl (M.1 r.1 r.2 i.toNat) :: s) M else False) | _ => False
  | .aaload => match st with | .inl i :: .inr r :: s => (bif Nat.beq r.1 0 && Nat.beq r.2 3 then (0 ≤ i ∧ i < 72) ∧ nx (pc + 1) ls (.inr (1, 12 + i.toNat) :: s) M else (bif Nat.beq r.1 0 && Nat.beq r.2 17 then (0 ≤ i ∧ i < 12) ∧ nx (pc + 1) ls (.inr (1, i.toNat) :: s) M else False)) | _ => False
  | .iastore => match st with | .inl v :: .inl i :: .inr r :: s => (bif Nat.beq (g_kd r) 0 then (0 ≤ i ∧ i < (g_ln r : Int)) ∧ nx (pc + 1) ls s (g_uA M r i.toNat v) else False) | _ => False
  | .bastore => match st with | .inl v :: .inl i :: .inr r :: s => (bif Nat.beq (g_kd r) 1 then (0 ≤ i ∧ i < (g_ln r : Int) ∧ 0 ≤ v ∧ v ≤ 1) ∧ nx (pc + 1) ls s (g_uA M r i.toNat v) else False) | _ => False
  | .arraylength => match st with | .inr r :: s => (bif lw then (bif Nat.beq r.1 8 then nx (pc + 1) ls (.inl (L : Int) :: s) M else False) else (bif Nat.blt (g_kd r) 3 then nx (pc + 1) ls (.inl (g_ln r : Int) :: s) M else False)) | _ => False
  | .invokevirtual _ => match st.drop row.2.2.2.1 with | .inr r :: s => (bif Nat.ble s.length 8 && Nat.beq (g_kd r) (row.2.2.2.2 + 3) then C row.2.2.1 (.inr r :: (st.take row.2.2.2.1).reverse) M (fun q M' => nx (pc + 3) ls (q ++ s) M') else False) | _ => False
  | .invokestatic _ => bif row.2.2.1 == 999 then (match st with | .inl n :: .inl dp :: .inr dst :: .inl sp :: .inr src :: s => (bif Nat.ble s.length 8 && Nat.beq (g_kd src) 0 && Nat.beq (g_kd dst) 0 then (0 ≤ sp ∧ 0 ≤ dp ∧ 0 ≤ n ∧ sp + n ≤ (g_ln src : Int) ∧ dp + n ≤ (g_ln dst : Int)) ∧ nx (pc + 3) ls s (g_cp M src dst sp.toNat dp.toNat n.toNat) else False) | _ => False)
      else bif row.2.2.1 == 997 then (match st with | .inl b :: .inl a :: s => (bif Nat.ble s.length 8 then nx (pc + 3) ls (.inl (max a b) :: s) M else False) | _ => False)
      else (bif Nat.ble (st.drop row.2.2.2.1).length 8 && Nat.ble row.2.2.2.1 st.length then C row.2.2.1 (st.take row.2.2.2.1).reverse M (fun q M' => nx (pc + 3) ls (q ++ st.drop row.2.2.2.1) M') else False)
  | .ireturn => match st with | [.inl v] => (bif zb then (0 ≤ v ∧ v ≤ 1) ∧ Q [.inl v] M else Q [.inl v] M) | _ => False
  | .return_ => match st with | [] => Q [] M | _ => False
  | _ => False
/-- some instructions, up to a stop (where so many locals are kept) or the end of the fuel -/
def g_wp (T : List (Nat × hm_row)) (sp : Nat → Option Nat) (lw : Bool) (L : Nat) (xs : Nat → Int) (zb : Bool) (C : Nat → List g_V → g_M → g_P → Prop) (Q : g_P) (K : Nat → List g_V → List g_V → g_M → Prop) : Nat → Nat → List g_V → List g_V → g_M → Prop
  | 0, pc, ls, st, M => K pc ls st M
  | n + 1, pc, ls, st, M => match hm_find T pc with
    | none => False
    | some row => g_st lw L xs zb C Q row pc ls st M (fun pc' ls' st' M' => match sp pc' with
      | some k => K pc' (ls'.take k) st' M'
      | none => g_wp T sp lw L xs zb C Q K n pc' ls' st' M')
/-! the two machines' objects -/
theorem g_inv_ck : (List.range 310).all (fun i => g_io (g_inv i) == i) = true := by decide +kernel
theorem g_il_len : g_il.length = 310 := by decide +kernel
theorem g_nbeq {a b : Nat} (h : a ≠ b) : Nat.beq a b = false := by
  cases hb : Nat.beq a b with
  | false => rfl
  | true => exact absurd (Nat.eq_of_beq_eq_true hb) h
theorem g_io_inv (i : Nat) : g_io (g_inv i) = i := by
  rcases Nat.lt_or_ge i 310 with h | h
  · have := List.all_eq_true.mp g_inv_ck i (List.mem_range.mpr h)
    simpa using this
  · have e : g_inv i = (0, i) := by
      unfold g_inv
      rw [List.getD_eq_getElem?_getD, List.getElem?_eq_none (by rw [g_il_len]; exact h)]
      rfl
    rw [e]
    rfl
def g_all (t : Nat) : List (Nat × Nat) := match t with
  | 0 => g_sing.map (fun n => (0, n))
  | t + 1 => (List.range (g_ct (t + 1))).map (fun n => (t + 1, n))
theorem g_ok_all {q : Nat × Nat} (h : g_ok q) : q ∈ g_all q.1 := by
  obtain ⟨t, n⟩ := q
  cases t with
  | zero => exact List.mem_map.mpr ⟨n, h, rfl⟩
  | succ t => exact List.mem_map.mpr ⟨n, List.mem_range.mpr h, rfl⟩
theorem g_ok_tag {q : Nat × Nat} (h : g_ok q) : q.1 < 15 := by
  obtain ⟨t, n⟩ := q
  rcases Nat.lt_or_ge t 15 with h1 | h1
  · exact h1
  · obtain ⟨k, rfl⟩ : ∃ k, t = k + 15 := ⟨t - 15, by omega⟩
    have h2 : n < g_ct (k + 15) := h
    have h3 : g_ct (k + 15) = 0 := rfl
    omega
/-- a thing that holds of all references there are -/
theorem g_every {P : Nat × Nat → Bool} (h : (List.range 15).all (fun t => (g_all t).all P) = true) {q : Nat × Nat} (hq : g_ok q) : P q = true :=
  List.all_eq_true.mp (List.all_eq_true.mp h q.1 (List.mem_range.mpr (g_ok_tag hq))) q (g_ok_all hq)
theorem g_inv_io {q : Nat × Nat} (h : g_ok q) : g_inv (g_io q) = q := by
  have := g_every (P := fun q => g_inv (g_io q) == q) (by decide +kernel) h
  simpa using this
theorem g_shape {q : Nat × Nat} (h : g_ok q) : g_sh.getD (g_io q) (1000, 0) = (g_kd q, g_ln q) := by
  have := g_every (P := fun q => g_sh.getD (g_io q) (1000, 0) == (g_kd q, g_ln q)) (by decide +kernel) h
  simpa using this
theorem g_ph_kd {M : g_M} {q : Nat × Nat} (h : g_ok q) : hm_kd (g_ph M) (g_io q) = g_kd q := by
  show (g_sh.getD (g_io q) (1000, 0)).1 = _
  rw [g_shape h]
theorem g_ph_ln {M : g_M} {q : Nat × Nat} (h : g_ok q) : hm_ln (g_ph M) (g_io q) = g_ln q := by
  show (g_sh.getD (g_io q) (1000, 0)).2 = _
  rw [g_shape h]
theorem g_ph_A {M : g_M} {q : Nat × Nat} (h : g_ok q) (k : Nat) : (g_ph M).2.1 (g_io q) k = M.1 q.1 q.2 k := by
  show M.1 (g_inv (g_io q)).1 (g_inv (g_io q)).2 k = _
  rw [g_inv_io h]
theorem g_beq2 {t n : Nat} {q : Nat × Nat} : (Nat.beq t q.1 && Nat.beq n q.2) = decide ((t, n) = q) := by
  obtain ⟨a, b⟩ := q
  by_cases h : (t, n) = (a, b)
  · have h1 : t = a := congrArg Prod.fst h
    have h2 : n = b := congrArg Prod.snd h
    subst h1; subst h2
    simp
  · have : ¬ (t = a ∧ n = b) := fun h1 => h (by rw [h1.1, h1.2])
    simp only [decide_eq_false h, Bool.and_eq_false_iff]
    by_cases h1 : t = a
    · right
      have h2 : n ≠ b := fun h2 => this ⟨h1, h2⟩
      exact g_nbeq h2
    · left
      exact g_nbeq h1
theorem g_ph_rb (M M' : g_M) (h : M'.2 = M.2) : g_rb M' = g_rb M := by
  funext i k
  unfold g_rb
  rw [h]
theorem g_ph_uA {M : g_M} {q : Nat × Nat} (h : g_ok q) (k : Nat) (v : Int) : hm_uA (g_ph M) (g_io q) k v = g_ph (g_uA M q k v) := by
  unfold hm_uA
  refine Prod.ext rfl (Prod.ext ?_ ?_)
  · funext i
    show va_up (g_ph M).2.1 (g_io q) (va_up ((g_ph M).2.1 (g_io q)) k v) i = fun z => (g_uA M q k v).1 (g_inv i).1 (g_inv i).2 z
    by_cases hi : i = g_io q
    · subst hi
      rw [g_inv_io h]
      have e1 : (g_uA M q k v).1 q.1 q.2 = va_up (M.1 q.1 q.2) k v := by
        show (bif Nat.beq q.1 q.1 && Nat.beq q.2 q.2 then va_up (M.1 q.1 q.2) k v else M.1 q.1 q.2) = _
        simp
      rw [e1]
      funext z
      simp only [va_up, if_true, g_ph_A h]
    · have e1 : (g_uA M q k v).1 (g_inv i).1 (g_inv i).2 = M.1 (g_inv i).1 (g_inv i).2 := by
        show (bif Nat.beq (g_inv i).1 q.1 && Nat.beq (g_inv i).2 q.2 then va_up (M.1 (g_inv i).1 (g_inv i).2) k v else M.1 (g_inv i).1 (g_inv i).2) = _
        rw [g_beq2, decide_eq_false (fun e => hi (by rw [← g_io_inv i]; exact congrArg g_io e))]
        rfl
      rw [e1]
      simp only [va_up, hi, if_false]
      rfl
  · exact (g_ph_rb M (g_uA M q k v) rfl).symm
theorem g_ph_cp {M : g_M} {a b : Nat × Nat} (ha : g_ok a) (hb : g_ok b) (sp dp n : Nat) : hm_cp (g_ph M) (g_io a) (g_io b) sp dp n = g_ph (g_cp M a b sp dp n) := by
  unfold hm_cp
  refine Prod.ext rfl (Prod.ext ?_ ?_)
  · funext i
    show va_up (g_ph M).2.1 (g_io b) (va_cpy ((g_ph M).2.1 (g_io a)) ((g_ph M).2.1 (g_io b)) sp dp n) i = fun z => (g_cp M a b sp dp n).1 (g_inv i).1 (g_inv i).2 z
    by_cases hi : i = g_io b
    · subst hi
      rw [g_inv_io hb]
      have e1 : (g_cp M a b sp dp n).1 b.1 b.2 = va_cpy (M.1 a.1 a.2) (M.1 b.1 b.2) sp dp n := by
        show (bif Nat.beq b.1 b.1 && Nat.beq b.2 b.2 then va_cpy (M.1 a.1 a.2) (M.1 b.1 b.2) sp dp n else M.1 b.1 b.2) = _
        simp
      rw [e1]
      funext z
      simp only [va_up, if_true, va_cpy, g_ph_A ha, g_ph_A hb]
    · have e1 : (g_cp M a b sp dp n).1 (g_inv i).1 (g_inv i).2 = M.1 (g_inv i).1 (g_inv i).2 := by
        show (bif Nat.beq (g_inv i).1 b.1 && Nat.beq (g_inv i).2 b.2 then va_cpy (M.1 a.1 a.2) (M.1 b.1 b.2) sp dp n else M.1 (g_inv i).1 (g_inv i).2) = _
        rw [g_beq2, decide_eq_false (fun e => hi (by rw [← g_io_inv i]; exact congrArg g_io e))]
        rfl
      rw [e1]
      simp only [va_up, hi, if_false]
      rfl
  · exact (g_ph_rb M (g_cp M a b sp dp n) rfl).symm

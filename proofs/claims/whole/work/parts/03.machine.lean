/-! THE SMALL MACHINE: ints are Int, references are numbers (0 null, 1 the script, k from 2 on the object made k-th); a memory is shapes, ints, references -/
abbrev hm_V : Type := Int ⊕ Nat
abbrev hm_M : Type := List (Nat × Nat) × (Nat → Nat → Int) × (Nat → Nat → Nat)
abbrev hm_E : Type := va_G × (ClassId × ClassId × ClassId) × Nat × Nat
def hm_in (i : Int) : Prop := -2147483648 ≤ i ∧ i < 2147483648
def hm_kd (M : hm_M) (r : Nat) : Nat := (M.1.getD r (1000, 0)).1
def hm_ln (M : hm_M) (r : Nat) : Nat := (M.1.getD r (1000, 0)).2
def hm_sl (M : hm_M) : Nat := (M.1.map Prod.snd).sum
def hm_rf (E : hm_E) (r : Nat) : Option Nat := match r with
  | 0 => none
  | 1 => some E.2.2.1
  | k + 2 => some (E.2.2.2 + k)
def hm_tr (E : hm_E) (v : hm_V) : Value := match v with
  | .inl i => .int (Int32.ofInt i)
  | .inr r => va_rf (hm_rf E r)
def hm_fv (E : hm_E) (c : Nat) (f : Nat → Int) (g : Nat → Nat) (k : Nat) : Value := bif hm_isr c k then va_rf (hm_rf E (g k)) else .int (Int32.ofInt (f k))
def hm_ent (E : hm_E) (q : Nat × Nat) (f : Nat → Int) (g : Nat → Nat) : va_E := match q.1 with
  | 0 => .inl (E.2.1.1, q.2, .inl (fun j => Int32.ofInt (f j)))
  | 1 => .inl (E.2.1.2.1, q.2, .inl (fun j => Int32.ofInt (f j)))
  | 2 => .inl (E.2.1.2.2, q.2, .inr (.inr (.inr (.inr (fun j => hm_rf E (g j))))))
  | c + 3 => .inr (c, (List.range q.2).map (hm_fv E c f g))
def hm_wd (E : hm_E) (M : hm_M) : va_W := (List.range (M.1.length - 2)).map (fun i => (E.2.2.2 + i, hm_ent E (M.1.getD (i + 2) (1000, 0)) (M.2.1 (i + 2)) (M.2.2 (i + 2))))
/-- objects have as many fields as their class says -/
def hm_wf (M : hm_M) : Prop := (∀ r, r < 2 → hm_kd M r = 1000) ∧ ∀ r c, hm_kd M r = c + 3 → 2 ≤ r → r < M.1.length → c < 8 ∧ hm_ln M r = hm_N c
def hm_ho (E : hm_E) (M : hm_M) (H : Heap) : Prop := 2 ≤ M.1.length ∧ H.size + 2 = E.2.2.2 + M.1.length ∧ hm_wf M ∧ va_P E.1 hm_cl (hm_wd E M) H
def hm_rg (ls st : List hm_V) (M : hm_M) : Prop := (∀ i, Sum.inl i ∈ ls → hm_in i) ∧ (∀ i, Sum.inl i ∈ st → hm_in i) ∧ ∀ r k, hm_in (M.2.1 r k)
def hm_LH (E : hm_E) (la : Array Slot) (nL : Nat) (ls : List hm_V) : Prop := la.size = nL ∧ lv_wf la ∧ ∀ (k : Nat) (v : hm_V), ls[k]? = some v → la[k]? = some (Slot.val (hm_tr E v))
def hm_tys (E : hm_E) : List (ClassId × FieldType) := [(E.2.1.1, .int), (E.2.1.2.1, .boolean), (E.2.1.2.2, .object (hm_nm 0))]
def hm_Kx (E : hm_E) (U : State) : Prop := va_K E.1 hm_cl (hm_tys E) U ∧ (∀ w ∈ hm_nest, va_Nw w U) ∧ va_AO (hm_nm 0) U
/-! changes of a memory -/
def hm_uA (M : hm_M) (r k : Nat) (v : Int) : hm_M := (M.1, va_up M.2.1 r (va_up (M.2.1 r) k v), M.2.2)
def hm_uB (M : hm_M) (r k v : Nat) : hm_M := (M.1, M.2.1, va_up M.2.2 r (va_up (M.2.2 r) k v))
def hm_nw (M : hm_M) (kd n : Nat) : hm_M := (M.1 ++ [(kd, n)], va_up M.2.1 M.1.length (fun _ => 0), va_up M.2.2 M.1.length (fun _ => 0))
def hm_cp (M : hm_M) (src dst sp dp n : Nat) : hm_M := (M.1, va_up M.2.1 dst (va_cpy (M.2.1 src) (M.2.1 dst) sp dp n), M.2.2)
def hm_set (ls : List hm_V) (i : Nat) (v : hm_V) : List hm_V := ls.take i ++ v :: ls.drop (i + 1)
def hm_and (a b : Int) : Int := (Int32.ofInt a &&& Int32.ofInt b).toInt
def hm_or (a b : Int) : Int := (Int32.ofInt a ||| Int32.ofInt b).toInt
def hm_xor (a b : Int) : Int := (Int32.ofInt a ^^^ Int32.ofInt b).toInt
def hm_shl (a b : Int) : Int := (Int32.ofInt a <<< (Int32.ofInt b &&& 31)).toInt
def hm_shr (a b : Int) : Int := (Int32.ofInt a >>> (Int32.ofInt b &&& 31)).toInt
def hm_ush (a b : Int) : Int := ((Int32.ofInt a).toUInt32 >>> ((Int32.ofInt b).toUInt32 &&& Int32.toUInt32 31)).toInt32.toInt
def hm_cmp (c : Jvm.ClassFile.Cond) (a b : Int) : Prop := match c with
  | .eq => a = b
  | .ne => ¬ a = b
  | .lt => a < b
  | .ge => b ≤ a
  | .gt => b < a
  | .le => a ≤ b
def hm_cmn (c : Jvm.ClassFile.Cond) (a b : Int) : Prop := match c with
  | .eq => ¬ a = b
  | .ne => a = b
  | .lt => b ≤ a
  | .ge => a < b
  | .gt => a ≤ b
  | .le => b < a
abbrev hm_row : Type := Instr × Nat × Nat × Nat × Nat
abbrev hm_P : Type := List hm_V → hm_M → Prop
def hm_sw (pc : Nat) (v : Int) (nx : Nat → Prop) : Int → List Int → Prop
  | _, [] => True
  | lo, o :: os => (v = lo → nx ((pc : Int) + o).toNat) ∧ hm_sw pc v nx (lo + 1) os
/-- one instruction: what must hold for it to be carried out, and what comes next; (ins, length, x, y, w) -/
def hm_st (lw : Bool) (L : Nat) (xs : Nat → Int) (zb : Bool) (cap : Nat × Nat) (C : Nat → List hm_V → hm_M → hm_P → Prop) (Q : hm_P) (row : hm_row) (pc : Nat) (ls st : List hm_V) (M : hm_M) (nx : Nat → List hm_V → List hm_V → hm_M → Prop) : Prop :=
  match row.1 with
  | .iconst n => nx (pc + 1) ls (.inl n :: st) M
  | .bipush n => nx (pc + 2) ls (.inl n :: st) M
  | .sipush n => nx (pc + 3) ls (.inl n :: st) M
  | .ldc_w _ => nx (pc + 3) ls (.inl (row.2.2.1 : Int) :: st) M
  | .aconst_null => nx (pc + 1) ls (.inr 0 :: st) M
  | .iload i => match ls[i]? with | some (.inl a) => nx (pc + 2) ls (.inl a :: st) M | _ => False
  | .iload_n i => match ls[(i : Nat)]? with | some (.inl a) => nx (pc + 1) ls (.inl a :: st) M | _ => False
  | .aload i => match ls[i]? with | some (.inr a) => nx (pc + 2) ls (.inr a :: st) M | _ => False
  | .aload_n i => match ls[(i : Nat)]? with | some (.inr a) => nx (pc + 1) ls (.inr a :: st) M | _ => False
  | .istore i => match st with | .inl a :: s => (bif Nat.ble i ls.length then nx (pc + 2) (hm_set ls i (.inl a)) s M else False) | _ => False
  | .istore_n i => match st with | .inl a :: s => (bif Nat.ble (i : Nat) ls.length then nx (pc + 1) (hm_set ls (i : Nat) (.inl a)) s M else False) | _ => False
  | .astore i => match st with | .inr a :: s => (bif Nat.ble i ls.length then nx (pc + 2) (hm_set ls i (.inr a)) s M else False) | _ => False
  | .astore_n i => match st with | .inr a :: s => (bif Nat.ble (i : Nat) ls.length then nx (pc + 1) (hm_set ls (i : Nat) (.inr a)) s M else False) | _ => False
  | .iinc i n => match ls[i]? with | some (.inl a) => hm_in (a + n) ∧ nx (pc + 3) (hm_set ls i (.inl (a + n))) st M | _ => False
  | .iadd => match st with | .inl b :: .inl a :: s => hm_in (a + b) ∧ nx (pc + 1) ls (.inl (a + b) :: s) M | _ => False
  | .isub => match st with | .inl b :: .inl a :: s => hm_in (a - b) ∧ nx (pc + 1) ls (.inl (a - b) :: s) M | _ => False
  | .imul => match st with | .inl b :: .inl a :: s => hm_in (a * b) ∧ nx (pc + 1) ls (.inl (a * b) :: s) M | _ => False
  | .idiv => match st with | .inl b :: .inl a :: s => (0 ≤ a ∧ 0 < b) ∧ nx (pc + 1) ls (.inl (a / b) :: s) M | _ => False
  | .irem => match st with | .inl b :: .inl a :: s => (0 ≤ a ∧ 0 < b) ∧ nx (pc + 1) ls (.inl (a % b) :: s) M | _ => False
  | .iand => match st with | .inl b :: .inl a :: s => nx (pc + 1) ls (.inl (hm_and a b) :: s) M | _ => False
  | .ior => match st with | .inl b :: .inl a :: s => nx (pc + 1) ls (.inl (hm_or a b) :: s) M | _ => False
  | .ixor => match st with | .inl b :: .inl a :: s => nx (pc + 1) ls (.inl (hm_xor a b) :: s) M | _ => False
  | .ishl => match st with | .inl b :: .inl a :: s => nx (pc + 1) ls (.inl (hm_shl a b) :: s) M | _ => False
  | .ishr => match st with | .inl b :: .inl a :: s => nx (pc + 1) ls (.inl (hm_shr a b) :: s) M | _ => False
  | .iushr => match st with | .inl b :: .inl a :: s => nx (pc + 1) ls (.inl (hm_ush a b) :: s) M | _ => False
  | .if_icmp c _ => match st with | .inl b :: .inl a :: s => (hm_cmp c a b → nx row.2.2.1 ls s M) ∧ (hm_cmn c a b → nx (pc + 3) ls s M) | _ => False
  | .ifCond c _ => match st with | .inl a :: s => (hm_cmp c a 0 → nx row.2.2.1 ls s M) ∧ (hm_cmn c a 0 → nx (pc + 3) ls s M) | _ => False
  | .ifnull _ => match st with | .inr r :: s => (r = 0 → nx row.2.2.1 ls s M) ∧ (¬ r = 0 → nx (pc + 3) ls s M) | _ => False
  | .goto _ => nx row.2.2.1 ls st M
  | .dup => match st with | v :: s => nx (pc + 1) ls (v :: v :: s) M | _ => False
  | .dup2 => match st with | v :: w :: s => nx (pc + 1) ls (v :: w :: v :: w :: s) M | _ => False
  | .pop => match st with | _ :: s => nx (pc + 1) ls s M | _ => False
  | .tableswitch _ lo hi offs => match st with | .inl v :: s => ((v < lo ∨ hi < v) → nx row.2.2.1 ls s M) ∧ hm_sw pc v (fun q => nx q ls s M) lo offs.toList | _ => False
  | .getfield _ => match st with | .inr r :: s => hm_kd M r = row.2.2.1 + 3 ∧ (bif hm_isr row.2.2.1 row.2.2.2.1 then nx (pc + 3) ls (.inr (M.2.2 r row.2.2.2.1) :: s) M else nx (pc + 3) ls (.inl (M.2.1 r row.2.2.2.1) :: s) M) | _ => False
  | .putfield _ => bif hm_isr row.2.2.1 row.2.2.2.1 then (match st with | .inr v :: .inr r :: s => hm_kd M r = row.2.2.1 + 3 ∧ nx (pc + 3) ls s (hm_uB M r row.2.2.2.1 v) | _ => False) else (match st with | .inl v :: .inr r :: s => hm_kd M r = row.2.2.1 + 3 ∧ nx (pc + 3) ls s (hm_uA M r row.2.2.2.1 v) | _ => False)
  | .iaload => match st with | .inl i :: .inr r :: s => (bif lw then (r = 1 ∧ 0 ≤ i ∧ i < (L : Int)) ∧ nx (pc + 1) ls (.inl (xs i.toNat) :: s) M else (hm_kd M r = 0 ∧ 0 ≤ i ∧ i < (hm_ln M r : Int)) ∧ nx (pc + 1) ls (.inl (M.2.1 r i.toNat) :: s) M) | _ => False
  | .baload => match st with | .inl i :: .inr r :: s => (hm_kd M r = 1 ∧ 0 ≤ i ∧ i < (hm_ln M r : Int)) ∧ nx (pc + 1) ls (.inl (M.2.1 r i.toNat) :: s) M | _ => False
  | .aaload => match st with | .inl i :: .inr r :: s => (hm_kd M r = 2 ∧ 0 ≤ i ∧ i < (hm_ln M r : Int)) ∧ nx (pc + 1) ls (.inr (M.2.2 r i.toNat) :: s) M | _ => False
  | .iastore => match st with | .inl v :: .inl i :: .inr r :: s => (hm_kd M r = 0 ∧ 0 ≤ i ∧ i < (hm_ln M r : Int)) ∧ nx (pc + 1) ls s (hm_uA M r i.toNat v) | _ => False
  | .bastore => match st with | .inl v :: .inl i :: .inr r :: s => (hm_kd M r = 1 ∧ 0 ≤ i ∧ i < (hm_ln M r : Int) ∧ 0 ≤ v ∧ v ≤ 1) ∧ nx (pc + 1) ls s (hm_uA M r i.toNat v) | _ => False
  | .aastore => match st with | .inr v :: .inl i :: .inr r :: s => (hm_kd M r = 2 ∧ 0 ≤ i ∧ i < (hm_ln M r : Int) ∧ hm_kd M v = 3) ∧ nx (pc + 1) ls s (hm_uB M r i.toNat v) | _ => False
  | .arraylength => match st with | .inr r :: s => (bif lw then r = 1 ∧ nx (pc + 1) ls (.inl (L : Int) :: s) M else (hm_kd M r < 3 ∧ hm_ln M r < 2147483648) ∧ nx (pc + 1) ls (.inl (hm_ln M r : Int) :: s) M) | _ => False
  | .newarray _ => match st with | .inl n :: s => (0 ≤ n ∧ n ≤ 100000 ∧ M.1.length + 1 ≤ cap.1 ∧ hm_sl M + n.toNat ≤ cap.2) ∧ nx (pc + 2) ls (.inr M.1.length :: s) (hm_nw M row.2.2.1 n.toNat) | _ => False
  | .anewarray _ => match st with | .inl n :: s => (0 ≤ n ∧ n ≤ 100000 ∧ M.1.length + 1 ≤ cap.1 ∧ hm_sl M + n.toNat ≤ cap.2) ∧ nx (pc + 3) ls (.inr M.1.length :: s) (hm_nw M 2 n.toNat) | _ => False
  | .new _ => (M.1.length + 1 ≤ cap.1 ∧ hm_sl M + hm_N row.2.2.1 ≤ cap.2) ∧ nx (pc + 3) ls (.inr M.1.length :: st) (hm_nw M (row.2.2.1 + 3) (hm_N row.2.2.1))
  | .invokespecial _ => bif row.2.2.1 == 998 then (match st with | .inr r :: s => 2 ≤ r ∧ (bif Nat.ble s.length 8 then nx (pc + 3) ls s M else False) | _ => False)
      else (match st.drop row.2.2.2.1 with | .inr r :: s => (bif Nat.ble s.length 8 then hm_kd M r = row.2.2.2.2 + 3 ∧ (M.1.length + hm_mc row.2.2.1 ≤ cap.1 ∧ hm_sl M + hm_ms row.2.2.1 ≤ cap.2) ∧ C row.2.2.1 (.inr r :: (st.take row.2.2.2.1).reverse) M (fun q M' => nx (pc + 3) ls (q ++ s) M') else False) | _ => False)
  | .invokevirtual _ => match st.drop row.2.2.2.1 with | .inr r :: s => (bif Nat.ble s.length 8 then hm_kd M r = row.2.2.2.2 + 3 ∧ C row.2.2.1 (.inr r :: (st.take row.2.2.2.1).reverse) M (fun q M' => nx (pc + 3) ls (q ++ s) M') else False) | _ => False
  | .invokestatic _ => bif row.2.2.1 == 999 then (match st with | .inl n :: .inl dp :: .inr dst :: .inl sp :: .inr src :: s => (bif Nat.ble s.length 8 then (hm_kd M src = 0 ∧ hm_kd M dst = 0 ∧ 0 ≤ sp ∧ 0 ≤ dp ∧ 0 ≤ n ∧ sp + n ≤ (hm_ln M src : Int) ∧ dp + n ≤ (hm_ln M dst : Int)) ∧ nx (pc + 3) ls s (hm_cp M src dst sp.toNat dp.toNat n.toNat) else False) | _ => False)
      else bif row.2.2.1 == 997 then (match st with | .inl b :: .inl a :: s => (bif Nat.ble s.length 8 then nx (pc + 3) ls (.inl (max a b) :: s) M else False) | _ => False)
      else (bif Nat.ble (st.drop row.2.2.2.1).length 8 && Nat.ble row.2.2.2.1 st.length then C row.2.2.1 (st.take row.2.2.2.1).reverse M (fun q M' => nx (pc + 3) ls (q ++ st.drop row.2.2.2.1) M') else False)
  | .ireturn => match st with | [.inl v] => (bif zb then (0 ≤ v ∧ v ≤ 1) ∧ Q [.inl v] M else Q [.inl v] M) | _ => False
  | .return_ => match st with | [] => Q [] M | _ => False
  | _ => False
/-- some instructions, up to a stop (where so many locals are kept) or the end of the fuel -/
def hm_wp (T : Nat → Option hm_row) (sp : Nat → Option Nat) (lw : Bool) (L : Nat) (xs : Nat → Int) (zb : Bool) (cap : Nat × Nat) (C : Nat → List hm_V → hm_M → hm_P → Prop) (Q : hm_P) (K : Nat → List hm_V → List hm_V → hm_M → Prop) : Nat → Nat → List hm_V → List hm_V → hm_M → Prop
  | 0, pc, ls, st, M => K pc ls st M
  | n + 1, pc, ls, st, M => match T pc with
    | none => False
    | some row => hm_st lw L xs zb cap C Q row pc ls st M (fun pc' ls' st' M' => match sp pc' with
      | some k => K pc' (ls'.take k) st' M'
      | none => hm_wp T sp lw L xs zb cap C Q K n pc' ls' st' M')

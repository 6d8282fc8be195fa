/-! THE INSTRUCTIONS: from what comes next to what is now -/
def hm_G (E : hm_E) (p : Program) (l : Launch) (e : Env) (R : Room) (s : State) (m : MethodId) (args : Array Value) (below : List Frame) (meth : Method) (c : Code) (nL : Nat) (b0 : Nat × Nat) (Qf : State → Prop) (pc : Nat) (ls st : List hm_V) (M : hm_M) : Prop :=
  ∀ (H : Heap) (locs : List Loc) (cells slots : Nat) (la : Array Slot), hm_ho E M H → hm_rg ls st M → va_S (fun q => E.2.2.2 ≤ q) s.heap H locs → cells + b0.1 = M.1.length → slots + b0.2 = hm_sl M → cells ≤ R.cells → slots ≤ R.slots → hm_LH E la nL ls → W p l e R s m args below meth c H locs cells slots Qf (F0 m pc la (st.map (hm_tr E)))
def hm_cx (E : hm_E) (d o : Nat) (cc : ByteArray) (nL : Nat) (p : Program) (R : Room) (s : State) (m : MethodId) (args : Array Value) (c : Code) : Prop :=
  p.tables.exec = Jvm.exec ∧ c.code = cc ∧ c.maxLocals = nL ∧ s.vm.findClass (hm_nm o) = some m.cls ∧ (∀ w ∈ hm_good, w.before args s = true) ∧ hm_Kx E s ∧ (d + 1 ≤ R.frames ∧ 40 * d + 60 ≤ R.locals) ∧ E.2.2.2 ≤ s.heap.size
section HS
variable {p : Program} {l : Launch} {e : Env} {R : Room} {s : State} {m : MethodId} {args : Array Value} {below : List Frame} {meth : Method} {c : Code} {Qf : State → Prop} {E : hm_E} {b0 : Nat × Nat} {nL : Nat} {cc : ByteArray} {d o : Nat} {pc : Nat} {ls st : List hm_V} {M : hm_M}
theorem hs_iconst (X : hm_cx E d o cc nL p R s m args c) {n : Int} (hn : hm_in n) (hd : decode cc pc = .ok (.iconst n, 1)) (k : hm_G E p l e R s m args below meth c nL b0 Qf (pc + 1) ls (.inl n :: st) M) : hm_G E p l e R s m args below meth c nL b0 Qf pc ls st M := by
  intro H locs cells slots la ho rg hS e1 e2 c1 c2 hl
  exact lv_iconst X.1 X.2.1 hd rfl (k H locs cells slots la ho (rg.push hn) hS e1 e2 c1 c2 hl)
theorem hs_bipush (X : hm_cx E d o cc nL p R s m args c) {n : Int} (hn : hm_in n) (hv : (Int8.ofInt n).toInt32 = Int32.ofInt n) (hd : decode cc pc = .ok (.bipush n, 2)) (k : hm_G E p l e R s m args below meth c nL b0 Qf (pc + 2) ls (.inl n :: st) M) : hm_G E p l e R s m args below meth c nL b0 Qf pc ls st M := by
  intro H locs cells slots la ho rg hS e1 e2 c1 c2 hl
  exact lv_bipush X.1 X.2.1 hd hv (k H locs cells slots la ho (rg.push hn) hS e1 e2 c1 c2 hl)
theorem hs_sipush (X : hm_cx E d o cc nL p R s m args c) {n : Int} (hn : hm_in n) (hv : (Int16.ofInt n).toInt32 = Int32.ofInt n) (hd : decode cc pc = .ok (.sipush n, 3)) (k : hm_G E p l e R s m args below meth c nL b0 Qf (pc + 3) ls (.inl n :: st) M) : hm_G E p l e R s m args below meth c nL b0 Qf pc ls st M := by
  intro H locs cells slots la ho rg hS e1 e2 c1 c2 hl
  exact lv_sipush X.1 X.2.1 hd hv (k H locs cells slots la ho (rg.push hn) hS e1 e2 c1 c2 hl)
theorem hs_ldcw (X : hm_cx E d o cc nL p R s m args c) {i n : Nat} (hn : hm_in n) (hw : Cond.constant (hm_nm o) i (Int32.ofInt n) ∈ hm_good) (hd : decode cc pc = .ok (.ldc_w i, 3)) (k : hm_G E p l e R s m args below meth c nL b0 Qf (pc + 3) ls (.inl (n : Int) :: st) M) : hm_G E p l e R s m args below meth c nL b0 Qf pc ls st M := by
  intro H locs cells slots la ho rg hS e1 e2 c1 c2 hl
  exact lv_ldcw X.1 X.2.1 X.2.2.2.1 (X.2.2.2.2.1 _ hw) hd (k H locs cells slots la ho (rg.push hn) hS e1 e2 c1 c2 hl)
theorem hs_null (X : hm_cx E d o cc nL p R s m args c) (hd : decode cc pc = .ok (.aconst_null, 1)) (k : hm_G E p l e R s m args below meth c nL b0 Qf (pc + 1) ls (.inr 0 :: st) M) : hm_G E p l e R s m args below meth c nL b0 Qf pc ls st M := by
  intro H locs cells slots la ho rg hS e1 e2 c1 c2 hl
  exact lv_null X.1 X.2.1 hd (k H locs cells slots la ho rg.pushr hS e1 e2 c1 c2 hl)
theorem hs_iload (X : hm_cx E d o cc nL p R s m args c) {i : Nat} {a : Int} (hk : ls[i]? = some (.inl a)) (hd : decode cc pc = .ok (.iload i, 2)) (k : hm_G E p l e R s m args below meth c nL b0 Qf (pc + 2) ls (.inl a :: st) M) : hm_G E p l e R s m args below meth c nL b0 Qf pc ls st M := by
  intro H locs cells slots la ho rg hS e1 e2 c1 c2 hl
  exact lv_iload X.1 X.2.1 hd (hl.2.2 _ _ hk) (k H locs cells slots la ho (rg.push (rg.loc hk)) hS e1 e2 c1 c2 hl)
theorem hs_iloadn (X : hm_cx E d o cc nL p R s m args c) {i : Fin 4} {a : Int} (hk : ls[(i : Nat)]? = some (.inl a)) (hd : decode cc pc = .ok (.iload_n i, 1)) (k : hm_G E p l e R s m args below meth c nL b0 Qf (pc + 1) ls (.inl a :: st) M) : hm_G E p l e R s m args below meth c nL b0 Qf pc ls st M := by
  intro H locs cells slots la ho rg hS e1 e2 c1 c2 hl
  exact lv_iload_n X.1 X.2.1 hd rfl (hl.2.2 _ _ hk) (k H locs cells slots la ho (rg.push (rg.loc hk)) hS e1 e2 c1 c2 hl)
theorem hm_refs (E : hm_E) (r : Nat) : hm_tr E (.inr r) = .null ∨ ∃ a, hm_tr E (.inr r) = .ref a := by
  show va_rf (hm_rf E r) = .null ∨ ∃ a, va_rf (hm_rf E r) = .ref a
  cases hm_rf E r with
  | none => exact Or.inl rfl
  | some a => exact Or.inr ⟨a, rfl⟩
theorem hm_aload {H : Heap} {locs : List Loc} {cells slots : Nat} {la : Array Slot} {rest : List Value} (hexec : p.tables.exec = Jvm.exec) (hb : c.code = cc) {i : Nat} {v : Value} (hv : v = .null ∨ ∃ a, v = .ref a) (hdg : decode cc pc = .ok (.aload i, 2)) (hl : la[i]? = some (.val v))
    (k : W p l e R s m args below meth c H locs cells slots Qf (F0 m (pc + 2) la (v :: rest))) : W p l e R s m args below meth c H locs cells slots Qf (F0 m pc la rest) := by
  rcases hv with rfl | ⟨a, rfl⟩
  · intro T hT X
    obtain ⟨t, a, b⟩ := k T hT X
    refine ⟨t, ?_, b⟩
    jvm_step X.here [X.here.top, hexec, hb, hdg, hl, Value.isRef]
    exact a
  · exact lv_aload hexec hb hdg hl k
theorem hm_aloadn {H : Heap} {locs : List Loc} {cells slots : Nat} {la : Array Slot} {rest : List Value} (hexec : p.tables.exec = Jvm.exec) (hb : c.code = cc) {i : Fin 4} {v : Value} (hv : v = .null ∨ ∃ a, v = .ref a) (hdg : decode cc pc = .ok (.aload_n i, 1)) (hl : la[(i : Nat)]? = some (.val v))
    (k : W p l e R s m args below meth c H locs cells slots Qf (F0 m (pc + 1) la (v :: rest))) : W p l e R s m args below meth c H locs cells slots Qf (F0 m pc la rest) := by
  rcases hv with rfl | ⟨a, rfl⟩
  · intro T hT X
    obtain ⟨t, a, b⟩ := k T hT X
    refine ⟨t, ?_, b⟩
    jvm_step X.here [X.here.top, hexec, hb, hdg, hl, Value.isRef]
    exact a
  · exact lv_aload_n hexec hb hdg rfl hl k
theorem hs_aload (X : hm_cx E d o cc nL p R s m args c) {i r : Nat} (hk : ls[i]? = some (.inr r)) (hd : decode cc pc = .ok (.aload i, 2)) (k : hm_G E p l e R s m args below meth c nL b0 Qf (pc + 2) ls (.inr r :: st) M) : hm_G E p l e R s m args below meth c nL b0 Qf pc ls st M := by
  intro H locs cells slots la ho rg hS e1 e2 c1 c2 hl
  exact hm_aload X.1 X.2.1 (hm_refs E r) hd (hl.2.2 _ _ hk) (k H locs cells slots la ho rg.pushr hS e1 e2 c1 c2 hl)
theorem hs_aloadn (X : hm_cx E d o cc nL p R s m args c) {i : Fin 4} {r : Nat} (hk : ls[(i : Nat)]? = some (.inr r)) (hd : decode cc pc = .ok (.aload_n i, 1)) (k : hm_G E p l e R s m args below meth c nL b0 Qf (pc + 1) ls (.inr r :: st) M) : hm_G E p l e R s m args below meth c nL b0 Qf pc ls st M := by
  intro H locs cells slots la ho rg hS e1 e2 c1 c2 hl
  exact hm_aloadn X.1 X.2.1 (hm_refs E r) hd (hl.2.2 _ _ hk) (k H locs cells slots la ho rg.pushr hS e1 e2 c1 c2 hl)
theorem hs_istore (X : hm_cx E d o cc nL p R s m args c) {i : Nat} {a : Int} (hi : i ≤ ls.length) (hn : i < nL) (hd : decode cc pc = .ok (.istore i, 2)) (k : hm_G E p l e R s m args below meth c nL b0 Qf (pc + 2) (hm_set ls i (.inl a)) st M) : hm_G E p l e R s m args below meth c nL b0 Qf pc ls (.inl a :: st) M := by
  intro H locs cells slots la ho rg hS e1 e2 c1 c2 hl
  exact lv_istore X.1 X.2.1 hd hl.has hn rfl (fun la1 h1 => k H locs cells slots la1 ho (rg.pop.set rg.top) hS e1 e2 c1 c2 (hm_LH.of (v := .inl a) hi h1))
theorem hs_istoren (X : hm_cx E d o cc nL p R s m args c) {i : Fin 4} {a : Int} (hi : (i : Nat) ≤ ls.length) (hn : (i : Nat) < nL) (hd : decode cc pc = .ok (.istore_n i, 1)) (k : hm_G E p l e R s m args below meth c nL b0 Qf (pc + 1) (hm_set ls (i : Nat) (.inl a)) st M) : hm_G E p l e R s m args below meth c nL b0 Qf pc ls (.inl a :: st) M := by
  intro H locs cells slots la ho rg hS e1 e2 c1 c2 hl
  exact lv_istore_n X.1 X.2.1 hd rfl hl.has hn rfl (fun la1 h1 => k H locs cells slots la1 ho (rg.pop.set rg.top) hS e1 e2 c1 c2 (hm_LH.of (v := .inl a) hi h1))
theorem hm_astore {H : Heap} {locs : List Loc} {cells slots : Nat} {la : Array Slot} {rest : List Value} {ins : Instr} {len i : Nat} (hins : (ins = .astore i ∧ len = 2) ∨ (∃ k : Fin 4, ins = .astore_n k ∧ (k : Nat) = i ∧ len = 1)) (hexec : p.tables.exec = Jvm.exec) (hb : c.code = cc) {v : Value} (hv : v = .null ∨ ∃ a, v = .ref a) {lv : List (Nat × Value)} (hdg : decode cc pc = .ok (ins, len)) (h : lv_has la nL lv) (hn : i < nL)
    (kk : ∀ la' : Array Slot, lv_has la' nL ((i, v) :: lv.filter (fun q => !(q.1 == i) && !(q.1 + 1 == i && q.2.category == 2))) → W p l e R s m args below meth c H locs cells slots Qf (F0 m (pc + len) la' rest)) : W p l e R s m args below meth c H locs cells slots Qf (F0 m pc la (v :: rest)) := by
  rcases hv with rfl | ⟨a, rfl⟩
  · obtain ⟨la', e', h'⟩ := lv_store1 (v := .null) h hn rfl
    intro T hT X
    obtain ⟨t, a, b⟩ := kk la' h' T hT X
    refine ⟨t, ?_, b⟩
    rcases hins with ⟨rfl, rfl⟩ | ⟨k, rfl, rfl, rfl⟩
    · jvm_step X.here [X.here.top, ↓top_set X.here.top, hexec, hb, hdg, e', Value.isRef]
      exact a
    · jvm_step X.here [X.here.top, ↓top_set X.here.top, hexec, hb, hdg, e', Value.isRef]
      exact a
  · rcases hins with ⟨rfl, rfl⟩ | ⟨k, rfl, rfl, rfl⟩
    · exact lv_astore hexec hb hdg h hn rfl kk
    · exact lv_astore_n hexec hb hdg rfl h hn rfl kk
theorem hs_astore (X : hm_cx E d o cc nL p R s m args c) {i r : Nat} (hi : i ≤ ls.length) (hn : i < nL) (hd : decode cc pc = .ok (.astore i, 2)) (k : hm_G E p l e R s m args below meth c nL b0 Qf (pc + 2) (hm_set ls i (.inr r)) st M) : hm_G E p l e R s m args below meth c nL b0 Qf pc ls (.inr r :: st) M := by
  intro H locs cells slots la ho rg hS e1 e2 c1 c2 hl
  exact hm_astore (Or.inl ⟨rfl, rfl⟩) X.1 X.2.1 (hm_refs E r) hd hl.has hn (fun la1 h1 => k H locs cells slots la1 ho rg.pop.setr hS e1 e2 c1 c2 (hm_LH.of (v := .inr r) hi h1))
theorem hs_astoren (X : hm_cx E d o cc nL p R s m args c) {i : Fin 4} {r : Nat} (hi : (i : Nat) ≤ ls.length) (hn : (i : Nat) < nL) (hd : decode cc pc = .ok (.astore_n i, 1)) (k : hm_G E p l e R s m args below meth c nL b0 Qf (pc + 1) (hm_set ls (i : Nat) (.inr r)) st M) : hm_G E p l e R s m args below meth c nL b0 Qf pc ls (.inr r :: st) M := by
  intro H locs cells slots la ho rg hS e1 e2 c1 c2 hl
  exact hm_astore (Or.inr ⟨i, rfl, rfl, rfl⟩) X.1 X.2.1 (hm_refs E r) hd hl.has hn (fun la1 h1 => k H locs cells slots la1 ho rg.pop.setr hS e1 e2 c1 c2 (hm_LH.of (v := .inr r) hi h1))
theorem hs_iinc (X : hm_cx E d o cc nL p R s m args c) {i : Nat} {a n : Int} (hk : ls[i]? = some (.inl a)) (hn : i < nL) (hr : hm_in (a + n)) (hd : decode cc pc = .ok (.iinc i n, 3)) (k : hm_G E p l e R s m args below meth c nL b0 Qf (pc + 3) (hm_set ls i (.inl (a + n))) st M) : hm_G E p l e R s m args below meth c nL b0 Qf pc ls st M := by
  intro H locs cells slots la ho rg hS e1 e2 c1 c2 hl
  have hi : i ≤ ls.length := Nat.le_of_lt (List.getElem?_eq_some_iff.mp hk).1
  obtain ⟨q, hq⟩ : ∃ q : Nat, (hm_alist E ls)[q]? = some (i, .int (Int32.ofInt a)) := List.getElem?_of_mem (List.mem_map.mpr ⟨(.inl a, i), List.mem_zipIdx_iff_getElem?.mpr hk, rfl⟩)
  exact lv_iinc X.1 X.2.1 hd hl.has hq rfl hn rfl (fun la1 h1 => k H locs cells slots la1 ho (rg.set hr) hS e1 e2 c1 c2 (hm_LH.of (v := .inl (a + n)) hi (by
    have e3 : hm_tr E (.inl (a + n)) = .int (Int32.ofInt a + Int32.ofInt n) := by show Value.int (Int32.ofInt (a + n)) = _; rw [Int32.ofInt_add]
    rw [e3]
    exact h1)))
theorem hs_iadd (X : hm_cx E d o cc nL p R s m args c) {a b : Int} (hr : hm_in (a + b)) (hd : decode cc pc = .ok (.iadd, 1)) (k : hm_G E p l e R s m args below meth c nL b0 Qf (pc + 1) ls (.inl (a + b) :: st) M) : hm_G E p l e R s m args below meth c nL b0 Qf pc ls (.inl b :: .inl a :: st) M := by
  intro H locs cells slots la ho rg hS e1 e2 c1 c2 hl
  refine lv_iadd X.1 X.2.1 hd ?_
  have h := k H locs cells slots la ho (rg.pop.pop.push hr) hS e1 e2 c1 c2 hl
  rw [show (Sum.inl (a + b) :: st : List hm_V).map (hm_tr E) = .int (Int32.ofInt a + Int32.ofInt b) :: st.map (hm_tr E) by show Value.int (Int32.ofInt (a + b)) :: _ = _; rw [Int32.ofInt_add]] at h
  exact h
theorem hs_isub (X : hm_cx E d o cc nL p R s m args c) {a b : Int} (hr : hm_in (a - b)) (hd : decode cc pc = .ok (.isub, 1)) (k : hm_G E p l e R s m args below meth c nL b0 Qf (pc + 1) ls (.inl (a - b) :: st) M) : hm_G E p l e R s m args below meth c nL b0 Qf pc ls (.inl b :: .inl a :: st) M := by
  intro H locs cells slots la ho rg hS e1 e2 c1 c2 hl
  refine lv_isub X.1 X.2.1 hd ?_
  have h := k H locs cells slots la ho (rg.pop.pop.push hr) hS e1 e2 c1 c2 hl
  rw [show (Sum.inl (a - b) :: st : List hm_V).map (hm_tr E) = .int (Int32.ofInt a - Int32.ofInt b) :: st.map (hm_tr E) by show Value.int (Int32.ofInt (a - b)) :: _ = _; rw [Int32.ofInt_sub]] at h
  exact h
theorem hs_imul (X : hm_cx E d o cc nL p R s m args c) {a b : Int} (hr : hm_in (a * b)) (hd : decode cc pc = .ok (.imul, 1)) (k : hm_G E p l e R s m args below meth c nL b0 Qf (pc + 1) ls (.inl (a * b) :: st) M) : hm_G E p l e R s m args below meth c nL b0 Qf pc ls (.inl b :: .inl a :: st) M := by
  intro H locs cells slots la ho rg hS e1 e2 c1 c2 hl
  refine lv_imul X.1 X.2.1 hd ?_
  have h := k H locs cells slots la ho (rg.pop.pop.push hr) hS e1 e2 c1 c2 hl
  rw [show (Sum.inl (a * b) :: st : List hm_V).map (hm_tr E) = .int (Int32.ofInt a * Int32.ofInt b) :: st.map (hm_tr E) by show Value.int (Int32.ofInt (a * b)) :: _ = _; rw [Int32.ofInt_mul]] at h
  exact h
theorem hs_iand (X : hm_cx E d o cc nL p R s m args c) {a b : Int} (hd : decode cc pc = .ok (.iand, 1)) (k : hm_G E p l e R s m args below meth c nL b0 Qf (pc + 1) ls (.inl (hm_and a b) :: st) M) : hm_G E p l e R s m args below meth c nL b0 Qf pc ls (.inl b :: .inl a :: st) M := by
  intro H locs cells slots la ho rg hS e1 e2 c1 c2 hl
  refine lv_iand X.1 X.2.1 hd ?_
  have h := k H locs cells slots la ho (rg.pop.pop.push (hm_bk _)) hS e1 e2 c1 c2 hl
  rw [show (Sum.inl (hm_and a b) :: st : List hm_V).map (hm_tr E) = .int (Int32.ofInt (hm_and a b)) :: st.map (hm_tr E) from rfl, hm_and, hm_back] at h
  exact h
theorem hs_ior (X : hm_cx E d o cc nL p R s m args c) {a b : Int} (hd : decode cc pc = .ok (.ior, 1)) (k : hm_G E p l e R s m args below meth c nL b0 Qf (pc + 1) ls (.inl (hm_or a b) :: st) M) : hm_G E p l e R s m args below meth c nL b0 Qf pc ls (.inl b :: .inl a :: st) M := by
  intro H locs cells slots la ho rg hS e1 e2 c1 c2 hl
  refine lv_ior X.1 X.2.1 hd ?_
  have h := k H locs cells slots la ho (rg.pop.pop.push (hm_bk _)) hS e1 e2 c1 c2 hl
  rw [show (Sum.inl (hm_or a b) :: st : List hm_V).map (hm_tr E) = .int (Int32.ofInt (hm_or a b)) :: st.map (hm_tr E) from rfl, hm_or, hm_back] at h
  exact h
theorem hs_ixor (X : hm_cx E d o cc nL p R s m args c) {a b : Int} (hd : decode cc pc = .ok (.ixor, 1)) (k : hm_G E p l e R s m args below meth c nL b0 Qf (pc + 1) ls (.inl (hm_xor a b) :: st) M) : hm_G E p l e R s m args below meth c nL b0 Qf pc ls (.inl b :: .inl a :: st) M := by
  intro H locs cells slots la ho rg hS e1 e2 c1 c2 hl
  refine lv_ixor X.1 X.2.1 hd ?_
  have h := k H locs cells slots la ho (rg.pop.pop.push (hm_bk _)) hS e1 e2 c1 c2 hl
  rw [show (Sum.inl (hm_xor a b) :: st : List hm_V).map (hm_tr E) = .int (Int32.ofInt (hm_xor a b)) :: st.map (hm_tr E) from rfl, hm_xor, hm_back] at h
  exact h
theorem hs_ishl (X : hm_cx E d o cc nL p R s m args c) {a b : Int} (hd : decode cc pc = .ok (.ishl, 1)) (k : hm_G E p l e R s m args below meth c nL b0 Qf (pc + 1) ls (.inl (hm_shl a b) :: st) M) : hm_G E p l e R s m args below meth c nL b0 Qf pc ls (.inl b :: .inl a :: st) M := by
  intro H locs cells slots la ho rg hS e1 e2 c1 c2 hl
  refine lv_ishl X.1 X.2.1 hd ?_
  have h := k H locs cells slots la ho (rg.pop.pop.push (hm_bk _)) hS e1 e2 c1 c2 hl
  rw [show (Sum.inl (hm_shl a b) :: st : List hm_V).map (hm_tr E) = .int (Int32.ofInt (hm_shl a b)) :: st.map (hm_tr E) from rfl, hm_shl, hm_back] at h
  exact h
theorem hs_ishr (X : hm_cx E d o cc nL p R s m args c) {a b : Int} (hd : decode cc pc = .ok (.ishr, 1)) (k : hm_G E p l e R s m args below meth c nL b0 Qf (pc + 1) ls (.inl (hm_shr a b) :: st) M) : hm_G E p l e R s m args below meth c nL b0 Qf pc ls (.inl b :: .inl a :: st) M := by
  intro H locs cells slots la ho rg hS e1 e2 c1 c2 hl
  refine lv_ishr X.1 X.2.1 hd ?_
  have h := k H locs cells slots la ho (rg.pop.pop.push (hm_bk _)) hS e1 e2 c1 c2 hl
  rw [show (Sum.inl (hm_shr a b) :: st : List hm_V).map (hm_tr E) = .int (Int32.ofInt (hm_shr a b)) :: st.map (hm_tr E) from rfl, hm_shr, hm_back] at h
  exact h
theorem hs_iushr (X : hm_cx E d o cc nL p R s m args c) {a b : Int} (hd : decode cc pc = .ok (.iushr, 1)) (k : hm_G E p l e R s m args below meth c nL b0 Qf (pc + 1) ls (.inl (hm_ush a b) :: st) M) : hm_G E p l e R s m args below meth c nL b0 Qf pc ls (.inl b :: .inl a :: st) M := by
  intro H locs cells slots la ho rg hS e1 e2 c1 c2 hl
  refine lv_iushr X.1 X.2.1 hd rfl ?_
  have h := k H locs cells slots la ho (rg.pop.pop.push (hm_bk _)) hS e1 e2 c1 c2 hl
  rw [show (Sum.inl (hm_ush a b) :: st : List hm_V).map (hm_tr E) = .int (Int32.ofInt (hm_ush a b)) :: st.map (hm_tr E) from rfl, hm_ush, hm_back] at h
  exact h
theorem hm_div32 {a b : Int} (ha : hm_in a) (hb : hm_in b) (h0 : 0 ≤ a) (h1 : 0 < b) : Int32.ofInt a / Int32.ofInt b = Int32.ofInt (a / b) := by
  have h2 : a / b ≤ a := Int.ediv_le_self b h0
  have h3 : 0 ≤ a / b := Int.ediv_nonneg h0 (by omega)
  have hr : hm_in (a / b) := ⟨by omega, by have := ha.2; omega⟩
  apply Int32.toInt_inj.mp
  rw [hm_toInt hr, Int32.toInt_div, hm_toInt ha, hm_toInt hb, Int.tdiv_eq_ediv_of_nonneg h0]
  have h4 := hr.1
  have h5 := hr.2
  exact Int.bmod_eq_of_le (by omega) (by omega)
theorem hm_rem32 {a b : Int} (ha : hm_in a) (hb : hm_in b) (h0 : 0 ≤ a) (h1 : 0 < b) : Int32.ofInt a - Int32.ofInt a / Int32.ofInt b * Int32.ofInt b = Int32.ofInt (a % b) := by
  rw [hm_div32 ha hb h0 h1, ← Int32.ofInt_mul, ← Int32.ofInt_sub]
  congr 1
  have := Int.mul_ediv_add_emod a b
  rw [Int.mul_comm]
  omega
theorem hs_idiv (X : hm_cx E d o cc nL p R s m args c) {a b : Int} (h0 : 0 ≤ a ∧ 0 < b) (hd : decode cc pc = .ok (.idiv, 1)) (k : hm_G E p l e R s m args below meth c nL b0 Qf (pc + 1) ls (.inl (a / b) :: st) M) : hm_G E p l e R s m args below meth c nL b0 Qf pc ls (.inl b :: .inl a :: st) M := by
  intro H locs cells slots la ho rg hS e1 e2 c1 c2 hl
  have hb := rg.top
  have ha := rg.pop.top
  refine lv_idiv X.1 X.2.1 hd (fun q => ?_) ?_
  · have : Int32.ofInt b = Int32.ofInt 0 := q
    rw [hm_inj hb hm_in0] at this
    omega
  · rw [hm_div32 ha hb h0.1 h0.2]
    have h2 : a / b ≤ a := Int.ediv_le_self b h0.1
    have h3 : 0 ≤ a / b := Int.ediv_nonneg h0.1 (by omega)
    exact k H locs cells slots la ho (rg.pop.pop.push ⟨by omega, by have := ha.2; omega⟩) hS e1 e2 c1 c2 hl
theorem hs_irem (X : hm_cx E d o cc nL p R s m args c) {a b : Int} (h0 : 0 ≤ a ∧ 0 < b) (hd : decode cc pc = .ok (.irem, 1)) (k : hm_G E p l e R s m args below meth c nL b0 Qf (pc + 1) ls (.inl (a % b) :: st) M) : hm_G E p l e R s m args below meth c nL b0 Qf pc ls (.inl b :: .inl a :: st) M := by
  intro H locs cells slots la ho rg hS e1 e2 c1 c2 hl
  have hb := rg.top
  have ha := rg.pop.top
  refine lv_irem X.1 X.2.1 hd (fun q => ?_) ?_
  · have : Int32.ofInt b = Int32.ofInt 0 := q
    rw [hm_inj hb hm_in0] at this
    omega
  · rw [hm_rem32 ha hb h0.1 h0.2]
    have h2 : a % b < b := Int.emod_lt_of_pos a h0.2
    have h3 : 0 ≤ a % b := Int.emod_nonneg a (by omega)
    exact k H locs cells slots la ho (rg.pop.pop.push ⟨by omega, by have := hb.2; omega⟩) hS e1 e2 c1 c2 hl
theorem hs_icmp (X : hm_cx E d o cc nL p R s m args c) {cp : Jvm.ClassFile.Cond} {off : Int} {tgt : Nat} {a b : Int} (ht : (pc : Int) + off = (tgt : Int)) (hd : decode cc pc = .ok (.if_icmp cp off, 3)) (kt : hm_cmp cp a b → hm_G E p l e R s m args below meth c nL b0 Qf tgt ls st M) (kf : hm_cmn cp a b → hm_G E p l e R s m args below meth c nL b0 Qf (pc + 3) ls st M) : hm_G E p l e R s m args below meth c nL b0 Qf pc ls (.inl b :: .inl a :: st) M := by
  intro H locs cells slots la ho rg hS e1 e2 c1 c2 hl
  have hb := rg.top
  have ha := rg.pop.top
  have ht' := ht
  cases cp
  · exact lv_icmp_eq X.1 X.2.1 hd ht' (fun q => kt ((hm_inj ha hb).mp q) H locs cells slots la ho rg.pop.pop hS e1 e2 c1 c2 hl) (fun q => kf (fun z => q ((hm_inj ha hb).mpr z)) H locs cells slots la ho rg.pop.pop hS e1 e2 c1 c2 hl)
  · exact lv_icmp_ne X.1 X.2.1 hd ht' (fun q => kt (fun z => q ((hm_inj ha hb).mpr z)) H locs cells slots la ho rg.pop.pop hS e1 e2 c1 c2 hl) (fun q => kf ((hm_inj ha hb).mp q) H locs cells slots la ho rg.pop.pop hS e1 e2 c1 c2 hl)
  · exact lv_icmp_lt X.1 X.2.1 hd ht' (fun q => kt ((hm_lt ha hb).mp q) H locs cells slots la ho rg.pop.pop hS e1 e2 c1 c2 hl) (fun q => kf (Int.not_lt.mp fun z => q ((hm_lt ha hb).mpr z)) H locs cells slots la ho rg.pop.pop hS e1 e2 c1 c2 hl)
  · exact lv_icmp_ge X.1 X.2.1 hd ht' (fun q => kt ((hm_le hb ha).mp q) H locs cells slots la ho rg.pop.pop hS e1 e2 c1 c2 hl) (fun q => kf (Int.not_le.mp fun z => q ((hm_le hb ha).mpr z)) H locs cells slots la ho rg.pop.pop hS e1 e2 c1 c2 hl)
  · exact lv_icmp_gt X.1 X.2.1 hd ht' (fun q => kt ((hm_lt hb ha).mp q) H locs cells slots la ho rg.pop.pop hS e1 e2 c1 c2 hl) (fun q => kf (Int.not_lt.mp fun z => q ((hm_lt hb ha).mpr z)) H locs cells slots la ho rg.pop.pop hS e1 e2 c1 c2 hl)
  · exact lv_icmp_le X.1 X.2.1 hd ht' (fun q => kt ((hm_le ha hb).mp q) H locs cells slots la ho rg.pop.pop hS e1 e2 c1 c2 hl) (fun q => kf (Int.not_le.mp fun z => q ((hm_le ha hb).mpr z)) H locs cells slots la ho rg.pop.pop hS e1 e2 c1 c2 hl)
theorem hs_if (X : hm_cx E d o cc nL p R s m args c) {cp : Jvm.ClassFile.Cond} {off : Int} {tgt : Nat} {a : Int} (ht : (pc : Int) + off = (tgt : Int)) (hd : decode cc pc = .ok (.ifCond cp off, 3)) (kt : hm_cmp cp a 0 → hm_G E p l e R s m args below meth c nL b0 Qf tgt ls st M) (kf : hm_cmn cp a 0 → hm_G E p l e R s m args below meth c nL b0 Qf (pc + 3) ls st M) : hm_G E p l e R s m args below meth c nL b0 Qf pc ls (.inl a :: st) M := by
  intro H locs cells slots la ho rg hS e1 e2 c1 c2 hl
  have ha := rg.top
  have hb := hm_in0
  have ht' := ht
  cases cp
  · exact lv_if_eq X.1 X.2.1 hd ht' (fun q => kt ((hm_inj ha hb).mp q) H locs cells slots la ho rg.pop hS e1 e2 c1 c2 hl) (fun q => kf (fun z => q ((hm_inj ha hb).mpr z)) H locs cells slots la ho rg.pop hS e1 e2 c1 c2 hl)
  · exact lv_if_ne X.1 X.2.1 hd ht' (fun q => kt (fun z => q ((hm_inj ha hb).mpr z)) H locs cells slots la ho rg.pop hS e1 e2 c1 c2 hl) (fun q => kf ((hm_inj ha hb).mp q) H locs cells slots la ho rg.pop hS e1 e2 c1 c2 hl)
  · exact lv_if_lt X.1 X.2.1 hd ht' (fun q => kt ((hm_lt ha hb).mp q) H locs cells slots la ho rg.pop hS e1 e2 c1 c2 hl) (fun q => kf (Int.not_lt.mp fun z => q ((hm_lt ha hb).mpr z)) H locs cells slots la ho rg.pop hS e1 e2 c1 c2 hl)
  · exact lv_if_ge X.1 X.2.1 hd ht' (fun q => kt ((hm_le hb ha).mp q) H locs cells slots la ho rg.pop hS e1 e2 c1 c2 hl) (fun q => kf (Int.not_le.mp fun z => q ((hm_le hb ha).mpr z)) H locs cells slots la ho rg.pop hS e1 e2 c1 c2 hl)
  · exact lv_if_gt X.1 X.2.1 hd ht' (fun q => kt ((hm_lt hb ha).mp q) H locs cells slots la ho rg.pop hS e1 e2 c1 c2 hl) (fun q => kf (Int.not_lt.mp fun z => q ((hm_lt hb ha).mpr z)) H locs cells slots la ho rg.pop hS e1 e2 c1 c2 hl)
  · exact lv_if_le X.1 X.2.1 hd ht' (fun q => kt ((hm_le ha hb).mp q) H locs cells slots la ho rg.pop hS e1 e2 c1 c2 hl) (fun q => kf (Int.not_le.mp fun z => q ((hm_le ha hb).mpr z)) H locs cells slots la ho rg.pop hS e1 e2 c1 c2 hl)
theorem hs_ifnull (X : hm_cx E d o cc nL p R s m args c) {off : Int} {tgt r : Nat} (ht : (pc : Int) + off = (tgt : Int)) (hd : decode cc pc = .ok (.ifnull off, 3)) (kt : r = 0 → hm_G E p l e R s m args below meth c nL b0 Qf tgt ls st M) (kf : ¬ r = 0 → hm_G E p l e R s m args below meth c nL b0 Qf (pc + 3) ls st M) : hm_G E p l e R s m args below meth c nL b0 Qf pc ls (.inr r :: st) M := by
  intro H locs cells slots la ho rg hS e1 e2 c1 c2 hl
  have ht' := ht
  match r, kt, kf, rg with
  | 0, kt, kf, rg => exact lv_ifnullN X.1 X.2.1 hd ht' (kt rfl H locs cells slots la ho rg.pop hS e1 e2 c1 c2 hl)
  | 1, kt, kf, rg => exact lv_ifnull X.1 X.2.1 hd (kf (by omega) H locs cells slots la ho rg.pop hS e1 e2 c1 c2 hl)
  | r + 2, kt, kf, rg => exact lv_ifnull X.1 X.2.1 hd (kf (by omega) H locs cells slots la ho rg.pop hS e1 e2 c1 c2 hl)
theorem hs_goto (X : hm_cx E d o cc nL p R s m args c) {off : Int} {tgt : Nat} (ht : (pc : Int) + off = (tgt : Int)) (hd : decode cc pc = .ok (.goto off, 3)) (k : hm_G E p l e R s m args below meth c nL b0 Qf tgt ls st M) : hm_G E p l e R s m args below meth c nL b0 Qf pc ls st M := by
  intro H locs cells slots la ho rg hS e1 e2 c1 c2 hl
  exact lv_goto X.1 X.2.1 hd ht (k H locs cells slots la ho rg hS e1 e2 c1 c2 hl)
theorem hm_rg.dup {v : hm_V} (h : hm_rg ls (v :: st) M) : hm_rg ls (v :: v :: st) M := ⟨h.1, fun i hi => h.2.1 i (by rcases List.mem_cons.mp hi with q | q; exact List.mem_cons.mpr (Or.inl q); exact q), h.2.2⟩
theorem hm_rg.dup2 {v u : hm_V} (h : hm_rg ls (v :: u :: st) M) : hm_rg ls (v :: u :: v :: u :: st) M := ⟨h.1, fun i hi => h.2.1 i (by simp only [List.mem_cons] at hi ⊢; rcases hi with q | q | q | q | q <;> simp [q]), h.2.2⟩
theorem hs_dup (X : hm_cx E d o cc nL p R s m args c) {v : hm_V} (hd : decode cc pc = .ok (.dup, 1)) (k : hm_G E p l e R s m args below meth c nL b0 Qf (pc + 1) ls (v :: v :: st) M) : hm_G E p l e R s m args below meth c nL b0 Qf pc ls (v :: st) M := by
  intro H locs cells slots la ho rg hS e1 e2 c1 c2 hl
  exact lv_dup X.1 X.2.1 hd (hm_cat E v) (k H locs cells slots la ho rg.dup hS e1 e2 c1 c2 hl)
theorem hs_dup2 (X : hm_cx E d o cc nL p R s m args c) {v u : hm_V} (hd : decode cc pc = .ok (.dup2, 1)) (k : hm_G E p l e R s m args below meth c nL b0 Qf (pc + 1) ls (v :: u :: v :: u :: st) M) : hm_G E p l e R s m args below meth c nL b0 Qf pc ls (v :: u :: st) M := by
  intro H locs cells slots la ho rg hS e1 e2 c1 c2 hl
  exact lv_dup2_11 X.1 X.2.1 hd (hm_cat E v) (hm_cat E u) (k H locs cells slots la ho rg.dup2 hS e1 e2 c1 c2 hl)
theorem hs_pop (X : hm_cx E d o cc nL p R s m args c) {v : hm_V} (hd : decode cc pc = .ok (.pop, 1)) (k : hm_G E p l e R s m args below meth c nL b0 Qf (pc + 1) ls st M) : hm_G E p l e R s m args below meth c nL b0 Qf pc ls (v :: st) M := by
  intro H locs cells slots la ho rg hS e1 e2 c1 c2 hl
  exact lv_pop X.1 X.2.1 hd (hm_cat E v) (k H locs cells slots la ho rg.pop hS e1 e2 c1 c2 hl)
theorem hm_sw_at {v : Int} {nx : Nat → Prop} : ∀ (os : List Int) (lo : Int), hm_sw pc v nx lo os → ∀ (k : Nat) (off : Int), os[k]? = some off → v = lo + k → nx ((pc : Int) + off).toNat
  | [], lo, h, k, off, hk, hv => by simp at hk
  | o1 :: os, lo, h, 0, off, hk, hv => by
    have e1 : o1 = off := by simpa using hk
    subst e1
    exact h.1 (by omega)
  | o1 :: os, lo, h, k + 1, off, hk, hv => hm_sw_at os (lo + 1) h.2 k off (by simpa using hk) (by omega)
theorem hs_switch (X : hm_cx E d o cc nL p R s m args c) {df lo hi : Int} {offs : Array Int} {len tgt : Nat} {v : Int} (ht : (pc : Int) + df = (tgt : Int)) (hof : ∀ (k : Nat) (q : Int), offs[k]? = some q → 0 ≤ (pc : Int) + q) (hsz : (offs.size : Int) = hi - lo + 1) (hd : decode cc pc = .ok (.tableswitch df lo hi offs, len)) (kd : (v < lo ∨ hi < v) → hm_G E p l e R s m args below meth c nL b0 Qf tgt ls st M) (ks : hm_sw pc v (fun q => hm_G E p l e R s m args below meth c nL b0 Qf q ls st M) lo offs.toList) : hm_G E p l e R s m args below meth c nL b0 Qf pc ls (.inl v :: st) M := by
  intro H locs cells slots la ho rg hS e1 e2 c1 c2 hl
  have hv := rg.top
  by_cases q : v < lo ∨ hi < v
  · exact lv_tableOut X.1 X.2.1 hd (by rw [hm_toInt hv]; exact q) ht (kd q H locs cells slots la ho rg.pop hS e1 e2 c1 c2 hl)
  · have q1 : lo ≤ v ∧ v ≤ hi := by omega
    have hk : (v - lo).toNat < offs.size := by omega
    obtain ⟨off, ho1⟩ : ∃ off, offs[(v - lo).toNat]? = some off := ⟨_, Array.getElem?_eq_getElem hk⟩
    have h1 := hm_sw_at offs.toList lo ks (v - lo).toNat off (by rw [Array.getElem?_toList]; exact ho1) (by omega)
    exact lv_tableIn X.1 X.2.1 hd (by rw [hm_toInt hv]; omega) (by rw [hm_toInt hv]; omega) (by rw [hm_toInt hv]; exact ho1) (tgt := ((pc : Int) + off).toNat) (by have := hof _ _ ho1; omega) (h1 H locs cells slots la ho rg.pop hS e1 e2 c1 c2 hl)
end HS

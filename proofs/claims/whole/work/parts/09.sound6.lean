/-! THE MACHINE IS SOUND -/
def hm_CO : List (Nat × Nat × Nat) := [(9, 265, 1431655765), (9, 266, 858993459), (9, 267, 252645135)]
theorem hm_CO_at {o i n : Nat} (h : hm_CO.any (fun q => q.1 == o && q.2.1 == i && q.2.2 == n) = true) : hm_in n ∧ Cond.constant (hm_nm o) i (Int32.ofInt n) ∈ hm_good := by
  simp only [hm_CO, List.any_cons, List.any_nil, Bool.or_false, Bool.or_eq_true, Bool.and_eq_true, beq_iff_eq] at h
  rcases h with ⟨⟨rfl, rfl⟩, rfl⟩ | ⟨⟨rfl, rfl⟩, rfl⟩ | ⟨⟨rfl, rfl⟩, rfl⟩
  · exact ⟨⟨by omega, by omega⟩, hm_at_in hm_once8⟩
  · exact ⟨⟨by omega, by omega⟩, hm_at_in hm_once9⟩
  · exact ⟨⟨by omega, by omega⟩, hm_at_in hm_once10⟩
def hm_inb (n : Int) : Bool := decide (-2147483648 ≤ n) && decide (n < 2147483648)
theorem hm_inb_in {n : Int} (h : hm_inb n = true) : hm_in n := by
  simp only [hm_inb, Bool.and_eq_true, decide_eq_true_eq] at h
  exact h
/-- what must be right of a row of code -/
def hm_ckr (ini : Bool) (o nL pc : Nat) (row : hm_row) : Bool := match row.1 with
  | .iconst n => row.2.1 == 1 && hm_inb n
  | .bipush n => row.2.1 == 2 && hm_inb n && decide ((Int8.ofInt n).toInt32 = Int32.ofInt n)
  | .sipush n => row.2.1 == 3 && hm_inb n && decide ((Int16.ofInt n).toInt32 = Int32.ofInt n)
  | .ldc_w i => row.2.1 == 3 && hm_CO.any (fun q => q.1 == o && q.2.1 == i && q.2.2 == row.2.2.1)
  | .aconst_null => row.2.1 == 1
  | .iload _ => row.2.1 == 2
  | .iload_n _ => row.2.1 == 1
  | .aload _ => row.2.1 == 2
  | .aload_n _ => row.2.1 == 1
  | .istore i => row.2.1 == 2 && decide (i < nL)
  | .istore_n i => row.2.1 == 1 && decide ((i : Nat) < nL)
  | .astore i => row.2.1 == 2 && decide (i < nL)
  | .astore_n i => row.2.1 == 1 && decide ((i : Nat) < nL)
  | .iinc i _ => row.2.1 == 3 && decide (i < nL)
  | .iadd => row.2.1 == 1
  | .isub => row.2.1 == 1
  | .imul => row.2.1 == 1
  | .idiv => row.2.1 == 1
  | .irem => row.2.1 == 1
  | .iand => row.2.1 == 1
  | .ior => row.2.1 == 1
  | .ixor => row.2.1 == 1
  | .ishl => row.2.1 == 1
  | .ishr => row.2.1 == 1
  | .iushr => row.2.1 == 1
  | .if_icmp _ off => row.2.1 == 3 && decide ((pc : Int) + off = (row.2.2.1 : Int))
  | .ifCond _ off => row.2.1 == 3 && decide ((pc : Int) + off = (row.2.2.1 : Int))
  | .ifnull off => row.2.1 == 3 && decide ((pc : Int) + off = (row.2.2.1 : Int))
  | .goto off => row.2.1 == 3 && decide ((pc : Int) + off = (row.2.2.1 : Int))
  | .dup => row.2.1 == 1
  | .dup2 => row.2.1 == 1
  | .pop => row.2.1 == 1
  | .tableswitch df lo hi offs => decide ((pc : Int) + df = (row.2.2.1 : Int)) && offs.toList.all (fun q => decide (0 ≤ (pc : Int) + q)) && decide ((offs.size : Int) = hi - lo + 1)
  | .getfield i => row.2.1 == 3 && hm_FL.any (fun q => q.1 == o && q.2.1 == i && q.2.2.1 == row.2.2.1 && q.2.2.2.1 == row.2.2.2.1)
  | .putfield i => row.2.1 == 3 && hm_FL.any (fun q => q.1 == o && q.2.1 == i && q.2.2.1 == row.2.2.1 && q.2.2.2.1 == row.2.2.2.1) && (!(hm_T row.2.2.1 row.2.2.2.1).2.2.2 || (ini && row.2.2.1 == o))
  | .iaload => row.2.1 == 1
  | .baload => row.2.1 == 1
  | .aaload => row.2.1 == 1
  | .iastore => row.2.1 == 1
  | .bastore => row.2.1 == 1
  | .aastore => row.2.1 == 1
  | .arraylength => row.2.1 == 1
  | .newarray t => row.2.1 == 2 && ((decide (t = .int) && row.2.2.1 == 0) || (decide (t = .boolean) && row.2.2.1 == 1))
  | .anewarray i => row.2.1 == 3 && hm_CL.any (fun q => q.1 == o && q.2.1 == i && q.2.2.1 == 0)
  | .new i => row.2.1 == 3 && hm_CL.any (fun q => q.1 == o && q.2.1 == i && q.2.2.1 == row.2.2.1)
  | .invokespecial i => row.2.1 == 3 && (bif row.2.2.1 == 998 then hm_OI.any (fun q => q.1 == o && q.2.1 == i) else ((hm_ML.any (fun q => q.1 == o && q.2.1 == i && q.2.2.1 == 2 && q.2.2.2.1 == row.2.2.1) || hm_ML.any (fun q => q.1 == o && q.2.1 == i && q.2.2.1 == 5 && q.2.2.2.1 == row.2.2.1)) && decide (row.2.2.1 < 150) && row.2.2.2.1 == hm_np row.2.2.1 && decide (row.2.2.2.2 < 8)))
  | .invokevirtual i => row.2.1 == 3 && hm_ML.any (fun q => q.1 == o && q.2.1 == i && q.2.2.1 == 1 && q.2.2.2.1 == row.2.2.1) && decide (row.2.2.1 < 150) && row.2.2.2.1 == hm_np row.2.2.1 && decide (row.2.2.2.2 < 8) && decide (hm_nm row.2.2.2.2 = (hm_me row.2.2.1).1.cls) && (hm_mc row.2.2.1 == 0 && hm_ms row.2.2.1 == 0)
  | .invokestatic i => row.2.1 == 3 && (bif row.2.2.1 == 999 then hm_AC.any (fun q => q.1 == o && q.2.1 == i) else bif row.2.2.1 == 997 then hm_MX.any (fun q => q.1 == o && q.2.1 == i) else ((hm_ML.any (fun q => q.1 == o && q.2.1 == i && q.2.2.1 == 0 && q.2.2.2.1 == row.2.2.1) || hm_ML.any (fun q => q.1 == o && q.2.1 == i && q.2.2.1 == 3 && q.2.2.2.1 == row.2.2.1)) && decide (row.2.2.1 < 150) && row.2.2.2.1 == hm_np row.2.2.1 && (hm_mc row.2.2.1 == 0 && hm_ms row.2.2.1 == 0)))
  | .ireturn => row.2.1 == 1
  | .return_ => row.2.1 == 1
  | _ => false
def hm_ck (ini : Bool) (o nL : Nat) (cc : ByteArray) (pc : Nat) (row : hm_row) : Bool := decide (decode cc pc = .ok (row.1, row.2.1)) && hm_ckr ini o nL pc row
section HS
variable {p : Program} {l : Launch} {e : Env} {R : Room} {s : State} {m : MethodId} {args : Array Value} {below : List Frame} {meth : Method} {c : Code} {Qf : State → Prop} {E : hm_E} {b0 : Nat × Nat} {nL : Nat} {cc : ByteArray} {d o : Nat} {pc : Nat} {ls st : List hm_V} {M : hm_M}
/-- the law's own script -/
def hm_scr (lw : Bool) (L : Nat) (xs : Nat → Int) (E : hm_E) (s : State) : Prop := lw = true → ∃ ys : Nat → Int32, va_X E.2.2.1 L ys s s.heap ∧ E.2.2.1 < s.heap.size ∧ E.2.2.1 < E.2.2.2 ∧ L < 2147483648 ∧ ∀ i, xs i = (ys i).toInt
theorem hs_scr {L : Nat} {xs : Nat → Int} (X : hm_cx E d o cc nL p R s m args c) (hsc : hm_scr true L xs E s) {i : Int} (h : 0 ≤ i ∧ i < (L : Int)) (hd : decode cc pc = .ok (.iaload, 1))
    (kk : hm_G E p l e R s m args below meth c nL b0 Qf (pc + 1) ls (.inl (xs i.toNat) :: st) M) : hm_G E p l e R s m args below meth c nL b0 Qf pc ls (.inl i :: .inr 1 :: st) M := by
  intro H locs cells slots la ho rg hS e1 e2 c1 c2 hl
  obtain ⟨ys, h1, h2, h3, h4, h5⟩ := hsc rfl
  have hi := rg.top
  refine va_sld X.1 X.2.1 h1 h2 (by show ¬ E.2.2.2 ≤ E.2.2.1; omega) hS (hm_vpin hi h.1 h.2) hd ?_
  have hk := kk H locs cells slots la ho (rg.pop.pop.push (by rw [h5]; exact hm_bk _)) hS e1 e2 c1 c2 hl
  rw [hm_nat hi]
  have e5 : (Sum.inl (xs i.toNat) :: st : List hm_V).map (hm_tr E) = .int (ys i.toNat) :: st.map (hm_tr E) := by
    show Value.int (Int32.ofInt (xs i.toNat)) :: _ = _
    rw [h5, hm_back]
  rw [e5] at hk
  exact hk
theorem hs_scrlen {L : Nat} {xs : Nat → Int} (X : hm_cx E d o cc nL p R s m args c) (hsc : hm_scr true L xs E s) (hd : decode cc pc = .ok (.arraylength, 1))
    (kk : hm_G E p l e R s m args below meth c nL b0 Qf (pc + 1) ls (.inl (L : Int) :: st) M) : hm_G E p l e R s m args below meth c nL b0 Qf pc ls (.inr 1 :: st) M := by
  intro H locs cells slots la ho rg hS e1 e2 c1 c2 hl
  obtain ⟨ys, h1, h2, h3, h4, h5⟩ := hsc rfl
  refine va_slen X.1 X.2.1 h1 h2 (by show ¬ E.2.2.2 ≤ E.2.2.1; omega) hS hd ?_
  have hk := kk H locs cells slots la ho (rg.pop.push ⟨by omega, by omega⟩) hS e1 e2 c1 c2 hl
  have e5 : (Sum.inl (L : Int) :: st : List hm_V).map (hm_tr E) = .int (Int32.ofNat L) :: st.map (hm_tr E) := by
    show Value.int (Int32.ofInt (L : Int)) :: _ = _
    rw [Int32.ofInt_eq_ofNat]
  rw [e5] at hk
  exact hk
theorem hm_sw_mono {v : Int} {nx nx' : Nat → Prop} (hm : ∀ q, nx q → nx' q) : ∀ (os : List Int) (lo : Int), hm_sw pc v nx lo os → hm_sw pc v nx' lo os
  | [], lo, h => trivial
  | o1 :: os, lo, h => ⟨fun q => hm _ (h.1 q), hm_sw_mono hm os (lo + 1) h.2⟩
set_option maxHeartbeats 4000000 in
/-- one instruction of the small machine is one of the machine's -/
theorem hm_snd {lw zb ini : Bool} {L : Nat} {xs : Nat → Int} {C : Nat → List hm_V → hm_M → hm_P → Prop} {Q : hm_P} {row : hm_row} {nx : Nat → List hm_V → List hm_V → hm_M → Prop} (X : hm_cx E d o cc nL p R s m args c) (hsc : hm_scr lw L xs E s) (hini : ini = true → meth.name = "<init>")
    (hC : ∀ j as M' Q', C j as M' Q' → ∃ d', d = d' + 1 ∧ hm_Ev d' j as M' Q')
    (hri : ∀ v, decode cc pc = .ok (.ireturn, 1) → (zb = true → 0 ≤ v ∧ v ≤ 1) → Q [.inl v] M → hm_G E p l e R s m args below meth c nL b0 Qf pc ls [.inl v] M)
    (hrv : decode cc pc = .ok (.return_, 1) → Q [] M → hm_G E p l e R s m args below meth c nL b0 Qf pc ls [] M)
    (hck : hm_ck ini o nL cc pc row = true) (h : hm_st lw L xs zb (b0.1 + R.cells, b0.2 + R.slots) C Q row pc ls st M nx) (hn : ∀ pc' ls' st' M', nx pc' ls' st' M' → hm_G E p l e R s m args below meth c nL b0 Qf pc' ls' st' M') : hm_G E p l e R s m args below meth c nL b0 Qf pc ls st M := by
  obtain ⟨ins, len, x, y, w⟩ := row
  simp only [hm_ck, Bool.and_eq_true, decide_eq_true_eq] at hck
  obtain ⟨hdec, hck⟩ := hck
  cases ins with
  | iconst n =>
    simp only [hm_ckr, Bool.and_eq_true, beq_iff_eq, decide_eq_true_eq] at hck
    obtain ⟨rfl, h1⟩ := hck
    exact hs_iconst X (hm_inb_in h1) hdec (hn _ _ _ _ h)
  | bipush n =>
    simp only [hm_ckr, Bool.and_eq_true, beq_iff_eq, decide_eq_true_eq] at hck
    obtain ⟨⟨rfl, h1⟩, h2⟩ := hck
    exact hs_bipush X (hm_inb_in h1) h2 hdec (hn _ _ _ _ h)
  | sipush n =>
    simp only [hm_ckr, Bool.and_eq_true, beq_iff_eq, decide_eq_true_eq] at hck
    obtain ⟨⟨rfl, h1⟩, h2⟩ := hck
    exact hs_sipush X (hm_inb_in h1) h2 hdec (hn _ _ _ _ h)
  | ldc_w i =>
    simp only [hm_ckr, Bool.and_eq_true, beq_iff_eq, decide_eq_true_eq] at hck
    obtain ⟨rfl, h1⟩ := hck
    have h2 := hm_CO_at h1
    exact hs_ldcw X h2.1 h2.2 hdec (hn _ _ _ _ h)
  | aconst_null =>
    simp only [hm_ckr, Bool.and_eq_true, beq_iff_eq, decide_eq_true_eq] at hck
    obtain rfl := hck
    exact hs_null X hdec (hn _ _ _ _ h)
  | iload i =>
    simp only [hm_ckr, Bool.and_eq_true, beq_iff_eq, decide_eq_true_eq] at hck
    obtain rfl := hck
    simp only [hm_st] at h
    split at h
    · next a hk => exact hs_iload X hk hdec (hn _ _ _ _ h)
    · exact h.elim
  | iload_n i =>
    simp only [hm_ckr, Bool.and_eq_true, beq_iff_eq, decide_eq_true_eq] at hck
    obtain rfl := hck
    simp only [hm_st] at h
    split at h
    · next a hk => exact hs_iloadn X hk hdec (hn _ _ _ _ h)
    · exact h.elim
  | aload i =>
    simp only [hm_ckr, Bool.and_eq_true, beq_iff_eq, decide_eq_true_eq] at hck
    obtain rfl := hck
    simp only [hm_st] at h
    split at h
    · next a hk => exact hs_aload X hk hdec (hn _ _ _ _ h)
    · exact h.elim
  | aload_n i =>
    simp only [hm_ckr, Bool.and_eq_true, beq_iff_eq, decide_eq_true_eq] at hck
    obtain rfl := hck
    simp only [hm_st] at h
    split at h
    · next a hk => exact hs_aloadn X hk hdec (hn _ _ _ _ h)
    · exact h.elim
  | istore i =>
    simp only [hm_ckr, Bool.and_eq_true, beq_iff_eq, decide_eq_true_eq] at hck
    obtain ⟨rfl, h1⟩ := hck
    simp only [hm_st] at h
    split at h
    · next a q =>
      cases hb : Nat.ble (i) ls.length with
      | true =>
        rw [hb] at h
        exact hs_istore X (Nat.le_of_ble_eq_true hb) h1 hdec (hn _ _ _ _ h)
      | false =>
        rw [hb] at h
        exact h.elim
    · exact h.elim
  | istore_n i =>
    simp only [hm_ckr, Bool.and_eq_true, beq_iff_eq, decide_eq_true_eq] at hck
    obtain ⟨rfl, h1⟩ := hck
    simp only [hm_st] at h
    split at h
    · next a q =>
      cases hb : Nat.ble ((i : Nat)) ls.length with
      | true =>
        rw [hb] at h
        exact hs_istoren X (Nat.le_of_ble_eq_true hb) h1 hdec (hn _ _ _ _ h)
      | false =>
        rw [hb] at h
        exact h.elim
    · exact h.elim
  | astore i =>
    simp only [hm_ckr, Bool.and_eq_true, beq_iff_eq, decide_eq_true_eq] at hck
    obtain ⟨rfl, h1⟩ := hck
    simp only [hm_st] at h
    split at h
    · next a q =>
      cases hb : Nat.ble (i) ls.length with
      | true =>
        rw [hb] at h
        exact hs_astore X (Nat.le_of_ble_eq_true hb) h1 hdec (hn _ _ _ _ h)
      | false =>
        rw [hb] at h
        exact h.elim
    · exact h.elim
  | astore_n i =>
    simp only [hm_ckr, Bool.and_eq_true, beq_iff_eq, decide_eq_true_eq] at hck
    obtain ⟨rfl, h1⟩ := hck
    simp only [hm_st] at h
    split at h
    · next a q =>
      cases hb : Nat.ble ((i : Nat)) ls.length with
      | true =>
        rw [hb] at h
        exact hs_astoren X (Nat.le_of_ble_eq_true hb) h1 hdec (hn _ _ _ _ h)
      | false =>
        rw [hb] at h
        exact h.elim
    · exact h.elim
  | iinc i n =>
    simp only [hm_ckr, Bool.and_eq_true, beq_iff_eq, decide_eq_true_eq] at hck
    obtain ⟨rfl, h1⟩ := hck
    simp only [hm_st] at h
    split at h
    · next a hk => exact hs_iinc X hk h1 h.1 hdec (hn _ _ _ _ h.2)
    · exact h.elim
  | iadd =>
    simp only [hm_ckr, Bool.and_eq_true, beq_iff_eq, decide_eq_true_eq] at hck
    obtain rfl := hck
    simp only [hm_st] at h
    split at h
    · exact hs_iadd X h.1 hdec (hn _ _ _ _ h.2)
    · exact h.elim
  | isub =>
    simp only [hm_ckr, Bool.and_eq_true, beq_iff_eq, decide_eq_true_eq] at hck
    obtain rfl := hck
    simp only [hm_st] at h
    split at h
    · exact hs_isub X h.1 hdec (hn _ _ _ _ h.2)
    · exact h.elim
  | imul =>
    simp only [hm_ckr, Bool.and_eq_true, beq_iff_eq, decide_eq_true_eq] at hck
    obtain rfl := hck
    simp only [hm_st] at h
    split at h
    · exact hs_imul X h.1 hdec (hn _ _ _ _ h.2)
    · exact h.elim
  | idiv =>
    simp only [hm_ckr, Bool.and_eq_true, beq_iff_eq, decide_eq_true_eq] at hck
    obtain rfl := hck
    simp only [hm_st] at h
    split at h
    · exact hs_idiv X h.1 hdec (hn _ _ _ _ h.2)
    · exact h.elim
  | irem =>
    simp only [hm_ckr, Bool.and_eq_true, beq_iff_eq, decide_eq_true_eq] at hck
    obtain rfl := hck
    simp only [hm_st] at h
    split at h
    · exact hs_irem X h.1 hdec (hn _ _ _ _ h.2)
    · exact h.elim
  | iand =>
    simp only [hm_ckr, Bool.and_eq_true, beq_iff_eq, decide_eq_true_eq] at hck
    obtain rfl := hck
    simp only [hm_st] at h
    split at h
    · exact hs_iand X hdec (hn _ _ _ _ h)
    · exact h.elim
  | ior =>
    simp only [hm_ckr, Bool.and_eq_true, beq_iff_eq, decide_eq_true_eq] at hck
    obtain rfl := hck
    simp only [hm_st] at h
    split at h
    · exact hs_ior X hdec (hn _ _ _ _ h)
    · exact h.elim
  | ixor =>
    simp only [hm_ckr, Bool.and_eq_true, beq_iff_eq, decide_eq_true_eq] at hck
    obtain rfl := hck
    simp only [hm_st] at h
    split at h
    · exact hs_ixor X hdec (hn _ _ _ _ h)
    · exact h.elim
  | ishl =>
    simp only [hm_ckr, Bool.and_eq_true, beq_iff_eq, decide_eq_true_eq] at hck
    obtain rfl := hck
    simp only [hm_st] at h
    split at h
    · exact hs_ishl X hdec (hn _ _ _ _ h)
    · exact h.elim
  | ishr =>
    simp only [hm_ckr, Bool.and_eq_true, beq_iff_eq, decide_eq_true_eq] at hck
    obtain rfl := hck
    simp only [hm_st] at h
    split at h
    · exact hs_ishr X hdec (hn _ _ _ _ h)
    · exact h.elim
  | iushr =>
    simp only [hm_ckr, Bool.and_eq_true, beq_iff_eq, decide_eq_true_eq] at hck
    obtain rfl := hck
    simp only [hm_st] at h
    split at h
    · exact hs_iushr X hdec (hn _ _ _ _ h)
    · exact h.elim
  | if_icmp cp off =>
    simp only [hm_ckr, Bool.and_eq_true, beq_iff_eq, decide_eq_true_eq] at hck
    obtain ⟨rfl, h1⟩ := hck
    simp only [hm_st] at h
    split at h
    · exact hs_icmp X h1 hdec (fun q => hn _ _ _ _ (h.1 q)) (fun q => hn _ _ _ _ (h.2 q))
    · exact h.elim
  | ifCond cp off =>
    simp only [hm_ckr, Bool.and_eq_true, beq_iff_eq, decide_eq_true_eq] at hck
    obtain ⟨rfl, h1⟩ := hck
    simp only [hm_st] at h
    split at h
    · exact hs_if X h1 hdec (fun q => hn _ _ _ _ (h.1 q)) (fun q => hn _ _ _ _ (h.2 q))
    · exact h.elim
  | ifnull off =>
    simp only [hm_ckr, Bool.and_eq_true, beq_iff_eq, decide_eq_true_eq] at hck
    obtain ⟨rfl, h1⟩ := hck
    simp only [hm_st] at h
    split at h
    · exact hs_ifnull X h1 hdec (fun q => hn _ _ _ _ (h.1 q)) (fun q => hn _ _ _ _ (h.2 q))
    · exact h.elim
  | goto off =>
    simp only [hm_ckr, Bool.and_eq_true, beq_iff_eq, decide_eq_true_eq] at hck
    obtain ⟨rfl, h1⟩ := hck
    exact hs_goto X h1 hdec (hn _ _ _ _ h)
  | dup =>
    simp only [hm_ckr, Bool.and_eq_true, beq_iff_eq, decide_eq_true_eq] at hck
    obtain rfl := hck
    simp only [hm_st] at h
    split at h
    · exact hs_dup X hdec (hn _ _ _ _ h)
    · exact h.elim
  | dup2 =>
    simp only [hm_ckr, Bool.and_eq_true, beq_iff_eq, decide_eq_true_eq] at hck
    obtain rfl := hck
    simp only [hm_st] at h
    split at h
    · exact hs_dup2 X hdec (hn _ _ _ _ h)
    · exact h.elim
  | pop =>
    simp only [hm_ckr, Bool.and_eq_true, beq_iff_eq, decide_eq_true_eq] at hck
    obtain rfl := hck
    simp only [hm_st] at h
    split at h
    · exact hs_pop X hdec (hn _ _ _ _ h)
    · exact h.elim
  | tableswitch df lo hi offs =>
    simp only [hm_ckr, Bool.and_eq_true, beq_iff_eq, decide_eq_true_eq] at hck
    obtain ⟨⟨h1, h2⟩, h3⟩ := hck
    simp only [hm_st] at h
    split at h
    · exact hs_switch X h1 (fun k q hk => by
        have h4 := List.all_eq_true.mp h2 q (by rw [← Array.getElem?_toList] at hk; exact List.mem_of_getElem? hk)
        simpa using h4) h3 hdec (fun q => hn _ _ _ _ (h.1 q)) (hm_sw_mono (fun q hq => hn _ _ _ _ hq) _ _ h.2)
    · exact h.elim
  | getfield i =>
    simp only [hm_ckr, Bool.and_eq_true, beq_iff_eq, decide_eq_true_eq] at hck
    obtain ⟨rfl, h1⟩ := hck
    simp only [hm_st] at h
    split at h
    · refine hs_getfield X h1 h.1 hdec (fun q => ?_) (fun q => ?_)
      · have h2 := h.2
        rw [q] at h2
        exact hn _ _ _ _ h2
      · have h2 := h.2
        rw [q] at h2
        exact hn _ _ _ _ h2
    · exact h.elim
  | putfield i =>
    simp only [hm_ckr, Bool.and_eq_true, beq_iff_eq, Bool.or_eq_true, Bool.not_eq_true'] at hck
    obtain ⟨⟨rfl, h1⟩, h2⟩ := hck
    have hfin : (hm_T x y).2.2.2 = false ∨ (meth.name = "<init>" ∧ hm_nm x = hm_nm o) := by
      rcases h2 with q | q
      · exact Or.inl q
      · exact Or.inr ⟨hini q.1, by rw [q.2]⟩
    simp only [hm_st] at h
    cases hi : hm_isr x y with
    | true =>
      rw [hi] at h
      dsimp only [cond] at h
      split at h
      · exact hs_putB X h1 h.1 hfin hi hdec (hn _ _ _ _ h.2)
      · exact h.elim
    | false =>
      rw [hi] at h
      dsimp only [cond] at h
      split at h
      · exact hs_putA X h1 h.1 hfin hi hdec (hn _ _ _ _ h.2)
      · exact h.elim
  | iaload =>
    simp only [hm_ckr, Bool.and_eq_true, beq_iff_eq, decide_eq_true_eq] at hck
    obtain rfl := hck
    simp only [hm_st] at h
    split at h
    · cases lw with
      | true =>
        obtain ⟨⟨rfl, h2⟩, h3⟩ := h
        exact hs_scr X hsc h2 hdec (hn _ _ _ _ h3)
      | false => exact hs_iaload X h.1 hdec (hn _ _ _ _ h.2)
    · exact h.elim
  | baload =>
    simp only [hm_ckr, Bool.and_eq_true, beq_iff_eq, decide_eq_true_eq] at hck
    obtain rfl := hck
    simp only [hm_st] at h
    split at h
    · exact hs_baload X h.1 hdec (hn _ _ _ _ h.2)
    · exact h.elim
  | aaload =>
    simp only [hm_ckr, Bool.and_eq_true, beq_iff_eq, decide_eq_true_eq] at hck
    obtain rfl := hck
    simp only [hm_st] at h
    split at h
    · exact hs_aaload X h.1 hdec (hn _ _ _ _ h.2)
    · exact h.elim
  | iastore =>
    simp only [hm_ckr, Bool.and_eq_true, beq_iff_eq, decide_eq_true_eq] at hck
    obtain rfl := hck
    simp only [hm_st] at h
    split at h
    · exact hs_iastore X h.1 hdec (hn _ _ _ _ h.2)
    · exact h.elim
  | bastore =>
    simp only [hm_ckr, Bool.and_eq_true, beq_iff_eq, decide_eq_true_eq] at hck
    obtain rfl := hck
    simp only [hm_st] at h
    split at h
    · exact hs_bastore X h.1 hdec (hn _ _ _ _ h.2)
    · exact h.elim
  | aastore =>
    simp only [hm_ckr, Bool.and_eq_true, beq_iff_eq, decide_eq_true_eq] at hck
    obtain rfl := hck
    simp only [hm_st] at h
    split at h
    · exact hs_aastore X h.1 hdec (hn _ _ _ _ h.2)
    · exact h.elim
  | arraylength =>
    simp only [hm_ckr, Bool.and_eq_true, beq_iff_eq, decide_eq_true_eq] at hck
    obtain rfl := hck
    simp only [hm_st] at h
    split at h
    · cases lw with
      | true =>
        obtain ⟨rfl, h3⟩ := h
        exact hs_scrlen X hsc hdec (hn _ _ _ _ h3)
      | false => exact hs_alen X h.1 hdec (hn _ _ _ _ h.2)
    · exact h.elim
  | newarray t =>
    simp only [hm_ckr, Bool.and_eq_true, beq_iff_eq, decide_eq_true_eq, Bool.or_eq_true] at hck
    obtain ⟨rfl, h1⟩ := hck
    simp only [hm_st] at h
    split at h
    · exact hs_newarray X h1 h.1 hdec (hn _ _ _ _ h.2)
    · exact h.elim
  | anewarray i =>
    simp only [hm_ckr, Bool.and_eq_true, beq_iff_eq, decide_eq_true_eq] at hck
    obtain ⟨rfl, h1⟩ := hck
    simp only [hm_st] at h
    split at h
    · exact hs_anewarray X h1 h.1 hdec (hn _ _ _ _ h.2)
    · exact h.elim
  | new i =>
    simp only [hm_ckr, Bool.and_eq_true, beq_iff_eq, decide_eq_true_eq] at hck
    obtain ⟨rfl, h1⟩ := hck
    exact hs_new (z := 0) X h1 h.1 hdec (hn _ _ _ _ h.2)
  | invokespecial i =>
    simp only [hm_ckr, Bool.and_eq_true, beq_iff_eq] at hck
    obtain ⟨rfl, h1⟩ := hck
    simp only [hm_st] at h
    cases hx : (x == 998) with
    | true =>
      rw [hx] at h h1
      dsimp only [cond] at h h1
      split at h
      · next r q =>
        cases hb : Nat.ble q.length 8 with
        | true =>
          rw [hb] at h
          exact hs_objinit X h1 h.1 (Nat.le_of_ble_eq_true hb) hdec (hn _ _ _ _ h.2)
        | false =>
          rw [hb] at h
          exact h.2.elim
      · exact h.elim
    | false =>
      rw [hx] at h h1
      dsimp only [cond] at h h1
      simp only [Bool.and_eq_true, Bool.or_eq_true, beq_iff_eq, decide_eq_true_eq] at h1
      obtain ⟨⟨⟨h1, h2⟩, h3⟩, h4⟩ := h1
      split at h
      · next r q hdr =>
        cases hb : Nat.ble q.length 8 with
        | false =>
          rw [hb] at h
          exact h.elim
        | true =>
          rw [hb] at h
          obtain ⟨h5, h6, h7⟩ := h
          obtain ⟨d', hd', hEv⟩ := hC _ _ _ _ h7
          have hst : st = (st.take y).reverse.reverse ++ .inr r :: q := by rw [List.reverse_reverse, ← hdr, List.take_append_drop]
          have hly : (st.take y).reverse.length = hm_np x := by
            rw [List.length_reverse, List.length_take]
            have := congrArg List.length hdr
            simp only [List.length_drop, List.length_cons] at this
            omega
          rw [hst]
          rcases h1 with h1 | h1
          · exact hs_special X (Or.inl rfl) h1 h2 hly h4 h5 h6 hd' (Nat.le_of_ble_eq_true hb) hdec hEv (fun r M' hr => hn _ _ _ _ hr)
          · exact hs_special X (Or.inr rfl) h1 h2 hly h4 h5 h6 hd' (Nat.le_of_ble_eq_true hb) hdec hEv (fun r M' hr => hn _ _ _ _ hr)
      · exact h.elim
  | invokevirtual i =>
    simp only [hm_ckr, Bool.and_eq_true, beq_iff_eq, decide_eq_true_eq] at hck
    obtain ⟨⟨⟨⟨⟨⟨rfl, h1⟩, h2⟩, h3⟩, h4⟩, h5⟩, h6⟩ := hck
    simp only [hm_st] at h
    split at h
    · next r q hdr =>
      cases hb : Nat.ble q.length 8 with
      | false =>
        rw [hb] at h
        exact h.elim
      | true =>
        rw [hb] at h
        obtain ⟨h7, h8⟩ := h
        obtain ⟨d', hd', hEv⟩ := hC _ _ _ _ h8
        have hst : st = (st.take y).reverse.reverse ++ .inr r :: q := by rw [List.reverse_reverse, ← hdr, List.take_append_drop]
        have hly : (st.take y).reverse.length = hm_np x := by
          rw [List.length_reverse, List.length_take]
          have := congrArg List.length hdr
          simp only [List.length_drop, List.length_cons] at this
          omega
        rw [hst]
        exact hs_virtual X h1 h2 hly h6 h4 h5 h7 hd' (Nat.le_of_ble_eq_true hb) hdec hEv (fun r M' hr => hn _ _ _ _ hr)
    · exact h.elim
  | invokestatic i =>
    simp only [hm_ckr, Bool.and_eq_true, beq_iff_eq] at hck
    obtain ⟨rfl, h1⟩ := hck
    simp only [hm_st] at h
    cases hx : (x == 999) with
    | true =>
      rw [hx] at h h1
      dsimp only [cond] at h h1
      split at h
      · next n dp dst sp src q =>
        cases hb : Nat.ble q.length 8 with
        | true =>
          rw [hb] at h
          exact hs_copy X h1 (Nat.le_of_ble_eq_true hb) h.1 hdec (hn _ _ _ _ h.2)
        | false =>
          rw [hb] at h
          exact h.elim
      · exact h.elim
    | false =>
      rw [hx] at h h1
      dsimp only [cond] at h h1
      cases hx2 : (x == 997) with
      | true =>
        rw [hx2] at h h1
        dsimp only [cond] at h h1
        split at h
        · next b a q =>
          cases hb : Nat.ble q.length 8 with
          | true =>
            rw [hb] at h
            exact hs_max X h1 (Nat.le_of_ble_eq_true hb) hdec (hn _ _ _ _ h)
          | false =>
            rw [hb] at h
            exact h.elim
        · exact h.elim
      | false =>
        rw [hx2] at h h1
        dsimp only [cond] at h h1
        simp only [Bool.and_eq_true, Bool.or_eq_true, beq_iff_eq, decide_eq_true_eq] at h1
        obtain ⟨⟨⟨h1, h2⟩, h3⟩, h4⟩ := h1
        cases hb : (Nat.ble (st.drop y).length 8 && Nat.ble y st.length) with
        | false =>
          rw [hb] at h
          exact h.elim
        | true =>
          rw [hb] at h
          simp only [Bool.and_eq_true] at hb
          have hb1 := Nat.le_of_ble_eq_true hb.1
          have hb2 := Nat.le_of_ble_eq_true hb.2
          obtain ⟨d', hd', hEv⟩ := hC _ _ _ _ h
          have hst : st = (st.take y).reverse.reverse ++ st.drop y := by rw [List.reverse_reverse, List.take_append_drop]
          have hly : (st.take y).reverse.length = hm_np x := by
            rw [List.length_reverse, List.length_take]
            omega
          generalize st.drop y = q at hst hb1 h hEv
          generalize (st.take y).reverse = as at hst hly hEv
          subst hst
          rcases h1 with h1 | h1
          · exact hs_static X (Or.inl rfl) h1 h2 hly h4 hd' hb1 hdec hEv (fun r M' hr => hn _ _ _ _ hr)
          · exact hs_static X (Or.inr rfl) h1 h2 hly h4 hd' hb1 hdec hEv (fun r M' hr => hn _ _ _ _ hr)
  | ireturn =>
    simp only [hm_ckr, Bool.and_eq_true, beq_iff_eq, decide_eq_true_eq] at hck
    obtain rfl := hck
    simp only [hm_st] at h
    split at h
    · cases zb with
      | true => exact hri _ hdec (fun _ => h.1) h.2
      | false => exact hri _ hdec (fun q => by cases q) h
    · exact h.elim
  | return_ =>
    simp only [hm_ckr, Bool.and_eq_true, beq_iff_eq, decide_eq_true_eq] at hck
    obtain rfl := hck
    simp only [hm_st] at h
    split at h
    · exact hrv hdec h
    · exact h.elim
  | _ => exact h.elim
end HS

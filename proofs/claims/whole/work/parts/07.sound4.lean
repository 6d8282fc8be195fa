/-! REFERENCES, NEW OBJECTS, COPIES, CALLS, RETURNS -/
section HS
variable {p : Program} {l : Launch} {e : Env} {R : Room} {s : State} {m : MethodId} {args : Array Value} {below : List Frame} {meth : Method} {c : Code} {Qf : State → Prop} {E : hm_E} {b0 : Nat × Nat} {nL : Nat} {cc : ByteArray} {d o : Nat} {pc : Nat} {ls st : List hm_V} {M : hm_M}
theorem hs_aastore (X : hm_cx E d o cc nL p R s m args c) {r v : Nat} {i : Int} (h : hm_kd M r = 2 ∧ 0 ≤ i ∧ i < (hm_ln M r : Int) ∧ hm_kd M v = 3) (hd : decode cc pc = .ok (.aastore, 1))
    (kk : hm_G E p l e R s m args below meth c nL b0 Qf (pc + 1) ls st (hm_uB M r i.toNat v)) : hm_G E p l e R s m args below meth c nL b0 Qf pc ls (.inr v :: .inl i :: .inr r :: st) M := by
  intro H locs cells slots la ho rg hS e1 e2 c1 c2 hl
  obtain ⟨j, rfl, hj, hrf, hat⟩ := hm_obj ho h.1 (by omega)
  obtain ⟨n, rfl, hn, hrfv, hatv⟩ := hm_obj ho h.2.2.2 (by omega)
  have hi := rg.pop.top
  have hin := hm_vpin hi h.2.1 h.2.2.1
  have hK := X.2.2.2.2.2.1.1
  have hlt : (Int32.ofInt i).toNatClampNeg < hm_ln M (j + 2) := Nat.not_le.mp fun q => hin (Or.inr q)
  obtain ⟨r', hr', cellV, g1, g2, g3, -⟩ := ho.2.2.2 n _ hatv
  have hcl0 : hm_cl[0]? = some (hm_nm 0, hm_T 0, hm_N 0) := rfl
  have hcls := (hK.1 0 _ hcl0).2
  obtain ⟨kA, comp, k1, k2, k3, -⟩ := (hK.2 2 _ (show (hm_tys E)[2]? = some (E.2.1.2.2, .object (hm_nm 0)) from rfl)).2
  have hcomp : comp = E.1.1 0 := Option.some.inj (k3.symm.trans hcls.1)
  subst hcomp
  obtain ⟨kC, hkC, hkk⟩ := hcls.2
  refine W.aast X.1 X.2.1 (ho.2.2.2 j _ hat) (fun q h => by cases h) (fun h => by cases h) k1 k2 rfl hkC ⟨fun q => hin (Or.inl q), by show _ < (arrV _ _ _).slots.size; rw [arrV_size]; exact hlt⟩ g1 (fun q h => by rw [g3] at h; cases h) (by rw [g2]; exact hkC) (by rw [g2]; exact va_assign hcls) rfl rfl hd fun H1 b1 b2 b3 => ?_
  refine kk H1 _ cells slots la ?_ (rg.pop.pop.pop.uB) (hS.put b2 b3 (Nat.le_add_right _ _)) e1 e2 c1 c2 hl
  have h1 := ho.put hj (f := M.2.1 (j + 2)) (g := va_up (M.2.2 (j + 2)) i.toNat (n + 2)) (H1 := H1) (by
    rw [h.1]
    show H1[_]? = some (vp_cell _ _)
    rw [b1]
    show some (Cell.setSlot (vp_cell E.2.1.2.2 (hm_ln M (j + 2), .inr (.inr (.inr (.inr (fun z => hm_rf E (M.2.2 (j + 2) z))))))) _ _) = some (vp_cell E.2.1.2.2 (hm_ln M (j + 2), .inr (.inr (.inr (.inr (fun z => hm_rf E (va_up (M.2.2 (j + 2)) i.toNat (n + 2) z)))))))
    rw [vp_cell_q, vp_cell_q, arrV_store]
    congr 2
    funext q
    rw [hm_nat hi]
    by_cases hq : q = i.toNat
    · subst hq
      simp [updV, va_up, hrfv, va_rf]
    · simp [updV, va_up, hq]) b2 b3
  rw [va_up_same] at h1
  exact h1
theorem hm_sl_nw (M : hm_M) (kd n : Nat) : hm_sl (hm_nw M kd n) = hm_sl M + n := by simp [hm_sl, hm_nw]
theorem hm_ln_nw (M : hm_M) (kd n : Nat) : (hm_nw M kd n).1.length = M.1.length + 1 := by simp [hm_nw]
theorem hm_S.new {E : hm_E} {s : State} {H H1 : Heap} {locs : List Loc} (hS : va_S (fun q => E.2.2.2 ≤ q) s.heap H locs) (hz : H1.size = H.size + 1) (oq : ∀ q : Nat, q < H.size → H1[q]? = H[q]?) : va_S (fun q => E.2.2.2 ≤ q) s.heap H1 locs :=
  ⟨Nat.le_trans hS.1 (by omega), fun x h1 h2 => (oq x (Nat.lt_of_lt_of_le h1 hS.1)).trans (hS.2.1 x h1 h2), hS.2.2⟩
theorem hm_new_ref {H : Heap} (ho : hm_ho E M H) : hm_tr E (.inr M.1.length) = .ref H.size := by
  have h2 := ho.1
  have h3 := ho.2.1
  obtain ⟨k, hk⟩ : ∃ k, M.1.length = k + 2 := ⟨M.1.length - 2, by omega⟩
  show va_rf (hm_rf E M.1.length) = _
  rw [hk]
  show Value.ref (E.2.2.2 + k) = _
  rw [show E.2.2.2 + k = H.size by omega]
theorem hs_new (X : hm_cx E d o cc nL p R s m args c) {i ci z : Nat} (hq : (hm_CL.any (fun q => q.1 == o && q.2.1 == i && q.2.2.1 == ci)) = true) (hcap : M.1.length + 1 ≤ b0.1 + R.cells ∧ hm_sl M + hm_N ci ≤ b0.2 + R.slots) (hd : decode cc pc = .ok (.new i, 3))
    (kk : hm_G E p l e R s m args below meth c nL b0 Qf (pc + 3) ls (.inr M.1.length :: st) (hm_nw M (ci + 3) (hm_N ci))) : hm_G E p l e R s m args below meth c nL b0 Qf pc ls st M := by
  intro H locs cells slots la ho rg hS e1 e2 c1 c2 hl
  obtain ⟨⟨o', i', c', z'⟩, hm, h1⟩ := List.any_eq_true.mp hq
  simp only [Bool.and_eq_true, beq_iff_eq] at h1
  obtain ⟨⟨rfl, rfl⟩, rfl⟩ := h1
  have h2 := List.all_eq_true.mp hm_CL_ok _ hm
  simp only [hm_cl1, Bool.and_eq_true, decide_eq_true_eq] at h2
  have hc := h2.2
  have hts := X.2.2.2.2.1
  have hK := X.2.2.2.2.2.1.1
  have hKn := hK.1 c' _ (hm_cl_at c' hc)
  refine W.newcK X.1 X.2.1 X.2.2.2.1 (hts _ (hm_at_in h2.1)) (hts _ (hm_cls_new c' hc).1) (hts _ (hm_cls_new c' hc).2) rfl hd (by omega) (by omega) hKn.2.1 rfl fun H1 kC hkC b1 b2 b3 => ?_
  have hwf : ∀ q, c' + 3 = q + 3 → q < 8 ∧ hm_N c' = hm_N q := by
    intro q hq
    have e9 : q = c' := by omega
    subst e9
    exact ⟨hc, rfl⟩
  have hnew : hm_ho E (hm_nw M (c' + 3) (hm_N c')) H1 := ho.new hwf (by
    refine ⟨_, hm_cl_at c' hc, (u_born (hm_ty c') hts (hm_cls_in c' hc) hKn hkC b1 (fun k hk => (hm_tyf c' hc k hk).1)).to (fun k hk => ?_)⟩
    have hk' : k < hm_N c' := hk
    have e3 : vp_V ((List.range (hm_N c')).map (hm_fv E c' (fun _ => 0) (fun _ => 0))) k = hm_fv E c' (fun _ => 0) (fun _ => 0) k := by
      simp [vp_V, List.getD_eq_getElem?_getD, hk']
    show defaultValue (hm_ty c' k) = vp_V _ k
    rw [e3]
    have h4 := (hm_tyf c' hc k hk').2.2
    cases hi : hm_isr c' k with
    | true =>
      have h5 := h4.1 hi
      cases ht : hm_ty c' k <;> rw [ht] at h5 <;> first | (exact absurd h5 (by decide)) | simp [hm_fv, hi, hm_rf, va_rf, defaultValue]
    | false =>
      rw [h4.2 hi]
      simp [hm_fv, hi, defaultValue]) b2 b3
  have h := kk H1 locs (cells + 1) (slots + hm_N c') la hnew rg.nw.pushr (hm_S.new hS b2 b3) (by rw [hm_ln_nw]; omega) (by rw [hm_sl_nw]; omega) (by omega) (by omega) hl
  have e4 : (Sum.inr M.1.length :: st : List hm_V).map (hm_tr E) = .ref H.size :: st.map (hm_tr E) := by
    show hm_tr E (.inr M.1.length) :: _ = _
    rw [hm_new_ref ho]
  rw [e4] at h
  exact h
theorem hs_newarray (X : hm_cx E d o cc nL p R s m args c) {t : ArrayType} {kd : Nat} {n : Int} (hq : (t = .int ∧ kd = 0) ∨ (t = .boolean ∧ kd = 1)) (hn : 0 ≤ n ∧ n ≤ 100000 ∧ M.1.length + 1 ≤ b0.1 + R.cells ∧ hm_sl M + n.toNat ≤ b0.2 + R.slots) (hd : decode cc pc = .ok (.newarray t, 2))
    (kk : hm_G E p l e R s m args below meth c nL b0 Qf (pc + 2) ls (.inr M.1.length :: st) (hm_nw M kd n.toNat)) : hm_G E p l e R s m args below meth c nL b0 Qf pc ls (.inl n :: st) M := by
  intro H locs cells slots la ho rg hS e1 e2 c1 c2 hl
  have hi := rg.top
  have hts := X.2.2.2.2.1
  have hK := X.2.2.2.2.2.1.1
  have hneg : ¬ Int32.ofInt n < 0 := fun q => by
    have : Int32.ofInt n < Int32.ofInt 0 := q
    rw [hm_lt hi hm_in0] at this
    omega
  have e4 : (Sum.inr M.1.length :: st : List hm_V).map (hm_tr E) = .ref H.size :: st.map (hm_tr E) := by
    show hm_tr E (.inr M.1.length) :: _ = _
    rw [hm_new_ref ho]
  have e8 : componentBytes (newarray.typeOf .int) = 4 := rfl
  have e9 : componentBytes (newarray.typeOf .boolean) = 1 := rfl
  have hw4 : (Cond.arrayClass (newarray.typeOf .int)).before args s = true := hts (.arrayClass .int) (hm_at_in hm_once4)
  have hw5 : (Cond.arrayClass (newarray.typeOf .boolean)).before args s = true := hts (.arrayClass .boolean) (hm_at_in hm_once5)
  rcases hq with ⟨rfl, rfl⟩ | ⟨rfl, rfl⟩
  · refine va_newaK X.1 X.2.1 hw4 rfl hd rfl hneg (hm_nat hi) (by rw [e8]; omega) (by omega) (by omega) rfl fun H1 cA b1 b2 b3 b4 b5 => ?_
    have hcA : cA = E.2.1.1 := Option.some.inj (b5.symm.trans (hK.2 0 _ (show (hm_tys E)[0]? = some (E.2.1.1, .int) from rfl)).2)
    subst hcA
    have hnew : hm_ho E (hm_nw M 0 n.toNat) H1 := ho.new (fun q hq => by omega) (by
      show H1[_]? = some (vp_cell _ (n.toNat, .inl (fun _ => Int32.ofInt 0)))
      rw [b1, vp_cell_i]
      rfl) b2 b3
    have h := kk H1 locs (cells + 1) (slots + n.toNat) la hnew rg.pop.nw.pushr (hm_S.new hS b2 b3) (by rw [hm_ln_nw]; omega) (by rw [hm_sl_nw]; omega) (by omega) (by omega) hl
    rw [e4] at h
    exact h
  · refine va_newaK X.1 X.2.1 hw5 rfl hd rfl hneg (hm_nat hi) (by rw [e9]; omega) (by omega) (by omega) rfl fun H1 cA b1 b2 b3 b4 b5 => ?_
    have hcA : cA = E.2.1.2.1 := Option.some.inj (b5.symm.trans (hK.2 1 _ (show (hm_tys E)[1]? = some (E.2.1.2.1, .boolean) from rfl)).2)
    subst hcA
    have hnew : hm_ho E (hm_nw M 1 n.toNat) H1 := ho.new (fun q hq => by omega) (by
      show H1[_]? = some (vp_cell _ (n.toNat, .inl (fun _ => Int32.ofInt 0)))
      rw [b1, vp_cell_i]
      rfl) b2 b3
    have h := kk H1 locs (cells + 1) (slots + n.toNat) la hnew rg.pop.nw.pushr (hm_S.new hS b2 b3) (by rw [hm_ln_nw]; omega) (by rw [hm_sl_nw]; omega) (by omega) (by omega) hl
    rw [e4] at h
    exact h
theorem hs_anewarray (X : hm_cx E d o cc nL p R s m args c) {i : Nat} {n : Int} (hq : (hm_CL.any (fun q => q.1 == o && q.2.1 == i && q.2.2.1 == 0)) = true) (hn : 0 ≤ n ∧ n ≤ 100000 ∧ M.1.length + 1 ≤ b0.1 + R.cells ∧ hm_sl M + n.toNat ≤ b0.2 + R.slots) (hd : decode cc pc = .ok (.anewarray i, 3))
    (kk : hm_G E p l e R s m args below meth c nL b0 Qf (pc + 3) ls (.inr M.1.length :: st) (hm_nw M 2 n.toNat)) : hm_G E p l e R s m args below meth c nL b0 Qf pc ls (.inl n :: st) M := by
  intro H locs cells slots la ho rg hS e1 e2 c1 c2 hl
  have hi := rg.top
  obtain ⟨⟨o', i', c', z'⟩, hm, h1⟩ := List.any_eq_true.mp hq
  simp only [Bool.and_eq_true, beq_iff_eq] at h1
  obtain ⟨⟨rfl, rfl⟩, rfl⟩ := h1
  have h2 := List.all_eq_true.mp hm_CL_ok _ hm
  simp only [hm_cl1, Bool.and_eq_true, decide_eq_true_eq] at h2
  have hts := X.2.2.2.2.1
  have hK := X.2.2.2.2.2.1.1
  have hneg : ¬ Int32.ofInt n < 0 := fun q => by
    have : Int32.ofInt n < Int32.ofInt 0 := q
    rw [hm_lt hi hm_in0] at this
    omega
  refine W.anew X.1 X.2.1 X.2.2.2.1 (hts _ (hm_at_in h2.1)) (va_AO.use X.2.2.2.2.2.1.2.2) rfl hd rfl hneg (by rw [hm_nat hi]; omega) (by omega) (by rw [hm_nat hi]; omega) fun cA kA comp f1 f2 f3 f4 => ?_
  rw [hm_nat hi]
  generalize hH1 : H.push ({ cls := cA, slots := Array.replicate n.toNat .null, vm := .none } : Cell) = H1
  have b2 : H1.size = H.size + 1 := by rw [← hH1, Array.size_push]
  have b1 : H1[H.size]? = some (arrV cA n.toNat (fun _ => .null)) := by rw [← hH1, Array.getElem?_push_size, ← arrV_new]
  have b3 : ∀ q : Nat, q < H.size → H1[q]? = H[q]? := fun q hq => by rw [← hH1, Array.getElem?_push, if_neg (Nat.ne_of_lt hq)]
  have e4 : (Sum.inr M.1.length :: st : List hm_V).map (hm_tr E) = .ref H.size :: st.map (hm_tr E) := by
    show hm_tr E (.inr M.1.length) :: _ = _
    rw [hm_new_ref ho]
  have hcA : cA = E.2.1.2.2 := by
    obtain ⟨kB, comp2, g1, g2, g3, g4⟩ := (hK.2 2 _ (show (hm_tys E)[2]? = some (E.2.1.2.2, .object (hm_nm 0)) from rfl)).2
    exact Option.some.inj (f1.symm.trans g4)
  subst hcA
  have hnew : hm_ho E (hm_nw M 2 n.toNat) H1 := ho.new (fun q hq => by omega) (by
    show H1[_]? = some (vp_cell _ (n.toNat, .inr (.inr (.inr (.inr (fun _ => none))))))
    rw [b1, vp_cell_q]
    rfl) b2 b3
  have h := kk H1 locs (cells + 1) (slots + n.toNat) la hnew rg.pop.nw.pushr (hm_S.new hS b2 b3) (by rw [hm_ln_nw]; omega) (by rw [hm_sl_nw]; omega) (by omega) (by omega) hl
  rw [e4] at h
  exact h
theorem hm_catsum (E : hm_E) (q : List hm_V) : ((q.map (hm_tr E)).map fun v => v.category).sum = q.length := by
  induction q with
  | nil => rfl
  | cons a q ih =>
    show (hm_tr E a).category + ((q.map (hm_tr E)).map fun v => v.category).sum = q.length + 1
    rw [ih, hm_cat]
    omega
theorem hs_copy (X : hm_cx E d o cc nL p R s m args c) {i src dst : Nat} {sp dp n : Int} (hq : (hm_AC.any (fun q => q.1 == o && q.2.1 == i)) = true) (hs8 : st.length ≤ 8) (h : hm_kd M src = 0 ∧ hm_kd M dst = 0 ∧ 0 ≤ sp ∧ 0 ≤ dp ∧ 0 ≤ n ∧ sp + n ≤ (hm_ln M src : Int) ∧ dp + n ≤ (hm_ln M dst : Int)) (hd : decode cc pc = .ok (.invokestatic i, 3))
    (kk : hm_G E p l e R s m args below meth c nL b0 Qf (pc + 3) ls st (hm_cp M src dst sp.toNat dp.toNat n.toNat)) : hm_G E p l e R s m args below meth c nL b0 Qf pc ls (.inl n :: .inl dp :: .inr dst :: .inl sp :: .inr src :: st) M := by
  intro H locs cells slots la ho rg hS e1 e2 c1 c2 hl
  obtain ⟨h1, h2, h3, h4, h5, h6, h7⟩ := h
  obtain ⟨⟨o', i', z'⟩, hm, g1⟩ := List.any_eq_true.mp hq
  simp only [Bool.and_eq_true, beq_iff_eq] at g1
  obtain ⟨rfl, rfl⟩ := g1
  have g2 := List.all_eq_true.mp hm_AC_ok _ hm
  obtain ⟨j, rfl, hj, hrf, hat⟩ := hm_obj ho h1 (by omega)
  obtain ⟨k, rfl, hk, hrfk, hatk⟩ := hm_obj ho h2 (by omega)
  have hn := rg.top
  have hdp := rg.pop.top
  have hsp := rg.pop.pop.pop.top
  have hts := X.2.2.2.2.1
  have hK := X.2.2.2.2.2.1.1
  have neg : ∀ z : Int, hm_in z → 0 ≤ z → ¬ Int32.ofInt z < 0 := fun z hz h0 q => by
    have : Int32.ofInt z < Int32.ofInt 0 := q
    rw [hm_lt hz hm_in0] at this
    omega
  have hcat := hm_catsum E st
  have hnf : nativeFrameWords "java/lang/System" "arraycopy" 5 = 7 := by decide +kernel
  have hRl := X.2.2.2.2.2.2.1.2
  have hRf := X.2.2.2.2.2.2.1.1
  have hc0 : H[E.2.2.2 + j]? = some (vp_cell E.2.1.1 (hm_ln M (j + 2), .inl (fun z => Int32.ofInt (M.2.1 (j + 2) z)))) := ho.2.2.2 j _ hat
  have hc1 : H[E.2.2.2 + k]? = some (vp_cell E.2.1.1 (hm_ln M (k + 2), .inl (fun z => Int32.ofInt (M.2.1 (k + 2) z)))) := ho.2.2.2 k _ hatk
  obtain ⟨-, k0, hk0, cm0, hkk0⟩ := (hK.2 0 _ (show (hm_tys E)[0]? = some (E.2.1.1, .int) from rfl)).1 (hm_ln M (j + 2)) (fun z => .int (Int32.ofInt (M.2.1 (j + 2) z)))
  intro T hT XT
  obtain ⟨vm', X', step⟩ := XT.arraycopy X.1 X.2.2.2.1 (hts _ (hm_at_in g2)) (hts _ (hm_at_in hm_once1)) (hts _ (hm_at_in hm_once2)) (hts _ (hm_at_in hm_once3)) (src := E.2.2.2 + j) (dst := E.2.2.2 + k) (cs := vp_cell E.2.1.1 (hm_ln M (j + 2), .inl (fun z => Int32.ofInt (M.2.1 (j + 2) z)))) (cd := vp_cell E.2.1.1 (hm_ln M (k + 2), .inl (fun z => Int32.ofInt (M.2.1 (k + 2) z)))) (srcPos := Int32.ofInt sp) (destPos := Int32.ofInt dp) (n := Int32.ofInt n) (by rw [hT]; exact hc0) (by rw [hT]; exact hc1)
    (fun _ h => by cases h) (fun _ h => by cases h) (fun h => by cases h) (fun h => by cases h) hk0 hk0 hkk0 hkk0 rfl (neg _ hsp h3) (neg _ hdp h4) (neg _ hn h5)
    (by rw [hm_toInt hsp, hm_toInt hn]; show ¬ _ > ((arrV _ _ _).slots.size : Int); rw [arrV_size]; omega)
    (by rw [hm_toInt hdp, hm_toInt hn]; show ¬ _ > ((arrV _ _ _).slots.size : Int); rw [arrV_size]; omega)
    (fun vm₁ _ i hi => by
      rw [hm_nat hn] at hi
      have e7 : (vp_cell E.2.1.1 (hm_ln M (j + 2), .inl (fun z => Int32.ofInt (M.2.1 (j + 2) z)))).slots.getD ((Int32.ofInt sp).toNatClampNeg + i) .null = .int (Int32.ofInt (M.2.1 (j + 2) ((Int32.ofInt sp).toNatClampNeg + i))) := by
        rw [vp_cell_i, Array.getD_eq_getD_getElem?, arrV_read _ _ (by rw [hm_nat hsp]; omega)]
        rfl
      refine ⟨?_, ?_⟩
      · rw [e7]; rfl
      · rw [e7]; exact trivial)
    (g := F0 m pc la (.int (Int32.ofInt n) :: .int (Int32.ofInt dp) :: .ref (E.2.2.2 + k) :: .int (Int32.ofInt sp) :: .ref (E.2.2.2 + j) :: st.map (hm_tr E))) rfl (hl.1.trans X.2.2.1.symm) (rest := st.map (hm_tr E)) rfl (by rw [X.2.1]; exact hd) (by omega) (by show 2 * 0 + _ + _ ≤ _; rw [hcat, hnf]; omega)
  have e1' : copied (vp_cell E.2.1.1 (hm_ln M (j + 2), .inl (fun z => Int32.ofInt (M.2.1 (j + 2) z)))) (vp_cell E.2.1.1 (hm_ln M (k + 2), .inl (fun z => Int32.ofInt (M.2.1 (k + 2) z)))) (Int32.ofInt sp) (Int32.ofInt dp) (Int32.ofInt n) = vp_cell E.2.1.1 (hm_ln M (k + 2), .inl (va_cpy (fun z => Int32.ofInt (M.2.1 (j + 2) z)) (fun z => Int32.ofInt (M.2.1 (k + 2) z)) (Int32.ofInt sp).toNatClampNeg (Int32.ofInt dp).toNatClampNeg (Int32.ofInt n).toNatClampNeg)) := va_copied (fun z => .int z) E.2.1.1 E.2.1.1 (n0 := hm_ln M (j + 2)) (n1 := hm_ln M (k + 2)) (sp := (Int32.ofInt sp).toNatClampNeg) (dp := (Int32.ofInt dp).toNatClampNeg) (n := (Int32.ofInt n).toNatClampNeg) (fun z => Int32.ofInt (M.2.1 (j + 2) z)) (fun z => Int32.ofInt (M.2.1 (k + 2) z)) (by rw [hm_nat hsp, hm_nat hn]; omega)
  rw [e1', hm_nat hsp, hm_nat hdp, hm_nat hn] at X' step
  have e2' : va_cpy (fun z => Int32.ofInt (M.2.1 (j + 2) z)) (fun z => Int32.ofInt (M.2.1 (k + 2) z)) sp.toNat dp.toNat n.toNat = fun z => Int32.ofInt (va_cpy (M.2.1 (j + 2)) (M.2.1 (k + 2)) sp.toNat dp.toNat n.toNat z) := by
    funext z
    unfold va_cpy
    split <;> rfl
  rw [e2'] at X' step
  generalize hcell : vp_cell E.2.1.1 (hm_ln M (k + 2), .inl (fun z => Int32.ofInt (va_cpy (M.2.1 (j + 2)) (M.2.1 (k + 2)) sp.toNat dp.toNat n.toNat z))) = cell at X' step
  have hlk : E.2.2.2 + k < H.size := (Array.getElem?_eq_some_iff.mp hc1).1
  have hheap : ((T.setVm vm').setCell (E.2.2.2 + k) cell).heap = H.setIfInBounds (E.2.2.2 + k) cell := by rw [← hT]; rfl
  have oq : ∀ q : Nat, q ≠ E.2.2.2 + k → (H.setIfInBounds (E.2.2.2 + k) cell)[q]? = H[q]? := fun q hq => by simp [Array.getElem?_setIfInBounds, Ne.symm hq]
  have b2 : (H.setIfInBounds (E.2.2.2 + k) cell).size = H.size := by simp
  have h9 := ho.put hk (f := va_cpy (M.2.1 (j + 2)) (M.2.1 (k + 2)) sp.toNat dp.toNat n.toNat) (g := M.2.2 (k + 2)) (H1 := H.setIfInBounds (E.2.2.2 + k) cell) (by
    rw [h2]
    show (H.setIfInBounds (E.2.2.2 + k) cell)[_]? = some (vp_cell E.2.1.1 (hm_ln M (k + 2), .inl (fun z => Int32.ofInt (va_cpy (M.2.1 (j + 2)) (M.2.1 (k + 2)) sp.toNat dp.toNat n.toNat z))))
    rw [hcell]
    simp [Array.getElem?_setIfInBounds, hlk]) b2 oq
  rw [va_up_same] at h9
  obtain ⟨t, a1, b1⟩ := kk _ _ cells slots la h9 rg.pop.pop.pop.pop.pop.cp ⟨by rw [b2]; exact hS.1, fun q g1 g2 => by
      rw [oq q (fun e => g2 (by rw [e]; exact Nat.le_add_right _ _))]
      exact hS.2.1 q g1 g2, fun q hq => by
      rcases List.mem_append.mp hq with h | h
      · exact hS.2.2 q h
      · obtain ⟨z, -, hz⟩ := List.mem_map.mp h
        rw [← hz]
        exact Nat.le_add_right _ _⟩ e1 e2 c1 c2 hl _ hheap X'
  exact ⟨t, step t a1, b1⟩
end HS

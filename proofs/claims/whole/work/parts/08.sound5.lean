/-! CALLS: a method's contract over the small machine -/
def hm_rm (d mc ms : Nat) : Room := { frames := d + 1, cells := mc, slots := ms, locals := 40 * d + 60 }
def hm_Qc (E : hm_E) (M : hm_M) (j : Nat) (Q : hm_P) : Array Value → State → Outcome → State → Prop := fun _ st oc t =>
  (∃ (r : List hm_V) (M' : hm_M), Q r M' ∧ r.length ≤ 1 ∧ oc = .returned (r.map (hm_tr E)).head? ∧ hm_rg [] r M' ∧ hm_ho E M' t.heap ∧ M'.1.length = M.1.length + hm_mc j ∧ hm_sl M' = hm_sl M + hm_ms j) ∧ va_F (fun q => E.2.2.2 ≤ q) st t
def hm_ws (j : Nat) : List Cond := .code (hm_me j).1 (hm_me j).2.1 (hm_me j).2.2.1 (hm_me j).2.2.2 :: hm_good
def hm_Pc (E : hm_E) (as : List hm_V) (M : hm_M) : Array Value → State → Prop := va_Pc (as.map (hm_tr E)) (fun U => hm_ho E M U.heap ∧ hm_Kx E U)
def hm_Ev (d j : Nat) (as : List hm_V) (M : hm_M) (Q : hm_P) : Prop :=
  ∀ (l : Launch) (E : hm_E), hm_rg as [] M → Met l (hm_me j).1 (hm_ws j) (hm_rm d (hm_mc j) (hm_ms j)) (hm_Pc E as M) (hm_Qc E M j Q) (hm_mc j) (hm_ms j) (fun q => E.2.2.2 ≤ q)
theorem hm_Kx.same {E : hm_E} {u U : State} (h : hm_Kx E u) (hv : u.vm = U.vm) : hm_Kx E U := by
  have hal : u.vm.Alike U.vm := by rw [hv]; exact Vm.Alike.refl U.vm
  refine ⟨h.1.moved hal, fun w hw => ?_, h.2.2.moved hal⟩
  have h1 := h.2.1 w hw
  have h2 := (List.mem_filter.mp hw).2
  cases w <;> simp only [reduceCtorEq, Bool.false_eq_true] at h2
  exact va_Nw.same rfl hv h1
theorem hm_Kx.warm {E : hm_E} {u U : State} (h : hm_Kx E u) (hW : u.WarmedH U.vm) : hm_Kx E U := by
  refine ⟨h.1.moved hW.alike, fun w hw => ?_, h.2.2.moved hW.alike⟩
  have h1 := h.2.1 w hw
  have h2 := (List.mem_filter.mp hw).2
  cases w <;> simp only [reduceCtorEq, Bool.false_eq_true] at h2
  exact va_Nw.warmM hW h1
theorem hm_Pc.blind (E : hm_E) (as : List hm_V) (M : hm_M) : FrameBlind (hm_Pc E as M) := fun a U g mk h => ⟨h.1, h.2.1, h.2.2.same rfl⟩
theorem hm_me_at {j : Nat} (hj : j < 150) (h1 : hm_kind j ≠ 9) : hm_me1 j (hm_mz.getD j (0, 0, 0, 9)) = true := by
  refine hm_me_ok j hj (fun h => h1 ?_) (fun h => h1 ?_)
  · subst h; decide
  · subst h; decide
theorem hm_goodc {j : Nat} (hj : j < 150) : ∀ w ∈ hm_ws j, w ∈ hm_good := fun w hw => by
  rcases List.mem_cons.mp hw with rfl | h
  · exact hm_me_tbl hj
  · exact h
section HS
variable {p : Program} {l : Launch} {e : Env} {R : Room} {s : State} {m : MethodId} {args : Array Value} {below : List Frame} {meth : Method} {c : Code} {Qf : State → Prop} {E : hm_E} {b0 : Nat × Nat} {nL : Nat} {cc : ByteArray} {d o : Nat} {pc : Nat} {ls st : List hm_V} {M : hm_M}
/-- behind a call -/
theorem hm_behind {H : Heap} {locs : List Loc} {cells slots j : Nat} {la : Array Slot} {st0 : List Value} {Q : hm_P} {a : Array Value}
    (hr : va_Run p l e R s m args below meth c H locs cells slots (hm_mc j) (hm_ms j) (F0 m pc la st0) (st.map (hm_tr E)) (hm_Qc E M j Q a) (fun q => E.2.2.2 ≤ q)) (hz : E.2.2.2 ≤ s.heap.size) (rg : hm_rg ls st M) (hS : va_S (fun q => E.2.2.2 ≤ q) s.heap H locs) (e1 : cells + b0.1 = M.1.length) (e2 : slots + b0.2 = hm_sl M) (c1 : cells + hm_mc j ≤ R.cells) (c2 : slots + hm_ms j ≤ R.slots) (hl : hm_LH E la nL ls)
    (kk : ∀ r M', Q r M' → hm_G E p l e R s m args below meth c nL b0 Qf (pc + 3) ls (r ++ st) M') : W p l e R s m args below meth c H locs cells slots Qf (F0 m pc la st0) := by
  intro T hT X
  obtain ⟨v, st₀, t, T', L, h0, X', hL, g1, g2, ⟨⟨r, M', hQ, hrl, hv, hrg, hho, hm1, hm2⟩, hF1, hF2⟩, st1⟩ := hr T hT X
  have hv2 : v = (r.map (hm_tr E)).head? := by
    cases hv; rfl
  have e5 : v.toList ++ st.map (hm_tr E) = (r ++ st).map (hm_tr E) := by
    rw [hv2, List.map_append]
    congr 1
    match r, hrl with
    | [], _ => rfl
    | [x], _ => rfl
    | x :: y :: z, h => simp at h
  rw [h0] at hF1 hF2
  have hk := kk r M' hQ T'.heap (locs ++ L) (cells + hm_mc j) (slots + hm_ms j) la (by rw [g1]; exact hho)
    ⟨rg.1, fun i hi => by
      rcases List.mem_append.mp hi with h | h
      · exact hrg.2.1 i h
      · exact rg.2.1 i h, hrg.2.2⟩
    ⟨Nat.le_trans hS.1 (by rw [g1]; exact hF1), fun q h1 h2 => by rw [g1, hF2 q (Nat.lt_of_lt_of_le h1 hS.1) h2]; exact hS.2.1 q h1 h2, fun q hq => by
      rcases List.mem_append.mp hq with h | h
      · exact hS.2.2 q h
      · exact hL q h⟩ (by omega) (by omega) c1 c2 hl
  obtain ⟨t2, a1, b1⟩ := hk T' rfl X'
  rw [← e5] at a1
  exact ⟨t2, st1 t2 a1, b1⟩
theorem hm_pre {H : Heap} {as : List hm_V} (X : hm_cx E d o cc nL p R s m args c) (ho : hm_ho E M H) : PreS s H (hm_Pc E as M) (as.map (hm_tr E)) :=
  ⟨hm_Pc.blind E as M, fun U hU hW => ⟨rfl, by rw [hU]; exact ho, X.2.2.2.2.2.1.warm hW⟩⟩
theorem hm_room8 (h : st.length ≤ 8) {la : Array Slot} {st0 : List Value} : 2 * (F0 m pc la st0).monitorRoom + ((st.map (hm_tr E)).map fun v => v.category).sum ≤ 8 := lv_room (by rw [hm_catsum]; exact h)
theorem hm_rm_fit {d' mc ms maxL : Nat} (hd : d = d' + 1) (X : hm_cx E d o cc nL p R s m args c) (hm : maxL ≤ 21) : (hm_rm d' mc ms).frames + 1 ≤ R.frames ∧ 8 + (maxL + 11) + (hm_rm d' mc ms).locals ≤ R.locals := by
  have h1 := X.2.2.2.2.2.2.1
  subst hd
  refine ⟨?_, ?_⟩
  · show d' + 1 + 1 ≤ R.frames
    omega
  · show 8 + (maxL + 11) + (40 * d' + 60) ≤ R.locals
    omega
theorem hm_ML_at {o i kd j : Nat} (h : (hm_ML.any (fun q => q.1 == o && q.2.1 == i && q.2.2.1 == kd && q.2.2.2.1 == j)) = true) : ∃ z, (o, i, kd, j, z) ∈ hm_ML ∧ hm_ml1 (o, i, kd, j, z) = true := by
  obtain ⟨⟨o', i', k', j', z⟩, hq, h1⟩ := List.any_eq_true.mp h
  simp only [Bool.and_eq_true, beq_iff_eq] at h1
  obtain ⟨⟨⟨rfl, rfl⟩, rfl⟩, rfl⟩ := h1
  exact ⟨z, hq, hm_ML_ok _ hq⟩
theorem hm_parts {j : Nat} (hj : j < 150) (h1 : hm_kind j ≠ 9) : Cond.initialized (hm_me j).1.cls ∈ hm_good ∧ plainName (hm_me j).1.cls = true ∧ (hm_me j).1.cls ≠ "java/lang/invoke/MethodHandle" ∧ (hm_me j).1.cls ≠ "java/lang/invoke/VarHandle" ∧ (parseMethodDescriptor (hm_me j).1.desc).map (fun d => d.parameters.length) = some (hm_np j) ∧ (hm_me j).2.2.1 ≤ 21 ∧ (hm_kind j = 0 → Cond.static (hm_me j).1 ∈ hm_good) ∧ (hm_kind j = 1 → Cond.instanceMethod (hm_me j).1 ∈ hm_good ∧ Cond.selects (hm_me j).1.cls (hm_me j).1 (hm_me j).1 ∈ hm_good) ∧ (hm_kind j = 2 → Cond.instanceMethod (hm_me j).1 ∈ hm_good ∧ (hm_me j).1.name = "<init>" ∧ (hm_me j).2.2.2 = none) := by
  have h := hm_me_at hj h1
  unfold hm_kind at h1 ⊢
  generalize hm_mz.getD j (0, 0, 0, 9) = z at h h1 ⊢
  simp only [hm_me1, Bool.and_eq_true, decide_eq_true_eq] at h
  obtain ⟨⟨⟨⟨⟨⟨g1, g2⟩, g3⟩, g4⟩, g5⟩, g6⟩, g7⟩ := h
  refine ⟨hm_at_in g1, g2, g3, g4, g5, g6, fun q => ?_, fun q => ?_, fun q => ?_⟩
  · rw [q] at g7
    exact hm_at_in g7
  · rw [q] at g7
    simp only [Bool.and_eq_true] at g7
    exact ⟨hm_at_in g7.1, hm_at_in g7.2⟩
  · rw [q] at g7
    simp only [Bool.and_eq_true, decide_eq_true_eq] at g7
    exact ⟨hm_at_in g7.1.1, g7.1.2, g7.2⟩
theorem hs_static (X : hm_cx E d o cc nL p R s m args c) {i j kd d' : Nat} {as : List hm_V} {Q : hm_P} (hkd : kd = 0 ∨ kd = 3) (hq : (hm_ML.any (fun q => q.1 == o && q.2.1 == i && q.2.2.1 == kd && q.2.2.2.1 == j)) = true) (hj : j < 150) (hn : as.length = hm_np j) (hmc : hm_mc j = 0 ∧ hm_ms j = 0) (hdd : d = d' + 1) (hs8 : st.length ≤ 8) (hd : decode cc pc = .ok (.invokestatic i, 3))
    (hE : hm_Ev d' j as M Q) (kk : ∀ r M', Q r M' → hm_G E p l e R s m args below meth c nL b0 Qf (pc + 3) ls (r ++ st) M') : hm_G E p l e R s m args below meth c nL b0 Qf pc ls (as.reverse ++ st) M := by
  intro H locs cells slots la ho rg hS e1 e2 c1 c2 hl
  obtain ⟨z, hz, h1⟩ := hm_ML_at hq
  have hts := X.2.2.2.2.1
  have hkj : hm_kind j = 0 := by
    rcases hkd with rfl | rfl
    · simp only [hm_ml1, Bool.and_eq_true, decide_eq_true_eq] at h1
      exact h1.2
    · simp only [hm_ml1, Bool.and_eq_true, decide_eq_true_eq] at h1
      exact h1.2
  obtain ⟨p1, p2, p3, p4, p5, p6, p7, -, -⟩ := hm_parts hj (by rw [hkj]; decide)
  have rg2 : hm_rg as [] M := ⟨fun x hx => rg.2.1 x (List.mem_append_left _ (List.mem_reverse.mpr hx)), fun x hx => (by cases hx), rg.2.2⟩
  have rg3 : hm_rg ls st M := ⟨rg.1, fun x hx => rg.2.1 x (List.mem_append_right _ hx), rg.2.2⟩
  have hst : (as.reverse ++ st).map (hm_tr E) = (as.map (hm_tr E)).reverse ++ st.map (hm_tr E) := by rw [List.map_append, List.map_reverse]
  rw [hst]
  have hlen : (as.map (hm_tr E)).length = hm_np j := by rw [List.length_map]; exact hn
  have hcap : cells + hm_mc j ≤ R.cells ∧ slots + hm_ms j ≤ R.slots := by rw [hmc.1, hmc.2]; exact ⟨c1, c2⟩
  have hws : hm_ws j = Cond.code (hm_me j).1 (hm_me j).2.1 (hm_me j).2.2.1 (hm_me j).2.2.2 :: hm_good := rfl
  rcases hkd with rfl | rfl
  · simp only [hm_ml1, Bool.and_eq_true, decide_eq_true_eq] at h1
    exact hm_behind (va_runS ⟨X.1, X.2.1, X.2.2.1, X.2.2.2.1, hts⟩ (hE l E rg2) ⟨callB_of (hm_np j) hts (hm_goodIn (hm_goodc hj)) hws rfl rfl (hts _ p1) (hts _ (hm_at_in h1.1)) ⟨p3, p4, p5⟩ (hm_rm_fit hdd X p6), hts _ (p7 hkj)⟩ (hm_pre X ho) rfl hlen hl.1 rfl (hm_room8 hs8) hd hcap) X.2.2.2.2.2.2.2 rg3 hS e1 e2 hcap.1 hcap.2 hl kk
  · simp only [hm_ml1, Bool.and_eq_true, decide_eq_true_eq] at h1
    have hnest : va_Nw (.methodLinkNest (hm_nm o) i (hm_me j).1 "HeapLaw") s := X.2.2.2.2.2.1.2.1 _ (List.mem_filter.mpr ⟨List.mem_of_getElem? h1.1, rfl⟩)
    exact hm_behind (va_runSN ⟨X.1, X.2.1, X.2.2.1, X.2.2.2.1, hts⟩ (hE l E rg2) ⟨va_cnB (hm_np j) hts (hm_goodIn (hm_goodc hj)) hws rfl rfl hnest (hts _ p1) ⟨p3, p4, p5⟩ (hm_rm_fit hdd X p6), hts _ (p7 hkj), trivial⟩ (hm_pre X ho) rfl hlen hl.1 rfl (hm_room8 hs8) hd hcap) X.2.2.2.2.2.2.2 rg3 hS e1 e2 hcap.1 hcap.2 hl kk
theorem hs_virtual (X : hm_cx E d o cc nL p R s m args c) {i j ci r d' : Nat} {as : List hm_V} {Q : hm_P} (hq : (hm_ML.any (fun q => q.1 == o && q.2.1 == i && q.2.2.1 == 1 && q.2.2.2.1 == j)) = true) (hj : j < 150) (hn : as.length = hm_np j) (hmc : hm_mc j = 0 ∧ hm_ms j = 0) (hc : ci < 8) (hcj : hm_nm ci = (hm_me j).1.cls) (hkr : hm_kd M r = ci + 3) (hdd : d = d' + 1) (hs8 : st.length ≤ 8) (hd : decode cc pc = .ok (.invokevirtual i, 3))
    (hE : hm_Ev d' j (.inr r :: as) M Q) (kk : ∀ q M', Q q M' → hm_G E p l e R s m args below meth c nL b0 Qf (pc + 3) ls (q ++ st) M') : hm_G E p l e R s m args below meth c nL b0 Qf pc ls (as.reverse ++ .inr r :: st) M := by
  intro H locs cells slots la ho rg hS e1 e2 c1 c2 hl
  obtain ⟨z, hz, h1⟩ := hm_ML_at hq
  have hts := X.2.2.2.2.1
  simp only [hm_ml1, Bool.and_eq_true, decide_eq_true_eq] at h1
  have hkj := h1.2
  obtain ⟨p1, p2, p3, p4, p5, p6, -, p8, -⟩ := hm_parts hj (by rw [hkj]; decide)
  have rg2 : hm_rg (.inr r :: as) [] M := ⟨fun x hx => rg.2.1 x (by
    rcases List.mem_cons.mp hx with h | h
    · cases h
    · exact List.mem_append_left _ (List.mem_reverse.mpr h)), fun x hx => (by cases hx), rg.2.2⟩
  have rg3 : hm_rg ls st M := ⟨rg.1, fun x hx => rg.2.1 x (List.mem_append_right _ (List.mem_cons_of_mem _ hx)), rg.2.2⟩
  obtain ⟨k, rfl, hk, hrf, hat⟩ := hm_obj ho hkr (by omega)
  have hst : (as.reverse ++ .inr (k + 2) :: st).map (hm_tr E) = (as.map (hm_tr E)).reverse ++ .ref (E.2.2.2 + k) :: st.map (hm_tr E) := by rw [List.map_append, List.map_reverse]; rfl
  rw [hst]
  have hlen : (as.map (hm_tr E)).length = hm_np j := by rw [List.length_map]; exact hn
  have hcap : cells + hm_mc j ≤ R.cells ∧ slots + hm_ms j ≤ R.slots := by rw [hmc.1, hmc.2]; exact ⟨c1, c2⟩
  have hws : hm_ws j = Cond.code (hm_me j).1 (hm_me j).2.1 (hm_me j).2.2.1 (hm_me j).2.2.2 :: hm_good := rfl
  have hpre := hm_pre (as := .inr (k + 2) :: as) X ho
  have hrec := va_recv X.2.2.2.2.2.1.1 ho.2.2.2 (hm_cl_at ci hc) (q0 := k) hat
  exact hm_behind (va_runV (C := (hm_me j).1.cls) ⟨X.1, X.2.1, X.2.2.1, X.2.2.2.1, hts⟩ (hE l E rg2) ⟨callB_of (hm_np j) hts (hm_goodIn (hm_goodc hj)) hws rfl rfl (hts _ p1) (hts _ (hm_at_in h1.1)) ⟨p3, p4, p5⟩ (hm_rm_fit hdd X p6), hts _ (p8 hkj).1, hts _ (p8 hkj).2⟩ ⟨hpre.1, by rw [← hcj]; exact hrec, hpre.2⟩ rfl hlen hl.1 rfl (hm_room8 hs8) hd hcap) X.2.2.2.2.2.2.2 rg3 hS e1 e2 hcap.1 hcap.2 hl kk
theorem hs_special (X : hm_cx E d o cc nL p R s m args c) {i j ci r kd d' : Nat} {as : List hm_V} {Q : hm_P} (hkd : kd = 2 ∨ kd = 5) (hq : (hm_ML.any (fun q => q.1 == o && q.2.1 == i && q.2.2.1 == kd && q.2.2.2.1 == j)) = true) (hj : j < 150) (hn : as.length = hm_np j) (hc : ci < 8) (hkr : hm_kd M r = ci + 3) (hcapM : M.1.length + hm_mc j ≤ b0.1 + R.cells ∧ hm_sl M + hm_ms j ≤ b0.2 + R.slots) (hdd : d = d' + 1) (hs8 : st.length ≤ 8) (hd : decode cc pc = .ok (.invokespecial i, 3))
    (hE : hm_Ev d' j (.inr r :: as) M Q) (kk : ∀ q M', Q q M' → hm_G E p l e R s m args below meth c nL b0 Qf (pc + 3) ls (q ++ st) M') : hm_G E p l e R s m args below meth c nL b0 Qf pc ls (as.reverse ++ .inr r :: st) M := by
  intro H locs cells slots la ho rg hS e1 e2 c1 c2 hl
  obtain ⟨z, hz, h1⟩ := hm_ML_at hq
  have hts := X.2.2.2.2.1
  have hkj : hm_kind j = 2 := by
    rcases hkd with rfl | rfl
    · simp only [hm_ml1, Bool.and_eq_true, decide_eq_true_eq] at h1
      exact h1.2
    · simp only [hm_ml1, Bool.and_eq_true, decide_eq_true_eq] at h1
      exact h1.2
  obtain ⟨p1, p2, p3, p4, p5, p6, -, -, p9⟩ := hm_parts hj (by rw [hkj]; decide)
  obtain ⟨q1, q2, q3⟩ := p9 hkj
  have rg2 : hm_rg (.inr r :: as) [] M := ⟨fun x hx => rg.2.1 x (by
    rcases List.mem_cons.mp hx with h | h
    · cases h
    · exact List.mem_append_left _ (List.mem_reverse.mpr h)), fun x hx => (by cases hx), rg.2.2⟩
  have rg3 : hm_rg ls st M := ⟨rg.1, fun x hx => rg.2.1 x (List.mem_append_right _ (List.mem_cons_of_mem _ hx)), rg.2.2⟩
  obtain ⟨k, rfl, hk, hrf, hat⟩ := hm_obj ho hkr (by omega)
  have hst : (as.reverse ++ .inr (k + 2) :: st).map (hm_tr E) = (as.map (hm_tr E)).reverse ++ .ref (E.2.2.2 + k) :: st.map (hm_tr E) := by rw [List.map_append, List.map_reverse]; rfl
  rw [hst]
  have hlen : (as.map (hm_tr E)).length = hm_np j := by rw [List.length_map]; exact hn
  have hcap : cells + hm_mc j ≤ R.cells ∧ slots + hm_ms j ≤ R.slots := ⟨by omega, by omega⟩
  have hws : hm_ws j = Cond.code (hm_me j).1 (hm_me j).2.1 (hm_me j).2.2.1 none :: hm_good := by rw [← q3]; rfl
  have hpre := hm_pre (as := .inr (k + 2) :: as) X ho
  rcases hkd with rfl | rfl
  · simp only [hm_ml1, Bool.and_eq_true, decide_eq_true_eq] at h1
    exact hm_behind (va_runI ⟨X.1, X.2.1, X.2.2.1, X.2.2.2.1, hts⟩ (hE l E rg2) ⟨callB_of (hm_np j) hts (hm_goodIn (hm_goodc hj)) hws rfl rfl (hts _ p1) (hts _ (hm_at_in h1.1)) ⟨p3, p4, p5⟩ (hm_rm_fit hdd X p6), q2, hts _ q1⟩ hpre rfl hlen hl.1 rfl (hm_room8 hs8) hd hcap) X.2.2.2.2.2.2.2 rg3 hS e1 e2 hcap.1 hcap.2 hl kk
  · simp only [hm_ml1, Bool.and_eq_true, decide_eq_true_eq] at h1
    have hnest : va_Nw (.methodLinkNest (hm_nm o) i (hm_me j).1 "HeapLaw") s := X.2.2.2.2.2.1.2.1 _ (List.mem_filter.mpr ⟨List.mem_of_getElem? h1.1, rfl⟩)
    exact hm_behind (va_runIN ⟨X.1, X.2.1, X.2.2.1, X.2.2.2.1, hts⟩ (hE l E rg2) ⟨va_cnB (hm_np j) hts (hm_goodIn (hm_goodc hj)) hws rfl rfl hnest (hts _ p1) ⟨p3, p4, p5⟩ (hm_rm_fit hdd X p6), q2, hts _ q1⟩ hpre rfl hlen hl.1 rfl (hm_room8 hs8) hd hcap) X.2.2.2.2.2.2.2 rg3 hS e1 e2 hcap.1 hcap.2 hl kk
theorem hs_objinit (X : hm_cx E d o cc nL p R s m args c) {i r : Nat} (hq : (hm_OI.any (fun q => q.1 == o && q.2.1 == i)) = true) (hr : 2 ≤ r) (hs8 : st.length ≤ 8) (hd : decode cc pc = .ok (.invokespecial i, 3))
    (kk : hm_G E p l e R s m args below meth c nL b0 Qf (pc + 3) ls st M) : hm_G E p l e R s m args below meth c nL b0 Qf pc ls (.inr r :: st) M := by
  intro H locs cells slots la ho rg hS e1 e2 c1 c2 hl
  obtain ⟨⟨o', i', z'⟩, hm, g1⟩ := List.any_eq_true.mp hq
  simp only [Bool.and_eq_true, beq_iff_eq] at g1
  obtain ⟨rfl, rfl⟩ := g1
  have g2 := List.all_eq_true.mp hm_OI_ok _ hm
  obtain ⟨k, rfl⟩ : ∃ k, r = k + 2 := ⟨r - 2, by omega⟩
  have hts := X.2.2.2.2.1
  have hcat := hm_catsum E st
  have hR := X.2.2.2.2.2.2.1
  refine W.objInit (a := E.2.2.2 + k) X.1 X.2.1 X.2.2.2.1 (hts _ (hm_at_in g2)) (hts _ (hm_at_in hm_once0)) (hts _ hm_oicode) rfl (hl.1.trans X.2.2.1.symm) rfl hd (by omega) (by show 2 * 0 + _ + 12 ≤ _; rw [hcat]; omega) ?_
  exact kk H locs cells slots la ho rg.pop hS e1 e2 c1 c2 hl
theorem hs_max (X : hm_cx E d o cc nL p R s m args c) {i : Nat} {a b : Int} (hq : (hm_MX.any (fun q => q.1 == o && q.2.1 == i)) = true) (hs8 : st.length ≤ 8) (hd : decode cc pc = .ok (.invokestatic i, 3))
    (kk : hm_G E p l e R s m args below meth c nL b0 Qf (pc + 3) ls (.inl (max a b) :: st) M) : hm_G E p l e R s m args below meth c nL b0 Qf pc ls (.inl b :: .inl a :: st) M := by
  intro H locs cells slots la ho rg hS e1 e2 c1 c2 hl
  obtain ⟨⟨o', i', z'⟩, hm, g1⟩ := List.any_eq_true.mp hq
  simp only [Bool.and_eq_true, beq_iff_eq] at g1
  obtain ⟨rfl, rfl⟩ := g1
  have g2 := List.all_eq_true.mp hm_MX_ok _ hm
  have hts := X.2.2.2.2.1
  have hcat := hm_catsum E st
  have hR := X.2.2.2.2.2.2.1
  have hb := rg.top
  have ha := rg.pop.top
  have hmx : hm_in (max a b) := by rcases Int.le_total a b with h | h; (rw [Int.max_eq_right h]; exact hb); (rw [Int.max_eq_left h]; exact ha)
  refine va_mmax X.1 X.2.1 (X.2.2.1.trans hl.1.symm) X.2.2.2.1 (hts _ (hm_at_in g2)) (hts _ (hm_at_in hm_once6)) (hts _ (hm_at_in hm_once7)) (hts _ hm_mxcode) (by omega) (by rw [hcat]; omega) c1 c2 hd ?_
  have h := kk H locs cells slots la ho (rg.pop.pop.push hmx) hS e1 e2 c1 c2 hl
  have e5 : (if Int32.ofInt a < Int32.ofInt b then Int32.ofInt b else Int32.ofInt a) = Int32.ofInt (max a b) := by
    by_cases q : a < b
    · rw [if_pos ((hm_lt ha hb).mpr q), Int.max_eq_right (by omega)]
    · rw [if_neg (fun z => q ((hm_lt ha hb).mp z)), Int.max_eq_left (by omega)]
  rw [e5]
  exact h
end HS

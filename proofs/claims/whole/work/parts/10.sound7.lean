/-! METHODS: what a run of a method's body comes to -/
def hm_Cl (d : Nat) : Nat → List hm_V → hm_M → hm_P → Prop := match d with
  | 0 => fun _ _ _ _ => False
  | d' + 1 => hm_Ev d'
def hm_al (M0 : hm_M) (j : Nat) (M : hm_M) : Prop := M.1.length = M0.1.length + hm_mc j ∧ hm_sl M = hm_sl M0 + hm_ms j
def hm_find : List (Nat × hm_row) → Nat → Option hm_row
  | [], _ => none
  | q :: qs, pc => bif Nat.beq q.1 pc then some q.2 else hm_find qs pc
theorem hm_find_in : ∀ (qs : List (Nat × hm_row)) (pc : Nat) (row : hm_row), hm_find qs pc = some row → (pc, row) ∈ qs
  | [], _, _, h => by cases h
  | q :: qs, pc, row, h => by
    unfold hm_find at h
    cases hb : Nat.beq q.1 pc with
    | true =>
      rw [hb] at h
      have e1 := Nat.eq_of_beq_eq_true hb
      have e2 : q.2 = row := Option.some.inj h
      rw [← e1, ← e2]
      exact List.mem_cons_self
    | false =>
      rw [hb] at h
      exact List.mem_cons_of_mem _ (hm_find_in qs pc row h)
/-- the rows of method j's code are right -/
def hm_okm (j o : Nat) (ini zb : Bool) (rows : List (Nat × hm_row)) : Prop :=
  j < 150 ∧ hm_kind j ≠ 9 ∧ hm_nm o = (hm_me j).1.cls ∧ (ini = true → (hm_me j).1.name = "<init>") ∧ (hm_me j).2.2.2 ∈ ([none, some .int, some .boolean] : List (Option FieldType)) ∧ (zb = false → (hm_me j).2.2.2 ≠ some .boolean) ∧ rows.all (fun q => hm_ck ini o (hm_me j).2.2.1 (hm_me j).2.1 q.1 q.2) = true
def hm_cm (E : hm_E) (d j : Nat) (p : Program) (R : Room) (s : State) (m : MethodId) (args : Array Value) (meth : Method) (c : Code) : Prop :=
  (∀ o, hm_nm o = (hm_me j).1.cls → hm_cx E d o (hm_me j).2.1 (hm_me j).2.2.1 p R s m args c) ∧ meth.sig.returnType = (hm_me j).2.2.2 ∧ meth.locks = false ∧ meth.name = (hm_me j).1.name
def hm_R (d j : Nat) (M0 : hm_M) (Q : hm_P) (pc : Nat) (ls st : List hm_V) (M : hm_M) : Prop :=
  ∀ (l : Launch) (E : hm_E) (p : Program) (e : Env) (s : State) (m : MethodId) (args : Array Value) (below : List Frame) (meth : Method) (c : Code), hm_cm E d j p (hm_rm d (hm_mc j) (hm_ms j)) s m args meth c →
    hm_G E p l e (hm_rm d (hm_mc j) (hm_ms j)) s m args below meth c (hm_me j).2.2.1 (M0.1.length, hm_sl M0) (MQ below (hm_Qc E M0 j Q) args s (hm_mc j) (hm_ms j) (fun q => E.2.2.2 ≤ q)) pc ls st M
theorem hm_G.take {p : Program} {l : Launch} {e : Env} {R : Room} {s : State} {m : MethodId} {args : Array Value} {below : List Frame} {meth : Method} {c : Code} {Qf : State → Prop} {E : hm_E} {b0 : Nat × Nat} {nL pc k : Nat} {ls st : List hm_V} {M : hm_M}
    (h : hm_G E p l e R s m args below meth c nL b0 Qf pc (ls.take k) st M) : hm_G E p l e R s m args below meth c nL b0 Qf pc ls st M :=
  fun H locs cells slots la ho rg hS e1 e2 c1 c2 hl => h H locs cells slots la ho rg.take hS e1 e2 c1 c2 hl.take
theorem hm_reti {d j : Nat} {M0 : hm_M} {Q : hm_P} {zb : Bool} {l : Launch} {E : hm_E} {p : Program} {e : Env} {s : State} {m : MethodId} {args : Array Value} {below : List Frame} {meth : Method} {c : Code} {o : Nat} (X : hm_cx E d o (hm_me j).2.1 (hm_me j).2.2.1 p (hm_rm d (hm_mc j) (hm_ms j)) s m args c) (hr : meth.sig.returnType = (hm_me j).2.2.2) (hlk : meth.locks = false)
    (h1 : (hm_me j).2.2.2 ∈ ([none, some .int, some .boolean] : List (Option FieldType))) (h2 : zb = false → (hm_me j).2.2.2 ≠ some .boolean) {pc : Nat} {ls : List hm_V} {v : Int} {M : hm_M} (hd : decode (hm_me j).2.1 pc = .ok (.ireturn, 1)) (hz : zb = true → 0 ≤ v ∧ v ≤ 1) (hq : hm_al M0 j M ∧ Q [.inl v] M) (hnn : (hm_me j).2.2.2 ≠ none) :
    hm_G E p l e (hm_rm d (hm_mc j) (hm_ms j)) s m args below meth c (hm_me j).2.2.1 (M0.1.length, hm_sl M0) (MQ below (hm_Qc E M0 j Q) args s (hm_mc j) (hm_ms j) (fun q => E.2.2.2 ≤ q)) pc ls [.inl v] M := by
  intro H locs cells slots la ho rg hS e1 e2 c1 c2 hl
  have q1 : cells = hm_mc j := by
    have := hq.1.1
    have e1' : cells + M0.1.length = M.1.length := e1
    omega
  have q2 : slots = hm_ms j := by
    have := hq.1.2
    have e2' : slots + hm_sl M0 = hm_sl M := e2
    omega
  subst q1; subst q2
  obtain ⟨ty, hty, hnar⟩ : ∃ ty, (hm_me j).2.2.2 = some ty ∧ narrow ty (.int (Int32.ofInt v)) = .int (Int32.ofInt v) := by
    simp only [List.mem_cons, List.not_mem_nil, or_false] at h1
    rcases h1 with q | q | q
    · exact absurd q hnn
    · exact ⟨_, q, rfl⟩
    · refine ⟨_, q, ?_⟩
      cases zb with
      | false => exact absurd q (h2 rfl)
      | true =>
        have h3 := hz rfl
        rcases (show v = 0 ∨ v = 1 by omega) with rfl | rfl <;> decide
  exact W.zret X.1 X.2.1 (hr.trans hty) hnar (fun t ht hW => ⟨⟨[.inl v], M, hq.2, Nat.le_refl 1, rfl, ⟨fun i hi => (by cases hi), rg.2.1, rg.2.2⟩, by rw [ht]; exact ho, hq.1.1, hq.1.2⟩, hS.F ht⟩) (fun q hq => hS.2.2 q hq) hd hlk
theorem hm_retv {d j : Nat} {M0 : hm_M} {Q : hm_P} {l : Launch} {E : hm_E} {p : Program} {e : Env} {s : State} {m : MethodId} {args : Array Value} {below : List Frame} {meth : Method} {c : Code} {o : Nat} (X : hm_cx E d o (hm_me j).2.1 (hm_me j).2.2.1 p (hm_rm d (hm_mc j) (hm_ms j)) s m args c) (hr : meth.sig.returnType = none) (hlk : meth.locks = false)
    {pc : Nat} {ls : List hm_V} {M : hm_M} (hd : decode (hm_me j).2.1 pc = .ok (.return_, 1)) (hq : hm_al M0 j M ∧ Q [] M) :
    hm_G E p l e (hm_rm d (hm_mc j) (hm_ms j)) s m args below meth c (hm_me j).2.2.1 (M0.1.length, hm_sl M0) (MQ below (hm_Qc E M0 j Q) args s (hm_mc j) (hm_ms j) (fun q => E.2.2.2 ≤ q)) pc ls [] M := by
  intro H locs cells slots la ho rg hS e1 e2 c1 c2 hl
  have q1 : cells = hm_mc j := by
    have := hq.1.1
    have e1' : cells + M0.1.length = M.1.length := e1
    omega
  have q2 : slots = hm_ms j := by
    have := hq.1.2
    have e2' : slots + hm_sl M0 = hm_sl M := e2
    omega
  subst q1; subst q2
  exact W.vret X.1 X.2.1 hr (fun t ht hW => ⟨⟨[], M, hq.2, Nat.zero_le 1, rfl, ⟨fun i hi => (by cases hi), rg.2.1, rg.2.2⟩, by rw [ht]; exact ho, hq.1.1, hq.1.2⟩, hS.F ht⟩) (fun q hq => hS.2.2 q hq) hd hlk
/-- a void method's code has no ireturn, another's no return -/
def hm_rok (j : Nat) (rows : List (Nat × hm_row)) : Prop := ((hm_me j).2.2.2 = none → rows.all (fun q => decide (q.2.1 ≠ .ireturn)) = true) ∧ ((hm_me j).2.2.2 ≠ none → rows.all (fun q => decide (q.2.1 ≠ .return_)) = true)
theorem hm_go {d j o : Nat} {ini zb : Bool} {rows : List (Nat × hm_row)} (ok : hm_okm j o ini zb rows ∧ hm_rok j rows) {M0 : hm_M} {Q : hm_P} (sp : Nat → Option Nat) :
    ∀ (n : Nat) {pc : Nat} {ls st : List hm_V} {M : hm_M}, hm_wp (hm_find rows) sp false 0 (fun _ => 0) zb (M0.1.length + hm_mc j, hm_sl M0 + hm_ms j) (hm_Cl d) (fun r M' => hm_al M0 j M' ∧ Q r M') (hm_R d j M0 Q) n pc ls st M → hm_R d j M0 Q pc ls st M := by
  intro n
  induction n with
  | zero => intro pc ls st M h; exact h
  | succ n ih =>
    intro pc ls st M h l E p e s m args below meth c X
    unfold hm_wp at h
    split at h
    · exact h.elim
    · next row hrow =>
      have hin := hm_find_in rows pc row hrow
      obtain ⟨⟨k1, k2, k3, k4, k5, k6, k7⟩, r1, r2⟩ := ok
      have hck := List.all_eq_true.mp k7 _ hin
      have Xo := X.1 o k3
      refine hm_snd (lw := false) (L := 0) (xs := fun _ => 0) (zb := zb) (ini := ini) (C := hm_Cl d) (Q := fun r M' => hm_al M0 j M' ∧ Q r M') Xo (fun q => by cases q) (fun q => X.2.2.2.trans (k4 q)) (fun j' as M' Q' hc => ?_) (fun v hd hz hq => ?_) (fun hd hq => ?_) hck h (fun pc' ls' st' M' hn => ?_)
      · cases d with
        | zero => exact hc.elim
        | succ d' => exact ⟨d', rfl, hc⟩
      · refine hm_reti Xo X.2.1 X.2.2.1 k5 k6 hd hz hq (fun hnone => ?_)
        have h3 := List.all_eq_true.mp (r1 hnone) _ hin
        simp only [decide_eq_true_eq] at h3
        simp only [hm_ck, Bool.and_eq_true, decide_eq_true_eq] at hck
        have h4 := hck.1.symm.trans hd
        exact h3 (by injection h4 with h5; injection h5)
      · refine hm_retv Xo ?_ X.2.2.1 hd hq
        rw [X.2.1]
        apply Classical.byContradiction
        intro hnone
        have h3 := List.all_eq_true.mp (r2 hnone) _ hin
        simp only [decide_eq_true_eq] at h3
        simp only [hm_ck, Bool.and_eq_true, decide_eq_true_eq] at hck
        have h4 := hck.1.symm.trans hd
        exact h3 (by injection h4 with h5; injection h5)
      · split at hn
        · exact (hn l E p e s m args below meth c X).take
        · exact ih hn l E p e s m args below meth c X
theorem hm_sl_len (E : hm_E) (as : List hm_V) : (lg_sl (as.map (hm_tr E))).length = as.length := by
  induction as with
  | nil => rfl
  | cons a as ih =>
    show (lg_sl (hm_tr E a :: as.map (hm_tr E))).length = _
    unfold lg_sl at ih ⊢
    rw [List.flatMap_cons, List.length_append, ih, if_neg (by rw [hm_cat]; decide)]
    simp
    omega
theorem hm_lvargs (E : hm_E) : ∀ (as : List hm_V) (i k : Nat) (v : hm_V), as[k]? = some v → (i + k, hm_tr E v) ∈ lv_args i (as.map (hm_tr E))
  | [], i, k, v, h => by simp at h
  | a :: as, i, 0, v, h => by
    have : a = v := by simpa using h
    subst this
    exact List.mem_cons_self
  | a :: as, i, k + 1, v, h => by
    show (i + (k + 1), hm_tr E v) ∈ (i, hm_tr E a) :: lv_args (if (hm_tr E a).category = 2 then i + 2 else i + 1) (as.map (hm_tr E))
    rw [if_neg (by rw [hm_cat]; decide)]
    refine List.mem_cons_of_mem _ ?_
    rw [show i + (k + 1) = i + 1 + k by omega]
    exact hm_lvargs E as (i + 1) k v (by simpa using h)
theorem hm_enter {d j o : Nat} {ini zb : Bool} {rows : List (Nat × hm_row)} (ok : hm_okm j o ini zb rows ∧ hm_rok j rows) {as : List hm_V} {M : hm_M} {Q : hm_P} (hla : as.length ≤ (hm_me j).2.2.1) (h : hm_R d j M Q 0 as [] M) : hm_Ev d j as M Q := by
  intro l E rg
  obtain ⟨⟨k1, k2, k3, k4, k5, k6, k7⟩, -, -⟩ := ok
  obtain ⟨p1, p2, p3, p4, p5, p6, p7, p8, p9⟩ := hm_parts k1 k2
  refine Met.ofW (cc := (hm_me j).2.1) (maxL := (hm_me j).2.2.1) (ret := (hm_me j).2.2.2) p2 rfl ?_
  intro p e s m args below meth c s₁ B hml hv
  obtain ⟨rfl, ho, hK⟩ := hv
  have hts := atoms_spec (ws := hm_ws j) B.pre
  have hown : s.vm.findClass (hm_me j).1.cls = some m.cls := findClass_of_methodNamed B.named
  have hname : meth.name = (hm_me j).1.name := (name_of_methodNamed B.named B.method).1
  have hsz : E.2.2.2 ≤ s.heap.size := by
    have h1 := ho.1
    have h2 := ho.2.1
    omega
  rw [lg_entry_eq]
  have hl := lv_entry (as.map (hm_tr E)) (n := (hm_me j).2.2.1) (by rw [hm_sl_len]; exact hla)
  refine h l E p e s m _ below meth c ⟨fun o ho' => ⟨B.exec, B.bytes, hml, by rw [ho']; exact hown, fun w hw => hts w (List.mem_cons_of_mem _ hw), hK, ⟨Nat.le_refl _, Nat.le_refl _⟩, hsz⟩, B.returns, B.notSynchronized, hname⟩ s.heap [] 0 0 _ ho rg va_S.rf (Nat.zero_add _) (Nat.zero_add _) (Nat.zero_le _) (Nat.zero_le _) ⟨hl.1, hl.2.1, fun k v hk => ?_⟩
  have h2 := hm_lvargs E as 0 k v hk
  rw [Nat.zero_add] at h2
  exact hl.2.2 _ h2
theorem hm_Ev.mono {d j : Nat} {as : List hm_V} {M : hm_M} {Q Q' : hm_P} (h : hm_Ev d j as M Q) (hq : ∀ r M', Q r M' → Q' r M') : hm_Ev d j as M Q' :=
  fun l E rg => MetFree.mono (h l E rg) (fun _ _ h => h) (fun _ _ _ _ _ h => h) (fun _ _ _ _ _ h => ⟨⟨(by
    obtain ⟨r, M', h1, h2⟩ := h.1.1
    exact ⟨r, M', hq r M' h1, h2⟩), h.1.2⟩, h.2⟩)
def hm_okb (j o : Nat) (ini zb : Bool) (rows : List (Nat × hm_row)) : Bool :=
  decide (j < 150) && decide (hm_kind j ≠ 9) && decide (hm_nm o = (hm_me j).1.cls) && (!ini || decide ((hm_me j).1.name = "<init>")) && decide ((hm_me j).2.2.2 ∈ ([none, some .int, some .boolean] : List (Option FieldType))) && (zb || decide ((hm_me j).2.2.2 ≠ some .boolean)) && rows.all (fun q => hm_ck ini o (hm_me j).2.2.1 (hm_me j).2.1 q.1 q.2) && (decide ((hm_me j).2.2.2 ≠ none) || rows.all (fun q => decide (q.2.1 ≠ .ireturn))) && (decide ((hm_me j).2.2.2 = none) || rows.all (fun q => decide (q.2.1 ≠ .return_)))
theorem hm_okb_ok {j o : Nat} {ini zb : Bool} {rows : List (Nat × hm_row)} (h : hm_okb j o ini zb rows = true) : hm_okm j o ini zb rows ∧ hm_rok j rows := by
  simp only [hm_okb, Bool.and_eq_true, decide_eq_true_eq] at h
  obtain ⟨⟨⟨⟨⟨⟨⟨⟨h1, h2⟩, h3⟩, h4⟩, h5⟩, h6⟩, h7⟩, h8⟩, h9⟩ := h
  refine ⟨⟨h1, h2, h3, fun q => ?_, h5, fun q => ?_, h7⟩, fun q => ?_, fun q => ?_⟩
  · subst q
    simpa using h4
  · subst q
    simpa using h6
  · rcases Bool.or_eq_true_iff.mp h8 with z | z
    · exact absurd q (of_decide_eq_true z)
    · exact z
  · rcases Bool.or_eq_true_iff.mp h9 with z | z
    · exact absurd (of_decide_eq_true z) q
    · exact z

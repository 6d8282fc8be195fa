/-! FROM THE MACHINE OVER THE OBJECTS TO THE SMALL MACHINE -/
theorem g_va.push {ls st : List g_V} {M : g_M} {n : Int} (h : g_va ls st M) : g_va ls (.inl n :: st) M :=
  ⟨h.1, fun q hq => by rcases List.mem_cons.mp hq with e | e; (cases e); exact h.2.1 q e, h.2.2⟩
theorem g_va.pushr {ls st : List g_V} {M : g_M} {r : Nat × Nat} (h : g_va ls st M) (hr : g_ok r) : g_va ls (.inr r :: st) M :=
  ⟨h.1, fun q hq => by rcases List.mem_cons.mp hq with e | e; (cases e; exact hr); exact h.2.1 q e, h.2.2⟩
theorem g_va.pop {ls st : List g_V} {M : g_M} {v : g_V} (h : g_va ls (v :: st) M) : g_va ls st M := ⟨h.1, fun q hq => h.2.1 q (List.mem_cons_of_mem _ hq), h.2.2⟩
theorem g_va.top {ls st : List g_V} {M : g_M} {r : Nat × Nat} (h : g_va ls (.inr r :: st) M) : g_ok r := h.2.1 r List.mem_cons_self
theorem g_va.loc {ls st : List g_V} {M : g_M} {r : Nat × Nat} {k : Nat} (h : g_va ls st M) (hk : ls[k]? = some (.inr r)) : g_ok r := h.1 r (List.mem_of_getElem? hk)
theorem g_va.dup {ls st : List g_V} {M : g_M} {v : g_V} (h : g_va ls (v :: st) M) : g_va ls (v :: v :: st) M := ⟨h.1, fun i hi => h.2.1 i (by rcases List.mem_cons.mp hi with q | q; exact List.mem_cons.mpr (Or.inl q); exact q), h.2.2⟩
theorem g_va.dup2 {ls st : List g_V} {M : g_M} {v u : g_V} (h : g_va ls (v :: u :: st) M) : g_va ls (v :: u :: v :: u :: st) M := ⟨h.1, fun i hi => h.2.1 i (by simp only [List.mem_cons] at hi ⊢; rcases hi with q | q | q | q | q <;> simp [q]), h.2.2⟩
theorem g_mem_set {ls : List g_V} {i : Nat} {v w : g_V} (h : w ∈ g_set ls i v) : w = v ∨ w ∈ ls := by
  rcases List.mem_append.mp h with q | q
  · exact Or.inr (List.mem_of_mem_take q)
  · rcases List.mem_cons.mp q with q | q
    · exact Or.inl q
    · exact Or.inr (List.mem_of_mem_drop q)
theorem g_va.set {ls st : List g_V} {M : g_M} {i : Nat} {a : Int} (h : g_va ls st M) : g_va (g_set ls i (.inl a)) st M :=
  ⟨fun j hj => by rcases g_mem_set hj with e | e; (cases e); exact h.1 j e, h.2.1, h.2.2⟩
theorem g_va.setr {ls st : List g_V} {M : g_M} {i : Nat} {r : Nat × Nat} (h : g_va ls st M) (hr : g_ok r) : g_va (g_set ls i (.inr r)) st M :=
  ⟨fun j hj => by rcases g_mem_set hj with e | e; (cases e; exact hr); exact h.1 j e, h.2.1, h.2.2⟩
theorem g_va.take {ls st : List g_V} {M : g_M} {k : Nat} (h : g_va ls st M) : g_va (ls.take k) st M := ⟨fun j hj => h.1 j (List.mem_of_mem_take hj), h.2⟩
theorem g_va.mem {ls st : List g_V} {M M' : g_M} (h : g_va ls st M) (hm : g_mok M') : g_va ls st M' := ⟨h.1, h.2.1, hm⟩
theorem g_map_set (ls : List g_V) (i : Nat) (v : g_V) : (g_set ls i v).map g_iv = hm_set (ls.map g_iv) i (g_iv v) := by
  simp [g_set, hm_set, List.map_take, List.map_drop]
def g_okb (q : Nat × Nat) : Bool := match q.1 with
  | 0 => decide (q.2 ∈ g_sing)
  | t + 1 => decide (q.2 < g_ct (t + 1))
theorem g_okb_ok {q : Nat × Nat} (h : g_okb q = true) : g_ok q := by
  obtain ⟨t, n⟩ := q
  cases t with
  | zero => exact of_decide_eq_true (p := n ∈ g_sing) h
  | succ t => exact of_decide_eq_true (p := n < g_ct (t + 1)) h
theorem g_ok_null : g_ok (9, 0) := g_okb_ok (by decide)
def g_z : g_M := (fun _ _ _ => 0, fun _ => none)
theorem g_rb_z (M : g_M) {i k : Nat} (h1 : ¬ ((g_inv i).1 = 12 ∧ k = 5)) (h2 : ¬ (i = 16 ∧ k = 2)) : g_rb M i k = g_rb g_z i k := by
  unfold g_rb
  split
  · next e1 => exact absurd ⟨e1, rfl⟩ h1
  · next e1 =>
    rw [g_nbeq (fun e => h2 ⟨e, rfl⟩)]
    rfl
  · rfl
  · rfl
theorem g_rf_ck : (List.range 15).all (fun t => (g_all t).all (fun r => (List.range 8).all (fun x => (List.range 33).all (fun y => !(g_kd r == x + 3 && hm_isr x y && !g_mut x y && decide (y < hm_N x)) || (g_rb g_z (g_io r) y == g_io (g_rf r y) && g_okb (g_rf r y) && !(decide (r.1 = 12) && y == 5) && !(g_io r == 16 && y == 2)))))) = true := by decide +kernel

theorem g_kd_lt {r : Nat × Nat} {x : Nat} (h : g_ok r) (hk : g_kd r = x + 3) (hx : x < 997) : x < 8 := by
  have := g_every (P := fun r => decide (g_kd r < 11) || decide (g_kd r = 1000)) (by decide +kernel) h
  simp only [Bool.or_eq_true, decide_eq_true_eq] at this
  omega
theorem g_rf_ok {r : Nat × Nat} {x y : Nat} (M : g_M) (h : g_ok r) (hk : g_kd r = x + 3) (hx : x < 8) (hy : y < hm_N x) (hi : hm_isr x y = true) (hm : g_mut x y = false) : (g_ph M).2.2 (g_io r) y = g_io (g_rf r y) ∧ g_ok (g_rf r y) := by
  have hy2 : y < 33 := by
    have h1 : (List.range 8).all (fun x => decide (hm_N x < 33)) = true := by decide
    have h2 := List.all_eq_true.mp h1 x (List.mem_range.mpr hx)
    simp only [decide_eq_true_eq] at h2
    omega
  have h1 := g_every g_rf_ck h
  have h2 := List.all_eq_true.mp (List.all_eq_true.mp h1 x (List.mem_range.mpr hx)) y (List.mem_range.mpr hy2)
  rw [hk, hi, hm, decide_eq_true hy] at h2
  simp only [beq_self_eq_true, Bool.true_and, Bool.not_false, Bool.not_true, Bool.false_or, Bool.and_eq_true, beq_iff_eq, Bool.not_eq_true', Bool.and_eq_false_iff, decide_eq_false_iff_not] at h2
  obtain ⟨⟨⟨a1, a2⟩, a3⟩, a4⟩ := h2
  refine ⟨?_, g_okb_ok a2⟩
  show g_rb M (g_io r) y = _
  rw [g_rb_z M, a1]
  · rw [g_inv_io h]
    rintro ⟨b1, b2⟩
    rcases a3 with a3 | a3
    · exact a3 b1
    · simp [b2] at a3
  · rintro ⟨b1, b2⟩
    rcases a4 with a4 | a4
    · simp [b1] at a4
    · simp [b2] at a4
theorem g_rb_sh {M : g_M} {n : Nat} (hn : n < 2) : (g_ph M).2.2 (g_io (12, n)) 5 = g_mr (M.2 n) false := by
  have h : g_ok (12, n) := hn
  show g_rb M (g_io (12, n)) 5 = _
  unfold g_rb
  rw [g_inv_io h]
  rfl
theorem g_rb_sl {M : g_M} : (g_ph M).2.2 16 2 = g_mr (M.2 2) true := rfl
theorem g_rb_f {M : g_M} (k : Nat) : (g_ph M).2.2 3 k = g_io (1, 12 + k) := by
  show g_rb M 3 k = g_fo (12 + k)
  unfold g_rb
  have e : g_inv 3 = (0, 3) := rfl
  rw [e]
  split <;> first | rfl | simp_all
theorem g_rb_c {M : g_M} (k : Nat) : (g_ph M).2.2 17 k = g_io (1, k) := by
  show g_rb M 17 k = g_fo k
  unfold g_rb
  have e : g_inv 17 = (0, 17) := rfl
  rw [e]
  split <;> first | rfl | simp_all
theorem g_ph_uBs {M : g_M} {n : Nat} (hn : n < 2) (v : Option Nat) : hm_uB (g_ph M) (g_io (12, n)) 5 (g_mr v false) = g_ph (g_uB M n v) := by
  have hok : g_ok (12, n) := hn
  unfold hm_uB
  refine Prod.ext rfl (Prod.ext rfl ?_)
  funext i k
  show va_up (g_rb M) (g_io (12, n)) (va_up (g_rb M (g_io (12, n))) 5 (g_mr v false)) i k = g_rb (g_uB M n v) i k
  by_cases hi : i = g_io (12, n)
  · subst hi
    simp only [va_up, if_true]
    by_cases hk : k = 5
    · subst hk
      rw [if_pos rfl]
      unfold g_rb
      rw [g_inv_io hok]
      simp [g_uB, va_up]
    · have e3 : ¬ (g_io (12, n) = 16 ∧ k = 2) := fun h => by
        have h1 : 10 + 8 * n = 16 := h.1
        omega
      rw [if_neg hk, g_rb_z M (fun h => hk h.2) e3, g_rb_z (g_uB M n v) (fun h => hk h.2) e3]
  · simp only [va_up, hi, if_false]
    unfold g_rb
    split
    · next e1 =>
      have e2 : (g_inv i).2 ≠ n := fun e => hi (by rw [← g_io_inv i]; congr 1; exact Prod.ext e1 e)
      simp [g_uB, va_up, e2]
    · next e1 =>
      have e2 : (2 : Nat) ≠ n := by omega
      simp [g_uB, va_up, e2]
    · rfl
    · rfl
theorem g_ph_uBt {M : g_M} : hm_uB (g_ph M) 16 2 3 = g_ph (g_uB M 2 (some 0)) := by
  unfold hm_uB
  refine Prod.ext rfl (Prod.ext rfl ?_)
  funext i k
  show va_up (g_rb M) 16 (va_up (g_rb M 16) 2 3) i k = g_rb (g_uB M 2 (some 0)) i k
  by_cases hi : i = 16
  · subst hi
    simp only [va_up, if_true]
    by_cases hk : k = 2
    · subst hk
      rfl
    · rw [if_neg hk]
      unfold g_rb
      have e : g_inv 16 = (0, 16) := rfl
      rw [e]
      split <;> first | rfl | simp_all
  · simp only [va_up, hi, if_false]
    unfold g_rb
    split
    · next e1 =>
      have e2 : (g_inv i).2 ≠ 2 := fun e => by
        have h1 : g_io (g_inv i) = 26 := by
          have : g_inv i = (12, 2) := Prod.ext e1 e
          rw [this]; rfl
        rw [g_io_inv] at h1
        subst h1
        have h2 : g_inv 26 = (3, 0) := rfl
        rw [h2] at e1
        cases e1
      simp [g_uB, va_up, e2]
    · next e1 =>
      rw [g_nbeq hi]
      rfl
    · rfl
    · rfl
theorem g_mok_uB {M : g_M} (h : g_mok M) {n : Nat} {v : Option Nat} (hv : ∀ f, v = some f → f < 84) : g_mok (g_uB M n v) := by
  intro m f hm hf
  unfold g_uB va_up at hf
  dsimp only at hf
  split at hf
  · exact hv f hf
  · exact h m f hm hf
theorem g_mok_uB2 {M : g_M} (h : g_mok M) {v : Option Nat} : g_mok (g_uB M 2 v) := by
  intro m f hm hf
  unfold g_uB va_up at hf
  dsimp only at hf
  rw [if_neg (by omega)] at hf
  exact h m f hm hf
theorem g_sw_sim {pc : Nat} {v : Int} {nx nx' : Nat → Prop} (hm : ∀ q, nx q → nx' q) : ∀ (os : List Int) (lo : Int), g_sw pc v nx lo os → hm_sw pc v nx' lo os
  | [], lo, h => trivial
  | o1 :: os, lo, h => ⟨fun q => hm _ (h.1 q), g_sw_sim hm os (lo + 1) h.2⟩
theorem g_cond {c : Bool} {P : Prop} (h : (bif c then P else False)) : c = true ∧ P := by
  cases c with
  | true => exact ⟨rfl, h⟩
  | false => exact h.elim
/-- what a row says that can be looked up in the row alone -/
def g_rok (row : hm_row) : Prop := ∀ i, (row.1 = .getfield i ∨ row.1 = .putfield i) → row.2.2.1 < 8 ∧ row.2.2.2.1 < hm_N row.2.2.1
set_option maxHeartbeats 4000000 in
theorem g_sim {lw zb : Bool} {L : Nat} {xs : Nat → Int} {C2 : Nat → List g_V → g_M → g_P → Prop} {Q2 : g_P} {row : hm_row} {pc : Nat} {ls st : List g_V} {M : g_M} {nx2 : Nat → List g_V → List g_V → g_M → Prop} {cap : Nat × Nat} {C1 : Nat → List hm_V → hm_M → hm_P → Prop} {Q1 : hm_P} {nx1 : Nat → List hm_V → List hm_V → hm_M → Prop} (hv : g_va ls st M) (hrow : g_rok row)
    (hC : ∀ j as M' (F2 : g_P) (F1 : hm_P), g_va as [] M' → C2 j as M' F2 → (∀ r M2, g_va [] r M2 → F2 r M2 → F1 (r.map g_iv) (g_ph M2)) → C1 j (as.map g_iv) (g_ph M') F1)
    (hQ : ∀ r M', g_va [] r M' → Q2 r M' → Q1 (r.map g_iv) (g_ph M'))
    (hn : ∀ pc' ls' st' M', g_va ls' st' M' → nx2 pc' ls' st' M' → nx1 pc' (ls'.map g_iv) (st'.map g_iv) (g_ph M'))
    (h : g_st lw L xs zb C2 Q2 row pc ls st M nx2) : hm_st lw L xs zb cap C1 Q1 row pc (ls.map g_iv) (st.map g_iv) (g_ph M) nx1 := by
  obtain ⟨ins, len, x, y, w⟩ := row
  cases ins with
  | iconst n =>
    exact hn _ _ _ _ hv.push h
  | bipush n =>
    exact hn _ _ _ _ hv.push h
  | sipush n =>
    exact hn _ _ _ _ hv.push h
  | ldc_w i =>
    exact hn _ _ _ _ hv.push h
  | aconst_null =>
    exact hn _ _ _ _ (hv.pushr g_ok_null) h
  | iload i =>
    simp only [g_st] at h
    split at h
    · next a hk =>
      simp only [hm_st, List.getElem?_map, hk, Option.map_some, g_iv]
      exact hn _ _ _ _ hv.push h
    · exact h.elim
  | iload_n i =>
    simp only [g_st] at h
    split at h
    · next a hk =>
      simp only [hm_st, List.getElem?_map, hk, Option.map_some, g_iv]
      exact hn _ _ _ _ hv.push h
    · exact h.elim
  | aload i =>
    simp only [g_st] at h
    split at h
    · next a hk =>
      simp only [hm_st, List.getElem?_map, hk, Option.map_some, g_iv]
      exact hn _ _ _ _ (hv.pushr (hv.loc hk)) h
    · exact h.elim
  | aload_n i =>
    simp only [g_st] at h
    split at h
    · next a hk =>
      simp only [hm_st, List.getElem?_map, hk, Option.map_some, g_iv]
      exact hn _ _ _ _ (hv.pushr (hv.loc hk)) h
    · exact h.elim
  | istore i =>
    simp only [g_st] at h
    split at h
    · have h1 := g_cond h
      simp only [hm_st, List.map_cons, g_iv, List.length_map, h1.1, cond_true]
      have h2 := hn _ _ _ _ hv.pop.set h1.2
      rw [g_map_set] at h2
      exact h2
    · exact h.elim
  | istore_n i =>
    simp only [g_st] at h
    split at h
    · have h1 := g_cond h
      simp only [hm_st, List.map_cons, g_iv, List.length_map, h1.1, cond_true]
      have h2 := hn _ _ _ _ hv.pop.set h1.2
      rw [g_map_set] at h2
      exact h2
    · exact h.elim
  | astore i =>
    simp only [g_st] at h
    split at h
    · have h1 := g_cond h
      simp only [hm_st, List.map_cons, g_iv, List.length_map, h1.1, cond_true]
      have h2 := hn _ _ _ _ (hv.pop.setr hv.top) h1.2
      rw [g_map_set] at h2
      exact h2
    · exact h.elim
  | astore_n i =>
    simp only [g_st] at h
    split at h
    · have h1 := g_cond h
      simp only [hm_st, List.map_cons, g_iv, List.length_map, h1.1, cond_true]
      have h2 := hn _ _ _ _ (hv.pop.setr hv.top) h1.2
      rw [g_map_set] at h2
      exact h2
    · exact h.elim
  | iinc i n =>
    simp only [g_st] at h
    split at h
    · next a hk =>
      simp only [hm_st, List.getElem?_map, hk, Option.map_some, g_iv]
      have h2 := hn _ _ _ _ hv.set h.2
      rw [g_map_set] at h2
      exact ⟨h.1, h2⟩
    · exact h.elim
  | iadd =>
    simp only [g_st] at h
    split at h
    · exact ⟨h.1, hn _ _ _ _ hv.pop.pop.push h.2⟩
    · exact h.elim
  | isub =>
    simp only [g_st] at h
    split at h
    · exact ⟨h.1, hn _ _ _ _ hv.pop.pop.push h.2⟩
    · exact h.elim
  | imul =>
    simp only [g_st] at h
    split at h
    · exact ⟨h.1, hn _ _ _ _ hv.pop.pop.push h.2⟩
    · exact h.elim
  | idiv =>
    simp only [g_st] at h
    split at h
    · exact ⟨h.1, hn _ _ _ _ hv.pop.pop.push h.2⟩
    · exact h.elim
  | irem =>
    simp only [g_st] at h
    split at h
    · exact ⟨h.1, hn _ _ _ _ hv.pop.pop.push h.2⟩
    · exact h.elim
  | iand =>
    simp only [g_st] at h
    split at h
    · exact hn _ _ _ _ hv.pop.pop.push h
    · exact h.elim
  | ior =>
    simp only [g_st] at h
    split at h
    · exact hn _ _ _ _ hv.pop.pop.push h
    · exact h.elim
  | ixor =>
    simp only [g_st] at h
    split at h
    · exact hn _ _ _ _ hv.pop.pop.push h
    · exact h.elim
  | ishl =>
    simp only [g_st] at h
    split at h
    · exact hn _ _ _ _ hv.pop.pop.push h
    · exact h.elim
  | ishr =>
    simp only [g_st] at h
    split at h
    · exact hn _ _ _ _ hv.pop.pop.push h
    · exact h.elim
  | iushr =>
    simp only [g_st] at h
    split at h
    · exact hn _ _ _ _ hv.pop.pop.push h
    · exact h.elim
  | if_icmp cp off =>
    simp only [g_st] at h
    split at h
    · exact ⟨fun q => hn _ _ _ _ hv.pop.pop (h.1 q), fun q => hn _ _ _ _ hv.pop.pop (h.2 q)⟩
    · exact h.elim
  | ifCond cp off =>
    simp only [g_st] at h
    split at h
    · exact ⟨fun q => hn _ _ _ _ hv.pop (h.1 q), fun q => hn _ _ _ _ hv.pop (h.2 q)⟩
    · exact h.elim
  | ifnull off =>
    simp only [g_st] at h
    split at h
    · next r s =>
      have hr := hv.top
      have h9 := g_every (P := fun r => (g_io r == 0) == Nat.beq r.1 9) (by decide +kernel) hr
      simp only [beq_iff_eq] at h9
      refine ⟨fun q => ?_, fun q => ?_⟩
      · rw [← h9, show (g_io r == 0) = true by simpa using q] at h
        exact hn _ _ _ _ hv.pop h
      · rw [← h9, show (g_io r == 0) = false by simpa using q] at h
        exact hn _ _ _ _ hv.pop h
    · exact h.elim
  | goto off =>
    exact hn _ _ _ _ hv h
  | dup =>
    simp only [g_st] at h
    split at h
    · exact hn _ _ _ _ hv.dup h
    · exact h.elim
  | dup2 =>
    simp only [g_st] at h
    split at h
    · exact hn _ _ _ _ hv.dup2 h
    · exact h.elim
  | pop =>
    simp only [g_st] at h
    split at h
    · exact hn _ _ _ _ hv.pop h
    · exact h.elim
  | tableswitch df lo hi offs =>
    simp only [g_st] at h
    split at h
    · exact ⟨fun q => hn _ _ _ _ hv.pop (h.1 q), g_sw_sim (fun q hq => hn _ _ _ _ hv.pop hq) _ _ h.2⟩
    · exact h.elim
  | getfield i =>
    have hxy : x < 8 ∧ y < hm_N x := hrow i (Or.inl rfl)
    simp only [g_st] at h
    split at h
    · next r s =>
      have hr := hv.top
      obtain ⟨hk, h⟩ := g_cond h
      have hk := Nat.eq_of_beq_eq_true hk
      refine ⟨(g_ph_kd hr).trans hk, ?_⟩
      dsimp only
      cases hi : hm_isr x y with
      | false =>
        rw [hi] at h
        have h2 := hn _ _ _ _ hv.pop.push h
        rw [cond_false, g_ph_A hr]
        exact h2
      | true =>
        rw [hi] at h
        rw [cond_true] at h ⊢
        cases hm : g_mut x y with
        | false =>
          rw [hm] at h
          obtain ⟨e1, e2⟩ := g_rf_ok M hr hk hxy.1 hxy.2 hi hm
          rw [e1]
          exact hn _ _ _ _ (hv.pop.pushr e2) h
        | true =>
          rw [hm, cond_true] at h
          simp only [g_mut, Bool.or_eq_true, Bool.and_eq_true] at hm
          rcases hm with ⟨m1, m2⟩ | ⟨m1, m2⟩
          · obtain rfl := Nat.eq_of_beq_eq_true m1
            obtain rfl := Nat.eq_of_beq_eq_true m2
            have ht : r.1 = 12 := by
              have := g_every (P := fun r => !(g_kd r == 7) || r.1 == 12) (by decide +kernel) hr
              rw [hk] at this
              simpa using this
            obtain ⟨t, n⟩ := r
            dsimp only at ht
            subst ht
            have hn2 : n < 2 := hr
            have e1 := g_rb_sh (M := M) hn2
            rw [e1]
            have h : (M.2 n = none → nx2 (pc + 3) ls (.inr (9, 0) :: s) M) ∧ (∀ f, M.2 n = some f → nx2 (pc + 3) ls (.inr (1, f) :: s) M) := h
            cases hM : M.2 n with
            | none => exact hn _ _ _ _ (hv.pop.pushr g_ok_null) (h.1 hM)
            | some f => exact hn _ _ _ _ (hv.pop.pushr (show g_ok (1, f) from hv.2.2 n f hn2 hM)) (h.2 f hM)
          · obtain rfl := Nat.eq_of_beq_eq_true m1
            obtain rfl := Nat.eq_of_beq_eq_true m2
            have ht : r = (0, 16) := by
              have := g_every (P := fun r => !(g_kd r == 8) || r == (0, 16)) (by decide +kernel) hr
              rw [hk] at this
              simpa using this
            subst ht
            have h : (M.2 2 = none → nx2 (pc + 3) ls (.inr (9, 0) :: s) M) ∧ (∀ f, M.2 2 = some f → nx2 (pc + 3) ls (.inr (0, 3) :: s) M) := h
            show nx1 (pc + 3) _ (.inr ((g_ph M).2.2 16 2) :: _) _
            rw [g_rb_sl]
            cases hM : M.2 2 with
            | none => exact hn _ _ _ _ (hv.pop.pushr g_ok_null) (h.1 hM)
            | some f => exact hn _ _ _ _ (hv.pop.pushr (show g_ok (0, 3) from g_okb_ok (by decide))) (h.2 f hM)
    · exact h.elim
  | putfield i =>
    have hxy : x < 8 ∧ y < hm_N x := hrow i (Or.inr rfl)
    simp only [g_st] at h
    cases hi : hm_isr x y with
    | false =>
      rw [hi, cond_false] at h
      simp only [hm_st, hi, cond_false]
      split at h
      · next v r s =>
        have hr := hv.pop.top
        obtain ⟨hk, h⟩ := g_cond h
        have hk := Nat.eq_of_beq_eq_true hk
        have h2 := hn _ _ _ _ (hv.pop.pop.mem (M' := g_uA M r y v) hv.2.2) h
        rw [← g_ph_uA hr] at h2
        exact ⟨(g_ph_kd hr).trans hk, h2⟩
      · exact h.elim
    | true =>
      rw [hi, cond_true] at h
      simp only [hm_st, hi, cond_true]
      split at h
      · next v r s =>
        have hr := hv.pop.top
        have hvv := hv.top
        obtain ⟨hk, h⟩ := g_cond h
        simp only [Bool.and_eq_true] at hk
        obtain ⟨hk, hm⟩ := hk
        have hk := Nat.eq_of_beq_eq_true hk
        refine ⟨(g_ph_kd hr).trans hk, ?_⟩
        simp only [g_mut, Bool.or_eq_true, Bool.and_eq_true] at hm
        rcases hm with ⟨m1, m2⟩ | ⟨m1, m2⟩
        · obtain rfl := Nat.eq_of_beq_eq_true m1
          obtain rfl := Nat.eq_of_beq_eq_true m2
          have ht : r.1 = 12 := by
            have := g_every (P := fun r => !(g_kd r == 7) || r.1 == 12) (by decide +kernel) hr
            rw [hk] at this
            simpa using this
          obtain ⟨t, n⟩ := r
          dsimp only at ht
          subst ht
          have hn2 : n < 2 := hr
          obtain ⟨vt, vn⟩ := v
          have h : (bif Nat.beq vt 9 then nx2 (pc + 3) ls s (g_uB M n none) else (bif Nat.beq vt 1 then nx2 (pc + 3) ls s (g_uB M n (some vn)) else False)) := h
          cases h9 : Nat.beq vt 9 with
          | true =>
            rw [h9, cond_true] at h
            obtain rfl := Nat.eq_of_beq_eq_true h9
            have h2 := hn _ _ _ _ (hv.pop.pop.mem (g_mok_uB hv.2.2 (fun f e => by cases e))) h
            rw [← g_ph_uBs hn2] at h2
            exact h2
          | false =>
            rw [h9, cond_false] at h
            obtain ⟨h1, h⟩ := g_cond h
            obtain rfl := Nat.eq_of_beq_eq_true h1
            have hvn : vn < 84 := hvv
            have h2 := hn _ _ _ _ (hv.pop.pop.mem (g_mok_uB hv.2.2 (fun f e => by cases e; exact hvn))) h
            rw [← g_ph_uBs hn2] at h2
            exact h2
        · obtain rfl := Nat.eq_of_beq_eq_true m1
          obtain rfl := Nat.eq_of_beq_eq_true m2
          have ht : r = (0, 16) := by
            have := g_every (P := fun r => !(g_kd r == 8) || r == (0, 16)) (by decide +kernel) hr
            rw [hk] at this
            simpa using this
          subst ht
          obtain ⟨vt, vn⟩ := v
          have h : (bif Nat.beq vt 0 && Nat.beq vn 3 then nx2 (pc + 3) ls s (g_uB M 2 (some 0)) else False) := h
          obtain ⟨h1, h⟩ := g_cond h
          simp only [Bool.and_eq_true] at h1
          obtain rfl := Nat.eq_of_beq_eq_true h1.1
          obtain rfl := Nat.eq_of_beq_eq_true h1.2
          have h2 := hn _ _ _ _ (hv.pop.pop.mem (g_mok_uB2 hv.2.2)) h
          rw [← g_ph_uBt] at h2
          exact h2
      · exact h.elim
  | iaload =>
    simp only [g_st] at h
    split at h
    · next i r s =>
      have hr := hv.pop.top
      cases lw with
      | true =>
        obtain ⟨hk, h⟩ := g_cond h
        have hk := Nat.eq_of_beq_eq_true hk
        obtain ⟨t, n⟩ := r
        dsimp only at hk
        subst hk
        exact ⟨⟨rfl, h.1⟩, hn _ _ _ _ hv.pop.pop.push h.2⟩
      | false =>
        obtain ⟨hk, h⟩ := g_cond h
        have hk := Nat.eq_of_beq_eq_true hk
        have h2 := hn _ _ _ _ hv.pop.pop.push h.2
        refine ⟨⟨(g_ph_kd hr).trans hk, h.1.1, ?_⟩, ?_⟩
        · rw [g_ph_ln hr]; exact h.1.2
        · rw [g_ph_A hr]; exact h2
    · exact h.elim
  | baload =>
    simp only [g_st] at h
    split at h
    · next i r s =>
      have hr := hv.pop.top
      obtain ⟨hk, h⟩ := g_cond h
      have hk := Nat.eq_of_beq_eq_true hk
      have h2 := hn _ _ _ _ hv.pop.pop.push h.2
      refine ⟨⟨(g_ph_kd hr).trans hk, h.1.1, ?_⟩, ?_⟩
      · rw [g_ph_ln hr]; exact h.1.2
      · rw [g_ph_A hr]; exact h2
    · exact h.elim
  | aaload =>
    simp only [g_st] at h
    split at h
    · next i r s =>
      have hr := hv.pop.top
      obtain ⟨t, n⟩ := r
      cases hb : (Nat.beq t 0 && Nat.beq n 3) with
      | true =>
        have h : (bif Nat.beq t 0 && Nat.beq n 3 then (0 ≤ i ∧ i < 72) ∧ nx2 (pc + 1) ls (.inr (1, 12 + i.toNat) :: s) M else (bif Nat.beq t 0 && Nat.beq n 17 then (0 ≤ i ∧ i < 12) ∧ nx2 (pc + 1) ls (.inr (1, i.toNat) :: s) M else False)) := h
        rw [hb, cond_true] at h
        simp only [Bool.and_eq_true] at hb
        obtain rfl := Nat.eq_of_beq_eq_true hb.1
        obtain rfl := Nat.eq_of_beq_eq_true hb.2
        have h2 := hn _ _ _ _ (hv.pop.pop.pushr (show g_ok (1, 12 + i.toNat) from (show 12 + i.toNat < 84 by omega))) h.2
        refine ⟨⟨g_ph_kd hr, h.1.1, ?_⟩, ?_⟩
        · rw [g_ph_ln hr]; exact h.1.2
        · show nx1 _ _ (.inr ((g_ph M).2.2 3 i.toNat) :: _) _
          rw [g_rb_f]; exact h2
      | false =>
        have h : (bif Nat.beq t 0 && Nat.beq n 3 then (0 ≤ i ∧ i < 72) ∧ nx2 (pc + 1) ls (.inr (1, 12 + i.toNat) :: s) M else (bif Nat.beq t 0 && Nat.beq n 17 then (0 ≤ i ∧ i < 12) ∧ nx2 (pc + 1) ls (.inr (1, i.toNat) :: s) M else False)) := h
        rw [hb, cond_false] at h
        obtain ⟨hb, h⟩ := g_cond h
        simp only [Bool.and_eq_true] at hb
        obtain rfl := Nat.eq_of_beq_eq_true hb.1
        obtain rfl := Nat.eq_of_beq_eq_true hb.2
        have h2 := hn _ _ _ _ (hv.pop.pop.pushr (show g_ok (1, i.toNat) from (show i.toNat < 84 by omega))) h.2
        refine ⟨⟨g_ph_kd hr, h.1.1, ?_⟩, ?_⟩
        · rw [g_ph_ln hr]; exact h.1.2
        · show nx1 _ _ (.inr ((g_ph M).2.2 17 i.toNat) :: _) _
          rw [g_rb_c]; exact h2
    · exact h.elim
  | iastore =>
    simp only [g_st] at h
    split at h
    · next v i r s =>
      have hr := hv.pop.pop.top
      obtain ⟨hk, h⟩ := g_cond h
      have hk := Nat.eq_of_beq_eq_true hk
      have h2 := hn _ _ _ _ (hv.pop.pop.pop.mem (M' := g_uA M r i.toNat v) hv.2.2) h.2
      rw [← g_ph_uA hr] at h2
      exact ⟨⟨(g_ph_kd hr).trans hk, h.1.1, by rw [g_ph_ln hr]; exact h.1.2⟩, h2⟩
    · exact h.elim
  | bastore =>
    simp only [g_st] at h
    split at h
    · next v i r s =>
      have hr := hv.pop.pop.top
      obtain ⟨hk, h⟩ := g_cond h
      have hk := Nat.eq_of_beq_eq_true hk
      have h2 := hn _ _ _ _ (hv.pop.pop.pop.mem (M' := g_uA M r i.toNat v) hv.2.2) h.2
      rw [← g_ph_uA hr] at h2
      exact ⟨⟨(g_ph_kd hr).trans hk, h.1.1, by rw [g_ph_ln hr]; exact h.1.2.1, h.1.2.2⟩, h2⟩
    · exact h.elim
  | arraylength =>
    simp only [g_st] at h
    split at h
    · next r s =>
      have hr := hv.top
      cases lw with
      | true =>
        obtain ⟨hk, h⟩ := g_cond h
        have hk := Nat.eq_of_beq_eq_true hk
        obtain ⟨t, n⟩ := r
        dsimp only at hk
        subst hk
        exact ⟨rfl, hn _ _ _ _ hv.pop.push h⟩
      | false =>
        obtain ⟨hk, h⟩ := g_cond h
        have hk : g_kd r < 3 := Nat.le_of_ble_eq_true hk
        have hl := g_every (P := fun r => decide (g_ln r < 2147483648)) (by decide +kernel) hr
        have h2 := hn _ _ _ _ hv.pop.push h
        refine ⟨⟨?_, ?_⟩, ?_⟩
        · show hm_kd (g_ph M) (g_io r) < 3
          rw [g_ph_kd hr]; exact hk
        · show hm_ln (g_ph M) (g_io r) < 2147483648
          rw [g_ph_ln hr]; simpa using hl
        · show nx1 _ _ (.inl ((hm_ln (g_ph M) (g_io r) : Nat) : Int) :: _) _
          rw [g_ph_ln hr]; exact h2
    · exact h.elim
  | invokevirtual i =>
    simp only [g_st] at h
    split at h
    · next r s hdr =>
      obtain ⟨hb, h⟩ := g_cond h
      simp only [Bool.and_eq_true] at hb
      have hk := Nat.eq_of_beq_eq_true hb.2
      have hst : st = st.take y ++ .inr r :: s := by rw [← hdr, List.take_append_drop]
      have hr : g_ok r := hv.2.1 r (by rw [hst]; exact List.mem_append_right _ List.mem_cons_self)
      have hva : g_va (.inr r :: (st.take y).reverse) [] M := ⟨fun q hq => by
        rcases List.mem_cons.mp hq with e | e
        · cases e; exact hr
        · exact hv.2.1 q (List.mem_of_mem_take (List.mem_reverse.mp e)), fun q hq => (by cases hq), hv.2.2⟩
      simp only [hm_st]
      rw [← List.map_drop, hdr, ← List.map_take]
      show (bif Nat.ble (s.map g_iv).length 8 then _ else False)
      rw [List.length_map, hb.1, cond_true]
      refine ⟨(g_ph_kd hr).trans hk, ?_⟩
      have h2 := hC _ _ _ _ (fun q M' => nx1 (pc + 3) (ls.map g_iv) (q ++ s.map g_iv) M') hva h (fun q M2 hq hF => by
        rw [← List.map_append]
        exact hn _ _ _ _ ⟨hv.1, fun z hz => by
          rcases List.mem_append.mp hz with e | e
          · exact hq.2.1 z e
          · exact hv.2.1 z (by rw [hst]; exact List.mem_append_right _ (List.mem_cons_of_mem _ e)), hq.2.2⟩ hF)
      rw [List.map_cons, List.map_reverse] at h2
      exact h2
    · exact h.elim
  | invokestatic i =>
    simp only [g_st] at h
    cases hx : (x == 999) with
    | true =>
      rw [hx, cond_true] at h
      simp only [hm_st, hx, cond_true]
      split at h
      · next n dp dst sp src s =>
        have hd := hv.pop.pop.top
        have hs := hv.pop.pop.pop.pop.top
        obtain ⟨hb, h⟩ := g_cond h
        simp only [Bool.and_eq_true] at hb
        have k1 := Nat.eq_of_beq_eq_true hb.1.2
        have k2 := Nat.eq_of_beq_eq_true hb.2
        have h2 := hn _ _ _ _ (hv.pop.pop.pop.pop.pop.mem (M' := g_cp M src dst sp.toNat dp.toNat n.toNat) hv.2.2) h.2
        rw [← g_ph_cp hs hd] at h2
        simp only [List.map_cons, g_iv, List.length_map, hb.1.1, cond_true]
        refine ⟨⟨(g_ph_kd hs).trans k1, (g_ph_kd hd).trans k2, h.1.1, h.1.2.1, h.1.2.2.1, ?_, ?_⟩, h2⟩
        · rw [g_ph_ln hs]; exact h.1.2.2.2.1
        · rw [g_ph_ln hd]; exact h.1.2.2.2.2
      · exact h.elim
    | false =>
      rw [hx, cond_false] at h
      simp only [hm_st, hx, cond_false]
      cases hx2 : (x == 997) with
      | true =>
        rw [hx2, cond_true] at h
        rw [cond_true]
        split at h
        · next b a s =>
          obtain ⟨hb, h⟩ := g_cond h
          simp only [List.map_cons, g_iv, List.length_map, hb, cond_true]
          exact hn _ _ _ _ hv.pop.pop.push h
        · exact h.elim
      | false =>
        rw [hx2, cond_false] at h
        rw [cond_false]
        obtain ⟨hb, h⟩ := g_cond h
        rw [← List.map_drop, List.length_map, List.length_map, hb, cond_true, ← List.map_take]
        have hva : g_va (st.take y).reverse [] M := ⟨fun q hq => hv.2.1 q (List.mem_of_mem_take (List.mem_reverse.mp hq)), fun q hq => (by cases hq), hv.2.2⟩
        have h2 := hC _ _ _ _ (fun q M' => nx1 (pc + 3) (ls.map g_iv) (q ++ (st.drop y).map g_iv) M') hva h (fun q M2 hq hF => by
          rw [← List.map_append]
          exact hn _ _ _ _ ⟨hv.1, fun z hz => by
            rcases List.mem_append.mp hz with e | e
            · exact hq.2.1 z e
            · exact hv.2.1 z (List.mem_of_mem_drop e), hq.2.2⟩ hF)
        rw [List.map_reverse] at h2
        exact h2
  | ireturn =>
    simp only [g_st] at h
    split at h
    · cases zb with
      | true => exact ⟨h.1, hQ _ _ ⟨fun q hq => (by cases hq), hv.2.1, hv.2.2⟩ h.2⟩
      | false => exact hQ _ _ ⟨fun q hq => (by cases hq), hv.2.1, hv.2.2⟩ h
    · exact h.elim
  | return_ =>
    simp only [g_st] at h
    split at h
    · exact hQ _ _ ⟨fun q hq => (by cases hq), hv.2.1, hv.2.2⟩ h
    · exact h.elim
  | _ => exact h.elim


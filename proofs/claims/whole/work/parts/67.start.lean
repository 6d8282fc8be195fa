/-! the law's entry -/
theorem hm_arr {s : State} {args : Array Value} {ty : FieldType} (hty : ∀ C, ty ≠ .object C) (h : (Cond.arrayClass ty).before args s = true) : ∃ cA, ArrOfT s cA ty ∧ va_RA s cA ty := by
  obtain ⟨c, k, comp, h1, h2, h3⟩ := Cond.arrayClass_spec h
  refine ⟨c, fun N z => ⟨(fun k h => by cases h), k, h2, comp, h3⟩, ?_⟩
  cases ty <;> first | exact h1 | exact absurd rfl (hty _)
set_option maxRecDepth 100000 in
theorem hm_over_in : Cond.arrayOver (.object (hm_nm 0)) ∈ lw_tbl := by decide +kernel
theorem hm_world {s : State} {b : Nat} (hts : ∀ w ∈ lw_tbl, w.before #[Value.ref b] s = true) : ∃ E : hm_E, E.2.2 = (b, s.heap.size) ∧ hm_Kx E s := by
  have hg : ∀ w ∈ hm_good, w.before #[Value.ref b] s = true := fun w hw => hts w (hm_g_good hw).1
  have hk : ∀ c, c < 8 → ∃ q : ClassId × (Nat → Nat), u_Kn s (hm_nm c) (hm_T c) (hm_N c) q.1 q.2 := fun c hc => by
    obtain ⟨cC, iS, h⟩ := u_known hg (hm_cls_in c hc) (hg _ (hm_cls_new c hc).1)
    exact ⟨(cC, iS), h⟩
  obtain ⟨f, hf⟩ : ∃ f : Nat → ClassId × (Nat → Nat), ∀ c, c < 8 → u_Kn s (hm_nm c) (hm_T c) (hm_N c) (f c).1 (f c).2 := by
    refine ⟨fun c => if h : c < 8 then (hk c h).choose else (hk 0 (by decide)).choose, fun c hc => ?_⟩
    dsimp only
    rw [dif_pos hc]
    exact (hk c hc).choose_spec
  obtain ⟨a1, r1⟩ := hm_arr (ty := .int) (fun C h => by cases h) (hg _ (hm_at_in hm_once4))
  obtain ⟨a2, r2⟩ := hm_arr (ty := .boolean) (fun C h => by cases h) (hg _ (hm_at_in hm_once5))
  have hao : va_AO (hm_nm 0) s := va_AO.of (hts _ hm_over_in)
  obtain ⟨comp, c, k, h1, h2, h3, h4, h5⟩ := Cond.arrayOver_spec hao
  refine ⟨((fun c => (f c).1, fun c => (f c).2), (a1, a2, c), b, s.heap.size), rfl, ⟨⟨fun i q hq => ?_, fun i q hq => ?_⟩, fun w hw => ?_, hao⟩⟩
  · have hi : i < 8 := (List.getElem?_eq_some_iff.mp hq).1
    rw [hm_cl_at i hi] at hq
    cases hq
    exact hf i hi
  · match i, hq with
    | 0, hq => cases hq; exact r1
    | 1, hq => cases hq; exact r2
    | 2, hq => cases hq; exact ⟨fun N z => ⟨(fun k h => by cases h), k, h3, comp, h4⟩, k, comp, h3, h4, h1, h5⟩
    | i + 3, hq => simp [hm_tys] at hq
  · have g1 := List.mem_filter.mp hw
    have g2 := g1.2
    cases w <;> simp only [reduceCtorEq, Bool.false_eq_true] at g2
    exact va_Nw.of rfl (hts _ g1.1)
set_option maxHeartbeats 4000000 in
set_option maxRecDepth 100000 in
theorem whole_start {p : Program} {e : Env} {s : State} {m : MethodId} {below : List Frame} {meth : Method} {c : Code} (l : Launch) {b L : Nat} {xs : Nat → Int32} (hL : L ≤ 2560) (C0 : lw_At p s m meth c b L xs) : W p l e room_1 s m #[Value.ref b] below meth c s.heap [] 0 0 (lw_Z below #[Value.ref b] s) (entryFrame m ([Value.ref b] : List Value).toArray 4) := by
  obtain ⟨hx, hb, hr, hml, hown, hts, hX, hbl, hlocks, hgv⟩ := id C0
  obtain ⟨E, hE, hKx⟩ := hm_world hts
  have hE1 : E.2.2.1 = b := by rw [hE]
  have hE2 : E.2.2.2 = s.heap.size := by rw [hE]
  have hcx : hm_cx E 2000 8 code 4 p room_1 s m #[Value.ref b] c := ⟨hx, hb, hml, hown, fun w hw => hts w (hm_g_good hw).1, hKx, ⟨Nat.le_of_ble_eq_true rfl, Nat.le_of_ble_eq_true rfl⟩, by rw [hE2]; exact Nat.le_refl _⟩
  have hscr : hm_scr true L (fun i => (xs i).toInt) E s := fun _ => ⟨xs, by rw [hE1]; exact hX, by rw [hE1]; exact hbl, by rw [hE1, hE2]; exact hbl, by omega, fun _ => rfl⟩
  have hl := lv_entry ([.ref b]) (n := 4) (Nat.le_of_ble_eq_true rfl)
  rw [lg_entry_eq]
  generalize (lg_sl ([.ref b]) ++ List.replicate (4 - (lg_sl ([.ref b])).length) Slot.unset).toArray = la at hl ⊢
  have hl : lv_has la 4 [(0, .ref b)] := hl
  have hG := law_pro (d := 1999) (L := L) (xs := fun i => (xs i).toInt) (by omega) hL l E p e s m b below meth c hcx hr hlocks hscr hE2
  have hho : hm_ho E (cmp c_0) s.heap := by
    refine ⟨Nat.le_refl 2, ?_, ⟨fun r hr => ?_, fun r c _ h2 h3 => ?_⟩, fun k q h => ?_⟩
    · show s.heap.size + 2 = E.2.2.2 + 2
      rw [hE2]
    · rcases (show r = 0 ∨ r = 1 by omega) with rfl | rfl <;> rfl
    · have h3 : r < 2 := h3
      omega
    · have e0 : hm_wd E (cmp c_0) = [] := rfl
      rw [e0] at h
      simp at h
  have hrg : hm_rg [.inr 1] [] (cmp c_0) := ⟨(fun i hi => by simp at hi), (fun i hi => by cases hi), fun r k => hm_in0⟩
  have hLH : hm_LH E la 4 [.inr 1] := by
    refine ⟨hl.1, hl.2.1, fun k v hk => ?_⟩
    match k, hk with
    | 0, hk =>
      cases hk
      show la[0]? = some (Slot.val (.ref E.2.2.1))
      rw [hE1]
      exact hl.2.2 (0, .ref b) List.mem_cons_self
    | k + 1, hk => simp at hk
  exact hG s.heap [] 0 0 la hho hrg va_S.rf rfl rfl (Nat.zero_le _) (Nat.zero_le _) hLH

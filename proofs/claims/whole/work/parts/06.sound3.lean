/-! FIELDS, ROWS OF NUMBERS, NEW OBJECTS -/
theorem hm_zip {ws : List Cond} {zs : List Nat} (h : (ws.zip zs).all (fun q => hm_at q.2 q.1) = true) (hl : ws.length ≤ zs.length) : ∀ w ∈ ws, w ∈ hm_good := by
  induction ws generalizing zs with
  | nil => intro w hw; cases hw
  | cons a ws ih =>
    cases zs with
    | nil => simp at hl
    | cons z zs =>
      simp only [List.zip_cons_cons, List.all_cons, Bool.and_eq_true] at h
      intro w hw
      rcases List.mem_cons.mp hw with rfl | hw
      · exact hm_at_in h.1
      · exact ih h.2 (by simpa using hl) w hw
theorem hm_cl_at : ∀ c, c < 8 → hm_cl[c]? = some (hm_nm c, hm_T c, hm_N c)
  | 0, _ => rfl
  | 1, _ => rfl
  | 2, _ => rfl
  | 3, _ => rfl
  | 4, _ => rfl
  | 5, _ => rfl
  | 6, _ => rfl
  | 7, _ => rfl
  | n + 8, h => by omega
theorem hm_cls_in : ∀ c, c < 8 → ∀ w ∈ u_ws (hm_nm c) (hm_T c) (hm_N c), w ∈ hm_good
  | 0, _ => hm_zip hm_cls0.1 (by decide)
  | 1, _ => hm_zip hm_cls1.1 (by decide)
  | 2, _ => hm_zip hm_cls2.1 (by decide)
  | 3, _ => hm_zip hm_cls3.1 (by decide)
  | 4, _ => hm_zip hm_cls4.1 (by decide)
  | 5, _ => hm_zip hm_cls5.1 (by decide)
  | 6, _ => hm_zip hm_cls6.1 (by decide)
  | 7, _ => hm_zip hm_cls7.1 (by decide)
  | n + 8, h => by omega
theorem hm_cls_new : ∀ c, c < 8 → Cond.instantiable (hm_nm c) (hm_N c) ∈ hm_good ∧ Cond.initialized (hm_nm c) ∈ hm_good
  | 0, _ => ⟨hm_at_in hm_cls0.2.1, hm_at_in hm_cls0.2.2⟩
  | 1, _ => ⟨hm_at_in hm_cls1.2.1, hm_at_in hm_cls1.2.2⟩
  | 2, _ => ⟨hm_at_in hm_cls2.2.1, hm_at_in hm_cls2.2.2⟩
  | 3, _ => ⟨hm_at_in hm_cls3.2.1, hm_at_in hm_cls3.2.2⟩
  | 4, _ => ⟨hm_at_in hm_cls4.2.1, hm_at_in hm_cls4.2.2⟩
  | 5, _ => ⟨hm_at_in hm_cls5.2.1, hm_at_in hm_cls5.2.2⟩
  | 6, _ => ⟨hm_at_in hm_cls6.2.1, hm_at_in hm_cls6.2.2⟩
  | 7, _ => ⟨hm_at_in hm_cls7.2.1, hm_at_in hm_cls7.2.2⟩
  | n + 8, h => by omega
theorem hm_nmf : ∀ c, c < 8 → ∀ a, a < hm_N c → ∀ b, b < hm_N c → a ≠ b → (hm_T c a).2.1 ≠ (hm_T c b).2.1
  | 0, _ => hm_nmf0
  | 1, _ => hm_nmf1
  | 2, _ => hm_nmf2
  | 3, _ => hm_nmf3
  | 4, _ => hm_nmf4
  | 5, _ => hm_nmf5
  | 6, _ => hm_nmf6
  | 7, _ => hm_nmf7
  | n + 8, h => by omega
theorem hm_tyf : ∀ c, c < 8 → ∀ k, k < hm_N c → parseFieldDescriptor (hm_T c k).2.2.1 = some (hm_ty c k) ∧ (hm_T c k).1 = hm_nm c ∧ (hm_isr c k = true → refKind (hm_ty c k) = true) ∧ (hm_isr c k = false → hm_ty c k = .int)
  | 0, _ => hm_tyf0
  | 1, _ => hm_tyf1
  | 2, _ => hm_tyf2
  | 3, _ => hm_tyf3
  | 4, _ => hm_tyf4
  | 5, _ => hm_tyf5
  | 6, _ => hm_tyf6
  | 7, _ => hm_tyf7
  | n + 8, h => by omega
theorem hm_FL_at {o i c k : Nat} (h : (hm_FL.any (fun q => q.1 == o && q.2.1 == i && q.2.2.1 == c && q.2.2.2.1 == k)) = true) : c < 8 ∧ k < hm_N c ∧ Cond.fieldLink (hm_nm o) i (hm_T c k).1 (hm_T c k).2.1 (hm_T c k).2.2.1 ∈ hm_good := by
  obtain ⟨⟨o', i', c', k', z⟩, hq, h1⟩ := List.any_eq_true.mp h
  simp only [Bool.and_eq_true, beq_iff_eq] at h1
  obtain ⟨⟨⟨rfl, rfl⟩, rfl⟩, rfl⟩ := h1
  have h2 := List.all_eq_true.mp hm_FL_ok _ hq
  simp only [hm_fl1, Bool.and_eq_true, decide_eq_true_eq] at h2
  exact ⟨h2.1.2, h2.2, hm_at_in h2.1.1⟩
theorem hm_fs_at {E : hm_E} {c n k : Nat} {f : Nat → Int} {g : Nat → Nat} (hk : k < n) : ((List.range n).map (hm_fv E c f g))[k]? = some (hm_fv E c f g k) := by
  rw [List.getElem?_map, List.getElem?_range hk]
  rfl
theorem hm_fs_set {E : hm_E} {c n k : Nat} {f f' : Nat → Int} {g g' : Nat → Nat} {v : Value} (h1 : hm_fv E c f' g' k = v) (h2 : ∀ j, j ≠ k → hm_fv E c f' g' j = hm_fv E c f g j) : ((List.range n).map (hm_fv E c f g)).set k v = (List.range n).map (hm_fv E c f' g') := by
  apply List.ext_getElem?
  intro j
  by_cases hj : j < n
  · rw [hm_fs_at hj]
    by_cases e : k = j
    · subst e
      rw [List.getElem?_set_self (by simpa using hj), h1]
    · rw [List.getElem?_set_ne e, hm_fs_at hj, h2 j (Ne.symm e)]
  · rw [List.getElem?_eq_none (by simp; omega), List.getElem?_eq_none (by simp; omega)]
theorem hm_ho.put {E : hm_E} {M : hm_M} {H H1 : Heap} (ho : hm_ho E M H) {i : Nat} (hi : i + 2 < M.1.length) {f : Nat → Int} {g : Nat → Nat} (ha : va_at E.1 hm_cl (E.2.2.2 + i, hm_ent E (hm_kd M (i + 2), hm_ln M (i + 2)) f g) H1) (hz : H1.size = H.size) (oq : ∀ q : Nat, q ≠ E.2.2.2 + i → H1[q]? = H[q]?) : hm_ho E (M.1, va_up M.2.1 (i + 2) f, va_up M.2.2 (i + 2) g) H1 :=
  ⟨ho.1, by rw [hz]; exact ho.2.1, ho.2.2.1, by
    rw [← hm_wd_set E M hi]
    exact ho.2.2.2.set (hm_wd_D E M) (hm_wd_at E M hi) ha oq⟩
theorem hm_ho.new {E : hm_E} {M : hm_M} {H H1 : Heap} (ho : hm_ho E M H) {kd n : Nat} (hw : ∀ c, kd = c + 3 → c < 8 ∧ n = hm_N c) (ha : va_at E.1 hm_cl (H.size, hm_ent E (kd, n) (fun _ => 0) (fun _ => 0)) H1) (hz : H1.size = H.size + 1) (oq : ∀ q : Nat, q < H.size → H1[q]? = H[q]?) : hm_ho E (hm_nw M kd n) H1 := by
  have hl : (hm_nw M kd n).1.length = M.1.length + 1 := by simp [hm_nw]
  have h2 := ho.1
  have hs := ho.2.1
  refine ⟨by omega, by omega, ⟨fun r hr => ?_, fun r c h1 h3 h4 => ?_⟩, ?_⟩
  · have := ho.2.2.1.1 r hr
    have e3 : (M.1 ++ [(kd, n)])[r]? = M.1[r]? := List.getElem?_append_left (by omega)
    simpa [hm_kd, hm_nw, List.getD_eq_getElem?_getD, e3] using this
  · by_cases hr : r < M.1.length
    · have e3 : (M.1 ++ [(kd, n)])[r]? = M.1[r]? := List.getElem?_append_left hr
      have h5 : hm_kd M r = c + 3 := by simpa [hm_kd, hm_nw, List.getD_eq_getElem?_getD, e3] using h1
      have h6 := ho.2.2.1.2 r c h5 h3 hr
      simpa [hm_ln, hm_nw, List.getD_eq_getElem?_getD, e3] using h6
    · have hr2 : r = M.1.length := by omega
      subst hr2
      have e3 : (M.1 ++ [(kd, n)])[M.1.length]? = some (kd, n) := by simp
      have h5 : kd = c + 3 := by simpa [hm_kd, hm_nw, List.getD_eq_getElem?_getD] using h1
      have h6 := hw c h5
      simpa [hm_ln, hm_nw, List.getD_eq_getElem?_getD] using h6
  · rw [hm_wd_push E M h2]
    have e4 : E.2.2.2 + (M.1.length - 2) = H.size := by omega
    rw [e4]
    refine (ho.2.2.2.kept (fun k q hq => oq q.1 ((ho.2.2.2 k q hq).lt))).app (fun k q hq => ?_)
    have hz : k < 1 := (List.getElem?_eq_some_iff.mp hq).1
    rw [show k = 0 by omega] at hq
    cases hq
    exact ha
section HS
variable {p : Program} {l : Launch} {e : Env} {R : Room} {s : State} {m : MethodId} {args : Array Value} {below : List Frame} {meth : Method} {c : Code} {Qf : State → Prop} {E : hm_E} {b0 : Nat × Nat} {nL : Nat} {cc : ByteArray} {d o : Nat} {pc : Nat} {ls st : List hm_V} {M : hm_M}
theorem hs_getfield (X : hm_cx E d o cc nL p R s m args c) {i r ci k : Nat} (hq : (hm_FL.any (fun q => q.1 == o && q.2.1 == i && q.2.2.1 == ci && q.2.2.2.1 == k)) = true) (hkd : hm_kd M r = ci + 3) (hd : decode cc pc = .ok (.getfield i, 3))
    (k1 : hm_isr ci k = true → hm_G E p l e R s m args below meth c nL b0 Qf (pc + 3) ls (.inr (M.2.2 r k) :: st) M) (k2 : hm_isr ci k = false → hm_G E p l e R s m args below meth c nL b0 Qf (pc + 3) ls (.inl (M.2.1 r k) :: st) M) : hm_G E p l e R s m args below meth c nL b0 Qf pc ls (.inr r :: st) M := by
  intro H locs cells slots la ho rg hS e1 e2 c1 c2 hl
  obtain ⟨hc, hk, hw⟩ := hm_FL_at hq
  obtain ⟨j, rfl, hj, hrf, hat⟩ := hm_obj ho hkd (by omega)
  have hn := (ho.2.2.1.2 _ ci hkd (by omega) hj).2
  have hst : (Sum.inr (j + 2) :: st : List hm_V).map (hm_tr E) = .ref (E.2.2.2 + j) :: st.map (hm_tr E) := rfl
  rw [hst]
  refine va_get (C := hm_nm ci) (T := hm_T ci) (N := hm_N ci) (ref := (hm_T ci k).1) (fs := (List.range (hm_ln M (j + 2))).map (hm_fv E ci (M.2.1 (j + 2)) (M.2.2 (j + 2)))) (v := hm_fv E ci (M.2.1 (j + 2)) (M.2.2 (j + 2)) k) X.1 X.2.1 X.2.2.2.2.1 (hm_cls_in ci hc) X.2.2.2.1 X.2.2.2.2.2.1.1 ho.2.2.2 j hat (hm_cl_at ci hc) k hk (X.2.2.2.2.1 _ hw) (fun x h => h) (hm_fs_at (by omega)) hd ?_
  cases hi : hm_isr ci k with
  | true =>
    have h := k1 hi H locs cells slots la ho rg.pop.pushr hS e1 e2 c1 c2 hl
    have e3 : hm_fv E ci (M.2.1 (j + 2)) (M.2.2 (j + 2)) k = hm_tr E (.inr (M.2.2 (j + 2) k)) := by simp [hm_fv, hi, hm_tr]
    rw [e3]
    exact h
  | false =>
    have h := k2 hi H locs cells slots la ho (rg.pop.push (rg.2.2 _ _)) hS e1 e2 c1 c2 hl
    have e3 : hm_fv E ci (M.2.1 (j + 2)) (M.2.2 (j + 2)) k = hm_tr E (.inl (M.2.1 (j + 2) k)) := by simp [hm_fv, hi, hm_tr]
    rw [e3]
    exact h
/-- a field is written: what the machine asks, and what is there then -/
theorem hm_putf (X : hm_cx E d o cc nL p R s m args c) {i j ci k : Nat} (hq : (hm_FL.any (fun q => q.1 == o && q.2.1 == i && q.2.2.1 == ci && q.2.2.2.1 == k)) = true) (hkd : hm_kd M (j + 2) = ci + 3) (hfin : (hm_T ci k).2.2.2 = false ∨ (meth.name = "<init>" ∧ hm_nm ci = hm_nm o)) (hd : decode cc pc = .ok (.putfield i, 3)) {v : Value} {f : Nat → Int} {g : Nat → Nat}
    (hn : narrow (hm_ty ci k) v = v) (hfit : fits (hm_ty ci k) v = true) (h1 : hm_fv E ci f g k = v) (h2 : ∀ z, z ≠ k → hm_fv E ci f g z = hm_fv E ci (M.2.1 (j + 2)) (M.2.2 (j + 2)) z)
    {H : Heap} {locs : List Loc} {cells slots : Nat} {la : Array Slot} {rest : List Value} (hj : j + 2 < M.1.length) (ho : hm_ho E M H) (hS : va_S (fun q => E.2.2.2 ≤ q) s.heap H locs)
    (kk : ∀ (H1 : Heap) (locs1 : List Loc), hm_ho E (M.1, va_up M.2.1 (j + 2) f, va_up M.2.2 (j + 2) g) H1 → va_S (fun q => E.2.2.2 ≤ q) s.heap H1 locs1 → W p l e R s m args below meth c H1 locs1 cells slots Qf (F0 m (pc + 3) la rest)) : W p l e R s m args below meth c H locs cells slots Qf (F0 m pc la (v :: .ref (E.2.2.2 + j) :: rest)) := by
  obtain ⟨hc, hk, hw⟩ := hm_FL_at hq
  obtain ⟨hty, hdecl, -, -⟩ := hm_tyf ci hc k hk
  have hlen := (ho.2.2.1.2 _ ci hkd (by omega) hj).2
  have hat := hm_wd_at E M hj
  rw [hkd] at hat
  have hts := X.2.2.2.2.1
  have hin := hm_cls_in ci hc
  have hK := X.2.2.2.2.2.1.1
  have hcl := hm_cl_at ci hc
  have hown := X.2.2.2.1
  have hlink := hts _ hw
  have hap := va_apart (own := hm_nm o) hts hin (hm_ty ci) (fun k hk => (hm_tyf ci hc k hk).1) (hm_nmf ci hc) hK hcl
  obtain ⟨r, g1, cell, q1, q2, q3, q4⟩ := ho.2.2.2 j _ hat
  have hr : r = (hm_nm ci, hm_T ci, hm_N ci) := Option.some.inj (g1.symm.trans hcl)
  subst hr
  obtain ⟨hSl, hfc, kC, hkC, hkind⟩ := hK.1 ci _ hcl
  obtain ⟨cf, kf, fi, fd, hi, hsl⟩ := hSl k hk
  have hst := (u_facts hfc hkC (u_lays hts hin hk) hi).1
  have fin : ∀ H' : Heap, H'[E.2.2.2 + j]? = some (cell.setSlot fd.slot v) → H'.size = H.size → (∀ q : Nat, q ≠ E.2.2.2 + j → H'[q]? = H[q]?) → W p l e R s m args below meth c H' (locs ++ [⟨E.2.2.2 + j, fd.slot⟩]) cells slots Qf (F0 m (pc + 3) la rest) := by
    intro H' b1 b2 b3
    refine kk H' _ (ho.put hj ?_ b2 b3) (hS.put b2 b3 (Nat.le_add_right _ _))
    rw [hkd]
    rw [hsl] at b1
    show va_at E.1 hm_cl (E.2.2.2 + j, .inr (ci, (List.range (hm_ln M (j + 2))).map (hm_fv E ci f g))) H'
    rw [← hm_fs_set (f := M.2.1 (j + 2)) (g := M.2.2 (j + 2)) h1 h2]
    exact ⟨_, hcl, t_OB.to (V := updV (vp_V ((List.range (hm_ln M (j + 2))).map (hm_fv E ci (M.2.1 (j + 2)) (M.2.2 (j + 2))))) k v) ⟨_, b1, q2, q3, t_set q4 hap hk v⟩ (fun z _ => vp_updV_set (by simp; omega) v z)⟩
  have hlay := hts _ (hin _ (u_in_lay hk))
  unfold u_lay at hlay
  cases hf : (hm_T ci k).2.2.2 with
  | false =>
    rw [if_neg (by rw [hf]; decide)] at hlay
    exact W.putK X.1 X.2.1 (f := fd) ⟨hown, hlink, ⟨_, _, _, hi⟩, hst⟩ (by rw [q2]; exact u_store hfc hkC hkind hlay hi hty hn hfit) q1 q3 (by rw [hsl]; exact k2_hasslot (q4 k hk)) rfl rfl hd fin
  | true =>
    obtain ⟨hin2, hco⟩ : meth.name = "<init>" ∧ hm_nm ci = hm_nm o := by
      rcases hfin with h | h
      · rw [hf] at h; cases h
      · exact h
    rw [if_pos hf] at hlay
    have hcf : m.cls = cf := by
      obtain ⟨_, _, c', _, _, _, -, -, hf', -, -, -, hown2, -⟩ := Cond.laysFinal_spec hlay
      have z1 : c' = cf := by have := hi.symm.trans hf'; simp at this; exact this.1.symm
      rw [hdecl, hco] at hown2
      rw [← z1]; exact Option.some.inj (hown.symm.trans hown2)
    exact W.putFinK X.1 X.2.1 hown hlink hi hst hcf hin2 (by rw [q2]; exact u_fits hfc hkC hkind (Or.inr hlay) hi hty hn hfit) q1 q3 (by rw [hsl]; exact k2_hasslot (q4 k hk)) rfl rfl hd fin
theorem hs_putA (X : hm_cx E d o cc nL p R s m args c) {i r ci k : Nat} {v : Int} (hq : (hm_FL.any (fun q => q.1 == o && q.2.1 == i && q.2.2.1 == ci && q.2.2.2.1 == k)) = true) (hkd : hm_kd M r = ci + 3) (hfin : (hm_T ci k).2.2.2 = false ∨ (meth.name = "<init>" ∧ hm_nm ci = hm_nm o)) (hir : hm_isr ci k = false) (hd : decode cc pc = .ok (.putfield i, 3))
    (kk : hm_G E p l e R s m args below meth c nL b0 Qf (pc + 3) ls st (hm_uA M r k v)) : hm_G E p l e R s m args below meth c nL b0 Qf pc ls (.inl v :: .inr r :: st) M := by
  intro H locs cells slots la ho rg hS e1 e2 c1 c2 hl
  obtain ⟨hc, hk, hw⟩ := hm_FL_at hq
  obtain ⟨j, rfl, hj, hrf, hat⟩ := hm_obj ho hkd (by omega)
  have hty := (hm_tyf ci hc k hk).2.2.2 hir
  refine hm_putf X hq hkd hfin hd (v := .int (Int32.ofInt v)) (f := va_up (M.2.1 (j + 2)) k v) (g := M.2.2 (j + 2)) (by rw [hty]; rfl) (by rw [hty]; rfl) (by simp [hm_fv, hir, va_up]) (fun z hz => by simp [hm_fv, va_up, hz]) hj ho hS (fun H1 locs1 h1 h2 => ?_)
  rw [va_up_same] at h1
  exact kk H1 locs1 cells slots la h1 (rg.pop.pop.uA rg.top) h2 e1 e2 c1 c2 hl
theorem hs_putB (X : hm_cx E d o cc nL p R s m args c) {i r ci k : Nat} {v : Nat} (hq : (hm_FL.any (fun q => q.1 == o && q.2.1 == i && q.2.2.1 == ci && q.2.2.2.1 == k)) = true) (hkd : hm_kd M r = ci + 3) (hfin : (hm_T ci k).2.2.2 = false ∨ (meth.name = "<init>" ∧ hm_nm ci = hm_nm o)) (hir : hm_isr ci k = true) (hd : decode cc pc = .ok (.putfield i, 3))
    (kk : hm_G E p l e R s m args below meth c nL b0 Qf (pc + 3) ls st (hm_uB M r k v)) : hm_G E p l e R s m args below meth c nL b0 Qf pc ls (.inr v :: .inr r :: st) M := by
  intro H locs cells slots la ho rg hS e1 e2 c1 c2 hl
  obtain ⟨hc, hk, hw⟩ := hm_FL_at hq
  obtain ⟨j, rfl, hj, hrf, hat⟩ := hm_obj ho hkd (by omega)
  have hty := (hm_tyf ci hc k hk).2.2.1 hir
  have hnf : ∀ t : FieldType, refKind t = true → ∀ x : Option Nat, narrow t (va_rf x) = va_rf x ∧ fits t (va_rf x) = true := by
    intro t ht x
    cases t <;> first | (exact absurd ht (by decide)) | (cases x <;> exact ⟨rfl, rfl⟩)
  refine hm_putf X hq hkd hfin hd (v := va_rf (hm_rf E v)) (f := M.2.1 (j + 2)) (g := va_up (M.2.2 (j + 2)) k v) (hnf _ hty _).1 (hnf _ hty _).2 (by simp [hm_fv, hir, va_up]) (fun z hz => by simp [hm_fv, va_up, hz]) hj ho hS (fun H1 locs1 h1 h2 => ?_)
  rw [va_up_same] at h1
  exact kk H1 locs1 cells slots la h1 (rg.pop.pop.uB) h2 e1 e2 c1 c2 hl
theorem hs_iaload (X : hm_cx E d o cc nL p R s m args c) {r : Nat} {i : Int} (h : hm_kd M r = 0 ∧ 0 ≤ i ∧ i < (hm_ln M r : Int)) (hd : decode cc pc = .ok (.iaload, 1))
    (kk : hm_G E p l e R s m args below meth c nL b0 Qf (pc + 1) ls (.inl (M.2.1 r i.toNat) :: st) M) : hm_G E p l e R s m args below meth c nL b0 Qf pc ls (.inl i :: .inr r :: st) M := by
  intro H locs cells slots la ho rg hS e1 e2 c1 c2 hl
  obtain ⟨j, rfl, hj, hrf, hat⟩ := hm_obj ho h.1 (by omega)
  have hi := rg.top
  refine va_iald X.1 X.2.1 X.2.2.2.2.2.1.1 ho.2.2.2 j 0 (f := fun z => Int32.ofInt (M.2.1 (j + 2) z)) hat rfl (hm_vpin hi h.2.1 h.2.2) hd ?_
  rw [hm_nat hi]
  exact kk H locs cells slots la ho (rg.pop.pop.push (rg.2.2 _ _)) hS e1 e2 c1 c2 hl
theorem hs_baload (X : hm_cx E d o cc nL p R s m args c) {r : Nat} {i : Int} (h : hm_kd M r = 1 ∧ 0 ≤ i ∧ i < (hm_ln M r : Int)) (hd : decode cc pc = .ok (.baload, 1))
    (kk : hm_G E p l e R s m args below meth c nL b0 Qf (pc + 1) ls (.inl (M.2.1 r i.toNat) :: st) M) : hm_G E p l e R s m args below meth c nL b0 Qf pc ls (.inl i :: .inr r :: st) M := by
  intro H locs cells slots la ho rg hS e1 e2 c1 c2 hl
  obtain ⟨j, rfl, hj, hrf, hat⟩ := hm_obj ho h.1 (by omega)
  have hi := rg.top
  refine va_zald X.1 X.2.1 X.2.2.2.2.2.1.1 ho.2.2.2 j 1 (f := fun z => Int32.ofInt (M.2.1 (j + 2) z)) hat rfl (hm_vpin hi h.2.1 h.2.2) hd ?_
  rw [hm_nat hi]
  exact kk H locs cells slots la ho (rg.pop.pop.push (rg.2.2 _ _)) hS e1 e2 c1 c2 hl
theorem hs_aaload (X : hm_cx E d o cc nL p R s m args c) {r : Nat} {i : Int} (h : hm_kd M r = 2 ∧ 0 ≤ i ∧ i < (hm_ln M r : Int)) (hd : decode cc pc = .ok (.aaload, 1))
    (kk : hm_G E p l e R s m args below meth c nL b0 Qf (pc + 1) ls (.inr (M.2.2 r i.toNat) :: st) M) : hm_G E p l e R s m args below meth c nL b0 Qf pc ls (.inl i :: .inr r :: st) M := by
  intro H locs cells slots la ho rg hS e1 e2 c1 c2 hl
  obtain ⟨j, rfl, hj, hrf, hat⟩ := hm_obj ho h.1 (by omega)
  have hi := rg.top
  refine va_aldq X.1 X.2.1 X.2.2.2.2.2.1.1 ho.2.2.2 j 2 (f := fun z => hm_rf E (M.2.2 (j + 2) z)) hat rfl (hm_vpin hi h.2.1 h.2.2) hd ?_
  rw [hm_nat hi]
  exact kk H locs cells slots la ho (rg.pop.pop.pushr) hS e1 e2 c1 c2 hl
theorem hs_alen (X : hm_cx E d o cc nL p R s m args c) {r : Nat} (h : hm_kd M r < 3 ∧ hm_ln M r < 2147483648) (hd : decode cc pc = .ok (.arraylength, 1))
    (kk : hm_G E p l e R s m args below meth c nL b0 Qf (pc + 1) ls (.inl (hm_ln M r : Int) :: st) M) : hm_G E p l e R s m args below meth c nL b0 Qf pc ls (.inr r :: st) M := by
  intro H locs cells slots la ho rg hS e1 e2 c1 c2 hl
  obtain ⟨j, rfl, hj, hrf, hat⟩ := hm_obj ho (r := r) (q := hm_kd M r) rfl (by omega)
  have hk := kk H locs cells slots la ho (rg.pop.push ⟨by omega, by omega⟩) hS e1 e2 c1 c2 hl
  have e3 : Int32.ofNat (hm_ln M (j + 2)) = Int32.ofInt (hm_ln M (j + 2) : Int) := (Int32.ofInt_eq_ofNat).symm
  rcases (show hm_kd M (j + 2) = 0 ∨ hm_kd M (j + 2) = 1 ∨ hm_kd M (j + 2) = 2 by omega) with hz | hz | hz
  · rw [hz] at hat
    exact va_alen X.1 X.2.1 X.2.2.2.2.2.1.1 ho.2.2.2 j 0 hat rfl e3 hd hk
  · rw [hz] at hat
    exact va_alen X.1 X.2.1 X.2.2.2.2.2.1.1 ho.2.2.2 j 1 hat rfl e3 hd hk
  · rw [hz] at hat
    exact va_alen X.1 X.2.1 X.2.2.2.2.2.1.1 ho.2.2.2 j 2 hat rfl e3 hd hk
theorem hs_iastore (X : hm_cx E d o cc nL p R s m args c) {r : Nat} {i v : Int} (h : hm_kd M r = 0 ∧ 0 ≤ i ∧ i < (hm_ln M r : Int)) (hd : decode cc pc = .ok (.iastore, 1))
    (kk : hm_G E p l e R s m args below meth c nL b0 Qf (pc + 1) ls st (hm_uA M r i.toNat v)) : hm_G E p l e R s m args below meth c nL b0 Qf pc ls (.inl v :: .inl i :: .inr r :: st) M := by
  intro H locs cells slots la ho rg hS e1 e2 c1 c2 hl
  obtain ⟨j, rfl, hj, hrf, hat⟩ := hm_obj ho h.1 (by omega)
  have hi := rg.pop.top
  have hin := hm_vpin hi h.2.1 h.2.2
  refine W.iast X.1 X.2.1 (ho.2.2.2 j _ hat) ((X.2.2.2.2.2.1.1.2 0 _ rfl).1 _ (fun z => .int (Int32.ofInt (M.2.1 (j + 2) z)))) (fun q => by cases q) (by show ¬ (_ ∨ (arrV _ _ _).slots.size ≤ _); rw [arrV_size]; exact hin) rfl rfl hd fun H1 b1 b2 b3 => ?_
  refine kk H1 _ cells slots la ?_ (rg.pop.pop.pop.uA rg.top) (hS.put b2 b3 (Nat.le_add_right _ _)) e1 e2 c1 c2 hl
  have h1 := ho.put hj (f := va_up (M.2.1 (j + 2)) i.toNat v) (g := M.2.2 (j + 2)) (H1 := H1) (by
    rw [h.1]
    show H1[_]? = some (vp_cell _ _)
    rw [b1]
    show some (Cell.setSlot (vp_cell E.2.1.1 (hm_ln M (j + 2), .inl (fun z => Int32.ofInt (M.2.1 (j + 2) z)))) _ _) = some (vp_cell E.2.1.1 (hm_ln M (j + 2), .inl (fun z => Int32.ofInt (va_up (M.2.1 (j + 2)) i.toNat v z))))
    rw [vp_cell_i, vp_cell_i, arrV_store]
    congr 2
    funext q
    rw [hm_nat hi]
    by_cases hq : q = i.toNat
    · subst hq
      simp [updV, va_up]
    · simp [updV, va_up, hq]) b2 b3
  rw [va_up_same] at h1
  exact h1
theorem hs_bastore (X : hm_cx E d o cc nL p R s m args c) {r : Nat} {i v : Int} (h : hm_kd M r = 1 ∧ 0 ≤ i ∧ i < (hm_ln M r : Int) ∧ 0 ≤ v ∧ v ≤ 1) (hd : decode cc pc = .ok (.bastore, 1))
    (kk : hm_G E p l e R s m args below meth c nL b0 Qf (pc + 1) ls st (hm_uA M r i.toNat v)) : hm_G E p l e R s m args below meth c nL b0 Qf pc ls (.inl v :: .inl i :: .inr r :: st) M := by
  intro H locs cells slots la ho rg hS e1 e2 c1 c2 hl
  obtain ⟨j, rfl, hj, hrf, hat⟩ := hm_obj ho h.1 (by omega)
  have hi := rg.pop.top
  have hin := hm_vpin hi h.2.1 h.2.2.1
  have hnar : Int32.ofInt v &&& 1 = Int32.ofInt v := by
    rcases (show v = 0 ∨ v = 1 by omega) with rfl | rfl <;> decide
  refine W.zast X.1 X.2.1 (ho.2.2.2 j _ hat) ((X.2.2.2.2.2.1.1.2 1 _ rfl).1 _ (fun z => .int (Int32.ofInt (M.2.1 (j + 2) z)))) (fun q => by cases q) (by show ¬ (_ ∨ (arrV _ _ _).slots.size ≤ _); rw [arrV_size]; exact hin) rfl rfl hd fun H1 b1 b2 b3 => ?_
  refine kk H1 _ cells slots la ?_ (rg.pop.pop.pop.uA rg.top) (hS.put b2 b3 (Nat.le_add_right _ _)) e1 e2 c1 c2 hl
  have h1 := ho.put hj (f := va_up (M.2.1 (j + 2)) i.toNat v) (g := M.2.2 (j + 2)) (H1 := H1) (by
    rw [h.1]
    show H1[_]? = some (vp_cell _ _)
    rw [b1]
    show some (Cell.setSlot (vp_cell E.2.1.2.1 (hm_ln M (j + 2), .inl (fun z => Int32.ofInt (M.2.1 (j + 2) z)))) _ _) = some (vp_cell E.2.1.2.1 (hm_ln M (j + 2), .inl (fun z => Int32.ofInt (va_up (M.2.1 (j + 2)) i.toNat v z))))
    rw [vp_cell_i, vp_cell_i, arrV_store]
    congr 2
    funext q
    rw [hm_nat hi]
    by_cases hq : q = i.toNat
    · subst hq
      simp [updV, va_up, narrow, hnar]
    · simp [updV, va_up, hq]) b2 b3
  rw [va_up_same] at h1
  exact h1
end HS

/-! numbers -/
theorem hm_toInt {i : Int} (h : hm_in i) : (Int32.ofInt i).toInt = i := by
  rw [Int32.toInt_ofInt]
  exact Int.bmod_eq_of_le (by have := h.1; simp [Int32.size]; omega) (by have := h.2; simp [Int32.size]; omega)
theorem hm_back (x : Int32) : Int32.ofInt x.toInt = x := Int32.ofInt_toInt x
theorem hm_bk (x : Int32) : hm_in x.toInt := by
  have h1 := x.le_toInt
  have h2 := x.toInt_lt
  exact ⟨by omega, by omega⟩
theorem hm_inj {a b : Int} (ha : hm_in a) (hb : hm_in b) : Int32.ofInt a = Int32.ofInt b ↔ a = b :=
  ⟨fun h => by rw [← hm_toInt ha, ← hm_toInt hb, h], fun h => by rw [h]⟩
theorem hm_lt {a b : Int} (ha : hm_in a) (hb : hm_in b) : Int32.ofInt a < Int32.ofInt b ↔ a < b := by rw [Int32.lt_iff_toInt_lt, hm_toInt ha, hm_toInt hb]
theorem hm_le {a b : Int} (ha : hm_in a) (hb : hm_in b) : Int32.ofInt a ≤ Int32.ofInt b ↔ a ≤ b := by rw [Int32.le_iff_toInt_le, hm_toInt ha, hm_toInt hb]
theorem hm_nat {i : Int} (h : hm_in i) : (Int32.ofInt i).toNatClampNeg = i.toNat := by
  show (Int32.ofInt i).toInt.toNat = i.toNat
  rw [hm_toInt h]
theorem hm_in0 : hm_in 0 := ⟨by omega, by omega⟩
theorem hm_vpin {i : Int} {n : Nat} (h : hm_in i) (h0 : 0 ≤ i) (hn : i < (n : Int)) : vp_in (Int32.ofInt i) n := by
  intro q
  rcases q with q | q
  · have : Int32.ofInt i < Int32.ofInt 0 := q
    rw [hm_lt h hm_in0] at this
    omega
  · rw [hm_nat h] at q
    omega
/-! ranges -/
theorem hm_rg.push {ls st : List hm_V} {M : hm_M} {n : Int} (h : hm_rg ls st M) (hn : hm_in n) : hm_rg ls (.inl n :: st) M :=
  ⟨h.1, fun i hi => by rcases List.mem_cons.mp hi with e | e; (cases e; exact hn); exact h.2.1 i e, h.2.2⟩
theorem hm_rg.pushr {ls st : List hm_V} {M : hm_M} {r : Nat} (h : hm_rg ls st M) : hm_rg ls (.inr r :: st) M :=
  ⟨h.1, fun i hi => by rcases List.mem_cons.mp hi with e | e; (cases e); exact h.2.1 i e, h.2.2⟩
theorem hm_rg.pop {ls st : List hm_V} {M : hm_M} {v : hm_V} (h : hm_rg ls (v :: st) M) : hm_rg ls st M := ⟨h.1, fun i hi => h.2.1 i (List.mem_cons_of_mem _ hi), h.2.2⟩
theorem hm_rg.top {ls st : List hm_V} {M : hm_M} {a : Int} (h : hm_rg ls (.inl a :: st) M) : hm_in a := h.2.1 a List.mem_cons_self
theorem hm_rg.loc {ls st : List hm_V} {M : hm_M} {a : Int} {k : Nat} (h : hm_rg ls st M) (hk : ls[k]? = some (.inl a)) : hm_in a := h.1 a (List.mem_of_getElem? hk)
theorem hm_mem_set {ls : List hm_V} {i : Nat} {v w : hm_V} (h : w ∈ hm_set ls i v) : w = v ∨ w ∈ ls := by
  rcases List.mem_append.mp h with q | q
  · exact Or.inr (List.mem_of_mem_take q)
  · rcases List.mem_cons.mp q with q | q
    · exact Or.inl q
    · exact Or.inr (List.mem_of_mem_drop q)
theorem hm_rg.set {ls st : List hm_V} {M : hm_M} {i : Nat} {a : Int} (h : hm_rg ls st M) (ha : hm_in a) : hm_rg (hm_set ls i (.inl a)) st M :=
  ⟨fun j hj => by rcases hm_mem_set hj with e | e; (cases e; exact ha); exact h.1 j e, h.2.1, h.2.2⟩
theorem hm_rg.setr {ls st : List hm_V} {M : hm_M} {i r : Nat} (h : hm_rg ls st M) : hm_rg (hm_set ls i (.inr r)) st M :=
  ⟨fun j hj => by rcases hm_mem_set hj with e | e; (cases e); exact h.1 j e, h.2.1, h.2.2⟩
theorem hm_rg.take {ls st : List hm_V} {M : hm_M} {k : Nat} (h : hm_rg ls st M) : hm_rg (ls.take k) st M := ⟨fun j hj => h.1 j (List.mem_of_mem_take hj), h.2⟩
theorem hm_rg.uA {ls st : List hm_V} {M : hm_M} {r k : Nat} {v : Int} (h : hm_rg ls st M) (hv : hm_in v) : hm_rg ls st (hm_uA M r k v) :=
  ⟨h.1, h.2.1, fun r' k' => by
    show hm_in (va_up M.2.1 r (va_up (M.2.1 r) k v) r' k')
    unfold va_up
    split
    · dsimp only
      split
      · exact hv
      · exact h.2.2 _ _
    · exact h.2.2 _ _⟩
theorem hm_rg.uB {ls st : List hm_V} {M : hm_M} {r k v : Nat} (h : hm_rg ls st M) : hm_rg ls st (hm_uB M r k v) := ⟨h.1, h.2.1, h.2.2⟩
theorem hm_rg.cp {ls st : List hm_V} {M : hm_M} {a b sp dp n : Nat} (h : hm_rg ls st M) : hm_rg ls st (hm_cp M a b sp dp n) :=
  ⟨h.1, h.2.1, fun r' k' => by
    show hm_in (va_up M.2.1 b (va_cpy (M.2.1 a) (M.2.1 b) sp dp n) r' k')
    unfold va_up va_cpy
    split
    · dsimp only
      split
      · exact h.2.2 _ _
      · exact h.2.2 _ _
    · exact h.2.2 _ _⟩
theorem hm_rg.nw {ls st : List hm_V} {M : hm_M} {kd n : Nat} (h : hm_rg ls st M) : hm_rg ls st (hm_nw M kd n) :=
  ⟨h.1, h.2.1, fun r' k' => by
    show hm_in (va_up M.2.1 M.1.length (fun _ => 0) r' k')
    unfold va_up
    split
    · exact hm_in0
    · exact h.2.2 _ _⟩
/-! locals -/
theorem hm_cat (E : hm_E) (v : hm_V) : (hm_tr E v).category = 1 := by
  cases v with
  | inl i => rfl
  | inr r =>
    show (va_rf (hm_rf E r)).category = 1
    cases hm_rf E r <;> rfl
def hm_alist (E : hm_E) (ls : List hm_V) : List (Nat × Value) := ls.zipIdx.map (fun q => (q.2, hm_tr E q.1))
theorem hm_LH.has {E : hm_E} {la : Array Slot} {nL : Nat} {ls : List hm_V} (h : hm_LH E la nL ls) : lv_has la nL (hm_alist E ls) := by
  refine ⟨h.1, h.2.1, fun q hq => ?_⟩
  obtain ⟨x, hx, rfl⟩ := List.mem_map.mp hq
  have h1 := List.mem_zipIdx_iff_getElem?.mp hx
  exact h.2.2 x.2 x.1 h1
theorem hm_LH.of {E : hm_E} {la : Array Slot} {nL i : Nat} {ls : List hm_V} {v : hm_V} (hi : i ≤ ls.length) (h : lv_has la nL ((i, hm_tr E v) :: (hm_alist E ls).filter (fun q => !(q.1 == i) && !(q.1 + 1 == i && q.2.category == 2)))) : hm_LH E la nL (hm_set ls i v) := by
  refine ⟨h.1, h.2.1, fun k w hk => ?_⟩
  have hlen : (ls.take i).length = i := by simp; omega
  by_cases e : k = i
  · subst e
    have : w = v := by
      unfold hm_set at hk
      rw [List.getElem?_append_right (by omega), hlen, Nat.sub_self] at hk
      simpa using hk.symm
    subst this
    exact h.2.2 (k, hm_tr E w) List.mem_cons_self
  · have hw : ls[k]? = some w := by
      unfold hm_set at hk
      by_cases hlt : k < i
      · rw [List.getElem?_append_left (by omega), List.getElem?_take] at hk
        simpa [hlt] using hk
      · rw [List.getElem?_append_right (by omega), hlen] at hk
        obtain ⟨j, hj⟩ : ∃ j, k = i + 1 + j := ⟨k - i - 1, by omega⟩
        subst hj
        rw [show i + 1 + j - i = j + 1 by omega, List.getElem?_cons_succ, List.getElem?_drop] at hk
        exact hk
    refine h.2.2 (k, hm_tr E w) (List.mem_cons_of_mem _ (List.mem_filter.mpr ⟨List.mem_map.mpr ⟨(w, k), List.mem_zipIdx_iff_getElem?.mpr hw, rfl⟩, ?_⟩))
    simp [e, hm_cat]
theorem hm_LH.take {E : hm_E} {la : Array Slot} {nL k : Nat} {ls : List hm_V} (h : hm_LH E la nL ls) : hm_LH E la nL (ls.take k) :=
  ⟨h.1, h.2.1, fun j v hj => h.2.2 j v (by rw [List.getElem?_take] at hj; split at hj; exact hj; cases hj)⟩
/-! the world -/
theorem hm_wd_len (E : hm_E) (M : hm_M) : (hm_wd E M).length = M.1.length - 2 := by simp [hm_wd]
theorem hm_wd_at (E : hm_E) (M : hm_M) {i : Nat} (h : i + 2 < M.1.length) : (hm_wd E M)[i]? = some (E.2.2.2 + i, hm_ent E (hm_kd M (i + 2), hm_ln M (i + 2)) (M.2.1 (i + 2)) (M.2.2 (i + 2))) := by
  unfold hm_wd
  rw [List.getElem?_map, List.getElem?_range (by omega)]
  rfl
theorem hm_wd_D (E : hm_E) (M : hm_M) : va_D (fun q => E.2.2.2 ≤ q) (hm_wd E M) := by
  have key : ∀ (i : Nat) (q : Nat × va_E), (hm_wd E M)[i]? = some q → q.1 = E.2.2.2 + i := by
    intro i q h
    have hl := (List.getElem?_eq_some_iff.mp h).1
    rw [hm_wd_len] at hl
    rw [hm_wd_at E M (by omega)] at h
    rw [← Option.some.inj h]
  refine ⟨fun i j a b ha hb e => ?_, fun i q h => ?_⟩
  · rw [key i a ha, key j b hb] at e
    omega
  · have := key i q h
    show E.2.2.2 ≤ q.1
    omega
theorem hm_wd_set (E : hm_E) (M : hm_M) {i : Nat} (h : i + 2 < M.1.length) (f : Nat → Int) (g : Nat → Nat) : (hm_wd E M).set i (E.2.2.2 + i, hm_ent E (hm_kd M (i + 2), hm_ln M (i + 2)) f g) = hm_wd E (M.1, va_up M.2.1 (i + 2) f, va_up M.2.2 (i + 2) g) := by
  apply List.ext_getElem?
  intro k
  by_cases hk : k + 2 < M.1.length
  · rw [hm_wd_at E (M.1, va_up M.2.1 (i + 2) f, va_up M.2.2 (i + 2) g) (i := k) hk]
    by_cases e : i = k
    · subst e
      rw [List.getElem?_set_self (by rw [hm_wd_len]; omega)]
      simp [va_up, hm_kd, hm_ln]
    · rw [List.getElem?_set_ne e, hm_wd_at E M hk]
      have e2 : ¬ k + 2 = i + 2 := by omega
      simp [va_up, e2, hm_kd, hm_ln, Ne.symm e]
  · rw [List.getElem?_eq_none (by rw [List.length_set, hm_wd_len]; omega), List.getElem?_eq_none (by rw [hm_wd_len]; show M.1.length - 2 ≤ k; omega)]
theorem va_up_same {α : Type} (f : Nat → α) (k : Nat) : va_up f k (f k) = f := by
  funext j
  unfold va_up
  split
  · next h => rw [h]
  · rfl
theorem hm_wd_setA (E : hm_E) (M : hm_M) {i : Nat} (h : i + 2 < M.1.length) (f : Nat → Int) : (hm_wd E M).set i (E.2.2.2 + i, hm_ent E (hm_kd M (i + 2), hm_ln M (i + 2)) f (M.2.2 (i + 2))) = hm_wd E (M.1, va_up M.2.1 (i + 2) f, M.2.2) := by
  rw [hm_wd_set E M h, va_up_same]
theorem hm_wd_setB (E : hm_E) (M : hm_M) {i : Nat} (h : i + 2 < M.1.length) (g : Nat → Nat) : (hm_wd E M).set i (E.2.2.2 + i, hm_ent E (hm_kd M (i + 2), hm_ln M (i + 2)) (M.2.1 (i + 2)) g) = hm_wd E (M.1, M.2.1, va_up M.2.2 (i + 2) g) := by
  rw [hm_wd_set E M h, va_up_same]
theorem hm_wd_push (E : hm_E) (M : hm_M) (h : 2 ≤ M.1.length) (kd n : Nat) : hm_wd E (hm_nw M kd n) = hm_wd E M ++ [(E.2.2.2 + (M.1.length - 2), hm_ent E (kd, n) (fun _ => 0) (fun _ => 0))] := by
  have hl : (hm_nw M kd n).1.length = M.1.length + 1 := by simp [hm_nw]
  apply List.ext_getElem?
  intro k
  by_cases hk : k + 2 < M.1.length
  · rw [hm_wd_at E _ (by omega), List.getElem?_append_left (by rw [hm_wd_len]; omega), hm_wd_at E M hk]
    have e2 : ¬ k + 2 = M.1.length := by omega
    have e3 : (M.1 ++ [(kd, n)])[k + 2]? = M.1[k + 2]? := List.getElem?_append_left hk
    simp [hm_nw, va_up, e2, hm_kd, hm_ln, List.getD_eq_getElem?_getD, e3]
  · by_cases hk2 : k + 2 = M.1.length
    · rw [hm_wd_at E _ (by omega), List.getElem?_append_right (by rw [hm_wd_len]; omega), hm_wd_len]
      have e3 : (M.1 ++ [(kd, n)])[k + 2]? = some (kd, n) := by rw [List.getElem?_append_right (by omega), hk2, Nat.sub_self]; rfl
      rw [show k - (M.1.length - 2) = 0 by omega, show M.1.length - 2 = k by omega]
      simp [hm_nw, va_up, hk2, hm_kd, hm_ln, List.getD_eq_getElem?_getD]
    · rw [List.getElem?_eq_none (by rw [hm_wd_len]; omega), List.getElem?_eq_none (by rw [List.length_append, hm_wd_len]; simp; omega)]
/-- an object of a kind: where it is -/
theorem hm_obj {E : hm_E} {M : hm_M} {H : Heap} (ho : hm_ho E M H) {r q : Nat} (h : hm_kd M r = q) (hq : q < 1000) : ∃ i, r = i + 2 ∧ i + 2 < M.1.length ∧ hm_rf E r = some (E.2.2.2 + i) ∧ (hm_wd E M)[i]? = some (E.2.2.2 + i, hm_ent E (q, hm_ln M r) (M.2.1 r) (M.2.2 r)) := by
  have h2 : 2 ≤ r := by
    rcases Nat.lt_or_ge r 2 with h3 | h3
    · have := ho.2.2.1.1 r h3
      omega
    · exact h3
  have hl : r < M.1.length := by
    rcases Nat.lt_or_ge r M.1.length with h3 | h3
    · exact h3
    · have : hm_kd M r = 1000 := by simp [hm_kd, List.getD_eq_getElem?_getD, List.getElem?_eq_none h3]
      omega
  obtain ⟨i, rfl⟩ : ∃ i, r = i + 2 := ⟨r - 2, by omega⟩
  refine ⟨i, rfl, hl, rfl, ?_⟩
  rw [hm_wd_at E M hl, h]
theorem hm_wf.same {M : hm_M} (h : hm_wf M) {A : Nat → Nat → Int} {B : Nat → Nat → Nat} : hm_wf (M.1, A, B) := h

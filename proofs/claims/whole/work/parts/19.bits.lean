/-! SETS AS NUMBERS -/
theorem pb_tn {n : Nat} (h : n < 2 ^ 31) : (Int32.ofInt (n : Int)).toBitVec.toNat = n := by
  rw [Int32.toBitVec_ofInt, BitVec.ofInt_natCast, BitVec.toNat_ofNat]
  exact Nat.mod_eq_of_lt (by omega)
theorem pb_back {x : Int32} {n : Nat} (h : n < 2 ^ 31) (hx : x.toBitVec.toNat = n) : x.toInt = (n : Int) := by
  show x.toBitVec.toInt = _
  rw [BitVec.toInt_eq_toNat_of_lt (by omega), hx]
theorem pb_or {n m : Nat} (hn : n < 2 ^ 31) (hm : m < 2 ^ 31) : hm_or (n : Int) (m : Int) = ((n ||| m : Nat) : Int) := by
  refine pb_back (Nat.or_lt_two_pow hn hm) ?_
  rw [Int32.toBitVec_or, BitVec.toNat_or, pb_tn hn, pb_tn hm]
theorem pb_and {n m : Nat} (hn : n < 2 ^ 31) (hm : m < 2 ^ 31) : hm_and (n : Int) (m : Int) = ((n &&& m : Nat) : Int) := by
  refine pb_back (Nat.lt_of_le_of_lt Nat.and_le_left hn) ?_
  rw [Int32.toBitVec_and, BitVec.toNat_and, pb_tn hn, pb_tn hm]
/-- n without m -/
def pb_d (n m : Nat) : Nat := n ^^^ (n &&& m)
theorem pb_d_bit {n m i : Nat} : (pb_d n m).testBit i = (n.testBit i && !m.testBit i) := by
  unfold pb_d
  rw [Nat.testBit_xor, Nat.testBit_and]
  cases n.testBit i <;> cases m.testBit i <;> rfl
theorem pb_d_lt {n m k : Nat} (h : n < 2 ^ k) : pb_d n m < 2 ^ k := Nat.xor_lt_two_pow h (Nat.lt_of_le_of_lt Nat.and_le_left h)
theorem pb_dif {n m : Nat} (hn : n < 2 ^ 31) (hm : m < 2 ^ 31) : hm_and (n : Int) (hm_xor (m : Int) (-1)) = ((pb_d n m : Nat) : Int) := by
  refine pb_back (pb_d_lt hn) ?_
  unfold hm_xor
  rw [hm_back, Int32.toBitVec_and, Int32.toBitVec_xor]
  apply Nat.eq_of_testBit_eq
  intro i
  rw [pb_d_bit, BitVec.testBit_toNat, BitVec.getLsbD_and, BitVec.getLsbD_xor, ← BitVec.testBit_toNat, ← BitVec.testBit_toNat, pb_tn hn, pb_tn hm]
  by_cases hi : i < 32
  · have e : (Int32.ofInt (-1)).toBitVec.getLsbD i = true := by
      have e1 : (Int32.ofInt (-1)).toBitVec = BitVec.allOnes 32 := by decide
      rw [e1, BitVec.getLsbD_allOnes]
      simpa using hi
    rw [e]
    simp
  · have e : n.testBit i = false := Nat.testBit_lt_two_pow (Nat.lt_of_lt_of_le hn (Nat.pow_le_pow_right (by omega) (by omega)))
    rw [e]
    simp
theorem pb_shl_ck : (List.range 10).all (fun i => decide (hm_shl 1 (i : Int) = ((2 ^ i : Nat) : Int))) = true := by decide +kernel
theorem pb_shl {i : Nat} (h : i < 10) : hm_shl 1 (i : Int) = ((2 ^ i : Nat) : Int) := by
  have := List.all_eq_true.mp pb_shl_ck i (List.mem_range.mpr h)
  simpa using this
theorem pb_pow {i : Nat} (h : i < 10) : (2 : Nat) ^ i < 2 ^ 31 := Nat.pow_lt_pow_right (by omega) (by omega)
theorem pb_pow8 {i : Nat} (h : i < 8) : (2 : Nat) ^ i < 2 ^ 8 := Nat.pow_lt_pow_right (by omega) h
theorem pb_pow10 {i : Nat} (h : i < 10) : (2 : Nat) ^ i < 2 ^ 10 := Nat.pow_lt_pow_right (by omega) h
theorem pb_bit {i j : Nat} : (2 ^ i).testBit j = decide (i = j) := Nat.testBit_two_pow
theorem pb_ext {n m : Nat} (h : ∀ i, n.testBit i = m.testBit i) : n = m := Nat.eq_of_testBit_eq h
theorem pb_g {n i : Nat} : g_bit (n : Int) (i : Int) ↔ n.testBit i = true := by
  unfold g_bit
  rw [Int.toNat_natCast, Int.toNat_natCast]
/-! the terms of a formula -/
def pf_in (t : Nat) (F : pf_F) : Prop := (∃ p ∈ F.1, p.2.1 = t ∨ p.2.2 = t) ∨ ∃ p ∈ F.2, p.2.1 = t ∨ p.2.2 = t
def pf_tm (n : Nat) (l : List pf_T) : Nat := l.foldl (fun n p => n ||| (2 ^ p.2.1 ||| 2 ^ p.2.2)) n
def pf_terms (F : pf_F) : Nat := pf_tm (pf_tm 0 F.1) F.2
theorem pf_tm_bit {l : List pf_T} {n t : Nat} : (pf_tm n l).testBit t = true ↔ n.testBit t = true ∨ ∃ p ∈ l, p.2.1 = t ∨ p.2.2 = t := by
  unfold pf_tm
  induction l generalizing n with
  | nil => simp
  | cons p l ih =>
    rw [List.foldl_cons, ih]
    simp only [Nat.testBit_or, pb_bit, Bool.or_eq_true, decide_eq_true_eq, List.mem_cons]
    constructor
    · rintro ((h | h) | ⟨q, h1, h2⟩)
      · exact Or.inl h
      · exact Or.inr ⟨p, Or.inl rfl, h⟩
      · exact Or.inr ⟨q, Or.inr h1, h2⟩
    · rintro (h | ⟨q, rfl | h1, h2⟩)
      · exact Or.inl (Or.inl h)
      · exact Or.inl (Or.inr h2)
      · exact Or.inr ⟨q, h1, h2⟩
theorem pf_terms_bit {F : pf_F} {t : Nat} : (pf_terms F).testBit t = true ↔ pf_in t F := by
  unfold pf_terms pf_in
  rw [pf_tm_bit, pf_tm_bit]
  simp
theorem pf_tm_lt {l : List pf_T} {n : Nat} (hn : n < 256) (h : ∀ p ∈ l, pf_ok p) : pf_tm n l < 256 := by
  unfold pf_tm
  induction l generalizing n with
  | nil => exact hn
  | cons p l ih =>
    have hp := h p List.mem_cons_self
    refine ih ?_ (fun q hq => h q (List.mem_cons_of_mem _ hq))
    exact Nat.or_lt_two_pow (n := 8) hn (Nat.or_lt_two_pow (pb_pow8 hp.2.1) (pb_pow8 hp.2.2))
theorem pf_terms_lt {F : pf_F} (h : pf_wf F) : pf_terms F < 256 := pf_tm_lt (pf_tm_lt (by omega) h.2.2.1) h.2.2.2
theorem pf_step {n : Nat} (hn : n < 256) {p : pf_T} (hp : pf_ok p) : hm_or (n : Int) (hm_or (hm_shl 1 (p.2.1 : Int)) (hm_shl 1 (p.2.2 : Int))) = ((n ||| (2 ^ p.2.1 ||| 2 ^ p.2.2) : Nat) : Int) := by
  have h1 : (2 : Nat) ^ p.2.1 < 2 ^ 31 := pb_pow (by have := hp.2.1; omega)
  have h2 : (2 : Nat) ^ p.2.2 < 2 ^ 31 := pb_pow (by have := hp.2.2; omega)
  rw [pb_shl (by have := hp.2.1; omega), pb_shl (by have := hp.2.2; omega), pb_or h1 h2, pb_or (by omega) (Nat.or_lt_two_pow h1 h2)]
theorem pf_tm_snoc {n : Nat} {l : List pf_T} {i : Nat} (h : i < l.length) : pf_tm n (l.take (i + 1)) = pf_tm n (l.take i) ||| (2 ^ l[i].2.1 ||| 2 ^ l[i].2.2) := by
  unfold pf_tm
  rw [List.take_succ_eq_append_getElem h, List.foldl_append]
  rfl
theorem c_40 {D : Nat} (hD : 3 ≤ D) {M : g_M} {f : Nat} {F : pf_F} {Q : g_P} (hc : cF M f F) (hw : pf_wf F) (h : Q [.inl ((pf_terms F : Nat) : Int)] M) : g_Ev D 40 [.inr (1, f)] M Q := by
  obtain ⟨D, rfl⟩ := g_dep hD
  have l1 := hw.1
  have l2 := hw.2.1
  have a1 := hc.1
  have a2 := hc.2.1
  have loop2 : ∀ (n i : Nat) (x : Int), x = i → i + n = F.2.length → g_R (D + 3) 40 Q 46 [.inr (1, f), .inl ((pf_tm (pf_tm 0 F.1) (F.2.take i) : Nat) : Int), .inl x] [] M := by
    intro n
    induction n with
    | zero =>
      intro i x hx hi
      rw [List.take_of_length_le (by omega)]
      exact rg_40_46 rfl ⟨fun _ => h, fun q => by omega⟩
    | succ n ih =>
      intro i x hx hi
      subst hx
      have hlt : i < F.2.length := by omega
      have ok := hw.2.2.2 _ (List.getElem_mem hlt)
      have r := pf_c_rg ok
      have e : M.1 3 f (i : Int).toNat = 128 + pf_c F.2[i] := by rw [Int.toNat_natCast]; exact hc.2.2.2 i _ (List.getElem?_eq_getElem hlt)
      refine rg_40_46 rfl ⟨fun q => by omega, fun _ => ⟨⟨by omega, by omega⟩, ⟨by omega, by omega⟩, ⟨by omega, by omega⟩, ⟨by omega, by omega⟩, by unfold hm_in; omega, ?_⟩⟩
      have h2 := ih (i + 1) _ rfl (by omega)
      rw [e, r.2.2.2.2.2.2.1, r.2.2.2.2.2.2.2, pf_step (pf_tm_lt (pf_tm_lt (by omega) hw.2.2.1) (fun p hp => hw.2.2.2 p (List.mem_of_mem_take hp))) ok, ← pf_tm_snoc hlt]
      exact h2
  have loop1 : ∀ (n i : Nat) (x : Int), x = i → i + n = F.1.length → g_R (D + 3) 40 Q 4 [.inr (1, f), .inl ((pf_tm 0 (F.1.take i) : Nat) : Int), .inl x] [] M := by
    intro n
    induction n with
    | zero =>
      intro i x hx hi
      rw [List.take_of_length_le (by omega)]
      exact rg_40_4 rfl ⟨fun _ => loop2 F.2.length 0 0 rfl (by omega), fun q => by omega⟩
    | succ n ih =>
      intro i x hx hi
      subst hx
      have hlt : i < F.1.length := by omega
      have ok := hw.2.2.1 _ (List.getElem_mem hlt)
      have r := pf_c_rg ok
      have e : M.1 2 f (i : Int).toNat = pf_c F.1[i] := by rw [Int.toNat_natCast]; exact hc.2.2.1 i _ (List.getElem?_eq_getElem hlt)
      refine rg_40_4 rfl ⟨fun q => by omega, fun _ => ⟨⟨by omega, by omega⟩, ⟨by omega, by omega⟩, ⟨by omega, by omega⟩, ⟨by omega, by omega⟩, by unfold hm_in; omega, ?_⟩⟩
      have h2 := ih (i + 1) _ rfl (by omega)
      rw [e, r.2.2.2.1, r.2.2.2.2.1, pf_step (pf_tm_lt (by omega) (fun p hp => hw.2.2.1 p (List.mem_of_mem_take hp))) ok, ← pf_tm_snoc hlt]
      exact h2
  exact g_enter hk_40 hn_40 (rg_40_0 rfl (loop1 F.1.length 0 0 rfl (by omega)))

/-! THE MEMORY: set, cell, held, run -/
def chm (i : Nat) (M M' : g_M) : Prop := M'.2 = M.2 ∧ ∀ t n, ¬ ((t = 4 ∨ t = 5 ∨ t = 6) ∧ n = i) → M'.1 t n = M.1 t n
theorem chm.rf {f : Nat} {M : g_M} : chm f M M := ⟨rfl, fun _ _ _ => rfl⟩
theorem chm.tr {f : Nat} {M M' M'' : g_M} (h : chm f M M') (h' : chm f M' M'') : chm f M M'' := ⟨h'.1.trans h.1, fun t n hn => (h'.2 t n hn).trans (h.2 t n hn)⟩
theorem chm.uA {f t k : Nat} {v : Int} {M : g_M} (ht : t = 4 ∨ t = 5 ∨ t = 6) : chm f M (g_uA M (t, f) k v) := by
  refine ⟨rfl, fun t' n hn => ?_⟩
  funext i
  rw [g_uA_at, if_neg]
  rintro ⟨rfl, rfl, -⟩
  exact hn ⟨ht, rfl⟩
theorem chm.cch {f : Nat} {M M1 : g_M} (h : chm f M M1) : cch M M1 := fun n hn => h.2 0 n (by omega)
theorem cMem.other {M M' : g_M} {i k : Nat} {cs vs : Nat → Int} (h : cMem M k cs vs) (hc : chm i M M') (hk : k ≠ i) : cMem M' k cs vs := by
  have e : ∀ t, M'.1 t k = M.1 t k := fun t => hc.2 t k (fun z => hk z.2)
  unfold cMem
  rw [e 4, e 5, e 6]
  exact h
theorem cMem.setV {M : g_M} {i k : Nat} {v : Int} {cs vs : Nat → Int} (h : cMem M i cs vs) (hk : 1 ≤ k) (hv : 0 ≤ v ∧ v ≤ 9) : cMem (g_uA M (6, i) k v) i cs (va_up vs k v) := by
  obtain ⟨h1, ⟨w, h2, h3, h4⟩, h5, h6, h7⟩ := h
  refine ⟨fun a ha => ?_, ⟨w, h2, ?_, h4⟩, fun t ht => ?_, h6, ?_⟩
  · simp [g_uA_at, h1 a ha]
  · simp [g_uA_at, h3]
  · by_cases z : t = k
    · subst z
      simp [g_uA_at, va_up, hv]
    · have := h5 t ht
      simp [g_uA_at, va_up, z, this]
  · have : ¬ (0 = k) := by omega
    simp [va_up, this, h7]
theorem c_33 {D : Nat} (hD : 3 ≤ D) {M : g_M} {i a : Nat} {v : Int} {cs vs : Nat → Int} {Q : g_P} (hm : cMem M i cs vs) (ha : 1 ≤ a ∧ a < 10) (hv : -1 ≤ v ∧ v ≤ 9)
    (h : ∀ M', chm i M M' → cMem M' i (va_up cs a v) vs → Q [] M') : g_Ev D 33 [.inr (4, i), .inl (a : Int), .inl v] M Q := by
  obtain ⟨D, rfl⟩ := g_dep hD
  obtain ⟨h1, ⟨w, h2, h3, h4⟩, h5, h6, h7⟩ := hm
  have hp : (2 : Nat) ^ a < 2 ^ 10 := pb_pow10 ha.2
  refine g_enter hk_33 hn_33 (rp_33_0 rfl ?_)
  rw [h3, pb_shl ha.2, Int.toNat_natCast, pb_or (by omega) (by omega), pb_dif (by omega) (by omega)]
  have hall : ∀ u : Nat, u < 1024 → (∀ b, b < 10 → u.testBit b = decide (0 ≤ va_up cs a v b)) → Q [] (g_uA (g_uA M (5, i) a v) (4, i) 2 (u : Int)) := fun u hu hb => by
    refine h _ ((chm.uA (by simp)).tr (chm.uA (by simp))) ⟨fun b hb => ?_, ⟨u, hu, ?_, hb⟩, fun t ht => ?_, ?_, h7⟩
    · by_cases z : b = a
      · subst z
        simp [g_uA_at, va_up, hv]
      · have := h1 b hb
        simp [g_uA_at, va_up, z, this]
    · simp [g_uA_at]
    · simp [g_uA_at, h5 t ht]
    · have : ¬ (0 = a) := by omega
      simp [va_up, this, h6]
  refine ⟨⟨by omega, by omega⟩, fun q => hall _ ?_ (fun b hb => ?_), fun q => hall _ ?_ (fun b hb => ?_)⟩
  · exact Nat.or_lt_two_pow (n := 10) h2 hp
  · rw [Nat.testBit_or, pb_bit, h4 b hb]
    by_cases z : a = b
    · subst z
      have : 0 ≤ v := by omega
      simp [va_up, this]
    · have : ¬ b = a := fun y => z y.symm
      simp [va_up, z, this]
  · exact pb_d_lt (k := 10) h2
  · rw [pb_d_bit, pb_bit, h4 b hb]
    by_cases z : a = b
    · subst z
      have : ¬ (0 ≤ v) := by omega
      simp [va_up, this]
    · have : ¬ b = a := fun y => z y.symm
      simp [va_up, z, this]
section OPS
variable {D : Nat} {M : g_M} {n : Nat} {Fs : Nat → pf_F} {cs vs : Nat → Int} {c : Nat} {Q : g_P}
theorem CI.mem {M1 : g_M} {cs1 vs1 vs2 : Nat → Int} (hi : CI M n Fs cs vs c) (hc : chm 0 M M1) (h : cMem M1 0 cs1 vs1) (hv : ∀ t, t < 5 → vs1 t = vs2 t) : CI M1 n Fs cs1 vs2 c := by
  have e : ∀ t n, ¬ ((t = 4 ∨ t = 5 ∨ t = 6) ∧ n = 0) → M1.1 t n = M.1 t n := hc.2
  refine ⟨by rw [e 0 2 (by omega)]; exact hi.1, by rw [e 0 2 (by omega)]; exact hi.2.1, fun f hf => ?_, ⟨vs1, h, hv⟩, ?_⟩
  · have := hi.2.2.1 f hf
    unfold cF at this ⊢
    rw [e 1 _ (by omega), e 2 _ (by omega), e 3 _ (by omega)]
    exact this
  · obtain ⟨cs1, vs1, h1, h2, h3⟩ := hi.2.2.2.2
    exact ⟨cs1, vs1, h1.other hc (by omega), h2, fun i hi => by rw [e 12 i (by omega)]; exact h3 i hi⟩
theorem MI.setV {k : Nat} {v : Int} (hi : MI M n Fs cs vs c) (hv : 0 ≤ v ∧ v ≤ 9) : MI (g_uA M (0, 295) k v) n Fs cs (va_up vs k v) c := by
  have e : ∀ n, n ≠ 295 → (g_uA M (0, 295) k v).1 0 n = M.1 0 n := fun n hn => by
    funext i
    rw [g_uA_at, if_neg]
    rintro ⟨-, rfl, -⟩
    exact hn rfl
  refine ⟨by rw [e 286 (by omega)]; exact hi.1, by rw [e 286 (by omega)]; exact hi.2.1, fun f hf => ?_, by rw [e 296 (by omega)]; exact hi.2.2.2.1, ?_⟩
  · have := hi.2.2.1 f hf
    unfold mF at this ⊢
    rw [e 287 (by omega), e 288 (by omega), e 289 (by omega), e 290 (by omega), e 291 (by omega), e 292 (by omega), e 293 (by omega), e 294 (by omega)]
    exact this
  · obtain ⟨vs', h1, h2⟩ := hi.2.2.2.2
    refine ⟨va_up vs' k v, fun t ht => ?_, fun t ht => ?_⟩
    · by_cases z : t = k
      · subst z
        simp [g_uA_at, va_up, hv]
      · have := h1 t ht
        simp [g_uA_at, va_up, z, this]
    · by_cases z : t = k
      · simp [va_up, z]
      · simp [va_up, z, h2 t ht]
theorem MI.setC {k : Nat} {v : Int} (hi : MI M n Fs cs vs c) : MI (g_uA M (0, 296) k v) n Fs (va_up cs k v) vs c := by
  have e : ∀ n, n ≠ 296 → (g_uA M (0, 296) k v).1 0 n = M.1 0 n := fun n hn => by
    funext i
    rw [g_uA_at, if_neg]
    rintro ⟨-, rfl, -⟩
    exact hn rfl
  refine ⟨by rw [e 286 (by omega)]; exact hi.1, by rw [e 286 (by omega)]; exact hi.2.1, fun f hf => ?_, fun a ha => ?_, by rw [e 295 (by omega)]; exact hi.2.2.2.2⟩
  · have := hi.2.2.1 f hf
    unfold mF at this ⊢
    rw [e 287 (by omega), e 288 (by omega), e 289 (by omega), e 290 (by omega), e 291 (by omega), e 292 (by omega), e 293 (by omega), e 294 (by omega)]
    exact this
  · by_cases z : a = k
    · subst z
      simp [g_uA_at, va_up]
    · have := hi.2.2.2.1 a ha
      simp [g_uA_at, va_up, z, this]
theorem SI.setV {k : Nat} {v : Int} (hs : SI n Fs cs vs c) (hk : 1 ≤ k) (hv : 0 ≤ v ∧ v ≤ 9) : SI n Fs cs (va_up vs k v) c := ⟨hs.1, hs.2.1, hs.2.2.1, hs.2.2.2.1, hs.2.2.2.2.1, fun t ht => by
  by_cases z : t = k
  · simp [va_up, z, hv]
  · simp [va_up, z, hs.2.2.2.2.2.1 t ht], by
  have : ¬ (0 = k) := by omega
  simp [va_up, this, hs.2.2.2.2.2.2]⟩
theorem SI.setC {k : Nat} {v : Int} (hs : SI n Fs cs vs c) (hk : 1 ≤ k) (hv : -1 ≤ v ∧ v ≤ 9) : SI n Fs (va_up cs k v) vs c := ⟨hs.1, hs.2.1, hs.2.2.1, fun t ht => by
  by_cases z : t = k
  · simp [va_up, z, hv]
  · simp [va_up, z, hs.2.2.2.1 t ht], by
  have : ¬ (0 = k) := by omega
  simp [va_up, this, hs.2.2.2.2.1], hs.2.2.2.2.2⟩
theorem m_106 (hD : 3 ≤ D) (hi : MI M n Fs cs vs c) {x : Nat} {a : Int} (hx : 0 < x ∧ x < 10) (ha : -1 ≤ a ∧ a < 10) (h : Q [.inl (cs x)] (g_uA M (0, 296) x a)) : g_Ev D 106 [.inr (0, 286), .inl (x : Int), .inl a] M Q := by
  obtain ⟨D, rfl⟩ := g_dep hD
  refine g_enter hk_106 hn_106 (rp_106_0 rfl ?_)
  rw [Int.toNat_natCast, hi.2.2.2.1 x hx.2]
  (repeat' first | refine ⟨?_, ?_⟩ | intro _) <;> first | (exfalso; omega) | omega | exact h
theorem m_106b (hD : 3 ≤ D) {x a : Int} (hv : ¬ ((0 < x ∧ x < 10) ∧ -1 ≤ a ∧ a < 10)) (h : Q [.inl (-1)] M) : g_Ev D 106 [.inr (0, 286), .inl x, .inl a] M Q := by
  obtain ⟨D, rfl⟩ := g_dep hD
  refine g_enter hk_106 hn_106 (rp_106_0 rfl ?_)
  (repeat' first | refine ⟨?_, ?_⟩ | intro _) <;> first | exact h | (exfalso; omega)
end OPS
theorem op_7 {D : Nat} (hD : 20 ≤ D) {M : g_M} (h : St M) (x a : Int) : opE D 28 103 [.inl x, .inl a] M := by
  obtain ⟨n, Fs, cs, vs, c, hs, hc, hm⟩ := id h
  obtain ⟨D, rfl⟩ := g_dep (k := 3) (D := D) (by omega)
  refine g_enter hk_28 hn_28 (rp_28_0 rfl ⟨fun q1 => ⟨fun q2 => ⟨⟨by omega, by omega⟩, _, rfl, ?_⟩, fun q2 => ⟨_, rfl, ?_⟩⟩, fun q1 => ⟨_, rfl, ?_⟩⟩)
  · obtain ⟨vs', k1, k2⟩ := hc.2.2.2.1
    obtain ⟨x, hx, rfl⟩ := g_natof (N := 5) ⟨by omega, q1.2⟩
    rw [Int.toNat_natCast]
    have hc1 : CI (g_uA M (6, 0) x a) n Fs cs (va_up vs x a) c := hc.mem (chm.uA (by simp)) (k1.setV (by omega) ⟨q2.1, by omega⟩) (fun t ht => by
      by_cases z : t = x
      · simp [va_up, z]
      · simp [va_up, z, k2 t ht])
    have hm1 := hm.keep (cch.uA (M := M) (q := (6, 0)) (k := x) (v := a) (by simp))
    refine g_enter hk_103 hn_103 (rp_103_0 rfl ⟨fun _ => ⟨fun _ => ⟨⟨by omega, by omega⟩, ?_, n, Fs, cs, va_up vs x a, c, hs.setV (by omega) ⟨q2.1, by omega⟩, ?_, ?_⟩, fun z => absurd q2 z⟩, fun z => absurd q1 z⟩)
    · obtain ⟨vs2, k3, k4⟩ := hm1.2.2.2.2
      rw [Int.toNat_natCast, (k3 x (by omega)).1, k4 x hx, (k1.2.2.1 x (by omega)).1, k2 x hx]
    · rw [Int.toNat_natCast]
      exact hc1.keep (mcg.uA (by omega))
    · rw [Int.toNat_natCast]
      exact hm1.setV ⟨q2.1, by omega⟩
  · exact g_enter hk_103 hn_103 (rp_103_0 rfl ⟨fun _ => ⟨fun z => absurd z q2, fun _ => ⟨rfl, h⟩⟩, fun z => absurd q1 z⟩)
  · exact g_enter hk_103 hn_103 (rp_103_0 rfl ⟨fun z => absurd z q1, fun _ => ⟨rfl, h⟩⟩)
theorem op_8 {D : Nat} (hD : 20 ≤ D) {M : g_M} (h : St M) (x a : Int) : opE D 31 106 [.inl x, .inl a] M := by
  obtain ⟨n, Fs, cs, vs, c, hs, hc, hm⟩ := id h
  obtain ⟨D, rfl⟩ := g_dep (k := 4) (D := D) (by omega)
  by_cases hv : (0 < x ∧ x < 10) ∧ -1 ≤ a ∧ a < 10
  · obtain ⟨vs', k1, k2⟩ := hc.2.2.2.1
    obtain ⟨x, hx, rfl⟩ := g_natof (N := 10) ⟨by omega, hv.1.2⟩
    have hgo : g_Ev (D + 3) 33 [.inr (4, 0), .inl (x : Int), .inl a] M (fun q M' => g_R (D + 3 + 1) 31 (fun r M1 => ∃ v : Int, r = [.inl v] ∧ g_Ev (D + 4) 106 [.inr (0, 286), .inl (x : Int), .inl a] M1 (fun r' M2 => r' = [.inl v] ∧ St M2)) 40 [.inr (0, 2), .inl (x : Int), .inl a, .inl (M.1 5 0 (x : Int).toNat)] (q ++ []) M') := by
      refine c_33 (by omega) k1 (by omega) (by omega) (fun M1 g1 g2 => rp_31_40 rfl ⟨_, rfl, ?_⟩)
      have hc1 : CI M1 n Fs (va_up cs x a) vs c := hc.mem g1 g2 k2
      have hm1 := hm.keep g1.cch
      rw [Int.toNat_natCast, (k1.1 x hx).1]
      exact m_106 (by omega) hm1 (by omega) hv.2 ⟨rfl, n, Fs, va_up cs x a, vs, c, hs.setC (by omega) (by omega), hc1.keep (mcg.uA (by omega)), hm1.setC⟩
    refine g_enter hk_31 hn_31 (rp_31_0 rfl ⟨fun q1 => ⟨fun q2 => ⟨⟨by omega, by omega⟩, hgo⟩, fun q2 => ⟨fun q3 => ⟨⟨by omega, by omega⟩, hgo⟩, fun q3 => ?_⟩⟩, fun q1 => ?_⟩)
    · exfalso; omega
    · exfalso; omega
  · have hb : g_Ev (D + 4) 106 [.inr (0, 286), .inl x, .inl a] M (fun r' M2 => r' = [.inl (-1)] ∧ St M2) := by
      exact m_106b (by omega) hv ⟨rfl, h⟩
    refine g_enter hk_31 hn_31 (rp_31_0 rfl ⟨fun q1 => ⟨fun q2 => ?_, fun q2 => ⟨fun q3 => ?_, fun q3 => ⟨_, rfl, hb⟩⟩⟩, fun q1 => ⟨_, rfl, hb⟩⟩)
    · exfalso; omega
    · exfalso; omega
theorem held_pop {w : Nat} {cs : Nat → Int} (h : ∀ a, a < 10 → w.testBit a = decide (0 ≤ cs a)) : g_pop (w : Int) = (((List.range 10).filter (fun i => decide (0 ≤ cs i))).length : Nat) := by
  unfold g_pop
  rw [Int.toNat_natCast]
  congr 2
  exact List.filter_congr (fun a ha => h a (List.mem_range.mp ha))
theorem m_109 {D : Nat} (hD : 3 ≤ D) {M : g_M} {cs : Nat → Int} {Q : g_P} (hi : ∀ a, a < 10 → M.1 0 296 a = cs a) (h0 : cs 0 = -1) (h : Q [.inl (((List.range 10).filter (fun i => decide (0 ≤ cs i))).length : Nat)] M) : g_Ev D 109 [.inr (0, 286)] M Q := by
  obtain ⟨D, rfl⟩ := g_dep hD
  have loop : ∀ (n i : Nat) (x y : Int), x = i → i + n = 10 → y = (((List.range i).filter (fun i => decide (0 ≤ cs i))).length : Nat) → g_R (D + 3) 109 Q 4 [.inr (0, 286), .inl y, .inl x] [] M := by
    intro n
    induction n with
    | zero =>
      intro i x y hx hi' hy
      obtain rfl : i = 10 := by omega
      refine rp_109_4 rfl ⟨fun _ => ?_, fun q => by omega⟩
      rw [hy]
      exact h
    | succ n ih =>
      intro i x y hx hi' hy
      subst hx
      have hb : ((List.range i).filter (fun i => decide (0 ≤ cs i))).length ≤ i := by
        have := List.length_filter_le (fun i => decide (0 ≤ cs i)) (List.range i)
        simpa using this
      refine rp_109_4 rfl ⟨fun q => by omega, fun _ => ?_⟩
      rw [Int.toNat_natCast, hi i (by omega)]
      refine ⟨⟨by omega, by omega⟩, fun q => ⟨by unfold hm_in; omega, by unfold hm_in; omega, ih (i + 1) _ _ (by omega) (by omega) ?_⟩, fun q => ⟨by unfold hm_in; omega, by unfold hm_in; omega, ih (i + 1) _ _ (by omega) (by omega) ?_⟩⟩
      · rw [List.range_succ, List.filter_append]
        have : ¬ (0 ≤ cs i) := by omega
        simp [this, hy]
      · rw [List.range_succ, List.filter_append]
        simp [q, hy]
  refine g_enter hk_109 hn_109 (rp_109_0 rfl (loop 9 1 1 0 rfl (by omega) ?_))
  simp [List.range_succ, h0]
theorem op_11 {D : Nat} (hD : 20 ≤ D) {M : g_M} (h : St M) : opE D 36 109 [] M := by
  obtain ⟨n, Fs, cs, vs, c, hs, hc, hm⟩ := id h
  obtain ⟨D, rfl⟩ := g_dep (k := 4) (D := D) (by omega)
  obtain ⟨vs', k1, k2⟩ := hc.2.2.2.1
  obtain ⟨w, w1, w2, w3⟩ := k1.2.1
  refine g_enter hk_36 hn_36 (rp_36_0 rfl ?_)
  rw [w2, held_pop w3]
  exact ⟨⟨by omega, by omega⟩, _, rfl, m_109 (by omega) hm.2.2.2.1 hs.2.2.2.2.1 ⟨rfl, h⟩⟩

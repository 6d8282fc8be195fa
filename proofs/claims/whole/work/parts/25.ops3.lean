/-! THE REFERENCE COPIES A FORMULA; BESIDE; SET, CELL, HELD -/
theorem mch.uP' {g k n : Nat} {v : Int} {M : g_M} (hn : n = 288 ∨ n = 289 ∨ n = 290) {i : Nat} (hi : i < 16) (hk : k = 16 * g + i) : mch g M (g_uA M (0, n) k v) := mch.uP hn (by omega)
theorem m_99 {D : Nat} (hD : 3 ≤ D) {M : g_M} {a b : Nat} {F : pf_F} {Q : g_P} (ha : a < 200) (hb : b < 200) (hab : a ≠ b) (hc : mF M a F) (hw : pf_wf F)
    (h : ∀ M', mch b M M' → mF M' b F → Q [] M') : g_Ev D 99 [.inr (0, 286), .inl (a : Int), .inl (b : Int)] M Q := by
  obtain ⟨D, rfl⟩ := g_dep hD
  have l1 := hw.1
  have l2 := hw.2.1
  have e0 : ((a : Int)).toNat = a := by omega
  have e1 : ((b : Int)).toNat = b := by omega
  have loop2 : ∀ (n i : Nat) (x : Int) (M1 : g_M), x = i → i + n = F.2.length → mch b M M1 → M1.1 0 287 b = (F.1.length : Int) → M1.1 0 291 b = (F.2.length : Int) → (∀ (j : Nat) (p : pf_T), F.1[j]? = some p → M1.1 0 288 (16 * b + j) = (p.1 : Int) ∧ M1.1 0 289 (16 * b + j) = (p.2.1 : Int) ∧ M1.1 0 290 (16 * b + j) = (p.2.2 : Int)) → (∀ (j : Nat) (p : pf_T), j < i → F.2[j]? = some p → mr M1 b j = pt p) → g_R (D + 3) 99 Q 110 [.inr (0, 286), .inl (a : Int), .inl (b : Int), .inl x] [] M1 := by
    intro n
    induction n with
    | zero =>
      intro i x M1 hx hi hch g1 g2 g3 g4
      have hca := hc.keep hw hch hab
      refine rp_99_110 rfl ?_
      rw [e0, hca.2.1]
      refine ⟨⟨by omega, by omega⟩, fun _ => h M1 hch ⟨g1, g2, g3, fun j p hj => ?_⟩, fun q => by omega⟩
      have := g4 j p (by have := (List.getElem?_eq_some_iff.mp hj).1; omega) hj
      unfold mr pt at this
      injection this with z1 z2
      injection z2 with z2 z3
      exact ⟨z1, z2, z3⟩
    | succ n ih =>
      intro i x M1 hx hi hch g1 g2 g3 g4
      subst hx
      have hca := hc.keep hw hch hab
      have hlt : i < F.2.length := by omega
      have hat := List.getElem?_eq_getElem hlt
      have r := hca.2.2.2 i _ hat
      refine rp_99_110 rfl ?_
      rw [e0, hca.2.1, show (10 * (a : Int) + (i : Int)).toNat = 10 * a + i by omega, show (10 * (b : Int) + (i : Int)).toNat = 10 * b + i by omega, r.1, r.2.1, r.2.2]
      (repeat' first | refine ⟨?_, ?_⟩ | intro _) <;> first | (exfalso; omega) | omega | skip
      refine ih (i + 1) _ _ (by omega) (by omega) (hch.tr ((mch.uR (by simp) (by omega)).tr ((mch.uR (by simp) (by omega)).tr (mch.uR (by simp) (by omega))))) (by simp [g_uA_at, g1]) (by simp [g_uA_at, g2]) (fun j p hj => by simp [g_uA_at, g3 j p hj]) (fun j p hj hj2 => ?_)
      by_cases z : j = i
      · subst z
        rw [hat] at hj2
        cases hj2
        simp [mr, pt, g_uA_at]
      · have := g4 j p (by omega) hj2
        rw [← this]
        simp [mr, g_uA_at, z]
  have loop1 : ∀ (n i : Nat) (x : Int) (M1 : g_M), x = i → i + n = F.1.length → mch b M M1 → M1.1 0 287 b = (F.1.length : Int) → M1.1 0 291 b = (F.2.length : Int) → (∀ (j : Nat) (p : pf_T), j < i → F.1[j]? = some p → M1.1 0 288 (16 * b + j) = (p.1 : Int) ∧ M1.1 0 289 (16 * b + j) = (p.2.1 : Int) ∧ M1.1 0 290 (16 * b + j) = (p.2.2 : Int)) → g_R (D + 3) 99 Q 26 [.inr (0, 286), .inl (a : Int), .inl (b : Int), .inl x] [] M1 := by
    intro n
    induction n with
    | zero =>
      intro i x M1 hx hi hch g1 g2 g3
      have hca := hc.keep hw hch hab
      refine rp_99_26 rfl ?_
      rw [e0, hca.1]
      refine ⟨⟨by omega, by omega⟩, fun _ => loop2 F.2.length 0 0 M1 rfl (by omega) hch g1 g2 (fun j p hj => g3 j p (by have := (List.getElem?_eq_some_iff.mp hj).1; omega) hj) (fun j p hj => by omega), fun q => by omega⟩
    | succ n ih =>
      intro i x M1 hx hi hch g1 g2 g3
      subst hx
      have hca := hc.keep hw hch hab
      have hlt : i < F.1.length := by omega
      have hat := List.getElem?_eq_getElem hlt
      have r := hca.2.2.1 i _ hat
      refine rp_99_26 rfl ?_
      rw [e0, hca.1, show (16 * (a : Int) + (i : Int)).toNat = 16 * a + i by omega, show (16 * (b : Int) + (i : Int)).toNat = 16 * b + i by omega, r.1, r.2.1, r.2.2]
      (repeat' first | refine ⟨?_, ?_⟩ | intro _) <;> first | (exfalso; omega) | omega | skip
      refine ih (i + 1) _ _ (by omega) (by omega) (hch.tr ((mch.uP (by simp) (by omega)).tr ((mch.uP (by simp) (by omega)).tr (mch.uP (by simp) (by omega))))) (by simp [g_uA_at, g1]) (by simp [g_uA_at, g2]) (fun j p hj hj2 => ?_)
      by_cases z : j = i
      · subst z
        rw [hat] at hj2
        cases hj2
        simp [g_uA_at]
      · have := g3 j p (by omega) hj2
        simp [g_uA_at, z, this]
  refine g_enter hk_99 hn_99 (rp_99_0 rfl ?_)
  rw [e0, e1, hc.1, hc.2.1]
  refine ⟨⟨by omega, by omega⟩, ⟨by omega, by omega⟩, loop1 F.1.length 0 0 _ rfl (by omega) ((mch.uC (by simp)).tr (mch.uC (by simp))) (by simp [g_uA_at]) (by simp [g_uA_at]) (fun j p hj => by omega)⟩
section OPS
variable {D : Nat} {M : g_M} {n : Nat} {Fs : Nat → pf_F} {cs vs : Nat → Int} {c : Nat} {Q : g_P}
theorem pf_wf.app {F G : pf_F} (h : pf_wf F) (h' : pf_wf G) (h1 : F.1.length + G.1.length ≤ 16) (h2 : F.2.length + G.2.length ≤ 10) : pf_wf (F.1 ++ G.1, F.2 ++ G.2) := ⟨by simp; omega, by simp; omega, fun q hq => by
  rcases List.mem_append.mp hq with z | z
  · exact h.2.2.1 q z
  · exact h'.2.2.1 q z, fun q hq => by
  rcases List.mem_append.mp hq with z | z
  · exact h.2.2.2 q z
  · exact h'.2.2.2 q z⟩
theorem c_19 (hD : 5 ≤ D) (hs : SI n Fs cs vs c) (hi : CI M n Fs cs vs c) {f g : Nat} (hf : f < n) (hg : g < n)
    (h1 : n < 60 → (Fs f).1.length + (Fs g).1.length ≤ 16 → (Fs f).2.length + (Fs g).2.length ≤ 10 → ∀ M1, cch M M1 → CI M1 (n + 1) (va_up Fs n ((Fs f).1 ++ (Fs g).1, (Fs f).2 ++ (Fs g).2)) cs vs c → Q [.inl (n : Int)] M1) (h0 : ¬ (n < 60 ∧ (Fs f).1.length + (Fs g).1.length ≤ 16 ∧ (Fs f).2.length + (Fs g).2.length ≤ 10) → ∀ M1, cch M M1 → CI M1 n Fs cs vs c → Q [.inl (-2)] M1) : g_Ev D 19 [.inr (0, 2), .inl (f : Int), .inl (g : Int)] M Q := by
  obtain ⟨D, rfl⟩ := g_dep hD
  have l := hs.1
  refine g_enter hk_19 hn_19 (rp_19_0 rfl ?_)
  rw [hi.1]
  (repeat' first | refine ⟨?_, ?_⟩ | intro _) <;> first | (exfalso; omega) | omega | exact h0 (by omega) M cch.rf hi | skip
  rw [Int.toNat_natCast, Int.toNat_natCast]
  refine c_20 (by omega) (by omega) (hi.2.2.1 f hf) (hs.2.2.1 f hf) (fun M1 g1 g2 => rp_19_48 rfl ?_)
  have hi1 := hi.setF g1 g2
  rw [hi1.1, Int.toNat_natCast, Int.toNat_natCast]
  refine ⟨⟨by omega, by omega⟩, ⟨by omega, by omega⟩, ?_⟩
  have hkeep : ∀ M2, ch1 (12 + n) M M2 → CI M2 n Fs cs vs c := fun M2 k => by
    have e : ∀ t m, ¬ ((t = 1 ∨ t = 2 ∨ t = 3) ∧ m = 12 + n) → M2.1 t m = M.1 t m := k.2
    refine ⟨by rw [e 0 2 (by omega)]; exact hi.1, by rw [e 0 2 (by omega)]; exact hi.2.1, fun g' hg' => (hi.2.2.1 g' hg').keep k (by omega), ?_, ?_⟩
    · obtain ⟨vs', h1, h2⟩ := hi.2.2.2.1
      refine ⟨vs', ?_, h2⟩
      unfold cMem at h1 ⊢
      rw [e 5 _ (by omega), e 4 _ (by omega), e 6 _ (by omega)]
      exact h1
    · obtain ⟨cs1, vs1, h1, h2, h3⟩ := hi.2.2.2.2
      refine ⟨cs1, vs1, ?_, h2, fun i hi => by rw [e 12 i (by omega)]; exact h3 i hi⟩
      unfold cMem at h1 ⊢
      rw [e 5 _ (by omega), e 4 _ (by omega), e 6 _ (by omega)]
      exact h1
  refine c_21 (by omega) (by omega) g2 (hs.2.2.1 f hf) ((hi.2.2.1 g hg).keep g1 (by omega)) (hs.2.2.1 g hg) (fun q1 q2 M2 g3 g4 => ?_) (fun q => ?_)
  · have hi2 := hi.setF (g1.tr g3) g4
    refine rp_19_66 rfl ?_
    rw [hi2.1]
    refine ⟨fun _ => ⟨by unfold hm_in; omega, by unfold hm_in; omega, ?_⟩, fun z => by omega⟩
    rw [show (n : Int) + 1 - 1 = (n : Int) by omega, show (n : Int) + 1 = ((n + 1 : Nat) : Int) by omega]
    refine h1 (by omega) q1 q2 _ ((g1.tr g3).cch.tr (cch.uA (by simp))) (hi2.setN (fun f' hf' => ?_))
    by_cases z : f' = n
    · subst z
      simpa [va_up] using g4
    · exact hi2.2.2.1 f' (by omega)
  · exact rp_19_66 rfl ⟨fun z => by omega, fun _ => h0 (by omega) M1 g1.cch (hkeep M1 g1)⟩
theorem c_19b (hD : 4 ≤ D) (hi : CI M n Fs cs vs c) {f g : Int} (hv : ¬ ((0 ≤ f ∧ f < n) ∧ (0 ≤ g ∧ g < n))) (h : Q [.inl (-1)] M) : g_Ev D 19 [.inr (0, 2), .inl f, .inl g] M Q := by
  obtain ⟨D, rfl⟩ := g_dep hD
  refine g_enter hk_19 hn_19 (rp_19_0 rfl ?_)
  rw [hi.1]
  (repeat' first | refine ⟨?_, ?_⟩ | intro _) <;> first | exact h | (exfalso; omega)
theorem m_98b (hD : 4 ≤ D) (hi : MI M n Fs cs vs c) {f g : Int} (hv : ¬ ((0 ≤ f ∧ f < n) ∧ (0 ≤ g ∧ g < n))) (h : Q [.inl (-1)] M) : g_Ev D 98 [.inr (0, 286), .inl f, .inl g] M Q := by
  obtain ⟨D, rfl⟩ := g_dep hD
  refine g_enter hk_98 hn_98 (rp_98_0 rfl ?_)
  rw [hi.1]
  (repeat' first | refine ⟨?_, ?_⟩ | intro _) <;> first | exact h | (exfalso; omega)
theorem m_98 (hD : 5 ≤ D) (hs : SI n Fs cs vs c) (hi : MI M n Fs cs vs c) {f g : Nat} (hf : f < n) (hg : g < n)
    (h1 : n < 60 → (Fs f).1.length + (Fs g).1.length ≤ 16 → (Fs f).2.length + (Fs g).2.length ≤ 10 → ∀ M1, mcg M M1 → MI M1 (n + 1) (va_up Fs n ((Fs f).1 ++ (Fs g).1, (Fs f).2 ++ (Fs g).2)) cs vs c → Q [.inl (n : Int)] M1) (h0 : ¬ (n < 60 ∧ (Fs f).1.length + (Fs g).1.length ≤ 16 ∧ (Fs f).2.length + (Fs g).2.length ≤ 10) → Q [.inl (-2)] M) : g_Ev D 98 [.inr (0, 286), .inl (f : Int), .inl (g : Int)] M Q := by
  obtain ⟨D, rfl⟩ := g_dep hD
  have l := hs.1
  have hF := hi.2.2.1 f hf
  have hG := hi.2.2.1 g hg
  have wF := hs.2.2.1 f hf
  have wG := hs.2.2.1 g hg
  have k1 := wF.1
  have k2 := wF.2.1
  have k3 := wG.1
  have k4 := wG.2.1
  have e0 : ((g : Int)).toNat = g := by omega
  have e1 : ((n : Int)).toNat = n := by omega
  refine g_enter hk_98 hn_98 (rp_98_0 rfl ?_)
  rw [hi.1, Int.toNat_natCast, Int.toNat_natCast, hF.1, hG.1, hF.2.1, hG.2.1]
  (repeat' first | refine ⟨?_, ?_⟩ | intro _) <;> first | (exfalso; omega) | omega | exact h0 (by omega) | skip
  have q1 : (Fs f).1.length + (Fs g).1.length ≤ 16 := by omega
  have q2 : (Fs f).2.length + (Fs g).2.length ≤ 10 := by omega
  have loop2 : ∀ (m i : Nat) (x : Int) (M1 : g_M), x = i → i + m = (Fs g).2.length → mch n M M1 → mF M1 n ((Fs f).1 ++ (Fs g).1, (Fs f).2 ++ (Fs g).2.take i) → g_R (D + 5) 98 Q 141 [.inr (0, 286), .inl (f : Int), .inl (g : Int), .inl (n : Int), .inl x] [] M1 := by
    intro m
    induction m with
    | zero =>
      intro i x M1 hx hi' hch g1
      have hG1 := hG.keep wG hch (by omega)
      rw [List.take_of_length_le (by omega)] at g1
      have hi1 := hi.setF hs hch g1
      refine rp_98_141 rfl ?_
      rw [e0, hG1.2.1, hi1.1]
      refine ⟨⟨by omega, by omega⟩, fun _ => ⟨by unfold hm_in; omega, ?_⟩, fun q => by omega⟩
      rw [show (n : Int) + 1 = ((n + 1 : Nat) : Int) by omega]
      refine h1 (by omega) q1 q2 _ (hch.mcg.tr (mcg.uA (by omega))) (hi1.setN (fun f' hf' => ?_))
      by_cases z : f' = n
      · subst z
        simpa [va_up] using g1
      · exact hi1.2.2.1 f' (by omega)
    | succ m ih =>
      intro i x M1 hx hi' hch g1
      subst hx
      have hG1 := hG.keep wG hch (by omega)
      have hlt : i < (Fs g).2.length := by omega
      have hat := List.getElem?_eq_getElem hlt
      have r := hG1.2.2.2 i _ hat
      refine rp_98_141 rfl ?_
      rw [e0, e1, hG1.2.1, g1.2.1, show (10 * (g : Int) + (i : Int)).toNat = 10 * g + i by omega, r.1, r.2.1, r.2.2]
      (repeat' first | refine ⟨?_, ?_⟩ | intro _) <;> first | (exfalso; omega) | omega | skip
      refine m_96 (by omega) (by omega) g1 (Nat.le_refl _) (by simp; omega) (fun M2 c1 c2 => rp_98_199 rfl ⟨by unfold hm_in; omega, ih (i + 1) _ M2 (by omega) (by omega) (hch.tr c1) ?_⟩)
      rw [List.insertIdx_length_self] at c2
      rw [List.take_succ_eq_append_getElem hlt, ← List.append_assoc]
      exact c2
  have loop1 : ∀ (m i : Nat) (x : Int) (M1 : g_M), x = i → i + m = (Fs g).1.length → mch n M M1 → mF M1 n ((Fs f).1 ++ (Fs g).1.take i, (Fs f).2) → g_R (D + 5) 98 Q 80 [.inr (0, 286), .inl (f : Int), .inl (g : Int), .inl (n : Int), .inl x] [] M1 := by
    intro m
    induction m with
    | zero =>
      intro i x M1 hx hi' hch g1
      have hG1 := hG.keep wG hch (by omega)
      rw [List.take_of_length_le (by omega)] at g1
      refine rp_98_80 rfl ?_
      rw [e0, hG1.1]
      exact ⟨⟨by omega, by omega⟩, fun _ => loop2 (Fs g).2.length 0 0 M1 rfl (by omega) hch (by simpa using g1), fun q => by omega⟩
    | succ m ih =>
      intro i x M1 hx hi' hch g1
      subst hx
      have hG1 := hG.keep wG hch (by omega)
      have hlt : i < (Fs g).1.length := by omega
      have hat := List.getElem?_eq_getElem hlt
      have r := hG1.2.2.1 i _ hat
      refine rp_98_80 rfl ?_
      rw [e0, hG1.1, show (16 * (g : Int) + (i : Int)).toNat = 16 * g + i by omega, r.1, r.2.1, r.2.2]
      (repeat' first | refine ⟨?_, ?_⟩ | intro _) <;> first | (exfalso; omega) | omega | skip
      refine m_94 (by omega) (by omega) g1 (by simp; omega) (fun M2 c1 c2 => rp_98_132 rfl ⟨by unfold hm_in; omega, ih (i + 1) _ M2 (by omega) (by omega) (hch.tr c1) ?_⟩)
      rw [List.take_succ_eq_append_getElem hlt, ← List.append_assoc]
      exact c2
  exact m_99 (by omega) (by omega) (by omega) (by omega) hF wF (fun M1 c1 c2 => rp_98_77 rfl (loop1 (Fs g).1.length 0 0 M1 rfl (by omega) c1 (by simpa using c2)))
end OPS
theorem op_3 {D : Nat} (hD : 20 ≤ D) {M : g_M} (h : St M) (f g : Int) : opE D 19 98 [.inl f, .inl g] M := by
  obtain ⟨n, Fs, cs, vs, c, hs, hc, hm⟩ := id h
  by_cases hv : (0 ≤ f ∧ f < n) ∧ (0 ≤ g ∧ g < n)
  · obtain ⟨f, hf, rfl⟩ := g_natof hv.1
    obtain ⟨g, hg, rfl⟩ := g_natof hv.2
    refine c_19 (by omega) hs hc hf hg (fun q0 q1 q2 M1 g1 g2 => ⟨_, rfl, ?_⟩) (fun q M1 g1 g2 => ⟨_, rfl, ?_⟩)
    · exact m_98 (by omega) hs (hm.keep g1) hf hg (fun _ _ _ M2 k1 k2 => ⟨rfl, _, _, _, _, _, hs.more q0 ((hs.2.2.1 f hf).app (hs.2.2.1 g hg) q1 q2), g2.keep k1, k2⟩) (fun z => absurd ⟨q0, q1, q2⟩ z)
    · exact m_98 (by omega) hs (hm.keep g1) hf hg (fun z1 z2 z3 => absurd ⟨z1, z2, z3⟩ q) (fun _ => ⟨rfl, _, _, _, _, _, hs, g2, hm.keep g1⟩)
  · exact c_19b (by omega) hc hv ⟨_, rfl, m_98b (by omega) hm hv ⟨rfl, h⟩⟩

/-! OPERATIONS ON FORMULAS -/
section OPS
variable {D : Nat} {M : g_M} {n : Nat} {Fs : Nat → pf_F} {cs vs : Nat → Int} {c : Nat} {Q : g_P}
theorem c_10 (hD : 4 ≤ D) (hs : SI n Fs cs vs c) (hi : CI M n Fs cs vs c) {f how x y : Nat} (hf : f < n) (hh : how < 2) (hx : x < 8) (hy : y < 8)
    (h1 : (Fs f).1.length < 16 → ∀ M1, cch M M1 → CI M1 n (va_up Fs f ((Fs f).1 ++ [(how, x, y)], (Fs f).2)) cs vs c → Q [.inl (((Fs f).1.length + 1 : Nat) : Int)] M1) (h0 : ¬ (Fs f).1.length < 16 → Q [.inl (-2)] M) : g_Ev D 10 [.inr (0, 2), .inl (f : Int), .inl (how : Int), .inl (x : Int), .inl (y : Int)] M Q := by
  obtain ⟨D, rfl⟩ := g_dep hD
  have l := hs.1
  refine g_enter hk_10 hn_10 (rp_10_0 rfl ?_)
  rw [hi.1, Int.toNat_natCast, show 64 * ((0 : Int) + (how : Int)) + 8 * (x : Int) + (y : Int) = pf_c (how, x, y) by unfold pf_c; dsimp only; omega]
  (repeat' first | refine ⟨?_, ?_⟩ | intro _) <;> first | (exfalso; omega) | omega | skip
  refine c_15 (by omega) (hi.2.2.1 f hf) (hs.2.2.1 f hf) (fun hl M1 g1 g2 => rp_10_50 rfl ⟨fun q => by omega, fun _ => ⟨⟨by omega, by omega⟩, ?_⟩⟩) (fun hl => rp_10_50 rfl ⟨fun _ => h0 hl, fun q => by omega⟩)
  have e := g2.1
  rw [Int.toNat_natCast, e]
  have := h1 hl M1 g1.cch (hi.setF g1 g2)
  simpa using this
theorem c_10b (hD : 4 ≤ D) (hi : CI M n Fs cs vs c) {f how x y : Int} (hv : ¬ ((0 ≤ f ∧ f < n) ∧ (0 ≤ how ∧ how < 2) ∧ (0 ≤ x ∧ x < 8) ∧ (0 ≤ y ∧ y < 8))) (h : Q [.inl (-1)] M) : g_Ev D 10 [.inr (0, 2), .inl f, .inl how, .inl x, .inl y] M Q := by
  obtain ⟨D, rfl⟩ := g_dep hD
  refine g_enter hk_10 hn_10 (rp_10_0 rfl ?_)
  rw [hi.1]
  (repeat' first | refine ⟨?_, ?_⟩ | intro _) <;> first | exact h | (exfalso; omega)
theorem m_91 (hD : 4 ≤ D) (hs : SI n Fs cs vs c) (hi : MI M n Fs cs vs c) {f how x y : Nat} (hf : f < n) (hh : how < 2) (hx : x < 8) (hy : y < 8)
    (h1 : (Fs f).1.length < 16 → ∀ M1, mcg M M1 → MI M1 n (va_up Fs f ((Fs f).1 ++ [(how, x, y)], (Fs f).2)) cs vs c → Q [.inl (((Fs f).1.length + 1 : Nat) : Int)] M1) (h0 : ¬ (Fs f).1.length < 16 → Q [.inl (-2)] M) : g_Ev D 91 [.inr (0, 286), .inl (f : Int), .inl (how : Int), .inl (x : Int), .inl (y : Int)] M Q := by
  obtain ⟨D, rfl⟩ := g_dep hD
  have l := hs.1
  have hF := hi.2.2.1 f hf
  have l1 := (hs.2.2.1 f hf).1
  have e := hF.1
  refine g_enter hk_91 hn_91 (rp_91_0 rfl ?_)
  rw [hi.1, Int.toNat_natCast]
  (repeat' first | refine ⟨?_, ?_⟩ | intro _) <;> first | (exfalso; omega) | omega | exact h0 (by omega) | skip
  refine m_94 (p := (how, x, y)) (by omega) (by omega) hF (by omega) (fun M1 g1 g2 => rp_91_57 rfl ⟨⟨by omega, by omega⟩, ?_⟩)
  rw [Int.toNat_natCast, g2.1]
  have := h1 (by omega) M1 g1.mcg (hi.setF hs g1 g2)
  simpa using this
theorem m_91b (hD : 4 ≤ D) (hi : MI M n Fs cs vs c) {f how x y : Int} (hv : ¬ ((0 ≤ f ∧ f < n) ∧ (0 ≤ how ∧ how < 2) ∧ (0 ≤ x ∧ x < 8) ∧ (0 ≤ y ∧ y < 8))) (h : Q [.inl (-1)] M) : g_Ev D 91 [.inr (0, 286), .inl f, .inl how, .inl x, .inl y] M Q := by
  obtain ⟨D, rfl⟩ := g_dep hD
  refine g_enter hk_91 hn_91 (rp_91_0 rfl ?_)
  rw [hi.1]
  (repeat' first | refine ⟨?_, ?_⟩ | intro _) <;> first | exact h | (exfalso; omega)
theorem c_16 (hD : 5 ≤ D) (hs : SI n Fs cs vs c) (hi : CI M n Fs cs vs c) {f how x y : Nat} (hf : f < n) (hh : how < 2) (hx : x < 8) (hy : y < 8)
    (h1 : (Fs f).2.length < 10 → ∀ M1, cch M M1 → CI M1 n (va_up Fs f ((Fs f).1, (Fs f).2 ++ [(how, x, y)])) cs vs c → Q [.inl (((Fs f).2.length + 1 : Nat) : Int)] M1) (h0 : ¬ (Fs f).2.length < 10 → Q [.inl (-2)] M) : g_Ev D 16 [.inr (0, 2), .inl (f : Int), .inl (how : Int), .inl (x : Int), .inl (y : Int)] M Q := by
  obtain ⟨D, rfl⟩ := g_dep hD
  have l := hs.1
  refine g_enter hk_16 hn_16 (rp_16_0 rfl ?_)
  rw [hi.1, Int.toNat_natCast, show 64 * ((2 : Int) + (how : Int)) + 8 * (x : Int) + (y : Int) = 128 + pf_c (how, x, y) by unfold pf_c; dsimp only; omega]
  (repeat' first | refine ⟨?_, ?_⟩ | intro _) <;> first | (exfalso; omega) | omega | skip
  refine c_17 (by omega) (hi.2.2.1 f hf) (hs.2.2.1 f hf) (fun hl M1 g1 g2 => rp_16_50 rfl ⟨fun q => by omega, fun _ => ⟨⟨by omega, by omega⟩, ?_⟩⟩) (fun hl => rp_16_50 rfl ⟨fun _ => h0 hl, fun q => by omega⟩)
  have e := g2.2.1
  rw [Int.toNat_natCast, e]
  have := h1 hl M1 g1.cch (hi.setF g1 g2)
  simpa using this
theorem c_16b (hD : 4 ≤ D) (hi : CI M n Fs cs vs c) {f how x y : Int} (hv : ¬ ((0 ≤ f ∧ f < n) ∧ (0 ≤ how ∧ how < 2) ∧ (0 ≤ x ∧ x < 8) ∧ (0 ≤ y ∧ y < 8))) (h : Q [.inl (-1)] M) : g_Ev D 16 [.inr (0, 2), .inl f, .inl how, .inl x, .inl y] M Q := by
  obtain ⟨D, rfl⟩ := g_dep hD
  refine g_enter hk_16 hn_16 (rp_16_0 rfl ?_)
  rw [hi.1]
  (repeat' first | refine ⟨?_, ?_⟩ | intro _) <;> first | exact h | (exfalso; omega)
theorem m_95 (hD : 5 ≤ D) (hs : SI n Fs cs vs c) (hi : MI M n Fs cs vs c) {f how x y : Nat} (hf : f < n) (hh : how < 2) (hx : x < 8) (hy : y < 8)
    (h1 : (Fs f).2.length < 10 → ∀ M1, mcg M M1 → MI M1 n (va_up Fs f ((Fs f).1, (Fs f).2 ++ [(how, x, y)])) cs vs c → Q [.inl (((Fs f).2.length + 1 : Nat) : Int)] M1) (h0 : ¬ (Fs f).2.length < 10 → Q [.inl (-2)] M) : g_Ev D 95 [.inr (0, 286), .inl (f : Int), .inl (how : Int), .inl (x : Int), .inl (y : Int)] M Q := by
  obtain ⟨D, rfl⟩ := g_dep hD
  have l := hs.1
  have hF := hi.2.2.1 f hf
  have l2 := (hs.2.2.1 f hf).2.1
  have e := hF.2.1
  refine g_enter hk_95 hn_95 (rp_95_0 rfl ?_)
  rw [hi.1, Int.toNat_natCast, e]
  (repeat' first | refine ⟨?_, ?_⟩ | intro _) <;> first | (exfalso; omega) | omega | exact h0 (by omega) | skip
  refine m_96 (p := (how, x, y)) (by omega) (by omega) hF (Nat.le_refl _) (by omega) (fun M1 g1 g2 => rp_95_63 rfl ⟨⟨by omega, by omega⟩, ?_⟩)
  rw [List.insertIdx_length_self] at g2
  rw [Int.toNat_natCast, g2.2.1]
  have := h1 (by omega) M1 g1.mcg (hi.setF hs g1 g2)
  simpa using this
theorem m_95b (hD : 4 ≤ D) (hi : MI M n Fs cs vs c) {f how x y : Int} (hv : ¬ ((0 ≤ f ∧ f < n) ∧ (0 ≤ how ∧ how < 2) ∧ (0 ≤ x ∧ x < 8) ∧ (0 ≤ y ∧ y < 8))) (h : Q [.inl (-1)] M) : g_Ev D 95 [.inr (0, 286), .inl f, .inl how, .inl x, .inl y] M Q := by
  obtain ⟨D, rfl⟩ := g_dep hD
  refine g_enter hk_95 hn_95 (rp_95_0 rfl ?_)
  rw [hi.1]
  (repeat' first | refine ⟨?_, ?_⟩ | intro _) <;> first | exact h | (exfalso; omega)
end OPS
/-- an operation: the class's answer, and then the reference's, are one -/
def opE (D jc jm : Nat) (as : List g_V) (M : g_M) : Prop := g_Ev D jc (.inr (0, 2) :: as) M (fun r M1 => ∃ v : Int, r = [.inl v] ∧ g_Ev D jm (.inr (0, 286) :: as) M1 (fun r' M2 => r' = [.inl v] ∧ St M2))
theorem pf_wf.snoc1 {F : pf_F} {p : pf_T} (h : pf_wf F) (hl : F.1.length < 16) (hp : pf_ok p) : pf_wf (F.1 ++ [p], F.2) := ⟨by simp; omega, h.2.1, fun q hq => by
  rcases List.mem_append.mp hq with z | z
  · exact h.2.2.1 q z
  · rw [List.mem_singleton.mp z]; exact hp, h.2.2.2⟩
theorem pf_wf.snoc2 {F : pf_F} {p : pf_T} (h : pf_wf F) (hl : F.2.length < 10) (hp : pf_ok p) : pf_wf (F.1, F.2 ++ [p]) := ⟨h.1, by simp; omega, h.2.2.1, fun q hq => by
  rcases List.mem_append.mp hq with z | z
  · exact h.2.2.2 q z
  · rw [List.mem_singleton.mp z]; exact hp⟩
theorem op_1 {D : Nat} (hD : 20 ≤ D) {M : g_M} (h : St M) (f how x y : Int) : opE D 10 91 [.inl f, .inl how, .inl x, .inl y] M := by
  obtain ⟨n, Fs, cs, vs, c, hs, hc, hm⟩ := h
  by_cases hv : (0 ≤ f ∧ f < n) ∧ (0 ≤ how ∧ how < 2) ∧ (0 ≤ x ∧ x < 8) ∧ (0 ≤ y ∧ y < 8)
  · obtain ⟨f, hf, rfl⟩ := g_natof hv.1
    obtain ⟨how, hh, rfl⟩ := g_natof (N := 2) hv.2.1
    obtain ⟨x, hx, rfl⟩ := g_natof (N := 8) hv.2.2.1
    obtain ⟨y, hy, rfl⟩ := g_natof (N := 8) hv.2.2.2
    refine c_10 (by omega) hs hc hf hh hx hy (fun hl M1 g1 g2 => ⟨_, rfl, ?_⟩) (fun hl => ⟨_, rfl, ?_⟩)
    · exact m_91 (by omega) hs (hm.keep g1) hf hh hx hy (fun _ M2 k1 k2 => ⟨rfl, _, _, _, _, _, hs.set ((hs.2.2.1 f hf).snoc1 hl ⟨hh, hx, hy⟩), g2.keep k1, k2⟩) (fun z => absurd hl z)
    · exact m_91 (by omega) hs hm hf hh hx hy (fun z => absurd z hl) (fun _ => ⟨rfl, _, _, _, _, _, hs, hc, hm⟩)
  · exact c_10b (by omega) hc hv ⟨_, rfl, m_91b (by omega) hm hv ⟨rfl, _, _, _, _, _, hs, hc, hm⟩⟩
theorem op_2 {D : Nat} (hD : 20 ≤ D) {M : g_M} (h : St M) (f how x y : Int) : opE D 16 95 [.inl f, .inl how, .inl x, .inl y] M := by
  obtain ⟨n, Fs, cs, vs, c, hs, hc, hm⟩ := h
  by_cases hv : (0 ≤ f ∧ f < n) ∧ (0 ≤ how ∧ how < 2) ∧ (0 ≤ x ∧ x < 8) ∧ (0 ≤ y ∧ y < 8)
  · obtain ⟨f, hf, rfl⟩ := g_natof hv.1
    obtain ⟨how, hh, rfl⟩ := g_natof (N := 2) hv.2.1
    obtain ⟨x, hx, rfl⟩ := g_natof (N := 8) hv.2.2.1
    obtain ⟨y, hy, rfl⟩ := g_natof (N := 8) hv.2.2.2
    refine c_16 (by omega) hs hc hf hh hx hy (fun hl M1 g1 g2 => ⟨_, rfl, ?_⟩) (fun hl => ⟨_, rfl, ?_⟩)
    · exact m_95 (by omega) hs (hm.keep g1) hf hh hx hy (fun _ M2 k1 k2 => ⟨rfl, _, _, _, _, _, hs.set ((hs.2.2.1 f hf).snoc2 hl ⟨hh, hx, hy⟩), g2.keep k1, k2⟩) (fun z => absurd hl z)
    · exact m_95 (by omega) hs hm hf hh hx hy (fun z => absurd z hl) (fun _ => ⟨rfl, _, _, _, _, _, hs, hc, hm⟩)
  · exact c_16b (by omega) hc hv ⟨_, rfl, m_95b (by omega) hm hv ⟨rfl, _, _, _, _, _, hs, hc, hm⟩⟩
theorem op_6 {D : Nat} (hD : 20 ≤ D) {M : g_M} (h : St M) : opE D 27 102 [] M := by
  obtain ⟨n, Fs, cs, vs, c, hs, hc, hm⟩ := h
  obtain ⟨D, rfl⟩ := g_dep (k := 3) (D := D) (by omega)
  have l := hs.1
  refine g_enter hk_27 hn_27 (rp_27_0 rfl ?_)
  rw [hc.1]
  refine ⟨fun q => ⟨by unfold hm_in; omega, _, rfl, ?_⟩, fun q => ⟨_, rfl, ?_⟩⟩
  · rw [show (n : Int) - 1 = ((n - 1 : Nat) : Int) by omega]
    have hc1 := hc.setN (m := n - 1) (fun f hf => hc.2.2.1 f (by omega))
    have hm1 := hm.keep (cch.uA (M := M) (q := (0, 2)) (k := 6) (v := ((n - 1 : Nat) : Int)) (by simp))
    refine g_enter hk_102 hn_102 (rp_102_0 rfl ?_)
    rw [hm1.1]
    refine ⟨fun _ => ⟨by unfold hm_in; omega, ?_⟩, fun z => absurd z q⟩
    rw [show (n : Int) - 1 = ((n - 1 : Nat) : Int) by omega]
    exact ⟨rfl, n - 1, Fs, cs, vs, c, ⟨by omega, hs.2.1, fun f hf => hs.2.2.1 f (by omega), hs.2.2.2⟩, hc1.keep (mcg.uA (by omega)), hm1.setN (fun f hf => hm1.2.2.1 f (by omega))⟩
  · refine g_enter hk_102 hn_102 (rp_102_0 rfl ?_)
    rw [hm.1]
    exact ⟨fun z => absurd q z, fun _ => ⟨rfl, n, Fs, cs, vs, c, hs, hc, hm⟩⟩

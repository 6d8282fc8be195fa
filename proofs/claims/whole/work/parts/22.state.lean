/-! THE STATE OF BOTH SIDES -/
def cMem (M : g_M) (i : Nat) (cs vs : Nat → Int) : Prop := (∀ a, a < 10 → M.1 5 i a = cs a ∧ -1 ≤ cs a ∧ cs a ≤ 9) ∧ (∃ w : Nat, w < 1024 ∧ M.1 4 i 2 = (w : Int) ∧ ∀ a, a < 10 → w.testBit a = decide (0 ≤ cs a)) ∧ (∀ t, t < 8 → M.1 6 i t = vs t ∧ 0 ≤ vs t ∧ vs t ≤ 9) ∧ cs 0 = -1 ∧ vs 0 = 0
def SI (n : Nat) (Fs : Nat → pf_F) (cs vs : Nat → Int) (c : Nat) : Prop := n ≤ 60 ∧ c ≤ 40 ∧ (∀ f, f < n → pf_wf (Fs f)) ∧ (∀ a, a < 10 → -1 ≤ cs a ∧ cs a ≤ 9) ∧ cs 0 = -1 ∧ (∀ t, t < 5 → 0 ≤ vs t ∧ vs t ≤ 9) ∧ vs 0 = 0
/-- the Sharings' longOnes are sets -/
def LO (M : g_M) : Prop := ∀ i, i < 2 → ∃ lo : Nat, lo < 256 ∧ M.1 12 i 3 = (lo : Int)
def CI (M : g_M) (n : Nat) (Fs : Nat → pf_F) (cs vs : Nat → Int) (c : Nat) : Prop := M.1 0 2 6 = (n : Int) ∧ M.1 0 2 7 = (c : Int) ∧ (∀ f, f < n → cF M (12 + f) (Fs f)) ∧ (∃ vs', cMem M 0 cs vs' ∧ ∀ t, t < 5 → vs' t = vs t) ∧ ∃ cs1 vs1, cMem M 1 cs1 vs1 ∧ (∀ a, 3 < a → a < 10 → cs1 a = -1) ∧ LO M
def MI (M : g_M) (n : Nat) (Fs : Nat → pf_F) (cs vs : Nat → Int) (c : Nat) : Prop := M.1 0 286 1 = (n : Int) ∧ M.1 0 286 29 = (c : Int) ∧ (∀ f, f < n → mF M f (Fs f)) ∧ (∀ a, a < 10 → M.1 0 296 a = cs a) ∧ ∃ vs' : Nat → Int, (∀ t, t < 8 → M.1 0 295 t = vs' t ∧ 0 ≤ vs' t ∧ vs' t ≤ 9) ∧ ∀ t, t < 5 → vs' t = vs t
def St (M : g_M) : Prop := ∃ n Fs cs vs c, SI n Fs cs vs c ∧ CI M n Fs cs vs c ∧ MI M n Fs cs vs c
/-- the reference's objects are as they were -/
def cch (M M1 : g_M) : Prop := ∀ n, 286 ≤ n → M1.1 0 n = M.1 0 n
/-- the class's objects are as they were -/
def mcg (M M1 : g_M) : Prop := M1.2 = M.2 ∧ ∀ t n, ¬ (t = 0 ∧ 286 ≤ n) → M1.1 t n = M.1 t n
theorem cch.rf {M : g_M} : cch M M := fun _ _ => rfl
theorem cch.tr {M M1 M2 : g_M} (h : cch M M1) (h' : cch M1 M2) : cch M M2 := fun n hn => (h' n hn).trans (h n hn)
theorem mcg.rf {M : g_M} : mcg M M := ⟨rfl, fun _ _ _ => rfl⟩
theorem mcg.tr {M M1 M2 : g_M} (h : mcg M M1) (h' : mcg M1 M2) : mcg M M2 := ⟨h'.1.trans h.1, fun t n hn => (h'.2 t n hn).trans (h.2 t n hn)⟩
theorem ch1.cch {f : Nat} {M M1 : g_M} (h : ch1 f M M1) : cch M M1 := fun n hn => h.2 0 n (by omega)
theorem mch.mcg {f : Nat} {M M1 : g_M} (h : mch f M M1) : mcg M M1 := ⟨h.1, fun t n hn => h.2.1 t n (by omega)⟩
theorem cch.uA {M : g_M} {q : Nat × Nat} {k : Nat} {v : Int} (hq : ¬ (q.1 = 0 ∧ 286 ≤ q.2)) : cch M (g_uA M q k v) := fun n hn => by
  funext i
  rw [g_uA_at, if_neg]
  rintro ⟨h1, h2, -⟩
  exact hq ⟨h1.symm, by omega⟩
theorem mcg.uA {M : g_M} {n k : Nat} {v : Int} (hn : 286 ≤ n) : mcg M (g_uA M (0, n) k v) := ⟨rfl, fun t m hm => by
  funext i
  rw [g_uA_at, if_neg]
  rintro ⟨rfl, rfl, -⟩
  exact hm ⟨rfl, hn⟩⟩
theorem MI.keep {M M1 : g_M} {n : Nat} {Fs : Nat → pf_F} {cs vs : Nat → Int} {c : Nat} (h : MI M n Fs cs vs c) (hc : cch M M1) : MI M1 n Fs cs vs c := by
  unfold MI mF at h ⊢
  rw [hc 286 (by omega), hc 287 (by omega), hc 288 (by omega), hc 289 (by omega), hc 290 (by omega), hc 291 (by omega), hc 292 (by omega), hc 293 (by omega), hc 294 (by omega), hc 295 (by omega), hc 296 (by omega)]
  exact h
theorem CI.keep {M M1 : g_M} {n : Nat} {Fs : Nat → pf_F} {cs vs : Nat → Int} {c : Nat} (h : CI M n Fs cs vs c) (hc : mcg M M1) : CI M1 n Fs cs vs c := by
  have e : ∀ t n, ¬ (t = 0 ∧ 286 ≤ n) → M1.1 t n = M.1 t n := hc.2
  refine ⟨by rw [e 0 2 (by omega)]; exact h.1, by rw [e 0 2 (by omega)]; exact h.2.1, fun f hf => ?_, ?_, ?_⟩
  · have := h.2.2.1 f hf
    unfold cF at this ⊢
    rw [e 1 _ (by omega), e 2 _ (by omega), e 3 _ (by omega)]
    exact this
  · obtain ⟨vs', h1, h2⟩ := h.2.2.2.1
    refine ⟨vs', ?_, h2⟩
    unfold cMem at h1 ⊢
    rw [e 5 _ (by omega), e 4 _ (by omega), e 6 _ (by omega)]
    exact h1
  · obtain ⟨cs1, vs1, h1, h2, h3⟩ := h.2.2.2.2
    refine ⟨cs1, vs1, ?_, h2, fun i hi => by rw [e 12 i (by omega)]; exact h3 i hi⟩
    unfold cMem at h1 ⊢
    rw [e 5 _ (by omega), e 4 _ (by omega), e 6 _ (by omega)]
    exact h1
/-- a formula of the class's has become another -/
theorem CI.setF {M M1 : g_M} {n f : Nat} {Fs : Nat → pf_F} {cs vs : Nat → Int} {c : Nat} {F : pf_F} (h : CI M n Fs cs vs c) (hc : ch1 (12 + f) M M1) (hF : cF M1 (12 + f) F) : CI M1 n (va_up Fs f F) cs vs c := by
  have e : ∀ t n, ¬ ((t = 1 ∨ t = 2 ∨ t = 3) ∧ n = 12 + f) → M1.1 t n = M.1 t n := hc.2
  refine ⟨by rw [e 0 2 (by omega)]; exact h.1, by rw [e 0 2 (by omega)]; exact h.2.1, fun g hg => ?_, ?_, ?_⟩
  · by_cases z : g = f
    · subst z
      simpa [va_up] using hF
    · have h1 := (h.2.2.1 g hg).keep hc (by omega)
      simpa [va_up, z] using h1
  · obtain ⟨vs', h1, h2⟩ := h.2.2.2.1
    refine ⟨vs', ?_, h2⟩
    unfold cMem at h1 ⊢
    rw [e 5 _ (by omega), e 4 _ (by omega), e 6 _ (by omega)]
    exact h1
  · obtain ⟨cs1, vs1, h1, h2, h3⟩ := h.2.2.2.2
    refine ⟨cs1, vs1, ?_, h2, fun i hi => by rw [e 12 i (by omega)]; exact h3 i hi⟩
    unfold cMem at h1 ⊢
    rw [e 5 _ (by omega), e 4 _ (by omega), e 6 _ (by omega)]
    exact h1
theorem MI.setF {M M1 : g_M} {n f : Nat} {Fs : Nat → pf_F} {cs vs : Nat → Int} {c : Nat} {F : pf_F} (h : MI M n Fs cs vs c) (hs : SI n Fs cs vs c) (hc : mch f M M1) (hF : mF M1 f F) : MI M1 n (va_up Fs f F) cs vs c := by
  have e : ∀ t n, ¬ (t = 0 ∧ 287 ≤ n ∧ n ≤ 294) → M1.1 t n = M.1 t n := hc.2.1
  refine ⟨by rw [e 0 286 (by omega)]; exact h.1, by rw [e 0 286 (by omega)]; exact h.2.1, fun g hg => ?_, ?_, ?_⟩
  · by_cases z : g = f
    · subst z
      simpa [va_up] using hF
    · have h1 := (h.2.2.1 g hg).keep (hs.2.2.1 g hg) hc z
      simpa [va_up, z] using h1
  · rw [e 0 296 (by omega)]
    exact h.2.2.2.1
  · rw [e 0 295 (by omega)]
    exact h.2.2.2.2
/-- how many formulas there are -/
theorem CI.setN {M : g_M} {n m : Nat} {Fs : Nat → pf_F} {cs vs : Nat → Int} {c : Nat} (h : CI M n Fs cs vs c) (hF : ∀ f, f < m → cF M (12 + f) (Fs f)) : CI (g_uA M (0, 2) 6 (m : Int)) m Fs cs vs c := by
  have e : ∀ t n, ¬ (t = 0 ∧ n = 2) → (g_uA M (0, 2) 6 (m : Int)).1 t n = M.1 t n := fun t n hn => by
    funext i
    rw [g_uA_at, if_neg]
    rintro ⟨rfl, rfl, -⟩
    exact hn ⟨rfl, rfl⟩
  refine ⟨by simp [g_uA_at], by simp [g_uA_at, h.2.1], fun f hf => ?_, ?_, ?_⟩
  · have := hF f hf
    unfold cF at this ⊢
    rw [e 1 _ (by omega), e 2 _ (by omega), e 3 _ (by omega)]
    exact this
  · obtain ⟨vs', h1, h2⟩ := h.2.2.2.1
    refine ⟨vs', ?_, h2⟩
    unfold cMem at h1 ⊢
    rw [e 5 _ (by omega), e 4 _ (by omega), e 6 _ (by omega)]
    exact h1
  · obtain ⟨cs1, vs1, h1, h2, h3⟩ := h.2.2.2.2
    refine ⟨cs1, vs1, ?_, h2, fun i hi => by rw [e 12 i (by omega)]; exact h3 i hi⟩
    unfold cMem at h1 ⊢
    rw [e 5 _ (by omega), e 4 _ (by omega), e 6 _ (by omega)]
    exact h1
theorem MI.setN {M : g_M} {n m : Nat} {Fs : Nat → pf_F} {cs vs : Nat → Int} {c : Nat} (h : MI M n Fs cs vs c) (hF : ∀ f, f < m → mF M f (Fs f)) : MI (g_uA M (0, 286) 1 (m : Int)) m Fs cs vs c := by
  have e : ∀ n, n ≠ 286 → (g_uA M (0, 286) 1 (m : Int)).1 0 n = M.1 0 n := fun n hn => by
    funext i
    rw [g_uA_at, if_neg]
    rintro ⟨-, rfl, -⟩
    exact hn rfl
  refine ⟨by simp [g_uA_at], by simp [g_uA_at, h.2.1], fun f hf => ?_, ?_, ?_⟩
  · have := hF f hf
    unfold mF at this ⊢
    rw [e 287 (by omega), e 288 (by omega), e 289 (by omega), e 290 (by omega), e 291 (by omega), e 292 (by omega), e 293 (by omega), e 294 (by omega)]
    exact this
  · rw [e 296 (by omega)]
    exact h.2.2.2.1
  · rw [e 295 (by omega)]
    exact h.2.2.2.2
section OPS
variable {D : Nat} {M : g_M} {n : Nat} {Fs : Nat → pf_F} {cs vs : Nat → Int} {c : Nat} {Q : g_P}
theorem c_8 (hD : 4 ≤ D) (hs : SI n Fs cs vs c) (hi : CI M n Fs cs vs c) (h1 : n < 60 → ∀ M1, cch M M1 → CI M1 (n + 1) (va_up Fs n ([], [])) cs vs c → Q [.inl (n : Int)] M1) (h0 : ¬ n < 60 → Q [.inl (-2)] M) : g_Ev D 8 [.inr (0, 2)] M Q := by
  obtain ⟨D, rfl⟩ := g_dep hD
  have a := hi.1
  have l := hs.1
  refine g_enter hk_8 hn_8 (rp_8_0 rfl ?_)
  rw [a]
  refine ⟨fun q => ⟨⟨by omega, by omega⟩, ?_⟩, fun q => h0 (by omega)⟩
  rw [Int.toNat_natCast]
  refine c_9 (by omega) (fun M1 g1 g2 => rp_8_24 rfl ?_)
  have hi1 := hi.setF g1 g2
  rw [hi1.1]
  refine ⟨by unfold hm_in; omega, by unfold hm_in; omega, ?_⟩
  rw [show (n : Int) + 1 - 1 = (n : Int) by omega, show (n : Int) + 1 = ((n + 1 : Nat) : Int) by omega]
  refine h1 (by omega) _ (g1.cch.tr (cch.uA (by simp))) (hi1.setN (fun f hf => ?_))
  by_cases z : f = n
  · subst z
    simpa [va_up] using g2
  · exact hi1.2.2.1 f (by omega)
theorem m_90 (hD : 3 ≤ D) (hs : SI n Fs cs vs c) (hi : MI M n Fs cs vs c) (h1 : n < 60 → ∀ M1, mcg M M1 → MI M1 (n + 1) (va_up Fs n ([], [])) cs vs c → Q [.inl (n : Int)] M1) (h0 : ¬ n < 60 → Q [.inl (-2)] M) : g_Ev D 90 [.inr (0, 286)] M Q := by
  obtain ⟨D, rfl⟩ := g_dep hD
  have a := hi.1
  have l := hs.1
  refine g_enter hk_90 hn_90 (rp_90_0 rfl ?_)
  rw [a, Int.toNat_natCast]
  refine ⟨fun q => ⟨⟨by omega, by omega⟩, by unfold hm_in; omega, by unfold hm_in; omega, ?_⟩, fun q => h0 (by omega)⟩
  rw [show (n : Int) + 1 - 1 = (n : Int) by omega, show (n : Int) + 1 = ((n + 1 : Nat) : Int) by omega]
  have c1 : mch n M (g_uA (g_uA M (0, 287) n 0) (0, 291) n 0) := (mch.uC (by simp)).tr (mch.uC (by simp))
  have c2 : mF (g_uA (g_uA M (0, 287) n 0) (0, 291) n 0) n ([], []) := ⟨by simp [g_uA_at], by simp [g_uA_at], fun i p hi => by simp at hi, fun i p hi => by simp at hi⟩
  have hi1 := hi.setF hs c1 c2
  refine h1 (by omega) _ (c1.mcg.tr (mcg.uA (by omega))) (hi1.setN (fun f hf => ?_))
  by_cases z : f = n
  · subst z
    simpa [va_up] using c2
  · exact hi1.2.2.1 f (by omega)
theorem SI.more (hs : SI n Fs cs vs c) (hn : n < 60) {F : pf_F} (hF : pf_wf F) : SI (n + 1) (va_up Fs n F) cs vs c := ⟨by omega, hs.2.1, fun f hf => by
  by_cases z : f = n
  · subst z
    simpa [va_up] using hF
  · simpa [va_up, z] using hs.2.2.1 f (by omega), hs.2.2.2⟩
theorem SI.set (hs : SI n Fs cs vs c) {f : Nat} {F : pf_F} (hF : pf_wf F) : SI n (va_up Fs f F) cs vs c := ⟨hs.1, hs.2.1, fun g hg => by
  by_cases z : g = f
  · subst z
    simpa [va_up] using hF
  · simpa [va_up, z] using hs.2.2.1 g hg, hs.2.2.2⟩
theorem pf_wf_nil : pf_wf ([], []) := ⟨by simp, by simp, by simp, by simp⟩
end OPS
theorem op_0 {D : Nat} (hD : 20 ≤ D) {M : g_M} (h : St M) : g_Ev D 8 [.inr (0, 2)] M (fun r M1 => ∃ v : Int, r = [.inl v] ∧ g_Ev D 90 [.inr (0, 286)] M1 (fun r' M2 => r' = [.inl v] ∧ St M2)) := by
  obtain ⟨n, Fs, cs, vs, c, hs, hc, hm⟩ := h
  refine c_8 (by omega) hs hc (fun hl M1 g1 g2 => ⟨_, rfl, ?_⟩) (fun hl => ⟨_, rfl, ?_⟩)
  · exact m_90 (by omega) hs (hm.keep g1) (fun _ M2 k1 k2 => ⟨rfl, _, _, _, _, _, hs.more hl pf_wf_nil, g2.keep k1, k2⟩) (fun z => absurd hl z)
  · exact m_90 (by omega) hs hm (fun z => absurd z hl) (fun _ => ⟨rfl, _, _, _, _, _, hs, hc, hm⟩)

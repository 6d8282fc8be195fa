/-! differ -/
section OPS
variable {D : Nat} {M : g_M} {n : Nat} {Fs : Nat → pf_F} {cs vs : Nat → Int} {c : Nat} {Q : g_P}
theorem CI.setD (hi : CI M n Fs cs vs c) {c' : Nat} : CI (g_uA M (0, 2) 7 (c' : Int)) n Fs cs vs c' := by
  have e : ∀ t n, ¬ (t = 0 ∧ n = 2) → (g_uA M (0, 2) 7 (c' : Int)).1 t n = M.1 t n := fun t n hn => by
    funext i
    rw [g_uA_at, if_neg]
    rintro ⟨rfl, rfl, -⟩
    exact hn ⟨rfl, rfl⟩
  refine ⟨by simp [g_uA_at, hi.1], by simp [g_uA_at], fun f hf => ?_, ?_, ?_⟩
  · have := hi.2.2.1 f hf
    unfold cF at this ⊢
    rw [e 1 _ (by omega), e 2 _ (by omega), e 3 _ (by omega)]
    exact this
  · obtain ⟨vs', h1, h2⟩ := hi.2.2.2.1
    refine ⟨vs', ?_, h2⟩
    unfold cMem at h1 ⊢
    rw [e 5 _ (by omega), e 4 _ (by omega), e 6 _ (by omega)]
    exact h1
  · obtain ⟨cs1, vs1, h1, h2, h3⟩ := hi.2.2.2.2
    refine ⟨cs1, vs1, ?_, h2, fun i hi => by rw [e 12 i (by omega)]; exact h3 i hi⟩
    unfold cMem at h1 ⊢
    rw [e 5 _ (by omega), e 4 _ (by omega), e 6 _ (by omega)]
    exact h1
theorem MI.setD (hi : MI M n Fs cs vs c) {c' : Nat} : MI (g_uA M (0, 286) 29 (c' : Int)) n Fs cs vs c' := by
  have e : ∀ n, n ≠ 286 → (g_uA M (0, 286) 29 (c' : Int)).1 0 n = M.1 0 n := fun n hn => by
    funext i
    rw [g_uA_at, if_neg]
    rintro ⟨-, rfl, -⟩
    exact hn rfl
  refine ⟨by simp [g_uA_at, hi.1], by simp [g_uA_at], fun f hf => ?_, ?_, ?_⟩
  · exact (hi.2.2.1 f hf).kd (fun n h1 h2 => e n (by omega))
  · rw [e 296 (by omega)]
    exact hi.2.2.2.1
  · rw [e 295 (by omega)]
    exact hi.2.2.2.2
theorem CI.kg {M1 : g_M} {cs1 vs1 : Nat → Int} (hi : CI M n Fs cs vs c) (hc : chg M M1) (hm : cMem M1 1 cs1 vs1) (hl : ∀ a, 3 < a → a < 10 → cs1 a = -1) : CI M1 n Fs cs vs c := by
  have e : ∀ t m, (t = 0 ∧ m = 2) ∨ ((t = 1 ∨ t = 2 ∨ t = 3) ∧ 12 ≤ m) ∨ ((t = 4 ∨ t = 5 ∨ t = 6) ∧ m = 0) ∨ t = 12 → M1.1 t m = M.1 t m := fun t m h => hc.2 t m (by omega)
  refine ⟨by rw [e 0 2 (by omega)]; exact hi.1, by rw [e 0 2 (by omega)]; exact hi.2.1, fun f hf => ?_, ?_, ⟨cs1, vs1, hm, hl, fun i hi2 => by rw [e 12 i (by omega)]; exact hi.2.2.2.2.elim (fun _ z => z.elim (fun _ z => z.2.2 i hi2))⟩⟩
  · have := hi.2.2.1 f hf
    unfold cF at this ⊢
    rw [e 1 _ (by omega), e 2 _ (by omega), e 3 _ (by omega)]
    exact this
  · obtain ⟨vs', h1, h2⟩ := hi.2.2.2.1
    refine ⟨vs', ?_, h2⟩
    unfold cMem at h1 ⊢
    rw [e 5 _ (by omega), e 4 _ (by omega), e 6 _ (by omega)]
    exact h1
theorem c_83 (hD : 23 ≤ D) (hs : SI n Fs cs vs c) (hi : CI M n Fs cs vs c) {f g : Nat} (hf : f < n) (hg : g < n)
    (hmany : ¬ (nsp (Fs f) ∧ nsp (Fs g) ∧ c < 40) → Q [.inl (-3)] M)
    (h1 : nsp (Fs f) → nsp (Fs g) → c < 40 → ∀ y, y < 32000 → PD (Fs f) (Fs g) y → (∀ y', y' < y → ¬ PD (Fs f) (Fs g) y') → ∀ M', cch M M' → CI M' n Fs (hc (y / 256)) (vc (y % 256)) (c + 1) → Q [.inl 1] M')
    (h0 : nsp (Fs f) → nsp (Fs g) → c < 40 → (∀ y, y < 32000 → ¬ PD (Fs f) (Fs g) y) → ∀ M', cch M M' → CI M' n Fs cs vs (c + 1) → Q [.inl 0] M') : g_Ev D 83 [.inr (0, 2), .inl (f : Int), .inl (g : Int)] M Q := by
  obtain ⟨D, rfl⟩ := g_dep hD
  have l := hs.1
  have wF := hs.2.2.1 f hf
  have wG := hs.2.2.1 g hg
  refine g_enter hk_83 hn_83 (rp_83_0 rfl ?_)
  rw [hi.1]
  refine ⟨fun _ => ⟨fun _ => ⟨by omega, ?_⟩, fun q => by exfalso; omega⟩, fun q => by exfalso; omega⟩
  rw [Int.toNat_natCast]
  refine c_63 (by omega) (hi.2.2.1 f hf) wF (fun q => rp_83_27 rfl ⟨fun _ => hmany (fun z => q z.1), fun q => by exfalso; omega⟩) (fun qF => rp_83_27 rfl ⟨fun q => absurd rfl q, fun _ => ⟨by omega, ?_⟩⟩)
  rw [Int.toNat_natCast]
  refine c_63 (by omega) (hi.2.2.1 g hg) wG (fun q => rp_83_39 rfl ⟨fun _ => hmany (fun z => q z.2.1), fun q => by exfalso; omega⟩) (fun qG => rp_83_39 rfl ⟨fun q => absurd rfl q, fun _ => ?_⟩)
  rw [hi.2.1, Int.toNat_natCast, Int.toNat_natCast]
  refine ⟨fun q => ⟨by unfold hm_in; omega, by omega, by omega, ?_⟩, fun q => hmany (fun z => by omega)⟩
  rw [show (c : Int) + 1 = ((c + 1 : Nat) : Int) by omega]
  have hi1 := hi.setD (c' := c + 1)
  have cc : cch M (g_uA M (0, 2) 7 ((c + 1 : Nat) : Int)) := cch.uA (by simp)
  obtain ⟨cs1, vs1, k1, k2, -⟩ := hi1.2.2.2.2
  refine c_84 (by omega) (hi1.2.2.1 f hf) (hi1.2.2.1 g hg) wF wG qF qG k1 k2 (fun y hy hp hmin M2 vs2 g1 g2 g3 => rp_83_83 rfl ⟨fun _ => ?_, fun q => by exfalso; omega⟩) (fun hno M2 cs2 vs2 g1 g2 g3 => rp_83_83 rfl ⟨fun q => absurd rfl q, fun _ => ?_⟩)
  · have hl : ∀ a, 3 < a → a < 10 → hc (y / 256) a = -1 := fun a a1 a2 => by unfold hc; rw [if_neg (by omega), if_neg (by omega), if_neg (by omega)]
    have hi2 := hi1.kg g1 g2 hl
    refine c_87 (by omega) g2 (fun M3 g4 g5 => rp_83_102 rfl ?_)
    exact h1 qF qG (by omega) y hy hp hmin M3 (cc.tr (cch.tr (fun n hn => g1.2 0 n (by omega)) g4.cch)) (hi2.mem g4 g5 g3)
  · exact h0 qF qG (by omega) hno M2 (cc.tr (fun n hn => g1.2 0 n (by omega))) (hi1.kg g1 g2 g3)
theorem m_146 (hD : 9 ≤ D) (hs : SI n Fs cs vs c) (hi : MI M n Fs cs vs c) {f g : Nat} (hf : f < n) (hg : g < n)
    (hmany : ¬ (nsp (Fs f) ∧ nsp (Fs g) ∧ c < 40) → Q [.inl (-3)] M)
    (h1 : nsp (Fs f) → nsp (Fs g) → c < 40 → ∀ y, y < 32000 → PD (Fs f) (Fs g) y → (∀ y', y' < y → ¬ PD (Fs f) (Fs g) y') → ∀ M', mcg M M' → MI M' n Fs (hc (y / 256)) (vc (y % 256)) (c + 1) → Q [.inl 1] M')
    (h0 : nsp (Fs f) → nsp (Fs g) → c < 40 → (∀ y, y < 32000 → ¬ PD (Fs f) (Fs g) y) → ∀ M', mcg M M' → MI M' n Fs cs vs (c + 1) → Q [.inl 0] M') : g_Ev D 146 [.inr (0, 286), .inl (f : Int), .inl (g : Int)] M Q := by
  obtain ⟨D, rfl⟩ := g_dep hD
  have l := hs.1
  have lc := hs.2.1
  have wF := hs.2.2.1 f hf
  have wG := hs.2.2.1 g hg
  refine g_enter hk_146 hn_146 (rp_146_0 rfl ?_)
  rw [hi.1]
  refine ⟨fun _ => ⟨fun _ => ?_, fun q => by exfalso; omega⟩, fun q => by exfalso; omega⟩
  refine m_125 (by omega) (by omega) (hi.2.2.1 f hf) wF (fun q => rp_146_23 rfl ⟨fun _ => hmany (fun z => q z.1), fun q => by exfalso; omega⟩) (fun qF => rp_146_23 rfl ⟨fun q => absurd rfl q, fun _ => ?_⟩)
  refine m_125 (by omega) (by omega) (hi.2.2.1 g hg) wG (fun q => rp_146_31 rfl ⟨fun _ => hmany (fun z => q z.2.1), fun q => by exfalso; omega⟩) (fun qG => rp_146_31 rfl ⟨fun q => absurd rfl q, fun _ => ?_⟩)
  rw [hi.2.1]
  refine ⟨fun q => ⟨by unfold hm_in; omega, ?_⟩, fun q => hmany (fun z => by omega)⟩
  rw [show (c : Int) + 1 = ((c + 1 : Nat) : Int) by omega]
  have hi1 := hi.setD (c' := c + 1)
  have cc : mcg M (g_uA M (0, 286) 29 ((c + 1 : Nat) : Int)) := mcg.uA (by omega)
  obtain ⟨vs', k1, k2⟩ := hi1.2.2.2.2
  have jm : ∀ M2, mJ (g_uA M (0, 286) 29 ((c + 1 : Nat) : Int)) M2 → mcg M M2 := fun M2 hj => cc.tr ⟨hj.1, fun t n hn => hj.2 t n (by omega)⟩
  refine m_146go (by omega) (by omega) (by omega) (hi1.2.2.1 f hf) (hi1.2.2.1 g hg) wF wG qF qG hi1.2.2.2.1 k1 (by rw [k2 0 (by omega)]; exact hs.2.2.2.2.2.2) (fun y hy hp hmin M2 vs2 g1 g2 g3 g4 => ?_) (fun hno M2 g1 g2 g3 => ?_)
  · refine h1 qF qG (by omega) y hy hp hmin M2 (jm M2 g1) ⟨?_, ?_, fun f hf => (hi1.2.2.1 f hf).kd (fun n n1 n2 => g1.2 0 n (by omega)), g2, vs2, g3, g4⟩
    · rw [g1.2 0 286 (by omega)]; exact hi1.1
    · rw [g1.2 0 286 (by omega)]; exact hi1.2.1
  · refine h0 qF qG (by omega) hno M2 (jm M2 g1) ⟨?_, ?_, fun f hf => (hi1.2.2.1 f hf).kd (fun n n1 n2 => g1.2 0 n (by omega)), g2, vs', fun t ht => ⟨g3 t ht, (k1 t ht).2⟩, k2⟩
    · rw [g1.2 0 286 (by omega)]; exact hi1.1
    · rw [g1.2 0 286 (by omega)]; exact hi1.2.1
theorem c_83b (hD : 4 ≤ D) (hi : CI M n Fs cs vs c) {f g : Int} (hv : ¬ ((0 ≤ f ∧ f < n) ∧ (0 ≤ g ∧ g < n))) (h : Q [.inl (-1)] M) : g_Ev D 83 [.inr (0, 2), .inl f, .inl g] M Q := by
  obtain ⟨D, rfl⟩ := g_dep hD
  refine g_enter hk_83 hn_83 (rp_83_0 rfl ?_)
  rw [hi.1]
  exact ⟨fun q => ⟨fun q2 => absurd ⟨q, q2⟩ hv, fun _ => h⟩, fun _ => h⟩
theorem m_146b (hD : 4 ≤ D) (hi : MI M n Fs cs vs c) {f g : Int} (hv : ¬ ((0 ≤ f ∧ f < n) ∧ (0 ≤ g ∧ g < n))) (h : Q [.inl (-1)] M) : g_Ev D 146 [.inr (0, 286), .inl f, .inl g] M Q := by
  obtain ⟨D, rfl⟩ := g_dep hD
  refine g_enter hk_146 hn_146 (rp_146_0 rfl ?_)
  rw [hi.1]
  exact ⟨fun q => ⟨fun q2 => absurd ⟨q, q2⟩ hv, fun _ => h⟩, fun _ => h⟩
end OPS
theorem op_17 {D : Nat} (hD : 30 ≤ D) {M : g_M} (h : St M) (f g : Int) : opE D 83 146 [.inl f, .inl g] M := by
  obtain ⟨n, Fs, cs, vs, c, hs, hc', hm⟩ := id h
  by_cases hv : (0 ≤ f ∧ f < n) ∧ (0 ≤ g ∧ g < n)
  · obtain ⟨f, hf, rfl⟩ := g_natof hv.1
    obtain ⟨g, hg, rfl⟩ := g_natof hv.2
    have one : ∀ y y', PD (Fs f) (Fs g) y → (∀ z, z < y → ¬ PD (Fs f) (Fs g) z) → PD (Fs f) (Fs g) y' → (∀ z, z < y' → ¬ PD (Fs f) (Fs g) z) → y = y' := fun y y' a1 a2 b1 b2 => by
      rcases Nat.lt_trichotomy y y' with z | z | z
      · exact absurd a1 (b2 y z)
      · exact z
      · exact absurd b1 (a2 y' z)
    have hmi := hs.2.2.2
    refine c_83 (by omega) hs hc' hf hg (fun q => ⟨_, rfl, ?_⟩) (fun q1 q2 q3 y hy p1 p2 M1 g1 g2 => ⟨_, rfl, ?_⟩) (fun q1 q2 q3 hno M1 g1 g2 => ⟨_, rfl, ?_⟩)
    · exact m_146 (by omega) hs hm hf hg (fun _ => ⟨rfl, h⟩) (fun a1 a2 a3 => absurd ⟨a1, a2, a3⟩ q) (fun a1 a2 a3 => absurd ⟨a1, a2, a3⟩ q)
    · refine m_146 (by omega) hs (hm.keep g1) hf hg (fun q => absurd ⟨q1, q2, q3⟩ q) (fun _ _ _ y' hy' p1' p2' M2 k1 k2 => ?_) (fun _ _ _ hno => absurd p1 (hno y hy))
      obtain rfl := one y y' p1 p2 p1' p2'
      refine ⟨rfl, n, Fs, _, _, c + 1, ⟨hs.1, by omega, hs.2.2.1, fun a ha => ?_, by unfold hc; rfl, fun t ht => (vc_sm (by omega)).2.2.2 t (by omega), rfl⟩, g2.keep k1, k2⟩
      unfold hc
      split
      · omega
      split
      · omega
      split
      · omega
      omega
    · refine m_146 (by omega) hs (hm.keep g1) hf hg (fun q => absurd ⟨q1, q2, q3⟩ q) (fun _ _ _ y' hy' p1' => absurd p1' (hno y' hy')) (fun _ _ _ _ M2 k1 k2 => ⟨rfl, n, Fs, cs, vs, c + 1, ⟨hs.1, by omega, hs.2.2⟩, g2.keep k1, k2⟩)
  · exact c_83b (by omega) hc' hv ⟨_, rfl, m_146b (by omega) hm hv ⟨rfl, h⟩⟩

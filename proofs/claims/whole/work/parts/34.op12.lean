/-! fits -/
section OPS
variable {D : Nat} {M : g_M} {n : Nat} {Fs : Nat → pf_F} {cs vs : Nat → Int} {c : Nat} {Q : g_P}
theorem CI.kp {M1 : g_M} (hi : CI M n Fs cs vs c) (e : ∀ t m, (t = 0 ∧ m = 2) ∨ ((t = 1 ∨ t = 2 ∨ t = 3) ∧ 12 ≤ m) ∨ t = 4 ∨ t = 5 ∨ t = 6 ∨ t = 12 → M1.1 t m = M.1 t m) : CI M1 n Fs cs vs c := by
  refine ⟨by rw [e 0 2 (by omega)]; exact hi.1, by rw [e 0 2 (by omega)]; exact hi.2.1, fun f hf => ?_, ?_, ?_⟩
  · have := hi.2.2.1 f hf
    unfold cF at this ⊢
    rw [e 1 _ (by omega), e 2 _ (by omega), e 3 _ (by omega)]
    exact this
  · obtain ⟨vs', h1, h2⟩ := hi.2.2.2.1
    refine ⟨vs', ?_, h2⟩
    unfold cMem at h1 ⊢
    rw [e 5 _ (by omega), e 4 _ (by omega), e 6 _ (by omega)]
    exact h1
  · obtain ⟨cs1, vs1, h1, h2, h3⟩ := hi.2.2.2.2
    refine ⟨cs1, vs1, ?_, h2, fun i hi => by rw [e 12 i (by omega)]; exact h3 i hi⟩
    unfold cMem at h1 ⊢
    rw [e 5 _ (by omega), e 4 _ (by omega), e 6 _ (by omega)]
    exact h1
theorem MI.kp {M1 : g_M} (hi : MI M n Fs cs vs c) (hW : mW M vs M1) : MI M1 n Fs cs vs c := by
  refine ⟨by rw [hW.2.1 0 286 (by omega)]; exact hi.1, by rw [hW.2.1 0 286 (by omega)]; exact hi.2.1, fun f hf => (hi.2.2.1 f hf).kd (fun n h1 h2 => hW.2.1 0 n (by omega)), ?_, hW.2.2⟩
  rw [hW.2.1 0 296 (by omega)]
  exact hi.2.2.2.1
theorem MI.mW (hi : MI M n Fs cs vs c) : mW M vs M := ⟨rfl, fun _ _ _ => rfl, hi.2.2.2.2⟩
theorem mW.mcg {M1 : g_M} (h : mW M vs M1) : mcg M M1 := ⟨h.1, fun t n hn => h.2.1 t n (by omega)⟩
theorem FT_Sx {F : pf_F} {w : Nat} (hw : pf_wf F) {v : Nat → Int} : Sx cs F w 0 v 0 ↔ ∃ v', ag 0 v v' ∧ vr v' ∧ FT cs v' F w := by
  unfold Sx FT
  rw [lu_0]
  constructor
  · rintro ⟨v', h1, h2, h3⟩
    exact ⟨v', h1, h2, by rw [← dl_perm (lw_perm hw)]; exact h3⟩
  · rintro ⟨v', h1, h2, h3⟩
    exact ⟨v', h1, h2, by rw [dl_perm (lw_perm hw)]; exact h3⟩
end OPS
theorem op_12 {D : Nat} (hD : 20 ≤ D) {M : g_M} (h : St M) (f : Int) : opE D 38 110 [.inl f] M := by
  obtain ⟨n, Fs, cs, vs, c, hs, hc, hm⟩ := id h
  obtain ⟨D, rfl⟩ := g_dep (k := 20) (D := D) hD
  have l := hs.1
  refine g_enter hk_38 hn_38 (rp_38_0 rfl ?_)
  rw [hc.1]
  refine ⟨fun q => ⟨by omega, ?_⟩, fun q => ⟨_, rfl, g_enter hk_110 hn_110 (rp_110_0 rfl ?_)⟩⟩
  · obtain ⟨f, hf, rfl⟩ := g_natof q
    rw [Int.toNat_natCast]
    have hw := hs.2.2.1 f hf
    refine c_39 (by omega) (hc.2.2.1 f hf) hw (fun M1 g1 g2 => rp_38_23 rfl ?_)
    have hc1 : CI M1 n Fs cs vs c := hc.kp (fun t m ht => g1.2 t m (by omega))
    have hm1 : MI M1 n Fs cs vs c := hm.keep (fun n hn => g1.2 0 n (by omega))
    obtain ⟨vs', k1, k2⟩ := hc1.2.2.2.1
    obtain ⟨w, w1, w2, w3⟩ := k1.2.1
    have hiff : Sx cs (Fs f) w 0 vs' 0 ↔ ∃ v, ag 0 vs v ∧ vr v ∧ FT cs v (Fs f) w := by
      rw [FT_Sx hw]
      constructor
      · rintro ⟨v, a1, a2⟩
        exact ⟨v, fun j hj => (a1 j hj).trans (k2 j (by omega)), a2⟩
      · rintro ⟨v, a1, a2⟩
        exact ⟨v, fun j hj => (a1 j hj).trans (k2 j (by omega)).symm, a2⟩
    have fin : ∀ (r : Nat) (M2 : g_M), (r = 1 ∧ Sx cs (Fs f) w 0 vs' 0 ∨ r = 0 ∧ ¬ Sx cs (Fs f) w 0 vs' 0) → CI M2 n Fs cs vs c → MI M2 n Fs cs vs c → g_Ev (D + 20) 110 [.inr (0, 286), .inl (f : Int)] M2 (fun r' M3 => r' = [.inl (r : Int)] ∧ St M3) := fun r M2 hr hc2 hm2 => by
      refine g_enter hk_110 hn_110 (rp_110_0 rfl ?_)
      rw [hm2.1]
      refine ⟨fun _ => ?_, fun z => absurd q z⟩
      have cr := hs.2.2.2.1
      refine m_111 (by omega) (by omega) (hm2.2.2.1 f hf) hw (fun a ha => ⟨hm2.2.2.2.1 a ha, cr a ha⟩) hs.2.2.2.2.1 hm2.mW w1 w3 (fun hy M3 c1 => rp_110_17 rfl ⟨fun q => by exfalso; omega, fun _ => ⟨?_, n, Fs, cs, vs, c, hs, hc2.keep c1.mcg, hm2.kp c1⟩⟩) (fun hy M3 c1 => rp_110_17 rfl ⟨fun _ => ⟨?_, n, Fs, cs, vs, c, hs, hc2.keep c1.mcg, hm2.kp c1⟩, fun q => absurd rfl q⟩)
      · rcases hr with ⟨rfl, _⟩ | ⟨_, hr⟩
        · rfl
        · exact absurd (hiff.mpr hy) hr
      · rcases hr with ⟨_, hr⟩ | ⟨rfl, _⟩
        · exact absurd (hiff.mp hr) hy
        · rfl
    refine c_149 (c_43 (i := 0) (P := 0) hw 8 0 (by omega) (by omega) k1 w2 g2 (by decide) (fun r M2 vs2 hr c1 c2 c3 => ⟨_, rfl, by rcases hr with ⟨z, _⟩ | ⟨z, _⟩ <;> omega, rp_38_34 rfl ?_⟩))
    have hc2 : CI M2 n Fs cs vs c := hc1.mem c1 c2 (fun t ht => (c3 t (by omega)).trans (k2 t ht))
    have hm2 : MI M2 n Fs cs vs c := hm1.keep c1.cch
    have hf := fin r M2 hr hc2 hm2
    rcases hr with ⟨rfl, _⟩ | ⟨rfl, _⟩
    · exact ⟨fun q => absurd q (by decide), fun _ => ⟨_, rfl, hf⟩⟩
    · exact ⟨fun _ => ⟨_, rfl, hf⟩, fun q => absurd rfl q⟩
  · rw [hm.1]
    exact ⟨fun z => absurd z q, fun _ => ⟨rfl, h⟩⟩

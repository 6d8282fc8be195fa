/-! run -/
def rn (cs vs : Nat → Int) (act x y : Nat) : Int × (Nat → Int) × (Nat → Int) :=
  if act = 0 then (1, cs, va_up vs x (vs y))
  else if act = 1 then (1, cs, va_up vs x 0)
  else if act = 3 then (if cs (vs x).toNat < 0 then (-5, cs, vs) else (1, va_up cs (vs x).toNat (-1), vs))
  else if act = 4 then (if cs (vs y).toNat < 0 then (-5, cs, vs) else (1, cs, va_up vs x (cs (vs y).toNat)))
  else if act = 5 then (if cs (vs x).toNat < 0 then (-5, cs, vs) else (1, va_up cs (vs x).toNat (vs y), vs))
  else if act = 6 then ((if vs x = vs y then 1 else 0), cs, vs)
  else ((if vs x = vs y then 0 else 1), cs, vs)
theorem rn_ag {cs vs vs' : Nat → Int} {act x y : Nat} (h : ∀ t, t < 5 → vs' t = vs t) (hx : x < 5) (hy : act = 0 ∨ 3 < act → y < 5) (h2 : act ≠ 2) : (rn cs vs' act x y).1 = (rn cs vs act x y).1 ∧ (rn cs vs' act x y).2.1 = (rn cs vs act x y).2.1 ∧ ∀ t, t < 5 → (rn cs vs' act x y).2.2 t = (rn cs vs act x y).2.2 t := by
  have e1 := h x hx
  have e2 : act = 0 ∨ 3 < act → vs' y = vs y := fun z => h y (hy z)
  have up : ∀ v w : Int, v = w → ∀ t, t < 5 → va_up vs' x v t = va_up vs x w t := fun v w hvw t ht => by
    subst hvw
    by_cases z : t = x
    · simp [va_up, z]
    · simp [va_up, z, h t ht]
  unfold rn
  by_cases a0 : act = 0
  · rw [if_pos a0, if_pos a0]
    exact ⟨rfl, rfl, up _ _ (e2 (by omega))⟩
  rw [if_neg a0, if_neg a0]
  by_cases a1 : act = 1
  · rw [if_pos a1, if_pos a1]
    exact ⟨rfl, rfl, up _ _ rfl⟩
  rw [if_neg a1, if_neg a1]
  by_cases a3 : act = 3
  · rw [if_pos a3, if_pos a3, e1]
    split <;> exact ⟨rfl, rfl, h⟩
  rw [if_neg a3, if_neg a3]
  by_cases a4 : act = 4
  · rw [if_pos a4, if_pos a4, e2 (by omega)]
    split
    · exact ⟨rfl, rfl, h⟩
    · exact ⟨rfl, rfl, up _ _ rfl⟩
  rw [if_neg a4, if_neg a4]
  by_cases a5 : act = 5
  · rw [if_pos a5, if_pos a5, e1, e2 (by omega)]
    split <;> exact ⟨rfl, rfl, h⟩
  rw [if_neg a5, if_neg a5]
  by_cases a6 : act = 6
  · rw [if_pos a6, if_pos a6, e1, e2 (by omega)]
    exact ⟨rfl, rfl, h⟩
  rw [if_neg a6, if_neg a6]
  rw [e1, e2 (by omega)]
  exact ⟨rfl, rfl, h⟩
section OPS
variable {D : Nat} {M : g_M} {n : Nat} {Fs : Nat → pf_F} {cs vs : Nat → Int} {c : Nat} {Q : g_P}
set_option maxHeartbeats 1000000 in
theorem c_53 (hD : 4 ≤ D) {i act x y : Nat} {z : Int} (hm : cMem M i cs vs) (ha : act < 8) (ha2 : act ≠ 2) (hx : 1 ≤ x ∧ x < 5) (hy : act = 0 ∨ 3 < act → z = (y : Int) ∧ 1 ≤ y ∧ y < 5)
    (h : ∀ M', chm i M M' → cMem M' i (rn cs vs act x y).2.1 (rn cs vs act x y).2.2 → Q [.inl (rn cs vs act x y).1] M') : g_Ev D 53 [.inr (4, i), .inl (act : Int), .inl (x : Int), .inl z] M Q := by
  obtain ⟨D, rfl⟩ := g_dep hD
  have vx := hm.2.2.1 x (by omega)
  have v0 := hm.2.2.2.2
  have c0 := hm.2.2.2.1
  obtain ⟨w, w1, w2, w3⟩ := hm.2.1
  have hcell : ∀ a : Int, 0 ≤ a → a ≤ 9 → ¬ cs a.toNat < 0 → ∀ (v : Int), -1 ≤ v → v ≤ 9 → ∀ Q' : g_P, (∀ M', chm i M M' → cMem M' i (va_up cs a.toNat v) vs → Q' [] M') → g_Ev (D + 3) 33 [.inr (4, i), .inl a, .inl v] M Q' := fun a a1 a2 a3 v v1 v2 Q' hQ => by
    obtain ⟨a, ha', rfl⟩ := g_natof (N := 10) ⟨a1, by omega⟩
    rw [Int.toNat_natCast] at a3 hQ
    refine c_33 (by omega) hm ⟨?_, ha'⟩ ⟨v1, v2⟩ hQ
    rcases Nat.eq_zero_or_pos a with z | z
    · subst z; omega
    · exact z
  have hbit : ∀ a : Int, 0 ≤ a → a ≤ 9 → (g_bit (w : Int) a ↔ ¬ cs a.toNat < 0) := fun a a1 a2 => by
    unfold g_bit
    rw [Int.toNat_natCast, w3 a.toNat (by omega), decide_eq_true_eq]
    omega
  refine g_enter hk_53 hn_53 (rp_53_0 rfl ?_)
  rw [w2, Int.toNat_natCast, vx.1, hbit _ vx.2.1 vx.2.2]
  rcases (show act = 0 ∨ act = 1 ∨ act = 3 ∨ act = 4 ∨ act = 5 ∨ act = 6 ∨ act = 7 by omega) with rfl | rfl | rfl | rfl | rfl | rfl | rfl
  · obtain ⟨rfl, hy1⟩ := hy (by omega)
    have vy := hm.2.2.1 y (by omega)
    refine ⟨fun _ => ?_, fun q => by exfalso; omega⟩
    refine rp_53_38 rfl ⟨fun q => by exfalso; omega, fun _ => ⟨by omega, by omega, ?_⟩, fun q => by exfalso; omega, fun q => by exfalso; omega, fun q => by exfalso; omega, fun q => by exfalso; omega, fun q => by exfalso; omega, fun q => by exfalso; omega⟩
    rw [Int.toNat_natCast, Int.toNat_natCast, vy.1]
    exact h _ (chm.uA (by simp)) (hm.setV (by omega) vy.2)
  · refine ⟨fun _ => ?_, fun q => by exfalso; omega⟩
    refine rp_53_38 rfl ⟨fun q => by exfalso; omega, fun q => by exfalso; omega, fun _ => ⟨by omega, ?_⟩, fun q => by exfalso; omega, fun q => by exfalso; omega, fun q => by exfalso; omega, fun q => by exfalso; omega, fun q => by exfalso; omega⟩
    rw [Int.toNat_natCast]
    exact h _ (chm.uA (by simp)) (hm.setV (by omega) (by omega))
  · refine ⟨fun q => by exfalso; omega, fun _ => ⟨fun q => by exfalso; omega, fun _ => ⟨fun _ => ⟨by omega, by omega, fun q => ?_, fun q => ?_⟩, fun q => by exfalso; omega⟩⟩⟩
    · refine rp_53_38 rfl ⟨fun q => by exfalso; omega, fun q => by exfalso; omega, fun q => by exfalso; omega, fun q => by exfalso; omega, fun _ => ⟨by omega, ?_⟩, fun q => by exfalso; omega, fun q => by exfalso; omega, fun q => by exfalso; omega⟩
      rw [Int.toNat_natCast, vx.1]
      refine hcell _ vx.2.1 vx.2.2 q (-1) (by omega) (by omega) _ (fun M' g1 g2 => rp_53_114 rfl ?_)
      have := h M' g1
      simp only [rn, if_neg q] at this
      exact this g2
    · have := h M chm.rf
      simp only [rn, if_pos (Classical.not_not.mp q)] at this
      exact this hm
  · obtain ⟨rfl, hy1⟩ := hy (by omega)
    have vy := hm.2.2.1 y (by omega)
    rw [Int.toNat_natCast, vy.1, hbit _ vy.2.1 vy.2.2]
    refine ⟨fun q => by exfalso; omega, fun _ => ⟨fun q => by exfalso; omega, fun _ => ⟨fun q => by exfalso; omega, fun _ => ⟨by omega, by omega, fun q => ?_, fun q => ?_⟩⟩⟩⟩
    · have cy := hm.1 (vs y).toNat (by omega)
      refine rp_53_38 rfl ?_
      rw [Int.toNat_natCast, Int.toNat_natCast, vx.1, vy.1, cy.1]
      refine ⟨fun q => by exfalso; omega, fun q => by exfalso; omega, fun q => by exfalso; omega, fun q => by exfalso; omega, fun q => by exfalso; omega, fun _ => ⟨by omega, by omega, by omega, ?_⟩, fun q => by exfalso; omega, fun q => by exfalso; omega⟩
      have := h _ (chm.uA (t := 6) (k := x) (v := cs (vs y).toNat) (by simp))
      simp only [rn, if_neg q] at this
      exact this (hm.setV (by omega) (by omega))
    · have := h M chm.rf
      simp only [rn, if_pos (Classical.not_not.mp q)] at this
      exact this hm
  · obtain ⟨rfl, hy1⟩ := hy (by omega)
    have vy := hm.2.2.1 y (by omega)
    refine ⟨fun q => by exfalso; omega, fun _ => ⟨fun q => by exfalso; omega, fun _ => ⟨fun _ => ⟨by omega, by omega, fun q => ?_, fun q => ?_⟩, fun q => by exfalso; omega⟩⟩⟩
    · refine rp_53_38 rfl ?_
      rw [Int.toNat_natCast, Int.toNat_natCast, vx.1, vy.1]
      refine ⟨fun q => by exfalso; omega, fun q => by exfalso; omega, fun q => by exfalso; omega, fun q => by exfalso; omega, fun q => by exfalso; omega, fun q => by exfalso; omega, fun _ => ⟨by omega, by omega, ?_⟩, fun q => by exfalso; omega⟩
      refine hcell _ vx.2.1 vx.2.2 q _ (by omega) (by omega) _ (fun M' g1 g2 => rp_53_151 rfl ?_)
      have := h M' g1
      simp only [rn, if_neg q] at this
      exact this g2
    · have := h M chm.rf
      simp only [rn, if_pos (Classical.not_not.mp q)] at this
      exact this hm
  · obtain ⟨rfl, hy1⟩ := hy (by omega)
    have vy := hm.2.2.1 y (by omega)
    have hh := h M chm.rf hm
    refine ⟨fun q => by exfalso; omega, fun _ => ⟨fun _ => ?_, fun q => by exfalso; omega⟩⟩
    refine rp_53_38 rfl ?_
    rw [Int.toNat_natCast, Int.toNat_natCast, vx.1, vy.1]
    refine ⟨fun q => by exfalso; omega, fun q => by exfalso; omega, fun q => by exfalso; omega, fun q => by exfalso; omega, fun q => by exfalso; omega, fun q => by exfalso; omega, fun q => by exfalso; omega, fun _ => ⟨by omega, by omega, fun q => ?_, fun q => ?_⟩⟩
    · simpa [rn, q] using hh
    · simpa [rn, q] using hh
  · obtain ⟨rfl, hy1⟩ := hy (by omega)
    have vy := hm.2.2.1 y (by omega)
    have hh := h M chm.rf hm
    refine ⟨fun q => by exfalso; omega, fun _ => ⟨fun _ => ?_, fun q => by exfalso; omega⟩⟩
    refine rp_53_38 rfl ?_
    rw [Int.toNat_natCast, Int.toNat_natCast, vx.1, vy.1]
    refine ⟨fun _ => ⟨by omega, by omega, fun q => ?_, fun q => ?_⟩, fun q => by exfalso; omega, fun q => by exfalso; omega, fun q => by exfalso; omega, fun q => by exfalso; omega, fun q => by exfalso; omega, fun q => by exfalso; omega, fun q => by exfalso; omega⟩
    · simpa [rn, q] using hh
    · simpa [rn, q] using hh
theorem c_52 (hD : 4 ≤ D) {i x : Nat} {a : Int} (hm : cMem M i cs vs) (hx : 1 ≤ x ∧ x < 8) (ha : 0 ≤ a ∧ a ≤ 9)
    (h1 : ∀ k, 1 ≤ k → k < 10 → cs k < 0 → (∀ j, 1 ≤ j → j < k → 0 ≤ cs j) → ∀ M', chm i M M' → cMem M' i (va_up cs k a) (va_up vs x (k : Int)) → Q [.inl 1] M') (h0 : (∀ j, 1 ≤ j → j < 10 → 0 ≤ cs j) → Q [.inl (-3)] M) : g_Ev D 52 [.inr (4, i), .inl (x : Int), .inl a] M Q := by
  obtain ⟨D, rfl⟩ := g_dep hD
  obtain ⟨w, w1, w2, w3⟩ := hm.2.1
  have loop : ∀ (m k : Nat) (z : Int), z = k → k + m = 10 → 1 ≤ k → (∀ j, 1 ≤ j → j < k → 0 ≤ cs j) → g_R (D + 4) 52 Q 2 [.inr (4, i), .inl (x : Int), .inl a, .inl z] [] M := by
    intro m
    induction m with
    | zero =>
      intro k z hz hk hk1 hj
      subst hz
      exact rp_52_2 rfl ⟨fun _ => h0 (fun j j1 j2 => hj j j1 (by omega)), fun q => by exfalso; omega⟩
    | succ m ih =>
      intro k z hz hk hk1 hj
      subst hz
      refine rp_52_2 rfl ⟨fun q => by exfalso; omega, fun _ => ?_⟩
      rw [w2, pb_g, w3 k (by omega)]
      refine ⟨by omega, fun q => ⟨by unfold hm_in; omega, ih (k + 1) _ (by omega) (by omega) (by omega) (fun j j1 j2 => ?_)⟩, fun q => ?_⟩
      · rcases Nat.lt_or_ge j k with z | z
        · exact hj j j1 z
        · obtain rfl : j = k := by omega
          simpa using q
      · refine c_33 (by omega) hm (by omega) (by omega) (fun M' g1 g2 => rp_52_25 rfl ⟨by omega, ?_⟩)
        rw [Int.toNat_natCast]
        exact h1 k hk1 (by omega) (by simpa using q) hj _ (g1.tr (chm.uA (by simp))) (g2.setV (by omega) (by omega))
  exact g_enter hk_52 hn_52 (rp_52_0 rfl (loop 9 1 1 rfl (by omega) (by omega) (fun j j1 j2 => by omega)))
end OPS

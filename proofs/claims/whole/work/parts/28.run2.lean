/-! run, the reference's -/
section OPS
variable {D : Nat} {M : g_M} {n : Nat} {Fs : Nat → pf_F} {cs vs : Nat → Int} {c : Nat} {Q : g_P}
theorem MI.val (hi : MI M n Fs cs vs c) {x : Nat} (hx : x < 5) : M.1 0 295 x = vs x ∧ 0 ≤ vs x ∧ vs x ≤ 9 := by
  obtain ⟨vs', h1, h2⟩ := hi.2.2.2.2
  have := h1 x (by omega)
  rw [h2 x hx] at this
  exact this
set_option maxHeartbeats 1000000 in
theorem m_114 (hD : 4 ≤ D) {act x y : Nat} {z a : Int} (hs : SI n Fs cs vs c) (hi : MI M n Fs cs vs c) (ha : act < 8) (ha2 : act ≠ 2) (hx : 1 ≤ x ∧ x < 5) (hy : act = 0 ∨ 3 < act → z = (y : Int) ∧ 1 ≤ y ∧ y < 5)
    (h : ∀ M', mcg M M' → MI M' n Fs (rn cs vs act x y).2.1 (rn cs vs act x y).2.2 c → Q [.inl (rn cs vs act x y).1] M') : g_Ev D 114 [.inr (0, 286), .inl (act : Int), .inl (x : Int), .inl z, .inl a] M Q := by
  obtain ⟨D, rfl⟩ := g_dep hD
  have vx := hi.val hx.2
  have c0 := hs.2.2.2.2.1
  have v0 := hs.2.2.2.2.2.2
  have cr := hs.2.2.2.1
  have hgo : g_R (D + 4) 114 Q 31 [.inr (0, 286), .inl (act : Int), .inl (x : Int), .inl z, .inl a] [] M → g_Ev (D + 4) 114 [.inr (0, 286), .inl (act : Int), .inl (x : Int), .inl z, .inl a] M Q := fun hh => by
    refine g_enter hk_114 hn_114 (rp_114_0 rfl ⟨fun q => by exfalso; omega, fun _ => ⟨fun q => by exfalso; omega, fun _ => ⟨fun _ => ⟨fun q => ⟨fun _ => hh, fun q2 => ?_⟩, fun _ => hh⟩, fun q => by exfalso; omega⟩⟩⟩)
    exfalso
    have := hy (by omega)
    omega
  refine hgo (rp_114_31 rfl ⟨fun _ => rp_114_46 rfl ?_, fun q => by exfalso; omega⟩)
  rw [Int.toNat_natCast, vx.1]
  have h68 : ∀ v : Int, 0 ≤ v → v ≤ 9 → (cs v.toNat < 0 → 3 ≤ act → act < 6 → Q [.inl (-5)] M) → (¬ (3 ≤ act ∧ act < 6 ∧ cs v.toNat < 0) → g_R (D + 4) 114 Q 97 [.inr (0, 286), .inl (act : Int), .inl (x : Int), .inl z, .inl a, .inl v] [] M) → g_R (D + 4) 114 Q 68 [.inr (0, 286), .inl (act : Int), .inl (x : Int), .inl z, .inl a, .inl v] [] M := fun v v1 v2 k1 k2 => by
    refine rp_114_68 rfl ?_
    rw [hi.2.2.2.1 v.toNat (by omega)]
    have e0 : v = 0 → cs v.toNat < 0 := fun z => by subst z; show cs 0 < 0; omega
    (repeat' first | refine ⟨?_, ?_⟩ | intro _) <;> first | (exfalso; omega) | omega | exact k2 (by omega) | exact k1 (by omega) (by omega) (by omega) | exact k1 (e0 (by omega)) (by omega) (by omega)
  rcases (show act = 0 ∨ act = 1 ∨ act = 3 ∨ act = 4 ∨ act = 5 ∨ act = 6 ∨ act = 7 by omega) with rfl | rfl | rfl | rfl | rfl | rfl | rfl
  · obtain ⟨rfl, hy1⟩ := hy (by omega)
    have vy := hi.val hy1.2
    refine ⟨fun _ => ⟨by omega, h68 _ vx.2.1 vx.2.2 (fun _ q => by exfalso; omega) (fun _ => rp_114_97 rfl ?_)⟩, fun q => by exfalso; omega⟩
    rw [Int.toNat_natCast, Int.toNat_natCast, vx.1, vy.1]
    refine ⟨fun q => by exfalso; omega, fun _ => ⟨by omega, by omega, ?_⟩, fun q => by exfalso; omega, fun q => by exfalso; omega, fun q => by exfalso; omega, fun q => by exfalso; omega, fun q => by exfalso; omega, fun q => by exfalso; omega⟩
    exact h _ (mcg.uA (by omega)) (hi.setV vy.2)
  · refine ⟨fun _ => ⟨by omega, h68 _ vx.2.1 vx.2.2 (fun _ q => by exfalso; omega) (fun _ => rp_114_97 rfl ?_)⟩, fun q => by exfalso; omega⟩
    rw [Int.toNat_natCast, vx.1]
    refine ⟨fun q => by exfalso; omega, fun q => by exfalso; omega, fun _ => ⟨by omega, ?_⟩, fun q => by exfalso; omega, fun q => by exfalso; omega, fun q => by exfalso; omega, fun q => by exfalso; omega, fun q => by exfalso; omega⟩
    exact h _ (mcg.uA (by omega)) (hi.setV (by omega))
  · refine ⟨fun _ => ⟨by omega, h68 _ vx.2.1 vx.2.2 (fun q _ _ => ?_) (fun q => rp_114_97 rfl ?_)⟩, fun q => by exfalso; omega⟩
    · have := h M mcg.rf
      simp only [rn, if_pos q] at this
      exact this hi
    · have q' : ¬ cs (vs x).toNat < 0 := by omega
      refine ⟨fun q => by exfalso; omega, fun q => by exfalso; omega, fun q => by exfalso; omega, fun q => by exfalso; omega, fun _ => ⟨by omega, ?_⟩, fun q => by exfalso; omega, fun q => by exfalso; omega, fun q => by exfalso; omega⟩
      have := h _ (mcg.uA (n := 296) (k := (vs x).toNat) (v := -1) (by omega))
      simp only [rn, if_neg q'] at this
      exact this hi.setC
  · obtain ⟨rfl, hy1⟩ := hy (by omega)
    have vy := hi.val hy1.2
    rw [Int.toNat_natCast, vy.1]
    refine ⟨fun q => by exfalso; omega, fun _ => ⟨by omega, h68 _ vy.2.1 vy.2.2 (fun q _ _ => ?_) (fun q => rp_114_97 rfl ?_)⟩⟩
    · have := h M mcg.rf
      simp only [rn, if_pos q] at this
      exact this hi
    · have q' : ¬ cs (vs y).toNat < 0 := by omega
      have cy := cr (vs y).toNat (by omega)
      rw [Int.toNat_natCast, hi.2.2.2.1 (vs y).toNat (by omega)]
      refine ⟨fun q => by exfalso; omega, fun q => by exfalso; omega, fun q => by exfalso; omega, fun q => by exfalso; omega, fun q => by exfalso; omega, fun _ => ⟨by omega, by omega, ?_⟩, fun q => by exfalso; omega, fun q => by exfalso; omega⟩
      have := h _ (mcg.uA (n := 295) (k := x) (v := cs (vs y).toNat) (by omega))
      simp only [rn, if_neg q'] at this
      exact this (hi.setV (by omega))
  · obtain ⟨rfl, hy1⟩ := hy (by omega)
    have vy := hi.val hy1.2
    refine ⟨fun _ => ⟨by omega, h68 _ vx.2.1 vx.2.2 (fun q _ _ => ?_) (fun q => rp_114_97 rfl ?_)⟩, fun q => by exfalso; omega⟩
    · have := h M mcg.rf
      simp only [rn, if_pos q] at this
      exact this hi
    · have q' : ¬ cs (vs x).toNat < 0 := by omega
      rw [Int.toNat_natCast, Int.toNat_natCast, vy.1]
      refine ⟨fun q => by exfalso; omega, fun q => by exfalso; omega, fun q => by exfalso; omega, fun q => by exfalso; omega, fun q => by exfalso; omega, fun q => by exfalso; omega, fun _ => ⟨by omega, by omega, ?_⟩, fun q => by exfalso; omega⟩
      have := h _ (mcg.uA (n := 296) (k := (vs x).toNat) (v := vs y) (by omega))
      simp only [rn, if_neg q'] at this
      exact this hi.setC
  · obtain ⟨rfl, hy1⟩ := hy (by omega)
    have vy := hi.val hy1.2
    have hh := h M mcg.rf hi
    refine ⟨fun _ => ⟨by omega, h68 _ vx.2.1 vx.2.2 (fun _ q _ => by exfalso; omega) (fun _ => rp_114_97 rfl ?_)⟩, fun q => by exfalso; omega⟩
    rw [Int.toNat_natCast, Int.toNat_natCast, vx.1, vy.1]
    refine ⟨fun q => by exfalso; omega, fun q => by exfalso; omega, fun q => by exfalso; omega, fun q => by exfalso; omega, fun q => by exfalso; omega, fun q => by exfalso; omega, fun q => by exfalso; omega, fun _ => ⟨by omega, by omega, fun q => ?_, fun q => ?_⟩⟩
    · simpa [rn, q] using hh
    · simpa [rn, q] using hh
  · obtain ⟨rfl, hy1⟩ := hy (by omega)
    have vy := hi.val hy1.2
    have hh := h M mcg.rf hi
    refine ⟨fun _ => ⟨by omega, h68 _ vx.2.1 vx.2.2 (fun _ q _ => by exfalso; omega) (fun _ => rp_114_97 rfl ?_)⟩, fun q => by exfalso; omega⟩
    rw [Int.toNat_natCast, Int.toNat_natCast, vx.1, vy.1]
    refine ⟨fun _ => ⟨by omega, by omega, fun q => ?_, fun q => ?_⟩, fun q => by exfalso; omega, fun q => by exfalso; omega, fun q => by exfalso; omega, fun q => by exfalso; omega, fun q => by exfalso; omega, fun q => by exfalso; omega, fun q => by exfalso; omega⟩
    · simpa [rn, q] using hh
    · simpa [rn, q] using hh
theorem m_114n (hD : 4 ≤ D) {x : Nat} {z a : Int} (hi : MI M n Fs cs vs c) (hx : 1 ≤ x ∧ x < 5) (ha : 0 ≤ a ∧ a ≤ 9)
    (h1 : ∀ k, 1 ≤ k → k < 10 → cs k < 0 → (∀ j, 1 ≤ j → j < k → 0 ≤ cs j) → ∀ M', mcg M M' → MI M' n Fs (va_up cs k a) (va_up vs x (k : Int)) c → Q [.inl 1] M') (h0 : (∀ j, 1 ≤ j → j < 10 → 0 ≤ cs j) → Q [.inl (-3)] M) : g_Ev D 114 [.inr (0, 286), .inl 2, .inl (x : Int), .inl z, .inl a] M Q := by
  obtain ⟨D, rfl⟩ := g_dep hD
  have loop : ∀ (m k : Nat) (w v : Int), w = k → k + m = 10 → 1 ≤ k → (∀ j, 1 ≤ j → j < k → 0 ≤ cs j) → g_R (D + 4) 114 Q 166 [.inr (0, 286), .inl 2, .inl (x : Int), .inl z, .inl a, .inl v, .inl w] [] M := by
    intro m
    induction m with
    | zero =>
      intro k w v hz hk hk1 hj
      subst hz
      exact rp_114_166 rfl ⟨fun _ => ⟨fun q => by exfalso; omega, fun _ => h0 (fun j j1 j2 => hj j j1 (by omega))⟩, fun q => by exfalso; omega⟩
    | succ m ih =>
      intro k w v hz hk hk1 hj
      subst hz
      refine rp_114_166 rfl ⟨fun q => by exfalso; omega, fun _ => ?_⟩
      rw [Int.toNat_natCast, Int.toNat_natCast, hi.2.2.2.1 k (by omega)]
      refine ⟨by omega, fun q => ⟨fun _ => ⟨by omega, ?_⟩, fun q => by exfalso; omega⟩, fun q => ⟨by unfold hm_in; omega, ih (k + 1) _ v (by omega) (by omega) (by omega) (fun j j1 j2 => ?_)⟩⟩
      · exact h1 k hk1 (by omega) q hj _ ((mcg.uA (by omega)).tr (mcg.uA (by omega))) (hi.setC.setV (by omega))
      · rcases Nat.lt_or_ge j k with z | z
        · exact hj j j1 z
        · obtain rfl : j = k := by omega
          exact q
  refine g_enter hk_114 hn_114 (rp_114_0 rfl ⟨fun q => by exfalso; omega, fun _ => ⟨fun q => by exfalso; omega, fun _ => ⟨fun _ => ⟨fun q => by exfalso; omega, fun _ => ?_⟩, fun q => by exfalso; omega⟩⟩⟩)
  refine rp_114_31 rfl ⟨fun q => by exfalso; omega, fun _ => ⟨fun _ => rp_114_46 rfl ⟨fun _ => ⟨by omega, rp_114_68 rfl ⟨fun _ => rp_114_97 rfl ⟨fun q => by exfalso; omega, fun q => by exfalso; omega, fun q => by exfalso; omega, fun _ => ?_, fun q => by exfalso; omega, fun q => by exfalso; omega, fun q => by exfalso; omega, fun q => by exfalso; omega⟩, fun q => by exfalso; omega⟩⟩, fun q => by exfalso; omega⟩, fun q => by exfalso; omega⟩⟩
  exact loop 9 1 1 _ rfl (by omega) (by omega) (fun j j1 j2 => by omega)
theorem m_114b (hD : 4 ≤ D) {act x y a : Int} (hv : ¬ ((0 ≤ act ∧ act < 8) ∧ (0 < x ∧ x < 5) ∧ ((act = 0 ∨ 3 < act) → (0 < y ∧ y < 5)) ∧ (act = 2 → 0 ≤ a ∧ a < 10))) (h : Q [.inl (-1)] M) : g_Ev D 114 [.inr (0, 286), .inl act, .inl x, .inl y, .inl a] M Q := by
  obtain ⟨D, rfl⟩ := g_dep hD
  have h31 : ((0 ≤ act ∧ act < 8) ∧ (0 < x ∧ x < 5) ∧ ((act = 0 ∨ 3 < act) → (0 < y ∧ y < 5))) → g_R (D + 4) 114 Q 31 [.inr (0, 286), .inl act, .inl x, .inl y, .inl a] [] M := fun hh => by
    refine rp_114_31 rfl ⟨fun q => ?_, fun q => ⟨fun q2 => ?_, fun _ => h⟩⟩
    · exact absurd ⟨hh.1, hh.2.1, hh.2.2, fun z => absurd z q⟩ hv
    · exact absurd ⟨hh.1, hh.2.1, hh.2.2, fun _ => q2⟩ hv
  refine g_enter hk_114 hn_114 (rp_114_0 rfl ⟨fun _ => h, fun _ => ⟨fun _ => h, fun _ => ⟨fun q1 => ⟨fun q2 => ⟨fun q3 => h31 ⟨by omega, q1, fun _ => q3⟩, fun _ => h⟩, fun q2 => h31 ⟨by omega, q1, fun z => absurd z q2⟩⟩, fun _ => h⟩⟩⟩)
end OPS
theorem rn_rg {n : Nat} {Fs : Nat → pf_F} {cs vs : Nat → Int} {c act x y : Nat} (hs : SI n Fs cs vs c) (hx : 1 ≤ x ∧ x < 5) (hy : act = 0 ∨ 3 < act → 1 ≤ y ∧ y < 5) : SI n Fs (rn cs vs act x y).2.1 (rn cs vs act x y).2.2 c := by
  have vx := hs.2.2.2.2.2.1 x hx.2
  have vy : act = 0 ∨ 3 < act → 0 ≤ vs y ∧ vs y ≤ 9 := fun z => hs.2.2.2.2.2.1 y (hy z).2
  have c0 := hs.2.2.2.2.1
  have pos : ∀ v : Int, ¬ cs v.toNat < 0 → 1 ≤ v.toNat := fun v hv => by
    rcases Nat.eq_zero_or_pos v.toNat with z | z
    · rw [z] at hv; omega
    · exact z
  unfold rn
  by_cases a0 : act = 0
  · rw [if_pos a0]
    exact hs.setV hx.1 (vy (by omega))
  rw [if_neg a0]
  by_cases a1 : act = 1
  · rw [if_pos a1]
    exact hs.setV hx.1 (by omega)
  rw [if_neg a1]
  by_cases a3 : act = 3
  · rw [if_pos a3]
    split
    · exact hs
    · next q => exact hs.setC (pos _ q) (by omega)
  rw [if_neg a3]
  by_cases a4 : act = 4
  · rw [if_pos a4]
    split
    · exact hs
    · next q =>
      have := vy (by omega)
      have := hs.2.2.2.1 (vs y).toNat (by omega)
      exact hs.setV hx.1 (by omega)
  rw [if_neg a4]
  by_cases a5 : act = 5
  · rw [if_pos a5]
    have := vy (by omega)
    split
    · exact hs
    · next q => exact hs.setC (pos _ q) (by omega)
  rw [if_neg a5]
  split <;> exact hs
theorem op_13 {D : Nat} (hD : 20 ≤ D) {M : g_M} (h : St M) (act x y a : Int) : opE D 48 114 [.inl act, .inl x, .inl y, .inl a] M := by
  obtain ⟨n, Fs, cs, vs, c, hs, hc, hm⟩ := id h
  obtain ⟨D, rfl⟩ := g_dep (k := 6) (D := D) (by omega)
  obtain ⟨vs', k1, k2⟩ := hc.2.2.2.1
  have bad : ¬ ((0 ≤ act ∧ act < 8) ∧ (0 < x ∧ x < 5) ∧ ((act = 0 ∨ 3 < act) → (0 < y ∧ y < 5)) ∧ (act = 2 → 0 ≤ a ∧ a < 10)) → ∃ v : Int, ([.inl (-1)] : List g_V) = [.inl v] ∧ g_Ev (D + 6) 114 [.inr (0, 286), .inl act, .inl x, .inl y, .inl a] M (fun r' M2 => r' = [.inl v] ∧ St M2) := fun hv => ⟨_, rfl, m_114b (by omega) hv ⟨rfl, h⟩⟩
  refine g_enter hk_48 hn_48 (rp_48_0 rfl ⟨fun q1 => ⟨fun q2 => ?_, fun q2 => ⟨fun q3 => ?_, fun q3 => bad (fun z => q3 (z.2.2.2 q2))⟩⟩, fun q1 => bad (fun z => q1 ⟨z.1, z.2.1, z.2.2.1⟩)⟩)
  · obtain ⟨act, ha, rfl⟩ := g_natof (N := 8) q1.1
    obtain ⟨x, hx, rfl⟩ := g_natof (N := 5) ⟨by omega, q1.2.1.2⟩
    have hy : act = 0 ∨ 3 < act → y = (y.toNat : Int) ∧ 1 ≤ y.toNat ∧ y.toNat < 5 := fun z => by
      have := q1.2.2 (by omega)
      omega
    refine c_53 (y := y.toNat) (by omega) k1 ha (by omega) (by omega) hy (fun M1 g1 g2 => rp_48_49 rfl ⟨_, rfl, ?_⟩)
    have ag := rn_ag (cs := cs) k2 hx (fun z => (hy z).2.2) (show act ≠ 2 by omega)
    rw [ag.2.1] at g2
    have hc1 := hc.mem g1 g2 ag.2.2
    rw [ag.1]
    exact m_114 (y := y.toNat) (by omega) hs (hm.keep g1.cch) ha (by omega) (by omega) hy (fun M2 l1 l2 => ⟨rfl, n, Fs, _, _, c, rn_rg hs (by omega) (fun z => (hy z).2), hc1.keep l1, l2⟩)
  · obtain ⟨x, hx, rfl⟩ := g_natof (N := 5) ⟨by omega, q1.2.1.2⟩
    subst q2
    have uniq : ∀ k k' : Nat, 1 ≤ k → 1 ≤ k' → cs k < 0 → cs k' < 0 → (∀ j, 1 ≤ j → j < k → 0 ≤ cs j) → (∀ j, 1 ≤ j → j < k' → 0 ≤ cs j) → k = k' := fun k k' p1 p2 p3 p4 p5 p6 => by
      rcases Nat.lt_trichotomy k k' with z | z | z
      · have := p6 k p1 z; omega
      · exact z
      · have := p5 k' p2 z; omega
    refine c_52 (by omega) k1 (by omega) (by omega) (fun k l1 l2 l3 l4 M1 g1 g2 => rp_48_34 rfl ⟨_, rfl, ?_⟩) (fun l => rp_48_34 rfl ⟨_, rfl, ?_⟩)
    · have hc1 : CI M1 n Fs (va_up cs k a) (va_up vs x (k : Int)) c := hc.mem g1 g2 (fun t ht => by
        by_cases z : t = x
        · simp [va_up, z]
        · simp [va_up, z, k2 t ht])
      refine m_114n (by omega) (hm.keep g1.cch) (by omega) (by omega) (fun k' p1 p2 p3 p4 M2 r1 r2 => ⟨rfl, n, Fs, _, _, c, ((hs.setC (k := k) (by omega) (by omega)).setV (k := x) (v := (k : Int)) (by omega) (by omega)), hc1.keep r1, ?_⟩) (fun z => ?_)
      · rw [uniq k k' l1 p1 l3 p3 l4 p4]
        exact r2
      · have := z k l1 l2; omega
    · refine m_114n (by omega) hm (by omega) (by omega) (fun k' p1 p2 p3 p4 M2 r1 r2 => ?_) (fun z => ⟨rfl, h⟩)
      have := l k' p1 p2; omega

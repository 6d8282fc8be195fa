/-! differ, the reference's -/
theorem bits_ex (cs : Nat → Int) : ∃ w, w < 1024 ∧ ∀ a, a < 10 → w.testBit a = decide (0 ≤ cs a) := by
  have : ∀ n, ∃ w, w < 2 ^ n ∧ ∀ a, a < n → w.testBit a = decide (0 ≤ cs a) := by
    intro n
    induction n with
    | zero => exact ⟨0, by decide, fun a ha => by omega⟩
    | succ n ih =>
      obtain ⟨w, w1, w2⟩ := ih
      have hlt : w < 2 ^ (n + 1) := Nat.lt_of_lt_of_le w1 (Nat.pow_le_pow_right (by omega) (by omega))
      have hp : 2 ^ n < 2 ^ (n + 1) := Nat.pow_lt_pow_right (by omega) (by omega)
      have hn : w.testBit n = false := Nat.testBit_lt_two_pow w1
      by_cases z : 0 ≤ cs n
      · refine ⟨w ||| 2 ^ n, Nat.or_lt_two_pow hlt hp, fun a ha => ?_⟩
        rw [Nat.testBit_or, pb_bit]
        by_cases y : a = n
        · subst y; simp [z]
        · have : ¬ n = a := fun q => y q.symm
          rw [w2 a (by omega)]; simp [this]
      · refine ⟨w, hlt, fun a ha => ?_⟩
        by_cases y : a = n
        · subst y; rw [hn]; simp [z]
        · exact w2 a (by omega)
  exact this 10
theorem lay_ck : (List.range 256).all (fun v => (List.range 5).all (fun k => k == 0 || decide (hm_and (hm_shr (v : Int) (8 - 2 * (k : Int))) 3 = vc v k))) = true := by decide +kernel
theorem lay_at {v k : Nat} (hv : v < 256) (h1 : 1 ≤ k) (h4 : k < 5) : hm_and (hm_shr (v : Int) (8 - 2 * (k : Int))) 3 = vc v k := by
  have h2 := List.all_eq_true.mp (List.all_eq_true.mp lay_ck v (List.mem_range.mpr hv)) k (List.mem_range.mpr h4)
  have : (k == 0) = false := beq_eq_false_iff_ne.mpr (by omega)
  rw [this] at h2
  simpa using h2
/-- only the reference's values have changed -/
def chv (M M' : g_M) : Prop := M'.2 = M.2 ∧ ∀ t n, ¬ (t = 0 ∧ n = 295) → M'.1 t n = M.1 t n
theorem m_147 {D : Nat} (hD : 3 ≤ D) {M : g_M} {x : Nat} {Q : g_P} (hx : x < 256) (h : ∀ M', chv M M' → (∀ t, M'.1 0 295 t = if 1 ≤ t ∧ t < 5 then vc x t else M.1 0 295 t) → Q [] M') : g_Ev D 147 [.inr (0, 286), .inl (x : Int)] M Q := by
  obtain ⟨D, rfl⟩ := g_dep hD
  have loop : ∀ (n k : Nat) (y : Int) (M1 : g_M), k + n = 5 → 1 ≤ k → y = k → chv M M1 → (∀ t, M1.1 0 295 t = if 1 ≤ t ∧ t < k then vc x t else M.1 0 295 t) → g_R (D + 3) 147 Q 2 [.inr (0, 286), .inl (x : Int), .inl y] [] M1 := by
    intro n
    induction n with
    | zero =>
      intro k y M1 hk hk1 hy hch hv
      subst hy
      obtain rfl : k = 5 := by omega
      exact rp_147_2 rfl ⟨fun _ => h M1 hch hv, fun q => by exfalso; omega⟩
    | succ n ih =>
      intro k y M1 hk hk1 hy hch hv
      subst hy
      refine rp_147_2 rfl ⟨fun q => by exfalso; omega, fun _ => ⟨by unfold hm_in; omega, by unfold hm_in; omega, by omega, by unfold hm_in; omega, ?_⟩⟩
      rw [lay_at hx hk1 (by omega), Int.toNat_natCast]
      refine ih (k + 1) _ _ (by omega) (by omega) (by omega) ⟨hch.1, fun t n hn => ?_⟩ (fun t => ?_)
      · rw [← hch.2 t n hn]
        funext i
        rw [g_uA_at, if_neg]
        rintro ⟨rfl, rfl, -⟩
        exact hn ⟨rfl, rfl⟩
      · rw [g_uA_at]
        by_cases z : t = k
        · subst z
          rw [if_pos ⟨rfl, rfl, rfl⟩, if_pos (by omega)]
        · rw [if_neg (fun y => z y.2.2), hv t]
          by_cases y : 1 ≤ t ∧ t < k
          · rw [if_pos y, if_pos (by omega)]
          · rw [if_neg y, if_neg (by omega)]
  exact g_enter hk_147 hn_147 (rp_147_0 rfl (loop 4 1 1 M (by omega) (by omega) rfl ⟨rfl, fun _ _ _ => rfl⟩ (fun t => by rw [if_neg (by omega)])))
/-- during the reference's differ -/
def mJ (M M' : g_M) : Prop := M'.2 = M.2 ∧ ∀ t n, ¬ (t = 0 ∧ (n = 295 ∨ n = 296 ∨ n = 297 ∨ n = 308 ∨ n = 309)) → M'.1 t n = M.1 t n
theorem mJ.rf {M : g_M} : mJ M M := ⟨rfl, fun _ _ _ => rfl⟩
theorem mJ.tr {M M' M'' : g_M} (h : mJ M M') (h' : mJ M' M'') : mJ M M'' := ⟨h'.1.trans h.1, fun t n hn => (h'.2 t n hn).trans (h.2 t n hn)⟩
theorem mJ.uA {k m : Nat} {v : Int} {M : g_M} (hm : m = 295 ∨ m = 296 ∨ m = 297 ∨ m = 308 ∨ m = 309) : mJ M (g_uA M (0, m) k v) := by
  refine ⟨rfl, fun t' n hn => ?_⟩
  funext i
  rw [g_uA_at, if_neg]
  rintro ⟨rfl, rfl, -⟩
  exact hn ⟨rfl, hm⟩
theorem chd.mJ {M M' : g_M} (h : chd M M') : mJ M M' := ⟨h.1, fun t n hn => h.2 t n (by omega)⟩
theorem chv.mJ {M M' : g_M} (h : chv M M') : mJ M M' := ⟨h.1, fun t n hn => h.2 t n (by omega)⟩
theorem m_146go {D : Nat} (hD : 8 ≤ D) {M : g_M} {f g : Nat} {F G : pf_F} {cs vs : Nat → Int} {Q : g_P} (hf : f < 200) (hg : g < 200) (hcF : mF M f F) (hcG : mF M g G) (hwF : pf_wf F) (hwG : pf_wf G) (hF : nsp F) (hG : nsp G)
    (hcs : ∀ a, a < 10 → M.1 0 296 a = cs a) (hvs : ∀ t, t < 8 → M.1 0 295 t = vs t ∧ 0 ≤ vs t ∧ vs t ≤ 9) (hv0 : vs 0 = 0)
    (h1 : ∀ y, y < 32000 → PD F G y → (∀ y', y' < y → ¬ PD F G y') → ∀ (M' : g_M) (vs' : Nat → Int), mJ M M' → (∀ a, a < 10 → M'.1 0 296 a = hc (y / 256) a) → (∀ t, t < 8 → M'.1 0 295 t = vs' t ∧ 0 ≤ vs' t ∧ vs' t ≤ 9) → (∀ t, t < 5 → vs' t = vc (y % 256) t) → Q [.inl 1] M')
    (h0 : (∀ y, y < 32000 → ¬ PD F G y) → ∀ M', mJ M M' → (∀ a, a < 10 → M'.1 0 296 a = cs a) → (∀ t, t < 8 → M'.1 0 295 t = vs t) → Q [.inl 0] M') : g_R D 146 Q 58 [.inr (0, 286), .inl (f : Int), .inl (g : Int), .inl 0] [] M := by
  obtain ⟨D, rfl⟩ := g_dep hD
  have loop228 : (∀ y, y < 32000 → ¬ PD F G y) → ∀ (n a : Nat) (x : Int) (M1 : g_M), a + n = 8 → x = a → mJ M M1 → (∀ a, a < 10 → M1.1 0 296 a = cs a) → (∀ k, k < 8 → M1.1 0 309 k = vs k) → (∀ t, t < a → M1.1 0 295 t = vs t) → g_R (D + 8) 146 Q 228 [.inr (0, 286), .inl (f : Int), .inl (g : Int), .inl x] [] M1 := by
    intro hno n
    induction n with
    | zero =>
      intro a x M1 ha hx hJ k1 k2 k3
      subst hx
      exact rp_146_228 rfl ⟨fun _ => h0 hno M1 hJ k1 (fun t ht => k3 t (by omega)), fun q => by exfalso; omega⟩
    | succ n ih =>
      intro a x M1 ha hx hJ k1 k2 k3
      subst hx
      refine rp_146_228 rfl ⟨fun q => by exfalso; omega, fun _ => ⟨by omega, by unfold hm_in; omega, ?_⟩⟩
      rw [Int.toNat_natCast, k2 a (by omega)]
      refine ih (a + 1) _ _ (by omega) (by omega) (hJ.tr (mJ.uA (by omega))) (fun b hb => by rw [g_uA_at, if_neg (by omega)]; exact k1 b hb) (fun b hb => by rw [g_uA_at, if_neg (by omega)]; exact k2 b hb) (fun t ht => ?_)
      rw [g_uA_at]
      by_cases z : t = a
      · rw [if_pos ⟨rfl, rfl, z⟩, z]
      · rw [if_neg (fun y => z y.2.2)]
        exact k3 t (by omega)
  have loop202 : (∀ y, y < 32000 → ¬ PD F G y) → ∀ (n a : Nat) (x : Int) (M1 : g_M), a + n = 10 → x = a → mJ M M1 → (∀ a, a < 10 → M1.1 0 308 a = cs a) → (∀ k, k < 8 → M1.1 0 309 k = vs k) → (∀ b, b < a → M1.1 0 296 b = cs b) → g_R (D + 8) 146 Q 202 [.inr (0, 286), .inl (f : Int), .inl (g : Int), .inl x] [] M1 := by
    intro hno n
    induction n with
    | zero =>
      intro a x M1 ha hx hJ k1 k2 k3
      subst hx
      exact rp_146_202 rfl ⟨fun _ => loop228 hno 8 0 0 M1 (by omega) rfl hJ (fun b hb => k3 b (by omega)) k2 (fun t ht => by omega), fun q => by exfalso; omega⟩
    | succ n ih =>
      intro a x M1 ha hx hJ k1 k2 k3
      subst hx
      refine rp_146_202 rfl ⟨fun q => by exfalso; omega, fun _ => ⟨by omega, by unfold hm_in; omega, ?_⟩⟩
      rw [Int.toNat_natCast, k1 a (by omega)]
      refine ih (a + 1) _ _ (by omega) (by omega) (hJ.tr (mJ.uA (by omega))) (fun b hb => by rw [g_uA_at, if_neg (by omega)]; exact k1 b hb) (fun b hb => by rw [g_uA_at, if_neg (by omega)]; exact k2 b hb) (fun t ht => ?_)
      rw [g_uA_at]
      by_cases z : t = a
      · rw [if_pos ⟨rfl, rfl, z⟩, z]
      · rw [if_neg (fun y => z y.2.2)]
        exact k3 t (by omega)
  have loop117 : ∀ (n y : Nat) (x : Int) (M1 : g_M), y + n = 32000 → x = y → mJ M M1 → (∀ a, a < 10 → M1.1 0 308 a = cs a) → (∀ k, k < 8 → M1.1 0 309 k = vs k) → (∀ a, a < 10 → a = 0 ∨ 3 < a → M1.1 0 296 a = -1) → (∀ t, t < 8 → t = 0 ∨ 4 < t → M1.1 0 295 t = vs t) → (∀ y', y' < y → ¬ PD F G y') → g_R (D + 8) 146 Q 117 [.inr (0, 286), .inl (f : Int), .inl (g : Int), .inl x] [] M1 := by
    intro n
    induction n with
    | zero =>
      intro y x M1 hy hx hJ k1 k2 k3 k4 hno
      subst hx
      exact rp_146_117 rfl ⟨fun _ => loop202 (fun y' hy' => hno y' (by omega)) 10 0 0 M1 (by omega) rfl hJ k1 k2 (fun b hb => by omega), fun q => by exfalso; omega⟩
    | succ n ih =>
      intro y x M1 hy hx hJ k1 k2 k3 k4 hno
      subst hx
      refine rp_146_117 rfl ⟨fun q => by exfalso; omega, fun _ => ⟨by omega, by unfold hm_in; omega, by omega, by omega, by unfold hm_in; omega, by omega, by omega, by unfold hm_in; omega, ?_⟩⟩
      have hx256 : y % 256 < 256 := by omega
      rw [show (y : Int) % 256 = ((y % 256 : Nat) : Int) by omega]
      have hJ2 : mJ M (g_uA (g_uA (g_uA M1 (0, 296) (1 : Int).toNat ((y : Int) / 6400 - 1)) (0, 296) (2 : Int).toNat ((y : Int) / 1280 % 5 - 1)) (0, 296) (3 : Int).toNat ((y : Int) / 256 % 5 - 1)) := hJ.tr ((mJ.uA (by omega)).tr ((mJ.uA (by omega)).tr (mJ.uA (by omega))))
      refine m_147 (by omega) hx256 (fun M3 c1 c2 => rp_146_176 rfl ?_)
      have hJ3 := hJ2.tr c1.mJ
      have e6 : ∀ a, a < 10 → M3.1 0 296 a = hc (y / 256) a := fun a ha => by
        rw [c1.2 0 296 (by omega), g_uA_at, g_uA_at, g_uA_at]
        show (if 0 = 0 ∧ 296 = 296 ∧ a = 3 then (y : Int) / 256 % 5 - 1 else if 0 = 0 ∧ 296 = 296 ∧ a = 2 then (y : Int) / 1280 % 5 - 1 else if 0 = 0 ∧ 296 = 296 ∧ a = 1 then (y : Int) / 6400 - 1 else M1.1 0 296 a) = _
        simp only [true_and]
        unfold hc
        rcases (show a = 1 ∨ a = 2 ∨ a = 3 ∨ a = 0 ∨ 3 < a by omega) with rfl | rfl | rfl | z
        · first | (simp; omega) | simp
        · first | (simp; omega) | simp
        · first | (simp; omega) | simp
        · rw [if_neg (by omega), if_neg (by omega), if_neg (by omega), if_neg (by omega), if_neg (by omega), if_neg (by omega)]
          exact k3 a ha z
      have r6 : ∀ a, a < 10 → -1 ≤ hc (y / 256) a ∧ hc (y / 256) a ≤ 9 := fun a ha => by
        unfold hc
        split
        · omega
        split
        · omega
        split
        · omega
        omega
      have e5 : ∀ t, t < 8 → M3.1 0 295 t = (if 1 ≤ t ∧ t < 5 then vc (y % 256) t else vs t) := fun t ht => by
        rw [c2 t]
        split
        · rfl
        · rw [g_uA_at, if_neg (by omega), g_uA_at, if_neg (by omega), g_uA_at, if_neg (by omega)]
          exact k4 t ht (by omega)
      have r5 : ∀ t, t < 8 → 0 ≤ (if 1 ≤ t ∧ t < 5 then vc (y % 256) t else vs t) ∧ (if 1 ≤ t ∧ t < 5 then vc (y % 256) t else vs t) ≤ 9 := fun t ht => by
        split
        · exact (vc_sm hx256).2.2.2 t ht
        · exact (hvs t ht).2
      have v5 : ∀ t, t < 5 → (if 1 ≤ t ∧ t < 5 then vc (y % 256) t else vs t) = vc (y % 256) t := fun t ht => by
        split
        · rfl
        · obtain rfl : t = 0 := by omega
          rw [hv0]; rfl
      have hV : mV M3 (hc (y / 256)) (fun t => if 1 ≤ t ∧ t < 5 then vc (y % 256) t else vs t) := ⟨fun a ha => ⟨e6 a ha, r6 a ha⟩, by unfold hc; rfl, fun t ht => ⟨e5 t ht, r5 t ht⟩⟩
      obtain ⟨w, w1, w3⟩ := bits_ex (hc (y / 256))
      have pF : FT (hc (y / 256)) (fun t => if 1 ≤ t ∧ t < 5 then vc (y % 256) t else vs t) F w ↔ FTw (hc (y / 256)) (vc (y % 256)) F := by
        rw [FTw_iff w1 w3]
        exact FT_congr (fun t ht => v5 t (nsp_lt hwF hF ht))
      have pG : FT (hc (y / 256)) (fun t => if 1 ≤ t ∧ t < 5 then vc (y % 256) t else vs t) G w ↔ FTw (hc (y / 256)) (vc (y % 256)) G := by
        rw [FTw_iff w1 w3]
        exact FT_congr (fun t ht => v5 t (nsp_lt hwG hG ht))
      have next : ∀ M4, mJ M3 M4 → (∀ n, n = 295 ∨ n = 296 ∨ n = 308 ∨ n = 309 → M4.1 0 n = M3.1 0 n) → ¬ PD F G y → g_R (D + 8) 146 Q 117 [.inr (0, 286), .inl (f : Int), .inl (g : Int), .inl ((y : Int) + 1)] [] M4 := fun M4 d1 d2 d3 => by
        refine ih (y + 1) _ M4 (by omega) (by omega) (hJ3.tr d1) (fun a ha => ?_) (fun k hk => ?_) (fun a ha ha2 => ?_) (fun t ht ht2 => ?_) (fun y' hy' => ?_)
        · rw [d2 308 (by omega), c1.2 0 308 (by omega), g_uA_at, if_neg (by omega), g_uA_at, if_neg (by omega), g_uA_at, if_neg (by omega)]
          exact k1 a ha
        · rw [d2 309 (by omega), c1.2 0 309 (by omega), g_uA_at, if_neg (by omega), g_uA_at, if_neg (by omega), g_uA_at, if_neg (by omega)]
          exact k2 k hk
        · rw [d2 296 (by omega), e6 a ha]
          unfold hc
          rw [if_neg (by omega), if_neg (by omega), if_neg (by omega)]
        · rw [d2 295 (by omega), e5 t ht, if_neg (by omega)]
        · rcases Nat.lt_or_ge y' y with z | z
          · exact hno y' z
          · obtain rfl : y' = y := by omega
            exact d3
      have kd : ∀ n, 287 ≤ n → n ≤ 294 → M3.1 0 n = M.1 0 n := fun n n1 n2 => hJ3.2 0 n (by omega)
      refine m_113 (by omega) hf (hcF.kd kd) hwF hV w1 w3 (fun hy M4 d1 => rp_146_181 rfl ⟨fun q => by exfalso; omega, fun _ => ?_⟩) (fun hy M4 d1 => rp_146_181 rfl ⟨fun _ => ⟨by unfold hm_in; omega, next M4 d1.mJ (fun n hn => d1.2 0 n (by omega)) (fun z => hy (pF.mpr z.1))⟩, fun q => absurd rfl q⟩)
      refine m_113 (by omega) hg (hcG.kd (fun n n1 n2 => (d1.2 0 n (by omega)).trans (kd n n1 n2))) hwG (hV.kd d1) w1 w3 (fun hy2 M5 d2 => rp_146_189 rfl ⟨fun _ => ⟨by unfold hm_in; omega, next M5 (d1.tr d2).mJ (fun n hn => (d1.tr d2).2 0 n (by omega)) (fun z => z.2 (pG.mp hy2))⟩, fun q => by exfalso; omega⟩) (fun hy2 M5 d2 => rp_146_189 rfl ⟨fun q => absurd rfl q, fun _ => ?_⟩)
      refine h1 y (by omega) ⟨pF.mp hy, fun z => hy2 (pG.mpr z)⟩ hno M5 (fun t => if 1 ≤ t ∧ t < 5 then vc (y % 256) t else vs t) (hJ3.tr (d1.tr d2).mJ) (fun a ha => ?_) (fun t ht => ⟨?_, r5 t ht⟩) v5
      · rw [(d1.tr d2).2 0 296 (by omega)]; exact e6 a ha
      · rw [(d1.tr d2).2 0 295 (by omega)]; exact e5 t ht
  have loop91 : ∀ (n a : Nat) (x : Int) (M1 : g_M), a + n = 8 → x = a → mJ M M1 → (∀ a, a < 10 → M1.1 0 308 a = cs a) → (∀ a, a < 10 → M1.1 0 296 a = -1) → (∀ t, t < 8 → M1.1 0 295 t = vs t) → (∀ k, k < a → M1.1 0 309 k = vs k) → g_R (D + 8) 146 Q 91 [.inr (0, 286), .inl (f : Int), .inl (g : Int), .inl x] [] M1 := by
    intro n
    induction n with
    | zero =>
      intro a x M1 ha hx hJ k1 k2 k3 k4
      subst hx
      exact rp_146_91 rfl ⟨fun _ => loop117 32000 0 0 M1 (by omega) rfl hJ k1 (fun k hk => k4 k (by omega)) (fun b hb _ => k2 b hb) (fun t ht _ => k3 t ht) (fun y' hy' => by omega), fun q => by exfalso; omega⟩
    | succ n ih =>
      intro a x M1 ha hx hJ k1 k2 k3 k4
      subst hx
      refine rp_146_91 rfl ⟨fun q => by exfalso; omega, fun _ => ⟨by omega, by unfold hm_in; omega, ?_⟩⟩
      rw [Int.toNat_natCast, k3 a (by omega)]
      refine ih (a + 1) _ _ (by omega) (by omega) (hJ.tr (mJ.uA (by omega))) (fun b hb => by rw [g_uA_at, if_neg (by omega)]; exact k1 b hb) (fun b hb => by rw [g_uA_at, if_neg (by omega)]; exact k2 b hb) (fun b hb => by rw [g_uA_at, if_neg (by omega)]; exact k3 b hb) (fun t ht => ?_)
      rw [g_uA_at]
      by_cases z : t = a
      · rw [if_pos ⟨rfl, rfl, z⟩, z]
      · rw [if_neg (fun y => z y.2.2)]
        exact k4 t (by omega)
  have loop58 : ∀ (n a : Nat) (x : Int) (M1 : g_M), a + n = 10 → x = a → mJ M M1 → (∀ t, t < 8 → M1.1 0 295 t = vs t) → (∀ b, b < a → M1.1 0 308 b = cs b ∧ M1.1 0 296 b = -1) → (∀ b, a ≤ b → b < 10 → M1.1 0 296 b = cs b) → g_R (D + 8) 146 Q 58 [.inr (0, 286), .inl (f : Int), .inl (g : Int), .inl x] [] M1 := by
    intro n
    induction n with
    | zero =>
      intro a x M1 ha hx hJ k1 k2 k3
      subst hx
      exact rp_146_58 rfl ⟨fun _ => loop91 8 0 0 M1 (by omega) rfl hJ (fun b hb => (k2 b (by omega)).1) (fun b hb => (k2 b (by omega)).2) k1 (fun t ht => by omega), fun q => by exfalso; omega⟩
    | succ n ih =>
      intro a x M1 ha hx hJ k1 k2 k3
      subst hx
      refine rp_146_58 rfl ⟨fun q => by exfalso; omega, fun _ => ⟨by omega, by unfold hm_in; omega, ?_⟩⟩
      rw [Int.toNat_natCast, k3 a (by omega) (by omega)]
      refine ih (a + 1) _ _ (by omega) (by omega) (hJ.tr ((mJ.uA (by omega)).tr (mJ.uA (by omega)))) (fun b hb => by rw [g_uA_at, if_neg (by omega), g_uA_at, if_neg (by omega)]; exact k1 b hb) (fun b hb => ?_) (fun b hb hb2 => ?_)
      · by_cases z : b = a
        · subst z
          refine ⟨?_, ?_⟩
          · rw [g_uA_at, if_neg (by omega), g_uA_at, if_pos ⟨rfl, rfl, rfl⟩]
          · rw [g_uA_at, if_pos ⟨rfl, rfl, rfl⟩]
        · refine ⟨?_, ?_⟩
          · rw [g_uA_at, if_neg (by omega), g_uA_at, if_neg (fun y => z y.2.2)]
            exact (k2 b (by omega)).1
          · rw [g_uA_at, if_neg (fun y => z y.2.2), g_uA_at, if_neg (by omega)]
            exact (k2 b (by omega)).2
      · rw [g_uA_at, if_neg (by omega), g_uA_at, if_neg (by omega)]
        exact k3 b (by omega) hb2
  exact loop58 10 0 0 M (by omega) rfl mJ.rf (fun t ht => (hvs t ht).1) (fun b hb => by omega) (fun b _ hb => hcs b hb)
theorem c_87 {D : Nat} (hD : 3 ≤ D) {M : g_M} {cs vs : Nat → Int} {Q : g_P} (hm : cMem M 1 cs vs) (h : ∀ M', chm 0 M M' → cMem M' 0 cs vs → Q [] M') : g_Ev D 87 [.inr (4, 0), .inr (4, 1)] M Q := by
  obtain ⟨D, rfl⟩ := g_dep hD
  obtain ⟨h1, ⟨w, h2, h3, h4⟩, h5, h6, h7⟩ := hm
  refine g_enter hk_87 hn_87 (rp_87_0 rfl (h _ ⟨rfl, fun t n hn => ?_⟩ ⟨fun a ha => ?_, ⟨w, h2, ?_, h4⟩, fun t ht => ?_, h6, h7⟩))
  · funext i
    rw [g_uA_at, if_neg, g_cp_at, if_neg, g_cp_at, if_neg]
    · rintro ⟨rfl, rfl, -⟩; exact hn ⟨by simp, rfl⟩
    · rintro ⟨rfl, rfl, -⟩; exact hn ⟨by simp, rfl⟩
    · rintro ⟨rfl, rfl, -⟩; exact hn ⟨by simp, rfl⟩
  · have := h1 a ha
    simp [g_uA_at, g_cp_at, ha, this]
  · simp [g_uA_at, h3]
  · have := h5 t ht
    simp [g_uA_at, g_cp_at, ht, this]

/-! differ: the small memories in their order -/
def hc (h a : Nat) : Int := if a = 1 then ((h / 25 : Nat) : Int) - 1 else if a = 2 then ((h / 5 % 5 : Nat) : Int) - 1 else if a = 3 then ((h % 5 : Nat) : Int) - 1 else -1
def vc (x k : Nat) : Int := if k = 1 then ((x / 64 : Nat) : Int) else if k = 2 then ((x / 16 % 4 : Nat) : Int) else if k = 3 then ((x / 4 % 4 : Nat) : Int) else if k = 4 then ((x % 4 : Nat) : Int) else 0
def FTw (cs v : Nat → Int) (F : pf_F) : Prop := ∃ w, w < 1024 ∧ (∀ a, a < 10 → w.testBit a = decide (0 ≤ cs a)) ∧ FT cs v F w
theorem bits_eq {w w' : Nat} {cs : Nat → Int} (h1 : w < 1024) (h2 : ∀ a, a < 10 → w.testBit a = decide (0 ≤ cs a)) (h1' : w' < 1024) (h2' : ∀ a, a < 10 → w'.testBit a = decide (0 ≤ cs a)) : w = w' := by
  apply Nat.eq_of_testBit_eq
  intro i
  by_cases z : i < 10
  · rw [h2 i z, h2' i z]
  · rw [Nat.testBit_lt_two_pow (Nat.lt_of_lt_of_le h1 (Nat.pow_le_pow_right (n := 2) (by omega) (show 10 ≤ i by omega))), Nat.testBit_lt_two_pow (Nat.lt_of_lt_of_le h1' (Nat.pow_le_pow_right (n := 2) (by omega) (show 10 ≤ i by omega)))]
theorem FTw_iff {w : Nat} {cs v : Nat → Int} {F : pf_F} (h1 : w < 1024) (h2 : ∀ a, a < 10 → w.testBit a = decide (0 ≤ cs a)) : FTw cs v F ↔ FT cs v F w := by
  constructor
  · rintro ⟨w', k1, k2, k3⟩
    rw [bits_eq h1 h2 k1 k2]
    exact k3
  · exact fun h => ⟨w, h1, h2, h⟩
def PD (F G : pf_F) (y : Nat) : Prop := FTw (hc (y / 256)) (vc (y % 256)) F ∧ ¬ FTw (hc (y / 256)) (vc (y % 256)) G
theorem vc_sm {x : Nat} (hx : x < 256) : sm 1 (vc x) ∧ vc x 0 = 0 ∧ num (vc x) = x ∧ vr (vc x) := by
  have r : ∀ j, 0 ≤ vc x j ∧ vc x j ≤ 3 := fun j => by
    unfold vc
    split
    · omega
    split
    · omega
    split
    · omega
    split
    · omega
    omega
  refine ⟨fun j _ _ => r j, rfl, ?_, fun j _ => by have := r j; omega⟩
  show 64 * ((x / 64 : Nat) : Int) + 16 * ((x / 16 % 4 : Nat) : Int) + 4 * ((x / 4 % 4 : Nat) : Int) + ((x % 4 : Nat) : Int) = x
  omega
theorem vc_num {v : Nat → Int} (h : sm 1 v) (h0 : v 0 = 0) : ∃ x : Nat, x < 256 ∧ num v = (x : Int) ∧ ∀ j, j < 5 → v j = vc x j := by
  have a1 := h 1 (by omega) (by omega)
  have a2 := h 2 (by omega) (by omega)
  have a3 := h 3 (by omega) (by omega)
  have a4 := h 4 (by omega) (by omega)
  refine ⟨(num v).toNat, ?_, ?_, fun j hj => ?_⟩
  · unfold num; omega
  · unfold num; omega
  · rcases (show j = 0 ∨ j = 1 ∨ j = 2 ∨ j = 3 ∨ j = 4 by omega) with rfl | rfl | rfl | rfl | rfl
    · exact h0
    · show v 1 = (((num v).toNat / 64 : Nat) : Int); unfold num; omega
    · show v 2 = (((num v).toNat / 16 % 4 : Nat) : Int); unfold num; omega
    · show v 3 = (((num v).toNat / 4 % 4 : Nat) : Int); unfold num; omega
    · show v 4 = (((num v).toNat % 4 : Nat) : Int); unfold num; omega
def chg (M M' : g_M) : Prop := M'.2 = M.2 ∧ ∀ t n, ¬ (((t = 7 ∨ t = 10 ∨ t = 11) ∧ (n = 3 ∨ n = 4)) ∨ ((t = 4 ∨ t = 5 ∨ t = 6) ∧ n = 1)) → M'.1 t n = M.1 t n
theorem chg.rf {M : g_M} : chg M M := ⟨rfl, fun _ _ _ => rfl⟩
theorem chg.tr {M M' M'' : g_M} (h : chg M M') (h' : chg M' M'') : chg M M'' := ⟨h'.1.trans h.1, fun t n hn => (h'.2 t n hn).trans (h.2 t n hn)⟩
theorem chm.chg {M M' : g_M} (h : chm 1 M M') : chg M M' := ⟨h.1, fun t n hn => h.2 t n (fun z => hn (Or.inr z))⟩
theorem chp.chg {i : Nat} {M M' : g_M} (h : chp i M M') (hi : i = 3 ∨ i = 4) : chg M M' := ⟨h.1, fun t n hn => h.2 t n (fun z => hn (Or.inl ⟨z.1, by omega⟩))⟩
theorem cF.kg {M M' : g_M} {f : Nat} {F : pf_F} (h : cF M f F) (hc : chg M M') : cF M' f F := by
  have e : ∀ t, t = 1 ∨ t = 2 ∨ t = 3 → M'.1 t f = M.1 t f := fun t ht => hc.2 t f (by omega)
  unfold cF at h ⊢
  rw [e 1 (by omega), e 2 (by omega), e 3 (by omega)]
  exact h
theorem cP.kpp {M M' : g_M} {i P : Nat} {F : pf_F} (h : cP M P F) (hc : chp i M M') (hi : P ≠ i) : cP M' P F := by
  have e : ∀ t, M'.1 t P = M.1 t P := fun t => hc.2 t P (fun z => hi z.2)
  unfold cP cA
  rw [e 7, e 10, e 11]
  exact h
theorem cMem.kpp {M M' : g_M} {i k : Nat} {cs vs : Nat → Int} (h : cMem M k cs vs) (hc : chp i M M') : cMem M' k cs vs := by
  have e : ∀ t, t = 4 ∨ t = 5 ∨ t = 6 → M'.1 t k = M.1 t k := fun t ht => hc.2 t k (by omega)
  unfold cMem
  rw [e 4 (by omega), e 5 (by omega), e 6 (by omega)]
  exact h
theorem cMem.cg {M : g_M} {k : Nat} {cs cs' vs : Nat → Int} (h : cMem M k cs vs) (hc : ∀ a, a < 10 → cs a = cs' a) : cMem M k cs' vs := by
  obtain ⟨h1, ⟨w, h2, h3, h4⟩, h5, h6, h7⟩ := h
  refine ⟨fun a ha => by rw [← hc a ha]; exact h1 a ha, ⟨w, h2, h3, fun a ha => by rw [← hc a ha]; exact h4 a ha⟩, h5, by rw [← hc 0 (by omega)]; exact h6, h7⟩
theorem g_pop_eq {w : Nat} : g_pop (w : Int) = (pop w : Nat) := by
  unfold g_pop pop
  rw [Int.toNat_natCast]
theorem c_84 {D : Nat} (hD : 22 ≤ D) {M : g_M} {f g : Nat} {F G : pf_F} {cs0 vs0 : Nat → Int} {Q : g_P} (hcF : cF M f F) (hcG : cF M g G) (hwF : pf_wf F) (hwG : pf_wf G) (hF : nsp F) (hG : nsp G) (hm0 : cMem M 1 cs0 vs0) (hl0 : ∀ a, 3 < a → a < 10 → cs0 a = -1)
    (h1 : ∀ y, y < 32000 → PD F G y → (∀ y', y' < y → ¬ PD F G y') → ∀ M' vs', chg M M' → cMem M' 1 (hc (y / 256)) vs' → (∀ t, t < 5 → vs' t = vc (y % 256) t) → Q [.inl 1] M')
    (h0 : (∀ y, y < 32000 → ¬ PD F G y) → ∀ M' cs' vs', chg M M' → cMem M' 1 cs' vs' → (∀ a, 3 < a → a < 10 → cs' a = -1) → Q [.inl 0] M') : g_Ev D 84 [.inr (0, 60), .inr (1, f), .inr (1, g)] M Q := by
  obtain ⟨D, rfl⟩ := g_dep hD
  refine g_enter hk_84 hn_84 (rp_84_0 rfl (c_39 (by omega) hcF hwF (fun M1 g1 g2 => rp_84_8 rfl (c_39 (by omega) (hcG.keepc g1) hwG (fun M2 g3 g4 => rp_84_16 rfl ?_)))))
  have hP3 : cP M2 3 F := g2.kpp g3 (by omega)
  have hM2 : chg M M2 := (g1.chg (by omega)).tr (g3.chg (by omega))
  have hm2 : cMem M2 1 cs0 vs0 := (hm0.kpp g1).kpp g3
  have loop : ∀ (n h : Nat) (x : Int) (cs vs : Nat → Int) (M3 : g_M), h + n = 125 → x = h → chm 1 M2 M3 → cMem M3 1 cs vs → (∀ a, 3 < a → a < 10 → cs a = -1) → (∀ y, y < 256 * h → ¬ PD F G y) → g_R (D + 22) 84 Q 18 [.inr (0, 60), .inr (1, f), .inr (1, g), .inl x] [] M3 := by
    intro n
    induction n with
    | zero =>
      intro h x cs vs M3 hh hx hch hm hl hno
      subst hx
      exact rp_84_18 rfl ⟨fun _ => h0 (fun y hy => hno y (by omega)) M3 cs vs (hM2.tr hch.chg) hm hl, fun q => by exfalso; omega⟩
    | succ n ih =>
      intro h x cs vs M3 hh hx hch hm hl hno
      subst hx
      refine rp_84_18 rfl ⟨fun q => by exfalso; omega, fun _ => ⟨by omega, by unfold hm_in; omega, ?_⟩⟩
      refine c_33 (a := 1) (by omega) hm (by omega) (by omega) (fun M4 k1 k2 => rp_84_38 rfl ⟨by omega, by omega, by unfold hm_in; omega, ?_⟩)
      refine c_33 (a := 2) (by omega) k2 (by omega) (by omega) (fun M5 k3 k4 => rp_84_53 rfl ⟨by omega, by unfold hm_in; omega, ?_⟩)
      refine c_33 (a := 3) (by omega) k4 (by omega) (by omega) (fun M6 k5 k6 => rp_84_66 rfl ?_)
      have hm6 : cMem M6 1 (hc h) vs := k6.cg (fun a ha => by
        rw [va_up_at, va_up_at, va_up_at]
        unfold hc
        rcases (show a = 0 ∨ a = 1 ∨ a = 2 ∨ a = 3 ∨ 3 < a by omega) with rfl | rfl | rfl | rfl | z
        · exact hm.2.2.2.1
        · simp; omega
        · simp; omega
        · simp; omega
        · rw [if_neg (by omega), if_neg (by omega), if_neg (by omega), if_neg (by omega), if_neg (by omega), if_neg (by omega)]
          exact hl a z ha)
      have hch6 : chm 1 M2 M6 := hch.tr (k1.tr (k3.tr k5))
      have hl6 : ∀ a, 3 < a → a < 10 → hc h a = -1 := fun a a1 a2 => by unfold hc; rw [if_neg (by omega), if_neg (by omega), if_neg (by omega)]
      have hP3' := hP3.keep hch6
      have hP4' := g4.keep hch6
      obtain ⟨w, w1, w2, w3⟩ := hm6.2.1
      have v00 : vs 0 = 0 := hm6.2.2.2.2
      have hcr : ∀ a, a < 10 → hc h a ≤ 9 := fun a ha => (hm6.1 a ha).2.2
      have next : ∀ (M7 : g_M) (vs7 : Nat → Int), chm 1 M2 M7 → cMem M7 1 (hc h) vs7 → (∀ x, x < 256 → ¬ PD F G (256 * h + x)) → g_R (D + 22) 84 Q 18 [.inr (0, 60), .inr (1, f), .inr (1, g), .inl ((h : Int) + 1)] [] M7 := fun M7 vs7 y1 y2 y3 => ih (h + 1) _ (hc h) vs7 M7 (by omega) (by omega) y1 y2 hl6 (fun y hy => by
        rcases Nat.lt_or_ge y (256 * h) with z | z
        · exact hno y z
        · have := y3 (y - 256 * h) (by omega)
          rw [show 256 * h + (y - 256 * h) = y by omega] at this
          exact this)
      have pd : ∀ x, x < 256 → (PD F G (256 * h + x) ↔ FT (hc h) (vc x) F w ∧ ¬ FT (hc h) (vc x) G w) := fun x hx => by
        unfold PD
        rw [show (256 * h + x) / 256 = h by omega, show (256 * h + x) % 256 = x by omega, FTw_iff w1 w3, FTw_iff w1 w3]
      have spl : ∀ v, v 0 = 0 → ((FT (hc h) v F w ∧ ¬ FT (hc h) v G w) ↔ ∃ u, dl (hc h) vs (lv F 0) (some 0) = some u ∧ Gd (hc h) F G w 1 v u) := fun v hv => by
        rw [← Gd_split (by omega) (fun j hj => by obtain rfl : j = 0 := by omega
                                                  rw [hv, v00])]
        unfold Gd
        rw [lu_0, dl_perm (lw_perm hwF)]
        rfl
      refine c_45 (t := 0) (k := 0) (by omega) hm6 hwF hP3' (by omega) (by omega) (rp_84_79 rfl ?_)
      refine ⟨fun q => ⟨by unfold hm_in; omega, next M6 vs hch6 hm6 (fun x hx hp => ?_)⟩, fun q => ?_⟩
      · obtain ⟨u, hu, _⟩ := (spl (vc x) rfl).mp ((pd x hx).mp hp)
        rw [en_none q] at hu
        cases hu
      · rw [w2, g_pop_eq]
        refine ⟨by omega, ?_⟩
        refine c_85 (by omega) (hcF.kg (hM2.tr hch6.chg)) hwF (fun hct => rp_84_101 rfl ⟨fun q => by exfalso; omega, fun _ => ?_⟩) (fun hct => rp_84_101 rfl ⟨fun _ => ⟨by unfold hm_in; omega, next M6 vs hch6 hm6 (fun x hx hp => ?_)⟩, fun q => absurd rfl q⟩)
        · cases hd : dl (hc h) vs (lv F 0) (some 0) with
          | none => rw [hd] at q; exact absurd rfl q
          | some u =>
            have hu := dl_lt hcr (fun j hj => (hm6.2.2.1 j hj).2) (fun p hp => it_mem hwF p (lv_mem hp).1) (by omega) hd
            have hsu : suF (D + 21) w F G (hc h) 1 := c_86 hwF hwG hF hG 4 1 (by omega) (by omega) (by omega)
            refine hsu hm6 w2 hP3' hP4' hu (fun M7 vs7 y1 y2 y3 y4 y5 y6 => rp_84_111 rfl ⟨fun q => by exfalso; omega, fun _ => ?_⟩) (fun hn M7 vs7 y1 y2 y3 => rp_84_111 rfl ⟨fun _ => ⟨by unfold hm_in; omega, next M7 vs7 (hch6.tr y1) y2 (fun x hx hp => ?_)⟩, fun q => absurd rfl q⟩)
            · have hv0 : vs7 0 = 0 := (y3 0 (by omega)).trans v00
              obtain ⟨x, hx, hxn, hxv⟩ := vc_num y4 hv0
              have cgF : FT (hc h) vs7 F w ↔ FT (hc h) (vc x) F w := FT_congr (fun t ht => hxv t (nsp_lt hwF hF ht))
              have cgG : FT (hc h) vs7 G w ↔ FT (hc h) (vc x) G w := FT_congr (fun t ht => hxv t (nsp_lt hwG hG ht))
              have hp : PD F G (256 * h + x) := (pd x hx).mpr (by rw [← cgF, ← cgG]; exact (spl vs7 hv0).mpr ⟨u, hd, y5⟩)
              refine h1 (256 * h + x) (by omega) hp (fun y' hy' hp' => ?_) M7 vs7 (hM2.tr (hch6.tr y1).chg) (by rw [show (256 * h + x) / 256 = h by omega]; exact y2) (by rw [show (256 * h + x) % 256 = x by omega]; exact hxv)
              rcases Nat.lt_or_ge y' (256 * h) with z | z
              · exact hno y' z hp'
              · have hx' : y' - 256 * h < 256 := by omega
                rw [show y' = 256 * h + (y' - 256 * h) by omega] at hp'
                have hv := vc_sm hx'
                obtain ⟨u', hu', hg'⟩ := (spl _ hv.2.1).mp ((pd _ hx').mp hp')
                rw [hd] at hu'
                cases hu'
                have := y6 (vc (y' - 256 * h)) (fun j hj => by obtain rfl : j = 0 := by omega
                                                               rw [hv.2.1, v00]) hv.1 hg'
                rw [hv.2.2.1] at this
                omega
            · have hv := vc_sm hx
              obtain ⟨u', hu', hg'⟩ := (spl _ hv.2.1).mp ((pd x hx).mp hp)
              rw [hd] at hu'
              cases hu'
              exact hn (vc x) (fun j hj => by obtain rfl : j = 0 := by omega
                                              rw [hv.2.1, v00]) hv.1 hg'
        · exact hct (FT_ctk hwF hcr (vc_sm hx).2.2.2 ((pd x hx).mp hp).1)
  exact loop 125 0 0 cs0 vs0 M2 (by omega) rfl chm.rf hm2 hl0 (fun y hy => by omega)

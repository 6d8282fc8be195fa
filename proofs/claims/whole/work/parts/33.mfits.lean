/-! fits, the reference's -/
def FT (cs vs : Nat → Int) (F : pf_F) (w : Nat) : Prop := dl cs vs (it F) (some 0) = some w
def pop (t : Nat) : Nat := ((List.range 10).filter (fun i => t.testBit i)).length
theorem pop_ck : (List.range 1024).all (fun t => (List.range 10).all (fun a => t.testBit a || decide (pop (t ||| 2 ^ a) = pop t + 1))) = true := by decide +kernel
theorem pop_zero : pop 0 = 0 := by decide
theorem pop_add {t a : Nat} (ht : t < 1024) (ha : a < 10) (h : t.testBit a = false) : pop (t ||| 2 ^ a) = pop t + 1 := by
  have h1 := List.all_eq_true.mp pop_ck t (List.mem_range.mpr ht)
  have h2 := List.all_eq_true.mp h1 a (List.mem_range.mpr ha)
  rw [h] at h2
  simpa using h2
theorem pop_sub {t w : Nat} (h : sb t w) : ((List.range 10).filter (fun i => t.testBit i)).Sublist ((List.range 10).filter (fun i => w.testBit i)) := by
  have e : (List.range 10).filter (fun i => t.testBit i) = ((List.range 10).filter (fun i => w.testBit i)).filter (fun i => t.testBit i) := by
    rw [List.filter_filter]
    refine List.filter_congr (fun i hi => ?_)
    cases z : t.testBit i
    · rfl
    · rw [h i z]; rfl
  rw [e]
  exact List.filter_sublist
theorem pop_le {t w : Nat} (h : sb t w) : pop t ≤ pop w := (pop_sub h).length_le
theorem pop_eq {t w : Nat} (ht : t < 1024) (hw : w < 1024) (h : sb t w) (e : pop t = pop w) : t = w := by
  have e2 := (pop_sub h).eq_of_length e
  apply Nat.eq_of_testBit_eq
  intro i
  by_cases z : i < 10
  · have h3 : i ∈ (List.range 10).filter (fun i => t.testBit i) ↔ i ∈ (List.range 10).filter (fun i => w.testBit i) := by rw [e2]
    rw [List.mem_filter, List.mem_filter] at h3
    simp only [List.mem_range, z, true_and] at h3
    cases h1 : t.testBit i <;> cases h2 : w.testBit i <;> simp_all
  · rw [Nat.testBit_lt_two_pow (Nat.lt_of_lt_of_le ht (Nat.pow_le_pow_right (n := 2) (by omega) (show 10 ≤ i by omega))), Nat.testBit_lt_two_pow (Nat.lt_of_lt_of_le hw (Nat.pow_le_pow_right (n := 2) (by omega) (show 10 ≤ i by omega)))]
theorem pop_held {w : Nat} {cs : Nat → Int} (h : ∀ a, a < 10 → w.testBit a = decide (0 ≤ cs a)) : ((List.range 10).filter (fun i => decide (0 ≤ cs i))).length = pop w := by
  unfold pop
  congr 1
  exact List.filter_congr (fun a ha => (h a (List.mem_range.mp ha)).symm)
def chd (M M' : g_M) : Prop := M'.2 = M.2 ∧ ∀ t n, ¬ (t = 0 ∧ n = 297) → M'.1 t n = M.1 t n
theorem chd.rf {M : g_M} : chd M M := ⟨rfl, fun _ _ _ => rfl⟩
theorem chd.tr {M M' M'' : g_M} (h : chd M M') (h' : chd M' M'') : chd M M'' := ⟨h'.1.trans h.1, fun t n hn => (h'.2 t n hn).trans (h.2 t n hn)⟩
theorem chd.uA {k : Nat} {v : Int} {M : g_M} : chd M (g_uA M (0, 297) k v) := by
  refine ⟨rfl, fun t' n hn => ?_⟩
  funext i
  rw [g_uA_at, if_neg]
  rintro ⟨rfl, rfl, -⟩
  exact hn ⟨rfl, rfl⟩
theorem mF.kd {M M' : g_M} {g : Nat} {F : pf_F} (h : mF M g F) (hc : ∀ n, 287 ≤ n → n ≤ 294 → M'.1 0 n = M.1 0 n) : mF M' g F := by
  unfold mF
  rw [hc 287 (by omega) (by omega), hc 288 (by omega) (by omega), hc 289 (by omega) (by omega), hc 290 (by omega) (by omega), hc 291 (by omega) (by omega), hc 292 (by omega) (by omega), hc 293 (by omega) (by omega), hc 294 (by omega) (by omega)]
  exact h
/-- what the reference sees of a memory -/
def mV (M : g_M) (cs vs : Nat → Int) : Prop := (∀ a, a < 10 → M.1 0 296 a = cs a ∧ -1 ≤ cs a ∧ cs a ≤ 9) ∧ cs 0 = -1 ∧ ∀ t, t < 8 → M.1 0 295 t = vs t ∧ 0 ≤ vs t ∧ vs t ≤ 9
theorem mV.kd {M M' : g_M} {cs vs : Nat → Int} (h : mV M cs vs) (hc : chd M M') : mV M' cs vs := by
  unfold mV
  rw [hc.2 0 296 (by omega), hc.2 0 295 (by omega)]
  exact h
def mD (M : g_M) (t : Nat) : Prop := ∀ a, a < 10 → M.1 0 297 a = if t.testBit a = true then 1 else 0
section SU
variable {D : Nat} {M : g_M} {g w : Nat} {F : pf_F} {cs vs : Nat → Int} {Q : g_P}
theorem m_113row (hw3 : ∀ a, a < 10 → w.testBit a = decide (0 ≤ cs a)) {z k : Nat} (hz : z < 10) (hk : k < 10) (hwl : w < 1024) : ∀ (m a t : Nat) (x y : Int) (M1 : g_M), chd M M1 → mV M1 cs vs → mD M1 t → sb t w → t < 1024 → pop w + 1 ≤ pop t + m → a ≠ z → a < 10 → x = a → y = (pop t : Nat) →
    (∀ t' M2, wk cs z m a t = some t' → chd M M2 → mV M2 cs vs → mD M2 t' → sb t' w → t' < 1024 → g_R (D + 3) 113 Q 107 [.inr (0, 286), .inl (g : Int), .inl (pop t' : Nat), .inl ((k + 1 : Nat) : Int)] [] M2) → (wk cs z m a t = none → ∀ M2, chd M M2 → Q [.inl 0] M2) → g_R (D + 3) 113 Q 192 [.inr (0, 286), .inl (g : Int), .inl y, .inl (k : Int), .inl x, .inl (z : Int), .inl 0, .inl 1] [] M1 := by
  intro m
  induction m with
  | zero =>
    intro a t x y M1 hch hv hd hs ht hp
    have := pop_le hs
    omega
  | succ m ih =>
    intro a t x y M1 hch hv hd hs ht hp haz ha hx hy hK hN
    subst hx hy
    have hpl := pop_le hs
    have hpw : pop w ≤ 10 := by
      have := List.length_filter_le (fun i => w.testBit i) (List.range 10)
      simpa [pop] using this
    have r := hv.1 a ha
    have h0 := hv.2.1
    unfold wk at hK hN
    rw [if_neg haz] at hK hN
    refine rp_113_192 rfl ⟨fun q => by exfalso; omega, fun _ => ⟨fun q => ?_, fun q => ⟨by omega, ?_⟩⟩⟩
    · obtain rfl : a = 0 := by omega
      exact hN (if_neg (fun z => by omega)) M1 hch
    · rw [Int.toNat_natCast, r.1, hd a ha]
      refine ⟨fun q => hN (if_neg (fun z => by omega)) M1 hch, fun q => ⟨fun q2 => ?_, fun q2 => ?_⟩⟩
      · have hta : t.testBit a = false := by
          cases z : t.testBit a
          · rfl
          · rw [z] at q2; simp at q2
        rw [if_pos ⟨q, hta⟩] at hK hN
        have hpa := pop_add ht ha hta
        have ht' : t ||| 2 ^ a < 1024 := Nat.or_lt_two_pow (n := 10) ht (pb_pow10 ha)
        have hs' : sb (t ||| 2 ^ a) w := fun i hi => by
          rw [Nat.testBit_or, pb_bit] at hi
          by_cases z : a = i
          · subst z; rw [hw3 a ha]; simpa using q
          · exact hs i (by simpa [z] using hi)
        have hd' : mD (g_uA M1 (0, 297) a 1) (t ||| 2 ^ a) := fun b hb => by
          rw [g_uA_at, Nat.testBit_or, pb_bit]
          by_cases z : b = a
          · subst z; simp
          · have : ¬ a = b := fun y => z y.symm
            simp [z, this, hd b hb]
        have hv' := hv.kd (chd.uA (k := a) (v := 1))
        have hch' := hch.tr (chd.uA (k := a) (v := 1))
        refine ⟨by omega, by unfold hm_in; omega, fun q => by exfalso; omega, fun _ => ⟨fun q3 => ?_, fun q3 => ?_⟩⟩
        · refine rp_113_192 rfl ⟨fun _ => ⟨fun _ => ⟨by unfold hm_in; omega, ?_⟩, fun q => absurd q3 q⟩, fun q => by exfalso; omega⟩
          have hwk : wk cs z m (cs a).toNat (t ||| 2 ^ a) = some (t ||| 2 ^ a) := by
            cases m <;> (unfold wk; rw [if_pos (by omega)])
          have := hK _ _ hwk hch' hv' hd' hs' ht'
          rw [hpa] at this
          exact this
        · exact ih (cs a).toNat (t ||| 2 ^ a) _ _ _ hch' hv' hd' hs' ht' (by omega) (by omega) (by omega) (by omega) (by omega) hK hN
      · refine hN (if_neg (fun z => ?_)) M1 hch
        rw [z.2] at q2
        simp at q2
theorem m_113 (hD : 4 ≤ D) (hg : g < 200) (hc : mF M g F) (hw : pf_wf F) (hv : mV M cs vs) (hwl : w < 1024) (hw3 : ∀ a, a < 10 → w.testBit a = decide (0 ≤ cs a))
    (h1 : FT cs vs F w → ∀ M', chd M M' → Q [.inl 1] M') (h0 : ¬ FT cs vs F w → ∀ M', chd M M' → Q [.inl 0] M') : g_Ev D 113 [.inr (0, 286), .inl (g : Int)] M Q := by
  obtain ⟨D, rfl⟩ := g_dep hD
  have l1 := hw.1
  have l2 := hw.2.1
  have hpw : pop w ≤ 10 := by
    have := List.length_filter_le (fun i => w.testBit i) (List.range 10)
    simpa [pop] using this
  have e0 : ((g : Int)).toNat = g := by omega
  have loop3 : ∀ (n k t : Nat) (x y : Int) (M1 : g_M), k + n = F.2.length → x = k → y = (pop t : Nat) → chd M M1 → mD M1 t → sb t w → t < 1024 → dl cs vs (it F) (some 0) = dl cs vs ((F.2.drop k).map pq) (some t) → g_R (D + 4) 113 Q 107 [.inr (0, 286), .inl (g : Int), .inl y, .inl x] [] M1 := by
    intro n
    induction n with
    | zero =>
      intro k t x y M1 hk hx hy hch hd hs ht hE
      subst hx hy
      have hc1 := hc.kd (fun n h1 h2 => hch.2 0 n (by omega))
      have hv1 := hv.kd hch
      have hpl := pop_le hs
      rw [List.drop_eq_nil_of_le (by omega)] at hE
      refine rp_113_107 rfl ⟨by omega, fun _ => ?_, fun q => by rw [e0, hc1.2.1] at q; exfalso; omega⟩
      refine m_109 (by omega) (fun a ha => (hv1.1 a ha).1) hv1.2.1 (rp_113_286 rfl ?_)
      rw [pop_held hw3]
      refine ⟨fun q => h0 ?_ M1 hch, fun q => h1 ?_ M1 hch⟩
      · unfold FT
        rw [hE]
        intro z
        have z : t = w := Option.some.inj z
        rw [z] at q
        exact q rfl
      · unfold FT
        rw [hE, pop_eq ht hwl hs (by omega)]
        rfl
    | succ n ih =>
      intro k t x y M1 hk hx hy hch hd hs ht hE
      subst hx hy
      have hc1 := hc.kd (fun n h1 h2 => hch.2 0 n (by omega))
      have hv1 := hv.kd hch
      have hpl := pop_le hs
      have hlt : k < F.2.length := by omega
      have hat := List.getElem?_eq_getElem hlt
      have ok := hw.2.2.2 _ (List.getElem_mem hlt)
      have r := hc1.2.2.2 k _ hat
      rw [List.drop_eq_getElem_cons hlt, List.map_cons, dl_cons] at hE
      generalize hp : F.2[k] = p at hE r ok
      obtain ⟨a, ha, ea⟩ := g_natof (N := 10) ⟨(hv.2.2 _ ok.2.1).2.1, by have := (hv.2.2 _ ok.2.1).2.2; omega⟩
      obtain ⟨z, hz, ez⟩ := g_natof (N := 10) ⟨(hv.2.2 _ ok.2.2).2.1, by have := (hv.2.2 _ ok.2.2).2.2; omega⟩
      have hno : d1 cs vs (pq p) t = none → ¬ FT cs vs F w := fun hd => by
        unfold FT
        rw [hE, hd, dl_none]
        exact fun z => by cases z
      refine rp_113_107 rfl ?_
      rw [e0, hc1.2.1, show (10 * (g : Int) + (k : Int)).toNat = 10 * g + k by omega, r.1, r.2.1, r.2.2, Int.toNat_natCast, Int.toNat_natCast, (hv1.2.2 _ ok.2.1).1, (hv1.2.2 _ ok.2.2).1, ea, ez]
      have o1 := ok.1
      have o2 := ok.2.1
      have o3 := ok.2.2
      refine ⟨by omega, fun q => by exfalso; omega, fun _ => ⟨by unfold hm_in; omega, by unfold hm_in; omega, by omega, by omega, by omega, fun q => ⟨fun q2 => ?_, fun q2 => ⟨by unfold hm_in; omega, ?_⟩⟩, fun q => ?_⟩⟩
      · have ed : d1 cs vs (pq p) t = wk cs z 10 a t := by
          unfold d1 pq
          dsimp only
          rw [if_neg (by omega), if_neg (by omega), if_neg (by omega), ea, ez, Int.toNat_natCast, Int.toNat_natCast]
        have hp9 : pop w + 1 ≤ pop t + 10 := by
          have h0w : w.testBit 0 = false := by rw [hw3 0 (by omega), hv.2.1]; rfl
          have := pop_add hwl (show 0 < 10 by omega) h0w
          have h2 := List.length_filter_le (fun i => (w ||| 2 ^ 0).testBit i) (List.range 10)
          have h3 : pop (w ||| 2 ^ 0) ≤ 10 := by simpa [pop] using h2
          omega
        refine m_113row (D := D + 1) hw3 hz (by omega) hwl 10 a t _ _ M1 hch hv1 hd hs ht hp9 (by omega) ha rfl rfl (fun t' M2 hwk c1 c2 c3 c4 c5 => ?_) (fun hn M2 c1 => h0 (hno (by rw [ed]; exact hn)) M2 c1)
        exact ih (k + 1) t' _ _ M2 (by omega) rfl rfl c1 c3 c4 c5 (by rw [hE, ed, hwk])
      · have ed : d1 cs vs (pq p) t = some t := by
          unfold d1 pq
          dsimp only
          rw [if_neg (by omega), if_neg (by omega), if_neg (by omega), ea, ez, Int.toNat_natCast, Int.toNat_natCast]
          unfold wk
          rw [if_pos (by omega)]
        exact ih (k + 1) t _ _ M1 (by omega) (by omega) rfl hch hd hs ht (by rw [hE, ed])
      · have ed : d1 cs vs (pq p) t = if 0 ≤ cs a ∧ t.testBit a = false ∧ cs a = (z : Int) then some (t ||| 2 ^ a) else none := by
          unfold d1 pq
          dsimp only
          rw [if_neg (by omega), if_neg (by omega), if_pos (by omega), ea, ez, Int.toNat_natCast]
        have ra := hv1.1 a ha
        have hz0 := hv.2.1
        refine rp_113_192 rfl ⟨fun q => by exfalso; omega, fun _ => ⟨fun q => ?_, fun q => ⟨by omega, ?_⟩⟩⟩
        · obtain rfl : a = 0 := by omega
          exact h0 (hno (by rw [ed, if_neg (fun z => by omega)])) M1 hch
        · rw [Int.toNat_natCast, ra.1, hd a ha]
          refine ⟨fun q => h0 (hno (by rw [ed, if_neg (fun z => by omega)])) M1 hch, fun q => ⟨fun q2 => ?_, fun q2 => ?_⟩⟩
          · have hta : t.testBit a = false := by
              cases z : t.testBit a
              · rfl
              · rw [z] at q2; simp at q2
            have hpa := pop_add ht ha hta
            have ht' : t ||| 2 ^ a < 1024 := Nat.or_lt_two_pow (n := 10) ht (pb_pow10 ha)
            have hs' : sb (t ||| 2 ^ a) w := fun i hi => by
              rw [Nat.testBit_or, pb_bit] at hi
              by_cases z : a = i
              · subst z; rw [hw3 a ha]; simpa using q
              · exact hs i (by simpa [z] using hi)
            have hd' : mD (g_uA M1 (0, 297) a 1) (t ||| 2 ^ a) := fun b hb => by
              rw [g_uA_at, Nat.testBit_or, pb_bit]
              by_cases z : b = a
              · subst z; simp
              · have : ¬ a = b := fun y => z y.symm
                simp [z, this, hd b hb]
            have hch' := hch.tr (chd.uA (k := a) (v := 1))
            refine ⟨by omega, by unfold hm_in; omega, fun _ => ?_, fun q => by exfalso; omega⟩
            refine rp_113_192 rfl ⟨fun _ => ⟨fun q3 => ⟨by unfold hm_in; omega, ih (k + 1) (t ||| 2 ^ a) _ _ _ (by omega) (by omega) (by omega) hch' hd' hs' ht' ?_⟩, fun q3 => ?_⟩, fun q => by exfalso; omega⟩
            · rw [hE, ed, if_pos ⟨q, hta, q3⟩]
            · exact h0 (hno (by rw [ed, if_neg (fun z => q3 z.2.2)])) _ hch'
          · have hne : ¬ (0 ≤ cs a ∧ t.testBit a = false ∧ cs a = (z : Int)) := fun z => by
              rw [z.2.1] at q2
              simp at q2
            exact h0 (hno (by rw [ed, if_neg hne])) M1 hch
  have loop2 : dl cs vs (it F) (some 0) = dl cs vs (F.2.map pq) (some 0) → ∀ (n a : Nat) (x : Int) (M1 : g_M), a + n = 10 → x = a → chd M M1 → (∀ b, b < a → M1.1 0 297 b = 0) → g_R (D + 4) 113 Q 84 [.inr (0, 286), .inl (g : Int), .inl x] [] M1 := by
    intro hE n
    induction n with
    | zero =>
      intro a x M1 ha hx hch hd
      subst hx
      refine rp_113_84 rfl ⟨fun _ => ?_, fun q => by exfalso; omega⟩
      have := loop3 F.2.length 0 0 0 0 M1 (by omega) rfl (by show (0 : Int) = ((pop 0 : Nat) : Int); rw [pop_zero]; rfl) hch (fun b hb => by rw [Nat.zero_testBit]; simp [hd b (by omega)]) (fun i hi => by rw [Nat.zero_testBit] at hi; cases hi) (by omega) (by rw [List.drop_zero]; exact hE)
      exact this
    | succ n ih =>
      intro a x M1 ha hx hch hd
      subst hx
      refine rp_113_84 rfl ⟨fun q => by exfalso; omega, fun _ => ⟨by omega, by unfold hm_in; omega, ih (a + 1) _ _ (by omega) (by omega) (hch.tr chd.uA) (fun b hb => ?_)⟩⟩
      rw [g_uA_at, Int.toNat_natCast]
      by_cases z : b = a
      · simp [z]
      · simp [z, hd b (by omega)]
  have loop1 : ∀ (n i : Nat) (x : Int), i + n = F.1.length → x = i → dl cs vs (it F) (some 0) = dl cs vs (F.1.drop i ++ F.2.map pq) (some 0) → g_R (D + 4) 113 Q 2 [.inr (0, 286), .inl (g : Int), .inl x] [] M := by
    intro n
    induction n with
    | zero =>
      intro i x hi hx hE
      subst hx
      rw [List.drop_eq_nil_of_le (by omega), List.nil_append] at hE
      refine rp_113_2 rfl ⟨by omega, fun _ => loop2 hE 10 0 0 M (by omega) rfl chd.rf (fun b hb => by omega), fun q => by rw [e0, hc.1] at q; exfalso; omega⟩
    | succ n ih =>
      intro i x hi hx hE
      subst hx
      have hlt : i < F.1.length := by omega
      have hat := List.getElem?_eq_getElem hlt
      have ok := hw.2.2.1 _ (List.getElem_mem hlt)
      have r := hc.2.2.1 i _ hat
      rw [List.drop_eq_getElem_cons hlt, List.cons_append, dl_cons] at hE
      generalize hp : F.1[i] = p at hE r ok
      have o1 := ok.1
      have o2 := ok.2.1
      have o3 := ok.2.2
      have hno : d1 cs vs p 0 = none → ¬ FT cs vs F w := fun hd => by
        unfold FT
        rw [hE, hd, dl_none]
        exact fun z => by cases z
      refine rp_113_2 rfl ?_
      rw [e0, hc.1, show (16 * (g : Int) + (i : Int)).toNat = 16 * g + i by omega, r.1, r.2.1, r.2.2, Int.toNat_natCast, Int.toNat_natCast, (hv.2.2 _ ok.2.1).1, (hv.2.2 _ ok.2.2).1]
      refine ⟨by omega, fun q => by exfalso; omega, fun _ => ⟨by unfold hm_in; omega, by unfold hm_in; omega, by omega, by omega, by omega, fun q => ⟨fun q2 => ⟨by unfold hm_in; omega, ih (i + 1) _ (by omega) (by omega) ?_⟩, fun q2 => ?_⟩, fun q => ⟨fun q2 => ?_, fun q2 => ⟨by unfold hm_in; omega, ih (i + 1) _ (by omega) (by omega) ?_⟩⟩⟩⟩
      · rw [hE]; unfold d1; rw [if_neg (by omega), if_pos (by omega), if_neg q]
      · exact h0 (hno (by unfold d1; rw [if_pos (by omega), if_neg q])) M chd.rf
      · exact h0 (hno (by unfold d1; rw [if_neg (by omega), if_pos (by omega), if_pos q])) M chd.rf
      · rw [hE]; unfold d1; rw [if_pos (by omega), if_pos q]
  exact g_enter hk_113 hn_113 (rp_113_0 rfl (loop1 F.1.length 0 0 (by omega) rfl (by rw [List.drop_zero]; rfl)))
end SU
def v3 (vs : Nat → Int) (i j k : Nat) : Nat → Int := va_up (va_up (va_up vs 5 (i : Int)) 6 (j : Int)) 7 (k : Int)
theorem v3_at {vs : Nat → Int} {i j k t : Nat} : v3 vs i j k t = if t = 7 then (k : Int) else if t = 6 then (j : Int) else if t = 5 then (i : Int) else vs t := by
  unfold v3
  rw [va_up_at, va_up_at, va_up_at]
theorem FT_congr {cs vs vs' : Nat → Int} {F : pf_F} {w : Nat} (h : ∀ t, pf_in t F → vs t = vs' t) : FT cs vs F w ↔ FT cs vs' F w := by
  unfold FT
  rw [dl_congr (fun p hp => ⟨h _ (pf_in_it hp).1, h _ (pf_in_it hp).2⟩)]
/-- the reference's memory, marks and SPARE values may have changed -/
def mW (M : g_M) (vs : Nat → Int) (M' : g_M) : Prop := M'.2 = M.2 ∧ (∀ t n, ¬ (t = 0 ∧ (n = 297 ∨ n = 295)) → M'.1 t n = M.1 t n) ∧ ∃ vs' : Nat → Int, (∀ t, t < 8 → M'.1 0 295 t = vs' t ∧ 0 ≤ vs' t ∧ vs' t ≤ 9) ∧ ∀ t, t < 5 → vs' t = vs t
theorem mW.kd {M M1 M2 : g_M} {vs : Nat → Int} (h : mW M vs M1) (hc : chd M1 M2) : mW M vs M2 := by
  refine ⟨hc.1.trans h.1, fun t n hn => (hc.2 t n (by omega)).trans (h.2.1 t n hn), ?_⟩
  rw [hc.2 0 295 (by omega)]
  exact h.2.2
theorem pf_in_lt {F : pf_F} (hw : pf_wf F) {t : Nat} (h : pf_in t F) : t < 8 := by
  rcases h with ⟨p, hp, h⟩ | ⟨p, hp, h⟩
  · have := hw.2.2.1 p hp
    unfold pf_ok at this
    omega
  · have := hw.2.2.2 p hp
    unfold pf_ok at this
    omega
section SU
variable {D : Nat} {M : g_M} {g w : Nat} {F : pf_F} {cs vs : Nat → Int} {Q : g_P}
theorem m_111 (hD : 6 ≤ D) (hg : g < 200) (hc : mF M g F) (hw : pf_wf F) (hcs : ∀ a, a < 10 → M.1 0 296 a = cs a ∧ -1 ≤ cs a ∧ cs a ≤ 9) (hz : cs 0 = -1) (hM : mW M vs M) (hwl : w < 1024) (hw3 : ∀ a, a < 10 → w.testBit a = decide (0 ≤ cs a))
    (h1 : (∃ v, ag 0 vs v ∧ vr v ∧ FT cs v F w) → ∀ M', mW M vs M' → Q [.inl 1] M') (h0 : (¬ ∃ v, ag 0 vs v ∧ vr v ∧ FT cs v F w) → ∀ M', mW M vs M' → Q [.inl 0] M') : g_Ev D 111 [.inr (0, 286), .inl (g : Int)] M Q := by
  obtain ⟨D, rfl⟩ := g_dep hD
  have vr5 : ∀ t, t < 5 → 0 ≤ vs t ∧ vs t ≤ 9 := fun t ht => by
    obtain ⟨vs', k1, k2⟩ := hM.2.2
    have := (k1 t (by omega)).2
    rw [k2 t ht] at this
    exact this
  have main : ∀ A B C : Nat, (pf_in 5 F ∧ A = 9 ∨ ¬ pf_in 5 F ∧ A = 0) → (pf_in 6 F ∧ B = 9 ∨ ¬ pf_in 6 F ∧ B = 0) → (pf_in 7 F ∧ C = 9 ∨ ¬ pf_in 7 F ∧ C = 0) → g_R (D + 6) 111 Q 54 [.inr (0, 286), .inl (g : Int), .inl (A : Int), .inl (B : Int), .inl (C : Int), .inl 0] [] M := by
    intro A B C hA hB hC
    have hA9 : A ≤ 9 := by omega
    have hB9 : B ≤ 9 := by omega
    have hC9 : C ≤ 9 := by omega
    have good : ∀ i j k, i ≤ A → j ≤ B → k ≤ C → FT cs (v3 vs i j k) F w → ∃ v, ag 0 vs v ∧ vr v ∧ FT cs v F w := fun i j k hi hj hk hF => ⟨v3 vs i j k, fun t ht => by rw [v3_at, if_neg (by omega), if_neg (by omega), if_neg (by omega)], fun t ht => by
      rw [v3_at]
      split
      · omega
      split
      · omega
      split
      · omega
      exact vr5 t (by omega), hF⟩
    have bad : (∀ i j k, i ≤ A → j ≤ B → k ≤ C → ¬ FT cs (v3 vs i j k) F w) → ¬ ∃ v, ag 0 vs v ∧ vr v ∧ FT cs v F w := by
      rintro hn ⟨v, a1, a2, a3⟩
      have b5 := a2 5 (by omega)
      have b6 := a2 6 (by omega)
      have b7 := a2 7 (by omega)
      refine hn (if A = 0 then 0 else (v 5).toNat) (if B = 0 then 0 else (v 6).toNat) (if C = 0 then 0 else (v 7).toNat) (by split <;> omega) (by split <;> omega) (by split <;> omega) ((FT_congr (fun t ht => ?_)).mp a3)
      have ht8 := pf_in_lt hw ht
      rw [v3_at]
      split
      · next z => subst z; rcases hC with ⟨_, z⟩ | ⟨z, _⟩; rw [if_neg (by omega)]; omega; exact absurd ht z
      split
      · next z => subst z; rcases hB with ⟨_, z⟩ | ⟨z, _⟩; rw [if_neg (by omega)]; omega; exact absurd ht z
      split
      · next z => subst z; rcases hA with ⟨_, z⟩ | ⟨z, _⟩; rw [if_neg (by omega)]; omega; exact absurd ht z
      exact a1 t (by omega)
    have loopK : ∀ (i j : Nat), i ≤ A → j ≤ B → ((∀ k, k ≤ C → ¬ FT cs (v3 vs i j k) F w) → ∀ M2, mW M vs M2 → g_R (D + 6) 111 Q 63 [.inr (0, 286), .inl (g : Int), .inl (A : Int), .inl (B : Int), .inl (C : Int), .inl (i : Int), .inl ((j + 1 : Nat) : Int)] [] M2) → ∀ (n k : Nat) (x : Int) (M2 : g_M), k + n = C + 1 → x = k → mW M vs M2 → (∀ k', k' < k → ¬ FT cs (v3 vs i j k') F w) → g_R (D + 6) 111 Q 72 [.inr (0, 286), .inl (g : Int), .inl (A : Int), .inl (B : Int), .inl (C : Int), .inl (i : Int), .inl (j : Int), .inl x] [] M2 := by
      intro i j hi hj hnext n
      induction n with
      | zero =>
        intro k x M2 hk hx hM2 hno
        subst hx
        exact rp_111_72 rfl ⟨fun _ => ⟨by unfold hm_in; omega, hnext (fun k' hk' => hno k' (by omega)) M2 hM2⟩, fun q => by exfalso; omega⟩
      | succ n ih =>
        intro k x M2 hk hx hM2 hno
        subst hx
        refine rp_111_72 rfl ⟨fun q => by exfalso; omega, fun _ => ?_⟩
        have hM3 : mW M vs (g_uA (g_uA (g_uA M2 (0, 295) (5 : Int).toNat (i : Int)) (0, 295) (6 : Int).toNat (j : Int)) (0, 295) (7 : Int).toNat (k : Int)) := by
          refine ⟨hM2.1, fun t n hn => ?_, v3 vs i j k, fun t ht => ⟨?_, ?_⟩, fun t ht => ?_⟩
          · rw [← hM2.2.1 t n hn]
            funext a
            rw [g_uA_at, if_neg, g_uA_at, if_neg, g_uA_at, if_neg]
            · rintro ⟨rfl, rfl, -⟩; exact hn ⟨rfl, Or.inr rfl⟩
            · rintro ⟨rfl, rfl, -⟩; exact hn ⟨rfl, Or.inr rfl⟩
            · rintro ⟨rfl, rfl, -⟩; exact hn ⟨rfl, Or.inr rfl⟩
          · rw [g_uA_at, g_uA_at, g_uA_at, v3_at]
            obtain ⟨vs', k1, k2⟩ := hM2.2.2
            show (if 0 = 0 ∧ 295 = 295 ∧ t = 7 then (k : Int) else if 0 = 0 ∧ 295 = 295 ∧ t = 6 then (j : Int) else if 0 = 0 ∧ 295 = 295 ∧ t = 5 then (i : Int) else M2.1 0 295 t) = _
            simp only [true_and]
            split
            · rfl
            split
            · rfl
            split
            · rfl
            rw [(k1 t ht).1, k2 t (by omega)]
          · rw [v3_at]
            split
            · omega
            split
            · omega
            split
            · omega
            exact vr5 t (by omega)
          · rw [v3_at, if_neg (by omega), if_neg (by omega), if_neg (by omega)]
        have hV : mV (g_uA (g_uA (g_uA M2 (0, 295) (5 : Int).toNat (i : Int)) (0, 295) (6 : Int).toNat (j : Int)) (0, 295) (7 : Int).toNat (k : Int)) cs (v3 vs i j k) := by
          refine ⟨fun a ha => ?_, hz, fun t ht => ⟨?_, ?_⟩⟩
          · rw [hM3.2.1 0 296 (by omega)]; exact hcs a ha
          · rw [g_uA_at, g_uA_at, g_uA_at, v3_at]
            obtain ⟨vs', k1, k2⟩ := hM2.2.2
            show (if 0 = 0 ∧ 295 = 295 ∧ t = 7 then (k : Int) else if 0 = 0 ∧ 295 = 295 ∧ t = 6 then (j : Int) else if 0 = 0 ∧ 295 = 295 ∧ t = 5 then (i : Int) else M2.1 0 295 t) = _
            simp only [true_and]
            split
            · rfl
            split
            · rfl
            split
            · rfl
            rw [(k1 t ht).1, k2 t (by omega)]
          · rw [v3_at]
            split
            · omega
            split
            · omega
            split
            · omega
            exact vr5 t (by omega)
        refine m_113 (by omega) hg (hc.kd (fun n h1 h2 => hM3.2.1 0 n (by omega))) hw hV hwl hw3 (fun hF M4 c1 => rp_111_110 rfl ⟨fun q => by exfalso; omega, fun _ => h1 (good i j k hi hj (by omega) hF) M4 (hM3.kd c1)⟩) (fun hF M4 c1 => rp_111_110 rfl ⟨fun _ => ⟨by unfold hm_in; omega, ih (k + 1) _ M4 (by omega) (by omega) (hM3.kd c1) (fun k' hk' => ?_)⟩, fun q => absurd rfl q⟩)
        rcases Nat.lt_or_ge k' k with z | z
        · exact hno k' z
        · obtain rfl : k' = k := by omega
          exact hF
    have loopJ : ∀ (i : Nat), i ≤ A → ((∀ j k, j ≤ B → k ≤ C → ¬ FT cs (v3 vs i j k) F w) → ∀ M2, mW M vs M2 → g_R (D + 6) 111 Q 54 [.inr (0, 286), .inl (g : Int), .inl (A : Int), .inl (B : Int), .inl (C : Int), .inl ((i + 1 : Nat) : Int)] [] M2) → ∀ (n j : Nat) (x : Int) (M2 : g_M), j + n = B + 1 → x = j → mW M vs M2 → (∀ j' k, j' < j → k ≤ C → ¬ FT cs (v3 vs i j' k) F w) → g_R (D + 6) 111 Q 63 [.inr (0, 286), .inl (g : Int), .inl (A : Int), .inl (B : Int), .inl (C : Int), .inl (i : Int), .inl x] [] M2 := by
      intro i hi hnext n
      induction n with
      | zero =>
        intro j x M2 hj hx hM2 hno
        subst hx
        exact rp_111_63 rfl ⟨fun _ => ⟨by unfold hm_in; omega, hnext (fun j' k hj' hk => hno j' k (by omega) hk) M2 hM2⟩, fun q => by exfalso; omega⟩
      | succ n ih =>
        intro j x M2 hj hx hM2 hno
        subst hx
        refine rp_111_63 rfl ⟨fun q => by exfalso; omega, fun _ => loopK i j hi (by omega) (fun hK M3 hM3 => ih (j + 1) _ M3 (by omega) rfl hM3 (fun j' k hj' hk => ?_)) (C + 1) 0 0 M2 (by omega) rfl hM2 (fun k' hk' => by omega)⟩
        rcases Nat.lt_or_ge j' j with z | z
        · exact hno j' k z hk
        · obtain rfl : j' = j := by omega
          exact hK k hk
    have loopI : ∀ (n i : Nat) (x : Int) (M2 : g_M), i + n = A + 1 → x = i → mW M vs M2 → (∀ i' j k, i' < i → j ≤ B → k ≤ C → ¬ FT cs (v3 vs i' j k) F w) → g_R (D + 6) 111 Q 54 [.inr (0, 286), .inl (g : Int), .inl (A : Int), .inl (B : Int), .inl (C : Int), .inl x] [] M2 := by
      intro n
      induction n with
      | zero =>
        intro i x M2 hi hx hM2 hno
        subst hx
        exact rp_111_54 rfl ⟨fun _ => h0 (bad (fun i' j k hi' hj hk => hno i' j k (by omega) hj hk)) M2 hM2, fun q => by exfalso; omega⟩
      | succ n ih =>
        intro i x M2 hi hx hM2 hno
        subst hx
        refine rp_111_54 rfl ⟨fun q => by exfalso; omega, fun _ => loopJ i (by omega) (fun hJ M3 hM3 => ih (i + 1) _ M3 (by omega) rfl hM3 (fun i' j k hi' hj hk => ?_)) (B + 1) 0 0 M2 (by omega) rfl hM2 (fun j' k hj' => by omega)⟩
        rcases Nat.lt_or_ge i' i with z | z
        · exact hno i' j k z hj hk
        · obtain rfl : i' = i := by omega
          exact hJ j k hj hk
    exact loopI (A + 1) 0 0 M (by omega) rfl hM (fun i' j k hi' => by omega)
  have hin : ∀ t : Nat, (∀ n : Nat, (t : Int) = n → ¬ pf_in n F) → ¬ pf_in t F := fun t h => h t rfl
  refine g_enter hk_111 hn_111 (rp_111_0 rfl ?_)
  have s7 : ∀ A B : Nat, (pf_in 5 F ∧ A = 9 ∨ ¬ pf_in 5 F ∧ A = 0) → (pf_in 6 F ∧ B = 9 ∨ ¬ pf_in 6 F ∧ B = 0) → g_Ev (D + 5) 112 [.inr (0, 286), .inl (g : Int), .inl (7 : Int)] M (fun q M' => g_R (D + 6) 111 Q 40 [.inr (0, 286), .inl (g : Int), .inl (A : Int), .inl (B : Int)] (q ++ []) M') := fun A B hA hB =>
    m_112 (by omega) hg hc hw (fun n hn hi => rp_111_40 rfl ⟨fun q => by exfalso; omega, fun _ => main A B 9 hA hB (Or.inl ⟨by rw [show 7 = n by omega]; exact hi, rfl⟩)⟩) (fun hi => rp_111_40 rfl ⟨fun _ => main A B 0 hA hB (Or.inr ⟨hin 7 hi, rfl⟩), fun q => absurd rfl q⟩)
  have s6 : ∀ A : Nat, (pf_in 5 F ∧ A = 9 ∨ ¬ pf_in 5 F ∧ A = 0) → g_Ev (D + 5) 112 [.inr (0, 286), .inl (g : Int), .inl (6 : Int)] M (fun q M' => g_R (D + 6) 111 Q 23 [.inr (0, 286), .inl (g : Int), .inl (A : Int)] (q ++ []) M') := fun A hA =>
    m_112 (by omega) hg hc hw (fun n hn hi => rp_111_23 rfl ⟨fun q => by exfalso; omega, fun _ => s7 A 9 hA (Or.inl ⟨by rw [show 6 = n by omega]; exact hi, rfl⟩)⟩) (fun hi => rp_111_23 rfl ⟨fun _ => s7 A 0 hA (Or.inr ⟨hin 6 hi, rfl⟩), fun q => absurd rfl q⟩)
  exact m_112 (by omega) hg hc hw (fun n hn hi => rp_111_6 rfl ⟨fun q => by exfalso; omega, fun _ => s6 9 (Or.inl ⟨by rw [show 5 = n by omega]; exact hi, rfl⟩)⟩) (fun hi => rp_111_6 rfl ⟨fun _ => s6 0 (Or.inr ⟨hin 5 hi, rfl⟩), fun q => absurd rfl q⟩)
end SU

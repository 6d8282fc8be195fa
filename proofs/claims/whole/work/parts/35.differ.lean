/-! differ, the class's -/
def nsp (F : pf_F) : Prop := ¬ pf_in 5 F ∧ ¬ pf_in 6 F ∧ ¬ pf_in 7 F
theorem sp_ck : (List.range 256).all (fun n => decide ((n &&& 224 = 0) ↔ (n.testBit 5 = false ∧ n.testBit 6 = false ∧ n.testBit 7 = false))) = true := by decide +kernel
theorem sp_bits {n : Nat} (h : n < 256) : n &&& 224 = 0 ↔ (n.testBit 5 = false ∧ n.testBit 6 = false ∧ n.testBit 7 = false) := by
  have := List.all_eq_true.mp sp_ck n (List.mem_range.mpr h)
  exact of_decide_eq_true this
theorem c_63 {D : Nat} (hD : 4 ≤ D) {M : g_M} {f : Nat} {F : pf_F} {Q : g_P} (hc : cF M f F) (hw : pf_wf F) (h1 : ¬ nsp F → Q [.inl 1] M) (h0 : nsp F → Q [.inl 0] M) : g_Ev D 63 [.inr (1, f)] M Q := by
  obtain ⟨D, rfl⟩ := g_dep hD
  have hl := pf_terms_lt hw
  have e : pf_terms F &&& 224 = 0 ↔ nsp F := by
    rw [sp_bits hl]
    unfold nsp
    rw [← pf_terms_bit, ← pf_terms_bit, ← pf_terms_bit]
    simp
  refine g_enter hk_63 hn_63 (rp_63_0 rfl (c_40 (by omega) hc hw (rp_63_4 rfl ?_)))
  rw [show (224 : Int) = ((224 : Nat) : Int) by rfl, pb_and (by omega) (by omega)]
  exact ⟨fun q => h0 (e.mp (by omega)), fun q => h1 (fun z => q (by have := e.mpr z; omega))⟩
theorem m_125 {D : Nat} (hD : 4 ≤ D) {M : g_M} {g : Nat} {F : pf_F} {Q : g_P} (hg : g < 200) (hc : mF M g F) (hw : pf_wf F) (h1 : ¬ nsp F → Q [.inl 1] M) (h0 : nsp F → Q [.inl 0] M) : g_Ev D 125 [.inr (0, 286), .inl (g : Int)] M Q := by
  obtain ⟨D, rfl⟩ := g_dep hD
  have hin : ∀ t : Nat, (∀ n : Nat, (t : Int) = n → ¬ pf_in n F) → ¬ pf_in t F := fun t h => h t rfl
  refine g_enter hk_125 hn_125 (rp_125_0 rfl ?_)
  refine m_112 (by omega) hg hc hw (fun n hn hi => rp_125_6 rfl ⟨fun _ => h1 (fun z => z.1 (by rw [show 5 = n by omega]; exact hi)), fun q => by exfalso; omega⟩) (fun hi5 => rp_125_6 rfl ⟨fun q => absurd rfl q, fun _ => ?_⟩)
  refine m_112 (by omega) hg hc hw (fun n hn hi => rp_125_16 rfl ⟨fun _ => h1 (fun z => z.2.1 (by rw [show 6 = n by omega]; exact hi)), fun q => by exfalso; omega⟩) (fun hi6 => rp_125_16 rfl ⟨fun q => absurd rfl q, fun _ => ?_⟩)
  exact m_112 (by omega) hg hc hw (fun n hn hi => rp_125_26 rfl ⟨fun q => by exfalso; omega, fun _ => h1 (fun z => z.2.2 (by rw [show 7 = n by omega]; exact hi))⟩) (fun hi7 => rp_125_26 rfl ⟨fun _ => h0 ⟨hin 5 hi5, hin 6 hi6, hin 7 hi7⟩, fun q => absurd rfl q⟩)
/-- how many CELLS -/
def ncl (l : List pf_T) : Nat := (l.filter (fun p => p.1 == 2)).length
theorem dl_pop {cs vs : Nat → Int} (hc : ∀ a, a < 10 → cs a ≤ 9) (hv : ∀ k, k < 8 → 0 ≤ vs k ∧ vs k ≤ 9) : ∀ {l : List pf_T} {t s : Nat}, (∀ p ∈ l, it_ok p) → t < 1024 → dl cs vs l (some t) = some s → pop t + ncl l ≤ pop s ∧ ((∀ p ∈ l, p.1 ≠ 3) → pop s = pop t + ncl l) := by
  intro l
  induction l with
  | nil => intro t s _ ht h; cases h; exact ⟨by simp [ncl], fun _ => by simp [ncl]⟩
  | cons p l ih =>
    intro t s hl ht h
    rw [dl_cons] at h
    have hp := hl p List.mem_cons_self
    cases hd : d1 cs vs p t with
    | none => rw [hd, dl_none] at h; cases h
    | some u =>
      rw [hd] at h
      have hu := d1_lt hc hv hp ht hd
      have h1 := ih (fun q hq => hl q (List.mem_cons_of_mem _ hq)) hu h
      have key : pop t + (if p.1 = 2 then 1 else 0) ≤ pop u ∧ (p.1 ≠ 3 → pop u = pop t + (if p.1 = 2 then 1 else 0)) := by
        unfold d1 at hd
        split at hd
        · next z => split at hd <;> cases hd; rw [if_neg (by omega)]; exact ⟨by omega, fun _ => by omega⟩
        split at hd
        · next z => split at hd <;> cases hd; rw [if_neg (by omega)]; exact ⟨by omega, fun _ => by omega⟩
        split at hd
        · next z =>
          split at hd
          · next z2 =>
            cases hd
            have := hv _ hp.2.1
            rw [if_pos z, pop_add ht (by omega) z2.2.1]
            exact ⟨by omega, fun _ => by omega⟩
          · cases hd
        · next z1 z2 z3 =>
          rw [if_neg z3]
          have := pop_le (wk_mono hd)
          exact ⟨by omega, fun z => by have := hp.1; omega⟩
      have e : ncl (p :: l) = (if p.1 = 2 then 1 else 0) + ncl l := by
        unfold ncl
        by_cases z : p.1 = 2
        · rw [List.filter_cons_of_pos (by simp [z]), if_pos z, List.length_cons]; omega
        · rw [List.filter_cons_of_neg (by simp [z]), if_neg z]; omega
      rw [e]
      refine ⟨by omega, fun hn => ?_⟩
      have h2 := h1.2 (fun q hq => hn q (List.mem_cons_of_mem _ hq))
      have h3 := key.2 (hn p List.mem_cons_self)
      omega
/-- whether a formula's parts can take so many cells -/
def ctk (F : pf_F) (m : Nat) : Prop := m = ncl (it F) ∨ (ncl (it F) < m ∧ ncl (it F) < F.2.length)
theorem ncl_it {F : pf_F} (hw : pf_wf F) : ncl (it F) = (F.2.filter (fun p => p.1 == 0)).length := by
  unfold ncl it
  rw [List.filter_append, List.filter_map, List.length_append, List.length_map]
  have e1 : F.1.filter (fun p => p.1 == 2) = [] := List.filter_eq_nil_iff.mpr (fun p hp => by have := (hw.2.2.1 p hp).1; simp; omega)
  rw [e1]
  have e2 : F.2.filter ((fun p => p.1 == 2) ∘ pq) = F.2.filter (fun p => p.1 == 0) := List.filter_congr (fun p hp => by
    show (2 + p.1 == 2) = (p.1 == 0)
    by_cases z : p.1 = 0
    · simp [z]
    · have : ¬ (2 + p.1 = 2) := by omega
      rw [beq_eq_false_iff_ne.mpr this, beq_eq_false_iff_ne.mpr z])
  rw [e2]
  simp
theorem FT_ctk {cs vs : Nat → Int} {F : pf_F} {w : Nat} (hw : pf_wf F) (hc : ∀ a, a < 10 → cs a ≤ 9) (hv : ∀ k, k < 8 → 0 ≤ vs k ∧ vs k ≤ 9) (h : FT cs vs F w) : ctk F (pop w) := by
  have h1 := dl_pop hc hv (it_mem hw) (by omega) h
  rw [pop_zero] at h1
  by_cases z : ∀ p ∈ F.2, p.1 = 0
  · left
    have := h1.2 (fun p hp => by
      rcases List.mem_append.mp hp with hp | hp
      · have := (hw.2.2.1 p hp).1; omega
      · obtain ⟨q, hq, rfl⟩ := List.mem_map.mp hp
        have := z q hq
        show 2 + q.1 ≠ 3
        omega)
    omega
  · have hlt : ncl (it F) < F.2.length := by
      rw [ncl_it hw]
      have hle := List.length_filter_le (fun p : pf_T => p.1 == 0) F.2
      rcases Nat.lt_or_ge (F.2.filter (fun p => p.1 == 0)).length F.2.length with y | y
      · exact y
      · exfalso
        apply z
        intro p hp
        have := (List.filter_sublist (p := fun p : pf_T => p.1 == 0) (l := F.2)).eq_of_length (by omega)
        rw [← this] at hp
        simpa using (List.mem_filter.mp hp).2
    unfold ctk
    omega
theorem c_85 {D : Nat} (hD : 3 ≤ D) {M : g_M} {f m : Nat} {F : pf_F} {Q : g_P} (hc : cF M f F) (hw : pf_wf F) (h1 : ctk F m → Q [.inl 1] M) (h0 : ¬ ctk F m → Q [.inl 0] M) : g_Ev D 85 [.inr (1, f), .inl (m : Int)] M Q := by
  obtain ⟨D, rfl⟩ := g_dep hD
  have l2 := hw.2.1
  have hn := ncl_it hw
  have hle := List.length_filter_le (fun p : pf_T => p.1 == 0) F.2
  have loop : ∀ (n i : Nat) (x y : Int), i + n = F.2.length → x = i → y = ((F.2.take i).filter (fun p => p.1 == 0)).length → g_R (D + 3) 85 Q 4 [.inr (1, f), .inl (m : Int), .inl y, .inl x] [] M := by
    intro n
    induction n with
    | zero =>
      intro i x y hi hx hy
      rw [List.take_of_length_le (by omega), ← hn] at hy
      subst hx hy
      refine rp_85_4 rfl ?_
      rw [hc.2.1]
      unfold ctk at h1 h0
      refine ⟨fun _ => ⟨fun q => h1 (by omega), fun q => ⟨fun q2 => h0 (by omega), fun q2 => ⟨fun q3 => h0 (by omega), fun q3 => h1 (by omega)⟩⟩⟩, fun q => by exfalso; omega⟩
    | succ n ih =>
      intro i x y hi hx hy
      subst hx
      have hlt : i < F.2.length := by omega
      have ok := hw.2.2.2 _ (List.getElem_mem hlt)
      have r := pf_c_rg ok
      have hli := List.length_filter_le (fun p : pf_T => p.1 == 0) (F.2.take i)
      rw [List.length_take] at hli
      refine rp_85_4 rfl ?_
      rw [hc.2.1, Int.toNat_natCast, hc.2.2.2 i _ (List.getElem?_eq_getElem hlt), r.2.2.2.2.2.1]
      refine ⟨fun q => by exfalso; omega, fun _ => ⟨by omega, by omega, fun q => ⟨by unfold hm_in; omega, by unfold hm_in; omega, ih (i + 1) _ _ (by omega) (by omega) ?_⟩, fun q => ⟨by unfold hm_in; omega, by unfold hm_in; omega, ih (i + 1) _ _ (by omega) (by omega) ?_⟩⟩⟩
      · rw [List.take_succ_eq_append_getElem hlt, List.filter_append, List.filter_cons_of_neg (by simp; omega)]
        simp
        omega
      · rw [List.take_succ_eq_append_getElem hlt, List.filter_append, List.filter_cons_of_pos (by simp; omega)]
        simp
        omega
  exact g_enter hk_85 hn_85 (rp_85_0 rfl (loop F.2.length 0 0 0 (by omega) rfl (by simp)))
/-- values of a small search -/
def num (v : Nat → Int) : Int := 64 * v 1 + 16 * v 2 + 4 * v 3 + v 4
def sm (k : Nat) (v : Nat → Int) : Prop := ∀ j, k ≤ j → j ≤ 4 → 0 ≤ v j ∧ v j ≤ 3
def bl (k : Nat) (v v' : Nat → Int) : Prop := ∀ j, j < k → v' j = v j
def Gd (cs : Nat → Int) (F G : pf_F) (w k : Nat) (v : Nat → Int) (t : Nat) : Prop := dl cs v (lu F k) (some t) = some w ∧ ¬ FT cs v G w
theorem lu_5 {F : pf_F} (h : nsp F) : lu F 5 = [] := by
  rw [lu_at (by omega), lu_at (by omega), lu_at (by omega), lu_8, lv_no h.1, lv_no h.2.1, lv_no h.2.2]
  rfl
theorem nsp_lt {F : pf_F} (hw : pf_wf F) (h : nsp F) {t : Nat} (ht : pf_in t F) : t < 5 := by
  have := pf_in_lt hw ht
  rcases (show t < 5 ∨ t = 5 ∨ t = 6 ∨ t = 7 by omega) with z | rfl | rfl | rfl
  · exact z
  · exact absurd ht h.1
  · exact absurd ht h.2.1
  · exact absurd ht h.2.2
def suF (D w : Nat) (F G : pf_F) (cs : Nat → Int) (k : Nat) : Prop := ∀ {M : g_M} {vs : Nat → Int} {t : Nat} {Q : g_P}, cMem M 1 cs vs → M.1 4 1 2 = (w : Int) → cP M 3 F → cP M 4 G → t < 1024 →
  (∀ (M' : g_M) (vs' : Nat → Int), chm 1 M M' → cMem M' 1 cs vs' → bl k vs vs' → sm k vs' → Gd cs F G w k vs' t → (∀ v, bl k vs v → sm k v → Gd cs F G w k v t → num vs' ≤ num v) → Q [.inl 1] M') →
  ((∀ v, bl k vs v → sm k v → ¬ Gd cs F G w k v t) → ∀ (M' : g_M) (vs' : Nat → Int), chm 1 M M' → cMem M' 1 cs vs' → bl k vs vs' → Q [.inl 0] M') → g_Ev D 86 [.inr (0, 60), .inl (k : Int), .inl (t : Int)] M Q
section SU
variable {D w : Nat} {F G : pf_F} {cs : Nat → Int}
theorem Gd_split {k t : Nat} {v v0 : Nat → Int} (hk : k < 8) (h : ∀ j, j ≤ k → v j = v0 j) : Gd cs F G w k v t ↔ ∃ u, dl cs v0 (lv F k) (some t) = some u ∧ Gd cs F G w (k + 1) v u := by
  unfold Gd
  rw [lu_at hk, dl_app, lv_cg (v := v0) (fun j hj => h j hj)]
  cases hd : dl cs v0 (lv F k) (some t) with
  | none =>
    rw [dl_none]
    constructor
    · rintro ⟨h1, _⟩; cases h1
    · rintro ⟨u, h1, _⟩; cases h1
  | some u =>
    constructor
    · rintro ⟨h1, h2⟩; exact ⟨u, rfl, h1, h2⟩
    · rintro ⟨u', h1, h2⟩; cases h1; exact h2
theorem Gd_congr {k t : Nat} {v v' : Nat → Int} (hF : ∀ j, pf_in j F → v j = v' j) (hG : ∀ j, pf_in j G → v j = v' j) : Gd cs F G w k v t ↔ Gd cs F G w k v' t := by
  unfold Gd
  rw [dl_congr (fun p hp => ⟨hF _ (pf_in_it (lu_mem hp)).1, hF _ (pf_in_it (lu_mem hp)).2⟩), FT_congr hG]
theorem c_86 (hwF : pf_wf F) (hwG : pf_wf G) (hF : nsp F) (hG : nsp G) : ∀ (m k : Nat), k + m = 5 → 1 ≤ k → 16 + m ≤ D → suF D w F G cs k := by
  intro m
  induction m generalizing D with
  | zero =>
    intro k hk hk1 hD M vs t Q hm hpr hP hP2 ht h1 h0
    obtain rfl : k = 5 := by omega
    obtain ⟨D, rfl⟩ := g_dep hD
    have iffG : Sx cs G w 0 vs 0 ↔ FT cs vs G w := by
      rw [FT_Sx hwG]
      constructor
      · rintro ⟨v', a1, a2, a3⟩
        exact (FT_congr (fun t ht => a1 t (by have := nsp_lt hwG hG ht; omega))).mp a3
      · exact fun a3 => ⟨vs, fun _ _ => rfl, fun j hj => (hm.2.2.1 j hj).2, a3⟩
    have cgG : ∀ v, bl 5 vs v → (FT cs v G w ↔ FT cs vs G w) := fun v hv => FT_congr (fun t ht => hv t (nsp_lt hwG hG ht))
    refine g_enter hk_86 hn_86 (rp_86_0 rfl ⟨fun q => by exfalso; omega, fun _ => ?_⟩)
    rw [hpr]
    refine ⟨fun q => h0 (fun v _ _ hg => ?_) M vs chm.rf hm (fun _ _ => rfl), fun q => ?_⟩
    · have := hg.1
      rw [lu_5 hF] at this
      have : t = w := Option.some.inj this
      omega
    · refine c_149 (c_43 (i := 1) (P := 4) hwG 8 0 (by omega) (by omega) hm hpr hP2 (by decide) (fun r M' vs' hr g1 g2 g3 => ⟨_, rfl, by rcases hr with ⟨z, _⟩ | ⟨z, _⟩ <;> omega, rp_86_27 rfl ?_⟩))
      have hb : bl 5 vs vs' := fun j hj => g3 j (by omega)
      rcases hr with ⟨rfl, hr⟩ | ⟨rfl, hr⟩
      · exact ⟨fun _ => h0 (fun v hv _ hg => hg.2 ((cgG v hv).mpr (iffG.mp hr))) M' vs' g1 g2 hb, fun q => absurd q (by decide)⟩
      · refine ⟨fun q => absurd rfl q, fun _ => h1 M' vs' g1 g2 hb (fun j hj hj2 => by omega) ⟨?_, fun z => hr (iffG.mpr ((cgG vs' hb).mp z))⟩ (fun v hv _ _ => ?_)⟩
        · rw [lu_5 hF, show t = w by omega]; rfl
        · unfold num
          rw [hv 1 (by omega), hv 2 (by omega), hv 3 (by omega), hv 4 (by omega), hb 1 (by omega), hb 2 (by omega), hb 3 (by omega), hb 4 (by omega)]
          omega
  | succ m ih =>
    intro k hk hk1 hD M vs t Q hm hpr hP hP2 ht h1 h0
    obtain ⟨D, rfl⟩ := g_dep (k := m + 17) (D := D) (by omega)
    have e16 : D + (m + 17) = D + m + 16 + 1 := by omega
    rw [e16]
    have ih' : suF (D + m + 16) w F G cs (k + 1) := ih (k + 1) (by omega) (by omega) (by omega)
    have hv : vr vs := fun j hj => (hm.2.2.1 j hj).2
    have hc : ∀ a, a < 10 → cs a ≤ 9 := fun a ha => (hm.1 a ha).2.2
    have main : ∀ mo : Nat, mo ≤ 3 → (mo < 3 → mo = 0 ∧ ¬ pf_in k F ∧ ¬ pf_in k G) → g_R (D + m + 16 + 1) 86 Q 67 [.inr (0, 60), .inl (k : Int), .inl (t : Int), .inl (mo : Int), .inl 0] [] M := by
      intro mo hmo hmo2
      have loop : ∀ (n a : Nat) (x : Int) (vs2 : Nat → Int) (M2 : g_M), x = a → a + n = mo + 1 → chm 1 M M2 → cMem M2 1 cs vs2 → bl k vs vs2 → (∀ v, bl k vs v → sm k v → v k < (a : Int) → ¬ Gd cs F G w k v t) → g_R (D + m + 16 + 1) 86 Q 67 [.inr (0, 60), .inl (k : Int), .inl (t : Int), .inl (mo : Int), .inl x] [] M2 := by
        intro n
        induction n with
        | zero =>
          intro a x vs2 M2 hx ha hch hm2 hb hno
          subst hx
          refine rp_86_67 rfl ⟨fun _ => h0 (fun v hv1 hv2 hg => ?_) M2 vs2 hch hm2 hb, fun q => by exfalso; omega⟩
          have hvk := hv2 k (by omega) (by omega)
          by_cases z : mo = 3
          · exact hno v hv1 hv2 (by omega) hg
          · have hz := hmo2 (by omega)
            refine hno (va_up v k 0) (fun j hj => by rw [va_up_at, if_neg (by omega)]; exact hv1 j hj) (fun j h1 h2 => by rw [va_up_at]; split; omega; exact hv2 j h1 h2) (by rw [va_up_at, if_pos rfl]; omega) ((Gd_congr (fun j hj => ?_) (fun j hj => ?_)).mp hg)
            · rw [va_up_at, if_neg (fun y => hz.2.1 (by rw [← y]; exact hj))]
            · rw [va_up_at, if_neg (fun y => hz.2.2 (by rw [← y]; exact hj))]
        | succ n ihn =>
          intro a x vs2 M2 hx ha hch hm2 hb hno
          subst hx
          refine rp_86_67 rfl ⟨fun q => by exfalso; omega, fun _ => ⟨by omega, ?_⟩⟩
          rw [Int.toNat_natCast]
          have hm3 := hm2.setV (k := k) (v := (a : Int)) (by omega) (by omega)
          have hch3 : chm 1 M (g_uA M2 (6, 1) k (a : Int)) := hch.tr (chm.uA (by simp))
          have hag3 : ∀ j, j ≤ k → va_up vs2 k (a : Int) j = va_up vs k (a : Int) j := fun j hj => by
            rw [va_up_at, va_up_at]
            split
            · rfl
            · exact hb j (by omega)
          have hb3 : bl k vs (va_up vs2 k (a : Int)) := fun j hj => by rw [va_up_at, if_neg (by omega)]; exact hb j hj
          have next : ∀ (M4 : g_M) (vs4 : Nat → Int), chm 1 M M4 → cMem M4 1 cs vs4 → bl k vs vs4 → (∀ v, bl k vs v → sm k v → v k = (a : Int) → ¬ Gd cs F G w k v t) → g_R (D + m + 16 + 1) 86 Q 67 [.inr (0, 60), .inl (k : Int), .inl (t : Int), .inl (mo : Int), .inl ((a : Int) + 1)] [] M4 := fun M4 vs4 y1 y2 y3 y4 => ihn (a + 1) _ vs4 M4 (by omega) (by omega) y1 y2 y3 (fun v v1 v2 v3 => by
            by_cases z : v k = (a : Int)
            · exact y4 v v1 v2 z
            · exact hno v v1 v2 (by omega))
          have spl : ∀ v, bl k vs v → v k = (a : Int) → (Gd cs F G w k v t ↔ ∃ u, dl cs (va_up vs k (a : Int)) (lv F k) (some t) = some u ∧ Gd cs F G w (k + 1) v u) := fun v v1 v2 => Gd_split (by omega) (fun j hj => by
            rw [va_up_at]
            split
            · next z => rw [z]; exact v2
            · exact v1 j (by omega))
          refine c_45 (by omega) hm3 hwF (hP.keep hch3) (by omega) ht (rp_86_97 rfl ?_)
          rw [lv_cg hag3]
          refine ⟨fun q => ⟨by unfold hm_in; omega, next _ _ hch3 hm3 hb3 (fun v v1 v2 v3 hg => ?_)⟩, fun q => ⟨by unfold hm_in; omega, ?_⟩⟩
          · obtain ⟨u, hu, _⟩ := (spl v v1 v3).mp hg
            rw [en_none q] at hu
            cases hu
          · cases hd : dl cs (va_up vs k (a : Int)) (lv F k) (some t) with
            | none => rw [hd] at q; exact absurd rfl q
            | some u =>
              have hu := dl_lt hc (vs := va_up vs k (a : Int)) (fun j hj => by rw [va_up_at]; split; omega; exact hv j hj) (fun p hp => it_mem hwF p (lv_mem hp).1) ht hd
              refine ih' hm3 (hm.pres2 hm3 hpr) (hP.keep hch3) (hP2.keep hch3) hu (fun M' vs' g1 g2 g3 g4 g5 g6 => rp_86_114 rfl ⟨fun q => by exfalso; omega, fun _ => ?_⟩) (fun hn M' vs' g1 g2 g3 => rp_86_114 rfl ⟨fun _ => ⟨by unfold hm_in; omega, ?_⟩, fun q => absurd rfl q⟩)
              · have hb' : bl k vs vs' := fun j hj => (g3 j (by omega)).trans (hb3 j hj)
                have hk' : vs' k = (a : Int) := by rw [g3 k (by omega), va_up_at, if_pos rfl]
                refine h1 M' vs' (hch3.tr g1) g2 hb' (fun j j1 j2 => ?_) ((spl vs' hb' hk').mpr ⟨u, hd, g5⟩) (fun v v1 v2 v3 => ?_)
                · by_cases z : j = k
                  · rw [z, hk']; omega
                  · exact g4 j (by omega) j2
                · have hvk := v2 k (by omega) (by omega)
                  rcases Int.lt_trichotomy (v k) (a : Int) with z | z | z
                  · exact absurd v3 (hno v v1 v2 z)
                  · obtain ⟨u', hu', hg'⟩ := (spl v v1 z).mp v3
                    rw [hd] at hu'
                    cases hu'
                    refine g6 v (fun j hj => ?_) (fun j j1 j2 => v2 j (by omega) j2) hg'
                    rw [va_up_at]
                    split
                    · next y => rw [y]; exact z
                    · rw [v1 j (by omega), hb j (by omega)]
                  · unfold num
                    have q1 := v2
                    have q2 := g4
                    rcases (show k = 1 ∨ k = 2 ∨ k = 3 ∨ k = 4 by omega) with rfl | rfl | rfl | rfl
                    · have := v2 2 (by omega) (by omega); have := v2 3 (by omega) (by omega); have := v2 4 (by omega) (by omega)
                      have := g4 2 (by omega) (by omega); have := g4 3 (by omega) (by omega); have := g4 4 (by omega) (by omega)
                      omega
                    · have := v2 3 (by omega) (by omega); have := v2 4 (by omega) (by omega)
                      have := g4 3 (by omega) (by omega); have := g4 4 (by omega) (by omega)
                      have := v1 1 (by omega); have := hb' 1 (by omega)
                      omega
                    · have := v2 4 (by omega) (by omega)
                      have := g4 4 (by omega) (by omega)
                      have := v1 1 (by omega); have := hb' 1 (by omega); have := v1 2 (by omega); have := hb' 2 (by omega)
                      omega
                    · have := v1 1 (by omega); have := hb' 1 (by omega); have := v1 2 (by omega); have := hb' 2 (by omega); have := v1 3 (by omega); have := hb' 3 (by omega)
                      omega
              · refine next M' vs' (hch3.tr g1) g2 (fun j hj => (g3 j (by omega)).trans (hb3 j hj)) (fun v v1 v2 v3 hg => ?_)
                obtain ⟨u', hu', hg'⟩ := (spl v v1 v3).mp hg
                rw [hd] at hu'
                cases hu'
                refine hn v (fun j hj => ?_) (fun j j1 j2 => v2 j (by omega) j2) hg'
                rw [va_up_at]
                split
                · next y => rw [y]; exact v3
                · rw [v1 j (by omega), hb j (by omega)]
      exact loop (mo + 1) 0 0 vs M rfl (by omega) chm.rf hm (fun _ _ => rfl) (fun v v1 v2 v3 => by have := v2 k (by omega) (by omega); omega)
    have t1 := pf_terms_lt hwF
    have t2 := pf_terms_lt hwG
    refine g_enter hk_86 hn_86 (rp_86_0 rfl ⟨fun _ => ?_, fun q => by exfalso; omega⟩)
    rw [hP.1, hP2.1, pb_or (by omega) (by omega), pb_g, Nat.testBit_or, Bool.or_eq_true, pf_terms_bit, pf_terms_bit]
    have t3 : pf_terms F ||| pf_terms G < 1024 := Nat.lt_of_lt_of_le (Nat.or_lt_two_pow (n := 8) t1 t2) (by decide)
    refine ⟨by omega, fun q => main 3 (by omega) (fun z => by omega), fun q => main 0 (by omega) (fun _ => ⟨rfl, fun z => q (Or.inl z), fun z => q (Or.inr z)⟩)⟩
end SU

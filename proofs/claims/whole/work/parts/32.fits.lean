/-! fits, the class's -/
def ag (k : Nat) (v v' : Nat → Int) : Prop := ∀ j, j < max k 5 → v' j = v j
def vr (v : Nat → Int) : Prop := ∀ j, j < 8 → 0 ≤ v j ∧ v j ≤ 9
def Sx (cs : Nat → Int) (F : pf_F) (w k : Nat) (v : Nat → Int) (t : Nat) : Prop := ∃ v', ag k v v' ∧ vr v' ∧ dl cs v' (lu F k) (some t) = some w
theorem Sx_congr {cs : Nat → Int} {F : pf_F} {w k t : Nat} {v v1 : Nat → Int} (h : ag k v v1) : Sx cs F w k v1 t ↔ Sx cs F w k v t := by
  constructor
  · rintro ⟨v', h1, h2, h3⟩
    exact ⟨v', fun j hj => (h1 j hj).trans (h j hj), h2, h3⟩
  · rintro ⟨v', h1, h2, h3⟩
    exact ⟨v', fun j hj => (h1 j hj).trans (h j hj).symm, h2, h3⟩
theorem lv_cg {cs : Nat → Int} {F : pf_F} {k : Nat} {v v' : Nat → Int} (h : ∀ j, j ≤ k → v' j = v j) (o : Option Nat) : dl cs v' (lv F k) o = dl cs v (lv F k) o := dl_congr (fun p hp => by
  have := (lv_mem hp).2
  unfold mx at this
  exact ⟨h _ (by omega), h _ (by omega)⟩) o
theorem Sx_8 {cs : Nat → Int} {F : pf_F} {w t : Nat} {v : Nat → Int} (hv : vr v) : Sx cs F w 8 v t ↔ t = w := by
  constructor
  · rintro ⟨v', h1, h2, h3⟩
    rw [lu_8] at h3
    exact Option.some.inj h3
  · intro h
    exact ⟨v, fun _ _ => rfl, hv, by rw [lu_8, h]; rfl⟩
theorem Sx_lo {cs : Nat → Int} {F : pf_F} {w k t : Nat} {v : Nat → Int} (hk : k < 5) : Sx cs F w k v t ↔ ∃ u, dl cs v (lv F k) (some t) = some u ∧ Sx cs F w (k + 1) v u := by
  constructor
  · rintro ⟨v', h1, h2, h3⟩
    rw [lu_at (by omega), dl_app, lv_cg (v := v) (fun j hj => h1 j (by omega))] at h3
    cases hd : dl cs v (lv F k) (some t) with
    | none => rw [hd, dl_none] at h3; cases h3
    | some u => rw [hd] at h3; exact ⟨u, rfl, v', fun j hj => h1 j (by omega), h2, h3⟩
  · rintro ⟨u, hu, v', h1, h2, h3⟩
    refine ⟨v', fun j hj => h1 j (by omega), h2, ?_⟩
    rw [lu_at (by omega), dl_app, lv_cg (v := v) (fun j hj => h1 j (by omega)), hu]
    exact h3
theorem pf_in_it {F : pf_F} {p : pf_T} (h : p ∈ it F) : pf_in p.2.1 F ∧ pf_in p.2.2 F := by
  rcases List.mem_append.mp h with h | h
  · exact ⟨Or.inl ⟨p, h, Or.inl rfl⟩, Or.inl ⟨p, h, Or.inr rfl⟩⟩
  · obtain ⟨q, hq, rfl⟩ := List.mem_map.mp h
    exact ⟨Or.inr ⟨q, hq, Or.inl rfl⟩, Or.inr ⟨q, hq, Or.inr rfl⟩⟩
theorem lv_no {F : pf_F} {k : Nat} (h : ¬ pf_in k F) : lv F k = [] := List.eq_nil_iff_forall_not_mem.mpr (fun p hp => by
  have h1 := lv_mem hp
  have h2 := pf_in_it h1.1
  have h3 := h1.2
  unfold mx at h3
  rcases (show p.2.1 = k ∨ p.2.2 = k by omega) with z | z
  · rw [z] at h2; exact h h2.1
  · rw [z] at h2; exact h h2.2)
theorem Sx_no {cs : Nat → Int} {F : pf_F} {w k t : Nat} {v : Nat → Int} (hk : k < 8) (hv : vr v) (hn : ¬ pf_in k F) : Sx cs F w k v t ↔ Sx cs F w (k + 1) v t := by
  constructor
  · rintro ⟨v', h1, h2, h3⟩
    refine ⟨fun j => if j = k then v k else v' j, fun j hj => ?_, fun j hj => ?_, ?_⟩
    · show (if j = k then v k else v' j) = v j
      split
      · next z => rw [z]
      · next z => exact h1 j (by omega)
    · show 0 ≤ (if j = k then v k else v' j) ∧ (if j = k then v k else v' j) ≤ 9
      split
      · exact hv k hk
      · exact h2 j hj
    · rw [lu_at hk, lv_no hn, List.nil_append] at h3
      rw [← h3]
      refine dl_congr (fun p hp => ?_) _
      have h4 := pf_in_it (lu_mem hp)
      have z1 : ¬ p.2.1 = k := fun z => hn (by rw [← z]; exact h4.1)
      have z2 : ¬ p.2.2 = k := fun z => hn (by rw [← z]; exact h4.2)
      rw [if_neg z1, if_neg z2]
      exact ⟨rfl, rfl⟩
  · rintro ⟨v', h1, h2, h3⟩
    refine ⟨v', fun j hj => h1 j (by omega), h2, ?_⟩
    rw [lu_at hk, lv_no hn, List.nil_append]
    exact h3
theorem va_up_at {v : Nat → Int} {k : Nat} {a : Int} {j : Nat} : va_up v k a j = if j = k then a else v j := by
  by_cases z : j = k
  · simp [va_up, z]
  · simp [va_up, z]
theorem Sx_hi {cs : Nat → Int} {F : pf_F} {w k t : Nat} {v : Nat → Int} (hk : 5 ≤ k) (hk8 : k < 8) : Sx cs F w k v t ↔ ∃ a : Nat, a ≤ 9 ∧ ∃ u, dl cs (va_up v k (a : Int)) (lv F k) (some t) = some u ∧ Sx cs F w (k + 1) (va_up v k (a : Int)) u := by
  constructor
  · rintro ⟨v', h1, h2, h3⟩
    have hk' := h2 k hk8
    have hag : ∀ j, j ≤ k → v' j = va_up v k ((v' k).toNat : Int) j := fun j hj => by
      rw [va_up_at]
      split
      · next z => rw [z]; omega
      · next z => exact h1 j (by omega)
    rw [lu_at hk8, dl_app, lv_cg hag] at h3
    refine ⟨(v' k).toNat, by omega, ?_⟩
    cases hd : dl cs (va_up v k ((v' k).toNat : Int)) (lv F k) (some t) with
    | none => rw [hd, dl_none] at h3; cases h3
    | some u => rw [hd] at h3; exact ⟨u, rfl, v', fun j hj => hag j (by omega), h2, h3⟩
  · rintro ⟨a, ha, u, hu, v', h1, h2, h3⟩
    refine ⟨v', fun j hj => ?_, h2, ?_⟩
    · rw [h1 j (by omega), va_up_at, if_neg (by omega)]
    · rw [lu_at hk8, dl_app, lv_cg (v := va_up v k (a : Int)) (fun j hj => h1 j (by omega)), hu]
      exact h3
theorem cP.keep {M M' : g_M} {i P : Nat} {F : pf_F} (h : cP M P F) (hc : chm i M M') : cP M' P F := by
  have e : ∀ t, t = 7 ∨ t = 10 ∨ t = 11 → M'.1 t P = M.1 t P := fun t ht => hc.2 t P (by omega)
  unfold cP cA
  rw [e 7 (by omega), e 10 (by omega), e 11 (by omega)]
  exact h
section SU
variable {D : Nat} {i w P : Nat} {F : pf_F} {cs : Nat → Int} {Q : g_P}
def suE (D i w P : Nat) (F : pf_F) (cs : Nat → Int) (k : Nat) : Prop := ∀ {M : g_M} {vs : Nat → Int} {t : Nat} {Q : g_P}, cMem M i cs vs → M.1 4 i 2 = (w : Int) → cP M P F → t < 1024 →
  (∀ (r : Nat) (M' : g_M) (vs' : Nat → Int), (r = 1 ∧ Sx cs F w k vs t ∨ r = 0 ∧ ¬ Sx cs F w k vs t) → chm i M M' → cMem M' i cs vs' → ag k vs vs' → Q [.inl (r : Int)] M') → g_Ev D 43 [.inr (4, i), .inr (7, P), .inl (k : Int), .inl (t : Int)] M Q
theorem cMem.pres {M : g_M} {cs vs : Nat → Int} (h : cMem M i cs vs) (hw : M.1 4 i 2 = (w : Int)) : w < 1024 ∧ ∀ a, a < 10 → w.testBit a = decide (0 ≤ cs a) := by
  obtain ⟨_, ⟨w', w1, w2, w3⟩, -⟩ := h
  rw [hw] at w2
  obtain rfl : w = w' := by omega
  exact ⟨w1, w3⟩
theorem cMem.pres2 {M M' : g_M} {cs vs vs' : Nat → Int} (h : cMem M i cs vs) (h' : cMem M' i cs vs') (hw : M.1 4 i 2 = (w : Int)) : M'.1 4 i 2 = (w : Int) := by
  have hp := h.pres hw
  obtain ⟨_, ⟨w', w1, w2, w3⟩, -⟩ := h'
  rw [w2]
  congr 1
  apply Nat.eq_of_testBit_eq
  intro a
  by_cases z : a < 10
  · rw [w3 a z, hp.2 a z]
  · rw [Nat.testBit_lt_two_pow (Nat.lt_of_lt_of_le w1 (Nat.pow_le_pow_right (n := 2) (by omega) (show 10 ≤ a by omega))), Nat.testBit_lt_two_pow (Nat.lt_of_lt_of_le hp.1 (Nat.pow_le_pow_right (n := 2) (by omega) (show 10 ≤ a by omega)))]
theorem c_43 (hw : pf_wf F) : ∀ (m k : Nat), k + m = 8 → 6 + m ≤ D → suE D i w P F cs k := by
  intro m
  induction m generalizing D with
  | zero =>
    intro k hk hD M vs t Q hm hpr hP ht h
    obtain rfl : k = 8 := by omega
    obtain ⟨D, rfl⟩ := g_dep hD
    have hv : vr vs := fun j hj => (hm.2.2.1 j hj).2
    refine g_enter hk_43 hn_43 (rp_43_0 rfl ⟨fun q => by exfalso; omega, fun _ => ?_⟩)
    rw [hpr]
    refine ⟨fun q => h 0 M vs (Or.inr ⟨rfl, ?_⟩) chm.rf hm (fun _ _ => rfl), fun q => h 1 M vs (Or.inl ⟨rfl, ?_⟩) chm.rf hm (fun _ _ => rfl)⟩
    · rw [Sx_8 hv]; omega
    · rw [Sx_8 hv]; omega
  | succ m ih =>
    intro k hk hD M vs t Q hm hpr hP ht h
    obtain ⟨D, rfl⟩ := g_dep (k := m + 7) (D := D) (by omega)
    have ih' : suE (D + m + 6) i w P F cs (k + 1) := ih (k + 1) (by omega) (by omega)
    have hv : vr vs := fun j hj => (hm.2.2.1 j hj).2
    have hc : ∀ a, a < 10 → cs a ≤ 9 := fun a ha => (hm.1 a ha).2.2
    have e7 : D + (m + 7) = D + m + 6 + 1 := by omega
    rw [e7]
    have plain : (∀ u, dl cs vs (lv F k) (some t) = some u → (Sx cs F w k vs t ↔ Sx cs F w (k + 1) vs u)) → (dl cs vs (lv F k) (some t) = none → ¬ Sx cs F w k vs t) → g_Ev (D + m + 6) 45 [.inr (4, i), .inr (7, P), .inl (k : Int), .inl (t : Int)] M (fun q M' => g_R (D + m + 6 + 1) 43 Q 43 [.inr (4, i), .inr (7, P), .inl (k : Int), .inl (t : Int)] (q ++ []) M') := fun hs hn => by
      refine c_45 (by omega) hm hw hP (by omega) ht (rp_43_43 rfl ⟨fun q => ?_, fun q => ?_⟩)
      · exact h 0 M vs (Or.inr ⟨rfl, hn (en_none q)⟩) chm.rf hm (fun _ _ => rfl)
      · refine ⟨by unfold hm_in; omega, ?_⟩
        cases hd : dl cs vs (lv F k) (some t) with
        | none => rw [hd] at q; exact absurd rfl q
        | some u =>
          have hu := dl_lt hc hv (fun p hp => it_mem hw p (lv_mem hp).1) ht hd
          refine ih' hm hpr hP hu (fun r M' vs' hr g1 g2 g3 => rp_43_61 rfl ⟨fun q => ?_, fun q => ?_⟩)
          · exact h 0 M' vs' (Or.inr ⟨rfl, by rw [hs u hd]; rcases hr with ⟨rfl, _⟩ | ⟨_, hr⟩; exact absurd q (by decide); exact hr⟩) g1 g2 (fun j hj => g3 j (by omega))
          · exact h 1 M' vs' (Or.inl ⟨rfl, by rw [hs u hd]; rcases hr with ⟨_, hr⟩ | ⟨rfl, _⟩; exact hr; exact absurd rfl q⟩) g1 g2 (fun j hj => g3 j (by omega))
    refine g_enter hk_43 hn_43 (rp_43_0 rfl ⟨fun _ => ⟨fun q => ?_, fun q => ?_⟩, fun q => by exfalso; omega⟩)
    · refine plain (fun u hu => ?_) (fun hn => ?_)
      · rw [Sx_lo (by omega)]
        constructor
        · rintro ⟨u', h1, h2⟩
          rw [hu] at h1
          cases h1
          exact h2
        · exact fun h2 => ⟨u, hu, h2⟩
      · rw [Sx_lo (by omega)]
        rintro ⟨u', h1, h2⟩
        rw [hn] at h1
        cases h1
    · rw [hP.1, pb_g, pf_terms_bit]
      refine ⟨⟨by have := pf_terms_lt hw; omega, by omega⟩, fun q2 => ?_, fun q2 => ?_⟩
      · have loop : ∀ (n a : Nat) (x : Int) (vs2 : Nat → Int) (M2 : g_M), x = a → a + n = 10 → chm i M M2 → cMem M2 i cs vs2 → ag k vs vs2 → (∀ b : Nat, b < a → ¬ ∃ u, dl cs (va_up vs k (b : Int)) (lv F k) (some t) = some u ∧ Sx cs F w (k + 1) (va_up vs k (b : Int)) u) → g_R (D + m + 6 + 1) 43 Q 73 [.inr (4, i), .inr (7, P), .inl (k : Int), .inl (t : Int), .inl x] [] M2 := by
          intro n
          induction n with
          | zero =>
            intro a x vs2 M2 hx ha hch hm2 hag hno
            subst hx
            refine rp_43_73 rfl ⟨fun _ => h 0 M2 vs2 (Or.inr ⟨rfl, ?_⟩) hch hm2 hag, fun q => by exfalso; omega⟩
            rw [Sx_hi (by omega) (by omega)]
            rintro ⟨b, hb, hb2⟩
            exact hno b (by omega) hb2
          | succ n ihn =>
            intro a x vs2 M2 hx ha hch hm2 hag hno
            subst hx
            refine rp_43_73 rfl ⟨fun q => by exfalso; omega, fun _ => ⟨by omega, ?_⟩⟩
            rw [Int.toNat_natCast]
            have hm3 := hm2.setV (k := k) (v := (a : Int)) (by omega) (by omega)
            have hch3 : chm i M (g_uA M2 (6, i) k (a : Int)) := hch.tr (chm.uA (by simp))
            have hag3 : ∀ j, j ≤ k → va_up vs2 k (a : Int) j = va_up vs k (a : Int) j := fun j hj => by
              rw [va_up_at, va_up_at]
              split
              · rfl
              · exact hag j (by omega)
            refine c_45 (by omega) hm3 hw (hP.keep hch3) (by omega) ht (rp_43_95 rfl ?_)
            rw [lv_cg hag3]
            have next : ∀ (M4 : g_M) (vs4 : Nat → Int), chm i M M4 → cMem M4 i cs vs4 → ag k vs vs4 → (¬ ∃ u, dl cs (va_up vs k (a : Int)) (lv F k) (some t) = some u ∧ Sx cs F w (k + 1) (va_up vs k (a : Int)) u) → g_R (D + m + 6 + 1) 43 Q 73 [.inr (4, i), .inr (7, P), .inl (k : Int), .inl (t : Int), .inl ((a : Int) + 1)] [] M4 := fun M4 vs4 y1 y2 y3 y4 => ihn (a + 1) _ vs4 M4 (by omega) (by omega) y1 y2 y3 (fun b hb => by
              rcases Nat.lt_or_ge b a with z | z
              · exact hno b z
              · obtain rfl : b = a := by omega
                exact y4)
            have hag4 : ag k vs (va_up vs2 k (a : Int)) := fun j hj => by
              rw [va_up_at, if_neg (by omega)]
              exact hag j hj
            refine ⟨fun q => ⟨by unfold hm_in; omega, next _ _ hch3 hm3 hag4 (fun ⟨u, h1, _⟩ => by rw [en_none q] at h1; cases h1)⟩, fun q => ⟨by unfold hm_in; omega, ?_⟩⟩
            cases hd : dl cs (va_up vs k (a : Int)) (lv F k) (some t) with
            | none => rw [hd] at q; exact absurd rfl q
            | some u =>
              have hu := dl_lt hc (vs := va_up vs k (a : Int)) (fun j hj => by rw [va_up_at]; split; omega; exact hv j hj) (fun p hp => it_mem hw p (lv_mem hp).1) ht hd
              have hsx : Sx cs F w (k + 1) (va_up vs2 k (a : Int)) u ↔ Sx cs F w (k + 1) (va_up vs k (a : Int)) u := Sx_congr (fun j hj => hag3 j (by omega))
              refine ih' hm3 (hm.pres2 hm3 hpr) (hP.keep hch3) hu (fun r M' vs' hr g1 g2 g3 => rp_43_113 rfl ⟨fun q => ⟨by unfold hm_in; omega, ?_⟩, fun q => ?_⟩)
              · refine next M' vs' (hch3.tr g1) g2 (fun j hj => (g3 j (by omega)).trans (hag4 j hj)) (fun ⟨u', h1, h2⟩ => ?_)
                rw [hd] at h1
                cases h1
                rcases hr with ⟨rfl, _⟩ | ⟨_, hr⟩
                · exact absurd q (by decide)
                · exact hr (hsx.mpr h2)
              · refine h 1 M' vs' (Or.inl ⟨rfl, ?_⟩) (hch3.tr g1) g2 (fun j hj => (g3 j (by omega)).trans (hag4 j hj))
                rw [Sx_hi (by omega) (by omega)]
                refine ⟨a, by omega, u, hd, hsx.mp ?_⟩
                rcases hr with ⟨_, hr⟩ | ⟨rfl, _⟩
                · exact hr
                · exact absurd rfl q
        exact loop 10 0 0 vs M rfl (by omega) chm.rf hm (fun _ _ => rfl) (fun b hb => by omega)
      · have hnil := lv_no q2
        refine plain (fun u hu => ?_) (fun hn => ?_)
        · rw [hnil] at hu
          cases hu
          exact Sx_no (by omega) hv q2
        · rw [hnil] at hn
          cases hn
end SU
/-- isFitted: suits from the first term on -/
theorem c_149 {D i P : Nat} {M : g_M} {Q : g_P} (h : g_Ev (D + 2) 43 [.inr (4, i), .inr (7, P), .inl ((0 : Nat) : Int), .inl ((0 : Nat) : Int)] M (fun q M' => ∃ r : Int, q = [.inl r] ∧ (0 ≤ r ∧ r ≤ 1) ∧ Q [.inl r] M')) : g_Ev (D + 3) 149 [.inr (4, i), .inr (7, P)] M Q := by
  refine g_enter hk_149 hn_149 (rp_149_0 rfl (h.mono fun q M' _ hq => ?_))
  obtain ⟨r, rfl, hr, hQ⟩ := hq
  exact rp_149_7 rfl ⟨hr, hQ⟩

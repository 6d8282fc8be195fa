/-! THE REFERENCE'S PARTS: put in, taken out -/
def mr (M : g_M) (g i : Nat) : Int × Int × Int := (M.1 0 292 (10 * g + i), M.1 0 293 (10 * g + i), M.1 0 294 (10 * g + i))
def pt (p : pf_T) : Int × Int × Int := ((p.1 : Int), (p.2.1 : Int), (p.2.2 : Int))
/-- the rows of parts apart, nothing of the reference has changed -/
def mre (M M' : g_M) : Prop := ∀ n, n ≠ 292 → n ≠ 293 → n ≠ 294 → M'.1 0 n = M.1 0 n
theorem mF_mr {M : g_M} {g : Nat} {F : pf_F} (h : mF M g F) {i : Nat} {p : pf_T} (hi : F.2[i]? = some p) : mr M g i = pt p := by
  have := h.2.2.2 i p hi
  unfold mr pt
  rw [this.1, this.2.1, this.2.2]
theorem mF_of {M M' : g_M} {g : Nat} {F F' : pf_F} (h : mF M g F) (h0 : F'.1 = F.1) (h1 : ∀ n, n = 287 ∨ n = 288 ∨ n = 289 ∨ n = 290 → M'.1 0 n = M.1 0 n) (h2 : M'.1 0 291 g = (F'.2.length : Int)) (h3 : ∀ i p, F'.2[i]? = some p → mr M' g i = pt p) : mF M' g F' := by
  refine ⟨?_, h2, fun i p hi => ?_, fun i p hi => ?_⟩
  · rw [h1 287 (by simp), h0]
    exact h.1
  · rw [h1 288 (by simp), h1 289 (by simp), h1 290 (by simp)]
    rw [h0] at hi
    exact h.2.2.1 i p hi
  · have := h3 i p hi
    unfold mr pt at this
    injection this with z1 z2
    injection z2 with z2 z3
    exact ⟨z1, z2, z3⟩
theorem m_97b {D : Nat} (hD : 3 ≤ D) {M : g_M} {g a b : Nat} {Q : g_P} (hg : g < 200) (ha : a < 10) (hb : b < 10)
    (h : ∀ M', mch g M M' → mre M M' → (∀ i, mr M' g i = if i = b then mr M g a else mr M g i) → Q [] M') : g_Ev D 97 [.inr (0, 286), .inl (g : Int), .inl (a : Int), .inl (b : Int)] M Q := by
  refine m_97 hD hg ha hb (h _ ((mch.uR (by simp) (by omega)).tr ((mch.uR (by simp) (by omega)).tr (mch.uR (by simp) (by omega)))) (fun n h1 h2 h3 => ?_) (fun i => ?_))
  · funext i
    simp [g_uA_at, h1, h2, h3]
  · unfold mr
    by_cases z : i = b
    · subst z
      simp [g_uA_at]
    · simp [g_uA_at, z]
theorem m_96 {D : Nat} (hD : 4 ≤ D) {M : g_M} {g a : Nat} {F : pf_F} {p : pf_T} {Q : g_P} (hg : g < 200) (hc : mF M g F) (ha : a ≤ F.2.length) (hl : F.2.length < 10)
    (h : ∀ M', mch g M M' → mF M' g (F.1, F.2.insertIdx a p) → Q [] M') : g_Ev D 96 [.inr (0, 286), .inl (g : Int), .inl (a : Int), .inl (p.1 : Int), .inl (p.2.1 : Int), .inl (p.2.2 : Int)] M Q := by
  obtain ⟨D, rfl⟩ := g_dep hD
  have a2 := hc.2.1
  have e0 : ((g : Int)).toNat = g := by omega
  have loop : ∀ (n k : Nat) (x : Int) (M1 : g_M), x = k → k = a + n → k ≤ F.2.length → mch g M M1 → mre M M1 → (∀ i, i ≤ k → mr M1 g i = mr M g i) → (∀ i, k < i → i ≤ F.2.length → mr M1 g i = mr M g (i - 1)) → g_R (D + 4) 96 Q 8 [.inr (0, 286), .inl (g : Int), .inl (a : Int), .inl (p.1 : Int), .inl (p.2.1 : Int), .inl (p.2.2 : Int), .inl x] [] M1 := by
    intro n
    induction n with
    | zero =>
      intro k x M1 hx hk hkl hch hre g3 g4
      subst hx
      have b1 : M1.1 0 291 g = (F.2.length : Int) := by rw [hre 291 (by omega) (by omega) (by omega)]; exact a2
      have e1 : (10 * (g : Int) + (a : Int)).toNat = 10 * g + a := by omega
      refine rg_96_8 rfl ?_
      rw [e0, e1, b1]
      (repeat' first | refine ⟨?_, ?_⟩ | intro _) <;> first | omega | skip
      refine h _ (hch.tr ((mch.uR (by simp) (by omega)).tr ((mch.uR (by simp) (by omega)).tr ((mch.uR (by simp) (by omega)).tr (mch.uC (by simp)))))) (mF_of hc rfl (fun n hn => ?_) ?_ (fun i q hi => ?_))
      · rw [← hre n (by omega) (by omega) (by omega)]
        funext i
        rcases hn with rfl | rfl | rfl | rfl <;> simp [g_uA_at]
      · simp [g_uA_at, List.length_insertIdx, ha]
      · rw [List.getElem?_insertIdx] at hi
        have key : ∀ j, mr (g_uA (g_uA (g_uA (g_uA M1 (0, 292) (10 * g + a) (p.1 : Int)) (0, 293) (10 * g + a) (p.2.1 : Int)) (0, 294) (10 * g + a) (p.2.2 : Int)) (0, 291) g ((F.2.length : Int) + 1)) g j = if j = a then pt p else mr M1 g j := by
          intro j
          unfold mr pt
          by_cases z : j = a
          · subst z
            simp [g_uA_at]
          · simp [g_uA_at, z]
        rw [key]
        split at hi
        · next z =>
          rw [if_neg (by omega), g3 i (by omega)]
          exact mF_mr hc hi
        · split at hi
          · next z z2 =>
            subst z2
            rw [if_pos ha] at hi
            rw [if_pos rfl, Option.some.inj hi]
          · next z z2 =>
            have hlt := (List.getElem?_eq_some_iff.mp hi).1
            rw [if_neg z2, g4 i (by omega) (by omega)]
            exact mF_mr hc hi
    | succ n ih =>
      intro k x M1 hx hk hkl hch hre g3 g4
      subst hx
      refine rg_96_8 rfl ⟨fun q => by omega, fun _ => ⟨by unfold hm_in; omega, ?_⟩⟩
      rw [show (k : Int) - 1 = ((k - 1 : Nat) : Int) by omega]
      refine m_97b (by omega) hg (by omega) (by omega) (fun M2 c1 c2 c3 => rg_96_25 rfl ⟨by unfold hm_in; omega, ih (k - 1) _ M2 (by omega) (by omega) (by omega) (hch.tr c1) (fun n h1 h2 h3 => (c2 n h1 h2 h3).trans (hre n h1 h2 h3)) (fun i hi => ?_) (fun i hi hi2 => ?_)⟩)
      · rw [c3, if_neg (by omega)]
        exact g3 i (by omega)
      · rw [c3]
        by_cases z : i = k
        · rw [if_pos z, z]
          exact g3 (k - 1) (by omega)
        · rw [if_neg z]
          exact g4 i (by omega) hi2
  refine g_enter hk_96 hn_96 (rg_96_0 rfl ⟨⟨by omega, by omega⟩, ?_⟩)
  rw [e0]
  exact loop (F.2.length - a) F.2.length _ M a2 (by omega) (by omega) mch.rf (fun _ _ _ _ => rfl) (fun _ _ => rfl) (fun i hi hi2 => by omega)
theorem m_137 {D : Nat} (hD : 4 ≤ D) {M : g_M} {g a : Nat} {F : pf_F} {Q : g_P} (hg : g < 200) (hc : mF M g F) (hw : pf_wf F) (ha : a < F.2.length)
    (h : ∀ M', mch g M M' → mF M' g (F.1, F.2.eraseIdx a) → Q [] M') : g_Ev D 137 [.inr (0, 286), .inl (g : Int), .inl (a : Int)] M Q := by
  obtain ⟨D, rfl⟩ := g_dep hD
  have l2 := hw.2.1
  have a2 := hc.2.1
  have e0 : ((g : Int)).toNat = g := by omega
  have loop : ∀ (n k : Nat) (x : Int) (M1 : g_M), x = k → k + n + 1 = F.2.length → a ≤ k → mch g M M1 → mre M M1 → (∀ i, i < a → mr M1 g i = mr M g i) → (∀ i, a ≤ i → i < k → mr M1 g i = mr M g (i + 1)) → (∀ i, k ≤ i → mr M1 g i = mr M g i) → g_R (D + 4) 137 Q 2 [.inr (0, 286), .inl (g : Int), .inl (a : Int), .inl x] [] M1 := by
    intro n
    induction n with
    | zero =>
      intro k x M1 hx hk hak hch hre g3 g4 g5
      subst hx
      have b1 : M1.1 0 291 g = (F.2.length : Int) := by rw [hre 291 (by omega) (by omega) (by omega)]; exact a2
      refine rg_137_2 rfl ?_
      rw [e0, b1]
      (repeat' first | refine ⟨?_, ?_⟩ | intro _) <;> first | omega | skip
      refine h _ (hch.tr (mch.uC (by simp))) (mF_of hc rfl (fun n hn => ?_) ?_ (fun i q hi => ?_))
      · rw [← hre n (by omega) (by omega) (by omega)]
        funext i
        rcases hn with rfl | rfl | rfl | rfl <;> simp [g_uA_at]
      · rw [List.length_eraseIdx_of_lt ha]
        simp [g_uA_at]
        omega
      · have key : ∀ j, mr (g_uA M1 (0, 291) g ((F.2.length : Int) - 1)) g j = mr M1 g j := by
          intro j
          unfold mr
          simp [g_uA_at]
        rw [key]
        rw [List.getElem?_eraseIdx] at hi
        split at hi
        · next z =>
          rw [g3 i z]
          exact mF_mr hc hi
        · next z =>
          have hlt := (List.getElem?_eq_some_iff.mp hi).1
          rw [g4 i (by omega) (by omega)]
          exact mF_mr hc hi
    | succ n ih =>
      intro k x M1 hx hk hak hch hre g3 g4 g5
      subst hx
      have b1 : M1.1 0 291 g = (F.2.length : Int) := by rw [hre 291 (by omega) (by omega) (by omega)]; exact a2
      refine rg_137_2 rfl ?_
      rw [e0, b1]
      refine ⟨⟨by omega, by omega⟩, by unfold hm_in; omega, fun q => by omega, fun _ => ⟨by unfold hm_in; omega, ?_⟩⟩
      rw [show (k : Int) + 1 = ((k + 1 : Nat) : Int) by omega]
      refine m_97b (by omega) hg (by omega) (by omega) (fun M2 c1 c2 c3 => rg_137_23 rfl ⟨by unfold hm_in; omega, ih (k + 1) _ M2 (by omega) (by omega) (by omega) (hch.tr c1) (fun n h1 h2 h3 => (c2 n h1 h2 h3).trans (hre n h1 h2 h3)) (fun i hi => ?_) (fun i hi hi2 => ?_) (fun i hi => ?_)⟩)
      · rw [c3, if_neg (by omega)]
        exact g3 i hi
      · rw [c3]
        by_cases z : i = k
        · rw [if_pos z, z]
          exact g5 (k + 1) (by omega)
        · rw [if_neg z]
          exact g4 i hi (by omega)
      · rw [c3, if_neg (by omega)]
        exact g5 i (by omega)
  exact g_enter hk_137 hn_137 (rg_137_0 rfl (loop (F.2.length - a - 1) a _ M rfl (by omega) (Nat.le_refl _) mch.rf (fun _ _ _ _ => rfl) (fun _ _ => rfl) (fun i h1 h2 => by omega) (fun _ _ => rfl)))
theorem m_139 {D : Nat} (hD : 3 ≤ D) {M : g_M} {g : Nat} {F : pf_F} {p : pf_T} {Q : g_P} (hg : g < 200) (hc : mF M g F) (hw : pf_wf F)
    (h1 : p ∈ F.1 → Q [.inl 1] M) (h0 : p ∉ F.1 → Q [.inl 0] M) : g_Ev D 139 [.inr (0, 286), .inl (g : Int), .inl (p.1 : Int), .inl (p.2.1 : Int), .inl (p.2.2 : Int)] M Q := by
  obtain ⟨D, rfl⟩ := g_dep hD
  have l1 := hw.1
  have a1 := hc.1
  have e0 : ((g : Int)).toNat = g := by omega
  have loop : ∀ (n i : Nat) (x : Int), x = i → i + n = F.1.length → (∀ j, j < i → F.1[j]? ≠ some p) → g_R (D + 3) 139 Q 3 [.inr (0, 286), .inl (g : Int), .inl (p.1 : Int), .inl (p.2.1 : Int), .inl (p.2.2 : Int), .inl x] [] M := by
    intro n
    induction n with
    | zero =>
      intro i x hx hi hn
      refine rg_139_3 rfl ⟨⟨by omega, by omega⟩, fun _ => ⟨⟨by omega, by omega⟩, h0 (fun hm => ?_)⟩, fun q => by rw [e0] at q; omega⟩
      obtain ⟨j, hj⟩ := List.getElem?_of_mem hm
      have := (List.getElem?_eq_some_iff.mp hj).1
      exact hn j (by omega) hj
    | succ n ih =>
      intro i x hx hi hn
      subst hx
      have hlt : i < F.1.length := by omega
      have hat := List.getElem?_eq_getElem hlt
      have r := hc.2.2.1 i _ hat
      have e1 : (16 * (g : Int) + (i : Int)).toNat = 16 * g + i := by omega
      have hnext : F.1[i] ≠ p → g_R (D + 3) 139 Q 3 [.inr (0, 286), .inl (g : Int), .inl (p.1 : Int), .inl (p.2.1 : Int), .inl (p.2.2 : Int), .inl ((i : Int) + 1)] [] M := fun hne => ih (i + 1) _ (by omega) (by omega) (fun j hj => by
        rcases Nat.lt_or_ge j i with z | z
        · exact hn j z
        · have : j = i := by omega
          subst this
          rw [hat]
          intro z2
          exact hne (Option.some.inj z2))
      refine rg_139_3 rfl ?_
      rw [e0, e1, a1, r.1, r.2.1, r.2.2]
      generalize hpi : F.1[i] = pi at hnext ⊢
      obtain ⟨pa, pb, pc'⟩ := pi
      obtain ⟨qa, qb, qc⟩ := p
      dsimp only at *
      (repeat' first | refine ⟨?_, ?_⟩ | intro _) <;> first | omega | (refine hnext (fun z => ?_); injection z with z1 z2; injection z2 with z2 z3; omega) | skip
      refine h1 ?_
      rw [show ((qa, qb, qc) : pf_T) = F.1[i] by rw [hpi]; congr 1; omega; congr 1 <;> omega]
      exact List.getElem_mem hlt
  exact g_enter hk_139 hn_139 (rg_139_0 rfl (loop F.1.length 0 0 rfl (by omega) (fun j hj => by omega)))
theorem m_138 {D : Nat} (hD : 4 ≤ D) {M : g_M} {g : Nat} {F : pf_F} {p : pf_T} {Q : g_P} (hg : g < 200) (hc : mF M g F) (hw : pf_wf F)
    (hin : p ∈ F.1 → Q [.inl 1] M) (h1 : p ∉ F.1 → F.1.length < 16 → ∀ M', mch g M M' → mF M' g (F.1 ++ [p], F.2) → Q [.inl 1] M') (h0 : p ∉ F.1 → ¬ F.1.length < 16 → Q [.inl 0] M) : g_Ev D 138 [.inr (0, 286), .inl (g : Int), .inl (p.1 : Int), .inl (p.2.1 : Int), .inl (p.2.2 : Int)] M Q := by
  obtain ⟨D, rfl⟩ := g_dep hD
  have l1 := hw.1
  have a1 := hc.1
  have e0 : ((g : Int)).toNat = g := by omega
  refine g_enter hk_138 hn_138 (rg_138_0 rfl (m_139 (by omega) hg hc hw (fun hm => rg_138_9 rfl ⟨fun q => by omega, fun _ => ⟨⟨by omega, by omega⟩, hin hm⟩⟩) (fun hm => rg_138_9 rfl ⟨fun _ => ⟨⟨by omega, by omega⟩, fun q => ?_, fun q => ⟨⟨by omega, by omega⟩, h0 hm (by rw [e0] at q; omega)⟩⟩, fun q => by omega⟩)))
  rw [e0] at q
  exact m_94 (by omega) hg hc (by omega) (fun M' c1 c2 => rg_138_36 rfl ⟨⟨by omega, by omega⟩, h1 hm (by omega) M' c1 c2⟩)

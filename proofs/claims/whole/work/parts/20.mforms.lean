/-! THE REFERENCE'S FORMULAS -/
def mF (M : g_M) (g : Nat) (F : pf_F) : Prop := M.1 0 287 g = (F.1.length : Int) ∧ M.1 0 291 g = (F.2.length : Int) ∧ (∀ (i : Nat) (p : pf_T), F.1[i]? = some p → M.1 0 288 (16 * g + i) = (p.1 : Int) ∧ M.1 0 289 (16 * g + i) = (p.2.1 : Int) ∧ M.1 0 290 (16 * g + i) = (p.2.2 : Int)) ∧ ∀ (i : Nat) (p : pf_T), F.2[i]? = some p → M.1 0 292 (10 * g + i) = (p.1 : Int) ∧ M.1 0 293 (10 * g + i) = (p.2.1 : Int) ∧ M.1 0 294 (10 * g + i) = (p.2.2 : Int)
/-- only the reference's formula g has changed -/
def mch (g : Nat) (M M' : g_M) : Prop := M'.2 = M.2 ∧ (∀ t n, ¬ (t = 0 ∧ 287 ≤ n ∧ n ≤ 294) → M'.1 t n = M.1 t n) ∧ (∀ i, i ≠ g → M'.1 0 287 i = M.1 0 287 i ∧ M'.1 0 291 i = M.1 0 291 i) ∧ (∀ i, ¬ (16 * g ≤ i ∧ i < 16 * g + 16) → M'.1 0 288 i = M.1 0 288 i ∧ M'.1 0 289 i = M.1 0 289 i ∧ M'.1 0 290 i = M.1 0 290 i) ∧ ∀ i, ¬ (10 * g ≤ i ∧ i < 10 * g + 10) → M'.1 0 292 i = M.1 0 292 i ∧ M'.1 0 293 i = M.1 0 293 i ∧ M'.1 0 294 i = M.1 0 294 i
theorem mch.rf {g : Nat} {M : g_M} : mch g M M := ⟨rfl, fun _ _ _ => rfl, fun _ _ => ⟨rfl, rfl⟩, fun _ _ => ⟨rfl, rfl, rfl⟩, fun _ _ => ⟨rfl, rfl, rfl⟩⟩
theorem mch.tr {g : Nat} {M M' M'' : g_M} (h : mch g M M') (h' : mch g M' M'') : mch g M M'' := by
  refine ⟨h'.1.trans h.1, fun t n hn => (h'.2.1 t n hn).trans (h.2.1 t n hn), fun i hi => ?_, fun i hi => ?_, fun i hi => ?_⟩
  · have a := h.2.2.1 i hi
    have b := h'.2.2.1 i hi
    exact ⟨b.1.trans a.1, b.2.trans a.2⟩
  · have a := h.2.2.2.1 i hi
    have b := h'.2.2.2.1 i hi
    exact ⟨b.1.trans a.1, b.2.1.trans a.2.1, b.2.2.trans a.2.2⟩
  · have a := h.2.2.2.2 i hi
    have b := h'.2.2.2.2 i hi
    exact ⟨b.1.trans a.1, b.2.1.trans a.2.1, b.2.2.trans a.2.2⟩
theorem mF.keep {M M' : g_M} {f g : Nat} {F : pf_F} (h : mF M g F) (hw : pf_wf F) (hc : mch f M M') (hg : g ≠ f) : mF M' g F := by
  have l1 := hw.1
  have l2 := hw.2.1
  have e := hc.2.2.1 g hg
  refine ⟨e.1.trans h.1, e.2.trans h.2.1, fun i p hi => ?_, fun i p hi => ?_⟩
  · have := (List.getElem?_eq_some_iff.mp hi).1
    have a := hc.2.2.2.1 (16 * g + i) (by omega)
    have b := h.2.2.1 i p hi
    exact ⟨a.1.trans b.1, a.2.1.trans b.2.1, a.2.2.trans b.2.2⟩
  · have := (List.getElem?_eq_some_iff.mp hi).1
    have a := hc.2.2.2.2 (10 * g + i) (by omega)
    have b := h.2.2.2 i p hi
    exact ⟨a.1.trans b.1, a.2.1.trans b.2.1, a.2.2.trans b.2.2⟩
theorem mch.uP {g k n : Nat} {v : Int} {M : g_M} (hn : n = 288 ∨ n = 289 ∨ n = 290) (hk : 16 * g ≤ k ∧ k < 16 * g + 16) : mch g M (g_uA M (0, n) k v) := by
  refine ⟨rfl, fun t m hm => ?_, fun i hi => ?_, fun i hi => ?_, fun i hi => ?_⟩
  · funext i
    rw [g_uA_at, if_neg]
    rintro ⟨rfl, rfl, -⟩
    exact hm ⟨rfl, by omega, by omega⟩
  · rcases hn with rfl | rfl | rfl <;> simp [g_uA_at]
  · have : i ≠ k := by omega
    simp [g_uA_at, this]
  · rcases hn with rfl | rfl | rfl <;> simp [g_uA_at]
theorem mch.uR {g k n : Nat} {v : Int} {M : g_M} (hn : n = 292 ∨ n = 293 ∨ n = 294) (hk : 10 * g ≤ k ∧ k < 10 * g + 10) : mch g M (g_uA M (0, n) k v) := by
  refine ⟨rfl, fun t m hm => ?_, fun i hi => ?_, fun i hi => ?_, fun i hi => ?_⟩
  · funext i
    rw [g_uA_at, if_neg]
    rintro ⟨rfl, rfl, -⟩
    exact hm ⟨rfl, by omega, by omega⟩
  · rcases hn with rfl | rfl | rfl <;> simp [g_uA_at]
  · rcases hn with rfl | rfl | rfl <;> simp [g_uA_at]
  · have : i ≠ k := by omega
    simp [g_uA_at, this]
theorem mch.uC {g n : Nat} {v : Int} {M : g_M} (hn : n = 287 ∨ n = 291) : mch g M (g_uA M (0, n) g v) := by
  refine ⟨rfl, fun t m hm => ?_, fun i hi => ?_, fun i hi => ?_, fun i hi => ?_⟩
  · funext i
    rw [g_uA_at, if_neg]
    rintro ⟨rfl, rfl, -⟩
    exact hm ⟨rfl, by omega, by omega⟩
  · simp [g_uA_at, hi]
  · rcases hn with rfl | rfl <;> simp [g_uA_at]
  · rcases hn with rfl | rfl <;> simp [g_uA_at]
theorem m_94 {D : Nat} (hD : 3 ≤ D) {M : g_M} {g : Nat} {F : pf_F} {p : pf_T} {Q : g_P} (hg : g < 200) (hc : mF M g F) (hl : F.1.length < 16)
    (h : ∀ M', mch g M M' → mF M' g (F.1 ++ [p], F.2) → Q [] M') : g_Ev D 94 [.inr (0, 286), .inl (g : Int), .inl (p.1 : Int), .inl (p.2.1 : Int), .inl (p.2.2 : Int)] M Q := by
  obtain ⟨D, rfl⟩ := g_dep hD
  have a1 := hc.1
  have e0 : ((g : Int)).toNat = g := by omega
  have e1 : (16 * (g : Int) + M.1 0 287 g).toNat = 16 * g + F.1.length := by omega
  refine g_enter hk_94 hn_94 (rg_94_0 rfl ?_)
  rw [e0, e1]
  (repeat' first | refine ⟨?_, ?_⟩ | intro _) <;> first | omega | (unfold hm_in; omega) | skip
  refine h _ ((mch.uP (by simp) (by omega)).tr ((mch.uP (by simp) (by omega)).tr ((mch.uP (by simp) (by omega)).tr (mch.uC (by simp))))) ⟨?_, ?_, fun i q hi => ?_, fun i q hi => ?_⟩
  · simp [g_uA_at, a1]
  · simp [g_uA_at, hc.2.1]
  · by_cases hlt : i < F.1.length
    · rw [List.getElem?_append_left hlt] at hi
      have := hc.2.2.1 i q hi
      have hne : ¬ i = F.1.length := by omega
      simp [g_uA_at, hne, this]
    · have := (List.getElem?_eq_some_iff.mp hi).1
      simp at this
      have hi2 : i = F.1.length := by omega
      subst hi2
      have : p = q := by simpa using hi
      subst this
      simp [g_uA_at]
  · simp [g_uA_at, hc.2.2.2 i q hi]
theorem m_97 {D : Nat} (hD : 3 ≤ D) {M : g_M} {g a b : Nat} {Q : g_P} (hg : g < 200) (ha : a < 10) (hb : b < 10)
    (h : Q [] (g_uA (g_uA (g_uA M (0, 292) (10 * g + b) (M.1 0 292 (10 * g + a))) (0, 293) (10 * g + b) (M.1 0 293 (10 * g + a))) (0, 294) (10 * g + b) (M.1 0 294 (10 * g + a)))) : g_Ev D 97 [.inr (0, 286), .inl (g : Int), .inl (a : Int), .inl (b : Int)] M Q := by
  obtain ⟨D, rfl⟩ := g_dep hD
  have e1 : (10 * (g : Int) + (a : Int)).toNat = 10 * g + a := by omega
  have e2 : (10 * (g : Int) + (b : Int)).toNat = 10 * g + b := by omega
  refine g_enter hk_97 hn_97 (rg_97_0 rfl ?_)
  rw [e1, e2]
  (repeat' first | refine ⟨?_, ?_⟩ | intro _) <;> first | omega | (unfold hm_in; omega) | exact h
/-- a formula that has term t -/
theorem m_112 {D : Nat} (hD : 3 ≤ D) {M : g_M} {g : Nat} {t : Int} {F : pf_F} {Q : g_P} (hg : g < 200) (hc : mF M g F) (hw : pf_wf F)
    (h1 : ∀ n : Nat, t = n → pf_in n F → Q [.inl 1] M) (h0 : (∀ n : Nat, t = n → ¬ pf_in n F) → Q [.inl 0] M) : g_Ev D 112 [.inr (0, 286), .inl (g : Int), .inl t] M Q := by
  obtain ⟨D, rfl⟩ := g_dep hD
  have l1 := hw.1
  have l2 := hw.2.1
  have a1 := hc.1
  have a2 := hc.2.1
  have e0 : ((g : Int)).toNat = g := by omega
  have loop2 : (∀ p ∈ F.1, ¬ (t = p.2.1 ∨ t = p.2.2)) → ∀ (n i : Nat) (x : Int), x = i → i + n = F.2.length → (∀ (j : Nat) (p : pf_T), j < i → F.2[j]? = some p → ¬ (t = p.2.1 ∨ t = p.2.2)) → g_R (D + 3) 112 Q 52 [.inr (0, 286), .inl (g : Int), .inl t, .inl x] [] M := by
    intro hno n
    induction n with
    | zero =>
      intro i x hx hi hj
      refine rg_112_52 rfl ⟨⟨by omega, by omega⟩, fun _ => ⟨⟨by omega, by omega⟩, h0 (fun n hn hin => ?_)⟩, fun q => by rw [e0] at q; omega⟩
      rcases hin with ⟨p, hp, h2⟩ | ⟨p, hp, h2⟩
      · exact hno p hp (by omega)
      · obtain ⟨j, hj2⟩ := List.getElem?_of_mem hp
        exact hj j p (by have := (List.getElem?_eq_some_iff.mp hj2).1; omega) hj2 (by omega)
    | succ n ih =>
      intro i x hx hi hj
      subst hx
      have hlt : i < F.2.length := by omega
      have hat := List.getElem?_eq_getElem hlt
      have r := hc.2.2.2 i _ hat
      have e1 : (10 * (g : Int) + (i : Int)).toNat = 10 * g + i := by omega
      refine rg_112_52 rfl ?_
      rw [e0, e1, a2, r.2.1, r.2.2]
      have hyes : (t = (F.2[i].2.1 : Int) ∨ t = (F.2[i].2.2 : Int)) → Q [.inl 1] M := fun z => by
        rcases z with z | z
        · exact h1 _ z (Or.inr ⟨_, List.getElem_mem hlt, Or.inl rfl⟩)
        · exact h1 _ z (Or.inr ⟨_, List.getElem_mem hlt, Or.inr rfl⟩)
      (repeat' first | refine ⟨?_, ?_⟩ | intro _) <;> first | omega | (unfold hm_in; omega) | exact hyes (by omega) | skip
      refine ih (i + 1) _ (by omega) (by omega) (fun j p hj1 hj2 => ?_)
      rcases Nat.lt_or_ge j i with z | z
      · exact hj j p z hj2
      · have : j = i := by omega
        subst this
        rw [hat] at hj2
        cases hj2
        omega
  have loop1 : ∀ (n i : Nat) (x : Int), x = i → i + n = F.1.length → (∀ (j : Nat) (p : pf_T), j < i → F.1[j]? = some p → ¬ (t = p.2.1 ∨ t = p.2.2)) → g_R (D + 3) 112 Q 2 [.inr (0, 286), .inl (g : Int), .inl t, .inl x] [] M := by
    intro n
    induction n with
    | zero =>
      intro i x hx hi hj
      refine rg_112_2 rfl ⟨⟨by omega, by omega⟩, fun _ => loop2 (fun p hp => ?_) F.2.length 0 0 rfl (by omega) (fun j p hj1 => by omega), fun q => by rw [e0] at q; omega⟩
      obtain ⟨j, hj2⟩ := List.getElem?_of_mem hp
      exact hj j p (by have := (List.getElem?_eq_some_iff.mp hj2).1; omega) hj2
    | succ n ih =>
      intro i x hx hi hj
      subst hx
      have hlt : i < F.1.length := by omega
      have hat := List.getElem?_eq_getElem hlt
      have r := hc.2.2.1 i _ hat
      have e1 : (16 * (g : Int) + (i : Int)).toNat = 16 * g + i := by omega
      refine rg_112_2 rfl ?_
      rw [e0, e1, a1, r.2.1, r.2.2]
      have hyes : (t = (F.1[i].2.1 : Int) ∨ t = (F.1[i].2.2 : Int)) → Q [.inl 1] M := fun z => by
        rcases z with z | z
        · exact h1 _ z (Or.inl ⟨_, List.getElem_mem hlt, Or.inl rfl⟩)
        · exact h1 _ z (Or.inl ⟨_, List.getElem_mem hlt, Or.inr rfl⟩)
      (repeat' first | refine ⟨?_, ?_⟩ | intro _) <;> first | omega | (unfold hm_in; omega) | exact hyes (by omega) | skip
      refine ih (i + 1) _ (by omega) (by omega) (fun j p hj1 hj2 => ?_)
      rcases Nat.lt_or_ge j i with z | z
      · exact hj j p z hj2
      · have : j = i := by omega
        subst this
        rw [hat] at hj2
        cases hj2
        omega
  exact g_enter hk_112 hn_112 (rg_112_0 rfl (loop1 F.1.length 0 0 rfl (by omega) (fun j p hj => by omega)))

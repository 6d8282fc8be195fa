/-! FORMULAS: what the rows of numbers mean -/
abbrev pf_T : Type := Nat × Nat × Nat
abbrev pf_F : Type := List pf_T × List pf_T
def pf_ok (p : pf_T) : Prop := p.1 < 2 ∧ p.2.1 < 8 ∧ p.2.2 < 8
def pf_wf (F : pf_F) : Prop := F.1.length ≤ 16 ∧ F.2.length ≤ 10 ∧ (∀ p ∈ F.1, pf_ok p) ∧ ∀ p ∈ F.2, pf_ok p
def pf_c (p : pf_T) : Int := 64 * (p.1 : Int) + 8 * (p.2.1 : Int) + (p.2.2 : Int)
theorem pf_c_inj {p q : pf_T} (hp : pf_ok p) (hq : pf_ok q) (h : pf_c p = pf_c q) : p = q := by
  obtain ⟨a, b, c⟩ := p
  obtain ⟨a', b', c'⟩ := q
  unfold pf_ok at hp hq
  unfold pf_c at h
  dsimp only at hp hq h
  obtain rfl : a = a' := by omega
  obtain rfl : b = b' := by omega
  obtain rfl : c = c' := by omega
  rfl
theorem pf_c_rg {p : pf_T} (hp : pf_ok p) : 0 ≤ pf_c p ∧ pf_c p < 128 ∧ pf_c p / 64 = p.1 ∧ pf_c p / 8 % 8 = p.2.1 ∧ pf_c p % 8 = p.2.2 ∧ (128 + pf_c p) / 64 = 2 + p.1 ∧ (128 + pf_c p) / 8 % 8 = p.2.1 ∧ (128 + pf_c p) % 8 = p.2.2 := by
  obtain ⟨a, b, c⟩ := p
  unfold pf_ok at hp
  unfold pf_c
  dsimp only at hp ⊢
  omega
/-- the class's formula f -/
def cF (M : g_M) (f : Nat) (F : pf_F) : Prop := M.1 1 f 2 = (F.1.length : Int) ∧ M.1 1 f 3 = (F.2.length : Int) ∧ (∀ (i : Nat) (p : pf_T), F.1[i]? = some p → M.1 2 f i = pf_c p) ∧ ∀ (i : Nat) (p : pf_T), F.2[i]? = some p → M.1 3 f i = 128 + pf_c p
/-- only the class's formula f has changed -/
def ch1 (f : Nat) (M M' : g_M) : Prop := M'.2 = M.2 ∧ ∀ t n, ¬ ((t = 1 ∨ t = 2 ∨ t = 3) ∧ n = f) → M'.1 t n = M.1 t n
theorem ch1.rf {f : Nat} {M : g_M} : ch1 f M M := ⟨rfl, fun _ _ _ => rfl⟩
theorem ch1.tr {f : Nat} {M M' M'' : g_M} (h : ch1 f M M') (h' : ch1 f M' M'') : ch1 f M M'' := ⟨h'.1.trans h.1, fun t n hn => (h'.2 t n hn).trans (h.2 t n hn)⟩
theorem g_uA_at {M : g_M} {q : Nat × Nat} {k : Nat} {v : Int} {t n i : Nat} : (g_uA M q k v).1 t n i = if t = q.1 ∧ n = q.2 ∧ i = k then v else M.1 t n i := by
  show (bif Nat.beq t q.1 && Nat.beq n q.2 then va_up (M.1 t n) k v else M.1 t n) i = _
  by_cases h1 : t = q.1
  · by_cases h2 : n = q.2
    · subst h1; subst h2
      simp [va_up]
    · rw [g_nbeq h2, Bool.and_false]
      simp [h2]
  · rw [g_nbeq h1, Bool.false_and]
    simp [h1]
theorem g_cp_at {M : g_M} {a b : Nat × Nat} {sp dp c : Nat} {t n i : Nat} : (g_cp M a b sp dp c).1 t n i = if t = b.1 ∧ n = b.2 ∧ dp ≤ i ∧ i < dp + c then M.1 a.1 a.2 (sp + (i - dp)) else M.1 t n i := by
  show (bif Nat.beq t b.1 && Nat.beq n b.2 then va_cpy (M.1 a.1 a.2) (M.1 b.1 b.2) sp dp c else M.1 t n) i = _
  by_cases h1 : t = b.1
  · by_cases h2 : n = b.2
    · subst h1; subst h2
      simp [va_cpy]
    · rw [g_nbeq h2, Bool.and_false]
      simp [h2]
  · rw [g_nbeq h1, Bool.false_and]
    simp [h1]
theorem ch1.uA {f t k : Nat} {v : Int} {M : g_M} (ht : t = 1 ∨ t = 2 ∨ t = 3) : ch1 f M (g_uA M (t, f) k v) := by
  refine ⟨rfl, fun t' n hn => ?_⟩
  funext i
  rw [g_uA_at, if_neg]
  rintro ⟨rfl, rfl, -⟩
  exact hn ⟨ht, rfl⟩
theorem ch1.cp {f t sp dp c : Nat} {a : Nat × Nat} {M : g_M} (ht : t = 1 ∨ t = 2 ∨ t = 3) : ch1 f M (g_cp M a (t, f) sp dp c) := by
  refine ⟨rfl, fun t' n hn => ?_⟩
  funext i
  rw [g_cp_at, if_neg]
  rintro ⟨rfl, rfl, -⟩
  exact hn ⟨ht, rfl⟩
theorem cF.keep {M M' : g_M} {f g : Nat} {F : pf_F} (h : cF M g F) (hc : ch1 f M M') (hg : g ≠ f) : cF M' g F := by
  have e : ∀ t, M'.1 t g = M.1 t g := fun t => hc.2 t g (fun z => hg z.2)
  unfold cF
  rw [e 1, e 2, e 3]
  exact h
/-- depth -/
theorem g_dep {D k : Nat} (h : k ≤ D) : ∃ D', D = D' + k := ⟨D - k, by omega⟩
theorem c_9 {D : Nat} (hD : 3 ≤ D) {M : g_M} {f : Nat} {Q : g_P} (h : ∀ M', ch1 f M M' → cF M' f ([], []) → Q [] M') : g_Ev D 9 [.inr (1, f)] M Q := by
  obtain ⟨D, rfl⟩ := g_dep hD
  refine g_enter hk_9 hn_9 (rg_9_0 rfl (h _ ((ch1.uA (by simp)).tr (ch1.uA (by simp))) ?_))
  refine ⟨?_, ?_, fun i p hi => ?_, fun i p hi => ?_⟩
  · simp [g_uA_at]
  · simp [g_uA_at]
  · simp at hi
  · simp at hi
theorem c_15 {D : Nat} (hD : 3 ≤ D) {M : g_M} {f : Nat} {F : pf_F} {p : pf_T} {Q : g_P} (hc : cF M f F) (hw : pf_wf F)
    (h1 : F.1.length < 16 → ∀ M', ch1 f M M' → cF M' f (F.1 ++ [p], F.2) → Q [.inl 1] M') (h0 : ¬ F.1.length < 16 → Q [.inl 0] M) : g_Ev D 15 [.inr (1, f), .inl (pf_c p)] M Q := by
  obtain ⟨D, rfl⟩ := g_dep hD
  have l1 := hw.1
  have a1 := hc.1
  refine g_enter hk_15 hn_15 (rg_15_0 rfl ⟨fun q => ⟨⟨by omega, by omega⟩, ?_, ⟨by omega, by omega⟩, h1 (by omega) _ ((ch1.uA (by simp)).tr (ch1.uA (by simp))) ?_⟩, fun q => ⟨⟨by omega, by omega⟩, h0 (by omega)⟩⟩)
  · unfold hm_in
    omega
  · refine ⟨?_, ?_, fun i p' hi => ?_, fun i p' hi => ?_⟩
    · simp [g_uA_at, a1]
    · simp [g_uA_at, hc.2.1]
    · have e : (M.1 1 f 2).toNat = F.1.length := by omega
      simp only [g_uA_at, e]
      by_cases hl : i < F.1.length
      · rw [List.getElem?_append_left hl] at hi
        have := hc.2.2.1 i p' hi
        have hne : i ≠ F.1.length := by omega
        simp [hne, this]
      · have hi2 : i = F.1.length := by
          have := (List.getElem?_eq_some_iff.mp hi).1
          simp at this
          omega
        subst hi2
        have : p = p' := by simpa using hi
        subst this
        simp
    · simp [g_uA_at, hc.2.2.2 i p' hi]
theorem c_74 {D : Nat} (hD : 4 ≤ D) {M : g_M} {f : Nat} {F : pf_F} {p : pf_T} {Q : g_P} (hc : cF M f F) (hw : pf_wf F) (hp : pf_ok p)
    (hin : p ∈ F.1 → Q [.inl 1] M) (h1 : p ∉ F.1 → F.1.length < 16 → ∀ M', ch1 f M M' → cF M' f (F.1 ++ [p], F.2) → Q [.inl 1] M') (h0 : p ∉ F.1 → ¬ F.1.length < 16 → Q [.inl 0] M) : g_Ev D 74 [.inr (1, f), .inl (pf_c p)] M Q := by
  obtain ⟨D, rfl⟩ := g_dep hD
  have l1 := hw.1
  have a1 := hc.1
  have loop : ∀ (n i : Nat) (x : Int), x = i → i + n = F.1.length → (∀ j, j < i → F.1[j]? ≠ some p) → g_R (D + 4) 74 Q 2 [.inr (1, f), .inl (pf_c p), .inl x] [] M := by
    intro n
    induction n with
    | zero =>
      intro i x hx hi hn
      have hni : p ∉ F.1 := fun hm => by
        obtain ⟨j, hj⟩ := List.getElem?_of_mem hm
        have := (List.getElem?_eq_some_iff.mp hj).1
        exact hn j (by omega) hj
      refine rg_74_2 rfl ⟨fun _ => ?_, fun q => by omega⟩
      exact c_15 (by omega) hc hw (fun hl M' g1 g2 => rg_74_33 rfl ⟨⟨by omega, by omega⟩, h1 hni hl M' g1 g2⟩) (fun hl => rg_74_33 rfl ⟨⟨by omega, by omega⟩, h0 hni hl⟩)
    | succ n ih =>
      intro i x hx hi hn
      subst hx
      have hlt : i < F.1.length := by omega
      have hat : F.1[i]? = some F.1[i] := List.getElem?_eq_getElem hlt
      have e := hc.2.2.1 i _ hat
      have ok := hw.2.2.1 _ (List.getElem_mem hlt)
      refine rg_74_2 rfl ⟨fun q => by omega, fun _ => ⟨⟨by omega, by omega⟩, fun q => ⟨by unfold hm_in; omega, ih (i + 1) _ (by omega) (by omega) (fun j hj => ?_)⟩, fun q => ⟨⟨by omega, by omega⟩, hin ?_⟩⟩⟩
      · rcases Nat.lt_or_ge j i with z | z
        · exact hn j z
        · have : j = i := by omega
          subst this
          rw [hat]
          intro z
          apply q
          rw [Int.toNat_natCast, e, Option.some.inj z]
      · rw [Int.toNat_natCast, e] at q
        rw [← pf_c_inj ok hp q]
        exact List.getElem_mem hlt
  exact g_enter hk_74 hn_74 (rg_74_0 rfl (loop F.1.length 0 0 rfl (by omega) (fun j hj => by omega)))
theorem c_18 {D : Nat} (hD : 3 ≤ D) {M : g_M} {f a : Nat} {F : pf_F} {p : pf_T} {Q : g_P} (hc : cF M f F) (hw : pf_wf F) (ha : a ≤ F.2.length)
    (h1 : F.2.length < 10 → ∀ M', ch1 f M M' → cF M' f (F.1, F.2.insertIdx a p) → Q [.inl 1] M') (h0 : ¬ F.2.length < 10 → Q [.inl 0] M) : g_Ev D 18 [.inr (1, f), .inl (a : Int), .inl (128 + pf_c p)] M Q := by
  obtain ⟨D, rfl⟩ := g_dep hD
  have l2 := hw.2.1
  have a2 := hc.2.1
  have loop : F.2.length < 10 → ∀ (n k : Nat) (x : Int) (M1 : g_M), x = k → k = a + n → k ≤ F.2.length → ch1 f M M1 → (∀ i, M1.1 1 f i = M.1 1 f i) → (∀ i, M1.1 2 f i = M.1 2 f i) → (∀ i, i ≤ k → M1.1 3 f i = M.1 3 f i) → (∀ i, k < i → i ≤ F.2.length → M1.1 3 f i = M.1 3 f (i - 1)) → g_R (D + 3) 18 Q 28 [.inr (1, f), .inl (a : Int), .inl (128 + pf_c p), .inl x] [] M1 := by
    intro hl n
    induction n with
    | zero =>
      intro k x M1 hx hk hkl hch g1 g2 g3 g4
      subst hx
      have b1 := g1 3
      refine rg_18_28 rfl ⟨fun _ => ⟨⟨by omega, by omega⟩, by unfold hm_in; omega, ⟨by omega, by omega⟩, h1 hl _ (hch.tr ((ch1.uA (by simp)).tr (ch1.uA (by simp)))) ⟨?_, ?_, fun i q hi => ?_, fun i q hi => ?_⟩⟩, fun q => by omega⟩
      · simp [g_uA_at, g1, hc.1]
      · simp [g_uA_at, g1, a2, List.length_insertIdx, ha]
      · simp [g_uA_at, g2, hc.2.2.1 i q hi]
      · rw [List.getElem?_insertIdx] at hi
        simp only [g_uA_at, Int.toNat_natCast]
        simp only [show ¬ ((3 : Nat) = 1) by decide, false_and, if_false, true_and]
        split at hi
        · next z =>
          rw [if_neg (by omega), g3 i (by omega)]
          exact hc.2.2.2 i q hi
        · split at hi
          · next z z2 =>
            subst z2
            rw [if_pos ha] at hi
            rw [if_pos rfl, Option.some.inj hi]
          · next z z2 =>
            have hlt := (List.getElem?_eq_some_iff.mp hi).1
            rw [if_neg z2, g4 i (by omega) (by omega)]
            exact hc.2.2.2 (i - 1) q hi
    | succ n ih =>
      intro k x M1 hx hk hkl hch g1 g2 g3 g4
      subst hx
      refine rg_18_28 rfl ⟨fun q => by omega, fun _ => ⟨by unfold hm_in; omega, ⟨by omega, by omega⟩, ⟨by omega, by omega⟩, by unfold hm_in; omega, ih (k - 1) _ _ (by omega) (by omega) (by omega) (hch.tr (ch1.uA (by simp))) (fun i => by simp [g_uA_at, g1]) (fun i => by simp [g_uA_at, g2]) (fun i hi => ?_) (fun i hi hi2 => ?_)⟩⟩
      · simp only [g_uA_at, Int.toNat_natCast]
        rw [if_neg (by omega)]
        exact g3 i (by omega)
      · simp only [g_uA_at, Int.toNat_natCast]
        by_cases z : i = k
        · subst z
          rw [if_pos (by simp)]
          rw [show ((i : Int) - 1).toNat = i - 1 by omega]
          exact g3 (i - 1) (by omega)
        · rw [if_neg (by omega)]
          exact g4 i (by omega) hi2
  refine g_enter hk_18 hn_18 (rg_18_0 rfl ⟨fun q => ⟨⟨by omega, by omega⟩, h0 (by omega)⟩, fun q => ⟨fun z => by omega, fun _ => ⟨fun _ => ?_, fun z => by omega⟩⟩⟩)
  exact loop (by omega) (F.2.length - a) F.2.length _ M a2 (by omega) (by omega) ch1.rf (fun _ => rfl) (fun _ => rfl) (fun _ _ => rfl) (fun i hi hi2 => by omega)
theorem c_17 {D : Nat} (hD : 4 ≤ D) {M : g_M} {f : Nat} {F : pf_F} {p : pf_T} {Q : g_P} (hc : cF M f F) (hw : pf_wf F)
    (h1 : F.2.length < 10 → ∀ M', ch1 f M M' → cF M' f (F.1, F.2 ++ [p]) → Q [.inl 1] M') (h0 : ¬ F.2.length < 10 → Q [.inl 0] M) : g_Ev D 17 [.inr (1, f), .inl (128 + pf_c p)] M Q := by
  obtain ⟨D, rfl⟩ := g_dep hD
  refine g_enter hk_17 hn_17 (rg_17_0 rfl ?_)
  rw [hc.2.1]
  refine c_18 (by omega) hc hw (Nat.le_refl _) (fun hl M' g1 g2 => rg_17_9 rfl ⟨⟨by omega, by omega⟩, h1 hl M' g1 ?_⟩) (fun hl => rg_17_9 rfl ⟨⟨by omega, by omega⟩, h0 hl⟩)
  rwa [List.insertIdx_length_self] at g2
theorem c_73 {D : Nat} (hD : 3 ≤ D) {M : g_M} {f a : Nat} {F : pf_F} {Q : g_P} (hc : cF M f F) (hw : pf_wf F) (ha : a < F.2.length)
    (h1 : ∀ M', ch1 f M M' → cF M' f (F.1, F.2.eraseIdx a) → Q [] M') : g_Ev D 73 [.inr (1, f), .inl (a : Int)] M Q := by
  obtain ⟨D, rfl⟩ := g_dep hD
  have l2 := hw.2.1
  have a2 := hc.2.1
  have loop : ∀ (n k : Nat) (x : Int) (M1 : g_M), x = k → k + n + 1 = F.2.length → a ≤ k → ch1 f M M1 → M1.1 1 f 2 = M.1 1 f 2 → M1.1 1 f 3 = M.1 1 f 3 - 1 → (∀ i, M1.1 2 f i = M.1 2 f i) → (∀ i, i < a → M1.1 3 f i = M.1 3 f i) → (∀ i, a ≤ i → i < k → M1.1 3 f i = M.1 3 f (i + 1)) → (∀ i, k ≤ i → M1.1 3 f i = M.1 3 f i) → g_R (D + 3) 73 Q 25 [.inr (1, f), .inl (a : Int), .inl x] [] M1 := by
    intro n
    induction n with
    | zero =>
      intro k x M1 hx hk hak hch g1 g1' g2 g3 g4 g5
      subst hx
      refine rg_73_25 rfl ⟨fun _ => h1 _ hch ⟨?_, ?_, fun i q hi => ?_, fun i q hi => ?_⟩, fun q => by omega⟩
      · rw [g1, hc.1]
      · rw [g1', a2, List.length_eraseIdx_of_lt ha]
        omega
      · rw [g2]
        exact hc.2.2.1 i q hi
      · rw [List.getElem?_eraseIdx] at hi
        split at hi
        · next z =>
          rw [g3 i z]
          exact hc.2.2.2 i q hi
        · next z =>
          have hlt := (List.getElem?_eq_some_iff.mp hi).1
          rw [g4 i (by omega) (by omega)]
          exact hc.2.2.2 (i + 1) q hi
    | succ n ih =>
      intro k x M1 hx hk hak hch g1 g1' g2 g3 g4 g5
      subst hx
      refine rg_73_25 rfl ⟨fun q => by omega, fun _ => ⟨by unfold hm_in; omega, ⟨by omega, by omega⟩, ⟨by omega, by omega⟩, by unfold hm_in; omega, ih (k + 1) _ _ (by omega) (by omega) (by omega) (hch.tr (ch1.uA (by simp))) (by simp [g_uA_at, g1]) (by simp [g_uA_at, g1']) (fun i => by simp [g_uA_at, g2]) (fun i hi => ?_) (fun i hi hi2 => ?_) (fun i hi => ?_)⟩⟩
      · simp only [g_uA_at, Int.toNat_natCast]
        rw [if_neg (by omega)]
        exact g3 i hi
      · simp only [g_uA_at, Int.toNat_natCast]
        by_cases z : i = k
        · subst z
          rw [if_pos (by simp), show ((i : Int) + 1).toNat = i + 1 by omega]
          exact g5 (i + 1) (by omega)
        · rw [if_neg (by omega)]
          exact g4 i hi (by omega)
      · simp only [g_uA_at, Int.toNat_natCast]
        rw [if_neg (by omega)]
        exact g5 i (by omega)
  refine g_enter hk_73 hn_73 (rg_73_0 rfl ⟨fun q => by omega, fun _ => ⟨fun _ => ⟨by unfold hm_in; omega, ?_⟩, fun q => by omega⟩⟩)
  exact loop (F.2.length - a - 1) a _ _ rfl (by omega) (Nat.le_refl _) (ch1.uA (by simp)) (by simp [g_uA_at]) (by simp [g_uA_at]) (fun i => by simp [g_uA_at]) (fun i hi => by simp [g_uA_at]) (fun i hi hi2 => by omega) (fun i hi => by simp [g_uA_at])
theorem c_21 {D : Nat} (hD : 3 ≤ D) {M : g_M} {f g : Nat} {F G : pf_F} {Q : g_P} (hfg : g ≠ f) (hc : cF M f F) (hw : pf_wf F) (hcg : cF M g G) (hwg : pf_wf G)
    (h1 : F.1.length + G.1.length ≤ 16 → F.2.length + G.2.length ≤ 10 → ∀ M', ch1 f M M' → cF M' f (F.1 ++ G.1, F.2 ++ G.2) → Q [.inl 1] M') (h0 : ¬ (F.1.length + G.1.length ≤ 16 ∧ F.2.length + G.2.length ≤ 10) → Q [.inl 0] M) : g_Ev D 21 [.inr (1, f), .inr (1, g)] M Q := by
  obtain ⟨D, rfl⟩ := g_dep hD
  have l1 := hw.1
  have l2 := hw.2.1
  have a1 := hc.1
  have a2 := hc.2.1
  have b1 := hcg.1
  have b2 := hcg.2.1
  have k1 := hwg.1
  have k2 := hwg.2.1
  refine g_enter hk_21 hn_21 (rg_21_0 rfl ⟨by unfold hm_in; omega, fun q => ⟨⟨by omega, by omega⟩, h0 (by omega)⟩, fun q => ⟨by unfold hm_in; omega, fun q2 => ⟨⟨by omega, by omega, by omega, by omega, by omega⟩, ⟨by omega, by omega, by omega, by omega, by omega⟩, by unfold hm_in; omega, ?_, ⟨by omega, by omega⟩, h1 (by omega) (by omega) _ ((ch1.cp (by simp)).tr ((ch1.cp (by simp)).tr ((ch1.uA (by simp)).tr (ch1.uA (by simp))))) ⟨?_, ?_, fun i p hi => ?_, fun i p hi => ?_⟩⟩, fun q2 => ⟨⟨by omega, by omega⟩, h0 (by omega)⟩⟩⟩)
  · simp only [g_uA_at, g_cp_at]
    unfold hm_in
    simp [hfg]
    omega
  · simp [g_uA_at, g_cp_at, hfg, a1, b1]
  · simp [g_uA_at, g_cp_at, hfg, a2, b2]
  · have e : (M.1 1 f 2).toNat = F.1.length := by omega
    have e2 : (M.1 1 g 2).toNat = G.1.length := by omega
    simp only [g_uA_at, g_cp_at, e, e2]
    simp only [show ¬ ((2 : Nat) = 1) by decide, show ¬ ((2 : Nat) = 3) by decide, false_and, if_false, true_and]
    by_cases hl : i < F.1.length
    · rw [List.getElem?_append_left hl] at hi
      rw [if_neg (by omega)]
      exact hc.2.2.1 i p hi
    · rw [List.getElem?_append_right (by omega)] at hi
      have := (List.getElem?_eq_some_iff.mp hi).1
      rw [if_pos (by omega)]
      have := hcg.2.2.1 _ p hi
      simpa using this
  · have e : (M.1 1 f 3).toNat = F.2.length := by omega
    have e2 : (M.1 1 g 3).toNat = G.2.length := by omega
    simp only [g_uA_at, g_cp_at, e, e2]
    simp only [show ¬ ((3 : Nat) = 1) by decide, show ¬ ((3 : Nat) = 2) by decide, false_and, if_false, true_and]
    by_cases hl : i < F.2.length
    · rw [List.getElem?_append_left hl] at hi
      rw [if_neg (by omega)]
      exact hc.2.2.2 i p hi
    · rw [List.getElem?_append_right (by omega)] at hi
      have := (List.getElem?_eq_some_iff.mp hi).1
      rw [if_pos (by omega)]
      have := hcg.2.2.2 _ p hi
      simpa using this
theorem c_20 {D : Nat} (hD : 4 ≤ D) {M : g_M} {f g : Nat} {G : pf_F} {Q : g_P} (hfg : g ≠ f) (hcg : cF M g G) (hwg : pf_wf G)
    (h1 : ∀ M', ch1 f M M' → cF M' f G → Q [] M') : g_Ev D 20 [.inr (1, f), .inr (1, g)] M Q := by
  obtain ⟨D, rfl⟩ := g_dep hD
  refine g_enter hk_20 hn_20 (rg_20_0 rfl ?_)
  have k1 := hwg.1
  have k2 := hwg.2.1
  refine c_9 (by omega) (fun M1 g1 g2 => rg_20_4 rfl ?_)
  refine c_21 (by omega) hfg g2 ⟨by simp, by simp, by simp, by simp⟩ (hcg.keep g1 hfg) hwg (fun _ _ M' g3 g4 => rg_20_9 rfl (h1 M' (g1.tr g3) (by simpa using g4))) (fun z => absurd ⟨by simpa using k1, by simpa using k2⟩ z)

/-! PLANS -/
def pq (p : pf_T) : pf_T := (2 + p.1, p.2.1, p.2.2)
def it (F : pf_F) : List pf_T := F.1 ++ F.2.map pq
def mx (p : pf_T) : Nat := max p.2.1 p.2.2
def lv (F : pf_F) (k : Nat) : List pf_T := (it F).filter (fun p => mx p == k)
def lw (F : pf_F) (k : Nat) : List pf_T := (List.range k).flatMap (lv F)
theorem lw_succ {F : pf_F} {k : Nat} : lw F (k + 1) = lw F k ++ lv F k := by
  unfold lw
  rw [List.range_succ, List.flatMap_append]
  simp
theorem lv_eq {F : pf_F} {k : Nat} : lv F k = F.1.filter (fun p => mx p == k) ++ (F.2.filter (fun p => mx p == k)).map pq := by
  unfold lv it
  rw [List.filter_append, List.filter_map]
  rfl
theorem pq_c {p : pf_T} : pf_c (pq p) = 128 + pf_c p := by
  unfold pf_c pq
  dsimp only
  omega
theorem lv_perm (K : Nat) : ∀ l : List pf_T, (∀ p ∈ l, mx p < K) → ((List.range K).flatMap (fun k => l.filter (fun p => mx p == k))).Perm l := by
  induction K with
  | zero =>
    intro l hl
    have : l = [] := List.eq_nil_iff_forall_not_mem.mpr (fun p hp => by have := hl p hp; omega)
    subst this
    simp
  | succ K ih =>
    intro l hl
    rw [List.range_succ, List.flatMap_append]
    have h1 := ih (l.filter (fun p => decide (mx p < K))) (fun p hp => by simpa using (List.mem_filter.mp hp).2)
    have e1 : (List.range K).flatMap (fun k => (l.filter (fun p => decide (mx p < K))).filter (fun p => mx p == k)) = (List.range K).flatMap (fun k => l.filter (fun p => mx p == k)) := by
      rw [List.flatMap_def, List.flatMap_def]
      congr 1
      refine List.map_congr_left (fun k hk => ?_)
      rw [List.filter_filter]
      refine List.filter_congr (fun p hp => ?_)
      have := List.mem_range.mp hk
      by_cases z : mx p = k
      · simp [z, this]
      · simp [z]
    have e2 : l.filter (fun p => mx p == K) = l.filter (fun p => !decide (mx p < K)) := List.filter_congr (fun p hp => by
      have := hl p hp
      by_cases z : mx p = K
      · simp [z]
      · have : mx p < K := by omega
        simp [z, this])
    rw [e1] at h1
    have h2 := List.filter_append_perm (fun p => decide (mx p < K)) l
    simp only [List.flatMap_cons, List.flatMap_nil, List.append_nil]
    rw [e2]
    exact (h1.append_right _).trans h2
def it_ok (p : pf_T) : Prop := p.1 < 4 ∧ p.2.1 < 8 ∧ p.2.2 < 8
theorem it_mem {F : pf_F} (hw : pf_wf F) : ∀ p ∈ it F, it_ok p := fun p hp => by
  rcases List.mem_append.mp hp with h | h
  · have := hw.2.2.1 p h
    exact ⟨by have := this.1; omega, this.2⟩
  · obtain ⟨q, hq, rfl⟩ := List.mem_map.mp h
    have := hw.2.2.2 q hq
    exact ⟨by show 2 + q.1 < 4; have := this.1; omega, this.2⟩
theorem it_rg {p : pf_T} (hp : it_ok p) : 0 ≤ pf_c p ∧ pf_c p < 256 ∧ pf_c p / 64 = p.1 ∧ pf_c p / 8 % 8 = p.2.1 ∧ pf_c p % 8 = p.2.2 := by
  obtain ⟨a, b, c⟩ := p
  unfold it_ok at hp
  unfold pf_c
  dsimp only at hp ⊢
  omega
theorem lw_perm {F : pf_F} (hw : pf_wf F) : (lw F 8).Perm (it F) := lv_perm 8 (it F) (fun p hp => by
  obtain ⟨_, h1, h2⟩ := it_mem hw p hp
  unfold mx
  omega)
theorem it_len {F : pf_F} (hw : pf_wf F) : (it F).length ≤ 26 := by
  have := hw.1
  have := hw.2.1
  unfold it
  simp
  omega
theorem lw_len {F : pf_F} (hw : pf_wf F) {k : Nat} (hk : k ≤ 8) : (lw F k).length ≤ 26 := by
  have h8 : (lw F 8).length ≤ 26 := by rw [(lw_perm hw).length_eq]; exact it_len hw
  have : ∀ m, m + k ≤ 8 → (lw F k).length ≤ (lw F (k + m)).length := by
    intro m
    induction m with
    | zero => intro _; exact Nat.le_refl _
    | succ m ih =>
      intro hm
      have := ih (by omega)
      rw [show k + (m + 1) = (k + m) + 1 by omega, lw_succ]
      simp
      omega
  have := this (8 - k) (by omega)
  rw [show k + (8 - k) = 8 by omega] at this
  omega
def cA (M : g_M) (i : Nat) (A : List pf_T) : Prop := ∀ (j : Nat) (p : pf_T), A[j]? = some p → M.1 10 i j = pf_c p
/-- only the plan i has changed -/
def chp (i : Nat) (M M' : g_M) : Prop := M'.2 = M.2 ∧ ∀ t n, ¬ ((t = 7 ∨ t = 10 ∨ t = 11) ∧ n = i) → M'.1 t n = M.1 t n
theorem chp.rf {f : Nat} {M : g_M} : chp f M M := ⟨rfl, fun _ _ _ => rfl⟩
theorem chp.tr {f : Nat} {M M' M'' : g_M} (h : chp f M M') (h' : chp f M' M'') : chp f M M'' := ⟨h'.1.trans h.1, fun t n hn => (h'.2 t n hn).trans (h.2 t n hn)⟩
theorem chp.uA {f t k : Nat} {v : Int} {M : g_M} (ht : t = 7 ∨ t = 10 ∨ t = 11) : chp f M (g_uA M (t, f) k v) := by
  refine ⟨rfl, fun t' n hn => ?_⟩
  funext i
  rw [g_uA_at, if_neg]
  rintro ⟨rfl, rfl, -⟩
  exact hn ⟨ht, rfl⟩
/-- only the codes of plan i have changed -/
def chc (i : Nat) (M M' : g_M) : Prop := M'.2 = M.2 ∧ ∀ t n, ¬ (t = 10 ∧ n = i) → M'.1 t n = M.1 t n
theorem chc.rf {f : Nat} {M : g_M} : chc f M M := ⟨rfl, fun _ _ _ => rfl⟩
theorem chc.tr {f : Nat} {M M' M'' : g_M} (h : chc f M M') (h' : chc f M' M'') : chc f M M'' := ⟨h'.1.trans h.1, fun t n hn => (h'.2 t n hn).trans (h.2 t n hn)⟩
theorem chc.uA {f k : Nat} {v : Int} {M : g_M} : chc f M (g_uA M (10, f) k v) := by
  refine ⟨rfl, fun t' n hn => ?_⟩
  funext i
  rw [g_uA_at, if_neg]
  rintro ⟨rfl, rfl, -⟩
  exact hn ⟨rfl, rfl⟩
theorem chc.chp {f : Nat} {M M' : g_M} (h : chc f M M') : chp f M M' := ⟨h.1, fun t n hn => h.2 t n (fun z => hn ⟨Or.inr (Or.inl z.1), z.2⟩)⟩
theorem cF.keepc {M M' : g_M} {f i : Nat} {F : pf_F} (h : cF M f F) (hc : chp i M M') : cF M' f F := by
  have e : ∀ t, t = 1 ∨ t = 2 ∨ t = 3 → M'.1 t f = M.1 t f := fun t ht => hc.2 t f (by omega)
  unfold cF
  rw [e 1 (by omega), e 2 (by omega), e 3 (by omega)]
  exact h
theorem cA.put {M : g_M} {i : Nat} {A : List pf_T} {p : pf_T} (h : cA M i A) : cA (g_uA M (10, i) A.length (pf_c p)) i (A ++ [p]) := fun j q hj => by
  by_cases z : j < A.length
  · rw [List.getElem?_append_left z] at hj
    have := h j q hj
    have hne : ¬ j = A.length := by omega
    simp [g_uA_at, hne, this]
  · have := (List.getElem?_eq_some_iff.mp hj).1
    simp at this
    obtain rfl : j = A.length := by omega
    have : p = q := by simpa using hj
    subst this
    simp [g_uA_at]
theorem c_41u {D : Nat} (hD : 3 ≤ D) {M : g_M} {i f k : Nat} {F : pf_F} {A : List pf_T} {Q : g_P} (hc : cF M f F) (hw : pf_wf F) (hA : cA M i A) (hl : (A ++ F.1.filter (fun p => mx p == k)).length ≤ 26)
    (h : ∀ M', chc i M M' → cA M' i (A ++ F.1.filter (fun p => mx p == k)) → Q [.inl ((A ++ F.1.filter (fun p => mx p == k)).length : Nat)] M') : g_Ev D 41 [.inr (7, i), .inr (2, f), .inl (F.1.length : Nat), .inl (k : Int), .inl (A.length : Nat)] M Q := by
  obtain ⟨D, rfl⟩ := g_dep hD
  have l1 := hw.1
  have loop : ∀ (n j : Nat) (x y : Int) (B : List pf_T) (M1 : g_M), x = j → j + n = F.1.length → y = (B.length : Nat) → B ++ (F.1.drop j).filter (fun p => mx p == k) = A ++ F.1.filter (fun p => mx p == k) → chc i M M1 → cA M1 i B → g_R (D + 3) 41 Q 7 [.inr (7, i), .inr (2, f), .inl (F.1.length : Nat), .inl (k : Int), .inl (A.length : Nat), .inl y, .inl x] [] M1 := by
    intro n
    induction n with
    | zero =>
      intro j x y B M1 hx hj hy hB hch hcA
      rw [List.drop_eq_nil_of_le (by omega), List.filter_nil, List.append_nil] at hB
      refine rp_41_7u rfl ⟨fun _ => ?_, fun q => by exfalso; omega⟩
      subst hy hB
      exact h M1 hch hcA
    | succ n ih =>
      intro j x y B M1 hx hj hy hB hch hcA
      subst hx hy
      have hlt : j < F.1.length := by omega
      have ok := hw.2.2.1 _ (List.getElem_mem hlt)
      have e := (hc.keepc hch.chp).2.2.1 j _ (List.getElem?_eq_getElem hlt)
      have r := pf_c_rg ok
      refine rp_41_7u rfl ⟨fun q => by exfalso; omega, fun _ => ⟨fun q => ?_, fun q => ?_⟩⟩
      · have e2 : B = A ++ F.1.filter (fun p => mx p == k) := by
          rw [← hB] at hl ⊢
          rw [List.length_append] at hl
          rw [List.eq_nil_of_length_eq_zero (l := (F.1.drop j).filter (fun p => mx p == k)) (by omega), List.append_nil]
        rw [e2] at hcA ⊢
        exact h M1 hch hcA
      · rw [Int.toNat_natCast, Int.toNat_natCast, e, r.2.2.2.1, r.2.2.2.2.1]
        rw [List.drop_eq_getElem_cons hlt] at hB
        have hmx : max ((F.1[j].2.1 : Nat) : Int) ((F.1[j].2.2 : Nat) : Int) = ((mx F.1[j] : Nat) : Int) := by unfold mx; omega
        rw [hmx]
        refine ⟨⟨by omega, by omega⟩, by omega, fun q2 => ⟨by unfold hm_in; omega, ih (j + 1) _ _ B M1 (by omega) (by omega) rfl ?_ hch hcA⟩, fun q2 => ⟨by omega, by unfold hm_in; omega, by unfold hm_in; omega, ih (j + 1) _ _ (B ++ [F.1[j]]) _ (by omega) (by omega) (by simp) ?_ (hch.tr chc.uA) hcA.put⟩⟩
        · rw [List.filter_cons_of_neg (by simp; omega)] at hB
          exact hB
        · rw [List.filter_cons_of_pos (by simp; omega)] at hB
          rw [List.append_assoc]
          exact hB
  exact g_enter hk_41 hn_41 (rp_41_0u rfl (loop F.1.length 0 0 _ A M rfl (by omega) rfl (by simp) chc.rf hA))
theorem c_41a {D : Nat} (hD : 3 ≤ D) {M : g_M} {i f k : Nat} {F : pf_F} {A : List pf_T} {Q : g_P} (hc : cF M f F) (hw : pf_wf F) (hA : cA M i A) (hl : (A ++ (F.2.filter (fun p => mx p == k)).map pq).length ≤ 26)
    (h : ∀ M', chc i M M' → cA M' i (A ++ (F.2.filter (fun p => mx p == k)).map pq) → Q [.inl ((A ++ (F.2.filter (fun p => mx p == k)).map pq).length : Nat)] M') : g_Ev D 41 [.inr (7, i), .inr (3, f), .inl (F.2.length : Nat), .inl (k : Int), .inl (A.length : Nat)] M Q := by
  obtain ⟨D, rfl⟩ := g_dep hD
  have l1 := hw.2.1
  have loop : ∀ (n j : Nat) (x y : Int) (B : List pf_T) (M1 : g_M), x = j → j + n = F.2.length → y = (B.length : Nat) → B ++ ((F.2.drop j).filter (fun p => mx p == k)).map pq = A ++ (F.2.filter (fun p => mx p == k)).map pq → chc i M M1 → cA M1 i B → g_R (D + 3) 41 Q 7 [.inr (7, i), .inr (3, f), .inl (F.2.length : Nat), .inl (k : Int), .inl (A.length : Nat), .inl y, .inl x] [] M1 := by
    intro n
    induction n with
    | zero =>
      intro j x y B M1 hx hj hy hB hch hcA
      rw [List.drop_eq_nil_of_le (by omega), List.filter_nil, List.map_nil, List.append_nil] at hB
      refine rp_41_7a rfl ⟨fun _ => ?_, fun q => by exfalso; omega⟩
      subst hy hB
      exact h M1 hch hcA
    | succ n ih =>
      intro j x y B M1 hx hj hy hB hch hcA
      subst hx hy
      have hlt : j < F.2.length := by omega
      have ok := hw.2.2.2 _ (List.getElem_mem hlt)
      have e := (hc.keepc hch.chp).2.2.2 j _ (List.getElem?_eq_getElem hlt)
      have r := pf_c_rg ok
      refine rp_41_7a rfl ⟨fun q => by exfalso; omega, fun _ => ⟨fun q => ?_, fun q => ?_⟩⟩
      · have e2 : B = A ++ (F.2.filter (fun p => mx p == k)).map pq := by
          rw [← hB] at hl ⊢
          rw [List.length_append] at hl
          rw [List.eq_nil_of_length_eq_zero (l := ((F.2.drop j).filter (fun p => mx p == k)).map pq) (by omega), List.append_nil]
        rw [e2] at hcA ⊢
        exact h M1 hch hcA
      · rw [Int.toNat_natCast, Int.toNat_natCast, e, r.2.2.2.2.2.2.1, r.2.2.2.2.2.2.2]
        rw [List.drop_eq_getElem_cons hlt] at hB
        have hmx : max ((F.2[j].2.1 : Nat) : Int) ((F.2[j].2.2 : Nat) : Int) = ((mx F.2[j] : Nat) : Int) := by unfold mx; omega
        rw [hmx]
        refine ⟨⟨by omega, by omega⟩, by omega, fun q2 => ⟨by unfold hm_in; omega, ih (j + 1) _ _ B M1 (by omega) (by omega) rfl ?_ hch hcA⟩, fun q2 => ⟨by omega, by unfold hm_in; omega, by unfold hm_in; omega, ih (j + 1) _ _ (B ++ [pq F.2[j]]) _ (by omega) (by omega) (by simp) ?_ (hch.tr chc.uA) (by rw [← pq_c]; exact hcA.put)⟩⟩
        · rw [List.filter_cons_of_neg (by simp; omega)] at hB
          exact hB
        · rw [List.filter_cons_of_pos (by simp; omega), List.map_cons] at hB
          rw [List.append_assoc]
          exact hB
  exact g_enter hk_41 hn_41 (rp_41_0a rfl (loop F.2.length 0 0 _ A M rfl (by omega) rfl (by simp) chc.rf hA))
/-- plan i is that of F -/
def cP (M : g_M) (i : Nat) (F : pf_F) : Prop := M.1 7 i 2 = ((pf_terms F : Nat) : Int) ∧ (∀ k, k ≤ 8 → M.1 11 i k = ((lw F k).length : Nat)) ∧ cA M i (lw F 8)
theorem c_39 {D : Nat} (hD : 4 ≤ D) {M : g_M} {i f : Nat} {F : pf_F} {Q : g_P} (hc : cF M f F) (hw : pf_wf F)
    (h : ∀ M', chp i M M' → cP M' i F → Q [] M') : g_Ev D 39 [.inr (7, i), .inr (1, f)] M Q := by
  obtain ⟨D, rfl⟩ := g_dep hD
  have loop : ∀ (n k : Nat) (x y : Int) (M1 : g_M), x = k → k + n = 8 → y = ((lw F k).length : Nat) → chp i M M1 → M1.1 7 i 2 = ((pf_terms F : Nat) : Int) → (∀ k', k' < k → M1.1 11 i k' = ((lw F k').length : Nat)) → cA M1 i (lw F k) → g_R (D + 4) 39 Q 12 [.inr (7, i), .inr (1, f), .inl y, .inl x] [] M1 := by
    intro n
    induction n with
    | zero =>
      intro k x y M1 hx hk hy hch ht hst hA
      subst hx hy
      obtain rfl : k = 8 := by omega
      refine rp_39_12 rfl ⟨fun _ => h _ (hch.tr (chp.uA (by simp))) ⟨by simp [g_uA_at, ht], fun k' hk' => ?_, fun j p hj => ?_⟩, fun q => by exfalso; omega⟩
      · by_cases z : k' = 8
        · subst z
          simp [g_uA_at]
        · rw [← hst k' (by omega)]
          simp [g_uA_at, z]
      · have := hA j p hj
        simp [g_uA_at, this]
    | succ n ih =>
      intro k x y M1 hx hk hy hch ht hst hA
      subst hx hy
      have hlen := lw_len hw (k := k + 1) (by omega)
      rw [lw_succ, lv_eq, ← List.append_assoc] at hlen
      have hc1 := hc.keepc hch
      refine rp_39_12 rfl ⟨fun q => by exfalso; omega, fun _ => ⟨⟨by omega, by omega⟩, ?_⟩⟩
      rw [Int.toNat_natCast, hc1.1]
      have hch2 : chp i M (g_uA M1 (11, i) k ((lw F k).length : Nat)) := hch.tr (chp.uA (by simp))
      refine c_41u (by omega) (hc.keepc hch2) hw (A := lw F k) (fun j p hj => by have := hA j p hj; simp [g_uA_at, this]) (by rw [List.length_append] at hlen; omega) (fun M2 g1 g2 => rp_39_39 rfl ?_)
      have hch3 := hch2.tr g1.chp
      rw [(hc.keepc hch3).2.1]
      refine c_41a (by omega) (hc.keepc hch3) hw g2 hlen (fun M3 g3 g4 => rp_39_54 rfl ⟨by unfold hm_in; omega, ih (k + 1) _ _ M3 (by omega) (by omega) ?_ (hch3.tr g3.chp) ?_ (fun k' hk' => ?_) ?_⟩)
      · rw [lw_succ, lv_eq, ← List.append_assoc]
      · rw [g3.2 7 i (by omega), g1.2 7 i (by omega)]
        simp [g_uA_at, ht]
      · rw [g3.2 11 i (by omega), g1.2 11 i (by omega)]
        by_cases z : k' = k
        · subst z
          simp [g_uA_at]
        · rw [← hst k' (by omega)]
          simp [g_uA_at, z]
      · rw [lw_succ, lv_eq, ← List.append_assoc]
        exact g4
  refine g_enter hk_39 hn_39 (rp_39_0 rfl (c_40 (by omega) hc hw (rp_39_5 rfl ?_)))
  refine loop 8 0 0 0 _ rfl (by omega) (by simp [lw]) (chp.uA (by simp)) (by simp [g_uA_at]) (fun k' hk' => by omega) (fun j p hj => by simp [lw] at hj)

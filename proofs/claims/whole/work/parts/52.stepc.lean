/-! step, the class's small methods -/
section SC
variable {D : Nat} {M : g_M} {f : Nat} {F : pf_F} {Q : g_P}
theorem c_pu (hD : 4 ≤ D) (hc : cF M f F) (hw : pf_wf F) {p : pf_T} (hp : pf_ok p) (h1 : ∀ F', pu F p = some F' → ∀ M', ch1 f M M' → cF M' f F' → Q [.inl 1] M') (h0 : pu F p = none → ∀ M', ch1 f M M' → Q [.inl 0] M') : g_Ev D 74 [.inr (1, f), .inl (pf_c p)] M Q := by
  refine c_74 hD hc hw hp (fun hin => h1 F ?_ M ch1.rf hc) (fun hin hl M' c1 c2 => h1 _ ?_ M' c1 c2) (fun hin hl => h0 ?_ M ch1.rf)
  · unfold pu; rw [if_pos hin]
  · unfold pu; rw [if_neg hin, if_pos hl]
  · unfold pu; rw [if_neg hin, if_neg hl]
theorem pf_c3 {a b c : Nat} : pf_c (a, b, c) = 64 * (a : Int) + 8 * (b : Int) + (c : Int) := rfl
theorem p1_c {S : Nat} {p : pf_T} : (p.1 = 0 ∧ ¬ ((2 ^ p.2.1 ||| 2 ^ p.2.2) &&& S = 0) → p1 S p = S ||| (2 ^ p.2.1 ||| 2 ^ p.2.2)) ∧ (p.1 = 0 ∧ (2 ^ p.2.1 ||| 2 ^ p.2.2) &&& S = 0 → p1 S p = S) := by
  have e : (2 ^ p.2.1 ||| 2 ^ p.2.2) &&& S = 0 ↔ ¬ (S.testBit p.2.1 = true ∨ S.testBit p.2.2 = true) := by
    constructor
    · intro h z
      have hb : ∀ i, ((2 ^ p.2.1 ||| 2 ^ p.2.2) &&& S).testBit i = false := fun i => by rw [h, Nat.zero_testBit]
      rcases z with z | z
      · have := hb p.2.1
        rw [Nat.testBit_and, Nat.testBit_or, pb_bit, z] at this
        simp at this
      · have := hb p.2.2
        rw [Nat.testBit_and, Nat.testBit_or, pb_bit, pb_bit, z] at this
        simp at this
    · intro h
      apply pb_ext
      intro i
      rw [Nat.zero_testBit, Nat.testBit_and, Nat.testBit_or, pb_bit, pb_bit]
      cases w : S.testBit i with
      | false => simp
      | true =>
        have n1 : ¬ p.2.1 = i := fun y => h (Or.inl (by rw [y]; exact w))
        have n2 : ¬ p.2.2 = i := fun y => h (Or.inr (by rw [y]; exact w))
        simp [n1, n2]
  unfold p1
  constructor
  · rintro ⟨h1, h2⟩
    rw [if_pos ⟨h1, Classical.byContradiction (fun z => h2 (e.mpr z))⟩]
  · rintro ⟨h1, h2⟩
    rw [if_neg (fun z => e.mp h2 z.2)]
theorem c_69 (hD : 3 ≤ D) (hc : cF M f F) (hw : pf_wf F) {t : Nat} (ht : t < 8) (h : Q [.inl (kn F t : Int)] M) : g_Ev D 69 [.inr (1, f), .inl (t : Int)] M Q := by
  obtain ⟨D, rfl⟩ := g_dep hD
  have l1 := hw.1
  have outer : ∀ (n S : Nat) (x : Int), x = 8 - (n : Int) → n ≤ 7 → S < 256 → Q [.inl (pn F n S : Int)] M → g_R (D + 3) 69 Q 6 [.inr (1, f), .inl (t : Int), .inl (S : Int), .inl x] [] M := by
    intro n
    induction n with
    | zero =>
      intro S x hx _ hS hQ
      exact rp_69_6 rfl ⟨fun _ => hQ, fun q => by exfalso; omega⟩
    | succ n ih =>
      intro S x hx hn hS hQ
      have inner : ∀ (m i S' : Nat) (y : Int), i + m = F.1.length → y = (i : Int) → S' < 256 → ps F S = (F.1.drop i).foldl p1 S' → g_R (D + 3) 69 Q 15 [.inr (1, f), .inl (t : Int), .inl (S' : Int), .inl x, .inl y] [] M := by
        intro m
        induction m with
        | zero =>
          intro i S' y hi hy hS' hE
          subst hy
          rw [List.drop_eq_nil_of_le (by omega)] at hE
          refine rp_69_15 rfl ?_
          rw [hc.1]
          refine ⟨fun _ => ⟨by unfold hm_in; omega, ih S' _ (by omega) (by omega) hS' ?_⟩, fun q => by exfalso; omega⟩
          have e : ps F S = S' := hE
          rw [← e]
          exact hQ
        | succ m ihm =>
          intro i S' y hi hy hS' hE
          subst hy
          have hlt : i < F.1.length := by omega
          have hat := List.getElem?_eq_getElem hlt
          have ok := hw.2.2.1 _ (List.getElem_mem hlt)
          have r := it_rg (pf_itok ok)
          have hcode := hc.2.2.1 i _ hat
          rw [List.drop_eq_getElem_cons hlt, List.foldl_cons] at hE
          generalize hp : F.1[i] = p at ok r hcode hE
          have o1 := ok.1
          have o2 := ok.2.1
          have o3 := ok.2.2
          have w1 : (2 : Nat) ^ p.2.1 < 2 ^ 8 := pb_pow8 o2
          have w2 : (2 : Nat) ^ p.2.2 < 2 ^ 8 := pb_pow8 o3
          have w3 : 2 ^ p.2.1 ||| 2 ^ p.2.2 < 2 ^ 8 := Nat.or_lt_two_pow w1 w2
          refine rp_69_15 rfl ?_
          rw [hc.1, Int.toNat_natCast, hcode, r.2.2.1, r.2.2.2.1, r.2.2.2.2, pb_shl (by omega), pb_shl (by omega), pb_or (by omega) (by omega), pb_and (by omega) (by omega), pb_or (by omega) (by omega)]
          refine ⟨fun q => by exfalso; omega, fun _ => ⟨by omega, ⟨r.1, r.2.1⟩, fun q => ⟨by unfold hm_in; omega, ihm (i + 1) S' _ (by omega) (by omega) hS' ?_⟩, fun q => ⟨fun q2 => ⟨by unfold hm_in; omega, ihm (i + 1) S' _ (by omega) (by omega) hS' ?_⟩, fun q2 => ⟨by unfold hm_in; omega, ihm (i + 1) (S' ||| (2 ^ p.2.1 ||| 2 ^ p.2.2)) _ (by omega) (by omega) (Nat.or_lt_two_pow (n := 8) hS' w3) ?_⟩⟩⟩⟩
          · rw [hE, show p1 S' p = S' by unfold p1; rw [if_neg (fun z => by omega)]]
          · rw [hE, p1_c.2 ⟨by omega, by omega⟩]
          · rw [hE, p1_c.1 ⟨by omega, by omega⟩]
      exact rp_69_6 rfl ⟨fun q => by exfalso; omega, fun _ => inner F.1.length 0 S 0 (by omega) rfl hS (by rw [List.drop_zero]; rfl)⟩
  refine g_enter hk_69 hn_69 (rp_69_0 rfl ?_)
  rw [pb_shl (by omega)]
  exact outer 7 (2 ^ t) 1 (by omega) (by omega) (pb_pow8 ht) h
theorem c_70 (hD : 3 ≤ D) (hc : cF M f F) (hw : pf_wf F) {how S : Nat} (hS : S < 256) (h : Q [.inl (en (fp F how S))] M) : g_Ev D 70 [.inr (1, f), .inl ((2 + how : Nat) : Int), .inl (S : Int)] M Q := by
  obtain ⟨D, rfl⟩ := g_dep hD
  have l2 := hw.2.1
  have loop : ∀ (m i : Nat) (y : Int), i + m = F.2.length → y = (i : Int) → (∀ (k : Nat) (q : pf_T), k < i → F.2[k]? = some q → ¬ (q.1 = how ∧ S.testBit q.2.1 = true)) → g_R (D + 3) 70 Q 2 [.inr (1, f), .inl ((2 + how : Nat) : Int), .inl (S : Int), .inl y] [] M := by
    intro m
    induction m with
    | zero =>
      intro i y hi hy hk
      subst hy
      refine rp_70_2 rfl ?_
      rw [hc.2.1]
      refine ⟨fun _ => ?_, fun q => by exfalso; omega⟩
      rw [fp_no (fun p hp => ?_)] at h
      · exact h
      · obtain ⟨k, k1, k2⟩ := List.mem_iff_getElem.mp hp
        exact hk k p (by omega) (by rw [List.getElem?_eq_getElem k1, k2])
    | succ m ih =>
      intro i y hi hy hk
      subst hy
      have hlt : i < F.2.length := by omega
      have hat := List.getElem?_eq_getElem hlt
      have ok := hw.2.2.2 _ (List.getElem_mem hlt)
      have r := it_rg (pq_ok ok)
      have hcode := hc.2.2.2 i _ hat
      rw [← pf_c_pq] at hcode
      generalize hp : F.2[i] = p at ok r hcode hat
      have o2 := ok.2.1
      have r3 : pf_c (pq p) / 64 = ((2 + p.1 : Nat) : Int) := r.2.2.1
      have r4 : pf_c (pq p) / 8 % 8 = (p.2.1 : Int) := r.2.2.2.1
      have next : ¬ (p.1 = how ∧ S.testBit p.2.1 = true) → hm_in ((i : Int) + 1) ∧ g_R (D + 3) 70 Q 2 [.inr (1, f), .inl ((2 + how : Nat) : Int), .inl (S : Int), .inl ((i : Int) + 1)] [] M := fun hz => ⟨by unfold hm_in; omega, ih (i + 1) _ (by omega) (by omega) (fun k q hk2 hq => by
        by_cases v : k = i
        · subst v
          rw [hat] at hq
          cases hq
          exact hz
        · exact hk k q (by omega) hq)⟩
      refine rp_70_2 rfl ?_
      rw [hc.2.1, Int.toNat_natCast, hcode, r3, r4, pb_g]
      refine ⟨fun q => by exfalso; omega, fun _ => ⟨by omega, ⟨r.1, r.2.1⟩, fun q => next (fun z => q (by omega)), fun q => ⟨⟨by omega, by omega⟩, fun q2 => ?_, fun q2 => next (fun z => q2 z.2)⟩⟩⟩
      rw [fp_at hat (by omega) q2 hk] at h
      exact h
  exact g_enter hk_70 hn_70 (rp_70_0 rfl (loop F.2.length 0 0 (by omega) rfl (fun k q hk => by omega)))
theorem c_80u (hD : 3 ≤ D) {n x s : Nat} (hn : n ≤ 16) (hs : s < 8) (hv : ∀ k, k < n → 0 ≤ M.1 2 f k ∧ M.1 2 f k < 256) (h : ∀ M', ch1 f M M' → M'.1 1 f = M.1 1 f → M'.1 3 f = M.1 3 f → (∀ k, k < n → M'.1 2 f k = g_ren (M.1 2 f k) (x : Int) (s : Int)) → Q [] M') : g_Ev D 80 [.inr (2, f), .inl (n : Int), .inl (x : Int), .inl (s : Int)] M Q := by
  obtain ⟨D, rfl⟩ := g_dep hD
  have loop : ∀ (m i : Nat) (y : Int) (M1 : g_M), i + m = n → y = (i : Int) → ch1 f M M1 → M1.1 1 f = M.1 1 f → M1.1 3 f = M.1 3 f → (∀ k, k < i → M1.1 2 f k = g_ren (M.1 2 f k) (x : Int) (s : Int)) → (∀ k, i ≤ k → M1.1 2 f k = M.1 2 f k) → g_R (D + 3) 80 Q 3 [.inr (2, f), .inl (n : Int), .inl (x : Int), .inl (s : Int), .inl y] [] M1 := by
    intro m
    induction m with
    | zero =>
      intro i y M1 hi hy hch h1 h3 hp hr
      subst hy
      exact rp_80_3u rfl ⟨fun _ => h M1 hch h1 h3 (fun k hk => hp k (by omega)), fun q => by exfalso; omega⟩
    | succ m ih =>
      intro i y M1 hi hy hch h1 h3 hp hr
      subst hy
      have ra := hv i (by omega)
      have hin : hm_in ((i : Int) + 1) := by unfold hm_in; omega
      have go : ∀ V : Int, V = g_ren (M.1 2 f i) (x : Int) (s : Int) → g_R (D + 3) 80 Q 3 [.inr (2, f), .inl (n : Int), .inl (x : Int), .inl (s : Int), .inl ((i : Int) + 1)] [] (g_uA M1 (2, f) i V) := fun V hV => by
        refine ih (i + 1) _ _ (by omega) (by omega) (hch.tr (ch1.uA (by omega))) ?_ ?_ (fun k hk => ?_) (fun k hk => ?_)
        · funext a; rw [g_uA_at, if_neg (by omega), h1]
        · funext a; rw [g_uA_at, if_neg (by omega), h3]
        · rw [g_uA_at]
          by_cases z : k = i
          · subst z
            rw [if_pos ⟨rfl, rfl, rfl⟩, hV]
          · rw [if_neg (fun w => z w.2.2)]; exact hp k (by omega)
        · rw [g_uA_at, if_neg (by omega)]; exact hr k (by omega)
      refine rp_80_3u rfl ?_
      rw [Int.toNat_natCast, hr i (by omega)]
      generalize M.1 2 f i = a at ra go
      refine ⟨fun q => by exfalso; omega, fun _ => ⟨fun q => by exfalso; omega, fun _ => ⟨by omega, ra, fun c1 => ⟨fun c2 => ⟨⟨by omega, by omega, by omega⟩, hin, go _ ?_⟩, fun c2 => ⟨⟨by omega, by omega, by omega⟩, hin, go _ ?_⟩⟩, fun c1 => ⟨fun c2 => ⟨⟨by omega, by omega, by omega⟩, hin, go _ ?_⟩, fun c2 => ⟨⟨by omega, by omega, by omega⟩, hin, go _ ?_⟩⟩⟩⟩⟩
      · unfold g_ren; rw [if_neg c1, if_neg c2]
      · unfold g_ren; rw [if_neg c1, if_pos c2]
      · unfold g_ren; rw [if_pos c1, if_neg c2]
      · unfold g_ren; rw [if_pos c1, if_pos c2]
  exact g_enter hk_80 hn_80 (rp_80_0u rfl (loop n 0 0 M (by omega) rfl ch1.rf rfl rfl (fun k hk => by omega) (fun _ _ => rfl)))
theorem c_80a (hD : 3 ≤ D) {n x s : Nat} (hn : n ≤ 10) (hs : s < 8) (hv : ∀ k, k < n → 0 ≤ M.1 3 f k ∧ M.1 3 f k < 256) (h : ∀ M', ch1 f M M' → M'.1 1 f = M.1 1 f → M'.1 2 f = M.1 2 f → (∀ k, k < n → M'.1 3 f k = g_ren (M.1 3 f k) (x : Int) (s : Int)) → Q [] M') : g_Ev D 80 [.inr (3, f), .inl (n : Int), .inl (x : Int), .inl (s : Int)] M Q := by
  obtain ⟨D, rfl⟩ := g_dep hD
  have loop : ∀ (m i : Nat) (y : Int) (M1 : g_M), i + m = n → y = (i : Int) → ch1 f M M1 → M1.1 1 f = M.1 1 f → M1.1 2 f = M.1 2 f → (∀ k, k < i → M1.1 3 f k = g_ren (M.1 3 f k) (x : Int) (s : Int)) → (∀ k, i ≤ k → M1.1 3 f k = M.1 3 f k) → g_R (D + 3) 80 Q 3 [.inr (3, f), .inl (n : Int), .inl (x : Int), .inl (s : Int), .inl y] [] M1 := by
    intro m
    induction m with
    | zero =>
      intro i y M1 hi hy hch h1 h3 hp hr
      subst hy
      exact rp_80_3a rfl ⟨fun _ => h M1 hch h1 h3 (fun k hk => hp k (by omega)), fun q => by exfalso; omega⟩
    | succ m ih =>
      intro i y M1 hi hy hch h1 h3 hp hr
      subst hy
      have ra := hv i (by omega)
      have hin : hm_in ((i : Int) + 1) := by unfold hm_in; omega
      have go : ∀ V : Int, V = g_ren (M.1 3 f i) (x : Int) (s : Int) → g_R (D + 3) 80 Q 3 [.inr (3, f), .inl (n : Int), .inl (x : Int), .inl (s : Int), .inl ((i : Int) + 1)] [] (g_uA M1 (3, f) i V) := fun V hV => by
        refine ih (i + 1) _ _ (by omega) (by omega) (hch.tr (ch1.uA (by omega))) ?_ ?_ (fun k hk => ?_) (fun k hk => ?_)
        · funext a; rw [g_uA_at, if_neg (by omega), h1]
        · funext a; rw [g_uA_at, if_neg (by omega), h3]
        · rw [g_uA_at]
          by_cases z : k = i
          · subst z
            rw [if_pos ⟨rfl, rfl, rfl⟩, hV]
          · rw [if_neg (fun w => z w.2.2)]; exact hp k (by omega)
        · rw [g_uA_at, if_neg (by omega)]; exact hr k (by omega)
      refine rp_80_3a rfl ?_
      rw [Int.toNat_natCast, hr i (by omega)]
      generalize M.1 3 f i = a at ra go
      refine ⟨fun q => by exfalso; omega, fun _ => ⟨fun q => by exfalso; omega, fun _ => ⟨by omega, ra, fun c1 => ⟨fun c2 => ⟨⟨by omega, by omega, by omega⟩, hin, go _ ?_⟩, fun c2 => ⟨⟨by omega, by omega, by omega⟩, hin, go _ ?_⟩⟩, fun c1 => ⟨fun c2 => ⟨⟨by omega, by omega, by omega⟩, hin, go _ ?_⟩, fun c2 => ⟨⟨by omega, by omega, by omega⟩, hin, go _ ?_⟩⟩⟩⟩⟩
      · unfold g_ren; rw [if_neg c1, if_neg c2]
      · unfold g_ren; rw [if_neg c1, if_pos c2]
      · unfold g_ren; rw [if_pos c1, if_neg c2]
      · unfold g_ren; rw [if_pos c1, if_pos c2]
  exact g_enter hk_80 hn_80 (rp_80_0a rfl (loop n 0 0 M (by omega) rfl ch1.rf rfl rfl (fun k hk => by omega) (fun _ _ => rfl)))
theorem cF.renm {M' : g_M} {x s : Nat} (hc : cF M f F) (hw : pf_wf F) (e1 : M'.1 1 f = M.1 1 f) (e2 : ∀ k, k < F.1.length → M'.1 2 f k = g_ren (M.1 2 f k) (x : Int) (s : Int)) (e3 : ∀ k, k < F.2.length → M'.1 3 f k = g_ren (M.1 3 f k) (x : Int) (s : Int)) : cF M' f (ren F x s) := by
  refine ⟨?_, ?_, fun k q hk => ?_, fun k q hk => ?_⟩
  · rw [e1, hc.1]; unfold ren; simp
  · rw [e1, hc.2.1]; unfold ren; simp
  · have hk2 : (F.1.map (r1 x s))[k]? = some q := hk
    rw [List.getElem?_map] at hk2
    cases hz : F.1[k]? with
    | none => rw [hz] at hk2; cases hk2
    | some q' =>
      rw [hz] at hk2
      cases hk2
      obtain ⟨hl, he⟩ := List.getElem?_eq_some_iff.mp hz
      have ok := hw.2.2.1 _ (List.getElem_mem hl)
      rw [he] at ok
      rw [e2 k hl, hc.2.2.1 k q' hz, g_ren_c (pf_itok ok)]
  · have hk2 : (F.2.map (r1 x s))[k]? = some q := hk
    rw [List.getElem?_map] at hk2
    cases hz : F.2[k]? with
    | none => rw [hz] at hk2; cases hk2
    | some q' =>
      rw [hz] at hk2
      cases hk2
      obtain ⟨hl, he⟩ := List.getElem?_eq_some_iff.mp hz
      have ok := hw.2.2.2 _ (List.getElem_mem hl)
      rw [he] at ok
      rw [e3 k hl, hc.2.2.2 k q' hz, g_ren_p ok]
theorem cF.rg1 (hc : cF M f F) (hw : pf_wf F) (k : Nat) (hk : k < F.1.length) : 0 ≤ M.1 2 f k ∧ M.1 2 f k < 256 := by
  have r := it_rg (pf_itok (hw.2.2.1 _ (List.getElem_mem hk)))
  rw [hc.2.2.1 k _ (List.getElem?_eq_getElem hk)]
  exact ⟨r.1, r.2.1⟩
theorem cF.rg2 (hc : cF M f F) (hw : pf_wf F) (k : Nat) (hk : k < F.2.length) : 0 ≤ M.1 3 f k ∧ M.1 3 f k < 256 := by
  have r := it_rg (pq_ok (hw.2.2.2 _ (List.getElem_mem hk)))
  rw [hc.2.2.2 k _ (List.getElem?_eq_getElem hk), ← pf_c_pq]
  exact ⟨r.1, r.2.1⟩
theorem cF.set {j : Nat} {p : pf_T} (hc : cF M f F) (hj : j < F.2.length) : cF (g_uA M (3, f) j (128 + pf_c p)) f (F.1, F.2.set j p) := by
  refine ⟨by rw [g_uA_at, if_neg (by omega)]; exact hc.1, by rw [g_uA_at, if_neg (by omega), hc.2.1]; simp, fun k q hk => by rw [g_uA_at, if_neg (by omega)]; exact hc.2.2.1 k q hk, fun k q hk => ?_⟩
  have hk2 : (F.2.set j p)[k]? = some q := hk
  rw [g_uA_at]
  by_cases z : k = j
  · subst z
    rw [List.getElem?_set_self hj] at hk2
    cases hk2
    rw [if_pos ⟨rfl, rfl, rfl⟩]
  · rw [List.getElem?_set_ne (fun y => z y.symm)] at hk2
    rw [if_neg (fun y => z y.2.2)]
    exact hc.2.2.2 k q hk2
theorem c_72 (hD : 6 ≤ D) (hc : cF M f F) (hw : pf_wf F) {j : Nat} (hj : j < F.2.length) (h1 : ∀ E, emp F j = some E → ∀ M', ch1 f M M' → cF M' f E → Q [.inl 1] M') (h0 : emp F j = none → ∀ M', ch1 f M M' → Q [.inl 0] M') : g_Ev D 72 [.inr (1, f), .inl (j : Int)] M Q := by
  obtain ⟨D, rfl⟩ := g_dep hD
  have l2 := hw.2.1
  have hat := List.getElem?_eq_getElem hj
  have ok := hw.2.2.2 _ (List.getElem_mem hj)
  have r := it_rg (pq_ok ok)
  have hcode := hc.2.2.2 j _ hat
  rw [← pf_c_pq] at hcode
  have hpt := pth_at hat
  generalize hp : F.2[j] = p at ok r hcode hat hpt
  have o2 := ok.2.1
  have o3 := ok.2.2
  have r4 : pf_c (pq p) / 8 % 8 = (p.2.1 : Int) := r.2.2.2.1
  have r5 : pf_c (pq p) % 8 = (p.2.2 : Int) := r.2.2.2.2
  refine g_enter hk_72 hn_72 (rp_72_0 rfl ⟨by omega, ?_⟩)
  rw [Int.toNat_natCast, hcode]
  refine c_73 (by omega) hc hw hj (fun M1 c1 c2 => rp_72_12 rfl ⟨⟨r.1, r.2.1⟩, ?_⟩)
  rw [r4, r5]
  refine ⟨⟨by omega, by omega, by omega⟩, ?_⟩
  have e : (64 * (0 : Int) + 8 * (p.2.1 : Int) + (p.2.2 : Int)) = pf_c (0, p.2.1, p.2.2) := rfl
  rw [e]
  have ee : emp F j = pu (F.1, F.2.eraseIdx j) (0, p.2.1, p.2.2) := by unfold emp; rw [hpt]
  refine c_pu (by omega) c2 (wf_erase hw) ⟨by show 0 < 2; decide, o2, o3⟩ (fun E hE M2 c3 c4 => rp_72_28 rfl ⟨by omega, h1 E (by rw [ee]; exact hE) M2 (c1.tr c3) c4⟩) (fun hE M2 c3 => rp_72_28 rfl ⟨by omega, h0 (by rw [ee]; exact hE) M2 (c1.tr c3)⟩)
theorem c_75 (hD : 6 ≤ D) (hc : cF M f F) (hw : pf_wf F) {j : Nat} (hj : j < F.2.length) (h1 : ∀ E, lng F j = some E → ∀ M', ch1 f M M' → cF M' f E → Q [.inl 1] M') (h0 : lng F j = none → ∀ M', ch1 f M M' → Q [.inl 0] M') : g_Ev D 75 [.inr (1, f), .inl (j : Int)] M Q := by
  obtain ⟨D, rfl⟩ := g_dep hD
  have l2 := hw.2.1
  have lt := pf_terms_lt hw
  have hat := List.getElem?_eq_getElem hj
  have ok := hw.2.2.2 _ (List.getElem_mem hj)
  have r := it_rg (pq_ok ok)
  have hcode := hc.2.2.2 j _ hat
  rw [← pf_c_pq] at hcode
  have hpt := pth_at hat
  generalize hp : F.2[j] = p at ok r hcode hat hpt
  have o2 := ok.2.1
  have o3 := ok.2.2
  have r4 : pf_c (pq p) / 8 % 8 = (p.2.1 : Int) := r.2.2.2.1
  have r5 : pf_c (pq p) % 8 = (p.2.2 : Int) := r.2.2.2.2
  refine g_enter hk_75 hn_75 (rp_75_0 rfl ⟨by omega, ?_⟩)
  rw [Int.toNat_natCast, hcode]
  refine c_40 (by omega) hc hw (rp_75_11 rfl ⟨by omega, ?_⟩)
  rw [sp_g, r4, r5, Int.toNat_natCast]
  cases hs : sp (pf_terms F) with
  | none => exact ⟨fun q => absurd rfl q, fun _ => h0 (by unfold lng; rw [hs]; rfl) M ch1.rf⟩
  | some s =>
    have s8 := sp_lt hs
    have ee : lng F j = if F.2.length < 10 then pu (F.1, (F.2.set j (0, p.2.1, s)).insertIdx (j + 1) (1, s, p.2.2)) (1, p.2.1, p.2.2) else none := by
      unfold lng
      rw [hs, hpt]
      rfl
    have w1 : pf_wf (F.1, F.2.set j (0, p.2.1, s)) := wf_set hw ⟨by show 0 < 2; decide, o2, s8.2.1⟩
    have c1 : cF (g_uA M (3, f) j (64 * (2 : Int) + 8 * (p.2.1 : Int) + (s : Int))) f (F.1, F.2.set j (0, p.2.1, s)) := by
      have := hc.set (p := (0, p.2.1, s)) hj
      rw [show (128 + pf_c (0, p.2.1, s)) = (64 * (2 : Int) + 8 * (p.2.1 : Int) + (s : Int)) by rw [pf_c3]; omega] at this
      exact this
    refine ⟨fun _ => ⟨⟨r.1, r.2.1⟩, ⟨by omega, by omega, by show 0 ≤ (s : Int) ∧ (s : Int) < 8; omega⟩, by omega, by unfold hm_in; omega, ⟨by omega, by show 0 ≤ (s : Int) ∧ (s : Int) < 8; omega, by omega⟩, ?_⟩, fun q => absurd q (by show ¬ (s : Int) = -1; omega)⟩
    rw [show (64 * (3 : Int) + 8 * en (some s) + (p.2.2 : Int)) = 128 + pf_c (1, s, p.2.2) by rw [pf_c3]; show 64 * (3 : Int) + 8 * (s : Int) + _ = _; omega, show ((j : Int) + 1) = ((j + 1 : Nat) : Int) by omega]
    have hln : (F.2.set j (0, p.2.1, s)).length = F.2.length := by simp
    refine c_18 (by omega) c1 w1 (by show j + 1 ≤ (F.2.set j (0, p.2.1, s)).length; omega) (fun hl M2 c2 c3 => rp_75_53 rfl ⟨fun q => absurd q (by decide), fun _ => ⟨⟨r.1, r.2.1⟩, ?_⟩⟩) (fun hl => rp_75_53 rfl ⟨fun _ => h0 ?_ _ (ch1.uA (by omega)), fun q => absurd rfl q⟩)
    · rw [r4, r5]
      refine ⟨⟨by omega, by omega, by omega⟩, ?_⟩
      have hl2 : F.2.length < 10 := by have : (F.2.set j (0, p.2.1, s)).length < 10 := hl; omega
      rw [if_pos hl2] at ee
      have e : (64 * (1 : Int) + 8 * (p.2.1 : Int) + (p.2.2 : Int)) = pf_c (1, p.2.1, p.2.2) := rfl
      rw [e]
      have w2 : pf_wf (F.1, (F.2.set j (0, p.2.1, s)).insertIdx (j + 1) (1, s, p.2.2)) := wf_ins w1 ⟨by show 1 < 2; decide, s8.2.1, o3⟩ hl
      refine c_pu (by omega) c3 w2 ⟨by show 1 < 2; decide, o2, o3⟩ (fun E hE M3 c4 c5 => rp_75_72 rfl ⟨fun q => absurd q (by decide), fun _ => h1 E (by rw [ee]; exact hE) M3 (((ch1.uA (by omega)).tr c2).tr c4) c5⟩) (fun hE M3 c4 => rp_75_72 rfl ⟨fun _ => h0 (by rw [ee]; exact hE) M3 (((ch1.uA (by omega)).tr c2).tr c4), fun q => absurd rfl q⟩)
    · rw [ee, if_neg]
      intro z
      exact hl (by show (F.2.set j (0, p.2.1, s)).length < 10; omega)
end SC

/-! step, the reference's small methods -/
def ch6 (M M' : g_M) : Prop := M'.2 = M.2 ∧ ∀ t n, ¬ (t = 0 ∧ n = 306) → M'.1 t n = M.1 t n
theorem ch6.rf {M : g_M} : ch6 M M := ⟨rfl, fun _ _ _ => rfl⟩
theorem ch6.tr {M M' M'' : g_M} (h : ch6 M M') (h' : ch6 M' M'') : ch6 M M'' := ⟨h'.1.trans h.1, fun t n hn => (h'.2 t n hn).trans (h.2 t n hn)⟩
theorem ch6.uA {M : g_M} {k : Nat} {v : Int} : ch6 M (g_uA M (0, 306) k v) := by
  refine ⟨rfl, fun t m hm => ?_⟩
  funext a
  rw [g_uA_at, if_neg]
  rintro ⟨rfl, rfl, -⟩
  exact hm ⟨rfl, rfl⟩
theorem mF.k6 {M M' : g_M} {g : Nat} {F : pf_F} (h : mF M g F) (hc : ch6 M M') : mF M' g F := h.kd (fun n _ _ => hc.2 0 n (by omega))
def mK (M : g_M) (S : Nat) : Prop := ∀ k, k < 8 → M.1 0 306 k = bi (S.testBit k)
theorem bi_1 {b : Bool} : bi b = 1 ↔ b = true := by cases b <;> simp [bi]
theorem bi_in {a b : Bool} : bi a = bi b ↔ a = b := by cases a <;> cases b <;> simp [bi]
section SR
variable {D : Nat} {M : g_M} {g : Nat} {F : pf_F} {Q : g_P}
theorem m_136 (hD : 5 ≤ D) (hg : g < 200) (hF : mF M g F) (hw : pf_wf F) (h : Q [.inl (en (sp (pf_terms F)))] M) : g_Ev D 136 [.inr (0, 286), .inl (g : Int)] M Q := by
  obtain ⟨D, rfl⟩ := g_dep hD
  have hb : ∀ t : Nat, ¬ pf_in t F → (pf_terms F).testBit t = false := fun t ht => by
    cases z : (pf_terms F).testBit t with
    | false => rfl
    | true => exact absurd (pf_terms_bit.mp z) ht
  have hb1 : ∀ t : Nat, pf_in t F → ¬ (pf_terms F).testBit t = false := fun t ht z => by rw [pf_terms_bit.mpr ht] at z; cases z
  have step : ∀ (t : Nat), t < 8 → (¬ pf_in t F → Q [.inl (t : Int)] M) → (pf_in t F → g_R (D + 5) 136 Q 2 [.inr (0, 286), .inl (g : Int), .inl ((t : Int) + 1)] [] M) → g_R (D + 5) 136 Q 2 [.inr (0, 286), .inl (g : Int), .inl (t : Int)] [] M := fun t ht k0 k1 => by
    refine rp_136_2 rfl ⟨fun q => by exfalso; omega, fun _ => m_112 (by omega) hg hF hw (fun n hn hin => rp_136_14 rfl ⟨fun _ => ⟨by unfold hm_in; omega, k1 ?_⟩, fun q => absurd q (by decide)⟩) (fun hno => rp_136_14 rfl ⟨fun q => absurd rfl q, fun _ => k0 (hno t rfl)⟩)⟩
    rw [show t = n by omega]
    exact hin
  unfold sp at h
  refine g_enter hk_136 hn_136 (rp_136_0 rfl (step 5 (by omega) (fun k => ?_) (fun k5 => step 6 (by omega) (fun k => ?_) (fun k6 => step 7 (by omega) (fun k => ?_) (fun k7 => rp_136_2 rfl ⟨fun _ => ?_, fun q => by exfalso; omega⟩)))))
  · rw [if_pos (hb 5 k)] at h; exact h
  · rw [if_neg (hb1 5 k5), if_pos (hb 6 k)] at h; exact h
  · rw [if_neg (hb1 5 k5), if_neg (hb1 6 k6), if_pos (hb 7 k)] at h; exact h
  · rw [if_neg (hb1 5 k5), if_neg (hb1 6 k6), if_neg (hb1 7 k7)] at h; exact h
theorem p1_same {S : Nat} {p : pf_T} (h : S.testBit p.2.1 = S.testBit p.2.2) : p1 S p = S := by
  unfold p1
  split
  · next z =>
    have hx : S.testBit p.2.1 = true := by
      rcases z.2 with w | w
      · exact w
      · rw [h]; exact w
    have hy : S.testBit p.2.2 = true := by rw [← h]; exact hx
    apply pb_ext
    intro i
    rw [Nat.testBit_or, Nat.testBit_or, pb_bit, pb_bit]
    by_cases w1 : p.2.1 = i
    · rw [← w1, hx]; rfl
    · by_cases w2 : p.2.2 = i
      · rw [← w2, hy]; rfl
      · simp [w1, w2]
  · rfl
theorem p1_diff {S : Nat} {p : pf_T} (h0 : p.1 = 0) (h : S.testBit p.2.1 ≠ S.testBit p.2.2) : p1 S p = S ||| (2 ^ p.2.1 ||| 2 ^ p.2.2) ∧ p1 S p ≠ S := by
  have hz : S.testBit p.2.1 = true ∨ S.testBit p.2.2 = true := by
    cases w1 : S.testBit p.2.1 with
    | true => exact Or.inl rfl
    | false =>
      cases w2 : S.testBit p.2.2 with
      | true => exact Or.inr rfl
      | false => rw [w1, w2] at h; exact absurd rfl h
  have e : p1 S p = S ||| (2 ^ p.2.1 ||| 2 ^ p.2.2) := by unfold p1; rw [if_pos ⟨h0, hz⟩]
  refine ⟨e, fun z => h ?_⟩
  have b1 : (p1 S p).testBit p.2.1 = true := by rw [e, Nat.testBit_or, Nat.testBit_or, pb_bit]; simp
  have b2 : (p1 S p).testBit p.2.2 = true := by rw [e, Nat.testBit_or, Nat.testBit_or, pb_bit, pb_bit]; simp
  rw [z] at b1 b2
  rw [b1, b2]
theorem pop_str {S S' : Nat} (hS : S < 256) (hS' : S' < 256) (h : sb S S') (hne : S' ≠ S) : pop S + 1 ≤ pop S' := by
  have h1 := pop_le h
  rcases Nat.lt_or_ge (pop S) (pop S') with z | z
  · exact z
  · exact absurd (pop_eq (by omega) (by omega) h (by omega)).symm hne
theorem pop_bit {t : Nat} (ht : t < 8) : pop (2 ^ t) = 1 := by
  have := pop_add (t := 0) (a := t) (by omega) (by omega) (Nat.zero_testBit t)
  rw [Nat.zero_or, pop_zero] at this
  exact this
theorem sb_anti {n m : Nat} (h : sb n m) (h' : sb m n) : n = m := pb_ext (fun i => by
  cases w : n.testBit i with
  | true => exact (h i w).symm
  | false =>
    cases v : m.testBit i with
    | false => rfl
    | true => rw [h' i v] at w; cases w)
theorem m_140 (hD : 3 ≤ D) (hg : g < 200) (hF : mF M g F) (hw : pf_wf F) {t : Nat} (ht : t < 8) (h : ∀ M', ch6 M M' → mK M' (kn F t) → Q [] M') : g_Ev D 140 [.inr (0, 286), .inl (g : Int), .inl (t : Int)] M Q := by
  obtain ⟨D, rfl⟩ := g_dep hD
  have l1 := hw.1
  have pass : ∀ (S : Nat) (M1 : g_M), S < 256 → ch6 M M1 → mK M1 S → (ps F S = S → kn F t = S) → (ps F S ≠ S → ∀ M2, ch6 M M2 → mK M2 (ps F S) → g_R (D + 3) 140 Q 32 [.inr (0, 286), .inl (g : Int), .inl (t : Int), .inl 1] [] M2) → g_R (D + 3) 140 Q 32 [.inr (0, 286), .inl (g : Int), .inl (t : Int), .inl 1] [] M1 := by
    intro S M1 hS hc hK hstop hnext
    have inner : ∀ (m i S' : Nat) (x y : Int) (M2 : g_M), i + m = F.1.length → y = (i : Int) → S' < 256 → ch6 M M2 → mK M2 S' → ps F S = (F.1.drop i).foldl p1 S' → sb S S' → (x = 0 ∧ S' = S ∨ x = 1 ∧ S' ≠ S) → g_R (D + 3) 140 Q 41 [.inr (0, 286), .inl (g : Int), .inl (t : Int), .inl x, .inl y] [] M2 := by
      intro m
      induction m with
      | zero =>
        intro i S' x y M2 hi hy hS' hc2 hK2 hE hsb hx
        subst hy
        have hF2 := hF.k6 hc2
        rw [List.drop_eq_nil_of_le (by omega)] at hE
        have hE2 : ps F S = S' := hE
        refine rp_140_41 rfl ?_
        rw [Int.toNat_natCast, hF2.1]
        refine ⟨by omega, fun _ => ?_, fun q => by exfalso; omega⟩
        rcases hx with ⟨rfl, hx⟩ | ⟨rfl, hx⟩
        · refine rp_140_32 rfl ⟨fun _ => h M2 hc2 ?_, fun q => absurd rfl q⟩
          rw [hstop (hE2.trans hx), ← hx]
          exact hK2
        · exact hnext (by rw [hE2]; exact hx) M2 hc2 (by rw [hE2]; exact hK2)
      | succ m ihm =>
        intro i S' x y M2 hi hy hS' hc2 hK2 hE hsb hx
        subst hy
        have hF2 := hF.k6 hc2
        have hlt : i < F.1.length := by omega
        have hat := List.getElem?_eq_getElem hlt
        have ok := hw.2.2.1 _ (List.getElem_mem hlt)
        have r := hF2.2.2.1 i _ hat
        rw [List.drop_eq_getElem_cons hlt, List.foldl_cons] at hE
        generalize hp : F.1[i] = p at ok r hE
        have o1 := ok.1
        have o2 := ok.2.1
        have o3 := ok.2.2
        have kx := hK2 p.2.1 o2
        have ky := hK2 p.2.2 o3
        have skip : p1 S' p = S' → hm_in ((i : Int) + 1) ∧ g_R (D + 3) 140 Q 41 [.inr (0, 286), .inl (g : Int), .inl (t : Int), .inl x, .inl ((i : Int) + 1)] [] M2 := fun hz => ⟨by unfold hm_in; omega, ihm (i + 1) S' x _ M2 (by omega) (by omega) hS' hc2 hK2 (by rw [hE, hz]) hsb hx⟩
        refine rp_140_41 rfl ?_
        rw [Int.toNat_natCast, hF2.1, show ((16 : Int) * (g : Int) + (i : Int)).toNat = 16 * g + i by omega, r.1, r.2.1, r.2.2, Int.toNat_natCast, Int.toNat_natCast, kx, ky]
        refine ⟨by omega, fun q => by exfalso; omega, fun _ => ⟨by unfold hm_in; omega, by unfold hm_in; omega, by omega, fun q => skip (by unfold p1; rw [if_neg (fun z => by omega)]), fun q => ⟨by omega, by omega, fun q2 => ⟨by omega, by omega, by unfold hm_in; omega, ?_⟩, fun q2 => skip (p1_same (bi_in.mp q2))⟩⟩⟩
        have pd := p1_diff (S := S') (p := p) (by omega) (fun z => q2 (by rw [z]))
        have psb : sb S' (p1 S' p) := p1_sb
        refine ihm (i + 1) (p1 S' p) 1 _ _ (by omega) (by omega) (p1_lt hS' ok) ((hc2.tr ch6.uA).tr ch6.uA) (fun k hk => ?_) hE (fun j hj => psb j (hsb j hj)) (Or.inr ⟨rfl, fun z => pd.2 ?_⟩)
        · rw [g_uA_at, g_uA_at, pd.1, Nat.testBit_or, Nat.testBit_or, pb_bit, pb_bit]
          by_cases w2 : k = p.2.2
          · rw [if_pos ⟨rfl, rfl, w2⟩, w2]; simp [bi]
          · rw [if_neg (fun y => w2 y.2.2)]
            by_cases w1 : k = p.2.1
            · rw [if_pos ⟨rfl, rfl, w1⟩, w1]; simp [bi]
            · rw [if_neg (fun y => w1 y.2.2), hK2 k hk]
              have n1 : ¬ p.2.1 = k := fun y => w1 y.symm
              have n2 : ¬ p.2.2 = k := fun y => w2 y.symm
              simp [n1, n2]
        · have e1 : S' = S := by
            rw [z] at psb
            exact sb_anti psb hsb
          rw [z, e1]
    refine rp_140_32 rfl ⟨fun q => absurd q (by decide), fun _ => inner F.1.length 0 S 0 0 M1 (by omega) rfl hS hc hK (by rw [List.drop_zero]; rfl) (fun _ h => h) (Or.inl ⟨rfl, rfl⟩)⟩
  have outer : ∀ (n S : Nat) (M1 : g_M), S < 256 → ch6 M M1 → mK M1 S → kn F t = pn F n S → 8 ≤ pop S + n → g_R (D + 3) 140 Q 32 [.inr (0, 286), .inl (g : Int), .inl (t : Int), .inl 1] [] M1 := by
    intro n
    induction n with
    | zero =>
      intro S M1 hS hc hK hkn hpop
      refine pass S M1 hS hc hK (fun _ => hkn) (fun hne => ?_)
      have h1 := pop_str hS (ps_lt hw hS) ps_sb hne
      have h2 := pop_255 (ps_lt hw hS)
      omega
    | succ n ih =>
      intro S M1 hS hc hK hkn hpop
      refine pass S M1 hS hc hK (fun he => by rw [hkn]; exact pn_fix he) (fun hne M2 c2 k2 => ih (ps F S) M2 (ps_lt hw hS) c2 k2 hkn ?_)
      have h1 := pop_str hS (ps_lt hw hS) ps_sb hne
      omega
  have init : ∀ (m k : Nat) (x : Int) (M1 : g_M), k + m = 8 → x = (k : Int) → ch6 M M1 → (∀ j, j < k → M1.1 0 306 j = bi (Nat.testBit (2 ^ t) j)) → g_R (D + 3) 140 Q 2 [.inr (0, 286), .inl (g : Int), .inl (t : Int), .inl x] [] M1 := by
    intro m
    induction m with
    | zero =>
      intro k x M1 hk hx hc hj
      subst hx
      exact rp_140_2 rfl ⟨fun _ => outer 7 (2 ^ t) M1 (pb_pow8 ht) hc (fun j hj2 => hj j (by omega)) rfl (by rw [pop_bit ht]; omega), fun q => by exfalso; omega⟩
    | succ m ih =>
      intro k x M1 hk hx hc hj
      subst hx
      have nx : ∀ v : Int, v = bi (Nat.testBit (2 ^ t) k) → g_R (D + 3) 140 Q 2 [.inr (0, 286), .inl (g : Int), .inl (t : Int), .inl ((k : Int) + 1)] [] (g_uA M1 (0, 306) k v) := fun v hv => ih (k + 1) _ _ (by omega) (by omega) (hc.tr ch6.uA) (fun j hj2 => by
        rw [g_uA_at]
        by_cases z : j = k
        · rw [if_pos ⟨rfl, rfl, z⟩, z]; exact hv
        · rw [if_neg (fun y => z y.2.2)]; exact hj j (by omega))
      refine rp_140_2 rfl ⟨fun q => by exfalso; omega, fun _ => ?_⟩
      rw [Int.toNat_natCast]
      refine ⟨fun q => ⟨by omega, by unfold hm_in; omega, nx 0 ?_⟩, fun q => ⟨by omega, by unfold hm_in; omega, nx 1 ?_⟩⟩
      · rw [pb_bit, decide_eq_false (by omega)]; rfl
      · rw [pb_bit, decide_eq_true (by omega)]; rfl
  exact g_enter hk_140 hn_140 (rp_140_0 rfl (init 8 0 0 M (by omega) rfl ch6.rf (fun j hj => by omega)))
theorem m_141 (hD : 3 ≤ D) (hg : g < 200) (hF : mF M g F) (hw : pf_wf F) {how S : Nat} (hK : mK M S) (h : Q [.inl (en (fp F how S))] M) : g_Ev D 141 [.inr (0, 286), .inl (g : Int), .inl (how : Int)] M Q := by
  obtain ⟨D, rfl⟩ := g_dep hD
  have l2 := hw.2.1
  have loop : ∀ (m i : Nat) (y : Int), i + m = F.2.length → y = (i : Int) → (∀ (k : Nat) (q : pf_T), k < i → F.2[k]? = some q → ¬ (q.1 = how ∧ S.testBit q.2.1 = true)) → g_R (D + 3) 141 Q 2 [.inr (0, 286), .inl (g : Int), .inl (how : Int), .inl y] [] M := by
    intro m
    induction m with
    | zero =>
      intro i y hi hy hk
      subst hy
      refine rp_141_2 rfl ?_
      rw [Int.toNat_natCast, hF.2.1]
      refine ⟨by omega, fun _ => ?_, fun q => by exfalso; omega⟩
      rw [fp_no (fun p hp => ?_)] at h
      · exact h
      · obtain ⟨k, k1, k2⟩ := List.mem_iff_getElem.mp hp
        exact hk k p (by omega) (by rw [List.getElem?_eq_getElem k1, k2])
    | succ m ih =>
      intro i y hi hy hk
      subst hy
      have hlt : i < F.2.length := by omega
      have hat := List.getElem?_eq_getElem hlt
      have ok := hw.2.2.2 _ (List.getElem_mem hlt)
      have r := hF.2.2.2 i _ hat
      generalize hp : F.2[i] = p at ok r hat
      have o2 := ok.2.1
      have next : ¬ (p.1 = how ∧ S.testBit p.2.1 = true) → hm_in ((i : Int) + 1) ∧ g_R (D + 3) 141 Q 2 [.inr (0, 286), .inl (g : Int), .inl (how : Int), .inl ((i : Int) + 1)] [] M := fun hz => ⟨by unfold hm_in; omega, ih (i + 1) _ (by omega) (by omega) (fun k q hk2 hq => by
        by_cases v : k = i
        · subst v
          rw [hat] at hq
          cases hq
          exact hz
        · exact hk k q (by omega) hq)⟩
      refine rp_141_2 rfl ?_
      rw [Int.toNat_natCast, hF.2.1, show ((10 : Int) * (g : Int) + (i : Int)).toNat = 10 * g + i by omega, r.1, r.2.1, Int.toNat_natCast, hK _ o2]
      refine ⟨by omega, fun q => by exfalso; omega, fun _ => ⟨by unfold hm_in; omega, by unfold hm_in; omega, by omega, fun q => next (fun z => q (by omega)), fun q => ⟨by omega, fun q2 => next (fun z => by rw [bi_0.mp q2] at z; cases z.2), fun q2 => ?_⟩⟩⟩
      have hb : S.testBit p.2.1 = true := by
        cases w : S.testBit p.2.1 with
        | true => rfl
        | false => rw [w] at q2; exact absurd rfl q2
      rw [fp_at hat (by omega) hb hk] at h
      exact h
  exact g_enter hk_141 hn_141 (rp_141_0 rfl (loop F.2.length 0 0 (by omega) rfl (fun k q hk => by omega)))
end SR

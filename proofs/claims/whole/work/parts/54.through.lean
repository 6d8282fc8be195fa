/-! step, the class's way through the cases -/
def chS (d k : Nat) (M M' : g_M) : Prop := (∀ n, n ≠ 1 → M'.2 n = M.2 n) ∧ (∀ t n, ¬ ((t = 1 ∨ t = 2 ∨ t = 3) ∧ (d < n ∧ n < 12 ∨ k ≤ n)) → ¬ ((t = 12 ∨ t = 13 ∨ t = 14) ∧ n = 1) → ¬ ((t = 7 ∨ t = 10 ∨ t = 11) ∧ n = 2) → ¬ (t = 0 ∧ n = 16) → M'.1 t n = M.1 t n) ∧ (∀ j, j ≠ 7 → M'.1 0 16 j = M.1 0 16 j) ∧ ∃ lo : Nat, lo < 256 ∧ M'.1 12 1 3 = (lo : Int)
theorem chS.tr {d k d' k' : Nat} {M M' M'' : g_M} (h : chS d k M M') (h' : chS d' k' M' M'') (hd : d ≤ d') (hk : k ≤ k') : chS d k M M'' := by
  refine ⟨fun n hn => (h'.1 n hn).trans (h.1 n hn), fun t n h1 h2 h3 h4 => (h'.2.1 t n (by omega) h2 h3 h4).trans (h.2.1 t n h1 h2 h3 h4), fun j hj => (h'.2.2.1 j hj).trans (h.2.2.1 j hj), h'.2.2.2⟩
theorem chS.of1 {d k f : Nat} {M M' : g_M} (h : ch1 f M M') (hf : d < f ∧ f < 12 ∨ k ≤ f) (hlo : ∃ lo : Nat, lo < 256 ∧ M.1 12 1 3 = (lo : Int)) : chS d k M M' := by
  refine ⟨fun n _ => by rw [h.1], fun t n h1 h2 h3 h4 => h.2 t n (fun z => h1 ⟨z.1, by rw [z.2]; exact hf⟩), fun j _ => by rw [h.2 0 16 (by omega)], ?_⟩
  rw [h.2 12 1 (by omega)]
  exact hlo
theorem chS.ofw {d k : Nat} {M M' : g_M} (h : chw 1 M M') : chS d k M M' := by
  refine ⟨fun n hn => h.1 n hn, fun t n h1 h2 h3 h4 => h.2.1 t n h2 h3, fun j _ => by rw [h.2.1 0 16 (by omega) (by omega)], h.2.2⟩
theorem chS.rf {d k : Nat} {M : g_M} (hlo : ∃ lo : Nat, lo < 256 ∧ M.1 12 1 3 = (lo : Int)) : chS d k M M := ⟨fun _ _ => rfl, fun _ _ _ _ _ _ => rfl, fun _ _ => rfl, hlo⟩
theorem cF.kS {d k f : Nat} {M M' : g_M} {F : pf_F} (h : cF M f F) (hc : chS d k M M') (hf : ¬ (d < f ∧ f < 12 ∨ k ≤ f)) : cF M' f F := by
  have e : ∀ t, t = 1 ∨ t = 2 ∨ t = 3 → M'.1 t f = M.1 t f := fun t ht => hc.2.1 t f (fun z => hf z.2) (by omega) (by omega) (by omega)
  unfold cF at h ⊢
  rw [e 1 (by omega), e 2 (by omega), e 3 (by omega)]
  exact h
theorem cF.k1 {f g : Nat} {M M' : g_M} {F : pf_F} (h : cF M f F) (hc : ch1 g M M') (hf : f ≠ g) : cF M' f F := by
  have e : ∀ t, t = 1 ∨ t = 2 ∨ t = 3 → M'.1 t f = M.1 t f := fun t ht => hc.2 t f (by omega)
  unfold cF at h ⊢
  rw [e 1 (by omega), e 2 (by omega), e 3 (by omega)]
  exact h
theorem cF.kw {f i : Nat} {M M' : g_M} {F : pf_F} (h : cF M f F) (hc : chw i M M') : cF M' f F := by
  have e : ∀ t, t = 1 ∨ t = 2 ∨ t = 3 → M'.1 t f = M.1 t f := fun t ht => hc.2.1 t f (by omega) (by omega)
  unfold cF at h ⊢
  rw [e 1 (by omega), e 2 (by omega), e 3 (by omega)]
  exact h
theorem sA.kS {d k act x : Nat} {y : Int} {M M' : g_M} (h : sA M act x y) (hc : chS d k M M') : sA M' act x y := by
  unfold sA
  rw [hc.2.2.1 4 (by omega), hc.2.2.1 5 (by omega), hc.2.2.1 6 (by omega)]
  exact h
/-- where the results go -/
def SL (M : g_M) (made : Nat) (rs : List pf_F) : Prop := M.2 2 = some 0 ∧ M.1 0 16 3 = (made : Int) ∧ M.1 0 16 7 = (rs.length : Int) ∧ made ≤ 60 ∧ ∀ (i : Nat) (R : pf_F), rs[i]? = some R → cF M (12 + made + i) R
theorem SL.kS {d made : Nat} {M M' : g_M} {rs : List pf_F} (h : SL M made rs) (hc : chS d (12 + made + rs.length) M M') (h7 : M'.1 0 16 7 = M.1 0 16 7) : SL M' made rs := by
  refine ⟨by rw [hc.1 2 (by omega)]; exact h.1, by rw [hc.2.2.1 3 (by omega)]; exact h.2.1, by rw [h7]; exact h.2.2.1, h.2.2.2.1, fun i R hi => (h.2.2.2.2 i R hi).kS hc ?_⟩
  have := (List.getElem?_eq_some_iff.mp hi).1
  omega
section SC
variable {act x yn made : Nat} {y : Int}
theorem c_68 (ha : act < 8) (hx : x < 8) (hyn : yn < 8) (hy : act = 0 ∨ 3 < act → y = (yn : Int)) : ∀ (n : Nat) {D depth : Nat} {M : g_M} {F : pf_F} {rs : List pf_F} {Q : g_P}, 2 * n + 24 ≤ D → depth + n = 12 → 1 ≤ n → CN act x yn n F rs → cF M depth F → pf_wf F → SL M made rs → (∀ R ∈ rs, pf_wf R) → sA M act x y → (∃ lo : Nat, lo < 256 ∧ M.1 12 1 3 = (lo : Int)) →
    (∀ (c : Int) (rs' : List pf_F) (M' : g_M), SG act x yn n F rs c rs' → chS depth (12 + made + rs.length) M M' → SL M' made rs' → (∀ R ∈ rs', pf_wf R) → rs.length ≤ rs'.length → Q [.inl c] M') → g_Ev D 68 [.inr (0, 16), .inl (depth : Int)] M Q := by
  intro n
  induction n with
  | zero => intro D depth M F rs Q _ _ h; omega
  | succ n ih =>
    intro D depth M F rs Q hD hdn _ hCN hc hw hSL hrw hA hlo h
    obtain ⟨D, rfl⟩ := g_dep (k := 2 * n + 26) (D := D) (by omega)
    have e1 : D + (2 * n + 26) = D + 2 * n + 25 + 1 := by omega
    rw [e1]
    have hrl : rs.length + 1 ≤ 11 := by rcases hCN with z | z <;> omega
    have hm60 := hSL.2.2.2.1
    refine g_enter hk_68 hn_68 (rp_68_0 (D1 := D + 2 * n + 23) rfl ⟨by omega, ?_⟩)
    rw [Int.toNat_natCast]
    refine c_55 (by omega) hc hw hlo (fun r M1 hr w1 => rp_68_15 (D1 := D + 2 * n + 23) rfl ⟨fun q => ?_, fun q => ?_⟩)
    · have hIF : IFF F := by
        rcases hr with ⟨_, hr⟩ | ⟨rfl, _⟩
        · exact hr
        · exact absurd rfl q
      have s1 : chS depth (12 + made + rs.length) M M1 := chS.ofw w1
      have hc1 := hc.kw w1
      have hA1 := hA.kS s1
      have hSL1 : SL M1 made rs := hSL.kS s1 (by rw [w1.2.1 0 16 (by omega) (by omega)])
      have lo1 := w1.2.2
      have leaf : ∀ (u : Nat) (w : Int) (M2 : g_M), M2 = M1 → (¬ (3 ≤ act ∧ act ≤ 5) ∨ fp F 0 (kn F (if act = 4 then yn else x)) = some u) → (3 ≤ act ∧ act ≤ 5 → w = (u : Int) ∧ u < F.2.length) → ∀ (l4 : List g_V), (hm_in ((M2.1 0 16 3) + (M2.1 0 16 7))) ∧ ((M2.2 2 = none → (Q [.inl (-4 : Int)] M2)) ∧ (∀ f104, M2.2 2 = some f104 → ((M2.2 2 = none → (False)) ∧ (∀ f113, M2.2 2 = some f113 → (((M2.1 0 16 3) + (M2.1 0 16 7) < ((72 : Nat) : Int) → ((M2.2 2 = none → (False)) ∧ (∀ f124, M2.2 2 = some f124 → (((0 : Int) ≤ (M2.1 0 16 3) + (M2.1 0 16 7) ∧ (M2.1 0 16 3) + (M2.1 0 16 7) < 72) ∧ (g_Ev (D + 2 * n + 25) 20 [.inr (1, (12 + ((M2.1 0 16 3) + (M2.1 0 16 7)).toNat)), .inr (1, depth)] M2 (fun q M' => g_R (D + 2 * n + 25 + 1) 68 Q 134 [.inr (0, 16), .inl (depth : Int), .inr (1, depth), .inl w, .inl ((M2.1 0 16 3) + (M2.1 0 16 7))] (q ++ []) M')))))) ∧ (((72 : Nat) : Int) ≤ (M2.1 0 16 3) + (M2.1 0 16 7) → (Q [.inl (-4 : Int)] M2))))))) := by
        intro u w M2 hM hsel hu _
        subst hM
        have n2 : ∀ {M3 : g_M}, M3.2 2 = some 0 → M3.2 2 = none → False := fun z1 z2 => by rw [z1] at z2; cases z2
        rw [hSL1.2.1, hSL1.2.2.1]
        refine ⟨by unfold hm_in; omega, fun z => absurd (z.symm.trans hSL1.1) (by simp), fun _ _ => ⟨n2 hSL1.1, fun _ _ => ⟨fun _ => ⟨n2 hSL1.1, fun _ _ => ⟨by omega, ?_⟩⟩, fun z => by exfalso; omega⟩⟩⟩
        rw [show ((made : Int) + (rs.length : Int)).toNat = made + rs.length by omega, show (12 + (made + rs.length)) = 12 + made + rs.length by omega]
        refine c_20 (by omega) (by omega) hc1 hw (fun M3 k1 k2 => rp_68_134 (D1 := D + 2 * n + 23) rfl ⟨n2 (by rw [k1.1]; exact hSL1.1), fun _ _ => ⟨by omega, ?_⟩⟩)
        rw [show ((made : Int) + (rs.length : Int)).toNat = made + rs.length by omega, show (12 + (made + rs.length)) = 12 + made + rs.length by omega]
        have s3 : chS depth (12 + made + rs.length) M2 M3 := chS.of1 k1 (Or.inr (Nat.le_refl _)) lo1
        have hA3 := hA1.k1 k1
        refine c_77 (yn := yn) (u := u) (by omega) hA3 ha hx hyn hy k2 hw hu (fun G hG M4 k3 k4 => rp_68_146 (D1 := D + 2 * n + 23) rfl ⟨fun _ => ⟨n2 (by rw [k3.1, k1.1]; exact hSL1.1), fun _ _ => ⟨by omega, ?_⟩⟩, fun z => absurd z (by decide)⟩) (fun hG M4 k3 => rp_68_146 (D1 := D + 2 * n + 23) rfl ⟨fun z => absurd rfl z, fun _ => ?_⟩)
        · rw [show ((made : Int) + (rs.length : Int)).toNat = made + rs.length by omega, show (12 + (made + rs.length)) = 12 + made + rs.length by omega]
          have s4 : chS depth (12 + made + rs.length) M3 M4 := chS.of1 k3 (Or.inr (Nat.le_refl _)) s3.2.2.2
          have hwG := chgf_wf hw hx hyn hG
          have s14 : chS depth (12 + made + rs.length) M M4 := (s1.tr s3 (Nat.le_refl _) (Nat.le_refl _)).tr s4 (Nat.le_refl _) (Nat.le_refl _)
          have f7 : M4.1 0 16 7 = M.1 0 16 7 := by rw [k3.2 0 16 (by omega), k1.2 0 16 (by omega), w1.2.1 0 16 (by omega) (by omega)]
          refine c_55 (by omega) k4 hwG s14.2.2.2 (fun r2 M5 hr2 w5 => rp_68_171 (D1 := D + 2 * n + 23) rfl ?_)
          rw [f7, hSL.2.2.1]
          have s15 : chS depth (12 + made + rs.length) M M5 := s14.tr (chS.ofw w5) (Nat.le_refl _) (Nat.le_refl _)
          have up7 : ∀ v : Int, chS depth (12 + made + rs.length) M (g_uA M5 (0, 16) 7 v) := fun v => by
            refine ⟨s15.1, fun t n h1 h2 h3 h4 => ?_, fun j hj => ?_, ?_⟩
            · rw [← s15.2.1 t n h1 h2 h3 h4]
              funext a
              rw [g_uA_at, if_neg (fun z => h4 ⟨z.1, z.2.1⟩)]
            · rw [g_uA_at, if_neg (by omega)]; exact s15.2.2.1 j hj
            · obtain ⟨lo, l1, l2⟩ := s15.2.2.2
              exact ⟨lo, l1, by rw [g_uA_at, if_neg (by omega)]; exact l2⟩
          have k5 : cF M5 (12 + made + rs.length) G := k4.kw w5
          have cU : ∀ {f : Nat} {R : pf_F} {v : Int}, cF M5 f R → cF (g_uA M5 (0, 16) 7 v) f R := fun hR => by
            unfold cF at hR ⊢
            have e : ∀ t n, t = 1 ∨ t = 2 ∨ t = 3 → ∀ v : Int, (g_uA M5 (0, 16) 7 v).1 t n = M5.1 t n := fun t n ht v => by
              funext a
              rw [g_uA_at, if_neg (by omega)]
            rw [e 1 _ (by omega), e 2 _ (by omega), e 3 _ (by omega)]
            exact hR
          have old : ∀ (i : Nat) (R : pf_F), rs[i]? = some R → cF M5 (12 + made + i) R := fun i R hi => by
            have := (List.getElem?_eq_some_iff.mp hi).1
            exact (hSL.2.2.2.2 i R hi).kS s15 (by omega)
          refine ⟨fun z => ⟨by unfold hm_in; omega, h 0 rs _ (Or.inr ⟨hIF, Or.inr ⟨u, hsel, Or.inr ⟨G, hG, rfl, Or.inl ⟨?_, rfl⟩⟩⟩⟩) (up7 _) ⟨?_, ?_, ?_, hm60, fun i R hi => cU (old i R hi)⟩ hrw (Nat.le_refl _)⟩, fun z => ⟨by unfold hm_in; omega, h 0 (rs ++ [G]) _ (Or.inr ⟨hIF, Or.inr ⟨u, hsel, Or.inr ⟨G, hG, rfl, Or.inr ⟨?_, rfl⟩⟩⟩⟩) (up7 _) ⟨?_, ?_, ?_, hm60, fun i R hi => cU ?_⟩ (fun R hR => ?_) (by simp)⟩⟩
          · rcases hr2 with ⟨rfl, _⟩ | ⟨_, y2⟩
            · exact absurd z (by decide)
            · exact y2
          · show M5.2 2 = some 0; rw [s15.1 2 (by omega)]; exact hSL.1
          · rw [(up7 _).2.2.1 3 (by omega)]; exact hSL.2.1
          · rw [g_uA_at, if_pos ⟨rfl, rfl, rfl⟩]; omega
          · rcases hr2 with ⟨_, y2⟩ | ⟨rfl, _⟩
            · exact y2
            · exact absurd rfl z
          · show M5.2 2 = some 0; rw [s15.1 2 (by omega)]; exact hSL.1
          · rw [(up7 _).2.2.1 3 (by omega)]; exact hSL.2.1
          · rw [g_uA_at, if_pos ⟨rfl, rfl, rfl⟩]; simp
          · by_cases y2 : i < rs.length
            · rw [List.getElem?_append_left y2] at hi
              exact old i R hi
            · rw [List.getElem?_append_right (by omega)] at hi
              have hi0 : i - rs.length = 0 := by
                cases y3 : i - rs.length with
                | zero => rfl
                | succ m => rw [y3] at hi; cases hi
              rw [hi0] at hi
              cases hi
              rw [show i = rs.length by omega]
              exact k5
          · rcases List.mem_append.mp hR with y2 | y2
            · exact hrw R y2
            · rw [List.mem_singleton.mp y2]; exact hwG
        · have s4 : chS depth (12 + made + rs.length) M3 M4 := chS.of1 k3 (Or.inr (Nat.le_refl _)) s3.2.2.2
          have s14 : chS depth (12 + made + rs.length) M M4 := (s1.tr s3 (Nat.le_refl _) (Nat.le_refl _)).tr s4 (Nat.le_refl _) (Nat.le_refl _)
          have f7 : M4.1 0 16 7 = M.1 0 16 7 := by rw [k3.2 0 16 (by omega), k1.2 0 16 (by omega), w1.2.1 0 16 (by omega) (by omega)]
          exact h (-4) rs M4 (Or.inr ⟨hIF, Or.inr ⟨u, hsel, Or.inl ⟨hG, rfl, rfl⟩⟩⟩) s14 (hSL.kS s14 f7) hrw (Nat.le_refl _)
      rw [hA1.1]
      refine ⟨fun q1 => leaf 0 (-1) M1 rfl (Or.inl (by omega)) (fun z => by exfalso; omega) [], fun q1 => ⟨fun q2 => leaf 0 (-1) M1 rfl (Or.inl (by omega)) (fun z => by exfalso; omega) [], fun q2 => ?_⟩⟩
      have hneed : 3 ≤ act ∧ act ≤ 5 := by omega
      have cont : ∀ t : Nat, t < 8 → (if act = 4 then yn else x) = t → g_Ev (D + 2 * n + 25) 69 [.inr (1, depth), .inl (t : Int)] M1 (fun q M' => g_R (D + 2 * n + 25 + 1) 68 Q 61 [.inr (0, 16), .inl (depth : Int), .inr (1, depth), .inl (-1 : Int)] (q ++ []) M') := fun t ht het => by
        have hk8 := kn_lt (t := t) hw ht
        refine c_69 (by omega) hc1 hw ht (rp_68_61 (D1 := D + 2 * n + 23) rfl ?_)
        refine c_70 (how := 0) (by omega) hc1 hw hk8 (rp_68_70 (D1 := D + 2 * n + 23) rfl ?_)
        cases hcell : fp F 0 (kn F t) with
        | some u =>
          obtain ⟨p, p1, _⟩ := fp_some hcell
          have hlt := (List.getElem?_eq_some_iff.mp p1).1
          refine ⟨fun _ => leaf u (u : Int) M1 rfl (Or.inr (by rw [het]; exact hcell)) (fun _ => ⟨rfl, hlt⟩) [], fun z => ?_⟩
          exfalso
          have : (u : Int) = -1 := z
          omega
        | none =>
          refine ⟨fun z => absurd rfl z, fun _ => ?_⟩
          refine c_70 (how := 1) (by omega) hc1 hw hk8 (rp_68_85 (D1 := D + 2 * n + 23) rfl ⟨by unfold hm_in; omega, ?_⟩)
          have hcell2 : fp F 0 (kn F (if act = 4 then yn else x)) = none := by rw [het]; exact hcell
          have hCN1 : F.2.length + 2 ≤ n + 1 ∧ rs.length + F.2.length + 1 ≤ 11 := by
            rcases hCN with z | ⟨z | z, _⟩
            · exact z
            · exact absurd hneed z
            · exact absurd hcell2 z
          have e2 : D + 2 * n + 25 = D + 2 * n + 24 + 1 := by omega
          rw [e2]
          have done : ∀ (c : Int) (rs' : List pf_F) (M' : g_M), SG act x yn (n + 1) F rs c rs' → chS depth (12 + made + rs.length) M M' → SL M' made rs' → (∀ R ∈ rs', pf_wf R) → rs.length ≤ rs'.length → g_R (D + 2 * n + 24 + 1 + 1) 68 Q 91 [.inr (0, 16), .inl (depth : Int), .inr (1, depth), .inl (-1 : Int), .inl (kn F t : Int)] [.inl c] M' := fun c rs' M' g1 g2 g3 g4 g5 => rp_68_91 (D1 := D + 2 * n + 23) rfl (h c rs' M' g1 g2 g3 g4 g5)
          cases hrow : fp F 1 (kn F t) with
          | none => exact g_enter hk_71 hn_71 (rp_71_0 (D1 := D + 2 * n + 22) rfl ⟨fun z => absurd rfl z, fun _ => done (-5) rs M1 (Or.inr ⟨hIF, Or.inl ⟨hneed, hcell2, Or.inl ⟨by rw [het]; exact hrow, rfl, rfl⟩⟩⟩) s1 hSL1 hrw (Nat.le_refl _)⟩)
          | some j =>
            obtain ⟨p, p1, _⟩ := fp_some hrow
            have hlt := (List.getElem?_eq_some_iff.mp p1).1
            have hrow2 : fp F 1 (kn F (if act = 4 then yn else x)) = some j := by rw [het]; exact hrow
            have eN : ((depth : Int) + 1) = ((depth + 1 : Nat) : Int) := by omega
            refine g_enter hk_71 hn_71 (rp_71_0 (D1 := D + 2 * n + 22) rfl ⟨fun _ => ⟨fun _ => ⟨by omega, ?_⟩, fun z => by exfalso; omega⟩, fun z => absurd z (by show ¬ (j : Int) = -1; omega)⟩)
            rw [eN, Int.toNat_natCast]
            show g_Ev (D + 2 * n + 24) 20 [.inr (1, depth + 1), .inr (1, depth)] M1 (fun q M' => g_R (D + 2 * n + 24 + 1) 71 _ 34 [.inr (0, 16), .inr (1, depth), .inl (j : Int), .inl ((depth + 1 : Nat) : Int), .inr (1, depth + 1)] (q ++ []) M')
            refine c_20 (by omega) (by omega) hc1 hw (fun M2 k1 k2 => rp_71_34 (D1 := D + 2 * n + 22) rfl ?_)
            have s2 : chS depth (12 + made + rs.length) M M2 := s1.tr (chS.of1 (d := depth) k1 (Or.inl (by omega)) lo1) (Nat.le_refl _) (Nat.le_refl _)
            refine c_72 (by omega) k2 hw hlt (fun E hE M3 k3 k4 => rp_71_40 (D1 := D + 2 * n + 22) rfl ⟨fun _ => ?_, fun z => absurd z (by decide)⟩) (fun hE M3 k3 => rp_71_40 (D1 := D + 2 * n + 22) rfl ⟨fun z => absurd rfl z, fun _ => ?_⟩)
            · have wE := emp_wf hw hE
              have lE := len_erase hlt wE.2
              have s3 : chS depth (12 + made + rs.length) M M3 := s2.tr (chS.of1 (d := depth) k3 (Or.inl (by omega)) s2.2.2.2) (Nat.le_refl _) (Nat.le_refl _)
              have f7 : M3.1 0 16 7 = M.1 0 16 7 := by rw [k3.2 0 16 (by omega), k1.2 0 16 (by omega), w1.2.1 0 16 (by omega) (by omega)]
              refine ih (by omega) (by omega) (by omega) (Or.inl ⟨by omega, by omega⟩) k4 wE.1 (hSL.kS s3 f7) hrw (hA.kS s3) s3.2.2.2 (fun c rs1 M4 g1 g2 g3 g4 g5 => rp_71_51 (D1 := D + 2 * n + 22) rfl ⟨fun z => ?_, fun z => ?_⟩)
              · have s4 : chS depth (12 + made + rs.length) M M4 := s3.tr g2 (by omega) (Nat.le_refl _)
                have hc4 : cF M4 depth F := hc.kS s4 (by omega)
                have few := (SG_few wE.1 g1).1
                refine c_20 (by omega) (by omega) hc4 hw (fun M5 k5 k6 => rp_71_67 (D1 := D + 2 * n + 22) rfl ?_)
                have s5 : chS depth (12 + made + rs.length) M M5 := s4.tr (chS.of1 (d := depth) k5 (Or.inl (by omega)) s4.2.2.2) (Nat.le_refl _) (Nat.le_refl _)
                have hS5 : SL M5 made rs1 := g3.kS (chS.of1 (d := depth) k5 (Or.inl (by omega)) s4.2.2.2) (by rw [k5.2 0 16 (by omega)])
                refine c_75 (by omega) k6 hw hlt (fun G hG M6 k7 k8 => rp_71_73 (D1 := D + 2 * n + 22) rfl ⟨fun z => absurd z (by decide), fun _ => ?_⟩) (fun hG M6 k7 => rp_71_73 (D1 := D + 2 * n + 22) rfl ⟨fun _ => ?_, fun z => absurd rfl z⟩)
                · have s6 : chS depth (12 + made + rs.length) M M6 := s5.tr (chS.of1 (d := depth) k7 (Or.inl (by omega)) s5.2.2.2) (Nat.le_refl _) (Nat.le_refl _)
                  have hS6 : SL M6 made rs1 := hS5.kS (chS.of1 (d := depth) k7 (Or.inl (by omega)) s5.2.2.2) (by rw [k7.2 0 16 (by omega)])
                  refine ih (by omega) (by omega) (by omega) (Or.inr ⟨lng_hc hrow2 hG, by omega, by omega⟩) k8 (lng_wf hw hG) hS6 g4 (hA.kS s6) s6.2.2.2 (fun c' rs2 M7 g1' g2' g3' g4' g5' => rp_71_81 (D1 := D + 2 * n + 22) rfl (done c' rs2 M7 (Or.inr ⟨hIF, Or.inl ⟨hneed, hcell2, Or.inr ⟨j, hrow2, Or.inr ⟨E, c, rs1, hE, g1, Or.inr ⟨z, Or.inr ⟨G, hG, g1'⟩⟩⟩⟩⟩⟩) (s6.tr g2' (by omega) (by omega)) g3' g4' (by omega)))
                · have s6 : chS depth (12 + made + rs.length) M M6 := s5.tr (chS.of1 (d := depth) k7 (Or.inl (by omega)) s5.2.2.2) (Nat.le_refl _) (Nat.le_refl _)
                  have hS6 : SL M6 made rs1 := hS5.kS (chS.of1 (d := depth) k7 (Or.inl (by omega)) s5.2.2.2) (by rw [k7.2 0 16 (by omega)])
                  exact done (-4) rs1 M6 (Or.inr ⟨hIF, Or.inl ⟨hneed, hcell2, Or.inr ⟨j, hrow2, Or.inr ⟨E, c, rs1, hE, g1, Or.inr ⟨z, Or.inl ⟨hG, rfl, rfl⟩⟩⟩⟩⟩⟩) s6 hS6 g4 g5
              · exact done c rs1 M4 (Or.inr ⟨hIF, Or.inl ⟨hneed, hcell2, Or.inr ⟨j, hrow2, Or.inr ⟨E, c, rs1, hE, g1, Or.inl ⟨z, rfl, rfl⟩⟩⟩⟩⟩) (s3.tr g2 (by omega) (Nat.le_refl _)) g3 g4 g5
            · have s3 : chS depth (12 + made + rs.length) M M3 := s2.tr (chS.of1 (d := depth) k3 (Or.inl (by omega)) s2.2.2.2) (Nat.le_refl _) (Nat.le_refl _)
              have f7 : M3.1 0 16 7 = M.1 0 16 7 := by rw [k3.2 0 16 (by omega), k1.2 0 16 (by omega), w1.2.1 0 16 (by omega) (by omega)]
              exact done (-4) rs M3 (Or.inr ⟨hIF, Or.inl ⟨hneed, hcell2, Or.inr ⟨j, hrow2, Or.inl ⟨hE, rfl, rfl⟩⟩⟩⟩) s3 (hSL.kS s3 f7) hrw (Nat.le_refl _)
      refine ⟨fun q3 => ?_, fun q3 => ?_⟩
      · rw [hA1.2.1]
        exact cont x hx (by rw [if_neg (by omega)])
      · rw [hA1.2.2, hy (by omega)]
        exact cont yn hyn (by rw [if_pos (by omega)])
    · have hIF : ¬ IFF F := by
        rcases hr with ⟨rfl, _⟩ | ⟨_, hr⟩
        · exact absurd q (by decide)
        · exact hr
      have s1 : chS depth (12 + made + rs.length) M M1 := chS.ofw w1
      exact h 0 rs M1 (Or.inl ⟨hIF, rfl, rfl⟩) s1 (hSL.kS s1 (by rw [w1.2.1 0 16 (by omega) (by omega)])) hrw (Nat.le_refl _)
end SC

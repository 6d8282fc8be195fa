/-! step, the reference's acts -/
section SR
variable {D : Nat} {M : g_M} {g : Nat} {F : pf_F} {Q : g_P}
theorem m_pu (hD : 4 ≤ D) (hg : g < 200) (hc : mF M g F) (hw : pf_wf F) {a b c : Nat} (h1 : ∀ F', pu F (a, b, c) = some F' → ∀ M', mch g M M' → mF M' g F' → Q [.inl 1] M') (h0 : pu F (a, b, c) = none → ∀ M', mch g M M' → Q [.inl 0] M') : g_Ev D 138 [.inr (0, 286), .inl (g : Int), .inl (a : Int), .inl (b : Int), .inl (c : Int)] M Q := by
  refine m_138 (p := (a, b, c)) hD hg hc hw (fun hin => h1 F ?_ M mch.rf hc) (fun hin hl M' c1 c2 => h1 _ ?_ M' c1 c2) (fun hin hl => h0 ?_ M mch.rf)
  · unfold pu; rw [if_pos hin]
  · unfold pu; rw [if_neg hin, if_pos hl]
  · unfold pu; rw [if_neg hin, if_neg hl]
theorem r1_x {x s : Nat} {p : pf_T} : ((r1 x s p).2.1 : Int) = if (p.2.1 : Int) = (x : Int) then (s : Int) else (p.2.1 : Int) := by
  unfold r1
  show ((if p.2.1 = x then s else p.2.1 : Nat) : Int) = _
  by_cases z : p.2.1 = x
  · rw [if_pos z, if_pos (by omega)]
  · rw [if_neg z, if_neg (by omega)]
theorem r1_y {x s : Nat} {p : pf_T} : ((r1 x s p).2.2 : Int) = if (p.2.2 : Int) = (x : Int) then (s : Int) else (p.2.2 : Int) := by
  unfold r1
  show ((if p.2.2 = x then s else p.2.2 : Nat) : Int) = _
  by_cases z : p.2.2 = x
  · rw [if_pos z, if_pos (by omega)]
  · rw [if_neg z, if_neg (by omega)]
theorem m_145 (hD : 3 ≤ D) (hg : g < 200) (hc : mF M g F) (hw : pf_wf F) {x s : Nat} (h : ∀ M', mch g M M' → mF M' g (ren F x s) → Q [] M') : g_Ev D 145 [.inr (0, 286), .inl (g : Int), .inl (x : Int), .inl (s : Int)] M Q := by
  obtain ⟨D, rfl⟩ := g_dep hD
  have l1 := hw.1
  have l2 := hw.2.1
  have loop2 : ∀ (m i : Nat) (y : Int) (M1 : g_M), i + m = F.2.length → y = (i : Int) → mch g M M1 → M1.1 0 287 g = (F.1.length : Int) → M1.1 0 291 g = (F.2.length : Int) → (∀ (k : Nat) (q : pf_T), F.1[k]? = some q → M1.1 0 288 (16 * g + k) = (q.1 : Int) ∧ M1.1 0 289 (16 * g + k) = ((r1 x s q).2.1 : Int) ∧ M1.1 0 290 (16 * g + k) = ((r1 x s q).2.2 : Int)) → (∀ (k : Nat) (q : pf_T), k < i → F.2[k]? = some q → M1.1 0 292 (10 * g + k) = (q.1 : Int) ∧ M1.1 0 293 (10 * g + k) = ((r1 x s q).2.1 : Int) ∧ M1.1 0 294 (10 * g + k) = ((r1 x s q).2.2 : Int)) → (∀ (k : Nat) (q : pf_T), i ≤ k → F.2[k]? = some q → M1.1 0 292 (10 * g + k) = (q.1 : Int) ∧ M1.1 0 293 (10 * g + k) = (q.2.1 : Int) ∧ M1.1 0 294 (10 * g + k) = (q.2.2 : Int)) → g_R (D + 3) 145 Q 81 [.inr (0, 286), .inl (g : Int), .inl (x : Int), .inl (s : Int), .inl y] [] M1 := by
    intro m
    induction m with
    | zero =>
      intro i y M1 hi hy hch h287 h291 hp hq hr
      subst hy
      refine rp_145_81 rfl ?_
      rw [Int.toNat_natCast, h291]
      refine ⟨by omega, fun _ => h M1 hch ⟨?_, ?_, fun k q hk => ?_, fun k q hk => ?_⟩, fun q => by exfalso; omega⟩
      · rw [h287]; unfold ren; simp
      · rw [h291]; unfold ren; simp
      · have hk2 : (F.1.map (r1 x s))[k]? = some q := hk
        rw [List.getElem?_map] at hk2
        cases hz : F.1[k]? with
        | none => rw [hz] at hk2; cases hk2
        | some q' => rw [hz] at hk2; cases hk2; exact hp k q' hz
      · have hk2 : (F.2.map (r1 x s))[k]? = some q := hk
        rw [List.getElem?_map] at hk2
        cases hz : F.2[k]? with
        | none => rw [hz] at hk2; cases hk2
        | some q' =>
          rw [hz] at hk2
          cases hk2
          have := (List.getElem?_eq_some_iff.mp hz).1
          exact hq k q' (by omega) hz
    | succ m ih =>
      intro i y M1 hi hy hch h287 h291 hp hq hr
      subst hy
      have hlt : i < F.2.length := by omega
      have hat := List.getElem?_eq_getElem hlt
      have r := hr i _ (Nat.le_refl _) hat
      generalize hpp : F.2[i] = p at r hat
      have go : ∀ (M2 : g_M), mch g M1 M2 → (∀ n, n ≠ 293 → n ≠ 294 → M2.1 0 n = M1.1 0 n) → (∀ j, j ≠ 10 * g + i → M2.1 0 293 j = M1.1 0 293 j ∧ M2.1 0 294 j = M1.1 0 294 j) → M2.1 0 293 (10 * g + i) = ((r1 x s p).2.1 : Int) → M2.1 0 294 (10 * g + i) = ((r1 x s p).2.2 : Int) → hm_in ((i : Int) + 1) ∧ g_R (D + 3) 145 Q 81 [.inr (0, 286), .inl (g : Int), .inl (x : Int), .inl (s : Int), .inl ((i : Int) + 1)] [] M2 := fun M2 c2 e1 e2 e3 e4 => by
        refine ⟨by unfold hm_in; omega, ih (i + 1) _ M2 (by omega) (by omega) (hch.tr c2) (by rw [e1 287 (by omega) (by omega)]; exact h287) (by rw [e1 291 (by omega) (by omega)]; exact h291) (fun k q hk => by rw [e1 288 (by omega) (by omega), e1 289 (by omega) (by omega), e1 290 (by omega) (by omega)]; exact hp k q hk) (fun k q hk hkq => ?_) (fun k q hk hkq => ?_)⟩
        · rw [e1 292 (by omega) (by omega)]
          by_cases z : k = i
          · subst z
            rw [hat] at hkq
            cases hkq
            exact ⟨r.1, e3, e4⟩
          · have k3 := e2 (10 * g + k) (by omega)
            rw [k3.1, k3.2]
            exact hq k q (by omega) hkq
        · have k3 := e2 (10 * g + k) (by omega)
          rw [e1 292 (by omega) (by omega), k3.1, k3.2]
          exact hr k q (by omega) hkq
      have rx := @r1_x x s p
      have ry := @r1_y x s p
      refine rp_145_81 rfl ?_
      rw [Int.toNat_natCast, h291, show ((10 : Int) * (g : Int) + (i : Int)).toNat = 10 * g + i by omega, r.2.1, r.2.2]
      refine ⟨by omega, fun q => by exfalso; omega, fun _ => ⟨by unfold hm_in; omega, by unfold hm_in; omega, by omega, fun q => ⟨fun q2 => ?_, fun q2 => ?_⟩, fun q => ⟨fun q2 => ?_, fun q2 => ?_⟩⟩⟩
      · rw [if_neg q] at rx
        rw [if_neg q2] at ry
        exact go M1 mch.rf (fun _ _ _ => rfl) (fun _ _ => ⟨rfl, rfl⟩) (by rw [rx]; exact r.2.1) (by rw [ry]; exact r.2.2)
      · rw [if_neg q] at rx
        rw [if_pos q2] at ry
        refine go _ (mch.uR (by omega) (by omega)) (fun n n1 n2 => by funext a; rw [g_uA_at, if_neg (by omega)]) (fun j hj => ⟨by rw [g_uA_at, if_neg (by omega)], by rw [g_uA_at, if_neg (by omega)]⟩) ?_ ?_
        · rw [g_uA_at, if_neg (by omega), rx]; exact r.2.1
        · rw [g_uA_at, if_pos ⟨rfl, rfl, rfl⟩, ry]
      · rw [if_pos q] at rx
        rw [if_neg q2] at ry
        refine go _ (mch.uR (by omega) (by omega)) (fun n n1 n2 => by funext a; rw [g_uA_at, if_neg (by omega)]) (fun j hj => ⟨by rw [g_uA_at, if_neg (by omega)], by rw [g_uA_at, if_neg (by omega)]⟩) ?_ ?_
        · rw [g_uA_at, if_pos ⟨rfl, rfl, rfl⟩, rx]
        · rw [g_uA_at, if_neg (by omega), ry]; exact r.2.2
      · rw [if_pos q] at rx
        rw [if_pos q2] at ry
        refine go _ ((mch.uR (by omega) (by omega)).tr (mch.uR (by omega) (by omega))) (fun n n1 n2 => by funext a; rw [g_uA_at, if_neg (by omega), g_uA_at, if_neg (by omega)]) (fun j hj => ⟨by rw [g_uA_at, if_neg (by omega), g_uA_at, if_neg (by omega)], by rw [g_uA_at, if_neg (by omega), g_uA_at, if_neg (by omega)]⟩) ?_ ?_
        · rw [g_uA_at, if_neg (by omega), g_uA_at, if_pos ⟨rfl, rfl, rfl⟩, rx]
        · rw [g_uA_at, if_pos ⟨rfl, rfl, rfl⟩, ry]
  have loop1 : ∀ (m i : Nat) (y : Int) (M1 : g_M), i + m = F.1.length → y = (i : Int) → mch g M M1 → (∀ n, n ≠ 289 → n ≠ 290 → M1.1 0 n = M.1 0 n) → (∀ (k : Nat) (q : pf_T), k < i → F.1[k]? = some q → M1.1 0 289 (16 * g + k) = ((r1 x s q).2.1 : Int) ∧ M1.1 0 290 (16 * g + k) = ((r1 x s q).2.2 : Int)) → (∀ (k : Nat) (q : pf_T), i ≤ k → F.1[k]? = some q → M1.1 0 289 (16 * g + k) = (q.2.1 : Int) ∧ M1.1 0 290 (16 * g + k) = (q.2.2 : Int)) → g_R (D + 3) 145 Q 3 [.inr (0, 286), .inl (g : Int), .inl (x : Int), .inl (s : Int), .inl y] [] M1 := by
    intro m
    induction m with
    | zero =>
      intro i y M1 hi hy hch hn hq hr
      subst hy
      refine rp_145_3 rfl ?_
      rw [Int.toNat_natCast, hn 287 (by omega) (by omega), hc.1]
      refine ⟨by omega, fun _ => loop2 F.2.length 0 0 M1 (by omega) rfl hch (by rw [hn 287 (by omega) (by omega)]; exact hc.1) (by rw [hn 291 (by omega) (by omega)]; exact hc.2.1) (fun k q hk => ?_) (fun k q hk => by omega) (fun k q _ hk => by rw [hn 292 (by omega) (by omega), hn 293 (by omega) (by omega), hn 294 (by omega) (by omega)]; exact hc.2.2.2 k q hk), fun q => by exfalso; omega⟩
      have := (List.getElem?_eq_some_iff.mp hk).1
      have k3 := hq k q (by omega) hk
      exact ⟨by rw [hn 288 (by omega) (by omega)]; exact (hc.2.2.1 k q hk).1, k3.1, k3.2⟩
    | succ m ih =>
      intro i y M1 hi hy hch hn hq hr
      subst hy
      have hlt : i < F.1.length := by omega
      have hat := List.getElem?_eq_getElem hlt
      have r := hr i _ (Nat.le_refl _) hat
      generalize hpp : F.1[i] = p at r hat
      have go : ∀ (M2 : g_M), mch g M1 M2 → (∀ n, n ≠ 289 → n ≠ 290 → M2.1 0 n = M1.1 0 n) → (∀ j, j ≠ 16 * g + i → M2.1 0 289 j = M1.1 0 289 j ∧ M2.1 0 290 j = M1.1 0 290 j) → M2.1 0 289 (16 * g + i) = ((r1 x s p).2.1 : Int) → M2.1 0 290 (16 * g + i) = ((r1 x s p).2.2 : Int) → hm_in ((i : Int) + 1) ∧ g_R (D + 3) 145 Q 3 [.inr (0, 286), .inl (g : Int), .inl (x : Int), .inl (s : Int), .inl ((i : Int) + 1)] [] M2 := fun M2 c2 e1 e2 e3 e4 => by
        refine ⟨by unfold hm_in; omega, ih (i + 1) _ M2 (by omega) (by omega) (hch.tr c2) (fun n n1 n2 => (e1 n n1 n2).trans (hn n n1 n2)) (fun k q hk hkq => ?_) (fun k q hk hkq => ?_)⟩
        · by_cases z : k = i
          · subst z
            rw [hat] at hkq
            cases hkq
            exact ⟨e3, e4⟩
          · have k3 := e2 (16 * g + k) (by omega)
            rw [k3.1, k3.2]
            exact hq k q (by omega) hkq
        · have k3 := e2 (16 * g + k) (by omega)
          rw [k3.1, k3.2]
          exact hr k q (by omega) hkq
      have rx := @r1_x x s p
      have ry := @r1_y x s p
      refine rp_145_3 rfl ?_
      rw [Int.toNat_natCast, hn 287 (by omega) (by omega), hc.1, show ((16 : Int) * (g : Int) + (i : Int)).toNat = 16 * g + i by omega, r.1, r.2]
      refine ⟨by omega, fun q => by exfalso; omega, fun _ => ⟨by unfold hm_in; omega, by unfold hm_in; omega, by omega, fun q => ⟨fun q2 => ?_, fun q2 => ?_⟩, fun q => ⟨fun q2 => ?_, fun q2 => ?_⟩⟩⟩
      · rw [if_neg q] at rx
        rw [if_neg q2] at ry
        exact go M1 mch.rf (fun _ _ _ => rfl) (fun _ _ => ⟨rfl, rfl⟩) (by rw [rx]; exact r.1) (by rw [ry]; exact r.2)
      · rw [if_neg q] at rx
        rw [if_pos q2] at ry
        refine go _ (mch.uP (by omega) (by omega)) (fun n n1 n2 => by funext a; rw [g_uA_at, if_neg (by omega)]) (fun j hj => ⟨by rw [g_uA_at, if_neg (by omega)], by rw [g_uA_at, if_neg (by omega)]⟩) ?_ ?_
        · rw [g_uA_at, if_neg (by omega), rx]; exact r.1
        · rw [g_uA_at, if_pos ⟨rfl, rfl, rfl⟩, ry]
      · rw [if_pos q] at rx
        rw [if_neg q2] at ry
        refine go _ (mch.uP (by omega) (by omega)) (fun n n1 n2 => by funext a; rw [g_uA_at, if_neg (by omega)]) (fun j hj => ⟨by rw [g_uA_at, if_neg (by omega)], by rw [g_uA_at, if_neg (by omega)]⟩) ?_ ?_
        · rw [g_uA_at, if_pos ⟨rfl, rfl, rfl⟩, rx]
        · rw [g_uA_at, if_neg (by omega), ry]; exact r.2
      · rw [if_pos q] at rx
        rw [if_pos q2] at ry
        refine go _ ((mch.uP (by omega) (by omega)).tr (mch.uP (by omega) (by omega))) (fun n n1 n2 => by funext a; rw [g_uA_at, if_neg (by omega), g_uA_at, if_neg (by omega)]) (fun j hj => ⟨by rw [g_uA_at, if_neg (by omega), g_uA_at, if_neg (by omega)], by rw [g_uA_at, if_neg (by omega), g_uA_at, if_neg (by omega)]⟩) ?_ ?_
        · rw [g_uA_at, if_neg (by omega), g_uA_at, if_pos ⟨rfl, rfl, rfl⟩, rx]
        · rw [g_uA_at, if_pos ⟨rfl, rfl, rfl⟩, ry]
  exact g_enter hk_145 hn_145 (rp_145_0 rfl (loop1 F.1.length 0 0 M (by omega) rfl mch.rf (fun _ _ _ => rfl) (fun k q hk => by omega) (fun k q _ hk => ⟨(hc.2.2.1 k q hk).2.1, (hc.2.2.1 k q hk).2.2⟩)))
theorem m_144 (hD : 7 ≤ D) (hg : g < 200) (hc : mF M g F) (hw : pf_wf F) {act x yn : Nat} {y w : Int} (ha : act < 8) (hx : x < 8) (hyn : yn < 8) (hy : act = 0 ∨ 3 < act → y = (yn : Int)) (ha2 : act < 3 ∨ act = 4) {u : Nat} (hu : 3 ≤ act ∧ act ≤ 5 → w = (u : Int) ∧ u < F.2.length) (h1 : ∀ G, chgf act x yn F u = some G → ∀ M', mch g M M' → mF M' g G → Q [.inl 1] M') (h0 : chgf act x yn F u = none → ∀ M', mch g M M' → Q [.inl 0] M') : g_Ev D 144 [.inr (0, 286), .inl (g : Int), .inl (act : Int), .inl (x : Int), .inl y, .inl w] M Q := by
  obtain ⟨D, rfl⟩ := g_dep hD
  have l2 := hw.2.1
  have tb : ∀ n : Nat, (x : Int) = n → pf_in n F → (pf_terms F).testBit x = true := fun n hn hin => by rw [show x = n by omega]; exact pf_terms_bit.mpr hin
  have tn : (∀ n : Nat, (x : Int) = n → ¬ pf_in n F) → ¬ (pf_terms F).testBit x = true := fun hno z => hno x rfl (pf_terms_bit.mp z)
  have tail : ∀ (F' : pf_F) (v : Nat) (M1 : g_M), pf_wf F' → v < 8 → mch g M M1 → mF M1 g F' → (¬ act = 2 → chgf act x yn F u = pu F' (0, x, v)) → (act = 2 → chgf act x yn F u = (sp (pf_terms F')).bind (fun s => if F'.2.length < 10 then some (F'.1, F'.2 ++ [(0, x, s)]) else none)) → (((act : Int) = 2 → (g_Ev (D + 6) 136 [.inr (0, 286), .inl (g : Int)] M1 (fun q M' => g_R (D + 7) 144 Q 110 [.inr (0, 286), .inl (g : Int), .inl (act : Int), .inl (x : Int), .inl y, .inl w, .inl (v : Int)] (q ++ []) M'))) ∧ (¬ (act : Int) = 2 → (g_Ev (D + 6) 138 [.inr (0, 286), .inl (g : Int), .inl (0 : Int), .inl (x : Int), .inl (v : Int)] M1 (fun q M' => g_R (D + 7) 144 Q 104 [.inr (0, 286), .inl (g : Int), .inl (act : Int), .inl (x : Int), .inl y, .inl w, .inl (v : Int)] (q ++ []) M')))) := by
    intro F' v M1 hw' hv c1 m1 e1 e2
    refine ⟨fun q => ?_, fun q => ?_⟩
    · have e2' := e2 (by omega)
      have l2' := hw'.2.1
      refine m_136 (by omega) hg m1 hw' (rp_144_110 rfl ?_)
      cases hs : sp (pf_terms F') with
      | none =>
        rw [hs] at e2'
        exact ⟨fun _ => h0 e2' M1 c1, fun q2 => absurd q2 (by decide)⟩
      | some s =>
        rw [hs, Option.bind_some] at e2'
        have s8 := sp_lt hs
        rw [Int.toNat_natCast, m1.2.1]
        refine ⟨fun q2 => by exfalso; have : (s : Int) < 0 := q2; omega, fun _ => ⟨by omega, fun q3 => ?_, fun q3 => h0 (by rw [e2', if_neg (by omega)]) M1 c1⟩⟩
        have := m_96 (D := D + 6) (M := M1) (g := g) (a := F'.2.length) (F := F') (p := (0, x, s)) (Q := fun q M' => g_R (D + 7) 144 Q 145 [.inr (0, 286), .inl (g : Int), .inl (act : Int), .inl (x : Int), .inl y, .inl w, .inl (v : Int), .inl (en (some s))] (q ++ []) M') (by omega) hg m1 (Nat.le_refl _) (by omega) (fun M2 c2 m2 => rp_144_145 rfl (h1 _ (by rw [e2', if_pos (by omega)]) M2 (c1.tr c2) (by rw [List.insertIdx_length_self] at m2; exact m2)))
        exact this
    · have e1' := e1 (by omega)
      exact m_pu (a := 0) (by omega) hg m1 hw' (fun G hG M2 c2 m2 => rp_144_104 rfl ⟨by omega, h1 G (by rw [e1']; exact hG) M2 (c1.tr c2) m2⟩) (fun hG M2 c2 => rp_144_104 rfl ⟨by omega, h0 (by rw [e1']; exact hG) M2 (c1.tr c2)⟩)
  have main : ∀ v : Nat, v < 8 → (¬ act = 2 → chgf act x yn F u = bec F x v) → (act = 2 → chgf act x yn F u = bnw F x) → g_Ev (D + 6) 112 [.inr (0, 286), .inl (g : Int), .inl (x : Int)] M (fun q M' => g_R (D + 7) 144 Q 50 [.inr (0, 286), .inl (g : Int), .inl (act : Int), .inl (x : Int), .inl y, .inl w, .inl (v : Int)] (q ++ []) M') := by
    intro v hv eb en2
    refine m_112 (by omega) hg hc hw (fun n hn hin => rp_144_50 rfl ⟨fun q => absurd q (by decide), fun _ => ?_⟩) (fun hno => rp_144_50 rfl ⟨fun _ => ?_, fun q => absurd rfl q⟩)
    · have htb := tb n hn hin
      refine m_136 (by omega) hg hc hw (rp_144_58 rfl ?_)
      cases hs : sp (pf_terms F) with
      | none =>
        have hv0 : vac F x = none := by unfold vac; rw [if_pos htb, hs]; rfl
        refine ⟨fun q => absurd q (by decide), fun _ => h0 ?_ M mch.rf⟩
        by_cases z : act = 2
        · rw [en2 z]; unfold bnw; rw [hv0]; rfl
        · rw [eb z]; unfold bec; rw [hv0]; rfl
      | some s =>
        have s8 := sp_lt hs
        have hv0 : vac F x = some (ren F x s, s) := by unfold vac; rw [if_pos htb, hs]; rfl
        refine ⟨fun _ => ?_, fun q => by exfalso; have : (s : Int) < 0 := q; omega⟩
        show g_Ev (D + 6) 145 [.inr (0, 286), .inl (g : Int), .inl (x : Int), .inl (s : Int)] M _
        refine m_145 (by omega) hg hc hw (fun M1 c1 m1 => rp_144_75 rfl ?_)
        have k1 : ¬ act = 2 → chgf act x yn F u = pu (ren F x s) (0, x, if v = x then s else v) := fun z => by rw [eb z]; unfold bec; rw [hv0]; rfl
        have k2 : act = 2 → chgf act x yn F u = (sp (pf_terms (ren F x s))).bind (fun s' => if (ren F x s).2.length < 10 then some ((ren F x s).1, (ren F x s).2 ++ [(0, x, s')]) else none) := fun z => by rw [en2 z]; unfold bnw; rw [hv0]; rfl
        refine ⟨fun z => ?_, fun z => ?_⟩
        · rw [if_neg (by omega)] at k1
          exact tail (ren F x s) v M1 (ren_wf s8.2.1 hw) hv c1 m1 k1 k2
        · rw [if_pos (by omega)] at k1
          exact tail (ren F x s) s M1 (ren_wf s8.2.1 hw) s8.2.1 c1 m1 k1 k2
    · have hnb := tn hno
      have hv0 : vac F x = some (F, x) := by unfold vac; rw [if_neg hnb]
      refine tail F v M hw hv mch.rf hc (fun z => ?_) (fun z => ?_)
      · rw [eb z]
        unfold bec
        rw [hv0, Option.bind_some]
        show pu F (0, x, if v = x then x else v) = _
        by_cases z2 : v = x
        · rw [if_pos z2, z2]
        · rw [if_neg z2]
      · rw [en2 z]; unfold bnw; rw [hv0]; rfl
  refine g_enter hk_144 hn_144 (rp_144_0 rfl ⟨fun q => ⟨fun q2 => ?_, fun q2 => ?_⟩, fun q => ⟨fun q2 => ?_, fun q2 => ?_⟩⟩)
  · refine main 0 (by omega) (fun z => ?_) (fun z => ?_)
    · have e : act = 1 := by omega
      unfold chgf; rw [e]; rfl
    · unfold chgf; rw [z]; rfl
  · have e4 : act = 4 := by omega
    have hu2 := hu (by omega)
    have hat := List.getElem?_eq_getElem hu2.2
    have ok := hw.2.2.2 _ (List.getElem_mem hu2.2)
    have r := hc.2.2.2 u _ hat
    have hw1 := hu2.1
    have hw3 := hu2.2
    rw [show ((10 : Int) * (g : Int) + w).toNat = 10 * g + u by omega, r.2.2]
    refine ⟨by unfold hm_in; omega, by unfold hm_in; omega, by omega, main _ ok.2.2 (fun z => ?_) (fun z => by omega)⟩
    have ec : chgf act x yn F u = bec F x (pth F u).2.2 := by unfold chgf; rw [e4]; rfl
    rw [ec, pth_at hat]
  · have e0 : act = 0 := by omega
    rw [hy (by omega)] at q2 ⊢
    have hx2 : ¬ x = yn := by omega
    have := main yn hyn (fun z => by unfold chgf; rw [if_pos e0, if_neg hx2]) (fun z => by omega)
    rw [hy (by omega)] at this
    exact this
  · have e0 : act = 0 := by omega
    rw [hy (by omega)] at q2
    exact h1 F (by unfold chgf; rw [if_pos e0, if_pos (by omega)]) M mch.rf hc
theorem m_143 (hD : 9 ≤ D) (hg : g < 200) (hc : mF M g F) (hw : pf_wf F) {act x yn : Nat} {y w : Int} (ha : act < 8) (hx : x < 8) (hyn : yn < 8) (hy : act = 0 ∨ 3 < act → y = (yn : Int)) {u : Nat} (hu : 3 ≤ act ∧ act ≤ 5 → w = (u : Int) ∧ ∃ p, F.2[u]? = some p ∧ p.1 = 0) (h1 : ∀ G, chgf act x yn F u = some G → ∀ M', mch g M M' → mF M' g G → Q [.inl 1] M') (h0 : chgf act x yn F u = none → ∀ M', mch g M M' → Q [.inl 0] M') : g_Ev D 143 [.inr (0, 286), .inl (g : Int), .inl (act : Int), .inl (x : Int), .inl y, .inl w] M Q := by
  obtain ⟨D, rfl⟩ := g_dep hD
  have l2 := hw.2.1
  have hu1 : 3 ≤ act ∧ act ≤ 5 → w = (u : Int) ∧ u < F.2.length := fun z => by
    obtain ⟨e, p, p1, _⟩ := hu z
    exact ⟨e, (List.getElem?_eq_some_iff.mp p1).1⟩
  refine g_enter hk_143 hn_143 (rp_143_0 rfl ⟨fun q => ?_, fun q => ?_, fun q => ?_, fun q => ?_, fun q => ?_, fun q => ?_⟩)
  · exact m_144 (by omega) hg hc hw ha hx hyn hy (by omega) hu1 (fun G hG M' c1 m1 => rp_143_85 rfl ⟨by omega, h1 G hG M' c1 m1⟩) (fun hG M' c1 => rp_143_85 rfl ⟨by omega, h0 hG M' c1⟩)
  · have e3 : act = 3 := by omega
    have hu2 := hu1 (by omega)
    have ec : chgf act x yn F u = some (F.1, F.2.eraseIdx u) := by unfold chgf; rw [e3]; rfl
    have := m_137 (D := D + 8) (M := M) (g := g) (a := u) (F := F) (Q := fun q M' => g_R (D + 9) 143 Q 43 [.inr (0, 286), .inl (g : Int), .inl (act : Int), .inl (x : Int), .inl y, .inl w] (q ++ []) M') (by omega) hg hc hw hu2.2 (fun M' c1 m1 => rp_143_43 rfl (h1 _ ec M' c1 m1))
    rw [← hu2.1] at this
    exact this
  · exact m_144 (by omega) hg hc hw ha hx hyn hy (by omega) hu1 (fun G hG M' c1 m1 => rp_143_85 rfl ⟨by omega, h1 G hG M' c1 m1⟩) (fun hG M' c1 => rp_143_85 rfl ⟨by omega, h0 hG M' c1⟩)
  · have e5 : act = 5 := by omega
    obtain ⟨hw2, p, p1, p2⟩ := hu (by omega)
    have hlt := (List.getElem?_eq_some_iff.mp p1).1
    have ec : chgf act x yn F u = some (F.1, F.2.set u (0, (pth F u).2.1, yn)) := by unfold chgf; rw [e5]; rfl
    rw [pth_at p1] at ec
    rw [hw2, hy (by omega), show ((10 : Int) * (g : Int) + (u : Int)).toNat = 10 * g + u by omega]
    refine ⟨by unfold hm_in; omega, by unfold hm_in; omega, by omega, h1 _ ec _ (mch.uR (by omega) (by omega)) ⟨?_, ?_, fun k q hk => ?_, fun k q hk => ?_⟩⟩
    · rw [g_uA_at, if_neg (by omega)]; exact hc.1
    · rw [g_uA_at, if_neg (by omega), hc.2.1]; simp
    · rw [g_uA_at, if_neg (by omega), g_uA_at, if_neg (by omega), g_uA_at, if_neg (by omega)]; exact hc.2.2.1 k q hk
    · have hk2 : (F.2.set u (0, p.2.1, yn))[k]? = some q := hk
      rw [g_uA_at, if_neg (by omega), g_uA_at, if_neg (by omega), g_uA_at]
      by_cases z : k = u
      · subst z
        rw [List.getElem?_set_self hlt] at hk2
        cases hk2
        have r := hc.2.2.2 k p p1
        rw [if_pos ⟨rfl, rfl, rfl⟩]
        refine ⟨by rw [r.1, p2], r.2.1, rfl⟩
      · rw [List.getElem?_set_ne (fun y => z y.symm)] at hk2
        rw [if_neg (by omega)]
        exact hc.2.2.2 k q hk2
  · have e6 : act = 6 := by omega
    have ec : chgf act x yn F u = pu F (0, x, yn) := by unfold chgf; rw [e6]; rfl
    rw [hy (by omega), show ((act : Int) - 6) = ((0 : Nat) : Int) by omega]
    refine ⟨by unfold hm_in; omega, m_pu (by omega) hg hc hw (fun G hG M2 c2 m2 => rp_143_73 rfl ⟨by omega, h1 G (by rw [ec]; exact hG) M2 c2 m2⟩) (fun hG M2 c2 => rp_143_73 rfl ⟨by omega, h0 (by rw [ec]; exact hG) M2 c2⟩)⟩
  · have e7 : act = 7 := by omega
    have ec : chgf act x yn F u = pu F (1, x, yn) := by unfold chgf; rw [e7]; rfl
    rw [hy (by omega), show ((act : Int) - 6) = ((1 : Nat) : Int) by omega]
    refine ⟨by unfold hm_in; omega, m_pu (by omega) hg hc hw (fun G hG M2 c2 m2 => rp_143_73 rfl ⟨by omega, h1 G (by rw [ec]; exact hG) M2 c2 m2⟩) (fun hG M2 c2 => rp_143_73 rfl ⟨by omega, h0 (by rw [ec]; exact hG) M2 c2⟩)⟩
end SR

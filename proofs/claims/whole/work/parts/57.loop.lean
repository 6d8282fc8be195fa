/-! step, the reference's loop -/
def chT (c k : Nat) (M M' : g_M) : Prop := M'.2 = M.2 ∧ (∀ t n, ¬ (t = 0 ∧ 286 ≤ n ∧ (n < 295 ∨ 297 < n)) → M'.1 t n = M.1 t n) ∧ (∀ j, j ≠ 15 → j ≠ 16 → j ≠ 19 → j ≠ 23 → j ≠ 25 → j ≠ 26 → M'.1 0 286 j = M.1 0 286 j) ∧ (∀ i, i < c → M'.1 0 307 i = M.1 0 307 i) ∧ ∀ g F, pf_wf F → ¬ (c ≤ g ∧ g < 130 ∨ k ≤ g) → mF M g F → mF M' g F
theorem chT.rf {c k : Nat} {M : g_M} : chT c k M M := ⟨rfl, fun _ _ _ => rfl, fun _ _ _ _ _ _ _ => rfl, fun _ _ => rfl, fun _ _ _ _ h => h⟩
theorem chT.tr {c k c' k' : Nat} {M M' M'' : g_M} (h : chT c k M M') (h' : chT c' k' M' M'') (hc : c ≤ c') (hk : k ≤ k') : chT c k M M'' := ⟨h'.1.trans h.1, fun t n hn => (h'.2.1 t n hn).trans (h.2.1 t n hn), fun j a b d e f g => (h'.2.2.1 j a b d e f g).trans (h.2.2.1 j a b d e f g), fun i hi => (h'.2.2.2.1 i (by omega)).trans (h.2.2.2.1 i hi), fun g F hw hg hm => h'.2.2.2.2 g F hw (by omega) (h.2.2.2.2 g F hw hg hm)⟩
theorem chT.ofx {c k : Nat} {M M' : g_M} (h : chx M M') : chT c k M M' := ⟨h.1, fun t n hn => h.2.1 t n (by omega), fun j a b d e _ _ => h.2.2 j a b d e, fun i _ => by rw [h.2.1 0 307 (by omega)], fun g F _ _ hm => hm.kx h⟩
theorem chT.ofm {c k g : Nat} {M M' : g_M} (h : mch g M M') (hg : c ≤ g ∧ g < 130 ∨ k ≤ g) : chT c k M M' := ⟨h.1, fun t n hn => h.2.1 t n (by omega), fun j _ _ _ _ _ _ => by rw [h.2.1 0 286 (by omega)], fun i _ => by rw [h.2.1 0 307 (by omega)], fun g' F hw hg' hm => hm.keep hw h (fun z => hg' (by rw [z]; exact hg))⟩
theorem chT.of6 {c k : Nat} {M M' : g_M} (h : ch6 M M') : chT c k M M' := ⟨h.1, fun t n hn => h.2 t n (by omega), fun j _ _ _ _ _ _ => by rw [h.2 0 286 (by omega)], fun i _ => by rw [h.2 0 307 (by omega)], fun g F _ _ hm => hm.k6 h⟩
theorem mF.u7 {M : g_M} {g i : Nat} {v : Int} {F : pf_F} (h : mF M g F) : mF (g_uA M (0, 307) i v) g F := h.kd (fun n _ _ => by funext a; rw [g_uA_at, if_neg (by omega)])
theorem mF.uf {M : g_M} {g i : Nat} {v : Int} {F : pf_F} (h : mF M g F) : mF (g_uA M (0, 286) i v) g F := h.kd (fun n _ _ => by funext a; rw [g_uA_at, if_neg (by omega)])
theorem chT.of7 {c k i : Nat} {v : Int} {M : g_M} (hi : c ≤ i) : chT c k M (g_uA M (0, 307) i v) := by
  refine ⟨rfl, fun t n hn => ?_, fun j _ _ _ _ _ _ => ?_, fun j hj => ?_, fun g F _ _ hm => hm.u7⟩
  · funext a
    rw [g_uA_at, if_neg]
    rintro ⟨rfl, rfl, -⟩
    exact hn ⟨rfl, by omega, by omega⟩
  · rw [g_uA_at, if_neg (by omega)]
  · rw [g_uA_at, if_neg (by omega)]
theorem chT.off {c k i : Nat} {v : Int} {M : g_M} (hi : i = 25 ∨ i = 26) : chT c k M (g_uA M (0, 286) i v) := by
  refine ⟨rfl, fun t n hn => ?_, fun j _ _ _ _ _ _ => ?_, fun j hj => ?_, fun g F _ _ hm => hm.uf⟩
  · funext a
    rw [g_uA_at, if_neg]
    rintro ⟨rfl, rfl, -⟩
    exact hn ⟨rfl, by omega, by omega⟩
  · rw [g_uA_at, if_neg (by omega)]
  · rw [g_uA_at, if_neg (by omega)]
theorem ers_ins {α : Type} {a : α} : ∀ {l : List α} {j : Nat}, j < l.length → (l.eraseIdx j).insertIdx j a = l.set j a := by
  intro l
  induction l with
  | nil => intro j h; simp at h
  | cons b l ih =>
    intro j h
    cases j with
    | zero => simp
    | succ j =>
      have := ih (j := j) (by simpa using h)
      simp [this]
section SR
variable {D : Nat} {M : g_M} {g : Nat} {F : pf_F} {Q : g_P}
theorem m_142 (hD : 7 ≤ D) (hg : g < 129) (hc : mF M g F) (hw : pf_wf F) {j : Nat} (hj : j < F.2.length) {n : Nat} (hn : M.1 0 286 25 = (n : Int)) (hn2 : n < 200)
    (h1 : ∀ E, emp F j = some E → ∀ M', chT g 200 M M' → mF M' g F → mF M' (g + 1) E → M'.1 0 307 g = (j : Int) → M'.1 0 307 (g + 1) = -1 → M'.1 0 286 25 = ((n + 2 : Nat) : Int) → M'.1 0 286 26 = M.1 0 286 26 → Q [.inl 1] M') (h0 : emp F j = none → ∀ M', chT g 200 M M' → Q [.inl 0] M') : g_Ev D 142 [.inr (0, 286), .inl (g : Int), .inl (j : Int)] M Q := by
  obtain ⟨D, rfl⟩ := g_dep hD
  have l2 := hw.2.1
  have hat := List.getElem?_eq_getElem hj
  have hpt := pth_at hat
  have ok := hw.2.2.2 _ (List.getElem_mem hj)
  generalize hp : F.2[j] = p at hat hpt ok
  refine g_enter hk_142 hn_142 (rp_142_0 rfl ⟨by unfold hm_in; omega, ?_⟩)
  rw [show ((g : Int) + 1) = ((g + 1 : Nat) : Int) by omega]
  refine m_99 (by omega) (by omega) (by omega) (by omega) hc hw (fun M1 c1 m1 => rp_142_10 rfl ?_)
  have t1 : chT g 200 M M1 := chT.ofm c1 (by omega)
  have hc1 : mF M1 g F := hc.keep hw c1 (by omega)
  have r := hc1.2.2.2 j p hat
  have hn1 : M1.1 0 286 25 = (n : Int) := by rw [c1.2.1 0 286 (by omega)]; exact hn
  rw [hn1, Int.toNat_natCast, Int.toNat_natCast, show ((10 : Int) * (g : Int) + (j : Int)).toNat = 10 * g + j by omega, r.2.1, r.2.2]
  refine ⟨by omega, by omega, by unfold hm_in; omega, by unfold hm_in; omega, by unfold hm_in; omega, by omega, ?_⟩
  have t2 : chT g 200 M (g_uA (g_uA (g_uA M1 (0, 307) g (j : Int)) (0, 307) (g + 1) (-1 : Int)) (0, 286) 25 ((n : Int) + 2)) := ((t1.tr (chT.of7 (by omega)) (Nat.le_refl _) (Nat.le_refl _)).tr (chT.of7 (by omega)) (Nat.le_refl _) (Nat.le_refl _)).tr (chT.off (by omega)) (Nat.le_refl _) (Nat.le_refl _)
  have f7g : (g_uA (g_uA (g_uA M1 (0, 307) g (j : Int)) (0, 307) (g + 1) (-1 : Int)) (0, 286) 25 ((n : Int) + 2)).1 0 307 g = (j : Int) := by rw [g_uA_at, if_neg (by omega), g_uA_at, if_neg (by omega), g_uA_at, if_pos ⟨rfl, rfl, rfl⟩]
  have f7g1 : (g_uA (g_uA (g_uA M1 (0, 307) g (j : Int)) (0, 307) (g + 1) (-1 : Int)) (0, 286) 25 ((n : Int) + 2)).1 0 307 (g + 1) = -1 := by rw [g_uA_at, if_neg (by omega), g_uA_at, if_pos ⟨rfl, rfl, rfl⟩]
  have f25 : (g_uA (g_uA (g_uA M1 (0, 307) g (j : Int)) (0, 307) (g + 1) (-1 : Int)) (0, 286) 25 ((n : Int) + 2)).1 0 286 25 = ((n + 2 : Nat) : Int) := by rw [g_uA_at, if_pos ⟨rfl, rfl, rfl⟩]; omega
  have f26 : (g_uA (g_uA (g_uA M1 (0, 307) g (j : Int)) (0, 307) (g + 1) (-1 : Int)) (0, 286) 25 ((n : Int) + 2)).1 0 286 26 = M.1 0 286 26 := by rw [g_uA_at, if_neg (by omega), g_uA_at, if_neg (by omega), g_uA_at, if_neg (by omega), c1.2.1 0 286 (by omega)]
  refine m_137 (by omega) (by omega) m1.u7.u7.uf hw hj (fun M2 c2 m2 => rp_142_66 rfl ?_)
  have t3 := t2.tr (chT.ofm (c := g) (k := 200) c2 (by omega)) (Nat.le_refl _) (Nat.le_refl _)
  have ee : emp F j = pu (F.1, F.2.eraseIdx j) (0, p.2.1, p.2.2) := by unfold emp; rw [hpt]
  have hcg : mF (g_uA (g_uA (g_uA M1 (0, 307) g (j : Int)) (0, 307) (g + 1) (-1 : Int)) (0, 286) 25 ((n : Int) + 2)) g F := hc1.u7.u7.uf
  refine m_pu (a := 0) (by omega) (by omega) m2 (wf_erase hw) (fun E hE M3 c3 m3 => rp_142_76 rfl ⟨by omega, h1 E (by rw [ee]; exact hE) M3 (t3.tr (chT.ofm (c := g) (k := 200) c3 (by omega)) (Nat.le_refl _) (Nat.le_refl _)) ((hcg.keep hw c2 (by omega)).keep hw c3 (by omega)) m3 ?_ ?_ ?_ ?_⟩) (fun hE M3 c3 => rp_142_76 rfl ⟨by omega, h0 (by rw [ee]; exact hE) M3 (t3.tr (chT.ofm (c := g) (k := 200) c3 (by omega)) (Nat.le_refl _) (Nat.le_refl _))⟩)
  · rw [c3.2.1 0 307 (by omega), c2.2.1 0 307 (by omega)]; exact f7g
  · rw [c3.2.1 0 307 (by omega), c2.2.1 0 307 (by omega)]; exact f7g1
  · rw [c3.2.1 0 286 (by omega), c2.2.1 0 286 (by omega)]; exact f25
  · rw [c3.2.1 0 286 (by omega), c2.2.1 0 286 (by omega)]; exact f26
theorem m_135 (hD : 8 ≤ D) (hg : g < 130) (hc : mF M g F) (hw : pf_wf F) {j : Nat} (hj : j < F.2.length) (h7 : M.1 0 307 g = (j : Int))
    (h1 : ∀ E, lng F j = some E → ∀ M', chT g 200 M M' → mF M' g E → M'.1 0 286 25 = M.1 0 286 25 → M'.1 0 286 26 = M.1 0 286 26 → Q [.inl 1] M') (h0 : lng F j = none → ∀ M', chT g 200 M M' → Q [.inl 0] M') : g_Ev D 135 [.inr (0, 286), .inl (g : Int)] M Q := by
  obtain ⟨D, rfl⟩ := g_dep hD
  have l2 := hw.2.1
  have hat := List.getElem?_eq_getElem hj
  have hpt := pth_at hat
  have ok := hw.2.2.2 _ (List.getElem_mem hj)
  generalize hp : F.2[j] = p at hat hpt ok
  have r := hc.2.2.2 j p hat
  refine g_enter hk_135 hn_135 (rp_135_0 rfl ?_)
  rw [Int.toNat_natCast, h7, show ((10 : Int) * (g : Int) + (j : Int)).toNat = 10 * g + j by omega, r.2.1, r.2.2]
  refine ⟨by omega, by unfold hm_in; omega, by unfold hm_in; omega, by omega, ?_⟩
  have t1 : chT g 200 M (g_uA M (0, 307) g (-1 : Int)) := chT.of7 (Nat.le_refl _)
  have m1 : mF (g_uA M (0, 307) g (-1 : Int)) g F := hc.u7
  refine m_136 (by omega) (by omega) m1 hw (rp_135_44 rfl ?_)
  cases hs : sp (pf_terms F) with
  | none => exact ⟨fun _ => h0 (by unfold lng; rw [hs]; rfl) _ t1, fun q => absurd q (by decide)⟩
  | some s =>
    have s8 := sp_lt hs
    have ee : lng F j = if F.2.length < 10 then pu (F.1, (F.2.set j (0, p.2.1, s)).insertIdx (j + 1) (1, s, p.2.2)) (1, p.2.1, p.2.2) else none := by
      unfold lng
      rw [hs, hpt]
      rfl
    rw [Int.toNat_natCast, m1.2.1]
    refine ⟨fun q => by exfalso; have : (s : Int) < 0 := q; omega, fun _ => ⟨by omega, fun q => ?_, fun q => h0 (by rw [ee, if_neg (by omega)]) _ t1⟩⟩
    have hl : F.2.length < 10 := by omega
    rw [if_pos hl] at ee
    have le : (F.2.eraseIdx j).length + 1 = F.2.length := by rw [List.length_eraseIdx_of_lt hj]; omega
    refine m_137 (by omega) (by omega) m1 hw hj (fun M2 c2 m2 => rp_135_70 rfl ?_)
    have t2 := t1.tr (chT.ofm (c := g) (k := 200) c2 (by omega)) (Nat.le_refl _) (Nat.le_refl _)
    refine m_96 (p := (0, p.2.1, s)) (by omega) (by omega) m2 (by show j ≤ (F.2.eraseIdx j).length; omega) (by show (F.2.eraseIdx j).length < 10; omega) (fun M3 c3 m3 => rp_135_80 rfl ⟨by unfold hm_in; omega, ?_⟩)
    have m3' : mF M3 g (F.1, F.2.set j (0, p.2.1, s)) := by
      have : mF M3 g (F.1, (F.2.eraseIdx j).insertIdx j (0, p.2.1, s)) := m3
      rw [ers_ins hj] at this
      exact this
    have t3 := t2.tr (chT.ofm (c := g) (k := 200) c3 (by omega)) (Nat.le_refl _) (Nat.le_refl _)
    have hln : (F.2.set j (0, p.2.1, s)).length = F.2.length := by simp
    rw [show ((j : Int) + 1) = ((j + 1 : Nat) : Int) by omega]
    have w1 : pf_wf (F.1, F.2.set j (0, p.2.1, s)) := wf_set hw ⟨by show 0 < 2; decide, ok.2.1, s8.2.1⟩
    refine m_96 (p := (1, s, p.2.2)) (by omega) (by omega) m3' (by show j + 1 ≤ (F.2.set j (0, p.2.1, s)).length; omega) (by show (F.2.set j (0, p.2.1, s)).length < 10; omega) (fun M4 c4 m4 => rp_135_93 rfl ?_)
    have t4 := t3.tr (chT.ofm (c := g) (k := 200) c4 (by omega)) (Nat.le_refl _) (Nat.le_refl _)
    have w2 : pf_wf (F.1, (F.2.set j (0, p.2.1, s)).insertIdx (j + 1) (1, s, p.2.2)) := wf_ins w1 ⟨by show 1 < 2; decide, s8.2.1, ok.2.2⟩ (by show (F.2.set j (0, p.2.1, s)).length < 10; omega)
    refine m_pu (a := 1) (by omega) (by omega) m4 w2 (fun E hE M5 c5 m5 => rp_135_102 rfl ⟨by omega, h1 E (by rw [ee]; exact hE) M5 (t4.tr (chT.ofm (c := g) (k := 200) c5 (by omega)) (Nat.le_refl _) (Nat.le_refl _)) m5 ?_ ?_⟩) (fun hE M5 c5 => rp_135_102 rfl ⟨by omega, h0 (by rw [ee]; exact hE) M5 (t4.tr (chT.ofm (c := g) (k := 200) c5 (by omega)) (Nat.le_refl _) (Nat.le_refl _))⟩)
    · rw [c5.2.1 0 286 (by omega), c4.2.1 0 286 (by omega), c3.2.1 0 286 (by omega), c2.2.1 0 286 (by omega), g_uA_at, if_neg (by omega)]
    · rw [c5.2.1 0 286 (by omega), c4.2.1 0 286 (by omega), c3.2.1 0 286 (by omega), c2.2.1 0 286 (by omega), g_uA_at, if_neg (by omega)]
end SR
def RS (M : g_M) (rs : List pf_F) : Prop := M.1 0 286 26 = (rs.length : Int) ∧ ∀ (i : Nat) (R : pf_F), rs[i]? = some R → mF M (130 + i) R
theorem RS.kT {c k : Nat} {M M' : g_M} {rs : List pf_F} (h : RS M rs) (hrw : ∀ R ∈ rs, pf_wf R) (hc : chT c k M M') (hk : 130 + rs.length ≤ k) (h26 : M'.1 0 286 26 = M.1 0 286 26) : RS M' rs := by
  refine ⟨by rw [h26]; exact h.1, fun i R hi => hc.2.2.2.2 _ R (hrw R (List.mem_of_getElem? hi)) ?_ (h.2 i R hi)⟩
  have := (List.getElem?_eq_some_iff.mp hi).1
  omega
theorem chT.mono {c k c' k' : Nat} {M M' : g_M} (h : chT c k M M') (hc : c' ≤ c) (hk : k' ≤ k) : chT c' k' M M' := chT.tr (M := M) (M' := M) (chT.rf (c := c') (k := k')) h hc hk
section SR
variable {D : Nat} {act x yn : Nat} {y f : Int} {nd : Int} {Q : g_P}
theorem m_P (ha : act < 8) (hx : x < 8) (hyn : yn < 8) (hy : act = 0 ∨ 3 < act → y = (yn : Int)) (hnd : 3 ≤ act ∧ act ≤ 5 ∧ nd = 1 ∨ ¬ (3 ≤ act ∧ act ≤ 5) ∧ nd = 0) : ∀ (n : Nat) {c : Nat} {M : g_M} {F : pf_F} {rs rs' : List pf_F} {code : Int}, SG act x yn n F rs code rs' → CN act x yn n F rs → c + n ≤ 40 → mF M (66 + c) F → pf_wf F → M.1 0 286 25 = (c : Int) → RS M rs → (∀ R ∈ rs, pf_wf R) →
    (code < 0 → ∀ M', chT (66 + c) (130 + rs.length) M M' → Q [.inl code] M') →
    (0 ≤ code → ∀ M', chT (66 + c) (130 + rs.length) M M' → M'.1 0 286 25 = (c : Int) → RS M' rs' → (∀ R ∈ rs', pf_wf R) → rs.length ≤ rs'.length → g_R (D + 21) 134 Q 85 [.inr (0, 286), .inl f, .inl (act : Int), .inl (x : Int), .inl y, .inl nd] [] M') →
    g_Ev (D + 20) 117 [.inr (0, 286), .inl ((66 + c : Nat) : Int)] M (fun q M' => g_R (D + 21) 134 Q 139 [.inr (0, 286), .inl f, .inl (act : Int), .inl (x : Int), .inl y, .inl nd, .inl ((66 + c : Nat) : Int)] (q ++ []) M') := by
  intro n
  induction n with
  | zero => intro c M F rs rs' code _ h; rcases h with z | z <;> omega
  | succ n ih =>
    intro c M F rs rs' code hSG hCN hcn hF hw h25 hRS hrw hneg hpos
    have hrl : rs.length + 1 ≤ 11 := by rcases hCN with z | z <;> omega
    have lrefl : ∀ {a : Nat}, a ≤ a := fun {a} => Nat.le_refl a
    refine m_117 (by omega) (by omega) hF hw rfl (fun hIF M1 x1 => rp_134_139 rfl ⟨fun _ => ?_, fun q => absurd q (by decide)⟩) (fun hIF M1 x1 => rp_134_139 rfl ⟨fun q => absurd rfl q, fun _ => ?_⟩)
    · have hIF2 : IFF F := hIF
      have hS2 : ((3 ≤ act ∧ act ≤ 5) ∧ fp F 0 (kn F (if act = 4 then yn else x)) = none ∧ (
          (fp F 1 (kn F (if act = 4 then yn else x)) = none ∧ code = -5 ∧ rs' = rs) ∨
          ∃ j, fp F 1 (kn F (if act = 4 then yn else x)) = some j ∧ (
            (emp F j = none ∧ code = -4 ∧ rs' = rs) ∨
            ∃ E c1 rs1, emp F j = some E ∧ SG act x yn n E rs c1 rs1 ∧ (
              (c1 < 0 ∧ code = c1 ∧ rs' = rs1) ∨
              0 ≤ c1 ∧ ((lng F j = none ∧ code = -4 ∧ rs' = rs1) ∨ ∃ G, lng F j = some G ∧ SG act x yn n G rs1 code rs'))))) ∨
        ∃ u, (¬ (3 ≤ act ∧ act ≤ 5) ∨ fp F 0 (kn F (if act = 4 then yn else x)) = some u) ∧ (
          (chgf act x yn F u = none ∧ code = -4 ∧ rs' = rs) ∨
          ∃ G, chgf act x yn F u = some G ∧ code = 0 ∧ ((¬ IFF G ∧ rs' = rs) ∨ IFF G ∧ rs' = rs ++ [G])) := by
        rcases hSG with ⟨z, _⟩ | ⟨_, z⟩
        · exact absurd hIF2 z
        · exact z
      have t1 : chT (66 + c) (130 + rs.length) M M1 := chT.ofx x1
      have hF1 := hF.kx x1
      have h251 : M1.1 0 286 25 = (c : Int) := by rw [x1.2.2 25 (by omega) (by omega) (by omega) (by omega)]; exact h25
      have h261 : M1.1 0 286 26 = M.1 0 286 26 := x1.2.2 26 (by omega) (by omega) (by omega) (by omega)
      have leaf : ∀ (u : Nat) (w : Int) (M2 : g_M), chT (66 + c) (130 + rs.length) M M2 → mF M2 (66 + c) F → M2.1 0 286 25 = (c : Int) → M2.1 0 286 26 = M.1 0 286 26 → (3 ≤ act ∧ act ≤ 5 → w = (u : Int) ∧ ∃ p, F.2[u]? = some p ∧ p.1 = 0) → ((chgf act x yn F u = none ∧ code = -4 ∧ rs' = rs) ∨ ∃ G, chgf act x yn F u = some G ∧ code = 0 ∧ ((¬ IFF G ∧ rs' = rs) ∨ IFF G ∧ rs' = rs ++ [G])) → g_Ev (D + 20) 143 [.inr (0, 286), .inl ((66 + c : Nat) : Int), .inl (act : Int), .inl (x : Int), .inl y, .inl w] M2 (fun q M' => g_R (D + 21) 134 Q 232 [.inr (0, 286), .inl f, .inl (act : Int), .inl (x : Int), .inl y, .inl nd, .inl ((66 + c : Nat) : Int), .inl w] (q ++ []) M') := by
        intro u w M2 t2 hF2 h252 h262 hu hres
        refine m_143 (by omega) (by omega) hF2 hw ha hx hyn hy hu (fun G hG M3 c3 m3 => rp_134_232 rfl ⟨fun _ => ?_, fun q => absurd q (by decide)⟩) (fun hG M3 c3 => rp_134_232 rfl ⟨fun q => absurd rfl q, fun _ => ?_⟩)
        · have hwG := chgf_wf hw hx hyn hG
          have t3 := t2.tr (chT.ofm (c := 66 + c) (k := 130 + rs.length) c3 (by omega)) lrefl lrefl
          have hr2 : code = 0 ∧ ((¬ IFF G ∧ rs' = rs) ∨ IFF G ∧ rs' = rs ++ [G]) := by
            rcases hres with ⟨z, _⟩ | ⟨G', z1, z2⟩
            · rw [hG] at z; cases z
            · rw [hG] at z1; cases z1; exact z2
          obtain ⟨hcode, hr3⟩ := hr2
          refine m_117 (by omega) (by omega) m3 hwG rfl (fun hI M4 x4 => rp_134_244 rfl ⟨fun _ => ?_, fun q => absurd q (by decide)⟩) (fun hI M4 x4 => rp_134_244 rfl ⟨fun q => absurd rfl q, fun _ => ?_⟩)
          · have t4 := t3.tr (chT.ofx (c := 66 + c) (k := 130 + rs.length) x4) lrefl lrefl
            have h264 : M4.1 0 286 26 = M.1 0 286 26 := by rw [x4.2.2 26 (by omega) (by omega) (by omega) (by omega), c3.2.1 0 286 (by omega), h262]
            have h254 : M4.1 0 286 25 = (c : Int) := by rw [x4.2.2 25 (by omega) (by omega) (by omega) (by omega), c3.2.1 0 286 (by omega), h252]
            have h26v : M4.1 0 286 26 = (rs.length : Int) := by rw [h264]; exact hRS.1
            rw [h26v]
            refine ⟨by unfold hm_in; omega, ?_⟩
            rw [show ((130 : Int) + (rs.length : Int)) = ((130 + rs.length : Nat) : Int) by omega]
            refine m_99 (by omega) (by omega) (by omega) (by omega) (m3.kx x4) hwG (fun M5 c5 m5 => rp_134_264 rfl ?_)
            rw [c5.2.1 0 286 (by omega), h26v]
            have t5 := t4.tr (chT.ofm (c := 66 + c) (k := 130 + rs.length) c5 (by omega)) lrefl lrefl
            have hrs : rs' = rs ++ [G] := by
              rcases hr3 with ⟨z, _⟩ | ⟨_, z⟩
              · exact absurd hI z
              · exact z
            refine ⟨by unfold hm_in; omega, hpos (by omega) _ (t5.tr (chT.off (by omega)) lrefl lrefl) ?_ ⟨?_, fun i R hi => ?_⟩ (fun R hR => ?_) (by rw [hrs]; simp)⟩
            · rw [g_uA_at, if_neg (by omega), c5.2.1 0 286 (by omega)]; exact h254
            · rw [g_uA_at, if_pos ⟨rfl, rfl, rfl⟩, hrs]; simp
            · rw [hrs] at hi
              by_cases y2 : i < rs.length
              · rw [List.getElem?_append_left y2] at hi
                exact (t5.2.2.2.2 _ R (hrw R (List.mem_of_getElem? hi)) (by omega) (hRS.2 i R hi)).uf
              · rw [List.getElem?_append_right (by omega)] at hi
                have hi0 : i - rs.length = 0 := by
                  cases y3 : i - rs.length with
                  | zero => rfl
                  | succ m => rw [y3] at hi; cases hi
                rw [hi0] at hi
                cases hi
                rw [show i = rs.length by omega]
                exact m5.uf
            · rw [hrs] at hR
              rcases List.mem_append.mp hR with y2 | y2
              · exact hrw R y2
              · rw [List.mem_singleton.mp y2]; exact hwG
          · have t4 := t3.tr (chT.ofx (c := 66 + c) (k := 130 + rs.length) x4) lrefl lrefl
            have h264 : M4.1 0 286 26 = M.1 0 286 26 := by rw [x4.2.2 26 (by omega) (by omega) (by omega) (by omega), c3.2.1 0 286 (by omega), h262]
            have h254 : M4.1 0 286 25 = (c : Int) := by rw [x4.2.2 25 (by omega) (by omega) (by omega) (by omega), c3.2.1 0 286 (by omega), h252]
            have hrs : rs' = rs := by
              rcases hr3 with ⟨_, z⟩ | ⟨z, _⟩
              · exact z
              · exact absurd z hI
            rw [hrs] at hpos
            exact hpos (by omega) M4 t4 h254 (hRS.kT hrw t4 lrefl h264) hrw lrefl
        · have t3 := t2.tr (chT.ofm (c := 66 + c) (k := 130 + rs.length) c3 (by omega)) lrefl lrefl
          have hcode : code = -4 := by
            rcases hres with ⟨_, z, _⟩ | ⟨G', z1, _⟩
            · exact z
            · rw [hG] at z1; cases z1
          rw [hcode] at hneg
          exact hneg (by omega) M3 t3
      refine ⟨fun q => ?_, fun q => ?_⟩
      · have hno : ¬ (3 ≤ act ∧ act ≤ 5) := by
          rcases hnd with z | z
          · omega
          · exact z.1
        rcases hS2 with ⟨z, _⟩ | ⟨u, _, z⟩
        · exact absurd z hno
        · exact leaf u (-1) M1 t1 hF1 h251 h261 (fun z2 => absurd z2 hno) z
      · have hneed : 3 ≤ act ∧ act ≤ 5 := by
          rcases hnd with z | z
          · exact ⟨z.1, z.2.1⟩
          · exact absurd z.2 q
        have cont : ∀ t : Nat, t < 8 → (if act = 4 then yn else x) = t → g_Ev (D + 20) 140 [.inr (0, 286), .inl ((66 + c : Nat) : Int), .inl (t : Int)] M1 (fun q M' => g_R (D + 21) 134 Q 170 [.inr (0, 286), .inl f, .inl (act : Int), .inl (x : Int), .inl y, .inl nd, .inl ((66 + c : Nat) : Int), .inl (-1 : Int)] (q ++ []) M') := by
          intro t ht het
          rw [het] at hS2
          refine m_140 (by omega) (by omega) hF1 hw ht (fun M2 c2 k2 => rp_134_170 rfl ?_)
          have hF2 := hF1.k6 c2
          have t2 := t1.tr (chT.of6 (c := 66 + c) (k := 130 + rs.length) c2) lrefl lrefl
          have h252 : M2.1 0 286 25 = (c : Int) := by rw [c2.2 0 286 (by omega)]; exact h251
          have h262 : M2.1 0 286 26 = M.1 0 286 26 := by rw [c2.2 0 286 (by omega)]; exact h261
          refine m_141 (how := 0) (by omega) (by omega) hF2 hw k2 (rp_134_177 rfl ?_)
          refine m_141 (how := 1) (by omega) (by omega) hF2 hw k2 (rp_134_186 rfl ?_)
          cases hcell : fp F 0 (kn F t) with
          | some u =>
            refine ⟨fun _ => ?_, fun z => by exfalso; have : (u : Int) < 0 := z; omega⟩
            rw [hcell] at hS2
            rcases hS2 with ⟨_, z, _⟩ | ⟨u', z1, z2⟩
            · cases z
            · have hu : u' = u := by
                rcases z1 with z1 | z1
                · exact absurd hneed z1
                · cases z1; rfl
              subst hu
              obtain ⟨p, p1, p2, _⟩ := fp_some hcell
              exact leaf u' (u' : Int) M2 t2 hF2 h252 h262 (fun _ => ⟨rfl, p, p1, p2⟩) z2
          | none =>
            rw [hcell] at hS2
            refine ⟨fun z => absurd z (by decide), fun _ => ?_⟩
            have hS3 : (fp F 1 (kn F t) = none ∧ code = -5 ∧ rs' = rs) ∨
                ∃ j, fp F 1 (kn F t) = some j ∧ (
                  (emp F j = none ∧ code = -4 ∧ rs' = rs) ∨
                  ∃ E c1 rs1, emp F j = some E ∧ SG act x yn n E rs c1 rs1 ∧ (
                    (c1 < 0 ∧ code = c1 ∧ rs' = rs1) ∨
                    0 ≤ c1 ∧ ((lng F j = none ∧ code = -4 ∧ rs' = rs1) ∨ ∃ G, lng F j = some G ∧ SG act x yn n G rs1 code rs'))) := by
              rcases hS2 with ⟨_, _, z⟩ | ⟨u, z, _⟩
              · exact z
              · rcases z with z | z
                · exact absurd hneed z
                · cases z
            have hCN1 : F.2.length + 2 ≤ n + 1 ∧ rs.length + F.2.length + 1 ≤ 11 := by
              rcases hCN with z | ⟨z | z, _⟩
              · exact z
              · exact absurd hneed z
              · rw [het] at z; exact absurd hcell z
            cases hrow : fp F 1 (kn F t) with
            | none =>
              rw [hrow] at hS3
              refine ⟨fun z => absurd z (by decide), fun _ => ?_⟩
              rcases hS3 with ⟨_, hcode, _⟩ | ⟨j, z, _⟩
              · rw [hcode] at hneg
                exact hneg (by omega) M2 t2
              · cases z
            | some j =>
              rw [hrow] at hS3
              obtain ⟨p, p1, _⟩ := fp_some hrow
              have hlt := (List.getElem?_eq_some_iff.mp p1).1
              have hS4 : (emp F j = none ∧ code = -4 ∧ rs' = rs) ∨
                  ∃ E c1 rs1, emp F j = some E ∧ SG act x yn n E rs c1 rs1 ∧ (
                    (c1 < 0 ∧ code = c1 ∧ rs' = rs1) ∨
                    0 ≤ c1 ∧ ((lng F j = none ∧ code = -4 ∧ rs' = rs1) ∨ ∃ G, lng F j = some G ∧ SG act x yn n G rs1 code rs')) := by
                rcases hS3 with ⟨z, _⟩ | ⟨j', z, z2⟩
                · cases z
                · cases z; exact z2
              refine ⟨fun _ => ?_, fun z => by exfalso; have : (j : Int) < 0 := z; omega⟩
              refine m_142 (j := j) (n := c) (by omega) (by omega) hF2 hw hlt h252 (by omega) (fun E hE M3 t3 m3 m3' w3 w3' k25 k26 => rp_134_214 rfl ⟨fun _ => ?_, fun q => absurd q (by decide)⟩) (fun hE M3 t3 => rp_134_214 rfl ⟨fun q => absurd rfl q, fun _ => ?_⟩)
              · have t3' : chT (66 + c) (130 + rs.length) M M3 := t2.tr (t3.mono (c' := 66 + c) (k' := 130 + rs.length) lrefl (by omega)) lrefl lrefl
                have wE := emp_wf hw hE
                have lE := len_erase hlt wE.2
                obtain ⟨c1, rs1, hE2, hE3⟩ : ∃ c1 rs1, SG act x yn n E rs c1 rs1 ∧ ((c1 < 0 ∧ code = c1 ∧ rs' = rs1) ∨ 0 ≤ c1 ∧ ((lng F j = none ∧ code = -4 ∧ rs' = rs1) ∨ ∃ G, lng F j = some G ∧ SG act x yn n G rs1 code rs')) := by
                  rcases hS4 with ⟨z, _⟩ | ⟨E', c1, rs1, z1, z2, z3⟩
                  · rw [hE] at z; cases z
                  · rw [hE] at z1; cases z1; exact ⟨c1, rs1, z2, z3⟩
                refine rp_134_85 rfl ?_
                rw [k25]
                refine ⟨fun z => by exfalso; omega, fun _ => ⟨by unfold hm_in; omega, by unfold hm_in; omega, by omega, ?_⟩⟩
                rw [show ((66 : Int) + (((c + 2 : Nat) : Int) - 1)) = ((66 + (c + 1) : Nat) : Int) by omega, Int.toNat_natCast, show 66 + (c + 1) = 66 + c + 1 by omega, w3']
                refine ⟨fun _ => ?_, fun z => absurd z (by decide)⟩
                rw [show 66 + c + 1 = 66 + (c + 1) by omega]
                have few := (SG_few wE.1 hE2).1
                refine ih (c := c + 1) hE2 (Or.inl ⟨by omega, by omega⟩) (by omega) (by rw [show 66 + (c + 1) = 66 + c + 1 by omega]; exact m3'.uf) wE.1 (by rw [g_uA_at, if_pos ⟨rfl, rfl, rfl⟩]; omega) ?_ hrw (fun hc1 M4 t4 => ?_) (fun hc1 M4 t4 k254 k264 hrw1 hle => ?_)
                · refine RS.kT (c := 66 + c) (k := 200) (RS.kT hRS hrw t3' lrefl (by rw [k26]; exact h262)) hrw (chT.off (by omega)) (by omega) (by rw [g_uA_at, if_neg (by omega)])
                · have hcode : code = c1 := by
                    rcases hE3 with ⟨_, z, _⟩ | ⟨z, _⟩
                    · exact z
                    · omega
                  rw [hcode] at hneg
                  exact hneg hc1 M4 ((t3'.tr (chT.off (c := 66 + c) (k := 130 + rs.length) (by omega)) lrefl lrefl).tr t4 (by omega) lrefl)
                · have hE4 : (lng F j = none ∧ code = -4 ∧ rs' = rs1) ∨ ∃ G, lng F j = some G ∧ SG act x yn n G rs1 code rs' := by
                    rcases hE3 with ⟨z, _⟩ | ⟨_, z⟩
                    · omega
                    · exact z
                  have t4' : chT (66 + c) (130 + rs.length) M M4 := (t3'.tr (chT.off (c := 66 + c) (k := 130 + rs.length) (by omega)) lrefl lrefl).tr t4 (by omega) lrefl
                  have hF4 : mF M4 (66 + c) F := t4.2.2.2.2 _ F hw (by omega) m3.uf
                  have w4 : M4.1 0 307 (66 + c) = (j : Int) := by rw [t4.2.2.2.1 _ (by omega), g_uA_at, if_neg (by omega)]; exact w3
                  refine rp_134_85 rfl ?_
                  rw [k254]
                  refine ⟨fun z => by exfalso; omega, fun _ => ⟨by unfold hm_in; omega, by unfold hm_in; omega, by omega, ?_⟩⟩
                  rw [show ((66 : Int) + (((c + 1 : Nat) : Int) - 1)) = ((66 + c : Nat) : Int) by omega, Int.toNat_natCast, w4]
                  refine ⟨fun z => by exfalso; omega, fun _ => ?_⟩
                  refine m_135 (j := j) (by omega) (by omega) hF4.uf hw hlt (by rw [g_uA_at, if_neg (by omega)]; exact w4) (fun G hG M5 t5 m5 k255 k265 => rp_134_127 rfl ⟨fun _ => ?_, fun q => absurd q (by decide)⟩) (fun hG M5 t5 => rp_134_127 rfl ⟨fun q => absurd rfl q, fun _ => ?_⟩)
                  · have hG2 : SG act x yn n G rs1 code rs' := by
                      rcases hE4 with ⟨z, _⟩ | ⟨G', z1, z2⟩
                      · rw [hG] at z; cases z
                      · rw [hG] at z1; cases z1; exact z2
                    have t5a : chT (66 + c) (130 + rs1.length) M4 M5 := (chT.off (c := 66 + c) (k := 130 + rs1.length) (M := M4) (by omega)).tr (t5.mono (c' := 66 + c) (k' := 130 + rs1.length) lrefl (by omega)) lrefl lrefl
                    have t5' : chT (66 + c) (130 + rs.length) M M5 := t4'.tr t5a lrefl (by omega)
                    refine ih (c := c) hG2 (Or.inr ⟨lng_hc (by rw [het]; exact hrow) hG, by omega, by omega⟩) (by omega) m5 (lng_wf hw hG) (by rw [k255, g_uA_at, if_pos ⟨rfl, rfl, rfl⟩]; omega) (k264.kT hrw1 t5a lrefl (by rw [k265, g_uA_at, if_neg (by omega)])) hrw1 (fun hc2 M6 t6 => hneg hc2 M6 (t5'.tr t6 lrefl (by omega))) (fun hc2 M6 t6 k256 k266 hrw2 hle2 => hpos hc2 M6 (t5'.tr t6 lrefl (by omega)) k256 k266 hrw2 (by omega))
                  · have hcode : code = -4 := by
                      rcases hE4 with ⟨_, z, _⟩ | ⟨G', z1, _⟩
                      · exact z
                      · rw [hG] at z1; cases z1
                    rw [hcode] at hneg
                    exact hneg (by omega) M5 (t4'.tr ((chT.off (c := 66 + c) (k := 130 + rs.length) (M := M4) (by omega)).tr (t5.mono (c' := 66 + c) (k' := 130 + rs.length) lrefl (by omega)) lrefl lrefl) lrefl lrefl)
              · have hcode : code = -4 := by
                  rcases hS4 with ⟨_, z, _⟩ | ⟨E', c1, rs1, z1, _⟩
                  · exact z
                  · rw [hE] at z1; cases z1
                rw [hcode] at hneg
                exact hneg (by omega) M3 (t2.tr (t3.mono (c' := 66 + c) (k' := 130 + rs.length) lrefl (by omega)) lrefl lrefl)
        refine ⟨fun q3 => cont x hx (by rw [if_neg (by omega)]), fun q3 => ?_⟩
        have := cont yn hyn (by rw [if_pos (by omega)])
        rw [← hy (by omega)] at this
        exact this
    · have hcode : code = 0 ∧ rs' = rs := by
        rcases hSG with ⟨_, z⟩ | ⟨z, _⟩
        · exact z
        · exact absurd z hIF
      rw [hcode.2] at hpos
      exact hpos (by omega) M1 (chT.ofx x1) (by rw [x1.2.2 25 (by omega) (by omega) (by omega) (by omega)]; exact h25) (hRS.kT hrw (chT.ofx (c := 66 + c) (k := 130 + rs.length) x1) lrefl (x1.2.2 26 (by omega) (by omega) (by omega) (by omega))) hrw lrefl
end SR

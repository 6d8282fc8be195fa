/-! step, the class's acts -/
/-- the act and its names -/
def sA (M : g_M) (act x : Nat) (y : Int) : Prop := M.1 0 16 4 = (act : Int) ∧ M.1 0 16 5 = (x : Int) ∧ M.1 0 16 6 = y
theorem sA.k1 {M M' : g_M} {act x f : Nat} {y : Int} (h : sA M act x y) (hc : ch1 f M M') : sA M' act x y := by
  unfold sA
  rw [hc.2 0 16 (by omega)]
  exact h
section SC
variable {D : Nat} {M : g_M} {f act x : Nat} {y : Int} {F : pf_F} {Q : g_P}
theorem c_79 (hD : 5 ≤ D) (hA : sA M act x y) (hx : x < 8) (hc : cF M f F) (hw : pf_wf F) (h1 : ∀ q, vac F x = some q → ∀ M', ch1 f M M' → cF M' f q.1 → Q [.inl (q.2 : Int)] M') (h0 : vac F x = none → ∀ M', ch1 f M M' → Q [.inl (-1)] M') : g_Ev D 79 [.inr (0, 16), .inr (1, f)] M Q := by
  obtain ⟨D, rfl⟩ := g_dep hD
  have lt := pf_terms_lt hw
  refine g_enter hk_79 hn_79 (rp_79_0 rfl (c_40 (by omega) hc hw (rp_79_4 rfl ?_)))
  rw [hA.2.1, pb_g, sp_g]
  refine ⟨⟨by omega, by omega⟩, fun q => ⟨by omega, ?_⟩, fun q => h1 (F, x) (by unfold vac; rw [if_neg q]) M ch1.rf hc⟩
  cases hs : sp (pf_terms F) with
  | none => exact ⟨fun _ => rp_79_63 rfl (h0 (by unfold vac; rw [if_pos q, hs]; rfl) M ch1.rf), fun q2 => absurd rfl q2⟩
  | some s =>
    have s8 := sp_lt hs
    refine ⟨fun q2 => absurd q2 (by show ¬ (s : Int) = -1; omega), fun _ => ?_⟩
    have l1 := hw.1
    have l2 := hw.2.1
    rw [hc.1]
    show g_Ev (D + 4) 80 [.inr (2, f), .inl (F.1.length : Int), .inl (x : Int), .inl (s : Int)] M _
    refine c_80u (by omega) (by omega) s8.2.1 (hc.rg1 hw) (fun M1 c1 a1 a3 a2 => rp_79_47 rfl ?_)
    rw [a1, hc.2.1, (hA.k1 c1).2.1]
    refine c_80a (by omega) (by omega) s8.2.1 (fun k hk => by rw [a3]; exact hc.rg2 hw k hk) (fun M2 c2 b1 b2 b3 => rp_79_63 rfl ?_)
    exact h1 (ren F x s, s) (by unfold vac; rw [if_pos q, hs]; rfl) M2 (c1.tr c2) (hc.renm hw (b1.trans a1) (fun k hk => by rw [b2]; exact a2 k hk) (fun k hk => by rw [b3 k hk, a3]))
theorem c_78 (hD : 7 ≤ D) (hA : sA M act x y) (hx : x < 8) (hc : cF M f F) (hw : pf_wf F) {v : Nat} (hv : v < 8) (h1 : ∀ G, bec F x v = some G → ∀ M', ch1 f M M' → cF M' f G → Q [.inl 1] M') (h0 : bec F x v = none → ∀ M', ch1 f M M' → Q [.inl 0] M') : g_Ev D 78 [.inr (0, 16), .inr (1, f), .inl (v : Int)] M Q := by
  obtain ⟨D, rfl⟩ := g_dep hD
  refine g_enter hk_78 hn_78 (rp_78_0 rfl (c_79 (by omega) hA hx hc hw (fun q hq M1 c1 c2 => rp_78_5 rfl ⟨fun z => by exfalso; omega, fun _ => ?_⟩) (fun hq M1 c1 => rp_78_5 rfl ⟨fun _ => h0 (by unfold bec; rw [hq]; rfl) M1 c1, fun z => absurd rfl z⟩)))
  have k := vac_wf hw hx hq
  have hk := k.2
  have hA1 := hA.k1 c1
  have eb : bec F x v = pu q.1 (0, x, if v = x then q.2 else v) := by unfold bec; rw [hq]; rfl
  rw [hA1.2.1]
  have go : ∀ w : Nat, w < 8 → (if v = x then q.2 else v) = w → g_Ev (D + 6) 74 [.inr (1, f), .inl (64 * (0 : Int) + 8 * (x : Int) + (w : Int))] M1 (fun q' M' => g_R (D + 7) 78 Q 36 [.inr (0, 16), .inr (1, f), .inl (v : Int), .inl (q.2 : Int)] (q' ++ []) M') := fun w hw8 he => by
    rw [he] at eb
    have e : (64 * (0 : Int) + 8 * (x : Int) + (w : Int)) = pf_c (0, x, w) := rfl
    rw [e]
    exact c_pu (by omega) c2 k.1 ⟨by show 0 < 2; decide, hx, hw8⟩ (fun G hG M2 c3 c4 => rp_78_36 rfl ⟨fun z => absurd z (by decide), fun _ => h1 G (by rw [eb]; exact hG) M2 (c1.tr c3) c4⟩) (fun hG M2 c3 => rp_78_36 rfl ⟨fun _ => h0 (by rw [eb]; exact hG) M2 (c1.tr c3), fun z => absurd rfl z⟩)
  refine ⟨fun z => ⟨⟨by omega, by omega, by omega⟩, go v hv (by rw [if_neg (by omega)])⟩, fun z => ⟨⟨by omega, by omega, by omega⟩, go q.2 hk (by rw [if_pos (by omega)])⟩⟩
theorem c_82 (hD : 7 ≤ D) (hA : sA M act x y) (hx : x < 8) (hc : cF M f F) (hw : pf_wf F) (h1 : ∀ G, bnw F x = some G → ∀ M', ch1 f M M' → cF M' f G → Q [.inl 1] M') (h0 : bnw F x = none → ∀ M', ch1 f M M' → Q [.inl 0] M') : g_Ev D 82 [.inr (0, 16), .inr (1, f)] M Q := by
  obtain ⟨D, rfl⟩ := g_dep hD
  refine g_enter hk_82 hn_82 (rp_82_0 rfl (c_79 (by omega) hA hx hc hw (fun q hq M1 c1 c2 => rp_82_5 rfl ⟨fun _ => ?_, fun z => by exfalso; omega⟩) (fun hq M1 c1 => rp_82_5 rfl ⟨fun z => absurd rfl z, fun _ => h0 (by unfold bnw; rw [hq]; rfl) M1 c1⟩)))
  have k := vac_wf hw hx hq
  have lt := pf_terms_lt k.1
  have hA1 := hA.k1 c1
  refine c_40 (by omega) c2 k.1 (rp_82_15 rfl ⟨by omega, ?_⟩)
  rw [sp_g, hA1.2.1]
  cases hs : sp (pf_terms q.1) with
  | none => exact ⟨fun _ => h0 (by unfold bnw; rw [hq, Option.bind_some, hs]; rfl) M1 c1, fun q2 => absurd rfl q2⟩
  | some s =>
    have s8 := sp_lt hs
    have eb : bnw F x = if q.1.2.length < 10 then some (q.1.1, q.1.2 ++ [(0, x, s)]) else none := by unfold bnw; rw [hq, Option.bind_some, hs]; rfl
    refine ⟨fun q2 => absurd q2 (by show ¬ (s : Int) = -1; omega), fun _ => ⟨⟨by omega, by omega, by show 0 ≤ (s : Int) ∧ (s : Int) < 8; omega⟩, ?_⟩⟩
    rw [show (64 * (2 : Int) + 8 * (x : Int) + en (some s)) = 128 + pf_c (0, x, s) by rw [pf_c3]; show 64 * (2 : Int) + 8 * (x : Int) + (s : Int) = _; omega]
    exact c_17 (by omega) c2 k.1 (fun hl M2 c3 c4 => rp_82_37 rfl ⟨fun z => absurd z (by decide), fun _ => h1 _ (by rw [eb, if_pos hl]) M2 (c1.tr c3) c4⟩) (fun hl => rp_82_37 rfl ⟨fun _ => h0 (by rw [eb, if_neg hl]) M1 c1, fun z => absurd rfl z⟩)
theorem c_77 (hD : 9 ≤ D) (hA : sA M act x y) (ha : act < 8) (hx : x < 8) {yn : Nat} (hyn : yn < 8) (hy : act = 0 ∨ 3 < act → y = (yn : Int)) (hc : cF M f F) (hw : pf_wf F) {u : Nat} {w : Int} (hu : 3 ≤ act ∧ act ≤ 5 → w = (u : Int) ∧ u < F.2.length) (h1 : ∀ G, chgf act x yn F u = some G → ∀ M', ch1 f M M' → cF M' f G → Q [.inl 1] M') (h0 : chgf act x yn F u = none → ∀ M', ch1 f M M' → Q [.inl 0] M') : g_Ev D 77 [.inr (0, 16), .inr (1, f), .inl w] M Q := by
  obtain ⟨D, rfl⟩ := g_dep hD
  have l2 := hw.2.1
  have h01 : ∀ {G : Option pf_F} {r : Int}, G = chgf act x yn F u → True := fun _ => True.intro
  have hq : ∀ {j : Nat}, pf_ok (pth F j) := pth_ok hw
  refine g_enter hk_77 hn_77 (rp_77_0 rfl ?_)
  rw [hA.1, hA.2.1, hA.2.2]
  refine ⟨fun q => ?_, fun q => ?_, fun q => ?_, fun q => ?_, fun q => ?_, fun q => ?_, fun q => ?_, fun q => ?_⟩
  · have e7 : act = 7 := by omega
    have ec : chgf act x yn F u = pu F (1, x, yn) := by unfold chgf; rw [e7]; rfl
    rw [hy (by omega)]
    refine ⟨⟨by omega, by omega, by omega⟩, ?_⟩
    have e : (64 * (1 : Int) + 8 * (x : Int) + (yn : Int)) = pf_c (1, x, yn) := rfl
    rw [e]
    exact c_pu (by omega) hc hw ⟨by show 1 < 2; decide, hx, hyn⟩ (fun G hG M2 c3 c4 => rp_77_170 rfl ⟨by omega, h1 G (by rw [ec]; exact hG) M2 c3 c4⟩) (fun hG M2 c3 => rp_77_170 rfl ⟨by omega, h0 (by rw [ec]; exact hG) M2 c3⟩)
  · have e0 : act = 0 := by omega
    have ec : chgf act x yn F u = if x = yn then some F else bec F x yn := by unfold chgf; rw [if_pos e0]
    rw [hy (by omega)]
    refine ⟨fun z => h1 F (by rw [ec, if_pos (by omega)]) M ch1.rf hc, fun z => ?_⟩
    rw [if_neg (by omega)] at ec
    exact c_78 (by omega) hA hx hc hw hyn (fun G hG M2 c3 c4 => rp_77_68 rfl ⟨fun z => absurd z (by decide), fun _ => h1 G (by rw [ec]; exact hG) M2 c3 c4⟩) (fun hG M2 c3 => rp_77_68 rfl ⟨fun _ => h0 (by rw [ec]; exact hG) M2 c3, fun z => absurd rfl z⟩)
  · have e1 : act = 1 := by omega
    have ec : chgf act x yn F u = bec F x 0 := by unfold chgf; rw [e1]; rfl
    exact c_78 (v := 0) (by omega) hA hx hc hw (by omega) (fun G hG M2 c3 c4 => rp_77_83 rfl ⟨by omega, h1 G (by rw [ec]; exact hG) M2 c3 c4⟩) (fun hG M2 c3 => rp_77_83 rfl ⟨by omega, h0 (by rw [ec]; exact hG) M2 c3⟩)
  · have e2 : act = 2 := by omega
    have ec : chgf act x yn F u = bnw F x := by unfold chgf; rw [e2]; rfl
    exact c_82 (by omega) hA hx hc hw (fun G hG M2 c3 c4 => rp_77_89 rfl ⟨by omega, h1 G (by rw [ec]; exact hG) M2 c3 c4⟩) (fun hG M2 c3 => rp_77_89 rfl ⟨by omega, h0 (by rw [ec]; exact hG) M2 c3⟩)
  · have e3 : act = 3 := by omega
    have ec : chgf act x yn F u = some (F.1, F.2.eraseIdx u) := by unfold chgf; rw [e3]; rfl
    have hu2 := hu (by omega)
    rw [hu2.1]
    exact c_73 (by omega) hc hw hu2.2 (fun M2 c3 c4 => rp_77_95 rfl (h1 _ ec M2 c3 c4))
  · have e4 : act = 4 := by omega
    have ec : chgf act x yn F u = bec F x (pth F u).2.2 := by unfold chgf; rw [e4]; rfl
    have hu2 := hu (by omega)
    have hat := List.getElem?_eq_getElem hu2.2
    have ok := hw.2.2.2 _ (List.getElem_mem hu2.2)
    have r := it_rg (pq_ok ok)
    have hcode := hc.2.2.2 u _ hat
    rw [← pf_c_pq] at hcode
    have hpt := pth_at hat
    rw [hu2.1, Int.toNat_natCast, hcode]
    rw [hpt] at ec
    have r5 : pf_c (pq F.2[u]) % 8 = (F.2[u].2.2 : Int) := r.2.2.2.2
    rw [r5]
    refine ⟨by omega, ⟨r.1, r.2.1⟩, ?_⟩
    exact c_78 (by omega) hA hx hc hw ok.2.2 (fun G hG M2 c3 c4 => rp_77_111 rfl ⟨by omega, h1 G (by rw [ec]; exact hG) M2 c3 c4⟩) (fun hG M2 c3 => rp_77_111 rfl ⟨by omega, h0 (by rw [ec]; exact hG) M2 c3⟩)
  · have e5 : act = 5 := by omega
    have ec : chgf act x yn F u = some (F.1, F.2.set u (0, (pth F u).2.1, yn)) := by unfold chgf; rw [e5]; rfl
    have hu2 := hu (by omega)
    have hat := List.getElem?_eq_getElem hu2.2
    have ok := hw.2.2.2 _ (List.getElem_mem hu2.2)
    have r := it_rg (pq_ok ok)
    have hcode := hc.2.2.2 u _ hat
    rw [← pf_c_pq] at hcode
    have hpt := pth_at hat
    have o2 := ok.2.1
    rw [hu2.1, Int.toNat_natCast, hcode, hy (by omega)]
    rw [hpt] at ec
    have r4 : pf_c (pq F.2[u]) / 8 % 8 = (F.2[u].2.1 : Int) := r.2.2.2.1
    rw [r4]
    refine ⟨by omega, ⟨r.1, r.2.1⟩, ⟨by omega, by omega, by omega⟩, ?_⟩
    refine h1 _ ec _ (ch1.uA (by omega)) ?_
    have := hc.set (p := (0, F.2[u].2.1, yn)) hu2.2
    rw [show (128 + pf_c (0, F.2[u].2.1, yn)) = (64 * (2 : Int) + 8 * (F.2[u].2.1 : Int) + (yn : Int)) by rw [pf_c3]; omega] at this
    exact this
  · have e6 : act = 6 := by omega
    have ec : chgf act x yn F u = pu F (0, x, yn) := by unfold chgf; rw [e6]; rfl
    rw [hy (by omega)]
    refine ⟨⟨by omega, by omega, by omega⟩, ?_⟩
    have e : (64 * (0 : Int) + 8 * (x : Int) + (yn : Int)) = pf_c (0, x, yn) := rfl
    rw [e]
    exact c_pu (by omega) hc hw ⟨by show 0 < 2; decide, hx, hyn⟩ (fun G hG M2 c3 c4 => rp_77_153 rfl ⟨by omega, h1 G (by rw [ec]; exact hG) M2 c3 c4⟩) (fun hG M2 c3 => rp_77_153 rfl ⟨by omega, h0 (by rw [ec]; exact hG) M2 c3⟩)
end SC

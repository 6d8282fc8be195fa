/-! step -/
theorem CI.kS {M M1 : g_M} {n : Nat} {Fs : Nat → pf_F} {cs vs : Nat → Int} {c : Nat} (hi : CI M n Fs cs vs c) (e : ∀ t m, (t = 0 ∧ m = 2) ∨ ((t = 1 ∨ t = 2 ∨ t = 3) ∧ 12 ≤ m ∧ m < 12 + n) ∨ t = 4 ∨ t = 5 ∨ t = 6 → M1.1 t m = M.1 t m) (hl : LO M1) : CI M1 n Fs cs vs c := by
  refine ⟨by rw [e 0 2 (by omega)]; exact hi.1, by rw [e 0 2 (by omega)]; exact hi.2.1, fun f hf => ?_, ?_, ?_⟩
  · have := hi.2.2.1 f hf
    unfold cF at this ⊢
    rw [e 1 _ (by omega), e 2 _ (by omega), e 3 _ (by omega)]
    exact this
  · obtain ⟨vs', h1, h2⟩ := hi.2.2.2.1
    refine ⟨vs', ?_, h2⟩
    unfold cMem at h1 ⊢
    rw [e 5 _ (by omega), e 4 _ (by omega), e 6 _ (by omega)]
    exact h1
  · obtain ⟨cs1, vs1, h1, h2, h3⟩ := hi.2.2.2.2
    refine ⟨cs1, vs1, ?_, h2, hl⟩
    unfold cMem at h1 ⊢
    rw [e 5 _ (by omega), e 4 _ (by omega), e 6 _ (by omega)]
    exact h1
theorem MI.kT {M M1 : g_M} {n : Nat} {Fs : Nat → pf_F} {cs vs : Nat → Int} {c : Nat} (hi : MI M n Fs cs vs c) (hn : n ≤ 60) (hw : ∀ f, f < n → pf_wf (Fs f)) (hc : chT 66 130 M M1) : MI M1 n Fs cs vs c := by
  refine ⟨by rw [hc.2.2.1 1 (by omega) (by omega) (by omega) (by omega) (by omega) (by omega)]; exact hi.1, by rw [hc.2.2.1 29 (by omega) (by omega) (by omega) (by omega) (by omega) (by omega)]; exact hi.2.1, fun f hf => hc.2.2.2.2 f (Fs f) (hw f hf) (by omega) (hi.2.2.1 f hf), ?_, ?_⟩
  · rw [hc.2.1 0 296 (by omega)]; exact hi.2.2.2.1
  · rw [hc.2.1 0 295 (by omega)]; exact hi.2.2.2.2
theorem chT.mcg {c k : Nat} {M M1 : g_M} (h : chT c k M M1) : mcg M M1 := ⟨h.1, fun t n hn => h.2.1 t n (by omega)⟩
/-- the formulas there were, and the results -/
def fx (n : Nat) (Fs : Nat → pf_F) (rs : List pf_F) (f : Nat) : pf_F := if f < n then Fs f else rs.getD (f - n) ([], [])
theorem fx_lt {n f : Nat} {Fs : Nat → pf_F} {rs : List pf_F} (h : f < n) : fx n Fs rs f = Fs f := by unfold fx; rw [if_pos h]
theorem fx_ge {n i : Nat} {Fs : Nat → pf_F} {rs : List pf_F} {R : pf_F} (h : rs[i]? = some R) : fx n Fs rs (n + i) = R := by
  unfold fx
  rw [if_neg (by omega), show n + i - n = i by omega, List.getD_eq_getElem?_getD, h]
  rfl
section SR
variable {D : Nat} {M : g_M} {act x yn n c f : Nat} {y : Int} {Fs : Nat → pf_F} {cs vs : Nat → Int}
theorem m_134 (hD : 21 ≤ D) (hm : MI M n Fs cs vs c) (hn : n ≤ 60) (hws : ∀ f, f < n → pf_wf (Fs f)) (hf : f < n) (ha : act < 8) (hx : 0 < x ∧ x < 5) (hyn : yn < 8) (hy : act = 0 ∨ 3 < act → y = (yn : Int)) (hy2 : act = 0 ∨ 3 < act → 0 < y ∧ y < 5) {code : Int} {rs : List pf_F} (hS : SG act x yn 12 (Fs f) [] code rs) {Q : g_P}
    (hneg : code < 0 → ∀ M', mcg M M' → MI M' n Fs cs vs c → Q [.inl code] M') (hfull : 0 ≤ code → 60 < n + rs.length → ∀ M', mcg M M' → MI M' n Fs cs vs c → Q [.inl (-2)] M') (hok : 0 ≤ code → n + rs.length ≤ 60 → ∀ M', mcg M M' → MI M' (n + rs.length) (fx n Fs rs) cs vs c → Q [.inl (rs.length : Int)] M') : g_Ev D 134 [.inr (0, 286), .inl (f : Int), .inl (act : Int), .inl (x : Int), .inl y] M Q := by
  obtain ⟨D, rfl⟩ := g_dep hD
  have hw := hws f hf
  have few := (SG_few hw hS).1
  have l2 := hw.2.1
  have lrefl : ∀ {a : Nat}, a ≤ a := fun {a} => Nat.le_refl a
  have hrl : rs.length ≤ 11 := by have : ([] : List pf_F).length = 0 := rfl; omega
  have copy : ∀ (nd : Int) (k : Nat), 0 ≤ code → n + rs.length ≤ 60 → ∀ (m i : Nat) (z : Int) (M1 : g_M), i + m = rs.length → z = (i : Int) → mcg M M1 → (∀ R ∈ rs, pf_wf R) → M1.1 0 286 1 = (n : Int) → M1.1 0 286 26 = (rs.length : Int) → M1.1 0 286 29 = (c : Int) → M1.1 0 295 = M.1 0 295 → M1.1 0 296 = M.1 0 296 → (∀ (i : Nat) (R : pf_F), rs[i]? = some R → mF M1 (130 + i) R) → (∀ g, g < n + i → mF M1 g (fx n Fs rs g)) → g_R (D + 21) 134 Q 297 [.inr (0, 286), .inl (f : Int), .inl (act : Int), .inl (x : Int), .inl y, .inl nd, .inl z] [] M1 := by
    intro nd _ h0 h60 m
    induction m with
    | zero =>
      intro i z M1 hi hz hc hrw h1 h26 h29 h295 h296 hR hG
      subst hz
      refine rp_134_297 rfl ?_
      rw [h26, h1]
      refine ⟨fun _ => ⟨by unfold hm_in; omega, hok h0 h60 _ ⟨hc.1, fun t a ha => ?_⟩ ⟨?_, ?_, fun g hg => (hG g (by omega)).uf, ?_, ?_⟩⟩, fun q => by exfalso; omega⟩
      · rw [← hc.2 t a ha]
        funext b
        rw [g_uA_at, if_neg (fun w => ha ⟨w.1, by omega⟩)]
      · rw [g_uA_at, if_pos ⟨rfl, rfl, rfl⟩]; omega
      · rw [g_uA_at, if_neg (by omega)]; exact h29
      · intro a ha2
        rw [g_uA_at, if_neg (by omega), h296]
        exact hm.2.2.2.1 a ha2
      · obtain ⟨vs', v1, v2⟩ := hm.2.2.2.2
        refine ⟨vs', fun t ht => ?_, v2⟩
        rw [g_uA_at, if_neg (by omega), h295]
        exact v1 t ht
    | succ m ih =>
      intro i z M1 hi hz hc hrw h1 h26 h29 h295 h296 hR hG
      subst hz
      have hlt : i < rs.length := by omega
      have hat := List.getElem?_eq_getElem hlt
      have hwR := hrw _ (List.getElem_mem hlt)
      refine rp_134_297 rfl ?_
      rw [h26, h1]
      refine ⟨fun q => by exfalso; omega, fun _ => ⟨by unfold hm_in; omega, by unfold hm_in; omega, ?_⟩⟩
      rw [show ((130 : Int) + (i : Int)) = ((130 + i : Nat) : Int) by omega, show ((n : Int) + (i : Int)) = ((n + i : Nat) : Int) by omega]
      refine m_99 (by omega) (by omega) (by omega) (by omega) (hR i _ hat) hwR (fun M2 c2 m2 => rp_134_323 rfl ⟨by unfold hm_in; omega, ih (i + 1) _ M2 (by omega) (by omega) ⟨c2.1.trans hc.1, fun t a ha => (c2.2.1 t a (by omega)).trans (hc.2 t a ha)⟩ hrw (by rw [c2.2.1 0 286 (by omega)]; exact h1) (by rw [c2.2.1 0 286 (by omega)]; exact h26) (by rw [c2.2.1 0 286 (by omega)]; exact h29) (by rw [c2.2.1 0 295 (by omega)]; exact h295) (by rw [c2.2.1 0 296 (by omega)]; exact h296) (fun k R hk => (hR k R hk).keep (hrw R (List.mem_of_getElem? hk)) c2 (by omega)) (fun g hg => ?_)⟩)
      by_cases w : g = n + i
      · rw [w, fx_ge hat]; exact m2
      · have hg2 := hG g (by omega)
        refine hg2.keep ?_ c2 w
        rcases Nat.lt_or_ge g n with v | v
        · rw [fx_lt v]; exact hws g v
        · obtain ⟨k, rfl⟩ : ∃ k, g = n + k := ⟨g - n, by omega⟩
          have hk : k < rs.length := by omega
          rw [fx_ge (List.getElem?_eq_getElem hk)]
          exact hrw _ (List.getElem_mem hk)
  have hend : ∀ (nd : Int) (M1 : g_M), 0 ≤ code → chT 66 130 M M1 → M1.1 0 286 25 = 0 → RS M1 rs → (∀ R ∈ rs, pf_wf R) → g_R (D + 21) 134 Q 85 [.inr (0, 286), .inl (f : Int), .inl (act : Int), .inl (x : Int), .inl y, .inl nd] [] M1 := fun nd M1 h0 t1 h25 hR hrw => by
    have hm1 := hm.kT hn hws t1
    refine rp_134_85 rfl ?_
    rw [h25, hm1.1, hR.1]
    refine ⟨fun _ => ⟨by unfold hm_in; omega, fun q => copy nd 0 h0 (by omega) rs.length 0 0 M1 (by omega) rfl t1.mcg hrw hm1.1 hR.1 hm1.2.1 (t1.2.1 0 295 (by omega)) (t1.2.1 0 296 (by omega)) hR.2 (fun g hg => by rw [fx_lt (by omega)]; exact hm1.2.2.1 g (by omega)), fun q => hfull h0 (by omega) M1 t1.mcg hm1⟩, fun q => absurd q (by decide)⟩
  have hbeg : ∀ (nd : Int) (M1 : g_M), (3 ≤ act ∧ act ≤ 5 ∧ nd = 1 ∨ ¬ (3 ≤ act ∧ act ≤ 5) ∧ nd = 0) → chT 66 130 M M1 → M1.1 0 286 25 = 1 → M1.1 0 286 26 = 0 → mF M1 66 (Fs f) → g_R (D + 21) 134 Q 85 [.inr (0, 286), .inl (f : Int), .inl (act : Int), .inl (x : Int), .inl y, .inl nd] [] (g_uA M1 (0, 307) (66 : Int).toNat (-1 : Int)) := fun nd M1 hnd t1 h25 h26 hF1 => by
    have t2 : chT 66 130 M (g_uA M1 (0, 307) (66 : Int).toNat (-1 : Int)) := t1.tr (chT.of7 (by show 66 ≤ 66; omega)) lrefl lrefl
    refine rp_134_85 rfl ?_
    rw [show (g_uA M1 (0, 307) (66 : Int).toNat (-1 : Int)).1 0 286 25 = 1 by rw [g_uA_at, if_neg (by omega)]; exact h25]
    refine ⟨fun q => absurd q (by decide), fun _ => ⟨by unfold hm_in; omega, by unfold hm_in; omega, by omega, fun _ => ?_, fun q => ?_⟩⟩
    · have hP := m_P (D := D) (Q := Q) (f := (f : Int)) (nd := nd) (y := y) (yn := yn) (x := x) (act := act) ha (by omega) hyn hy hnd 12 (c := 0) (M := g_uA (g_uA M1 (0, 307) (66 : Int).toNat (-1 : Int)) (0, 286) 25 ((1 : Int) - 1)) (F := Fs f) (rs := []) (rs' := rs) (code := code) hS (Or.inl ⟨by omega, by show 0 + _ + 1 ≤ 11; omega⟩) (by omega) hF1.u7.uf hw (by rw [g_uA_at, if_pos ⟨rfl, rfl, rfl⟩]; rfl) ⟨by rw [g_uA_at, if_neg (by omega), g_uA_at, if_neg (by omega)]; exact h26, fun i R hi => by simp at hi⟩ (fun R hR => absurd hR List.not_mem_nil) (fun h0 M' t => hneg h0 M' ((t2.tr (chT.off (c := 66) (k := 130) (by omega)) lrefl lrefl).tr t lrefl lrefl).mcg (hm.kT hn hws ((t2.tr (chT.off (c := 66) (k := 130) (by omega)) lrefl lrefl).tr t lrefl lrefl))) (fun h0 M' t k25 kR kw _ => hend nd M' h0 ((t2.tr (chT.off (c := 66) (k := 130) (by omega)) lrefl lrefl).tr t lrefl lrefl) k25 kR kw)
      exact hP
    · exfalso
      rw [g_uA_at, if_pos ⟨rfl, rfl, by decide⟩] at q
      exact absurd q (by decide)
  have hmid : g_Ev (D + 20) 99 [.inr (0, 286), .inl (f : Int), .inl (66 : Int)] (g_uA (g_uA M (0, 286) 25 (1 : Int)) (0, 286) 26 (0 : Int)) (fun q M' => g_R (D + 21) 134 Q 59 [.inr (0, 286), .inl (f : Int), .inl (act : Int), .inl (x : Int), .inl y] (q ++ []) M') := by
    have t0 : chT 66 130 M (g_uA (g_uA M (0, 286) 25 (1 : Int)) (0, 286) 26 (0 : Int)) := (chT.off (by omega)).tr (chT.off (by omega)) lrefl lrefl
    refine m_99 (b := 66) (by omega) (by omega) (by omega) (by omega) (hm.2.2.1 f hf).uf.uf hw (fun M1 c1 m1 => rp_134_59 rfl ?_)
    have t1 : chT 66 130 M M1 := t0.tr (chT.ofm c1 (by omega)) lrefl lrefl
    have k25 : M1.1 0 286 25 = 1 := by rw [c1.2.1 0 286 (by omega), g_uA_at, if_neg (by omega), g_uA_at, if_pos ⟨rfl, rfl, rfl⟩]
    have k26 : M1.1 0 286 26 = 0 := by rw [c1.2.1 0 286 (by omega), g_uA_at, if_pos ⟨rfl, rfl, rfl⟩]
    exact ⟨fun q => hbeg 0 M1 (Or.inr ⟨by omega, rfl⟩) t1 k25 k26 m1, fun q => ⟨fun q2 => hbeg 0 M1 (Or.inr ⟨by omega, rfl⟩) t1 k25 k26 m1, fun q2 => hbeg 1 M1 (Or.inl ⟨by omega, by omega, rfl⟩) t1 k25 k26 m1⟩⟩
  refine g_enter hk_134 hn_134 (rp_134_0 rfl ?_)
  rw [hm.1]
  refine ⟨fun _ => ⟨fun q => by exfalso; omega, fun _ => ⟨fun q => by exfalso; omega, fun _ => ⟨fun _ => ⟨fun q => ⟨fun _ => hmid, fun q2 => absurd (hy2 (by omega)) q2⟩, fun _ => hmid⟩, fun q => by exfalso; omega⟩⟩⟩, fun q => by exfalso; omega⟩
end SR
theorem op_16 {D : Nat} (hD : 60 ≤ D) {M : g_M} (h : St M) (f a x y : Int) : opE D 65 134 [.inl f, .inl a, .inl x, .inl y] M := by
  obtain ⟨n, Fs, cs, vs, c, hs, hc, hm⟩ := id h
  obtain ⟨D, rfl⟩ := g_dep (k := 60) (D := D) hD
  have l := hs.1
  have bad : ∀ M1, St M1 → M1 = M → ¬ ((0 ≤ f ∧ f < (n : Int)) ∧ (0 ≤ a ∧ a < 8) ∧ (0 < x ∧ x < 5) ∧ ((a = 0 ∨ 3 < a) → (0 < y ∧ y < 5))) → g_Ev (D + 60) 134 [.inr (0, 286), .inl f, .inl a, .inl x, .inl y] M1 (fun r' M2 => r' = [.inl (-1)] ∧ St M2) := fun M1 hM1 e hno => by
    subst e
    refine g_enter hk_134 hn_134 (rp_134_0 rfl ?_)
    rw [hm.1]
    have ok : (fun r' M2 => r' = [.inl (-1)] ∧ St M2 : g_P) [.inl (-1 : Int)] M1 := ⟨rfl, h⟩
    refine ⟨fun q => ⟨fun _ => ok, fun q1 => ⟨fun _ => ok, fun q2 => ⟨fun q3 => ⟨fun q4 => ⟨fun q5 => ?_, fun _ => ok⟩, fun q4 => ?_⟩, fun _ => ok⟩⟩⟩, fun _ => ok⟩
    · exact absurd ⟨q, by omega, q3, fun _ => q5⟩ hno
    · exact absurd ⟨q, by omega, q3, fun z => absurd z q4⟩ hno
  refine g_enter hk_65 hn_65 (rp_65_0 rfl ?_)
  rw [hc.1]
  refine ⟨fun q => ⟨fun q2 => ⟨by omega, ?_⟩, fun q2 => ⟨_, rfl, bad M h rfl (fun z => q2 z.2)⟩⟩, fun q => ⟨_, rfl, bad M h rfl (fun z => q z.1)⟩⟩
  obtain ⟨f, hf, rfl⟩ := g_natof q
  obtain ⟨act, hact, rfl⟩ := g_natof (N := 8) q2.1
  obtain ⟨x, hx8, rfl⟩ := g_natof (a := x) (N := 5) ⟨by omega, by omega⟩
  have hx := q2.2.1
  rw [Int.toNat_natCast]
  have hw := hs.2.2.1 f hf
  have l2 := hw.2.1
  obtain ⟨yn, hyn, hy⟩ : ∃ yn : Nat, yn < 8 ∧ (act = 0 ∨ 3 < act → y = (yn : Int)) := by
    by_cases z : act = 0 ∨ 3 < act
    · have := q2.2.2 (by omega)
      exact ⟨y.toNat, by omega, fun _ => by omega⟩
    · exact ⟨0, by omega, fun w => absurd w z⟩
  have hlo1 : ∀ i, i < 2 → ∃ lo : Nat, lo < 256 ∧ M.1 12 i 3 = (lo : Int) := hc.2.2.2.2.elim (fun _ z => z.elim (fun _ z => z.2.2))
  refine g_enter hk_66 hn_66 (rp_66_0 rfl ?_)
  refine c_20 (by omega) (by show 12 + f ≠ 0; omega) (hc.2.2.1 f hf) hw (fun M1 k1 k2 => rp_66_10 rfl (rp_65_37 rfl ?_))
  have u1 : ∀ {M0 : g_M} {j : Nat} {v : Int}, (∀ t m, ¬ (t = 0 ∧ m = 16) → (g_uA M0 (0, 16) j v).1 t m = M0.1 t m) := fun {M0 j v} t m hn => by
    funext b
    rw [g_uA_at, if_neg (fun w => hn ⟨w.1, w.2.1⟩)]
  generalize hM2 : g_uA (g_uA (g_uA M1 (0, 16) 4 (act : Int)) (0, 16) 5 (x : Int)) (0, 16) 6 y = M2
  have e2 : ∀ t m, ¬ (t = 0 ∧ m = 16) → M2.1 t m = M1.1 t m := fun t m hn => by rw [← hM2, u1 t m hn, u1 t m hn, u1 t m hn]
  have a4 : M2.1 0 16 4 = (act : Int) := by rw [← hM2, g_uA_at, if_neg (by omega), g_uA_at, if_neg (by omega), g_uA_at, if_pos ⟨rfl, rfl, rfl⟩]
  have a5 : M2.1 0 16 5 = (x : Int) := by rw [← hM2, g_uA_at, if_neg (by omega), g_uA_at, if_pos ⟨rfl, rfl, rfl⟩]
  have a6 : M2.1 0 16 6 = y := by rw [← hM2, g_uA_at, if_pos ⟨rfl, rfl, rfl⟩]
  have h26 : M2.1 0 2 6 = (n : Int) := by rw [e2 0 2 (by omega), k1.2 0 2 (by omega)]; exact hc.1
  rw [h26]
  refine g_enter hk_67 hn_67 (rp_67_0 rfl (rp_65_52 rfl ?_))
  generalize hM3 : g_uA (g_uA (g_uB M2 2 (some 0)) (0, 16) 3 (n : Int)) (0, 16) 7 (0 : Int) = M3
  have e3 : ∀ t m, ¬ (t = 0 ∧ m = 16) → M3.1 t m = M1.1 t m := fun t m hn => by rw [← hM3, u1 t m hn, u1 t m hn]; exact e2 t m hn
  have f3 : ∀ j, j ≠ 3 → j ≠ 7 → M3.1 0 16 j = M2.1 0 16 j := fun j j1 j2 => by
    rw [← hM3, g_uA_at, if_neg (by omega), g_uA_at, if_neg (by omega)]
    rfl
  have eM : ∀ t m, ¬ (t = 0 ∧ m = 16) → ¬ ((t = 1 ∨ t = 2 ∨ t = 3) ∧ m = 0) → M3.1 t m = M.1 t m := fun t m h1 h2 => (e3 t m h1).trans (k1.2 t m (by show ¬ ((t = 1 ∨ t = 2 ∨ t = 3) ∧ m = 0); exact h2))
  have hA : sA M3 act x y := ⟨by rw [f3 4 (by omega) (by omega)]; exact a4, by rw [f3 5 (by omega) (by omega)]; exact a5, by rw [f3 6 (by omega) (by omega)]; exact a6⟩
  have hSL : SL M3 n [] := by
    refine ⟨?_, ?_, ?_, l, fun i R hi => by simp at hi⟩
    · rw [← hM3]
      simp [g_uA, g_uB, va_up]
    · rw [← hM3, g_uA_at, if_neg (by omega), g_uA_at, if_pos ⟨rfl, rfl, rfl⟩]
    · rw [← hM3, g_uA_at, if_pos ⟨rfl, rfl, rfl⟩]; rfl
  have hc3 : cF M3 0 (Fs f) := by
    have k2' : cF M1 0 (Fs f) := k2
    unfold cF at k2' ⊢
    rw [e3 1 _ (by omega), e3 2 _ (by omega), e3 3 _ (by omega)]
    exact k2'
  refine g_enter hk_81 hn_81 (rp_81_0 rfl (c_68 (act := act) (x := x) (yn := yn) (y := y) (made := n) hact (by omega) hyn hy 12 (depth := 0) (F := Fs f) (rs := []) (by omega) (by omega) (by omega) (Or.inl ⟨by omega, by show 0 + _ + 1 ≤ 11; omega⟩) hc3 hw hSL (fun R hR => absurd hR List.not_mem_nil) hA (by rw [eM 12 1 (by omega) (by omega)]; exact hlo1 1 (by omega)) (fun code rs M4 hSG hch hSL4 hrw _ => rp_81_5 rfl (rp_65_59 rfl ?_))))
  have e4 : ∀ t m, ¬ ((t = 1 ∨ t = 2 ∨ t = 3) ∧ (m < 12 ∨ 12 + n ≤ m)) → ¬ ((t = 12 ∨ t = 13 ∨ t = 14) ∧ m = 1) → ¬ ((t = 7 ∨ t = 10 ∨ t = 11) ∧ m = 2) → ¬ (t = 0 ∧ m = 16) → M4.1 t m = M.1 t m := fun t m h1 h2 h3 h4 => (hch.2.1 t m (by show ¬ ((t = 1 ∨ t = 2 ∨ t = 3) ∧ (0 < m ∧ m < 12 ∨ 12 + n + 0 ≤ m)); omega) h2 h3 h4).trans (eM t m h4 (by omega))
  have hLO : LO M4 := fun i hi => by
    by_cases z : i = 1
    · rw [z]; exact hch.2.2.2
    · rw [e4 12 i (by omega) (by omega) (by omega) (by omega)]; exact hlo1 i hi
  have hc4 : CI M4 n Fs cs vs c := hc.kS (fun t m ht => e4 t m (by omega) (by omega) (by omega) (by omega)) hLO
  have hm4 : MI M4 n Fs cs vs c := hm.keep (fun m hm2 => e4 0 m (by omega) (by omega) (by omega) (by omega))
  have hfw : ∀ g, g < n + rs.length → pf_wf (fx n Fs rs g) := fun g hg => by
    rcases Nat.lt_or_ge g n with v | v
    · rw [fx_lt v]; exact hs.2.2.1 g v
    · obtain ⟨k, rfl⟩ : ∃ k, g = n + k := ⟨g - n, by omega⟩
      have hk : k < rs.length := by omega
      rw [fx_ge (List.getElem?_eq_getElem hk)]
      exact hrw _ (List.getElem_mem hk)
  have few := (SG_few hw hSG).1
  have hrl : rs.length ≤ 11 := by have : ([] : List pf_F).length = 0 := rfl; omega
  rw [hc4.1, hSL4.2.2.1]
  refine ⟨fun h0 => ⟨by unfold hm_in; omega, fun h60 => ?_, fun h60 => ?_⟩, fun h0 => ?_⟩
  · refine ⟨_, rfl, ?_⟩
    have hc5 : CI (g_uA M4 (0, 2) 6 ((n : Int) + (rs.length : Int))) (n + rs.length) (fx n Fs rs) cs vs c := by
      have u5 : ∀ t m, ¬ (t = 0 ∧ m = 2) → (g_uA M4 (0, 2) 6 ((n : Int) + (rs.length : Int))).1 t m = M4.1 t m := fun t m hn => by
        funext b
        rw [g_uA_at, if_neg (fun w => hn ⟨w.1, w.2.1⟩)]
      refine ⟨by rw [g_uA_at, if_pos ⟨rfl, rfl, rfl⟩]; omega, by rw [g_uA_at, if_neg (by omega)]; exact hc4.2.1, fun g hg => ?_, ?_, ?_⟩
      · have hcg : cF M4 (12 + g) (fx n Fs rs g) := by
          rcases Nat.lt_or_ge g n with v | v
          · rw [fx_lt v]; exact hc4.2.2.1 g v
          · obtain ⟨k, rfl⟩ : ∃ k, g = n + k := ⟨g - n, by omega⟩
            have hk : k < rs.length := by omega
            rw [fx_ge (List.getElem?_eq_getElem hk)]
            have := hSL4.2.2.2.2 k _ (List.getElem?_eq_getElem hk)
            rw [show 12 + (n + k) = 12 + n + k by omega]
            exact this
        unfold cF at hcg ⊢
        rw [u5 1 _ (by omega), u5 2 _ (by omega), u5 3 _ (by omega)]
        exact hcg
      · obtain ⟨vs', h1, h2⟩ := hc4.2.2.2.1
        refine ⟨vs', ?_, h2⟩
        unfold cMem at h1 ⊢
        rw [u5 5 _ (by omega), u5 4 _ (by omega), u5 6 _ (by omega)]
        exact h1
      · obtain ⟨cs1, vs1, h1, h2, h3⟩ := hc4.2.2.2.2
        refine ⟨cs1, vs1, ?_, h2, fun i hi => by rw [u5 12 i (by omega)]; exact h3 i hi⟩
        unfold cMem at h1 ⊢
        rw [u5 5 _ (by omega), u5 4 _ (by omega), u5 6 _ (by omega)]
        exact h1
    have hm5 : MI (g_uA M4 (0, 2) 6 ((n : Int) + (rs.length : Int))) n Fs cs vs c := hm4.keep (fun m hm2 => by funext b; rw [g_uA_at, if_neg (by omega)])
    have hs5 : SI (n + rs.length) (fx n Fs rs) cs vs c := ⟨by omega, hs.2.1, hfw, hs.2.2.2⟩
    exact m_134 (yn := yn) (by omega) hm5 l hs.2.2.1 hf hact ⟨by omega, by omega⟩ hyn hy (fun z => q2.2.2 (by omega)) hSG (fun z => by omega) (fun _ z => by omega) (fun _ _ M6 c6 m6 => ⟨rfl, n + rs.length, fx n Fs rs, cs, vs, c, hs5, hc5.keep c6, m6⟩)
  · exact ⟨_, rfl, m_134 (yn := yn) (by omega) hm4 l hs.2.2.1 hf hact ⟨by omega, by omega⟩ hyn hy (fun z => q2.2.2 (by omega)) hSG (fun z => by omega) (fun _ _ M6 c6 m6 => ⟨rfl, n, Fs, cs, vs, c, hs, hc4.keep c6, m6⟩) (fun _ z => by omega)⟩
  · exact ⟨_, rfl, m_134 (yn := yn) (by omega) hm4 l hs.2.2.1 hf hact ⟨by omega, by omega⟩ hyn hy (fun z => q2.2.2 (by omega)) hSG (fun _ M6 c6 m6 => ⟨rfl, n, Fs, cs, vs, c, hs, hc4.keep c6, m6⟩) (fun z => by omega) (fun z => by omega)⟩

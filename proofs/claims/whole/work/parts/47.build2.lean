def ch4 (M M' : g_M) : Prop := M'.2 = M.2 ∧ (∀ t n, ¬ (t = 0 ∧ (n = 286 ∨ n = 304)) → M'.1 t n = M.1 t n) ∧ ∀ k, k ≠ 23 → M'.1 0 286 k = M.1 0 286 k
theorem ch4.rf {M : g_M} : ch4 M M := ⟨rfl, fun _ _ _ => rfl, fun _ _ => rfl⟩
theorem ch4.tr {M M' M'' : g_M} (h : ch4 M M') (h' : ch4 M' M'') : ch4 M M'' := ⟨h'.1.trans h.1, fun t n hn => (h'.2.1 t n hn).trans (h.2.1 t n hn), fun k a => (h'.2.2 k a).trans (h.2.2 k a)⟩
theorem ch4.row {M : g_M} {k : Nat} {v : Int} : ch4 M (g_uA M (0, 304) k v) := by
  refine ⟨rfl, fun t m hm => ?_, fun j _ => ?_⟩
  · funext a
    rw [g_uA_at, if_neg]
    rintro ⟨rfl, rfl, -⟩
    exact hm ⟨rfl, Or.inr rfl⟩
  · rw [g_uA_at, if_neg (by omega)]
theorem ch4.fld {M : g_M} {v : Int} : ch4 M (g_uA M (0, 286) 23 v) := by
  refine ⟨rfl, fun t m hm => ?_, fun j _ => ?_⟩
  · funext a
    rw [g_uA_at, if_neg]
    rintro ⟨rfl, rfl, -⟩
    exact hm ⟨rfl, Or.inl rfl⟩
  · rw [g_uA_at, if_neg (by omega)]
theorem ch4.chx {M M' : g_M} (h : ch4 M M') : chx M M' := ⟨h.1, fun t n hn => h.2.1 t n (by omega), fun k _ _ _ h4 => h.2.2 k h4⟩
theorem mP.k4 {M M' : g_M} {L : Nat} {ls : Nat → Nat} {wi rk : Nat → Int} (h : mP M L ls wi rk) (hc : ch4 M M') : mP M' L ls wi rk := by
  unfold mP
  rw [hc.2.2 19 (by omega), hc.2.1 0 301 (by omega), hc.2.1 0 302 (by omega), hc.2.1 0 303 (by omega)]
  exact h
theorem cl.k4 {M M' : g_M} {F : pf_F} {s : Nat → Nat} (h : cl M F s) (hc : ch4 M M') : cl M' F s := fun t ht => by
  rw [hc.2.1 0 298 (by omega)]
  exact h t ht
def dnI (F : pf_F) (s : Nat → Nat) (i c : Nat) : Prop := ∃ (j : Nat) (p : pf_T), j < i ∧ F.2[j]? = some p ∧ ne s p ∧ s p.2.1 = c
theorem dnI_s {F : pf_F} {s : Nat → Nat} {i c : Nat} {p : pf_T} (h : F.2[i]? = some p) : dnI F s (i + 1) c ↔ dnI F s i c ∨ (ne s p ∧ c = s p.2.1) := by
  constructor
  · rintro ⟨j, q, h1, h2, h3, h4⟩
    by_cases z : j = i
    · subst z
      rw [h] at h2
      cases h2
      exact Or.inr ⟨h3, h4.symm⟩
    · exact Or.inl ⟨j, q, by omega, h2, h3, h4⟩
  · rintro (⟨j, q, h1, h2⟩ | ⟨h1, h2⟩)
    · exact ⟨j, q, by omega, h2⟩
    · exact ⟨i, p, by omega, h, h1, h2.symm⟩
theorem GBd.cg {N : Nat → Int} {K b e : Nat} {gt : Nat → Nat} {lg : Nat → Bool} {ch : Nat → List Nat} {dn dn' : Nat → Prop} (h : GBd N K b e gt lg ch dn) (hd : ∀ c, dn c ↔ dn' c) : GBd N K b e gt lg ch dn' := by
  have : dn = dn' := funext (fun c => propext (hd c))
  rw [← this]
  exact h
section BD
variable {F : pf_F} {s : Nat → Nat} {b L : Nat} {ls : Nat → Nat} {wi rk : Nat → Int} {way : Int}
theorem CHI.cg {ch : Nat → List Nat} {i : Nat} {dn dn' : Nat → Prop} (h : CHI F s b L ls wi rk way ch i dn) (hd : ∀ c, dn c ↔ dn' c) : CHI F s b L ls wi rk way ch i dn' := by
  have : dn = dn' := funext (fun c => propext (hd c))
  rw [← this]
  exact h
theorem BG.un (hB : BG F s b) {i j : Nat} {p q : pf_T} (hij : j < i) (hp : F.2[i]? = some p) (hq : F.2[j]? = some q) (np : ne s p) (nq : ne s q) : s q.2.1 ≠ s p.2.1 := by
  obtain ⟨h1, h2⟩ := List.getElem?_eq_some_iff.mp hp
  obtain ⟨h3, h4⟩ := List.getElem?_eq_some_iff.mp hq
  have := List.pairwise_iff_getElem.mp hB.2.2 j i h3 h1 hij
  rw [h2, h4] at this
  exact this nq np
def IA (F : pf_F) (s : Nat → Nat) (b L : Nat) (ls : Nat → Nat) (wi rk : Nat → Int) (way : Int) (i c : Nat) (dn : Nat → Prop) (V : Nat → Int) (K e : Nat) (ch : Nat → List Nat) (r : Nat) : Prop :=
  GBd V K b e (gF F s) (lF F s) ch dn ∧ e < 256 ∧ (∀ n, e.testBit n = true → ∃ k, k < L ∧ ls k = n ∧ (wi k < (i : Int) ∨ wi k = (i : Int) ∧ rk k < (r : Int))) ∧ CHI F s b L ls wi rk way ch i dn ∧ (0 < r → ∀ k, k < L → wi k = (i : Int) → rk k = 0 → (∀ k', k' < L → wi k' = (i : Int) → k' = k) → ls k ∈ ch c)
theorem upl_mono {ch : Nat → List Nat} {c x n d : Nat} (h : n ∈ ch d) : n ∈ upl ch c (ch c ++ [x]) d := by
  unfold upl
  split
  · next z => rw [z] at h; exact List.mem_append_left _ h
  · exact h
theorem upl_at {ch : Nat → List Nat} {c : Nat} {l : List Nat} : upl ch c l c = l := by unfold upl; rw [if_pos rfl]
theorem upl_mem {ch : Nat → List Nat} {c x n d : Nat} (h : n ∈ upl ch c (ch c ++ [x]) d) : n ∈ ch d ∨ (n = x ∧ d = c) := by
  unfold upl at h
  split at h
  · next z =>
    rw [List.mem_append, List.mem_singleton] at h
    rw [z]
    exact h.elim Or.inl (fun w => Or.inr ⟨w, rfl⟩)
  · exact Or.inl h
theorem IA.ins {i c K e K' e' x : Nat} {dn : Nat → Prop} {V : Nat → Int} {ch : Nat → List Nat} {r r' : Nat} (h : IA F s b L ls wi rk way i c dn V K e ch r) (hc : dn c) (hl : lF F s c = true) (hx : ∀ d, dn d → x ≠ d ∧ x ∉ ch d) (h0 : x ≠ 0) (hg : x ≠ gF F s c) (hK : x < K') (hKK : K ≤ K') (hbx : b.testBit x = false) (he : x < 8 → e'.testBit x = true) (hee : sb e e') (he8 : e' < 256)
    (hp : ∀ n, e'.testBit n = true → ∃ k, k < L ∧ ls k = n ∧ (wi k < (i : Int) ∨ wi k = (i : Int) ∧ rk k < (r' : Int)))
    (hpv : x < 8 → ∃ k, k < L ∧ ls k = x ∧ ∃ (j : Nat) (p : pf_T), F.2[j]? = some p ∧ ne s p ∧ s p.2.1 = c ∧ wi k = (j : Int))
    (hz : (∀ g, g < 64 → ¬ wb way g) → x < 8)
    (hcp : 0 < r' → ∀ k, k < L → wi k = (i : Int) → rk k = 0 → (∀ k', k' < L → wi k' = (i : Int) → k' = k) → ls k ∈ ch c ∨ ls k = x) : IA F s b L ls wi rk way i c dn (up2 V (lst c (ch c)) x (gF F s c)) K' e' (upl ch c (ch c ++ [x])) r' := by
  obtain ⟨g1, g2, g3, g4, g5⟩ := h
  refine ⟨g1.ins hc hl hx h0 hg hK hKK hbx he hee, he8, hp, ⟨fun j p hj hp2 hn h1 => ?_, fun d n hd hn h8 => ?_, fun ho d n hd hn => ?_⟩, fun hr k hk hw hr0 hu => ?_⟩
  · have k := g4.1 j p hj hp2 hn h1
    exact ⟨fun k1 h2 h3 h4 h5 => upl_mono (k.1 k1 h2 h3 h4 h5), fun h2 h3 => by
      obtain ⟨n, n1, n2⟩ := k.2 h2 h3
      exact ⟨n, upl_mono n1, n2⟩⟩
  · rcases upl_mem hn with y | ⟨y, y2⟩
    · exact g4.2.1 d n hd y h8
    · rw [y2]
      rw [y] at h8 ⊢
      exact hpv h8
  · rcases upl_mem hn with y | ⟨y, y2⟩
    · exact g4.2.2 ho d n hd y
    · rw [y]; exact hz ho
  · rw [upl_at]
    rcases hcp hr k hk hw hr0 hu with y | y
    · exact List.mem_append_left _ y
    · rw [y]; exact List.mem_append_right _ List.mem_cons_self
def OI (F : pf_F) (s : Nat → Nat) (b L : Nat) (ls : Nat → Nat) (wi rk : Nat → Int) (way : Int) (i gp K e : Nat) (ch : Nat → List Nat) (N : Nat → Int) : Prop :=
  GBd N K b e (gF F s) (lF F s) ch (dnI F s i) ∧ e < 256 ∧ (∀ n, e.testBit n = true → ∃ k, k < L ∧ ls k = n ∧ wi k < (i : Int)) ∧ CHI F s b L ls wi rk way ch i (dnI F s i) ∧ K ≤ 8 + gp ∧ gp ≤ i + pop e ∧ ((∀ k, k < L → wi k < 0) → gp = rc F s i)
end BD
section RB
variable {D : Nat} {M : g_M} {f : Nat} {F : pf_F} {s : Nat → Nat} {Q : g_P} {b L : Nat} {ls : Nat → Nat} {wi rk : Nat → Int}
theorem m_130 (hD : 5 ≤ D) (hf : f < 200) (hF : mF M f F) (hw : pf_wf F) (hs : cl M F s) (hB : BG F s b) (hb : b < 256) (hP : mP M L ls wi rk) (hL : PLC F s b L ls wi rk) {way : Int}
    (h : ∀ (M' : g_M) (K : Nat) (ch : Nat → List Nat), ch4 M M' → M'.1 0 286 23 = (K : Int) → 8 ≤ K → K ≤ 64 → (∀ n, n < K → M'.1 0 304 n < (K : Int)) → GB (M'.1 0 304) K b (gF F s) (lF F s) ch → CHI F s b L ls wi rk way ch F.2.length (fun c => b.testBit c = true) → Q [] M') : g_Ev D 130 [.inr (0, 286), .inl (f : Int), .inl way] M Q := by
  obtain ⟨D, rfl⟩ := g_dep hD
  have l2 := hw.2.1
  have hL8 := hP.2.1
  have b0 : b.testBit 0 = false := by
    cases z : b.testBit 0 with
    | false => rfl
    | true =>
      obtain ⟨p, p1, p2, p3⟩ := (hB.1 0).mp z
      exact absurd p3 (hB.2.1 p p1 p2).1
  have blt : ∀ x, 8 ≤ x → b.testBit x = false := fun x hx => Nat.testBit_lt_two_pow (Nat.lt_of_lt_of_le hb (Nat.pow_le_pow_right (n := 2) (by omega) hx))
  have loopB : ∀ (n i gp K e : Nat) (ch : Nat → List Nat) (x y : Int) (M1 : g_M), i + n = F.2.length → x = (i : Int) → y = (gp : Int) → ch4 M M1 → M1.1 0 286 23 = (K : Int) → OI F s b L ls wi rk way i gp K e ch (M1.1 0 304) → g_R (D + 5) 130 Q 32 [.inr (0, 286), .inl (f : Int), .inl way, .inl y, .inl x] [] M1 := by
    intro n
    induction n with
    | zero =>
      intro i gp K e ch x y M1 hi hx hy hc hK hO
      subst hx hy
      have hF1 := hF.kx hc.chx
      have hpe := pop_255 hO.2.1
      obtain ⟨g1, g2, g3, g4, g5, g6, g7⟩ := hO
      have hd : ∀ c, dnI F s i c ↔ b.testBit c = true := fun c => by
        rw [hB.1 c]
        constructor
        · rintro ⟨j, p, _, h2, h3, h4⟩
          exact ⟨p, List.mem_of_getElem? h2, h3, h4⟩
        · rintro ⟨p, h2, h3, h4⟩
          obtain ⟨j, j1, j2⟩ := List.mem_iff_getElem.mp h2
          exact ⟨j, p, by omega, by rw [List.getElem?_eq_getElem j1, j2], h3, h4⟩
      refine rp_130_32 rfl ?_
      rw [Int.toNat_natCast, hF1.2.1]
      refine ⟨by omega, fun _ => h M1 K ch hc hK g1.2.2.2.2.2.2.2.1 (by omega) (fun n hn => g1.2.2.2.2.2.2.1 n (by omega)) (g1.fin (by omega) (fun c hc2 => (hd c).mpr hc2) b0 hb) ?_, fun q => by exfalso; omega⟩
      rw [show F.2.length = i by omega]
      exact g4.cg hd
    | succ n ih =>
      intro i gp K e ch x y M1 hi hx hy hc hK hO
      subst hx hy
      have hF1 := hF.kx hc.chx
      have hs1 := hs.k4 hc
      have hlt : i < F.2.length := by omega
      have hat := List.getElem?_eq_getElem hlt
      have hmem := List.getElem_mem hlt
      have ok := hw.2.2.2 _ hmem
      have rr := hF1.2.2.2 i _ hat
      have hin := pf_in2 hmem
      generalize hp : F.2[i] = p at ok rr hat hmem hin
      unfold pf_ok at ok
      have sx := hs1 _ hin.1
      have sy := hs1 _ hin.2
      have rcs := rc_s (s := s) hat
      refine rp_130_32 rfl ?_
      rw [Int.toNat_natCast, hF1.2.1]
      refine ⟨by omega, fun q => by exfalso; omega, fun _ => m_122 (by omega) hf hF1 hw hs1 hat (fun he => rp_130_50 rfl ⟨fun q => absurd q (by decide), fun _ => ⟨by unfold hm_in; omega, ih (i + 1) gp K e ch _ _ M1 (by omega) (by omega) rfl hc hK ?_⟩⟩) (fun he => rp_130_50 rfl ⟨fun _ => ?_, fun q => absurd rfl q⟩)⟩
      · obtain ⟨g1, g2, g3, g4, g5, g6, g7⟩ := hO
        have hd : ∀ c, dnI F s i c ↔ dnI F s (i + 1) c := fun c => by
          rw [dnI_s hat]
          exact ⟨Or.inl, fun z => z.elim id (fun w => absurd he w.1)⟩
        rw [if_neg (fun z => z.2 he.2)] at rcs
        refine ⟨g1.cg hd, g2, fun n hn => ?_, ?_, g5, by omega, fun z => by rw [rcs]; exact g7 z⟩
        · obtain ⟨k, k1, k2, k3⟩ := g3 n hn
          exact ⟨k, k1, k2, by omega⟩
        · refine ⟨fun j q hj hq hn h1 => ?_, fun c n hcd => g4.2.1 c n ((hd c).mpr hcd), fun ho c n hcd => g4.2.2 ho c n ((hd c).mpr hcd)⟩
          by_cases z : j = i
          · subst z
            rw [hat] at hq
            cases hq
            exact absurd he hn
          · exact g4.1 j q (by omega) hq hn h1
      · have hne : ne s p := he
        have hBp := hB.2.1 p hmem hne
        have hbc : b.testBit (s p.2.1) = true := (hB.1 _).mpr ⟨p, hmem, hne, rfl⟩
        have hnd : ¬ dnI F s i (s p.2.1) := by
          rintro ⟨j, q, h1, h2, h3, h4⟩
          exact hB.un h1 hat h2 hne h3 h4
        have hdc : ∀ c, (dnI F s i c ∨ c = s p.2.1) ↔ dnI F s (i + 1) c := fun c => by
          rw [dnI_s hat]
          exact ⟨fun z => z.elim Or.inl (fun w => Or.inr ⟨hne, w⟩), fun z => z.elim Or.inl (fun w => Or.inr w.2)⟩
        rw [show ((10 : Int) * (f : Int) + (i : Int)).toNat = 10 * f + i by omega, rr.1, rr.2.1, rr.2.2, Int.toNat_natCast, Int.toNat_natCast, sx.1, sy.1, Int.toNat_natCast]
        obtain ⟨g1, g2, g3, g4, g5, g6, g7⟩ := hO
        have hpe := pop_255 g2
        have hgg : gF F s (s p.2.1) = s p.2.2 := hBp.2.1
        have gnew := g1.new hbc hnd (by rw [hgg]; exact sy.2)
        have cnew : CHI F s b L ls wi rk way (upl ch (s p.2.1) []) i (fun d => dnI F s i d ∨ d = s p.2.1) := by
          have same : ∀ d, dnI F s i d → upl ch (s p.2.1) [] d = ch d := fun d hd => by unfold upl; rw [if_neg (fun z => hnd (by rw [← z]; exact hd))]
          refine ⟨fun j q hj hq hn h1 => ?_, fun c n hcd hn h8 => ?_, fun ho c n hcd hn => ?_⟩
          · have : upl ch (s p.2.1) [] (s q.2.1) = ch (s q.2.1) := same _ ⟨j, q, hj, hq, hn, rfl⟩
            rw [this]
            exact g4.1 j q hj hq hn h1
          · rcases hcd with hcd | hcd
            · rw [same c hcd] at hn; exact g4.2.1 c n hcd hn h8
            · rw [hcd, upl_at] at hn; exact absurd hn List.not_mem_nil
          · rcases hcd with hcd | hcd
            · rw [same c hcd] at hn; exact g4.2.2 ho c n hcd hn
            · rw [hcd, upl_at] at hn; exact absurd hn List.not_mem_nil
        refine ⟨by unfold hm_in; omega, by unfold hm_in; omega, by omega, by omega, by omega, fun q => ?_, fun q => ⟨by omega, by unfold hm_in; omega, ih (i + 1) gp K e (upl ch (s p.2.1) []) _ _ _ (by omega) (by omega) rfl (hc.tr ch4.row) (by rw [g_uA_at, if_neg (by omega)]; exact hK) ?_⟩⟩
        · have hp1 : p.1 = 1 := by omega
          have hlg : lF F s (s p.2.1) = true := hBp.2.2.mpr hp1
          rw [if_pos ⟨hp1, fun z => hne ⟨hp1, z⟩⟩] at rcs
          have rct : rc F s (i + 1) ≤ rc F s F.2.length := rc_mono (by omega)
          have inner : ∀ (m r gp K e : Nat) (ch : Nat → List Nat) (a : Nat) (y z w : Int) (M1 : g_M), r + m = L → y = (gp : Int) → z = (a : Int) → w = (r : Int) → ch4 M M1 → M1.1 0 286 23 = (K : Int) → a = lst (s p.2.1) (ch (s p.2.1)) → IA F s b L ls wi rk way i (s p.2.1) (fun d => dnI F s i d ∨ d = s p.2.1) (up1 (M1.1 0 304) a (s p.2.2)) K e ch r → K ≤ 8 + gp → gp ≤ i + pop e → ((∀ k, k < L → wi k < 0) → gp = rc F s i) → g_R (D + 5) 130 Q 127 [.inr (0, 286), .inl (f : Int), .inl way, .inl y, .inl (i : Int), .inl z, .inl (s p.2.2 : Int), .inl w, .inl 1] [] M1 := by
            intro m
            induction m using Nat.strongRecOn with
            | _ m ihm =>
              intro r gp K e ch a y z w M1 hr hy hz hw2 hc hK ha hI hKg hge hnp
              subst hy hz hw2
              have hpe := pop_255 hI.2.1
              have gI := hI.1
              have K8 := gI.2.2.2.2.2.2.2.1
              have hac : a = s p.2.1 ∨ a ∈ ch (s p.2.1) := by rw [ha]; exact List.mem_cons.mp lst_mem
              have ha64 : a < 64 := by
                rcases hac with v | v
                · omega
                · have := (gI.2.2.2.2.2.1 _ a (Or.inr rfl) v).2.2.1; omega
              have Kf : ∀ d, (dnI F s i d ∨ d = s p.2.1) → K ≠ d ∧ K ∉ ch d := fun d hd => by
                refine ⟨fun v => ?_, fun v => ?_⟩
                · have := (gI.1 d hd).1
                  rw [← v, blt K K8] at this
                  cases this
                · have := (gI.2.2.2.2.2.1 d K hd v).2.2.1; omega
              have anon : wb way gp → IA F s b L ls wi rk way i (s p.2.1) (fun d => dnI F s i d ∨ d = s p.2.1) (up2 (up1 (M1.1 0 304) a (s p.2.2)) a K (s p.2.2)) (K + 1) e (upl ch (s p.2.1) (ch (s p.2.1) ++ [K])) r := fun hwb => by
                have := hI.ins (x := K) (K' := K + 1) (e' := e) (r' := r) (Or.inr rfl) hlg Kf (by omega) (by rw [hgg]; omega) (by omega) (by omega) (blt K K8) (fun v => by omega) (fun _ v => v) hI.2.1 hI.2.2.1 (fun v => by omega) (fun ho => absurd hwb (ho gp (by omega))) (fun hr0 k k1 k2 k3 k4 => Or.inl (hI.2.2.2.2 hr0 k k1 k2 k3 k4))
                rw [← ha, hgg] at this
                exact this
              have fin : ∀ (gp' K' : Nat) (ch' : Nat → List Nat) (M2 : g_M), gp' = gp + 1 → ch4 M M2 → M2.1 0 286 23 = (K' : Int) → IA F s b L ls wi rk way i (s p.2.1) (fun d => dnI F s i d ∨ d = s p.2.1) (M2.1 0 304) K' e ch' r → K' ≤ 8 + gp' → (wb way gp → ∃ n ∈ ch' (s p.2.1), 8 ≤ n) → (∀ k, k < L → ¬ (wi k = (i : Int) ∧ rk k = (r : Int))) → g_R (D + 5) 130 Q 127 [.inr (0, 286), .inl (f : Int), .inl way, .inl ((gp : Int) + 1), .inl (i : Int), .inl (s p.2.2 : Int), .inl (s p.2.2 : Int), .inl ((r : Int) + 1), .inl 0] [] M2 := fun gp' K' ch' M2 e1 c2 k2 i2 b2 w2 n2 => by
                refine rp_130_127 rfl ⟨fun _ => ⟨by unfold hm_in; omega, ih (i + 1) gp' K' e ch' _ _ M2 (by omega) (by omega) (by omega) c2 k2 ⟨i2.1.cg hdc, i2.2.1, fun n hn => ?_, ⟨fun j q hj hq hn h1 => ?_, fun c n hcd => i2.2.2.2.1.2.1 c n ((hdc c).mpr hcd), fun ho c n hcd => i2.2.2.2.1.2.2 ho c n ((hdc c).mpr hcd)⟩, b2, by omega, fun hno => by rw [rcs, ← hnp hno, e1]⟩⟩, fun q => absurd rfl q⟩
                · obtain ⟨k, k1, k3, k4⟩ := i2.2.2.1 n hn
                  exact ⟨k, k1, k3, by omega⟩
                · by_cases v : j = i
                  · subst v
                    rw [hat] at hq
                    cases hq
                    refine ⟨fun k k1 k3 k4 k5 => ?_, fun hno hon => w2 (hon gp (by rw [hnp hno]; omega))⟩
                    rcases Nat.eq_zero_or_pos r with v | v
                    · exact absurd ⟨k3, by rw [k4, v]; rfl⟩ (n2 k k1)
                    · exact i2.2.2.2.2 v k k1 k3 k4 k5
                  · exact i2.2.2.2.1.1 j q (by omega) hq hn h1
              refine rp_130_127 rfl ⟨fun q => absurd q (by decide), fun _ => m_131 (by omega) (hP.k4 hc) (fun k k1 k2 k3 => rp_130_140 rfl ⟨fun _ => ?_, fun q => by exfalso; omega⟩) (fun hno => rp_130_140 rfl ⟨fun q => absurd q (by decide), fun _ => ?_⟩)⟩
              · have lk := hL.1 k k1
                have rk3 := hL.2.2.1 k k1
                have ml := hL.2.2.2 k k1 (by omega)
                rw [k2, Int.toNat_natCast, hat] at ml
                obtain ⟨p', m1, m2, m3, m4⟩ := ml
                cases m1
                have ex : e.testBit (ls k) = false := by
                  cases v : e.testBit (ls k) with
                  | false => rfl
                  | true =>
                    obtain ⟨k', q1, q2, q3⟩ := hI.2.2.1 _ v
                    have := hL.2.1 k' k q1 k1 q2
                    subst this
                    omega
                have pe := pop_add (t := e) (a := ls k) (by have := hI.2.1; omega) (by omega) ex
                have named : ∀ {V : Nat → Int} {K' : Nat} {ch' : Nat → List Nat}, IA F s b L ls wi rk way i (s p.2.1) (fun d => dnI F s i d ∨ d = s p.2.1) V K' e ch' r → 8 ≤ K' → IA F s b L ls wi rk way i (s p.2.1) (fun d => dnI F s i d ∨ d = s p.2.1) (up2 V (lst (s p.2.1) (ch' (s p.2.1))) (ls k) (s p.2.2)) K' (e ||| 2 ^ ls k) (upl ch' (s p.2.1) (ch' (s p.2.1) ++ [ls k])) (r + 1) := fun hI2 hK2 => by
                  have := hI2.ins (x := ls k) (K' := _) (e' := e ||| 2 ^ ls k) (r' := r + 1) (Or.inr rfl) hlg (fun d hd => ⟨fun v => ?_, fun v => ?_⟩) (by omega) (by rw [hgg]; exact fun v => m4 v.symm) (by omega) (Nat.le_refl _) lk.2.2 (fun _ => by rw [Nat.testBit_or, pb_bit]; simp) sb_or_l (Nat.or_lt_two_pow (n := 8) hI2.2.1 (pb_pow8 lk.2.1)) (fun n hn => ?_) (fun _ => ⟨k, k1, rfl, i, p, hat, hne, rfl, k2⟩) (fun _ => lk.2.1) (fun _ k' q1 q2 q3 q4 => ?_)
                  · rw [hgg] at this
                    exact this
                  · have := (hI2.1.1 d hd).1
                    rw [← v, lk.2.2] at this
                    cases this
                  · have := (hI2.1.2.2.2.2.2.1 d _ hd v).2.2.2.2 lk.2.1
                    rw [ex] at this
                    cases this
                  · rw [Nat.testBit_or, pb_bit, Bool.or_eq_true, decide_eq_true_eq] at hn
                    rcases hn with v | v
                    · obtain ⟨k', q1, q2, q3⟩ := hI2.2.2.1 n v
                      exact ⟨k', q1, q2, by omega⟩
                    · exact ⟨k, k1, v, Or.inr ⟨k2, by omega⟩⟩
                  · rcases Nat.eq_zero_or_pos r with v | v
                    · exact Or.inr (by rw [q4 k k1 k2])
                    · exact Or.inl (hI2.2.2.2.2 v k' q1 q2 q3 q4)
                refine ⟨fun q => ⟨by unfold hm_in; omega, by omega, by unfold hm_in; omega, ?_⟩, fun q => ?_⟩
                · refine ihm (m - 1) (by omega) (r + 1) (gp + 1) K (e ||| 2 ^ ls k) (upl ch (s p.2.1) (ch (s p.2.1) ++ [ls k])) (ls k) _ _ _ _ (by omega) (by omega) rfl (by omega) (hc.tr ch4.row) (by rw [g_uA_at, if_neg (by omega)]; exact hK) (by rw [upl_at, lst_snoc]) ?_ (by omega) (by omega) (fun hno => absurd (hno k k1) (by omega))
                  have := named hI K8
                  rw [← ha] at this
                  rw [show up1 ((g_uA M1 (0, 304) (a : Int).toNat (ls k : Int)).1 0 304) (ls k) (s p.2.2) = up2 (up1 (M1.1 0 304) a (s p.2.2)) a (ls k) (s p.2.2) by
                    funext n
                    unfold up1 up2
                    rw [g_uA_at, Int.toNat_natCast]
                    by_cases v : n = ls k
                    · rw [if_pos v, if_pos v]
                    · rw [if_neg v, if_neg v]
                      by_cases u : n = a
                      · rw [if_pos ⟨rfl, rfl, u⟩, if_pos u]
                      · rw [if_neg (fun y => u y.2.2), if_neg u]; exact (if_neg u).symm]
                  exact this
                · rw [hK]
                  refine ⟨by omega, by unfold hm_in; omega, by unfold hm_in; omega, by omega, by unfold hm_in; omega, ?_⟩
                  refine ihm (m - 1) (by omega) (r + 1) (gp + 1) (K + 1) (e ||| 2 ^ ls k) (upl (upl ch (s p.2.1) (ch (s p.2.1) ++ [K])) (s p.2.1) (upl ch (s p.2.1) (ch (s p.2.1) ++ [K]) (s p.2.1) ++ [ls k])) (ls k) _ _ _ _ (by omega) (by omega) rfl (by omega) (((hc.tr ch4.row).tr ch4.fld).tr ch4.row) (by rw [g_uA_at, if_neg (by omega), g_uA_at, if_pos ⟨rfl, rfl, rfl⟩]; omega) (by rw [upl_at, lst_snoc]) ?_ (by omega) (by omega) (fun hno => absurd (hno k k1) (by omega))
                  have := named (anon q) (by omega)
                  rw [upl_at, lst_snoc] at this
                  rw [upl_at]
                  rw [show up1 ((g_uA (g_uA (g_uA M1 (0, 304) (a : Int).toNat (K : Int)) (0, 286) 23 ((K : Int) + 1)) (0, 304) (K : Int).toNat (ls k : Int)).1 0 304) (ls k) (s p.2.2) = up2 (up2 (up1 (M1.1 0 304) a (s p.2.2)) a K (s p.2.2)) K (ls k) (s p.2.2) by
                    funext n
                    unfold up1 up2
                    rw [g_uA_at, g_uA_at, if_neg (fun (y : 0 = 0 ∧ 304 = 286 ∧ n = 23) => absurd y.2.1 (by decide)), g_uA_at, Int.toNat_natCast, Int.toNat_natCast]
                    by_cases v : n = ls k
                    · rw [if_pos v, if_pos v]
                    · rw [if_neg v, if_neg v]
                      by_cases u : n = K
                      · rw [if_pos ⟨rfl, rfl, u⟩, if_pos u]
                      · rw [if_neg (fun y => u y.2.2), if_neg u, if_neg u]
                        by_cases t : n = a
                        · rw [if_pos ⟨rfl, rfl, t⟩, if_pos t]
                        · rw [if_neg (fun y => t y.2.2), if_neg t]; exact (if_neg t).symm]
                  exact this
              · refine ⟨fun q => ⟨by unfold hm_in; omega, by omega, by unfold hm_in; omega, ?_⟩, fun q => ?_⟩
                · refine fin (gp + 1) K ch _ rfl (hc.tr ch4.row) (by rw [g_uA_at, if_neg (by omega)]; exact hK) ?_ (by omega) (fun hwb => absurd hwb q) hno
                  rw [show (g_uA M1 (0, 304) (a : Int).toNat (s p.2.2 : Int)).1 0 304 = up1 (M1.1 0 304) a (s p.2.2) by
                    funext n
                    unfold up1
                    rw [g_uA_at, Int.toNat_natCast]
                    by_cases u : n = a
                    · rw [if_pos ⟨rfl, rfl, u⟩, if_pos u]
                    · rw [if_neg (fun y => u y.2.2), if_neg u]]
                  exact hI
                · rw [hK]
                  refine ⟨by omega, by unfold hm_in; omega, by unfold hm_in; omega, by omega, by unfold hm_in; omega, ?_⟩
                  refine fin (gp + 1) (K + 1) (upl ch (s p.2.1) (ch (s p.2.1) ++ [K])) _ rfl (((hc.tr ch4.row).tr ch4.fld).tr ch4.row) (by rw [g_uA_at, if_neg (by omega), g_uA_at, if_pos ⟨rfl, rfl, rfl⟩]; omega) ?_ (by omega) (fun _ => ⟨K, by rw [upl_at]; exact List.mem_append_right _ List.mem_cons_self, K8⟩) hno
                  rw [show (g_uA (g_uA (g_uA M1 (0, 304) (a : Int).toNat (K : Int)) (0, 286) 23 ((K : Int) + 1)) (0, 304) (K : Int).toNat (s p.2.2 : Int)).1 0 304 = up2 (up1 (M1.1 0 304) a (s p.2.2)) a K (s p.2.2) by
                    funext n
                    unfold up1 up2
                    rw [g_uA_at, g_uA_at, if_neg (fun (y : 0 = 0 ∧ 304 = 286 ∧ n = 23) => absurd y.2.1 (by decide)), g_uA_at, Int.toNat_natCast, Int.toNat_natCast]
                    by_cases u : n = K
                    · rw [if_pos ⟨rfl, rfl, u⟩, if_pos u]
                    · rw [if_neg (fun y => u y.2.2), if_neg u]
                      by_cases t : n = a
                      · rw [if_pos ⟨rfl, rfl, t⟩, if_pos t]
                      · rw [if_neg (fun y => t y.2.2), if_neg t]; exact (if_neg t).symm]
                  exact anon q
          exact inner L 0 gp K e (upl ch (s p.2.1) []) (s p.2.1) _ _ _ M1 (by omega) rfl rfl rfl hc hK (by rw [upl_at]; rfl) ⟨by rw [← hgg]; exact gnew, g2, fun n hn => (by obtain ⟨k, k1, k2, k3⟩ := g3 n hn; exact ⟨k, k1, k2, Or.inl k3⟩), cnew, fun v => absurd v (by omega)⟩ g5 g6 g7
        · rw [if_neg (fun z => by omega)] at rcs
          rw [show (g_uA M1 (0, 304) (s p.2.1) (s p.2.2 : Int)).1 0 304 = up1 (M1.1 0 304) (s p.2.1) (gF F s (s p.2.1)) by
            funext n
            unfold up1
            rw [g_uA_at, hgg]
            by_cases u : n = s p.2.1
            · rw [if_pos ⟨rfl, rfl, u⟩, if_pos u]
            · rw [if_neg (fun y => u y.2.2), if_neg u]]
          refine ⟨gnew.cg hdc, g2, fun n hn => ?_, ⟨fun j q2 hj hq hn h1 => ?_, fun c n hcd => cnew.2.1 c n ((hdc c).mpr hcd), fun ho c n hcd => cnew.2.2 ho c n ((hdc c).mpr hcd)⟩, g5, by omega, fun hno => by rw [rcs]; exact g7 hno⟩
          · obtain ⟨k, k1, k3, k4⟩ := g3 n hn
            exact ⟨k, k1, k3, by omega⟩
          · by_cases v : j = i
            · subst v
              rw [hat] at hq
              cases hq
              omega
            · exact cnew.1 j q2 (by omega) hq hn h1
  have loopA : ∀ (n c : Nat) (x : Int) (M1 : g_M), c + n = 64 → x = (c : Int) → ch4 M M1 → M1.1 0 286 23 = 8 → (∀ d, d < c → M1.1 0 304 d = -1) → g_R (D + 5) 130 Q 8 [.inr (0, 286), .inl (f : Int), .inl way, .inl x] [] M1 := by
    intro n
    induction n with
    | zero =>
      intro c x M1 hc hx hc4 hK hd
      subst hx
      refine rp_130_8 rfl ⟨fun _ => loopB F.2.length 0 0 8 0 (fun _ => []) 0 0 M1 (by omega) rfl rfl hc4 hK ⟨⟨fun c hc => ?_, fun n hn => ?_, fun c hc => ?_, fun c d n hc => ?_, fun c hc => ?_, fun c n hc => ?_, fun n hn => ?_, by omega, fun c hc => ?_⟩, by omega, fun n hn => ?_, ⟨fun j q hj => by omega, fun c n hc => ?_, fun _ c n hc => ?_⟩, by omega, by omega, fun _ => rfl⟩, fun q => by exfalso; omega⟩
      · obtain ⟨j, q, h1, _⟩ := hc; omega
      · rw [hd n (by omega)]
        refine ⟨fun z => absurd z (by decide), ?_⟩
        rintro ⟨c, ⟨j, q, h1, _⟩, _⟩
        omega
      · obtain ⟨j, q, h1, _⟩ := hc; omega
      · obtain ⟨j, q, h1, _⟩ := hc; omega
      · obtain ⟨j, q, h1, _⟩ := hc; omega
      · obtain ⟨j, q, h1, _⟩ := hc; omega
      · rw [hd n (by omega)]; decide
      · obtain ⟨j, q, h1, _⟩ := hc; omega
      · rw [Nat.zero_testBit] at hn; cases hn
      · obtain ⟨j, q, h1, _⟩ := hc; omega
      · obtain ⟨j, q, h1, _⟩ := hc; omega
    | succ n ih =>
      intro c x M1 hc hx hc4 hK hd
      subst hx
      refine rp_130_8 rfl ⟨fun q => by exfalso; omega, fun _ => ⟨by omega, by unfold hm_in; omega, ih (c + 1) _ _ (by omega) (by omega) (hc4.tr ch4.row) (by rw [g_uA_at, if_neg (by omega)]; exact hK) (fun d hd2 => ?_)⟩⟩
      rw [g_uA_at, Int.toNat_natCast]
      by_cases z : d = c
      · simp [z]
      · simp [z, hd d (by omega)]
  exact g_enter hk_130 hn_130 (rp_130_0 rfl (loopA 64 0 0 _ (by omega) rfl ch4.fld (by rw [g_uA_at, if_pos ⟨rfl, rfl, rfl⟩]) (fun d hd => by omega)))
end RB

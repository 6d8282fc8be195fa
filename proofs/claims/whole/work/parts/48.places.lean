/-! says: where the loose classes may lie -/
def chy (M M' : g_M) : Prop := M'.2 = M.2 ∧ (∀ t n, ¬ (t = 0 ∧ (n = 286 ∨ 301 ≤ n ∧ n ≤ 305)) → M'.1 t n = M.1 t n) ∧ ∀ k, k ≠ 19 → k ≠ 23 → M'.1 0 286 k = M.1 0 286 k
theorem chy.rf {M : g_M} : chy M M := ⟨rfl, fun _ _ _ => rfl, fun _ _ _ => rfl⟩
theorem chy.tr {M M' M'' : g_M} (h : chy M M') (h' : chy M' M'') : chy M M'' := ⟨h'.1.trans h.1, fun t n hn => (h'.2.1 t n hn).trans (h.2.1 t n hn), fun k a b => (h'.2.2 k a b).trans (h.2.2 k a b)⟩
theorem chy.row {M : g_M} {n k : Nat} {v : Int} (hn : 301 ≤ n ∧ n ≤ 305) : chy M (g_uA M (0, n) k v) := by
  refine ⟨rfl, fun t m hm => ?_, fun j _ _ => ?_⟩
  · funext a
    rw [g_uA_at, if_neg]
    rintro ⟨rfl, rfl, -⟩
    exact hm ⟨rfl, Or.inr hn⟩
  · rw [g_uA_at, if_neg (by omega)]
theorem chy.fld {M : g_M} {v : Int} : chy M (g_uA M (0, 286) 19 v) := by
  refine ⟨rfl, fun t m hm => ?_, fun j _ _ => ?_⟩
  · funext a
    rw [g_uA_at, if_neg]
    rintro ⟨rfl, rfl, -⟩
    exact hm ⟨rfl, Or.inl rfl⟩
  · rw [g_uA_at, if_neg (by omega)]
theorem chy.chx {M M' : g_M} (h : chy M M') : chx M M' := ⟨h.1, fun t n hn => h.2.1 t n (by omega), fun k _ _ h3 h4 => h.2.2 k h3 h4⟩
theorem ch4.chy {M M' : g_M} (h : ch4 M M') : chy M M' := ⟨h.1, fun t n hn => h.2.1 t n (by omega), fun k _ h4 => h.2.2 k h4⟩
theorem ch5.chy {M M' : g_M} (h : ch5 M M') : chy M M' := ⟨h.1, fun t n hn => h.2 t n (by omega), fun k _ _ => by rw [h.2 0 286 (by omega)]⟩
theorem mU.ky {M M' : g_M} {T : Nat} (h : mU M T) (hc : chy M M') : mU M' T := by
  unfold mU
  rw [hc.2.2 15 (by omega) (by omega), hc.2.1 0 299 (by omega)]
  exact h
theorem mS.ky {M M' : g_M} {T : Nat} {s : Nat → Nat} (h : mS M T s) (hc : chy M M') : mS M' T s := by
  unfold mS
  rw [hc.2.1 0 298 (by omega)]
  exact h
theorem cl.ky {M M' : g_M} {F : pf_F} {s : Nat → Nat} (h : cl M F s) (hc : chy M M') : cl M' F s := fun t ht => by
  rw [hc.2.1 0 298 (by omega)]
  exact h t ht
theorem mP.k5 {M M' : g_M} {L : Nat} {ls : Nat → Nat} {wi rk : Nat → Int} (h : mP M L ls wi rk) (hc : ch5 M M') : mP M' L ls wi rk := by
  unfold mP
  rw [hc.2 0 286 (by omega), hc.2 0 301 (by omega), hc.2 0 302 (by omega), hc.2 0 303 (by omega)]
  exact h
theorem wb_0_ck : (List.range 64).all (fun g => decide (¬ hm_and (hm_shr 0 (g : Int)) 1 = 1)) = true := by decide +kernel
theorem wb_0 {g : Nat} (h : g < 64) : ¬ wb 0 g := by
  have := List.all_eq_true.mp wb_0_ck g (List.mem_range.mpr h)
  rw [decide_eq_true_eq] at this
  exact this
theorem wb_1_ck : (List.range 20).all (fun m => (List.range m).all (fun g => decide (hm_and (hm_shr ((2 ^ m - 1 : Nat) : Int) (g : Int)) 1 = 1))) = true := by decide +kernel
theorem wb_1 {m g : Nat} (hm : m < 20) (h : g < m) : wb ((2 ^ m - 1 : Nat) : Int) g := by
  have := List.all_eq_true.mp (List.all_eq_true.mp wb_1_ck m (List.mem_range.mpr hm)) g (List.mem_range.mpr h)
  rw [decide_eq_true_eq] at this
  exact this
theorem pb_shl20_ck : (List.range 20).all (fun i => decide (hm_shl 1 (i : Int) = ((2 ^ i : Nat) : Int))) = true := by decide +kernel
theorem pb_shl20 {i : Nat} (h : i < 20) : hm_shl 1 (i : Int) = ((2 ^ i : Nat) : Int) := by
  have := List.all_eq_true.mp pb_shl20_ck i (List.mem_range.mpr h)
  rw [decide_eq_true_eq] at this
  exact this
theorem rc_le {F : pf_F} {s : Nat → Nat} : ∀ {i : Nat}, rc F s i ≤ i := by
  intro i
  induction i with
  | zero => exact Nat.le_refl _
  | succ i ih =>
    show rc F s i + (match F.2[i]? with
      | some p => if p.1 = 1 ∧ ¬ s p.2.1 = s p.2.2 then 1 else 0
      | none => 0) ≤ _
    cases F.2[i]? with
    | none => exact Nat.le_succ_of_le ih
    | some p =>
      show rc F s i + (if p.1 = 1 ∧ ¬ s p.2.1 = s p.2.2 then 1 else 0) ≤ _
      split <;> omega
/-- nothing placed, and not covered -/
def mB (F G : pf_F) (s : Nat → Nat) (b L : Nat) (wi : Nat → Int) : Prop := (∀ k, k < L → wi k < 0) ∧ (PH s G → cvl (gF F s) (lF F s) 255 s G.2 (some b) ≠ some 0)
/-- one name placed in a row -/
def mC (F G : pf_F) (s : Nat → Nat) (b L : Nat) (ls : Nat → Nat) (wi rk : Nat → Int) : Prop := ∃ (k1 j1 : Nat) (p1 : pf_T), k1 < L ∧ F.2[j1]? = some p1 ∧ ne s p1 ∧ p1.1 = 1 ∧ wi k1 = (j1 : Int) ∧ rk k1 = 0 ∧ (∀ k, k < L → k ≠ k1 → wi k < 0) ∧ ∀ N K, G1 N K b (gF F s) (s p1.2.1) (ls k1) → SM N K s G false
theorem one_mem {z : Nat} : ∀ {l : List Nat}, l.Nodup → (∀ n ∈ l, n = z) → z ∈ l → l = [z] := by
  intro l
  cases l with
  | nil => intro _ _ h; exact absurd h List.not_mem_nil
  | cons x l =>
    intro hn h1 _
    have hx := h1 x List.mem_cons_self
    cases l with
    | nil => rw [hx]
    | cons y l =>
      have hy := h1 y (List.mem_cons_of_mem _ List.mem_cons_self)
      have := (List.nodup_cons.mp hn).1
      rw [hx, hy] at this
      exact absurd List.mem_cons_self this
section RB
variable {D : Nat} {M : g_M} {f g : Nat} {F G : pf_F} {s : Nat → Nat} {Q : g_P} {b L : Nat} {ls : Nat → Nat} {wi rk : Nat → Int}
theorem m_129 (hD : 8 ≤ D) (hf : f < 200) (hF : mF M f F) (hw : pf_wf F) (hs : cl M F s) (hg : g < 200) (hG : mF M g G) (hwG : pf_wf G) (hsG : cl M G s) (hB : BG F s b) (hb : b < 256) (hP : mP M L ls wi rk) (hL : PLC F s b L ls wi rk)
    (h1 : (¬ CV (gF F s) (lF F s) b s G → ¬ mB F G s b L wi ∧ ¬ mC F G s b L ls wi rk) → ∀ M', chy M M' → mP M' L ls wi rk → Q [.inl 1] M') (h0 : ¬ CV (gF F s) (lF F s) b s G → ∀ M', chy M M' → Q [.inl 0] M') : g_Ev D 129 [.inr (0, 286), .inl (f : Int), .inl (g : Int)] M Q := by
  obtain ⟨D, rfl⟩ := g_dep hD
  have l2 := hw.2.1
  have hL8 := hP.2.1
  have sG8 : ∀ p ∈ G.2, s p.2.1 < 8 ∧ s p.2.2 < 8 := fun p hp => ⟨(hsG _ (pf_in2 hp).1).2, (hsG _ (pf_in2 hp).2).2⟩
  have loop3 : ∀ (gaps : Nat), gaps < 20 → ((∀ k, k < L → wi k < 0) → gaps = rc F s F.2.length) → ∀ (n w : Nat) (x : Int) (M1 : g_M), w + n = 2 ^ gaps → x = (w : Int) → chy M M1 → mP M1 L ls wi rk → (¬ CV (gF F s) (lF F s) b s G → (0 < w → ¬ mC F G s b L ls wi rk) ∧ (w = 2 ^ gaps → ¬ mB F G s b L wi)) → g_R (D + 8) 129 Q 90 [.inr (0, 286), .inl (f : Int), .inl (g : Int), .inl (gaps : Int), .inl x] [] M1 := by
    intro gaps hg20 hgr n
    have h2g : 2 ^ gaps < 2 ^ 20 := Nat.pow_lt_pow_right (by omega) hg20
    have h2p : 0 < 2 ^ gaps := Nat.pow_pos (by omega)
    induction n with
    | zero =>
      intro w x M1 hw2 hx hc hP1 hm
      subst hx
      refine rp_129_90 rfl ?_
      rw [pb_shl20 hg20]
      exact ⟨fun _ => h1 (fun z => ⟨(hm z).2 (by omega), (hm z).1 (by omega)⟩) M1 hc hP1, fun q => by exfalso; omega⟩
    | succ n ih =>
      intro w x M1 hw2 hx hc hP1 hm
      subst hx
      refine rp_129_90 rfl ?_
      rw [pb_shl20 hg20]
      refine ⟨fun q => by exfalso; omega, fun _ => m_130 (by omega) hf (hF.kx hc.chx) hw (hs.ky hc) hB hb hP1 hL (fun M2 K ch c4 k1 k2 k3 k4 k5 k6 => rp_129_105 rfl ?_)⟩
      have hcy : chy M M2 := hc.tr c4.chy
      have hmid : ∃ r, SM (M2.1 0 304) K s G r ∧ (r = false → ¬ CV (gF F s) (lF F s) b s G) ∧ (r = true → ¬ CV (gF F s) (lF F s) b s G → (w = 0 → ¬ mC F G s b L ls wi rk) ∧ (w + 1 = 2 ^ gaps → ¬ mB F G s b L wi)) := by
        by_cases hcv : CV (gF F s) (lF F s) b s G
        · exact ⟨true, k5.smA hwG hcv, fun z => (by cases z), fun _ z => absurd hcv z⟩
        · by_cases c1 : w = 0 ∧ mC F G s b L ls wi rk
          · refine ⟨false, ?_, fun _ => hcv, fun z => (by cases z)⟩
            obtain ⟨rfl, k1', j1, p1, a1, a2, a3, a4, a5, a6, a7, a8⟩ := c1
            refine a8 _ _ ?_
            have hbc : b.testBit (s p1.2.1) = true := (hB.1 _).mpr ⟨p1, List.mem_of_getElem? a2, a3, rfl⟩
            have hoff := k6.2.2 (fun g hg => wb_0 hg)
            have only : ∀ c n, b.testBit c = true → n ∈ ch c → n = ls k1' ∧ c = s p1.2.1 := fun c n hc2 hn => by
              obtain ⟨k, q1, q2, j, q, q3, q4, q5, q6⟩ := k6.2.1 c n hc2 hn (hoff c n hc2 hn)
              have hk : k = k1' := Classical.byContradiction (fun z => by have := a7 k q1 z; omega)
              subst hk
              have hj : j = j1 := by omega
              subst hj
              rw [a2] at q3
              cases q3
              exact ⟨q2.symm, q5.symm⟩
            have hone : ch (s p1.2.1) = [ls k1'] := one_mem (k5.2.2.1 _ hbc) (fun n hn => (only _ n hbc hn).1) ((k6.1 j1 p1 (List.getElem?_eq_some_iff.mp a2).1 a2 a3 a4).1 k1' a1 a5 a6 (fun k' q1 q2 => Classical.byContradiction (fun z => by have := a7 k' q1 z; omega)))
            have hlk := k5.1 _ hbc
            rw [hone] at hlk
            refine ⟨fun c hc2 hne => ?_, hlk.1, ?_, by have := (hL.1 k1' a1).2.1; omega⟩
            · have hlk2 := k5.1 c hc2
              have hnil : ch c = [] := List.eq_nil_iff_forall_not_mem.mpr (fun n hn => hne (only c n hc2 hn).2)
              rw [hnil] at hlk2
              exact hlk2
            · have : (M2.1 0 304) (ls k1') = (gF F s (s p1.2.1) : Int) := hlk.2
              omega
          · by_cases c2 : w + 1 = 2 ^ gaps ∧ mB F G s b L wi
            · refine ⟨false, ?_, fun _ => hcv, fun z => (by cases z)⟩
              have hgr2 := hgr c2.2.1
              have hww : (w : Int) = ((2 ^ gaps - 1 : Nat) : Int) := by omega
              refine k5.smB hb (fun c n hc2 hn => ?_) (fun c hc2 hl hnil => ?_) hwG sG8 c2.2.2
              · rcases Nat.lt_or_ge n 8 with z | z
                · obtain ⟨k, q1, q2, j, q, q3, q4, q5, q6⟩ := k6.2.1 c n hc2 hn z
                  have := c2.2.1 k q1
                  omega
                · exact z
              · obtain ⟨p, p1, p2, p3⟩ := (hB.1 c).mp hc2
                obtain ⟨j, j1, j2⟩ := List.mem_iff_getElem.mp p1
                have hp1 : p.1 = 1 := (hB.2.1 p p1 p2).2.2.mp (by rw [p3]; exact hl)
                obtain ⟨n, n1, n2⟩ := (k6.1 j p j1 (by rw [List.getElem?_eq_getElem j1, j2]) p2 hp1).2 c2.2.1 (fun g2 hg2 => by rw [hww]; exact wb_1 hg20 (by omega))
                rw [p3, hnil] at n1
                exact absurd n1 List.not_mem_nil
            · obtain ⟨r, hr⟩ := SM_tot (s := s) (G := G) k4 (fun p hp => by have := sG8 p hp; omega)
              exact ⟨r, hr, fun _ => hcv, fun _ _ => ⟨fun z y => c1 ⟨z, y⟩, fun z y => c2 ⟨z, y⟩⟩⟩
      obtain ⟨r, r1, r2, r3⟩ := hmid
      refine m_132 (by omega) hg (hG.kx hcy.chx) hwG (hsG.ky hcy) k1 k2 k3 k4 r1 (fun M3 c5 => rp_129_110 rfl ⟨fun q => ⟨by unfold hm_in; omega, ih (w + 1) _ M3 (by omega) (by omega) (hcy.tr c5.chy) ((hP1.k4 c4).k5 c5) (fun hcv => ?_)⟩, fun q => h0 (r2 (bi_0.mp q)) M3 (hcy.tr c5.chy)⟩)
      have hrt : r = true := by
        cases v : r with
        | true => rfl
        | false => rw [v] at q; exact absurd rfl q
      have := r3 hrt hcv
      refine ⟨fun _ => ?_, this.2⟩
      rcases Nat.eq_zero_or_pos w with z | z
      · exact this.1 z
      · exact (hm hcv).1 z
  have loop2 : ∀ (n k a : Nat) (x y : Int), k + n = L → x = (k : Int) → y = (a : Int) → a ≤ rc F s F.2.length + k → ((∀ j, j < k → wi j < 0) → a = rc F s F.2.length) → g_R (D + 8) 129 Q 54 [.inr (0, 286), .inl (f : Int), .inl (g : Int), .inl y, .inl x] [] M := by
    intro n
    have hrl := @rc_le F s F.2.length
    induction n with
    | zero =>
      intro k a x y hk hx hy ha hn
      subst hx hy
      obtain rfl : k = L := by omega
      refine rp_129_54 rfl ?_
      rw [hP.1]
      have h2p : 0 < 2 ^ a := Nat.pow_pos (by omega)
      refine ⟨fun _ => loop3 a (by omega) hn (2 ^ a) 0 0 M (by omega) rfl chy.rf hP (fun _ => ⟨fun z => by omega, fun z => by omega⟩), fun q => by exfalso; omega⟩
    | succ n ih =>
      intro k a x y hk hx hy ha hn
      subst hx hy
      have hk3 := hP.2.2 k (by omega)
      refine rp_129_54 rfl ?_
      rw [hP.1, Int.toNat_natCast, hk3.2.1]
      refine ⟨fun q => by exfalso; omega, fun _ => ⟨by omega, fun q => ⟨by unfold hm_in; omega, by unfold hm_in; omega, ih (k + 1) a _ _ (by omega) (by omega) (by omega) (by omega) (fun z => hn (fun j hj => z j (by omega)))⟩, fun q => ⟨by unfold hm_in; omega, by unfold hm_in; omega, ih (k + 1) (a + 1) _ _ (by omega) (by omega) (by omega) (by omega) (fun z => absurd (z k (by omega)) (by omega))⟩⟩⟩
  have loop1 : ∀ (n i : Nat) (x y : Int), i + n = F.2.length → x = (i : Int) → y = (rc F s i : Int) → g_R (D + 8) 129 Q 5 [.inr (0, 286), .inl (f : Int), .inl (g : Int), .inl y, .inl x] [] M := by
    intro n
    induction n with
    | zero =>
      intro i x y hi hx hy
      subst hx hy
      refine rp_129_5 rfl ?_
      rw [Int.toNat_natCast, hF.2.1]
      refine ⟨by omega, fun _ => loop2 L 0 (rc F s i) 0 _ (by omega) rfl rfl (by rw [show F.2.length = i by omega]; omega) (fun _ => by rw [show F.2.length = i by omega]), fun q => by exfalso; omega⟩
    | succ n ih =>
      intro i x y hi hx hy
      subst hx hy
      have hlt : i < F.2.length := by omega
      have hat := List.getElem?_eq_getElem hlt
      have ok := hw.2.2.2 _ (List.getElem_mem hlt)
      have rr := hF.2.2.2 i _ hat
      generalize hp : F.2[i] = p at ok rr hat
      unfold pf_ok at ok
      have rcs := rc_s (s := s) hat
      have hri := @rc_le F s i
      refine rp_129_5 rfl ?_
      rw [Int.toNat_natCast, hF.2.1, show ((10 : Int) * (f : Int) + (i : Int)).toNat = 10 * f + i by omega, rr.1]
      refine ⟨by omega, fun q => by exfalso; omega, fun _ => ⟨by unfold hm_in; omega, by unfold hm_in; omega, by omega, fun q => ⟨by unfold hm_in; omega, ih (i + 1) _ _ (by omega) (by omega) ?_⟩, fun q => m_122 (by omega) hf hF hw hs hat (fun he => rp_129_39 rfl ⟨fun _ => ⟨by unfold hm_in; omega, ih (i + 1) _ _ (by omega) (by omega) ?_⟩, fun q => absurd q (by decide)⟩) (fun he => rp_129_39 rfl ⟨fun q => absurd rfl q, fun _ => ⟨by unfold hm_in; omega, by unfold hm_in; omega, ih (i + 1) _ _ (by omega) (by omega) ?_⟩⟩)⟩⟩
      · rw [rcs, if_neg (fun z => by omega)]; rfl
      · rw [rcs, if_neg (fun z => z.2 he.2)]; rfl
      · rw [rcs, if_pos ⟨by omega, fun z => he ⟨by omega, z⟩⟩]; omega
  exact g_enter hk_129 hn_129 (rp_129_0 rfl (loop1 F.2.length 0 0 0 (by omega) rfl rfl))
end RB

/-! says: the memories that the reference builds -/
/-- only the marks have changed -/
def ch5 (M M' : g_M) : Prop := M'.2 = M.2 ∧ ∀ t n, ¬ (t = 0 ∧ n = 305) → M'.1 t n = M.1 t n
theorem ch5.rf {M : g_M} : ch5 M M := ⟨rfl, fun _ _ _ => rfl⟩
theorem ch5.tr {M M' M'' : g_M} (h : ch5 M M') (h' : ch5 M' M'') : ch5 M M'' := ⟨h'.1.trans h.1, fun t n hn => (h'.2 t n hn).trans (h.2 t n hn)⟩
theorem ch5.uA {M : g_M} {k : Nat} {v : Int} : ch5 M (g_uA M (0, 305) k v) := by
  refine ⟨rfl, fun t m hm => ?_⟩
  funext a
  rw [g_uA_at, if_neg]
  rintro ⟨rfl, rfl, -⟩
  exact hm ⟨rfl, rfl⟩
theorem ch5.chx {M M' : g_M} (h : ch5 M M') : chx M M' := ⟨h.1, fun t n hn => h.2 t n (by omega), fun k _ _ _ _ => by rw [h.2 0 286 (by omega)]⟩
def bi (b : Bool) : Int := if b = true then 1 else 0
def mT (M : g_M) (K : Nat) (tk : Nat → Bool) : Prop := ∀ n, n < K → M.1 0 305 n = bi (tk n)
theorem bi_0 {b : Bool} : bi b = 0 ↔ b = false := by cases b <;> simp [bi]
section RB
variable {D : Nat} {M : g_M} {f g : Nat} {F G : pf_F} {s : Nat → Nat} {Q : g_P}
theorem m_132 (hD : 5 ≤ D) (hg : g < 200) (hG : mF M g G) (hw : pf_wf G) (hs : cl M G s) {K : Nat} (hK : M.1 0 286 23 = (K : Int)) (hK8 : 8 ≤ K) (hK64 : K ≤ 64) (hN : ∀ n, n < K → M.1 0 304 n < (K : Int)) {r : Bool} (hr : SM (M.1 0 304) K s G r)
    (h : ∀ M', ch5 M M' → Q [.inl (bi r)] M') : g_Ev D 132 [.inr (0, 286), .inl (g : Int)] M Q := by
  obtain ⟨D, rfl⟩ := g_dep hD
  have l2 := hw.2.1
  refine g_enter hk_132 hn_132 (rp_132_0 rfl (m_121 (by omega) hg hG hw hs (fun hP => rp_132_5 rfl ⟨fun _ => ?_, fun q => absurd q (by decide)⟩) (fun hP => rp_132_5 rfl ⟨fun q => absurd rfl q, fun _ => ?_⟩)))
  · have hr2 : (PL (M.1 0 304) s G.2 (fun _ => false) none ∧ r = false) ∨ ∃ tk, PL (M.1 0 304) s G.2 (fun _ => false) (some tk) ∧ (r = true ↔ ∀ c, c < K → 0 ≤ M.1 0 304 c → tk c = true) := by
      rcases hr with ⟨z, _⟩ | ⟨_, z⟩
      · exact absurd hP z
      · exact z
    have clk : ∀ M1, ch5 M M1 → cl M1 G s := fun M1 hc t ht => by rw [hc.2 0 298 (by omega)]; exact hs t ht
    have loop3 : ∀ (tk : Nat → Bool), (r = true ↔ ∀ c, c < K → 0 ≤ M.1 0 304 c → tk c = true) → ∀ (n c : Nat) (x : Int) (M1 : g_M), c + n = K → x = (c : Int) → ch5 M M1 → mT M1 K tk → (∀ d, d < c → 0 ≤ M.1 0 304 d → tk d = true) → g_R (D + 5) 132 Q 198 [.inr (0, 286), .inl (g : Int), .inl x] [] M1 := by
      intro tk htk n
      induction n with
      | zero =>
        intro c x M1 hc hx h5 hT hd
        subst hx
        refine rp_132_198 rfl ?_
        rw [h5.2 0 286 (by omega), hK]
        refine ⟨fun _ => ?_, fun q => by exfalso; omega⟩
        have := h M1 h5
        rw [htk.mpr (fun d h1 h2 => hd d (by omega) h2)] at this
        exact this
      | succ n ih =>
        intro c x M1 hc hx h5 hT hd
        subst hx
        have ht := hT c (by omega)
        refine rp_132_198 rfl ?_
        rw [h5.2 0 286 (by omega), hK, h5.2 0 304 (by omega), Int.toNat_natCast, ht]
        refine ⟨fun q => by exfalso; omega, fun _ => ⟨by omega, fun q => ⟨by unfold hm_in; omega, ih (c + 1) _ M1 (by omega) (by omega) h5 hT (fun d h1 h2 => ?_)⟩, fun q => ⟨fun q2 => ⟨by unfold hm_in; omega, ih (c + 1) _ M1 (by omega) (by omega) h5 hT (fun d h1 h2 => ?_)⟩, fun q2 => ?_⟩⟩⟩
        · by_cases z : d = c
          · rw [z] at h2; omega
          · exact hd d (by omega) h2
        · by_cases z : d = c
          · rw [z]
            cases w : tk c with
            | true => rfl
            | false => rw [w] at q2; exact absurd rfl q2
          · exact hd d (by omega) h2
        · have := h M1 h5
          have hrf : r = false := by
            cases w : r with
            | false => rfl
            | true => have := htk.mp w c (by omega) q; rw [bi_0.mp q2] at this; cases this
          rw [hrf] at this
          exact this
    have walk : ∀ (to : Nat) (one : Bool) (j : Int), to < 8 → ∀ (n a : Nat) (tk : Nat → Bool) (o : Option (Nat → Bool)) (M1 : g_M), a < K → nw (M.1 0 304) to one n a tk = some o → ch5 M M1 → mT M1 K tk → (o = none → ∀ M2, ch5 M M2 → Q [.inl 0] M2) → (∀ tk', o = some tk' → ∀ M2, ch5 M M2 → mT M2 K tk' → hm_in (j + 1) ∧ g_R (D + 5) 132 Q 35 [.inr (0, 286), .inl (g : Int), .inl (j + 1)] [] M2) → g_R (D + 5) 132 Q 118 [.inr (0, 286), .inl (g : Int), .inl j, .inl (a : Int), .inl (to : Int), .inl (bi one), .inl 1] [] M1 := by
      intro to one j hto n
      induction n with
      | zero => intro a tk o M1 _ h1; cases h1
      | succ n ih =>
        intro a tk o M1 ha h1 h5 hT hno hso
        rw [nw_s] at h1
        have ht := hT a ha
        have hNa := hN a ha
        have noq : (a = 0 ∨ M.1 0 304 a < 0 ∨ tk a = true) → Q [.inl 0] M1 := fun z => by
          rw [if_pos z] at h1
          exact hno (Option.some.inj h1).symm M1 h5
        have T2 : mT (g_uA M1 (0, 305) a 1) K (upb tk a) := fun m hm => by
          rw [g_uA_at]
          unfold upb
          by_cases z : m = a
          · rw [if_pos ⟨rfl, rfl, z⟩, if_pos z]; rfl
          · rw [if_neg (fun y => z y.2.2), if_neg z]; exact hT m hm
        have h52 : ch5 M (g_uA M1 (0, 305) a 1) := h5.tr ch5.uA
        have fin : ¬ (a = 0 ∨ M.1 0 304 a < 0 ∨ tk a = true) → (one = true ∨ M.1 0 304 a = (to : Int)) → g_R (D + 5) 132 Q 118 [.inr (0, 286), .inl (g : Int), .inl j, .inl (M.1 0 304 a), .inl (to : Int), .inl (bi one), .inl 0] [] (g_uA M1 (0, 305) a 1) := fun z y => by
          rw [if_neg z, if_pos y] at h1
          have h2 := Option.some.inj h1
          refine rp_132_118 rfl ⟨fun _ => ⟨fun q => ?_, fun q => ?_⟩, fun q => absurd rfl q⟩
          · rw [if_pos q] at h2
            exact hso _ h2.symm _ h52 T2
          · rw [if_neg q] at h2
            exact hno h2.symm _ h52
        refine rp_132_118 rfl ⟨fun q => absurd q (by decide), fun _ => ⟨fun q => noq (Or.inl (by omega)), fun q0 => ?_⟩⟩
        rw [h5.2 0 304 (by omega), Int.toNat_natCast, ht]
        refine ⟨by omega, fun q1 => noq (Or.inr (Or.inl q1)), fun q1 => ⟨fun q2 => ⟨by omega, fun q3 => ?_, fun q3 => ⟨fun q4 => ?_, fun q4 => ?_⟩⟩, fun q2 => noq (Or.inr (Or.inr ?_))⟩⟩
        · refine fin ?_ (Or.inl ?_)
          · rintro (z | z | z)
            · omega
            · omega
            · rw [bi_0.mp q2] at z; cases z
          · cases one with
            | true => rfl
            | false => exact absurd rfl q3
        · refine fin ?_ (Or.inr q4)
          rintro (z | z | z)
          · omega
          · omega
          · rw [bi_0.mp q2] at z; cases z
        · have ho : one = false := bi_0.mp q3
          rw [if_neg (by rintro (z | z | z); omega; omega; rw [bi_0.mp q2] at z; cases z), if_neg (by rintro (z | z); rw [ho] at z; cases z; exact q4 z)] at h1
          have := ih (M.1 0 304 a).toNat (upb tk a) o _ (by omega) h1 h52 T2 hno hso
          rw [show ((M.1 0 304 a).toNat : Int) = M.1 0 304 a by omega] at this
          exact this
        · cases w : tk a with
          | true => rfl
          | false => rw [w] at q2; exact absurd rfl q2
    have loop2 : ∀ (n i : Nat) (x : Int) (M1 : g_M) (tk : Nat → Bool), i + n = G.2.length → x = (i : Int) → ch5 M M1 → mT M1 K tk → ((PL (M.1 0 304) s (G.2.drop i) tk none ∧ r = false) ∨ ∃ tk', PL (M.1 0 304) s (G.2.drop i) tk (some tk') ∧ (r = true ↔ ∀ c, c < K → 0 ≤ M.1 0 304 c → tk' c = true)) → g_R (D + 5) 132 Q 35 [.inr (0, 286), .inl (g : Int), .inl x] [] M1 := by
      intro n
      induction n with
      | zero =>
        intro i x M1 tk hi hx h5 hT hE
        subst hx
        have hG1 := hG.kx h5.chx
        rw [List.drop_eq_nil_of_le (by omega)] at hE
        refine rp_132_35 rfl ?_
        rw [Int.toNat_natCast, hG1.2.1]
        refine ⟨by omega, fun _ => ?_, fun q => by exfalso; omega⟩
        rcases hE with ⟨z, _⟩ | ⟨tk', z, z2⟩
        · cases z
        · have e : some tk' = some tk := z
          have e2 : tk' = tk := Option.some.inj e
          rw [e2] at z2
          exact loop3 tk z2 K 0 0 M1 (by omega) rfl h5 hT (fun d hd => by omega)
      | succ n ih =>
        intro i x M1 tk hi hx h5 hT hE
        subst hx
        have hG1 := hG.kx h5.chx
        have hlt : i < G.2.length := by omega
        have hat := List.getElem?_eq_getElem hlt
        have hmem := List.getElem_mem hlt
        have ok := hw.2.2.2 _ hmem
        have rr := hG1.2.2.2 i _ hat
        have hin := pf_in2 hmem
        rw [List.drop_eq_getElem_cons hlt] at hE
        generalize hp : G.2[i] = p at ok rr hat hmem hin hE
        unfold pf_ok at ok
        have hs1 := clk M1 h5
        have sx := hs1 _ hin.1
        have sy := hs1 _ hin.2
        have nxt : ∀ (tk1 : Nat → Bool) (M2 : g_M), ch5 M M2 → mT M2 K tk1 → ((PL (M.1 0 304) s (G.2.drop (i + 1)) tk1 none ∧ r = false) ∨ ∃ tk', PL (M.1 0 304) s (G.2.drop (i + 1)) tk1 (some tk') ∧ (r = true ↔ ∀ c, c < K → 0 ≤ M.1 0 304 c → tk' c = true)) → hm_in ((i : Int) + 1) ∧ g_R (D + 5) 132 Q 35 [.inr (0, 286), .inl (g : Int), .inl ((i : Int) + 1)] [] M2 := fun tk1 M2 k1 k2 k3 => ⟨by unfold hm_in; omega, ih (i + 1) _ M2 tk1 (by omega) (by omega) k1 k2 k3⟩
        have hP1 : ∃ o, P1 (M.1 0 304) s p tk o ∧ (o = none → r = false) ∧ ∀ tk1, o = some tk1 → ((PL (M.1 0 304) s (G.2.drop (i + 1)) tk1 none ∧ r = false) ∨ ∃ tk', PL (M.1 0 304) s (G.2.drop (i + 1)) tk1 (some tk') ∧ (r = true ↔ ∀ c, c < K → 0 ≤ M.1 0 304 c → tk' c = true)) := by
          rcases hE with ⟨(⟨z, _⟩ | ⟨tk1, z1, z2⟩), z3⟩ | ⟨tk', (⟨_, z⟩ | ⟨tk1, z1, z2⟩), z3⟩
          · exact ⟨none, z, fun _ => z3, fun tk1 y => (by cases y)⟩
          · exact ⟨some tk1, z1, fun y => (by cases y), fun tk2 y => by cases y; exact Or.inl ⟨z2, z3⟩⟩
          · cases z
          · exact ⟨some tk1, z1, fun y => (by cases y), fun tk2 y => by cases y; exact Or.inr ⟨tk', z2, z3⟩⟩
        obtain ⟨o, o1, o2, o3⟩ := hP1
        have qn : o = none → ∀ M2, ch5 M M2 → Q [.inl 0] M2 := fun z M2 k => by
          have := h M2 k
          rw [o2 z] at this
          exact this
        refine rp_132_35 rfl ?_
        rw [Int.toNat_natCast, hG1.2.1, show ((10 : Int) * (g : Int) + (i : Int)).toNat = 10 * g + i by omega, rr.1, rr.2.1, rr.2.2, Int.toNat_natCast, Int.toNat_natCast, sx.1, sy.1]
        refine ⟨by omega, fun q => by exfalso; omega, fun _ => ⟨by unfold hm_in; omega, by unfold hm_in; omega, by omega, by omega, by omega, fun q => ⟨fun q2 => ?_, fun q2 => ?_⟩, fun q => ?_⟩⟩
        · rw [P1r (by omega) (by omega)] at o1
          obtain ⟨m, hm⟩ := o1
          exact walk (s p.2.2) false i sy.2 m (s p.2.1) tk o M1 (by omega) hm h5 hT qn (fun tk1 ho M2 k1 k2 => nxt tk1 M2 k1 k2 (o3 tk1 ho))
        · have e : o = some tk := by
            unfold P1 at o1
            rw [if_pos ⟨by omega, by omega⟩] at o1
            exact o1
          exact nxt tk M1 h5 hT (o3 tk e)
        · rw [P1c (by omega)] at o1
          obtain ⟨m, hm⟩ := o1
          exact walk (s p.2.2) true i sy.2 m (s p.2.1) tk o M1 (by omega) hm h5 hT qn (fun tk1 ho M2 k1 k2 => nxt tk1 M2 k1 k2 (o3 tk1 ho))
    have loop1 : ∀ (n i : Nat) (x : Int) (M1 : g_M), i + n = K → x = (i : Int) → ch5 M M1 → (∀ c, c < i → M1.1 0 305 c = 0) → g_R (D + 5) 132 Q 12 [.inr (0, 286), .inl (g : Int), .inl x] [] M1 := by
      intro n
      induction n with
      | zero =>
        intro i x M1 hi hx hc hz
        subst hx
        refine rp_132_12 rfl ?_
        rw [hc.2 0 286 (by omega), hK]
        exact ⟨fun _ => loop2 G.2.length 0 0 M1 (fun _ => false) (by omega) rfl hc (fun m hm => hz m (by omega)) (by rw [List.drop_zero]; exact hr2), fun q => by exfalso; omega⟩
      | succ n ih =>
        intro i x M1 hi hx hc hz
        subst hx
        refine rp_132_12 rfl ?_
        rw [hc.2 0 286 (by omega), hK]
        refine ⟨fun q => by exfalso; omega, fun _ => ⟨by omega, by unfold hm_in; omega, ih (i + 1) _ _ (by omega) (by omega) (hc.tr ch5.uA) (fun c hc8 => ?_)⟩⟩
        rw [g_uA_at, Int.toNat_natCast]
        by_cases z : c = i
        · simp [z]
        · simp [z, hz c (by omega)]
    exact loop1 K 0 0 M (by omega) rfl ch5.rf (fun c hc => by omega)
  · have hrf : r = false := by
      rcases hr with ⟨_, z⟩ | ⟨z, _⟩
      · exact z
      · exact absurd z hP
    have := h M ch5.rf
    rw [hrf] at this
    exact this
/-- the loose classes and where they lie -/
def mP (M : g_M) (L : Nat) (ls : Nat → Nat) (wi rk : Nat → Int) : Prop := M.1 0 286 19 = (L : Int) ∧ L < 8 ∧ ∀ k, k < L → M.1 0 301 k = (ls k : Int) ∧ M.1 0 302 k = wi k ∧ M.1 0 303 k = rk k
theorem m_131 (hD : 3 ≤ D) {L : Nat} {ls : Nat → Nat} {wi rk : Nat → Int} (hP : mP M L ls wi rk) {p r : Int}
    (h1 : ∀ k, k < L → wi k = p → rk k = r → Q [.inl (ls k : Int)] M) (h0 : (∀ k, k < L → ¬ (wi k = p ∧ rk k = r)) → Q [.inl (-1)] M) : g_Ev D 131 [.inr (0, 286), .inl p, .inl r] M Q := by
  obtain ⟨D, rfl⟩ := g_dep hD
  have hL := hP.2.1
  have loop : ∀ (n k : Nat) (x : Int), k + n = L → x = (k : Int) → (∀ j, j < k → ¬ (wi j = p ∧ rk j = r)) → g_R (D + 3) 131 Q 2 [.inr (0, 286), .inl p, .inl r, .inl x] [] M := by
    intro n
    induction n with
    | zero =>
      intro k x hk hx hj
      subst hx
      refine rp_131_2 rfl ?_
      rw [hP.1]
      exact ⟨fun _ => h0 (fun j hj2 => hj j (by omega)), fun q => by exfalso; omega⟩
    | succ n ih =>
      intro k x hk hx hj
      subst hx
      have hk3 := hP.2.2 k (by omega)
      have next : ¬ (wi k = p ∧ rk k = r) → hm_in ((k : Int) + 1) ∧ g_R (D + 3) 131 Q 2 [.inr (0, 286), .inl p, .inl r, .inl ((k : Int) + 1)] [] M := fun hz => ⟨by unfold hm_in; omega, ih (k + 1) _ (by omega) (by omega) (fun j hj2 => by
        by_cases y : j = k
        · rw [y]; exact hz
        · exact hj j (by omega))⟩
      refine rp_131_2 rfl ?_
      rw [hP.1, Int.toNat_natCast, hk3.1, hk3.2.1, hk3.2.2]
      exact ⟨fun q => by exfalso; omega, fun _ => ⟨by omega, fun q => next (fun z => q z.1), fun q => ⟨fun q2 => next (fun z => q2 z.2), fun q2 => h1 k (by omega) q q2⟩⟩⟩
  exact g_enter hk_131 hn_131 (rp_131_0 rfl (loop L 0 0 (by omega) rfl (fun j hj => by omega)))
end RB

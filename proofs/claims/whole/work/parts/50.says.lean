/-! says -/
theorem dg_lt {P L : Nat} {wi rk : Nat → Int} (h : VW P L wi rk) {k : Nat} (hk : k < L) : dg L wi rk k < 1 + P * L := by
  have hv := h k hk
  unfold dg
  split
  · omega
  · have h1 : ((wi k).toNat + 1) * L ≤ P * L := Nat.mul_le_mul_right _ (by omega)
    rw [Nat.add_mul, Nat.one_mul] at h1
    omega
theorem cdp_0 {B : Nat} : ∀ {m j : Nat}, cdp B (fun _ => 0) m j = 0 := by
  intro m
  induction m with
  | zero => intro j; rfl
  | succ m ih => intro j; rw [cdp_s, ih]; rfl
theorem tgt {F G : pf_F} {s : Nat → Nat} {b L : Nat} {ls : Nat → Nat} (hw : pf_wf F) (hwG : pf_wf G) (hs8 : ∀ p ∈ G.2, s p.2.1 < 8 ∧ s p.2.2 < 8) (hB : BG F s b) (hlo : ∀ d, d ≠ 0 → b.testBit d = false → (∃ p ∈ G.2, s p.2.2 = d) → ∃ k, k < L ∧ ls k = d) : ∃ C1, C1 < (1 + F.2.length * L) ^ L ∧ (¬ CV (gF F s) (lF F s) b s G → ∀ wi rk, VW F.2.length L wi rk → cdp (1 + F.2.length * L) (dg L wi rk) L 0 = C1 → OK1 L wi rk ∧ ML F s L ls wi ∧ (mB F G s b L wi ∨ mC F G s b L ls wi rk)) := by
  have hpos : 0 < (1 + F.2.length * L) ^ L := Nat.pow_pos (by omega)
  by_cases hcv : CV (gF F s) (lF F s) b s G
  · exact ⟨0, hpos, fun z => absurd hcv z⟩
  · by_cases hz : PH s G ∧ cvl (gF F s) (lF F s) 255 s G.2 (some b) = some 0
    · obtain ⟨at_, z, a1, a2, a3, a4, a5, a6, a7⟩ := smC hwG hs8 hz.1 hz.2 hcv
      obtain ⟨k1, k2, k3⟩ := hlo z a3 a4 a6
      obtain ⟨p1, p2, p3, p4⟩ := (hB.1 at_).mp a1
      obtain ⟨j1, j2, j3⟩ := List.mem_iff_getElem.mp p2
      have hat : F.2[j1]? = some p1 := by rw [List.getElem?_eq_getElem j2, j3]
      have hBp := hB.2.1 p1 p2 p3
      have hp1 : p1.1 = 1 := hBp.2.2.mp (by rw [p4]; exact a2)
      have eB : ∀ k, (if k = k1 then 1 + j1 * L else 0) < 1 + F.2.length * L := fun k => by
        split
        · have h1 : (j1 + 1) * L ≤ F.2.length * L := Nat.mul_le_mul_right _ (by omega)
          rw [Nat.add_mul, Nat.one_mul] at h1
          omega
        · omega
      refine ⟨cdp (1 + F.2.length * L) (fun k => if k = k1 then 1 + j1 * L else 0) L 0, cdp_lt (fun i _ _ => eB i), fun _ wi rk hV he => ?_⟩
      have hd := cdp_inj (fun i _ h2 => ⟨dg_lt hV (by omega), eB i⟩) he
      have oth : ∀ k, k < L → k ≠ k1 → wi k < 0 := fun k hk hne => by
        have := hd k (by omega) (by omega)
        rw [if_neg hne] at this
        unfold dg at this
        split at this
        · next y => exact y
        · omega
      have hv := hV k1 k2
      have me : wi k1 = (j1 : Int) ∧ rk k1 = 0 := by
        have := hd k1 (by omega) (by omega)
        rw [if_pos rfl] at this
        unfold dg at this
        split at this
        · omega
        · next y =>
          have e1 : (wi k1).toNat * L + (rk k1).toNat = j1 * L := by omega
          have e2 : ((rk k1).toNat + (wi k1).toNat * L) % L = (j1 * L) % L := by rw [← e1, Nat.add_comm]
          rw [Nat.add_mul_mod_self_right, Nat.mul_mod_left, Nat.mod_eq_of_lt (by omega)] at e2
          have e3 : (wi k1).toNat * L = j1 * L := by omega
          have e4 := Nat.eq_of_mul_eq_mul_right (by omega) e3
          omega
      have only : ∀ k, k < L → 0 ≤ wi k → k = k1 := fun k hk h0 => Classical.byContradiction (fun y => by have := oth k hk y; omega)
      refine ⟨fun k hk h0 => ?_, fun k hk h0 => ?_, Or.inr ⟨k1, j1, p1, k2, hat, p3, hp1, me.1, me.2, oth, ?_⟩⟩
      · have := only k hk h0
        subst this
        exact ⟨me.2, fun i hi hne => by have := oth i hi hne; omega⟩
      · have := only k hk h0
        subst this
        rw [me.1, Int.toNat_natCast]
        refine ⟨p1, hat, hp1, p3, ?_⟩
        rw [k3, ← hBp.2.1, p4]
        exact a5
      · rw [k3, p4]
        exact a7
    · refine ⟨0, hpos, fun _ wi rk hV he => ?_⟩
      have hd := cdp_inj (d' := fun _ => 0) (fun i _ h2 => ⟨dg_lt hV (by omega), by omega⟩) (he.trans cdp_0.symm)
      have oth : ∀ k, k < L → wi k < 0 := fun k hk => by
        have := hd k (by omega) (by omega)
        unfold dg at this
        split at this
        · next y => exact y
        · omega
      exact ⟨fun k hk h0 => absurd (oth k hk) (by omega), fun k hk h0 => absurd (oth k hk) (by omega), Or.inl ⟨oth, fun hP hc => hz ⟨hP, hc⟩⟩⟩
section RB
variable {D : Nat} {M : g_M} {f g : Nat} {F G : pf_F} {s : Nat → Nat} {Q : g_P} {b : Nat}
theorem m_126 (hD : 12 ≤ D) (hf : f < 200) (hF : mF M f F) (hw : pf_wf F) (hs : cl M F s) (hg : g < 200) (hG : mF M g G) (hwG : pf_wf G) (hsG : cl M G s) (hB : BG F s b) (hb : b < 256) (hbg : bg M b) {N : Nat} (hN : M.1 0 286 16 = (N : Int)) (hN1 : 1 ≤ N) (hN8 : N ≤ 8) (hsN : ∀ t, pf_in t G → s t < N) (h00 : s 0 = 0)
    (h1 : CV (gF F s) (lF F s) b s G → ∀ M', chy M M' → Q [.inl 1] M') (h0 : ¬ CV (gF F s) (lF F s) b s G → ∀ M', chy M M' → Q [.inl 0] M') : g_Ev D 126 [.inr (0, 286), .inl (f : Int), .inl (g : Int)] M Q := by
  obtain ⟨D, rfl⟩ := g_dep hD
  have hs8 : ∀ p ∈ G.2, s p.2.1 < 8 ∧ s p.2.2 < 8 := fun p hp => ⟨(hsG _ (pf_in2 hp).1).2, (hsG _ (pf_in2 hp).2).2⟩
  have ph3 : ∀ (L : Nat) (ls : Nat → Nat), (∀ k, k < L → 1 ≤ ls k ∧ ls k < 8 ∧ b.testBit (ls k) = false) → (∀ k k', k < L → k' < L → ls k = ls k' → k = k') → ∀ C1, C1 < (1 + F.2.length * L) ^ L → (¬ CV (gF F s) (lF F s) b s G → ∀ wi rk, VW F.2.length L wi rk → cdp (1 + F.2.length * L) (dg L wi rk) L 0 = C1 → OK1 L wi rk ∧ ML F s L ls wi ∧ (mB F G s b L wi ∨ mC F G s b L ls wi rk)) → ∀ (n : Nat) (wi rk : Nat → Int) (M1 : g_M), (1 + F.2.length * L) ^ L - cdp (1 + F.2.length * L) (dg L wi rk) L 0 = n → chy M M1 → mP M1 L ls wi rk → VW F.2.length L wi rk → (¬ CV (gF F s) (lF F s) b s G → cdp (1 + F.2.length * L) (dg L wi rk) L 0 ≤ C1) → g_R (D + 12) 126 Q 142 [.inr (0, 286), .inl (f : Int), .inl (g : Int), .inl 1] [] M1 := by
    intro L ls hls1 hls2 C1 hC1 hC2 n
    induction n using Nat.strongRecOn with
    | _ n ih =>
      intro wi rk M1 hn hc hP hV hle
      have hcl : cdp (1 + F.2.length * L) (dg L wi rk) L 0 < (1 + F.2.length * L) ^ L := cdp_lt (fun i _ h2 => dg_lt hV (by omega))
      have next : ∀ M2, chy M M2 → mP M2 L ls wi rk → (¬ CV (gF F s) (lF F s) b s G → cdp (1 + F.2.length * L) (dg L wi rk) L 0 ≠ C1) → g_Ev (D + 11) 133 [.inr (0, 286), .inl (f : Int)] M2 (fun q M' => g_R (D + 12) 126 Q 177 [.inr (0, 286), .inl (f : Int), .inl (g : Int), .inl 1] (q ++ []) M') := fun M2 c2 p2 hne => by
        refine m_133 (by omega) hf (hF.kx c2.chx) hw p2 hV (fun M3 wi' rk' c3 p3 v3 k3 => rp_126_177 rfl (ih _ (by omega) wi' rk' M3 rfl (c2.tr c3) p3 v3 (fun z => ?_))) (fun k3 M3 c3 => rp_126_177 rfl (rp_126_142 rfl ⟨fun _ => h1 (Classical.byContradiction (fun z => ?_)) M3 (c2.tr c3), fun q => absurd rfl q⟩))
        · have h3 := hle z
          have h4 := hne z
          omega
        · have h3 := hle z
          have h4 := hne z
          omega
      refine rp_126_142 rfl ⟨fun q => absurd q (by decide), fun _ => m_127 (by omega) hP (rp_126_150 rfl ⟨fun q => absurd q (by decide), fun _ => ?_⟩) (fun hno => rp_126_150 rfl ⟨fun _ => next M1 hc hP (fun z e => hno (hC2 z wi rk hV e).1), fun q => absurd rfl q⟩)⟩
      refine m_128 (by omega) hf (hF.kx hc.chx) hw (hs.ky hc) hP hV (fun hml => rp_126_158 rfl ⟨fun q => absurd q (by decide), fun _ => ?_⟩) (fun hml => rp_126_158 rfl ⟨fun _ => next M1 hc hP (fun z e => hml (hC2 z wi rk hV e).2.1), fun q => absurd rfl q⟩)
      refine m_129 (by omega) hf (hF.kx hc.chx) hw (hs.ky hc) hg (hG.kx hc.chx) hwG (hsG.ky hc) hB hb hP ⟨hls1, hls2, fun k hk => ⟨(hV k hk).2.2.1, (hV k hk).2.2.2⟩, hml⟩ (fun hm M2 c2 p2 => rp_126_167 rfl ⟨fun _ => next M2 (hc.tr c2) p2 (fun z e => ?_), fun q => absurd q (by decide)⟩) (fun hcv M2 c2 => rp_126_167 rfl ⟨fun q => absurd rfl q, fun _ => h0 hcv M2 (hc.tr c2)⟩)
      rcases (hC2 z wi rk hV e).2.2 with y | y
      · exact (hm z).1 y
      · exact (hm z).2 y
  have ph2 : ∀ (L : Nat) (ls : Nat → Nat), L < 8 → (∀ k, k < L → 1 ≤ ls k ∧ ls k < 8 ∧ b.testBit (ls k) = false) → (∀ k k', k < L → k' < L → ls k = ls k' → k = k') → (∀ d, d ≠ 0 → b.testBit d = false → (∃ p ∈ G.2, s p.2.2 = d) → ∃ k, k < L ∧ ls k = d) → ∀ (n k : Nat) (x : Int) (M1 : g_M), k + n = L → x = (k : Int) → chy M M1 → M1.1 0 286 19 = (L : Int) → (∀ j, j < L → M1.1 0 301 j = (ls j : Int)) → (∀ j, j < k → M1.1 0 302 j = -1 ∧ M1.1 0 303 j = 0) → g_R (D + 12) 126 Q 112 [.inr (0, 286), .inl (f : Int), .inl (g : Int), .inl x] [] M1 := by
    intro L ls hL8 hls1 hls2 hls3 n
    induction n with
    | zero =>
      intro k x M1 hk hx hc hL hl hj
      subst hx
      obtain rfl : k = L := by omega
      refine rp_126_112 rfl ?_
      rw [hL]
      obtain ⟨C1, c1, c2⟩ := tgt (s := s) (ls := ls) hw hwG hs8 hB hls3
      refine ⟨fun _ => ph3 k ls hls1 hls2 C1 c1 c2 _ (fun _ => -1) (fun _ => 0) M1 rfl hc ⟨hL, hL8, fun j hj2 => ⟨hl j hj2, (hj j hj2).1, (hj j hj2).2⟩⟩ (fun j hj2 => by show (-1 : Int) ≤ -1 ∧ (-1 : Int) < (F.2.length : Int) ∧ (0 : Int) ≤ 0 ∧ (0 : Int) < (k : Int); omega) (fun _ => ?_), fun q => by exfalso; omega⟩
      have : dg k (fun _ => -1) (fun _ => 0) = fun _ => 0 := by
        funext j
        unfold dg
        rw [if_pos (show (-1 : Int) < 0 by decide)]
      rw [this, cdp_0]
      exact Nat.zero_le _
    | succ n ih =>
      intro k x M1 hk hx hc hL hl hj
      subst hx
      refine rp_126_112 rfl ?_
      rw [hL, Int.toNat_natCast]
      refine ⟨fun q => by exfalso; omega, fun _ => ⟨by omega, by unfold hm_in; omega, ih (k + 1) _ _ (by omega) (by omega) ((hc.tr (chy.row (by omega))).tr (chy.row (by omega))) ?_ (fun j hj2 => ?_) (fun j hj2 => ?_)⟩⟩
      · rw [g_uA_at, if_neg (by omega), g_uA_at, if_neg (by omega)]; exact hL
      · rw [g_uA_at, if_neg (by omega), g_uA_at, if_neg (by omega)]; exact hl j hj2
      · rw [g_uA_at, if_neg (by omega), g_uA_at, g_uA_at]
        by_cases z : j = k
        · rw [if_pos ⟨rfl, rfl, z⟩, if_pos ⟨rfl, rfl, z⟩]
          exact ⟨rfl, rfl⟩
        · rw [if_neg (fun y => z y.2.2), if_neg (fun y => z y.2.2), g_uA_at, if_neg (by omega)]
          exact hj j (by omega)
  have ph1 : ∀ (n c L : Nat) (ls : Nat → Nat) (x : Int) (M1 : g_M), c + n = N → x = (c : Int) → 1 ≤ c → chy M M1 → M1.1 0 286 19 = (L : Int) → L ≤ c - 1 → (∀ j, j < L → M1.1 0 301 j = (ls j : Int) ∧ 1 ≤ ls j ∧ ls j < c ∧ b.testBit (ls j) = false) → (∀ k k', k < L → k' < L → ls k = ls k' → k = k') → (∀ d, 1 ≤ d → d < c → b.testBit d = false → (∃ t, 1 ≤ t ∧ t < 8 ∧ pf_in t G ∧ s t = d) → ∃ k, k < L ∧ ls k = d) → g_R (D + 12) 126 Q 7 [.inr (0, 286), .inl (f : Int), .inl (g : Int), .inl x] [] M1 := by
    intro n
    induction n with
    | zero =>
      intro c L ls x M1 hcn hx hc1 hc hL hLc hl hinj hcomp
      subst hx
      refine rp_126_7 rfl ?_
      rw [hc.2.2 16 (by omega) (by omega), hN]
      refine ⟨fun _ => ph2 L ls (by omega) (fun k hk => ?_) hinj (fun d d1 d2 ⟨p, p1, p2⟩ => ?_) L 0 0 M1 (by omega) rfl hc hL (fun j hj => (hl j hj).1) (fun j hj => by omega), fun q => by exfalso; omega⟩
      · have := hl k hk; exact ⟨this.2.1, by omega, this.2.2.2⟩
      · have hin := (pf_in2 p1).2
        have h3 := hsN _ hin
        have h4 := pf_in_lt hwG hin
        refine hcomp d (by omega) (by omega) d2 ⟨p.2.2, ?_, h4, hin, p2⟩
        rcases Nat.eq_zero_or_pos p.2.2 with y | y
        · rw [y, h00] at p2; omega
        · exact y
    | succ n ih =>
      intro c L ls x M1 hcn hx hc1 hc hL hLc hl hinj hcomp
      subst hx
      refine rp_126_7 rfl ?_
      rw [hc.2.2 16 (by omega) (by omega), hN]
      refine ⟨fun q => by exfalso; omega, fun _ => ?_⟩
      have skip : (¬ (∃ t, 1 ≤ t ∧ t < 8 ∧ pf_in t G ∧ s t = c) ∨ b.testBit c = true) → g_R (D + 12) 126 Q 7 [.inr (0, 286), .inl (f : Int), .inl (g : Int), .inl ((c : Int) + 1)] [] M1 := fun hz => ih (c + 1) L ls _ M1 (by omega) (by omega) (by omega) hc hL (by omega) (fun j hj => by have := hl j hj; exact ⟨this.1, this.2.1, by omega, this.2.2.2⟩) hinj (fun d d1 d2 d3 d4 => by
        by_cases y : d = c
        · subst y
          rcases hz with z | z
          · exact absurd d4 z
          · rw [z] at d3; cases d3
        · exact hcomp d d1 (by omega) d3 d4)
      have inner : ∀ (m t : Nat) (y z : Int), t + m = 8 → y = (t : Int) → 1 ≤ t → (z = 1 ∧ (∃ u, 1 ≤ u ∧ u < 8 ∧ pf_in u G ∧ s u = c) ∨ z = 0 ∧ ¬ ∃ u, 1 ≤ u ∧ u < t ∧ pf_in u G ∧ s u = c) → g_R (D + 12) 126 Q 21 [.inr (0, 286), .inl (f : Int), .inl (g : Int), .inl (c : Int), .inl z, .inl y] [] M1 := by
        intro m
        induction m with
        | zero =>
          intro t y z ht hy h1t hz
          subst hy
          obtain rfl : t = 8 := by omega
          have hbc := hbg c (by omega)
          refine rp_126_21 rfl ⟨fun _ => ⟨fun q => ⟨by unfold hm_in; omega, skip (Or.inl ?_)⟩, fun q => ?_⟩, fun q => by exfalso; omega⟩
          · rcases hz with ⟨w, _⟩ | ⟨_, w⟩
            · omega
            · exact w
          · rw [Int.toNat_natCast, hc.2.1 0 300 (by omega), hL, Int.toNat_natCast]
            have hask : ∃ u, 1 ≤ u ∧ u < 8 ∧ pf_in u G ∧ s u = c := by
              rcases hz with ⟨_, w⟩ | ⟨w, _⟩
              · exact w
              · exact absurd w q
            refine ⟨by omega, fun q2 => ⟨by omega, by unfold hm_in; omega, by unfold hm_in; omega, ih (c + 1) (L + 1) (va_up ls L c) _ _ (by omega) (by omega) (by omega) ((hc.tr (chy.row (by omega))).tr chy.fld) ?_ (by omega) (fun j hj => ?_) (fun k k' hk hk' he => ?_) (fun d d1 d2 d3 d4 => ?_)⟩, fun q2 => ⟨by unfold hm_in; omega, skip (Or.inr (hbc.mp q2))⟩⟩
            · rw [g_uA_at, if_pos ⟨rfl, rfl, rfl⟩]; omega
            · rw [g_uA_at, if_neg (by omega), g_uA_at, va_upn_at]
              by_cases w : j = L
              · rw [if_pos ⟨rfl, rfl, w⟩, if_pos w]
                refine ⟨rfl, hc1, by omega, ?_⟩
                cases v : b.testBit c with
                | false => rfl
                | true => have := hbc.mpr v; omega
              · rw [if_neg (fun v => w v.2.2), if_neg w]
                have := hl j (by omega)
                exact ⟨this.1, this.2.1, by omega, this.2.2.2⟩
            · rw [va_upn_at, va_upn_at] at he
              by_cases w : k = L
              · by_cases v : k' = L
                · omega
                · rw [if_pos w, if_neg v] at he
                  have := (hl k' (by omega)).2.2.1
                  omega
              · by_cases v : k' = L
                · rw [if_neg w, if_pos v] at he
                  have := (hl k (by omega)).2.2.1
                  omega
                · rw [if_neg w, if_neg v] at he
                  exact hinj k k' (by omega) (by omega) he
            · by_cases w : d = c
              · exact ⟨L, by omega, by rw [va_upn_at, if_pos rfl, w]⟩
              · obtain ⟨k, k1, k2⟩ := hcomp d d1 (by omega) d3 d4
                exact ⟨k, by omega, by rw [va_upn_at, if_neg (by omega)]; exact k2⟩
        | succ m ihm =>
          intro t y z ht hy h1t hz
          subst hy
          have ext : ¬ (pf_in t G ∧ s t = c) → ∀ z2 : Int, z2 = 0 → z = 0 → g_R (D + 12) 126 Q 21 [.inr (0, 286), .inl (f : Int), .inl (g : Int), .inl (c : Int), .inl z2, .inl ((t : Int) + 1)] [] M1 := fun hno z2 hz2 hz0 => ihm (t + 1) _ z2 (by omega) (by omega) (by omega) (Or.inr ⟨hz2, fun ⟨u, u1, u2, u3, u4⟩ => by
            rcases hz with ⟨w, _⟩ | ⟨_, w⟩
            · omega
            · by_cases v : u = t
              · rw [v] at u3 u4; exact hno ⟨u3, u4⟩
              · exact w ⟨u, u1, by omega, u3, u4⟩⟩)
          refine rp_126_21 rfl ⟨fun q => by exfalso; omega, fun _ => ⟨fun q => ⟨by unfold hm_in; omega, ihm (t + 1) _ 1 (by omega) (by omega) (by omega) (Or.inl ⟨rfl, ?_⟩)⟩, fun q => m_112 (by omega) hg (hG.kx hc.chx) hwG (fun u hu hin => rp_126_40 rfl ⟨fun q2 => absurd q2 (by decide), fun _ => ?_⟩) (fun hno => rp_126_40 rfl ⟨fun _ => ⟨by unfold hm_in; omega, ext (fun w => hno t rfl w.1) 0 rfl q⟩, fun q2 => absurd rfl q2⟩)⟩⟩
          · rcases hz with ⟨_, w⟩ | ⟨w, _⟩
            · exact w
            · exact absurd w q
          · obtain rfl : t = u := by omega
            have hst := hsG.ky hc t hin
            rw [Int.toNat_natCast, hst.1]
            refine ⟨by omega, fun q2 => ⟨by unfold hm_in; omega, ext (fun w => q2 (by omega)) 0 rfl q⟩, fun q2 => ⟨by unfold hm_in; omega, ihm (t + 1) _ 1 (by omega) (by omega) (by omega) (Or.inl ⟨rfl, t, h1t, by omega, hin, by omega⟩)⟩⟩
      exact inner 7 1 1 0 (by omega) rfl (by omega) (Or.inr ⟨rfl, fun ⟨u, u1, u2, _⟩ => by omega⟩)
  refine g_enter hk_126 hn_126 (rp_126_0 rfl (ph1 (N - 1) 1 0 (fun _ => 0) 1 _ (by omega) rfl (by omega) chy.fld (by rw [g_uA_at, if_pos ⟨rfl, rfl, rfl⟩]; rfl) (by omega) (fun j hj => by omega) (fun k k' hk => by omega) (fun d d1 d2 => by omega)))
end RB
theorem nn_z {T : Nat} (h : T.testBit 0 = true) : ∀ {t : Nat}, nn T (fun _ => 0) (t + 1) = 1 := by
  intro t
  induction t with
  | zero => rw [nn_succ, if_pos h]; rfl
  | succ t ih =>
    rw [nn_succ, ih]
    split <;> rfl
theorem nn_in {T t : Nat} {s : Nat → Nat} (ht : T.testBit t = true) {m : Nat} (hm : t < m) : s t < nn T s m := by
  have h1 : s t < nn T s (t + 1) := by rw [nn_succ, if_pos ht]; omega
  have h2 : nn T s (t + 1) ≤ nn T s m := nn_mono (by omega)
  omega
section RB
variable {D : Nat} {M : g_M} {f g T : Nat} {F G : pf_F} {Q : g_P}
theorem m_124 (hD : 16 ≤ D) (hf : f < 200) (hF : mF M f F) (hw : pf_wf F) (hg : g < 200) (hG : mF M g G) (hwG : pf_wf G) (hT : T = pf_terms F ||| pf_terms G ||| 1)
    (h1 : ¬ PT T F G → ∀ M', chx M M' → Q [.inl 1] M') (h0 : PT T F G → ∀ M', chx M M' → Q [.inl 0] M') : g_R (D + 1) 124 Q 23 [.inr (0, 286), .inl (f : Int), .inl (g : Int)] [.inl 0] M := by
  obtain ⟨D, rfl⟩ := g_dep hD
  have hTb : ∀ t, T.testBit t = true ↔ (pf_in t F ∨ pf_in t G) ∨ t = 0 := fun t => by
    rw [hT, Nat.testBit_or, Nat.testBit_or, Bool.or_eq_true, Bool.or_eq_true, pf_terms_bit, pf_terms_bit, show (1 : Nat) = 2 ^ 0 from rfl, pb_bit]
    simp [eq_comm]
  have hT0 : T.testBit 0 = true := (hTb 0).mpr (Or.inr rfl)
  have hTF : ∀ t, pf_in t F → T.testBit t = true := fun t ht => (hTb t).mpr (Or.inl (Or.inl ht))
  have hTG : ∀ t, pf_in t G → T.testBit t = true := fun t ht => (hTb t).mpr (Or.inl (Or.inr ht))
  have loop : ∀ (n : Nat) (s : Nat → Nat) (M1 : g_M), 8 ^ 8 - cdx T s 8 = n → gw T s → chx M M1 → mU M1 T → mS M1 T s → M1.1 0 286 16 = (nn T s 8 : Int) → (∀ s', gw T s' → lx T s' s → ∀ b, al s' (it F) (some 0) = some b → ¬ lf2 F G s' b) → g_R (D + 16 + 1) 124 Q 41 [.inr (0, 286), .inl (f : Int), .inl (g : Int), .inl 1] [] M1 := by
    intro n
    induction n using Nat.strongRecOn with
    | _ n ih =>
      intro s M1 hn hgw hc hU hS h16 hbad
      have next : ∀ M2, chx M M2 → mU M2 T → mS M2 T s → (∀ b, al s (it F) (some 0) = some b → ¬ lf2 F G s b) → g_Ev (D + 16) 123 [.inr (0, 286)] M2 (fun q M' => g_R (D + 16 + 1) 124 Q 68 [.inr (0, 286), .inl (f : Int), .inl (g : Int), .inl 1] (q ++ []) M') := fun M2 c2 u2 s2 hb => by
        have same : ∀ s'', eT T s'' s → ∀ b, al s'' (it F) (some 0) = some b → ¬ lf2 F G s'' b := fun s'' he b h2 => by
          rw [al_eT hw hTF he] at h2
          rw [lf2_congr (s := s) (s' := s'') (fun t ht => he t (pf_in_lt hw ht) (hTF t ht)) (fun t ht => he t (pf_in_lt hwG ht) (hTG t ht))]
          exact hb b h2
        refine m_123 (by omega) u2 s2 hT0 hgw (fun M3 s' c3 _ u3 s3 g3 k3 x3 n3 => rp_124_68 rfl ?_) (fun hall => rp_124_68 rfl (rp_124_41 rfl ⟨fun _ => h1 ?_ M2 c2, fun q => absurd rfl q⟩))
        · have hl := cdx_lt g3 (t := 8) (by omega)
          refine ih (8 ^ 8 - cdx T s' 8) (by omega) s' M3 rfl g3 (c2.tr c3) u3 s3 n3 (fun s'' hg2 hl2 => ?_)
          rcases x3 s'' hg2 hl2 with y | y
          · exact hbad s'' hg2 y
          · exact same s'' y
        · rintro ⟨s'', b, hg2, h2, h3⟩
          rcases hall s'' hg2 with y | y
          · exact hbad s'' hg2 y b h2 h3
          · exact same s'' y b h2 h3
      have clF := hS.cl hw hTF hgw
      refine rp_124_41 rfl ⟨fun q => absurd q (by decide), fun _ => m_120 (by omega) hf (hF.kx hc) hw clF (fun b M2 hb b8 c2 bg2 => rp_124_50 rfl ⟨fun q => absurd q (by decide), fun _ => ?_⟩) (fun hb M2 c2 => rp_124_50 rfl ⟨fun _ => next M2 (hc.tr c2.chx) (hU.k0 c2) (hS.k0 c2) (fun b h2 => by rw [hb] at h2; cases h2), fun q => absurd rfl q⟩)⟩
      have hc2 := hc.tr c2.chx
      have hS2 := hS.k0 c2
      have hBG := (al_BG hw hb).2
      refine m_126 (s := s) (b := b) (N := nn T s 8) (by omega) hf (hF.kx hc2) hw (hS2.cl hw hTF hgw) hg (hG.kx hc2) hwG (hS2.cl hwG hTG hgw) hBG b8 bg2 (by rw [c2.2 0 286 (by omega)]; exact h16) (nn_one hT0 hS.1 (by omega)) (nn_le hgw (by omega)) (fun t ht => nn_in (hTG t ht) (pf_in_lt hwG ht)) hS.1 (fun hcv M3 c3 => rp_124_59 rfl ⟨fun _ => next M3 (hc2.tr c3.chx) ((hU.k0 c2).ky c3) (hS2.ky c3) (fun b' h2 => ?_), fun q => absurd q (by decide)⟩) (fun hcv M3 c3 => rp_124_59 rfl ⟨fun q => absurd rfl q, fun _ => h0 ⟨s, b, hgw, hb, hcv⟩ M3 (hc2.tr c3.chx)⟩)
      rw [hb] at h2
      cases h2
      exact fun z => z hcv
  refine rp_124_23 rfl ⟨fun _ => m_118 (T := T) (G := G) (by omega) hf hF hw hwG (Or.inr ⟨g, rfl, hg, hG⟩) (fun t t1 t8 => ?_) (fun M1 c1 u1 z1 => rp_124_35 rfl (m_119 (by omega) u1 z1 hT0 (fun M2 c2 u2 s2 k2 => rp_124_39 rfl (loop _ (fun _ => 0) M2 rfl ?_ (c1.tr c2) u2 s2 ?_ ?_)))), fun q => absurd rfl q⟩
  · rw [hTb]
    constructor
    · rintro (h | h)
      · exact h
      · omega
    · exact Or.inl
  · exact fun t _ _ => Nat.zero_le _
  · rw [k2, nn_z hT0]; rfl
  · rintro s' _ ⟨t, _, _, _, h⟩
    exact absurd h (Nat.not_lt_zero _)
end RB
theorem op_15 {D : Nat} (hD : 30 ≤ D) {M : g_M} (h : St M) (f g : Int) : opE D 62 124 [.inl f, .inl g] M := by
  obtain ⟨n, Fs, cs, vs, c, hs, hc, hm⟩ := id h
  obtain ⟨D, rfl⟩ := g_dep (k := 30) (D := D) hD
  have l := hs.1
  refine g_enter hk_62 hn_62 (rp_62_0 rfl ?_)
  rw [hc.1]
  refine ⟨fun q => ⟨fun q2 => ⟨by omega, ?_⟩, fun q2 => ⟨_, rfl, g_enter hk_124 hn_124 (rp_124_0 rfl ?_)⟩⟩, fun q => ⟨_, rfl, g_enter hk_124 hn_124 (rp_124_0 rfl ?_)⟩⟩
  · obtain ⟨f, hf, rfl⟩ := g_natof q
    obtain ⟨g, hg, rfl⟩ := g_natof q2
    rw [Int.toNat_natCast]
    have hw := hs.2.2.1 f hf
    have hwG := hs.2.2.1 g hg
    refine c_63 (by omega) (hc.2.2.1 g hg) hwG (fun hsp => rp_62_27 rfl ⟨fun q => absurd q (by decide), fun _ => ⟨_, rfl, g_enter hk_124 hn_124 (rp_124_0 rfl ?_)⟩⟩) (fun hsp => rp_62_27 rfl ⟨fun _ => ⟨by omega, by omega, ?_⟩, fun q => absurd rfl q⟩)
    · rw [hm.1]
      exact ⟨fun _ => ⟨fun _ => m_125 (by omega) (by omega) (hm.2.2.1 g hg) hwG (fun _ => rp_124_23 rfl ⟨fun q => absurd q (by decide), fun _ => ⟨rfl, h⟩⟩) (fun z => absurd z hsp), fun z => absurd q2 z⟩, fun z => absurd q z⟩
    · rw [Int.toNat_natCast, Int.toNat_natCast]
      refine c_64 (by omega) (hc.2.2.1 f hf) hw (hc.2.2.1 g hg) hwG (hc.2.2.2.2.elim (fun _ z => z.elim (fun _ z => z.2.2 0 (by omega)))) (fun r M1 hr c1 => rp_62_52 rfl ?_)
      have hc1 : CI M1 n Fs cs vs c := hc.kw c1
      have hm1 : MI M1 n Fs cs vs c := hm.keep c1.cch
      have fin : ∀ v : Int, (PT (pf_terms (Fs f) ||| pf_terms (Fs g) ||| 1) (Fs f) (Fs g) → v = 0) → (¬ PT (pf_terms (Fs f) ||| pf_terms (Fs g) ||| 1) (Fs f) (Fs g) → v = 1) → g_Ev (D + 30) 124 [.inr (0, 286), .inl (f : Int), .inl (g : Int)] M1 (fun r' M3 => r' = [.inl v] ∧ St M3) := fun v v0 v1 => by
        refine g_enter hk_124 hn_124 (rp_124_0 rfl ?_)
        rw [hm1.1]
        exact ⟨fun _ => ⟨fun _ => m_125 (by omega) (by omega) (hm1.2.2.1 g hg) hwG (fun z => absurd hsp z) (fun _ => m_124 (by omega) (by omega) (hm1.2.2.1 f hf) hw (by omega) (hm1.2.2.1 g hg) hwG rfl (fun hy M3 c3 => ⟨by rw [v1 hy], n, Fs, cs, vs, c, hs, hc1.keep c3.mcg, hm1.kx c3⟩) (fun hy M3 c3 => ⟨by rw [v0 hy], n, Fs, cs, vs, c, hs, hc1.keep c3.mcg, hm1.kx c3⟩)), fun z => absurd q2 z⟩, fun z => absurd q z⟩
      rcases hr with ⟨rfl, hr⟩ | ⟨rfl, hr⟩
      · exact ⟨fun q => absurd q (by decide), fun _ => ⟨_, rfl, fin 0 (fun _ => rfl) (fun z => absurd hr z)⟩⟩
      · exact ⟨fun _ => ⟨_, rfl, fin 1 (fun z => absurd z hr) (fun _ => rfl)⟩, fun q => absurd rfl q⟩
  · rw [hm.1]
    exact ⟨fun _ => ⟨fun z => absurd z q2, fun _ => ⟨rfl, h⟩⟩, fun z => absurd q z⟩
  · rw [hm.1]
    exact ⟨fun z => absurd z q, fun _ => ⟨rfl, h⟩⟩

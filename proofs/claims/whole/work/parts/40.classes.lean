/-! the reference's classes: how terms share values, one way after the other -/
def nn (T : Nat) (s : Nat → Nat) : Nat → Nat
  | 0 => 0
  | t + 1 => if T.testBit t = true then max (nn T s t) (s t + 1) else nn T s t
theorem nn_succ {T t : Nat} {s : Nat → Nat} : nn T s (t + 1) = if T.testBit t = true then max (nn T s t) (s t + 1) else nn T s t := rfl
def gw (T : Nat) (s : Nat → Nat) : Prop := ∀ t, t < 8 → T.testBit t = true → s t ≤ nn T s t
theorem nn_congr {T : Nat} {s s' : Nat → Nat} : ∀ {t : Nat}, (∀ x, x < t → T.testBit x = true → s x = s' x) → nn T s t = nn T s' t := by
  intro t
  induction t with
  | zero => intro _; rfl
  | succ t ih =>
    intro h
    rw [nn_succ, nn_succ, ih (fun x hx => h x (by omega))]
    split
    · next z => rw [h t (by omega) z]
    · rfl
theorem RG_nn {T : Nat} {s : Nat → Nat} : ∀ {m k : Nat}, RG T s m k (nn T s k) ↔ ∀ t, k ≤ t → t < k + m → T.testBit t = true → s t ≤ nn T s t := by
  intro m
  induction m with
  | zero =>
    intro k
    exact ⟨fun _ t h1 h2 => by omega, fun _ => True.intro⟩
  | succ m ih =>
    intro k
    rw [RG_succ]
    by_cases z : T.testBit k = true
    · rw [if_pos z, show max (nn T s k) (s k + 1) = nn T s (k + 1) by rw [nn_succ, if_pos z], ih]
      constructor
      · rintro ⟨h1, h2⟩ t h3 h4 h5
        by_cases y : t = k
        · rw [y]; exact h1
        · exact h2 t (by omega) (by omega) h5
      · exact fun h => ⟨h k (by omega) (by omega) z, fun t h3 h4 h5 => h t (by omega) (by omega) h5⟩
    · rw [if_neg z]
      have e : nn T s k = nn T s (k + 1) := by rw [nn_succ, if_neg z]
      rw [e, ih]
      constructor
      · intro h2 t h3 h4 h5
        by_cases y : t = k
        · rw [y] at h5; exact absurd h5 z
        · exact h2 t (by omega) (by omega) h5
      · exact fun h => fun t h3 h4 h5 => h t (by omega) (by omega) h5
theorem RG_gw {T : Nat} {s : Nat → Nat} : RG T s 8 0 0 ↔ gw T s := by
  have := @RG_nn T s 8 0
  exact ⟨fun h t ht htb => this.mp h t (by omega) (by omega) htb, fun h => this.mpr (fun t _ ht htb => h t (by omega) htb)⟩
theorem nn_le {T : Nat} {s : Nat → Nat} (h : gw T s) : ∀ {t : Nat}, t ≤ 8 → nn T s t ≤ t := by
  intro t
  induction t with
  | zero => intro _; exact Nat.le_refl _
  | succ t ih =>
    intro ht
    have := ih (by omega)
    rw [nn_succ]
    split
    · next z => have := h t (by omega) z; omega
    · omega
theorem gw.lt {T t : Nat} {s : Nat → Nat} (h : gw T s) (ht : t < 8) (hb : T.testBit t = true) : s t < 8 := by
  have h1 := h t ht hb
  have h2 := nn_le h (t := t) (by omega)
  omega
theorem nn_mono {T : Nat} {s : Nat → Nat} {t : Nat} : ∀ {t' : Nat}, t ≤ t' → nn T s t ≤ nn T s t' := by
  intro t'
  induction t' with
  | zero => intro h; rw [show t = 0 by omega]; exact Nat.le_refl _
  | succ t' ih =>
    intro h
    by_cases z : t = t' + 1
    · rw [z]; exact Nat.le_refl _
    · have := ih (by omega)
      rw [nn_succ]
      split <;> omega
theorem nn_one {T : Nat} {s : Nat → Nat} (h : T.testBit 0 = true) (h0 : s 0 = 0) {t : Nat} (ht : 1 ≤ t) : 1 ≤ nn T s t := by
  have : nn T s 1 = 1 := by rw [nn_succ, if_pos h, h0]; rfl
  rw [← this]
  exact nn_mono ht
/-- how many terms of T beside 0 stand below t -/
def ct (T : Nat) : Nat → Nat
  | 0 => 0
  | t + 1 => if 1 ≤ t ∧ T.testBit t = true then ct T t + 1 else ct T t
theorem ct_succ {T t : Nat} : ct T (t + 1) = if 1 ≤ t ∧ T.testBit t = true then ct T t + 1 else ct T t := rfl
theorem ct_1 {T : Nat} : ct T 1 = 0 := by rw [ct_succ, if_neg (by omega)]; rfl
theorem ct_mono {T t : Nat} : ∀ {t' : Nat}, t ≤ t' → ct T t ≤ ct T t' := by
  intro t'
  induction t' with
  | zero => intro h; rw [show t = 0 by omega]; exact Nat.le_refl _
  | succ t' ih =>
    intro h
    by_cases z : t = t' + 1
    · rw [z]; exact Nat.le_refl _
    · have := ih (by omega)
      rw [ct_succ]
      split <;> omega
theorem ct_lt {T : Nat} : ∀ {t : Nat}, ct T t ≤ t - 1 := by
  intro t
  induction t with
  | zero => exact Nat.le_refl _
  | succ t ih =>
    rw [ct_succ]
    split <;> omega
theorem ct_gap {T t : Nat} (ht : 1 ≤ t) : ∀ {t' : Nat}, t ≤ t' → (∀ x, t ≤ x → x < t' → T.testBit x = false) → ct T t' = ct T t := by
  intro t'
  induction t' with
  | zero => intro h; omega
  | succ t' ih =>
    intro h hn
    by_cases z : t = t' + 1
    · rw [z]
    · rw [ct_succ, if_neg, ih (by omega) (fun x h1 h2 => hn x h1 (by omega))]
      rw [hn t' (by omega) (by omega)]
      simp
theorem nn_gap {T t : Nat} {s : Nat → Nat} : ∀ {t' : Nat}, t ≤ t' → (∀ x, t ≤ x → x < t' → T.testBit x = false) → nn T s t' = nn T s t := by
  intro t'
  induction t' with
  | zero => intro h _; rw [show t = 0 by omega]
  | succ t' ih =>
    intro h hn
    by_cases z : t = t' + 1
    · rw [z]
    · rw [nn_succ, if_neg, ih (by omega) (fun x h1 h2 => hn x h1 (by omega))]
      rw [hn t' (by omega) (by omega)]
      simp
theorem ct_next {T : Nat} : ∀ (m : Nat) {t : Nat}, t + m = 8 → 1 ≤ t → ct T t < ct T 8 → ∃ t', t ≤ t' ∧ t' < 8 ∧ T.testBit t' = true ∧ ∀ x, t ≤ x → x < t' → T.testBit x = false := by
  intro m
  induction m with
  | zero => intro t h1 h2 h3; rw [show t = 8 by omega] at h3; omega
  | succ m ih =>
    intro t h1 h2 h3
    by_cases z : T.testBit t = true
    · exact ⟨t, by omega, by omega, z, fun x h4 h5 => by omega⟩
    · have e : ct T (t + 1) = ct T t := by rw [ct_succ, if_neg (fun y => z y.2)]
      obtain ⟨t', k1, k2, k3, k4⟩ := ih (t := t + 1) (by omega) (by omega) (by omega)
      refine ⟨t', by omega, k2, k3, fun x h4 h5 => ?_⟩
      by_cases y : x = t
      · rw [y]; simpa using z
      · exact k4 x (by omega) h5
theorem ct_prev {T : Nat} : ∀ {t : Nat}, 1 ≤ t → 1 ≤ ct T t → ∃ p, 1 ≤ p ∧ p < t ∧ T.testBit p = true ∧ ct T t = ct T p + 1 ∧ ∀ x, p < x → x < t → T.testBit x = false := by
  intro t
  induction t with
  | zero => intro h; omega
  | succ t ih =>
    intro h1 h2
    by_cases z : 1 ≤ t ∧ T.testBit t = true
    · exact ⟨t, z.1, by omega, z.2, by rw [ct_succ, if_pos z], fun x h3 h4 => by omega⟩
    · have e : ct T (t + 1) = ct T t := by rw [ct_succ, if_neg z]
      rw [e] at h2
      have h3 : 1 ≤ t := by
        rcases Nat.eq_zero_or_pos t with y | y
        · rw [y] at h2; exact absurd h2 (Nat.not_succ_le_zero 0)
        · exact y
      obtain ⟨p, k1, k2, k3, k4, k5⟩ := ih h3 h2
      refine ⟨p, k1, by omega, k3, e.trans k4, fun x h4 h5 => ?_⟩
      by_cases y : x = t
      · rw [y]
        cases w : T.testBit t
        · rfl
        · exact absurd ⟨h3, w⟩ z
      · exact k5 x h4 (by omega)
/-- the first term at which two ways part -/
def lx (T : Nat) (s s' : Nat → Nat) : Prop := ∃ t, t < 8 ∧ T.testBit t = true ∧ (∀ x, x < t → T.testBit x = true → s x = s' x) ∧ s t < s' t
def eT (T : Nat) (s s' : Nat → Nat) : Prop := ∀ x, x < 8 → T.testBit x = true → s x = s' x
theorem fst_dif {T : Nat} {s s' : Nat → Nat} : ∀ (m : Nat), (∀ x, x < m → T.testBit x = true → s x = s' x) ∨ ∃ t, t < m ∧ T.testBit t = true ∧ (∀ x, x < t → T.testBit x = true → s x = s' x) ∧ s t ≠ s' t := by
  intro m
  induction m with
  | zero => exact Or.inl (fun x hx => by omega)
  | succ m ih =>
    rcases ih with h | ⟨t, h1, h2⟩
    · by_cases z : T.testBit m = true ∧ s m ≠ s' m
      · exact Or.inr ⟨m, by omega, z.1, h, z.2⟩
      · refine Or.inl (fun x hx hb => ?_)
        by_cases y : x = m
        · subst y
          exact Classical.byContradiction (fun w => z ⟨hb, w⟩)
        · exact h x (by omega) hb
    · exact Or.inr ⟨t, by omega, h2⟩
/-- where s is full from t on, every way that agrees below t comes before it -/
theorem lx_full {T t : Nat} {s s' : Nat → Nat} (hg : gw T s') (hag : ∀ x, x < t → T.testBit x = true → s' x = s x) (hf : ∀ x, t ≤ x → x < 8 → T.testBit x = true → nn T s x ≤ s x) : lx T s' s ∨ eT T s' s := by
  rcases fst_dif (T := T) (s := s') (s' := s) 8 with h | ⟨p, h1, h2, h3, h4⟩
  · exact Or.inr h
  · have hp : t ≤ p := by
      rcases Nat.lt_or_ge p t with y | y
      · exact absurd (hag p y h2) h4
      · exact y
    have h5 := hg p h1 h2
    rw [nn_congr h3] at h5
    have h6 := hf p hp h1 h2
    exact Or.inl ⟨p, h1, h2, h3, by omega⟩
def cdx (T : Nat) (s : Nat → Nat) : Nat → Nat
  | 0 => 0
  | t + 1 => 8 * cdx T s t + if T.testBit t = true then s t else 0
theorem cdx_succ {T t : Nat} {s : Nat → Nat} : cdx T s (t + 1) = 8 * cdx T s t + if T.testBit t = true then s t else 0 := rfl
theorem cdx_lt {T : Nat} {s : Nat → Nat} (h : gw T s) : ∀ {t : Nat}, t ≤ 8 → cdx T s t < 8 ^ t := by
  intro t
  induction t with
  | zero => intro _; exact Nat.one_pos
  | succ t ih =>
    intro ht
    have := ih (by omega)
    rw [cdx_succ, Nat.pow_succ]
    split
    · next z => have := h.lt (by omega) z; omega
    · omega
theorem cdx_up {T : Nat} {s s' : Nat → Nat} (h : gw T s) {p : Nat} (hp : p < 8) (hb : T.testBit p = true) (hag : ∀ x, x < p → T.testBit x = true → s x = s' x) (hl : s p < s' p) : ∀ {t : Nat}, p + 1 ≤ t → t ≤ 8 → cdx T s t < cdx T s' t := by
  have e : ∀ {t : Nat}, t ≤ p → cdx T s t = cdx T s' t := by
    intro t
    induction t with
    | zero => intro _; rfl
    | succ t ih =>
      intro ht
      rw [cdx_succ, cdx_succ, ih (by omega)]
      split
      · next z => rw [hag t (by omega) z]
      · rfl
  intro t
  induction t with
  | zero => intro h; omega
  | succ t ih =>
    intro h1 h2
    rw [cdx_succ, cdx_succ]
    by_cases z : t = p
    · subst z
      rw [e (Nat.le_refl _), if_pos hb, if_pos hb]
      omega
    · have := ih (by omega) (by omega)
      have h3 : (if T.testBit t = true then s t else 0) < 8 := by
        split
        · next z => exact h.lt (by omega) z
        · omega
      omega
/-- only the reference's classes and what it builds of them has changed -/
def chx (M M' : g_M) : Prop := M'.2 = M.2 ∧ (∀ t n, ¬ (t = 0 ∧ (n = 286 ∨ 298 ≤ n ∧ n ≤ 305)) → M'.1 t n = M.1 t n) ∧ ∀ k, k ≠ 15 → k ≠ 16 → k ≠ 19 → k ≠ 23 → M'.1 0 286 k = M.1 0 286 k
theorem chx.rf {M : g_M} : chx M M := ⟨rfl, fun _ _ _ => rfl, fun _ _ _ _ _ => rfl⟩
theorem chx.tr {M M' M'' : g_M} (h : chx M M') (h' : chx M' M'') : chx M M'' := ⟨h'.1.trans h.1, fun t n hn => (h'.2.1 t n hn).trans (h.2.1 t n hn), fun k a b c d => (h'.2.2 k a b c d).trans (h.2.2 k a b c d)⟩
theorem chx.row {M : g_M} {n k : Nat} {v : Int} (hn : 298 ≤ n ∧ n ≤ 305) : chx M (g_uA M (0, n) k v) := by
  refine ⟨rfl, fun t m hm => ?_, fun j _ _ _ _ => ?_⟩
  · funext a
    rw [g_uA_at, if_neg]
    rintro ⟨rfl, rfl, -⟩
    exact hm ⟨rfl, Or.inr hn⟩
  · rw [g_uA_at, if_neg (by omega)]
theorem chx.fld {M : g_M} {k : Nat} {v : Int} (hk : k = 15 ∨ k = 16 ∨ k = 19 ∨ k = 23) : chx M (g_uA M (0, 286) k v) := by
  refine ⟨rfl, fun t m hm => ?_, fun j _ _ _ _ => ?_⟩
  · funext a
    rw [g_uA_at, if_neg]
    rintro ⟨rfl, rfl, -⟩
    exact hm ⟨rfl, Or.inl rfl⟩
  · rw [g_uA_at, if_neg (by omega)]
theorem mF.kx {M M' : g_M} {g : Nat} {F : pf_F} (h : mF M g F) (hc : chx M M') : mF M' g F := h.kd (fun n _ _ => hc.2.1 0 n (by omega))
/-- the terms in use -/
def mU (M : g_M) (T : Nat) : Prop := M.1 0 286 15 = (ct T 8 : Int) ∧ ∀ t, 1 ≤ t → t < 8 → T.testBit t = true → M.1 0 299 (ct T t) = (t : Int)
/-- their classes -/
def mS (M : g_M) (T : Nat) (s : Nat → Nat) : Prop := s 0 = 0 ∧ M.1 0 298 0 = 0 ∧ ∀ t, t < 8 → T.testBit t = true → M.1 0 298 t = (s t : Int)
theorem mU.at {M : g_M} {T : Nat} (h : mU M T) {i : Nat} {t : Nat} (ht : 1 ≤ t) (hi : i = ct T t) (hlt : i < ct T 8) (h8 : t ≤ 8) : ∃ t', t ≤ t' ∧ t' < 8 ∧ T.testBit t' = true ∧ M.1 0 299 i = (t' : Int) ∧ (∀ x, t ≤ x → x < t' → T.testBit x = false) ∧ ct T (t' + 1) = i + 1 := by
  subst hi
  obtain ⟨t', h1, h2, h3, h4⟩ := ct_next (T := T) (8 - t) (t := t) (by omega) ht hlt
  have e := ct_gap ht h1 h4
  refine ⟨t', h1, h2, h3, ?_, h4, ?_⟩
  · rw [← e]; exact h.2 t' (by omega) h2 h3
  · rw [ct_succ, if_pos ⟨by omega, h3⟩, e]
section CL
variable {D : Nat} {M : g_M} {T : Nat} {Q : g_P}
theorem m_118 (hD : 5 ≤ D) {f : Nat} {F : pf_F} (hf : f < 200) (hF : mF M f F) (hwF : pf_wf F) {z : Int} {G : pf_F} (hwG : pf_wf G) (hz : (z = -1 ∧ G = ([], [])) ∨ ∃ g : Nat, z = (g : Int) ∧ g < 200 ∧ mF M g G)
    (hT : ∀ t, 1 ≤ t → t < 8 → (T.testBit t = true ↔ pf_in t F ∨ pf_in t G))
    (h : ∀ M', chx M M' → mU M' T → M'.1 0 298 0 = 0 → Q [] M') : g_Ev D 118 [.inr (0, 286), .inl (f : Int), .inl z] M Q := by
  obtain ⟨D, rfl⟩ := g_dep hD
  have loop : ∀ (n t : Nat) (x : Int) (M1 : g_M), t + n = 8 → 1 ≤ t → x = (t : Int) → chx M M1 → M1.1 0 286 15 = (ct T t : Int) → (∀ u, 1 ≤ u → u < t → T.testBit u = true → M1.1 0 299 (ct T u) = (u : Int)) → g_R (D + 5) 118 Q 7 [.inr (0, 286), .inl (f : Int), .inl z, .inl x] [] M1 := by
    intro n
    induction n with
    | zero =>
      intro t x M1 ht h1 hx hc h15 hu
      obtain rfl : t = 8 := by omega
      subst hx
      refine rp_118_7 rfl ⟨fun _ => h _ (hc.tr (chx.row (by omega))) ⟨?_, fun u k1 k2 k3 => ?_⟩ ?_, fun q => by exfalso; omega⟩
      · rw [g_uA_at, if_neg (by omega)]; exact h15
      · rw [g_uA_at, if_neg (by omega)]; exact hu u k1 k2 k3
      · rw [g_uA_at, if_pos ⟨rfl, rfl, rfl⟩]
    | succ n ih =>
      intro t x M1 ht h1 hx hc h15 hu
      subst hx
      have hl := @ct_lt T t
      have add : T.testBit t = true → ((0 : Int) ≤ M1.1 0 286 15 ∧ M1.1 0 286 15 < ((8 : Nat) : Int)) ∧ ((hm_in ((M1.1 0 286 15) + (1 : Int))) ∧ ((hm_in ((t : Int) + (1 : Int))) ∧ (g_R (D + 5) 118 Q 7 [.inr (0, 286), .inl (f : Int), .inl z, .inl ((t : Int) + (1 : Int))] [] (g_uA (g_uA M1 (0, 299) (M1.1 0 286 15).toNat (t : Int)) (0, 286) 15 ((M1.1 0 286 15) + (1 : Int)))))) := fun hb => by
        rw [h15, Int.toNat_natCast]
        refine ⟨by omega, by unfold hm_in; omega, by unfold hm_in; omega, ih (t + 1) _ _ (by omega) (by omega) (by omega) ((hc.tr (chx.row (by omega))).tr (chx.fld (by omega))) ?_ (fun u k1 k2 k3 => ?_)⟩
        · rw [g_uA_at, if_pos ⟨rfl, rfl, rfl⟩, ct_succ, if_pos ⟨h1, hb⟩]; omega
        · rw [g_uA_at, if_neg (by omega), g_uA_at]
          by_cases y : u = t
          · rw [y, if_pos ⟨rfl, rfl, rfl⟩]
          · have e1 : ct T (u + 1) = ct T u + 1 := by rw [ct_succ, if_pos ⟨k1, k3⟩]
            have e2 : ct T (u + 1) ≤ ct T t := ct_mono (by omega)
            rw [if_neg (by omega)]
            exact hu u k1 (by omega) k3
      have skip : T.testBit t = false → (hm_in ((t : Int) + (1 : Int))) ∧ (g_R (D + 5) 118 Q 7 [.inr (0, 286), .inl (f : Int), .inl z, .inl ((t : Int) + (1 : Int))] [] M1) := fun hb => by
        refine ⟨by unfold hm_in; omega, ih (t + 1) _ _ (by omega) (by omega) (by omega) hc ?_ (fun u k1 k2 k3 => ?_)⟩
        · rw [h15, ct_succ, if_neg (by rw [hb]; simp)]
        · refine hu u k1 ?_ k3
          by_cases y : u = t
          · rw [y, hb] at k3; cases k3
          · omega
      have bf : ∀ {P : Prop}, (T.testBit t = true ↔ P) → ¬ P → T.testBit t = false := fun hP hn => by
        cases w : T.testBit t
        · rfl
        · exact absurd (hP.mp w) hn
      refine rp_118_7 rfl ⟨fun q => by exfalso; omega, fun _ => m_112 (by omega) hf (hF.kx hc) hwF (fun n hn hi => rp_118_19 rfl ⟨fun _ => add ?_, fun q => absurd q (by decide)⟩) (fun hno => rp_118_19 rfl ⟨fun q => absurd rfl q, fun _ => ⟨fun q => skip ?_, fun q => ?_⟩⟩)⟩
      · obtain rfl : t = n := by omega
        exact (hT t h1 (by omega)).mpr (Or.inl hi)
      · refine bf (hT t h1 (by omega)) ?_
        rintro (w | w)
        · exact hno t rfl w
        · rcases hz with ⟨_, y⟩ | ⟨g, y, _⟩
          · subst y
            rcases w with ⟨p, hp, _⟩ | ⟨p, hp, _⟩ <;> exact absurd hp List.not_mem_nil
          · exfalso; omega
      · obtain ⟨g, e, g1, g2⟩ : ∃ g : Nat, z = (g : Int) ∧ g < 200 ∧ mF M g G := by
          rcases hz with ⟨y, _⟩ | y
          · exfalso; omega
          · exact y
        subst e
        refine m_112 (by omega) g1 (g2.kx hc) hwG (fun n hn hi => rp_118_32 rfl ⟨fun _ => add ?_, fun q => absurd q (by decide)⟩) (fun hno2 => rp_118_32 rfl ⟨fun q => absurd rfl q, fun _ => skip ?_⟩)
        · obtain rfl : t = n := by omega
          exact (hT t h1 (by omega)).mpr (Or.inr hi)
        · refine bf (hT t h1 (by omega)) ?_
          rintro (w | w)
          · exact hno t rfl w
          · exact hno2 t rfl w
  refine g_enter hk_118 hn_118 (rp_118_0 rfl (loop 7 1 _ _ (by omega) (by omega) rfl (chx.fld (by omega)) ?_ (fun u k1 k2 => by omega)))
  rw [g_uA_at, if_pos ⟨rfl, rfl, rfl⟩, ct_1]
  rfl
theorem m_119 (hD : 3 ≤ D) (hU : mU M T) (h0 : M.1 0 298 0 = 0) (hT0 : T.testBit 0 = true) (h : ∀ M', chx M M' → mU M' T → mS M' T (fun _ => 0) → M'.1 0 286 16 = 1 → Q [] M') : g_Ev D 119 [.inr (0, 286)] M Q := by
  obtain ⟨D, rfl⟩ := g_dep hD
  have loop : ∀ (n i t : Nat) (x : Int) (M1 : g_M), i + n = ct T 8 → x = (i : Int) → 1 ≤ t → t ≤ 8 → i = ct T t → chx M M1 → mU M1 T → M1.1 0 298 0 = 0 → (∀ u, u < t → T.testBit u = true → M1.1 0 298 u = 0) → g_R (D + 3) 119 Q 2 [.inr (0, 286), .inl x] [] M1 := by
    intro n
    induction n with
    | zero =>
      intro i t x M1 hi hx h1 h8 hit hc hU1 hz hs
      subst hx
      refine rp_119_2 rfl ⟨fun _ => h _ (hc.tr (chx.fld (by omega))) ⟨?_, fun u k1 k2 k3 => ?_⟩ ⟨rfl, ?_, fun u k1 k2 => ?_⟩ ?_, fun q => by rw [hU1.1] at q; exfalso; omega⟩
      · rw [g_uA_at, if_neg (by omega)]; exact hU1.1
      · rw [g_uA_at, if_neg (by omega)]; exact hU1.2 u k1 k2 k3
      · rw [g_uA_at, if_neg (by omega)]; exact hz
      · rw [g_uA_at, if_neg (by omega)]
        refine hs u ?_ k2
        rcases Nat.lt_or_ge u t with y | y
        · exact y
        · have e1 : ct T (u + 1) = ct T u + 1 := by rw [ct_succ, if_pos ⟨by omega, k2⟩]
          have e2 : ct T (u + 1) ≤ ct T 8 := ct_mono (by omega)
          have e3 : ct T t ≤ ct T u := ct_mono y
          omega
      · rw [g_uA_at, if_pos ⟨rfl, rfl, rfl⟩]
    | succ n ih =>
      intro i t x M1 hi hx h1 h8 hit hc hU1 hz hs
      subst hx
      obtain ⟨p, p1, p2, p3, p4, p5, p6⟩ := hU1.at h1 hit (by omega) h8
      have hl := @ct_lt T 8
      refine rp_119_2 rfl ⟨fun q => by rw [hU1.1] at q; exfalso; omega, fun _ => ?_⟩
      rw [Int.toNat_natCast, p4, Int.toNat_natCast]
      refine ⟨by omega, by omega, by unfold hm_in; omega, ih (i + 1) (p + 1) _ _ (by omega) (by omega) (by omega) (by omega) p6.symm (hc.tr (chx.row (by omega))) ⟨?_, fun u k1 k2 k3 => ?_⟩ ?_ (fun u k1 k2 => ?_)⟩
      · rw [g_uA_at, if_neg (by omega)]; exact hU1.1
      · rw [g_uA_at, if_neg (by omega)]; exact hU1.2 u k1 k2 k3
      · rw [g_uA_at, if_neg (by omega)]; exact hz
      · rw [g_uA_at]
        by_cases y : u = p
        · rw [if_pos ⟨rfl, rfl, y⟩]
        · rw [if_neg (fun w => y w.2.2)]
          refine hs u ?_ k2
          rcases Nat.lt_or_ge u t with w | w
          · exact w
          · rw [p5 u w (by omega)] at k2; cases k2
  exact g_enter hk_119 hn_119 (rp_119_0 rfl (loop (ct T 8) 0 1 0 M (by omega) rfl (by omega) (by omega) ct_1.symm chx.rf hU h0 (fun u k1 k2 => by rw [show u = 0 by omega]; exact h0)))
/-- the next way -/
def nxw (s : Nat → Nat) (p x : Nat) : Nat := if x < p then s x else if x = p then s p + 1 else 0
theorem m_123 (hD : 3 ≤ D) (hU : mU M T) {s : Nat → Nat} (hs : mS M T s) (hT0 : T.testBit 0 = true) (hg : gw T s)
    (h1 : ∀ M' s', chx M M' → (∀ n, n ≠ 286 → n ≠ 298 → M'.1 0 n = M.1 0 n) → mU M' T → mS M' T s' → gw T s' → cdx T s 8 < cdx T s' 8 → (∀ s'', gw T s'' → lx T s'' s' → lx T s'' s ∨ eT T s'' s) → M'.1 0 286 16 = (nn T s' 8 : Int) → Q [.inl 1] M')
    (h0 : (∀ s'', gw T s'' → lx T s'' s ∨ eT T s'' s) → Q [.inl 0] M) : g_Ev D 123 [.inr (0, 286)] M Q := by
  obtain ⟨D, rfl⟩ := g_dep hD
  have hl8 := @ct_lt T 8
  have loop3 : ∀ (s' : Nat → Nat) (y : Int), gw T s' → cdx T s 8 < cdx T s' 8 → (∀ s'', gw T s'' → lx T s'' s' → lx T s'' s ∨ eT T s'' s) → ∀ (n i t : Nat) (x : Int) (M1 : g_M), i + n = ct T 8 → x = (i : Int) → 1 ≤ t → t ≤ 8 → i = ct T t → chx M M1 → (∀ n, n ≠ 286 → n ≠ 298 → M1.1 0 n = M.1 0 n) → mU M1 T → mS M1 T s' → M1.1 0 286 16 = (nn T s' t : Int) → g_R (D + 3) 123 Q 139 [.inr (0, 286), .inl y, .inl x] [] M1 := by
    intro s' y hg' hcd hlx n
    induction n with
    | zero =>
      intro i t x M1 hi hx k1 k8 hit hc hn1 hU1 hs1 h16
      subst hx
      refine rp_123_139 rfl ⟨fun _ => h1 M1 s' hc hn1 hU1 hs1 hg' hcd hlx ?_, fun q => by rw [hU1.1] at q; exfalso; omega⟩
      rw [h16, nn_gap k8 (fun u j1 j2 => ?_)]
      cases w : T.testBit u
      · rfl
      · have e1 : ct T (u + 1) = ct T u + 1 := by rw [ct_succ, if_pos ⟨by omega, w⟩]
        have e2 : ct T (u + 1) ≤ ct T 8 := ct_mono (by omega)
        have e3 : ct T t ≤ ct T u := ct_mono j1
        omega
    | succ n ih =>
      intro i t x M1 hi hx k1 k8 hit hc hn1 hU1 hs1 h16
      subst hx
      obtain ⟨p, p1, p2, p3, p4, p5, p6⟩ := hU1.at k1 hit (by omega) k8
      have ep := hs1.2.2 p p2 p3
      have lp := hg'.lt p2 p3
      have en : nn T s' (p + 1) = max (nn T s' t) (s' p + 1) := by rw [nn_succ, if_pos p3, nn_gap p1 p5]
      have fin : ∀ v : Int, v = (nn T s' (p + 1) : Int) → g_R (D + 3) 123 Q 139 [.inr (0, 286), .inl y, .inl ((i : Int) + 1)] [] (g_uA M1 (0, 286) 16 v) := fun v hv => by
        refine ih (i + 1) (p + 1) _ _ (by omega) (by omega) (by omega) (by omega) p6.symm (hc.tr (chx.fld (by omega))) (fun n m1 m2 => ?_) ⟨?_, fun u j1 j2 j3 => ?_⟩ ⟨hs1.1, ?_, fun u j1 j2 => ?_⟩ ?_
        · rw [← hn1 n m1 m2]
          funext a
          rw [g_uA_at, if_neg (by omega)]
        · rw [g_uA_at, if_neg (by omega)]; exact hU1.1
        · rw [g_uA_at, if_neg (by omega)]; exact hU1.2 u j1 j2 j3
        · rw [g_uA_at, if_neg (by omega)]; exact hs1.2.1
        · rw [g_uA_at, if_neg (by omega)]; exact hs1.2.2 u j1 j2
        · rw [g_uA_at, if_pos ⟨rfl, rfl, rfl⟩]; exact hv
      refine rp_123_139 rfl ⟨fun q => by rw [hU1.1] at q; exfalso; omega, fun _ => ?_⟩
      rw [Int.toNat_natCast, p4, Int.toNat_natCast, ep, h16]
      refine ⟨by omega, by omega, fun q => ⟨by unfold hm_in; omega, fin _ (by omega)⟩, fun q => ⟨by unfold hm_in; omega, by unfold hm_in; omega, fin _ (by omega)⟩⟩
  have loop2 : ∀ (p : Nat) (y : Int), 1 ≤ p → p < 8 → T.testBit p = true → s p < nn T s p → (∀ x, p < x → x < 8 → T.testBit x = true → nn T s x ≤ s x) → ∀ (n i t : Nat) (x : Int) (M1 : g_M), i + n = ct T 8 → x = (i : Int) → p < t → t ≤ 8 → i = ct T t → chx M M1 → (∀ n, n ≠ 286 → n ≠ 298 → M1.1 0 n = M.1 0 n) → mU M1 T → M1.1 0 298 0 = 0 → (∀ u, u < t → T.testBit u = true → M1.1 0 298 u = (nxw s p u : Int)) → g_R (D + 3) 123 Q 106 [.inr (0, 286), .inl y, .inl x] [] M1 := by
    intro p y p1 p2 p3 p4 p5 n
    induction n with
    | zero =>
      intro i t x M1 hi hx k1 k8 hit hc hn1 hU1 hz hs1
      subst hx
      have b0 : ∀ x, x < p → nxw s p x = s x := fun x hx => by unfold nxw; rw [if_pos hx]
      have bp : nxw s p p = s p + 1 := by unfold nxw; rw [if_neg (by omega), if_pos rfl]
      have b1 : ∀ x, p < x → nxw s p x = 0 := fun x hx => by unfold nxw; rw [if_neg (by omega), if_neg (by omega)]
      have hg' : gw T (nxw s p) := fun u hu hb => by
        rcases Nat.lt_trichotomy u p with w | w | w
        · rw [b0 u w, nn_congr (s' := s) (fun x hx _ => b0 x (by omega))]; exact hg u hu hb
        · subst w; rw [bp, nn_congr (s' := s) (fun x hx _ => b0 x (by omega))]; omega
        · rw [b1 u w]; omega
      have hcd : cdx T s 8 < cdx T (nxw s p) 8 := cdx_up hg p2 p3 (fun x hx _ => (b0 x hx).symm) (by rw [bp]; omega) (by omega) (by omega)
      have hlx : ∀ s'', gw T s'' → lx T s'' (nxw s p) → lx T s'' s ∨ eT T s'' s := by
        rintro s'' hg2 ⟨t, t1, t2, t3, t4⟩
        rcases Nat.lt_trichotomy t p with w | w | w
        · rw [b0 t w] at t4
          exact Or.inl ⟨t, t1, t2, fun x hx hb => by rw [t3 x hx hb, b0 x (by omega)], t4⟩
        · subst w
          rw [bp] at t4
          have hb4 : ∀ x, x < t → T.testBit x = true → s'' x = s x := fun x hx hb => by rw [t3 x hx hb, b0 x hx]
          by_cases v : s'' t = s t
          · refine lx_full (t := t + 1) hg2 (fun x hx hb => ?_) (fun x hx h8 hb => p5 x (by omega) h8 hb)
            by_cases r : x = t
            · rw [r]; exact v
            · exact hb4 x (by omega) hb
          · exact Or.inl ⟨t, t1, t2, hb4, by omega⟩
        · rw [b1 t w] at t4; omega
      refine rp_123_106 rfl ⟨fun _ => loop3 (nxw s p) y hg' hcd hlx (ct T 8) 0 1 0 _ (by omega) rfl (by omega) (by omega) ct_1.symm (hc.tr (chx.fld (by omega))) (fun n m1 m2 => ?_) ⟨?_, fun u j1 j2 j3 => ?_⟩ ⟨?_, ?_, fun u j1 j2 => ?_⟩ ?_, fun q => by rw [hU1.1] at q; exfalso; omega⟩
      · rw [← hn1 n m1 m2]
        funext a
        rw [g_uA_at, if_neg (by omega)]
      · rw [g_uA_at, if_neg (by omega)]; exact hU1.1
      · rw [g_uA_at, if_neg (by omega)]; exact hU1.2 u j1 j2 j3
      · rw [b0 0 (by omega)]; exact hs.1
      · rw [g_uA_at, if_neg (by omega)]; exact hz
      · rw [g_uA_at, if_neg (by omega)]
        refine hs1 u ?_ j2
        rcases Nat.lt_or_ge u t with y | y
        · exact y
        · have e1 : ct T (u + 1) = ct T u + 1 := by rw [ct_succ, if_pos ⟨by omega, j2⟩]
          have e2 : ct T (u + 1) ≤ ct T 8 := ct_mono (by omega)
          have e3 : ct T t ≤ ct T u := ct_mono y
          omega
      · rw [g_uA_at, if_pos ⟨rfl, rfl, rfl⟩, nn_succ, if_pos hT0, b0 0 (by omega), hs.1]; rfl
    | succ n ih =>
      intro i t x M1 hi hx k1 k8 hit hc hn1 hU1 hz hs1
      subst hx
      obtain ⟨r, r1, r2, r3, r4, r5, r6⟩ := hU1.at (by omega) hit (by omega) k8
      refine rp_123_106 rfl ⟨fun q => by rw [hU1.1] at q; exfalso; omega, fun _ => ?_⟩
      rw [Int.toNat_natCast, r4, Int.toNat_natCast]
      refine ⟨by omega, by omega, by unfold hm_in; omega, ih (i + 1) (r + 1) _ _ (by omega) (by omega) (by omega) (by omega) r6.symm (hc.tr (chx.row (by omega))) (fun n m1 m2 => ?_) ⟨?_, fun u j1 j2 j3 => ?_⟩ ?_ (fun u j1 j2 => ?_)⟩
      · rw [← hn1 n m1 m2]
        funext a
        rw [g_uA_at, if_neg (by omega)]
      · rw [g_uA_at, if_neg (by omega)]; exact hU1.1
      · rw [g_uA_at, if_neg (by omega)]; exact hU1.2 u j1 j2 j3
      · rw [g_uA_at, if_neg (by omega)]; exact hz
      · rw [g_uA_at]
        by_cases y : u = r
        · rw [if_pos ⟨rfl, rfl, y⟩]
          unfold nxw
          rw [if_neg (by omega), if_neg (by omega)]
          rfl
        · rw [if_neg (fun w => y w.2.2)]
          refine hs1 u ?_ j2
          rcases Nat.lt_or_ge u t with w | w
          · exact w
          · rw [r5 u w (by omega)] at j2; cases j2
  have loop1 : ∀ (n t : Nat) (x : Int), n = ct T t → 1 ≤ t → t ≤ 8 → x = (n : Int) - 1 → (∀ x, t ≤ x → x < 8 → T.testBit x = true → nn T s x ≤ s x) → g_R (D + 3) 123 Q 7 [.inr (0, 286), .inl x] [] M := by
    intro n
    induction n with
    | zero =>
      intro t x hn t1 t8 hx hfull
      subst hx
      refine rp_123_7 rfl ⟨fun _ => h0 (fun s'' hg2 => lx_full (t := t) hg2 (fun x hx hb => ?_) hfull), fun q => by exfalso; omega⟩
      rcases Nat.eq_zero_or_pos x with y | y
      · subst y
        have := hg2 0 (by omega) hb
        rw [hs.1]
        exact Nat.le_zero.mp this
      · have e1 : ct T (x + 1) = ct T x + 1 := by rw [ct_succ, if_pos ⟨y, hb⟩]
        have e2 : ct T (x + 1) ≤ ct T t := ct_mono hx
        omega
    | succ n ih =>
      intro t x hn t1 t8 hx hfull
      obtain rfl : x = (n : Int) := by omega
      obtain ⟨p, p1, p2, p3, p4, p5⟩ := ct_prev (T := T) t1 (by omega)
      have ecp : ct T p = n := by omega
      have ep := hs.2.2 p (by omega) p3
      have hep := hU.2 p p1 (by omega) p3
      rw [ecp] at hep
      have lp := hg.lt (by omega) p3
      have hct : n < ct T 8 := by have : ct T t ≤ ct T 8 := ct_mono t8; omega
      have inner : ∀ (m i u : Nat) (y z : Int), i + m = n → z = (i : Int) → i = ct T u → 1 ≤ u → u ≤ p → y + 1 = (nn T s u : Int) → g_R (D + 3) 123 Q 15 [.inr (0, 286), .inl (n : Int), .inl y, .inl z] [] M := by
        intro m
        induction m with
        | zero =>
          intro i u y z hi hz hiu u1 up hy
          subst hz
          have gap : ∀ x, u ≤ x → x < p → T.testBit x = false := fun x x1 x2 => by
            cases w : T.testBit x
            · rfl
            · have e1 : ct T (x + 1) = ct T x + 1 := by rw [ct_succ, if_pos ⟨by omega, w⟩]
              have e2 : ct T (x + 1) ≤ ct T p := ct_mono (by omega)
              have e3 : ct T u ≤ ct T x := ct_mono x1
              omega
          have en := nn_gap (s := s) up gap
          refine rp_123_15 rfl ⟨fun _ => ?_, fun q => by exfalso; omega⟩
          rw [Int.toNat_natCast, hep, Int.toNat_natCast, ep]
          refine ⟨by omega, by omega, fun q => ⟨by unfold hm_in; omega, ih p _ ecp.symm p1 (by omega) (by omega) (fun x x1 x2 xb => ?_)⟩, fun q => ⟨fun _ => ⟨by unfold hm_in; omega, by unfold hm_in; omega, ?_⟩, fun q2 => by exfalso; omega⟩⟩
          · rcases Nat.lt_or_ge x t with w | w
            · by_cases v : x = p
              · subst v; omega
              · rw [p5 x (by omega) w] at xb; cases xb
            · exact hfull x w x2 xb
          · have full : ∀ x, p < x → x < 8 → T.testBit x = true → nn T s x ≤ s x := fun x x1 x2 xb => by
              rcases Nat.lt_or_ge x t with w | w
              · rw [p5 x (by omega) w] at xb; cases xb
              · exact hfull x w x2 xb
            have ec : ct T (p + 1) = n + 1 := by rw [ct_succ, if_pos ⟨p1, p3⟩, ecp]
            refine loop2 p n p1 (by omega) p3 (by omega) full (ct T 8 - (n + 1)) (n + 1) (p + 1) _ _ (by omega) (by omega) (by omega) (by omega) ec.symm (chx.row (by omega)) (fun n m1 m2 => ?_) ⟨?_, fun u j1 j2 j3 => ?_⟩ ?_ (fun u j1 j2 => ?_)
            · funext a
              rw [g_uA_at, if_neg (by omega)]
            · rw [g_uA_at, if_neg (by omega)]; exact hU.1
            · rw [g_uA_at, if_neg (by omega)]; exact hU.2 u j1 j2 j3
            · rw [g_uA_at, if_neg (by omega)]; exact hs.2.1
            · rw [g_uA_at]
              unfold nxw
              by_cases v : u = p
              · subst v
                rw [if_pos ⟨rfl, rfl, rfl⟩, if_neg (by omega), if_pos rfl]
                omega
              · rw [if_neg (fun w => v w.2.2), if_pos (by omega)]
                exact hs.2.2 u (by omega) j2
        | succ m ihm =>
          intro i u y z hi hz hiu u1 up hy
          subst hz
          obtain ⟨r, r1, r2, r3, r4, r5, r6⟩ := hU.at u1 hiu (by omega) (by omega)
          have rp : r < p := by
            rcases Nat.lt_or_ge r p with w | w
            · exact w
            · have e1 : ct T p = ct T u := ct_gap u1 up (fun x x1 x2 => r5 x x1 (by omega))
              omega
          have er := hs.2.2 r r2 r3
          have en : nn T s (r + 1) = max (nn T s u) (s r + 1) := by rw [nn_succ, if_pos r3, nn_gap r1 r5]
          refine rp_123_15 rfl ⟨fun q => by exfalso; omega, fun _ => ?_⟩
          rw [Int.toNat_natCast, r4, Int.toNat_natCast, er]
          exact ⟨by omega, by omega, fun q => ⟨by unfold hm_in; omega, ihm (i + 1) (r + 1) _ _ (by omega) (by omega) r6.symm (by omega) (by omega) (by omega)⟩, fun q => ⟨by unfold hm_in; omega, ihm (i + 1) (r + 1) _ _ (by omega) (by omega) r6.symm (by omega) (by omega) (by omega)⟩⟩
      refine rp_123_7 rfl ⟨fun q => by exfalso; omega, fun _ => inner n 0 1 0 0 (by omega) rfl ct_1.symm (by omega) p1 ?_⟩
      rw [nn_succ, if_pos hT0, hs.1]
      rfl
  refine g_enter hk_123 hn_123 (rp_123_0 rfl ?_)
  rw [hU.1]
  exact ⟨by unfold hm_in; omega, loop1 (ct T 8) 8 _ rfl (by omega) (by omega) rfl (fun x h1 h2 => by omega)⟩
end CL

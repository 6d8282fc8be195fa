/-! is -/
def ks (s : Nat → Nat) (p : pf_T) : Option (Option Nat) :=
  if p.1 = 0 then (if s p.2.1 = s p.2.2 then some none else none)
  else if p.1 = 1 then (if s p.2.1 = s p.2.2 then none else some none)
  else if p.1 = 3 ∧ s p.2.1 = s p.2.2 then some none
  else if s p.2.1 = 0 then none else some (some (s p.2.1))
def kb (b : Nat) : Option (Option Nat) → Option Nat
  | none => none
  | some none => some b
  | some (some c) => if b.testBit c = true then none else some (b ||| 2 ^ c)
theorem a1_ks {s : Nat → Nat} {p : pf_T} {b : Nat} : a1 s p b = kb b (ks s p) := by
  unfold a1 ks
  split
  · split <;> rfl
  split
  · split <;> rfl
  split
  · rfl
  by_cases z : s p.2.1 = 0
  · rw [if_pos (Or.inl z), if_pos z]; rfl
  · rw [if_neg z]
    by_cases y : b.testBit (s p.2.1) = true
    · rw [if_pos (Or.inr y)]; show none = if b.testBit (s p.2.1) = true then none else some (b ||| 2 ^ (s p.2.1)); rw [if_pos y]
    · rw [if_neg (by rintro (w | w); exact z w; exact y w)]; show some _ = if b.testBit (s p.2.1) = true then none else some (b ||| 2 ^ (s p.2.1)); rw [if_neg y]
theorem kb_comm {b : Nat} {x y : Option (Option Nat)} : (kb b x).bind (fun u => kb u y) = (kb b y).bind (fun u => kb u x) := by
  have e0 : ∀ y, (kb b y).bind (fun u => kb u none) = none := fun y => by cases kb b y <;> rfl
  have e1 : ∀ y, (kb b y).bind (fun u => kb u (some none)) = kb b y := fun y => by cases kb b y <;> rfl
  rcases x with _ | _ | c
  · rw [e0]; rfl
  · rw [e1]; rfl
  rcases y with _ | _ | d
  · rw [e0]; rfl
  · rw [e1]; rfl
  show (if b.testBit c = true then none else some (b ||| 2 ^ c)).bind (fun u => if u.testBit d = true then none else some (u ||| 2 ^ d)) = (if b.testBit d = true then none else some (b ||| 2 ^ d)).bind (fun u => if u.testBit c = true then none else some (u ||| 2 ^ c))
  by_cases h1 : b.testBit c = true
  · rw [if_pos h1]
    by_cases h2 : b.testBit d = true
    · rw [if_pos h2]; rfl
    · rw [if_neg h2]
      show none = if (b ||| 2 ^ d).testBit c = true then none else _
      rw [if_pos (by rw [Nat.testBit_or, h1]; rfl)]
  · rw [if_neg h1]
    by_cases h2 : b.testBit d = true
    · rw [if_pos h2]
      show (if (b ||| 2 ^ c).testBit d = true then none else _) = none
      rw [if_pos (by rw [Nat.testBit_or, h2]; rfl)]
    · rw [if_neg h2]
      show (if (b ||| 2 ^ c).testBit d = true then none else some (b ||| 2 ^ c ||| 2 ^ d)) = if (b ||| 2 ^ d).testBit c = true then none else some (b ||| 2 ^ d ||| 2 ^ c)
      rw [Nat.testBit_or, Nat.testBit_or, pb_bit, pb_bit, show b ||| 2 ^ c ||| 2 ^ d = b ||| 2 ^ d ||| 2 ^ c by rw [Nat.or_assoc, Nat.or_assoc, Nat.or_comm (2 ^ c)]]
      have f1 : b.testBit c = false := by simpa using h1
      have f2 : b.testBit d = false := by simpa using h2
      rw [f1, f2]
      by_cases h3 : c = d
      · subst h3; rfl
      · have h4 : ¬ d = c := fun z => h3 z.symm
        simp [h3, h4]
theorem al_perm {s : Nat → Nat} {l l' : List pf_T} (h : l.Perm l') (o : Option Nat) : al s l o = al s l' o := by
  unfold al
  refine h.foldl_eq' (fun p _ q _ z => ?_) o
  cases z with
  | none => rfl
  | some t =>
    show (a1 s p t).bind (a1 s q) = (a1 s q t).bind (a1 s p)
    have e : ∀ p, a1 s p = fun b => kb b (ks s p) := fun p => funext (fun b => a1_ks)
    rw [e p, e q]
    exact kb_comm
/-- the formula's equalities and inequalities hold of the classes s -/
def PH (s : Nat → Nat) (F : pf_F) : Prop := ∀ p ∈ F.1, (s p.2.1 = s p.2.2 ↔ p.1 = 0)
theorem al_PH {s : Nat → Nat} {b : Nat} : ∀ {l : List pf_T}, (∀ p ∈ l, pf_ok p) → (∀ p ∈ l, (s p.2.1 = s p.2.2 ↔ p.1 = 0)) → al s l (some b) = some b := by
  intro l
  induction l with
  | nil => intro _ _; rfl
  | cons p l ih =>
    intro h1 h2
    have hp := h1 p List.mem_cons_self
    have hq := h2 p List.mem_cons_self
    unfold pf_ok at hp
    rw [al_cons, show a1 s p b = some b by
      unfold a1
      by_cases z : p.1 = 0
      · rw [if_pos z, if_pos (hq.mpr z)]
      · rw [if_neg z, if_pos (by omega), if_neg (fun y => z (hq.mp y))]]
    exact ih (fun q hq => h1 q (List.mem_cons_of_mem _ hq)) (fun q hq => h2 q (List.mem_cons_of_mem _ hq))
theorem al_nPH {s : Nat → Nat} {b : Nat} : ∀ {l : List pf_T}, (∀ p ∈ l, pf_ok p) → (¬ ∀ p ∈ l, (s p.2.1 = s p.2.2 ↔ p.1 = 0)) → al s l (some b) = none := by
  intro l
  induction l with
  | nil => intro _ h; exact absurd (fun p hp => absurd hp List.not_mem_nil) h
  | cons p l ih =>
    intro h1 h2
    have hp := h1 p List.mem_cons_self
    unfold pf_ok at hp
    rw [al_cons]
    by_cases hq : (s p.2.1 = s p.2.2 ↔ p.1 = 0)
    · rw [show a1 s p b = some b by
        unfold a1
        by_cases z : p.1 = 0
        · rw [if_pos z, if_pos (hq.mpr z)]
        · rw [if_neg z, if_pos (by omega), if_neg (fun y => z (hq.mp y))]]
      refine ih (fun q hq => h1 q (List.mem_cons_of_mem _ hq)) (fun h => h2 (fun q hq2 => ?_))
      rcases List.mem_cons.mp hq2 with z | z
      · rw [z]; exact hq
      · exact h q z
    · rw [show a1 s p b = none by
        unfold a1
        by_cases z : p.1 = 0
        · rw [if_pos z, if_neg (fun y => hq ⟨fun _ => z, fun _ => y⟩)]
        · rw [if_neg z, if_pos (by omega)]
          by_cases y : s p.2.1 = s p.2.2
          · rw [if_pos y]
          · exact absurd ⟨fun w => absurd w y, fun w => absurd w z⟩ hq]
      exact al_none
/-- the classes of a formula's terms -/
def cl (M : g_M) (F : pf_F) (s : Nat → Nat) : Prop := ∀ t, pf_in t F → M.1 0 298 t = (s t : Int) ∧ s t < 8
def ch0 (M M' : g_M) : Prop := M'.2 = M.2 ∧ ∀ t n, ¬ (t = 0 ∧ n = 300) → M'.1 t n = M.1 t n
theorem ch0.rf {M : g_M} : ch0 M M := ⟨rfl, fun _ _ _ => rfl⟩
theorem ch0.tr {M M' M'' : g_M} (h : ch0 M M') (h' : ch0 M' M'') : ch0 M M'' := ⟨h'.1.trans h.1, fun t n hn => (h'.2 t n hn).trans (h.2 t n hn)⟩
theorem ch0.uA {M : g_M} {k : Nat} {v : Int} : ch0 M (g_uA M (0, 300) k v) := by
  refine ⟨rfl, fun t m hm => ?_⟩
  funext a
  rw [g_uA_at, if_neg]
  rintro ⟨rfl, rfl, -⟩
  exact hm ⟨rfl, rfl⟩
theorem ch0.chx {M M' : g_M} (h : ch0 M M') : chx M M' := ⟨h.1, fun t n hn => h.2 t n (by omega), fun k _ _ _ _ => by rw [h.2 0 286 (by omega)]⟩
theorem mU.k0 {M M' : g_M} {T : Nat} (h : mU M T) (hc : ch0 M M') : mU M' T := by
  unfold mU
  rw [hc.2 0 286 (by omega), hc.2 0 299 (by omega)]
  exact h
theorem mS.k0 {M M' : g_M} {T : Nat} {s : Nat → Nat} (h : mS M T s) (hc : ch0 M M') : mS M' T s := by
  unfold mS
  rw [hc.2 0 298 (by omega)]
  exact h
/-- the classes at which parts begin -/
def bg (M : g_M) (b : Nat) : Prop := ∀ c, c < 8 → (0 ≤ M.1 0 300 c ↔ b.testBit c = true)
theorem pf_in1 {F : pf_F} {p : pf_T} (h : p ∈ F.1) : pf_in p.2.1 F ∧ pf_in p.2.2 F := ⟨Or.inl ⟨p, h, Or.inl rfl⟩, Or.inl ⟨p, h, Or.inr rfl⟩⟩
theorem pf_in2 {F : pf_F} {p : pf_T} (h : p ∈ F.2) : pf_in p.2.1 F ∧ pf_in p.2.2 F := ⟨Or.inr ⟨p, h, Or.inl rfl⟩, Or.inr ⟨p, h, Or.inr rfl⟩⟩
section CL
variable {D : Nat} {M : g_M} {T f : Nat} {F : pf_F} {s : Nat → Nat} {Q : g_P}
theorem m_121 (hD : 3 ≤ D) (hf : f < 200) (hF : mF M f F) (hw : pf_wf F) (hs : cl M F s) (h1 : PH s F → Q [.inl 1] M) (h0 : ¬ PH s F → Q [.inl 0] M) : g_Ev D 121 [.inr (0, 286), .inl (f : Int)] M Q := by
  obtain ⟨D, rfl⟩ := g_dep hD
  have l1 := hw.1
  have loop : ∀ (n i : Nat) (x : Int), i + n = F.1.length → x = (i : Int) → (∀ (j : Nat) (p : pf_T), j < i → F.1[j]? = some p → (s p.2.1 = s p.2.2 ↔ p.1 = 0)) → g_R (D + 3) 121 Q 2 [.inr (0, 286), .inl (f : Int), .inl x] [] M := by
    intro n
    induction n with
    | zero =>
      intro i x hi hx hj
      subst hx
      refine rp_121_2 rfl ?_
      rw [Int.toNat_natCast, hF.1]
      refine ⟨by omega, fun _ => h1 (fun p hp => ?_), fun q => by exfalso; omega⟩
      obtain ⟨j, j1, j2⟩ := List.mem_iff_getElem.mp hp
      exact hj j p (by omega) (by rw [List.getElem?_eq_getElem j1, j2])
    | succ n ih =>
      intro i x hi hx hj
      subst hx
      have hlt : i < F.1.length := by omega
      have hat := List.getElem?_eq_getElem hlt
      have hmem := List.getElem_mem hlt
      have ok := hw.2.2.1 _ hmem
      have r := hF.2.2.1 i _ hat
      have hin := pf_in1 hmem
      generalize hp : F.1[i] = p at ok r hat hmem hin
      unfold pf_ok at ok
      refine rp_121_2 rfl ?_
      rw [Int.toNat_natCast, hF.1, show ((16 : Int) * (f : Int) + (i : Int)).toNat = 16 * f + i by omega, r.1, r.2.1, r.2.2, Int.toNat_natCast, Int.toNat_natCast, (hs _ hin.1).1, (hs _ hin.2).1]
      have next : (s p.2.1 = s p.2.2 ↔ p.1 = 0) → g_R (D + 3) 121 Q 2 [.inr (0, 286), .inl (f : Int), .inl ((i : Int) + 1)] [] M := fun hz => ih (i + 1) _ (by omega) (by omega) (fun j q hj2 hq => by
        rcases Nat.lt_or_ge j i with y | y
        · exact hj j q y hq
        · obtain rfl : j = i := by omega
          rw [hat] at hq
          cases hq
          exact hz)
      refine ⟨by omega, fun q => by exfalso; omega, fun _ => ⟨by unfold hm_in; omega, by unfold hm_in; omega, by omega, by omega, by omega, fun q => ⟨fun q2 => ⟨by unfold hm_in; omega, next (by omega)⟩, fun q2 => h0 (fun hP => ?_)⟩, fun q => ⟨fun q2 => h0 (fun hP => ?_), fun q2 => ⟨by unfold hm_in; omega, next (by omega)⟩⟩⟩⟩
      · have := hP p hmem; omega
      · have := hP p hmem; omega
  exact g_enter hk_121 hn_121 (rp_121_0 rfl (loop F.1.length 0 0 (by omega) rfl (fun j p hj => by omega)))
theorem m_122 (hD : 3 ≤ D) (hf : f < 200) (hF : mF M f F) (hw : pf_wf F) (hs : cl M F s) {k : Nat} {p : pf_T} (hk : F.2[k]? = some p) (h1 : p.1 = 1 ∧ s p.2.1 = s p.2.2 → Q [.inl 1] M) (h0 : ¬ (p.1 = 1 ∧ s p.2.1 = s p.2.2) → Q [.inl 0] M) : g_Ev D 122 [.inr (0, 286), .inl (f : Int), .inl (k : Int)] M Q := by
  obtain ⟨D, rfl⟩ := g_dep hD
  have l2 := hw.2.1
  have hlt : k < F.2.length := (List.getElem?_eq_some_iff.mp hk).1
  have hmem : p ∈ F.2 := List.mem_of_getElem? hk
  have ok := hw.2.2.2 _ hmem
  have r := hF.2.2.2 k _ hk
  have hin := pf_in2 hmem
  unfold pf_ok at ok
  refine g_enter hk_122 hn_122 (rp_122_0 rfl ?_)
  rw [show ((10 : Int) * (f : Int) + (k : Int)).toNat = 10 * f + k by omega, r.1, r.2.1, r.2.2, Int.toNat_natCast, Int.toNat_natCast, (hs _ hin.1).1, (hs _ hin.2).1]
  exact ⟨by unfold hm_in; omega, by unfold hm_in; omega, by omega, fun q => h0 (by omega), fun q => ⟨by omega, by omega, fun q2 => h0 (by omega), fun q2 => h1 (by omega)⟩⟩
theorem m_120 (hD : 5 ≤ D) (hf : f < 200) (hF : mF M f F) (hw : pf_wf F) (hs : cl M F s)
    (h1 : ∀ b M', al s (it F) (some 0) = some b → b < 256 → ch0 M M' → bg M' b → Q [.inl 1] M') (h0 : al s (it F) (some 0) = none → ∀ M', ch0 M M' → Q [.inl 0] M') : g_Ev D 120 [.inr (0, 286), .inl (f : Int)] M Q := by
  obtain ⟨D, rfl⟩ := g_dep hD
  have l2 := hw.2.1
  refine g_enter hk_120 hn_120 (rp_120_0 rfl (m_121 (by omega) hf hF hw hs (fun hP => rp_120_5 rfl ⟨fun _ => ?_, fun q => absurd q (by decide)⟩) (fun hP => rp_120_5 rfl ⟨fun q => absurd rfl q, fun _ => h0 ?_ M ch0.rf⟩)))
  · have e0 : al s (it F) (some 0) = al s (F.2.map pq) (some 0) := by
      unfold it
      rw [al_app, al_PH hw.2.2.1 hP]
    rw [e0] at h0
    simp only [e0] at h1
    have clk : ∀ M1, ch0 M M1 → cl M1 F s := fun M1 hc t ht => by rw [hc.2 0 298 (by omega)]; exact hs t ht
    have loop2 : ∀ (n i : Nat) (x : Int) (M1 : g_M) (b : Nat), i + n = F.2.length → x = (i : Int) → ch0 M M1 → b < 256 → bg M1 b → al s (F.2.map pq) (some 0) = al s ((F.2.drop i).map pq) (some b) → g_R (D + 5) 120 Q 33 [.inr (0, 286), .inl (f : Int), .inl x] [] M1 := by
      intro n
      induction n with
      | zero =>
        intro i x M1 b hi hx hc hb hbg hE
        subst hx
        have hF1 := hF.kx hc.chx
        rw [List.drop_eq_nil_of_le (by omega)] at hE
        refine rp_120_33 rfl ?_
        rw [Int.toNat_natCast, hF1.2.1]
        exact ⟨by omega, fun _ => h1 b M1 hE hb hc hbg, fun q => by exfalso; omega⟩
      | succ n ih =>
        intro i x M1 b hi hx hc hb hbg hE
        subst hx
        have hF1 := hF.kx hc.chx
        have hlt : i < F.2.length := by omega
        have hat := List.getElem?_eq_getElem hlt
        have hmem := List.getElem_mem hlt
        have ok := hw.2.2.2 _ hmem
        have r := hF1.2.2.2 i _ hat
        have hin := pf_in2 hmem
        rw [List.drop_eq_getElem_cons hlt, List.map_cons, al_cons] at hE
        generalize hp : F.2[i] = p at ok r hat hmem hin hE
        unfold pf_ok at ok
        have hs1 := clk M1 hc
        have sx := hs1 _ hin.1
        have sy := hs1 _ hin.2
        have ea : a1 s (pq p) b = if p.1 = 1 ∧ s p.2.1 = s p.2.2 then some b else if s p.2.1 = 0 ∨ b.testBit (s p.2.1) = true then none else some (b ||| 2 ^ (s p.2.1)) := by
          unfold a1 pq
          rw [if_neg (by show ¬ 2 + p.1 = 0; omega), if_neg (by show ¬ 2 + p.1 = 1; omega)]
          by_cases z : p.1 = 1 ∧ s p.2.1 = s p.2.2
          · rw [if_pos z, if_pos ⟨by show 2 + p.1 = 3; omega, z.2⟩]
          · rw [if_neg z, if_neg (fun y => z ⟨by have := y.1; show p.1 = 1; omega, y.2⟩)]
        have no : a1 s (pq p) b = none → Q [.inl 0] M1 := fun hz => h0 (by rw [hE, hz, al_none]) M1 hc
        refine rp_120_33 rfl ?_
        rw [Int.toNat_natCast, hF1.2.1]
        refine ⟨by omega, fun q => by exfalso; omega, fun _ => m_122 (by omega) hf hF1 hw hs1 hat (fun he => rp_120_49 rfl ⟨fun q => absurd q (by decide), fun _ => ⟨by unfold hm_in; omega, ih (i + 1) _ M1 b (by omega) (by omega) hc hb hbg (by rw [hE, ea, if_pos he])⟩⟩) (fun he => rp_120_49 rfl ⟨fun _ => ?_, fun q => absurd rfl q⟩)⟩
        rw [show ((10 : Int) * (f : Int) + (i : Int)).toNat = 10 * f + i by omega, r.2.1, Int.toNat_natCast, sx.1, Int.toNat_natCast]
        have hb3 := hbg (s p.2.1) sx.2
        refine ⟨by unfold hm_in; omega, by unfold hm_in; omega, by omega, by omega, fun q => no (by rw [ea, if_neg he, if_pos (Or.inl (by omega))]), fun q => ⟨by omega, fun q2 => ⟨by unfold hm_in; omega, ?_⟩, fun q2 => no (by rw [ea, if_neg he, if_pos (Or.inr (hb3.mp q2))])⟩⟩
        refine ih (i + 1) _ _ (b ||| 2 ^ s p.2.1) (by omega) (by omega) (hc.tr ch0.uA) (Nat.or_lt_two_pow (n := 8) hb (pb_pow8 sx.2)) (fun c hc8 => ?_) ?_
        · rw [g_uA_at, Nat.testBit_or, pb_bit]
          by_cases z : c = s p.2.1
          · subst z
            rw [if_pos ⟨rfl, rfl, rfl⟩]
            simp
          · have z2 : ¬ s p.2.1 = c := fun y => z y.symm
            rw [if_neg (fun y => z y.2.2), hbg c hc8]
            simp [z2]
        · rw [hE, ea, if_neg he, if_neg (fun y => by rcases y with y | y; omega; have := hb3.mpr y; omega)]
    have loop1 : ∀ (n i : Nat) (x : Int) (M1 : g_M), i + n = 8 → x = (i : Int) → ch0 M M1 → (∀ c, c < i → M1.1 0 300 c = -1) → g_R (D + 5) 120 Q 12 [.inr (0, 286), .inl (f : Int), .inl x] [] M1 := by
      intro n
      induction n with
      | zero =>
        intro i x M1 hi hx hc hz
        subst hx
        exact rp_120_12 rfl ⟨fun _ => loop2 F.2.length 0 0 M1 0 (by omega) rfl hc (by omega) (fun c hc8 => by rw [hz c (by omega), Nat.zero_testBit]; simp) (by rw [List.drop_zero]), fun q => by exfalso; omega⟩
      | succ n ih =>
        intro i x M1 hi hx hc hz
        subst hx
        refine rp_120_12 rfl ⟨fun q => by exfalso; omega, fun _ => ⟨by omega, by unfold hm_in; omega, ih (i + 1) _ _ (by omega) (by omega) (hc.tr ch0.uA) (fun c hc8 => ?_)⟩⟩
        rw [g_uA_at, Int.toNat_natCast]
        by_cases z : c = i
        · simp [z]
        · simp [z, hz c (by omega)]
    exact loop1 8 0 0 M (by omega) rfl ch0.rf (fun c hc => by omega)
  · unfold it
    rw [al_app, al_nPH hw.2.2.1 hP, al_none]
/-- some way suits F -/
def IF (T : Nat) (F : pf_F) : Prop := ∃ s, gw T s ∧ al s (it F) (some 0) ≠ none
theorem mS.cl (h : mS M T s) (hw : pf_wf F) (hT : ∀ t, pf_in t F → T.testBit t = true) (hg : gw T s) : cl M F s := fun t ht => ⟨h.2.2 t (pf_in_lt hw ht) (hT t ht), hg.lt (pf_in_lt hw ht) (hT t ht)⟩
theorem al_eT {s' : Nat → Nat} (hw : pf_wf F) (hT : ∀ t, pf_in t F → T.testBit t = true) (h : eT T s s') (o : Option Nat) : al s (it F) o = al s' (it F) o := al_congr (fun p hp => by
  have := pf_in_it hp
  exact ⟨h _ (pf_in_lt hw this.1) (hT _ this.1), h _ (pf_in_lt hw this.2) (hT _ this.2)⟩) o
theorem m_117 (hD : 8 ≤ D) (hf : f < 200) (hF : mF M f F) (hw : pf_wf F) (hT : T = pf_terms F ||| 1)
    (h1 : IF T F → ∀ M', chx M M' → Q [.inl 1] M') (h0 : ¬ IF T F → ∀ M', chx M M' → Q [.inl 0] M') : g_Ev D 117 [.inr (0, 286), .inl (f : Int)] M Q := by
  obtain ⟨D, rfl⟩ := g_dep hD
  have hTb : ∀ t, T.testBit t = true ↔ pf_in t F ∨ t = 0 := fun t => by
    rw [hT, Nat.testBit_or, Bool.or_eq_true, pf_terms_bit, show (1 : Nat) = 2 ^ 0 from rfl, pb_bit]
    simp [eq_comm]
  have hT0 : T.testBit 0 = true := (hTb 0).mpr (Or.inr rfl)
  have hTF : ∀ t, pf_in t F → T.testBit t = true := fun t ht => (hTb t).mpr (Or.inl ht)
  have loop : ∀ (n : Nat) (s : Nat → Nat) (M1 : g_M), 8 ^ 8 - cdx T s 8 = n → gw T s → chx M M1 → mU M1 T → mS M1 T s → (∀ s', gw T s' → lx T s' s → al s' (it F) (some 0) = none) → g_R (D + 8) 117 Q 12 [.inr (0, 286), .inl (f : Int), .inl 1] [] M1 := by
    intro n
    induction n using Nat.strongRecOn with
    | _ n ih =>
      intro s M1 hn hg hc hU hS hbad
      refine rp_117_12 rfl ⟨fun q => absurd q (by decide), fun _ => m_120 (by omega) hf (hF.kx hc) hw (hS.cl hw hTF hg) (fun b M2 hb _ c2 _ => rp_117_21 rfl ⟨fun q => absurd q (by decide), fun _ => h1 ⟨s, hg, by rw [hb]; exact fun z => by cases z⟩ M2 (hc.tr c2.chx)⟩) (fun hb M2 c2 => rp_117_21 rfl ⟨fun _ => ?_, fun q => absurd rfl q⟩)⟩
      refine m_123 (by omega) (hU.k0 c2) (hS.k0 c2) hT0 hg (fun M3 s' c3 _ u3 s3 g3 k3 x3 _ => rp_117_30 rfl ?_) (fun hall => rp_117_30 rfl (rp_117_12 rfl ⟨fun _ => h0 ?_ M2 (hc.tr c2.chx), fun q => absurd rfl q⟩))
      · have hl := cdx_lt g3 (t := 8) (by omega)
        refine ih (8 ^ 8 - cdx T s' 8) (by omega) s' M3 rfl g3 ((hc.tr c2.chx).tr c3) u3 s3 (fun s'' hg2 hl2 => ?_)
        rcases x3 s'' hg2 hl2 with y | y
        · exact hbad s'' hg2 y
        · rw [al_eT hw hTF y]; exact hb
      · rintro ⟨s'', hg2, hne⟩
        rcases hall s'' hg2 with y | y
        · exact hne (hbad s'' hg2 y)
        · exact hne (by rw [al_eT hw hTF y]; exact hb)
  refine g_enter hk_117 hn_117 (rp_117_0 rfl (m_118 (T := T) (G := ([], [])) (by omega) hf hF hw ⟨by simp, by simp, by simp, by simp⟩ (Or.inl ⟨rfl, rfl⟩) (fun t t1 t8 => ?_) (fun M1 c1 u1 z1 => rp_117_6 rfl (m_119 (by omega) u1 z1 hT0 (fun M2 c2 u2 s2 _ => rp_117_10 rfl (loop _ (fun _ => 0) M2 rfl ?_ (c1.tr c2) u2 s2 ?_))))))
  · rw [hTb]
    constructor
    · rintro (h | h)
      · exact Or.inl h
      · omega
    · rintro (h | ⟨p, hp, _⟩ | ⟨p, hp, _⟩)
      · exact Or.inl h
      · exact absurd hp List.not_mem_nil
      · exact absurd hp List.not_mem_nil
  · exact fun t _ _ => Nat.zero_le _
  · rintro s' _ ⟨t, _, _, _, h⟩
    exact absurd h (Nat.not_lt_zero _)
end CL
theorem Ex_IF {T : Nat} {F : pf_F} {s : Nat → Nat} (hw : pf_wf F) : Ex T F (fun _ _ => True) 0 0 s 0 ↔ IF T F := by
  constructor
  · rintro ⟨s', _, h2, b, h3, _⟩
    refine ⟨s', RG_gw.mp h2, ?_⟩
    rw [lu_0, al_perm (lw_perm hw)] at h3
    rw [h3]
    exact fun z => by cases z
  · rintro ⟨s', h2, h3⟩
    cases hz : al s' (it F) (some 0) with
    | none => exact absurd hz h3
    | some b => exact ⟨s', fun j hj => by omega, RG_gw.mpr h2, b, by rw [lu_0, al_perm (lw_perm hw)]; exact hz, True.intro⟩
/-- only the Sharing i and its plan have changed -/
def chw (i : Nat) (M M' : g_M) : Prop := (∀ n, n ≠ i → M'.2 n = M.2 n) ∧ (∀ t n, ¬ ((t = 12 ∨ t = 13 ∨ t = 14) ∧ n = i) → ¬ ((t = 7 ∨ t = 10 ∨ t = 11) ∧ n = i + 1) → M'.1 t n = M.1 t n) ∧ ∃ lo : Nat, lo < 256 ∧ M'.1 12 i 3 = (lo : Int)
theorem chw.cch {i : Nat} {M M' : g_M} (h : chw i M M') : cch M M' := fun n _ => h.2.1 0 n (by omega) (by omega)
theorem CI.kw {M M1 : g_M} {n : Nat} {Fs : Nat → pf_F} {cs vs : Nat → Int} {c i : Nat} (hi : CI M n Fs cs vs c) (hc : chw i M M1) : CI M1 n Fs cs vs c := by
  have e : ∀ t m, (t = 0 ∧ m = 2) ∨ (t = 1 ∨ t = 2 ∨ t = 3) ∨ t = 4 ∨ t = 5 ∨ t = 6 → M1.1 t m = M.1 t m := fun t m h => hc.2.1 t m (by omega) (by omega)
  refine ⟨by rw [e 0 2 (by omega)]; exact hi.1, by rw [e 0 2 (by omega)]; exact hi.2.1, fun f hf => ?_, ?_, ?_⟩
  · have := hi.2.2.1 f hf
    unfold cF at this ⊢
    rw [e 1 _ (by omega), e 2 _ (by omega), e 3 _ (by omega)]
    exact this
  · obtain ⟨vs', h1, h2⟩ := hi.2.2.2.1
    refine ⟨vs', ?_, h2⟩
    unfold cMem at h1 ⊢
    rw [e 5 _ (by omega), e 4 _ (by omega), e 6 _ (by omega)]
    exact h1
  · obtain ⟨cs1, vs1, h1, h2, h3⟩ := hi.2.2.2.2
    refine ⟨cs1, vs1, ?_, h2, fun j hj => ?_⟩
    · unfold cMem at h1 ⊢
      rw [e 5 _ (by omega), e 4 _ (by omega), e 6 _ (by omega)]
      exact h1
    · by_cases z : j = i
      · rw [z]; exact hc.2.2
      · rw [hc.2.1 12 j (by omega) (by omega)]; exact h3 j hj
theorem MI.kx {M M1 : g_M} {n : Nat} {Fs : Nat → pf_F} {cs vs : Nat → Int} {c : Nat} (hi : MI M n Fs cs vs c) (hc : chx M M1) : MI M1 n Fs cs vs c := by
  refine ⟨by rw [hc.2.2 1 (by omega) (by omega) (by omega) (by omega)]; exact hi.1, by rw [hc.2.2 29 (by omega) (by omega) (by omega) (by omega)]; exact hi.2.1, fun f hf => (hi.2.2.1 f hf).kx hc, ?_, ?_⟩
  · rw [hc.2.1 0 296 (by omega)]; exact hi.2.2.2.1
  · rw [hc.2.1 0 295 (by omega)]; exact hi.2.2.2.2
theorem chx.mcg {M M1 : g_M} (h : chx M M1) : mcg M M1 := ⟨h.1, fun t n hn => h.2.1 t n (by omega)⟩
theorem c_55 {D : Nat} (hD : 20 ≤ D) {M : g_M} {i f : Nat} {F : pf_F} {Q : g_P} (hc : cF M f F) (hw : pf_wf F) (hlo : ∃ lo : Nat, lo < 256 ∧ M.1 12 i 3 = (lo : Int))
    (h : ∀ (r : Nat) (M' : g_M), (r = 1 ∧ IF (pf_terms F ||| 1) F ∨ r = 0 ∧ ¬ IF (pf_terms F ||| 1) F) → chw i M M' → Q [.inl (r : Int)] M') : g_Ev D 55 [.inr (12, i), .inr (1, f)] M Q := by
  obtain ⟨D, rfl⟩ := g_dep hD
  have hT2 : pf_terms F ||| 1 < 256 := Nat.or_lt_two_pow (n := 8) (pf_terms_lt hw) (by decide)
  refine g_enter hk_55 hn_55 (rp_55_0 rfl (c_39 (by omega) hc hw (fun M1 g1 g2 => rp_55_13 rfl ?_)))
  rw [g2.1, show (1 : Int) = ((1 : Nat) : Int) from rfl, pb_or (by have := pf_terms_lt hw; omega) (by omega)]
  have e1 : ∀ t n, ¬ (t = 12 ∧ n = i) → (g_uA M1 (12, i) 4 ((pf_terms F ||| 1 : Nat) : Int)).1 t n = M1.1 t n := fun t n hn => by
    funext a
    rw [g_uA_at, if_neg]
    rintro ⟨rfl, rfl, -⟩
    exact hn ⟨rfl, rfl⟩
  have lo2 : ∃ lo : Nat, lo < 256 ∧ (g_uA M1 (12, i) 4 ((pf_terms F ||| 1 : Nat) : Int)).1 12 i 3 = (lo : Int) := by
    obtain ⟨lo, k1, k2⟩ := hlo
    refine ⟨lo, k1, ?_⟩
    rw [g_uA_at, if_neg (by omega), g1.2 12 i (by omega)]
    exact k2
  have hP : cP (g_uA M1 (12, i) 4 ((pf_terms F ||| 1 : Nat) : Int)) (i + 1) F := by
    unfold cP cA at g2 ⊢
    rw [e1 7 _ (by omega), e1 10 _ (by omega), e1 11 _ (by omega)]
    exact g2
  refine c_56 (T := pf_terms F ||| 1) (lf := fun _ _ => True) (E := 0) hw (fun t ht => by rw [Nat.testBit_or, pf_terms_bit.mpr ht]; rfl) hT2 (fun _ _ _ _ => Iff.rfl) hP (by rw [g_uA_at, if_pos ⟨rfl, rfl, rfl⟩]) ?_ 8 0 (by omega) (by omega) (s := fun _ => 0) (b := 0) (n := 0) (chs.rf lo2) (fun t ht => by omega) (by omega) (by omega) (fun c hcb => by rw [Nat.zero_testBit] at hcb; cases hcb) rfl (fun r M2 hr c1 _ => rp_55_33 rfl ⟨by omega, h r M2 ?_ ?_⟩)
  · intro M' s b hch _ _ _ _
    refine ⟨fun _ => True.intro, fun g hg => ?_⟩
    have : (g_uA M1 (12, i) 4 ((pf_terms F ||| 1 : Nat) : Int)).2 i = none := by
      show M1.2 i = none
      rw [g1.1]
      simp [g_uB, va_up]
    rw [this] at hg
    cases hg
  · rw [Ex_IF hw] at hr
    exact hr
  · refine ⟨fun n hn => ?_, fun t n h1 h2 => ?_, c1.lo⟩
    · rw [c1.1]
      show M1.2 n = M.2 n
      rw [g1.1]
      simp [g_uB, va_up, hn]
    · rw [c1.2.1 t n h1, e1 t n (by omega), g1.2 t n h2]
      rfl
theorem op_14 {D : Nat} (hD : 24 ≤ D) {M : g_M} (h : St M) (f : Int) : opE D 54 116 [.inl f] M := by
  obtain ⟨n, Fs, cs, vs, c, hs, hc, hm⟩ := id h
  obtain ⟨D, rfl⟩ := g_dep (k := 24) (D := D) hD
  have l := hs.1
  refine g_enter hk_54 hn_54 (rp_54_0 rfl ?_)
  rw [hc.1]
  refine ⟨fun q => ⟨by omega, ?_⟩, fun q => ⟨_, rfl, g_enter hk_116 hn_116 (rp_116_0 rfl ?_)⟩⟩
  · obtain ⟨f, hf, rfl⟩ := g_natof q
    rw [Int.toNat_natCast]
    have hw := hs.2.2.1 f hf
    refine c_55 (by omega) (hc.2.2.1 f hf) hw (hc.2.2.2.2.elim (fun _ z => z.elim (fun _ z => z.2.2 0 (by omega)))) (fun r M1 hr c1 => rp_54_23 rfl ?_)
    have hc1 : CI M1 n Fs cs vs c := hc.kw c1
    have hm1 : MI M1 n Fs cs vs c := hm.keep c1.cch
    have fin : g_Ev (D + 24) 116 [.inr (0, 286), .inl (f : Int)] M1 (fun r' M3 => r' = [.inl (r : Int)] ∧ St M3) := by
      refine g_enter hk_116 hn_116 (rp_116_0 rfl ?_)
      rw [hm1.1]
      refine ⟨fun _ => m_117 (by omega) (by omega) (hm1.2.2.1 f hf) hw rfl (fun hy M3 c3 => rp_116_17 rfl ⟨fun q => absurd q (by decide), fun _ => ⟨?_, n, Fs, cs, vs, c, hs, hc1.keep c3.mcg, hm1.kx c3⟩⟩) (fun hy M3 c3 => rp_116_17 rfl ⟨fun _ => ⟨?_, n, Fs, cs, vs, c, hs, hc1.keep c3.mcg, hm1.kx c3⟩, fun q => absurd rfl q⟩), fun z => absurd q z⟩
      · rcases hr with ⟨rfl, _⟩ | ⟨_, hr⟩
        · rfl
        · exact absurd hy hr
      · rcases hr with ⟨_, hr⟩ | ⟨rfl, _⟩
        · exact absurd hr hy
        · rfl
    rcases hr with ⟨rfl, _⟩ | ⟨rfl, _⟩
    · exact ⟨fun q => absurd q (by decide), fun _ => ⟨_, rfl, fin⟩⟩
    · exact ⟨fun _ => ⟨_, rfl, fin⟩, fun q => absurd rfl q⟩
  · rw [hm.1]
    exact ⟨fun z => absurd z q, fun _ => ⟨rfl, h⟩⟩

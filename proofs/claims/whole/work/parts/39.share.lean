/-! SHARING: the class's search through the ways in which terms share values -/
def a1 (s : Nat → Nat) (p : pf_T) (b : Nat) : Option Nat :=
  if p.1 = 0 then (if s p.2.1 = s p.2.2 then some b else none)
  else if p.1 = 1 then (if s p.2.1 = s p.2.2 then none else some b)
  else if p.1 = 3 ∧ s p.2.1 = s p.2.2 then some b
  else if s p.2.1 = 0 ∨ b.testBit (s p.2.1) = true then none else some (b ||| 2 ^ (s p.2.1))
def al (s : Nat → Nat) (l : List pf_T) (o : Option Nat) : Option Nat := l.foldl (fun o p => o.bind (a1 s p)) o
theorem al_none {s : Nat → Nat} {l : List pf_T} : al s l none = none := by
  unfold al
  induction l with
  | nil => rfl
  | cons p l ih => exact ih
theorem al_app {s : Nat → Nat} {l l' : List pf_T} {o : Option Nat} : al s (l ++ l') o = al s l' (al s l o) := by
  unfold al
  rw [List.foldl_append]
theorem al_cons {s : Nat → Nat} {p : pf_T} {l : List pf_T} {t : Nat} : al s (p :: l) (some t) = al s l (a1 s p t) := rfl
theorem a1_congr {s s' : Nat → Nat} {p : pf_T} {t : Nat} (h1 : s p.2.1 = s' p.2.1) (h2 : s p.2.2 = s' p.2.2) : a1 s p t = a1 s' p t := by
  unfold a1
  rw [h1, h2]
theorem al_congr {s s' : Nat → Nat} {l : List pf_T} (h : ∀ p ∈ l, s p.2.1 = s' p.2.1 ∧ s p.2.2 = s' p.2.2) : ∀ o, al s l o = al s' l o := by
  induction l with
  | nil => intro o; rfl
  | cons p l ih =>
    intro o
    have hp := h p List.mem_cons_self
    cases o with
    | none => rw [al_none, al_none]
    | some t =>
      rw [al_cons, al_cons, a1_congr hp.1 hp.2]
      exact ih (fun q hq => h q (List.mem_cons_of_mem _ hq)) _
theorem a1_sb {s : Nat → Nat} {p : pf_T} {b u : Nat} (h : a1 s p b = some u) : sb b u := by
  unfold a1 at h
  split at h
  · split at h <;> cases h; exact fun _ h => h
  split at h
  · split at h <;> cases h; exact fun _ h => h
  split at h
  · cases h; exact fun _ h => h
  split at h
  · cases h
  · cases h; exact sb_or_l
theorem a1_lt {s : Nat → Nat} {p : pf_T} {b u : Nat} (hs : s p.2.1 < 8) (hb : b < 256) (h : a1 s p b = some u) : u < 256 := by
  unfold a1 at h
  split at h
  · split at h <;> cases h; exact hb
  split at h
  · split at h <;> cases h; exact hb
  split at h
  · cases h; exact hb
  split at h
  · cases h
  · cases h; exact Nat.or_lt_two_pow (n := 8) hb (pb_pow8 hs)
/-- only the Sharing i has changed, and nothing of it at the sorts of b -/
def chs (i b : Nat) (M M' : g_M) : Prop := M'.2 = M.2 ∧ (∀ t n, ¬ ((t = 12 ∨ t = 13 ∨ t = 14) ∧ n = i) → M'.1 t n = M.1 t n) ∧ (∀ k, k ≠ 3 → M'.1 12 i k = M.1 12 i k) ∧ (∀ c, b.testBit c = true → M'.1 14 i c = M.1 14 i c) ∧ ∃ lo lo' : Nat, lo < 256 ∧ lo' < 256 ∧ M.1 12 i 3 = (lo : Int) ∧ M'.1 12 i 3 = (lo' : Int) ∧ ∀ c, b.testBit c = true → lo'.testBit c = lo.testBit c
theorem chs.rf {i b : Nat} {M : g_M} (h : ∃ lo : Nat, lo < 256 ∧ M.1 12 i 3 = (lo : Int)) : chs i b M M := by
  obtain ⟨lo, h1, h2⟩ := h
  exact ⟨rfl, fun _ _ _ => rfl, fun _ _ => rfl, fun _ _ => rfl, lo, lo, h1, h1, h2, h2, fun _ _ => rfl⟩
theorem chs.tr {i b b' : Nat} {M M' M'' : g_M} (h : chs i b M M') (h' : chs i b' M' M'') (hb : sb b b') : chs i b M M'' := by
  obtain ⟨h1, h2, h3, h4, lo, lo1, l1, l2, l3, l4, l5⟩ := h
  obtain ⟨k1, k2, k3, k4, lo', lo1', m1, m2, m3, m4, m5⟩ := h'
  have e : lo1 = lo' := by rw [l4] at m3; omega
  subst e
  exact ⟨k1.trans h1, fun t n hn => (k2 t n hn).trans (h2 t n hn), fun k hk => (k3 k hk).trans (h3 k hk), fun c hc => (k4 c (hb c hc)).trans (h4 c hc), lo, lo1', l1, m2, l3, m4, fun c hc => (m5 c (hb c hc)).trans (l5 c hc)⟩
theorem chs.lo {i b : Nat} {M M' : g_M} (h : chs i b M M') : ∃ lo : Nat, lo < 256 ∧ M'.1 12 i 3 = (lo : Int) := by
  obtain ⟨h1, h2, h3, h4, lo, lo1, l1, l2, l3, l4, l5⟩ := h
  exact ⟨lo1, l2, l4⟩
theorem chs.sort {i b k : Nat} {v : Int} {M : g_M} (h : ∃ lo : Nat, lo < 256 ∧ M.1 12 i 3 = (lo : Int)) : chs i b M (g_uA M (13, i) k v) := by
  obtain ⟨lo, h1, h2⟩ := h
  refine ⟨rfl, fun t n hn => ?_, fun k hk => ?_, fun c hc => ?_, lo, lo, h1, h1, h2, ?_, fun _ _ => rfl⟩
  · funext a
    rw [g_uA_at, if_neg]
    rintro ⟨rfl, rfl, -⟩
    exact hn ⟨by simp, rfl⟩
  · rw [g_uA_at, if_neg (by simp)]
  · rw [g_uA_at, if_neg (by simp)]
  · rw [g_uA_at, if_neg (by simp), h2]
/-- at the sorts of b cells begin, as the parts of L say -/
def gS (M : g_M) (i : Nat) (L : List pf_T) (b : Nat) (s : Nat → Nat) : Prop := ∀ c, b.testBit c = true → ∃ p ∈ L, (p.1 = 2 ∨ p.1 = 3 ∧ s p.2.1 ≠ s p.2.2) ∧ s p.2.1 = c ∧ M.1 14 i c = (s p.2.2 : Int) ∧ ∀ lo : Nat, M.1 12 i 3 = (lo : Int) → (lo.testBit c = true ↔ p.1 = 3)
theorem gS.keep {M M' : g_M} {i b : Nat} {L L' : List pf_T} {s s' : Nat → Nat} (h : gS M i L b s) (hc : chs i b M M') (hL : ∀ p ∈ L, p ∈ L' ∧ s p.2.1 = s' p.2.1 ∧ s p.2.2 = s' p.2.2) : gS M' i L' b s' := by
  intro c hcb
  obtain ⟨p, hp, h1, h2, h3, h4⟩ := h c hcb
  have hl := hL p hp
  obtain ⟨-, -, -, k4, lo, lo1, l1, l2, l3, l4, l5⟩ := hc
  refine ⟨p, hl.1, by rw [← hl.2.1, ← hl.2.2]; exact h1, by rw [← hl.2.1]; exact h2, by rw [k4 c hcb, ← hl.2.2]; exact h3, fun lo' hlo' => ?_⟩
  rw [l4] at hlo'
  obtain rfl : lo1 = lo' := by omega
  rw [l5 c hcb]
  exact h4 lo l3
section SH
variable {D : Nat} {M : g_M} {i : Nat} {Q : g_P}
theorem c_61 (hD : 3 ≤ D) {p : pf_T} {s : Nat → Nat} {b : Nat} {L : List pf_T} (hp : it_ok p) (hx : s p.2.1 < 8) (hy : s p.2.2 < 8) (hb : b < 256) (hlo : ∃ lo : Nat, lo < 256 ∧ M.1 12 i 3 = (lo : Int)) (hg : gS M i L b s)
    (h : ∀ M', chs i b M M' → (∀ t, M'.1 13 i t = M.1 13 i t) → (∀ u, a1 s p b = some u → gS M' i (L ++ [p]) u s) → Q [.inl (en (a1 s p b))] M') : g_Ev D 61 [.inr (12, i), .inl (p.1 : Int), .inl (s p.2.1 : Int), .inl (s p.2.2 : Int), .inl (b : Int)] M Q := by
  obtain ⟨D, rfl⟩ := g_dep hD
  obtain ⟨lo, lo1, lo2⟩ := hlo
  have hp4 := hp.1
  have hpw : (2 : Nat) ^ s p.2.1 < 2 ^ 8 := pb_pow8 hx
  have same : (a1 s p b = some b ∨ a1 s p b = none) → Q [.inl (en (a1 s p b))] M := fun hz => h M (chs.rf ⟨lo, lo1, lo2⟩) (fun _ => rfl) (fun u hu => by
    rcases hz with z | z
    · rw [hu] at z
      cases z
      exact hg.keep (chs.rf ⟨lo, lo1, lo2⟩) (fun q hq => ⟨List.mem_append_left _ hq, rfl, rfl⟩)
    · rw [hu] at z; cases z)
  have put : ∀ lo' : Nat, lo' < 256 → (2 ≤ p.1 ∧ ¬ (p.1 = 3 ∧ s p.2.1 = s p.2.2)) → ¬ s p.2.1 = 0 → b.testBit (s p.2.1) = false → (∀ c, c ≠ s p.2.1 → lo'.testBit c = lo.testBit c) → (lo'.testBit (s p.2.1) = true ↔ p.1 = 3) → Q [.inl ((b ||| 2 ^ s p.2.1 : Nat) : Int)] (g_uA (g_uA M (14, i) (s p.2.1) (s p.2.2 : Int)) (12, i) 3 (lo' : Int)) := fun lo' hl' h2 h0 hbt hoth hthis => by
    have ea : a1 s p b = some (b ||| 2 ^ s p.2.1) := by
      unfold a1
      rw [if_neg (by omega), if_neg (by omega), if_neg h2.2, if_neg (fun z => by rcases z with z | z; exact h0 z; rw [hbt] at z; cases z)]
    have hne : ∀ c, b.testBit c = true → c ≠ s p.2.1 := fun c hc z => by rw [z, hbt] at hc; cases hc
    have hch : chs i b M (g_uA (g_uA M (14, i) (s p.2.1) (s p.2.2 : Int)) (12, i) 3 (lo' : Int)) := by
      refine ⟨rfl, fun t n hn => ?_, fun k hk => ?_, fun c hc => ?_, lo, lo', lo1, hl', lo2, ?_, fun c hc => hoth c (hne c hc)⟩
      · funext a
        rw [g_uA_at, if_neg, g_uA_at, if_neg]
        · rintro ⟨rfl, rfl, -⟩; exact hn ⟨by simp, rfl⟩
        · rintro ⟨rfl, rfl, -⟩; exact hn ⟨by simp, rfl⟩
      · rw [g_uA_at, if_neg (by simp [hk]), g_uA_at, if_neg (by simp)]
      · rw [g_uA_at, if_neg (by simp), g_uA_at, if_neg (fun z => hne c hc z.2.2)]
      · rw [g_uA_at, if_pos ⟨rfl, rfl, rfl⟩]
    have := h _ hch (fun t => by rw [g_uA_at, if_neg (by simp), g_uA_at, if_neg (by simp)]) (fun u hu => ?_)
    · rw [ea] at this
      exact this
    · rw [ea] at hu
      cases hu
      intro c hc
      by_cases z : c = s p.2.1
      · subst z
        refine ⟨p, List.mem_append_right _ (List.mem_singleton.mpr rfl), ?_, rfl, ?_, fun lo2 hlo2 => ?_⟩
        · by_cases y : p.1 = 3
          · exact Or.inr ⟨y, fun z => h2.2 ⟨y, z⟩⟩
          · exact Or.inl (by omega)
        · rw [g_uA_at, if_neg (by simp), g_uA_at, if_pos ⟨rfl, rfl, rfl⟩]
        · rw [g_uA_at, if_pos ⟨rfl, rfl, rfl⟩] at hlo2
          obtain rfl : lo' = lo2 := by omega
          exact hthis
      · have hcb : b.testBit c = true := by
          rw [Nat.testBit_or, pb_bit] at hc
          have : ¬ s p.2.1 = c := fun y => z y.symm
          simpa [this] using hc
        exact hg.keep hch (fun q hq => ⟨List.mem_append_left _ hq, rfl, rfl⟩) c hcb
  have orb : ∀ c, c ≠ s p.2.1 → (lo ||| 2 ^ s p.2.1).testBit c = lo.testBit c := fun c hc => by
    rw [Nat.testBit_or, pb_bit]
    have : ¬ s p.2.1 = c := fun y => hc y.symm
    simp [this]
  have dfb : ∀ c, c ≠ s p.2.1 → (pb_d lo (2 ^ s p.2.1)).testBit c = lo.testBit c := fun c hc => by
    rw [pb_d_bit, pb_bit]
    have : ¬ s p.2.1 = c := fun y => hc y.symm
    simp [this]
  refine g_enter hk_61 hn_61 (rp_61_0 rfl ?_)
  rw [lo2, pb_shl (by omega), pb_g, pb_or (by omega) (by omega), pb_or (by omega) (by omega), pb_dif (by omega) (by omega), Int.toNat_natCast]
  have hQn : a1 s p b = none → Q [.inl (-1)] M := fun e => by have := same (Or.inr e); rw [e] at this; exact this
  have hQs : a1 s p b = some b → Q [.inl (b : Int)] M := fun e => by have := same (Or.inl e); rw [e] at this; exact this
  have a0 : p.1 = 0 → a1 s p b = if s p.2.1 = s p.2.2 then some b else none := fun e => by unfold a1; rw [if_pos e]
  have a1' : p.1 = 1 → a1 s p b = if s p.2.1 = s p.2.2 then none else some b := fun e => by unfold a1; rw [if_neg (by omega), if_pos e]
  have a3 : p.1 = 3 → s p.2.1 = s p.2.2 → a1 s p b = some b := fun e e2 => by unfold a1; rw [if_neg (by omega), if_neg (by omega), if_pos ⟨e, e2⟩]
  have a2 : 2 ≤ p.1 → ¬ (p.1 = 3 ∧ s p.2.1 = s p.2.2) → (s p.2.1 = 0 ∨ b.testBit (s p.2.1) = true) → a1 s p b = none := fun e e2 e3 => by unfold a1; rw [if_neg (by omega), if_neg (by omega), if_neg e2, if_pos e3]
  refine ⟨fun q => ⟨fun q2 => hQn (by rw [a0 (by omega), if_neg (by omega)]), fun q2 => hQs (by rw [a0 (by omega), if_pos (by omega)])⟩, fun q => ⟨fun q1 => ⟨fun q3 => ⟨fun z => hQn (a2 (by omega) (fun y => by omega) (Or.inl (by omega))), fun z => ⟨by omega, fun w => hQn (a2 (by omega) (fun y => by omega) (Or.inr w)), fun w => ⟨by omega, ?_⟩⟩⟩, fun q3 => ⟨fun ne => ⟨fun z => hQn (a2 (by omega) (fun y => by omega) (Or.inl (by omega))), fun z => ⟨by omega, fun w => hQn (a2 (by omega) (fun y => by omega) (Or.inr w)), fun w => ⟨by omega, ?_⟩⟩⟩, fun e => hQs (a3 (by omega) (by omega))⟩⟩, fun q1 => ⟨fun ne => hQs (by rw [a1' (by omega), if_neg (by omega)]), fun e => hQn (by rw [a1' (by omega), if_pos (by omega)])⟩⟩⟩
  · refine put _ (Nat.lt_of_lt_of_le (pb_d_lt (k := 8) lo1) (by decide)) ⟨by omega, fun y => by omega⟩ (by omega) (by simpa using w) dfb ?_
    rw [pb_d_bit, pb_bit]
    simp
    omega
  · refine put _ (Nat.or_lt_two_pow (n := 8) lo1 hpw) ⟨by omega, fun y => by omega⟩ (by omega) (by simpa using w) orb ?_
    rw [Nat.testBit_or, pb_bit]
    simp
    omega
theorem c_60 (hD : 4 ≤ D) {s : Nat → Nat} {b k T : Nat} {F : pf_F} (hw : pf_wf F) (hP : cP M (i + 1) F) (hk : k < 8) (hT : ∀ t, pf_in t F → T.testBit t = true) (hso : ∀ t, t ≤ k → T.testBit t = true → M.1 13 i t = (s t : Int) ∧ s t < 8) (hb : b < 256) (hlo : ∃ lo : Nat, lo < 256 ∧ M.1 12 i 3 = (lo : Int)) (hg : gS M i (lw F k) b s)
    (h : ∀ M', chs i b M M' → (∀ t, M'.1 13 i t = M.1 13 i t) → (∀ u, al s (lv F k) (some b) = some u → gS M' i (lw F (k + 1)) u s ∧ u < 256 ∧ sb b u) → Q [.inl (en (al s (lv F k) (some b)))] M') : g_Ev D 60 [.inr (12, i), .inl (k : Int), .inl (b : Int)] M Q := by
  obtain ⟨D, rfl⟩ := g_dep hD
  have hle := lw_len hw (k := k + 1) (by omega)
  have e1 := hP.2.1 (k + 1) (by omega)
  rw [lw_succ, List.length_append] at hle
  rw [lw_succ, List.length_append] at e1
  have loop : ∀ (n j : Nat) (x y : Int) (o : Option Nat) (M1 : g_M), j + n = (lv F k).length → x = en o → y = ((lw F k).length + j : Nat) → chs i b M M1 → (∀ t, M1.1 13 i t = M.1 13 i t) → al s (lv F k) (some b) = al s ((lv F k).drop j) o → (∀ u, o = some u → u < 256 ∧ sb b u ∧ gS M1 i (lw F k ++ (lv F k).take j) u s) → g_R (D + 4) 60 Q 13 [.inr (12, i), .inl (k : Int), .inl (b : Int), .inl x, .inl y] [] M1 := by
    intro n
    induction n with
    | zero =>
      intro j x y o M1 hj hx hy hch h13 hE ho
      subst hx hy
      refine rp_60_13 rfl ?_
      rw [hch.2.1 11 (i + 1) (by omega), show ((k : Int) + 1).toNat = k + 1 by omega, e1]
      rw [List.drop_eq_nil_of_le (by omega)] at hE
      have hE2 : al s (lv F k) (some b) = o := hE
      refine ⟨by unfold hm_in; omega, by omega, fun _ => ?_, fun q => by exfalso; omega⟩
      have := h M1 hch h13 (fun u hu => by
        have h2 := ho u (hE2.symm.trans hu)
        rw [List.take_of_length_le (by omega), ← lw_succ] at h2
        exact ⟨h2.2.2, h2.1, h2.2.1⟩)
      rw [hE2] at this
      exact this
    | succ n ih =>
      intro j x y o M1 hj hx hy hch h13 hE ho
      subst hx hy
      have hlt : j < (lv F k).length := by omega
      have hat := List.getElem?_eq_getElem hlt
      have hm := lv_mem (List.getElem_mem hlt)
      have ok := it_mem hw _ hm.1
      have r := it_rg ok
      have hin := pf_in_it hm.1
      have hmx := hm.2
      unfold mx at hmx
      have sx := hso _ (by omega) (hT _ hin.1)
      have sy := hso _ (by omega) (hT _ hin.2)
      refine rp_60_13 rfl ?_
      rw [hch.2.1 11 (i + 1) (by omega), hch.2.1 10 (i + 1) (by omega), show ((k : Int) + 1).toNat = k + 1 by omega, e1, Int.toNat_natCast, hP.2.2 _ _ (lw_at hk hat), r.2.2.1, r.2.2.2.1, r.2.2.2.2, Int.toNat_natCast, Int.toNat_natCast, h13, h13, sx.1, sy.1]
      refine ⟨by unfold hm_in; omega, by omega, fun q => by exfalso; omega, fun _ => ⟨fun q => ?_, fun q => ?_⟩⟩
      · rw [en_none q, al_none] at hE
        have := h M1 hch h13 (fun u hu => by rw [hE] at hu; cases hu)
        rw [hE] at this
        rw [q]
        exact this
      · cases o with
        | none => exact absurd rfl q
        | some u =>
          have hu := ho u rfl
          rw [List.drop_eq_getElem_cons hlt, al_cons] at hE
          refine ⟨by omega, by omega, by have := ok.2.1; omega, by have := ok.2.2; omega, ?_⟩
          refine c_61 (by omega) ok sx.2 sy.2 hu.1 hch.lo hu.2.2 (fun M2 c1 c2 c3 => rp_60_76 rfl ⟨by unfold hm_in; omega, ih (j + 1) _ _ _ M2 (by omega) rfl (by omega) (hch.tr c1 hu.2.1) (fun t => (c2 t).trans (h13 t)) hE (fun v hv => ⟨a1_lt sx.2 hu.1 hv, hu.2.1.tr (a1_sb hv), ?_⟩)⟩)
          rw [List.take_succ_eq_append_getElem hlt, ← List.append_assoc]
          exact c3 v hv
  refine g_enter hk_60 hn_60 (rp_60_0 rfl ⟨by omega, ?_⟩)
  rw [Int.toNat_natCast, hP.2.1 k (by omega)]
  exact loop (lv F k).length 0 _ _ (some b) M (by omega) rfl rfl (chs.rf hlo) (fun _ => rfl) rfl (fun u hu => by cases hu; exact ⟨hb, fun _ h => h, by simpa using hg⟩)
end SH
/-- the ways in which the terms of T may share values, from term k on, n sorts being there -/
def RG (T : Nat) (s : Nat → Nat) : Nat → Nat → Nat → Prop
  | 0, _, _ => True
  | m + 1, k, n => if T.testBit k = true then s k ≤ n ∧ RG T s m (k + 1) (max n (s k + 1)) else RG T s m (k + 1) n
theorem RG_succ {T m k n : Nat} {s : Nat → Nat} : RG T s (m + 1) k n ↔ if T.testBit k = true then s k ≤ n ∧ RG T s m (k + 1) (max n (s k + 1)) else RG T s m (k + 1) n := Iff.rfl
def agT (T k : Nat) (s s' : Nat → Nat) : Prop := ∀ j, j < k → T.testBit j = true → s' j = s j
def Ex (T : Nat) (F : pf_F) (lf : (Nat → Nat) → Nat → Prop) (k n : Nat) (s : Nat → Nat) (b : Nat) : Prop := ∃ s', agT T k s s' ∧ RG T s' (8 - k) k n ∧ ∃ b', al s' (lu F k) (some b) = some b' ∧ lf s' b'
section SH
variable {T : Nat} {F : pf_F} {lf : (Nat → Nat) → Nat → Prop}
theorem Ex_congr {k n b : Nat} {s s1 : Nat → Nat} (h : agT T k s s1) : Ex T F lf k n s1 b ↔ Ex T F lf k n s b := by
  constructor
  · rintro ⟨s', h1, h2⟩
    exact ⟨s', fun j hj ht => (h1 j hj ht).trans (h j hj ht), h2⟩
  · rintro ⟨s', h1, h2⟩
    exact ⟨s', fun j hj ht => (h1 j hj ht).trans (h j hj ht).symm, h2⟩
theorem lv_cgT (hT : ∀ t, pf_in t F → T.testBit t = true) {k : Nat} {s s' : Nat → Nat} (h : agT T (k + 1) s s') (o : Option Nat) : al s' (lv F k) o = al s (lv F k) o := al_congr (fun p hp => by
  have hm := lv_mem hp
  have h1 := hm.2
  have h2 := pf_in_it hm.1
  unfold mx at h1
  exact ⟨h _ (by omega) (hT _ h2.1), h _ (by omega) (hT _ h2.2)⟩) o
theorem Ex_no (hT : ∀ t, pf_in t F → T.testBit t = true) {k n b : Nat} {s : Nat → Nat} (hk : k < 8) (hn : T.testBit k = false) : Ex T F lf k n s b ↔ Ex T F lf (k + 1) n s b := by
  have hnil : lv F k = [] := lv_no (fun z => by rw [hT k z] at hn; cases hn)
  have e8 : 8 - k = (8 - (k + 1)) + 1 := by omega
  have hr : ∀ s', RG T s' (8 - k) k n ↔ RG T s' (8 - (k + 1)) (k + 1) n := fun s' => by
    rw [e8, RG_succ, hn, if_neg (by simp)]
  unfold Ex
  rw [lu_at hk, hnil, List.nil_append]
  constructor
  · rintro ⟨s', h1, h2, h3⟩
    refine ⟨s', fun j hj ht => ?_, (hr s').mp h2, h3⟩
    rcases Nat.lt_or_ge j k with z | z
    · exact h1 j z ht
    · obtain rfl : j = k := by omega
      rw [hn] at ht; cases ht
  · rintro ⟨s', h1, h2, h3⟩
    exact ⟨s', fun j hj ht => h1 j (by omega) ht, (hr s').mpr h2, h3⟩
theorem va_upn_at {v : Nat → Nat} {k a j : Nat} : va_up v k a j = if j = k then a else v j := by
  by_cases z : j = k
  · simp [va_up, z]
  · simp [va_up, z]
theorem Ex_yes (hT : ∀ t, pf_in t F → T.testBit t = true) {k n b : Nat} {s : Nat → Nat} (hk : k < 8) (hn : T.testBit k = true) : Ex T F lf k n s b ↔ ∃ a, a ≤ n ∧ ∃ u, al (va_up s k a) (lv F k) (some b) = some u ∧ Ex T F lf (k + 1) (max n (a + 1)) (va_up s k a) u := by
  have e8 : 8 - k = (8 - (k + 1)) + 1 := by omega
  have hr : ∀ s', RG T s' (8 - k) k n ↔ s' k ≤ n ∧ RG T s' (8 - (k + 1)) (k + 1) (max n (s' k + 1)) := fun s' => by
    rw [e8, RG_succ, if_pos hn]
  unfold Ex
  rw [lu_at hk]
  constructor
  · rintro ⟨s', h1, h2, b', h3, h4⟩
    rw [hr] at h2
    have hag : agT T (k + 1) (va_up s k (s' k)) s' := fun j hj ht => by
      rw [va_upn_at]
      split
      · next z => rw [z]
      · exact h1 j (by omega) ht
    rw [al_app, lv_cgT hT hag] at h3
    refine ⟨s' k, h2.1, ?_⟩
    cases hd : al (va_up s k (s' k)) (lv F k) (some b) with
    | none => rw [hd, al_none] at h3; cases h3
    | some u => rw [hd] at h3; exact ⟨u, rfl, s', hag, h2.2, b', h3, h4⟩
  · rintro ⟨a, ha, u, hu, s', h1, h2, b', h3, h4⟩
    have hk' : s' k = a := by rw [h1 k (by omega) hn, va_upn_at, if_pos rfl]
    refine ⟨s', fun j hj ht => ?_, ?_, b', ?_, h4⟩
    · rw [h1 j (by omega) ht, va_upn_at, if_neg (by omega)]
    · rw [hr, hk']
      exact ⟨ha, h2⟩
    · rw [al_app, lv_cgT hT h1, hu]
      exact h3
theorem Ex_8 {n b : Nat} {s : Nat → Nat} (hl : ∀ s s', (∀ t, t < 8 → T.testBit t = true → s' t = s t) → (lf s' b ↔ lf s b)) : Ex T F lf 8 n s b ↔ lf s b := by
  constructor
  · rintro ⟨s', h1, h2, b', h3, h4⟩
    rw [lu_8] at h3
    have : b = b' := Option.some.inj h3
    subst this
    exact (hl s s' h1).mp h4
  · exact fun h => ⟨s, fun _ _ _ => rfl, True.intro, b, rfl, h⟩
end SH
/-- the leaf of the search -/
def LF (E i T : Nat) (F : pf_F) (lf : (Nat → Nat) → Nat → Prop) (M : g_M) : Prop := ∀ (M' : g_M) (s : Nat → Nat) (b : Nat), chs i 0 M M' → (∀ t, t < 8 → T.testBit t = true → M'.1 13 i t = (s t : Int) ∧ s t < 8) → b < 256 → gS M' i (lw F 8) b s → al s (lw F 8) (some 0) = some b → (M.2 i = none → lf s b) ∧ ∀ g, M.2 i = some g → ∀ (D : Nat) (Q' : g_P), E ≤ D → (lf s b → Q' [.inl 0] M') → (¬ lf s b → Q' [.inl 1] M') → g_Ev D 57 [.inr (12, i), .inl (b : Int)] M' Q'
theorem lw_mem {F : pf_F} {k : Nat} {p : pf_T} (h : p ∈ lw F k) : p ∈ it F ∧ mx p < k := by
  obtain ⟨j, h1, h2⟩ := List.mem_flatMap.mp h
  have h3 := lv_mem h2
  exact ⟨h3.1, by rw [h3.2]; exact List.mem_range.mp h1⟩
theorem chs.mono {i b b' : Nat} {M M' : g_M} (h : chs i b M M') (hb : sb b' b) : chs i b' M M' := by
  obtain ⟨h1, h2, h3, h4, lo, lo1, l1, l2, l3, l4, l5⟩ := h
  exact ⟨h1, h2, h3, fun c hc => h4 c (hb c hc), lo, lo1, l1, l2, l3, l4, fun c hc => l5 c (hb c hc)⟩
theorem sb_0 {b : Nat} : sb 0 b := fun i hi => by rw [Nat.zero_testBit] at hi; cases hi
theorem cP.ks {M M' : g_M} {i b P : Nat} {F : pf_F} (h : cP M P F) (hc : chs i b M M') : cP M' P F := by
  have e : ∀ t, t = 7 ∨ t = 10 ∨ t = 11 → M'.1 t P = M.1 t P := fun t ht => hc.2.1 t P (by omega)
  unfold cP cA
  rw [e 7 (by omega), e 10 (by omega), e 11 (by omega)]
  exact h
section SH
variable {i T : Nat} {F : pf_F} {lf : (Nat → Nat) → Nat → Prop} {M0 : g_M}
theorem c_56 (hw : pf_wf F) (hT : ∀ t, pf_in t F → T.testBit t = true) (hT2 : T < 256) (hl : ∀ b s s', (∀ t, t < 8 → T.testBit t = true → s' t = s t) → (lf s' b ↔ lf s b)) (hP : cP M0 (i + 1) F) (hT3 : M0.1 12 i 4 = (T : Int)) {E : Nat} (hLF : LF E i T F lf M0) : ∀ (m k : Nat), k + m = 8 → ∀ {D : Nat}, E + m + 6 ≤ D → ∀ {M : g_M} {s : Nat → Nat} {b n : Nat} {Q : g_P}, chs i 0 M0 M → (∀ t, t < k → T.testBit t = true → M.1 13 i t = (s t : Int) ∧ s t < 8) → b < 256 → n ≤ k → gS M i (lw F k) b s → al s (lw F k) (some 0) = some b →
    (∀ (r : Nat) (M' : g_M), (r = 1 ∧ Ex T F lf k n s b ∨ r = 0 ∧ ¬ Ex T F lf k n s b) → chs i b M M' → (∀ t, t < k → T.testBit t = true → M'.1 13 i t = M.1 13 i t) → Q [.inl (r : Int)] M') → g_Ev D 56 [.inr (12, i), .inl (k : Int), .inl (n : Int), .inl (b : Int)] M Q := by
  intro m
  induction m with
  | zero =>
    intro k hk D hD M s b n Q hch hso hb hn hg hal h
    obtain rfl : k = 8 := by omega
    obtain ⟨D, rfl⟩ := g_dep hD
    have L := hLF M s b hch hso hb hg hal
    rw [show D + (E + 0 + 6) = D + E + 5 + 1 by omega]
    refine g_enter hk_56 hn_56 (rp_56_0 (D1 := D + E + 3) rfl ⟨fun q => by exfalso; omega, fun _ => ⟨fun q => ?_, fun g q => ?_⟩⟩)
    · exact h 1 M (Or.inl ⟨rfl, (Ex_8 (hl b)).mpr (L.1 (by rw [← hch.1]; exact q))⟩) (chs.rf hch.lo) (fun _ _ _ => rfl)
    · refine L.2 g (by rw [← hch.1]; exact q) _ _ (by omega) (fun hlf => rp_56_18 (D1 := D + E + 3) rfl ⟨fun q => absurd rfl q, fun _ => ?_⟩) (fun hlf => rp_56_18 (D1 := D + E + 3) rfl ⟨fun _ => ?_, fun q => absurd q (by decide)⟩)
      · exact h 1 M (Or.inl ⟨rfl, (Ex_8 (hl b)).mpr hlf⟩) (chs.rf hch.lo) (fun _ _ _ => rfl)
      · exact h 0 M (Or.inr ⟨rfl, fun z => hlf ((Ex_8 (hl b)).mp z)⟩) (chs.rf hch.lo) (fun _ _ _ => rfl)
  | succ m ih =>
    intro k hk D hD M s b n Q hch hso hb hn hg hal h
    obtain ⟨D, rfl⟩ := g_dep (k := E + m + 7) (D := D) (by omega)
    have e7 : D + (E + m + 7) = D + E + m + 6 + 1 := by omega
    rw [e7]
    have ih' := @ih (k + 1) (by omega) (D + E + m + 6) (by omega)
    refine g_enter hk_56 hn_56 (rp_56_0 (D1 := D + E + m + 4) rfl ⟨fun _ => ?_, fun q => by exfalso; omega⟩)
    rw [hch.2.2.1 4 (by omega), hT3, pb_g]
    refine ⟨⟨by omega, by omega⟩, fun q => ?_, fun q => ⟨by unfold hm_in; omega, ?_⟩⟩
    · have loop : ∀ (c : Nat) (x : Int) (M1 : g_M), c ≤ n + 1 → x = (c : Int) - 1 → chs i b M M1 → (∀ t, t < k → T.testBit t = true → M1.1 13 i t = M.1 13 i t) → (∀ a, c ≤ a → a ≤ n → ¬ ∃ u, al (va_up s k a) (lv F k) (some b) = some u ∧ Ex T F lf (k + 1) (max n (a + 1)) (va_up s k a) u) → g_R (D + E + m + 6 + 1) 56 Q 51 [.inr (12, i), .inl (k : Int), .inl (n : Int), .inl (b : Int), .inl x] [] M1 := by
        intro c
        induction c with
        | zero =>
          intro x M1 hc hx hc1 h13 hno
          subst hx
          refine rp_56_51 (D1 := D + E + m + 4) rfl ⟨fun _ => h 0 M1 (Or.inr ⟨rfl, ?_⟩) hc1 h13, fun q => by exfalso; omega⟩
          rw [Ex_yes hT (by omega) q]
          rintro ⟨a, ha, hz⟩
          exact hno a (by omega) ha hz
        | succ c ihc =>
          intro x M1 hc hx hc1 h13 hno
          obtain rfl : x = (c : Int) := by omega
          refine rp_56_51 (D1 := D + E + m + 4) rfl ⟨fun q => by exfalso; omega, fun _ => ⟨by omega, ?_⟩⟩
          rw [Int.toNat_natCast]
          have c2 : chs i b M (g_uA M1 (13, i) k (c : Int)) := hc1.tr (chs.sort hc1.lo) (fun _ h => h)
          have s2 : ∀ t, t < k + 1 → T.testBit t = true → (g_uA M1 (13, i) k (c : Int)).1 13 i t = ((va_up s k c t : Nat) : Int) ∧ va_up s k c t < 8 := fun t ht htb => by
            rw [g_uA_at, va_upn_at]
            by_cases z : t = k
            · subst z
              rw [if_pos ⟨rfl, rfl, rfl⟩, if_pos rfl]
              exact ⟨rfl, by omega⟩
            · rw [if_neg (fun y => z y.2.2), if_neg z, h13 t (by omega) htb]
              exact hso t (by omega) htb
          have g2 : gS (g_uA M1 (13, i) k (c : Int)) i (lw F k) b (va_up s k c) := hg.keep c2 (fun p hp => by
            have h1 := (lw_mem hp).2
            unfold mx at h1
            rw [va_upn_at, va_upn_at, if_neg (by omega), if_neg (by omega)]
            exact ⟨hp, rfl, rfl⟩)
          have hal2 : al (va_up s k c) (lw F k) (some 0) = some b := by
            rw [← hal]
            refine al_congr (fun p hp => ?_) _
            have h1 := (lw_mem hp).2
            unfold mx at h1
            rw [va_upn_at, va_upn_at, if_neg (by omega), if_neg (by omega)]
            exact ⟨rfl, rfl⟩
          have k13 : ∀ M2 : g_M, (∀ t, M2.1 13 i t = (g_uA M1 (13, i) k (c : Int)).1 13 i t) → ∀ t, t < k → T.testBit t = true → M2.1 13 i t = M.1 13 i t := fun M2 h2 t ht htb => by
            rw [h2, g_uA_at, if_neg (by omega)]
            exact h13 t ht htb
          have nxt : ∀ M2, chs i b M M2 → (∀ t, t < k → T.testBit t = true → M2.1 13 i t = M.1 13 i t) → (¬ ∃ u, al (va_up s k c) (lv F k) (some b) = some u ∧ Ex T F lf (k + 1) (max n (c + 1)) (va_up s k c) u) → g_R (D + E + m + 6 + 1) 56 Q 51 [.inr (12, i), .inl (k : Int), .inl (n : Int), .inl (b : Int), .inl ((c : Int) + -1)] [] M2 := fun M2 y1 y2 y3 => ihc _ M2 (by omega) (by omega) y1 y2 (fun a h1 h2 => by
            rcases Nat.lt_or_ge c a with z | z
            · exact hno a z h2
            · obtain rfl : a = c := by omega
              exact y3)
          refine c_60 (T := T) (by omega) hw ((hP.ks hch).ks c2) (by omega) hT (fun t ht => s2 t (by omega)) hb c2.lo g2 (fun M2 d1 d2 d3 => rp_56_70 (D1 := D + E + m + 4) rfl ⟨fun q => ⟨by unfold hm_in; omega, nxt M2 (c2.tr d1 (fun _ h => h)) (k13 M2 d2) (fun ⟨u, h1, _⟩ => by rw [en_none q] at h1; cases h1)⟩, fun q => ⟨by unfold hm_in; omega, by unfold hm_in; omega, ?_⟩⟩)
          cases hd : al (va_up s k c) (lv F k) (some b) with
          | none => rw [hd] at q; exact absurd rfl q
          | some u =>
            have hu := d3 u hd
            rw [show max (n : Int) ((c : Int) + 1) = ((max n (c + 1) : Nat) : Int) by omega]
            have c3 : chs i b M M2 := c2.tr d1 (fun _ h => h)
            refine ih' (s := va_up s k c) (b := u) (n := max n (c + 1)) (hch.tr c3 sb_0) (fun t ht htb => by rw [d2]; exact s2 t ht htb) hu.2.1 (by omega) hu.1 (by rw [lw_succ, al_app, hal2, hd]) (fun r M3 hr e1 e2 => rp_56_95 (D1 := D + E + m + 4) rfl ⟨fun q => ⟨by unfold hm_in; omega, ?_⟩, fun q => ?_⟩)
            · refine nxt M3 (c3.tr e1 hu.2.2) (fun t ht htb => (e2 t (by omega) htb).trans (k13 M2 d2 t ht htb)) (fun ⟨u', h1, h2⟩ => ?_)
              rw [hd] at h1
              cases h1
              rcases hr with ⟨rfl, _⟩ | ⟨_, hr⟩
              · exact absurd q (by decide)
              · exact hr h2
            · refine h 1 M3 (Or.inl ⟨rfl, ?_⟩) (c3.tr e1 hu.2.2) (fun t ht htb => (e2 t (by omega) htb).trans (k13 M2 d2 t ht htb))
              rw [Ex_yes hT (by omega) (by assumption)]
              refine ⟨c, by omega, u, hd, ?_⟩
              rcases hr with ⟨_, hr⟩ | ⟨rfl, _⟩
              · exact hr
              · exact absurd rfl q
      exact loop (n + 1) _ M (by omega) (by omega) (chs.rf hch.lo) (fun _ _ _ => rfl) (fun a h1 h2 => by omega)
    · have hn0 : T.testBit k = false := by simpa using q
      have hnil : lv F k = [] := lv_no (fun z => by rw [hT k z] at hn0; cases hn0)
      have hg2 : gS M i (lw F (k + 1)) b s := by rw [lw_succ, hnil, List.append_nil]; exact hg
      refine ih' (s := s) (b := b) (n := n) hch (fun t ht htb => hso t (by by_cases z : t = k; (rw [z, hn0] at htb; cases htb); omega) htb) hb (by omega) hg2 (by rw [lw_succ, hnil, List.append_nil]; exact hal) (fun r M3 hr e1 e2 => rp_56_47 (D1 := D + E + m + 4) rfl ⟨by omega, h r M3 ?_ e1 (fun t ht => e2 t (by omega))⟩)
      rw [Ex_no hT (by omega) hn0]
      exact hr
end SH

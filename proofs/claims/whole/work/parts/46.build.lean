/-! says: building -/
def lst : Nat → List Nat → Nat
  | c, [] => c
  | _, x :: l => lst x l
theorem lst_mem : ∀ {l : List Nat} {c : Nat}, lst c l ∈ c :: l := by
  intro l
  induction l with
  | nil => intro c; exact List.mem_cons_self
  | cons x l ih => intro c; exact List.mem_cons_of_mem _ (ih (c := x))
theorem lst_snoc {x : Nat} : ∀ {l : List Nat} {c : Nat}, lst c (l ++ [x]) = x := by
  intro l
  induction l with
  | nil => intro c; rfl
  | cons y l ih => intro c; exact ih (c := y)
def up1 (N : Nat → Int) (a z : Nat) : Nat → Int := fun n => if n = a then (z : Int) else N n
def up2 (N : Nat → Int) (a x z : Nat) : Nat → Int := fun n => if n = x then (z : Int) else if n = a then (x : Int) else N n
def upl (ch : Nat → List Nat) (c : Nat) (l : List Nat) : Nat → List Nat := fun d => if d = c then l else ch d
theorem lnk_congr {N N' : Nat → Int} {z : Nat} : ∀ {l : List Nat} {c : Nat}, (∀ n ∈ c :: l, N' n = N n) → lnk N c l z → lnk N' c l z := by
  intro l
  induction l with
  | nil => intro c h h1; have h1 : N c = (z : Int) := h1; show N' c = (z : Int); rw [h c List.mem_cons_self]; exact h1
  | cons x l ih => intro c h h1; exact ⟨by rw [h c List.mem_cons_self]; exact h1.1, ih (fun n hn => h n (List.mem_cons_of_mem _ hn)) h1.2⟩
theorem lnk_ins {N : Nat → Int} {z x : Nat} : ∀ {l : List Nat} {c : Nat}, lnk N c l z → (c :: l).Nodup → x ∉ c :: l → lnk (up2 N (lst c l) x z) c (l ++ [x]) z := by
  intro l
  induction l with
  | nil =>
    intro c h h1 h2
    have hc : c ≠ x := fun y => h2 (by rw [y]; exact List.mem_cons_self)
    refine ⟨?_, ?_⟩
    · show up2 N c x z c = (x : Int)
      unfold up2
      rw [if_neg hc, if_pos rfl]
    · show up2 N c x z x = (z : Int)
      unfold up2
      rw [if_pos rfl]
  | cons y l ih =>
    intro c h h1 h2
    have hc : c ≠ x := fun y => h2 (by rw [y]; exact List.mem_cons_self)
    have hn := List.nodup_cons.mp h1
    have hl : c ≠ lst y l := fun w => hn.1 (by rw [w]; exact lst_mem)
    refine ⟨?_, ih h.2 hn.2 (fun w => h2 (List.mem_cons_of_mem _ w))⟩
    show up2 N (lst y l) x z c = (y : Int)
    unfold up2
    rw [if_neg hc, if_neg hl]
    exact h.1
def GBd (N : Nat → Int) (K b e : Nat) (gt : Nat → Nat) (lg : Nat → Bool) (ch : Nat → List Nat) (dn : Nat → Prop) : Prop :=
  (∀ c, dn c → b.testBit c = true ∧ lnk N c (ch c) (gt c)) ∧
  (∀ n, n < 64 → (0 ≤ N n ↔ ∃ c, dn c ∧ (n = c ∨ n ∈ ch c))) ∧
  (∀ c, dn c → (ch c).Nodup) ∧
  (∀ c d n, dn c → dn d → n ∈ ch c → n ∈ ch d → c = d) ∧
  (∀ c, dn c → lg c = false → ch c = []) ∧
  (∀ c n, dn c → n ∈ ch c → n ≠ 0 ∧ n ≠ gt c ∧ n < K ∧ b.testBit n = false ∧ (n < 8 → e.testBit n = true)) ∧
  (∀ n, n < 64 → N n < (K : Int)) ∧ 8 ≤ K ∧ ∀ c, dn c → gt c < 8
section BD
variable {N : Nat → Int} {K b e : Nat} {gt : Nat → Nat} {lg : Nat → Bool} {ch : Nat → List Nat} {dn : Nat → Prop}
theorem GBd.own (h : GBd N K b e gt lg ch dn) {c d n : Nat} (hc : dn c) (hd : dn d) (h1 : n = c ∨ n ∈ ch c) (h2 : n = d ∨ n ∈ ch d) : c = d := by
  rcases h1 with h1 | h1
  · rcases h2 with h2 | h2
    · rw [← h1, h2]
    · have := (h.2.2.2.2.2.1 d n hd h2).2.2.2.1
      rw [h1, (h.1 c hc).1] at this
      cases this
  · rcases h2 with h2 | h2
    · have := (h.2.2.2.2.2.1 c n hc h1).2.2.2.1
      rw [h2, (h.1 d hd).1] at this
      cases this
    · exact h.2.2.2.1 c d n hc hd h1 h2
theorem GBd.new (h : GBd N K b e gt lg ch dn) {c : Nat} (hb : b.testBit c = true) (hn : ¬ dn c) (hg : gt c < 8) : GBd (up1 N c (gt c)) K b e gt lg (upl ch c []) (fun d => dn d ∨ d = c) := by
  have hch : ∀ d, dn d → upl ch c [] d = ch d := fun d hd => by unfold upl; rw [if_neg (fun z => hn (by rw [← z]; exact hd))]
  have hcc : upl ch c [] c = [] := by unfold upl; rw [if_pos rfl]
  have nin : ∀ d, dn d → c ≠ d ∧ c ∉ ch d := fun d hd => ⟨fun z => hn (by rw [z]; exact hd), fun z => by
    have := (h.2.2.2.2.2.1 d c hd z).2.2.2.1
    rw [hb] at this
    cases this⟩
  have K8 := h.2.2.2.2.2.2.2.1
  refine ⟨fun d hd => ?_, fun n hn64 => ?_, fun d hd => ?_, fun d d' n hd hd' h1 h2 => ?_, fun d hd hl => ?_, fun d n hd h1 => ?_, fun n hn64 => ?_, K8, fun d hd => ?_⟩
  · rcases hd with hd | hd
    · refine ⟨(h.1 d hd).1, ?_⟩
      rw [hch d hd]
      refine lnk_congr (fun n hn2 => ?_) (h.1 d hd).2
      unfold up1
      rw [if_neg]
      intro z
      rcases List.mem_cons.mp hn2 with y | y
      · exact (nin d hd).1 (z.symm.trans y)
      · exact (nin d hd).2 (by rw [← z]; exact y)
    · rw [hd, hcc]
      exact ⟨hb, by show up1 N c (gt c) c = (gt c : Int); unfold up1; rw [if_pos rfl]⟩
  · unfold up1
    by_cases z : n = c
    · rw [if_pos z]
      exact ⟨fun _ => ⟨c, Or.inr rfl, Or.inl z⟩, fun _ => by omega⟩
    · rw [if_neg z, h.2.1 n hn64]
      constructor
      · rintro ⟨d, d1, d2⟩
        exact ⟨d, Or.inl d1, by rw [hch d d1]; exact d2⟩
      · rintro ⟨d, d1 | d1, d2⟩
        · rw [hch d d1] at d2; exact ⟨d, d1, d2⟩
        · rw [d1, hcc] at d2
          rcases d2 with y | y
          · exact absurd y z
          · exact absurd y List.not_mem_nil
  · rcases hd with hd | hd
    · rw [hch d hd]; exact h.2.2.1 d hd
    · rw [hd, hcc]; exact List.nodup_nil
  · rcases hd with hd | hd
    · rcases hd' with hd' | hd'
      · rw [hch d hd] at h1
        rw [hch d' hd'] at h2
        exact h.2.2.2.1 d d' n hd hd' h1 h2
      · rw [hd', hcc] at h2; exact absurd h2 List.not_mem_nil
    · rw [hd, hcc] at h1; exact absurd h1 List.not_mem_nil
  · rcases hd with hd | hd
    · rw [hch d hd]; exact h.2.2.2.2.1 d hd hl
    · rw [hd, hcc]
  · rcases hd with hd | hd
    · rw [hch d hd] at h1; exact h.2.2.2.2.2.1 d n hd h1
    · rw [hd, hcc] at h1; exact absurd h1 List.not_mem_nil
  · unfold up1
    split
    · omega
    · exact h.2.2.2.2.2.2.1 n hn64
  · rcases hd with hd | hd
    · exact h.2.2.2.2.2.2.2.2 d hd
    · rw [hd]; exact hg
theorem GBd.ins (h : GBd N K b e gt lg ch dn) {c x K' e' : Nat} (hc : dn c) (hl : lg c = true) (hx : ∀ d, dn d → x ≠ d ∧ x ∉ ch d) (h0 : x ≠ 0) (hg : x ≠ gt c) (hK : x < K') (hKK : K ≤ K') (hbx : b.testBit x = false) (he : x < 8 → e'.testBit x = true) (hee : sb e e') : GBd (up2 N (lst c (ch c)) x (gt c)) K' b e' gt lg (upl ch c (ch c ++ [x])) dn := by
  have hcc : upl ch c (ch c ++ [x]) c = ch c ++ [x] := by unfold upl; rw [if_pos rfl]
  have hch : ∀ d, d ≠ c → upl ch c (ch c ++ [x]) d = ch d := fun d hd => by unfold upl; rw [if_neg hd]
  have mem : ∀ d n, n ≠ x → (n ∈ upl ch c (ch c ++ [x]) d ↔ n ∈ ch d) := fun d n hn => by
    by_cases z : d = c
    · rw [z, hcc, List.mem_append, List.mem_singleton]
      exact ⟨fun y => y.elim id (fun w => absurd w hn), Or.inl⟩
    · rw [hch d z]
  have mem2 : ∀ d n, n ∈ upl ch c (ch c ++ [x]) d → n ∈ ch d ∨ (n = x ∧ d = c) := fun d n hn => by
    by_cases z : d = c
    · subst z
      rw [hcc, List.mem_append, List.mem_singleton] at hn
      exact hn.elim Or.inl (fun w => Or.inr ⟨w, rfl⟩)
    · rw [hch d z] at hn; exact Or.inl hn
  have hlm : lst c (ch c) = c ∨ lst c (ch c) ∈ ch c := List.mem_cons.mp lst_mem
  have cin : c ∉ ch c := fun z => by
    have := (h.2.2.2.2.2.1 c c hc z).2.2.2.1
    rw [(h.1 c hc).1] at this
    cases this
  have K8 := h.2.2.2.2.2.2.2.1
  have g8 := h.2.2.2.2.2.2.2.2 c hc
  refine ⟨fun d hd => ⟨(h.1 d hd).1, ?_⟩, fun n hn64 => ?_, fun d hd => ?_, fun d d' n hd hd' h1 h2 => ?_, fun d hd hl2 => ?_, fun d n hd h1 => ?_, fun n hn64 => ?_, by omega, h.2.2.2.2.2.2.2.2⟩
  · by_cases z : d = c
    · subst z
      rw [hcc]
      exact lnk_ins (h.1 d hd).2 (List.nodup_cons.mpr ⟨cin, h.2.2.1 d hd⟩) (fun y => by
        rcases List.mem_cons.mp y with w | w
        · exact (hx d hd).1 w
        · exact (hx d hd).2 w)
    · rw [hch d z]
      refine lnk_congr (fun n hn2 => ?_) (h.1 d hd).2
      have hn3 := List.mem_cons.mp hn2
      unfold up2
      rw [if_neg, if_neg]
      · intro y
        exact z (h.own hd hc hn3 (by rw [y]; exact hlm))
      · intro y
        rw [y] at hn3
        rcases hn3 with w | w
        · exact (hx d hd).1 w
        · exact (hx d hd).2 w
  · unfold up2
    by_cases z : n = x
    · rw [if_pos z]
      exact ⟨fun _ => ⟨c, hc, Or.inr (by rw [hcc, z]; exact List.mem_append_right _ List.mem_cons_self)⟩, fun _ => by omega⟩
    · rw [if_neg z]
      by_cases y : n = lst c (ch c)
      · rw [if_pos y]
        refine ⟨fun _ => ⟨c, hc, ?_⟩, fun _ => by omega⟩
        rw [mem c n z, y]
        exact hlm
      · rw [if_neg y, h.2.1 n hn64]
        constructor
        · rintro ⟨d, d1, d2⟩
          exact ⟨d, d1, by rw [mem d n z]; exact d2⟩
        · rintro ⟨d, d1, d2⟩
          rw [mem d n z] at d2
          exact ⟨d, d1, d2⟩
  · by_cases z : d = c
    · subst z
      rw [hcc]
      refine List.nodup_append.mpr ⟨h.2.2.1 d hd, by simp, fun a ha y hy => ?_⟩
      rw [List.mem_singleton] at hy
      subst hy
      exact fun w => (hx d hd).2 (by rw [← w]; exact ha)
    · rw [hch d z]; exact h.2.2.1 d hd
  · rcases mem2 d n h1 with y | ⟨y, y2⟩
    · rcases mem2 d' n h2 with w | ⟨w, w2⟩
      · exact h.2.2.2.1 d d' n hd hd' y w
      · rw [w] at y; exact absurd y (hx d hd).2
    · rcases mem2 d' n h2 with w | ⟨w, w2⟩
      · rw [y] at w; exact absurd w (hx d' hd').2
      · rw [y2, w2]
  · by_cases z : d = c
    · rw [z, hl] at hl2; cases hl2
    · rw [hch d z]; exact h.2.2.2.2.1 d hd hl2
  · rcases mem2 d n h1 with y | ⟨y, y2⟩
    · have k := h.2.2.2.2.2.1 d n hd y
      exact ⟨k.1, k.2.1, by omega, k.2.2.2.1, fun w => hee _ (k.2.2.2.2 w)⟩
    · rw [y, y2]
      exact ⟨h0, hg, hK, hbx, he⟩
  · unfold up2
    have := h.2.2.2.2.2.2.1 n hn64
    split
    · omega
    split
    · omega
    · omega
theorem GBd.fin (h : GBd N K b e gt lg ch dn) (hK : K ≤ 64) (hd : ∀ c, b.testBit c = true → dn c) (h0 : b.testBit 0 = false) (hb : b < 256) : GB N K b gt lg ch := by
  refine ⟨fun c hc => (h.1 c (hd c hc)).2, fun n hn => ?_, fun c hc => h.2.2.1 c (hd c hc), fun c d n hc hd2 => h.2.2.2.1 c d n (hd c hc) (hd d hd2), fun c hc => h.2.2.2.2.1 c (hd c hc), fun c n hc hn => ?_, h0, fun c hc => ⟨h.2.2.2.2.2.2.2.2 c (hd c hc), ?_⟩, h.2.2.2.2.2.2.2.1⟩
  · rw [h.2.1 n (by omega)]
    exact ⟨fun ⟨c, c1, c2⟩ => ⟨c, (h.1 c c1).1, c2⟩, fun ⟨c, c1, c2⟩ => ⟨c, hd c c1, c2⟩⟩
  · have := h.2.2.2.2.2.1 c n (hd c hc) hn
    exact ⟨this.1, this.2.1, this.2.2.1, this.2.2.2.1⟩
  · rcases Nat.lt_or_ge c 8 with y | y
    · exact y
    · rw [Nat.testBit_lt_two_pow (Nat.lt_of_lt_of_le hb (Nat.pow_le_pow_right (n := 2) (by omega) y))] at hc
      cases hc
end BD
def wb (way : Int) (g : Nat) : Prop := hm_and (hm_shr way (g : Int)) 1 = 1
/-- how many rows with a cell stand below i -/
def rc (F : pf_F) (s : Nat → Nat) : Nat → Nat
  | 0 => 0
  | i + 1 => rc F s i + match F.2[i]? with
    | some p => if p.1 = 1 ∧ ¬ s p.2.1 = s p.2.2 then 1 else 0
    | none => 0
theorem rc_s {F : pf_F} {s : Nat → Nat} {i : Nat} {p : pf_T} (h : F.2[i]? = some p) : rc F s (i + 1) = rc F s i + if p.1 = 1 ∧ ¬ s p.2.1 = s p.2.2 then 1 else 0 := by
  show rc F s i + (match F.2[i]? with
    | some p => if p.1 = 1 ∧ ¬ s p.2.1 = s p.2.2 then 1 else 0
    | none => 0) = _
  rw [h]
theorem rc_mono {F : pf_F} {s : Nat → Nat} {i : Nat} : ∀ {j : Nat}, i ≤ j → rc F s i ≤ rc F s j := by
  intro j
  induction j with
  | zero => intro h; rw [show i = 0 by omega]; exact Nat.le_refl _
  | succ j ih =>
    intro h
    by_cases z : i = j + 1
    · rw [z]; exact Nat.le_refl _
    · exact Nat.le_trans (ih (by omega)) (Nat.le_add_right _ _)
/-- how the loose classes lie -/
def PLC (F : pf_F) (s : Nat → Nat) (b L : Nat) (ls : Nat → Nat) (wi rk : Nat → Int) : Prop :=
  (∀ k, k < L → 1 ≤ ls k ∧ ls k < 8 ∧ b.testBit (ls k) = false) ∧ (∀ k k', k < L → k' < L → ls k = ls k' → k = k') ∧ (∀ k, k < L → 0 ≤ rk k ∧ rk k < (L : Int)) ∧
  ∀ k, k < L → 0 ≤ wi k → ∃ p, F.2[(wi k).toNat]? = some p ∧ p.1 = 1 ∧ ne s p ∧ s p.2.2 ≠ ls k
/-- what is known of the chains -/
def CHI (F : pf_F) (s : Nat → Nat) (b L : Nat) (ls : Nat → Nat) (wi rk : Nat → Int) (way : Int) (ch : Nat → List Nat) (i : Nat) (dn : Nat → Prop) : Prop :=
  (∀ (j : Nat) (p : pf_T), j < i → F.2[j]? = some p → ne s p → p.1 = 1 → (∀ k, k < L → wi k = (j : Int) → rk k = 0 → (∀ k', k' < L → wi k' = (j : Int) → k' = k) → ls k ∈ ch (s p.2.1)) ∧ ((∀ k, k < L → wi k < 0) → (∀ g, g < rc F s F.2.length → wb way g) → ∃ n ∈ ch (s p.2.1), 8 ≤ n)) ∧
  (∀ c n, dn c → n ∈ ch c → n < 8 → ∃ k, k < L ∧ ls k = n ∧ ∃ (j : Nat) (p : pf_T), F.2[j]? = some p ∧ ne s p ∧ s p.2.1 = c ∧ wi k = (j : Int)) ∧
  ((∀ g, g < 64 → ¬ wb way g) → ∀ c n, dn c → n ∈ ch c → n < 8)

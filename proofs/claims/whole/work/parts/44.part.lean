/-! says: the class -/
def ne (s : Nat → Nat) (p : pf_T) : Prop := ¬ (p.1 = 1 ∧ s p.2.1 = s p.2.2)
theorem a1_pq {s : Nat → Nat} {p : pf_T} {b : Nat} (hp : p.1 < 2) : a1 s (pq p) b = if p.1 = 1 ∧ s p.2.1 = s p.2.2 then some b else if s p.2.1 = 0 ∨ b.testBit (s p.2.1) = true then none else some (b ||| 2 ^ (s p.2.1)) := by
  unfold a1 pq
  rw [if_neg (by show ¬ 2 + p.1 = 0; omega), if_neg (by show ¬ 2 + p.1 = 1; omega)]
  by_cases z : p.1 = 1 ∧ s p.2.1 = s p.2.2
  · rw [if_pos z, if_pos ⟨by show 2 + p.1 = 3; omega, z.2⟩]
  · rw [if_neg z, if_neg (fun y => z ⟨by have := y.1; show p.1 = 1; omega, y.2⟩)]
theorem al_parts {s : Nat → Nat} : ∀ {l : List pf_T} {b0 b : Nat}, (∀ p ∈ l, pf_ok p) → al s (l.map pq) (some b0) = some b → (∀ c, b.testBit c = true ↔ b0.testBit c = true ∨ ∃ p ∈ l, ne s p ∧ s p.2.1 = c) ∧ (∀ p ∈ l, ne s p → s p.2.1 ≠ 0 ∧ b0.testBit (s p.2.1) = false) ∧ l.Pairwise (fun p q => ne s p → ne s q → s p.2.1 ≠ s q.2.1) := by
  intro l
  induction l with
  | nil =>
    intro b0 b _ h
    cases h
    exact ⟨fun c => ⟨Or.inl, fun h => h.elim id (fun ⟨p, hp, _⟩ => absurd hp List.not_mem_nil)⟩, fun p hp => absurd hp List.not_mem_nil, List.Pairwise.nil⟩
  | cons p l ih =>
    intro b0 b hok h
    have ok := hok p List.mem_cons_self
    rw [List.map_cons, al_cons, a1_pq ok.1] at h
    by_cases z : p.1 = 1 ∧ s p.2.1 = s p.2.2
    · rw [if_pos z] at h
      obtain ⟨h1, h2, h3⟩ := ih (fun q hq => hok q (List.mem_cons_of_mem _ hq)) h
      refine ⟨fun c => ?_, fun q hq hn => ?_, List.pairwise_cons.mpr ⟨fun q _ hn => absurd z hn, h3⟩⟩
      · rw [h1]
        constructor
        · rintro (y | ⟨q, q1, q2⟩)
          · exact Or.inl y
          · exact Or.inr ⟨q, List.mem_cons_of_mem _ q1, q2⟩
        · rintro (y | ⟨q, q1, q2, q3⟩)
          · exact Or.inl y
          · rcases List.mem_cons.mp q1 with w | w
            · rw [w] at q2; exact absurd z q2
            · exact Or.inr ⟨q, w, q2, q3⟩
      · rcases List.mem_cons.mp hq with w | w
        · rw [w] at hn; exact absurd z hn
        · exact h2 q w hn
    · rw [if_neg z] at h
      by_cases y : s p.2.1 = 0 ∨ b0.testBit (s p.2.1) = true
      · rw [if_pos y, al_none] at h; cases h
      · rw [if_neg y] at h
        obtain ⟨h1, h2, h3⟩ := ih (fun q hq => hok q (List.mem_cons_of_mem _ hq)) h
        have hbit : ∀ c, (b0 ||| 2 ^ (s p.2.1)).testBit c = true ↔ b0.testBit c = true ∨ s p.2.1 = c := fun c => by
          rw [Nat.testBit_or, pb_bit, Bool.or_eq_true, decide_eq_true_eq]
        refine ⟨fun c => ?_, fun q hq hn => ?_, List.pairwise_cons.mpr ⟨fun q hq hn hn2 e => ?_, h3⟩⟩
        · rw [h1, hbit]
          constructor
          · rintro ((w | w) | ⟨q, q1, q2⟩)
            · exact Or.inl w
            · exact Or.inr ⟨p, List.mem_cons_self, z, w⟩
            · exact Or.inr ⟨q, List.mem_cons_of_mem _ q1, q2⟩
          · rintro (w | ⟨q, q1, q2, q3⟩)
            · exact Or.inl (Or.inl w)
            · rcases List.mem_cons.mp q1 with v | v
              · rw [v] at q3; exact Or.inl (Or.inr q3)
              · exact Or.inr ⟨q, v, q2, q3⟩
        · rcases List.mem_cons.mp hq with w | w
          · rw [w]
            exact ⟨fun v => y (Or.inl v), by cases v : b0.testBit (s p.2.1) with | false => rfl | true => exact absurd (Or.inr v) y⟩
          · have k := h2 q w hn
            refine ⟨k.1, ?_⟩
            cases v : b0.testBit (s q.2.1) with
            | false => rfl
            | true => rw [(hbit _).mpr (Or.inl v)] at k; cases k.2
        · have k := (h2 q hq hn2).2
          rw [(hbit _).mpr (Or.inr e)] at k
          cases k
def cls (s : Nat → Nat) (F : pf_F) : List pf_T := F.2.map (fun p => (p.1, s p.2.1, s p.2.2))
def fnd : List pf_T → Nat → Option pf_T
  | [], _ => none
  | p :: l, c => if ¬ (p.1 = 1 ∧ p.2.1 = p.2.2) ∧ p.2.1 = c then some p else fnd l c
def gF (F : pf_F) (s : Nat → Nat) (c : Nat) : Nat := match fnd (cls s F) c with
  | some p => p.2.2
  | none => 0
def lF (F : pf_F) (s : Nat → Nat) (c : Nat) : Bool := match fnd (cls s F) c with
  | some p => p.1 == 1
  | none => false
theorem fnd_un {s : Nat → Nat} : ∀ {l : List pf_T}, l.Pairwise (fun p q => ne s p → ne s q → s p.2.1 ≠ s q.2.1) → ∀ {p : pf_T}, p ∈ l → ne s p → fnd (l.map (fun p => (p.1, s p.2.1, s p.2.2))) (s p.2.1) = some (p.1, s p.2.1, s p.2.2) := by
  intro l
  induction l with
  | nil => intro _ p hp; exact absurd hp List.not_mem_nil
  | cons q l ih =>
    intro hpw p hp hn
    have hc := List.pairwise_cons.mp hpw
    show (if ¬ (q.1 = 1 ∧ s q.2.1 = s q.2.2) ∧ s q.2.1 = s p.2.1 then some (q.1, s q.2.1, s q.2.2) else fnd (l.map (fun p => (p.1, s p.2.1, s p.2.2))) (s p.2.1)) = some (p.1, s p.2.1, s p.2.2)
    by_cases z : ne s q ∧ s q.2.1 = s p.2.1
    · have e : q = p := by
        rcases List.mem_cons.mp hp with w | w
        · exact w.symm
        · exact absurd z.2 (hc.1 p w z.1 hn)
      rw [if_pos (show ¬ (q.1 = 1 ∧ s q.2.1 = s q.2.2) ∧ s q.2.1 = s p.2.1 from z), e]
    · rw [if_neg (show ¬ (¬ (q.1 = 1 ∧ s q.2.1 = s q.2.2) ∧ s q.2.1 = s p.2.1) from z)]
      rcases List.mem_cons.mp hp with w | w
      · rw [w] at hn z; exact absurd ⟨hn, rfl⟩ z
      · exact ih hc.2 w hn
/-- the cells at which parts of F begin, where they lead, and which are rows -/
def BG (F : pf_F) (s : Nat → Nat) (b : Nat) : Prop := (∀ c, b.testBit c = true ↔ ∃ p ∈ F.2, ne s p ∧ s p.2.1 = c) ∧ (∀ p ∈ F.2, ne s p → s p.2.1 ≠ 0 ∧ gF F s (s p.2.1) = s p.2.2 ∧ (lF F s (s p.2.1) = true ↔ p.1 = 1)) ∧ F.2.Pairwise (fun p q => ne s p → ne s q → s p.2.1 ≠ s q.2.1)
theorem al_BG {F : pf_F} {s : Nat → Nat} {b : Nat} (hw : pf_wf F) (h : al s (it F) (some 0) = some b) : PH s F ∧ BG F s b := by
  by_cases hP : PH s F
  · refine ⟨hP, ?_⟩
    have e0 : al s (it F) (some 0) = al s (F.2.map pq) (some 0) := by
      unfold it
      rw [al_app, al_PH hw.2.2.1 hP]
    rw [e0] at h
    obtain ⟨h1, h2, h3⟩ := al_parts hw.2.2.2 h
    refine ⟨fun c => ?_, fun p hp hn => ?_, h3⟩
    · rw [h1, Nat.zero_testBit]
      constructor
      · rintro (y | y)
        · cases y
        · exact y
      · exact Or.inr
    · have hf := fnd_un h3 hp hn
      refine ⟨(h2 p hp hn).1, ?_, ?_⟩
      · unfold gF cls
        rw [hf]
      · unfold lF cls
        rw [hf]
        show (p.1 == 1) = true ↔ _
        simp
  · exfalso
    unfold it at h
    rw [al_app, al_nPH hw.2.2.1 hP, al_none] at h
    cases h
theorem cvl_congr {gt : Nat → Nat} {lg : Nat → Bool} {b : Nat} {s s' : Nat → Nat} : ∀ {l : List pf_T}, (∀ p ∈ l, s' p.2.1 = s p.2.1 ∧ s' p.2.2 = s p.2.2) → ∀ o, cvl gt lg b s' l o = cvl gt lg b s l o := by
  intro l
  induction l with
  | nil => intro _ o; rfl
  | cons p l ih =>
    intro h o
    have hp := h p List.mem_cons_self
    cases o with
    | none => rw [cvl_none, cvl_none]
    | some t =>
      rw [cvl_cons, cvl_cons, show cv1 gt lg b s' p t = cv1 gt lg b s p t by unfold cv1; rw [hp.1, hp.2]]
      exact ih (fun q hq => h q (List.mem_cons_of_mem _ hq)) _
def lf2 (F G : pf_F) (s : Nat → Nat) (b : Nat) : Prop := ¬ CV (gF F s) (lF F s) b s G
theorem cls_congr {F : pf_F} {s s' : Nat → Nat} (h : ∀ t, pf_in t F → s' t = s t) : cls s' F = cls s F := List.map_congr_left (fun p hp => by
  have := pf_in2 hp
  rw [h _ this.1, h _ this.2])
theorem lf2_congr {F G : pf_F} {s s' : Nat → Nat} {b : Nat} (hF : ∀ t, pf_in t F → s' t = s t) (hG : ∀ t, pf_in t G → s' t = s t) : lf2 F G s' b ↔ lf2 F G s b := by
  have e1 : gF F s' = gF F s := funext (fun c => by unfold gF; rw [cls_congr hF])
  have e2 : lF F s' = lF F s := funext (fun c => by unfold lF; rw [cls_congr hF])
  unfold lf2 CV
  rw [e1, e2, cvl_congr (fun p hp => ⟨hG _ (pf_in2 hp).1, hG _ (pf_in2 hp).2⟩)]
  have e3 : PH s' G ↔ PH s G := by
    unfold PH
    constructor
    · intro h p hp
      have := h p hp
      rw [hG _ (pf_in1 hp).1, hG _ (pf_in1 hp).2] at this
      exact this
    · intro h p hp
      rw [hG _ (pf_in1 hp).1, hG _ (pf_in1 hp).2]
      exact h p hp
  rw [e3]
/-- some way suits F and isn't covered by G -/
def PT (T : Nat) (F G : pf_F) : Prop := ∃ s b, gw T s ∧ al s (it F) (some 0) = some b ∧ lf2 F G s b
theorem Ex_PT {T : Nat} {F G : pf_F} {s : Nat → Nat} (hw : pf_wf F) : Ex T F (lf2 F G) 0 0 s 0 ↔ PT T F G := by
  constructor
  · rintro ⟨s', _, h2, b, h3, h4⟩
    rw [lu_0, al_perm (lw_perm hw)] at h3
    exact ⟨s', b, RG_gw.mp h2, h3, h4⟩
  · rintro ⟨s', b, h2, h3, h4⟩
    exact ⟨s', fun j hj => by omega, RG_gw.mpr h2, b, by rw [lu_0, al_perm (lw_perm hw)]; exact h3, h4⟩
theorem cF.ks {M M' : g_M} {i b f : Nat} {F : pf_F} (h : cF M f F) (hc : chs i b M M') : cF M' f F := by
  unfold cF at h ⊢
  rw [hc.2.1 1 _ (by omega), hc.2.1 2 _ (by omega), hc.2.1 3 _ (by omega)]
  exact h
theorem c_64 {D : Nat} (hD : 25 ≤ D) {M : g_M} {i f g : Nat} {F G : pf_F} {Q : g_P} (hc : cF M f F) (hw : pf_wf F) (hcG : cF M g G) (hwG : pf_wf G) (hlo : ∃ lo : Nat, lo < 256 ∧ M.1 12 i 3 = (lo : Int))
    (h : ∀ (r : Nat) (M' : g_M), (r = 1 ∧ PT (pf_terms F ||| pf_terms G ||| 1) F G ∨ r = 0 ∧ ¬ PT (pf_terms F ||| pf_terms G ||| 1) F G) → chw i M M' → Q [.inl (r : Int)] M') : g_Ev D 64 [.inr (12, i), .inr (1, f), .inr (1, g)] M Q := by
  obtain ⟨D, rfl⟩ := g_dep hD
  have lF' := pf_terms_lt hw
  have lG' := pf_terms_lt hwG
  have hT1 : pf_terms F ||| pf_terms G < 256 := Nat.or_lt_two_pow (n := 8) lF' lG'
  have hT2 : pf_terms F ||| pf_terms G ||| 1 < 256 := Nat.or_lt_two_pow (n := 8) hT1 (by decide)
  refine g_enter hk_64 hn_64 (rp_64_0 rfl (c_39 (by omega) hc hw (fun M1 g1 g2 => rp_64_13 rfl ?_)))
  have hcG1 : cF M1 g G := by
    have e : ∀ t n, t = 1 ∨ t = 2 ∨ t = 3 → M1.1 t n = M.1 t n := fun t n ht => g1.2 t n (by omega)
    unfold cF at hcG ⊢
    rw [e 1 _ (by omega), e 2 _ (by omega), e 3 _ (by omega)]
    exact hcG
  refine c_40 (by omega) hcG1 hwG (rp_64_25 rfl ?_)
  rw [g2.1, show (1 : Int) = ((1 : Nat) : Int) from rfl, pb_or (by omega) (by omega), pb_or (by omega) (by omega)]
  generalize hT : pf_terms F ||| pf_terms G ||| 1 = T at hT2 h
  have hTF : ∀ t, pf_in t F → T.testBit t = true := fun t ht => by rw [← hT, Nat.testBit_or, Nat.testBit_or, pf_terms_bit.mpr ht]; rfl
  have hTG : ∀ t, pf_in t G → T.testBit t = true := fun t ht => by rw [← hT, Nat.testBit_or, Nat.testBit_or, pf_terms_bit.mpr ht, Bool.or_true]; rfl
  have e1 : ∀ t n, ¬ (t = 12 ∧ n = i) → (g_uA M1 (12, i) 4 (T : Int)).1 t n = M1.1 t n := fun t n hn => by
    funext a
    rw [g_uA_at, if_neg]
    rintro ⟨rfl, rfl, -⟩
    exact hn ⟨rfl, rfl⟩
  have lo2 : ∃ lo : Nat, lo < 256 ∧ (g_uA M1 (12, i) 4 (T : Int)).1 12 i 3 = (lo : Int) := by
    obtain ⟨lo, k1, k2⟩ := hlo
    refine ⟨lo, k1, ?_⟩
    rw [g_uA_at, if_neg (by omega), g1.2 12 i (by omega)]
    exact k2
  have hP : cP (g_uA M1 (12, i) 4 (T : Int)) (i + 1) F := by
    unfold cP cA at g2 ⊢
    rw [e1 7 _ (by omega), e1 10 _ (by omega), e1 11 _ (by omega)]
    exact g2
  have hcG2 : cF (g_uA M1 (12, i) 4 (T : Int)) g G := by
    unfold cF at hcG1 ⊢
    rw [e1 1 _ (by omega), e1 2 _ (by omega), e1 3 _ (by omega)]
    exact hcG1
  have hM2 : (g_uA M1 (12, i) 4 (T : Int)).2 i = some g := by
    show M1.2 i = some g
    rw [g1.1]
    simp [g_uB, va_up]
  refine c_56 (T := T) (lf := lf2 F G) (E := 5) hw hTF hT2 (fun b s s' hs => lf2_congr (fun t ht => hs t (pf_in_lt hw ht) (hTF t ht)) (fun t ht => hs t (pf_in_lt hwG ht) (hTG t ht))) hP (by rw [g_uA_at, if_pos ⟨rfl, rfl, rfl⟩]) ?_ 8 0 (by omega) (by omega) (s := fun _ => 0) (b := 0) (n := 0) (chs.rf lo2) (fun t ht => by omega) (by omega) (by omega) (fun c hcb => by rw [Nat.zero_testBit] at hcb; cases hcb) rfl (fun r M2 hr c1 _ => rp_64_38 rfl ⟨by omega, h r M2 ?_ ?_⟩)
  · intro M' s b hch hso hb hgs hal
    refine ⟨fun z => absurd (z.symm.trans hM2) (by simp), fun g' hg' D' Q' hD' q0 q1 => ?_⟩
    obtain rfl : g = g' := by rw [hM2] at hg'; cases hg'; rfl
    rw [al_perm (lw_perm hw)] at hal
    have hB := (al_BG hw hal).2
    obtain ⟨lo, lo1, lo3⟩ := hch.lo
    refine c_57 (gt := gF F s) (lg := lF F s) (lo := lo) hD' ⟨hb, lo1, lo3, fun c hcb => ?_⟩ (by rw [hch.1]; exact hM2) (hcG2.ks hch) hwG (fun t ht => hso t (pf_in_lt hwG ht) (hTG t ht)) (fun hcv => q1 (fun z => z hcv)) (fun hcv => q0 hcv)
    obtain ⟨p, p1, p2, p3, p4, p5⟩ := hgs c hcb
    have pit := (lw_mem p1).1
    have hin := pf_in_it pit
    rcases List.mem_append.mp pit with z | z
    · have := (hw.2.2.1 p z).1
      omega
    · obtain ⟨q, hq, rfl⟩ := List.mem_map.mp z
      have hqn : ne s q := by
        rintro ⟨w1, w2⟩
        rcases p2 with y | ⟨_, y⟩
        · have : 2 + q.1 = 2 := y
          omega
        · exact y w2
      have k := hB.2.1 q hq hqn
      have p3' : s q.2.1 = c := p3
      rw [p3'] at k
      have p4' : M'.1 14 i c = (s q.2.2 : Int) := p4
      have hsy := hso q.2.2 (pf_in_lt hw (pf_in2 hq).2) (hTF _ (pf_in2 hq).2)
      have p5' : lo.testBit c = true ↔ 2 + q.1 = 3 := p5 lo lo3
      refine ⟨by rw [p4', k.2.1], by rw [k.2.1]; exact hsy.2, ?_⟩
      have : lo.testBit c = true ↔ lF F s c = true := by rw [p5', k.2.2]; omega
      cases w : lo.testBit c <;> cases v : lF F s c <;> simp_all
  · rw [Ex_PT hw] at hr
    exact hr
  · refine ⟨fun n hn => ?_, fun t n h1 h2 => ?_, c1.lo⟩
    · rw [c1.1]
      show M1.2 n = M.2 n
      rw [g1.1]
      simp [g_uB, va_up, hn]
    · rw [c1.2.1 t n h1, e1 t n (by omega), g1.2 t n h2]
      rfl

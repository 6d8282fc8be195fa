/-! STEP: what is done to a formula -/
def sp (t : Nat) : Option Nat := if t.testBit 5 = false then some 5 else if t.testBit 6 = false then some 6 else if t.testBit 7 = false then some 7 else none
theorem sp_g {t : Nat} : g_spare (t : Int) = en (sp t) := by
  unfold g_spare sp
  rw [Int.toNat_natCast]
  split
  · rfl
  split
  · rfl
  split
  · rfl
  rfl
theorem sp_lt {t s : Nat} (h : sp t = some s) : 5 ≤ s ∧ s < 8 ∧ t.testBit s = false := by
  unfold sp at h
  split at h
  · next z => cases h; exact ⟨by omega, by omega, z⟩
  split at h
  · next z => cases h; exact ⟨by omega, by omega, z⟩
  split at h
  · next z => cases h; exact ⟨by omega, by omega, z⟩
  · cases h
def r1 (x s : Nat) (p : pf_T) : pf_T := (p.1, if p.2.1 = x then s else p.2.1, if p.2.2 = x then s else p.2.2)
def ren (F : pf_F) (x s : Nat) : pf_F := (F.1.map (r1 x s), F.2.map (r1 x s))
theorem r1_ok {x s : Nat} {p : pf_T} (hs : s < 8) (h : pf_ok p) : pf_ok (r1 x s p) := by
  unfold pf_ok at h ⊢
  unfold r1
  refine ⟨h.1, ?_, ?_⟩
  · show (if p.2.1 = x then s else p.2.1) < 8
    split <;> omega
  · show (if p.2.2 = x then s else p.2.2) < 8
    split <;> omega
theorem ren_wf {F : pf_F} {x s : Nat} (hs : s < 8) (h : pf_wf F) : pf_wf (ren F x s) := by
  refine ⟨by unfold ren; simpa using h.1, by unfold ren; simpa using h.2.1, fun p hp => ?_, fun p hp => ?_⟩
  · obtain ⟨q, hq, rfl⟩ := List.mem_map.mp hp
    exact r1_ok hs (h.2.2.1 q hq)
  · obtain ⟨q, hq, rfl⟩ := List.mem_map.mp hp
    exact r1_ok hs (h.2.2.2 q hq)
theorem g_ren_c {p : pf_T} {x s : Nat} (hp : it_ok p) : g_ren (pf_c p) (x : Int) (s : Int) = pf_c (r1 x s p) := by
  have r := it_rg hp
  unfold g_ren
  rw [r.2.2.1, r.2.2.2.1, r.2.2.2.2]
  unfold pf_c r1
  show 64 * (p.1 : Int) + 8 * (if (p.2.1 : Int) = (x : Int) then (s : Int) else (p.2.1 : Int)) + (if (p.2.2 : Int) = (x : Int) then (s : Int) else (p.2.2 : Int)) = 64 * (p.1 : Int) + 8 * ((if p.2.1 = x then s else p.2.1 : Nat) : Int) + ((if p.2.2 = x then s else p.2.2 : Nat) : Int)
  by_cases h1 : p.2.1 = x
  · by_cases h2 : p.2.2 = x
    · rw [if_pos (by omega), if_pos (by omega), if_pos h1, if_pos h2]
    · rw [if_pos (by omega), if_neg (by omega), if_pos h1, if_neg h2]
  · by_cases h2 : p.2.2 = x
    · rw [if_neg (by omega), if_pos (by omega), if_neg h1, if_pos h2]
    · rw [if_neg (by omega), if_neg (by omega), if_neg h1, if_neg h2]
theorem g_ren_p {p : pf_T} {x s : Nat} (hp : pf_ok p) : g_ren (128 + pf_c p) (x : Int) (s : Int) = 128 + pf_c (r1 x s p) := by
  rw [← pf_c_pq, g_ren_c (pq_ok hp), show r1 x s (pq p) = pq (r1 x s p) from rfl, pf_c_pq]
def pu (F : pf_F) (p : pf_T) : Option pf_F := if p ∈ F.1 then some F else if F.1.length < 16 then some (F.1 ++ [p], F.2) else none
theorem pu_wf {F F' : pf_F} {p : pf_T} (h : pu F p = some F') (hw : pf_wf F) (hp : pf_ok p) : pf_wf F' ∧ F'.2 = F.2 ∧ ∀ q ∈ F.1, q ∈ F'.1 := by
  unfold pu at h
  split at h
  · cases h; exact ⟨hw, rfl, fun _ h => h⟩
  split at h
  · next hl =>
    cases h
    refine ⟨⟨by simp; omega, hw.2.1, fun q hq => ?_, hw.2.2.2⟩, rfl, fun q hq => List.mem_append_left _ hq⟩
    rcases List.mem_append.mp hq with z | z
    · exact hw.2.2.1 q z
    · rw [List.mem_singleton.mp z]; exact hp
  · cases h
/-- terms that are known to be the same -/
def p1 (S : Nat) (p : pf_T) : Nat := if p.1 = 0 ∧ (S.testBit p.2.1 = true ∨ S.testBit p.2.2 = true) then S ||| (2 ^ p.2.1 ||| 2 ^ p.2.2) else S
def ps (F : pf_F) (S : Nat) : Nat := F.1.foldl p1 S
def pn (F : pf_F) : Nat → Nat → Nat
  | 0, S => S
  | n + 1, S => pn F n (ps F S)
def kn (F : pf_F) (t : Nat) : Nat := pn F 7 (2 ^ t)
theorem p1_sb {S : Nat} {p : pf_T} : sb S (p1 S p) := by
  unfold p1
  split
  · exact sb_or_l
  · exact fun _ h => h
theorem fold_sb {l : List pf_T} : ∀ {S : Nat}, sb S (l.foldl p1 S) := by
  induction l with
  | nil => intro S; exact fun _ h => h
  | cons p l ih => intro S; exact fun i hi => ih (S := p1 S p) i (p1_sb i hi)
theorem ps_sb {F : pf_F} {S : Nat} : sb S (ps F S) := fold_sb
theorem p1_lt {S : Nat} {p : pf_T} (hS : S < 256) (hp : pf_ok p) : p1 S p < 256 := by
  unfold p1
  split
  · exact Nat.or_lt_two_pow (n := 8) hS (Nat.or_lt_two_pow (n := 8) (pb_pow8 hp.2.1) (pb_pow8 hp.2.2))
  · exact hS
theorem fold_lt {l : List pf_T} : ∀ {S : Nat}, S < 256 → (∀ p ∈ l, pf_ok p) → l.foldl p1 S < 256 := by
  induction l with
  | nil => intro S h _; exact h
  | cons p l ih => intro S h hp; exact ih (p1_lt h (hp p List.mem_cons_self)) (fun q hq => hp q (List.mem_cons_of_mem _ hq))
theorem ps_lt {F : pf_F} {S : Nat} (hw : pf_wf F) (h : S < 256) : ps F S < 256 := fold_lt h hw.2.2.1
theorem pn_lt {F : pf_F} (hw : pf_wf F) : ∀ {n S : Nat}, S < 256 → pn F n S < 256 := by
  intro n
  induction n with
  | zero => intro S h; exact h
  | succ n ih => intro S h; exact ih (ps_lt hw h)
theorem pn_sb {F : pf_F} : ∀ {n S : Nat}, sb S (pn F n S) := by
  intro n
  induction n with
  | zero => intro S; exact fun _ h => h
  | succ n ih => intro S; exact fun i hi => ih (S := ps F S) i (ps_sb i hi)
theorem kn_lt {F : pf_F} {t : Nat} (hw : pf_wf F) (ht : t < 8) : kn F t < 256 := pn_lt hw (pb_pow8 ht)
theorem pn_fix {F : pf_F} {S : Nat} (h : ps F S = S) : ∀ {n : Nat}, pn F n S = S := by
  intro n
  induction n with
  | zero => rfl
  | succ n ih => show pn F n (ps F S) = S; rw [h]; exact ih
def fp (F : pf_F) (how S : Nat) : Option Nat := F.2.findIdx? (fun p => decide (p.1 = how) && S.testBit p.2.1)
theorem fp_some {F : pf_F} {how S j : Nat} (h : fp F how S = some j) : ∃ p, F.2[j]? = some p ∧ p.1 = how ∧ S.testBit p.2.1 = true := by
  unfold fp at h
  obtain ⟨h1, h2, h3⟩ := List.findIdx?_eq_some_iff_getElem.mp h
  rw [Bool.and_eq_true, decide_eq_true_eq] at h2
  exact ⟨F.2[j], List.getElem?_eq_getElem h1, h2.1, h2.2⟩
theorem fp_at {F : pf_F} {how S j : Nat} {p : pf_T} (h : F.2[j]? = some p) (h1 : p.1 = how) (h2 : S.testBit p.2.1 = true) (h3 : ∀ (i : Nat) (q : pf_T), i < j → F.2[i]? = some q → ¬ (q.1 = how ∧ S.testBit q.2.1 = true)) : fp F how S = some j := by
  unfold fp
  obtain ⟨k1, k2⟩ := List.getElem?_eq_some_iff.mp h
  refine List.findIdx?_eq_some_iff_getElem.mpr ⟨k1, ?_, fun i hi => ?_⟩
  · rw [k2, Bool.and_eq_true, decide_eq_true_eq]; exact ⟨h1, h2⟩
  · have := h3 i (F.2[i]'(by omega)) hi (List.getElem?_eq_getElem (by omega))
    rw [Bool.and_eq_true, decide_eq_true_eq]
    exact this
theorem fp_no {F : pf_F} {how S : Nat} (h3 : ∀ p ∈ F.2, ¬ (p.1 = how ∧ S.testBit p.2.1 = true)) : fp F how S = none := by
  unfold fp
  refine List.findIdx?_eq_none_iff.mpr (fun p hp => ?_)
  have := h3 p hp
  cases w : (decide (p.1 = how) && S.testBit p.2.1) with
  | false => rfl
  | true => rw [Bool.and_eq_true, decide_eq_true_eq] at w; exact absurd w this
theorem fp_none {F : pf_F} {how S : Nat} (h : fp F how S = none) : ∀ p ∈ F.2, ¬ (p.1 = how ∧ S.testBit p.2.1 = true) := fun p hp z => by
  unfold fp at h
  have := List.findIdx?_eq_none_iff.mp h p hp
  rw [Bool.and_eq_false_iff, decide_eq_false_iff_not] at this
  rcases this with w | w
  · exact w z.1
  · rw [z.2] at w; cases w
def pth (F : pf_F) (j : Nat) : pf_T := F.2.getD j (0, 0, 0)
theorem pth_at {F : pf_F} {j : Nat} {p : pf_T} (h : F.2[j]? = some p) : pth F j = p := by
  unfold pth
  rw [List.getD_eq_getElem?_getD, h]
  rfl
def emp (F : pf_F) (j : Nat) : Option pf_F := pu (F.1, F.2.eraseIdx j) (0, (pth F j).2.1, (pth F j).2.2)
def lng (F : pf_F) (j : Nat) : Option pf_F := (sp (pf_terms F)).bind (fun s => if F.2.length < 10 then pu (F.1, (F.2.set j (0, (pth F j).2.1, s)).insertIdx (j + 1) (1, s, (pth F j).2.2)) (1, (pth F j).2.1, (pth F j).2.2) else none)
def vac (F : pf_F) (x : Nat) : Option (pf_F × Nat) := if (pf_terms F).testBit x = true then (sp (pf_terms F)).map (fun s => (ren F x s, s)) else some (F, x)
def bec (F : pf_F) (x v : Nat) : Option pf_F := (vac F x).bind (fun q => pu q.1 (0, x, if v = x then q.2 else v))
def bnw (F : pf_F) (x : Nat) : Option pf_F := (vac F x).bind (fun q => (sp (pf_terms q.1)).bind (fun s => if q.1.2.length < 10 then some (q.1.1, q.1.2 ++ [(0, x, s)]) else none))
def chgf (act x y : Nat) (F : pf_F) (u : Nat) : Option pf_F :=
  if act = 0 then (if x = y then some F else bec F x y)
  else if act = 1 then bec F x 0
  else if act = 2 then bnw F x
  else if act = 3 then some (F.1, F.2.eraseIdx u)
  else if act = 4 then bec F x (pth F u).2.2
  else if act = 5 then some (F.1, F.2.set u (0, (pth F u).2.1, y))
  else if act = 6 then pu F (0, x, y)
  else pu F (1, x, y)
theorem wf_erase {F : pf_F} {j : Nat} (hw : pf_wf F) : pf_wf (F.1, F.2.eraseIdx j) := ⟨hw.1, Nat.le_trans (List.length_eraseIdx_le ..) hw.2.1, hw.2.2.1, fun p hp => hw.2.2.2 p (List.mem_of_mem_eraseIdx hp)⟩
theorem pth_ok {F : pf_F} {j : Nat} (hw : pf_wf F) : pf_ok (pth F j) := by
  unfold pth
  rw [List.getD_eq_getElem?_getD]
  cases h : F.2[j]? with
  | none => exact ⟨by decide, by decide, by decide⟩
  | some p => exact hw.2.2.2 p (List.mem_of_getElem? h)
theorem emp_wf {F E : pf_F} {j : Nat} (hw : pf_wf F) (h : emp F j = some E) : pf_wf E ∧ E.2 = F.2.eraseIdx j := by
  have ok := pth_ok (j := j) hw
  have := pu_wf h (wf_erase hw) ⟨by show 0 < 2; decide, ok.2.1, ok.2.2⟩
  exact ⟨this.1, this.2.1⟩
theorem wf_set {F : pf_F} {j : Nat} {p : pf_T} (hw : pf_wf F) (hp : pf_ok p) : pf_wf (F.1, F.2.set j p) := ⟨hw.1, by simpa using hw.2.1, hw.2.2.1, fun q hq => by
  rcases List.mem_or_eq_of_mem_set hq with z | z
  · exact hw.2.2.2 q z
  · rw [z]; exact hp⟩
theorem wf_ins {F : pf_F} {j : Nat} {p : pf_T} (hw : pf_wf F) (hp : pf_ok p) (hl : F.2.length < 10) : pf_wf (F.1, F.2.insertIdx j p) := by
  refine ⟨hw.1, ?_, hw.2.2.1, fun q hq => ?_⟩
  · have := @List.length_insertIdx_le_succ pf_T F.2 p j
    show (F.2.insertIdx j p).length ≤ 10
    omega
  · rcases Nat.lt_or_ge F.2.length j with y | y
    · have hq2 : q ∈ F.2.insertIdx j p := hq
      rw [List.insertIdx_of_length_lt y] at hq2
      exact hw.2.2.2 q hq2
    · rcases (List.mem_insertIdx y).mp hq with z | z
      · rw [z]; exact hp
      · exact hw.2.2.2 q z
theorem lng_wf {F G : pf_F} {j : Nat} (hw : pf_wf F) (h : lng F j = some G) : pf_wf G := by
  unfold lng at h
  have ok := pth_ok (j := j) hw
  cases hs : sp (pf_terms F) with
  | none => rw [hs] at h; cases h
  | some s =>
    rw [hs, Option.bind_some] at h
    have s8 := sp_lt hs
    split at h
    · next hl =>
      have w1 : pf_wf (F.1, F.2.set j (0, (pth F j).2.1, s)) := wf_set hw ⟨by show 0 < 2; decide, ok.2.1, s8.2.1⟩
      have w2 : pf_wf (F.1, (F.2.set j (0, (pth F j).2.1, s)).insertIdx (j + 1) (1, s, (pth F j).2.2)) := wf_ins w1 ⟨by show 1 < 2; decide, s8.2.1, ok.2.2⟩ (by simpa using hl)
      exact (pu_wf h w2 ⟨by show 1 < 2; decide, ok.2.1, ok.2.2⟩).1
    · cases h
theorem vac_wf {F : pf_F} {x : Nat} {q : pf_F × Nat} (hw : pf_wf F) (hx : x < 8) (h : vac F x = some q) : pf_wf q.1 ∧ q.2 < 8 := by
  unfold vac at h
  split at h
  · cases hs : sp (pf_terms F) with
    | none => rw [hs] at h; cases h
    | some s =>
      rw [hs] at h
      cases h
      have := sp_lt hs
      exact ⟨ren_wf this.2.1 hw, this.2.1⟩
  · cases h
    exact ⟨hw, hx⟩
theorem bec_wf {F G : pf_F} {x v : Nat} (hw : pf_wf F) (hx : x < 8) (hv : v < 8) (h : bec F x v = some G) : pf_wf G := by
  unfold bec at h
  cases hq : vac F x with
  | none => rw [hq] at h; cases h
  | some q =>
    rw [hq, Option.bind_some] at h
    have k := vac_wf hw hx hq
    refine (pu_wf h k.1 ⟨by show 0 < 2; decide, hx, ?_⟩).1
    show (if v = x then q.2 else v) < 8
    split
    · exact k.2
    · exact hv
theorem bnw_wf {F G : pf_F} {x : Nat} (hw : pf_wf F) (hx : x < 8) (h : bnw F x = some G) : pf_wf G := by
  unfold bnw at h
  cases hq : vac F x with
  | none => rw [hq] at h; cases h
  | some q =>
    rw [hq, Option.bind_some] at h
    have k := vac_wf hw hx hq
    cases hs : sp (pf_terms q.1) with
    | none => rw [hs] at h; cases h
    | some s =>
      rw [hs, Option.bind_some] at h
      have s8 := sp_lt hs
      split at h
      · next hl =>
        cases h
        refine ⟨k.1.1, by simp; omega, k.1.2.2.1, fun p hp => ?_⟩
        rcases List.mem_append.mp hp with z | z
        · exact k.1.2.2.2 p z
        · rw [List.mem_singleton.mp z]; exact ⟨by show 0 < 2; decide, hx, s8.2.1⟩
      · cases h
theorem chgf_wf {act x y u : Nat} {F G : pf_F} (hw : pf_wf F) (hx : x < 8) (hy : y < 8) (h : chgf act x y F u = some G) : pf_wf G := by
  unfold chgf at h
  have ok := pth_ok (j := u) hw
  split at h
  · split at h
    · cases h; exact hw
    · exact bec_wf hw hx hy h
  split at h
  · exact bec_wf hw hx (by decide) h
  split at h
  · exact bnw_wf hw hx h
  split at h
  · cases h; exact wf_erase hw
  split at h
  · exact bec_wf hw hx ok.2.2 h
  split at h
  · cases h; exact wf_set hw ⟨by show 0 < 2; decide, ok.2.1, hy⟩
  split at h
  · exact (pu_wf h hw ⟨by show 0 < 2; decide, hx, hy⟩).1
  · exact (pu_wf h hw ⟨by show 1 < 2; decide, hx, hy⟩).1
def IFF (F : pf_F) : Prop := IF (pf_terms F ||| 1) F
/-- how a step goes through a case -/
def SG (act x y : Nat) : Nat → pf_F → List pf_F → Int → List pf_F → Prop
  | 0, _, rs, c, rs' => c = -4 ∧ rs' = rs
  | n + 1, F, rs, c, rs' => (¬ IFF F ∧ c = 0 ∧ rs' = rs) ∨ IFF F ∧ (
      ((3 ≤ act ∧ act ≤ 5) ∧ fp F 0 (kn F (if act = 4 then y else x)) = none ∧ (
        (fp F 1 (kn F (if act = 4 then y else x)) = none ∧ c = -5 ∧ rs' = rs) ∨
        ∃ j, fp F 1 (kn F (if act = 4 then y else x)) = some j ∧ (
          (emp F j = none ∧ c = -4 ∧ rs' = rs) ∨
          ∃ E c1 rs1, emp F j = some E ∧ SG act x y n E rs c1 rs1 ∧ (
            (c1 < 0 ∧ c = c1 ∧ rs' = rs1) ∨
            0 ≤ c1 ∧ ((lng F j = none ∧ c = -4 ∧ rs' = rs1) ∨ ∃ G, lng F j = some G ∧ SG act x y n G rs1 c rs'))))) ∨
      ∃ u, (¬ (3 ≤ act ∧ act ≤ 5) ∨ fp F 0 (kn F (if act = 4 then y else x)) = some u) ∧ (
        (chgf act x y F u = none ∧ c = -4 ∧ rs' = rs) ∨
        ∃ G, chgf act x y F u = some G ∧ c = 0 ∧ ((¬ IFF G ∧ rs' = rs) ∨ IFF G ∧ rs' = rs ++ [G])))
/-- a case in which no row is opened, or so few that the depth is enough -/
def hc0 (act x y : Nat) (F : pf_F) : Prop := ¬ (3 ≤ act ∧ act ≤ 5) ∨ fp F 0 (kn F (if act = 4 then y else x)) ≠ none
def CN (act x y n : Nat) (F : pf_F) (rs : List pf_F) : Prop := (F.2.length + 2 ≤ n ∧ rs.length + F.2.length + 1 ≤ 11) ∨ (hc0 act x y F ∧ 1 ≤ n ∧ rs.length + 1 ≤ 11)
theorem p1_mono {S S' : Nat} {p : pf_T} (h : sb S S') : sb (p1 S p) (p1 S' p) := by
  unfold p1
  split
  · next z =>
    rw [if_pos ⟨z.1, z.2.elim (fun w => Or.inl (h _ w)) (fun w => Or.inr (h _ w))⟩]
    intro i hi
    rw [Nat.testBit_or, Bool.or_eq_true] at hi ⊢
    exact hi.elim (fun w => Or.inl (h _ w)) Or.inr
  · split
    · exact fun i hi => sb_or_l i (h i hi)
    · exact h
theorem fold_mono {l : List pf_T} : ∀ {S S' : Nat}, sb S S' → sb (l.foldl p1 S) (l.foldl p1 S') := by
  induction l with
  | nil => intro S S' h; exact h
  | cons p l ih => intro S S' h; exact ih (p1_mono h)
theorem ps_mono {F G : pf_F} (hG : ∃ l, G.1 = F.1 ++ l) {S S' : Nat} (h : sb S S') : sb (ps F S) (ps G S') := by
  obtain ⟨l, hl⟩ := hG
  unfold ps
  rw [hl, List.foldl_append]
  exact fun i hi => fold_sb i (fold_mono h i hi)
theorem pn_mono {F G : pf_F} (hG : ∃ l, G.1 = F.1 ++ l) : ∀ {n S S' : Nat}, sb S S' → sb (pn F n S) (pn G n S') := by
  intro n
  induction n with
  | zero => intro S S' h; exact h
  | succ n ih => intro S S' h; exact ih (ps_mono hG h)
theorem pu_ext {F F' : pf_F} {p : pf_T} (h : pu F p = some F') : ∃ l, F'.1 = F.1 ++ l := by
  unfold pu at h
  split at h
  · cases h; exact ⟨[], (List.append_nil _).symm⟩
  split at h
  · cases h; exact ⟨[p], rfl⟩
  · cases h
theorem pu_2 {F F' : pf_F} {p : pf_T} (h : pu F p = some F') : F'.2 = F.2 := by
  unfold pu at h
  split at h
  · cases h; rfl
  split at h
  · cases h; rfl
  · cases h
/-- a row made longer has its cell -/
theorem lng_hc {act x y j : Nat} {F G : pf_F} (hj : fp F 1 (kn F (if act = 4 then y else x)) = some j) (h : lng F j = some G) : hc0 act x y G := by
  refine Or.inr (fun hn => ?_)
  obtain ⟨p, p1, p2, p3⟩ := fp_some hj
  have hp := pth_at p1
  have hlt := (List.getElem?_eq_some_iff.mp p1).1
  unfold lng at h
  cases hs : sp (pf_terms F) with
  | none => rw [hs] at h; cases h
  | some s =>
    rw [hs, Option.bind_some] at h
    split at h
    · have e1 : ∃ l, G.1 = F.1 ++ l := by have := pu_ext h; exact this
      have e2 : G.2 = (F.2.set j (0, (pth F j).2.1, s)).insertIdx (j + 1) (1, s, (pth F j).2.2) := pu_2 h
      have m1 : ((0, (pth F j).2.1, s) : pf_T) ∈ G.2 := by
        rw [e2]
        have hm : ((0, (pth F j).2.1, s) : pf_T) ∈ F.2.set j (0, (pth F j).2.1, s) := List.mem_set hlt ..
        have hl2 : j + 1 ≤ (F.2.set j (0, (pth F j).2.1, s)).length := by rw [List.length_set]; exact hlt
        exact (List.mem_insertIdx hl2).mpr (Or.inr hm)
      have := fp_none hn _ m1
      refine this ⟨rfl, ?_⟩
      rw [hp]
      exact pn_mono e1 (fun _ h => h) _ p3
    · cases h
theorem len_erase {F E : pf_F} {j : Nat} (hj : j < F.2.length) (h : E.2 = F.2.eraseIdx j) : E.2.length + 1 = F.2.length := by
  rw [h, List.length_eraseIdx_of_lt hj]
  omega
/-- few results -/
theorem SG_few {act x y : Nat} : ∀ {n : Nat} {F : pf_F} {rs : List pf_F} {c : Int} {rs' : List pf_F}, pf_wf F → SG act x y n F rs c rs' → (rs'.length ≤ rs.length + F.2.length + 1) ∧ (hc0 act x y F → rs'.length ≤ rs.length + 1) := by
  intro n
  induction n with
  | zero =>
    rintro F rs c rs' _ ⟨_, h⟩
    rw [h]
    exact ⟨by omega, fun _ => by omega⟩
  | succ n ih =>
    rintro F rs c rs' hw h
    rcases h with ⟨_, _, h⟩ | ⟨_, ⟨h1, h2, h3⟩ | ⟨u, h1, h2⟩⟩
    · rw [h]; exact ⟨by omega, fun _ => by omega⟩
    · refine ⟨?_, fun z => z.elim (fun w => absurd h1 w) (fun w => absurd h2 w)⟩
      rcases h3 with ⟨_, _, h⟩ | ⟨j, hj, ⟨_, _, h⟩ | ⟨E, c1, rs1, e1, e2, e3⟩⟩
      · rw [h]; omega
      · rw [h]; omega
      · obtain ⟨p, p1, _⟩ := fp_some hj
        have hlt := (List.getElem?_eq_some_iff.mp p1).1
        have we := emp_wf hw e1
        have hl := len_erase hlt we.2
        have k1 := (ih we.1 e2).1
        rcases e3 with ⟨_, _, h⟩ | ⟨_, ⟨_, _, h⟩ | ⟨G, g1, g2⟩⟩
        · rw [h]; omega
        · rw [h]; omega
        · have k2 := (ih (lng_wf hw g1) g2).2 (lng_hc hj g1)
          omega
    · have : rs'.length ≤ rs.length + 1 := by
        rcases h2 with ⟨_, _, h⟩ | ⟨G, _, _, ⟨_, h⟩ | ⟨_, h⟩⟩
        · rw [h]; omega
        · rw [h]; omega
        · rw [h]; simp
      exact ⟨by omega, fun _ => this⟩

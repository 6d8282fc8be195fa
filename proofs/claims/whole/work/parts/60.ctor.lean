/-- the constructors' code -/
def crw (j : Nat) : List (Nat × hm_row) := match j with
  | 0 => hc_0
  | 2 => hc_2
  | 3 => hc_3
  | 4 => hc_4
  | 5 => hc_5
  | 6 => hc_6
  | 7 => hc_7
  | 89 => hc_89
  | _ => []
def cis (j : Nat) : Bool := [0, 2, 3, 4, 5, 6, 7, 89].contains j
theorem crw_ok {j : Nat} (h : cis j = true) : ∃ o, hm_okm j o true false (crw j) ∧ hm_rok j (crw j) ∧ 1 ≤ (hm_me j).2.2.1 := by
  have h2 : j ∈ [0, 2, 3, 4, 5, 6, 7, 89] := by unfold cis at h; simpa using h
  simp only [List.mem_cons, List.not_mem_nil, or_false] at h2
  rcases h2 with rfl | rfl | rfl | rfl | rfl | rfl | rfl | rfl
  · exact ⟨6, hk_0.1, hk_0.2, by decide +kernel⟩
  · exact ⟨1, hk_2.1, hk_2.2, by decide +kernel⟩
  · exact ⟨3, hk_3.1, hk_3.2, by decide +kernel⟩
  · exact ⟨4, hk_4.1, hk_4.2, by decide +kernel⟩
  · exact ⟨5, hk_5.1, hk_5.2, by decide +kernel⟩
  · exact ⟨0, hk_6.1, hk_6.2, by decide +kernel⟩
  · exact ⟨2, hk_7.1, hk_7.2, by decide +kernel⟩
  · exact ⟨7, hk_89.1, hk_89.2, by decide +kernel⟩
def isret (i : Instr) : Bool := match i with
  | .return_ => true
  | _ => false
theorem isret_eq {i : Instr} (h : isret i = true) : i = .return_ := by
  cases i <;> first | rfl | (exact Bool.noConfusion h)
def crn (rec : Nat → List hm_V → cM → Option cM) (rows : List (Nat × hm_row)) (cap : Nat × Nat) : Nat → Nat → List hm_V → List hm_V → cM → Option cM
  | 0, _, _, _, _ => none
  | n + 1, pc, ls, st, c => match hm_find rows pc with
    | none => none
    | some row => bif isret row.1 then (bif st.isEmpty && Nat.beq c.1.length cap.1 && Nat.beq (csl c) cap.2 then some c else none)
      else match cst rec cap row pc ls st c with
        | some q => crn rec rows cap n q.1 q.2.1 q.2.2.1 q.2.2.2
        | none => none
def cx : Nat → Nat → List hm_V → cM → Option cM
  | 0, _, _, _ => none
  | d + 1, j, as, c => bif cis j && Nat.beq as.length 1 then crn (cx d) (crw j) (c.1.length + hm_mc j, csl c + hm_ms j) 1500 0 as [] c else none
theorem crn_ok {d j o : Nat} (ok : hm_okm j o true false (crw j) ∧ hm_rok j (crw j)) {rec : Nat → List hm_V → cM → Option cM} (hC : ∀ j as c c' (F : hm_P), rec j as c = some c' → F [] (cmp c') → hm_Cl d j as (cmp c) F) {c0 c2 : cM} {Q : hm_P} (hQ : Q [] (cmp c2)) : ∀ (n : Nat) {pc : Nat} {ls st : List hm_V} {c : cM}, crn rec (crw j) (c0.1.length + hm_mc j, csl c0 + hm_ms j) n pc ls st c = some c2 → hm_R d j (cmp c0) Q pc ls st (cmp c) := by
  intro n
  induction n with
  | zero => intro pc ls st c h; cases h
  | succ n ih =>
    intro pc ls st c h
    refine hm_go ok (fun _ => none) 1 ?_
    unfold hm_wp
    have h : (match hm_find (crw j) pc with
      | none => none
      | some row => bif isret row.1 then (bif st.isEmpty && Nat.beq c.1.length (c0.1.length + hm_mc j) && Nat.beq (csl c) (csl c0 + hm_ms j) then some c else none)
        else match cst rec (c0.1.length + hm_mc j, csl c0 + hm_ms j) row pc ls st c with
          | some q => crn rec (crw j) (c0.1.length + hm_mc j, csl c0 + hm_ms j) n q.1 q.2.1 q.2.2.1 q.2.2.2
          | none => none) = some c2 := h
    cases hf : hm_find (crw j) pc with
    | none => rw [hf] at h; cases h
    | some row =>
      rw [hf] at h
      have h : (bif isret row.1 then (bif st.isEmpty && Nat.beq c.1.length (c0.1.length + hm_mc j) && Nat.beq (csl c) (csl c0 + hm_ms j) then some c else none)
        else match cst rec (c0.1.length + hm_mc j, csl c0 + hm_ms j) row pc ls st c with
          | some q => crn rec (crw j) (c0.1.length + hm_mc j, csl c0 + hm_ms j) n q.1 q.2.1 q.2.2.1 q.2.2.2
          | none => none) = some c2 := h
      show hm_st false 0 (fun _ => 0) false ((cmp c0).1.length + hm_mc j, hm_sl (cmp c0) + hm_ms j) (hm_Cl d) (fun r M' => hm_al (cmp c0) j M' ∧ Q r M') row pc ls st (cmp c) (fun pc' ls' st' M' => hm_R d j (cmp c0) Q pc' ls' st' M')
      cases hr : isret row.1 with
      | true =>
        rw [hr] at h
        have h : (bif st.isEmpty && Nat.beq c.1.length (c0.1.length + hm_mc j) && Nat.beq (csl c) (csl c0 + hm_ms j) then some c else none) = some c2 := h
        have e := isret_eq hr
        obtain ⟨ins, q⟩ := row
        obtain rfl : ins = .return_ := e
        cases hb : (st.isEmpty && Nat.beq c.1.length (c0.1.length + hm_mc j) && Nat.beq (csl c) (csl c0 + hm_ms j)) with
        | false => rw [hb] at h; cases h
        | true =>
          rw [hb] at h
          cases h
          rw [Bool.and_eq_true, Bool.and_eq_true] at hb
          have hst : st = [] := List.isEmpty_iff.mp hb.1.1
          subst hst
          show hm_al (cmp c0) j (cmp c2) ∧ Q [] (cmp c2)
          exact ⟨⟨Nat.eq_of_beq_eq_true hb.1.2, Nat.eq_of_beq_eq_true hb.2⟩, hQ⟩
      | false =>
        rw [hr] at h
        have h : (match cst rec (c0.1.length + hm_mc j, csl c0 + hm_ms j) row pc ls st c with
          | some q => crn rec (crw j) (c0.1.length + hm_mc j, csl c0 + hm_ms j) n q.1 q.2.1 q.2.2.1 q.2.2.2
          | none => none) = some c2 := h
        cases hs : cst rec (c0.1.length + hm_mc j, csl c0 + hm_ms j) row pc ls st c with
        | none => rw [hs] at h; cases h
        | some q =>
          rw [hs] at h
          obtain ⟨pc', ls', st', c'⟩ := q
          exact cst_ok (fun z => by cases z) hC hs (ih h)
theorem cx_ok : ∀ (d : Nat) {j : Nat} {as : List hm_V} {c c2 : cM} {F : hm_P}, cx d j as c = some c2 → F [] (cmp c2) → ∀ {D : Nat}, d ≤ D → hm_Ev D j as (cmp c) F := by
  intro d
  induction d with
  | zero => intro j as c c2 F h; cases h
  | succ d ih =>
    intro j as c c2 F h hF D hD
    unfold cx at h
    cases hb : (cis j && Nat.beq as.length 1) with
    | false => rw [hb] at h; cases h
    | true =>
      rw [hb] at h
      rw [Bool.and_eq_true] at hb
      obtain ⟨o, k1, k2, k3⟩ := crw_ok hb.1
      obtain ⟨D', rfl⟩ : ∃ D', D = D' + 1 := ⟨D - 1, by omega⟩
      exact hm_enter ⟨k1, k2⟩ (by rw [Nat.eq_of_beq_eq_true hb.2]; exact k3) (crn_ok (d := D' + 1) ⟨k1, k2⟩ (fun j as c c' F h1 h2 => ih h1 h2 (by omega)) hF 1500 h)

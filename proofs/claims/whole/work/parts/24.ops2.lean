/-! OPERATIONS THAT ONLY LOOK, AND THE MEMORY -/
section OPS
variable {D : Nat} {M : g_M} {n : Nat} {Fs : Nat → pf_F} {cs vs : Nat → Int} {c : Nat} {Q : g_P}
theorem c_88 (hD : 3 ≤ D) (hi : CI M n Fs cs vs c) {x v : Int} (hv : v = if x = 0 then (n : Int) else if x = 1 then (c : Int) else -1) (h : Q [.inl v] M) : g_Ev D 88 [.inr (0, 2), .inl x] M Q := by
  obtain ⟨D, rfl⟩ := g_dep hD
  refine g_enter hk_88 hn_88 (rp_88_0 rfl ?_)
  rw [hi.1, hi.2.1]
  subst hv
  (repeat' first | refine ⟨?_, ?_⟩ | intro _) <;> simp_all
theorem m_148 (hD : 3 ≤ D) (hi : MI M n Fs cs vs c) {x v : Int} (hv : v = if x = 0 then (n : Int) else if x = 1 then (c : Int) else -1) (h : Q [.inl v] M) : g_Ev D 148 [.inr (0, 286), .inl x] M Q := by
  obtain ⟨D, rfl⟩ := g_dep hD
  refine g_enter hk_148 hn_148 (rp_148_0 rfl ?_)
  rw [hi.1, hi.2.1]
  subst hv
  (repeat' first | refine ⟨?_, ?_⟩ | intro _) <;> simp_all
/-- what size() answers -/
def pv_size (n : Nat) (Fs : Nat → pf_F) (f w : Int) : Int := if 0 ≤ f ∧ f < n ∧ 0 ≤ w ∧ w ≤ 1 then (if w = 0 then ((Fs f.toNat).1.length : Int) else ((Fs f.toNat).2.length : Int)) else -1
theorem c_22 (hD : 3 ≤ D) (hs : SI n Fs cs vs c) (hi : CI M n Fs cs vs c) {f w : Int} (h : Q [.inl (pv_size n Fs f w)] M) : g_Ev D 22 [.inr (0, 2), .inl f, .inl w] M Q := by
  obtain ⟨D, rfl⟩ := g_dep hD
  have l := hs.1
  refine g_enter hk_22 hn_22 (rp_22_0 rfl ?_)
  rw [hi.1]
  unfold pv_size at h
  by_cases hv : 0 ≤ f ∧ f < n ∧ 0 ≤ w ∧ w ≤ 1
  · rw [if_pos hv] at h
    have hF := hi.2.2.1 f.toNat (by omega)
    rw [hF.1, hF.2.1]
    (repeat' first | refine ⟨?_, ?_⟩ | intro _) <;> first | (exfalso; omega) | omega | (rw [if_pos (by omega)] at h; exact h) | (rw [if_neg (by omega)] at h; exact h)
  · rw [if_neg hv] at h
    (repeat' first | refine ⟨?_, ?_⟩ | intro _) <;> first | exact h | (exfalso; omega)
theorem m_100 (hD : 3 ≤ D) (hs : SI n Fs cs vs c) (hi : MI M n Fs cs vs c) {f w : Int} (h : Q [.inl (pv_size n Fs f w)] M) : g_Ev D 100 [.inr (0, 286), .inl f, .inl w] M Q := by
  obtain ⟨D, rfl⟩ := g_dep hD
  have l := hs.1
  refine g_enter hk_100 hn_100 (rp_100_0 rfl ?_)
  rw [hi.1]
  unfold pv_size at h
  by_cases hv : 0 ≤ f ∧ f < n ∧ 0 ≤ w ∧ w ≤ 1
  · rw [if_pos hv] at h
    have hF := hi.2.2.1 f.toNat (by omega)
    rw [hF.1, hF.2.1]
    (repeat' first | refine ⟨?_, ?_⟩ | intro _) <;> first | (exfalso; omega) | omega | (rw [if_pos (by omega)] at h; exact h) | (rw [if_neg (by omega)] at h; exact h)
  · rw [if_neg hv] at h
    (repeat' first | refine ⟨?_, ?_⟩ | intro _) <;> first | exact h | (exfalso; omega)
/-- what told() answers: of a part its how, x, y -/
def pv_of (l : List pf_T) (i w : Int) : Int := match l[i.toNat]? with
  | none => -1
  | some p => if w = 0 then (p.1 : Int) else if w = 1 then (p.2.1 : Int) else (p.2.2 : Int)
def pv_told (n : Nat) (Fs : Nat → pf_F) (f k i w : Int) : Int := if 0 ≤ f ∧ f < n ∧ 0 ≤ k ∧ k ≤ 1 ∧ 0 ≤ i ∧ 0 ≤ w ∧ w ≤ 2 then pv_of (if k = 0 then (Fs f.toNat).1 else (Fs f.toNat).2) i w else -1
theorem pv_of_at {l : List pf_T} {i w : Int} {p : pf_T} (h : l[i.toNat]? = some p) : pv_of l i w = if w = 0 then (p.1 : Int) else if w = 1 then (p.2.1 : Int) else (p.2.2 : Int) := by
  unfold pv_of
  rw [h]
theorem pv_of_no {l : List pf_T} {i w : Int} (h : (l.length : Int) ≤ i) : pv_of l i w = -1 := by
  unfold pv_of
  rw [List.getElem?_eq_none (by omega)]
theorem pb_and1 : hm_and 0 1 = 0 ∧ hm_and 1 1 = 1 ∧ hm_and 2 1 = 0 ∧ hm_and 3 1 = 1 := by decide
theorem pb_and1' {a : Nat} (h : a < 2) : hm_and (a : Int) 1 = a ∧ hm_and (2 + (a : Int)) 1 = a := by
  rcases (show a = 0 ∨ a = 1 by omega) with rfl | rfl
  · exact ⟨pb_and1.1, pb_and1.2.2.1⟩
  · exact ⟨pb_and1.2.1, pb_and1.2.2.2⟩
set_option maxHeartbeats 1000000 in
theorem c_23 (hD : 3 ≤ D) (hs : SI n Fs cs vs c) (hi : CI M n Fs cs vs c) {f k i w : Int} (h : Q [.inl (pv_told n Fs f k i w)] M) : g_Ev D 23 [.inr (0, 2), .inl f, .inl k, .inl i, .inl w] M Q := by
  obtain ⟨D, rfl⟩ := g_dep hD
  have l := hs.1
  refine g_enter hk_23 hn_23 (rp_23_0 rfl ?_)
  rw [hi.1]
  unfold pv_told at h
  by_cases hv : 0 ≤ f ∧ f < n ∧ 0 ≤ k ∧ k ≤ 1 ∧ 0 ≤ i ∧ 0 ≤ w ∧ w ≤ 2
  · rw [if_pos hv] at h
    have hF := hi.2.2.1 f.toNat (by omega)
    have hw := hs.2.2.1 f.toNat (by omega)
    have l1 := hw.1
    have l2 := hw.2.1
    rw [hF.1, hF.2.1]
    by_cases hk : k = 0
    · rw [if_pos hk] at h
      by_cases hl : i < ((Fs f.toNat).1.length : Int)
      · have hlt : i.toNat < (Fs f.toNat).1.length := by omega
        have hat := List.getElem?_eq_getElem hlt
        have ok := hw.2.2.1 _ (List.getElem_mem hlt)
        have r := pf_c_rg ok
        rw [pv_of_at hat] at h
        rw [hF.2.2.1 _ _ hat]
        (repeat' first | refine ⟨?_, ?_⟩ | intro _) <;> first | (exfalso; omega) | omega | skip
        · rw [if_neg (by omega), if_neg (by omega)] at h
          rw [r.2.2.2.2.1]
          exact h
        · rw [if_neg (by omega), if_pos (by omega)] at h
          rw [r.2.2.2.1]
          exact h
        · rw [if_pos (by omega)] at h
          rw [r.2.2.1, (pb_and1' ok.1).1]
          exact h
      · rw [pv_of_no (by omega)] at h
        (repeat' first | refine ⟨?_, ?_⟩ | intro _) <;> first | exact h | (exfalso; omega) | omega
    · rw [if_neg hk] at h
      by_cases hl : i < ((Fs f.toNat).2.length : Int)
      · have hlt : i.toNat < (Fs f.toNat).2.length := by omega
        have hat := List.getElem?_eq_getElem hlt
        have ok := hw.2.2.2 _ (List.getElem_mem hlt)
        have r := pf_c_rg ok
        rw [pv_of_at hat] at h
        rw [hF.2.2.2 _ _ hat]
        (repeat' first | refine ⟨?_, ?_⟩ | intro _) <;> first | (exfalso; omega) | omega | skip
        · rw [if_neg (by omega), if_neg (by omega)] at h
          rw [r.2.2.2.2.2.2.2]
          exact h
        · rw [if_neg (by omega), if_pos (by omega)] at h
          rw [r.2.2.2.2.2.2.1]
          exact h
        · rw [if_pos (by omega)] at h
          rw [r.2.2.2.2.2.1, (pb_and1' ok.1).2]
          exact h
      · rw [pv_of_no (by omega)] at h
        (repeat' first | refine ⟨?_, ?_⟩ | intro _) <;> first | exact h | (exfalso; omega) | omega
  · rw [if_neg hv] at h
    (repeat' first | refine ⟨?_, ?_⟩ | intro _) <;> first | exact h | (exfalso; omega) | omega
set_option maxHeartbeats 1000000 in
theorem m_101 (hD : 3 ≤ D) (hs : SI n Fs cs vs c) (hi : MI M n Fs cs vs c) {f k i w : Int} (h : Q [.inl (pv_told n Fs f k i w)] M) : g_Ev D 101 [.inr (0, 286), .inl f, .inl k, .inl i, .inl w] M Q := by
  obtain ⟨D, rfl⟩ := g_dep hD
  have l := hs.1
  refine g_enter hk_101 hn_101 (rp_101_0 rfl ?_)
  rw [hi.1]
  unfold pv_told at h
  by_cases hv : 0 ≤ f ∧ f < n ∧ 0 ≤ k ∧ k ≤ 1 ∧ 0 ≤ i ∧ 0 ≤ w ∧ w ≤ 2
  · rw [if_pos hv] at h
    have hF := hi.2.2.1 f.toNat (by omega)
    have hw := hs.2.2.1 f.toNat (by omega)
    have l1 := hw.1
    have l2 := hw.2.1
    rw [hF.1, hF.2.1]
    by_cases hk : k = 0
    · rw [if_pos hk] at h
      by_cases hl : i < ((Fs f.toNat).1.length : Int)
      · have hlt : i.toNat < (Fs f.toNat).1.length := by omega
        have hat := List.getElem?_eq_getElem hlt
        rw [pv_of_at hat] at h
        have r := hF.2.2.1 _ _ hat
        rw [show (16 * f + i).toNat = 16 * f.toNat + i.toNat by omega, r.1, r.2.1, r.2.2]
        (repeat' first | refine ⟨?_, ?_⟩ | intro _) <;> first | (exfalso; omega) | omega | skip
        · rw [if_neg (by omega), if_neg (by omega)] at h
          exact h
        · rw [if_neg (by omega), if_pos (by omega)] at h
          exact h
        · rw [if_pos (by omega)] at h
          exact h
      · rw [pv_of_no (by omega)] at h
        (repeat' first | refine ⟨?_, ?_⟩ | intro _) <;> first | exact h | (exfalso; omega) | omega
    · rw [if_neg hk] at h
      by_cases hl : i < ((Fs f.toNat).2.length : Int)
      · have hlt : i.toNat < (Fs f.toNat).2.length := by omega
        have hat := List.getElem?_eq_getElem hlt
        rw [pv_of_at hat] at h
        have r := hF.2.2.2 _ _ hat
        rw [show (10 * f + i).toNat = 10 * f.toNat + i.toNat by omega, r.1, r.2.1, r.2.2]
        (repeat' first | refine ⟨?_, ?_⟩ | intro _) <;> first | (exfalso; omega) | omega | skip
        · rw [if_neg (by omega), if_neg (by omega)] at h
          exact h
        · rw [if_neg (by omega), if_pos (by omega)] at h
          exact h
        · rw [if_pos (by omega)] at h
          exact h
      · rw [pv_of_no (by omega)] at h
        (repeat' first | refine ⟨?_, ?_⟩ | intro _) <;> first | exact h | (exfalso; omega) | omega
  · rw [if_neg hv] at h
    (repeat' first | refine ⟨?_, ?_⟩ | intro _) <;> first | exact h | (exfalso; omega) | omega
theorem c_34 (hD : 3 ≤ D) (hi : CI M n Fs cs vs c) {x : Int} (h : Q [.inl (if 0 < x ∧ x < 5 then vs x.toNat else -1)] M) : g_Ev D 34 [.inr (0, 2), .inl x] M Q := by
  obtain ⟨D, rfl⟩ := g_dep hD
  refine g_enter hk_34 hn_34 (rp_34_0 rfl ⟨fun q => ⟨by omega, ?_⟩, fun q => ?_⟩)
  · obtain ⟨vs', h1, h2⟩ := hi.2.2.2.1
    rw [if_pos q] at h
    rw [(h1.2.2.1 x.toNat (by omega)).1, h2 _ (by omega)]
    exact h
  · rw [if_neg q] at h
    exact h
theorem m_107 (hD : 3 ≤ D) (hi : MI M n Fs cs vs c) {x : Int} (h : Q [.inl (if 0 < x ∧ x < 5 then vs x.toNat else -1)] M) : g_Ev D 107 [.inr (0, 286), .inl x] M Q := by
  obtain ⟨D, rfl⟩ := g_dep hD
  refine g_enter hk_107 hn_107 (rp_107_0 rfl ⟨fun q => ⟨by omega, ?_⟩, fun q => ?_⟩)
  · obtain ⟨vs', h1, h2⟩ := hi.2.2.2.2
    rw [if_pos q] at h
    rw [(h1 x.toNat (by omega)).1, h2 _ (by omega)]
    exact h
  · rw [if_neg q] at h
    exact h
theorem c_35 (hD : 3 ≤ D) (hi : CI M n Fs cs vs c) {x : Int} (h : Q [.inl (if 0 < x ∧ x < 10 then cs x.toNat else -1)] M) : g_Ev D 35 [.inr (0, 2), .inl x] M Q := by
  obtain ⟨D, rfl⟩ := g_dep hD
  refine g_enter hk_35 hn_35 (rp_35_0 rfl ⟨fun q => ⟨by omega, ?_⟩, fun q => ?_⟩)
  · obtain ⟨vs', h1, h2⟩ := hi.2.2.2.1
    rw [if_pos q] at h
    rw [(h1.1 x.toNat (by omega)).1]
    exact h
  · rw [if_neg q] at h
    exact h
theorem m_108 (hD : 3 ≤ D) (hi : MI M n Fs cs vs c) {x : Int} (h : Q [.inl (if 0 < x ∧ x < 10 then cs x.toNat else -1)] M) : g_Ev D 108 [.inr (0, 286), .inl x] M Q := by
  obtain ⟨D, rfl⟩ := g_dep hD
  refine g_enter hk_108 hn_108 (rp_108_0 rfl ⟨fun q => ?_, fun q => ⟨fun q2 => ⟨by omega, ?_⟩, fun q2 => ?_⟩⟩)
  · rw [if_neg (by omega)] at h
    exact h
  · rw [if_pos (by omega)] at h
    rw [hi.2.2.2.1 x.toNat (by omega)]
    exact h
  · rw [if_neg (by omega)] at h
    exact h
end OPS
theorem op_18 {D : Nat} (hD : 20 ≤ D) {M : g_M} (h : St M) (x : Int) : opE D 88 148 [.inl x] M := by
  obtain ⟨n, Fs, cs, vs, c, hs, hc, hm⟩ := id h
  exact c_88 (by omega) hc rfl ⟨_, rfl, m_148 (by omega) hm rfl ⟨rfl, h⟩⟩
theorem op_4 {D : Nat} (hD : 20 ≤ D) {M : g_M} (h : St M) (f w : Int) : opE D 22 100 [.inl f, .inl w] M := by
  obtain ⟨n, Fs, cs, vs, c, hs, hc, hm⟩ := id h
  exact c_22 (by omega) hs hc ⟨_, rfl, m_100 (by omega) hs hm ⟨rfl, h⟩⟩
theorem op_5 {D : Nat} (hD : 20 ≤ D) {M : g_M} (h : St M) (f k i w : Int) : opE D 23 101 [.inl f, .inl k, .inl i, .inl w] M := by
  obtain ⟨n, Fs, cs, vs, c, hs, hc, hm⟩ := id h
  exact c_23 (by omega) hs hc ⟨_, rfl, m_101 (by omega) hs hm ⟨rfl, h⟩⟩
theorem op_9 {D : Nat} (hD : 20 ≤ D) {M : g_M} (h : St M) (x : Int) : opE D 34 107 [.inl x] M := by
  obtain ⟨n, Fs, cs, vs, c, hs, hc, hm⟩ := id h
  exact c_34 (by omega) hc ⟨_, rfl, m_107 (by omega) hm ⟨rfl, h⟩⟩
theorem op_10 {D : Nat} (hD : 20 ≤ D) {M : g_M} (h : St M) (x : Int) : opE D 35 108 [.inl x] M := by
  obtain ⟨n, Fs, cs, vs, c, hs, hc, hm⟩ := id h
  exact c_35 (by omega) hc ⟨_, rfl, m_108 (by omega) hm ⟨rfl, h⟩⟩

/-! THE CLASS'S SEARCH IN A MEMORY -/
def en (o : Option Nat) : Int := match o with
  | none => -1
  | some t => (t : Int)
theorem en_none {o : Option Nat} (h : en o = -1) : o = none := by
  cases o with
  | none => rfl
  | some t => exfalso; have : (t : Int) = -1 := h; omega
def lu (F : pf_F) (k : Nat) : List pf_T := (List.range' k (8 - k)).flatMap (lv F)
theorem lu_8 {F : pf_F} : lu F 8 = [] := rfl
theorem lu_at {F : pf_F} {k : Nat} (h : k < 8) : lu F k = lv F k ++ lu F (k + 1) := by
  unfold lu
  rw [show 8 - k = (8 - (k + 1)) + 1 by omega, List.range'_succ, List.flatMap_cons]
theorem lw_lu {F : pf_F} : ∀ {k : Nat}, k ≤ 8 → lw F 8 = lw F k ++ lu F k := by
  have : ∀ m k, k + m = 8 → lw F 8 = lw F k ++ lu F k := by
    intro m
    induction m with
    | zero => intro k hk; obtain rfl : k = 8 := by omega
              rw [lu_8, List.append_nil]
    | succ m ih =>
      intro k hk
      rw [ih (k + 1) (by omega), lw_succ, lu_at (k := k) (by omega), List.append_assoc]
  intro k hk
  exact this (8 - k) k (by omega)
theorem lu_0 {F : pf_F} : lu F 0 = lw F 8 := by
  rw [lw_lu (k := 0) (by omega)]
  rfl
theorem lw_at {F : pf_F} {k j : Nat} {p : pf_T} (hk : k < 8) (h : (lv F k)[j]? = some p) : (lw F 8)[(lw F k).length + j]? = some p := by
  have hj := (List.getElem?_eq_some_iff.mp h).1
  rw [lw_lu (k := k) (by omega), lu_at hk, List.getElem?_append_right (by omega), Nat.add_sub_cancel_left, List.getElem?_append_left hj]
  exact h
theorem lv_mem {F : pf_F} {k : Nat} {p : pf_T} (h : p ∈ lv F k) : p ∈ it F ∧ mx p = k := by
  have := List.mem_filter.mp h
  exact ⟨this.1, by simpa using this.2⟩
theorem lu_mem {F : pf_F} {k : Nat} {p : pf_T} (h : p ∈ lu F k) : p ∈ it F := by
  unfold lu at h
  obtain ⟨j, _, hj⟩ := List.mem_flatMap.mp h
  exact (lv_mem hj).1
theorem pb_one {n a : Nat} : n &&& 2 ^ a = 0 ↔ n.testBit a = false := by
  rw [dj_iff]
  constructor
  · intro h
    cases z : n.testBit a
    · rfl
    · have := h a z
      rw [pb_bit] at this
      simp at this
  · intro h i hi
    rw [pb_bit]
    by_cases z : a = i
    · subst z; rw [h] at hi; cases hi
    · simp [z]
section SU
variable {D : Nat} {M : g_M} {i w : Nat} {cs vs : Nat → Int} {Q : g_P}
theorem c_47 (hD : 3 ≤ D) (hm : cMem M i cs vs) {a z t : Nat} (ha : a < 10) (hz : z < 10) (ht : t < 1024) (h : Q [.inl (en (wk cs z 10 a t))] M) : g_Ev D 47 [.inr (4, i), .inl (a : Int), .inl (z : Int), .inl (t : Int)] M Q := by
  obtain ⟨D, rfl⟩ := g_dep hD
  obtain ⟨h1, ⟨w, w1, w2, w3⟩, -⟩ := hm
  have loop : ∀ (n b u : Nat) (x y : Int), x + n = 10 → 0 ≤ x → y = b → b < 10 → u < 1024 → Q [.inl (en (wk cs z n b u))] M → g_R (D + 3) 47 Q 9 [.inr (4, i), .inl (a : Int), .inl (z : Int), .inl (t : Int), .inl (u : Int), .inl y, .inl x] [] M := by
    intro n
    induction n with
    | zero =>
      intro b u x y hx hx0 hy hb hu hq
      subst hy
      unfold wk at hq
      refine rp_47_9 rfl ⟨fun _ => ⟨fun q => ?_, fun q => ?_⟩, fun q => by exfalso; omega⟩
      · rw [if_neg (by omega)] at hq
        exact hq
      · rw [if_pos (by omega)] at hq
        exact hq
    | succ n ih =>
      intro b u x y hx hx0 hy hb hu hq
      subst hy
      have hp : (2 : Nat) ^ b < 2 ^ 10 := pb_pow10 hb
      have r := h1 b hb
      refine rp_47_9 rfl ⟨fun q => by exfalso; omega, fun _ => ?_⟩
      rw [w2, pb_dif (by omega) (by omega), pb_shl hb, pb_and (by have := pb_d_lt (k := 10) (n := w) (m := u) w1; omega) (by omega), Int.toNat_natCast, r.1, pb_or (by omega) (by omega)]
      unfold wk at hq
      refine ⟨fun q => ?_, fun q => ⟨fun q2 => ?_, fun q2 => ?_⟩⟩
      · rw [if_pos (by omega)] at hq
        exact hq
      · rw [if_neg (by omega)] at hq
        have q3 : ¬ (pb_d w u &&& 2 ^ b = 0) := by omega
        rw [pb_one, pb_d_bit, w3 b hb] at q3
        simp at q3
        rw [if_pos q3] at hq
        exact ⟨⟨by omega, by omega⟩, by unfold hm_in; omega, ih (cs b).toNat (u ||| 2 ^ b) _ _ (by omega) (by omega) (by omega) (by omega) (Nat.or_lt_two_pow (n := 10) hu hp) hq⟩
      · rw [if_neg (by omega)] at hq
        have q3 : pb_d w u &&& 2 ^ b = 0 := by omega
        rw [pb_one, pb_d_bit, w3 b hb] at q3
        simp at q3
        rw [if_neg (fun z => by have := q3 z.1; rw [z.2] at this; cases this)] at hq
        exact hq
  exact g_enter hk_47 hn_47 (rp_47_0 rfl (loop 10 a t 0 _ (by omega) (by omega) rfl ha ht h))
theorem c_46 (hD : 4 ≤ D) (hm : cMem M i cs vs) {p : pf_T} {t : Nat} (hp : it_ok p) (ht : t < 1024) (h : Q [.inl (en (d1 cs vs p t))] M) : g_Ev D 46 [.inr (4, i), .inl (p.1 : Int), .inl (vs p.2.1), .inl (vs p.2.2), .inl (t : Int)] M Q := by
  obtain ⟨D, rfl⟩ := g_dep hD
  have hx := hm.2.2.1 _ hp.2.1
  have hy := hm.2.2.1 _ hp.2.2
  obtain ⟨a, ha, ea⟩ := g_natof (N := 10) ⟨hx.2.1, by omega⟩
  obtain ⟨b, hb, eb⟩ := g_natof (N := 10) ⟨hy.2.1, by omega⟩
  obtain ⟨w, w1, w2, w3⟩ := hm.2.1
  have hp10 : (2 : Nat) ^ a < 2 ^ 10 := pb_pow10 ha
  unfold d1 at h
  rw [ea, eb, Int.toNat_natCast, Int.toNat_natCast] at h
  rw [ea, eb]
  refine g_enter hk_46 hn_46 (rp_46_0 rfl ?_)
  rw [w2, pb_dif (by omega) (by omega), pb_g, pb_d_bit, w3 a ha, Int.toNat_natCast, (hm.1 a ha).1, pb_shl ha, pb_or (by omega) (by omega)]
  have hd := pb_d_lt (k := 10) (n := w) (m := t) w1
  refine ⟨fun q => ?_, fun q => ⟨fun q2 => ?_, fun q2 => ?_⟩, fun q => ⟨fun q2 => ?_, fun q2 => ?_⟩, fun q => ⟨by omega, fun q2 => ⟨by omega, fun q3 => ?_, fun q3 => ?_⟩, fun q2 => ?_⟩⟩
  · rw [if_neg (by omega), if_neg (by omega), if_neg (by omega)] at h
    exact c_47 (by omega) hm ha hb ht (rp_46_97 rfl h)
  · rw [if_pos (by omega), if_neg q2] at h
    exact h
  · rw [if_pos (by omega), if_pos q2] at h
    exact h
  · rw [if_neg (by omega), if_pos (by omega), if_pos q2] at h
    exact h
  · rw [if_neg (by omega), if_pos (by omega), if_neg q2] at h
    exact h
  · rw [if_neg (by omega), if_neg (by omega), if_pos (by omega), if_neg (fun z => q3 z.2.2)] at h
    exact h
  · simp at q2
    rw [if_neg (by omega), if_neg (by omega), if_pos (by omega), if_pos ⟨q2.1, q2.2, q3⟩] at h
    exact h
  · simp at q2
    rw [if_neg (by omega), if_neg (by omega), if_pos (by omega), if_neg (fun z => by have := q2 z.1; rw [z.2.1] at this; cases this)] at h
    exact h
theorem wk_lt (hc : ∀ a, a < 10 → cs a ≤ 9) {z : Nat} : ∀ {n a t s : Nat}, a < 10 → t < 1024 → wk cs z n a t = some s → s < 1024 := by
  intro n
  induction n with
  | zero =>
    intro a t s ha ht h
    unfold wk at h
    split at h
    · cases h; exact ht
    · cases h
  | succ n ih =>
    intro a t s ha ht h
    unfold wk at h
    split at h
    · cases h; exact ht
    · split at h
      · next z => exact ih (by have := hc a ha; omega) (Nat.or_lt_two_pow (n := 10) ht (pb_pow10 ha)) h
      · cases h
theorem d1_lt (hc : ∀ a, a < 10 → cs a ≤ 9) (hv : ∀ k, k < 8 → 0 ≤ vs k ∧ vs k ≤ 9) {p : pf_T} (hp : it_ok p) {t s : Nat} (ht : t < 1024) (h : d1 cs vs p t = some s) : s < 1024 := by
  have hx := hv _ hp.2.1
  unfold d1 at h
  split at h
  · split at h
    · cases h; exact ht
    · cases h
  split at h
  · split at h
    · cases h
    · cases h; exact ht
  split at h
  · split at h
    · cases h
      exact Nat.or_lt_two_pow (n := 10) ht (pb_pow10 (by omega))
    · cases h
  · exact wk_lt hc (by omega) ht h
theorem c_45 (hD : 5 ≤ D) (hm : cMem M i cs vs) {P k t : Nat} {F : pf_F} (hw : pf_wf F) (hP : cP M P F) (hk : k < 8) (ht : t < 1024) (h : Q [.inl (en (dl cs vs (lv F k) (some t)))] M) : g_Ev D 45 [.inr (4, i), .inr (7, P), .inl (k : Int), .inl (t : Int)] M Q := by
  obtain ⟨D, rfl⟩ := g_dep hD
  have hle := lw_len hw (k := k + 1) (by omega)
  have e1 := hP.2.1 (k + 1) (by omega)
  rw [lw_succ, List.length_append] at hle
  rw [lw_succ, List.length_append] at e1
  have hc : ∀ a, a < 10 → cs a ≤ 9 := fun a ha => (hm.1 a ha).2.2
  have hv : ∀ k, k < 8 → 0 ≤ vs k ∧ vs k ≤ 9 := fun k hk => (hm.2.2.1 k hk).2
  have loop : ∀ (n j : Nat) (x y : Int) (o : Option Nat), j + n = (lv F k).length → x = en o → y = ((lw F k).length + j : Nat) → (∀ u, o = some u → u < 1024) → Q [.inl (en (dl cs vs ((lv F k).drop j) o))] M → g_R (D + 5) 45 Q 11 [.inr (4, i), .inr (7, P), .inl (k : Int), .inl (t : Int), .inl x, .inl y] [] M := by
    intro n
    induction n with
    | zero =>
      intro j x y o hj hx hy ho hq
      subst hx hy
      refine rp_45_11 rfl ?_
      rw [show ((k : Int) + 1).toNat = k + 1 by omega, e1]
      rw [List.drop_eq_nil_of_le (by omega)] at hq
      exact ⟨by unfold hm_in; omega, by omega, fun _ => hq, fun q => by exfalso; omega⟩
    | succ n ih =>
      intro j x y o hj hx hy ho hq
      subst hx hy
      have hlt : j < (lv F k).length := by omega
      have hat := List.getElem?_eq_getElem hlt
      have ok := it_mem hw _ (lv_mem (List.getElem_mem hlt)).1
      have r := it_rg ok
      refine rp_45_11 rfl ?_
      rw [show ((k : Int) + 1).toNat = k + 1 by omega, e1, Int.toNat_natCast, hP.2.2 _ _ (lw_at hk hat), r.2.2.1, r.2.2.2.1, r.2.2.2.2, Int.toNat_natCast, Int.toNat_natCast, (hm.2.2.1 _ ok.2.1).1, (hm.2.2.1 _ ok.2.2).1]
      refine ⟨by unfold hm_in; omega, by omega, fun q => by exfalso; omega, fun _ => ⟨fun q => ?_, fun q => ?_⟩⟩
      · rw [en_none q, dl_none] at hq
        rw [q]
        exact hq
      · cases o with
        | none => exact absurd rfl q
        | some u =>
          have hu := ho u rfl
          rw [List.drop_eq_getElem_cons hlt, dl_cons] at hq
          refine ⟨by omega, by omega, by have := ok.2.1; omega, by have := ok.2.2; omega, c_46 (by omega) hm ok hu (rp_45_70 rfl ⟨by unfold hm_in; omega, ih (j + 1) _ _ _ (by omega) rfl (by omega) (fun s hs => d1_lt hc hv ok hu hs) hq⟩)⟩
  refine g_enter hk_45 hn_45 (rp_45_0 rfl ⟨by omega, ?_⟩)
  rw [Int.toNat_natCast, hP.2.1 k (by omega)]
  exact loop (lv F k).length 0 _ _ (some t) (by omega) rfl rfl (fun u hu => by cases hu; exact ht) h
theorem dl_lt (hc : ∀ a, a < 10 → cs a ≤ 9) (hv : ∀ k, k < 8 → 0 ≤ vs k ∧ vs k ≤ 9) : ∀ {l : List pf_T} {t s : Nat}, (∀ p ∈ l, it_ok p) → t < 1024 → dl cs vs l (some t) = some s → s < 1024 := by
  intro l
  induction l with
  | nil => intro t s _ ht h; cases h; exact ht
  | cons p l ih =>
    intro t s hl ht h
    rw [dl_cons] at h
    cases hd : d1 cs vs p t with
    | none => rw [hd, dl_none] at h; cases h
    | some u =>
      rw [hd] at h
      exact ih (fun q hq => hl q (List.mem_cons_of_mem _ hq)) (d1_lt hc hv (hl p List.mem_cons_self) ht hd) h
end SU

/-! the objects at the start -/
def c_G : g_M := (fun t n k => lkI c_il (g_io (t, n)) k, fun _ => none)
theorem c_G_ph : g_ph c_G = (g_sh, lkI c_il, g_rb c_z) := by
  refine Prod.ext rfl (Prod.ext ?_ (g_ph_rb c_z c_G rfl))
  funext i k
  show lkI c_il (g_io (g_inv i)) k = _
  rw [g_io_inv]
theorem c_G_ck : ((List.range 10).all (fun a => decide (c_G.1 5 0 a = -1) && decide (c_G.1 5 1 a = -1) && decide (c_G.1 0 296 a = -1)) && (List.range 8).all (fun t => decide (c_G.1 6 0 t = 0) && decide (c_G.1 6 1 t = 0) && decide (c_G.1 0 295 t = 0)) && decide (c_G.1 4 0 2 = 0) && decide (c_G.1 4 1 2 = 0) && decide (c_G.1 12 0 3 = 0) && decide (c_G.1 12 1 3 = 0) && decide (c_G.1 0 2 6 = 0) && decide (c_G.1 0 2 7 = 0) && decide (c_G.1 0 286 1 = 0) && decide (c_G.1 0 286 29 = 0)) = true := by decide +kernel
theorem c_G_St : St c_G := by
  have h := c_G_ck
  simp only [Bool.and_eq_true, decide_eq_true_eq] at h
  obtain ⟨⟨⟨⟨⟨⟨⟨⟨⟨h1, h2⟩, h3⟩, h4⟩, h5⟩, h6⟩, h7⟩, h8⟩, h9⟩, h10⟩ := h
  have a1 : ∀ a, a < 10 → (c_G.1 5 0 a = -1 ∧ c_G.1 5 1 a = -1) ∧ c_G.1 0 296 a = -1 := fun a ha => by
    have := List.all_eq_true.mp h1 a (List.mem_range.mpr ha)
    simpa only [Bool.and_eq_true, decide_eq_true_eq] using this
  have a2 : ∀ t, t < 8 → (c_G.1 6 0 t = 0 ∧ c_G.1 6 1 t = 0) ∧ c_G.1 0 295 t = 0 := fun a ha => by
    have := List.all_eq_true.mp h2 a (List.mem_range.mpr ha)
    simpa only [Bool.and_eq_true, decide_eq_true_eq] using this
  have mem : ∀ i, i < 2 → cMem c_G i (fun _ => -1) (fun _ => 0) := fun i hi => by
    have e : i = 0 ∨ i = 1 := by omega
    refine ⟨fun a ha => ⟨?_, (show (-1 : Int) ≤ -1 by decide), (show (-1 : Int) ≤ 9 by decide)⟩, ⟨0, by decide, ?_, fun a _ => by rw [Nat.zero_testBit]; rfl⟩, fun t ht => ⟨?_, (show (0 : Int) ≤ 0 by decide), (show (0 : Int) ≤ 9 by decide)⟩, rfl, rfl⟩
    · rcases e with rfl | rfl
      · exact (a1 a ha).1.1
      · exact (a1 a ha).1.2
    · rcases e with rfl | rfl
      · exact h3
      · exact h4
    · rcases e with rfl | rfl
      · exact (a2 t ht).1.1
      · exact (a2 t ht).1.2
  refine ⟨0, fun _ => ([], []), fun _ => -1, fun _ => 0, 0, ⟨by omega, by omega, fun f hf => by omega, fun a _ => ⟨(show (-1 : Int) ≤ -1 by decide), (show (-1 : Int) ≤ 9 by decide)⟩, rfl, fun t _ => ⟨(show (0 : Int) ≤ 0 by decide), (show (0 : Int) ≤ 9 by decide)⟩, rfl⟩, ⟨h7, h8, fun f hf => by omega, ⟨_, mem 0 (by omega), fun _ _ => rfl⟩, ⟨_, _, mem 1 (by omega), fun _ _ _ => rfl, fun i hi => ⟨0, by omega, ?_⟩⟩⟩, ⟨h9, h10, fun f hf => by omega, fun a ha => (a1 a ha).2, ⟨fun _ => 0, fun t ht => ⟨(a2 t ht).2, (show (0 : Int) ≤ 0 by decide), (show (0 : Int) ≤ 9 by decide)⟩, fun _ _ => rfl⟩⟩⟩
  rcases (show i = 0 ∨ i = 1 by omega) with rfl | rfl
  · exact h5
  · exact h6
theorem ent_B {E : hm_E} {q : Nat × Nat} {f : Nat → Int} {g g' : Nat → Nat} {a : Nat} {H : Heap} (h2 : q.1 = 2 → ∀ j, j < q.2 → g j = g' j) (h3 : ∀ c, q.1 = c + 3 → ∀ k, k < q.2 → hm_isr c k = true → g k = g' k) (h : va_at E.1 hm_cl (a, hm_ent E q f g) H) : va_at E.1 hm_cl (a, hm_ent E q f g') H := by
  obtain ⟨kd, n⟩ := q
  match kd, h2, h3, h with
  | 0, _, _, h => exact h
  | 1, _, _, h => exact h
  | 2, h2, _, h =>
    have h : H[a]? = some (arrV E.2.1.2.2 n (fun j => va_rf (hm_rf E (g j)))) := h
    show H[a]? = some (arrV E.2.1.2.2 n (fun j => va_rf (hm_rf E (g' j))))
    rw [h]
    unfold arrV
    congr 2
    congr 1
    funext j
    show va_rf (hm_rf E (g j)) = va_rf (hm_rf E (g' j))
    rw [h2 rfl j j.2]
  | c + 3, _, h3, h =>
    have e : (List.range n).map (hm_fv E c f g) = (List.range n).map (hm_fv E c f g') := by
      refine List.map_congr_left (fun k hk => ?_)
      unfold hm_fv
      cases hi : hm_isr c k with
      | false => rfl
      | true => rw [h3 c rfl k (List.mem_range.mp hk) hi]
    show va_at E.1 hm_cl (a, .inr (c, (List.range n).map (hm_fv E c f g'))) H
    rw [← e]
    exact h
theorem ho_B {E : hm_E} {H : Heap} {sh : List (Nat × Nat)} {A : Nat → Nat → Int} {B B' : Nat → Nat → Nat} (hag : ∀ i, i < sh.length → ((sh.getD i (1000, 0)).1 = 2 → ∀ j, j < (sh.getD i (1000, 0)).2 → B i j = B' i j) ∧ ∀ c, (sh.getD i (1000, 0)).1 = c + 3 → ∀ j, j < (sh.getD i (1000, 0)).2 → hm_isr c j = true → B i j = B' i j) (h : hm_ho E (sh, A, B) H) : hm_ho E (sh, A, B') H := by
  obtain ⟨p1, p2, p3, p4⟩ := h
  refine ⟨p1, p2, p3, fun k q hk => ?_⟩
  have hlt : k < sh.length - 2 := by
    have := (List.getElem?_eq_some_iff.mp hk).1
    simpa [hm_wd] using this
  have hk2 : (hm_wd E (sh, A, B'))[k]? = some (E.2.2.2 + k, hm_ent E (sh.getD (k + 2) (1000, 0)) (A (k + 2)) (B' (k + 2))) := by
    unfold hm_wd
    rw [List.getElem?_map, List.getElem?_range hlt]
    rfl
  have hk3 : (hm_wd E (sh, A, B))[k]? = some (E.2.2.2 + k, hm_ent E (sh.getD (k + 2) (1000, 0)) (A (k + 2)) (B (k + 2))) := by
    unfold hm_wd
    rw [List.getElem?_map, List.getElem?_range hlt]
    rfl
  rw [hk2] at hk
  cases hk
  have hg := hag (k + 2) (by omega)
  exact ent_B hg.1 hg.2 (p4 k _ hk3)
theorem c_ag {l : List (Nat × Nat × Nat)} (h : c_rc l = true) (i : Nat) (hi : i < 310) : ((g_sh.getD i (1000, 0)).1 = 2 → ∀ j, j < (g_sh.getD i (1000, 0)).2 → lkN l i j = g_rb c_z i j) ∧ ∀ c, (g_sh.getD i (1000, 0)).1 = c + 3 → ∀ j, j < (g_sh.getD i (1000, 0)).2 → hm_isr c j = true → lkN l i j = g_rb c_z i j := by
  have hrc := List.all_eq_true.mp h i (List.mem_range.mpr hi)
  generalize g_sh.getD i (1000, 0) = q at hrc ⊢
  refine ⟨fun hkd j hj => ?_, fun c hkd j hj hi => ?_⟩
  · rw [hkd] at hrc
    have hrc2 : (List.range q.2).all (fun k' => bif true then Nat.beq (lkN l i k') (g_rb c_z i k') else true) = true := hrc
    exact Nat.eq_of_beq_eq_true (List.all_eq_true.mp hrc2 j (List.mem_range.mpr hj))
  · rw [hkd, show Nat.blt (c + 3) 2 = false from rfl] at hrc
    have hrc2 : (List.range q.2).all (fun k' => bif Nat.beq (c + 3) 2 || hm_isr (c + 3 - 3) k' then Nat.beq (lkN l i k') (g_rb c_z i k') else true) = true := hrc
    have h3 := List.all_eq_true.mp hrc2 j (List.mem_range.mpr hj)
    rw [show c + 3 - 3 = c by omega, hi, Bool.or_true] at h3
    exact Nat.eq_of_beq_eq_true h3
theorem c_d_eq : cmp c_d = (g_sh, lkI c_il, lkN c_d.2.2) ∧ c_rc c_d.2.2 = true := by
  have hall := c_all
  rw [Bool.and_eq_true, Bool.and_eq_true] at hall
  have e1 : c_d.1 = g_sh := beq_iff_eq.mp hall.1.1
  have e2 : c_d.2.1 = c_il := beq_iff_eq.mp hall.1.2
  refine ⟨?_, hall.2⟩
  unfold cmp
  rw [e1, e2]
theorem g_sh_len : g_sh.length = 310 := by decide +kernel
theorem c_ho {E : hm_E} {H : Heap} (h : hm_ho E (cmp c_d) H) : hm_ho E (g_ph c_G) H := by
  rw [c_d_eq.1] at h
  rw [c_G_ph]
  exact ho_B (fun i hi => c_ag c_d_eq.2 i (by rw [← g_sh_len]; exact hi)) h

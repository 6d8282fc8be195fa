/-! the law's beginning: both constructors -/
def c_0 : cM := ([(1000, 0), (1000, 0)], [], [])
theorem LR.ho {d L : Nat} {xs : Nat → Int} {pc : Nat} {ls st : List hm_V} {M M' : hm_M} (h1 : M'.1 = M.1) (h2 : M'.2.1 = M.2.1) (hh : ∀ E H, hm_ho E M H → hm_ho E M' H) (h : LR d L xs pc ls st M') : LR d L xs pc ls st M := by
  intro l E p e s m b below meth c X hr hlk hsc hE H locs cells slots la ho rg hS e1 e2 c1 c2 hl
  refine h l E p e s m b below meth c X hr hlk hsc hE H locs cells slots la (hh E H ho) ⟨rg.1, rg.2.1, fun r k => by rw [h2]; exact rg.2.2 r k⟩ hS (by rw [h1]; exact e1) (by unfold hm_sl at e2 ⊢; rw [h1]; exact e2) c1 c2 hl
section PRO
variable {d L : Nat} {xs : Nat → Int}
set_option maxRecDepth 20000 in
theorem law_p1 {cb : cM} (hd : 6 ≤ d) (hab : cx 6 0 [.inr 2] c_a = some cb) (k : LR (d + 1) L xs 7 [.inr 1] [.inr 2] (cmp cb)) : LR (d + 1) L xs 0 [.inr 1] [] (cmp c_0) := by
  have e0 : hm_nw (cmp c_0) 9 8 = cmp c_a := cmp_nw (c := c_0) (by decide)
  have hev : hm_Ev d 0 [.inr 2] (cmp c_a) (fun q M' => LR (d + 1) L xs 7 [.inr 1] (q ++ [.inr 2]) M') := cx_ok 6 hab k hd
  clear hab k
  refine lr_go (row := (.new 7, 3, 6, 0, 0)) (hm_find_in hl 0 _ rfl) ?_
  show ((cmp c_0).1.length + 1 ≤ 2 + 600000 ∧ hm_sl (cmp c_0) + hm_N 6 ≤ 0 + 7302250) ∧ LR (d + 1) L xs 3 [.inr 1] [.inr 2] (hm_nw (cmp c_0) 9 8)
  refine ⟨⟨by decide, by decide⟩, ?_⟩
  rw [e0]
  refine lr_go (row := (.dup, 1, 0, 0, 0)) (hm_find_in hl 3 _ rfl) ?_
  show LR (d + 1) L xs 4 [.inr 1] [.inr 2, .inr 2] (cmp c_a)
  refine lr_go (row := (.invokespecial 9, 3, 0, 0, 6)) (hm_find_in hl 4 _ rfl) ?_
  show hm_kd (cmp c_a) 2 = 6 + 3 ∧ ((cmp c_a).1.length + hm_mc 0 ≤ 2 + 600000 ∧ hm_sl (cmp c_a) + hm_ms 0 ≤ 0 + 7302250) ∧ hm_Ev d 0 [.inr 2] (cmp c_a) (fun q M' => LR (d + 1) L xs 7 [.inr 1] (q ++ [.inr 2]) M')
  exact ⟨rfl, ⟨by decide, by decide⟩, hev⟩
set_option maxRecDepth 20000 in
theorem law_p2 {cb cd : cM} (hd : 6 ≤ d) (hbl : cb.1.length = 286 ∧ csl cb = 2899 ∧ cfr cb = true) (hcd : cx 6 89 [.inr 286] (cb.1 ++ [(10, 32)], cb.2.1, cb.2.2) = some cd) (k : LR (d + 1) L xs 15 [.inr 1, .inr 2] [.inr 286] (cmp cd)) : LR (d + 1) L xs 7 [.inr 1] [.inr 2] (cmp cb) := by
  have hl1 : (cmp cb).1.length = 286 := hbl.1
  have hs1 : hm_sl (cmp cb) = 2899 := hbl.2.1
  have e0 : hm_nw (cmp cb) 10 32 = cmp (cb.1 ++ [(10, 32)], cb.2.1, cb.2.2) := cmp_nw hbl.2.2
  have hl2 : (cmp (cb.1 ++ [(10, 32)], cb.2.1, cb.2.2)).1.length = 287 := by
    show (cb.1 ++ [(10, 32)]).length = 287
    rw [List.length_append, hbl.1]
    rfl
  have hs2 : hm_sl (cmp (cb.1 ++ [(10, 32)], cb.2.1, cb.2.2)) = 2931 := by
    show ((cb.1 ++ [(10, 32)]).map Prod.snd).sum = 2931
    rw [List.map_append, List.sum_append]
    have : (cb.1.map Prod.snd).sum = 2899 := hbl.2.1
    rw [this]
    rfl
  have hk2 : hm_kd (cmp (cb.1 ++ [(10, 32)], cb.2.1, cb.2.2)) 286 = 7 + 3 := by
    show ((cb.1 ++ [(10, 32)]).getD 286 (1000, 0)).1 = 10
    rw [List.getD_eq_getElem?_getD, List.getElem?_append_right (by rw [hbl.1]; omega), hbl.1]
    rfl
  have hev : hm_Ev d 89 [.inr 286] (cmp (cb.1 ++ [(10, 32)], cb.2.1, cb.2.2)) (fun q M' => LR (d + 1) L xs 15 [.inr 1, .inr 2] (q ++ [.inr 286]) M') := cx_ok 6 hcd k hd
  clear hcd k hbl
  generalize (cmp (cb.1 ++ [(10, 32)], cb.2.1, cb.2.2)) = M2 at e0 hl2 hs2 hk2 hev
  generalize (cmp cb) = M1 at e0 hl1 hs1 ⊢
  refine lr_go (row := (.astore_n 1, 1, 0, 0, 0)) (hm_find_in hl 7 _ rfl) ?_
  show LR (d + 1) L xs 8 [.inr 1, .inr 2] [] M1
  refine lr_go (row := (.new 10, 3, 7, 0, 0)) (hm_find_in hl 8 _ rfl) ?_
  show (M1.1.length + 1 ≤ 2 + 600000 ∧ hm_sl M1 + hm_N 7 ≤ 0 + 7302250) ∧ LR (d + 1) L xs 11 [.inr 1, .inr 2] [.inr M1.1.length] (hm_nw M1 10 32)
  refine ⟨⟨by omega, by rw [hs1]; decide⟩, ?_⟩
  rw [hl1, e0]
  refine lr_go (row := (.dup, 1, 0, 0, 0)) (hm_find_in hl 11 _ rfl) ?_
  show LR (d + 1) L xs 12 [.inr 1, .inr 2] [.inr 286, .inr 286] M2
  refine lr_go (row := (.invokespecial 12, 3, 89, 0, 7)) (hm_find_in hl 12 _ rfl) ?_
  show hm_kd M2 286 = 7 + 3 ∧ (M2.1.length + hm_mc 89 ≤ 2 + 600000 ∧ hm_sl M2 + hm_ms 89 ≤ 0 + 7302250) ∧ hm_Ev d 89 [.inr 286] M2 (fun q M' => LR (d + 1) L xs 15 [.inr 1, .inr 2] (q ++ [.inr 286]) M')
  exact ⟨hk2, ⟨by rw [hl2]; decide, by rw [hs2]; decide⟩, hev⟩
set_option maxRecDepth 20000 in
theorem law_p3 {M : hm_M} (k : LR (d + 1) L xs 18 [.inr 1, .inr 2, .inr 286, .inl 0] [] M) : LR (d + 1) L xs 15 [.inr 1, .inr 2] [.inr 286] M := by
  refine lr_go (row := (.astore_n 2, 1, 0, 0, 0)) (hm_find_in hl 15 _ rfl) ?_
  show LR (d + 1) L xs 16 [.inr 1, .inr 2, .inr 286] [] M
  refine lr_go (row := (.iconst 0, 1, 0, 0, 0)) (hm_find_in hl 16 _ rfl) ?_
  show LR (d + 1) L xs 17 [.inr 1, .inr 2, .inr 286] [.inl 0] M
  refine lr_go (row := (.istore_n 3, 1, 0, 0, 0)) (hm_find_in hl 17 _ rfl) ?_
  show LR (d + 1) L xs 18 [.inr 1, .inr 2, .inr 286, .inl 0] [] M
  exact k
theorem law_p4 (hd : 60 ≤ d) (hL : L ≤ 2560) : LR (d + 1) L xs 18 [.inr 1, .inr 2, .inr 286, .inl 0] [] (g_ph c_G) := by
  have hloop := law_loop (d := d) (L := L) (xs := xs) hd hL L 0 c_G (by omega) (by omega) c_G_St
  have hva : g_va [.inr (8, 0), .inr (0, 2), .inr (0, 286), .inl ((0 : Nat) : Int)] [] c_G := by
    refine ⟨fun q hq => ?_, (fun q hq => by cases hq), (fun n f _ hf => by cases hf)⟩
    simp only [List.mem_cons, Sum.inr.injEq, reduceCtorEq, List.not_mem_nil, or_false] at hq
    rcases hq with rfl | rfl | rfl
    · show 0 < g_ct 8; decide
    · show 2 ∈ g_sing; decide
    · show 286 ∈ g_sing; decide
  exact hloop.resolve_right id hva
theorem law_p5 {cd : cM} (e1 : cmp cd = (g_sh, lkI c_il, lkN cd.2.2)) (hho : ∀ E H, hm_ho E (cmp cd) H → hm_ho E (g_ph c_G) H) {pc : Nat} {ls st : List hm_V} (k : LR (d + 1) L xs pc ls st (g_ph c_G)) : LR (d + 1) L xs pc ls st (cmp cd) := by
  refine LR.ho (M' := g_ph c_G) ?_ ?_ hho k
  · rw [c_G_ph, e1]
  · rw [c_G_ph, e1]
theorem law_pro (hd : 60 ≤ d) (hL : L ≤ 2560) : LR (d + 1) L xs 0 [.inr 1] [] (cmp c_0) :=
  law_p1 (by omega) c_ab2 (law_p2 (by omega) c_b_ln c_cd2 (law_p3 (law_p5 c_d_eq.1 (fun _ _ h => c_ho h) (law_p4 hd hL))))
end PRO

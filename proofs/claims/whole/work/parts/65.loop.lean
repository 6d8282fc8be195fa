/-! the law's loop -/
section LAW
variable {d L : Nat} {xs : Nat → Int}
theorem blk {jx jm pa pb : Nat} {as : List g_V} {M : g_M} {ls : List g_V} (hop : opE d jx jm as M)
    (hb : ∀ v M1, g_Ev d jm (.inr (0, 286) :: as) M1 (fun q M' => GR (d + 1) L xs pb ls (q ++ [.inl v]) M') → GR (d + 1) L xs pa ls [.inl v] M1)
    (hc : ∀ v M2, St M2 → GR (d + 1) L xs pb ls [.inl v, .inl v] M2) : g_Ev d jx (.inr (0, 2) :: as) M (fun q M' => GR (d + 1) L xs pa ls (q ++ []) M') := by
  refine hop.mono (fun r M1 _ h => ?_)
  obtain ⟨v, rfl, h2⟩ := h
  refine hb v M1 (h2.mono (fun r' M2 _ h3 => ?_))
  obtain ⟨rfl, h4⟩ := h3
  exact hc v M2 h4
theorem law_loop (hd : 60 ≤ d) (hL : L ≤ 2560) : ∀ (n i : Nat) (M : g_M), L ≤ i + n → i ≤ 2560 → St M → GR (d + 1) L xs 18 [.inr (8, 0), .inr (0, 2), .inr (0, 286), .inl (i : Int)] [] M := by
  intro n
  induction n with
  | zero =>
    intro i M hi _ _
    exact lb_head ⟨by unfold hm_in; omega, fun _ => rfl, fun q => by exfalso; omega⟩
  | succ n ih =>
    intro i M hi hi2 hSt
    refine lb_head ⟨by unfold hm_in; omega, fun _ => rfl, fun q => ?_⟩
    have inc : ∀ M2, St M2 → GR (d + 1) L xs 741 [.inr (8, 0), .inr (0, 2), .inr (0, 286), .inl (i : Int)] [] M2 := fun M2 h2 => by
      refine lb_inc ⟨by unfold hm_in; omega, ?_⟩
      have := ih (i + 5) M2 (by omega) (by omega) h2
      rw [show ((i + 5 : Nat) : Int) = (i : Int) + 5 by omega] at this
      exact this
    have k0 : GR (d + 1) L xs 124 [.inr (8, 0), .inr (0, 2), .inr (0, 286), .inl (i : Int)] [] M := lb_0_a (blk (op_0 (by omega) hSt ) (fun v M1 h => lb_0_b (h)) (fun v M2 h => lb_0_c ⟨fun _ => inc M2 h, fun z => absurd rfl z⟩))
    have k1 : GR (d + 1) L xs 137 [.inr (8, 0), .inr (0, 2), .inr (0, 286), .inl (i : Int)] [] M := lb_1_a (⟨by unfold hm_in; omega, by omega, by unfold hm_in; omega, by omega, by unfold hm_in; omega, by omega, by unfold hm_in; omega, by omega, blk (op_1 (by omega) hSt _ _ _ _) (fun v M1 h => lb_1_b (⟨by unfold hm_in; omega, by omega, by unfold hm_in; omega, by omega, by unfold hm_in; omega, by omega, by unfold hm_in; omega, by omega, h⟩)) (fun v M2 h => lb_1_c ⟨fun _ => inc M2 h, fun z => absurd rfl z⟩)⟩)
    have k2 : GR (d + 1) L xs 190 [.inr (8, 0), .inr (0, 2), .inr (0, 286), .inl (i : Int)] [] M := lb_2_a (⟨by unfold hm_in; omega, by omega, by unfold hm_in; omega, by omega, by unfold hm_in; omega, by omega, by unfold hm_in; omega, by omega, blk (op_2 (by omega) hSt _ _ _ _) (fun v M1 h => lb_2_b (⟨by unfold hm_in; omega, by omega, by unfold hm_in; omega, by omega, by unfold hm_in; omega, by omega, by unfold hm_in; omega, by omega, h⟩)) (fun v M2 h => lb_2_c ⟨fun _ => inc M2 h, fun z => absurd rfl z⟩)⟩)
    have k3 : GR (d + 1) L xs 243 [.inr (8, 0), .inr (0, 2), .inr (0, 286), .inl (i : Int)] [] M := lb_3_a (⟨by unfold hm_in; omega, by omega, by unfold hm_in; omega, by omega, blk (op_3 (by omega) hSt _ _) (fun v M1 h => lb_3_b (⟨by unfold hm_in; omega, by omega, by unfold hm_in; omega, by omega, h⟩)) (fun v M2 h => lb_3_c ⟨fun _ => inc M2 h, fun z => absurd rfl z⟩)⟩)
    have k4 : GR (d + 1) L xs 276 [.inr (8, 0), .inr (0, 2), .inr (0, 286), .inl (i : Int)] [] M := lb_4_a (⟨by unfold hm_in; omega, by omega, by unfold hm_in; omega, by omega, blk (op_4 (by omega) hSt _ _) (fun v M1 h => lb_4_b (⟨by unfold hm_in; omega, by omega, by unfold hm_in; omega, by omega, h⟩)) (fun v M2 h => lb_4_c ⟨fun _ => inc M2 h, fun z => absurd rfl z⟩)⟩)
    have k5 : GR (d + 1) L xs 309 [.inr (8, 0), .inr (0, 2), .inr (0, 286), .inl (i : Int)] [] M := lb_5_a (⟨by unfold hm_in; omega, by omega, by unfold hm_in; omega, by omega, by unfold hm_in; omega, by omega, by unfold hm_in; omega, by omega, blk (op_5 (by omega) hSt _ _ _ _) (fun v M1 h => lb_5_b (⟨by unfold hm_in; omega, by omega, by unfold hm_in; omega, by omega, by unfold hm_in; omega, by omega, by unfold hm_in; omega, by omega, h⟩)) (fun v M2 h => lb_5_c ⟨fun _ => inc M2 h, fun z => absurd rfl z⟩)⟩)
    have k6 : GR (d + 1) L xs 362 [.inr (8, 0), .inr (0, 2), .inr (0, 286), .inl (i : Int)] [] M := lb_6_a (blk (op_6 (by omega) hSt ) (fun v M1 h => lb_6_b (h)) (fun v M2 h => lb_6_c ⟨fun _ => inc M2 h, fun z => absurd rfl z⟩))
    have k7 : GR (d + 1) L xs 375 [.inr (8, 0), .inr (0, 2), .inr (0, 286), .inl (i : Int)] [] M := lb_7_a (⟨by unfold hm_in; omega, by omega, by unfold hm_in; omega, by omega, blk (op_7 (by omega) hSt _ _) (fun v M1 h => lb_7_b (⟨by unfold hm_in; omega, by omega, by unfold hm_in; omega, by omega, h⟩)) (fun v M2 h => lb_7_c ⟨fun _ => inc M2 h, fun z => absurd rfl z⟩)⟩)
    have k8 : GR (d + 1) L xs 408 [.inr (8, 0), .inr (0, 2), .inr (0, 286), .inl (i : Int)] [] M := lb_8_a (⟨by unfold hm_in; omega, by omega, by unfold hm_in; omega, by omega, blk (op_8 (by omega) hSt _ _) (fun v M1 h => lb_8_b (⟨by unfold hm_in; omega, by omega, by unfold hm_in; omega, by omega, h⟩)) (fun v M2 h => lb_8_c ⟨fun _ => inc M2 h, fun z => absurd rfl z⟩)⟩)
    have k9 : GR (d + 1) L xs 441 [.inr (8, 0), .inr (0, 2), .inr (0, 286), .inl (i : Int)] [] M := lb_9_a (⟨by unfold hm_in; omega, by omega, blk (op_9 (by omega) hSt _) (fun v M1 h => lb_9_b (⟨by unfold hm_in; omega, by omega, h⟩)) (fun v M2 h => lb_9_c ⟨fun _ => inc M2 h, fun z => absurd rfl z⟩)⟩)
    have k10 : GR (d + 1) L xs 464 [.inr (8, 0), .inr (0, 2), .inr (0, 286), .inl (i : Int)] [] M := lb_10_a (⟨by unfold hm_in; omega, by omega, blk (op_10 (by omega) hSt _) (fun v M1 h => lb_10_b (⟨by unfold hm_in; omega, by omega, h⟩)) (fun v M2 h => lb_10_c ⟨fun _ => inc M2 h, fun z => absurd rfl z⟩)⟩)
    have k11 : GR (d + 1) L xs 487 [.inr (8, 0), .inr (0, 2), .inr (0, 286), .inl (i : Int)] [] M := lb_11_a (blk (op_11 (by omega) hSt ) (fun v M1 h => lb_11_b (h)) (fun v M2 h => lb_11_c ⟨fun _ => inc M2 h, fun z => absurd rfl z⟩))
    have k12 : GR (d + 1) L xs 500 [.inr (8, 0), .inr (0, 2), .inr (0, 286), .inl (i : Int)] [] M := lb_12_a (⟨by unfold hm_in; omega, by omega, blk (op_12 (by omega) hSt _) (fun v M1 h => lb_12_b (⟨by unfold hm_in; omega, by omega, h⟩)) (fun v M2 h => lb_12_c ⟨fun _ => inc M2 h, fun z => absurd rfl z⟩)⟩)
    have k13 : GR (d + 1) L xs 523 [.inr (8, 0), .inr (0, 2), .inr (0, 286), .inl (i : Int)] [] M := lb_13_a (⟨by unfold hm_in; omega, by omega, by unfold hm_in; omega, by omega, by unfold hm_in; omega, by omega, by unfold hm_in; omega, by omega, blk (op_13 (by omega) hSt _ _ _ _) (fun v M1 h => lb_13_b (⟨by unfold hm_in; omega, by omega, by unfold hm_in; omega, by omega, by unfold hm_in; omega, by omega, by unfold hm_in; omega, by omega, h⟩)) (fun v M2 h => lb_13_c ⟨fun _ => inc M2 h, fun z => absurd rfl z⟩)⟩)
    have k14 : GR (d + 1) L xs 576 [.inr (8, 0), .inr (0, 2), .inr (0, 286), .inl (i : Int)] [] M := lb_14_a (⟨by unfold hm_in; omega, by omega, blk (op_14 (by omega) hSt _) (fun v M1 h => lb_14_b (⟨by unfold hm_in; omega, by omega, h⟩)) (fun v M2 h => lb_14_c ⟨fun _ => inc M2 h, fun z => absurd rfl z⟩)⟩)
    have k15 : GR (d + 1) L xs 599 [.inr (8, 0), .inr (0, 2), .inr (0, 286), .inl (i : Int)] [] M := lb_15_a (⟨by unfold hm_in; omega, by omega, by unfold hm_in; omega, by omega, blk (op_15 (by omega) hSt _ _) (fun v M1 h => lb_15_b (⟨by unfold hm_in; omega, by omega, by unfold hm_in; omega, by omega, h⟩)) (fun v M2 h => lb_15_c ⟨fun _ => inc M2 h, fun z => absurd rfl z⟩)⟩)
    have k16 : GR (d + 1) L xs 632 [.inr (8, 0), .inr (0, 2), .inr (0, 286), .inl (i : Int)] [] M := lb_16_a (⟨by unfold hm_in; omega, by omega, by unfold hm_in; omega, by omega, by unfold hm_in; omega, by omega, by unfold hm_in; omega, by omega, blk (op_16 (by omega) hSt _ _ _ _) (fun v M1 h => lb_16_b (⟨by unfold hm_in; omega, by omega, by unfold hm_in; omega, by omega, by unfold hm_in; omega, by omega, by unfold hm_in; omega, by omega, h⟩)) (fun v M2 h => lb_16_c ⟨fun _ => inc M2 h, fun z => absurd rfl z⟩)⟩)
    have k17 : GR (d + 1) L xs 685 [.inr (8, 0), .inr (0, 2), .inr (0, 286), .inl (i : Int)] [] M := lb_17_a (⟨by unfold hm_in; omega, by omega, by unfold hm_in; omega, by omega, blk (op_17 (by omega) hSt _ _) (fun v M1 h => lb_17_b (⟨by unfold hm_in; omega, by omega, by unfold hm_in; omega, by omega, h⟩)) (fun v M2 h => lb_17_c ⟨fun _ => inc M2 h, fun z => absurd rfl z⟩)⟩)
    have k18 : GR (d + 1) L xs 718 [.inr (8, 0), .inr (0, 2), .inr (0, 286), .inl (i : Int)] [] M := lb_18_a (⟨by unfold hm_in; omega, by omega, blk (op_18 (by omega) hSt _) (fun v M1 h => lb_18_b (⟨by unfold hm_in; omega, by omega, h⟩)) (fun v M2 h => lb_18_c ⟨fun _ => inc M2 h, fun z => absurd rfl z⟩)⟩)
    exact ⟨by omega, fun _ => inc M hSt, fun _ => k0, fun _ => k1, fun _ => k2, fun _ => k3, fun _ => k4, fun _ => k5, fun _ => k6, fun _ => k7, fun _ => k8, fun _ => k9, fun _ => k10, fun _ => k11, fun _ => k12, fun _ => k13, fun _ => k14, fun _ => k15, fun _ => k16, fun _ => k17, fun _ => k18, True.intro⟩
end LAW

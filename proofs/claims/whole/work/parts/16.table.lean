/-! THE SECOND TABLE -/
theorem fa_49 {D : Nat} {a x y : Int} {M : g_M} {Q : g_P} (h : (((0 ≤ a ∧ a < 8) ∧ (0 < x ∧ x < 5) ∧ ((a = 0 ∨ 3 < a) → (0 < y ∧ y < 5))) → Q [.inl 1] M) ∧ (¬ ((0 ≤ a ∧ a < 8) ∧ (0 < x ∧ x < 5) ∧ ((a = 0 ∨ 3 < a) → (0 < y ∧ y < 5))) → Q [.inl 0] M)) : g_Ev (D + 2) 49 [.inl a, .inl x, .inl y] M Q := by
  refine g_enter hk_49 hn_49 (rg_49_0 rfl ?_)
  obtain ⟨h1, h2⟩ := h
  (repeat' first | refine ⟨?_, ?_⟩ | intro _) <;> first | omega | exact h1 (by omega) | exact h2 (by omega)
theorem g_bit_lit {m : Int} {k : Nat} : g_bit m (k : Int) ↔ m.toNat.testBit k = true := by
  unfold g_bit
  rw [Int.toNat_natCast]
theorem fa_76 {D : Nat} {f : Int} {M : g_M} {Q : g_P} (h : (0 ≤ f ∧ f < 256) ∧ Q [.inl (g_spare f)] M) : g_Ev (D + 2) 76 [.inl f] M Q := by
  refine g_enter hk_76 hn_76 (rg_76_0 rfl ?_)
  obtain ⟨h1, h2⟩ := h
  unfold g_spare at h2
  have b5 : g_bit f 5 ↔ f.toNat.testBit 5 = true := g_bit_lit (k := 5)
  have b6 : g_bit f (5 + 1) ↔ f.toNat.testBit 6 = true := g_bit_lit (k := 6)
  have b7 : g_bit f (5 + 1 + 1) ↔ f.toNat.testBit 7 = true := g_bit_lit (k := 7)
  refine rg_76_2 rfl ⟨fun q => by omega, fun _ => ⟨⟨by omega, by omega⟩, fun q => ⟨fun _ => ⟨⟨by omega, by omega⟩, ?_⟩, fun z => by omega⟩, fun q => ⟨fun z => by omega, fun _ => ?_⟩⟩⟩
  · refine rg_76_2 rfl ⟨fun q => by omega, fun _ => ⟨⟨by omega, by omega⟩, fun q2 => ⟨fun _ => ⟨⟨by omega, by omega⟩, ?_⟩, fun z => by omega⟩, fun q2 => ⟨fun z => by omega, fun _ => ?_⟩⟩⟩
    · refine rg_76_2 rfl ⟨fun q => by omega, fun _ => ⟨⟨by omega, by omega⟩, fun q3 => ⟨fun _ => ⟨⟨by omega, by omega⟩, ?_⟩, fun z => by omega⟩, fun q3 => ⟨fun z => by omega, fun _ => ?_⟩⟩⟩
      · refine rg_76_2 rfl ⟨fun _ => ?_, fun q => by omega⟩
        rw [b5.mp q, b6.mp q2, b7.mp q3] at h2
        exact h2
      · rw [b5.mp q, b6.mp q2, if_neg (by decide), if_neg (by decide), if_pos (by rw [b7] at q3; simpa using q3)] at h2
        exact h2
    · rw [b5.mp q, if_neg (by decide), if_pos (by rw [b6] at q2; simpa using q2)] at h2
      exact h2
  · rw [if_pos (by rw [b5] at q; simpa using q)] at h2
    exact h2
noncomputable def g_F (k : Nat) : Option (List g_V → g_M → g_P → Prop) := match k with
  | 11 => some (fun as M Q => match as with | [.inr (0, 2), .inl f] => ((0 ≤ f ∧ f < M.1 0 2 6) → Q [.inl 1] M) ∧ (¬ (0 ≤ f ∧ f < M.1 0 2 6) → Q [.inl 0] M) | _ => False)
  | 12 => some (fun as M Q => match as with | [.inl f] => ((f = 0 ∨ f = 1) → Q [.inl 1] M) ∧ (¬ (f = 0 ∨ f = 1) → Q [.inl 0] M) | _ => False)
  | 13 => some (fun as M Q => match as with | [.inl f] => ((0 ≤ f ∧ f < 8) → Q [.inl 1] M) ∧ (¬ (0 ≤ f ∧ f < 8) → Q [.inl 0] M) | _ => False)
  | 29 => some (fun as M Q => match as with | [.inl f] => ((0 < f ∧ f < 5) → Q [.inl 1] M) ∧ (¬ (0 < f ∧ f < 5) → Q [.inl 0] M) | _ => False)
  | 30 => some (fun as M Q => match as with | [.inl f] => ((0 ≤ f ∧ f < 10) → Q [.inl 1] M) ∧ (¬ (0 ≤ f ∧ f < 10) → Q [.inl 0] M) | _ => False)
  | 32 => some (fun as M Q => match as with | [.inl f] => ((0 < f ∧ f < 10) → Q [.inl 1] M) ∧ (¬ (0 < f ∧ f < 10) → Q [.inl 0] M) | _ => False)
  | 50 => some (fun as M Q => match as with | [.inl f] => ((0 ≤ f ∧ f < 8) → Q [.inl 1] M) ∧ (¬ (0 ≤ f ∧ f < 8) → Q [.inl 0] M) | _ => False)
  | 51 => some (fun as M Q => match as with | [.inl f] => ((f = 0 ∨ 3 < f) → Q [.inl 1] M) ∧ (¬ (f = 0 ∨ 3 < f) → Q [.inl 0] M) | _ => False)
  | 92 => some (fun as M Q => match as with | [.inr (0, 286), .inl f] => ((0 ≤ f ∧ f < M.1 0 286 1) → Q [.inl 1] M) ∧ (¬ (0 ≤ f ∧ f < M.1 0 286 1) → Q [.inl 0] M) | _ => False)
  | 93 => some (fun as M Q => match as with | [.inl f] => ((0 ≤ f ∧ f < 8) → Q [.inl 1] M) ∧ (¬ (0 ≤ f ∧ f < 8) → Q [.inl 0] M) | _ => False)
  | 104 => some (fun as M Q => match as with | [.inl f] => ((0 < f ∧ f < 5) → Q [.inl 1] M) ∧ (¬ (0 < f ∧ f < 5) → Q [.inl 0] M) | _ => False)
  | 105 => some (fun as M Q => match as with | [.inl f] => ((0 ≤ f ∧ f < 10) → Q [.inl 1] M) ∧ (¬ (0 ≤ f ∧ f < 10) → Q [.inl 0] M) | _ => False)
  | 115 => some (fun as M Q => match as with | [.inl f] => ((f = 0 ∨ 3 < f) → Q [.inl 1] M) ∧ (¬ (f = 0 ∨ 3 < f) → Q [.inl 0] M) | _ => False)
  | 14 => some (fun as M Q => match as with | [.inl k, .inl x, .inl y] => ((0 ≤ k ∧ k < 4) ∧ (0 ≤ x ∧ x < 8) ∧ (0 ≤ y ∧ y < 8)) ∧ Q [.inl (64 * k + 8 * x + y)] M | _ => False)
  | 24 => some (fun as M Q => match as with | [.inl f] => (0 ≤ f ∧ f < 256) ∧ Q [.inl (f / 64)] M | _ => False)
  | 25 => some (fun as M Q => match as with | [.inl f] => (0 ≤ f ∧ f < 256) ∧ Q [.inl (f / 8 % 8)] M | _ => False)
  | 26 => some (fun as M Q => match as with | [.inl f] => (0 ≤ f ∧ f < 256) ∧ Q [.inl (f % 8)] M | _ => False)
  | 37 => some (fun as M Q => match as with | [.inl f] => (0 ≤ f ∧ f < 1024) ∧ Q [.inl (g_pop f)] M | _ => False)
  | 44 => some (fun as M Q => match as with | [.inl m, .inl i] => ((0 ≤ m ∧ m < 1024) ∧ (0 ≤ i ∧ i < 10)) ∧ ((g_bit m i → Q [.inl 1] M) ∧ (¬ g_bit m i → Q [.inl 0] M)) | _ => False)
  | 49 => some (fun as M Q => match as with | [.inl a, .inl x, .inl y] => (((0 ≤ a ∧ a < 8) ∧ (0 < x ∧ x < 5) ∧ ((a = 0 ∨ 3 < a) → (0 < y ∧ y < 5))) → Q [.inl 1] M) ∧ (¬ ((0 ≤ a ∧ a < 8) ∧ (0 < x ∧ x < 5) ∧ ((a = 0 ∨ 3 < a) → (0 < y ∧ y < 5))) → Q [.inl 0] M) | _ => False)
  | 76 => some (fun as M Q => match as with | [.inl f] => (0 ≤ f ∧ f < 256) ∧ Q [.inl (g_spare f)] M | _ => False)
  | _ => none
theorem g_F_ok {D : Nat} : ∀ k f as M Q, g_F k = some f → f as M Q → g_Ev (D + 2) k as M Q := by
  intro k f as M Q h h1
  unfold g_F at h
  split at h <;> first | (cases h; done) | skip
  · cases h
    split at h1
    · exact fa_11 h1
    · exact h1.elim
  · cases h
    split at h1
    · exact fa_12 h1
    · exact h1.elim
  · cases h
    split at h1
    · exact fa_13 h1
    · exact h1.elim
  · cases h
    split at h1
    · exact fa_29 h1
    · exact h1.elim
  · cases h
    split at h1
    · exact fa_30 h1
    · exact h1.elim
  · cases h
    split at h1
    · exact fa_32 h1
    · exact h1.elim
  · cases h
    split at h1
    · exact fa_50 h1
    · exact h1.elim
  · cases h
    split at h1
    · exact fa_51 h1
    · exact h1.elim
  · cases h
    split at h1
    · exact fa_92 h1
    · exact h1.elim
  · cases h
    split at h1
    · exact fa_93 h1
    · exact h1.elim
  · cases h
    split at h1
    · exact fa_104 h1
    · exact h1.elim
  · cases h
    split at h1
    · exact fa_105 h1
    · exact h1.elim
  · cases h
    split at h1
    · exact fa_115 h1
    · exact h1.elim
  · cases h
    split at h1
    · exact fa_14 h1
    · exact h1.elim
  · cases h
    split at h1
    · exact fa_24 h1
    · exact h1.elim
  · cases h
    split at h1
    · exact fa_25 h1
    · exact h1.elim
  · cases h
    split at h1
    · exact fa_26 h1
    · exact h1.elim
  · cases h
    split at h1
    · exact fa_37 h1
    · exact h1.elim
  · cases h
    split at h1
    · exact fa_44 h1
    · exact h1.elim
  · cases h
    split at h1
    · exact fa_49 h1
    · exact h1.elim
  · cases h
    split at h1
    · exact fa_76 h1
    · exact h1.elim

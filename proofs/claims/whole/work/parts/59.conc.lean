/-! THE CONSTRUCTORS, RUN: a memory as a list of what was made and written -/
abbrev cM : Type := List (Nat × Nat) × List (Nat × Nat × Int) × List (Nat × Nat × Nat)
def lkI : List (Nat × Nat × Int) → Nat → Nat → Int
  | [], _, _ => 0
  | q :: l, i, k => bif Nat.beq q.1 i && Nat.beq q.2.1 k then q.2.2 else lkI l i k
def lkN : List (Nat × Nat × Nat) → Nat → Nat → Nat
  | [], _, _ => 0
  | q :: l, i, k => bif Nat.beq q.1 i && Nat.beq q.2.1 k then q.2.2 else lkN l i k
def cmp (c : cM) : hm_M := (c.1, lkI c.2.1, lkN c.2.2)
def cfr (c : cM) : Bool := c.2.1.all (fun q => Nat.blt q.1 c.1.length) && c.2.2.all (fun q => Nat.blt q.1 c.1.length)
def ckd (c : cM) (r : Nat) : Nat := (c.1.getD r (1000, 0)).1
def cln (c : cM) (r : Nat) : Nat := (c.1.getD r (1000, 0)).2
def csl (c : cM) : Nat := (c.1.map Prod.snd).sum
theorem cmp_uA {c : cM} {r k : Nat} {v : Int} : hm_uA (cmp c) r k v = cmp (c.1, (r, k, v) :: c.2.1, c.2.2) := by
  refine Prod.ext rfl (Prod.ext ?_ rfl)
  funext i j
  show va_up (lkI c.2.1) r (va_up (lkI c.2.1 r) k v) i j = bif Nat.beq r i && Nat.beq k j then v else lkI c.2.1 i j
  by_cases h1 : i = r
  · subst h1
    by_cases h2 : j = k
    · subst h2; simp [va_up]
    · rw [g_nbeq (fun z => h2 z.symm), Bool.and_false]
      simp [va_up, h2]
  · rw [g_nbeq (fun z => h1 z.symm), Bool.false_and]
    simp [va_up, h1]
theorem cmp_uB {c : cM} {r k v : Nat} : hm_uB (cmp c) r k v = cmp (c.1, c.2.1, (r, k, v) :: c.2.2) := by
  refine Prod.ext rfl (Prod.ext rfl ?_)
  funext i j
  show va_up (lkN c.2.2) r (va_up (lkN c.2.2 r) k v) i j = bif Nat.beq r i && Nat.beq k j then v else lkN c.2.2 i j
  by_cases h1 : i = r
  · subst h1
    by_cases h2 : j = k
    · subst h2; simp [va_up]
    · rw [g_nbeq (fun z => h2 z.symm), Bool.and_false]
      simp [va_up, h2]
  · rw [g_nbeq (fun z => h1 z.symm), Bool.false_and]
    simp [va_up, h1]
theorem lkI_out {n : Nat} : ∀ {l : List (Nat × Nat × Int)}, l.all (fun q => Nat.blt q.1 n) = true → ∀ k, lkI l n k = 0
  | [], _, _ => rfl
  | q :: l, h, k => by
    rw [List.all_cons, Bool.and_eq_true] at h
    have h1 : q.1 < n := by have := h.1; simpa using this
    show (bif Nat.beq q.1 n && Nat.beq q.2.1 k then q.2.2 else lkI l n k) = 0
    rw [g_nbeq (by omega), Bool.false_and]
    exact lkI_out h.2 k
theorem lkN_out {n : Nat} : ∀ {l : List (Nat × Nat × Nat)}, l.all (fun q => Nat.blt q.1 n) = true → ∀ k, lkN l n k = 0
  | [], _, _ => rfl
  | q :: l, h, k => by
    rw [List.all_cons, Bool.and_eq_true] at h
    have h1 : q.1 < n := by have := h.1; simpa using this
    show (bif Nat.beq q.1 n && Nat.beq q.2.1 k then q.2.2 else lkN l n k) = 0
    rw [g_nbeq (by omega), Bool.false_and]
    exact lkN_out h.2 k
theorem cmp_nw {c : cM} {kd n : Nat} (h : cfr c = true) : hm_nw (cmp c) kd n = cmp (c.1 ++ [(kd, n)], c.2.1, c.2.2) := by
  unfold cfr at h
  rw [Bool.and_eq_true] at h
  refine Prod.ext rfl (Prod.ext ?_ ?_)
  · funext i j
    show va_up (lkI c.2.1) c.1.length (fun _ => 0) i j = lkI c.2.1 i j
    by_cases h1 : i = c.1.length
    · subst h1; rw [lkI_out h.1]; simp [va_up]
    · simp [va_up, h1]
  · funext i j
    show va_up (lkN c.2.2) c.1.length (fun _ => 0) i j = lkN c.2.2 i j
    by_cases h1 : i = c.1.length
    · subst h1; rw [lkN_out h.2]; simp [va_up]
    · simp [va_up, h1]
def cst (rec : Nat → List hm_V → cM → Option cM) (cap : Nat × Nat) (row : hm_row) (pc : Nat) (ls st : List hm_V) (c : cM) : Option (Nat × List hm_V × List hm_V × cM) :=
  match row.1 with
  | .iconst n => some (pc + 1, ls, .inl n :: st, c)
  | .bipush n => some (pc + 2, ls, .inl n :: st, c)
  | .sipush n => some (pc + 3, ls, .inl n :: st, c)
  | .iload_n i => match ls[(i : Nat)]? with | some (.inl a) => some (pc + 1, ls, .inl a :: st, c) | _ => none
  | .aload_n i => match ls[(i : Nat)]? with | some (.inr a) => some (pc + 1, ls, .inr a :: st, c) | _ => none
  | .istore_n i => match st with | .inl a :: s => (bif Nat.ble (i : Nat) ls.length then some (pc + 1, hm_set ls (i : Nat) (.inl a), s, c) else none) | _ => none
  | .iinc i n => match ls[i]? with | some (.inl a) => (bif decide (-2147483648 ≤ a + n) && decide (a + n < 2147483648) then some (pc + 3, hm_set ls i (.inl (a + n)), st, c) else none) | _ => none
  | .if_icmp .ge _ => match st with | .inl b :: .inl a :: s => (bif decide (b ≤ a) then some (row.2.2.1, ls, s, c) else some (pc + 3, ls, s, c)) | _ => none
  | .goto _ => some (row.2.2.1, ls, st, c)
  | .dup => match st with | v :: s => some (pc + 1, ls, v :: v :: s, c) | _ => none
  | .getfield _ => match st with | .inr r :: s => (bif Nat.beq (ckd c r) (row.2.2.1 + 3) && hm_isr row.2.2.1 row.2.2.2.1 then some (pc + 3, ls, .inr (lkN c.2.2 r row.2.2.2.1) :: s, c) else none) | _ => none
  | .putfield _ => match st with | .inr v :: .inr r :: s => (bif Nat.beq (ckd c r) (row.2.2.1 + 3) && hm_isr row.2.2.1 row.2.2.2.1 then some (pc + 3, ls, s, (c.1, c.2.1, (r, row.2.2.2.1, v) :: c.2.2)) else none) | _ => none
  | .iastore => match st with | .inl v :: .inl i :: .inr r :: s => (bif Nat.beq (ckd c r) 0 && decide (0 ≤ i) && decide (i < (cln c r : Int)) then some (pc + 1, ls, s, (c.1, (r, i.toNat, v) :: c.2.1, c.2.2)) else none) | _ => none
  | .aastore => match st with | .inr v :: .inl i :: .inr r :: s => (bif Nat.beq (ckd c r) 2 && decide (0 ≤ i) && decide (i < (cln c r : Int)) && Nat.beq (ckd c v) 3 then some (pc + 1, ls, s, (c.1, c.2.1, (r, i.toNat, v) :: c.2.2)) else none) | _ => none
  | .arraylength => match st with | .inr r :: s => (bif Nat.blt (ckd c r) 3 && Nat.blt (cln c r) 2147483648 then some (pc + 1, ls, .inl (cln c r : Int) :: s, c) else none) | _ => none
  | .newarray _ => match st with | .inl n :: s => (bif decide (0 ≤ n) && decide (n ≤ 100000) && Nat.ble (c.1.length + 1) cap.1 && Nat.ble (csl c + n.toNat) cap.2 && cfr c then some (pc + 2, ls, .inr c.1.length :: s, (c.1 ++ [(row.2.2.1, n.toNat)], c.2.1, c.2.2)) else none) | _ => none
  | .anewarray _ => match st with | .inl n :: s => (bif decide (0 ≤ n) && decide (n ≤ 100000) && Nat.ble (c.1.length + 1) cap.1 && Nat.ble (csl c + n.toNat) cap.2 && cfr c then some (pc + 3, ls, .inr c.1.length :: s, (c.1 ++ [(2, n.toNat)], c.2.1, c.2.2)) else none) | _ => none
  | .new _ => bif Nat.ble (c.1.length + 1) cap.1 && Nat.ble (csl c + hm_N row.2.2.1) cap.2 && cfr c then some (pc + 3, ls, .inr c.1.length :: st, (c.1 ++ [(row.2.2.1 + 3, hm_N row.2.2.1)], c.2.1, c.2.2)) else none
  | .invokespecial _ => bif row.2.2.1 == 998 then (match st with | .inr r :: s => (bif Nat.ble 2 r && Nat.ble s.length 8 then some (pc + 3, ls, s, c) else none) | _ => none)
      else (match st.drop row.2.2.2.1 with | .inr r :: s => (bif Nat.ble s.length 8 && Nat.beq (ckd c r) (row.2.2.2.2 + 3) && Nat.ble (c.1.length + hm_mc row.2.2.1) cap.1 && Nat.ble (csl c + hm_ms row.2.2.1) cap.2 then (match rec row.2.2.1 (.inr r :: (st.take row.2.2.2.1).reverse) c with | some c' => some (pc + 3, ls, s, c') | none => none) else none) | _ => none)
  | _ => none
section CO
variable {lw zb : Bool} {L : Nat} {xs : Nat → Int} {cap : Nat × Nat} {C : Nat → List hm_V → hm_M → hm_P → Prop} {Q : hm_P} {rec : Nat → List hm_V → cM → Option cM} {row : hm_row} {pc : Nat} {ls st : List hm_V} {c : cM} {nx : Nat → List hm_V → List hm_V → hm_M → Prop}
theorem cst_ok (hlw : lw = true → row.1 ≠ .arraylength) (hC : ∀ j as c c' (F : hm_P), rec j as c = some c' → F [] (cmp c') → C j as (cmp c) F) {pc' : Nat} {ls' st' : List hm_V} {c' : cM} (h : cst rec cap row pc ls st c = some (pc', ls', st', c')) (hn : nx pc' ls' st' (cmp c')) : hm_st lw L xs zb cap C Q row pc ls st (cmp c) nx := by
  obtain ⟨ins, len, x, y, w⟩ := row
  have bt : ∀ {b : Bool} {α : Type} {u v : Option α} {z : α}, (bif b then u else v) = some z → v = none → b = true ∧ u = some z := fun {b α u v z} h1 h2 => by
    cases b with
    | true => exact ⟨rfl, h1⟩
    | false => rw [h2] at h1; cases h1
  cases ins <;> simp only [cst] at h <;> first | (cases h; done) | skip
  case iconst n => cases h; exact hn
  case bipush n => cases h; exact hn
  case sipush n => cases h; exact hn
  case iload_n i =>
    split at h
    · next a ha => cases h; simp only [hm_st]; rw [ha]; exact hn
    · cases h
  case aload_n i =>
    split at h
    · next a ha => cases h; simp only [hm_st]; rw [ha]; exact hn
    · cases h
  case istore_n i =>
    split at h
    · next a s =>
      obtain ⟨hb, h⟩ := bt h rfl
      cases h
      simp only [hm_st]
      rw [hb]
      exact hn
    · cases h
  case iinc i n =>
    split at h
    · next a ha =>
      obtain ⟨hb, h⟩ := bt h rfl
      cases h
      rw [Bool.and_eq_true, decide_eq_true_eq, decide_eq_true_eq] at hb
      simp only [hm_st]
      rw [ha]
      exact ⟨hb, hn⟩
    · cases h
  case if_icmp k o =>
    cases k <;> first | (cases h; done) | skip
    rcases st with _ | ⟨v1, _ | ⟨v2, s⟩⟩
    · cases h
    · rcases v1 with b | r <;> cases h
    rcases v1 with b | r
    · rcases v2 with a | r2
      · have h : (bif decide (b ≤ a) then some (x, ls, s, c) else some (pc + 3, ls, s, c)) = some (pc', ls', st', c') := h
        show (b ≤ a → nx x ls s (cmp c)) ∧ (a < b → nx (pc + 3) ls s (cmp c))
        by_cases z : b ≤ a
        · rw [decide_eq_true z] at h
          cases h
          exact ⟨fun _ => hn, fun q => by omega⟩
        · rw [decide_eq_false z] at h
          cases h
          exact ⟨fun q => absurd q z, fun _ => hn⟩
      · cases h
    · cases h
  case goto o => cases h; exact hn
  case dup =>
    split at h
    · next v s => cases h; exact hn
    · cases h
  case getfield i =>
    split at h
    · next r s =>
      obtain ⟨hb, h⟩ := bt h rfl
      rw [Bool.and_eq_true] at hb
      cases h
      simp only [hm_st]
      rw [hb.2]
      exact ⟨Nat.eq_of_beq_eq_true hb.1, hn⟩
    · cases h
  case putfield i =>
    split at h
    · next v r s =>
      obtain ⟨hb, h⟩ := bt h rfl
      rw [Bool.and_eq_true] at hb
      cases h
      simp only [hm_st]
      rw [hb.2]
      refine ⟨Nat.eq_of_beq_eq_true hb.1, ?_⟩
      rw [cmp_uB]
      exact hn
    · cases h
  case iastore =>
    split at h
    · next v i r s =>
      obtain ⟨hb, h⟩ := bt h rfl
      rw [Bool.and_eq_true, Bool.and_eq_true, decide_eq_true_eq, decide_eq_true_eq] at hb
      cases h
      simp only [hm_st]
      refine ⟨⟨Nat.eq_of_beq_eq_true hb.1.1, hb.1.2, hb.2⟩, ?_⟩
      rw [cmp_uA]
      exact hn
    · cases h
  case aastore =>
    split at h
    · next v i r s =>
      obtain ⟨hb, h⟩ := bt h rfl
      rw [Bool.and_eq_true, Bool.and_eq_true, Bool.and_eq_true, decide_eq_true_eq, decide_eq_true_eq] at hb
      cases h
      simp only [hm_st]
      refine ⟨⟨Nat.eq_of_beq_eq_true hb.1.1.1, hb.1.1.2, hb.1.2, Nat.eq_of_beq_eq_true hb.2⟩, ?_⟩
      rw [cmp_uB]
      exact hn
    · cases h
  case arraylength =>
    split at h
    · next r s =>
      obtain ⟨hb, h⟩ := bt h rfl
      rw [Bool.and_eq_true] at hb
      cases h
      cases lw with
      | true => exact absurd rfl (hlw rfl)
      | false =>
        simp only [hm_st]
        exact ⟨⟨show ckd c r < 3 by simpa using hb.1, show cln c r < 2147483648 by simpa using hb.2⟩, hn⟩
    · cases h
  case newarray k =>
    split at h
    · next n s =>
      obtain ⟨hb, h⟩ := bt h rfl
      rw [Bool.and_eq_true, Bool.and_eq_true, Bool.and_eq_true, Bool.and_eq_true, decide_eq_true_eq, decide_eq_true_eq] at hb
      cases h
      simp only [hm_st]
      refine ⟨⟨hb.1.1.1.1, hb.1.1.1.2, Nat.le_of_ble_eq_true hb.1.1.2, Nat.le_of_ble_eq_true hb.1.2⟩, ?_⟩
      rw [cmp_nw hb.2]
      exact hn
    · cases h
  case anewarray k =>
    split at h
    · next n s =>
      obtain ⟨hb, h⟩ := bt h rfl
      rw [Bool.and_eq_true, Bool.and_eq_true, Bool.and_eq_true, Bool.and_eq_true, decide_eq_true_eq, decide_eq_true_eq] at hb
      cases h
      simp only [hm_st]
      refine ⟨⟨hb.1.1.1.1, hb.1.1.1.2, Nat.le_of_ble_eq_true hb.1.1.2, Nat.le_of_ble_eq_true hb.1.2⟩, ?_⟩
      rw [cmp_nw hb.2]
      exact hn
    · cases h
  case new k =>
    obtain ⟨hb, h⟩ := bt h rfl
    rw [Bool.and_eq_true, Bool.and_eq_true] at hb
    cases h
    simp only [hm_st]
    refine ⟨⟨Nat.le_of_ble_eq_true hb.1.1, Nat.le_of_ble_eq_true hb.1.2⟩, ?_⟩
    rw [cmp_nw hb.2]
    exact hn
  case invokespecial k =>
    simp only [hm_st]
    cases hx : (x == 998) with
    | true =>
      rw [hx] at h
      rcases st with _ | ⟨v, s⟩
      · cases h
      rcases v with v | r
      · cases h
      have h : (bif Nat.ble 2 r && Nat.ble s.length 8 then some (pc + 3, ls, s, c) else none) = some (pc', ls', st', c') := h
      obtain ⟨hb, h⟩ := bt h rfl
      rw [Bool.and_eq_true] at hb
      show 2 ≤ r ∧ (bif Nat.ble s.length 8 then nx (pc + 3) ls s (cmp c) else False)
      refine ⟨Nat.le_of_ble_eq_true hb.1, ?_⟩
      cases h
      rw [hb.2]
      exact hn
    | false =>
      rw [hx] at h
      generalize hd : st.drop y = sd at h ⊢
      rcases sd with _ | ⟨v, s⟩
      · cases h
      rcases v with v | r
      · cases h
      have h : (bif Nat.ble s.length 8 && Nat.beq (ckd c r) (w + 3) && Nat.ble (c.1.length + hm_mc x) cap.1 && Nat.ble (csl c + hm_ms x) cap.2 then (match rec x (.inr r :: (st.take y).reverse) c with | some c' => some (pc + 3, ls, s, c') | none => none) else none) = some (pc', ls', st', c') := h
      obtain ⟨hb, h⟩ := bt h rfl
      rw [Bool.and_eq_true, Bool.and_eq_true, Bool.and_eq_true] at hb
      show (bif Nat.ble s.length 8 then hm_kd (cmp c) r = w + 3 ∧ ((cmp c).1.length + hm_mc x ≤ cap.1 ∧ hm_sl (cmp c) + hm_ms x ≤ cap.2) ∧ C x (.inr r :: (st.take y).reverse) (cmp c) (fun q M' => nx (pc + 3) ls (q ++ s) M') else False)
      rw [hb.1.1.1]
      cases hc2 : rec x (.inr r :: (st.take y).reverse) c with
      | none => rw [hc2] at h; cases h
      | some c2 =>
        rw [hc2] at h
        cases h
        exact ⟨Nat.eq_of_beq_eq_true hb.1.1.2, ⟨Nat.le_of_ble_eq_true hb.1.2, Nat.le_of_ble_eq_true hb.2⟩, hC _ _ _ _ _ hc2 hn⟩
end CO

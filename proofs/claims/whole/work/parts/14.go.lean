/-! METHODS OVER THE OBJECTS -/
def g_li (Q : g_P) : hm_P := fun r M' => ∃ (r2 : List g_V) (M2 : g_M), r = r2.map g_iv ∧ M' = g_ph M2 ∧ g_va [] r2 M2 ∧ Q r2 M2
def g_Ev (d j : Nat) (as : List g_V) (M : g_M) (Q : g_P) : Prop := (g_va as [] M → hm_Ev d j (as.map g_iv) (g_ph M) (g_li Q)) ∨ False
def g_R (d j : Nat) (Q : g_P) (pc : Nat) (ls st : List g_V) (M : g_M) : Prop := (g_va ls st M → hm_R d j (g_ph g_z) (g_li Q) pc (ls.map g_iv) (st.map g_iv) (g_ph M)) ∨ False
theorem g_Ev.mono {d j : Nat} {as : List g_V} {M : g_M} {Q Q' : g_P} (h : g_Ev d j as M Q) (hq : ∀ r M', g_va [] r M' → Q r M' → Q' r M') : g_Ev d j as M Q' :=
  Or.inl (fun hv => (h.resolve_right id hv).mono (fun r M' ⟨r2, M2, h1, h2, h3, h4⟩ => ⟨r2, M2, h1, h2, h3, hq r2 M2 h3 h4⟩))
theorem g_row_ok {ini : Bool} {o nL pc : Nat} {cc : ByteArray} {row : hm_row} (h : hm_ck ini o nL cc pc row = true) : g_rok row := by
  obtain ⟨ins, len, x, y, w⟩ := row
  simp only [hm_ck, Bool.and_eq_true] at h
  intro i hi
  rcases hi with e | e
  · obtain rfl : ins = .getfield i := e
    have h1 := h.2
    simp only [hm_ckr, Bool.and_eq_true] at h1
    have h2 := hm_FL_at h1.2
    exact ⟨h2.1, h2.2.1⟩
  · obtain rfl : ins = .putfield i := e
    have h1 := h.2
    simp only [hm_ckr, Bool.and_eq_true] at h1
    have h2 := hm_FL_at h1.1.2
    exact ⟨h2.1, h2.2.1⟩
theorem g_go {d j o : Nat} {ini zb : Bool} {rows : List (Nat × hm_row)} (ok : hm_okm j o ini zb rows ∧ hm_rok j rows) (hz : hm_mc j = 0 ∧ hm_ms j = 0) {C : Nat → List g_V → g_M → g_P → Prop} (hC : ∀ k as M F, C k as M F → g_Ev d k as M F) {Q : g_P} (sp : Nat → Option Nat) :
    ∀ (n : Nat) {pc : Nat} {ls st : List g_V} {M : g_M}, g_wp rows sp false 0 (fun _ => 0) zb C Q (g_R (d + 1) j Q) n pc ls st M → g_R (d + 1) j Q pc ls st M := by
  intro n
  induction n with
  | zero => intro pc ls st M h; exact h
  | succ n ih =>
    intro pc ls st M h
    refine Or.inl (fun hva => ?_)
    unfold g_wp at h
    split at h
    · exact h.elim
    · next row hrow =>
      have hin := hm_find_in rows pc row hrow
      have hck := List.all_eq_true.mp ok.1.2.2.2.2.2.2 _ hin
      refine hm_go ok (fun _ => none) 1 ?_
      unfold hm_wp
      rw [hrow]
      refine g_sim (nx1 := hm_R (d + 1) j (g_ph g_z) (g_li Q)) hva (g_row_ok hck) (fun k as M' F2 F1 hva' hc hF => ?_) (fun r M' hv hq => ?_) (fun pc' ls' st' M' hv hn => ?_) h
      · show hm_Ev d k (as.map g_iv) (g_ph M') F1
        exact ((hC k as M' F2 hc).resolve_right id hva').mono (fun r M1 ⟨r2, M2, h1, h2, h3, h4⟩ => by rw [h1, h2]; exact hF r2 M2 h3 h4)
      · exact ⟨⟨by show g_sh.length = g_sh.length + hm_mc j; rw [hz.1, Nat.add_zero], by show (g_sh.map Prod.snd).sum = (g_sh.map Prod.snd).sum + hm_ms j; rw [hz.2, Nat.add_zero]⟩, r, M', rfl, rfl, hv, hq⟩
      · split at hn
        · next k hk =>
          have h2 := hn.resolve_right id hv.take
          rw [List.map_take] at h2
          exact fun l E p e s m args below meth c X => (h2 l E p e s m args below meth c X).take
        · exact (ih hn).resolve_right id hv
theorem g_enter {d j o : Nat} {ini zb : Bool} {rows : List (Nat × hm_row)} (ok : hm_okm j o ini zb rows ∧ hm_rok j rows) {as : List g_V} {M : g_M} {Q : g_P} (hla : as.length ≤ (hm_me j).2.2.1) (h : g_R d j Q 0 as [] M) : g_Ev d j as M Q :=
  Or.inl (fun hv => hm_enter ok (by rw [List.length_map]; exact hla) (h.resolve_right id hv))
/-- calls: those of a table by what it says, the others by their contracts -/
def g_C (F : Nat → Option (List g_V → g_M → g_P → Prop)) (d : Nat) (k : Nat) (as : List g_V) (M : g_M) (Q : g_P) : Prop := match F k with
  | some f => f as M Q
  | none => g_Ev d k as M Q
theorem g_C_ok {F : Nat → Option (List g_V → g_M → g_P → Prop)} {d : Nat} (hF : ∀ k f as M Q, F k = some f → f as M Q → g_Ev d k as M Q) : ∀ k as M Q, g_C F d k as M Q → g_Ev d k as M Q := by
  intro k as M Q h
  unfold g_C at h
  split at h
  · next f e => exact hF k f as M Q e h
  · exact h
def g_F0 : Nat → Option (List g_V → g_M → g_P → Prop) := fun _ => none
theorem g_F0_ok {d : Nat} : ∀ k f as M Q, g_F0 k = some f → f as M Q → g_Ev d k as M Q := fun k f as M Q h => by cases h

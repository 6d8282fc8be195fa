/-! says: always -/
/-- each placed one lies alone in its row -/
def OK1 (L : Nat) (wi rk : Nat → Int) : Prop := ∀ k, k < L → 0 ≤ wi k → rk k = 0 ∧ ∀ i, i < L → i ≠ k → wi i ≠ wi k
def VW (P L : Nat) (wi rk : Nat → Int) : Prop := ∀ k, k < L → -1 ≤ wi k ∧ wi k < (P : Int) ∧ 0 ≤ rk k ∧ rk k < (L : Int)
def dg (L : Nat) (wi rk : Nat → Int) (k : Nat) : Nat := if wi k < 0 then 0 else 1 + (wi k).toNat * L + (rk k).toNat
def cdp (B : Nat) (d : Nat → Nat) : Nat → Nat → Nat
  | 0, _ => 0
  | m + 1, j => d j + B * cdp B d m (j + 1)
theorem cdp_s {B : Nat} {d : Nat → Nat} {m j : Nat} : cdp B d (m + 1) j = d j + B * cdp B d m (j + 1) := rfl
theorem cdp_cg {B : Nat} {d d' : Nat → Nat} : ∀ {m j : Nat}, (∀ i, j ≤ i → i < j + m → d i = d' i) → cdp B d m j = cdp B d' m j := by
  intro m
  induction m with
  | zero => intro j _; rfl
  | succ m ih => intro j h; rw [cdp_s, cdp_s, h j (by omega) (by omega), ih (fun i h1 h2 => h i (by omega) (by omega))]
theorem cdp_lt {B : Nat} {d : Nat → Nat} : ∀ {m j : Nat}, (∀ i, j ≤ i → i < j + m → d i < B) → cdp B d m j < B ^ m := by
  intro m
  induction m with
  | zero => intro j _; exact Nat.one_pos
  | succ m ih =>
    intro j h
    have h1 := h j (by omega) (by omega)
    have h2 := ih (j := j + 1) (fun i h1 h2 => h i (by omega) (by omega))
    rw [cdp_s, Nat.pow_succ]
    have h3 : B * (cdp B d m (j + 1) + 1) ≤ B * B ^ m := Nat.mul_le_mul_left _ h2
    rw [Nat.mul_add, Nat.mul_one] at h3
    rw [Nat.mul_comm (B ^ m)]
    omega
theorem cdp_inj {B : Nat} {d d' : Nat → Nat} : ∀ {m j : Nat}, (∀ i, j ≤ i → i < j + m → d i < B ∧ d' i < B) → cdp B d m j = cdp B d' m j → ∀ i, j ≤ i → i < j + m → d i = d' i := by
  intro m
  induction m with
  | zero => intro j _ _ i h1 h2; omega
  | succ m ih =>
    intro j h he i h1 h2
    have hj := h j (by omega) (by omega)
    rw [cdp_s, cdp_s] at he
    have e1 : (d j + B * cdp B d m (j + 1)) % B = (d' j + B * cdp B d' m (j + 1)) % B := by rw [he]
    rw [Nat.add_mul_mod_self_left, Nat.add_mul_mod_self_left, Nat.mod_eq_of_lt hj.1, Nat.mod_eq_of_lt hj.2] at e1
    have e2 : B * cdp B d m (j + 1) = B * cdp B d' m (j + 1) := by omega
    have e3 := Nat.eq_of_mul_eq_mul_left (by omega) e2
    by_cases z : i = j
    · rw [z]; exact e1
    · exact ih (fun i h1 h2 => h i (by omega) (by omega)) e3 i (by omega) (by omega)
theorem cdp_low {B : Nat} {d : Nat → Nat} : ∀ {k m j : Nat}, (∀ i, j ≤ i → i < j + k → d i = 0) → cdp B d (k + m) j = B ^ k * cdp B d m (j + k) := by
  intro k
  induction k with
  | zero => intro m j _; rw [Nat.zero_add, Nat.pow_zero, Nat.one_mul]; rfl
  | succ k ih =>
    intro m j h
    rw [show k + 1 + m = (k + m) + 1 by omega, cdp_s, h j (by omega) (by omega), Nat.zero_add, ih (fun i h1 h2 => h i (by omega) (by omega)), Nat.pow_succ, show j + 1 + k = j + (k + 1) by omega, Nat.mul_comm (B ^ k) B, Nat.mul_assoc]
section RB
variable {D : Nat} {M : g_M} {f g : Nat} {F G : pf_F} {s : Nat → Nat} {Q : g_P} {b L : Nat} {ls : Nat → Nat} {wi rk : Nat → Int}
theorem m_127 (hD : 3 ≤ D) (hP : mP M L ls wi rk) (h1 : Q [.inl 1] M) (h0 : ¬ OK1 L wi rk → Q [.inl 0] M) : g_Ev D 127 [.inr (0, 286)] M Q := by
  obtain ⟨D, rfl⟩ := g_dep hD
  have hL8 := hP.2.1
  have outer : ∀ (n k : Nat) (x : Int), k + n = L → x = (k : Int) → g_R (D + 3) 127 Q 2 [.inr (0, 286), .inl x] [] M := by
    intro n
    induction n with
    | zero =>
      intro k x hk hx
      subst hx
      refine rp_127_2 rfl ?_
      rw [hP.1]
      exact ⟨fun _ => h1, fun q => by exfalso; omega⟩
    | succ n ih =>
      intro k x hk hx
      subst hx
      have hk3 := hP.2.2 k (by omega)
      refine rp_127_2 rfl ?_
      rw [hP.1, Int.toNat_natCast, hk3.2.1]
      refine ⟨fun q => by exfalso; omega, fun _ => ⟨by omega, fun q => ?_, fun q => ⟨by unfold hm_in; omega, ih (k + 1) _ (by omega) (by omega)⟩⟩⟩
      have inner : ∀ (m i : Nat) (x y : Int), i + m = L → x = (i : Int) → 0 ≤ y → y ≤ (i : Int) → (OK1 L wi rk → y = 0) → g_R (D + 3) 127 Q 26 [.inr (0, 286), .inl (k : Int), .inl y, .inl x] [] M := by
        intro m
        induction m with
        | zero =>
          intro i x y hi hx hy1 hy2 hy3
          subst hx
          refine rp_127_26 rfl ?_
          rw [hP.1, Int.toNat_natCast, hk3.2.2]
          refine ⟨fun _ => ⟨by omega, fun _ => ⟨by unfold hm_in; omega, ih (k + 1) _ (by omega) (by omega)⟩, fun q2 => h0 (fun z => q2 ?_)⟩, fun q2 => by exfalso; omega⟩
          rw [hy3 z, (z k (by omega) q).1]
        | succ m ihm =>
          intro i x y hi hx hy1 hy2 hy3
          subst hx
          have hi3 := hP.2.2 i (by omega)
          refine rp_127_26 rfl ?_
          rw [hP.1, Int.toNat_natCast, Int.toNat_natCast, hk3.2.1, hk3.2.2, hi3.2.1, hi3.2.2]
          refine ⟨fun q2 => by exfalso; omega, fun _ => ⟨fun _ => ⟨by unfold hm_in; omega, ihm (i + 1) _ y (by omega) (by omega) hy1 (by omega) hy3⟩, fun q2 => ⟨by omega, by omega, fun q3 => ⟨fun q4 => ⟨fun q5 => ⟨by unfold hm_in; omega, by unfold hm_in; omega, ihm (i + 1) _ _ (by omega) (by omega) (by omega) (by omega) (fun z => by have := hy3 z; omega)⟩, fun q5 => ⟨by unfold hm_in; omega, by unfold hm_in; omega, ihm (i + 1) _ _ (by omega) (by omega) (by omega) (by omega) (fun z => absurd q3 ((z k (by omega) q).2 i (by omega) (by omega)))⟩⟩, fun q4 => h0 (fun z => (z k (by omega) q).2 i (by omega) (by omega) q3)⟩, fun q3 => ⟨by unfold hm_in; omega, ihm (i + 1) _ y (by omega) (by omega) hy1 (by omega) hy3⟩⟩⟩⟩
      exact inner L 0 0 0 (by omega) rfl (by omega) (by omega) (fun _ => rfl)
  exact g_enter hk_127 hn_127 (rp_127_0 rfl (outer L 0 0 (by omega) rfl))
def ML (F : pf_F) (s : Nat → Nat) (L : Nat) (ls : Nat → Nat) (wi : Nat → Int) : Prop := ∀ k, k < L → 0 ≤ wi k → ∃ p, F.2[(wi k).toNat]? = some p ∧ p.1 = 1 ∧ ne s p ∧ s p.2.2 ≠ ls k
theorem m_128 (hD : 5 ≤ D) (hf : f < 200) (hF : mF M f F) (hw : pf_wf F) (hs : cl M F s) (hP : mP M L ls wi rk) (hV : VW F.2.length L wi rk) (h1 : ML F s L ls wi → Q [.inl 1] M) (h0 : ¬ ML F s L ls wi → Q [.inl 0] M) : g_Ev D 128 [.inr (0, 286), .inl (f : Int)] M Q := by
  obtain ⟨D, rfl⟩ := g_dep hD
  have hL8 := hP.2.1
  have l2 := hw.2.1
  have loop : ∀ (n k : Nat) (x : Int), k + n = L → x = (k : Int) → (∀ j, j < k → 0 ≤ wi j → ∃ p, F.2[(wi j).toNat]? = some p ∧ p.1 = 1 ∧ ne s p ∧ s p.2.2 ≠ ls j) → g_R (D + 5) 128 Q 2 [.inr (0, 286), .inl (f : Int), .inl x] [] M := by
    intro n
    induction n with
    | zero =>
      intro k x hk hx hj
      subst hx
      refine rp_128_2 rfl ?_
      rw [hP.1]
      exact ⟨fun _ => h1 (fun j hj2 => hj j (by omega)), fun q => by exfalso; omega⟩
    | succ n ih =>
      intro k x hk hx hj
      subst hx
      have hk3 := hP.2.2 k (by omega)
      have hv := hV k (by omega)
      refine rp_128_2 rfl ?_
      rw [hP.1, Int.toNat_natCast, hk3.2.1]
      refine ⟨fun q => by exfalso; omega, fun _ => ⟨by omega, fun q => ?_, fun q => ⟨by unfold hm_in; omega, ih (k + 1) _ (by omega) (by omega) (fun j hj2 h2 => ?_)⟩⟩⟩
      · obtain ⟨w, hw2⟩ : ∃ w : Nat, wi k = (w : Int) := ⟨(wi k).toNat, by omega⟩
        have hlt : w < F.2.length := by omega
        have hat := List.getElem?_eq_getElem hlt
        have hmem := List.getElem_mem hlt
        have ok := hw.2.2.2 _ hmem
        have rr := hF.2.2.2 w _ hat
        have hin := pf_in2 hmem
        generalize hp : F.2[w] = p at ok rr hat hin
        unfold pf_ok at ok
        have sy := hs _ hin.2
        have bad : ¬ (p.1 = 1 ∧ ne s p ∧ s p.2.2 ≠ ls k) → Q [.inl 0] M := fun z => h0 (fun y => by
          obtain ⟨p', y1, y2⟩ := y k (by omega) (by omega)
          rw [hw2, Int.toNat_natCast, hat] at y1
          cases y1
          exact z y2)
        rw [hw2, show ((10 : Int) * (f : Int) + (w : Int)).toNat = 10 * f + w by omega, rr.1]
        refine ⟨by unfold hm_in; omega, by unfold hm_in; omega, by omega, fun q2 => bad (fun z => by omega), fun q2 => m_122 (by omega) hf hF hw hs hat (fun he => rp_128_44 rfl ⟨fun _ => bad (fun z => z.2.1 he), fun q3 => absurd q3 (by decide)⟩) (fun he => rp_128_44 rfl ⟨fun q3 => absurd rfl q3, fun _ => ?_⟩)⟩
        rw [show ((10 : Int) * (f : Int) + (w : Int)).toNat = 10 * f + w by omega, rr.2.2, Int.toNat_natCast, sy.1, Int.toNat_natCast, hk3.1]
        refine ⟨by unfold hm_in; omega, by unfold hm_in; omega, by omega, by omega, by omega, fun q3 => ⟨by unfold hm_in; omega, ih (k + 1) _ (by omega) (by omega) (fun j hj2 h2 => ?_)⟩, fun q3 => bad (fun z => z.2.2 (by omega))⟩
        by_cases y : j = k
        · subst y
          rw [hw2, Int.toNat_natCast]
          exact ⟨p, hat, by omega, he, by omega⟩
        · exact hj j (by omega) h2
      · by_cases y : j = k
        · rw [y] at h2; omega
        · exact hj j (by omega) h2
  exact g_enter hk_128 hn_128 (rp_128_0 rfl (loop L 0 0 (by omega) rfl (fun j hj => by omega)))
theorem m_133 (hD : 3 ≤ D) (hf : f < 200) (hF : mF M f F) (hw : pf_wf F) (hP : mP M L ls wi rk) (hV : VW F.2.length L wi rk)
    (h1 : ∀ M' wi' rk', chy M M' → mP M' L ls wi' rk' → VW F.2.length L wi' rk' → cdp (1 + F.2.length * L) (dg L wi' rk') L 0 = cdp (1 + F.2.length * L) (dg L wi rk) L 0 + 1 → Q [.inl 1] M')
    (h0 : cdp (1 + F.2.length * L) (dg L wi rk) L 0 + 1 = (1 + F.2.length * L) ^ L → ∀ M', chy M M' → Q [.inl 0] M') : g_Ev D 133 [.inr (0, 286), .inl (f : Int)] M Q := by
  obtain ⟨D, rfl⟩ := g_dep hD
  have hL8 := hP.2.1
  have l2 := hw.2.1
  generalize hBd : 1 + F.2.length * L = B at h1 h0
  have loop : ∀ (n k : Nat) (x : Int) (wi' rk' : Nat → Int) (M1 : g_M), k + n = L → x = (k : Int) → chy M M1 → mP M1 L ls wi' rk' → VW F.2.length L wi' rk' → (∀ j, j < k → dg L wi' rk' j = 0) → cdp B (dg L wi rk) L 0 + 1 = B ^ k * (cdp B (dg L wi' rk') (L - k) k + 1) → g_R (D + 3) 133 Q 2 [.inr (0, 286), .inl (f : Int), .inl x] [] M1 := by
    intro n
    induction n with
    | zero =>
      intro k x wi' rk' M1 hk hx hc hP1 hV1 hlow hcd
      subst hx
      obtain rfl : k = L := by omega
      refine rp_133_2 rfl ?_
      rw [hP1.1]
      refine ⟨fun _ => h0 ?_ M1 hc, fun q => by exfalso; omega⟩
      rw [hcd, Nat.sub_self]
      show B ^ k * (0 + 1) = B ^ k
      rw [Nat.zero_add, Nat.mul_one]
    | succ n ih =>
      intro k x wi' rk' M1 hk hx hc hP1 hV1 hlow hcd
      subst hx
      have hF1 := hF.kx hc.chx
      have hk3 := hP1.2.2 k (by omega)
      have hv := hV1 k (by omega)
      have hLk : L - k = (L - k - 1) + 1 := by omega
      have ret : ∀ (v r : Int) (M2 : g_M), chy M M2 → mP M2 L ls (va_up wi' k v) (va_up rk' k r) → 0 ≤ v → v < (F.2.length : Int) → 0 ≤ r → r < (L : Int) → 1 + v.toNat * L + r.toNat = dg L wi' rk' k + 1 → Q [.inl 1] M2 := fun v r M2 c2 p2 v1 v2 r1 r2 hd => by
        refine h1 M2 _ _ c2 p2 (fun j hj => ?_) ?_
        · rw [va_up_at, va_up_at]
          by_cases z : j = k
          · rw [if_pos z, if_pos z]; omega
          · rw [if_neg z, if_neg z]; exact hV1 j hj
        · have dk : dg L (va_up wi' k v) (va_up rk' k r) k = dg L wi' rk' k + 1 := by
            unfold dg at hd ⊢
            rw [va_up_at, va_up_at, if_pos rfl, if_pos rfl, if_neg (by omega)]
            exact hd
          have dj : ∀ j, j ≠ k → dg L (va_up wi' k v) (va_up rk' k r) j = dg L wi' rk' j := fun j hj => by
            unfold dg
            rw [va_up_at, va_up_at, if_neg hj, if_neg hj]
          have e1 : cdp B (dg L (va_up wi' k v) (va_up rk' k r)) L 0 = B ^ k * cdp B (dg L (va_up wi' k v) (va_up rk' k r)) (L - k) k := by
            have := @cdp_low B (dg L (va_up wi' k v) (va_up rk' k r)) k (L - k) 0 (fun i _ h2 => by rw [dj i (by omega)]; exact hlow i (by omega))
            rw [show k + (L - k) = L by omega, Nat.zero_add] at this
            exact this
          rw [e1, hcd, hLk, cdp_s, cdp_s, dk, cdp_cg (d := dg L (va_up wi' k v) (va_up rk' k r)) (d' := dg L wi' rk') (fun i h1 _ => dj i (by omega))]
          congr 1
          omega
      have carry : ∀ (M2 : g_M), chy M M2 → mP M2 L ls (va_up wi' k (-1)) (va_up rk' k 0) → dg L wi' rk' k + 1 = B → g_R (D + 3) 133 Q 2 [.inr (0, 286), .inl (f : Int), .inl ((k : Int) + 1)] [] M2 := fun M2 c2 p2 hd => by
        have dj : ∀ j, j ≠ k → dg L (va_up wi' k (-1)) (va_up rk' k 0) j = dg L wi' rk' j := fun j hj => by
          unfold dg
          rw [va_up_at, va_up_at, if_neg hj, if_neg hj]
        refine ih (k + 1) _ _ _ M2 (by omega) (by omega) c2 p2 (fun j hj => ?_) (fun j hj => ?_) ?_
        · rw [va_up_at, va_up_at]
          by_cases z : j = k
          · rw [if_pos z, if_pos z]; omega
          · rw [if_neg z, if_neg z]; exact hV1 j hj
        · by_cases z : j = k
          · subst z
            unfold dg
            rw [va_up_at, if_pos rfl, if_pos (by decide)]
          · rw [dj j z]; exact hlow j (by omega)
        · rw [hcd, hLk, cdp_s, cdp_cg (d := dg L (va_up wi' k (-1)) (va_up rk' k 0)) (d' := dg L wi' rk') (fun i h1 _ => dj i (by omega)), show L - (k + 1) = L - k - 1 by omega, Nat.pow_succ, Nat.mul_assoc, Nat.mul_add B, Nat.mul_one]
          congr 1
          omega
      have memP : ∀ (v r : Int) (M2 : g_M), M2.1 0 286 = M1.1 0 286 → M2.1 0 301 = M1.1 0 301 → (∀ j, M2.1 0 302 j = if j = k then v else M1.1 0 302 j) → (∀ j, M2.1 0 303 j = if j = k then r else M1.1 0 303 j) → mP M2 L ls (va_up wi' k v) (va_up rk' k r) := fun v r M2 e1 e2 e3 e4 => by
        refine ⟨by rw [e1]; exact hP1.1, hL8, fun j hj => ?_⟩
        have := hP1.2.2 j hj
        rw [e2, e3, e4, va_up_at, va_up_at]
        refine ⟨this.1, ?_, ?_⟩
        · split
          · rfl
          · exact this.2.1
        · split
          · rfl
          · exact this.2.2
      have up : ((hm_in (wi' k + (1 : Int))) ∧ (((0 : Int) ≤ (f : Int) ∧ (f : Int) < ((200 : Nat) : Int)) ∧ ((M1.1 0 291 f ≤ (g_uA (g_uA M1 (0, 303) k (0 : Int)) (0, 302) k (wi' k + (1 : Int))).1 0 302 k → ((hm_in ((k : Int) + (1 : Int))) ∧ (g_R (D + 3) 133 Q 2 [.inr (0, 286), .inl (f : Int), .inl ((k : Int) + (1 : Int))] [] (g_uA (g_uA (g_uA M1 (0, 303) k (0 : Int)) (0, 302) k (wi' k + (1 : Int))) (0, 302) k (-1 : Int))))) ∧ ((g_uA (g_uA M1 (0, 303) k (0 : Int)) (0, 302) k (wi' k + (1 : Int))).1 0 302 k < M1.1 0 291 f → (Q [.inl (1 : Int)] (g_uA (g_uA M1 (0, 303) k (0 : Int)) (0, 302) k (wi' k + (1 : Int)))))))) ∨ ¬ (wi' k < 0 ∨ rk' k = (L : Int) - 1) := by
        by_cases hz : wi' k < 0 ∨ rk' k = (L : Int) - 1
        · refine Or.inl ?_
          rw [hF1.2.1, g_uA_at, if_pos ⟨rfl, rfl, rfl⟩]
          have hd : dg L wi' rk' k + 1 = 1 + (wi' k + 1).toNat * L := by
            unfold dg
            rcases hz with z | z
            · rw [if_pos z, show wi' k + 1 = 0 by omega]; simp
            · by_cases y : wi' k < 0
              · rw [if_pos y, show wi' k + 1 = 0 by omega]; simp
              · rw [if_neg y, show (wi' k + 1).toNat = (wi' k).toNat + 1 by omega, Nat.add_mul]
                omega
          refine ⟨by unfold hm_in; omega, by omega, fun q => ⟨by unfold hm_in; omega, carry _ (((hc.tr (chy.row (by omega))).tr (chy.row (by omega))).tr (chy.row (by omega))) (memP _ _ _ ?_ ?_ (fun j => ?_) (fun j => ?_)) ?_⟩, fun q => ret (wi' k + 1) 0 _ ((hc.tr (chy.row (by omega))).tr (chy.row (by omega))) (memP _ _ _ ?_ ?_ (fun j => ?_) (fun j => ?_)) (by omega) (by omega) (by omega) (by omega) (by rw [hd]; rfl)⟩
          · funext a; rw [g_uA_at, if_neg (by omega), g_uA_at, if_neg (by omega), g_uA_at, if_neg (by omega)]
          · funext a; rw [g_uA_at, if_neg (by omega), g_uA_at, if_neg (by omega), g_uA_at, if_neg (by omega)]
          · rw [g_uA_at, g_uA_at, g_uA_at, if_neg (fun (y : 0 = 0 ∧ 302 = 303 ∧ j = k) => absurd y.2.1 (by decide))]
            by_cases z : j = k
            · rw [if_pos ⟨rfl, rfl, z⟩, if_pos z]
            · rw [if_neg (fun y => z y.2.2), if_neg (fun y => z y.2.2), if_neg z]
          · rw [g_uA_at, if_neg (fun (y : 0 = 0 ∧ 303 = 302 ∧ j = k) => absurd y.2.1 (by decide)), g_uA_at, if_neg (fun (y : 0 = 0 ∧ 303 = 302 ∧ j = k) => absurd y.2.1 (by decide)), g_uA_at]
            by_cases z : j = k
            · rw [if_pos ⟨rfl, rfl, z⟩, if_pos z]
            · rw [if_neg (fun y => z y.2.2), if_neg z]
          · rw [hd, ← hBd, show (wi' k + 1).toNat = F.2.length by omega]
          · funext a; rw [g_uA_at, if_neg (by omega), g_uA_at, if_neg (by omega)]
          · funext a; rw [g_uA_at, if_neg (by omega), g_uA_at, if_neg (by omega)]
          · rw [g_uA_at, g_uA_at, if_neg (fun (y : 0 = 0 ∧ 302 = 303 ∧ j = k) => absurd y.2.1 (by decide))]
            by_cases z : j = k
            · rw [if_pos ⟨rfl, rfl, z⟩, if_pos z]
            · rw [if_neg (fun y => z y.2.2), if_neg z]
          · rw [g_uA_at, if_neg (fun (y : 0 = 0 ∧ 303 = 302 ∧ j = k) => absurd y.2.1 (by decide)), g_uA_at]
            by_cases z : j = k
            · rw [if_pos ⟨rfl, rfl, z⟩, if_pos z]
            · rw [if_neg (fun y => z y.2.2), if_neg z]
        · exact Or.inr hz
      refine rp_133_2 rfl ?_
      rw [hP1.1, Int.toNat_natCast, hk3.2.1, hk3.2.2, Int.toNat_natCast]
      refine ⟨fun q => by exfalso; omega, fun _ => ⟨by omega, fun q => ?_, fun q => ⟨by unfold hm_in; omega, fun q2 => ?_, fun q2 => ⟨by unfold hm_in; omega, ret (wi' k) (rk' k + 1) _ (hc.tr (chy.row (by omega))) (memP _ _ _ ?_ ?_ (fun j => ?_) (fun j => ?_)) q hv.2.1 (by omega) (by omega) ?_⟩⟩⟩⟩
      · exact up.elim id (fun z => absurd (Or.inl q) z)
      · exact up.elim id (fun z => absurd (Or.inr (by omega)) z)
      · funext a; rw [g_uA_at, if_neg (by omega)]
      · funext a; rw [g_uA_at, if_neg (by omega)]
      · rw [g_uA_at, if_neg (by omega)]
        by_cases z : j = k
        · rw [z, if_pos rfl]; exact hk3.2.1
        · rw [if_neg z]
      · rw [g_uA_at]
        by_cases z : j = k
        · rw [if_pos ⟨rfl, rfl, z⟩, if_pos z]
        · rw [if_neg (fun y => z y.2.2), if_neg z]
      · unfold dg
        rw [if_neg (by omega)]
        omega
  refine g_enter hk_133 hn_133 (rp_133_0 rfl (loop L 0 0 wi rk M (by omega) rfl chy.rf hP hV (fun j hj => by omega) ?_))
  rw [Nat.pow_zero, Nat.one_mul, Nat.sub_zero]
end RB

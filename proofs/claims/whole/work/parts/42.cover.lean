/-! says: what the class asks of each way -/
def crr (gt : Nat → Nat) (lg : Nat → Bool) (to : Nat) (mb : Bool) : Nat → Nat → Nat → Option Nat
  | 0, a, now => if a = to then some now else none
  | n + 1, a, now => if a = to then some now else if now.testBit a = false then none else if mb = true ∧ lg a = true ∧ gt a ≠ to then none else crr gt lg to mb n (gt a) (pb_d now (2 ^ a))
theorem crr_0 {gt : Nat → Nat} {lg : Nat → Bool} {to : Nat} {mb : Bool} {a now : Nat} : crr gt lg to mb 0 a now = if a = to then some now else none := rfl
theorem crr_s {gt : Nat → Nat} {lg : Nat → Bool} {to : Nat} {mb : Bool} {n a now : Nat} : crr gt lg to mb (n + 1) a now = if a = to then some now else if now.testBit a = false then none else if mb = true ∧ lg a = true ∧ gt a ≠ to then none else crr gt lg to mb n (gt a) (pb_d now (2 ^ a)) := rfl
def ccl (gt : Nat → Nat) (lg : Nat → Bool) (a to left : Nat) : Option Nat := if left.testBit a = true ∧ lg a = false ∧ gt a = to then some (pb_d left (2 ^ a)) else none
/-- a set without its member -/
theorem sb_d {n m : Nat} : sb (pb_d n m) n := fun i hi => by rw [pb_d_bit] at hi; simp at hi; exact hi.1
def cv1 (gt : Nat → Nat) (lg : Nat → Bool) (b : Nat) (s : Nat → Nat) (p : pf_T) (left : Nat) : Option Nat :=
  if p.1 = 0 then ccl gt lg (s p.2.1) (s p.2.2) left else crr gt lg (s p.2.2) (decide (s p.2.2 ≠ 0) && !b.testBit (s p.2.2)) 8 (s p.2.1) left
def cvl (gt : Nat → Nat) (lg : Nat → Bool) (b : Nat) (s : Nat → Nat) (l : List pf_T) (o : Option Nat) : Option Nat := l.foldl (fun o p => o.bind (cv1 gt lg b s p)) o
theorem cvl_none {gt : Nat → Nat} {lg : Nat → Bool} {b : Nat} {s : Nat → Nat} {l : List pf_T} : cvl gt lg b s l none = none := by
  unfold cvl
  induction l with
  | nil => rfl
  | cons p l ih => exact ih
theorem cvl_cons {gt : Nat → Nat} {lg : Nat → Bool} {b : Nat} {s : Nat → Nat} {p : pf_T} {l : List pf_T} {t : Nat} : cvl gt lg b s (p :: l) (some t) = cvl gt lg b s l (cv1 gt lg b s p t) := rfl
/-- the way is covered by G -/
def CV (gt : Nat → Nat) (lg : Nat → Bool) (b : Nat) (s : Nat → Nat) (G : pf_F) : Prop := PH s G ∧ cvl gt lg b s G.2 (some b) = some 0
theorem crr_sb {gt : Nat → Nat} {lg : Nat → Bool} {to : Nat} {mb : Bool} : ∀ {n a now u : Nat}, crr gt lg to mb n a now = some u → sb u now := by
  intro n
  induction n with
  | zero =>
    intro a now u h
    rw [crr_0] at h
    split at h
    · cases h; exact fun _ h => h
    · cases h
  | succ n ih =>
    intro a now u h
    rw [crr_s] at h
    split at h
    · cases h; exact fun _ h => h
    split at h
    · cases h
    split at h
    · cases h
    exact fun i hi => sb_d i (ih h i hi)
theorem cv1_sb {gt : Nat → Nat} {lg : Nat → Bool} {b : Nat} {s : Nat → Nat} {p : pf_T} {left u : Nat} (h : cv1 gt lg b s p left = some u) : sb u left := by
  unfold cv1 at h
  split at h
  · unfold ccl at h
    split at h
    · cases h; exact sb_d
    · cases h
  · exact crr_sb h
theorem sb_lt8 {n m : Nat} (h : sb n m) (hm : m < 256) : n < 256 := by
  rcases Nat.lt_or_ge n 256 with z | z
  · exact z
  · obtain ⟨i, h1, h2⟩ := Nat.exists_ge_and_testBit_of_ge_two_pow (n := 8) z
    have := h i h2
    rw [Nat.testBit_lt_two_pow (Nat.lt_of_lt_of_le hm (Nat.pow_le_pow_right (n := 2) (by omega) h1))] at this
    cases this
section SH
variable {D : Nat} {M : g_M} {i b lo : Nat} {gt : Nat → Nat} {lg : Nat → Bool} {Q : g_P}
def hgt (M : g_M) (i b lo : Nat) (gt : Nat → Nat) (lg : Nat → Bool) : Prop := b < 256 ∧ lo < 256 ∧ M.1 12 i 3 = (lo : Int) ∧ ∀ c, b.testBit c = true → M.1 14 i c = (gt c : Int) ∧ gt c < 8 ∧ lo.testBit c = lg c
theorem c_58 (hD : 3 ≤ D) (hg : hgt M i b lo gt lg) {x y left : Nat} (hx : x < 8) (hy : y < 8) (hl : sb left b) (h : Q [.inl (en (ccl gt lg x y left))] M) : g_Ev D 58 [.inr (12, i), .inl (x : Int), .inl (y : Int), .inl (left : Int)] M Q := by
  obtain ⟨D, rfl⟩ := g_dep hD
  have hb := hg.1
  have hll := sb_lt8 hl hb
  have hpw : (2 : Nat) ^ x < 2 ^ 8 := pb_pow8 hx
  have hd : pb_d left lo < 2 ^ 8 := pb_d_lt (k := 8) hll
  refine g_enter hk_58 hn_58 (rp_58_0 rfl ?_)
  rw [hg.2.2.1, pb_dif (by omega) (by have := hg.2.1; omega), pb_shl (by omega), pb_dif (by omega) (by omega), pb_g, pb_d_bit, Int.toNat_natCast]
  have hn : ¬ (left.testBit x = true ∧ lg x = false ∧ gt x = y) → Q [.inl (-1)] M := fun z => by
    unfold ccl at h
    rw [if_neg z] at h
    exact h
  refine ⟨⟨by omega, by omega⟩, fun q => ⟨by omega, ?_⟩, fun q => hn (fun z => q ?_)⟩
  · rw [Bool.and_eq_true] at q
    have hgx := hg.2.2.2 x (hl x q.1)
    have hlx : lg x = false := by rw [← hgx.2.2]; simpa using q.2
    rw [hgx.1]
    refine ⟨fun q2 => hn (fun z => q2 (by rw [z.2.2])), fun q2 => ?_⟩
    unfold ccl at h
    rw [if_pos ⟨q.1, hlx, by omega⟩] at h
    exact h
  · have hgx := hg.2.2.2 x (hl x z.1)
    rw [z.1, hgx.2.2, z.2.1]
    rfl
theorem c_59 (hD : 3 ≤ D) (hg : hgt M i b lo gt lg) {x y left : Nat} (hx : x < 8) (hy : y < 8) (hl : sb left b) (h : Q [.inl (en (crr gt lg y (decide (y ≠ 0) && !b.testBit y) 8 x left))] M) : g_Ev D 59 [.inr (12, i), .inl (x : Int), .inl (y : Int), .inl (left : Int), .inl (b : Int)] M Q := by
  obtain ⟨D, rfl⟩ := g_dep hD
  have hb := hg.1
  have hlo := hg.2.1
  have loop : ∀ (mb : Bool) (z : Int), (mb = true ∧ z = 1 ∨ mb = false ∧ z = 0) → ∀ (n a now : Nat) (k : Int), k = 8 - (n : Int) → n ≤ 8 → a < 8 → sb now b → Q [.inl (en (crr gt lg y mb n a now))] M → g_R (D + 3) 59 Q 29 [.inr (12, i), .inl (x : Int), .inl (y : Int), .inl (left : Int), .inl (b : Int), .inl z, .inl (now : Int), .inl (a : Int), .inl k] [] M := by
    intro mb z hz n
    induction n with
    | zero =>
      intro a now k hk hn ha hs hQ
      rw [crr_0] at hQ
      refine rp_59_29 rfl ⟨fun _ => ⟨fun q => ?_, fun q => ?_⟩, fun q => by exfalso; omega⟩
      · rw [if_neg (by omega)] at hQ; exact hQ
      · rw [if_pos (by omega)] at hQ; exact hQ
    | succ n ih =>
      intro a now k hk hn ha hs hQ
      rw [crr_s] at hQ
      have hnl := sb_lt8 hs hb
      have hpw : (2 : Nat) ^ a < 2 ^ 8 := pb_pow8 ha
      refine rp_59_29 rfl ⟨fun q => by exfalso; omega, fun _ => ⟨fun q => ?_, fun q => ?_⟩⟩
      · rw [if_pos (by omega)] at hQ; exact hQ
      · rw [if_neg (by omega)] at hQ
        rw [pb_shl (by omega), pb_dif (by omega) (by omega), Int.toNat_natCast, hg.2.2.1, pb_g, pb_g]
        refine ⟨⟨by omega, by omega⟩, fun q2 => ?_, fun q2 => ?_⟩
        · rw [if_neg (by rw [q2]; simp)] at hQ
          have ga := hg.2.2.2 a (hs a q2)
          rw [ga.1]
          have go : ¬ (mb = true ∧ lg a = true ∧ gt a ≠ y) → hm_in (k + 1) ∧ g_R (D + 3) 59 Q 29 [.inr (12, i), .inl (x : Int), .inl (y : Int), .inl (left : Int), .inl (b : Int), .inl z, .inl ((pb_d now (2 ^ a) : Nat) : Int), .inl (gt a : Int), .inl (k + 1)] [] M := fun w => by
            rw [if_neg w] at hQ
            exact ⟨by unfold hm_in; omega, ih (gt a) (pb_d now (2 ^ a)) _ (by omega) (by omega) ga.2.1 (fun i hi => hs i (sb_d i hi)) hQ⟩
          refine ⟨fun q3 => ⟨by omega, go (fun w => ?_)⟩, fun q3 => ⟨⟨by omega, by omega⟩, fun q4 => ⟨by omega, fun q5 => go (fun w => w.2.2 (by omega)), fun q5 => ?_⟩, fun q4 => ⟨by omega, go (fun w => q4 (by rw [ga.2.2]; exact w.2.1))⟩⟩⟩
          · rcases hz with ⟨_, hz⟩ | ⟨hz, _⟩
            · omega
            · rw [hz] at w; exact absurd w.1 (by decide)
          · rw [if_pos ⟨by rcases hz with ⟨hz, _⟩ | ⟨_, hz⟩; exact hz; exact absurd hz q3, by rw [← ga.2.2]; exact q4, by omega⟩] at hQ
            exact hQ
        · rw [if_pos (by simpa using q2)] at hQ
          exact hQ
  refine g_enter hk_59 hn_59 (rp_59_0 rfl ⟨fun q => ?_, fun q => ⟨⟨by omega, by omega⟩, fun q2 => ?_, fun q2 => ?_⟩⟩)
  · have : y = 0 := by omega
    subst this
    exact loop false 0 (Or.inr ⟨rfl, rfl⟩) 8 x left 0 (by omega) (by omega) hx hl h
  · rw [pb_g] at q2
    rw [q2] at h
    exact loop false 0 (Or.inr ⟨rfl, rfl⟩) 8 x left 0 (by omega) (by omega) hx hl (by rw [Bool.not_true, Bool.and_false] at h; exact h)
  · rw [pb_g] at q2
    have q3 : b.testBit y = false := by simpa using q2
    have q4 : decide (y ≠ 0) = true := by rw [decide_eq_true_eq]; omega
    rw [q3, q4] at h
    exact loop true 1 (Or.inl ⟨rfl, rfl⟩) 8 x left 0 (by omega) (by omega) hx hl h
theorem pf_c_pq {p : pf_T} : pf_c (pq p) = 128 + pf_c p := by
  unfold pf_c pq
  show 64 * ((2 + p.1 : Nat) : Int) + 8 * (p.2.1 : Int) + (p.2.2 : Int) = 128 + (64 * (p.1 : Int) + 8 * (p.2.1 : Int) + (p.2.2 : Int))
  omega
theorem pq_ok {p : pf_T} (h : pf_ok p) : it_ok (pq p) := by
  unfold pf_ok at h
  unfold it_ok pq
  exact ⟨by show 2 + p.1 < 4; omega, h.2.1, h.2.2⟩
theorem pf_itok {p : pf_T} (h : pf_ok p) : it_ok p := by
  unfold pf_ok at h
  unfold it_ok
  exact ⟨by omega, h.2.1, h.2.2⟩
theorem c_57 (hD : 5 ≤ D) (hg : hgt M i b lo gt lg) {g : Nat} {G : pf_F} {s : Nat → Nat} (hM2 : M.2 i = some g) (hG : cF M g G) (hw : pf_wf G) (hs : ∀ t, pf_in t G → M.1 13 i t = (s t : Int) ∧ s t < 8) (h1 : CV gt lg b s G → Q [.inl 1] M) (h0 : ¬ CV gt lg b s G → Q [.inl 0] M) : g_Ev D 57 [.inr (12, i), .inl (b : Int)] M Q := by
  obtain ⟨D, rfl⟩ := g_dep hD
  have hb := hg.1
  have l1 := hw.1
  have l2 := hw.2.1
  have nn' : M.2 i = none → False := fun z => by rw [hM2] at z; cases z
  have loop2 : PH s G → ∀ (n j : Nat) (x : Int) (o : Option Nat), j + n = G.2.length → x = (j : Int) → (∀ u, o = some u → sb u b) → cvl gt lg b s G.2 (some b) = cvl gt lg b s (G.2.drop j) o → g_R (D + 5) 57 Q 76 [.inr (12, i), .inl (b : Int), .inl (en o), .inl x] [] M := by
    intro hP n
    have fin : ∀ o : Option Nat, cvl gt lg b s G.2 (some b) = o → (¬ en o = (0 : Int) → (Q [.inl (0 : Int)] M)) ∧ (en o = (0 : Int) → (Q [.inl (1 : Int)] M)) := fun o ho => by
      refine ⟨fun q => h0 (fun z => q ?_), fun q => h1 ⟨hP, ?_⟩⟩
      · rw [z.2] at ho
        rw [← ho]
        rfl
      · rw [ho]
        cases o with
        | none => exact absurd q (by decide)
        | some u =>
          have e : (u : Int) = 0 := q
          rw [show u = 0 by omega]
    induction n with
    | zero =>
      intro j x o hj hx ho hE
      subst hx
      rw [List.drop_eq_nil_of_le (by omega)] at hE
      refine rp_57_76 rfl ⟨nn', fun g' hg' => ?_⟩
      obtain rfl : g = g' := by rw [hM2] at hg'; cases hg'; rfl
      rw [hG.2.1]
      exact ⟨fun _ => fin o hE, fun q => by exfalso; omega⟩
    | succ n ih =>
      intro j x o hj hx ho hE
      subst hx
      have hlt : j < G.2.length := by omega
      have hat := List.getElem?_eq_getElem hlt
      have hmem := List.getElem_mem hlt
      have ok := hw.2.2.2 _ hmem
      have r := it_rg (pq_ok ok)
      have hin := pf_in2 hmem
      have hcode := hG.2.2.2 j _ hat
      rw [← pf_c_pq] at hcode
      rw [List.drop_eq_getElem_cons hlt] at hE
      generalize hp : G.2[j] = p at hE r ok hin hcode
      have sx := hs _ hin.1
      have sy := hs _ hin.2
      have o1 := ok.1
      have o2 := ok.2.1
      have o3 := ok.2.2
      refine rp_57_76 rfl ⟨nn', fun g' hg' => ?_⟩
      obtain rfl : g = g' := by rw [hM2] at hg'; cases hg'; rfl
      rw [hG.2.1]
      refine ⟨fun q => by exfalso; omega, fun _ => ⟨fun q => fin o ?_, fun q => ⟨nn', fun g' hg' => ?_⟩⟩⟩
      · rw [en_none q, cvl_none] at hE
        rw [en_none q]
        exact hE
      · obtain rfl : g = g' := by rw [hM2] at hg'; cases hg'; rfl
        cases o with
        | none => exact absurd rfl q
        | some u =>
          have hu := ho u rfl
          have hul := sb_lt8 hu hb
          rw [cvl_cons] at hE
          rw [Int.toNat_natCast, hcode, r.2.2.1, r.2.2.2.1, r.2.2.2.2]
          show _ ∧ _ ∧ (0 ≤ (p.2.1 : Int) ∧ (p.2.1 : Int) < ((8 : Nat) : Int)) ∧ (0 ≤ (p.2.2 : Int) ∧ (p.2.2 : Int) < ((8 : Nat) : Int)) ∧ (¬ ((2 + p.1 : Nat) : Int) = 2 → g_Ev (D + 4) 59 [.inr (12, i), .inl (M.1 13 i (p.2.1 : Int).toNat), .inl (M.1 13 i (p.2.2 : Int).toNat), .inl (u : Int), .inl (b : Int)] M (fun q M' => g_R (D + 5) 57 Q 158 [.inr (12, i), .inl (b : Int), .inl (u : Int), .inl (j : Int), .inl (pf_c (pq p)), .inl (M.1 13 i (p.2.1 : Int).toNat), .inl (M.1 13 i (p.2.2 : Int).toNat)] (q ++ []) M')) ∧ (((2 + p.1 : Nat) : Int) = 2 → g_Ev (D + 4) 58 [.inr (12, i), .inl (M.1 13 i (p.2.1 : Int).toNat), .inl (M.1 13 i (p.2.2 : Int).toNat), .inl (u : Int)] M (fun q M' => g_R (D + 5) 57 Q 145 [.inr (12, i), .inl (b : Int), .inl (u : Int), .inl (j : Int), .inl (pf_c (pq p)), .inl (M.1 13 i (p.2.1 : Int).toNat), .inl (M.1 13 i (p.2.2 : Int).toNat)] (q ++ []) M'))
          rw [Int.toNat_natCast, Int.toNat_natCast, sx.1, sy.1]
          have nxt : ∀ v, cv1 gt lg b s p u = v → g_R (D + 5) 57 Q 158 [.inr (12, i), .inl (b : Int), .inl (u : Int), .inl (j : Int), .inl (pf_c (pq p)), .inl (s p.2.1 : Int), .inl (s p.2.2 : Int)] [.inl (en v)] M := fun v hv => rp_57_158 rfl ⟨by unfold hm_in; omega, ih (j + 1) _ v (by omega) (by omega) (fun w hw2 => fun k hk => hu k (cv1_sb (hv.trans hw2) k hk)) (by rw [hE, hv])⟩
          refine ⟨by omega, by have := r.1; have := r.2.1; omega, by omega, by omega, fun q2 => ?_, fun q2 => ?_⟩
          · refine c_59 (by omega) hg sx.2 sy.2 hu (nxt _ ?_)
            unfold cv1
            rw [if_neg (by omega)]
          · refine c_58 (by omega) hg sx.2 sy.2 hu (rp_57_145 rfl (nxt _ ?_))
            unfold cv1
            rw [if_pos (by omega)]
  have loop1 : ∀ (n j : Nat) (x : Int), j + n = G.1.length → x = (j : Int) → (∀ (k : Nat) (p : pf_T), k < j → G.1[k]? = some p → (s p.2.1 = s p.2.2 ↔ p.1 = 0)) → g_R (D + 5) 57 Q 2 [.inr (12, i), .inl (b : Int), .inl x] [] M := by
    intro n
    induction n with
    | zero =>
      intro j x hj hx hk
      subst hx
      refine rp_57_2 rfl ⟨nn', fun g' hg' => ?_⟩
      obtain rfl : g = g' := by rw [hM2] at hg'; cases hg'; rfl
      rw [hG.1]
      refine ⟨fun _ => loop2 (fun p hp => ?_) G.2.length 0 0 (some b) (by omega) rfl (fun u hu => by cases hu; exact fun _ h => h) (by rw [List.drop_zero]), fun q => by exfalso; omega⟩
      obtain ⟨k, k1, k2⟩ := List.mem_iff_getElem.mp hp
      exact hk k p (by omega) (by rw [List.getElem?_eq_getElem k1, k2])
    | succ n ih =>
      intro j x hj hx hk
      subst hx
      have hlt : j < G.1.length := by omega
      have hat := List.getElem?_eq_getElem hlt
      have hmem := List.getElem_mem hlt
      have ok := hw.2.2.1 _ hmem
      have r := it_rg (pf_itok ok)
      have hin := pf_in1 hmem
      have hcode := hG.2.2.1 j _ hat
      generalize hp : G.1[j] = p at r ok hin hcode hat hmem
      have sx := hs _ hin.1
      have sy := hs _ hin.2
      have o1 := ok.1
      have o2 := ok.2.1
      have o3 := ok.2.2
      have next : (s p.2.1 = s p.2.2 ↔ p.1 = 0) → g_R (D + 5) 57 Q 2 [.inr (12, i), .inl (b : Int), .inl ((j : Int) + 1)] [] M := fun hz => ih (j + 1) _ (by omega) (by omega) (fun k q hk2 hq => by
        rcases Nat.lt_or_ge k j with y | y
        · exact hk k q y hq
        · obtain rfl : k = j := by omega
          rw [hat] at hq
          cases hq
          exact hz)
      have no : ¬ (s p.2.1 = s p.2.2 ↔ p.1 = 0) → Q [.inl 0] M := fun hz => h0 (fun hc => hz (hc.1 p hmem))
      refine rp_57_2 rfl ⟨nn', fun g' hg' => ?_⟩
      obtain rfl : g = g' := by rw [hM2] at hg'; cases hg'; rfl
      rw [hG.1]
      refine ⟨fun q => by exfalso; omega, fun _ => ⟨nn', fun g' hg' => ?_⟩⟩
      obtain rfl : g = g' := by rw [hM2] at hg'; cases hg'; rfl
      rw [Int.toNat_natCast, hcode, r.2.2.1, r.2.2.2.1, r.2.2.2.2, Int.toNat_natCast, Int.toNat_natCast, sx.1, sy.1]
      exact ⟨by omega, by have := r.1; have := r.2.1; omega, fun q => ⟨by omega, by omega, fun q2 => ⟨by unfold hm_in; omega, next (by omega)⟩, fun q2 => no (by omega)⟩, fun q => ⟨by omega, by omega, fun q2 => no (by omega), fun q2 => ⟨by unfold hm_in; omega, next (by omega)⟩⟩⟩
  exact g_enter hk_57 hn_57 (rp_57_0 rfl (loop1 G.1.length 0 0 (by omega) rfl (fun k p hk => by omega)))
end SH

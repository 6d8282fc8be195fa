/-! says: what the reference asks of each memory that it builds -/
def upb (tk : Nat → Bool) (a : Nat) : Nat → Bool := fun j => if j = a then true else tk j
def ups (tk : Nat → Bool) (l : List Nat) : Nat → Bool := fun j => tk j || decide (j ∈ l)
def nw (N : Nat → Int) (to : Nat) (one : Bool) : Nat → Nat → (Nat → Bool) → Option (Option (Nat → Bool))
  | 0, _, _ => none
  | n + 1, a, tk => if a = 0 ∨ N a < 0 ∨ tk a = true then some none
      else if one = true ∨ N a = (to : Int) then some (if N a = (to : Int) then some (upb tk a) else none)
      else nw N to one n (N a).toNat (upb tk a)
theorem nw_s {N : Nat → Int} {to : Nat} {one : Bool} {n a : Nat} {tk : Nat → Bool} : nw N to one (n + 1) a tk = if a = 0 ∨ N a < 0 ∨ tk a = true then some none else if one = true ∨ N a = (to : Int) then some (if N a = (to : Int) then some (upb tk a) else none) else nw N to one n (N a).toNat (upb tk a) := rfl
def NW (N : Nat → Int) (to : Nat) (one : Bool) (a : Nat) (tk : Nat → Bool) (r : Option (Nat → Bool)) : Prop := ∃ n, nw N to one n a tk = some r
section WK
variable {N : Nat → Int} {to : Nat} {one : Bool} {a : Nat} {tk : Nat → Bool} {r : Option (Nat → Bool)}
theorem NW.stop (h : a = 0 ∨ N a < 0 ∨ tk a = true) : NW N to one a tk none := ⟨1, by rw [nw_s, if_pos h]⟩
theorem NW.done (h0 : a ≠ 0) (h1 : N a = (to : Int)) (h2 : tk a = false) : NW N to one a tk (some (upb tk a)) := ⟨1, by
  rw [nw_s, if_neg (by rw [h1, h2]; rintro (z | z | z); exact h0 z; omega; cases z), if_pos (Or.inr h1), if_pos h1]⟩
theorem NW.no1 (h1 : N a ≠ (to : Int)) : NW N to true a tk none := by
  by_cases z : a = 0 ∨ N a < 0 ∨ tk a = true
  · exact NW.stop z
  · exact ⟨1, by rw [nw_s, if_neg z, if_pos (Or.inl rfl), if_neg h1]⟩
theorem NW.go (h0 : a ≠ 0) (h1 : 0 ≤ N a) (h2 : tk a = false) (h3 : N a ≠ (to : Int)) (h : NW N to false (N a).toNat (upb tk a) r) : NW N to false a tk r := by
  obtain ⟨n, hn⟩ := h
  exact ⟨n + 1, by rw [nw_s, if_neg (by rw [h2]; rintro (z | z | z); exact h0 z; omega; cases z), if_neg (by rintro (z | z); cases z; exact h3 z)]; exact hn⟩
/-- how many nodes below m are free -/
def cu (tk : Nat → Bool) : Nat → Nat
  | 0 => 0
  | m + 1 => cu tk m + if tk m = true then 0 else 1
theorem cu_s {tk : Nat → Bool} {m : Nat} : cu tk (m + 1) = cu tk m + if tk m = true then 0 else 1 := rfl
theorem cu_eq {tk tk' : Nat → Bool} : ∀ {m : Nat}, (∀ j, j < m → tk j = tk' j) → cu tk m = cu tk' m := by
  intro m
  induction m with
  | zero => intro _; rfl
  | succ m ih => intro h; rw [cu_s, cu_s, ih (fun j hj => h j (by omega)), h m (by omega)]
theorem cu_up {a : Nat} (h : tk a = false) : ∀ {m : Nat}, a < m → cu (upb tk a) m + 1 = cu tk m := by
  intro m
  induction m with
  | zero => intro h; omega
  | succ m ih =>
    intro hm
    rw [cu_s, cu_s]
    by_cases z : m = a
    · subst z
      rw [h, cu_eq (tk := upb tk m) (tk' := tk) (fun j hj => by unfold upb; rw [if_neg (by omega)]), show upb tk m m = true by unfold upb; rw [if_pos rfl]]
      rfl
    · have e : upb tk a m = tk m := by unfold upb; rw [if_neg z]
      rw [e]
      have := ih (by omega)
      omega
theorem NW_tot {K : Nat} (hN : ∀ n, n < K → N n < (K : Int)) : ∀ (m : Nat) (a : Nat) (tk : Nat → Bool), cu tk K = m → a < K → ∃ r, NW N to one a tk r := by
  intro m
  induction m with
  | zero =>
    intro a tk hm ha
    refine ⟨none, NW.stop (Or.inr (Or.inr ?_))⟩
    cases z : tk a with
    | true => rfl
    | false => have := cu_up z ha; omega
  | succ m ih =>
    intro a tk hm ha
    by_cases z : a = 0 ∨ N a < 0 ∨ tk a = true
    · exact ⟨none, NW.stop z⟩
    · have z1 : a ≠ 0 := fun y => z (Or.inl y)
      have z2 : 0 ≤ N a := by rcases Int.lt_or_le (N a) 0 with y | y; exact absurd (Or.inr (Or.inl y)) z; exact y
      have z3 : tk a = false := by
        cases w : tk a with
        | true => exact absurd (Or.inr (Or.inr w)) z
        | false => rfl
      by_cases y : N a = (to : Int)
      · exact ⟨_, NW.done z1 y z3⟩
      · cases one with
        | true => exact ⟨none, NW.no1 y⟩
        | false =>
          have hk := hN a ha
          have hcu := cu_up z3 ha
          obtain ⟨r, hr⟩ := ih (N a).toNat (upb tk a) (by omega) (by omega)
          exact ⟨r, NW.go z1 z2 z3 y hr⟩
end WK
def P1 (N : Nat → Int) (s : Nat → Nat) (p : pf_T) (tk : Nat → Bool) (r : Option (Nat → Bool)) : Prop := if p.1 = 1 ∧ s p.2.1 = s p.2.2 then r = some tk else NW N (s p.2.2) (decide (p.1 = 0)) (s p.2.1) tk r
theorem P1c {N : Nat → Int} {s : Nat → Nat} {p : pf_T} {tk : Nat → Bool} {r : Option (Nat → Bool)} (z : p.1 = 0) : P1 N s p tk r ↔ NW N (s p.2.2) true (s p.2.1) tk r := by
  unfold P1
  rw [if_neg (by omega), show decide (p.1 = 0) = true from decide_eq_true z]
theorem P1e {N : Nat → Int} {s : Nat → Nat} {p : pf_T} {tk : Nat → Bool} (z : p.1 = 1) (y : s p.2.1 = s p.2.2) : P1 N s p tk (some tk) := by
  unfold P1
  rw [if_pos ⟨z, y⟩]
theorem P1r {N : Nat → Int} {s : Nat → Nat} {p : pf_T} {tk : Nat → Bool} {r : Option (Nat → Bool)} (z : ¬ p.1 = 0) (y : ¬ s p.2.1 = s p.2.2) : P1 N s p tk r ↔ NW N (s p.2.2) false (s p.2.1) tk r := by
  unfold P1
  rw [if_neg (fun w => y w.2), show decide (p.1 = 0) = false from decide_eq_false z]
def PL (N : Nat → Int) (s : Nat → Nat) : List pf_T → (Nat → Bool) → Option (Nat → Bool) → Prop
  | [], tk, r => r = some tk
  | p :: l, tk, r => (P1 N s p tk none ∧ r = none) ∨ ∃ tk1, P1 N s p tk (some tk1) ∧ PL N s l tk1 r
/-- whether G fits the memory that was built -/
def SM (N : Nat → Int) (K : Nat) (s : Nat → Nat) (G : pf_F) (r : Bool) : Prop := (¬ PH s G ∧ r = false) ∨ PH s G ∧ ((PL N s G.2 (fun _ => false) none ∧ r = false) ∨ ∃ tk, PL N s G.2 (fun _ => false) (some tk) ∧ (r = true ↔ ∀ c, c < K → 0 ≤ N c → tk c = true))
theorem PL_tot {N : Nat → Int} {s : Nat → Nat} {K : Nat} (hN : ∀ n, n < K → N n < (K : Int)) : ∀ {l : List pf_T} (tk : Nat → Bool), (∀ p ∈ l, s p.2.1 < K) → ∃ r, PL N s l tk r := by
  intro l
  induction l with
  | nil => intro tk _; exact ⟨_, rfl⟩
  | cons p l ih =>
    intro tk h
    have h1 : ∃ r, P1 N s p tk r := by
      unfold P1
      split
      · exact ⟨_, rfl⟩
      · exact NW_tot hN _ _ _ rfl (h p List.mem_cons_self)
    obtain ⟨r, hr⟩ := h1
    cases r with
    | none => exact ⟨none, Or.inl ⟨hr, rfl⟩⟩
    | some tk1 =>
      obtain ⟨r2, hr2⟩ := ih tk1 (fun q hq => h q (List.mem_cons_of_mem _ hq))
      exact ⟨r2, Or.inr ⟨tk1, hr, hr2⟩⟩
theorem SM_tot {N : Nat → Int} {s : Nat → Nat} {K : Nat} {G : pf_F} (hN : ∀ n, n < K → N n < (K : Int)) (h : ∀ p ∈ G.2, s p.2.1 < K) : ∃ r, SM N K s G r := by
  by_cases hP : PH s G
  · obtain ⟨r, hr⟩ := PL_tot hN (fun _ => false) h
    cases r with
    | none => exact ⟨false, Or.inr ⟨hP, Or.inl ⟨hr, rfl⟩⟩⟩
    | some tk =>
      by_cases z : ∀ c, c < K → 0 ≤ N c → tk c = true
      · exact ⟨true, Or.inr ⟨hP, Or.inr ⟨tk, hr, ⟨fun _ => z, fun _ => rfl⟩⟩⟩⟩
      · exact ⟨false, Or.inr ⟨hP, Or.inr ⟨tk, hr, ⟨fun y => (by cases y), fun y => absurd y z⟩⟩⟩⟩
  · exact ⟨false, Or.inl ⟨hP, rfl⟩⟩
/-- from a by the nodes of l to z -/
def lnk (N : Nat → Int) : Nat → List Nat → Nat → Prop
  | a, [], z => N a = (z : Int)
  | a, x :: l, z => N a = (x : Int) ∧ lnk N x l z
theorem wc {N : Nat → Int} {to z : Nat} {r : Option (Nat → Bool)} : ∀ {l : List Nat} {a : Nat} {tk : Nat → Bool}, lnk N a l z → a ≠ 0 → (∀ n ∈ l, n ≠ 0) → tk a = false → (∀ n ∈ l, tk n = false) → a ∉ l → l.Nodup → to ∉ l → (z = to → r = some (ups tk (a :: l))) → (z ≠ to → NW N to false z (ups tk (a :: l)) r) → NW N to false a tk r := by
  intro l
  induction l with
  | nil =>
    intro a tk h1 h2 _ h4 _ _ _ _ h9 h10
    have hN : N a = (z : Int) := h1
    have e : ups tk [a] = upb tk a := by
      funext j
      unfold ups upb
      by_cases y : j = a
      · simp [y]
      · simp [y]
    by_cases y : z = to
    · rw [h9 y, e]
      exact NW.done h2 (by rw [hN, y]) h4
    · rw [e] at h10
      exact NW.go h2 (by omega) h4 (by omega) (by rw [hN, Int.toNat_natCast]; exact h10 y)
  | cons x l ih =>
    intro a tk h1 h2 h3 h4 h5 h6 h7 h8 h9 h10
    obtain ⟨hN, h1⟩ := h1
    have hx : x ≠ to := fun y => h8 (by rw [y]; exact List.mem_cons_self)
    have hnd := List.nodup_cons.mp h7
    have hne : ∀ n ∈ x :: l, n ≠ a := fun n hn y => h6 (by rw [← y]; exact hn)
    have e : ups (upb tk a) (x :: l) = ups tk (a :: x :: l) := by
      funext j
      unfold ups upb
      by_cases y : j = a
      · simp [y]
      · simp [y]
    have up : ∀ n ∈ x :: l, upb tk a n = false := fun n hn => by unfold upb; rw [if_neg (hne n hn)]; exact h5 n hn
    refine NW.go h2 (by omega) h4 (by omega) ?_
    rw [hN, Int.toNat_natCast]
    refine ih h1 (h3 x List.mem_cons_self) (fun n hn => h3 n (List.mem_cons_of_mem _ hn)) (up x List.mem_cons_self) (fun n hn => up n (List.mem_cons_of_mem _ hn)) hnd.1 hnd.2 (fun y => h8 (List.mem_cons_of_mem _ y)) ?_ ?_
    · rw [e]; exact h9
    · rw [e]; exact h10
def GB (N : Nat → Int) (K b : Nat) (gt : Nat → Nat) (lg : Nat → Bool) (ch : Nat → List Nat) : Prop :=
  (∀ c, b.testBit c = true → lnk N c (ch c) (gt c)) ∧
  (∀ n, n < K → (0 ≤ N n ↔ ∃ c, b.testBit c = true ∧ (n = c ∨ n ∈ ch c))) ∧
  (∀ c, b.testBit c = true → (ch c).Nodup) ∧
  (∀ c d n, b.testBit c = true → b.testBit d = true → n ∈ ch c → n ∈ ch d → c = d) ∧
  (∀ c, b.testBit c = true → lg c = false → ch c = []) ∧
  (∀ c n, b.testBit c = true → n ∈ ch c → n ≠ 0 ∧ n ≠ gt c ∧ n < K ∧ b.testBit n = false) ∧
  b.testBit 0 = false ∧ (∀ c, b.testBit c = true → gt c < 8 ∧ c < 8) ∧ 8 ≤ K
def tkR (b : Nat) (ch : Nat → List Nat) (left : Nat) (tk : Nat → Bool) : Prop := ∀ n, tk n = true ↔ ∃ c, b.testBit c = true ∧ left.testBit c = false ∧ (n = c ∨ n ∈ ch c)
theorem pop_dn {now a : Nat} (hn : now < 256) (ha : a < 8) (h : now.testBit a = true) : pop (pb_d now (2 ^ a)) + 1 = pop now := by
  have e : pb_d now (2 ^ a) ||| 2 ^ a = now := by
    apply pb_ext
    intro i
    rw [Nat.testBit_or, pb_d_bit, pb_bit]
    by_cases z : a = i
    · subst z; simp [h]
    · simp [z]
  have h1 : pb_d now (2 ^ a) < 2 ^ 8 := pb_d_lt (k := 8) hn
  have := pop_add (t := pb_d now (2 ^ a)) (a := a) (by omega) (by omega) (by rw [pb_d_bit, pb_bit]; simp)
  rw [e] at this
  omega
theorem pop_none {now a : Nat} (ha : a < 8) (h : pop now = 0) : now.testBit a = false := by
  cases z : now.testBit a with
  | false => rfl
  | true =>
    have h1 := pop_add (t := 0) (a := a) (by omega) (by omega) (Nat.zero_testBit a)
    have h2 : sb (0 ||| 2 ^ a) now := fun i hi => by
      rw [Nat.zero_or, pb_bit] at hi
      have : a = i := of_decide_eq_true hi
      rw [← this]; exact z
    have h3 := pop_le h2
    omega
theorem pop_255 {b : Nat} (h : b < 256) : pop b ≤ 8 := by
  have h1 : sb b 255 := fun i hi => by
    rcases Nat.lt_or_ge i 8 with z | z
    · have := List.all_eq_true.mp (show (List.range 8).all (fun i => Nat.testBit 255 i) = true by decide) i (List.mem_range.mpr z)
      exact this
    · rw [Nat.testBit_lt_two_pow (Nat.lt_of_lt_of_le h (Nat.pow_le_pow_right (n := 2) (by omega) z))] at hi
      cases hi
  exact Nat.le_trans (pop_le h1) (by decide)
theorem crr_to {gt : Nat → Nat} {lg : Nat → Bool} {to : Nat} {mb : Bool} {n now : Nat} : crr gt lg to mb n to now = some now := by
  cases n with
  | zero => rw [crr_0, if_pos rfl]
  | succ n => rw [crr_s, if_pos rfl]
section GBS
variable {N : Nat → Int} {K b : Nat} {gt : Nat → Nat} {lg : Nat → Bool} {ch : Nat → List Nat}
theorem GB.own (h : GB N K b gt lg ch) {c d n : Nat} (hc : b.testBit c = true) (hd : b.testBit d = true) (h1 : n = c ∨ n ∈ ch c) (h2 : n = d ∨ n ∈ ch d) : c = d := by
  rcases h1 with h1 | h1
  · rcases h2 with h2 | h2
    · rw [← h1, h2]
    · have := (h.2.2.2.2.2.1 d n hd h2).2.2.2
      rw [h1, hc] at this
      cases this
  · rcases h2 with h2 | h2
    · have := (h.2.2.2.2.2.1 c n hc h1).2.2.2
      rw [h2, hd] at this
      cases this
    · exact h.2.2.2.1 c d n hc hd h1 h2
theorem GB.free (h : GB N K b gt lg ch) {left c n : Nat} {tk : Nat → Bool} (hR : tkR b ch left tk) (hc : b.testBit c = true) (hl : left.testBit c = true) (h1 : n = c ∨ n ∈ ch c) : tk n = false := by
  cases z : tk n with
  | false => rfl
  | true =>
    obtain ⟨d, d1, d2, d3⟩ := (hR n).mp z
    have := h.own hc d1 h1 d3
    rw [← this, hl] at d2
    cases d2
theorem GB.take (h : GB N K b gt lg ch) {left c : Nat} {tk : Nat → Bool} (hR : tkR b ch left tk) (hc : b.testBit c = true) : tkR b ch (pb_d left (2 ^ c)) (ups tk (c :: ch c)) := by
  intro n
  unfold ups
  rw [Bool.or_eq_true, hR n, decide_eq_true_eq, List.mem_cons]
  constructor
  · rintro (⟨d, d1, d2, d3⟩ | h1)
    · exact ⟨d, d1, by rw [pb_d_bit, d2]; rfl, d3⟩
    · exact ⟨c, hc, by rw [pb_d_bit, pb_bit]; simp, h1⟩
  · rintro ⟨d, d1, d2, d3⟩
    by_cases z : d = c
    · subst z; exact Or.inr d3
    · refine Or.inl ⟨d, d1, ?_, d3⟩
      rw [pb_d_bit, pb_bit] at d2
      have : ¬ c = d := fun y => z y.symm
      simpa [this] using d2
theorem GB.row (h : GB N K b gt lg ch) {to : Nat} {mb : Bool} (hto : ∀ c, b.testBit c = true → ¬ (mb = true ∧ lg c = true ∧ gt c ≠ to) → to ∉ ch c) : ∀ (n : Nat) {a now u : Nat} {tk : Nat → Bool}, crr gt lg to mb n a now = some u → a ≠ to → sb now b → tkR b ch now tk → ∃ tk', NW N to false a tk (some tk') ∧ tkR b ch u tk' := by
  intro n
  induction n with
  | zero =>
    intro a now u tk h1 h2
    rw [crr_0, if_neg h2] at h1
    cases h1
  | succ n ih =>
    intro a now u tk h1 h2 h3 h4
    rw [crr_s, if_neg h2] at h1
    split at h1
    · cases h1
    next hna =>
    split at h1
    · cases h1
    next hck =>
    have hn : now.testBit a = true := by simpa using hna
    have hb := h3 a hn
    have hfree : ∀ x, (x = a ∨ x ∈ ch a) → tk x = false := fun x hx => h.free h4 hb hn hx
    have hR := h.take h4 hb
    have ha0 : a ≠ 0 := fun z => by rw [z, h.2.2.2.2.2.2.1] at hb; cases hb
    have hin := h.2.2.2.2.2.1 a
    have nin : a ∉ ch a := fun z => by rw [(hin a hb z).2.2.2] at hb; cases hb
    by_cases hz : gt a = to
    · rw [hz, crr_to] at h1
      cases h1
      exact ⟨_, wc (h.1 a hb) ha0 (fun x hx => (hin x hb hx).1) (hfree a (Or.inl rfl)) (fun x hx => hfree x (Or.inr hx)) nin (h.2.2.1 a hb) (hto a hb hck) (fun _ => rfl) (fun z => absurd hz z), hR⟩
    · obtain ⟨tk', k1, k2⟩ := ih h1 hz (fun i hi => h3 i (sb_d i hi)) hR
      exact ⟨tk', wc (h.1 a hb) ha0 (fun x hx => (hin x hb hx).1) (hfree a (Or.inl rfl)) (fun x hx => hfree x (Or.inr hx)) nin (h.2.2.1 a hb) (hto a hb hck) (fun z => absurd z hz) (fun _ => k1), k2⟩
theorem GB.cell (h : GB N K b gt lg ch) {a to left u : Nat} {tk : Nat → Bool} (h1 : ccl gt lg a to left = some u) (h3 : sb left b) (h4 : tkR b ch left tk) : ∃ tk', NW N to true a tk (some tk') ∧ tkR b ch u tk' := by
  unfold ccl at h1
  split at h1
  next hc =>
    cases h1
    have hb := h3 a hc.1
    have hch := h.2.2.2.2.1 a hb hc.2.1
    have hl := h.1 a hb
    have hR := h.take h4 hb
    rw [hch] at hl hR
    have ha0 : a ≠ 0 := fun z => by rw [z, h.2.2.2.2.2.2.1] at hb; cases hb
    have hN : N a = (gt a : Int) := hl
    refine ⟨_, NW.done ha0 (by rw [hN, hc.2.2]) (h.free h4 hb hc.1 (Or.inl rfl)), ?_⟩
    have e : ups tk [a] = upb tk a := by
      funext j
      unfold ups upb
      by_cases y : j = a
      · simp [y]
      · simp [y]
    rw [← e]
    exact hR
  · cases h1
theorem cvl_c {gt : Nat → Nat} {lg : Nat → Bool} {b : Nat} {s : Nat → Nat} {p : pf_T} {l : List pf_T} {left u : Nat} (h : cvl gt lg b s (p :: l) (some left) = some u) : ∃ v, cv1 gt lg b s p left = some v ∧ cvl gt lg b s l (some v) = some u := by
  rw [cvl_cons] at h
  cases z : cv1 gt lg b s p left with
  | none => rw [z, cvl_none] at h; cases h
  | some v => rw [z] at h; exact ⟨v, rfl, h⟩
theorem cvl_sb {gt : Nat → Nat} {lg : Nat → Bool} {b : Nat} {s : Nat → Nat} : ∀ {l : List pf_T} {left u : Nat}, cvl gt lg b s l (some left) = some u → sb u left := by
  intro l
  induction l with
  | nil => intro left u h; cases h; exact fun _ h => h
  | cons p l ih =>
    intro left u h
    obtain ⟨v, h1, h2⟩ := cvl_c h
    exact fun i hi => cv1_sb h1 i (ih h2 i hi)
/-- one part, both ways well -/
theorem GB.p1 (h : GB N K b gt lg ch) {b' : Nat} {s : Nat → Nat} {p : pf_T} (hp : pf_ok p) {left u : Nat} {tk : Nat → Bool} (hto : ∀ c, b.testBit c = true → ¬ ((decide (s p.2.2 ≠ 0) && !b'.testBit (s p.2.2)) = true ∧ lg c = true ∧ gt c ≠ s p.2.2) → s p.2.2 ∉ ch c) (h1 : cv1 gt lg b' s p left = some u) (h3 : sb left b) (h4 : tkR b ch left tk) : ∃ tk', P1 N s p tk (some tk') ∧ tkR b ch u tk' := by
  unfold cv1 at h1
  unfold pf_ok at hp
  by_cases z : p.1 = 0
  · rw [if_pos z] at h1
    obtain ⟨tk', k1, k2⟩ := h.cell h1 h3 h4
    exact ⟨tk', (P1c z).mpr k1, k2⟩
  · rw [if_neg z] at h1
    by_cases y : s p.2.1 = s p.2.2
    · rw [y, crr_to] at h1
      cases h1
      exact ⟨tk, P1e (by omega) y, h4⟩
    · obtain ⟨tk', k1, k2⟩ := h.row hto 8 h1 y h3 h4
      exact ⟨tk', (P1r z y).mpr k1, k2⟩
theorem GB.A (h : GB N K b gt lg ch) {s : Nat → Nat} : ∀ {l : List pf_T} {left u : Nat} {tk : Nat → Bool}, (∀ p ∈ l, pf_ok p) → cvl gt lg b s l (some left) = some u → sb left b → tkR b ch left tk → ∃ tk', PL N s l tk (some tk') ∧ tkR b ch u tk' := by
  intro l
  induction l with
  | nil => intro left u tk _ h1 _ h4; cases h1; exact ⟨tk, rfl, h4⟩
  | cons p l ih =>
    intro left u tk hp h1 h3 h4
    obtain ⟨v, k1, k2⟩ := cvl_c h1
    have hto : ∀ c, b.testBit c = true → ¬ ((decide (s p.2.2 ≠ 0) && !b.testBit (s p.2.2)) = true ∧ lg c = true ∧ gt c ≠ s p.2.2) → s p.2.2 ∉ ch c := by
      intro c hc hck hin
      have hi := h.2.2.2.2.2.1 c _ hc hin
      refine hck ⟨by simp [hi.1, hi.2.2.2], ?_, fun z => hi.2.1 z.symm⟩
      cases w : lg c with
      | true => rfl
      | false => rw [h.2.2.2.2.1 c hc w] at hin; exact absurd hin List.not_mem_nil
    obtain ⟨tk1, t1, t2⟩ := h.p1 (hp p List.mem_cons_self) hto k1 h3 h4
    obtain ⟨tk', t3, t4⟩ := ih (fun q hq => hp q (List.mem_cons_of_mem _ hq)) k2 (fun i hi => h3 i (cv1_sb k1 i hi)) t2
    exact ⟨tk', Or.inr ⟨tk1, t1, t3⟩, t4⟩
theorem tkR0 : tkR b ch b (fun _ => false) := fun n => ⟨fun z => (by cases z), fun ⟨c, c1, c2, _⟩ => by rw [c1] at c2; cases c2⟩
theorem GB.smA (h : GB N K b gt lg ch) {s : Nat → Nat} {G : pf_F} (hw : pf_wf G) (hc : CV gt lg b s G) : SM N K s G true := by
  obtain ⟨tk, t1, t2⟩ := h.A hw.2.2.2 hc.2 (fun _ h => h) tkR0
  refine Or.inr ⟨hc.1, Or.inr ⟨tk, t1, fun _ n hn h0 => ?_, fun _ => rfl⟩⟩
  obtain ⟨c, c1, c2⟩ := (h.2.1 n hn).mp h0
  exact (t2 n).mpr ⟨c, c1, Nat.zero_testBit c, c2⟩
theorem GB.stop (h : GB N K b gt lg ch) (h8 : ∀ c n, b.testBit c = true → n ∈ ch c → 8 ≤ n) {a left : Nat} {tk : Nat → Bool} (ha : a < 8) (hR : tkR b ch left tk) (hl : left.testBit a = false) : a = 0 ∨ N a < 0 ∨ tk a = true := by
  by_cases z : b.testBit a = true
  · exact Or.inr (Or.inr ((hR a).mpr ⟨a, z, hl, Or.inl rfl⟩))
  · refine Or.inr (Or.inl ?_)
    rcases Int.lt_or_le (N a) 0 with y | y
    · exact y
    · obtain ⟨c, c1, c2 | c2⟩ := (h.2.1 a (by have := h.2.2.2.2.2.2.2.2; omega)).mp y
      · rw [c2] at z; exact absurd c1 z
      · have := h8 c a c1 c2; omega
theorem GB.rowF (h : GB N K b gt lg ch) (hb : b < 256) (h8 : ∀ c n, b.testBit c = true → n ∈ ch c → 8 ≤ n) {to : Nat} (hto : to < 8) : ∀ (n : Nat) {a now : Nat} {tk : Nat → Bool}, crr gt lg to false n a now = none → a ≠ to → a < 8 → sb now b → tkR b ch now tk → pop now ≤ n → NW N to false a tk none := by
  intro n
  induction n with
  | zero =>
    intro a now tk _ _ ha _ h4 h5
    exact NW.stop (h.stop h8 ha h4 (pop_none ha (by omega)))
  | succ n ih =>
    intro a now tk h1 h2 ha h3 h4 h5
    by_cases hna : now.testBit a = false
    · exact NW.stop (h.stop h8 ha h4 hna)
    · rw [crr_s, if_neg h2, if_neg hna, if_neg (by rintro ⟨z, _⟩; cases z)] at h1
      have hn : now.testBit a = true := by simpa using hna
      have hba := h3 a hn
      have hfree : ∀ x, (x = a ∨ x ∈ ch a) → tk x = false := fun x hx => h.free h4 hba hn hx
      have hR := h.take h4 hba
      have ha0 : a ≠ 0 := fun z => by rw [z, h.2.2.2.2.2.2.1] at hba; cases hba
      have hin := h.2.2.2.2.2.1 a
      have nin : a ∉ ch a := fun z => by rw [(hin a hba z).2.2.2] at hba; cases hba
      have hz : gt a ≠ to := fun z => by rw [z, crr_to] at h1; cases h1
      have hpd := pop_dn (sb_lt8 h3 hb) ha hn
      exact wc (h.1 a hba) ha0 (fun x hx => (hin x hba hx).1) (hfree a (Or.inl rfl)) (fun x hx => hfree x (Or.inr hx)) nin (h.2.2.1 a hba) (fun z => by have := h8 a to hba z; omega) (fun z => absurd z hz) (fun _ => ih h1 hz ((h.2.2.2.2.2.2.2.1 a hba).1) (fun i hi => h3 i (sb_d i hi)) hR (by omega))
theorem b255 {x : Nat} (h : x < 8) : Nat.testBit 255 x = true := List.all_eq_true.mp (show (List.range 8).all (fun i => Nat.testBit 255 i) = true by decide) x (List.mem_range.mpr h)
theorem mb255 {x : Nat} (h : x < 8) : (decide (x ≠ 0) && !Nat.testBit 255 x) = false := by rw [b255 h, Bool.not_true, Bool.and_false]
theorem GB.p1F (h : GB N K b gt lg ch) (hb : b < 256) (h8 : ∀ c n, b.testBit c = true → n ∈ ch c → 8 ≤ n) (hne : ∀ c, b.testBit c = true → lg c = true → ch c ≠ []) {s : Nat → Nat} {p : pf_T} (hp : pf_ok p) (hx : s p.2.1 < 8) (hy : s p.2.2 < 8) {left : Nat} {tk : Nat → Bool} (h1 : cv1 gt lg 255 s p left = none) (h3 : sb left b) (h4 : tkR b ch left tk) : P1 N s p tk none := by
  unfold cv1 at h1
  unfold pf_ok at hp
  by_cases z : p.1 = 0
  · rw [if_pos z] at h1
    rw [P1c z]
    unfold ccl at h1
    split at h1
    · cases h1
    next hc =>
    by_cases hl : left.testBit (s p.2.1) = true
    · have hba := h3 _ hl
      have hlk := h.1 _ hba
      refine NW.no1 ?_
      cases hch : ch (s p.2.1) with
      | nil =>
        rw [hch] at hlk
        have hN : N (s p.2.1) = (gt (s p.2.1) : Int) := hlk
        rw [hN]
        intro w
        refine hc ⟨hl, ?_, by omega⟩
        cases v : lg (s p.2.1) with
        | false => rfl
        | true => exact absurd hch (hne _ hba v)
      | cons x l =>
        rw [hch] at hlk
        have hx8 := h8 _ x hba (by rw [hch]; exact List.mem_cons_self)
        rw [hlk.1]
        omega
    · exact NW.stop (h.stop h8 hx h4 (by simpa using hl))
  · rw [if_neg z, mb255 hy] at h1
    have y : ¬ s p.2.1 = s p.2.2 := fun y => by rw [y, crr_to] at h1; cases h1
    rw [P1r z y]
    exact h.rowF hb h8 hy 8 h1 y hx h3 h4 (pop_255 (sb_lt8 h3 hb))
theorem GB.B (h : GB N K b gt lg ch) (hb : b < 256) (h8 : ∀ c n, b.testBit c = true → n ∈ ch c → 8 ≤ n) (hne : ∀ c, b.testBit c = true → lg c = true → ch c ≠ []) {s : Nat → Nat} : ∀ {l : List pf_T} {left : Nat} {tk : Nat → Bool}, (∀ p ∈ l, pf_ok p ∧ s p.2.1 < 8 ∧ s p.2.2 < 8) → sb left b → tkR b ch left tk → (∃ u tk', cvl gt lg 255 s l (some left) = some u ∧ PL N s l tk (some tk') ∧ tkR b ch u tk') ∨ (cvl gt lg 255 s l (some left) = none ∧ PL N s l tk none) := by
  intro l
  induction l with
  | nil => intro left tk _ _ h4; exact Or.inl ⟨left, tk, rfl, rfl, h4⟩
  | cons p l ih =>
    intro left tk hp h3 h4
    have ok := hp p List.mem_cons_self
    rw [cvl_cons]
    cases k1 : cv1 gt lg 255 s p left with
    | none => exact Or.inr ⟨cvl_none, Or.inl ⟨h.p1F hb h8 hne ok.1 ok.2.1 ok.2.2 k1 h3 h4, rfl⟩⟩
    | some v =>
      obtain ⟨tk1, t1, t2⟩ := h.p1 ok.1 (fun c hc _ hin => by have := h8 c _ hc hin; omega) k1 h3 h4
      rcases ih (fun q hq => hp q (List.mem_cons_of_mem _ hq)) (fun i hi => h3 i (cv1_sb k1 i hi)) t2 with ⟨u, tk', k2, k3, k4⟩ | ⟨k2, k3⟩
      · exact Or.inl ⟨u, tk', k2, Or.inr ⟨tk1, t1, k3⟩, k4⟩
      · exact Or.inr ⟨k2, Or.inr ⟨tk1, t1, k3⟩⟩
theorem GB.smB (h : GB N K b gt lg ch) (hb : b < 256) (h8 : ∀ c n, b.testBit c = true → n ∈ ch c → 8 ≤ n) (hne : ∀ c, b.testBit c = true → lg c = true → ch c ≠ []) {s : Nat → Nat} {G : pf_F} (hw : pf_wf G) (hs : ∀ p ∈ G.2, s p.2.1 < 8 ∧ s p.2.2 < 8) (hc2 : PH s G → cvl gt lg 255 s G.2 (some b) ≠ some 0) : SM N K s G false := by
  by_cases hP : PH s G
  · rcases h.B hb h8 hne (fun p hp => ⟨hw.2.2.2 p hp, hs p hp⟩) (fun _ h => h) (tkR0 (ch := ch)) with ⟨u, tk', k1, k2, k3⟩ | ⟨_, k2⟩
    · refine Or.inr ⟨hP, Or.inr ⟨tk', k2, fun z => (by cases z), fun z => ?_⟩⟩
      have hu : u ≠ 0 := fun y => hc2 hP (by rw [k1, y])
      have hub := cvl_sb k1
      obtain ⟨c, c1⟩ : ∃ c, u.testBit c = true := Classical.byContradiction (fun y => hu (pb_ext (fun i => by
        rw [Nat.zero_testBit]
        cases w : u.testBit i with
        | false => rfl
        | true => exact absurd ⟨i, w⟩ y)))
      have hbc := hub c c1
      have hc8 := (h.2.2.2.2.2.2.2.1 c hbc).2
      have hK := h.2.2.2.2.2.2.2.2
      have h1 := z c (by omega) ((h.2.1 c (by omega)).mpr ⟨c, hbc, Or.inl rfl⟩)
      rw [h.free k3 hbc c1 (Or.inl rfl)] at h1
      cases h1
    · exact Or.inr ⟨hP, Or.inl ⟨k2, rfl⟩⟩
  · exact Or.inl ⟨hP, rfl⟩
end GBS
/-! a name inside of a row -/
section G1S
variable {N : Nat → Int} {K b : Nat} {gt : Nat → Nat} {lg : Nat → Bool} {at_ z : Nat} {s : Nat → Nat}
def G1 (N : Nat → Int) (K b : Nat) (gt : Nat → Nat) (at_ z : Nat) : Prop := (∀ c, b.testBit c = true → c ≠ at_ → N c = (gt c : Int)) ∧ N at_ = (z : Int) ∧ 0 ≤ N z ∧ z < K
theorem G1.row (h : G1 N K b gt at_ z) (hz : b.testBit z = false) {to : Nat} : ∀ (n : Nat) {a now u : Nat} {tk : Nat → Bool}, crr gt lg to false n a now = some u → a ≠ to → sb now b → tk z = false → (to = z ∨ u.testBit at_ = true ∨ now.testBit at_ = false) → ∃ r, NW N to false a tk r ∧ ∀ tk', r = some tk' → tk' z = false := by
  intro n
  induction n with
  | zero =>
    intro a now u tk h1 h2
    rw [crr_0, if_neg h2] at h1
    cases h1
  | succ n ih =>
    intro a now u tk h1 h2 h3 h4 h5
    rw [crr_s, if_neg h2] at h1
    split at h1
    · cases h1
    next hna =>
    rw [if_neg (by rintro ⟨z, _⟩; cases z)] at h1
    have hn : now.testBit a = true := by simpa using hna
    have hb := h3 a hn
    have haz : z ≠ a := fun y => by rw [← y, hz] at hb; cases hb
    have hup : upb tk a z = false := by unfold upb; rw [if_neg haz]; exact h4
    by_cases st : a = 0 ∨ N a < 0 ∨ tk a = true
    · exact ⟨none, NW.stop st, fun tk' y => by cases y⟩
    · have st1 : a ≠ 0 := fun y => st (Or.inl y)
      have st3 : tk a = false := by
        cases w : tk a with
        | true => exact absurd (Or.inr (Or.inr w)) st
        | false => rfl
      by_cases y : a = at_
      · subst y
        have ht : to = z := by
          rcases h5 with w | w | w
          · exact w
          · have := crr_sb h1 a w
            rw [pb_d_bit, pb_bit] at this
            simp at this
          · rw [hn] at w; cases w
        subst ht
        exact ⟨_, NW.done st1 h.2.1 st3, fun tk' w => by cases w; exact hup⟩
      · have hN := h.1 a hb y
        by_cases w : gt a = to
        · exact ⟨_, NW.done st1 (by rw [hN, w]) st3, fun tk' v => by cases v; exact hup⟩
        · obtain ⟨r, r1, r2⟩ := ih h1 w (fun i hi => h3 i (sb_d i hi)) hup (by
            rcases h5 with v | v | v
            · exact Or.inl v
            · exact Or.inr (Or.inl v)
            · exact Or.inr (Or.inr (by rw [pb_d_bit, v]; rfl)))
          exact ⟨r, NW.go st1 (by omega) st3 (by omega) (by rw [hN, Int.toNat_natCast]; exact r1), r2⟩
theorem G1.p1 (h : G1 N K b gt at_ z) (hz : b.testBit z = false) (hl : lg at_ = true) {p : pf_T} (hp : pf_ok p) (hy : s p.2.2 < 8) {left u : Nat} {tk : Nat → Bool} (h1 : cv1 gt lg 255 s p left = some u) (h3 : sb left b) (h4 : tk z = false) (h5 : s p.2.2 = z ∨ u.testBit at_ = true ∨ left.testBit at_ = false) : ∃ r, P1 N s p tk r ∧ ∀ tk', r = some tk' → tk' z = false := by
  unfold cv1 at h1
  unfold pf_ok at hp
  by_cases y : p.1 = 0
  · rw [if_pos y] at h1
    unfold ccl at h1
    split at h1
    next hc =>
      have hb := h3 _ hc.1
      have hne : s p.2.1 ≠ at_ := fun w => by rw [w, hl] at hc; cases hc.2.1
      have haz : z ≠ s p.2.1 := fun w => by rw [← w, hz] at hb; cases hb
      by_cases st : s p.2.1 = 0 ∨ N (s p.2.1) < 0 ∨ tk (s p.2.1) = true
      · exact ⟨none, (P1c y).mpr (NW.stop st), fun tk' y => by cases y⟩
      · have st1 : s p.2.1 ≠ 0 := fun y => st (Or.inl y)
        have st3 : tk (s p.2.1) = false := by
          cases w : tk (s p.2.1) with
          | true => exact absurd (Or.inr (Or.inr w)) st
          | false => rfl
        exact ⟨_, (P1c y).mpr (NW.done st1 (by rw [h.1 _ hb hne, hc.2.2]) st3), fun tk' w => by cases w; unfold upb; rw [if_neg haz]; exact h4⟩
    · cases h1
  · rw [if_neg y, mb255 hy] at h1
    by_cases w : s p.2.1 = s p.2.2
    · exact ⟨some tk, P1e (by omega) w, fun tk' v => by cases v; exact h4⟩
    · obtain ⟨r, r1, r2⟩ := h.row hz 8 h1 w h3 h4 h5
      exact ⟨r, (P1r y w).mpr r1, r2⟩
theorem G1.pl (h : G1 N K b gt at_ z) (hz : b.testBit z = false) (hl : lg at_ = true) {l2 : List pf_T} (hl2 : ∀ tk : Nat → Bool, tk z = false → ∃ r, PL N s l2 tk r ∧ ∀ tk', r = some tk' → tk' z = false) : ∀ {l : List pf_T} {left u : Nat} {tk : Nat → Bool}, (∀ p ∈ l, pf_ok p ∧ s p.2.1 < 8 ∧ s p.2.2 < 8) → cvl gt lg 255 s l (some left) = some u → sb left b → tk z = false → (u.testBit at_ = true ∨ left.testBit at_ = false) → ∃ r, PL N s (l ++ l2) tk r ∧ ∀ tk', r = some tk' → tk' z = false := by
  intro l
  induction l with
  | nil => intro left u tk _ _ _ h4 _; exact hl2 tk h4
  | cons p l ih =>
    intro left u tk hp h1 h3 h4 h5
    have ok := hp p List.mem_cons_self
    obtain ⟨v, k1, k2⟩ := cvl_c h1
    have h6 : v.testBit at_ = true ∨ left.testBit at_ = false := by
      rcases h5 with w | w
      · exact Or.inl (cvl_sb k2 _ w)
      · exact Or.inr w
    obtain ⟨r, r1, r2⟩ := h.p1 hz hl ok.1 ok.2.2 k1 h3 h4 (Or.inr h6)
    cases r with
    | none => exact ⟨none, Or.inl ⟨r1, rfl⟩, fun tk' w => by cases w⟩
    | some tk1 =>
      obtain ⟨r', q1, q2⟩ := ih (fun q hq => hp q (List.mem_cons_of_mem _ hq)) k2 (fun i hi => h3 i (cv1_sb k1 i hi)) (r2 tk1 rfl) (by
        rcases h5 with w | w
        · exact Or.inl w
        · refine Or.inr ?_
          cases v2 : v.testBit at_ with
          | false => rfl
          | true => rw [cv1_sb k1 _ v2] at w; cases w)
      exact ⟨r', Or.inr ⟨tk1, r1, q1⟩, q2⟩
end G1S
theorem crr_dif {gt : Nat → Nat} {lg : Nat → Bool} {to : Nat} {mb : Bool} : ∀ {n a now u : Nat}, crr gt lg to mb n a now = none → crr gt lg to false n a now = some u → mb = true ∧ ∃ at_, now.testBit at_ = true ∧ u.testBit at_ = false ∧ lg at_ = true ∧ gt at_ ≠ to := by
  intro n
  induction n with
  | zero =>
    intro a now u h1 h2
    rw [crr_0] at h1 h2
    rw [h1] at h2
    cases h2
  | succ n ih =>
    intro a now u h1 h2
    rw [crr_s] at h1 h2
    by_cases z : a = to
    · rw [if_pos z] at h1; cases h1
    · rw [if_neg z] at h1 h2
      by_cases y : now.testBit a = false
      · rw [if_pos y] at h2; cases h2
      · rw [if_neg y] at h1 h2
        rw [if_neg (by rintro ⟨z, _⟩; cases z)] at h2
        by_cases w : mb = true ∧ lg a = true ∧ gt a ≠ to
        · refine ⟨w.1, a, by simpa using y, ?_, w.2.1, w.2.2⟩
          cases v : u.testBit a with
          | false => rfl
          | true =>
            have := crr_sb h2 a v
            rw [pb_d_bit, pb_bit] at this
            simp at this
        · rw [if_neg w] at h1
          obtain ⟨k0, at_, k1, k2, k3, k4⟩ := ih h1 h2
          exact ⟨k0, at_, sb_d _ k1, k2, k3, k4⟩
/-- covered but for a name inside of a row -/
theorem cv_dif {gt : Nat → Nat} {lg : Nat → Bool} {b : Nat} {s : Nat → Nat} : ∀ {l : List pf_T} {left u : Nat}, (∀ p ∈ l, s p.2.2 < 8) → cvl gt lg 255 s l (some left) = some u → cvl gt lg b s l (some left) ≠ some u → ∃ l1 p l2 v w, l = l1 ++ p :: l2 ∧ cvl gt lg 255 s l1 (some left) = some v ∧ cv1 gt lg 255 s p v = some w ∧ cvl gt lg 255 s l2 (some w) = some u ∧ s p.2.2 ≠ 0 ∧ b.testBit (s p.2.2) = false ∧ ∃ at_, v.testBit at_ = true ∧ w.testBit at_ = false ∧ lg at_ = true ∧ gt at_ ≠ s p.2.2 := by
  intro l
  induction l with
  | nil => intro left u _ h1 h2; exact absurd h1 h2
  | cons p l ih =>
    intro left u hl h1 h2
    obtain ⟨w, k1, k2⟩ := cvl_c h1
    have hy := hl p List.mem_cons_self
    rw [cvl_cons] at h2
    cases k3 : cv1 gt lg b s p left with
    | some w' =>
      have e : w' = w := by
        unfold cv1 at k1 k3
        by_cases z : p.1 = 0
        · rw [if_pos z] at k1 k3; rw [k3] at k1; exact Option.some.inj k1
        · rw [if_neg z, mb255 hy] at k1
          rw [if_neg z] at k3
          have aux : ∀ {mb : Bool} {n a now x y : Nat}, crr gt lg (s p.2.2) mb n a now = some x → crr gt lg (s p.2.2) false n a now = some y → x = y := by
            intro mb n
            induction n with
            | zero => intro a now x y h1 h2; rw [crr_0] at h1 h2; rw [h1] at h2; exact Option.some.inj h2
            | succ n ihn =>
              intro a now x y h1 h2
              rw [crr_s] at h1 h2
              by_cases z1 : a = s p.2.2
              · rw [if_pos z1] at h1 h2; rw [h1] at h2; exact Option.some.inj h2
              · rw [if_neg z1] at h1 h2
                by_cases z2 : now.testBit a = false
                · rw [if_pos z2] at h1; cases h1
                · rw [if_neg z2] at h1 h2
                  rw [if_neg (by rintro ⟨z, _⟩; cases z)] at h2
                  by_cases z3 : mb = true ∧ lg a = true ∧ gt a ≠ s p.2.2
                  · rw [if_pos z3] at h1; cases h1
                  · rw [if_neg z3] at h1
                    exact ihn h1 h2
          exact aux k3 k1
      rw [k3, e] at h2
      obtain ⟨l1, q, l2, v, w2, e1, e2, e3⟩ := ih (fun q hq => hl q (List.mem_cons_of_mem _ hq)) k2 h2
      exact ⟨p :: l1, q, l2, v, w2, by rw [e1]; rfl, by rw [cvl_cons, k1]; exact e2, e3⟩
    | none =>
      refine ⟨[], p, l, left, w, rfl, rfl, k1, k2, ?_⟩
      unfold cv1 at k1 k3
      by_cases z : p.1 = 0
      · rw [if_pos z] at k1 k3; rw [k3] at k1; cases k1
      · rw [if_neg z, mb255 hy] at k1
        rw [if_neg z] at k3
        obtain ⟨m1, at_, m2⟩ := crr_dif k3 k1
        rw [Bool.and_eq_true, decide_eq_true_eq] at m1
        exact ⟨m1.1, by simpa using m1.2, at_, m2⟩
theorem smC {gt : Nat → Nat} {lg : Nat → Bool} {b : Nat} {s : Nat → Nat} {G : pf_F} (hw : pf_wf G) (hs : ∀ p ∈ G.2, s p.2.1 < 8 ∧ s p.2.2 < 8) (hP : PH s G) (h1 : cvl gt lg 255 s G.2 (some b) = some 0) (h2 : ¬ CV gt lg b s G) : ∃ at_ z, b.testBit at_ = true ∧ lg at_ = true ∧ z ≠ 0 ∧ b.testBit z = false ∧ gt at_ ≠ z ∧ (∃ p ∈ G.2, s p.2.2 = z) ∧ ∀ N K, G1 N K b gt at_ z → SM N K s G false := by
  obtain ⟨l1, p, l2, v, w, e1, e2, e3, e4, e5, e6, at_, a1, a2, a3, a4⟩ := cv_dif (b := b) (fun p hp => (hs p hp).2) h1 (fun z => h2 ⟨hP, z⟩)
  have hpm : p ∈ G.2 := by rw [e1]; exact List.mem_append_right _ List.mem_cons_self
  have hvb := cvl_sb e2
  refine ⟨at_, s p.2.2, hvb _ a1, a3, e5, e6, a4, ⟨p, hpm, rfl⟩, fun N K hg => Or.inr ⟨hP, ?_⟩⟩
  have t2 : ∀ tk : Nat → Bool, tk (s p.2.2) = false → ∃ r, PL N s l2 tk r ∧ ∀ tk', r = some tk' → tk' (s p.2.2) = false := fun tk htk => by
    have := hg.pl (s := s) (lg := lg) e6 a3 (l2 := []) (fun tk h => ⟨some tk, rfl, fun tk' y => by cases y; exact h⟩) (l := l2) (left := w) (u := 0) (tk := tk) (fun q hq => by
      have hq2 : q ∈ G.2 := by rw [e1]; exact List.mem_append_right _ (List.mem_cons_of_mem _ hq)
      exact ⟨hw.2.2.2 q hq2, hs q hq2⟩) e4 (fun i hi => hvb i (cv1_sb e3 i hi)) htk (Or.inr a2)
    rw [List.append_nil] at this
    exact this
  have t1 : ∀ tk : Nat → Bool, tk (s p.2.2) = false → ∃ r, PL N s (p :: l2) tk r ∧ ∀ tk', r = some tk' → tk' (s p.2.2) = false := fun tk htk => by
    obtain ⟨r, r1, r2⟩ := hg.p1 e6 a3 (hw.2.2.2 p hpm) (hs p hpm).2 e3 hvb htk (Or.inl rfl)
    cases r with
    | none => exact ⟨none, Or.inl ⟨r1, rfl⟩, fun tk' y => by cases y⟩
    | some tk1 =>
      obtain ⟨r', q1, q2⟩ := t2 tk1 (r2 tk1 rfl)
      exact ⟨r', Or.inr ⟨tk1, r1, q1⟩, q2⟩
  obtain ⟨r, r1, r2⟩ := hg.pl e6 a3 t1 (l := l1) (tk := fun _ => false) (fun q hq => by
    have hq2 : q ∈ G.2 := by rw [e1]; exact List.mem_append_left _ hq
    exact ⟨hw.2.2.2 q hq2, hs q hq2⟩) e2 (fun _ h => h) rfl (Or.inl a1)
  rw [← e1] at r1
  cases r with
  | none => exact Or.inl ⟨r1, rfl⟩
  | some tk =>
    refine Or.inr ⟨tk, r1, fun y => (by cases y), fun y => ?_⟩
    have := y _ hg.2.2.2 hg.2.2.1
    rw [r2 tk rfl] at this
    cases this

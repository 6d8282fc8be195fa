/-! DEALING OUT CELLS -/
def wk (cs : Nat → Int) (z : Nat) : Nat → Nat → Nat → Option Nat
  | 0, a, t => if a = z then some t else none
  | n + 1, a, t => if a = z then some t else if 0 ≤ cs a ∧ t.testBit a = false then wk cs z n (cs a).toNat (t ||| 2 ^ a) else none
def d1 (cs vs : Nat → Int) (p : pf_T) (t : Nat) : Option Nat :=
  if p.1 = 0 then (if vs p.2.1 = vs p.2.2 then some t else none)
  else if p.1 = 1 then (if vs p.2.1 = vs p.2.2 then none else some t)
  else if p.1 = 2 then (if 0 ≤ cs (vs p.2.1).toNat ∧ t.testBit (vs p.2.1).toNat = false ∧ cs (vs p.2.1).toNat = vs p.2.2 then some (t ||| 2 ^ (vs p.2.1).toNat) else none)
  else wk cs (vs p.2.2).toNat 10 (vs p.2.1).toNat t
def dl (cs vs : Nat → Int) (l : List pf_T) (o : Option Nat) : Option Nat := l.foldl (fun o p => o.bind (d1 cs vs p)) o
theorem dl_none {cs vs : Nat → Int} {l : List pf_T} : dl cs vs l none = none := by
  unfold dl
  induction l with
  | nil => rfl
  | cons p l ih => exact ih
theorem dl_app {cs vs : Nat → Int} {l l' : List pf_T} {o : Option Nat} : dl cs vs (l ++ l') o = dl cs vs l' (dl cs vs l o) := by
  unfold dl
  rw [List.foldl_append]
theorem dl_cons {cs vs : Nat → Int} {p : pf_T} {l : List pf_T} {t : Nat} : dl cs vs (p :: l) (some t) = dl cs vs l (d1 cs vs p t) := rfl
theorem d1_congr {cs vs vs' : Nat → Int} {p : pf_T} {t : Nat} (h1 : vs p.2.1 = vs' p.2.1) (h2 : vs p.2.2 = vs' p.2.2) : d1 cs vs p t = d1 cs vs' p t := by
  unfold d1
  rw [h1, h2]
theorem dl_congr {cs vs vs' : Nat → Int} {l : List pf_T} (h : ∀ p ∈ l, vs p.2.1 = vs' p.2.1 ∧ vs p.2.2 = vs' p.2.2) : ∀ o, dl cs vs l o = dl cs vs' l o := by
  induction l with
  | nil => intro o; rfl
  | cons p l ih =>
    intro o
    have hp := h p List.mem_cons_self
    cases o with
    | none => rw [dl_none, dl_none]
    | some t =>
      rw [dl_cons, dl_cons, d1_congr hp.1 hp.2]
      exact ih (fun q hq => h q (List.mem_cons_of_mem _ hq)) _
/-- a set's part -/
def sb (n m : Nat) : Prop := ∀ i, n.testBit i = true → m.testBit i = true
theorem sb_or_l {n m : Nat} : sb n (n ||| m) := fun i hi => by rw [Nat.testBit_or, hi]; rfl
theorem sb.tr {a b c : Nat} (h : sb a b) (h' : sb b c) : sb a c := fun i hi => h' i (h i hi)
theorem wk_mono {cs : Nat → Int} {z : Nat} : ∀ {n a t s : Nat}, wk cs z n a t = some s → sb t s := by
  intro n
  induction n with
  | zero =>
    intro a t s h
    unfold wk at h
    split at h
    · cases h; exact fun _ h => h
    · cases h
  | succ n ih =>
    intro a t s h
    unfold wk at h
    split at h
    · cases h; exact fun _ h => h
    · split at h
      · exact sb_or_l.tr (ih h)
      · cases h
def dj (s t : Nat) : Prop := ∀ i, s.testBit i = true → t.testBit i = false
theorem dj_iff {s t : Nat} : s &&& t = 0 ↔ dj s t := by
  constructor
  · intro h i hi
    have : (s &&& t).testBit i = false := by rw [h]; exact Nat.zero_testBit i
    rw [Nat.testBit_and, hi] at this
    simpa using this
  · intro h
    apply Nat.eq_of_testBit_eq
    intro i
    rw [Nat.testBit_and, Nat.zero_testBit]
    cases hs : s.testBit i
    · rfl
    · rw [h i hs]; rfl
theorem wk_fp {cs : Nat → Int} {z t : Nat} : ∀ {n a u : Nat}, wk cs z n a (u ||| t) = (wk cs z n a u).bind (fun s => if pb_d s u &&& t = 0 then some (s ||| t) else none) := by
  intro n
  induction n with
  | zero =>
    intro a u
    unfold wk
    split
    · have : pb_d u u = 0 := Nat.eq_of_testBit_eq (fun i => by rw [pb_d_bit, Nat.zero_testBit]; cases u.testBit i <;> rfl)
      rw [Option.bind_some, this, Nat.zero_and, if_pos rfl]
    · rfl
  | succ n ih =>
    intro a u
    unfold wk
    split
    · have : pb_d u u = 0 := Nat.eq_of_testBit_eq (fun i => by rw [pb_d_bit, Nat.zero_testBit]; cases u.testBit i <;> rfl)
      rw [Option.bind_some, this, Nat.zero_and, if_pos rfl]
    · by_cases hc : 0 ≤ cs a
      · cases hu : u.testBit a
        · cases ht : t.testBit a
          · rw [if_pos ⟨hc, by rw [Nat.testBit_or, hu, ht]; rfl⟩, if_pos ⟨hc, rfl⟩]
            rw [show u ||| t ||| 2 ^ a = (u ||| 2 ^ a) ||| t by rw [Nat.or_assoc, Nat.or_comm t, ← Nat.or_assoc], ih]
            cases hw : wk cs z n (cs a).toNat (u ||| 2 ^ a) with
            | none => rfl
            | some s =>
              rw [Option.bind_some, Option.bind_some]
              have e : pb_d s (u ||| 2 ^ a) &&& t = 0 ↔ pb_d s u &&& t = 0 := by
                rw [dj_iff, dj_iff]
                constructor
                · intro h i hi
                  by_cases z : a = i
                  · subst z; exact ht
                  · refine h i ?_
                    rw [pb_d_bit] at hi ⊢
                    rw [Nat.testBit_or, pb_bit]
                    simpa [z] using hi
                · intro h i hi
                  refine h i ?_
                  rw [pb_d_bit] at hi ⊢
                  rw [Nat.testBit_or] at hi
                  simp at hi
                  simp [hi]
              by_cases q : pb_d s u &&& t = 0
              · rw [if_pos q, if_pos (e.mpr q)]
              · rw [if_neg q, if_neg (fun z => q (e.mp z))]
          · rw [if_neg (by rw [Nat.testBit_or, ht]; simp), if_pos ⟨hc, rfl⟩]
            cases hw : wk cs z n (cs a).toNat (u ||| 2 ^ a) with
            | none => rfl
            | some s =>
              rw [Option.bind_some, if_neg]
              intro h
              have hs : s.testBit a = true := wk_mono hw a (by rw [Nat.testBit_or, pb_bit]; simp)
              have := dj_iff.mp h a (by rw [pb_d_bit, hs, hu]; rfl)
              rw [ht] at this
              cases this
        · rw [if_neg (by rw [Nat.testBit_or, hu]; simp), if_neg (by simp)]
          rfl
      · rw [if_neg (fun z => hc z.1), if_neg (fun z => hc z.1)]
        rfl
/-- what a part takes when nothing is taken -/
theorem d1_fp {cs vs : Nat → Int} {p : pf_T} {t : Nat} : d1 cs vs p t = (d1 cs vs p 0).bind (fun s => if s &&& t = 0 then some (s ||| t) else none) := by
  unfold d1
  split
  · split
    · rw [Option.bind_some, Nat.zero_and, if_pos rfl, Nat.zero_or]
    · rfl
  split
  · split
    · rfl
    · rw [Option.bind_some, Nat.zero_and, if_pos rfl, Nat.zero_or]
  split
  · rw [Nat.zero_testBit, Nat.zero_or]
    by_cases h : 0 ≤ cs (vs p.2.1).toNat ∧ cs (vs p.2.1).toNat = vs p.2.2
    · cases ht : t.testBit (vs p.2.1).toNat
      · rw [if_pos ⟨h.1, rfl, h.2⟩, if_pos ⟨h.1, rfl, h.2⟩, Option.bind_some, if_pos, Nat.or_comm]
        rw [dj_iff]
        intro i hi
        rw [pb_bit] at hi
        rw [← of_decide_eq_true hi]
        exact ht
      · rw [if_neg (by simp), if_pos ⟨h.1, rfl, h.2⟩, Option.bind_some, if_neg]
        intro q
        have := dj_iff.mp q (vs p.2.1).toNat (by rw [pb_bit]; simp)
        rw [ht] at this
        cases this
    · rw [if_neg (fun z => h ⟨z.1, z.2.2⟩), if_neg (fun z => h ⟨z.1, z.2.2⟩)]
      rfl
  · have := wk_fp (cs := cs) (z := (vs p.2.2).toNat) (t := t) (n := 10) (a := (vs p.2.1).toNat) (u := 0)
    rw [Nat.zero_or] at this
    rw [this]
    congr 1
    funext s
    have e : pb_d s 0 = s := Nat.eq_of_testBit_eq (fun i => by rw [pb_d_bit, Nat.zero_testBit]; simp)
    rw [e]
theorem d1_comm {cs vs : Nat → Int} {p q : pf_T} {t : Nat} : (d1 cs vs p t).bind (d1 cs vs q) = (d1 cs vs q t).bind (d1 cs vs p) := by
  have key : ∀ p q : pf_T, (d1 cs vs p t).bind (d1 cs vs q) = (d1 cs vs p 0).bind (fun s => (d1 cs vs q 0).bind (fun s' => if s &&& t = 0 ∧ s' &&& (s ||| t) = 0 then some (s' ||| (s ||| t)) else none)) := by
    intro p q
    rw [d1_fp (p := p) (t := t)]
    cases d1 cs vs p 0 with
    | none => rfl
    | some s =>
      rw [Option.bind_some, Option.bind_some]
      by_cases h : s &&& t = 0
      · rw [if_pos h, Option.bind_some, d1_fp (p := q) (t := s ||| t)]
        congr 1
        funext s'
        by_cases h2 : s' &&& (s ||| t) = 0
        · rw [if_pos h2, if_pos ⟨h, h2⟩]
        · rw [if_neg h2, if_neg (fun z => h2 z.2)]
      · rw [if_neg h]
        cases d1 cs vs q 0 with
        | none => rfl
        | some s' => rw [Option.bind_some, if_neg (fun z => h z.1)]; rfl
  rw [key p q, key q p]
  cases d1 cs vs p 0 with
  | none => cases d1 cs vs q 0 <;> rfl
  | some s =>
    cases d1 cs vs q 0 with
    | none => rfl
    | some s' =>
      show (if s &&& t = 0 ∧ s' &&& (s ||| t) = 0 then some (s' ||| (s ||| t)) else none) = (if s' &&& t = 0 ∧ s &&& (s' ||| t) = 0 then some (s ||| (s' ||| t)) else none)
      have e1 : s' ||| (s ||| t) = s ||| (s' ||| t) := by rw [← Nat.or_assoc, Nat.or_comm s' s, Nat.or_assoc]
      have e2 : (s &&& t = 0 ∧ s' &&& (s ||| t) = 0) ↔ (s' &&& t = 0 ∧ s &&& (s' ||| t) = 0) := by
        simp only [dj_iff]
        unfold dj
        constructor
        · rintro ⟨h1, h2⟩
          refine ⟨fun i hi => ?_, fun i hi => ?_⟩
          · have := h2 i hi
            rw [Nat.testBit_or] at this
            simp at this
            exact this.2
          · rw [Nat.testBit_or, h1 i hi]
            cases hs' : s'.testBit i
            · rfl
            · have := h2 i hs'
              rw [Nat.testBit_or, hi] at this
              simp at this
        · rintro ⟨h1, h2⟩
          refine ⟨fun i hi => ?_, fun i hi => ?_⟩
          · have := h2 i hi
            rw [Nat.testBit_or] at this
            simp at this
            exact this.2
          · rw [Nat.testBit_or, h1 i hi]
            cases hs' : s.testBit i
            · rfl
            · have := h2 i hs'
              rw [Nat.testBit_or, hi] at this
              simp at this
      rw [e1]
      by_cases h : s &&& t = 0 ∧ s' &&& (s ||| t) = 0
      · rw [if_pos h, if_pos (e2.mp h)]
      · rw [if_neg h, if_neg (fun z => h (e2.mpr z))]
theorem dl_perm {cs vs : Nat → Int} {l l' : List pf_T} (h : l.Perm l') (o : Option Nat) : dl cs vs l o = dl cs vs l' o := by
  unfold dl
  refine h.foldl_eq' (fun p _ q _ z => ?_) o
  cases z with
  | none => rfl
  | some t => exact d1_comm

/-! PURE: rounds on a graph: nb i is the mask of the neighbours of i, al the mask of all points -/
def ar (nb : Nat → Nat) (x : Nat) : Nat := orf (fun i => if x.testBit i = true then nb i else 0) 9
def grE (nb : Nat → Nat) (op x : Nat) : Nat := x ||| (ar nb x &&& op)
def grI (nb : Nat → Nat) (op : Nat) : Nat → Nat → Nat
  | 0, x => x
  | n + 1, x => grI nb op n (grE nb op x)
def cmp (nb : Nat → Nat) (op q : Nat) : Nat := grI nb op 9 (2 ^ q)
theorem ar_bit {nb : Nat → Nat} {x j : Nat} : (ar nb x).testBit j = true ↔ ∃ i, i < 9 ∧ x.testBit i = true ∧ (nb i).testBit j = true := by
  unfold ar
  rw [orf_bit]
  constructor
  · rintro ⟨i, hi, h⟩
    by_cases hx : x.testBit i = true
    · rw [if_pos hx] at h; exact ⟨i, hi, hx, h⟩
    · rw [if_neg hx] at h; simp at h
  · rintro ⟨i, hi, hx, h⟩
    exact ⟨i, hi, by rw [if_pos hx]; exact h⟩
theorem grE_bit {nb : Nat → Nat} {op x j : Nat} : (grE nb op x).testBit j = true ↔ x.testBit j = true ∨ (op.testBit j = true ∧ ∃ i, i < 9 ∧ x.testBit i = true ∧ (nb i).testBit j = true) := by
  unfold grE
  rw [Nat.testBit_or, Bool.or_eq_true, Nat.testBit_and, Bool.and_eq_true, ar_bit]
  constructor
  · rintro (h | ⟨h1, h2⟩)
    · exact Or.inl h
    · exact Or.inr ⟨h2, h1⟩
  · rintro (h | ⟨h1, h2⟩)
    · exact Or.inl h
    · exact Or.inr ⟨h2, h1⟩
theorem ar_lt {nb : Nat → Nat} (hn : ∀ i, nb i < 512) (x : Nat) : ar nb x < 512 := orf_lt (m := 9) (fun i _ => by
  split
  · exact hn i
  · decide)
theorem grE_lt {nb : Nat → Nat} {op x : Nat} (hx : x < 512) (ho : op < 512) : grE nb op x < 512 := Nat.or_lt_two_pow (n := 9) hx (Nat.lt_of_le_of_lt Nat.and_le_right ho)
theorem grE_sub {nb : Nat → Nat} {op x i : Nat} (h : x.testBit i = true) : (grE nb op x).testBit i = true := grE_bit.mpr (Or.inl h)
theorem grI_sub {nb : Nat → Nat} {op i : Nat} : ∀ {n x : Nat}, x.testBit i = true → (grI nb op n x).testBit i = true
  | 0, _, h => h
  | n + 1, _, h => grI_sub (n := n) (grE_sub h)
theorem grI_fix {nb : Nat → Nat} {op x : Nat} (h : grE nb op x = x) : ∀ n, grI nb op n x = x
  | 0 => rfl
  | n + 1 => by
    unfold grI
    rw [h]
    exact grI_fix h n
theorem grI_succ {nb : Nat → Nat} {op : Nat} : ∀ (n x : Nat), grI nb op (n + 1) x = grE nb op (grI nb op n x)
  | 0, _ => rfl
  | n + 1, x => grI_succ n (grE nb op x)
theorem grI_lt {nb : Nat → Nat} {op : Nat} (ho : op < 512) : ∀ {n x : Nat}, x < 512 → grI nb op n x < 512
  | 0, _, h => h
  | n + 1, _, h => grI_lt ho (n := n) (grE_lt h ho)
/-- a set that grows grows by a point at least -/
theorem gr_pc {a b : Nat} (ha : a < 512) (hb : b < 512) (hs : ∀ i, a.testBit i = true → b.testBit i = true) (hne : b ≠ a) : pc a < pc b := by
  have hj : ∃ j, ¬ a.testBit j = true ∧ b.testBit j = true := by
    refine Classical.byContradiction fun q => hne (bits_ext fun i => ⟨fun h => ?_, hs i⟩)
    exact Classical.byContradiction fun q2 => q ⟨i, q2, h⟩
  obtain ⟨j, h1, h2⟩ := hj
  exact pcn_lt hs h1 h2 9 (small_bit (n := 9) hb h2)
theorem grI_pc {nb : Nat → Nat} {op x : Nat} (ho : op < 512) (hx : x < 512) : ∀ n, grE nb op (grI nb op n x) = grI nb op n x ∨ pc x + n ≤ pc (grI nb op n x)
  | 0 => Or.inr (by simp [grI])
  | n + 1 => by
    rcases grI_pc ho hx n with h | h
    · refine Or.inl ?_
      rw [grI_succ, h, h]
    · rw [grI_succ]
      by_cases e : grE nb op (grI nb op n x) = grI nb op n x
      · exact Or.inl (by rw [e, e])
      · have := gr_pc (grI_lt ho hx) (grE_lt (nb := nb) (grI_lt ho hx) ho) (fun i h => grE_sub h) e
        exact Or.inr (by omega)
theorem pc_full {a : Nat} (ha : a < 512) (h : 9 ≤ pc a) : a = 511 := by
  have key : ∀ a, a < 512 → 9 ≤ pc a → a = 511 := by decide +kernel
  exact key a ha h
theorem pc_two : ∀ q, q < 9 → pc (2 ^ q) = 1 := by decide +kernel
theorem two_lt : ∀ q, q < 9 → 2 ^ q < 512 := by decide +kernel
theorem cmp_fix {nb : Nat → Nat} {op q : Nat} (ho : op < 512) (hq : q < 9) : grE nb op (cmp nb op q) = cmp nb op q := by
  unfold cmp
  rcases grI_pc (nb := nb) ho (two_lt q hq) 9 with h | h
  · exact h
  · have := pc_le (grI nb op 9 (2 ^ q))
    have := pc_two q hq
    omega
theorem cmp_lt {nb : Nat → Nat} {op q : Nat} (ho : op < 512) (hq : q < 9) : cmp nb op q < 512 := grI_lt ho (two_lt q hq)
theorem cmp_self {nb : Nat → Nat} {op q : Nat} : (cmp nb op q).testBit q = true := grI_sub (by simp)
/-- the parts of op in the order of their least points, from place q on, left being what is left -/
def prts (nb : Nat → Nat) (op : Nat) : Nat → Nat → Nat → List Nat
  | 0, _, _ => []
  | d + 1, q, left => if left.testBit q = true then cmp nb op q :: prts nb op d (q + 1) (sd left (cmp nb op q)) else prts nb op d (q + 1) left
def lor (f : Nat → Nat) : List Nat → Nat
  | [] => 0
  | a :: l => f a ||| lor f l
theorem lor_bit {f : Nat → Nat} {j : Nat} : ∀ {l : List Nat}, (lor f l).testBit j = true ↔ ∃ a, a ∈ l ∧ (f a).testBit j = true
  | [] => by simp [lor]
  | a :: l => by
    unfold lor
    rw [Nat.testBit_or, Bool.or_eq_true, lor_bit]
    constructor
    · rintro (h | ⟨b, hb, h⟩)
      · exact ⟨a, List.mem_cons_self, h⟩
      · exact ⟨b, List.mem_cons_of_mem _ hb, h⟩
    · rintro ⟨b, hb, h⟩
      rcases List.mem_cons.mp hb with e | hb
      · subst e; exact Or.inl h
      · exact Or.inr ⟨b, hb, h⟩
theorem lor_lt {f : Nat → Nat} (h : ∀ a, f a < 512) : ∀ {l : List Nat}, lor f l < 512
  | [] => Nat.zero_lt_succ 511
  | a :: l => Nat.or_lt_two_pow (n := 9) (h a) (lor_lt h)
/-- what one point forces, as the reference says it -/
def mpt (nb : Nat → Nat) (p part : Nat) : Nat := if pc (nb p &&& part) = 1 then nb p &&& part else 0
def mf (nb : Nat → Nat) (al by_ k p s : Nat) : Nat :=
  if by_ = 1 then (if pc (nb p &&& sd al s) = 1 then nb p &&& sd al s else 0)
  else if s.testBit p = true then
    (if by_ = 3 then nb p &&& sd al s
    else if by_ = 2 then lor (mpt nb p) (prts nb (sd al s) 9 0 (sd al s))
    else if pc (nb p &&& sd al s) ≤ (if by_ = 4 then k else 1) then nb p &&& sd al s else 0)
  else 0
def mgo (nb : Nat → Nat) (al by_ k s : Nat) : Nat := s ||| orf (fun p => if al.testBit p = true then mf nb al by_ k p s else 0) 9
/-- what a set forces in the class's words -/
def xby (nb : Nat → Nat) (s w : Nat) : Nat := orf (fun i => if s.testBit i = true ∧ pc (nb i &&& w) ≤ 1 then nb i &&& w else 0) 9
def xmany (nb : Nat → Nat) (k s : Nat) : Nat := orf (fun i => if s.testBit i = true ∧ pc (sd (nb i) s) ≤ k then sd (nb i) s else 0) 9
def xnx (nb : Nat → Nat) (al by_ k s : Nat) (first : Bool) : Nat :=
  if by_ = 1 then s ||| xby nb al (sd al s)
  else if by_ = 2 then s ||| lor (xby nb s) (prts nb (sd al s) 9 0 (sd al s))
  else if by_ = 3 then s ||| (bif first then ar nb s else xby nb s (sd al s))
  else if by_ = 4 then s ||| xmany nb k s
  else s ||| xby nb s (sd al s)
theorem pc_pos {a j : Nat} (ha : a < 512) (h : a.testBit j = true) : 1 ≤ pc a := by
  have h0 := gr_pc (a := 0) (b := a) (by decide) ha (fun i h => by simp at h) (fun e => by rw [e] at h; simp at h)
  omega
theorem xby_bit {nb : Nat → Nat} {s w j : Nat} (hn : ∀ i, nb i < 512) : (xby nb s w).testBit j = true ↔ ∃ i, i < 9 ∧ s.testBit i = true ∧ pc (nb i &&& w) = 1 ∧ (nb i).testBit j = true ∧ w.testBit j = true := by
  unfold xby
  rw [orf_bit]
  constructor
  · rintro ⟨i, hi, h⟩
    by_cases hc : s.testBit i = true ∧ pc (nb i &&& w) ≤ 1
    · rw [if_pos hc] at h
      have h1 := pc_pos (Nat.lt_of_le_of_lt Nat.and_le_left (hn i)) h
      rw [Nat.testBit_and, Bool.and_eq_true] at h
      exact ⟨i, hi, hc.1, by omega, h.1, h.2⟩
    · rw [if_neg hc] at h; simp at h
  · rintro ⟨i, hi, h1, h2, h3, h4⟩
    refine ⟨i, hi, ?_⟩
    rw [if_pos ⟨h1, by omega⟩, Nat.testBit_and, h3, h4]
    rfl
theorem or_bit {a b j : Nat} : (a ||| b).testBit j = true ↔ a.testBit j = true ∨ b.testBit j = true := by rw [Nat.testBit_or, Bool.or_eq_true]
theorem and_bit {a b j : Nat} : (a &&& b).testBit j = true ↔ a.testBit j = true ∧ b.testBit j = true := by rw [Nat.testBit_and, Bool.and_eq_true]
theorem sd_bit' {a b j : Nat} : (sd a b).testBit j = true ↔ a.testBit j = true ∧ ¬ b.testBit j = true := by rw [sd_bit]; cases a.testBit j <;> cases b.testBit j <;> simp
theorem ite_bit {c : Prop} [Decidable c] {a j : Nat} : (if c then a else 0).testBit j = true ↔ c ∧ a.testBit j = true := by
  by_cases h : c
  · rw [if_pos h]; simp [h]
  · rw [if_neg h]; simp [h]
/-- both words say the same: a round by a rule -/
theorem round_same {nb : Nat → Nat} {al by_ k s : Nat} {first : Bool} (hn : ∀ i, nb i < 512) (hal : ∀ i j, (nb i).testBit j = true → al.testBit j = true) (hz : ∀ i, ¬ al.testBit i = true → nb i = 0) (hs : ∀ j, s.testBit j = true → al.testBit j = true) (hb : by_ ≤ 4) :
    mgo nb al (if by_ = 3 ∧ first = false then 0 else by_) k s = xnx nb al by_ k s first := by
  have hnz : ∀ i j, (nb i).testBit j = true → al.testBit i = true := fun i j h => Classical.byContradiction fun q => by rw [hz i q] at h; simp at h
  have hand : ∀ i w j, (nb i &&& w).testBit j = true → 1 ≤ pc (nb i &&& w) := fun i w j h => pc_pos (Nat.lt_of_le_of_lt Nat.and_le_left (hn i)) h
  have plain : ∀ b k2, (b = 0 ∨ b = 4) → (mgo nb al b k2 s = s ||| orf (fun i => if s.testBit i = true ∧ pc (nb i &&& sd al s) ≤ (if b = 4 then k2 else 1) then nb i &&& sd al s else 0) 9) := by
    intro b k2 hb2
    unfold mgo
    congr 1
    refine orf_congr fun i hi => ?_
    unfold mf
    have e1 : ¬ b = 1 := by rcases hb2 with rfl | rfl <;> decide
    have e2 : ¬ b = 2 := by rcases hb2 with rfl | rfl <;> decide
    have e3 : ¬ b = 3 := by rcases hb2 with rfl | rfl <;> decide
    rw [if_neg e1, if_neg e3, if_neg e2]
    by_cases h1 : s.testBit i = true
    · rw [if_pos (hs i h1), if_pos h1]
      by_cases h2 : pc (nb i &&& sd al s) ≤ (if b = 4 then k2 else 1)
      · rw [if_pos h2, if_pos ⟨h1, h2⟩]
      · rw [if_neg h2, if_neg (fun q => h2 q.2)]
    · simp [h1]
  have hsd : ∀ i, nb i &&& sd al s = sd (nb i) s := fun i => bits_ext fun j => by
    rw [and_bit, sd_bit', sd_bit']
    constructor
    · rintro ⟨h1, h2, h3⟩; exact ⟨h1, h3⟩
    · rintro ⟨h1, h3⟩; exact ⟨h1, hal i j h1, h3⟩
  unfold xnx
  by_cases h1 : by_ = 1
  · subst h1
    rw [if_neg (show ¬ ((1 : Nat) = 3 ∧ first = false) from fun q => absurd q.1 (by decide)), if_pos rfl]
    unfold mgo
    refine bits_ext fun j => ?_
    rw [or_bit, or_bit, orf_bit, xby_bit hn]
    have : (∃ i, i < 9 ∧ (if al.testBit i = true then mf nb al 1 k i s else 0).testBit j = true) ↔ ∃ i, i < 9 ∧ al.testBit i = true ∧ pc (nb i &&& sd al s) = 1 ∧ (nb i).testBit j = true ∧ (sd al s).testBit j = true := by
      constructor
      · rintro ⟨i, hi, h⟩
        rw [ite_bit] at h
        obtain ⟨g1, g2⟩ := h
        unfold mf at g2
        rw [if_pos rfl, ite_bit, and_bit] at g2
        exact ⟨i, hi, g1, g2⟩
      · rintro ⟨i, hi, g1, g2⟩
        refine ⟨i, hi, ?_⟩
        rw [ite_bit]
        refine ⟨g1, ?_⟩
        unfold mf
        rw [if_pos rfl, ite_bit, and_bit]
        exact g2
    rw [this]
  by_cases h2 : by_ = 2
  · subst h2
    rw [if_neg (show ¬ ((2 : Nat) = 3 ∧ first = false) from fun q => absurd q.1 (by decide)), if_neg (show ¬ (2 : Nat) = 1 by decide), if_pos rfl]
    unfold mgo
    refine bits_ext fun j => ?_
    rw [or_bit, or_bit, orf_bit, lor_bit]
    have : (∃ i, i < 9 ∧ (if al.testBit i = true then mf nb al 2 k i s else 0).testBit j = true) ↔ ∃ a, a ∈ prts nb (sd al s) 9 0 (sd al s) ∧ (xby nb s a).testBit j = true := by
      constructor
      · rintro ⟨i, hi, h⟩
        rw [ite_bit] at h
        obtain ⟨g1, g2⟩ := h
        unfold mf at g2
        rw [if_neg (by decide), ite_bit, if_neg (by decide), if_pos rfl, lor_bit] at g2
        obtain ⟨g3, a, ha, g4⟩ := g2
        unfold mpt at g4
        rw [ite_bit, and_bit] at g4
        exact ⟨a, ha, (xby_bit hn).mpr ⟨i, hi, g3, g4⟩⟩
      · rintro ⟨a, ha, h⟩
        obtain ⟨i, hi, g3, g4⟩ := (xby_bit hn).mp h
        refine ⟨i, hi, ?_⟩
        rw [ite_bit]
        refine ⟨hs i g3, ?_⟩
        unfold mf
        rw [if_neg (by decide), ite_bit, if_neg (by decide), if_pos rfl, lor_bit]
        refine ⟨g3, a, ha, ?_⟩
        unfold mpt
        rw [ite_bit, and_bit]
        exact g4
    rw [this]
  by_cases h3 : by_ = 3
  · subst h3
    cases first with
    | false =>
      rw [if_pos ⟨rfl, rfl⟩, if_neg (by decide), if_neg (by decide), if_pos rfl]
      rw [plain 0 k (Or.inl rfl)]
      rfl
    | true =>
      rw [if_neg (fun q => by cases q.2), if_neg (by decide), if_neg (by decide), if_pos rfl]
      unfold mgo
      refine bits_ext fun j => ?_
      rw [or_bit, orf_bit, cond_true, or_bit, ar_bit]
      constructor
      · rintro (h | ⟨i, hi, h⟩)
        · exact Or.inl h
        · rw [ite_bit] at h
          obtain ⟨g1, g2⟩ := h
          unfold mf at g2
          rw [if_neg (by decide), ite_bit, if_pos rfl, and_bit] at g2
          exact Or.inr ⟨i, hi, g2.1, g2.2.1⟩
      · rintro (h | ⟨i, hi, g1, g2⟩)
        · exact Or.inl h
        · by_cases hj : s.testBit j = true
          · exact Or.inl hj
          · refine Or.inr ⟨i, hi, ?_⟩
            rw [ite_bit]
            refine ⟨hs i g1, ?_⟩
            unfold mf
            rw [if_neg (by decide), ite_bit, if_pos rfl, and_bit, sd_bit']
            exact ⟨g1, g2, hal i j g2, hj⟩
  · rw [if_neg (fun q => h3 q.1), if_neg h1, if_neg h2, if_neg h3]
    by_cases h4 : by_ = 4
    · subst h4
      rw [if_pos rfl, plain 4 k (Or.inr rfl)]
      unfold xmany
      congr 1
      refine orf_congr fun i hi => ?_
      rw [if_pos rfl, hsd]
    · have h0 : by_ = 0 := by omega
      subst h0
      rw [if_neg (by decide), plain 0 k (Or.inl rfl)]
      rfl

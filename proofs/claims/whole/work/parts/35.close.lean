/-! PURE: closure and time -/
theorem xnx_or {nb : Nat → Nat} {al r k s : Nat} {f : Bool} (G : Gr nb al) : ∃ e, sub e al ∧ xnx nb al r k s f = s ||| e := by
  obtain ⟨hal, hn, hin, hz⟩ := G
  have h1 : ∀ a w, sub (xby nb a w) al := fun a w j h => by
    obtain ⟨i, _, _, _, h, _⟩ := (xby_bit hn).mp h
    exact hin i j h
  have h2 : ∀ l, sub (lor (xby nb s) l) al := fun l j h => by
    obtain ⟨a, _, h⟩ := lor_bit.mp h
    exact h1 _ _ j h
  have h3 : sub (ar nb s) al := fun j h => by
    obtain ⟨i, _, _, h⟩ := ar_bit.mp h
    exact hin i j h
  have h4 : sub (xmany nb k s) al := fun j h => by
    unfold xmany at h
    rw [orf_bit] at h
    obtain ⟨i, _, h⟩ := h
    rw [ite_bit, sd_bit'] at h
    exact hin i j h.2.1
  unfold xnx
  by_cases e1 : r = 1
  · rw [if_pos e1]; exact ⟨_, h1 _ _, rfl⟩
  by_cases e2 : r = 2
  · rw [if_neg e1, if_pos e2]; exact ⟨_, h2 _, rfl⟩
  by_cases e3 : r = 3
  · rw [if_neg e1, if_neg e2, if_pos e3]
    cases f
    · exact ⟨_, h1 _ _, rfl⟩
    · exact ⟨_, h3, rfl⟩
  by_cases e4 : r = 4
  · rw [if_neg e1, if_neg e2, if_neg e3, if_pos e4]; exact ⟨_, h4, rfl⟩
  · rw [if_neg e1, if_neg e2, if_neg e3, if_neg e4]; exact ⟨_, h1 _ _, rfl⟩
theorem xnx_in {nb : Nat → Nat} {al r k s : Nat} {f : Bool} (G : Gr nb al) (hs : sub s al) : sub (xnx nb al r k s f) al := by
  obtain ⟨e, h, h2⟩ := xnx_or (r := r) (k := k) (s := s) (f := f) G
  rw [h2]
  exact sub_or hs h
theorem xnx_up {nb : Nat → Nat} {al r k s : Nat} {f : Bool} (G : Gr nb al) : sub s (xnx nb al r k s f) := by
  obtain ⟨e, h, h2⟩ := xnx_or (r := r) (k := k) (s := s) (f := f) G
  rw [h2]
  exact fun i h => or_bit.mpr (Or.inl h)
/-- where the first round changes nothing a later one doesn't -/
theorem xnx_first {nb : Nat → Nat} {al r k s : Nat} (G : Gr nb al) (h : xnx nb al r k s true = s) : xnx nb al r k s false = s := by
  by_cases e3 : r = 3
  · subst e3
    have h' : s ||| ar nb s = s := h
    show s ||| xby nb s (sd al s) = s
    refine bits_ext fun j => ?_
    rw [or_bit, xby_bit G.2.1]
    constructor
    · rintro (q | ⟨i, hi, h1, _, h3, h4⟩)
      · exact q
      · rw [← h', or_bit, ar_bit]
        exact Or.inr ⟨i, hi, h1, h3⟩
    · exact Or.inl
  · unfold xnx at h ⊢
    simp only [e3, ↓reduceIte, not_true_eq_false, not_false_eq_true, and_true, true_and, and_false, false_and, and_self, Bool.not_eq_true, Nat.or_zero, reduceCtorEq, eq_self, Bool.false_eq_true, Bool.true_eq_false, Bool.toNat_true, Bool.toNat_false, Nat.reduceEqDiff, Nat.reduceLeDiff, Nat.reduceLT] at h ⊢
    exact h
/-- the set after i rounds -/
def rsq (nb : Nat → Nat) (al r k s : Nat) : Nat → Nat
  | 0 => s
  | i + 1 => xnx nb al r k (rsq nb al r k s i) (decide (i = 0))
section RS
variable {nb : Nat → Nat} {al r k s : Nat}
theorem rsq_in (G : Gr nb al) (hs : sub s al) : ∀ i, sub (rsq nb al r k s i) al
  | 0 => hs
  | i + 1 => xnx_in G (rsq_in G hs i)
theorem rsq_st (G : Gr nb al) {i : Nat} (h : rsq nb al r k s (i + 1) = rsq nb al r k s i) : rsq nb al r k s (i + 2) = rsq nb al r k s (i + 1) := by
  show xnx nb al r k (rsq nb al r k s (i + 1)) (decide (i + 1 = 0)) = rsq nb al r k s (i + 1)
  rw [h, decide_eq_false (by omega)]
  have h' : xnx nb al r k (rsq nb al r k s i) (decide (i = 0)) = rsq nb al r k s i := h
  by_cases e : i = 0
  · rw [decide_eq_true e] at h'
    exact xnx_first G h'
  · rw [decide_eq_false e] at h'
    exact h'
theorem rsq_fix (G : Gr nb al) {i : Nat} (h : rsq nb al r k s (i + 1) = rsq nb al r k s i) : ∀ d, rsq nb al r k s (i + d + 1) = rsq nb al r k s (i + d) ∧ rsq nb al r k s (i + d) = rsq nb al r k s i
  | 0 => ⟨h, rfl⟩
  | d + 1 => by
    obtain ⟨h1, h2⟩ := rsq_fix G h d
    exact ⟨rsq_st G h1, h1.trans h2⟩
theorem rsq_pc (G : Gr nb al) (hs : sub s al) : ∀ i, (∃ j, j < i ∧ rsq nb al r k s (j + 1) = rsq nb al r k s j) ∨ i ≤ pc (rsq nb al r k s i)
  | 0 => Or.inr (Nat.zero_le _)
  | i + 1 => by
    rcases rsq_pc G hs i with ⟨j, hj, h⟩ | h
    · exact Or.inl ⟨j, by omega, h⟩
    · by_cases e : rsq nb al r k s (i + 1) = rsq nb al r k s i
      · exact Or.inl ⟨i, by omega, e⟩
      · have hal := G.1
        have l1 := sub_le (rsq_in (r := r) (k := k) G hs i)
        have l2 := sub_le (rsq_in (r := r) (k := k) G hs (i + 1))
        have := gr_pc (a := rsq nb al r k s i) (b := rsq nb al r k s (i + 1)) (by omega) (by omega) (xnx_up (r := r) (k := k) (f := decide (i = 0)) G) e
        exact Or.inr (by omega)
theorem rsq_9 (G : Gr nb al) (hs : sub s al) : ∃ j, j ≤ 9 ∧ rsq nb al r k s (j + 1) = rsq nb al r k s j := by
  rcases rsq_pc (r := r) (k := k) G hs 10 with ⟨j, hj, h⟩ | h
  · exact ⟨j, by omega, h⟩
  · have := pc_le (rsq nb al r k s 10)
    omega
theorem rsq_ge9 (G : Gr nb al) (hs : sub s al) {i : Nat} (hi : 9 ≤ i) : rsq nb al r k s i = rsq nb al r k s 9 := by
  obtain ⟨j, hj, h⟩ := rsq_9 (r := r) (k := k) G hs
  have a := (rsq_fix G h (i - j)).2
  have b := (rsq_fix G h (9 - j)).2
  rw [show j + (i - j) = i by omega] at a
  rw [show j + (9 - j) = 9 by omega] at b
  rw [a, b]
theorem rsq_at9 (G : Gr nb al) {i : Nat} (hi : i ≤ 9) (h : rsq nb al r k s (i + 1) = rsq nb al r k s i) : rsq nb al r k s 9 = rsq nb al r k s i := by
  have b := (rsq_fix G h (9 - i)).2
  rw [show i + (9 - i) = 9 by omega] at b
  exact b
theorem rsq_full (G : Gr nb al) (hs : sub s al) {i : Nat} (h : rsq nb al r k s i = al) : rsq nb al r k s (i + 1) = al := by
  refine bits_ext fun j => ⟨rsq_in G hs (i + 1) j, fun q => ?_⟩
  rw [← h] at q
  exact xnx_up (f := decide (i = 0)) G j q
end RS
/-- the time: the first round after which all are there, from i on -/
def tms (nb : Nat → Nat) (al r k s : Nat) : Nat → Nat → Int32
  | 0, i => if rsq nb al r k s i = al then nI i else mI
  | d + 1, i => if rsq nb al r k s i = al then nI i else tms nb al r k s d (i + 1)
def tim (nb : Nat → Nat) (al r k s : Nat) : Int32 := tms nb al r k s 9 0
section RS2
variable {nb : Nat → Nat} {al r k s : Nat}
theorem tms_none (h : ∀ j, ¬ rsq nb al r k s j = al) : ∀ d i, tms nb al r k s d i = mI
  | 0, i => if_neg (h i)
  | d + 1, i => by rw [tms, if_neg (h i)]; exact tms_none h d (i + 1)
theorem lo_loop {σ : zSt} (F : Fs σ nb al r k) (G : Gr nb al) (hr : r ≤ 4) (hk : k < 100) (hs : sub s al) : ∀ (d n i : Nat), i + d = 9 → d < n → Fcg_lastOf_c4 σ n (nI (rsq nb al r k s i)) (nI i) = some (nI (rsq nb al r k s 9))
  | d, 0, i, _, hn => absurd hn (Nat.not_lt_zero _)
  | d, n + 1, i, hi, hn => by
    have hal := G.1
    have l1 := sub_le (rsq_in (r := r) (k := k) G hs i)
    have l2 := sub_le (rsq_in (r := r) (k := k) G hs (i + 1))
    have e1 := fnx_ok F G hr hk (rsq_in (r := r) (k := k) G hs i) (decide (i = 0))
    have e2 : xnx nb al r k (rsq nb al r k s i) (decide (i = 0)) = rsq nb al r k s (i + 1) := rfl
    rw [e2] at e1
    have h9 : ¬ 9 < i := by omega
    rw [Fcg_lastOf_c4]
    have key : Fcg_lastOf_c21 σ (Fcg_lastOf_c4 σ n) (nI (rsq nb al r k s i)) (nI i) (nI (decide (i = 0)).toNat) (nI (rsq nb al r k s i)) = some (nI (rsq nb al r k s 9)) := by
      unfold Fcg_lastOf_c21
      rw [e1]
      by_cases h : rsq nb al r k s (i + 1) = rsq nb al r k s i
      · simp (disch := omega) only [ob_some, zlet_ap, zb2_sm, h, ↓reduceIte, not_true_eq_false, not_false_eq_true, and_true, true_and, and_false, false_and, and_self, Bool.not_eq_true, Nat.or_zero, reduceCtorEq, eq_self, Bool.false_eq_true, Bool.true_eq_false, Bool.toNat_true, Bool.toNat_false, Nat.reduceEqDiff, Nat.reduceLeDiff, Nat.reduceLT]
        rw [rsq_at9 G (by omega) h]
      · simp (disch := omega) only [ob_some, zlet_ap, zb2_sm, ↓z_m1, z_0, z_1, z_2, z_3, z_4, z_5, z_6, z_7, z_9, z_10, z_11, z_12, z_24, z_31, z_39, z_40, z_41, z_48, z_80, z_81, z_126, z_512, nI_add, pk_mul, nI_leI, nI_ltI, nI_eq, h, ↓reduceIte, not_true_eq_false, not_false_eq_true, and_true, true_and, and_false, false_and, and_self, Bool.not_eq_true, Nat.or_zero, reduceCtorEq, eq_self, Bool.false_eq_true, Bool.true_eq_false, Bool.toNat_true, Bool.toNat_false, Nat.reduceEqDiff, Nat.reduceLeDiff, Nat.reduceLT]
        match d, hi with
        | 0, hi =>
          obtain rfl : i = 9 := by omega
          exact absurd (rsq_ge9 G hs (by omega)) h
        | d + 1, hi => exact lo_loop F G hr hk hs d n (i + 1) (by omega) (by omega)
    by_cases h0 : i = 0
    · subst h0
      simp (disch := omega) only [↓z_m1, z_0, z_1, z_2, z_3, z_4, z_5, z_6, z_7, z_9, z_10, z_11, z_12, z_24, z_31, z_39, z_40, z_41, z_48, z_80, z_81, z_126, z_512, nI_add, pk_mul, nI_leI, nI_ltI, nI_eq, ↓reduceIte, not_true_eq_false, not_false_eq_true, and_true, true_and, and_false, false_and, and_self, Bool.not_eq_true, Nat.or_zero, reduceCtorEq, eq_self, Bool.false_eq_true, Bool.true_eq_false, Bool.toNat_true, Bool.toNat_false, Nat.reduceEqDiff, Nat.reduceLeDiff, Nat.reduceLT, h9]
      exact key
    · rw [decide_eq_false h0] at key
      simp (disch := omega) only [↓z_m1, z_0, z_1, z_2, z_3, z_4, z_5, z_6, z_7, z_9, z_10, z_11, z_12, z_24, z_31, z_39, z_40, z_41, z_48, z_80, z_81, z_126, z_512, nI_add, pk_mul, nI_leI, nI_ltI, nI_eq, ↓reduceIte, not_true_eq_false, not_false_eq_true, and_true, true_and, and_false, false_and, and_self, Bool.not_eq_true, Nat.or_zero, reduceCtorEq, eq_self, Bool.false_eq_true, Bool.true_eq_false, Bool.toNat_true, Bool.toNat_false, Nat.reduceEqDiff, Nat.reduceLeDiff, Nat.reduceLT, h9, h0]
      exact key
theorem ro_loop {σ : zSt} (F : Fs σ nb al r k) (G : Gr nb al) (hr : r ≤ 4) (hk : k < 100) (hs : sub s al) : ∀ (d n i : Nat), i + d = 9 → d < n → Fcg_roundsOf_c4 σ n (nI (rsq nb al r k s i)) (nI i) = some (tms nb al r k s d i)
  | d, 0, i, _, hn => absurd hn (Nat.not_lt_zero _)
  | d, n + 1, i, hi, hn => by
    have hal := G.1
    have l1 := sub_le (rsq_in (r := r) (k := k) G hs i)
    have l2 := sub_le (rsq_in (r := r) (k := k) G hs (i + 1))
    have e1 := fnx_ok F G hr hk (rsq_in (r := r) (k := k) G hs i) (decide (i = 0))
    have e2 : xnx nb al r k (rsq nb al r k s i) (decide (i = 0)) = rsq nb al r k s (i + 1) := rfl
    rw [e2] at e1
    have h9 : ¬ 9 < i := by omega
    rw [Fcg_roundsOf_c4]
    by_cases hf : rsq nb al r k s i = al
    · have e : tms nb al r k s d i = nI i := by cases d <;> exact if_pos hf
      rw [e]
      simp (disch := omega) only [F.1, hf, ↓z_m1, z_0, z_1, z_2, z_3, z_4, z_5, z_6, z_7, z_9, z_10, z_11, z_12, z_24, z_31, z_39, z_40, z_41, z_48, z_80, z_81, z_126, z_512, nI_add, pk_mul, nI_leI, nI_ltI, nI_eq, ↓reduceIte, not_true_eq_false, not_false_eq_true, and_true, true_and, and_false, false_and, and_self, Bool.not_eq_true, Nat.or_zero, reduceCtorEq, eq_self, Bool.false_eq_true, Bool.true_eq_false, Bool.toNat_true, Bool.toNat_false, Nat.reduceEqDiff, Nat.reduceLeDiff, Nat.reduceLT, h9]
    · have key : Fcg_roundsOf_c31 σ (Fcg_roundsOf_c4 σ n) (nI (rsq nb al r k s i)) (nI i) (nI (decide (i = 0)).toNat) (nI (rsq nb al r k s i)) = some (tms nb al r k s d i) := by
        unfold Fcg_roundsOf_c31
        rw [e1]
        by_cases h : rsq nb al r k s (i + 1) = rsq nb al r k s i
        · simp (disch := omega) only [ob_some, zlet_ap, zb2_sm, h, ↓reduceIte, not_true_eq_false, not_false_eq_true, and_true, true_and, and_false, false_and, and_self, Bool.not_eq_true, Nat.or_zero, reduceCtorEq, eq_self, Bool.false_eq_true, Bool.true_eq_false, Bool.toNat_true, Bool.toNat_false, Nat.reduceEqDiff, Nat.reduceLeDiff, Nat.reduceLT]
          have : ∀ d2, rsq nb al r k s (i + d2) = rsq nb al r k s i := fun d2 => (rsq_fix G h d2).2
          have key : ∀ d2 i2, i ≤ i2 → tms nb al r k s d2 i2 = mI := by
            intro d2
            induction d2 with
            | zero => intro i2 h2; have := this (i2 - i); rw [show i + (i2 - i) = i2 by omega] at this; exact if_neg (this ▸ hf)
            | succ d2 ih => intro i2 h2; have := this (i2 - i); rw [show i + (i2 - i) = i2 by omega] at this; rw [tms, if_neg (this ▸ hf)]; exact ih _ (by omega)
          rw [key d i (by omega)]
          rfl
        · simp (disch := omega) only [ob_some, zlet_ap, zb2_sm, ↓z_m1, z_0, z_1, z_2, z_3, z_4, z_5, z_6, z_7, z_9, z_10, z_11, z_12, z_24, z_31, z_39, z_40, z_41, z_48, z_80, z_81, z_126, z_512, nI_add, pk_mul, nI_leI, nI_ltI, nI_eq, h, ↓reduceIte, not_true_eq_false, not_false_eq_true, and_true, true_and, and_false, false_and, and_self, Bool.not_eq_true, Nat.or_zero, reduceCtorEq, eq_self, Bool.false_eq_true, Bool.true_eq_false, Bool.toNat_true, Bool.toNat_false, Nat.reduceEqDiff, Nat.reduceLeDiff, Nat.reduceLT]
          match d, hi with
          | 0, hi =>
            obtain rfl : i = 9 := by omega
            exact absurd (rsq_ge9 G hs (by omega)) h
          | d + 1, hi =>
            rw [tms, if_neg hf]
            exact ro_loop F G hr hk hs d n (i + 1) (by omega) (by omega)
      by_cases h0 : i = 0
      · subst h0
        simp (disch := omega) only [F.1, hf, ↓z_m1, z_0, z_1, z_2, z_3, z_4, z_5, z_6, z_7, z_9, z_10, z_11, z_12, z_24, z_31, z_39, z_40, z_41, z_48, z_80, z_81, z_126, z_512, nI_add, pk_mul, nI_leI, nI_ltI, nI_eq, ↓reduceIte, not_true_eq_false, not_false_eq_true, and_true, true_and, and_false, false_and, and_self, Bool.not_eq_true, Nat.or_zero, reduceCtorEq, eq_self, Bool.false_eq_true, Bool.true_eq_false, Bool.toNat_true, Bool.toNat_false, Nat.reduceEqDiff, Nat.reduceLeDiff, Nat.reduceLT, h9]
        exact key
      · rw [decide_eq_false h0] at key
        simp (disch := omega) only [F.1, hf, ↓z_m1, z_0, z_1, z_2, z_3, z_4, z_5, z_6, z_7, z_9, z_10, z_11, z_12, z_24, z_31, z_39, z_40, z_41, z_48, z_80, z_81, z_126, z_512, nI_add, pk_mul, nI_leI, nI_ltI, nI_eq, ↓reduceIte, not_true_eq_false, not_false_eq_true, and_true, true_and, and_false, false_and, and_self, Bool.not_eq_true, Nat.or_zero, reduceCtorEq, eq_self, Bool.false_eq_true, Bool.true_eq_false, Bool.toNat_true, Bool.toNat_false, Nat.reduceEqDiff, Nat.reduceLeDiff, Nat.reduceLT, h9, h0]
        exact key
theorem tms_ge : ∀ d i x, i ≤ x → x ≤ i + d → x < 100 → rsq nb al r k s x = al → 0 ≤ tms nb al r k s d i
  | 0, i, x, h1, h2, h4, h3 => by
    obtain rfl : x = i := by omega
    rw [tms, if_pos h3]
    exact nI_pos' (by omega)
  | d + 1, i, x, h1, h2, h4, h3 => by
    rw [tms]
    by_cases h : rsq nb al r k s i = al
    · rw [if_pos h]; exact nI_pos' (by omega)
    · rw [if_neg h]
      refine tms_ge d (i + 1) x (Nat.lt_of_le_of_ne h1 (fun q => h (q ▸ h3))) (by omega) h4 h3
theorem tms_cases : ∀ d i, (tms nb al r k s d i = mI ∧ ∀ x, i ≤ x → x ≤ i + d → ¬ rsq nb al r k s x = al) ∨ ∃ x, i ≤ x ∧ x ≤ i + d ∧ tms nb al r k s d i = nI x ∧ rsq nb al r k s x = al
  | 0, i => by
    by_cases h : rsq nb al r k s i = al
    · exact Or.inr ⟨i, Nat.le_refl _, Nat.le_refl _, if_pos h, h⟩
    · refine Or.inl ⟨if_neg h, fun x h1 h2 => ?_⟩
      obtain rfl : x = i := by omega
      exact h
  | d + 1, i => by
    by_cases h : rsq nb al r k s i = al
    · exact Or.inr ⟨i, Nat.le_refl _, by omega, if_pos h, h⟩
    · rw [tms, if_neg h]
      rcases tms_cases d (i + 1) with ⟨h1, h2⟩ | ⟨x, h1, h2, h3, h4⟩
      · refine Or.inl ⟨h1, fun x g1 g2 => ?_⟩
        by_cases e : x = i
        · rw [e]; exact h
        · exact h2 x (by omega) (by omega)
      · exact Or.inr ⟨x, by omega, by omega, h3, h4⟩
theorem mI_neg : ¬ 0 ≤ mI := by decide
theorem tms_snoc : ∀ d i, i + d < 100 → tms nb al r k s (d + 1) i = if 0 ≤ tms nb al r k s d i then tms nb al r k s d i else if rsq nb al r k s (i + d + 1) = al then nI (i + d + 1) else mI
  | 0, i, hi => by
    by_cases h : rsq nb al r k s i = al
    · have e1 : tms nb al r k s 0 i = nI i := if_pos h
      have e2 : tms nb al r k s (0 + 1) i = nI i := if_pos h
      rw [e1, e2, if_pos (nI_pos' (by omega))]
    · have e1 : tms nb al r k s 0 i = mI := if_neg h
      have e2 : tms nb al r k s (0 + 1) i = tms nb al r k s 0 (i + 1) := if_neg h
      rw [e1, e2, if_neg mI_neg]
      rfl
  | d + 1, i, hi => by
    by_cases h : rsq nb al r k s i = al
    · have e1 : ∀ d, tms nb al r k s (d + 1) i = nI i := fun d => if_pos h
      rw [e1, e1, if_pos (nI_pos' (by omega))]
    · have e1 : ∀ d, tms nb al r k s (d + 1) i = tms nb al r k s d (i + 1) := fun d => if_neg h
      rw [e1, e1, tms_snoc d (i + 1) (by omega), show i + 1 + d + 1 = i + (d + 1) + 1 by omega]
theorem tms_stop {a : Nat} (ha : a < 50) (h : ∀ x, a ≤ x → rsq nb al r k s x = rsq nb al r k s a) : ∀ d, d < 50 → tms nb al r k s (a + d) 0 = tms nb al r k s a 0
  | 0, _ => rfl
  | d + 1, hd => by
    rw [show a + (d + 1) = (a + d) + 1 by omega, tms_snoc _ _ (by omega), tms_stop ha h d (by omega)]
    rcases tms_cases (nb := nb) (al := al) (r := r) (k := k) (s := s) a 0 with ⟨h1, h2⟩ | ⟨x, h1, h2, h3, h4⟩
    · rw [h1, if_neg mI_neg, if_neg (by rw [h _ (by omega)]; exact h2 a (by omega) (by omega))]
    · rw [h3, if_pos (nI_pos' (by omega))]
theorem su_su (σ : zSt) (a i : Nat) (v w : Int32) : su (su σ a i v) a i w = su σ a i w := by
  funext b j
  rw [su_ap, su_ap, su_ap]
  by_cases h : b = a ∧ j = i
  · rw [if_pos h, if_pos h]
  · rw [if_neg h, if_neg h, if_neg h]
def Ms (σ : zSt) (nb : Nat → Nat) (al r k : Nat) : Prop := σ 75 14 = nI al ∧ (∀ i, i < 9 → σ 83 i = nI (nb i)) ∧ σ 75 4 = nI r ∧ σ 75 5 = nI k
theorem mcl_step {σ : zSt} (M : Ms σ nb al r k) (G : Gr nb al) (hr : r ≤ 4) (hk : k < 100) (hs : sub s al) (n i : Nat) (hi : i < 50) : M_closes_c35 (M_closes_c24 n) (nI (rsq nb al r k s i)) (nI i) (su σ 75 15 (tms nb al r k s i 0)) = M_closes_c24 n (nI (rsq nb al r k s (i + 1))) (nI (rsq nb al r k s i)) (nI (i + 1)) (su σ 75 15 (tms nb al r k s (i + 1) 0)) := by
  have hal := G.1
  have l2 := sub_le (rsq_in (r := r) (k := k) G hs (i + 1))
  obtain ⟨h14, h83, h4, h5⟩ := M
  have e := mrd_ok (σ := su σ 75 15 (tms nb al r k s i 0)) (i := i) (by rw [su_ap]; exact h14) (fun j hj => by rw [su_ap]; exact h83 j hj) G (rsq_in (r := r) (k := k) G hs i) hr hk (by omega)
  have e2 : xnx nb al r k (rsq nb al r k s i) (decide (i = 0)) = rsq nb al r k s (i + 1) := rfl
  rw [e2] at e
  have s4 : su σ 75 15 (tms nb al r k s i 0) 75 4 = nI r := by rw [su_ap]; exact h4
  have s5 : su σ 75 15 (tms nb al r k s i 0) 75 5 = nI k := by rw [su_ap]; exact h5
  have s14 : su σ 75 15 (tms nb al r k s i 0) 75 14 = nI al := by rw [su_ap]; exact h14
  have s15 : su σ 75 15 (tms nb al r k s i 0) 75 15 = tms nb al r k s i 0 := by rw [su_ap]; rfl
  unfold M_closes_c35
  rw [s4, s5, e, ob_some, s15, s14]
  rw [tms_snoc i 0 (by omega), Nat.zero_add]
  unfold M_closes_c76 M_closes_c80
  rw [s15]
  by_cases h : 0 ≤ tms nb al r k s i 0
  · rw [if_pos h, if_pos h, zlet_ap, su_su, nI_1]
  · rw [if_neg h, if_neg h]
    by_cases h2 : rsq nb al r k s (i + 1) = al
    · rw [if_neg (fun q => q (by rw [h2])), if_pos h2, zlet_ap, su_su, nI_1, h2]
    · rw [if_pos (fun q => h2 ((nI_inj (by omega) (by omega)).mp q)), if_neg h2, zlet_ap, su_su, nI_1]
      have : tms nb al r k s i 0 = mI := by
        rcases tms_cases (nb := nb) (al := al) (r := r) (k := k) (s := s) i 0 with ⟨h1, _⟩ | ⟨x, h1, h3, h4, _⟩
        · exact h1
        · exact absurd (by rw [h4]; exact nI_pos' (by omega)) h
      rw [this]
theorem mcl_loop {σ : zSt} (M : Ms σ nb al r k) (G : Gr nb al) (hr : r ≤ 4) (hk : k < 100) (hs : sub s al) : ∀ (d n j : Nat), j + d = 9 → 1 ≤ j → d < n → M_closes_c24 n (nI (rsq nb al r k s (j + 1))) (nI (rsq nb al r k s j)) (nI (j + 1)) (su σ 75 15 (tms nb al r k s (j + 1) 0)) = some (nI (rsq nb al r k s 9), su σ 75 15 (tim nb al r k s))
  | d, 0, j, _, _, hn => absurd hn (Nat.not_lt_zero _)
  | d, n + 1, j, hj, hj1, hn => by
    have hal := G.1
    have l1 := sub_le (rsq_in (r := r) (k := k) G hs j)
    have l2 := sub_le (rsq_in (r := r) (k := k) G hs (j + 1))
    rw [M_closes_c24]
    by_cases h : rsq nb al r k s (j + 1) = rsq nb al r k s j
    · rw [if_neg (fun q => q (by rw [h])), if_pos (show ¬ nI (j + 1) = 1 from fun q => by have := (nI_inj (a := j + 1) (b := 1) (by omega) (by omega)).mp q; omega)]
      rw [rsq_at9 G (by omega) h, h]
      have e1 : tms nb al r k s (j + 1) 0 = tms nb al r k s j 0 := tms_stop (by omega) (fun x hx => by have := (rsq_fix G h (x - j)).2; rw [show j + (x - j) = x by omega] at this; exact this) 1 (by omega)
      have e2 : tms nb al r k s (j + d) 0 = tms nb al r k s j 0 := tms_stop (by omega) (fun x hx => by have := (rsq_fix G h (x - j)).2; rw [show j + (x - j) = x by omega] at this; exact this) d (by omega)
      rw [hj] at e2
      rw [e1, ← e2]
      rfl
    · rw [if_pos (show ¬ _ from fun q => h ((nI_inj (by omega) (by omega)).mp q)), mcl_step M G hr hk hs n (j + 1) (by omega)]
      match d, hj with
      | 0, hj =>
        obtain rfl : j = 9 := by omega
        exact absurd (rsq_ge9 G hs (by omega)) h
      | d + 1, hj => exact mcl_loop M G hr hk hs d n (j + 1) (by omega) (by omega) (by omega)
theorem mcl_ok {σ : zSt} (M : Ms σ nb al r k) (G : Gr nb al) (hr : r ≤ 4) (hk : k < 100) (hs : sub s al) : M_closes (nI s) σ = some (nI (rsq nb al r k s 9), su σ 75 15 (tim nb al r k s)) := by
  have hal := G.1
  have l1 := sub_le hs
  have key : ∀ t, t = tms nb al r k s 0 0 → M_closes_c18 (nI s) (-1) t σ = some (nI (rsq nb al r k s 9), su σ 75 15 (tim nb al r k s)) := by
    rintro t rfl
    unfold M_closes_c18
    have st := fun n i hi => mcl_step M G hr hk hs n i hi
    rw [zlet_ap, show zF = 4094 + 1 + 1 from rfl, M_closes_c24]
    have h1 : ¬ nI s = -1 := fun q => absurd (q ▸ nI_pos' (by omega) : (0 : Int32) ≤ -1) (by decide)
    rw [if_pos h1]
    have s0 := st (4094 + 1) 0 (by omega)
    have z0 : nI 0 = 0 := rfl
    rw [show rsq nb al r k s 0 = s from rfl, z0] at s0
    rw [s0, M_closes_c24]
    have s1 := st 4094 1 (by omega)
    have key := mcl_loop M G hr hk hs 8 4094 1 rfl (Nat.le_refl _) (by decide)
    by_cases h : nI (rsq nb al r k s (0 + 1)) = nI s
    · rw [if_neg (fun q => q h), if_neg (show ¬ ¬ nI (0 + 1) = 1 from fun q => q rfl)]
      exact s1.trans key
    · rw [if_pos h]
      exact s1.trans key
  unfold M_closes
  rw [M.1]
  by_cases h : s = al
  · rw [if_neg (fun q => q (by rw [h]))]
    exact key 0 (by rw [tms]; exact (if_pos h).symm)
  · rw [if_pos (fun q => h ((nI_inj (by omega) (by omega)).mp q))]
    exact key (-1) (by rw [tms]; exact (if_neg h).symm)
end RS2

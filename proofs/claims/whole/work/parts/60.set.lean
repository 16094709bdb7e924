/-! PURE: one thing of the graph's data is set, on both sides -/
def upT (T : Nat → Nat → Int32) (i j : Nat) (v : Int32) : Nat → Nat → Int32 := fun a b => if (a = i ∧ b = j) ∨ (a = j ∧ b = i) then v else T a b
def upD (D : yD) (w i j : Nat) (v : Int32) : yD :=
  if w = 0 then (dn D, dr D, dk D, dp D, upT (dT D) i j v, dK D, dC D)
  else if w = 1 then (dn D, dr D, dk D, dp D, dT D, updN (dK D) i v.toNatClampNeg, dC D)
  else if w = 2 then (dn D, dr D, dk D, dp D, dT D, dK D, updN (dC D) i v.toNatClampNeg)
  else if w = 3 then (dn D, v.toNatClampNeg / 10, v.toNatClampNeg % 10, dp D, dT D, dK D, dC D)
  else (dn D, dr D, dk D, v.toNatClampNeg, dT D, dK D, dC D)
theorem upD_n (D : yD) (w i j : Nat) (v : Int32) : dn (upD D w i j v) = dn D := by
  unfold upD
  split
  · rfl
  · split
    · rfl
    · split
      · rfl
      · split <;> rfl
theorem upD_V {D : yD} {w i j : Nat} {v : Int32} (V : Vd D) (h : okv (dn D) w i j v) : Vd (upD D w i j v) := by
  obtain ⟨h1, h2, h3, h4, h5, h6, h7, h8⟩ := V
  rcases h with ⟨rfl, hi, hj, he⟩ | ⟨rfl, a, ha, rfl⟩ | ⟨rfl, a, ha, rfl⟩ | ⟨rfl, r, k, hr, hk1, hk2, rfl⟩ | ⟨rfl, p, hp, rfl⟩
  · refine ⟨h1, h2, h3, fun a b => ?_, fun a b hb => ?_, fun a b => ?_, h7, h8⟩
    · show upT (dT D) i j v a b = upT (dT D) i j v b a
      unfold upT
      by_cases q : (a = i ∧ b = j) ∨ (a = j ∧ b = i)
      · rw [if_pos q, if_pos (q.elim (fun w => Or.inr ⟨w.2, w.1⟩) (fun w => Or.inl ⟨w.2, w.1⟩))]
      · rw [if_neg q, if_neg (fun w => q (w.elim (fun w => Or.inr ⟨w.2, w.1⟩) (fun w => Or.inl ⟨w.2, w.1⟩)))]
        exact h4 a b
    · show upT (dT D) i j v a b = 0
      have hb2 : dn D ≤ a := hb
      unfold upT
      rw [if_neg (by omega)]
      exact h5 a b hb2
    · show ent (upT (dT D) i j v a b)
      unfold upT
      split
      · exact he
      · exact h6 a b
  · refine ⟨h1, h2, h3, h4, h5, h6, fun x => ?_, h8⟩
    show updN (dK D) i (nI a).toNatClampNeg x ≤ 4
    unfold updN
    rw [nI_clamp (by omega)]
    split
    · exact ha
    · exact h7 x
  · refine ⟨h1, h2, h3, h4, h5, h6, h7, fun x => ?_⟩
    show updN (dC D) i (nI a).toNatClampNeg x ≤ 9
    unfold updN
    rw [nI_clamp (by omega)]
    split
    · exact ha
    · exact h8 x
  · have e : (nI (10 * r + k)).toNatClampNeg = 10 * r + k := nI_clamp (by omega)
    refine ⟨h1, ⟨?_, ?_, ?_⟩, h3, h4, h5, h6, h7, h8⟩
    · show (nI (10 * r + k)).toNatClampNeg / 10 ≤ 4
      rw [e]; omega
    · show 1 ≤ (nI (10 * r + k)).toNatClampNeg % 10
      rw [e]; omega
    · show (nI (10 * r + k)).toNatClampNeg % 10 ≤ 4
      rw [e]; omega
  · have hp31 : p ≤ 31 := by unfold prim at hp; omega
    refine ⟨h1, h2, ?_, h4, h5, h6, h7, h8⟩
    show prim (nI p).toNatClampNeg
    rw [nI_clamp (by omega)]
    exact hp
theorem nbm_0 {T : Nat → Nat → Int32} {i j : Nat} (hi : i < 9) (hj : j < 9) (hij : i ≠ j) : sd (nbm T i) (2 ^ j) = nbm (upT T i j 0) i ∧ sd (nbm T j) (2 ^ i) = nbm (upT T i j 0) j := by
  constructor
  · refine bits_ext fun l => ?_
    rw [sd_bit', nbm_bit, nbm_bit, two_bit]
    unfold upT
    by_cases e : l = j
    · subst e; simp
    · simp [e, hij, Ne.symm e]
  · refine bits_ext fun l => ?_
    rw [sd_bit', nbm_bit, nbm_bit, two_bit]
    unfold upT
    by_cases e : l = i
    · subst e; simp
    · simp [e, Ne.symm hij, Ne.symm e]
theorem nbm_1 {T : Nat → Nat → Int32} {i j : Nat} {v : Int32} (hi : i < 9) (hj : j < 9) (hij : i ≠ j) (hv : ¬ v = 0) : nbm T i ||| 2 ^ j = nbm (upT T i j v) i ∧ nbm T j ||| 2 ^ i = nbm (upT T i j v) j := by
  constructor
  · refine bits_ext fun l => ?_
    rw [or_bit, nbm_bit, nbm_bit, two_bit]
    unfold upT
    by_cases e : l = j
    · subst e; simp [hj, hv, Ne.symm hij]
    · simp [e, hij, Ne.symm e]
  · refine bits_ext fun l => ?_
    rw [or_bit, nbm_bit, nbm_bit, two_bit]
    unfold upT
    by_cases e : l = i
    · subst e; simp [hi, hv, hij]
    · simp [e, Ne.symm hij, Ne.symm e]
theorem nbm_x {T : Nat → Nat → Int32} {i j x : Nat} {v : Int32} (h1 : x ≠ i) (h2 : x ≠ j) : nbm (upT T i j v) x = nbm T x := by
  refine bits_ext fun l => ?_
  rw [nbm_bit, nbm_bit]
  unfold upT
  simp [h1, h2]
theorem nbm_d {T : Nat → Nat → Int32} {i x : Nat} {v : Int32} : nbm (upT T i i v) x = nbm T x := by
  refine bits_ext fun l => ?_
  rw [nbm_bit, nbm_bit]
  unfold upT
  by_cases h : x = i
  · subst h
    by_cases e : l = x
    · subst e; simp
    · simp [e]
  · simp [h]

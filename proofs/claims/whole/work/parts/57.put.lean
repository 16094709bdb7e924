/-! PURE: put, row -/
/-- all that is kept but the rows -/
def pRw (a i : Nat) : Bool := fC1 a i || fCk a i || fM1 a i || fMk a i || fK0 a i || fHi a i || fTp a i || fTr a i || fCe a i
theorem In_rw {D : yD} {σ σ2 : zSt} (S : Sm pRw σ σ2) (h : In D σ) (R : Rw σ2) : In D σ2 := by
  have s : Sm fC1 σ σ2 ∧ Sm fCk σ σ2 ∧ Sm fM1 σ σ2 ∧ Sm fMk σ σ2 ∧ Sm fK0 σ σ2 ∧ Sm fHi σ σ2 ∧ Sm fTp σ σ2 ∧ Sm fTr σ σ2 ∧ Sm fCe σ σ2 := by
    refine ⟨fun a i h => ?_, fun a i h => ?_, fun a i h => ?_, fun a i h => ?_, fun a i h => ?_, fun a i h => ?_, fun a i h => ?_, fun a i h => ?_, fun a i h => ?_⟩
    all_goals refine S a i ?_
    all_goals unfold pRw
    all_goals rw [h]
    all_goals simp
  obtain ⟨s1, s2, s3, s4, s5, s6, s8, s9, s10⟩ := s
  obtain ⟨h1, h2, h3, h4, h5, h6, h7, h8, h9⟩ := h
  exact ⟨h1, CN1_sm s1 h2, MN1_sm s3 h3, Kp_sm s5 s2 s4 h4, Hi_sm s6 h5, R, Tp_sm s8 h7, Tr_sm s9 h8, Ce_sm s10 h9⟩
theorem pRw_66 : ∀ l, l < 3 → ∀ i, pRw (66 + 2 * l) i = false := fun l hl i => by
  rcases (by omega : l = 0 ∨ l = 1 ∨ l = 2) with rfl | rfl | rfl <;> rfl
theorem pRw_65 : ∀ l, l < 3 → ∀ i, pRw (65 + 2 * l) i = false := fun l hl i => by
  rcases (by omega : l = 0 ∨ l = 1 ∨ l = 2) with rfl | rfl | rfl <;> rfl
theorem q_put (x y z : Int32) : Q2 (X_put x y z) (M_put x y z) := by
  rintro σ ⟨D, I⟩
  have hRw := I.2.2.2.2.2.1
  unfold X_put M_put
  rcases row_cases x with h | ⟨l, rfl, hl, h⟩
  · refine ⟨-1, σ, σ, ?_, ?_, D, I⟩
    · rw [(h σ).1, ob_some, zmo_nn]
    · rw [(h σ).2, ob_some, if_neg (fun q => q rfl)]
  obtain ⟨_, k1, k2, k3, k4⟩ := rk_l l hl
  rw [(h σ).1, ob_some, zmo_sm, k1, k2]
  simp only [cond_true]
  rcases hRw l hl with ⟨r1, r2⟩ | ⟨m, m1, r1, r2, r3, r4⟩
  · refine ⟨-11, σ, σ, ?_, ?_, D, I⟩
    · rw [r1, if_neg (show ¬ 0 ≤ mI from mI_neg)]
    · rw [(h σ).2, ob_some, if_pos i10, zl88 hl, r2, ob_some, if_neg (fun q => q rfl)]
  · rw [r1, if_pos (nI_pos' (by omega))]
    unfold Row_hasPlace
    rw [k1, r1]
    rcases pk_ix y (n := m) (by omega) with hy | hy | ⟨i, hi, rfl⟩
    · refine ⟨-13, σ, σ, ?_, ?_, D, I⟩
      · rw [if_pos hy, ob_some, if_neg (fun q => q rfl)]
      · rw [(h σ).2, ob_some, if_pos i10, zl88 hl, r2, ob_some, if_pos i10, ld89 hl, r3, ob_some, show M_in y 0 (nI m - 1) σ = some 0 from min_lo hy, ob_some, if_neg (fun q => q rfl)]
    · have hy0 : ¬ y < 0 := fun q => by
        have e0 : (0 : Int32).toInt = 0 := rfl
        rw [Int32.lt_iff_toInt_lt] at q
        rw [Int32.le_iff_toInt_le, nI_toInt (by omega)] at hy
        omega
      have hm1 : nI m - 1 < y := by
        rw [Int32.le_iff_toInt_le, nI_toInt (by omega)] at hy
        rw [Int32.lt_iff_toInt_lt, show (nI m - 1).toInt = (m : Int) - (1 : Nat) from pk_sub_toInt (by omega) (by decide)]
        omega
      refine ⟨-13, σ, σ, ?_, ?_, D, I⟩
      · rw [if_neg hy0, cond_true, if_pos hy, ob_some, if_neg (fun q => q rfl)]
      · rw [(h σ).2, ob_some, if_pos i10, zl88 hl, r2, ob_some, if_pos i10, ld89 hl, r3, ob_some, show M_in y 0 (nI m - 1) σ = some 0 from min_hi hy0 hm1, ob_some, if_neg (fun q => q rfl)]
    · have e66 : ∀ a j, a ≠ 66 + 2 * l → su σ (66 + 2 * l) i z a j = σ a j := fun a j q => by rw [su_ap, if_neg (fun w => q w.1)]
      refine ⟨1, su σ (66 + 2 * l) i z, su (su σ (66 + 2 * l) i z) 90 (40 * l + i) z, ?_, ?_, D, In_rw (Sm_tr (Sm_su (pRw_66 l hl i)) (Sm_su rfl)) I (fun l2 hl2 => ?_)⟩
      · rw [if_neg (nI_pos (by omega)), cond_true, if_neg (nI_ge hi (by omega)), ob_some, if_pos i10, zst_at k3 k4 (by omega : i < 40) (by decide), ob_some]
      · rw [(h _).2, ob_some, if_pos i10, zl88 hl, e66 _ _ (by omega), r2, ob_some, if_pos i10, ld89 hl, e66 _ _ (by omega), r3, ob_some, show nI m - 1 = nI (m - 1) from pk_sub (b := 1) (by omega), show M_in (nI i) 0 (nI (m - 1)) _ = some 1 from min_ok (Nat.zero_le _) (by omega) (by omega), ob_some, if_pos i10, h40, st90 (by omega), ob_some]
      · have e90 : ∀ a j, a ≠ 66 + 2 * l → a ≠ 90 → su (su σ (66 + 2 * l) i z) 90 (40 * l + i) z a j = σ a j := fun a j q q2 => by rw [su_ap, if_neg (fun w => q2 w.1), e66 a j q]
        rcases hRw l2 hl2 with ⟨t1, t2⟩ | ⟨m2, n1, t1, t2, t3, t4⟩
        · refine Or.inl ⟨?_, ?_⟩
          · rw [e90 _ _ (by omega) (by omega)]; exact t1
          · rw [e90 _ _ (by omega) (by omega)]; exact t2
        · refine Or.inr ⟨m2, n1, ?_, ?_, ?_, fun j hj => ?_⟩
          · rw [e90 _ _ (by omega) (by omega)]; exact t1
          · rw [e90 _ _ (by omega) (by omega)]; exact t2
          · rw [e90 _ _ (by omega) (by omega)]; exact t3
          · rw [su_ap, if_neg (fun w => absurd w.1 (by omega)), su_ap, su_ap]
            by_cases q : l2 = l
            · subst q
              by_cases q2 : j = i
              · subst q2
                rw [if_pos ⟨rfl, rfl⟩, if_pos ⟨rfl, rfl⟩]
              · rw [if_neg (fun w => q2 w.2), if_neg (fun w => absurd w.2 (by omega)), e66 _ _ (by omega)]
                exact t4 j hj
            · rw [if_neg (fun w => absurd w.1 (by omega)), if_neg (fun w => absurd w.2 (by omega)), e66 _ _ (by omega)]
              exact t4 j hj

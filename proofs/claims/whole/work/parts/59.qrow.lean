/-! PURE: row, both sides -/
theorem q_row (x y : Int32) : Q2 (X_row x y) (M_row x y) := by
  rintro σ ⟨D, I⟩
  have hRw := I.2.2.2.2.2.1
  rcases row_cases x with h | ⟨l, rfl, hl, h⟩
  · refine ⟨-1, σ, σ, ?_, ?_, D, I⟩
    · unfold X_row
      rw [(h σ).1, ob_some, zmo_nn]
    · unfold M_row
      rw [(h σ).2, ob_some, if_pos rfl]
  obtain ⟨_, k1, k2, k3, k4⟩ := rk_l l hl
  by_cases h1 : y ≤ 40
  · by_cases h2 : -1 ≤ y
    · obtain ⟨f, e, hf⟩ := fil_ok (v := 0) (su σ (65 + 2 * l) 0 y) k3 k4 (by decide)
      obtain ⟨f2, e2, g1, g2⟩ := mrow_ok (σ := sw (su σ (65 + 2 * l) 0 y) (66 + 2 * l) f) hl y h1 h2
      have eA : ∀ a j, a ≠ 65 + 2 * l → a ≠ 66 + 2 * l → sw (su σ (65 + 2 * l) 0 y) (66 + 2 * l) f a j = σ a j := fun a j q q2 => by rw [sw_ap, if_neg q2, su_ap, if_neg (fun w => q w.1)]
      refine ⟨1, _, _, ?_, e2, D, In_rw (Sm_tr (Sm_tr (Sm_su (pRw_65 l hl 0)) (Sm_sw (pRw_66 l hl))) (Sm_tr (Sm_tr (Sm_su rfl) (Sm_su rfl)) (Sm_sw (fun _ => rfl)))) I (fun l2 hl2 => ?_)⟩
      · unfold X_row
        rw [(h σ).1, ob_some, zmo_sm, if_pos h1, if_pos h2, k1, k2, cond_true, zlet_ap, cond_true, e, ob_some]
      · by_cases q : l2 = l
        · subst q
          by_cases hy : y < 0
          · have ey : y = mI := by
              apply Int32.toInt_inj.mp
              have e0 : (0 : Int32).toInt = 0 := rfl
              have e1 : mI.toInt = -1 := rfl
              have e2 : (-1 : Int32).toInt = -1 := rfl
              rw [Int32.lt_iff_toInt_lt] at hy
              rw [Int32.le_iff_toInt_le] at h2
              omega
            refine Or.inl ⟨?_, ?_⟩
            · rw [sw_ap, if_neg (by omega), su_ap, if_neg (fun w => absurd w.1 (by omega)), su_ap, if_neg (fun w => absurd w.1 (by omega)), sw_ap, if_neg (by omega), su_ap, if_pos ⟨rfl, rfl⟩, ey]
            · rw [sw_ap, if_neg (by decide), su_ap, if_neg (fun w => absurd w.1 (by decide)), su_ap, if_pos ⟨rfl, rfl⟩, if_pos hy]
          · obtain ⟨m, hm, rfl⟩ := nI_of2 (n := 40) (M := 40) rfl hy h1
            refine Or.inr ⟨m, hm, ?_, ?_, ?_, fun j hj => ?_⟩
            · rw [sw_ap, if_neg (by omega), su_ap, if_neg (fun w => absurd w.1 (by omega)), su_ap, if_neg (fun w => absurd w.1 (by omega)), sw_ap, if_neg (by omega), su_ap, if_pos ⟨rfl, rfl⟩]
            · rw [sw_ap, if_neg (by decide), su_ap, if_neg (fun w => absurd w.1 (by decide)), su_ap, if_pos ⟨rfl, rfl⟩, if_neg hy]
            · rw [sw_ap, if_neg (by decide), su_ap, if_pos ⟨rfl, rfl⟩, if_pos (nI_pos' (by omega))]
            · rw [sw_ap, if_neg (by omega), su_ap, if_neg (fun w => absurd w.1 (by omega)), su_ap, if_neg (fun w => absurd w.1 (by omega)), sw_ap, if_pos rfl, sw_ap, if_pos rfl, hf j (by omega), g1 j (by omega)]
        · have eB : ∀ a j, a ≠ 65 + 2 * l → a ≠ 66 + 2 * l → a ≠ 90 → (a = 88 → j ≠ l) → (a = 89 → j ≠ l) → sw (su (su (sw (su σ (65 + 2 * l) 0 y) (66 + 2 * l) f) 88 l (if y < 0 then 0 else 1)) 89 l (if 0 ≤ y then y else 0)) 90 f2 a j = σ a j := fun a j q1 q2 q3 q4 q5 => by
            rw [sw_ap, if_neg q3, su_ap, if_neg (fun w => q5 w.1 w.2), su_ap, if_neg (fun w => q4 w.1 w.2), eA a j q1 q2]
          rcases hRw l2 hl2 with ⟨t1, t2⟩ | ⟨m2, n1, t1, t2, t3, t4⟩
          · refine Or.inl ⟨?_, ?_⟩
            · rw [eB _ _ (by omega) (by omega) (by omega) (by omega) (by omega)]; exact t1
            · rw [eB _ _ (by omega) (by omega) (by omega) (by omega) (by omega)]; exact t2
          · refine Or.inr ⟨m2, n1, ?_, ?_, ?_, fun j hj => ?_⟩
            · rw [eB _ _ (by omega) (by omega) (by omega) (by omega) (by omega)]; exact t1
            · rw [eB _ _ (by omega) (by omega) (by omega) (by omega) (by omega)]; exact t2
            · rw [eB _ _ (by omega) (by omega) (by omega) (by omega) (by omega)]; exact t3
            · rw [eB _ _ (by omega) (by omega) (by omega) (by omega) (by omega), sw_ap, if_pos rfl, g2 _ (by omega), eA _ _ (by omega) (by omega)]
              exact t4 j hj
    · refine ⟨-14, σ, σ, ?_, ?_, D, I⟩
      · unfold X_row
        rw [(h σ).1, ob_some, zmo_sm, if_pos h1, if_neg h2]
      · unfold M_row
        rw [(h σ).2, ob_some, if_neg i10, if_pos h1, if_neg h2]
  · refine ⟨-1, σ, σ, ?_, ?_, D, I⟩
    · unfold X_row
      rw [(h σ).1, ob_some, zmo_sm, if_neg h1]
    · unfold M_row
      rw [(h σ).2, ob_some, if_neg i10, if_neg h1]

/-! PURE: the class sets a value -/
theorem rows_up {σ : zSt} {T : Nat → Nat → Int32} {i j : Nat} {v : Int32} (hi : i < 9) (hj : j < 9) (h : ∀ x, x < 9 → ∀ y, y < 9 → σ (6 + x) y = T x y) : ∀ x, x < 9 → ∀ y, y < 9 → su (su σ (6 + i) j v) (6 + j) i v (6 + x) y = upT T i j v x y := fun x hx y hy => by
  unfold upT
  rw [su_ap, su_ap]
  by_cases q : (x = i ∧ y = j) ∨ (x = j ∧ y = i)
  · rw [if_pos q]
    rcases q with q | q
    · by_cases q2 : 6 + x = 6 + j ∧ y = i
      · rw [if_pos q2]
      · rw [if_neg q2, if_pos (by omega)]
    · rw [if_pos (by omega)]
  · rw [if_neg q, if_neg (by omega), if_neg (by omega)]
    exact h x hx y hy
theorem xsn_ok {σ : zSt} {D : yD} {i j : Nat} {v : Int32} (C : CN 1 2 3 4 6 D σ) (hi : i < 9) (hj : j < 9) : ∃ σ2, Net_setNumber (nI i) (nI j) v σ = some σ2 ∧ CN 1 2 3 4 6 (upD D 0 i j v) σ2 ∧ ∀ a q, fC1 a q = false → σ2 a q = σ a q := by
  obtain ⟨⟨c1, c2, c3, c4⟩, c5, c6, c7, c8⟩ := C
  have fo : ∀ a q, fC1 a q = false → ∀ b, 1 ≤ b → b ≤ 14 → a ≠ b := fun a q h b h1 h2 e => by
    subst e
    rw [fC1_in h1 h2] at h
    cases h
  have e4 : ∀ a q, a ≠ 6 + i → a ≠ 6 + j → su (su σ (6 + i) j v) (6 + j) i v a q = σ a q := fun a q h1 h2 => by
    rw [su_ap, if_neg (fun w => h2 w.1), su_ap, if_neg (fun w => h1 w.1)]
  unfold Net_setNumber
  rw [lr6 hi, ob_some, str6 hi hj, ob_some, lr6 hj, ob_some, str6 hj hi, ob_some]
  by_cases hij : i = j
  · subst hij
    rw [if_neg (fun q => q rfl)]
    refine ⟨_, rfl, ⟨⟨?_, ?_, ?_, ?_⟩, fun x hx => ?_, fun x hx => ?_, fun x hx => ?_, rows_up hi hi c8⟩, fun a q h => e4 a q (fo a q h _ (by omega) (by omega)) (fo a q h _ (by omega) (by omega))⟩
    · rw [e4 _ _ (by omega) (by omega)]; exact c1
    · rw [e4 _ _ (by omega) (by omega)]; exact c2
    · rw [e4 _ _ (by omega) (by omega)]; exact c3
    · rw [e4 _ _ (by omega) (by omega)]; exact c4
    · rw [e4 _ _ (by omega) (by omega), c5 x hx]
      show _ = nI (nbm (upT (dT D) i i v) x)
      rw [nbm_d]
    · rw [e4 _ _ (by omega) (by omega)]; exact c6 x hx
    · rw [e4 _ _ (by omega) (by omega)]; exact c7 x hx
  · have hne : ¬ nI i = nI j := fun q => hij ((nI_inj (by omega) (by omega)).mp q)
    have near : ∀ A B, A = nbm (upT (dT D) i j v) i → B = nbm (upT (dT D) i j v) j → CN 1 2 3 4 6 (upD D 0 i j v) (su (su (su (su σ (6 + i) j v) (6 + j) i v) 2 i (nI A)) 2 j (nI B)) ∧ ∀ a q, fC1 a q = false → su (su (su (su σ (6 + i) j v) (6 + j) i v) 2 i (nI A)) 2 j (nI B) a q = σ a q := fun A B hA hB => by
      have e2 : ∀ a q, a ≠ 2 → su (su (su (su σ (6 + i) j v) (6 + j) i v) 2 i (nI A)) 2 j (nI B) a q = su (su σ (6 + i) j v) (6 + j) i v a q := fun a q h => by
        rw [su_ap, if_neg (fun w => h w.1), su_ap, if_neg (fun w => h w.1)]
      refine ⟨⟨⟨?_, ?_, ?_, ?_⟩, fun x hx => ?_, fun x hx => ?_, fun x hx => ?_, fun x hx y hy => ?_⟩, fun a q h => ?_⟩
      · rw [e2 _ _ (by omega), e4 _ _ (by omega) (by omega)]; exact c1
      · rw [e2 _ _ (by omega), e4 _ _ (by omega) (by omega)]; exact c2
      · rw [e2 _ _ (by omega), e4 _ _ (by omega) (by omega)]; exact c3
      · rw [e2 _ _ (by omega), e4 _ _ (by omega) (by omega)]; exact c4
      · show _ = nI (nbm (upT (dT D) i j v) x)
        rw [su_ap, su_ap]
        by_cases q1 : x = j
        · rw [if_pos ⟨rfl, q1⟩, q1, hB]
        · rw [if_neg (fun w => q1 w.2)]
          by_cases q2 : x = i
          · rw [if_pos ⟨rfl, q2⟩, q2, hA]
          · rw [if_neg (fun w => q2 w.2), e4 _ _ (by omega) (by omega), c5 x hx, nbm_x q2 q1]
      · rw [e2 _ _ (by omega), e4 _ _ (by omega) (by omega)]; exact c6 x hx
      · rw [e2 _ _ (by omega), e4 _ _ (by omega) (by omega)]; exact c7 x hx
      · rw [e2 _ _ (by omega)]; exact rows_up hi hj c8 x hx y hy
      · rw [e2 _ _ (fo a q h _ (by omega) (by omega)), e4 _ _ (fo a q h _ (by omega) (by omega)) (fo a q h _ (by omega) (by omega))]
    have n1 : su (su σ (6 + i) j v) (6 + j) i v 2 i = nI (nbm (dT D) i) := by rw [e4 _ _ (by omega) (by omega)]; exact c5 i hi
    have n2 : ∀ A, su (su (su σ (6 + i) j v) (6 + j) i v) 2 i A 2 j = nI (nbm (dT D) j) := fun A => by rw [su_ap, if_neg (by omega), e4 _ _ (by omega) (by omega)]; exact c5 j hj
    rw [if_pos hne]
    by_cases hv : v = 0
    · rw [if_pos hv, ld2 hi, n1, ob_some, sh1 (by omega), pb_sd, st2 hi, ob_some, ld2 hj, n2, ob_some, sh1 (by omega), pb_sd, st2 hj, ob_some]
      have e := nbm_0 (T := dT D) hi hj hij
      rw [← hv] at e
      obtain ⟨k1, k2⟩ := near _ _ e.1 e.2
      exact ⟨_, rfl, k1, k2⟩
    · rw [if_neg hv, ld2 hi, n1, ob_some, sh1 (by omega), pb_or, st2 hi, ob_some, ld2 hj, n2, ob_some, sh1 (by omega), pb_or, st2 hj, ob_some]
      have e := nbm_1 (T := dT D) hi hj hij hv
      obtain ⟨k1, k2⟩ := near _ _ e.1 e.2
      exact ⟨_, rfl, k1, k2⟩

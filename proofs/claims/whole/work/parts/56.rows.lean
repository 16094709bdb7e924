/-! PURE: rows: row, put, get -/
theorem rk_l : ∀ l, l < 3 → ztr 64 (fun _ => 0) l = 65 + 2 * l ∧ Nat.beq (zkd (65 + 2 * l)) 8 = true ∧ ztg (65 + 2 * l) 1 = 66 + 2 * l ∧ Nat.beq (zkd (66 + 2 * l)) 100 = true ∧ zln (66 + 2 * l) = 40 := by decide +kernel
theorem lr64 {σ : zSt} {l : Nat} (h : l < 3) : zlr σ 64 (nI l) = some (65 + 2 * l) := by
  unfold zlr
  rw [show zre (zkd 64) = true from rfl, show zln 64 = 3 from rfl, zob_ok h (by decide), nI_clamp (by omega)]
  show some (ztr 64 (σ 64) l) = _
  rw [show ztr 64 (σ 64) l = ztr 64 (fun _ => 0) l from rfl, (rk_l l h).1]
theorem row_cases (x : Int32) : (∀ σ, X_rowAt x σ = some none ∧ M_isRow x σ = some 0) ∨ ∃ l, x = nI l ∧ l < 3 ∧ ∀ σ, X_rowAt x σ = some (some (65 + 2 * l)) ∧ M_isRow x σ = some 1 := by
  rcases rng x 0 2 (by decide) (by decide) with h | ⟨h, h2, h3⟩ | ⟨l, _, hl, rfl⟩
  · refine Or.inl fun σ => ⟨if_pos h, ?_⟩
    unfold M_isRow
    rw [show M_in x 0 2 σ = some 0 from min_lo h, ob_some]
    rfl
  · refine Or.inl fun σ => ⟨(if_neg h).trans (if_neg ?_), ?_⟩
    · intro q
      rw [Int32.lt_iff_toInt_lt] at q h2
      have e3 : (3 : Int32).toInt = 3 := rfl
      have e2 : (nI 2).toInt = 2 := rfl
      omega
    · unfold M_isRow
      rw [show M_in x 0 2 σ = some 0 from min_hi h h2, ob_some]
      rfl
  · refine Or.inr ⟨l, rfl, by omega, fun σ => ⟨?_, ?_⟩⟩
    · unfold X_rowAt
      rw [if_neg (nI_pos (by omega)), if_pos (show nI l < 3 from nI_lt (b := 3) (by omega) (by decide)), lr64 (by omega), ob_some]
    · unfold M_isRow
      rw [show M_in (nI l) 0 2 σ = some 1 from min_ok (Nat.zero_le _) hl (by decide), ob_some]
      rfl
theorem zmo_sm {α β : Type} (v : α) (a : β) (f : α → β) : zmo (some v) a f = f v := rfl
theorem zmo_nn {α β : Type} (a : β) (f : α → β) : zmo none a f = a := rfl
theorem h40 {l i : Nat} : (40 : Int32) * nI l + nI i = nI (40 * l + i) := by rw [z_40, pk_mul, nI_add]
theorem g_get (x y : Int32) : Qg (X_get x y) (M_get x y) := by
  intro σ D I
  have hRw := I.2.2.2.2.2.1
  unfold X_get M_get
  rcases row_cases x with h | ⟨l, rfl, hl, h⟩
  · rw [(h σ).1, (h σ).2, ob_some, ob_some, zmo_nn, if_pos rfl]
    exact ⟨_, rfl, rfl⟩
  obtain ⟨_, k1, k2, k3, k4⟩ := rk_l l hl
  rw [(h σ).1, (h σ).2, ob_some, ob_some, zmo_sm, k1, k2, cond_true, cond_true, if_neg i10, zl88 hl]
  unfold Row_hasPlace
  rcases hRw l hl with ⟨r1, r2⟩ | ⟨m, m1, r1, r2, r3, r4⟩
  · rw [k1, r1, r2, ob_some, if_pos rfl]
    refine ⟨-2147483648, ?_, rfl⟩
    by_cases hy : y < 0
    · rw [if_pos hy, ob_some, if_neg (fun q => q rfl)]
    · have : mI ≤ y := by
        have e0 : (0 : Int32).toInt = 0 := rfl
        have e1 : mI.toInt = -1 := rfl
        rw [Int32.lt_iff_toInt_lt] at hy
        rw [Int32.le_iff_toInt_le]
        omega
      rw [if_neg hy, cond_true, if_pos this, ob_some, if_neg (fun q => q rfl)]
  · rw [k1, r1, r2, ob_some, if_neg i10, ld89 hl, r3, ob_some]
    rcases pk_ix y (n := m) (by omega) with hy | hy | ⟨i, hi, rfl⟩
    · rw [if_pos hy, ob_some, if_neg (fun q => q rfl), show M_in y 0 (nI m - 1) σ = some 0 from min_lo hy, ob_some, if_pos rfl]
      exact ⟨_, rfl, rfl⟩
    · have hy0 : ¬ y < 0 := fun q => by
        have e0 : (0 : Int32).toInt = 0 := rfl
        rw [Int32.lt_iff_toInt_lt] at q
        rw [Int32.le_iff_toInt_le, nI_toInt (by omega)] at hy
        omega
      have hm1 : nI m - 1 < y := by
        rw [Int32.le_iff_toInt_le, nI_toInt (by omega)] at hy
        rw [Int32.lt_iff_toInt_lt, show (nI m - 1).toInt = (m : Int) - (1 : Nat) from pk_sub_toInt (by omega) (by decide)]
        omega
      rw [if_neg hy0, cond_true, if_pos hy, ob_some, if_neg (fun q => q rfl), show M_in y 0 (nI m - 1) σ = some 0 from min_hi hy0 hm1, ob_some, if_pos rfl]
      exact ⟨_, rfl, rfl⟩
    · rw [if_neg (nI_pos (by omega)), cond_true, if_neg (nI_ge hi (by omega)), ob_some, if_pos i10, zld_at k3 k4 (by omega : i < 40) (by decide), ob_some, show nI m - 1 = nI (m - 1) from pk_sub (b := 1) (by omega), show M_in (nI i) 0 (nI (m - 1)) σ = some 1 from min_ok (Nat.zero_le _) (by omega) (by omega), ob_some, if_neg i10, h40, ld90 (by omega), ob_some]
      exact ⟨_, rfl, by rw [r4 i hi]⟩

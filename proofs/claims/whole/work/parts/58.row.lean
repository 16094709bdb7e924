/-! PURE: row -/
theorem mrow_fill {σ : zSt} {l : Nat} (hl : l < 3) : ∀ (d m i : Nat) (f : Nat → Int32), i + d = 40 → d < m → (∀ j, j < i → f (40 * l + j) = 0) → (∀ a, (a < 40 * l ∨ 40 * l + 40 ≤ a) → f a = σ 90 a) → ∃ f2, M_row_c55 m (nI l) (nI i) (sw σ 90 f) = some (1, sw σ 90 f2) ∧ (∀ j, j < 40 → f2 (40 * l + j) = 0) ∧ ∀ a, (a < 40 * l ∨ 40 * l + 40 ≤ a) → f2 a = σ 90 a
  | d, 0, i, f, _, hm, _, _ => absurd hm (Nat.not_lt_zero _)
  | 0, m + 1, i, f, hi, _, h1, h2 => by
    obtain rfl : i = 40 := by omega
    exact ⟨f, rfl, h1, h2⟩
  | d + 1, m + 1, i, f, hi, hm, h1, h2 => by
    rw [M_row_c55, if_neg (show ¬ (40 : Int32) ≤ nI i from nI_ge (b := 40) (by omega) (by decide)), h40, st90 (by omega), ob_some, su_sw, nI_1]
    refine mrow_fill hl d m (i + 1) _ (by omega) (by omega) (fun j hj => ?_) (fun a ha => ?_)
    · by_cases e : j = i
      · rw [e, pk_us]
      · rw [pk_un (by omega)]; exact h1 j (by omega)
    · rw [pk_un (by omega)]; exact h2 a ha
/-- the reference's row made anew: what it writes -/
theorem mrow_ok {σ : zSt} {l : Nat} (hl : l < 3) (y : Int32) (h1 : y ≤ 40) (h2 : -1 ≤ y) : ∃ f, M_row (nI l) y σ = some (1, sw (su (su σ 88 l (if y < 0 then 0 else 1)) 89 l (if 0 ≤ y then y else 0)) 90 f) ∧ (∀ j, j < 40 → f (40 * l + j) = 0) ∧ ∀ a, (a < 40 * l ∨ 40 * l + 40 ≤ a) → f a = σ 90 a := by
  have hr : M_isRow (nI l) σ = some 1 := by
    unfold M_isRow
    rw [show M_in (nI l) 0 2 σ = some 1 from min_ok (b := 2) (Nat.zero_le _) (by omega) (by decide), ob_some]
    rfl
  have key : ∀ v w, zbo v = true → ∃ f, M_row_c55 zF (nI l) 0 (su (su σ 88 l v) 89 l w) = some (1, sw (su (su σ 88 l v) 89 l w) 90 f) ∧ (∀ j, j < 40 → f (40 * l + j) = 0) ∧ ∀ a, (a < 40 * l ∨ 40 * l + 40 ≤ a) → f a = σ 90 a := fun v w _ => by
    have e90 : su (su σ 88 l v) 89 l w 90 = σ 90 := by
      funext j
      rw [su_ap, if_neg (fun q => absurd q.1 (by decide)), su_ap, if_neg (fun q => absurd q.1 (by decide))]
    have := mrow_fill (σ := su (su σ 88 l v) 89 l w) hl 40 zF 0 (su (su σ 88 l v) 89 l w 90) rfl (zF_big (by decide)) (fun j hj => absurd hj (Nat.not_lt_zero _)) (fun a _ => rfl)
    rw [sw_self, e90] at this
    exact this
  unfold M_row M_row_c37 M_row_c52
  rw [hr, ob_some, if_neg i10, if_pos h1, if_pos h2]
  by_cases hy : y < 0
  · have hy2 : ¬ 0 ≤ y := Int32.not_le.mpr hy
    rw [if_pos hy, zs88 hl rfl, ob_some, if_neg hy2, st89 hl, ob_some, if_pos hy, if_neg hy2]
    exact key 0 0 rfl
  · have hy2 : 0 ≤ y := Int32.not_lt.mp hy
    rw [if_neg hy, zs88 hl rfl, ob_some, if_pos hy2, st89 hl, ob_some, if_neg hy, if_pos hy2]
    exact key 1 y rfl

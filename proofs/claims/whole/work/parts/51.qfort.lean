/-! PURE: the marks of both, and the answers on forts -/
def fp (D : yD) : Nat → Bool := fb (nbm (dT D)) (dn D)
theorem mkv_3 {p : Nat → Bool} (x : Nat) : mkv p x ≤ 3 := by
  unfold mkv
  split <;> split <;> omega
theorem ffm_loop {σ : zSt} {D : yD} (C : CN 1 2 3 4 6 D σ) (V : Vd D) : ∀ (d m s : Nat) (g : Nat → Int32), s + d = alm (dn D) + 1 → d < m → 1 ≤ s → (∀ x, x < s → g x = nI (mkv (fp D) x)) → ∃ g2, Frt_fillMarks_c9 m (nI s) (sw σ 50 g) = some (sw σ 50 g2) ∧ ∀ x, x ≤ alm (dn D) → g2 x = nI (mkv (fp D) x)
  | d, 0, s, g, _, hm, _, _ => absurd hm (Nat.not_lt_zero _)
  | 0, m + 1, s, g, hs, hm, h1, hg => by
    have hn := V.1.2
    have hal := alm_lt hn
    have C1 : CN 1 2 3 4 6 D (sw σ 50 g) := CN1_sm (Sm_sw (fun _ => rfl)) C
    rw [Frt_fillMarks_c9, all_ok C1.1.1 hn, ob_some, if_pos (nI_lt (by omega) (by omega))]
    exact ⟨g, rfl, fun x hx => hg x (by omega)⟩
  | d + 1, m + 1, s, g, hs, hm, h1, hg => by
    have hn := V.1.2
    have hal := alm_lt hn
    have C1 : CN 1 2 3 4 6 D (sw σ 50 g) := CN1_sm (Sm_sw (fun _ => rfl)) C
    have e1 := fhl_ok (σ := sw σ 50 g) (p := fp D) (s := s) (by omega) (fun x hx => by rw [sw_ap, if_pos rfl]; exact hg x hx)
    have e2 := fis_ok (s := s) C1 V (by omega)
    have efb : (fp D s = true) ↔ (frt (nbm (dT D)) s (dn D) = true) := by
      unfold fp fb
      have : (s == 0) = false := by simp; omega
      rw [this]
      simp
    have step : ∀ v, v = nI (mkv (fp D) s) → ∃ g2, Frt_fillMarks_c9 m (nI s + 1) (sw σ 50 (upd g s v)) = some (sw σ 50 g2) ∧ ∀ x, x ≤ alm (dn D) → g2 x = nI (mkv (fp D) x) := fun v hv => by
      rw [nI_1]
      refine ffm_loop C V d m (s + 1) _ (by omega) (by omega) (by omega) (fun x hx => ?_)
      by_cases e : x = s
      · rw [e, pk_us, hv]
      · rw [pk_un e]; exact hg x (by omega)
    rw [Frt_fillMarks_c9, all_ok C1.1.1 hn, ob_some, if_neg (nI_nlt (by omega) (by omega)), e1, ob_some, e2, ob_some]
    unfold Frt_fillMarks_c64 Frt_fillMarks_c46
    unfold mkv at step
    by_cases a1 : frt (nbm (dT D)) s (dn D) = true <;> by_cases a2 : hl (fp D) s = true
    · rw [if_pos (efb.mpr a1), if_pos a2] at step
      rw [if_pos a1, if_pos a2, if_neg i10, if_neg i10, st50 (by omega), ob_some, su_sw]
      exact step 2 rfl
    · rw [if_pos (efb.mpr a1), if_neg a2] at step
      rw [if_pos a1, if_neg a2, if_neg i10, if_pos rfl, st50 (by omega), ob_some, su_sw]
      exact step 3 rfl
    · rw [if_neg (fun q => a1 (efb.mp q)), if_pos a2] at step
      rw [if_neg a1, if_pos a2, if_pos rfl, if_neg i10, st50 (by omega), ob_some, su_sw]
      exact step 1 rfl
    · rw [if_neg (fun q => a1 (efb.mp q)), if_neg a2] at step
      rw [if_neg a1, if_neg a2, if_pos rfl, if_pos rfl, st50 (by omega), ob_some, su_sw]
      exact step 0 rfl
theorem fp_0 (D : yD) : fp D 0 = false := rfl
theorem ffm_ok {σ : zSt} {D : yD} (I : In D σ) : ∃ σ2, Frt_fillMarks σ = some σ2 ∧ Sm per σ σ2 ∧ ∀ x, x ≤ alm (dn D) → σ2 50 x = nI (mkv (fp D) x) := by
  have hn := I.1.1
  have hal := alm_lt hn.2
  obtain ⟨g2, e, h⟩ := ffm_loop I.2.1 I.1 (alm (dn D)) zF 1 (upd (σ 50) 0 0) (by omega) (zF_big (by omega)) (Nat.le_refl _) (fun x hx => by
    obtain rfl : x = 0 := by omega
    rw [pk_us]
    rfl)
  refine ⟨sw σ 50 g2, ?_, Sm_sw (fun _ => rfl), fun x hx => ?_⟩
  · unfold Frt_fillMarks
    rw [show zst σ 50 0 0 = some (su σ 50 0 0) from st50 (i := 0) (by decide), ob_some, su_sw0, show (1 : Int32) = nI 1 from rfl]
    exact e
  · rw [sw_ap, if_pos rfl]; exact h x hx

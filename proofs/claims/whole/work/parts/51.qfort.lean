/-! PURE: the marks of both, and the answers on forts -/
def fp (D : yD) : Nat → Bool := fb (nbm (dT D)) (dn D)
theorem mkv_3 {p : Nat → Bool} (x : Nat) : mkv p x ≤ 3 := by
  unfold mkv
  split <;> split <;> omega
theorem ffm_loop {σ : zSt} {D : yD} (C : CN 1 2 3 4 6 D σ) (V : Vd D) : ∀ (d m s : Nat) (g : Nat → Int32), s + d = alm (dn D) + 1 → d < m → 1 ≤ s → (∀ x, x < s → g x = nI (mkv (fp D) x)) → ∃ g2, Frt_fillMarks_c9 m (nI s) (sw σ 50 g) = some (sw σ 50 g2) ∧ ∀ x, x ≤ alm (dn D) → g2 x = nI (mkv (fp D) x)
  | d, 0, s, g, _, hm, _, _ => absurd hm (Nat.not_lt_zero _)
  | 0, m + 1, s, g, hs, hm, h1, hg => by
    have hn := V.1.2
    have hal := alm_lt hn
    have C1 : CN 1 2 3 4 6 D (sw σ 50 g) := CN1_sm (Sm_sw (fun _ => rfl)) C
    rw [Frt_fillMarks_c9, all_ok C1.1.1 hn, ob_some, if_pos (nI_lt (by omega) (by omega))]
    exact ⟨g, rfl, fun x hx => hg x (by omega)⟩
  | d + 1, m + 1, s, g, hs, hm, h1, hg => by
    have hn := V.1.2
    have hal := alm_lt hn
    have C1 : CN 1 2 3 4 6 D (sw σ 50 g) := CN1_sm (Sm_sw (fun _ => rfl)) C
    have e1 := fhl_ok (σ := sw σ 50 g) (p := fp D) (s := s) (by omega) (fun x hx => by rw [sw_ap, if_pos rfl]; exact hg x hx)
    have e2 := fis_ok (s := s) C1 V (by omega)
    have efb : (fp D s = true) ↔ (frt (nbm (dT D)) s (dn D) = true) := by
      unfold fp fb
      have : (s == 0) = false := by simp; omega
      rw [this]
      simp
    have step : ∀ v, v = nI (mkv (fp D) s) → ∃ g2, Frt_fillMarks_c9 m (nI s + 1) (sw σ 50 (upd g s v)) = some (sw σ 50 g2) ∧ ∀ x, x ≤ alm (dn D) → g2 x = nI (mkv (fp D) x) := fun v hv => by
      rw [nI_1]
      refine ffm_loop C V d m (s + 1) _ (by omega) (by omega) (by omega) (fun x hx => ?_)
      by_cases e : x = s
      · rw [e, pk_us, hv]
      · rw [pk_un e]; exact hg x (by omega)
    rw [Frt_fillMarks_c9, all_ok C1.1.1 hn, ob_some, if_neg (nI_nlt (by omega) (by omega)), e1, ob_some, e2, ob_some]
    unfold Frt_fillMarks_c64 Frt_fillMarks_c46
    unfold mkv at step
    by_cases a1 : frt (nbm (dT D)) s (dn D) = true <;> by_cases a2 : hl (fp D) s = true
    · rw [if_pos (efb.mpr a1), if_pos a2] at step
      rw [if_pos a1, if_pos a2, if_neg i10, if_neg i10, st50 (by omega), ob_some, su_sw]
      exact step 2 rfl
    · rw [if_pos (efb.mpr a1), if_neg a2] at step
      rw [if_pos a1, if_neg a2, if_neg i10, if_pos rfl, st50 (by omega), ob_some, su_sw]
      exact step 3 rfl
    · rw [if_neg (fun q => a1 (efb.mp q)), if_pos a2] at step
      rw [if_neg a1, if_pos a2, if_pos rfl, if_neg i10, st50 (by omega), ob_some, su_sw]
      exact step 1 rfl
    · rw [if_neg (fun q => a1 (efb.mp q)), if_neg a2] at step
      rw [if_neg a1, if_neg a2, if_pos rfl, if_pos rfl, st50 (by omega), ob_some, su_sw]
      exact step 0 rfl
theorem fp_0 (D : yD) : fp D 0 = false := rfl
theorem ffm_ok {σ : zSt} {D : yD} (I : In D σ) : ∃ σ2, Frt_fillMarks σ = some σ2 ∧ Sm per σ σ2 ∧ ∀ x, x ≤ alm (dn D) → σ2 50 x = nI (mkv (fp D) x) := by
  have hn := I.1.1
  have hal := alm_lt hn.2
  obtain ⟨g2, e, h⟩ := ffm_loop I.2.1 I.1 (alm (dn D)) zF 1 (upd (σ 50) 0 0) (by omega) (zF_big (by omega)) (Nat.le_refl _) (fun x hx => by
    obtain rfl : x = 0 := by omega
    rw [pk_us]
    rfl)
  refine ⟨sw σ 50 g2, ?_, Sm_sw (fun _ => rfl), fun x hx => ?_⟩
  · unfold Frt_fillMarks
    rw [show zst σ 50 0 0 = some (su σ 50 0 0) from st50 (i := 0) (by decide), ob_some, su_sw0, show (1 : Int32) = nI 1 from rfl]
    exact e
  · rw [sw_ap, if_pos rfl]; exact h x hx
theorem mfi_loop {σ : zSt} {nb : Nat → Nat} {n x : Nat} (h3 : σ 75 3 = nI n) (h83 : ∀ i, i < 9 → σ 83 i = nI (nb i)) (hnb : ∀ i, nb i < 512) (hn : n ≤ 9) (hx : x < 512) (c6 : Int32 → zSt → Option zSt) : ∀ (d m i : Nat), i + d = n → d < m → M_forts_c26 c6 m (nI x) (nI (!(x == 0) && frt nb x i).toNat) (nI i) σ = c6 (nI (x + 1)) (su σ 85 x (nI (fb nb n x).toNat))
  | d, 0, i, _, hm => absurd hm (Nat.not_lt_zero _)
  | 0, m + 1, i, hi, _ => by
    obtain rfl : i = n := by omega
    have hz : zbo (nI (!(x == 0) && frt nb x i).toNat) = true := by cases (!(x == 0) && frt nb x i) <;> rfl
    rw [M_forts_c26, h3, if_pos (nI_le (Nat.le_refl _) (by omega)), zs85 hx hz, ob_some, nI_1]
    rfl
  | d + 1, m + 1, i, hi, hm => by
    have ih := mfi_loop h3 h83 hnb hn hx c6 d m (i + 1) (by omega) (by omega)
    have hb : nb i &&& x < 512 := and512 (hnb i)
    have hp := pc_le (nb i &&& x)
    rw [frt] at ih
    rw [M_forts_c26, h3, if_neg (nI_ge (by omega) (by omega)), nI_1]
    cases hf : (!(x == 0) && frt nb x i)
    · rw [if_pos (show nI false.toNat = 0 from rfl), show (0 : Int32) = nI false.toNat from rfl]
      rw [← Bool.and_assoc, hf, Bool.false_and] at ih
      exact ih
    · rw [if_neg (show ¬ nI true.toNat = 0 by decide), mhas_ok hx (by omega), ob_some]
      rw [← Bool.and_assoc, hf, Bool.true_and] at ih
      cases ht : x.testBit i
      · rw [if_neg (show ¬ ¬ nI false.toNat = 0 from fun q => q rfl), ld83 (by omega), h83 i (by omega), ob_some, pb_and, mbits_ok hb, ob_some]
        rw [ht, Bool.false_or] at ih
        by_cases h1 : pc (nb i &&& x) = 1
        · rw [if_pos (show nI (pc (nb i &&& x)) = 1 by rw [h1]; rfl), show (0 : Int32) = nI false.toNat from rfl]
          rw [h1] at ih
          exact ih
        · rw [if_neg (show ¬ nI (pc (nb i &&& x)) = 1 from fun q => h1 ((nI_inj (b := 1) (by omega) (by omega)).mp q)), show (1 : Int32) = nI true.toNat from rfl]
          have e : (!(pc (nb i &&& x) == 1)) = true := by simp [h1]
          rw [e] at ih
          exact ih
      · rw [if_pos (show ¬ nI true.toNat = 0 by decide), show (1 : Int32) = nI true.toNat from rfl]
        rw [ht, Bool.true_or] at ih
        exact ih
theorem mft_ok {σ : zSt} {D : yD} (I : In D σ) : ∃ σ2, M_forts σ = some σ2 ∧ Sm per σ σ2 ∧ σ2 75 14 = nI (alm (dn D)) ∧ ∀ x, x ≤ alm (dn D) → σ2 85 x = nI (fp D x).toNat := by
  have V := I.1
  have hn := V.1.2
  have hal := alm_lt hn
  obtain ⟨g, e, L⟩ := mtk_ok I
  have M := Mst_Ms (al := alm (dn D)) I L
  have e3 := (In_sm (Mst_per (al := alm (dn D)) (g := g)) I).2.2.1.1.1
  have key : ∀ (d m x : Nat) (f : Nat → Int32), x + d = alm (dn D) + 1 → d < m → (∀ y, y < x → f y = nI (fp D y).toNat) → ∃ f2, M_forts_c6 m (nI x) (sw (Mst σ (alm (dn D)) g) 85 f) = some (sw (Mst σ (alm (dn D)) g) 85 f2) ∧ ∀ y, y ≤ alm (dn D) → f2 y = nI (fp D y).toNat := by
    intro d
    induction d with
    | zero =>
      intro m x f hx hm hf
      obtain ⟨m, rfl⟩ : ∃ m2, m = m2 + 1 := ⟨m - 1, by omega⟩
      have e14 : sw (Mst σ (alm (dn D)) g) 85 f 75 14 = nI (alm (dn D)) := by rw [sw_ap, if_neg (by decide)]; exact M.1
      rw [M_forts_c6, e14, if_pos (nI_lt (by omega) (by omega))]
      exact ⟨f, rfl, fun y hy => hf y (by omega)⟩
    | succ d ih =>
      intro m x f hx hm hf
      obtain ⟨m, rfl⟩ : ∃ m2, m = m2 + 1 := ⟨m - 1, by omega⟩
      have e14 : sw (Mst σ (alm (dn D)) g) 85 f 75 14 = nI (alm (dn D)) := by rw [sw_ap, if_neg (by decide)]; exact M.1
      have i3 : sw (Mst σ (alm (dn D)) g) 85 f 75 3 = nI (dn D) := by rw [sw_ap, if_neg (by decide)]; exact e3
      have i83 : ∀ i, i < 9 → sw (Mst σ (alm (dn D)) g) 85 f 83 i = nI (nbm (dT D) i) := fun i hi => by rw [sw_ap, if_neg (by decide)]; exact M.2.1 i hi
      have go := mfi_loop (x := x) i3 i83 (fun _ => nbm_lt) hn (by omega) (M_forts_c6 m) (dn D) zF 0 (by omega) (zF_big (by omega))
      rw [su_sw] at go
      have nxt := ih m (x + 1) (upd f x (nI (fb (nbm (dT D)) (dn D) x).toNat)) (by omega) (by omega) (fun y hy => by
        by_cases q : y = x
        · rw [q, pk_us]; rfl
        · rw [pk_un q]; exact hf y (by omega))
      rw [M_forts_c6, e14, if_neg (nI_nlt (by omega) (by omega))]
      by_cases h0 : x = 0
      · subst h0
        rw [if_pos (show nI 0 ≤ 0 by decide)]
        rw [show (nI (!((0 : Nat) == 0) && frt (nbm (dT D)) 0 0).toNat) = 0 from rfl, show nI 0 = 0 from rfl] at go
        rw [show nI 0 = 0 from rfl, go]
        exact nxt
      · have hb : (!(x == 0) && frt (nbm (dT D)) x 0) = true := by
          have : (x == 0) = false := by simp [h0]
          rw [this]; rfl
        rw [hb, show nI true.toNat = 1 from rfl, show nI 0 = 0 from rfl] at go
        rw [if_neg (nI_nle (by omega) (by omega)), go]
        exact nxt
  obtain ⟨f2, e2, h2⟩ := key (alm (dn D) + 1) zF 0 (Mst σ (alm (dn D)) g 85) (by omega) (zF_big (by omega)) (fun y hy => absurd hy (Nat.not_lt_zero _))
  rw [sw_self] at e2
  refine ⟨sw (Mst σ (alm (dn D)) g) 85 f2, ?_, Sm_tr Mst_per (Sm_sw (fun _ => rfl)), ?_, fun x hx => ?_⟩
  · unfold M_forts
    rw [e, ob_some]
    exact e2
  · rw [sw_ap, if_neg (by decide)]; exact M.1
  · rw [sw_ap, if_pos rfl]; exact h2 x hx

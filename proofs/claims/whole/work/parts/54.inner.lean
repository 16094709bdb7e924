/-! PURE: innerFort -/
theorem nif_lt {p : Nat → Bool} {S : Nat} : ∀ d c x, x + d ≤ 520 → nif p S d c x = 600 ∨ nif p S d c x < 520
  | 0, _, _, _ => Or.inl rfl
  | d + 1, c, x, h => by
    rw [nif]
    by_cases h1 : mkv p x = 3
    · rw [if_pos h1]
      by_cases h2 : c = S
      · rw [if_pos h2]; exact Or.inr (by omega)
      · rw [if_neg h2]; exact nif_lt d (c + 1) (x + 1) (by omega)
    · rw [if_neg h1]; exact nif_lt d c (x + 1) (by omega)
def e6 (z : Int32) (x : Nat) : Int32 := if x = 600 then z else nI x
theorem xin_loop {σ : zSt} {p : Nat → Bool} {al S : Nat} (hal : al < 512) (h50 : ∀ x, x ≤ al → σ 50 x = nI (mkv p x)) (hS : S < 2 ^ 31) : ∀ (d m c x : Nat), x + d = al + 1 → d < m → c ≤ x → Frt_innerAt_c5 σ m (nI al) (nI S) (nI c) (nI x) = some (e6 mI (nif p S d c x))
  | d, 0, c, x, _, hm, _ => absurd hm (Nat.not_lt_zero _)
  | 0, m + 1, c, x, hx, _, _ => by
    rw [Frt_innerAt_c5, if_pos (nI_lt (by omega) (by omega))]
    rfl
  | d + 1, m + 1, c, x, hx, hm, hc => by
    have h3 := mkv_3 (p := p) x
    rw [Frt_innerAt_c5, if_neg (nI_nlt (by omega) (by omega)), ld50 (by omega), h50 x (by omega), ob_some, nif]
    by_cases h1 : mkv p x = 3
    · rw [if_neg (fun q => q (by rw [h1]; rfl)), if_pos h1]
      by_cases h2 : c = S
      · rw [if_neg (fun q => q (by rw [h2])), if_pos h2]
        unfold e6
        rw [if_neg (show ¬ x = 600 by omega)]
      · rw [if_pos (show ¬ nI c = nI S from fun q => h2 ((nI_inj (by omega) (by omega)).mp q)), if_neg h2, nI_1, nI_1]
        exact xin_loop hal h50 hS d m (c + 1) (x + 1) (by omega) (by omega) (by omega)
    · rw [if_pos (show ¬ nI (mkv p x) = 3 from fun q => h1 ((nI_inj (b := 3) (by omega) (by omega)).mp q)), if_neg h1, nI_1]
      exact xin_loop hal h50 hS d m c (x + 1) (by omega) (by omega) (by omega)
theorem min_loop {σ : zSt} {p : Nat → Bool} {al S : Nat} (hal : al < 512) (h14 : σ 75 14 = nI al) (h85 : ∀ y, y ≤ al → σ 85 y = nI (p y).toNat) (h0 : p 0 = false) (hS : S < 2 ^ 31) : ∀ (d m c x : Nat), x + d = al + 1 → d < m → c ≤ x → M_innerFort_c14 m (nI S) (nI c) (nI x) σ = some (e6 (-2) (nif p S d c x), σ)
  | d, 0, c, x, _, hm, _ => absurd hm (Nat.not_lt_zero _)
  | 0, m + 1, c, x, hx, _, _ => by
    rw [M_innerFort_c14, h14, if_pos (nI_lt (by omega) (by omega))]
    rfl
  | d + 1, m + 1, c, x, hx, hm, hc => by
    rw [M_innerFort_c14, h14, if_neg (nI_nlt (by omega) (by omega)), misi_ok hal h85 h0 (by omega), ob_some, nif]
    by_cases h1 : mkv p x = 3
    · rw [if_pos h1, if_pos i10, if_pos h1]
      by_cases h2 : c = S
      · rw [if_neg (fun q => q (by rw [h2])), if_pos h2]
        unfold e6
        rw [if_neg (show ¬ x = 600 by omega)]
      · rw [if_pos (show ¬ nI c = nI S from fun q => h2 ((nI_inj (by omega) (by omega)).mp q)), if_neg h2, nI_1, nI_1]
        exact min_loop hal h14 h85 h0 hS d m (c + 1) (x + 1) (by omega) (by omega) (by omega)
    · rw [if_neg h1, if_neg (show ¬ ¬ (0 : Int32) = 0 from fun q => q rfl), if_neg h1, nI_1]
      exact min_loop hal h14 h85 h0 hS d m c (x + 1) (by omega) (by omega) (by omega)
theorem q_innerFort (x : Int32) : Qs (X_innerFort x) (M_innerFort x) := by
  intro D V
  have hn := V.1.2
  have hal := alm_lt hn
  by_cases hz : 0 ≤ x
  · obtain ⟨S, hS, rfl⟩ := nI_of (x := x) (Int32.not_lt.mpr hz)
    refine ⟨e6 (-2) (nif (fp D) S (alm (dn D) + 1) 0 0), fun σ I => ?_, fun σ I => ?_⟩
    · obtain ⟨σ2, e, S2, h50⟩ := ffm_ok I
      have e2 := xin_loop hal h50 hS (alm (dn D) + 1) zF 0 0 (by omega) (zF_big (by omega)) (Nat.le_refl _)
      refine ⟨σ2, ?_, S2⟩
      unfold X_innerFort Frt_innerAt
      rw [if_pos hz, e, ob_some, all_ok (In_sm S2 I).2.1.1.1 hn, ob_some, show (0 : Int32) = nI 0 from rfl, e2, ob_some]
      unfold e6
      rcases nif_lt (p := fp D) (S := S) (alm (dn D) + 1) 0 0 (by omega) with q | q
      · rw [if_pos q, if_pos q]; rfl
      · rw [if_neg (show ¬ nif (fp D) S (alm (dn D) + 1) 0 0 = 600 by omega), if_neg (show ¬ nif (fp D) S (alm (dn D) + 1) 0 0 = 600 by omega), if_pos (nI_le (Nat.zero_le _) (by omega))]
    · obtain ⟨σ2, e, S2, h14, h85⟩ := mft_ok I
      refine ⟨σ2, ?_, S2⟩
      unfold M_innerFort
      rw [if_pos hz, e, ob_some, show (0 : Int32) = nI 0 from rfl]
      exact min_loop hal h14 h85 (fp_0 D) hS (alm (dn D) + 1) zF 0 0 (by omega) (zF_big (by omega)) (Nat.le_refl _)
  · exact ⟨-1, As_of fun σ I => if_neg hz, As_of fun σ I => if_neg hz⟩

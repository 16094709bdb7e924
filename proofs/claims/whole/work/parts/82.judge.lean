/-! PURE: judge -/
/-- whether one of the points from i on forces a -/
def cbf (nb : Nat → Nat) (s a : Nat) : Nat → Nat → Bool
  | 0, _ => false
  | d + 1, i => if s.testBit i = true ∧ sd (nb i) s = 2 ^ a then true else cbf nb s a d (i + 1)
theorem xcb_loop {σ : zSt} {D : yD} {s a : Nat} (I : In D σ) (hs : sub s (alm (dn D))) (ha : a < dn D) : ∀ (d t i : Nat), i + d = dn D → d < t → X_canBeForced_c29 σ t (nI s) (nI (2 ^ a)) (nI i) = some (b01 (cbf (nbm (dT D)) s a d i))
  | d, 0, i, _, ht => absurd ht (Nat.not_lt_zero _)
  | 0, t + 1, i, hi, _ => by
    have hn := I.1.1.2
    rw [X_canBeForced_c29, I.2.1.1.1, if_pos (nI_le (by omega) (by omega))]
    rfl
  | d + 1, t + 1, i, hi, ht => by
    have hn := I.1.1.2
    have hal := alm_lt hn
    have hsl := sub_le hs
    have hb := nbm_lt (T := dT D) (i := i)
    have hsd : sd (nbm (dT D) i) s < 512 := sd512 hb
    have h2 := two_lt a (by omega)
    rw [X_canBeForced_c29, I.2.1.1.1, if_neg (nI_ge (by omega) (by omega)), cbf]
    by_cases h1 : s.testBit i = true
    · rw [if_neg (fun q => q ((pb_is1 (by omega) (by omega)).mpr h1)), ld2 (by omega), ob_some, I.2.1.2.1 i (by omega), pb_sd]
      by_cases e : sd (nbm (dT D) i) s = 2 ^ a
      · rw [if_neg (fun q => q (by rw [e])), if_pos ⟨h1, e⟩]; rfl
      · rw [if_pos (show ¬ nI (sd (nbm (dT D) i) s) = nI (2 ^ a) from fun q => e ((nI_inj (by omega) (by omega)).mp q)), if_neg (fun q => e q.2), nI_1]
        exact xcb_loop I hs ha d t (i + 1) (by omega) (by omega)
    · rw [if_pos (fun q => h1 ((pb_is1 (by omega) (by omega)).mp q)), if_neg (fun q => h1 q.1), nI_1]
      exact xcb_loop I hs ha d t (i + 1) (by omega) (by omega)
theorem pc_two2 : ∀ x, x < 512 → ∀ a, a < 9 → x = 2 ^ a → pc x ≤ 1 := fun x _ a ha e => by
  rw [e, pc_two a ha]
  exact Nat.le_refl _
theorem mcb_loop {σ : zSt} {D : yD} {s a : Nat} (I : In D σ) (h14 : σ 75 14 = nI (alm (dn D))) (h83 : ∀ i, i < 9 → σ 83 i = nI (nbm (dT D) i)) (hs : sub s (alm (dn D))) (ha : a < dn D) : ∀ (d t i : Nat), i + d = dn D → d < t → M_isForced_c2 σ t (nI a) (nI s) (nI i) = some (b01 (cbf (nbm (dT D)) s a d i))
  | d, 0, i, _, ht => absurd ht (Nat.not_lt_zero _)
  | 0, t + 1, i, hi, _ => by
    have hn := I.1.1.2
    rw [M_isForced_c2, I.2.2.1.1.1, if_pos (nI_le (by omega) (by omega))]
    rfl
  | d + 1, t + 1, i, hi, ht => by
    have hn := I.1.1.2
    have hal := alm_lt hn
    have hsl := sub_le hs
    have G := nbm_Gr I.1
    have hb := nbm_lt (T := dT D) (i := i)
    have hsd : sd (nbm (dT D) i) s < 512 := sd512 hb
    have h2 := two_lt a (by omega)
    have e1 := mfo_ok (s := s) (by_ := 0) (k := 1) (p := i) h14 h83 G.2.1 G.1 (by omega) (by omega) (by decide) (by decide)
    have hand : nbm (dT D) i &&& sd (alm (dn D)) s = sd (nbm (dT D) i) s := bits_ext fun j => by
      rw [and_bit, sd_bit', sd_bit']
      constructor
      · rintro ⟨h1, h2, h3⟩; exact ⟨h1, h3⟩
      · rintro ⟨h1, h3⟩; exact ⟨h1, G.2.2.1 i j h1, h3⟩
    have em : mf (nbm (dT D)) (alm (dn D)) 0 1 i s = if s.testBit i = true then (if pc (sd (nbm (dT D) i) s) ≤ 1 then sd (nbm (dT D) i) s else 0) else 0 := by
      unfold mf
      rw [if_neg (by decide), hand]
      by_cases h1 : s.testBit i = true
      · rw [if_pos h1, if_pos h1, if_neg (by decide), if_neg (by decide), if_neg (show ¬ (0 : Nat) = 4 by decide)]
      · rw [if_neg h1, if_neg h1]
    have hp : 0 < 2 ^ a := Nat.pow_pos (by decide)
    rw [M_isForced_c2, I.2.2.1.1.1, if_neg (nI_ge (by omega) (by omega)), show (0 : Int32) = nI 0 from rfl, show (1 : Int32) = nI 1 from rfl, e1, ob_some, em, cbf]
    rw [show nI 1 <<< (nI a &&& 31) = nI (2 ^ a) from sh1 (by omega)]
    by_cases h1 : s.testBit i = true
    · rw [if_pos h1]
      by_cases e : sd (nbm (dT D) i) s = 2 ^ a
      · rw [if_pos (pc_two2 _ hsd a (by omega) e), if_neg (fun q => q (by rw [e])), if_pos ⟨h1, e⟩]; rfl
      · rw [if_neg (show ¬ (s.testBit i = true ∧ sd (nbm (dT D) i) s = 2 ^ a) from fun q => e q.2)]
        by_cases e2 : pc (sd (nbm (dT D) i) s) ≤ 1
        · rw [if_pos e2, if_pos (show ¬ nI (sd (nbm (dT D) i) s) = nI (2 ^ a) from fun q => e ((nI_inj (by omega) (by omega)).mp q)), nI_add]
          exact mcb_loop I h14 h83 hs ha d t (i + 1) (by omega) (by omega)
        · rw [if_neg e2, if_pos (show ¬ nI 0 = nI (2 ^ a) from fun q => by have := (nI_inj (by omega) (by omega)).mp q; omega), nI_add]
          exact mcb_loop I h14 h83 hs ha d t (i + 1) (by omega) (by omega)
    · rw [if_neg h1, if_neg (show ¬ (s.testBit i = true ∧ sd (nbm (dT D) i) s = 2 ^ a) from fun q => h1 q.1), if_pos (show ¬ nI 0 = nI (2 ^ a) from fun q => by have := (nI_inj (by omega) (by omega)).mp q; omega), nI_add]
      exact mcb_loop I h14 h83 hs ha d t (i + 1) (by omega) (by omega)
theorem sub_or2 {n s a : Nat} (hs : sub s (alm n)) (ha : a < n) : sub (s ||| 2 ^ a) (alm n) := sub_or hs (sub_two (alm_bit.mpr ha))
/-- place by place, on both sides -/
theorem jg_loop {σ τ : zSt} {D : yD} {l m : Nat} {pl : Nat → Int32} (I : In D σ) (J : In D τ) (h14 : τ 75 14 = nI (alm (dn D))) (h83 : ∀ i, i < 9 → τ 83 i = nI (nbm (dT D) i)) (hl : l < 3) (hm : m ≤ 40) (h65 : σ (65 + 2 * l) 0 = nI m) (h89 : τ 89 l = nI m) (hp : ∀ i, i < m → σ (66 + 2 * l) i = pl i) (hq : ∀ i, i < m → τ 90 (40 * l + i) = pl i) : ∀ (d t i s : Nat), i + d = m → d < t → sub s (alm (dn D)) → ∃ r, X_judge_c60 σ t (65 + 2 * l) (nI s) (nI i) = some r ∧ M_judge_c59 t (nI l) (nI s) (nI i) τ = some (r, τ)
  | d, 0, i, s, _, ht, _ => absurd ht (Nat.not_lt_zero _)
  | 0, t + 1, i, s, hi, _, _ => by
    obtain ⟨_, k1, k2, k3, k4⟩ := rk_l l hl
    refine ⟨-2, ?_, ?_⟩
    · rw [X_judge_c60, k1, cond_true, h65, if_pos (nI_le (by omega) (by omega))]
    · rw [M_judge_c59, ld89 hl, h89, ob_some, if_pos (nI_le (by omega) (by omega))]
  | d + 1, t + 1, i, s, hi, ht, hs => by
    obtain ⟨_, k1, k2, k3, k4⟩ := rk_l l hl
    have hn := I.1.1.2
    have hal := alm_lt hn
    have hsl := sub_le hs
    have ex : X_judge_c60 σ (t + 1) (65 + 2 * l) (nI s) (nI i) = (X_canBeForced (pl i) (nI s) σ).bind fun v10 => if ¬ v10 = 0 then (zlet (nI s ||| (1 <<< (pl i &&& 31))) fun v11 => X_judge_c60 σ t (65 + 2 * l) v11 (nI i + 1)) else some (nI i) := by
      rw [X_judge_c60, k1, cond_true, h65, if_neg (nI_ge (by omega) (by omega)), k2, zld_at k3 k4 (by omega : i < 40) (by decide), ob_some, hp i (by omega)]
      rfl
    have em : M_judge_c59 (t + 1) (nI l) (nI s) (nI i) τ = (M_isPoint (pl i) τ).bind fun v13 => if v13 = 0 then (some (nI i, τ)) else ((M_has (nI s) (pl i) τ).bind fun v14 => if ¬ v14 = 0 then (some (nI i, τ)) else ((M_isForced (pl i) (nI s) τ).bind fun v15 => if ¬ v15 = 0 then (zlet (nI s ||| (1 <<< (pl i &&& 31))) fun v16 => M_judge_c59 t (nI l) v16 (nI i + 1) τ) else (some (nI i, τ)))) := by
      rw [M_judge_c59, ld89 hl, h89, ob_some, if_neg (nI_ge (by omega) (by omega)), h40, ld90 (by omega), ob_some, hq i (by omega)]
    rw [ex, em]
    rcases pt_cases D I.1 (pl i) with h | ⟨a, ea, ha, h⟩
    · refine ⟨nI i, ?_, ?_⟩
      · unfold X_canBeForced; rw [(h σ I).1, ob_some, if_pos rfl, ob_some, if_neg (fun q => q rfl)]
      · rw [(h τ J).2, ob_some, if_pos rfl]
    · have hX := (h σ I).1
      have hM := (h τ J).2
      rw [ea] at hX hM ⊢
      by_cases h1 : s.testBit a = true
      · refine ⟨nI i, ?_, ?_⟩
        · unfold X_canBeForced; rw [hX, ob_some, if_neg i10, if_neg (fun q => q ((pb_is1 (by omega) (by omega)).mpr h1)), ob_some, if_neg (fun q => q rfl)]
        · rw [hM, ob_some, if_neg i10, mhas_ok (by omega) (by omega), ob_some, h1, if_pos (show ¬ nI true.toNat = 0 by decide)]
      · have h1f : s.testBit a = false := by simpa using h1
        have e1 := xcb_loop I hs ha (dn D) zF 0 (Nat.zero_add _) (zF_big (by omega))
        have e2 := mcb_loop J h14 h83 hs ha (dn D) zF 0 (Nat.zero_add _) (zF_big (by omega))
        have hXc : X_canBeForced (nI a) (nI s) σ = some (b01 (cbf (nbm (dT D)) s a (dn D) 0)) := by
          unfold X_canBeForced
          rw [hX, ob_some, if_neg i10, if_pos (fun q => h1 ((pb_is1 (by omega) (by omega)).mp q)), sh1 (by omega), show (0 : Int32) = nI 0 from rfl, e1]
        have hMc : M_isForced (nI a) (nI s) τ = some (b01 (cbf (nbm (dT D)) s a (dn D) 0)) := e2
        rw [hXc, ob_some, hM, ob_some, if_neg i10, mhas_ok (by omega) (by omega), ob_some, h1f, if_neg (show ¬ ¬ nI false.toNat = 0 from fun q => q rfl), hMc, ob_some]
        by_cases e : cbf (nbm (dT D)) s a (dn D) 0 = true
        · rw [if_pos (fun q => ((b01_0 _).mp q) e), if_pos (fun q => ((b01_0 _).mp q) e), zlet_ap, zlet_ap, sh1 (by omega), pb_or, nI_1]
          exact jg_loop I J h14 h83 hl hm h65 h89 hp hq d t (i + 1) _ (by omega) (by omega) (sub_or2 hs ha)
        · rw [if_neg (fun q => q ((b01_0 _).mpr e)), if_neg (fun q => q ((b01_0 _).mpr e))]
          exact ⟨nI i, rfl, rfl⟩
def Q1 (x : zSt → Option Int32) (m : zSt → Option (Int32 × zSt)) : Prop := ∀ σ, Inv σ → ∃ r σ2, x σ = some r ∧ m σ = some (r, σ2) ∧ Inv σ2
theorem q_judge (x : Int32) : Q1 (X_judge x) (M_judge x) := by
  rintro σ ⟨D, I⟩
  have V := I.1
  have hRw := I.2.2.2.2.2.1
  rcases row_cases x with h | ⟨l, rfl, hl, h⟩
  · refine ⟨-1, σ, ?_, ?_, D, I⟩
    · unfold X_judge; rw [(h σ).1, ob_some, zmo_nn]
    · unfold M_judge; rw [(h σ).2, ob_some, if_neg (fun q => q rfl)]
  obtain ⟨_, k1, k2, k3, k4⟩ := rk_l l hl
  rcases hRw l hl with ⟨r1, r2⟩ | ⟨m, m1, r1, r2, r3, r4⟩
  · refine ⟨-11, σ, ?_, ?_, D, I⟩
    · unfold X_judge; rw [(h σ).1, ob_some, zmo_sm, k1, cond_true, r1, if_neg mI_neg]
    · unfold M_judge; rw [(h σ).2, ob_some, if_pos i10, zl88 hl, r2, ob_some, if_neg (fun q => q rfl)]
  by_cases hm0 : m = 0
  · subst hm0
    refine ⟨-5, σ, ?_, ?_, D, I⟩
    · unfold X_judge; rw [(h σ).1, ob_some, zmo_sm, k1, cond_true, r1, if_pos (nI_pos' (by omega)), cond_true, if_neg (fun q => q rfl)]
    · unfold M_judge; rw [(h σ).2, ob_some, if_pos i10, zl88 hl, r2, ob_some, if_pos i10, ld89 hl, r3, ob_some, if_neg (fun q => q rfl)]
  · obtain ⟨g, e5, g5⟩ := mtk_ok I
    have J : In D (Mst σ (alm (dn D)) g) := In_sm Mst_per I
    obtain ⟨M1, M2, M3, M4⟩ := Mst_Ms (al := alm (dn D)) I g5
    have c90 : ∀ q, Mst σ (alm (dn D)) g 90 q = σ 90 q := fun q => by
      unfold Mst
      rw [sw_ap, if_neg (by omega), su_ap, if_neg (by omega)]
    have e40 : (40 : Int32) * nI l = nI (40 * l + 0) := by rw [z_40, pk_mul, Nat.add_zero]
    have pX : ∀ A : Int32 → Option Int32, (zld σ (66 + 2 * l) 0).bind A = A (σ (66 + 2 * l) 0) := fun A => by
      rw [show (0 : Int32) = nI 0 from rfl, zld_at k3 k4 (by decide : 0 < 40) (by decide), ob_some]
    have eX : X_judge (nI l) σ = (Net_hasSet (σ (66 + 2 * l) 0) σ).bind fun v4 => if ¬ v4 = 0 then X_judge_c60 σ zF (65 + 2 * l) (σ (66 + 2 * l) 0) 1 else some 0 := by
      unfold X_judge
      rw [(h σ).1, ob_some, zmo_sm, k1, cond_true, r1, if_pos (nI_pos' (by omega)), cond_true, if_pos (show ¬ nI m = 0 from nI_ne0 (by omega) (by omega)), cond_true, k2, pX]
      simp only [cond_true, pX]
    have eM : M_judge (nI l) σ = (M_isSet (σ (66 + 2 * l) 0) (Mst σ (alm (dn D)) g)).bind fun v6 => if ¬ v6 = 0 then M_judge_c59 zF (nI l) (σ (66 + 2 * l) 0) 1 (Mst σ (alm (dn D)) g) else some (0, Mst σ (alm (dn D)) g) := by
      unfold M_judge
      rw [(h σ).2, ob_some, if_pos i10, zl88 hl, r2, ob_some, if_pos i10, ld89 hl, r3, ob_some, if_pos (show ¬ nI m = 0 from nI_ne0 (by omega) (by omega)), e5, ob_some, e40, ld90 (by omega), ob_some, c90, ← r4 0 (by omega)]
    rw [eX, eM]
    rcases set_cases D V (σ (66 + 2 * l) 0) with hs | ⟨s, es, hss, hs⟩
    · rw [(hs σ I).1, (hs _ J).2, ob_some, ob_some, if_neg (fun q => q rfl), if_neg (fun q => q rfl)]
      exact ⟨0, _, rfl, rfl, D, J⟩
    · rw [(hs σ I).1, (hs _ J).2, ob_some, ob_some, if_pos i10, if_pos i10, es]
      obtain ⟨r, a1, a2⟩ := jg_loop (pl := σ (66 + 2 * l)) I J M1 M2 hl m1 r1 (by unfold Mst; rw [sw_ap, if_neg (by omega), su_ap, if_neg (by omega)]; exact r3) (fun _ _ => rfl) (fun i hi => by rw [c90, r4 i hi]) (m - 1) zF 1 s (by omega) (zF_big (by omega)) hss
      exact ⟨r, _, a1, a2, D, J⟩

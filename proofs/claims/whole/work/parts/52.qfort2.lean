/-! PURE: fort, forts, innerFort, meets -/
theorem hlr_mono {p : Nat → Bool} {s : Nat} {a : Nat} (h : hlr p s a = true) : ∀ d, hlr p s (a + d) = true
  | 0 => h
  | d + 1 => by
    show hlr p s (a + d + 1) = true
    rw [hlr, hlr_mono h d]
    rfl
theorem misi_ok {σ : zSt} {p : Nat → Bool} {al x : Nat} (hal : al < 512) (h85 : ∀ y, y ≤ al → σ 85 y = nI (p y).toNat) (h0 : p 0 = false) (hx : x ≤ al) : M_isInner (nI x) σ = some (if mkv p x = 3 then 1 else 0) := by
  unfold M_isInner
  rw [zl85 (by omega), h85 x hx, ob_some]
  cases hp : p x
  · rw [if_neg (show ¬ ¬ nI false.toNat = 0 from fun q => q rfl), if_neg]
    unfold mkv
    rw [hp]
    by_cases h2 : hl p x = true <;> simp [h2]
  · rw [if_pos (show ¬ nI true.toNat = 0 by decide)]
    have e3 : (mkv p x = 3) ↔ ¬ hlr p x x = true := by
      unfold mkv
      rw [hp]
      by_cases h2 : hl p x = true
      · have h3 : hlr p x x = true := h2
        simp [h2, h3]
      · have h3 : ¬ hlr p x x = true := h2
        simp [h2, h3]
    have hx0 : 1 ≤ x := by
      refine Nat.not_lt.mp fun q => ?_
      obtain rfl : x = 0 := by omega
      rw [h0] at hp
      cases hp
    have key : ∀ (d m f : Nat), f + d = x → d < m → hlr p x f = false → M_isInner_c13 σ m (nI x) (nI f) = some (if mkv p x = 3 then 1 else 0) := by
      intro d
      induction d with
      | zero =>
        intro m f hf hm h
        obtain ⟨m, rfl⟩ : ∃ m2, m = m2 + 1 := ⟨m - 1, by omega⟩
        obtain rfl : f = x := by omega
        rw [M_isInner_c13, if_pos (nI_le (Nat.le_refl _) (by omega)), if_pos (e3.mpr (by rw [h]; exact fun q => Bool.noConfusion q))]
      | succ d ih =>
        intro m f hf hm h
        obtain ⟨m, rfl⟩ : ∃ m2, m = m2 + 1 := ⟨m - 1, by omega⟩
        have hd := sd512 (a := f) (b := x) (by omega)
        rw [M_isInner_c13, if_neg (nI_ge (by omega) (by omega)), pb_sd]
        by_cases h1 : sd f x = 0
        · rw [if_neg (fun q => q (by rw [h1]; rfl)), zl85 (by omega), h85 f (by omega), ob_some]
          cases h2 : p f
          · rw [if_pos (show nI false.toNat = 0 from rfl), nI_1]
            exact ih m (f + 1) (by omega) (by omega) (by rw [hlr, h, h2]; rfl)
          · rw [if_neg (show ¬ nI true.toNat = 0 by decide), if_neg]
            rw [e3]
            intro q
            have := hlr_mono (p := p) (s := x) (a := f + 1) (by rw [hlr, h, h2, h1]; rfl) d
            rw [show f + 1 + d = x by omega] at this
            exact q this
        · rw [if_pos (show ¬ nI (sd f x) = 0 from fun q => h1 ((nI_inj (b := 0) (by omega) (by omega)).mp q)), nI_1]
          refine ih m (f + 1) (by omega) (by omega) ?_
          have e : (sd f x == 0) = false := by simp [h1]
          rw [hlr, h, e]
          simp
    exact key (x - 1) zF 1 (by omega) (zF_big (by omega)) (by rw [hlr, hlr, h0]; rfl)
theorem mkv_fort {p : Nat → Bool} {x : Nat} : (p x = true) ↔ 2 ≤ mkv p x := by
  unfold mkv
  by_cases h1 : p x = true <;> by_cases h2 : hl p x = true <;> simp [h1, h2]
theorem q_fort (x : Int32) : Qs (X_fort x) (M_fort x) := by
  intro D V
  have hn := V.1.2
  have hal := alm_lt hn
  rcases set_cases D V x with h | ⟨s, rfl, hs, h⟩
  · refine ⟨-1, As_of fun σ I => ?_, As_of fun σ I => ?_⟩
    · unfold X_fort
      rw [(h σ I).1, ob_some, if_neg (fun q => q rfl)]
    · unfold M_fort
      rw [(h σ I).2, ob_some, if_neg (fun q => q rfl)]
  have hsl := sub_le hs
  have h3 := mkv_3 (p := fp D) s
  refine ⟨if mkv (fp D) s = 2 then 1 else if mkv (fp D) s = 3 then 2 else 0, fun σ I => ?_, fun σ I => ?_⟩
  · obtain ⟨σ2, e, S2, h50⟩ := ffm_ok I
    refine ⟨σ2, ?_, S2⟩
    unfold X_fort
    rw [(h σ I).1, ob_some, if_pos i10, e, ob_some, ld50 (by omega), h50 s hsl, ob_some]
    rcases (by omega : mkv (fp D) s = 0 ∨ mkv (fp D) s = 1 ∨ mkv (fp D) s = 2 ∨ mkv (fp D) s = 3) with q | q | q | q <;> rw [q] <;> rfl
  · obtain ⟨σ2, e, S2, h14, h85⟩ := mft_ok I
    refine ⟨σ2, ?_, S2⟩
    have hm := mkv_fort (p := fp D) (x := s)
    unfold M_fort
    rw [(h σ I).2, ob_some, if_pos i10, e, ob_some, zl85 (by omega), h85 s hsl, ob_some, misi_ok hal h85 (fp_0 D) hsl]
    cases hp : fp D s
    · rw [if_neg (show ¬ ¬ nI false.toNat = 0 from fun q => q rfl), if_neg, if_neg]
      · intro q; rw [hp] at hm; exact absurd (hm.mpr (by omega)) (fun q => Bool.noConfusion q)
      · intro q; rw [hp] at hm; exact absurd (hm.mpr (by omega)) (fun q => Bool.noConfusion q)
    · rw [if_pos (show ¬ nI true.toNat = 0 by decide), ob_some]
      have := hm.mp hp
      rcases (by omega : mkv (fp D) s = 2 ∨ mkv (fp D) s = 3) with q | q <;> rw [q] <;> rfl
theorem q_meets (x : Int32) : Qs (X_meets x) (M_meets x) := by
  intro D V
  have hn := V.1.2
  have hal := alm_lt hn
  rcases set_cases D V x with h | ⟨s, rfl, hs, h⟩
  · refine ⟨-1, As_of fun σ I => ?_, As_of fun σ I => ?_⟩
    · unfold X_meets
      rw [(h σ I).1, ob_some, if_neg (fun q => q rfl)]
    · unfold M_meets
      rw [(h σ I).2, ob_some, if_neg (fun q => q rfl)]
  have hsl := sub_le hs
  have hw : sd (alm (dn D)) s ≤ alm (dn D) := sub_le (sub_sd fun _ x => x)
  have h3 := mkv_3 (p := fp D) (sd (alm (dn D)) s)
  refine ⟨if mkv (fp D) (sd (alm (dn D)) s) = 0 then 1 else 0, fun σ I => ?_, fun σ I => ?_⟩
  · obtain ⟨σ2, e, S2, h50⟩ := ffm_ok I
    refine ⟨σ2, ?_, S2⟩
    unfold X_meets
    rw [(h σ I).1, ob_some, if_pos i10, e, ob_some, all_ok (In_sm S2 I).2.1.1.1 hn, ob_some, pb_sd, ld50 (by omega), h50 _ hw, ob_some]
    by_cases q : mkv (fp D) (sd (alm (dn D)) s) = 0
    · rw [q]; rfl
    · rw [if_pos (show ¬ nI (mkv (fp D) (sd (alm (dn D)) s)) = 0 from fun w => q ((nI_inj (b := 0) (by omega) (by omega)).mp w)), if_neg q]
  · obtain ⟨σ2, e, S2, h14, h85⟩ := mft_ok I
    refine ⟨σ2, ?_, S2⟩
    have key : ∀ (d m f : Nat), f + d = alm (dn D) + 1 → d < m → (∀ y, y < f → fp D y = true → ¬ y &&& s = 0) → M_meets_c16 m (nI s) (nI f) σ2 = some (if mkv (fp D) (sd (alm (dn D)) s) = 0 then 1 else 0, σ2) := by
      intro d
      induction d with
      | zero =>
        intro m f hf hm hno
        obtain ⟨m, rfl⟩ : ∃ m2, m = m2 + 1 := ⟨m - 1, by omega⟩
        rw [M_meets_c16, h14, if_pos (nI_lt (by omega) (by omega)), if_pos]
        refine Classical.byContradiction fun q => ?_
        obtain ⟨y, y1, y2⟩ := mkv_ne.mp q
        have yl := sub_le y2
        refine hno y (by omega) y1 (Nat.eq_of_testBit_eq fun j => ?_)
        rw [Nat.zero_testBit]
        cases hb : (y &&& s).testBit j
        · rfl
        · rw [and_bit] at hb
          exact absurd hb.2 (sd_bit'.mp (y2 j hb.1)).2
      | succ d ih =>
        intro m f hf hm hno
        obtain ⟨m, rfl⟩ : ∃ m2, m = m2 + 1 := ⟨m - 1, by omega⟩
        have hfs := and512 (a := f) (b := s) (by omega)
        rw [M_meets_c16, h14, if_neg (nI_nlt (by omega) (by omega)), zl85 (by omega), h85 f (by omega), ob_some, pb_and]
        cases hp : fp D f
        · rw [if_pos (show nI false.toNat = 0 from rfl), nI_1]
          refine ih m (f + 1) (by omega) (by omega) (fun y hy hy2 => ?_)
          by_cases q : y = f
          · rw [q, hp] at hy2; cases hy2
          · exact hno y (by omega) hy2
        · rw [if_neg (show ¬ nI true.toNat = 0 by decide)]
          by_cases h1 : f &&& s = 0
          · rw [if_neg (fun q => q (by rw [h1]; rfl)), if_neg]
            refine mkv_ne.mpr ⟨f, hp, fun j hj => sd_bit'.mpr ⟨sub_alm (by omega) j hj, fun w => ?_⟩⟩
            have := and_bit.mpr ⟨hj, w⟩
            rw [h1, Nat.zero_testBit] at this
            cases this
          · rw [if_pos (show ¬ nI (f &&& s) = 0 from fun q => h1 ((nI_inj (b := 0) (by omega) (by omega)).mp q)), nI_1]
            refine ih m (f + 1) (by omega) (by omega) (fun y hy hy2 => ?_)
            by_cases q : y = f
            · rw [q]; exact h1
            · exact hno y (by omega) hy2
    unfold M_meets
    rw [(h σ I).2, ob_some, if_pos i10, e, ob_some, show (1 : Int32) = nI 1 from rfl]
    exact key (alm (dn D)) zF 1 (by omega) (zF_big (by omega)) (fun y hy hy2 => by
      obtain rfl : y = 0 := by omega
      rw [fp_0] at hy2
      cases hy2)

/-! PURE: forts -/
def frt (nb : Nat → Nat) (s : Nat) : Nat → Bool
  | 0 => true
  | i + 1 => frt nb s i && (s.testBit i || !(pc (nb i &&& s) == 1))
/-- s is a fort -/
def fb (nb : Nat → Nat) (n s : Nat) : Bool := !(s == 0) && frt nb s n
/-- one of the sets below f is a fort within s -/
def hlr (p : Nat → Bool) (s : Nat) : Nat → Bool
  | 0 => false
  | f + 1 => hlr p s f || (p f && (sd f s == 0))
def hl (p : Nat → Bool) (s : Nat) : Bool := hlr p s s
theorem hlr_iff {p : Nat → Bool} {s : Nat} : ∀ d, hlr p s d = true ↔ ∃ f, f < d ∧ p f = true ∧ sub f s
  | 0 => by
    constructor
    · intro h; cases h
    · rintro ⟨f, h, _⟩; exact absurd h (Nat.not_lt_zero _)
  | d + 1 => by
    rw [hlr, Bool.or_eq_true, hlr_iff d, Bool.and_eq_true, beq_iff_eq, sd_zero]
    constructor
    · rintro (⟨f, h1, h2⟩ | h)
      · exact ⟨f, by omega, h2⟩
      · exact ⟨d, by omega, h⟩
    · rintro ⟨f, h1, h2⟩
      by_cases e : f = d
      · subst e; exact Or.inr h2
      · exact Or.inl ⟨f, by omega, h2⟩
def mkv (p : Nat → Bool) (s : Nat) : Nat := if p s = true then (if hl p s = true then 2 else 3) else (if hl p s = true then 1 else 0)
theorem mkv_ne {p : Nat → Bool} {s : Nat} : ¬ mkv p s = 0 ↔ ∃ f, p f = true ∧ sub f s := by
  have key : (¬ mkv p s = 0) ↔ (p s = true ∨ hl p s = true) := by
    unfold mkv
    by_cases h1 : p s = true <;> by_cases h2 : hl p s = true <;> simp [h1, h2]
  rw [key, hl, hlr_iff]
  constructor
  · rintro (h | ⟨f, _, h1, h2⟩)
    · exact ⟨s, h, fun _ x => x⟩
    · exact ⟨f, h1, h2⟩
  · rintro ⟨f, h1, h2⟩
    by_cases e : f = s
    · subst e; exact Or.inl h1
    · exact Or.inr ⟨f, Nat.lt_of_le_of_ne (sub_le h2) e, h1, h2⟩
/-- the lesser forts, a point at a time -/
theorem hl_step {p : Nat → Bool} {s : Nat} (hs : s < 512) : hl p s = true ↔ ∃ i, i < 9 ∧ s.testBit i = true ∧ ¬ mkv p (sd s (2 ^ i)) = 0 := by
  rw [hl, hlr_iff]
  constructor
  · rintro ⟨f, h1, h2, h3⟩
    have hj : ∃ j, s.testBit j = true ∧ ¬ f.testBit j = true := by
      refine Classical.byContradiction fun q => ?_
      have : s ≤ f := sub_le fun i hi => Classical.byContradiction fun w => q ⟨i, hi, w⟩
      omega
    obtain ⟨j, g1, g2⟩ := hj
    refine ⟨j, small_bit (n := 9) hs g1, g1, mkv_ne.mpr ⟨f, h2, fun i hi => sd_bit'.mpr ⟨h3 i hi, fun w => ?_⟩⟩⟩
    rw [two_bit] at w
    exact g2 (w ▸ hi)
  · rintro ⟨i, _, h1, h2⟩
    obtain ⟨f, h3, h4⟩ := mkv_ne.mp h2
    have h5 : sub f s := fun j hj => (sd_bit'.mp (h4 j hj)).1
    refine ⟨f, Nat.lt_of_le_of_ne (sub_le h5) (fun e => ?_), h3, h5⟩
    subst e
    exact (sd_bit'.mp (h4 i h1)).2 (by simp)
theorem fis_ok {σ : zSt} {D : yD} {s : Nat} (C : CN 1 2 3 4 6 D σ) (V : Vd D) (hs : s < 512) : Frt_isFort (nI s) σ = some (if frt (nbm (dT D)) s (dn D) = true then 1 else 0) := by
  have hn := V.1.2
  have key : ∀ (d m i : Nat), i + d = dn D → d < m → frt (nbm (dT D)) s i = true → Frt_isFort_c2 σ m (nI s) (nI i) = some (if frt (nbm (dT D)) s (dn D) = true then 1 else 0) := by
    intro d
    induction d with
    | zero =>
      intro m i hi hm h
      obtain ⟨m, rfl⟩ : ∃ m2, m = m2 + 1 := ⟨m - 1, by omega⟩
      obtain rfl : i = dn D := by omega
      rw [Frt_isFort_c2, C.1.1, if_pos (nI_le (Nat.le_refl _) (by omega)), if_pos h]
    | succ d ih =>
      intro m i hi hm h
      obtain ⟨m, rfl⟩ : ∃ m2, m = m2 + 1 := ⟨m - 1, by omega⟩
      have hb : nbm (dT D) i &&& s < 512 := and512 nbm_lt
      have hp := pc_le (nbm (dT D) i &&& s)
      rw [Frt_isFort_c2, C.1.1, if_neg (nI_ge (by omega) (by omega))]
      by_cases h1 : s.testBit i = true
      · rw [if_pos (show ¬ (nI s >>> (nI i &&& 31)) &&& 1 = 0 from fun q => by rw [(pb_is0 (by omega) (by omega)).mp q] at h1; cases h1), nI_1]
        exact ih m (i + 1) (by omega) (by omega) (by rw [frt, h, h1]; rfl)
      · have h2 : s.testBit i = false := by simpa using h1
        rw [if_neg (fun q => q ((pb_is0 (by omega) (by omega)).mpr h2)), ld2 (by omega), C.2.1 i (by omega), ob_some, pb_and, Jdk_bitCount_ok hb, ob_some]
        by_cases h3 : pc (nbm (dT D) i &&& s) = 1
        · rw [if_neg (fun q => q (by rw [h3]; rfl)), if_neg]
          intro q
          have stop : ∀ d2, frt (nbm (dT D)) s (i + 1 + d2) = false := by
            intro d2
            induction d2 with
            | zero => show frt (nbm (dT D)) s (i + 1) = false; rw [frt, h2, h3]; simp
            | succ d2 ih2 => show frt (nbm (dT D)) s (i + 1 + d2 + 1) = false; rw [frt, ih2]; rfl
          have := stop (dn D - (i + 1))
          rw [show i + 1 + (dn D - (i + 1)) = dn D by omega] at this
          rw [this] at q
          cases q
        · rw [if_pos (show ¬ nI (pc (nbm (dT D) i &&& s)) = 1 from fun q => h3 ((nI_inj (b := 1) (by omega) (by omega)).mp q)), nI_1]
          refine ih m (i + 1) (by omega) (by omega) ?_
          rw [frt, h, h2]
          simp [h3]
  exact key (dn D) zF 0 (by omega) (zF_big (by omega)) rfl
theorem fhl_ok {σ : zSt} {p : Nat → Bool} {s : Nat} (hs : s < 512) (h50 : ∀ x, x < s → σ 50 x = nI (mkv p x)) : Frt_holdsLesser (nI s) σ = some (if hl p s = true then 1 else 0) := by
  have m3 : ∀ x, mkv p x ≤ 3 := fun x => by
    unfold mkv
    split <;> split <;> omega
  have key : ∀ (d m i : Nat), i + d = 9 → d < m → (∀ j, j < i → s.testBit j = true → mkv p (sd s (2 ^ j)) = 0) → Frt_holdsLesser_c2 σ m (nI s) (nI i) = some (if hl p s = true then 1 else 0) := by
    intro d
    induction d with
    | zero =>
      intro m i hi hm h
      obtain ⟨m, rfl⟩ : ∃ m2, m = m2 + 1 := ⟨m - 1, by omega⟩
      obtain rfl : i = 9 := by omega
      rw [Frt_holdsLesser_c2, if_pos (show (9 : Int32) ≤ nI 9 by decide), if_neg]
      rw [hl_step hs]
      rintro ⟨j, h1, h2, h3⟩
      exact h3 (h j h1 h2)
    | succ d ih =>
      intro m i hi hm h
      obtain ⟨m, rfl⟩ : ∃ m2, m = m2 + 1 := ⟨m - 1, by omega⟩
      rw [Frt_holdsLesser_c2, if_neg (show ¬ (9 : Int32) ≤ nI i from nI_ge (b := 9) (by omega) (by decide))]
      by_cases h1 : s.testBit i = true
      · have hlt : sd s (2 ^ i) < s := by
          refine Nat.lt_of_le_of_ne (sub_le (sub_sd fun _ x => x)) (fun e => ?_)
          have := (sd_bit' (a := s) (b := 2 ^ i) (j := i)).mp (by rw [e]; exact h1)
          exact this.2 (by simp)
        have := m3 (sd s (2 ^ i))
        rw [if_neg (fun q => q ((pb_is1 (by omega) (by omega)).mpr h1)), sh1 (by omega), pb_sd, ld50 (by omega), h50 _ hlt, ob_some]
        by_cases h2 : mkv p (sd s (2 ^ i)) = 0
        · rw [h2, if_pos (show nI 0 = 0 from rfl), nI_1]
          refine ih m (i + 1) (by omega) (by omega) (fun j hj hj2 => ?_)
          by_cases e : j = i
          · rw [e]; exact h2
          · exact h j (by omega) hj2
        · rw [if_neg (show ¬ nI (mkv p (sd s (2 ^ i))) = 0 from fun q => h2 ((nI_inj (b := 0) (by omega) (by omega)).mp q)), if_pos ((hl_step hs).mpr ⟨i, by omega, h1, h2⟩)]
      · rw [if_pos (show ¬ (nI s >>> (nI i &&& 31)) &&& 1 = 1 from fun q => h1 ((pb_is1 (by omega) (by omega)).mp q)), nI_1]
        refine ih m (i + 1) (by omega) (by omega) (fun j hj hj2 => ?_)
        by_cases e : j = i
        · rw [e] at hj2; exact absurd hj2 h1
        · exact h j (by omega) hj2
  exact key 9 zF 0 rfl (zF_big (by decide)) (fun j hj => absurd hj (Nat.not_lt_zero _))

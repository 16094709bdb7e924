/-! PURE: best -/
def bin (f : Nat → Nat → Nat) (i : Nat) : Nat → Nat → Nat × Nat → Nat × Nat
  | 0, _, s => s
  | d + 1, j, s => bin f i d (j + 1) (if s.2 ≤ f i j then s else (10 * i + j, f i j))
def bou (f : Nat → Nat → Nat) (n : Nat) : Nat → Nat → Nat × Nat → Nat × Nat
  | 0, _, s => s
  | d + 1, i, s => bou f n d (i + 1) (bin f i (n - (i + 1)) (i + 1) s)
theorem bin_le {f : Nat → Nat → Nat} {i : Nat} (hf : ∀ i j, f i j ≤ 9) : ∀ d j s, (s.2 ≤ 9 → (bin f i d j s).2 ≤ 9) ∧ (1 ≤ d → (bin f i d j s).2 ≤ 9)
  | 0, _, s => ⟨id, fun h => absurd h (Nat.not_succ_le_zero _)⟩
  | d + 1, j, s => by
    have h9 := hf i j
    have key : (if s.2 ≤ f i j then s else (10 * i + j, f i j)).2 ≤ 9 := by
      by_cases h : s.2 ≤ f i j
      · rw [if_pos h]; omega
      · rw [if_neg h]; exact h9
    have := (bin_le (i := i) hf d (j + 1) (if s.2 ≤ f i j then s else (10 * i + j, f i j))).1 key
    exact ⟨fun _ => this, fun _ => this⟩
theorem bou_le {f : Nat → Nat → Nat} {n : Nat} (hf : ∀ i j, f i j ≤ 9) : ∀ d i s, s.2 ≤ 9 → (bou f n d i s).2 ≤ 9
  | 0, _, s => id
  | d + 1, i, s => fun h => bou_le hf d (i + 1) _ ((bin_le hf _ _ _).1 h)
/-- the class's gain, when m is the reference's least so far -/
def gn (b m : Nat) : Int32 := if m = 11 then -2147483648 else nI b - nI m
theorem gn_le {b m v : Nat} (hb : b ≤ 9) (hm : m ≤ 9 ∨ m = 11) (hv : v ≤ 9) : (nI b - nI v ≤ gn b m) ↔ m ≤ v := by
  have key : ∀ b, b < 10 → ∀ m, m < 12 → ∀ v, v < 10 → (m ≤ 9 ∨ m = 11) → ((nI b - nI v ≤ gn b m) ↔ m ≤ v) := by decide +kernel
  exact key b (by omega) m (by omega) v (by omega) hm
theorem lmt_9 (D : yD) (i j : Nat) : lmt D i j ≤ 9 := lmin_9
theorem bs_ok {f : Nat → Nat → Nat} {i j : Nat} {s : Nat × Nat} (hf : f i j ≤ 9) (hs : s.2 ≤ 9 ∨ s.2 = 11) : (if s.2 ≤ f i j then s else (10 * i + j, f i j)).2 ≤ 9 ∨ (if s.2 ≤ f i j then s else (10 * i + j, f i j)).2 = 11 := by
  by_cases h : s.2 ≤ f i j
  · rw [if_pos h]; exact hs
  · rw [if_neg h]; exact Or.inl hf
theorem xb_in {D : yD} {b a : Nat} (V : Vd D) (hb : b ≤ 9) (c37 : Int32 → Int32 → Int32 → Int32 → Int32 → zSt → Option (Int32 × zSt)) : ∀ (d m i j : Nat) (s : Nat × Nat) (σ : zSt), j + d = dn D → d < m → i < j → (s.2 ≤ 9 ∨ s.2 = 11) → In D σ → ∃ σ2, X_best_c55 c37 m (nI a) (nI b) (nI s.1) (gn b s.2) (nI i) (nI j) σ = c37 (nI a) (nI b) (nI (bin (lmt D) i d j s).1) (gn b (bin (lmt D) i d j s).2) (nI (i + 1)) σ2 ∧ Sm per σ σ2
  | d, 0, i, j, s, σ, _, hn, _, _, _ => absurd hn (Nat.not_lt_zero _)
  | 0, m + 1, i, j, s, σ, hj, hm, hij, hs, I => by
    have hn := V.1.2
    refine ⟨σ, ?_, Sm_refl⟩
    rw [X_best_c55, I.2.1.1.1, if_pos (nI_le (by omega) (by omega)), nI_1]
    rfl
  | d + 1, m + 1, i, j, s, σ, hj, hm, hij, hs, I => by
    have hn := V.1.2
    obtain ⟨σ2, e, S⟩ := xl_flip I (by omega : i < dn D) (by omega : j < dn D) (by omega)
    have h9 := lmt_9 D i j
    obtain ⟨σ3, e3, S3⟩ := xb_in (a := a) V hb c37 d m i (j + 1) (if s.2 ≤ lmt D i j then s else (10 * i + j, lmt D i j)) σ2 (by omega) (by omega) (by omega) (bs_ok h9 hs) (In_sm S I)
    refine ⟨σ3, ?_, Sm_tr S S3⟩
    rw [X_best_c55, I.2.1.1.1, if_neg (nI_ge (by omega) (by omega)), e, zb2_sm, nI_1, bin]
    by_cases h : s.2 ≤ lmt D i j
    · rw [if_pos ((gn_le hb hs h9).mpr h)]
      rw [if_pos h] at e3 ⊢
      exact e3
    · rw [if_neg (fun q => h ((gn_le hb hs h9).mp q))]
      rw [if_neg h] at e3 ⊢
      rw [show (10 : Int32) = nI 10 from rfl, pk_mul, nI_add, show nI b - nI (lmt D i j) = gn b (lmt D i j) from (if_neg (by omega)).symm]
      exact e3
theorem mb_in {D : yD} {b a : Nat} (V : Vd D) (c38 : Int32 → Int32 → Int32 → Int32 → Int32 → zSt → Option (Int32 × zSt)) : ∀ (d m i j : Nat) (s : Nat × Nat) (σ : zSt), j + d = dn D → d < m → i < j → (s.2 ≤ 9 ∨ s.2 = 11) → In D σ → ∃ σ2, M_best_c53 c38 m (nI a) (nI b) (nI s.1) (nI s.2) (nI i) (nI j) σ = c38 (nI a) (nI b) (nI (bin (lmt D) i d j s).1) (nI (bin (lmt D) i d j s).2) (nI (i + 1)) σ2 ∧ Sm per σ σ2
  | d, 0, i, j, s, σ, _, hn, _, _, _ => absurd hn (Nat.not_lt_zero _)
  | 0, m + 1, i, j, s, σ, hj, hm, hij, hs, I => by
    have hn := V.1.2
    refine ⟨σ, ?_, Sm_refl⟩
    rw [M_best_c53, I.2.2.1.1.1, if_pos (nI_le (by omega) (by omega)), nI_1]
    rfl
  | d + 1, m + 1, i, j, s, σ, hj, hm, hij, hs, I => by
    have hn := V.1.2
    obtain ⟨σ2, e, S⟩ := ml_turn I (by omega : i < dn D) (by omega : j < dn D) (by omega)
    have h9 := lmt_9 D i j
    obtain ⟨σ3, e3, S3⟩ := mb_in (a := a) (b := b) V c38 d m i (j + 1) (if s.2 ≤ lmt D i j then s else (10 * i + j, lmt D i j)) σ2 (by omega) (by omega) (by omega) (bs_ok h9 hs) (In_sm S I)
    refine ⟨σ3, ?_, Sm_tr S S3⟩
    rw [M_best_c53, I.2.2.1.1.1, if_neg (nI_ge (by omega) (by omega)), e, zb2_sm, bin]
    unfold M_best_c91
    rw [nI_1]
    by_cases h : s.2 ≤ lmt D i j
    · have h' : nI s.2 ≤ nI (lmt D i j) := nI_le h (by omega)
      rw [if_pos h', if_pos h']
      rw [if_pos h] at e3 ⊢
      exact e3
    · have h' : ¬ nI s.2 ≤ nI (lmt D i j) := nI_ge (by omega) (by omega)
      rw [if_neg h', if_neg h']
      rw [if_neg h] at e3 ⊢
      rw [show (10 : Int32) = nI 10 from rfl, pk_mul, nI_add]
      exact e3
theorem bin_ok {D : yD} {i : Nat} : ∀ d j s, (s.2 ≤ 9 ∨ s.2 = 11) → ((bin (lmt D) i d j s).2 ≤ 9 ∨ (bin (lmt D) i d j s).2 = 11)
  | 0, _, s, h => h
  | d + 1, j, s, h => bin_ok d (j + 1) _ (bs_ok (lmt_9 D i j) h)
theorem xb_out {D : yD} {b a : Nat} (V : Vd D) (hb : b ≤ 9) : ∀ (d m i : Nat) (s : Nat × Nat) (σ : zSt), i + d = dn D → d < m → (s.2 ≤ 9 ∨ s.2 = 11) → In D σ → ∃ σ2, X_best_c37 m (nI a) (nI b) (nI s.1) (gn b s.2) (nI i) σ = some (if ¬ nI a = 0 then gn b (bou (lmt D) (dn D) d i s).2 else nI (bou (lmt D) (dn D) d i s).1, σ2) ∧ Sm per σ σ2
  | d, 0, i, s, σ, _, hn, _, _ => absurd hn (Nat.not_lt_zero _)
  | 0, m + 1, i, s, σ, hi, hm, hs, I => by
    have hn := V.1.2
    refine ⟨σ, ?_, Sm_refl⟩
    rw [X_best_c37, I.2.1.1.1, if_pos (nI_le (by omega) (by omega))]
    by_cases h : ¬ nI a = 0
    · rw [if_pos h, if_pos h]; rfl
    · rw [if_neg h, if_neg h]; rfl
  | d + 1, m + 1, i, s, σ, hi, hm, hs, I => by
    have hn := V.1.2
    obtain ⟨σ2, e, S⟩ := xb_in (a := a) V hb (X_best_c37 m) (dn D - (i + 1)) zF i (i + 1) s σ (by omega) (zF_big (by omega)) (by omega) hs I
    obtain ⟨σ3, e3, S3⟩ := xb_out (a := a) V hb d m (i + 1) (bin (lmt D) i (dn D - (i + 1)) (i + 1) s) σ2 (by omega) (by omega) (bin_ok _ _ _ hs) (In_sm S I)
    refine ⟨σ3, ?_, Sm_tr S S3⟩
    rw [X_best_c37, I.2.1.1.1, if_neg (nI_ge (by omega) (by omega)), nI_1, e, e3]
    rfl
theorem mb_out {D : yD} {b a : Nat} (V : Vd D) : ∀ (d m i : Nat) (s : Nat × Nat) (σ : zSt), i + d = dn D → d < m → (s.2 ≤ 9 ∨ s.2 = 11) → In D σ → ∃ σ2, M_best_c38 m (nI a) (nI b) (nI s.1) (nI s.2) (nI i) σ = some (if ¬ nI a = 0 then nI b - nI (bou (lmt D) (dn D) d i s).2 else nI (bou (lmt D) (dn D) d i s).1, σ2) ∧ Sm per σ σ2
  | d, 0, i, s, σ, _, hn, _, _ => absurd hn (Nat.not_lt_zero _)
  | 0, m + 1, i, s, σ, hi, hm, hs, I => by
    have hn := V.1.2
    refine ⟨σ, ?_, Sm_refl⟩
    rw [M_best_c38, I.2.2.1.1.1, if_pos (nI_le (by omega) (by omega))]
    by_cases h : ¬ nI a = 0
    · rw [if_pos h, if_pos h]; rfl
    · rw [if_neg h, if_neg h]; rfl
  | d + 1, m + 1, i, s, σ, hi, hm, hs, I => by
    have hn := V.1.2
    obtain ⟨σ2, e, S⟩ := mb_in (a := a) (b := b) V (M_best_c38 m) (dn D - (i + 1)) zF i (i + 1) s σ (by omega) (zF_big (by omega)) (by omega) hs I
    obtain ⟨σ3, e3, S3⟩ := mb_out (a := a) (b := b) V d m (i + 1) (bin (lmt D) i (dn D - (i + 1)) (i + 1) s) σ2 (by omega) (by omega) (bin_ok _ _ _ hs) (In_sm S I)
    refine ⟨σ3, ?_, Sm_tr S S3⟩
    rw [M_best_c38, I.2.2.1.1.1, if_neg (nI_ge (by omega) (by omega)), nI_1, e, e3]
    rfl
theorem q_best (x : Int32) : Qs (X_best x) (M_best x) := by
  intro D V
  have hn := V.1
  rcases rng x 0 1 (by decide) (by decide) with h | ⟨h, h2, h3⟩ | ⟨j, _, hj, rfl⟩
  · refine ⟨-2147483648, As_of fun σ I => if_pos h, As_of fun σ I => ?_⟩
    unfold M_best
    rw [show M_in x 0 1 σ = some 0 from min_lo h, ob_some, if_pos rfl]
  · refine ⟨-2147483648, As_of fun σ I => (if_neg h).trans (if_pos h2), As_of fun σ I => ?_⟩
    unfold M_best
    rw [show M_in x 0 1 σ = some 0 from min_hi h h2, ob_some, if_pos rfl]
  · have hx : ∀ σ, In D σ → X_best (nI j) σ = if 2 ≤ nI (dn D) then zb2 (X_leastOfAll σ) (fun v1 σ2 => X_best_c37 zF (nI j) v1 0 (-2147483648) 0 σ2) else some ((-2147483648), σ) := fun σ I => by
      unfold X_best
      rw [if_neg (nI_pos (by omega)), if_neg (show ¬ 1 < nI j from nI_nlt (a := 1) hj (by omega)), I.2.1.1.1]
    have hm : ∀ σ, In D σ → M_best (nI j) σ = if ¬ nI (dn D) = 1 then ((M_takes σ).bind fun σ2 => zb2 (M_leastNow σ2) fun v3 σ4 => M_best_c38 zF (nI j) v3 0 11 0 σ4) else some ((-2147483648), σ) := fun σ I => by
      unfold M_best
      rw [show M_in (nI j) 0 1 σ = some 1 from min_ok (Nat.zero_le _) hj (by decide), ob_some, if_neg i10, I.2.2.1.1.1]
    by_cases h1 : dn D = 1
    · refine ⟨-2147483648, As_of fun σ I => ?_, As_of fun σ I => ?_⟩
      · rw [hx σ I, h1, if_neg (by decide)]
      · rw [hm σ I, h1, if_neg (fun q => q rfl)]
    · have hfin : (bou (lmt D) (dn D) (dn D) 0 (0, 11)).2 ≤ 9 := by
        obtain ⟨d, hd⟩ : ∃ d, dn D = d + 1 := ⟨dn D - 1, by omega⟩
        have e : bou (lmt D) (dn D) (dn D) 0 (0, 11) = bou (lmt D) (dn D) d (0 + 1) (bin (lmt D) 0 (dn D - (0 + 1)) (0 + 1) (0, 11)) := by
          conv => lhs; rw [show bou (lmt D) (dn D) (dn D) 0 (0, 11) = bou (lmt D) (dn D) (d + 1) 0 (0, 11) by rw [← hd]]
          rfl
        rw [e]
        exact bou_le (fun i j => lmt_9 D i j) _ _ _ ((bin_le (fun i j => lmt_9 D i j) _ _ _).2 (by omega))
      refine ⟨if ¬ nI j = 0 then gn (lm0 D) (bou (lmt D) (dn D) (dn D) 0 (0, 11)).2 else nI (bou (lmt D) (dn D) (dn D) 0 (0, 11)).1, fun σ I => ?_, fun σ I => ?_⟩
      · obtain ⟨σ2, e2, S2⟩ := xl_all I
        obtain ⟨σ3, e3, S3⟩ := xb_out (a := j) (b := lm0 D) V lmin_9 (dn D) zF 0 (0, 11) σ2 (by omega) (zF_big (by omega)) (Or.inr rfl) (In_sm S2 I)
        refine ⟨σ3, ?_, Sm_tr S2 S3⟩
        rw [hx σ I, if_pos (show 2 ≤ nI (dn D) from nI_le (a := 2) (by omega) (by omega)), e2, zb2_sm]
        exact e3
      · obtain ⟨σ2, σ3, e2, e3, S3, _⟩ := ml_all I
        obtain ⟨σ4, e4, S4⟩ := mb_out (a := j) (b := lm0 D) V (dn D) zF 0 (0, 11) σ3 (by omega) (zF_big (by omega)) (Or.inr rfl) (In_sm S3 I)
        refine ⟨σ4, ?_, Sm_tr S3 S4⟩
        rw [hm σ I, if_pos (show ¬ nI (dn D) = 1 from fun q => h1 ((nI_inj (b := 1) (by omega) (by omega)).mp q)), e2, ob_some, e3, zb2_sm]
        unfold gn
        rw [if_neg (show ¬ (bou (lmt D) (dn D) (dn D) 0 (0, 11)).2 = 11 by omega)]
        exact e4

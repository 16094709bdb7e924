/-! PURE: kind, cost, rule, prime -/
theorem tl_St {D : yD} {H : yH} {w i j : Nat} {v : Int32} {f g : zSt → Option (Int32 × zSt)} (V : Vd D) (hv : HV (dn D) H) (hi : i < 9) (hj : j < 9) (h : okv (dn D) w i j v) (hf : ∀ σ σ2, XI D H σ → His_tell (nI w) (nI i) (nI j) v σ = some (dv D w i j, σ2) → f σ = some (dv D w i j, σ2)) (hg : ∀ σ σ2, MI D H σ → M_changes (nI w) (nI (pl w i j)) (dv D w i j) v σ = some σ2 → g σ = some (dv D w i j, σ2)) : ∃ r D2 H2, Vd D2 ∧ HV (dn D2) H2 ∧ XS f D H r D2 H2 ∧ MS g D H r D2 H2 := by
  obtain ⟨V2, H2⟩ := tl_V V hv hi hj h
  refine ⟨dv D w i j, _, _, V2, H2, fun σ X => ?_, fun σ M => ?_⟩
  · obtain ⟨σ2, e, X2, f2⟩ := xtl_ok hv hi hj h σ X
    exact ⟨σ2, hf σ σ2 X e, X2, f2⟩
  · obtain ⟨σ2, e, M2, f2⟩ := mtl_ok hv hi hj h σ M
    exact ⟨σ2, hg σ σ2 M e, M2, f2⟩
/-- the same, with an answer that is -1 or not below 0 -/
def St2 (f g : zSt → Option (Int32 × zSt)) : Prop := ∀ D H, Vd D → HV (dn D) H → ∃ r D2 H2, (r = -1 ∨ 0 ≤ r) ∧ Vd D2 ∧ HV (dn D2) H2 ∧ XS f D H r D2 H2 ∧ MS g D H r D2 H2
theorem St_of {f g : zSt → Option (Int32 × zSt)} (h : St2 f g) : St f g := fun D H V hv => by
  obtain ⟨r, D2, H2, _, k⟩ := h D H V hv
  exact ⟨r, D2, H2, k⟩
theorem tl_St2 {D : yD} {H : yH} {w i j : Nat} {v : Int32} {f g : zSt → Option (Int32 × zSt)} (h0 : 0 ≤ dv D w i j) (V : Vd D) (hv : HV (dn D) H) (hi : i < 9) (hj : j < 9) (h : okv (dn D) w i j v) (hf : ∀ σ σ2, XI D H σ → His_tell (nI w) (nI i) (nI j) v σ = some (dv D w i j, σ2) → f σ = some (dv D w i j, σ2)) (hg : ∀ σ σ2, MI D H σ → M_changes (nI w) (nI (pl w i j)) (dv D w i j) v σ = some σ2 → g σ = some (dv D w i j, σ2)) : ∃ r D2 H2, (r = -1 ∨ 0 ≤ r) ∧ Vd D2 ∧ HV (dn D2) H2 ∧ XS f D H r D2 H2 ∧ MS g D H r D2 H2 := by
  obtain ⟨V2, H2⟩ := tl_V V hv hi hj h
  refine ⟨dv D w i j, _, _, Or.inr h0, V2, H2, fun σ X => ?_, fun σ M => ?_⟩
  · obtain ⟨σ2, e, X2, f2⟩ := xtl_ok hv hi hj h σ X
    exact ⟨σ2, hf σ σ2 X e, X2, f2⟩
  · obtain ⟨σ2, e, M2, f2⟩ := mtl_ok hv hi hj h σ M
    exact ⟨σ2, hg σ σ2 M e, M2, f2⟩
theorem gt_not {y : Int32} {a b : Nat} (h : nI a < y) (hb : b = a + 1) (ha : a < 1000) : ¬ y < nI b := fun q => by
  rw [Int32.lt_iff_toInt_lt, nI_toInt (by omega)] at h
  rw [Int32.lt_iff_toInt_lt, nI_toInt (by omega)] at q
  omega
theorem t_kind (x y : Int32) : St2 (X_kind x y) (M_kind x y) := by
  intro D H V hv
  rcases pt2 V.1 x with ⟨g1, g2⟩ | ⟨i, rfl, hi, g1, g2⟩
  · refine ⟨-1, D, H, Or.inl rfl, V, hv, XS_id fun σ X => ?_, MS_id fun σ M => ?_⟩
    · unfold X_kind; rw [g1 σ X.1.1.1, ob_some, if_pos rfl]
    · unfold M_kind; rw [g2 σ M.1.1.1, ob_some, if_pos rfl]
  have hn := V.1.2
  rcases rng y 0 4 (by decide) (by decide) with k | ⟨k, k2, k3⟩ | ⟨a, _, ha, rfl⟩
  · refine ⟨-1, D, H, Or.inl rfl, V, hv, XS_id fun σ X => ?_, MS_id fun σ M => ?_⟩
    · unfold X_kind; rw [g1 σ X.1.1.1, ob_some, if_neg i10, if_pos (show y < 0 from k)]
    · unfold M_kind; rw [g2 σ M.1.1.1, ob_some, if_neg i10, show M_in y 0 4 σ = some 0 from min_lo k, ob_some, if_neg (fun q => q rfl)]
  · refine ⟨-1, D, H, Or.inl rfl, V, hv, XS_id fun σ X => ?_, MS_id fun σ M => ?_⟩
    · unfold X_kind; rw [g1 σ X.1.1.1, ob_some, if_neg i10, if_neg (show ¬ y < 0 from k), if_neg (show ¬ y < 5 from gt_not (b := 5) k2 rfl (by decide))]
    · unfold M_kind; rw [g2 σ M.1.1.1, ob_some, if_neg i10, show M_in y 0 4 σ = some 0 from min_hi k k2, ob_some, if_neg (fun q => q rfl)]
  · refine tl_St2 (h0 := (show 0 ≤ nI (dK D i) from nI_pos' (by have := V.2.2.2.2.2.2.1 i; omega))) (w := 1) (i := i) (j := 0) (v := nI a) V hv (by omega) (by decide) (Or.inr (Or.inl ⟨rfl, a, ha, rfl⟩)) (fun σ σ2 X e => ?_) (fun σ σ2 M e => ?_)
    · unfold X_kind
      rw [g1 σ X.1.1.1, ob_some, if_neg i10, if_neg (nI_pos (by omega)), if_pos (show nI a < 5 from nI_lt (b := 5) (by omega) (by decide)), show (1 : Int32) = nI 1 from rfl, show (0 : Int32) = nI 0 from rfl, e, zb2_sm]
    · unfold M_kind
      rw [g2 σ M.1.1.1, ob_some, if_neg i10, show M_in (nI a) 0 4 σ = some 1 from min_ok (Nat.zero_le _) ha (by decide), ob_some, if_pos i10, ld77 (by omega), ob_some, M.1.2.2.1 i (by omega)]
      show (M_changes (nI 1) (nI (pl 1 i 0)) (dv D 1 i 0) (nI a) σ).bind _ = _
      rw [e, ob_some]
      rfl
theorem s_kind (x y : Int32) : St (X_kind x y) (M_kind x y) := St_of (t_kind x y)
theorem t_cost (x y : Int32) : St2 (X_cost x y) (M_cost x y) := by
  intro D H V hv
  rcases pt2 V.1 x with ⟨g1, g2⟩ | ⟨i, rfl, hi, g1, g2⟩
  · refine ⟨-1, D, H, Or.inl rfl, V, hv, XS_id fun σ X => ?_, MS_id fun σ M => ?_⟩
    · unfold X_cost; rw [g1 σ X.1.1.1, ob_some, if_pos rfl]
    · unfold M_cost; rw [g2 σ M.1.1.1, ob_some, if_pos rfl]
  have hn := V.1.2
  rcases rng y 0 9 (by decide) (by decide) with k | ⟨k, k2, k3⟩ | ⟨a, _, ha, rfl⟩
  · refine ⟨-1, D, H, Or.inl rfl, V, hv, XS_id fun σ X => ?_, MS_id fun σ M => ?_⟩
    · unfold X_cost; rw [g1 σ X.1.1.1, ob_some, if_neg i10, if_pos (show y < 0 from k)]
    · unfold M_cost; rw [g2 σ M.1.1.1, ob_some, if_neg i10, show M_in y 0 9 σ = some 0 from min_lo k, ob_some, if_neg (fun q => q rfl)]
  · refine ⟨-1, D, H, Or.inl rfl, V, hv, XS_id fun σ X => ?_, MS_id fun σ M => ?_⟩
    · unfold X_cost; rw [g1 σ X.1.1.1, ob_some, if_neg i10, if_neg (show ¬ y < 0 from k), if_neg (show ¬ y ≤ 9 from k3)]
    · unfold M_cost; rw [g2 σ M.1.1.1, ob_some, if_neg i10, show M_in y 0 9 σ = some 0 from min_hi k k2, ob_some, if_neg (fun q => q rfl)]
  · refine tl_St2 (h0 := (show 0 ≤ nI (dC D i) from nI_pos' (by have := V.2.2.2.2.2.2.2 i; omega))) (w := 2) (i := i) (j := 0) (v := nI a) V hv (by omega) (by decide) (Or.inr (Or.inr (Or.inl ⟨rfl, a, ha, rfl⟩))) (fun σ σ2 X e => ?_) (fun σ σ2 M e => ?_)
    · unfold X_cost
      rw [g1 σ X.1.1.1, ob_some, if_neg i10, if_neg (nI_pos (by omega)), if_pos (show nI a ≤ 9 from nI_le (b := 9) ha (by decide)), show (2 : Int32) = nI 2 from rfl, show (0 : Int32) = nI 0 from rfl, e, zb2_sm]
    · unfold M_cost
      rw [g2 σ M.1.1.1, ob_some, if_neg i10, show M_in (nI a) 0 9 σ = some 1 from min_ok (Nat.zero_le _) ha (by decide), ob_some, if_pos i10, ld78 (by omega), ob_some, M.1.2.2.2 i (by omega)]
      show (M_changes (nI 2) (nI (pl 2 i 0)) (dv D 2 i 0) (nI a) σ).bind _ = _
      rw [e, ob_some]
      rfl
theorem s_cost (x y : Int32) : St (X_cost x y) (M_cost x y) := St_of (t_cost x y)
theorem t_rule (x y : Int32) : St2 (X_rule x y) (M_rule x y) := by
  intro D H V hv
  rcases rng x 0 4 (by decide) (by decide) with k | ⟨k, k2, k3⟩ | ⟨r, _, hr, rfl⟩
  · refine ⟨-1, D, H, Or.inl rfl, V, hv, XS_id fun σ X => ?_, MS_id fun σ M => ?_⟩
    · unfold X_rule; rw [if_pos (show x < 0 from k)]
    · unfold M_rule; rw [show M_in x 0 4 σ = some 0 from min_lo k, ob_some, if_pos rfl]
  · refine ⟨-1, D, H, Or.inl rfl, V, hv, XS_id fun σ X => ?_, MS_id fun σ M => ?_⟩
    · unfold X_rule; rw [if_neg (show ¬ x < 0 from k), if_pos (show (5 : Int32) ≤ x from Int32.not_lt.mp (gt_not (b := 5) k2 rfl (by decide)))]
    · unfold M_rule; rw [show M_in x 0 4 σ = some 0 from min_hi k k2, ob_some, if_pos rfl]
  have n5 : ¬ (5 : Int32) ≤ nI r := nI_ge (b := 5) (by omega) (by decide)
  have e4 : ∀ σ, M_in (nI r) 0 4 σ = some 1 := fun σ => min_ok (Nat.zero_le _) hr (by decide)
  rcases rng y 1 4 (by decide) (by decide) with k | ⟨k, k2, k3⟩ | ⟨a, ha1, ha, rfl⟩
  · refine ⟨-1, D, H, Or.inl rfl, V, hv, XS_id fun σ X => ?_, MS_id fun σ M => ?_⟩
    · unfold X_rule; rw [if_neg (nI_pos (by omega)), if_neg n5, if_pos (show y < 1 from k)]
    · unfold M_rule; rw [e4, ob_some, if_neg i10, show M_in y 1 4 σ = some 0 from min_lo k, ob_some, if_neg (fun q => q rfl)]
  · refine ⟨-1, D, H, Or.inl rfl, V, hv, XS_id fun σ X => ?_, MS_id fun σ M => ?_⟩
    · unfold X_rule; rw [if_neg (nI_pos (by omega)), if_neg n5, if_neg (show ¬ y < 1 from k), if_neg (show ¬ y ≤ 4 from k3)]
    · unfold M_rule; rw [e4, ob_some, if_neg i10, show M_in y 1 4 σ = some 0 from min_hi k k2, ob_some, if_neg (fun q => q rfl)]
  · have e10 : (10 : Int32) * nI r + nI a = nI (10 * r + a) := by rw [z_10, pk_mul, nI_add]
    refine tl_St2 (h0 := (show 0 ≤ nI (10 * dr D + dk D) from nI_pos' (by have := V.2.1; omega))) (w := 3) (i := 0) (j := 0) (v := nI (10 * r + a)) V hv (by decide) (by decide) (Or.inr (Or.inr (Or.inr (Or.inl ⟨rfl, r, a, hr, ha1, ha, rfl⟩)))) (fun σ σ2 X e => ?_) (fun σ σ2 M e => ?_)
    · unfold X_rule
      rw [if_neg (nI_pos (by omega)), if_neg n5, if_neg (show ¬ nI a < 1 from nI_nlt (b := 1) ha1 (by omega)), if_pos (show nI a ≤ 4 from nI_le (b := 4) ha (by decide)), e10]
      show zb2 (His_tell (nI 3) (nI 0) (nI 0) (nI (10 * r + a)) σ) _ = _
      rw [e, zb2_sm]
    · have e11 : (10 : Int32) * nI (dr D) + nI (dk D) = dv D 3 0 0 := by rw [z_10, pk_mul, nI_add]; rfl
      unfold M_rule
      rw [e4, ob_some, if_neg i10, show M_in (nI a) 1 4 σ = some 1 from min_ok ha1 ha (by decide), ob_some, if_pos i10, zlet_ap, M.1.1.2.1, M.1.1.2.2.1, e10, e11]
      show (M_changes (nI 3) (nI (pl 3 0 0)) (dv D 3 0 0) (nI (10 * r + a)) σ).bind _ = _
      rw [e, ob_some]
theorem s_rule (x y : Int32) : St (X_rule x y) (M_rule x y) := St_of (t_rule x y)
theorem ld200 {σ : zSt} {i : Nat} (h : i < 7) : zld σ 200 (nI i) = some (zcon 200 i) := by
  unfold zld
  rw [show Nat.beq (zkd 200) 100 = false from rfl, show Nat.beq (zkd 200) 105 = true from rfl, show zln 200 = 7 from rfl, zob_ok h (by decide), nI_clamp (by omega)]
  rfl
theorem xip_s {σ : zSt} {m i : Nat} {x : Int32} (h : i < 7) (hx : ¬ zcon 200 i = x) : X_isPrime_c9 σ (m + 1) x 7 (nI i) = X_isPrime_c9 σ m x 7 (nI (i + 1)) := by
  rw [X_isPrime_c9, if_neg (show ¬ (7 : Int32) ≤ nI i from nI_ge (b := 7) h (by decide)), ld200 h, ob_some, if_pos hx, nI_1]
theorem xip_y {σ : zSt} {m i : Nat} {x : Int32} (h : i < 7) (hx : zcon 200 i = x) : X_isPrime_c9 σ (m + 1) x 7 (nI i) = some 1 := by
  rw [X_isPrime_c9, if_neg (show ¬ (7 : Int32) ≤ nI i from nI_ge (b := 7) h (by decide)), ld200 h, ob_some, if_neg (fun q => q hx)]
theorem prm_cases (x : Int32) : (x ≠ 11 ∧ x ≠ 13 ∧ x ≠ 17 ∧ x ≠ 19 ∧ x ≠ 23 ∧ x ≠ 29 ∧ x ≠ 31 ∧ ∀ σ, X_isPrime x σ = some 0) ∨ ∃ p, prim p ∧ x = nI p ∧ ∀ σ, X_isPrime x σ = some 1 ∧ M_prime x σ = M_prime_c44 x σ := by
  have c0 : zcon 200 0 = 11 := rfl
  have c1 : zcon 200 1 = 13 := rfl
  have c2 : zcon 200 2 = 17 := rfl
  have c3 : zcon 200 3 = 19 := rfl
  have c4 : zcon 200 4 = 23 := rfl
  have c5 : zcon 200 5 = 29 := rfl
  have c6 : zcon 200 6 = 31 := rfl
  have st : ∀ σ, X_isPrime x σ = X_isPrime_c9 σ (4088 + 7 + 1) x 7 (nI 0) := fun σ => rfl
  by_cases h0 : x = 11
  · refine Or.inr ⟨11, Or.inl rfl, h0, fun σ => ⟨?_, ?_⟩⟩
    · rw [st, xip_y (by decide) (by rw [c0, h0])]
    · unfold M_prime; rw [if_pos h0]
  by_cases h1 : x = 13
  · refine Or.inr ⟨13, Or.inr (Or.inl rfl), h1, fun σ => ⟨?_, ?_⟩⟩
    · rw [st, xip_s (by decide) (by rw [c0]; exact Ne.symm h0), xip_y (by decide) (by rw [c1, h1])]
    · unfold M_prime; rw [if_neg h0, if_pos h1]
  by_cases h2 : x = 17
  · refine Or.inr ⟨17, Or.inr (Or.inr (Or.inl rfl)), h2, fun σ => ⟨?_, ?_⟩⟩
    · rw [st, xip_s (by decide) (by rw [c0]; exact Ne.symm h0), xip_s (by decide) (by rw [c1]; exact Ne.symm h1), xip_y (by decide) (by rw [c2, h2])]
    · unfold M_prime; rw [if_neg h0, if_neg h1, if_pos h2]
  by_cases h3 : x = 19
  · refine Or.inr ⟨19, Or.inr (Or.inr (Or.inr (Or.inl rfl))), h3, fun σ => ⟨?_, ?_⟩⟩
    · rw [st, xip_s (by decide) (by rw [c0]; exact Ne.symm h0), xip_s (by decide) (by rw [c1]; exact Ne.symm h1), xip_s (by decide) (by rw [c2]; exact Ne.symm h2), xip_y (by decide) (by rw [c3, h3])]
    · unfold M_prime; rw [if_neg h0, if_neg h1, if_neg h2, if_pos h3]
  by_cases h4 : x = 23
  · refine Or.inr ⟨23, Or.inr (Or.inr (Or.inr (Or.inr (Or.inl rfl)))), h4, fun σ => ⟨?_, ?_⟩⟩
    · rw [st, xip_s (by decide) (by rw [c0]; exact Ne.symm h0), xip_s (by decide) (by rw [c1]; exact Ne.symm h1), xip_s (by decide) (by rw [c2]; exact Ne.symm h2), xip_s (by decide) (by rw [c3]; exact Ne.symm h3), xip_y (by decide) (by rw [c4, h4])]
    · unfold M_prime; rw [if_neg h0, if_neg h1, if_neg h2, if_neg h3, if_pos h4]
  by_cases h5 : x = 29
  · refine Or.inr ⟨29, Or.inr (Or.inr (Or.inr (Or.inr (Or.inr (Or.inl rfl))))), h5, fun σ => ⟨?_, ?_⟩⟩
    · rw [st, xip_s (by decide) (by rw [c0]; exact Ne.symm h0), xip_s (by decide) (by rw [c1]; exact Ne.symm h1), xip_s (by decide) (by rw [c2]; exact Ne.symm h2), xip_s (by decide) (by rw [c3]; exact Ne.symm h3), xip_s (by decide) (by rw [c4]; exact Ne.symm h4), xip_y (by decide) (by rw [c5, h5])]
    · unfold M_prime; rw [if_neg h0, if_neg h1, if_neg h2, if_neg h3, if_neg h4, if_pos h5]
  by_cases h6 : x = 31
  · refine Or.inr ⟨31, Or.inr (Or.inr (Or.inr (Or.inr (Or.inr (Or.inr rfl))))), h6, fun σ => ⟨?_, ?_⟩⟩
    · rw [st, xip_s (by decide) (by rw [c0]; exact Ne.symm h0), xip_s (by decide) (by rw [c1]; exact Ne.symm h1), xip_s (by decide) (by rw [c2]; exact Ne.symm h2), xip_s (by decide) (by rw [c3]; exact Ne.symm h3), xip_s (by decide) (by rw [c4]; exact Ne.symm h4), xip_s (by decide) (by rw [c5]; exact Ne.symm h5), xip_y (by decide) (by rw [c6, h6])]
    · unfold M_prime; rw [if_neg h0, if_neg h1, if_neg h2, if_neg h3, if_neg h4, if_neg h5, if_pos h6]
  · refine Or.inl ⟨h0, h1, h2, h3, h4, h5, h6, fun σ => ?_⟩
    rw [st, xip_s (by decide) (by rw [c0]; exact Ne.symm h0), xip_s (by decide) (by rw [c1]; exact Ne.symm h1), xip_s (by decide) (by rw [c2]; exact Ne.symm h2), xip_s (by decide) (by rw [c3]; exact Ne.symm h3), xip_s (by decide) (by rw [c4]; exact Ne.symm h4), xip_s (by decide) (by rw [c5]; exact Ne.symm h5), xip_s (by decide) (by rw [c6]; exact Ne.symm h6)]
    rw [X_isPrime_c9, if_pos (show (7 : Int32) ≤ nI 7 by decide)]
theorem t_prime (x : Int32) : St2 (X_prime x) (M_prime x) := by
  intro D H V hv
  rcases prm_cases x with ⟨h0, h1, h2, h3, h4, h5, h6, k⟩ | ⟨p, hp, rfl, k⟩
  · refine ⟨-1, D, H, Or.inl rfl, V, hv, XS_id fun σ X => ?_, MS_id fun σ M => ?_⟩
    · unfold X_prime; rw [k, ob_some, if_neg (fun q => q rfl)]
    · unfold M_prime; rw [if_neg h0, if_neg h1, if_neg h2, if_neg h3, if_neg h4, if_neg h5, if_neg h6]
  · refine tl_St2 (h0 := (show 0 ≤ nI (dp D) from nI_pos' (by have := V.2.2.1; unfold prim at this; omega))) (w := 4) (i := 0) (j := 0) (v := nI p) V hv (by decide) (by decide) (Or.inr (Or.inr (Or.inr (Or.inr ⟨rfl, p, hp, rfl⟩)))) (fun σ σ2 X e => ?_) (fun σ σ2 M e => ?_)
    · unfold X_prime
      rw [(k σ).1, ob_some, if_pos i10]
      show zb2 (His_tell (nI 4) (nI 0) (nI 0) (nI p) σ) _ = _
      rw [e, zb2_sm]
    · rw [(k σ).2]
      unfold M_prime_c44
      rw [M.1.1.2.2.2]
      show (M_changes (nI 4) (nI (pl 4 0 0)) (dv D 4 0 0) (nI p) σ).bind _ = _
      rw [e, ob_some]
      rfl
theorem s_prime (x : Int32) : St (X_prime x) (M_prime x) := St_of (t_prime x)

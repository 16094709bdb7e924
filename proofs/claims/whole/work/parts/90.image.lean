/-! PURE: image, back -/
theorem cpy_at {σ : zSt} {a0 a j : Nat} (hj : j < 9) : va_cpy (σ a0) (σ a) 0 0 9 j = σ a0 j := by
  rw [pk_cpy_in (by omega) (by omega), Nat.sub_zero, Nat.zero_add]
theorem kd_20 : ∀ i, i < 9 → Nat.beq (zkd (20 + i)) 100 = true ∧ zln (20 + i) = 9 := by decide +kernel
/-- the rows of one network become another's -/
theorem cprow {f : Nat → Nat → zSt → Option zSt} {A B : Nat} {σ0 : zSt} (hA : ∀ i, i < 9 → Nat.beq (zkd (A + i)) 100 = true ∧ zln (A + i) = 9) (hB : ∀ i, i < 9 → Nat.beq (zkd (B + i)) 100 = true ∧ zln (B + i) = 9) (hd : A + 9 ≤ B ∨ B + 9 ≤ A) (h0 : ∀ m σ, f (m + 1) 9 σ = some σ) (hs : ∀ m i σ, i < 9 → f (m + 1) i σ = (zcpy σ (A + i) 0 (B + i) 0 9).bind fun σ => f m (i + 1) σ) : ∀ (d m i : Nat) (σ : zSt), i + d = 9 → d < m → (∀ x, x < i → ∀ y, y < 9 → σ (B + x) y = σ0 (A + x) y) → (∀ a q, (a < B ∨ B + 9 ≤ a) → σ a q = σ0 a q) → ∃ σ2, f m i σ = some σ2 ∧ (∀ x, x < 9 → ∀ y, y < 9 → σ2 (B + x) y = σ0 (A + x) y) ∧ ∀ a q, (a < B ∨ B + 9 ≤ a) → σ2 a q = σ0 a q
  | d, 0, i, σ, _, hm, _, _ => absurd hm (Nat.not_lt_zero _)
  | 0, m + 1, i, σ, hi, _, h1, h2 => by
    obtain rfl : i = 9 := by omega
    exact ⟨σ, h0 m σ, h1, h2⟩
  | d + 1, m + 1, i, σ, hi, hm, h1, h2 => by
    obtain ⟨a1, a2⟩ := hA i (by omega)
    obtain ⟨b1, b2⟩ := hB i (by omega)
    rw [hs m i σ (by omega), cpy9 a1 b1 a2 b2, ob_some]
    refine cprow hA hB hd h0 hs d m (i + 1) _ (by omega) (by omega) (fun x hx y hy => ?_) (fun a q hq => ?_)
    · rw [sw_ap]
      by_cases e : x = i
      · rw [if_pos (by rw [e]), e, cpy_at hy, h2 (A + i) y (by omega)]
      · rw [if_neg (by omega)]; exact h1 x (by omega) y hy
    · rw [sw_ap, if_neg (by omega)]; exact h2 a q hq
theorem xim_ok {σ : zSt} {D : yD} (C : CN 1 2 3 4 6 D σ) : ∃ σ2, Net_become_15_1 σ = some σ2 ∧ CN 15 16 17 18 20 D σ2 ∧ ∀ a q, (a < 15 ∨ 28 < a) → σ2 a q = σ a q := by
  obtain ⟨⟨c1, c2, c3, c4⟩, c5, c6, c7, c8⟩ := C
  have e4 : ∀ v1 v2 v3 v4 : Int32, ∀ a q, a ≠ 15 → su (su (su (su σ 15 0 v1) 15 1 v2) 15 2 v3) 15 3 v4 a q = σ a q := fun v1 v2 v3 v4 a q w => by rw [su_ap, if_neg (fun z => w z.1), su_ap, if_neg (fun z => w z.1), su_ap, if_neg (fun z => w z.1), su_ap, if_neg (fun z => w z.1)]
  have r : ∀ (v1 v2 v3 v4 : Int32), su (su (su (su σ 15 0 v1) 15 1 v2) 15 2 v3) 15 3 v4 15 0 = v1 ∧ su (su (su (su σ 15 0 v1) 15 1 v2) 15 2 v3) 15 3 v4 15 1 = v2 ∧ su (su (su (su σ 15 0 v1) 15 1 v2) 15 2 v3) 15 3 v4 15 2 = v3 ∧ su (su (su (su σ 15 0 v1) 15 1 v2) 15 2 v3) 15 3 v4 15 3 = v4 := fun v1 v2 v3 v4 => by
    refine ⟨?_, ?_, ?_, ?_⟩ <;> simp only [su_ap] <;> rfl
  have rr4 := r (nI (dn D)) (nI (dr D)) (nI (dk D)) (nI (dp D))
  have ee4 := e4 (nI (dn D)) (nI (dr D)) (nI (dk D)) (nI (dp D))
  have eb : Net_become_15_1 σ = ((zcpy (su (su (su (su σ 15 0 (nI (dn D))) 15 1 (nI (dr D))) 15 2 (nI (dk D))) 15 3 (nI (dp D))) 2 0 16 0 9).bind fun σ5 => (zcpy σ5 3 0 17 0 9).bind fun σ6 => (zcpy σ6 4 0 18 0 9).bind fun σ7 => Net_become_15_1_c79 zF 0 σ7) := by
    unfold Net_become_15_1
    rw [zlet_ap, zlet_ap, zlet_ap, zlet_ap, c1, show su σ 15 0 (nI (dn D)) 1 1 = nI (dr D) from c2, show su (su σ 15 0 (nI (dn D))) 15 1 (nI (dr D)) 1 2 = nI (dk D) from c3, show su (su (su σ 15 0 (nI (dn D))) 15 1 (nI (dr D))) 15 2 (nI (dk D)) 1 3 = nI (dp D) from c4]
  generalize su (su (su (su σ 15 0 (nI (dn D))) 15 1 (nI (dr D))) 15 2 (nI (dk D))) 15 3 (nI (dp D)) = τ at *
  obtain ⟨σ2, e2, g1, g2⟩ := cprow (f := fun m i σ => Net_become_15_1_c79 m (nI i) σ) (A := 6) (B := 20) (σ0 := sw (sw (sw τ 16 (va_cpy (τ 2) (τ 16) 0 0 9)) 17 (va_cpy (τ 3) (τ 17) 0 0 9)) 18 (va_cpy (τ 4) (τ 18) 0 0 9)) kd_6 kd_20 (by omega) (fun m υ => by show Net_become_15_1_c79 (m + 1) (nI 9) υ = _; rw [Net_become_15_1_c79, if_pos (show (9 : Int32) ≤ nI 9 by decide)]) (fun m i υ hi => by
    show Net_become_15_1_c79 (m + 1) (nI i) υ = _
    rw [Net_become_15_1_c79, if_neg (show ¬ (9 : Int32) ≤ nI i from nI_ge (b := 9) hi (by decide)), lr6 hi, ob_some, lr20 hi, ob_some, nI_1]) 9 zF 0 _ rfl (zF_big (by decide)) (fun x hx => absurd hx (Nat.not_lt_zero _)) (fun _ _ _ => rfl)
  refine ⟨σ2, ?_, ⟨⟨?_, ?_, ?_, ?_⟩, fun i hi => ?_, fun i hi => ?_, fun i hi => ?_, fun i hi j hj => ?_⟩, fun a q hq => ?_⟩
  · rw [eb, cpy9 rfl rfl rfl rfl, ob_some, cpy9 rfl rfl rfl rfl, ob_some, cpy9 rfl rfl rfl rfl, ob_some]
    exact e2
  · rw [g2 15 _ (by omega), sw_ap, if_neg (by omega), sw_ap, if_neg (by omega), sw_ap, if_neg (by omega)]; exact rr4.1
  · rw [g2 15 _ (by omega), sw_ap, if_neg (by omega), sw_ap, if_neg (by omega), sw_ap, if_neg (by omega)]; exact rr4.2.1
  · rw [g2 15 _ (by omega), sw_ap, if_neg (by omega), sw_ap, if_neg (by omega), sw_ap, if_neg (by omega)]; exact rr4.2.2.1
  · rw [g2 15 _ (by omega), sw_ap, if_neg (by omega), sw_ap, if_neg (by omega), sw_ap, if_neg (by omega)]; exact rr4.2.2.2
  · rw [g2 16 _ (by omega), sw_ap, if_neg (by omega), sw_ap, if_neg (by omega), sw_ap, if_pos rfl, cpy_at hi, ee4 2 i (by decide)]; exact c5 i hi
  · rw [g2 17 _ (by omega), sw_ap, if_neg (by omega), sw_ap, if_pos rfl]
    show va_cpy (τ 3) (τ 17) 0 0 9 i = _
    rw [cpy_at hi, ee4 3 i (by decide)]; exact c6 i hi
  · rw [g2 18 _ (by omega), sw_ap, if_pos rfl]
    show va_cpy (τ 4) (τ 18) 0 0 9 i = _
    rw [cpy_at hi, ee4 4 i (by decide)]; exact c7 i hi
  · rw [g1 i hi j hj, sw_ap, if_neg (by omega), sw_ap, if_neg (by omega), sw_ap, if_neg (by omega), ee4 _ _ (by omega)]; exact c8 i hi j hj
  · by_cases e : a < 20 ∨ 20 + 9 ≤ a
    · rw [g2 a q e, sw_ap, if_neg (by omega), sw_ap, if_neg (by omega), sw_ap, if_neg (by omega), ee4 a q (by omega)]
    · omega
theorem xbk_ok {σ : zSt} {D : yD} (C : CN 15 16 17 18 20 D σ) : ∃ σ2, Net_become_1_15 σ = some σ2 ∧ CN 1 2 3 4 6 D σ2 ∧ ∀ a q, (a < 1 ∨ 14 < a) → σ2 a q = σ a q := by
  obtain ⟨⟨c1, c2, c3, c4⟩, c5, c6, c7, c8⟩ := C
  have ee4 : ∀ a q, a ≠ 1 → su (su (su (su σ 1 0 (nI (dn D))) 1 1 (nI (dr D))) 1 2 (nI (dk D))) 1 3 (nI (dp D)) a q = σ a q := fun a q w => by rw [su_ap, if_neg (fun z => w z.1), su_ap, if_neg (fun z => w z.1), su_ap, if_neg (fun z => w z.1), su_ap, if_neg (fun z => w z.1)]
  have rr4 : su (su (su (su σ 1 0 (nI (dn D))) 1 1 (nI (dr D))) 1 2 (nI (dk D))) 1 3 (nI (dp D)) 1 0 = nI (dn D) ∧ su (su (su (su σ 1 0 (nI (dn D))) 1 1 (nI (dr D))) 1 2 (nI (dk D))) 1 3 (nI (dp D)) 1 1 = nI (dr D) ∧ su (su (su (su σ 1 0 (nI (dn D))) 1 1 (nI (dr D))) 1 2 (nI (dk D))) 1 3 (nI (dp D)) 1 2 = nI (dk D) ∧ su (su (su (su σ 1 0 (nI (dn D))) 1 1 (nI (dr D))) 1 2 (nI (dk D))) 1 3 (nI (dp D)) 1 3 = nI (dp D) := by
    refine ⟨?_, ?_, ?_, ?_⟩ <;> simp only [su_ap] <;> rfl
  have eb : Net_become_1_15 σ = ((zcpy (su (su (su (su σ 1 0 (nI (dn D))) 1 1 (nI (dr D))) 1 2 (nI (dk D))) 1 3 (nI (dp D))) 16 0 2 0 9).bind fun σ5 => (zcpy σ5 17 0 3 0 9).bind fun σ6 => (zcpy σ6 18 0 4 0 9).bind fun σ7 => Net_become_1_15_c79 zF 0 σ7) := by
    unfold Net_become_1_15
    rw [zlet_ap, zlet_ap, zlet_ap, zlet_ap, c1, show su σ 1 0 (nI (dn D)) 15 1 = nI (dr D) from c2, show su (su σ 1 0 (nI (dn D))) 1 1 (nI (dr D)) 15 2 = nI (dk D) from c3, show su (su (su σ 1 0 (nI (dn D))) 1 1 (nI (dr D))) 1 2 (nI (dk D)) 15 3 = nI (dp D) from c4]
  generalize su (su (su (su σ 1 0 (nI (dn D))) 1 1 (nI (dr D))) 1 2 (nI (dk D))) 1 3 (nI (dp D)) = τ at *
  obtain ⟨σ2, e2, g1, g2⟩ := cprow (f := fun m i σ => Net_become_1_15_c79 m (nI i) σ) (A := 20) (B := 6) (σ0 := sw (sw (sw τ 2 (va_cpy (τ 16) (τ 2) 0 0 9)) 3 (va_cpy (τ 17) (τ 3) 0 0 9)) 4 (va_cpy (τ 18) (τ 4) 0 0 9)) kd_20 kd_6 (by omega) (fun m υ => by show Net_become_1_15_c79 (m + 1) (nI 9) υ = _; rw [Net_become_1_15_c79, if_pos (show (9 : Int32) ≤ nI 9 by decide)]) (fun m i υ hi => by
    show Net_become_1_15_c79 (m + 1) (nI i) υ = _
    rw [Net_become_1_15_c79, if_neg (show ¬ (9 : Int32) ≤ nI i from nI_ge (b := 9) hi (by decide)), lr20 hi, ob_some, lr6 hi, ob_some, nI_1]) 9 zF 0 _ rfl (zF_big (by decide)) (fun x hx => absurd hx (Nat.not_lt_zero _)) (fun _ _ _ => rfl)
  refine ⟨σ2, ?_, ⟨⟨?_, ?_, ?_, ?_⟩, fun i hi => ?_, fun i hi => ?_, fun i hi => ?_, fun i hi j hj => ?_⟩, fun a q hq => ?_⟩
  · rw [eb, cpy9 rfl rfl rfl rfl, ob_some, cpy9 rfl rfl rfl rfl, ob_some, cpy9 rfl rfl rfl rfl, ob_some]
    exact e2
  · rw [g2 1 _ (by omega), sw_ap, if_neg (by omega), sw_ap, if_neg (by omega), sw_ap, if_neg (by omega)]; exact rr4.1
  · rw [g2 1 _ (by omega), sw_ap, if_neg (by omega), sw_ap, if_neg (by omega), sw_ap, if_neg (by omega)]; exact rr4.2.1
  · rw [g2 1 _ (by omega), sw_ap, if_neg (by omega), sw_ap, if_neg (by omega), sw_ap, if_neg (by omega)]; exact rr4.2.2.1
  · rw [g2 1 _ (by omega), sw_ap, if_neg (by omega), sw_ap, if_neg (by omega), sw_ap, if_neg (by omega)]; exact rr4.2.2.2
  · rw [g2 2 _ (by omega), sw_ap, if_neg (by omega), sw_ap, if_neg (by omega), sw_ap, if_pos rfl, cpy_at hi, ee4 16 i (by decide)]; exact c5 i hi
  · rw [g2 3 _ (by omega), sw_ap, if_neg (by omega), sw_ap, if_pos rfl]
    show va_cpy (τ 17) (τ 3) 0 0 9 i = _
    rw [cpy_at hi, ee4 17 i (by decide)]; exact c6 i hi
  · rw [g2 4 _ (by omega), sw_ap, if_pos rfl]
    show va_cpy (τ 18) (τ 4) 0 0 9 i = _
    rw [cpy_at hi, ee4 18 i (by decide)]; exact c7 i hi
  · rw [g1 i hi j hj, sw_ap, if_neg (by omega), sw_ap, if_neg (by omega), sw_ap, if_neg (by omega), ee4 _ _ (by omega)]; exact c8 i hi j hj
  · rw [g2 a q (by omega), sw_ap, if_neg (by omega), sw_ap, if_neg (by omega), sw_ap, if_neg (by omega), ee4 a q (by omega)]
theorem mim_loop {σ0 : zSt} {k : zSt → Option (Int32 × zSt)} (hk : ∀ m σ, M_image_c28 (m + 1) (nI 9) σ = k σ) : ∀ (d m i : Nat) (f g : Nat → Int32), i + d = 9 → d < m → (∀ j, j < i → f j = σ0 77 j ∧ g j = σ0 78 j) → ∃ f2 g2, M_image_c28 m (nI i) (sw (sw σ0 97 f) 98 g) = k (sw (sw σ0 97 f2) 98 g2) ∧ ∀ j, j < 9 → f2 j = σ0 77 j ∧ g2 j = σ0 78 j
  | d, 0, i, f, g, _, hm, _ => absurd hm (Nat.not_lt_zero _)
  | 0, m + 1, i, f, g, hi, _, h => by
    obtain rfl : i = 9 := by omega
    exact ⟨f, g, hk m _, h⟩
  | d + 1, m + 1, i, f, g, hi, hm, h => by
    have e1 : ∀ v, su (sw (sw σ0 97 f) 98 g) 97 i v = sw (sw σ0 97 (upd f i v)) 98 g := fun v => by
      funext a j
      simp only [sw_ap, su_ap, upd]
      by_cases z : a = 97 <;> by_cases z2 : a = 98 <;> by_cases z3 : j = i <;> simp [z, z2, z3]
    rw [M_image_c28, if_neg (show ¬ (9 : Int32) ≤ nI i from nI_ge (b := 9) (by omega) (by decide)), ld77 (by omega), ob_some, show sw (sw σ0 97 f) 98 g 77 i = σ0 77 i from rfl, st97 (by omega), ob_some, e1, ld78 (by omega), ob_some, show sw (sw σ0 97 (upd f i (σ0 77 i))) 98 g 78 i = σ0 78 i from rfl, st98 (by omega), ob_some, su_sw, nI_1]
    refine mim_loop hk d m (i + 1) _ _ (by omega) (by omega) (fun j hj => ?_)
    by_cases z : j = i
    · rw [z, pk_us, pk_us]; exact ⟨rfl, rfl⟩
    · rw [pk_un z, pk_un z]; exact h j (by omega)
theorem mim2_loop {σ0 : zSt} : ∀ (d m i : Nat) (f : Nat → Int32), i + d = 81 → d < m → (∀ j, j < i → f j = σ0 76 j) → ∃ f2, M_image_c2 m (nI i) (sw σ0 96 f) = M_image_c28 zF 0 (sw σ0 96 f2) ∧ ∀ j, j < 81 → f2 j = σ0 76 j
  | d, 0, i, f, _, hm, _ => absurd hm (Nat.not_lt_zero _)
  | 0, m + 1, i, f, hi, _, h => by
    obtain rfl : i = 81 := by omega
    exact ⟨f, by rw [M_image_c2, if_pos (show (81 : Int32) ≤ nI 81 by decide)], h⟩
  | d + 1, m + 1, i, f, hi, hm, h => by
    rw [M_image_c2, if_neg (show ¬ (81 : Int32) ≤ nI i from nI_ge (b := 81) (by omega) (by decide)), ld76 (by omega), ob_some, show sw σ0 96 f 76 i = σ0 76 i from rfl, st96 (by omega), ob_some, su_sw, nI_1]
    refine mim2_loop d m (i + 1) _ (by omega) (by omega) (fun j hj => ?_)
    by_cases z : j = i
    · rw [z, pk_us]
    · rw [pk_un z]; exact h j (by omega)
theorem mbk_loop {σ0 : zSt} {k : zSt → Option (Int32 × zSt)} (hk : ∀ m σ, M_back_c38 (m + 1) (nI 9) σ = k σ) : ∀ (d m i : Nat) (f g : Nat → Int32), i + d = 9 → d < m → (∀ j, j < i → f j = σ0 97 j ∧ g j = σ0 98 j) → ∃ f2 g2, M_back_c38 m (nI i) (sw (sw σ0 77 f) 78 g) = k (sw (sw σ0 77 f2) 78 g2) ∧ ∀ j, j < 9 → f2 j = σ0 97 j ∧ g2 j = σ0 98 j
  | d, 0, i, f, g, _, hm, _ => absurd hm (Nat.not_lt_zero _)
  | 0, m + 1, i, f, g, hi, _, h => by
    obtain rfl : i = 9 := by omega
    exact ⟨f, g, hk m _, h⟩
  | d + 1, m + 1, i, f, g, hi, hm, h => by
    have e1 : ∀ v, su (sw (sw σ0 77 f) 78 g) 77 i v = sw (sw σ0 77 (upd f i v)) 78 g := fun v => by
      funext a j
      simp only [sw_ap, su_ap, upd]
      by_cases z : a = 77 <;> by_cases z2 : a = 78 <;> by_cases z3 : j = i <;> simp [z, z2, z3]
    rw [M_back_c38, if_neg (show ¬ (9 : Int32) ≤ nI i from nI_ge (b := 9) (by omega) (by decide)), ld97 (by omega), ob_some, show sw (sw σ0 77 f) 78 g 97 i = σ0 97 i from rfl, st77 (by omega), ob_some, e1, ld98 (by omega), ob_some, show sw (sw σ0 77 (upd f i (σ0 97 i))) 78 g 98 i = σ0 98 i from rfl, st78 (by omega), ob_some, su_sw, nI_1]
    refine mbk_loop hk d m (i + 1) _ _ (by omega) (by omega) (fun j hj => ?_)
    by_cases z : j = i
    · rw [z, pk_us, pk_us]; exact ⟨rfl, rfl⟩
    · rw [pk_un z, pk_un z]; exact h j (by omega)
theorem mbk2_loop {σ0 : zSt} : ∀ (d m i : Nat) (f : Nat → Int32), i + d = 81 → d < m → (∀ j, j < i → f j = σ0 96 j) → ∃ f2, M_back_c12 m (nI i) (sw σ0 76 f) = M_back_c38 zF 0 (sw σ0 76 f2) ∧ ∀ j, j < 81 → f2 j = σ0 96 j
  | d, 0, i, f, _, hm, _ => absurd hm (Nat.not_lt_zero _)
  | 0, m + 1, i, f, hi, _, h => by
    obtain rfl : i = 81 := by omega
    exact ⟨f, by rw [M_back_c12, if_pos (show (81 : Int32) ≤ nI 81 by decide)], h⟩
  | d + 1, m + 1, i, f, hi, hm, h => by
    rw [M_back_c12, if_neg (show ¬ (81 : Int32) ≤ nI i from nI_ge (b := 81) (by omega) (by decide)), ld96 (by omega), ob_some, show sw σ0 76 f 96 i = σ0 96 i from rfl, st76 (by omega), ob_some, su_sw, nI_1]
    refine mbk2_loop d m (i + 1) _ (by omega) (by omega) (fun j hj => ?_)
    by_cases z : j = i
    · rw [z, pk_us]
    · rw [pk_un z]; exact h j (by omega)
/-- only the image has changed -/
theorem In_kp {D : yD} {σ σ2 : zSt} (I : In D σ) (S : ∀ a i, ¬ (15 ≤ a ∧ a ≤ 28) → ¬ (a = 0 ∧ i = 2) → ¬ (96 ≤ a ∧ a ≤ 98) → ¬ (a = 75 ∧ 40 ≤ i ∧ i ≤ 43) → σ2 a i = σ a i) (T : Kp σ2) : In D σ2 := by
  obtain ⟨h1, h2, h3, h4, h5, h6, h7, h8, h9⟩ := I
  have g : ∀ fp : Nat → Nat → Bool, (∀ a i, fp a i = true → ¬ (15 ≤ a ∧ a ≤ 28) ∧ ¬ (a = 0 ∧ i = 2) ∧ ¬ (96 ≤ a ∧ a ≤ 98) ∧ ¬ (a = 75 ∧ 40 ≤ i ∧ i ≤ 43)) → Sm fp σ σ2 := fun fp h a i q => S a i (h a i q).1 (h a i q).2.1 (h a i q).2.2.1 (h a i q).2.2.2
  refine ⟨h1, CN1_sm (g fC1 fun a i q => ?_) h2, MN1_sm (g fM1 fun a i q => ?_) h3, T, Hi_sm (g fHi fun a i q => ?_) h5, Rw_sm (g fRw fun a i q => ?_) h6, Tp_sm (g fTp fun a i q => ?_) h7, Tr_sm (g fTr fun a i q => ?_) h8, Ce_sm (g fCe fun a i q => ?_) h9⟩
  · unfold fC1 at q; simp only [zbl, zbq, Bool.or_eq_true, Bool.and_eq_true, decide_eq_true_eq] at q; omega
  · unfold fM1 at q; simp only [zbl, zbq, Bool.or_eq_true, Bool.and_eq_true, decide_eq_true_eq] at q; omega
  · unfold fHi at q; simp only [zbl, zbq, Bool.or_eq_true, Bool.and_eq_true, decide_eq_true_eq] at q; omega
  · unfold fRw at q; simp only [zbl, zbq, Bool.or_eq_true, Bool.and_eq_true, decide_eq_true_eq] at q; omega
  · unfold fTp at q; simp only [zbl, zbq, Bool.or_eq_true, Bool.and_eq_true, decide_eq_true_eq] at q; omega
  · unfold fTr at q; simp only [zbl, zbq, Bool.or_eq_true, Bool.and_eq_true, decide_eq_true_eq] at q; omega
  · unfold fCe at q; simp only [zbl, zbq, Bool.or_eq_true, Bool.and_eq_true, decide_eq_true_eq] at q; omega
theorem q_image : Q2 X_image M_image := by
  rintro σ ⟨D, I⟩
  have V := I.1
  obtain ⟨σ1, e1, C1, f1⟩ := xim_ok I.2.1
  have fX' : ∀ a q, ¬ (15 ≤ a ∧ a ≤ 28) → ¬ (a = 0 ∧ q = 2) → su σ1 0 2 1 a q = σ a q := fun a q w1 w2 => by rw [su_ap, if_neg w2, f1 a q (by omega)]
  have CX : CN 1 2 3 4 6 D (su σ1 0 2 1) := CN1_sm (fun a q h => by
    unfold fC1 at h
    simp only [zbl, Bool.and_eq_true, decide_eq_true_eq] at h
    exact fX' a q (by omega) (by omega)) I.2.1
  have MX : MN 3 4 5 6 76 77 78 D (su σ1 0 2 1) := MN1_sm (fun a q h => by
    unfold fM1 at h
    simp only [zbl, zbq, Bool.or_eq_true, Bool.and_eq_true, decide_eq_true_eq] at h
    exact fX' a q (by omega) (by omega)) I.2.2.1
  have CK : CN 15 16 17 18 20 D (su σ1 0 2 1) := CNk_sm (Sm_su rfl) C1
  obtain ⟨f, a1, a2⟩ := mim2_loop (σ0 := su σ1 0 2 1) 81 zF 0 (su σ1 0 2 1 96) rfl (zF_big (by decide)) (fun j hj => absurd hj (Nat.not_lt_zero _))
  rw [sw_self] at a1
  obtain ⟨g, h, b1, b2⟩ := mim_loop (σ0 := sw (su σ1 0 2 1) 96 f) (k := fun σ => zlet (su σ 75 40 (σ 75 3)) fun σ4 => zlet (su σ4 75 41 (σ4 75 4)) fun σ5 => zlet (su σ5 75 42 (σ5 75 5)) fun σ6 => zlet (su σ6 75 43 (σ6 75 6)) fun σ7 => (M_lines σ7).bind fun v8 => some (v8, σ7)) (fun m σ => by rw [M_image_c28, if_pos (show (9 : Int32) ≤ nI 9 by decide)]) 9 zF 0 (sw (su σ1 0 2 1) 96 f 97) (sw (sw (su σ1 0 2 1) 96 f) 97 (sw (su σ1 0 2 1) 96 f 97) 98) rfl (zF_big (by decide)) (fun j hj => absurd hj (Nat.not_lt_zero _))
  rw [sw_self, sw_self] at b1
  obtain ⟨⟨m1, m2, m3, m4⟩, m5, m6, m7⟩ := MX
  have hS : ∀ a q, ¬ (96 ≤ a ∧ a ≤ 98) → ¬ (a = 75 ∧ 40 ≤ q ∧ q ≤ 43) → su (su (su (su (sw (sw (sw (su σ1 0 2 1) 96 f) 97 g) 98 h) 75 40 (nI (dn D))) 75 41 (nI (dr D))) 75 42 (nI (dk D))) 75 43 (nI (dp D)) a q = su σ1 0 2 1 a q := fun a q w1 w2 => by
    rw [su_ap, if_neg (by omega), su_ap, if_neg (by omega), su_ap, if_neg (by omega), su_ap, if_neg (by omega), sw_ap, if_neg (by omega), sw_ap, if_neg (by omega), sw_ap, if_neg (by omega)]
  have MY : MN 3 4 5 6 76 77 78 D (su (su (su (su (sw (sw (sw (su σ1 0 2 1) 96 f) 97 g) 98 h) 75 40 (nI (dn D))) 75 41 (nI (dr D))) 75 42 (nI (dk D))) 75 43 (nI (dp D))) := MN1_sm (fun a q w => by
    unfold fM1 at w
    simp only [zbl, zbq, Bool.or_eq_true, Bool.and_eq_true, decide_eq_true_eq] at w
    exact hS a q (by omega) (by omega)) ⟨⟨m1, m2, m3, m4⟩, m5, m6, m7⟩
  refine ⟨nI (lnD D), su σ1 0 2 1, su (su (su (su (sw (sw (sw (su σ1 0 2 1) 96 f) 97 g) 98 h) 75 40 (nI (dn D))) 75 41 (nI (dr D))) 75 42 (nI (dk D))) 75 43 (nI (dp D)), ?_, ?_, D, In_kp I (fun a q w1 w2 w3 w4 => (hS a q w3 w4).trans (fX' a q w1 w2)) (Or.inr ⟨?_, D, V, CNk_sm (fun a q w => ?_) CK, ⟨⟨?_, ?_, ?_, ?_⟩, fun i hi j hj => ?_, fun i hi => ?_, fun i hi => ?_⟩⟩)⟩
  · unfold X_image
    rw [e1, ob_some, zlet_ap, xlns_ok V CX, ob_some]
  · unfold M_image
    rw [show (0 : Int32) = nI 0 from rfl, a1, show (0 : Int32) = nI 0 from rfl, b1]
    simp only [zlet_ap]
    rw [show sw (sw (sw (su σ1 0 2 1) 96 f) 97 g) 98 h 75 3 = nI (dn D) from m1, show su (sw (sw (sw (su σ1 0 2 1) 96 f) 97 g) 98 h) 75 40 (nI (dn D)) 75 4 = nI (dr D) from m2, show su (su (sw (sw (sw (su σ1 0 2 1) 96 f) 97 g) 98 h) 75 40 (nI (dn D))) 75 41 (nI (dr D)) 75 5 = nI (dk D) from m3, show su (su (su (sw (sw (sw (su σ1 0 2 1) 96 f) 97 g) 98 h) 75 40 (nI (dn D))) 75 41 (nI (dr D))) 75 42 (nI (dk D)) 75 6 = nI (dp D) from m4, mlns_ok V MY, ob_some]
  · rw [hS 0 2 (by omega) (by omega), su_ap, if_pos ⟨rfl, rfl⟩]
  · unfold fCk at w
    simp only [zbl, Bool.and_eq_true, decide_eq_true_eq] at w
    exact hS a q (by omega) (by omega)
  · rw [su_ap, if_neg (by omega), su_ap, if_neg (by omega), su_ap, if_neg (by omega), su_ap, if_pos ⟨rfl, rfl⟩]
  · rw [su_ap, if_neg (by omega), su_ap, if_neg (by omega), su_ap, if_pos ⟨rfl, rfl⟩]
  · rw [su_ap, if_neg (by omega), su_ap, if_pos ⟨rfl, rfl⟩]
  · rw [su_ap, if_pos ⟨rfl, rfl⟩]
  · rw [su_ap, if_neg (by omega), su_ap, if_neg (by omega), su_ap, if_neg (by omega), su_ap, if_neg (by omega), sw_ap, if_neg (by omega), sw_ap, if_neg (by omega), sw_ap, if_pos rfl, a2 _ (by omega)]
    exact m5 i hi j hj
  · rw [su_ap, if_neg (by omega), su_ap, if_neg (by omega), su_ap, if_neg (by omega), su_ap, if_neg (by omega), sw_ap, if_neg (by omega), sw_ap, if_pos rfl, (b2 i hi).1]
    exact m6 i hi
  · rw [su_ap, if_neg (by omega), su_ap, if_neg (by omega), su_ap, if_neg (by omega), su_ap, if_neg (by omega), sw_ap, if_pos rfl, (b2 i hi).2]
    exact m7 i hi
theorem q_back : Q2 X_back M_back := by
  rintro σ ⟨D, I⟩
  rcases I.2.2.2.1 with ⟨k1, k2⟩ | ⟨k1, E, VE, CE, ME2⟩
  · refine ⟨-5, σ, σ, ?_, ?_, D, I⟩
    · unfold X_back; rw [k1, if_neg (fun q => q rfl)]
    · unfold M_back; rw [k2, if_neg (fun q => q rfl)]
  have hnE := VE.1
  obtain ⟨H, hv, ⟨hC, h12, ⟨hx1, hx2⟩, c, ⟨hp1, hp2⟩, hE⟩, hM⟩ := In_sides I
  obtain ⟨σ1, e1, C1, f1⟩ := xbk_ok CE
  have C2 : CN 1 2 3 4 6 E (su (su σ1 29 1 0) 29 2 0) := CN1_sm (Sm_tr (Sm_su rfl) (Sm_su rfl)) C1
  have fX' : ∀ a q, ¬ (1 ≤ a ∧ a ≤ 14) → ¬ (a = 29 ∧ (q = 1 ∨ q = 2)) → su (su σ1 29 1 0) 29 2 0 a q = σ a q := fun a q w1 w2 => by rw [su_ap, if_neg (by omega), su_ap, if_neg (by omega), f1 a q (by omega)]
  have XN : XI E (0, 0, he H) (su (su σ1 29 1 0) 29 2 0) := ⟨C2, Nat.zero_le _, ⟨by rw [su_ap, if_neg (by omega), su_ap, if_pos ⟨rfl, rfl⟩]; rfl, by rw [su_ap, if_pos ⟨rfl, rfl⟩]; rfl⟩, c, ⟨fun q hq => ⟨(fX' 30 q (by omega) (by omega)).trans (hp1 q hq).1, (hp1 q hq).2⟩, hp2⟩, fun q hq => absurd hq (Nat.not_lt_zero _)⟩
  generalize hτ : su (su σ1 29 1 0) 29 2 0 = τ at *
  obtain ⟨⟨m1, m2, m3, m4⟩, m5, m6, m7⟩ := ME2
  obtain ⟨f, a1, a2⟩ := mbk2_loop (σ0 := τ) 81 zF 0 (τ 76) rfl (zF_big (by decide)) (fun j hj => absurd hj (Nat.not_lt_zero _))
  rw [sw_self] at a1
  obtain ⟨g, h, b1, b2⟩ := mbk_loop (σ0 := sw τ 76 f) (k := fun σ => zlet (su σ 75 3 (σ 75 40)) fun σ5 => zlet (su σ5 75 4 (σ5 75 41)) fun σ6 => zlet (su σ6 75 5 (σ6 75 42)) fun σ7 => zlet (su σ7 75 6 (σ7 75 43)) fun σ8 => (M_forgets σ8).bind fun σ9 => (M_lines σ9).bind fun v10 => some (v10, σ9)) (fun m σ => by rw [M_back_c38, if_pos (show (9 : Int32) ≤ nI 9 by decide)]) 9 zF 0 (sw τ 76 f 77) (sw (sw τ 76 f) 77 (sw τ 76 f 77) 78) rfl (zF_big (by decide)) (fun j hj => absurd hj (Nat.not_lt_zero _))
  rw [sw_self, sw_self] at b1
  have t40 : τ 75 40 = nI (dn E) := (fX' 75 40 (by omega) (by omega)).trans m1
  have t41 : τ 75 41 = nI (dr E) := (fX' 75 41 (by omega) (by omega)).trans m2
  have t42 : τ 75 42 = nI (dk E) := (fX' 75 42 (by omega) (by omega)).trans m3
  have t43 : τ 75 43 = nI (dp E) := (fX' 75 43 (by omega) (by omega)).trans m4
  have hS : ∀ a q, ¬ (76 ≤ a ∧ a ≤ 78) → ¬ (a = 75 ∧ ((3 ≤ q ∧ q ≤ 6) ∨ q = 11 ∨ q = 12)) → su (su (su (su (su (su (sw (sw (sw τ 76 f) 77 g) 78 h) 75 3 (nI (dn E))) 75 4 (nI (dr E))) 75 5 (nI (dk E))) 75 6 (nI (dp E))) 75 11 0) 75 12 0 a q = τ a q := fun a q w1 w2 => by
    rw [su_ap, if_neg (by omega), su_ap, if_neg (by omega), su_ap, if_neg (by omega), su_ap, if_neg (by omega), su_ap, if_neg (by omega), su_ap, if_neg (by omega), sw_ap, if_neg (by omega), sw_ap, if_neg (by omega), sw_ap, if_neg (by omega)]
  have MN2 : MN 3 4 5 6 76 77 78 E (su (su (su (su (su (su (sw (sw (sw τ 76 f) 77 g) 78 h) 75 3 (nI (dn E))) 75 4 (nI (dr E))) 75 5 (nI (dk E))) 75 6 (nI (dp E))) 75 11 0) 75 12 0) := by
    refine ⟨⟨?_, ?_, ?_, ?_⟩, fun i hi j hj => ?_, fun i hi => ?_, fun i hi => ?_⟩
    · simp only [su_ap]; rfl
    · simp only [su_ap]; rfl
    · simp only [su_ap]; rfl
    · simp only [su_ap]; rfl
    · simp only [su_ap, sw_ap]
      show f (9 * i + j) = _
      rw [a2 _ (by omega), fX' 96 _ (by omega) (by omega)]; exact m5 i hi j hj
    · simp only [su_ap, sw_ap]
      show g i = _
      rw [(b2 i hi).1]
      show τ 97 i = _
      rw [fX' 97 _ (by omega) (by omega)]; exact m6 i hi
    · simp only [su_ap, sw_ap]
      show h i = _
      rw [(b2 i hi).2]
      show τ 98 i = _
      rw [fX' 98 _ (by omega) (by omega)]; exact m7 i hi
  refine ⟨nI (lnD E), τ, su (su (su (su (su (su (sw (sw (sw τ 76 f) 77 g) 78 h) 75 3 (nI (dn E))) 75 4 (nI (dr E))) 75 5 (nI (dk E))) 75 6 (nI (dp E))) 75 11 0) 75 12 0, ?_, ?_, E, In_next I VE ⟨⟨Nat.le_refl _, Nat.zero_le _⟩, fun q hq => absurd hq (Nat.not_lt_zero _)⟩ XN (fun a q w => ?_) ⟨MN2, ⟨?_, ?_⟩, fun q hq => absurd hq (Nat.not_lt_zero _)⟩ (fun a q w => ?_)⟩
  · unfold X_back His_forget
    rw [k1, if_pos i10, e1, ob_some, zlet_ap, zlet_ap, ob_some, hτ, xlns_ok VE C2, ob_some]
  · unfold M_back
    rw [t40, if_pos (show ¬ nI (dn E) = 0 from nI_ne0 (by omega) (by omega)), show (0 : Int32) = nI 0 from rfl, a1, show (0 : Int32) = nI 0 from rfl, b1]
    simp only [zlet_ap]
    rw [show sw (sw (sw τ 76 f) 77 g) 78 h 75 40 = nI (dn E) from t40, show su (sw (sw (sw τ 76 f) 77 g) 78 h) 75 3 (nI (dn E)) 75 41 = nI (dr E) from t41, show su (su (sw (sw (sw τ 76 f) 77 g) 78 h) 75 3 (nI (dn E))) 75 4 (nI (dr E)) 75 42 = nI (dk E) from t42, show su (su (su (sw (sw (sw τ 76 f) 77 g) 78 h) 75 3 (nI (dn E))) 75 4 (nI (dr E))) 75 5 (nI (dk E)) 75 43 = nI (dp E) from t43]
    unfold M_forgets
    rw [zlet_ap, zlet_ap, ob_some, mlns_ok VE MN2, ob_some]
    rfl
  · have := fX_at w
    exact fX' a q (by omega) (by omega)
  · simp only [su_ap]; rfl
  · simp only [su_ap]; rfl
  · have := fM_at w
    exact hS a q (by omega) (by omega)

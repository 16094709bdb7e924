/-! PURE: undo, redo -/
theorem s_undo : St X_undo M_undo := by
  intro D H V hv
  obtain ⟨⟨h1, h2⟩, h3⟩ := hv
  by_cases z : hd H = 0
  · refine ⟨-5, D, H, V, ⟨⟨h1, h2⟩, h3⟩, XS_id fun σ X => ?_, MS_id fun σ M => ?_⟩
    · unfold X_undo His_stepBack
      rw [X.2.2.1.1, z, if_neg (show ¬ (0 : Int32) < nI 0 by decide), zb2_sm, if_pos rfl]
    · unfold M_undo
      rw [M.2.1.1, z, if_neg (fun q => q rfl)]
  obtain ⟨k1, k2, k3⟩ := h3 (hd H - 1) (by omega)
  have eh : ∀ n, HV n H → HV n (hd H - 1, ht H, he H) := fun n g => ⟨⟨(by have := g.1; omega : hd H - 1 ≤ ht H), g.1.2⟩, g.2⟩
  have em : nI (hd H) - 1 = nI (hd H - 1) := pk_sub (b := 1) (by omega)
  refine ⟨nI (hd H - 1), upD D (ew (he H (hd H - 1))) (ei (he H (hd H - 1))) (ej (he H (hd H - 1))) (eb (he H (hd H - 1))), (hd H - 1, ht H, he H), upD_V V k2, ?_, ?_, ?_⟩
  · rw [upD_n]; exact eh _ ⟨⟨h1, h2⟩, h3⟩
  · rintro σ ⟨C, h12, ⟨x1, x2⟩, c, ⟨hp1, hp2⟩, hE⟩
    have hc := hp1 (hd H - 1) (by omega)
    obtain ⟨kd, _⟩ := kd_ch (c (hd H - 1)) (by omega) hc.2.1
    have C1 : CN 1 2 3 4 6 D (su σ 29 1 (nI (hd H - 1))) := CN1_sm (Sm_su rfl) C
    obtain ⟨e0, e1, e2, e3, e4⟩ := hE (hd H - 1) (by omega)
    have r : ∀ q, su σ 29 1 (nI (hd H - 1)) (c (hd H - 1)) q = σ (c (hd H - 1)) q := fun q => by rw [su_ap, if_neg (by omega)]
    obtain ⟨σ2, a1, a2, a3⟩ := xsv_ok (v := eb (he H (hd H - 1))) C1 k1.2.1 k1.2.2 k2
    have g29 : σ2 29 1 = nI (hd H - 1) := by rw [a3 _ _ rfl, su_ap, if_pos ⟨rfl, rfl⟩]
    have fX1 : ∀ a q, fC1 a q = false → (a = 29 → q ≠ 1) → σ2 a q = σ a q := fun a q q1 q2 => by rw [a3 _ _ q1, su_ap, if_neg (fun w => q2 w.1 w.2)]
    have fc : ∀ a q, 29 ≤ a → fC1 a q = false := fun a q q1 => f_no fun w => by
      unfold fC1 at w
      simp only [zbl, Bool.and_eq_true, decide_eq_true_eq] at w
      omega
    refine ⟨σ2, ?_, ⟨a2, h12, ⟨g29, ?_⟩, c, ⟨fun q hq => ⟨?_, (hp1 q hq).2⟩, hp2⟩, fun q hq => ?_⟩, fun a q hf => ?_⟩
    · unfold X_undo His_stepBack
      rw [x1, if_pos (show (0 : Int32) < nI (hd H) from nI_lt (a := 0) (by omega) (by omega)), em, zlet_ap, show su σ 29 1 (nI (hd H - 1)) 29 1 = nI (hd H - 1) by rw [su_ap, if_pos ⟨rfl, rfl⟩], lr30 (v := c (hd H - 1)) (by omega) (by rw [su_ap, if_neg (by omega)]; exact hc.1) hc.2.2, ob_some, kd, r, r, r, r, e0, e1, e2, e3]
      simp only [cond_true]
      rw [a1, ob_some, zb2_sm, if_neg i10, g29]
    · exact (fX1 29 2 rfl (by omega)).trans x2
    · exact (fX1 30 q rfl (by omega)).trans (hp1 q hq).1
    · have hq2 : q < ht H := hq
      have hcq := hp1 q (by omega)
      exact XE_sm (fun i => fX1 _ _ (fc _ _ (by omega)) (by omega)) (hE q hq)
    · have := fX_at hf
      exact fX1 a q (fX_C hf) (by omega)
  · rintro σ ⟨M, ⟨m1, m2⟩, hE⟩
    obtain ⟨e1, e2, e3, e4⟩ := hE (hd H - 1) (by omega)
    have et : nI (ht H - hd H) + 1 = nI (ht H - (hd H - 1)) := by rw [nI_1]; congr 1; omega
    have M1 : MN 3 4 5 6 76 77 78 D (su (su σ 75 11 (nI (hd H - 1))) 75 12 (nI (ht H - (hd H - 1)))) := MN1_sm (Sm_tr (Sm_su rfl) (Sm_su rfl)) M
    obtain ⟨σ2, a1, a2, a3⟩ := mly_ok M1 k1.1 k1.2.1 k1.2.2 k2
    have r : ∀ a q, a ≠ 75 → su (su σ 75 11 (nI (hd H - 1))) 75 12 (nI (ht H - (hd H - 1))) a q = σ a q := fun a q q1 => by rw [su_ap, if_neg (fun w => q1 w.1), su_ap, if_neg (fun w => q1 w.1)]
    have r11 : su (su σ 75 11 (nI (hd H - 1))) 75 12 (nI (ht H - (hd H - 1))) 75 11 = nI (hd H - 1) := by rw [su_ap, if_neg (by omega), su_ap, if_pos ⟨rfl, rfl⟩]
    refine ⟨σ2, ?_, ⟨a2, ⟨?_, ?_⟩, fun q hq => ?_⟩, fun a q hf => ?_⟩
    · unfold M_undo
      rw [m1, if_pos (show ¬ nI (hd H) = 0 from nI_ne0 (by omega) (by omega)), em, zlet_ap, show su σ 75 11 (nI (hd H - 1)) 75 12 = σ 75 12 by rw [su_ap, if_neg (by omega)], m2, et, zlet_ap, r11, ld79 (by omega), ld80 (by omega), ld81 (by omega), ob_some, ob_some, ob_some, r 79 _ (by decide), r 80 _ (by decide), r 81 _ (by decide), e1, e2, e3, a1, ob_some, a3 75 11 rfl, r11]
    · rw [a3 75 11 rfl, r11]; rfl
    · rw [a3 75 12 rfl, su_ap, if_pos ⟨rfl, rfl⟩]; rfl
    · have fn : ∀ a, 79 ≤ a → a ≤ 82 → fM1 a q = false := fun a q1 q2 => f_no fun w => by
        unfold fM1 at w
        simp only [zbl, zbq, Bool.or_eq_true, Bool.and_eq_true, decide_eq_true_eq] at w
        omega
      exact ME_sm (fun a q1 q2 => (a3 a q (fn a q1 q2)).trans (r a q (by omega))) (hE q hq)
    · have := fM_at hf
      rw [a3 a q (fM_N hf), su_ap, if_neg (by omega), su_ap, if_neg (by omega)]
theorem s_redo : St X_redo M_redo := by
  intro D H V hv
  obtain ⟨⟨h1, h2⟩, h3⟩ := hv
  by_cases z : hd H = ht H
  · refine ⟨-5, D, H, V, ⟨⟨h1, h2⟩, h3⟩, XS_id fun σ X => ?_, MS_id fun σ M => ?_⟩
    · unfold X_redo His_stepOn
      rw [X.2.2.1.1, X.2.2.1.2, z, if_neg (nI_nlt (Nat.le_refl _) (by omega)), zb2_sm, if_pos rfl]
    · unfold M_redo
      rw [M.2.1.2, z, Nat.sub_self, if_neg (fun q => q rfl)]
  obtain ⟨k1, k2, k3⟩ := h3 (hd H) (by omega)
  refine ⟨nI (ht H - (hd H + 1)), upD D (ew (he H (hd H))) (ei (he H (hd H))) (ej (he H (hd H))) (ea (he H (hd H))), (hd H + 1, ht H, he H), upD_V V k3, ?_, ?_, ?_⟩
  · rw [upD_n]; exact ⟨⟨(by omega : hd H + 1 ≤ ht H), h2⟩, h3⟩
  · rintro σ ⟨C, h12, ⟨x1, x2⟩, c, ⟨hp1, hp2⟩, hE⟩
    have hc := hp1 (hd H) (by omega)
    obtain ⟨kd, _⟩ := kd_ch (c (hd H)) (by omega) hc.2.1
    obtain ⟨e0, e1, e2, e3, e4⟩ := hE (hd H) (by omega)
    obtain ⟨σ2, a1, a2, a3⟩ := xsv_ok (v := ea (he H (hd H))) C k1.2.1 k1.2.2 k3
    have g29 : σ2 29 1 + 1 = nI (hd H + 1) := by rw [a3 _ _ rfl, x1, nI_1]
    have fX1 : ∀ a q, fC1 a q = false → (a = 29 → q ≠ 1) → su σ2 29 1 (nI (hd H + 1)) a q = σ a q := fun a q q1 q2 => by rw [su_ap, if_neg (fun w => q2 w.1 w.2), a3 _ _ q1]
    have fc : ∀ a q, 29 ≤ a → fC1 a q = false := fun a q q1 => f_no fun w => by
      unfold fC1 at w
      simp only [zbl, Bool.and_eq_true, decide_eq_true_eq] at w
      omega
    refine ⟨su σ2 29 1 (nI (hd H + 1)), ?_, ⟨CN1_sm (Sm_su rfl) a2, h12, ⟨?_, ?_⟩, c, ⟨fun q hq => ⟨?_, (hp1 q hq).2⟩, hp2⟩, fun q hq => ?_⟩, fun a q hf => ?_⟩
    · unfold X_redo His_stepOn
      rw [x1, x2, if_pos (nI_lt (by omega) (by omega)), lr30 (v := c (hd H)) (by omega) hc.1 hc.2.2, ob_some, kd, e0, e1, e2, e4]
      simp only [cond_true]
      rw [a1, ob_some, g29, zlet_ap, zb2_sm, if_neg i10, fX1 29 2 rfl (by decide), x2, show su σ2 29 1 (nI (hd H + 1)) 29 1 = nI (hd H + 1) by rw [su_ap, if_pos ⟨rfl, rfl⟩], pk_sub (by omega)]
    · rw [su_ap, if_pos ⟨rfl, rfl⟩]; rfl
    · exact (fX1 29 2 rfl (by omega)).trans x2
    · exact (fX1 30 q rfl (by omega)).trans (hp1 q hq).1
    · have hq2 : q < ht H := hq
      have hcq := hp1 q (by omega)
      exact XE_sm (fun i => fX1 _ _ (fc _ _ (by omega)) (by omega)) (hE q hq)
    · have := fX_at hf
      exact fX1 a q (fX_C hf) (by omega)
  · rintro σ ⟨M, ⟨m1, m2⟩, hE⟩
    obtain ⟨e1, e2, e3, e4⟩ := hE (hd H) (by omega)
    obtain ⟨σ2, a1, a2, a3⟩ := mly_ok M k1.1 k1.2.1 k1.2.2 k3
    have g11 : σ2 75 11 + 1 = nI (hd H + 1) := by rw [a3 _ _ rfl, m1, nI_1]
    have g12 : su σ2 75 11 (nI (hd H + 1)) 75 12 - 1 = nI (ht H - (hd H + 1)) := by rw [su_ap, if_neg (by omega), a3 _ _ rfl, m2, show nI (ht H - hd H) - 1 = nI (ht H - hd H - 1) from pk_sub (b := 1) (by omega)]; congr 1
    refine ⟨su (su σ2 75 11 (nI (hd H + 1))) 75 12 (nI (ht H - (hd H + 1))), ?_, ⟨MN1_sm (Sm_tr (Sm_su rfl) (Sm_su rfl)) a2, ⟨?_, ?_⟩, fun q hq => ?_⟩, fun a q hf => ?_⟩
    · unfold M_redo
      rw [m1, m2, if_pos (show ¬ nI (ht H - hd H) = 0 from nI_ne0 (by omega) (by omega)), ld79 (by omega), ld80 (by omega), ld82 (by omega), ob_some, ob_some, ob_some, e1, e2, e4, a1, ob_some, g11, zlet_ap, g12, zlet_ap, su_ap, if_pos ⟨rfl, rfl⟩]
    · rw [su_ap, if_neg (by omega), su_ap, if_pos ⟨rfl, rfl⟩]; rfl
    · rw [su_ap, if_pos ⟨rfl, rfl⟩]; rfl
    · have fn : ∀ a, 79 ≤ a → a ≤ 82 → fM1 a q = false := fun a q1 q2 => f_no fun w => by
        unfold fM1 at w
        simp only [zbl, zbq, Bool.or_eq_true, Bool.and_eq_true, decide_eq_true_eq] at w
        omega
      exact ME_sm (fun a q1 q2 => by rw [su_ap, if_neg (by omega), su_ap, if_neg (by omega)]; exact a3 a q (fn a q1 q2)) (hE q hq)
    · have := fM_at hf
      rw [su_ap, if_neg (by omega), su_ap, if_neg (by omega)]
      exact a3 a q (fM_N hf)
/-! PURE: points -/
def zrD (D : yD) (n : Nat) : yD := (n, dr D, dk D, dp D, fun _ _ => 0, fun _ => 0, fun _ => 0)
theorem zrD_V {D : yD} {n : Nat} (V : Vd D) (h1 : 1 ≤ n) (h2 : n ≤ 9) : Vd (zrD D n) := ⟨⟨h1, h2⟩, V.2.1, V.2.2.1, fun _ _ => rfl, fun _ _ _ => rfl, fun _ _ => (show ent 0 from ⟨by decide, by decide⟩), fun _ => Nat.zero_le _, fun _ => Nat.zero_le _⟩
theorem zrD_nb {D : yD} {n : Nat} : ∀ i, nbm (dT (zrD D n)) i = 0 := fun i => by
  refine bits_ext fun l => ?_
  rw [nbm_bit]
  simp [zrD, dT]
theorem kd_6 : ∀ i, i < 9 → Nat.beq (zkd (6 + i)) 100 = true ∧ zln (6 + i) = 9 := by decide +kernel
theorem xbg_loop {σ0 : zSt} : ∀ (d m i : Nat) (σ : zSt), i + d = 9 → d < m → (∀ x, x < i → ∀ y, y < 9 → σ (6 + x) y = 0) → (∀ a q, (a < 6 ∨ 14 < a) → σ a q = σ0 a q) → ∃ σ2, Net_begin_c31 m (nI i) σ = some σ2 ∧ (∀ x, x < 9 → ∀ y, y < 9 → σ2 (6 + x) y = 0) ∧ ∀ a q, (a < 6 ∨ 14 < a) → σ2 a q = σ0 a q
  | d, 0, i, σ, _, hm, _, _ => absurd hm (Nat.not_lt_zero _)
  | 0, m + 1, i, σ, hi, _, h1, h2 => by
    obtain rfl : i = 9 := by omega
    exact ⟨σ, by rw [Net_begin_c31, if_pos (show (9 : Int32) ≤ nI 9 by decide)], h1, h2⟩
  | d + 1, m + 1, i, σ, hi, hm, h1, h2 => by
    obtain ⟨k1, k2⟩ := kd_6 i (by omega)
    obtain ⟨f, e, hf⟩ := fil_ok (v := 0) σ k1 k2 (by decide)
    rw [Net_begin_c31, if_neg (show ¬ (9 : Int32) ≤ nI i from nI_ge (b := 9) (by omega) (by decide)), lr6 (by omega), ob_some, e, ob_some, nI_1]
    refine xbg_loop d m (i + 1) _ (by omega) (by omega) (fun x hx y hy => ?_) (fun a q hq => ?_)
    · rw [sw_ap]
      by_cases z : x = i
      · rw [if_pos (by rw [z]), hf y hy]
      · rw [if_neg (by omega)]; exact h1 x (by omega) y hy
    · rw [sw_ap, if_neg (by omega)]; exact h2 a q hq
theorem xbg_ok {σ : zSt} {D : yD} {n : Nat} (C : CN 1 2 3 4 6 D σ) : ∃ σ2, Net_begin (nI n) σ = some σ2 ∧ CN 1 2 3 4 6 (zrD D n) σ2 ∧ ∀ a q, fC1 a q = false → σ2 a q = σ a q := by
  obtain ⟨⟨c1, c2, c3, c4⟩, c5, c6, c7, c8⟩ := C
  obtain ⟨f2, e2, g2⟩ := fil_ok (a := 2) (N := 9) (v := 0) (su σ 1 0 (nI n)) rfl rfl (by decide)
  obtain ⟨f3, e3, g3⟩ := fil_ok (a := 3) (N := 9) (v := 0) (sw (su σ 1 0 (nI n)) 2 f2) rfl rfl (by decide)
  obtain ⟨f4, e4, g4⟩ := fil_ok (a := 4) (N := 9) (v := 0) (sw (sw (su σ 1 0 (nI n)) 2 f2) 3 f3) rfl rfl (by decide)
  obtain ⟨σ2, e5, g5, g6⟩ := xbg_loop (σ0 := sw (sw (sw (su σ 1 0 (nI n)) 2 f2) 3 f3) 4 f4) 9 zF 0 (sw (sw (sw (su σ 1 0 (nI n)) 2 f2) 3 f3) 4 f4) rfl (zF_big (by decide)) (fun x hx => absurd hx (Nat.not_lt_zero _)) (fun _ _ _ => rfl)
  refine ⟨σ2, ?_, ⟨⟨?_, ?_, ?_, ?_⟩, fun i hi => ?_, fun i hi => ?_, fun i hi => ?_, fun i hi j hj => ?_⟩, fun a q hf => ?_⟩
  · unfold Net_begin
    rw [zlet_ap, e2, ob_some, e3, ob_some, e4, ob_some, show (0 : Int32) = nI 0 from rfl, e5]
  · rw [g6 _ _ (by omega)]; simp only [sw_ap, su_ap]; rfl
  · rw [g6 _ _ (by omega)]; simp only [sw_ap, su_ap]; exact c2
  · rw [g6 _ _ (by omega)]; simp only [sw_ap, su_ap]; exact c3
  · rw [g6 _ _ (by omega)]; simp only [sw_ap, su_ap]; exact c4
  · rw [g6 _ _ (by omega), zrD_nb]; simp only [sw_ap]; exact g2 i hi
  · rw [g6 _ _ (by omega)]; simp only [sw_ap]; exact g3 i hi
  · rw [g6 _ _ (by omega)]; simp only [sw_ap]; exact g4 i hi
  · exact g5 i hi j hj
  · have : ¬ (1 ≤ a ∧ a ≤ 14) := fun w => f_nt hf (by unfold fC1; rw [bb w.1, bb w.2]; rfl)
    rw [g6 a q (by omega), sw_ap, if_neg (by omega), sw_ap, if_neg (by omega), sw_ap, if_neg (by omega), su_ap, if_neg (by omega)]
theorem mpt_loop {σ : zSt} {b : Int32} : ∀ (d m i : Nat) (f g : Nat → Int32), i + d = 9 → d < m → (∀ j, j < i → f j = 0 ∧ g j = 0) → ∃ f2 g2, M_points_c45 m b (nI i) (sw (sw σ 77 f) 78 g) = some (b, su (su (sw (sw σ 77 f2) 78 g2) 75 11 0) 75 12 0) ∧ ∀ j, j < 9 → f2 j = 0 ∧ g2 j = 0
  | d, 0, i, f, g, _, hm, _ => absurd hm (Nat.not_lt_zero _)
  | 0, m + 1, i, f, g, hi, _, h => by
    obtain rfl : i = 9 := by omega
    refine ⟨f, g, ?_, h⟩
    rw [M_points_c45, if_pos (show (9 : Int32) ≤ nI 9 by decide)]
    unfold M_forgets
    rw [zlet_ap, zlet_ap, ob_some]
  | d + 1, m + 1, i, f, g, hi, hm, h => by
    have e1 : su (sw (sw σ 77 f) 78 g) 77 i 0 = sw (sw σ 77 (upd f i 0)) 78 g := by
      funext a j
      simp only [sw_ap, su_ap, upd]
      by_cases z : a = 77 <;> by_cases z2 : a = 78 <;> by_cases z3 : j = i <;> simp [z, z2, z3]
    rw [M_points_c45, if_neg (show ¬ (9 : Int32) ≤ nI i from nI_ge (b := 9) (by omega) (by decide)), st77 (by omega), ob_some, e1, st78 (by omega), ob_some, su_sw, nI_1]
    refine mpt_loop d m (i + 1) _ _ (by omega) (by omega) (fun j hj => ?_)
    by_cases z : j = i
    · rw [z, pk_us, pk_us]; exact ⟨rfl, rfl⟩
    · rw [pk_un z, pk_un z]; exact h j (by omega)
theorem mpt2_loop {σ : zSt} {b : Int32} : ∀ (d m i : Nat) (f : Nat → Int32), i + d = 81 → d < m → (∀ j, j < i → f j = 0) → ∃ f2, M_points_c24 m b (nI i) (sw σ 76 f) = M_points_c45 zF b 0 (sw σ 76 f2) ∧ ∀ j, j < 81 → f2 j = 0
  | d, 0, i, f, _, hm, _ => absurd hm (Nat.not_lt_zero _)
  | 0, m + 1, i, f, hi, _, h => by
    obtain rfl : i = 81 := by omega
    exact ⟨f, by rw [M_points_c24, if_pos (show (81 : Int32) ≤ nI 81 by decide)], h⟩
  | d + 1, m + 1, i, f, hi, hm, h => by
    rw [M_points_c24, if_neg (show ¬ (81 : Int32) ≤ nI i from nI_ge (b := 81) (by omega) (by decide)), st76 (by omega), ob_some, su_sw, nI_1]
    refine mpt2_loop d m (i + 1) _ (by omega) (by omega) (fun j hj => ?_)
    by_cases z : j = i
    · rw [z, pk_us]
    · rw [pk_un z]; exact h j (by omega)
theorem t_points (x : Int32) : St2 (X_points x) (M_points x) := by
  intro D H V hv
  rcases rng x 1 9 (by decide) (by decide) with k | ⟨k, k2, k3⟩ | ⟨n, hn1, hn, rfl⟩
  · refine ⟨-1, D, H, Or.inl rfl, V, hv, XS_id fun σ X => ?_, MS_id fun σ M => ?_⟩
    · unfold X_points; rw [if_pos (show x < 1 from k)]
    · unfold M_points; rw [show M_in x 1 9 σ = some 0 from min_lo k, ob_some, if_neg (fun q => q rfl)]
  · refine ⟨-1, D, H, Or.inl rfl, V, hv, XS_id fun σ X => ?_, MS_id fun σ M => ?_⟩
    · unfold X_points; rw [if_neg (show ¬ x < 1 from k), if_neg (show ¬ x ≤ 9 from k3)]
    · unfold M_points; rw [show M_in x 1 9 σ = some 0 from min_hi k k2, ob_some, if_neg (fun q => q rfl)]
  refine ⟨nI (dn D), zrD D n, (0, 0, he H), Or.inr (nI_pos' (by have := V.1; omega)), zrD_V V hn1 hn, ⟨⟨Nat.le_refl _, Nat.zero_le _⟩, fun q hq => absurd hq (Nat.not_lt_zero _)⟩, ?_, ?_⟩
  · rintro σ ⟨C, h12, ⟨x1, x2⟩, c, ⟨hp1, hp2⟩, hE⟩
    obtain ⟨σ2, a1, a2, a3⟩ := xbg_ok (n := n) C
    refine ⟨su (su σ2 29 1 0) 29 2 0, ?_, ⟨CN1_sm (Sm_tr (Sm_su rfl) (Sm_su rfl)) a2, Nat.zero_le _, ⟨?_, ?_⟩, c, ⟨fun q hq => ⟨?_, (hp1 q hq).2⟩, hp2⟩, fun q hq => absurd hq (Nat.not_lt_zero _)⟩, fun a q hf => ?_⟩
    · unfold X_points His_forget
      rw [if_neg (show ¬ nI n < 1 from nI_nlt (b := 1) hn1 (by omega)), if_pos (show nI n ≤ 9 from nI_le (b := 9) hn (by decide)), a1, ob_some, zlet_ap, zlet_ap, ob_some, C.1.1]
    · rw [su_ap, if_neg (by omega), su_ap, if_pos ⟨rfl, rfl⟩]; rfl
    · rw [su_ap, if_pos ⟨rfl, rfl⟩]; rfl
    · rw [su_ap, if_neg (by omega), su_ap, if_neg (by omega), a3 _ _ rfl]; exact (hp1 q hq).1
    · have := fX_at hf
      rw [su_ap, if_neg (by omega), su_ap, if_neg (by omega), a3 a q (fX_C hf)]
  · rintro σ ⟨M, ⟨m1, m2⟩, hE⟩
    obtain ⟨⟨n1, n2, n3, n4⟩, n5, n6, n7⟩ := M
    obtain ⟨f, e1, g1⟩ := mpt2_loop (σ := su σ 75 3 (nI n)) (b := nI (dn D)) 81 zF 0 (su σ 75 3 (nI n) 76) rfl (zF_big (by decide)) (fun j hj => absurd hj (Nat.not_lt_zero _))
    rw [sw_self] at e1
    obtain ⟨f2, g2, e2, g3⟩ := mpt_loop (σ := sw (su σ 75 3 (nI n)) 76 f) (b := nI (dn D)) 9 zF 0 (sw (su σ 75 3 (nI n)) 76 f 77) (sw (sw (su σ 75 3 (nI n)) 76 f) 77 (sw (su σ 75 3 (nI n)) 76 f 77) 78) rfl (zF_big (by decide)) (fun j hj => absurd hj (Nat.not_lt_zero _))
    rw [sw_self, sw_self] at e2
    have e0 : ∀ a q, a < 75 ∨ 78 < a → su (su (sw (sw (sw (su σ 75 3 (nI n)) 76 f) 77 f2) 78 g2) 75 11 0) 75 12 0 a q = σ a q := fun a q w => by
      rw [su_ap, if_neg (by omega), su_ap, if_neg (by omega), sw_ap, if_neg (by omega), sw_ap, if_neg (by omega), sw_ap, if_neg (by omega), su_ap, if_neg (by omega)]
    refine ⟨su (su (sw (sw (sw (su σ 75 3 (nI n)) 76 f) 77 f2) 78 g2) 75 11 0) 75 12 0, ?_, ⟨⟨⟨?_, ?_, ?_, ?_⟩, fun i hi j hj => ?_, fun i hi => ?_, fun i hi => ?_⟩, ⟨?_, ?_⟩, fun q hq => absurd hq (Nat.not_lt_zero _)⟩, fun a q hf => ?_⟩
    · unfold M_points
      rw [show M_in (nI n) 1 9 σ = some 1 from min_ok hn1 hn (by decide), ob_some, if_pos i10, zlet_ap, n1]
      exact e1.trans e2
    · simp only [sw_ap, su_ap]; rfl
    · simp only [sw_ap, su_ap]; exact n2
    · simp only [sw_ap, su_ap]; exact n3
    · simp only [sw_ap, su_ap]; exact n4
    · simp only [sw_ap, su_ap]; exact g1 _ (by omega)
    · simp only [sw_ap, su_ap]; exact (g3 i hi).1
    · simp only [sw_ap, su_ap]; exact (g3 i hi).2
    · simp only [sw_ap, su_ap]; rfl
    · simp only [sw_ap, su_ap]; rfl
    · have := fM_at hf
      by_cases w : a = 75
      · subst w
        rw [su_ap, if_neg (by omega), su_ap, if_neg (by omega), sw_ap, if_neg (by omega), sw_ap, if_neg (by omega), sw_ap, if_neg (by omega), su_ap, if_neg (by omega)]
      · exact e0 a q (by omega)
theorem s_points (x : Int32) : St (X_points x) (M_points x) := St_of (t_points x)

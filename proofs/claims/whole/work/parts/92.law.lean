/-! PURE: the law, call by call -/
theorem lwQ2 {x m : zSt → Option (Int32 × zSt)} (h : Q2 x m) {σ : zSt} (I : Inv σ) (k : zSt → Option (Int32 × zSt)) : ∃ σ2, Inv σ2 ∧ (zb2 (x σ) fun v σ1 => zb2 (m σ1) fun w σ2 => if v = w then k σ2 else some (0, σ2)) = k σ2 := by
  obtain ⟨r, σ1, σ2, e1, e2, I2⟩ := h σ I
  exact ⟨σ2, I2, by rw [e1, zb2_sm, e2, zb2_sm, if_pos rfl]⟩
theorem lwQg {x m : zSt → Option Int32} (h : Qg x m) {σ : zSt} (I : Inv σ) (k : zSt → Option (Int32 × zSt)) : ∃ σ2, Inv σ2 ∧ ((x σ).bind fun v => (m σ).bind fun w => if v = w then k σ else some (0, σ)) = k σ2 := by
  obtain ⟨D, J⟩ := I
  obtain ⟨r, e1, e2⟩ := h σ D J
  exact ⟨σ, ⟨D, J⟩, by rw [e1, ob_some, e2, ob_some, if_pos rfl]⟩
theorem lwQ1 {x : zSt → Option Int32} {m : zSt → Option (Int32 × zSt)} (h : Q1 x m) {σ : zSt} (I : Inv σ) (k : zSt → Option (Int32 × zSt)) : ∃ σ2, Inv σ2 ∧ ((x σ).bind fun v => zb2 (m σ) fun w σ2 => if v = w then k σ2 else some (0, σ2)) = k σ2 := by
  obtain ⟨r, σ2, e1, e2, I2⟩ := h σ I
  exact ⟨σ2, I2, by rw [e1, ob_some, e2, zb2_sm, if_pos rfl]⟩
theorem zsd_at {xs : Nat → Int32} {L0 j : Nat} (hL : L0 ≤ 2048) (hj : j < L0) : zsdq xs L0 202 (nI j) = some (xs j) := by
  unfold zsdq
  rw [zob_ok hj (by omega), nI_clamp (by omega)]
  rfl
theorem lw_end {L0 i : Nat} (hL : L0 ≤ 2048) (hi : i < 4096) : (Int32.ofNat L0 - 4 < nI i) ↔ L0 < i + 4 := by
  have e : (Int32.ofNat L0 - 4).toInt = (L0 : Int) - (4 : Nat) := pk_sub_toInt (a := L0) (b := 4) (by omega) (by decide)
  rw [Int32.lt_iff_toInt_lt, e, nI_toInt (by omega)]
  omega
theorem lw_step {xs : Nat → Int32} {L0 : Nat} (hL : L0 ≤ 2048) {i n : Nat} {σ : zSt} (hi : i + 4 ≤ L0) (I : Inv σ) : ∃ σ2, Inv σ2 ∧ Law_c18 xs L0 (n + 1) (nI i) σ = Law_c18 xs L0 n (nI (i + 4)) σ2 := by
  have z0 := zsd_at (xs := xs) (j := i) hL (by omega)
  have z1 : zsdq xs L0 202 (nI i + 1) = some (xs (i + 1)) := by rw [nI_1]; exact zsd_at hL (by omega)
  have z2 : zsdq xs L0 202 (nI i + 2) = some (xs (i + 2)) := by rw [z_2, nI_add]; exact zsd_at hL (by omega)
  have z3 : zsdq xs L0 202 (nI i + 3) = some (xs (i + 3)) := by rw [z_3, nI_add]; exact zsd_at hL (by omega)
  have z4 : nI i + 4 = nI (i + 4) := by rw [z_4, nI_add]
  rw [Law_c18, if_neg (fun q => by have := (lw_end hL (by omega)).mp q; omega), z0, ob_some]
  simp only [z1, z2, z3, z4, ob_some]
  by_cases c0 : xs i &&& 63 = 0
  · rw [if_pos c0]; exact lwQ2 (St_Q2 (s_points (xs (i + 1)))) I (fun σ => Law_c18 xs L0 n (nI (i + 4)) σ)
  rw [if_neg c0]
  by_cases c1 : xs i &&& 63 = 1
  · rw [if_pos c1]; exact lwQ2 (St_Q2 (s_line (xs (i + 1)) (xs (i + 2)) (xs (i + 3)))) I (fun σ => Law_c18 xs L0 n (nI (i + 4)) σ)
  rw [if_neg c1]
  by_cases c2 : xs i &&& 63 = 2
  · rw [if_pos c2]; exact lwQ2 (St_Q2 (s_kind (xs (i + 1)) (xs (i + 2)))) I (fun σ => Law_c18 xs L0 n (nI (i + 4)) σ)
  rw [if_neg c2]
  by_cases c3 : xs i &&& 63 = 3
  · rw [if_pos c3]; exact lwQ2 (St_Q2 (s_cost (xs (i + 1)) (xs (i + 2)))) I (fun σ => Law_c18 xs L0 n (nI (i + 4)) σ)
  rw [if_neg c3]
  by_cases c4 : xs i &&& 63 = 4
  · rw [if_pos c4]; exact lwQ2 (St_Q2 (s_rule (xs (i + 1)) (xs (i + 2)))) I (fun σ => Law_c18 xs L0 n (nI (i + 4)) σ)
  rw [if_neg c4]
  by_cases c5 : xs i &&& 63 = 5
  · rw [if_pos c5]; exact lwQg (g_of (xs (i + 1)) (xs (i + 2))) I (fun σ => Law_c18 xs L0 n (nI (i + 4)) σ)
  rw [if_neg c5]
  by_cases c6 : xs i &&& 63 = 6
  · rw [if_pos c6]; exact lwQ2 (Qs_Q2 (q_round (xs (i + 1)))) I (fun σ => Law_c18 xs L0 n (nI (i + 4)) σ)
  rw [if_neg c6]
  by_cases c7 : xs i &&& 63 = 7
  · rw [if_pos c7]; exact lwQ2 (Qs_Q2 (q_closure (xs (i + 1)))) I (fun σ => Law_c18 xs L0 n (nI (i + 4)) σ)
  rw [if_neg c7]
  by_cases c8 : xs i &&& 63 = 8
  · rw [if_pos c8]; exact lwQ2 (Qs_Q2 (q_time (xs (i + 1)))) I (fun σ => Law_c18 xs L0 n (nI (i + 4)) σ)
  rw [if_neg c8]
  by_cases c9 : xs i &&& 63 = 9
  · rw [if_pos c9]; exact lwQ2 (Qs_Q2 (q_least (xs (i + 1)))) I (fun σ => Law_c18 xs L0 n (nI (i + 4)) σ)
  rw [if_neg c9]
  by_cases c10 : xs i &&& 63 = 10
  · rw [if_pos c10]; exact lwQ2 (Qs_Q2 (q_cheapest (xs (i + 1)))) I (fun σ => Law_c18 xs L0 n (nI (i + 4)) σ)
  rw [if_neg c10]
  by_cases c11 : xs i &&& 63 = 11
  · rw [if_pos c11]; exact lwQ2 (Qs_Q2 (q_many (xs (i + 1)))) I (fun σ => Law_c18 xs L0 n (nI (i + 4)) σ)
  rw [if_neg c11]
  by_cases c12 : xs i &&& 63 = 12
  · rw [if_pos c12]; exact lwQ2 (Qs_Q2 (q_throttle (xs (i + 1)))) I (fun σ => Law_c18 xs L0 n (nI (i + 4)) σ)
  rw [if_neg c12]
  by_cases c13 : xs i &&& 63 = 13
  · rw [if_pos c13]; exact lwQ2 (Qs_Q2 (q_spread (xs (i + 1)))) I (fun σ => Law_c18 xs L0 n (nI (i + 4)) σ)
  rw [if_neg c13]
  by_cases c14 : xs i &&& 63 = 14
  · rw [if_pos c14]; exact lwQ2 (Qs_Q2 (q_lineSpread (xs (i + 1)) (xs (i + 2)))) I (fun σ => Law_c18 xs L0 n (nI (i + 4)) σ)
  rw [if_neg c14]
  by_cases c15 : xs i &&& 63 = 15
  · rw [if_pos c15]; exact lwQ2 (Qs_Q2 (q_best (xs (i + 1)))) I (fun σ => Law_c18 xs L0 n (nI (i + 4)) σ)
  rw [if_neg c15]
  by_cases c16 : xs i &&& 63 = 16
  · rw [if_pos c16]; exact lwQ2 (Qs_Q2 (q_chain (xs (i + 1)) (xs (i + 2)) (xs (i + 3)))) I (fun σ => Law_c18 xs L0 n (nI (i + 4)) σ)
  rw [if_neg c16]
  by_cases c17 : xs i &&& 63 = 17
  · rw [if_pos c17]; exact lwQ2 (Qs_Q2 (q_ends (xs (i + 1)))) I (fun σ => Law_c18 xs L0 n (nI (i + 4)) σ)
  rw [if_neg c17]
  by_cases c18 : xs i &&& 63 = 18
  · rw [if_pos c18]; exact lwQ2 (Qs_Q2 (q_fort (xs (i + 1)))) I (fun σ => Law_c18 xs L0 n (nI (i + 4)) σ)
  rw [if_neg c18]
  by_cases c19 : xs i &&& 63 = 19
  · rw [if_pos c19]; exact lwQ2 (Qs_Q2 (q_forts (xs (i + 1)) (xs (i + 2)))) I (fun σ => Law_c18 xs L0 n (nI (i + 4)) σ)
  rw [if_neg c19]
  by_cases c20 : xs i &&& 63 = 20
  · rw [if_pos c20]; exact lwQ2 (Qs_Q2 (q_innerFort (xs (i + 1)))) I (fun σ => Law_c18 xs L0 n (nI (i + 4)) σ)
  rw [if_neg c20]
  by_cases c21 : xs i &&& 63 = 21
  · rw [if_pos c21]; exact lwQ2 (Qs_Q2 (q_meets (xs (i + 1)))) I (fun σ => Law_c18 xs L0 n (nI (i + 4)) σ)
  rw [if_neg c21]
  by_cases c22 : xs i &&& 63 = 22
  · rw [if_pos c22]; exact lwQ2 (St_Q2 (s_table (xs (i + 1)) (xs (i + 2)) (xs (i + 3)))) I (fun σ => Law_c18 xs L0 n (nI (i + 4)) σ)
  rw [if_neg c22]
  by_cases c23 : xs i &&& 63 = 23
  · rw [if_pos c23]; exact lwQg (g_entry (xs (i + 1)) (xs (i + 2))) I (fun σ => Law_c18 xs L0 n (nI (i + 4)) σ)
  rw [if_neg c23]
  by_cases c24 : xs i &&& 63 = 24
  · rw [if_pos c24]; exact lwQ2 (St_Q2 (s_prime (xs (i + 1)))) I (fun σ => Law_c18 xs L0 n (nI (i + 4)) σ)
  rw [if_neg c24]
  by_cases c25 : xs i &&& 63 = 25
  · rw [if_pos c25]; exact lwQ2 (q_rank (xs (i + 1))) I (fun σ => Law_c18 xs L0 n (nI (i + 4)) σ)
  rw [if_neg c25]
  by_cases c26 : xs i &&& 63 = 26
  · rw [if_pos c26]; exact lwQ2 (q_kernel (xs (i + 1)) (xs (i + 2))) I (fun σ => Law_c18 xs L0 n (nI (i + 4)) σ)
  rw [if_neg c26]
  by_cases c27 : xs i &&& 63 = 27
  · rw [if_pos c27]; exact lwQ2 (q_mend (xs (i + 1)) (xs (i + 2))) I (fun σ => Law_c18 xs L0 n (nI (i + 4)) σ)
  rw [if_neg c27]
  by_cases c28 : xs i &&& 63 = 28
  · rw [if_pos c28]; exact lwQ2 (q_mendTwo (xs (i + 1)) (xs (i + 2)) (xs (i + 3))) I (fun σ => Law_c18 xs L0 n (nI (i + 4)) σ)
  rw [if_neg c28]
  by_cases c29 : xs i &&& 63 = 29
  · rw [if_pos c29]; exact lwQ2 (q_fits (xs (i + 1)) (xs (i + 2)) (xs (i + 3))) I (fun σ => Law_c18 xs L0 n (nI (i + 4)) σ)
  rw [if_neg c29]
  by_cases c30 : xs i &&& 63 = 30
  · rw [if_pos c30]; exact lwQ1 (q_judge (xs (i + 1))) I (fun σ => Law_c18 xs L0 n (nI (i + 4)) σ)
  rw [if_neg c30]
  by_cases c31 : xs i &&& 63 = 31
  · rw [if_pos c31]; exact lwQ2 (St_Q2 s_undo) I (fun σ => Law_c18 xs L0 n (nI (i + 4)) σ)
  rw [if_neg c31]
  by_cases c32 : xs i &&& 63 = 32
  · rw [if_pos c32]; exact lwQ2 (St_Q2 s_redo) I (fun σ => Law_c18 xs L0 n (nI (i + 4)) σ)
  rw [if_neg c32]
  by_cases c33 : xs i &&& 63 = 33
  · rw [if_pos c33]; exact lwQ2 (q_feed (xs (i + 1))) I (fun σ => Law_c18 xs L0 n (nI (i + 4)) σ)
  rw [if_neg c33]
  by_cases c34 : xs i &&& 63 = 34
  · rw [if_pos c34]; exact lwQ2 q_wipe I (fun σ => Law_c18 xs L0 n (nI (i + 4)) σ)
  rw [if_neg c34]
  by_cases c35 : xs i &&& 63 = 35
  · rw [if_pos c35]; exact lwQ2 q_read I (fun σ => Law_c18 xs L0 n (nI (i + 4)) σ)
  rw [if_neg c35]
  by_cases c36 : xs i &&& 63 = 36
  · rw [if_pos c36]; exact lwQ2 (q_row (xs (i + 1)) (xs (i + 2))) I (fun σ => Law_c18 xs L0 n (nI (i + 4)) σ)
  rw [if_neg c36]
  by_cases c37 : xs i &&& 63 = 37
  · rw [if_pos c37]; exact lwQ2 (q_put (xs (i + 1)) (xs (i + 2)) (xs (i + 3))) I (fun σ => Law_c18 xs L0 n (nI (i + 4)) σ)
  rw [if_neg c37]
  by_cases c38 : xs i &&& 63 = 38
  · rw [if_pos c38]; exact lwQg (g_get (xs (i + 1)) (xs (i + 2))) I (fun σ => Law_c18 xs L0 n (nI (i + 4)) σ)
  rw [if_neg c38]
  by_cases c39 : xs i &&& 63 = 39
  · rw [if_pos c39]; exact lwQ2 (q_film (xs (i + 1)) (xs (i + 2)) (xs (i + 3))) I (fun σ => Law_c18 xs L0 n (nI (i + 4)) σ)
  rw [if_neg c39]
  by_cases c40 : xs i &&& 63 = 40
  · rw [if_pos c40]; exact lwQ2 (q_act (xs (i + 1)) (xs (i + 2)) (xs (i + 3))) I (fun σ => Law_c18 xs L0 n (nI (i + 4)) σ)
  rw [if_neg c40]
  by_cases c41 : xs i &&& 63 = 41
  · rw [if_pos c41]; exact lwQg (g_trace (xs (i + 1))) I (fun σ => Law_c18 xs L0 n (nI (i + 4)) σ)
  rw [if_neg c41]
  by_cases c42 : xs i &&& 63 = 42
  · rw [if_pos c42]; exact lwQg (g_taken (xs (i + 1)) (xs (i + 2))) I (fun σ => Law_c18 xs L0 n (nI (i + 4)) σ)
  rw [if_neg c42]
  by_cases c43 : xs i &&& 63 = 43
  · rw [if_pos c43]; exact lwQ2 q_image I (fun σ => Law_c18 xs L0 n (nI (i + 4)) σ)
  rw [if_neg c43]
  by_cases c44 : xs i &&& 63 = 44
  · rw [if_pos c44]; exact lwQ2 q_back I (fun σ => Law_c18 xs L0 n (nI (i + 4)) σ)
  rw [if_neg c44]
  by_cases c45 : xs i &&& 63 = 45
  · rw [if_pos c45]; exact lwQ1 (q_count (xs (i + 1))) I (fun σ => Law_c18 xs L0 n (nI (i + 4)) σ)
  rw [if_neg c45]
  exact ⟨σ, I, rfl⟩
theorem lw_loop {xs : Nat → Int32} {L0 : Nat} (hL : L0 ≤ 2048) : ∀ (d n i : Nat) (σ : zSt), L0 ≤ i + d → d < n → i ≤ 3000 → Inv σ → ∃ σ2, Law_c18 xs L0 n (nI i) σ = some (1, σ2)
  | d, 0, i, σ, _, hn, _, _ => absurd hn (Nat.not_lt_zero _)
  | 0, n + 1, i, σ, hi, _, hb, I => ⟨σ, by rw [Law_c18, if_pos ((lw_end hL (by omega)).mpr (by omega))]⟩
  | d + 1, n + 1, i, σ, hi, hn, hb, I => by
    by_cases h : i + 4 ≤ L0
    · obtain ⟨σ2, I2, e⟩ := lw_step (xs := xs) (n := n) hL h I
      rw [e]
      exact lw_loop hL d n (i + 4) σ2 (by omega) (by omega) (by omega) I2
    · exact ⟨σ, by rw [Law_c18, if_pos ((lw_end hL (by omega)).mpr (by omega))]⟩
theorem zpure_law : zPure := fun xs L0 hL => by
  obtain ⟨σ2, e⟩ := lw_loop (xs := xs) hL L0 (L0 + 1) 0 zs0 (by omega) (Nat.lt_succ_self _) (by decide) ⟨_, In_0⟩
  exact ⟨L0 + 1, σ2, e⟩

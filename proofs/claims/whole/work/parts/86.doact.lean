/-! PURE: one act done, on both sides -/
/-- what the reference does of its k-th act -/
def MD (D : yD) (H : yH) (L a c : Nat) (r : Int32) (D2 : yD) (H2 : yH) : Prop := ∀ (τ : zSt) (k : Nat), MI D H τ → k < 80 → τ 92 k = nI L → τ 93 k = nI a → τ 94 k = nI c → ∃ τ2, M_isDone (nI k) τ = some (if 0 ≤ r then 1 else 0, τ2) ∧ MI D2 H2 τ2 ∧ ∀ x q, fM x q = false → τ2 x q = τ x q
def Act (L a c : Nat) : Prop := ∀ D H, Vd D → HV (dn D) H → ∃ r D2 H2, (r = -1 ∨ 0 ≤ r) ∧ Vd D2 ∧ HV (dn D2) H2 ∧ XS (X_doAct_c35 (nI L) (nI a) (nI c)) D H r D2 H2 ∧ MD D H L a c r D2 H2
theorem act_of {L a c : Nat} {f g : zSt → Option (Int32 × zSt)} (h : St2 f g) (hx : ∀ σ, X_doAct_c35 (nI L) (nI a) (nI c) σ = zb2 (f σ) fun v σ2 => some (v, σ2)) (hm : ∀ τ k, k < 80 → τ 92 k = nI L → τ 93 k = nI a → τ 94 k = nI c → M_isDone (nI k) τ = zb2 (g τ) fun v σ2 => if v = -1 then some (0, σ2) else some (1, σ2)) : Act L a c := fun D H V hv => by
  obtain ⟨r, D2, H2, h0, V2, k2, xs, ms⟩ := h D H V hv
  refine ⟨r, D2, H2, h0, V2, k2, fun σ X => ?_, fun τ k M hk e1 e2 e3 => ?_⟩
  · obtain ⟨σ2, e, X2, f2⟩ := xs σ X
    exact ⟨σ2, by rw [hx, e, zb2_sm], X2, f2⟩
  · obtain ⟨τ2, e, M2, f2⟩ := ms τ M
    refine ⟨τ2, ?_, M2, f2⟩
    rw [hm τ k hk e1 e2 e3, e, zb2_sm]
    rcases h0 with h0 | h0
    · rw [if_pos h0, if_neg (by rw [h0]; decide)]
    · rw [if_neg (fun q => by rw [q] at h0; exact absurd h0 (by decide)), if_pos h0]
theorem dn_tD {D : yD} {w i j : Nat} {v : Int32} : dn (tD D w i j v) = dn D := by
  unfold tD
  split
  · rfl
  · exact upD_n _ _ _ _ _
theorem dn_lD {D : yD} {i j s : Nat} : dn (lD D i j s) = dn D := by
  unfold lD
  split
  · rfl
  · exact dn_tD
/-- lines from one point to the next -/
theorem pth_loop {n e : Nat} (he : e < n) (hn : n ≤ 9) : ∀ (d i : Nat) (D : yD) (H : yH), i + d = e → dn D = n → Vd D → HV n H → ∃ D2 H2, dn D2 = n ∧ Vd D2 ∧ HV n H2 ∧ (∀ σ, XI D H σ → ∃ σ2, (∀ (t : Nat) (l1 l3 : Int32), X_tellPath_c34 (t + d) l1 (nI e) l3 (nI i) σ = X_tellPath_c34 t l1 (nI e) l3 (nI e) σ2) ∧ XI D2 H2 σ2 ∧ ∀ a q, fX a q = false → σ2 a q = σ a q) ∧ ∀ τ, MI D H τ → ∃ τ2, (∀ t : Nat, M_runs_c2 (t + d) (nI e) (nI i) τ = M_runs_c2 t (nI e) (nI e) τ2) ∧ MI D2 H2 τ2 ∧ ∀ a q, fM a q = false → τ2 a q = τ a q
  | 0, i, D, H, hi, hd, V, hv => by
    obtain rfl : i = e := by omega
    exact ⟨D, H, hd, V, hv, fun σ X => ⟨σ, fun _ _ _ => rfl, X, fun _ _ _ => rfl⟩, fun τ M => ⟨τ, fun _ => rfl, M, fun _ _ _ => rfl⟩⟩
  | d + 1, i, D, H, hi, hd, V, hv => by
    subst hd
    obtain ⟨V1, H1⟩ := l_V (i := i) (j := i + 1) (s := 1) V hv (by omega) (by omega) (Nat.le_refl _)
    rw [dn_lD] at H1
    obtain ⟨D2, H2, d2, V2, hv2, x2, m2⟩ := pth_loop he hn d (i + 1) (lD D i (i + 1) 1) (lH D H i (i + 1) 1) (by omega) dn_lD V1 H1
    refine ⟨D2, H2, d2, V2, hv2, fun σ X => ?_, fun τ M => ?_⟩
    · obtain ⟨σ1, e1, X1, f1⟩ := xl_ok (i := i) (j := i + 1) (s := 1) V hv (by omega) (by omega) (Nat.le_refl _) σ X
      obtain ⟨σ2, e2, X2, f2⟩ := x2 σ1 X1
      refine ⟨σ2, fun t l1 l3 => ?_, X2, fun a q h => (f2 a q h).trans (f1 a q h)⟩
      rw [show t + (d + 1) = t + d + 1 by omega, X_tellPath_c34, if_neg (nI_ge (by omega) (by omega)), nI_1, show (1 : Int32) = nI 1 from rfl, e1, zb2_sm]
      exact e2 t l1 l3
    · obtain ⟨τ1, e1, M1, f1⟩ := ml_ok (i := i) (j := i + 1) (s := 1) V hv (by omega) (by omega) (by omega) (Nat.le_refl _) τ M
      obtain ⟨τ2, e2, M2, f2⟩ := m2 τ1 M1
      refine ⟨τ2, fun t => ?_, M2, fun a q h => (f2 a q h).trans (f1 a q h)⟩
      rw [show t + (d + 1) = t + d + 1 by omega, M_runs_c2, if_neg (nI_ge (by omega) (by omega)), nI_1, show (1 : Int32) = nI 1 from rfl, e1, zb2_sm]
      exact e2 t
/-- whether two numbers tell a path -/
theorem run_cases {D : yD} (V : Vd D) (a c s : Nat) (ha : a < 1000) (hc : c < 1000) (hs : s ≤ 2) : ((∀ σ : zSt, σ 1 0 = nI (dn D) → X_tellPath (nI a) (nI c) (nI s) σ = some (-1, σ)) ∧ ∀ τ : zSt, τ 75 3 = nI (dn D) → M_isRun (nI a) (nI c) (nI s) τ = some 0) ∨ (c < dn D ∧ a + s ≤ c ∧ (∀ σ : zSt, σ 1 0 = nI (dn D) → X_tellPath (nI a) (nI c) (nI s) σ = X_tellPath_c34 zF (nI a) (nI c) (nI s) (nI a) σ) ∧ ∀ τ : zSt, τ 75 3 = nI (dn D) → M_isRun (nI a) (nI c) (nI s) τ = some 1) := by
  have hn := V.1
  rcases pt2 V.1 (nI a) with ⟨g1, g2⟩ | ⟨a', ea, ha', g1, g2⟩
  · refine Or.inl ⟨fun σ h => ?_, fun τ h => ?_⟩
    · unfold X_tellPath; rw [g1 σ h, ob_some, if_pos rfl]
    · unfold M_isRun; rw [g2 τ h, ob_some, if_pos rfl]
  rcases pt2 V.1 (nI c) with ⟨k1, k2⟩ | ⟨c', ec, hc', k1, k2⟩
  · refine Or.inl ⟨fun σ h => ?_, fun τ h => ?_⟩
    · unfold X_tellPath; rw [g1 σ h, ob_some, if_neg i10, k1 σ h, ob_some, if_pos rfl]
    · unfold M_isRun; rw [g2 τ h, ob_some, if_neg i10, k2 τ h, ob_some, if_pos rfl]
  have hc2 : c = c' := (nI_inj (by omega) (by omega)).mp ec
  by_cases h : a + s ≤ c
  · refine Or.inr ⟨by omega, h, fun σ h2 => ?_, fun τ h2 => ?_⟩
    · unfold X_tellPath; rw [g1 σ h2, ob_some, if_neg i10, k1 σ h2, ob_some, if_neg i10, nI_add, if_pos (nI_le h (by omega))]
    · unfold M_isRun; rw [g2 τ h2, ob_some, if_neg i10, k2 τ h2, ob_some, if_neg i10, nI_add, if_neg (nI_nlt h (by omega))]
  · refine Or.inl ⟨fun σ h2 => ?_, fun τ h2 => ?_⟩
    · unfold X_tellPath; rw [g1 σ h2, ob_some, if_neg i10, k1 σ h2, ob_some, if_neg i10, nI_add, if_neg (nI_ge (by omega) (by omega))]
    · unfold M_isRun; rw [g2 τ h2, ob_some, if_neg i10, k2 τ h2, ob_some, if_neg i10, nI_add, if_pos (nI_lt (by omega) (by omega))]
theorem isd_pre {τ : zSt} {k L a c : Nat} (hk : k < 80) (e1 : τ 92 k = nI L) (e2 : τ 93 k = nI a) (e3 : τ 94 k = nI c) : zld τ 93 (nI k) = some (nI a) ∧ zld τ 94 (nI k) = some (nI c) ∧ zld τ 92 (nI k) = some (nI L) := ⟨by rw [ld93 hk, e2], by rw [ld94 hk, e3], by rw [ld92 hk, e1]⟩
theorem act_P {a c : Nat} (ha : a < 1000) (hc : c < 1000) : Act 80 a c := fun D H V hv => by
  have hn := V.1
  have hx : ∀ σ, X_doAct_c35 (nI 80) (nI a) (nI c) σ = zb2 (X_tellPath (nI a) (nI c) (nI 1) σ) fun v σ2 => some (v, σ2) := fun σ => by
    unfold X_doAct_c35
    rw [if_neg (show ¬ nI 80 = 67 by decide), if_pos (show nI 80 = 80 from rfl)]
    rfl
  rcases run_cases V a c 1 ha hc (by decide) with ⟨g1, g2⟩ | ⟨k1, k2, g1, g2⟩
  · refine ⟨-1, D, H, Or.inl rfl, V, hv, fun σ X => ⟨σ, by rw [hx, g1 σ X.1.1.1, zb2_sm], X, fun _ _ _ => rfl⟩, fun τ k M hk e1 e2 e3 => ⟨τ, ?_, M, fun _ _ _ => rfl⟩⟩
    obtain ⟨p1, p2, p3⟩ := isd_pre hk e1 e2 e3
    unfold M_isDone
    rw [p1, p2, p3, ob_some, ob_some, ob_some, if_pos (show nI 80 = 80 from rfl), show (1 : Int32) = nI 1 from rfl, g2 τ M.1.1.1, ob_some, if_neg (fun q => q rfl)]
    rfl
  · obtain ⟨D2, H2, d2, V2, hv2, x2, m2⟩ := pth_loop k1 hn.2 (c - a) a D H (by omega) rfl V hv
    refine ⟨1, D2, H2, Or.inr (by decide), V2, by rw [d2]; exact hv2, fun σ X => ?_, fun τ k M hk e1 e2 e3 => ?_⟩
    · obtain ⟨σ2, e, X2, f2⟩ := x2 σ X
      refine ⟨σ2, ?_, X2, f2⟩
      rw [hx, g1 σ X.1.1.1, show zF = (zF - (c - a) - 1) + 1 + (c - a) by have : zF = 4096 := rfl; omega, e, X_tellPath_c34, if_pos (nI_le (Nat.le_refl _) (by omega)), if_pos (show ¬ nI 1 = 2 by decide), zb2_sm]
    · obtain ⟨τ2, e, M2, f2⟩ := m2 τ M
      obtain ⟨p1, p2, p3⟩ := isd_pre hk e1 e2 e3
      refine ⟨τ2, ?_, M2, f2⟩
      unfold M_isDone M_runs
      rw [p1, p2, p3, ob_some, ob_some, ob_some, if_pos (show nI 80 = 80 from rfl), show (1 : Int32) = nI 1 from rfl, g2 τ M.1.1.1, ob_some, if_pos (show ¬ (1 : Int32) = 0 from i10), show zF = (zF - (c - a) - 1) + 1 + (c - a) by have : zF = 4096 := rfl; omega, e, M_runs_c2, if_pos (nI_le (Nat.le_refl _) (by omega)), ob_some]
      rfl
theorem act_C {a c : Nat} (ha : a < 1000) (hc : c < 1000) : Act 67 a c := fun D H V hv => by
  have hn := V.1
  have hx : ∀ σ, X_doAct_c35 (nI 67) (nI a) (nI c) σ = zb2 (X_tellPath (nI a) (nI c) (nI 2) σ) fun v σ2 => some (v, σ2) := fun σ => by
    unfold X_doAct_c35
    rw [if_pos (show nI 67 = 67 from rfl)]
    rfl
  have hm : ∀ τ k, k < 80 → τ 92 k = nI 67 → τ 93 k = nI a → τ 94 k = nI c → M_isDone (nI k) τ = (M_isRun (nI a) (nI c) (nI 2) τ).bind fun v36 => if ¬ v36 = 0 then ((M_runs (nI a) (nI c) τ).bind fun σ37 => zb2 (M_line (nI c) (nI a) (nI 1) σ37) fun v38 σ39 => some (1, σ39)) else (some (0, τ)) := fun τ k hk e1 e2 e3 => by
    obtain ⟨p1, p2, p3⟩ := isd_pre hk e1 e2 e3
    unfold M_isDone
    rw [p1, p2, p3, ob_some, ob_some, ob_some, if_neg (show ¬ nI 67 = 80 by decide), if_neg (show ¬ nI 67 = 99 by decide), if_neg (show ¬ nI 67 = 107 by decide), if_neg (show ¬ nI 67 = 108 by decide), if_neg (show ¬ nI 67 = 109 by decide), if_neg (show ¬ nI 67 = 110 by decide), if_neg (show ¬ nI 67 = 114 by decide), if_neg (show ¬ nI 67 = 117 by decide)]
    rfl
  rcases run_cases V a c 2 ha hc (by decide) with ⟨g1, g2⟩ | ⟨k1, k2, g1, g2⟩
  · refine ⟨-1, D, H, Or.inl rfl, V, hv, fun σ X => ⟨σ, by rw [hx, g1 σ X.1.1.1, zb2_sm], X, fun _ _ _ => rfl⟩, fun τ k M hk e1 e2 e3 => ⟨τ, ?_, M, fun _ _ _ => rfl⟩⟩
    rw [hm τ k hk e1 e2 e3, g2 τ M.1.1.1, ob_some, if_neg (fun q => q rfl)]
    rfl
  · obtain ⟨D2, H2, d2, V2, hv2, x2, m2⟩ := pth_loop k1 hn.2 (c - a) a D H (by omega) rfl V hv
    have hv2' : HV (dn D2) H2 := by rw [d2]; exact hv2
    obtain ⟨V3, hv3⟩ := l_V (i := c) (j := a) (s := 1) V2 hv2' (by omega) (by omega) (Nat.le_refl _)
    refine ⟨1, lD D2 c a 1, lH D2 H2 c a 1, Or.inr (by decide), V3, hv3, fun σ X => ?_, fun τ k M hk e1 e2 e3 => ?_⟩
    · obtain ⟨σ2, e, X2, f2⟩ := x2 σ X
      obtain ⟨σ3, e3, X3, f3⟩ := xl_ok (i := c) (j := a) (s := 1) V2 hv2' (by omega) (by omega) (Nat.le_refl _) σ2 X2
      refine ⟨σ3, ?_, X3, fun x q h => (f3 x q h).trans (f2 x q h)⟩
      rw [hx, g1 σ X.1.1.1, show zF = (zF - (c - a) - 1) + 1 + (c - a) by have : zF = 4096 := rfl; omega, e, X_tellPath_c34, if_pos (nI_le (Nat.le_refl _) (by omega)), if_neg (show ¬ ¬ nI 2 = 2 from fun q => q rfl), show (1 : Int32) = nI 1 from rfl, e3, zb2_sm, zb2_sm]
    · obtain ⟨τ2, e, M2, f2⟩ := m2 τ M
      obtain ⟨τ3, e4, M3, f3⟩ := ml_ok (i := c) (j := a) (s := 1) V2 hv2' (by omega) (by omega) (by omega) (Nat.le_refl _) τ2 M2
      refine ⟨τ3, ?_, M3, fun x q h => (f3 x q h).trans (f2 x q h)⟩
      unfold M_runs at hm
      rw [hm τ k hk e1 e2 e3, g2 τ M.1.1.1, ob_some, if_pos (show ¬ (1 : Int32) = 0 from i10), show zF = (zF - (c - a) - 1) + 1 + (c - a) by have : zF = 4096 := rfl; omega, e, M_runs_c2, if_pos (nI_le (Nat.le_refl _) (by omega)), ob_some, e4, zb2_sm]
      rfl
theorem act_ok {L a c : Nat} (ha : a < 1000) (hc : c < 1000) (hL : lno L = 1 ∨ lno L = 2) : Act L a c := by
  by_cases h1 : L = 67
  · rw [h1]; exact act_C ha hc
  by_cases h2 : L = 80
  · rw [h2]; exact act_P ha hc
  have hL2 : L = 99 ∨ L = 107 ∨ L = 108 ∨ L = 109 ∨ L = 110 ∨ L = 114 ∨ L = 117 := by
    unfold lno at hL
    rw [if_neg h1, if_neg h2] at hL
    refine Classical.byContradiction fun q => ?_
    rw [if_neg (by omega), if_neg (by omega), if_neg (by omega), if_neg (by omega), if_neg (by omega), if_neg (by omega), if_neg (by omega)] at hL
    omega
  rcases hL2 with rfl | rfl | rfl | rfl | rfl | rfl | rfl
  · refine act_of (t_cost (nI a) (nI c)) (fun σ => ?_) (fun τ k hk e1 e2 e3 => ?_)
    · unfold X_doAct_c35
      rw [if_neg (show ¬ nI 99 = 67 by decide), if_neg (show ¬ nI 99 = 80 by decide), if_pos (show nI 99 = 99 from rfl)]
    · obtain ⟨p1, p2, p3⟩ := isd_pre hk e1 e2 e3
      unfold M_isDone
      rw [p1, p2, p3, ob_some, ob_some, ob_some, if_neg (show ¬ nI 99 = 80 by decide), if_pos (show nI 99 = 99 from rfl)]
  · refine act_of (t_kind (nI a) (nI c)) (fun σ => ?_) (fun τ k hk e1 e2 e3 => ?_)
    · unfold X_doAct_c35
      rw [if_neg (show ¬ nI 107 = 67 by decide), if_neg (show ¬ nI 107 = 80 by decide), if_neg (show ¬ nI 107 = 99 by decide), if_pos (show nI 107 = 107 from rfl)]
    · obtain ⟨p1, p2, p3⟩ := isd_pre hk e1 e2 e3
      unfold M_isDone
      rw [p1, p2, p3, ob_some, ob_some, ob_some, if_neg (show ¬ nI 107 = 80 by decide), if_neg (show ¬ nI 107 = 99 by decide), if_pos (show nI 107 = 107 from rfl)]
  · refine act_of (t_line (nI a) (nI c) 1) (fun σ => ?_) (fun τ k hk e1 e2 e3 => ?_)
    · unfold X_doAct_c35
      rw [if_neg (show ¬ nI 108 = 67 by decide), if_neg (show ¬ nI 108 = 80 by decide), if_neg (show ¬ nI 108 = 99 by decide), if_neg (show ¬ nI 108 = 107 by decide), if_pos (show nI 108 = 108 from rfl)]
    · obtain ⟨p1, p2, p3⟩ := isd_pre hk e1 e2 e3
      unfold M_isDone
      rw [p1, p2, p3, ob_some, ob_some, ob_some, if_neg (show ¬ nI 108 = 80 by decide), if_neg (show ¬ nI 108 = 99 by decide), if_neg (show ¬ nI 108 = 107 by decide), if_pos (show nI 108 = 108 from rfl)]
  · refine act_of (t_prime (nI a)) (fun σ => ?_) (fun τ k hk e1 e2 e3 => ?_)
    · unfold X_doAct_c35
      rw [if_neg (show ¬ nI 109 = 67 by decide), if_neg (show ¬ nI 109 = 80 by decide), if_neg (show ¬ nI 109 = 99 by decide), if_neg (show ¬ nI 109 = 107 by decide), if_neg (show ¬ nI 109 = 108 by decide), if_neg (show ¬ nI 109 = 110 by decide), if_neg (show ¬ nI 109 = 114 by decide), if_neg (show ¬ nI 109 = 117 by decide)]
    · obtain ⟨p1, p2, p3⟩ := isd_pre hk e1 e2 e3
      unfold M_isDone
      rw [p1, p2, p3, ob_some, ob_some, ob_some, if_neg (show ¬ nI 109 = 80 by decide), if_neg (show ¬ nI 109 = 99 by decide), if_neg (show ¬ nI 109 = 107 by decide), if_neg (show ¬ nI 109 = 108 by decide), if_pos (show nI 109 = 109 from rfl)]
  · refine act_of (t_points (nI a)) (fun σ => ?_) (fun τ k hk e1 e2 e3 => ?_)
    · unfold X_doAct_c35
      rw [if_neg (show ¬ nI 110 = 67 by decide), if_neg (show ¬ nI 110 = 80 by decide), if_neg (show ¬ nI 110 = 99 by decide), if_neg (show ¬ nI 110 = 107 by decide), if_neg (show ¬ nI 110 = 108 by decide), if_pos (show nI 110 = 110 from rfl)]
    · obtain ⟨p1, p2, p3⟩ := isd_pre hk e1 e2 e3
      unfold M_isDone
      rw [p1, p2, p3, ob_some, ob_some, ob_some, if_neg (show ¬ nI 110 = 80 by decide), if_neg (show ¬ nI 110 = 99 by decide), if_neg (show ¬ nI 110 = 107 by decide), if_neg (show ¬ nI 110 = 108 by decide), if_neg (show ¬ nI 110 = 109 by decide), if_pos (show nI 110 = 110 from rfl)]
  · refine act_of (t_rule (nI a) (nI c)) (fun σ => ?_) (fun τ k hk e1 e2 e3 => ?_)
    · unfold X_doAct_c35
      rw [if_neg (show ¬ nI 114 = 67 by decide), if_neg (show ¬ nI 114 = 80 by decide), if_neg (show ¬ nI 114 = 99 by decide), if_neg (show ¬ nI 114 = 107 by decide), if_neg (show ¬ nI 114 = 108 by decide), if_neg (show ¬ nI 114 = 110 by decide), if_pos (show nI 114 = 114 from rfl)]
    · obtain ⟨p1, p2, p3⟩ := isd_pre hk e1 e2 e3
      unfold M_isDone
      rw [p1, p2, p3, ob_some, ob_some, ob_some, if_neg (show ¬ nI 114 = 80 by decide), if_neg (show ¬ nI 114 = 99 by decide), if_neg (show ¬ nI 114 = 107 by decide), if_neg (show ¬ nI 114 = 108 by decide), if_neg (show ¬ nI 114 = 109 by decide), if_neg (show ¬ nI 114 = 110 by decide), if_pos (show nI 114 = 114 from rfl)]
  · refine act_of (t_line (nI a) (nI c) 0) (fun σ => ?_) (fun τ k hk e1 e2 e3 => ?_)
    · unfold X_doAct_c35
      rw [if_neg (show ¬ nI 117 = 67 by decide), if_neg (show ¬ nI 117 = 80 by decide), if_neg (show ¬ nI 117 = 99 by decide), if_neg (show ¬ nI 117 = 107 by decide), if_neg (show ¬ nI 117 = 108 by decide), if_neg (show ¬ nI 117 = 110 by decide), if_neg (show ¬ nI 117 = 114 by decide), if_pos (show nI 117 = 117 from rfl)]
    · obtain ⟨p1, p2, p3⟩ := isd_pre hk e1 e2 e3
      unfold M_isDone
      rw [p1, p2, p3, ob_some, ob_some, ob_some, if_neg (show ¬ nI 117 = 80 by decide), if_neg (show ¬ nI 117 = 99 by decide), if_neg (show ¬ nI 117 = 107 by decide), if_neg (show ¬ nI 117 = 108 by decide), if_neg (show ¬ nI 117 = 109 by decide), if_neg (show ¬ nI 117 = 110 by decide), if_neg (show ¬ nI 117 = 114 by decide), if_pos (show nI 117 = 117 from rfl)]

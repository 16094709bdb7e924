/-! PURE: line, table -/
def hln (D : yD) (i j : Nat) : Int32 := if j ≠ i ∧ dT D i j ≠ 0 then 1 else 0
theorem hln_cases (D : yD) (i j : Nat) : hln D i j = 0 ∨ hln D i j = 1 := by
  unfold hln
  split
  · exact Or.inr rfl
  · exact Or.inl rfl
theorem xhl_ok {σ : zSt} {D : yD} {i j : Nat} (C : CN 1 2 3 4 6 D σ) (hi : i < 9) (hj : j < 9) : Net_hasLine (nI i) (nI j) σ = some (hln D i j) := by
  have hb := nbm_lt (T := dT D) (i := i)
  unfold Net_hasLine hln
  rw [ld2 hi, C.2.1 i hi, ob_some]
  by_cases h : (nbm (dT D) i).testBit j = true
  · have h2 := nbm_bit.mp h
    rw [if_neg (fun q => q ((pb_is1 (by omega) (by omega)).mpr h)), if_pos ⟨h2.2.1, h2.2.2⟩]
  · rw [if_pos (fun q => h ((pb_is1 (by omega) (by omega)).mp q)), if_neg (fun q => h (nbm_bit.mpr ⟨hj, q.1, q.2⟩))]
theorem mhl_ok {σ : zSt} {D : yD} {i j : Nat} (M : MN 3 4 5 6 76 77 78 D σ) (hi : i < 9) (hj : j < 9) : M_isLine (nI i) (nI j) σ = some (hln D i j) := isl_ok M hi hj
/-- two points: the one's and the other's answer -/
theorem two2 {n : Nat} (hn : 1 ≤ n ∧ n ≤ 9) (x y : Int32) : ((∀ σ : zSt, σ 1 0 = nI n → X_areTwo x y σ = some 0) ∧ ∀ σ : zSt, σ 75 3 = nI n → M_areTwo x y σ = some 0) ∨ ∃ a b, x = nI a ∧ y = nI b ∧ a < n ∧ b < n ∧ a ≠ b ∧ (∀ σ : zSt, σ 1 0 = nI n → X_areTwo x y σ = some 1) ∧ ∀ σ : zSt, σ 75 3 = nI n → M_areTwo x y σ = some 1 := by
  rcases pt2 hn x with ⟨g1, g2⟩ | ⟨i, rfl, hi, g1, g2⟩
  · refine Or.inl ⟨fun σ h => ?_, fun σ h => ?_⟩
    · unfold X_areTwo; rw [g1 σ h, ob_some, if_pos rfl]
    · unfold M_areTwo; rw [g2 σ h, ob_some, if_pos rfl]
  rcases pt2 hn y with ⟨k1, k2⟩ | ⟨j, rfl, hj, k1, k2⟩
  · refine Or.inl ⟨fun σ h => ?_, fun σ h => ?_⟩
    · unfold X_areTwo; rw [g1 σ h, ob_some, if_neg i10, k1 σ h, ob_some, if_pos rfl]
    · unfold M_areTwo; rw [g2 σ h, ob_some, if_neg i10, k2 σ h, ob_some, if_pos rfl]
  by_cases e : i = j
  · subst e
    refine Or.inl ⟨fun σ h => ?_, fun σ h => ?_⟩
    · unfold X_areTwo; rw [g1 σ h, ob_some, if_neg i10, ob_some, if_neg i10, if_pos rfl]
    · unfold M_areTwo; rw [g2 σ h, ob_some, if_neg i10, ob_some, if_neg i10, if_pos rfl]
  · have e2 : ¬ nI i = nI j := fun q => e ((nI_inj (by omega) (by omega)).mp q)
    refine Or.inr ⟨i, j, rfl, rfl, hi, hj, e, fun σ h => ?_, fun σ h => ?_⟩
    · unfold X_areTwo; rw [g1 σ h, ob_some, if_neg i10, k1 σ h, ob_some, if_neg i10, if_neg e2]
    · unfold M_areTwo; rw [g2 σ h, ob_some, if_neg i10, k2 σ h, ob_some, if_neg i10, if_neg e2]
def lD (D : yD) (i j s : Nat) : yD := if hln D i j = nI s then D else tD D 0 i j (nI s)
def lH (D : yD) (H : yH) (i j s : Nat) : yH := if hln D i j = nI s then H else tHH D H 0 i j (nI s)
theorem ok01 {n i j s : Nat} (hi : i < n) (hj : j < n) (hs : s ≤ 1) : okv n 0 i j (nI s) := by
  refine Or.inl ⟨rfl, hi, hj, ?_⟩
  unfold ent
  rw [nI_toInt (by omega)]
  omega
theorem l_V {D : yD} {H : yH} {i j s : Nat} (V : Vd D) (hv : HV (dn D) H) (hi : i < dn D) (hj : j < dn D) (hs : s ≤ 1) : Vd (lD D i j s) ∧ HV (dn (lD D i j s)) (lH D H i j s) := by
  have hn := V.1.2
  unfold lD lH
  by_cases e : hln D i j = nI s
  · rw [if_pos e, if_pos e]; exact ⟨V, hv⟩
  · rw [if_neg e, if_neg e]; exact tl_V V hv (by omega) (by omega) (ok01 hi hj hs)
theorem xl_ok {D : yD} {H : yH} {i j s : Nat} (V : Vd D) (hv : HV (dn D) H) (hi : i < dn D) (hj : j < dn D) (hs : s ≤ 1) : XS (X_tellLine (nI i) (nI j) (nI s)) D H (hln D i j) (lD D i j s) (lH D H i j s) := by
  have hn := V.1.2
  intro σ X
  have key : ∀ t : Int32, t = hln D i j → ∃ σ2, X_tellLine_c17 (nI i) (nI j) (nI s) t σ = some (hln D i j, σ2) ∧ XI (lD D i j s) (lH D H i j s) σ2 ∧ ∀ a q, fX a q = false → σ2 a q = σ a q := fun t ht => by
    subst ht
    unfold X_tellLine_c17 lD lH
    by_cases e : hln D i j = nI s
    · rw [if_pos e, if_pos e, if_pos e]; exact ⟨σ, rfl, X, fun _ _ _ => rfl⟩
    · rw [if_neg e, if_neg e, if_neg e]
      obtain ⟨σ2, e2, X2, f2⟩ := xtl_ok (i := i) (j := j) hv (by omega) (by omega) (ok01 hi hj hs) σ X
      rw [show (0 : Int32) = nI 0 from rfl, e2, zb2_sm]
      exact ⟨σ2, rfl, X2, f2⟩
  unfold X_tellLine
  rw [xhl_ok X.1 (by omega) (by omega), ob_some]
  rcases hln_cases D i j with e | e
  · rw [if_pos e]; exact key 0 e.symm
  · rw [if_neg (by rw [e]; exact i10)]; exact key 1 e.symm
theorem ml34 {D : yD} {H : yH} {i j s : Nat} {σ : zSt} (V : Vd D) (hv : HV (dn D) H) (hi : i < dn D) (hj : j < dn D) (hs : s ≤ 1) (M : MI D H σ) : ∃ σ2, M_line_c34 (nI i) (nI j) (nI s) (hln D i j) σ = some (hln D i j, σ2) ∧ MI (lD D i j s) (lH D H i j s) σ2 ∧ ∀ a q, fM a q = false → σ2 a q = σ a q := by
  have hn := V.1.2
  unfold M_line_c34 lD lH
  by_cases e : hln D i j = nI s
  · rw [if_pos e, if_pos e, if_pos e]; exact ⟨σ, rfl, M, fun _ _ _ => rfl⟩
  · rw [if_neg e, if_neg e, if_neg e]
    obtain ⟨σ2, e2, M2, f2⟩ := mtl_ok (i := i) (j := j) hv (by omega) (by omega) (ok01 hi hj hs) σ M
    have h9 : (9 : Int32) * nI i + nI j = nI (9 * i + j) := by rw [z_9, pk_mul, nI_add]
    rw [h9, ld76 (by omega), ob_some, M.1.2.1 i (by omega) j (by omega)]
    refine ⟨σ2, ?_, M2, f2⟩
    show (M_changes (nI 0) (nI (pl 0 i j)) (dv D 0 i j) (nI s) σ).bind _ = _
    rw [e2, ob_some]
theorem ml_ok {D : yD} {H : yH} {i j s : Nat} (V : Vd D) (hv : HV (dn D) H) (hi : i < dn D) (hj : j < dn D) (hij : i ≠ j) (hs : s ≤ 1) : MS (M_line (nI i) (nI j) (nI s)) D H (hln D i j) (lD D i j s) (lH D H i j s) := by
  have hn := V.1.2
  intro σ M
  have a2 : M_areTwo (nI i) (nI j) σ = some 1 := by
    rcases two2 V.1 (nI i) (nI j) with ⟨_, g2⟩ | ⟨a, b, _, _, _, _, _, _, g2⟩
    · exfalso
      have := g2 σ M.1.1.1
      rcases pt2 V.1 (nI i) with ⟨_, k2⟩ | ⟨a, ea, ha, _, k2⟩
      · have e1 : M_isPoint (nI i) σ = some 1 := by
          unfold M_isPoint
          rw [M.1.1.1, show nI (dn D) - 1 = nI (dn D - 1) from pk_sub (b := 1) V.1.1, show (0 : Int32) = nI 0 from rfl, min_ok (Nat.zero_le _) (by omega) (by omega), ob_some]
          rfl
        rw [k2 σ M.1.1.1] at e1
        cases e1
      · have e1 : M_isPoint (nI j) σ = some 1 := by
          unfold M_isPoint
          rw [M.1.1.1, show nI (dn D) - 1 = nI (dn D - 1) from pk_sub (b := 1) V.1.1, show (0 : Int32) = nI 0 from rfl, min_ok (Nat.zero_le _) (by omega) (by omega), ob_some]
          rfl
        unfold M_areTwo at this
        rw [k2 σ M.1.1.1, ob_some, if_neg i10, e1, ob_some, if_neg i10, if_neg (fun q => hij ((nI_inj (by omega) (by omega)).mp q))] at this
        cases this
    · exact g2 σ M.1.1.1
  unfold M_line
  rw [a2, ob_some, if_neg i10, show M_in (nI s) 0 1 σ = some 1 from min_ok (Nat.zero_le _) hs (by decide), ob_some, if_pos i10, mhl_ok M.1 (by omega) (by omega), ob_some]
  obtain ⟨σ2, e2, M2, f2⟩ := ml34 V hv hi hj hs M
  rcases hln_cases D i j with e | e
  · rw [if_pos e, ← e]; exact ⟨σ2, e2, M2, f2⟩
  · rw [if_neg (by rw [e]; exact i10), ← e]; exact ⟨σ2, e2, M2, f2⟩
theorem t_line (x y z : Int32) : St2 (X_line x y z) (M_line x y z) := by
  intro D H V hv
  rcases two2 V.1 x y with ⟨g1, g2⟩ | ⟨i, j, rfl, rfl, hi, hj, hij, g1, g2⟩
  · refine ⟨-1, D, H, Or.inl rfl, V, hv, XS_id fun σ X => ?_, MS_id fun σ M => ?_⟩
    · unfold X_line; rw [g1 σ X.1.1.1, ob_some, if_pos rfl]
    · unfold M_line; rw [g2 σ M.1.1.1, ob_some, if_pos rfl]
  have hn := V.1.2
  rcases rng z 0 1 (by decide) (by decide) with k | ⟨k, k2, k3⟩ | ⟨s, _, hs, rfl⟩
  · refine ⟨-1, D, H, Or.inl rfl, V, hv, XS_id fun σ X => ?_, MS_id fun σ M => ?_⟩
    · unfold X_line; rw [g1 σ X.1.1.1, ob_some, if_neg i10, if_pos (show z < 0 from k)]
    · unfold M_line; rw [g2 σ M.1.1.1, ob_some, if_neg i10, show M_in z 0 1 σ = some 0 from min_lo k, ob_some, if_neg (fun q => q rfl)]
  · refine ⟨-1, D, H, Or.inl rfl, V, hv, XS_id fun σ X => ?_, MS_id fun σ M => ?_⟩
    · unfold X_line; rw [g1 σ X.1.1.1, ob_some, if_neg i10, if_neg (show ¬ z < 0 from k), if_neg (show ¬ z ≤ 1 from k3)]
    · unfold M_line; rw [g2 σ M.1.1.1, ob_some, if_neg i10, show M_in z 0 1 σ = some 0 from min_hi k k2, ob_some, if_neg (fun q => q rfl)]
  · obtain ⟨V2, H2⟩ := l_V V hv hi hj hs
    refine ⟨hln D i j, _, _, Or.inr ((hln_cases D i j).elim (fun e => by rw [e]; decide) (fun e => by rw [e]; decide)), V2, H2, fun σ X => ?_, ml_ok V hv hi hj hij hs⟩
    obtain ⟨σ2, e, X2, f2⟩ := xl_ok V hv hi hj hs σ X
    refine ⟨σ2, ?_, X2, f2⟩
    unfold X_line
    rw [g1 σ X.1.1.1, ob_some, if_neg i10, if_neg (nI_pos (by omega)), if_pos (show nI s ≤ 1 from nI_le (b := 1) hs (by decide)), e, zb2_sm]
theorem s_line (x y z : Int32) : St (X_line x y z) (M_line x y z) := St_of (t_line x y z)
theorem s_table (x y z : Int32) : St (X_table x y z) (M_table x y z) := by
  intro D H V hv
  rcases pt2 V.1 x with ⟨g1, g2⟩ | ⟨i, rfl, hi, g1, g2⟩
  · refine ⟨-2147483648, D, H, V, hv, XS_id fun σ X => ?_, MS_id fun σ M => ?_⟩
    · unfold X_table; rw [g1 σ X.1.1.1, ob_some, if_pos rfl]
    · unfold M_table; rw [g2 σ M.1.1.1, ob_some, if_pos rfl]
  rcases pt2 V.1 y with ⟨k1, k2⟩ | ⟨j, rfl, hj, k1, k2⟩
  · refine ⟨-2147483648, D, H, V, hv, XS_id fun σ X => ?_, MS_id fun σ M => ?_⟩
    · unfold X_table; rw [g1 σ X.1.1.1, ob_some, if_neg i10, k1 σ X.1.1.1, ob_some, if_pos rfl]
    · unfold M_table; rw [g2 σ M.1.1.1, ob_some, if_neg i10, k2 σ M.1.1.1, ob_some, if_pos rfl]
  have hn := V.1.2
  by_cases z1 : z < -9
  · refine ⟨-2147483648, D, H, V, hv, XS_id fun σ X => ?_, MS_id fun σ M => ?_⟩
    · unfold X_table; rw [g1 σ X.1.1.1, ob_some, if_neg i10, k1 σ X.1.1.1, ob_some, if_neg i10, if_pos z1]
    · unfold M_table; rw [g2 σ M.1.1.1, ob_some, if_neg i10, k2 σ M.1.1.1, ob_some, if_neg i10, min_lo z1, ob_some, if_neg (fun q => q rfl)]
  by_cases z2 : z ≤ 9
  · have z3 : ¬ (9 : Int32) < z := Int32.not_lt.mpr z2
    have e3 : ∀ σ, M_in z (-9) 9 σ = some 1 := fun σ => (if_neg z1).trans (if_neg z3)
    have hent : ent z := by
      have e9 : (9 : Int32).toInt = 9 := rfl
      have em9 : (-9 : Int32).toInt = -9 := rfl
      rw [Int32.lt_iff_toInt_lt] at z1
      rw [Int32.le_iff_toInt_le] at z2
      unfold ent
      omega
    have hok : okv (dn D) 0 i j z := Or.inl ⟨rfl, hi, hj, hent⟩
    have h9 : (9 : Int32) * nI i + nI j = nI (9 * i + j) := by rw [z_9, pk_mul, nI_add]
    have main : ∀ f g : zSt → Option (Int32 × zSt), (∀ σ, XI D H σ → f σ = X_table_c66 (nI i) (nI j) z σ) → (∀ σ, MI D H σ → g σ = M_table_c56 (nI i) (nI j) z σ) → ∃ r D2 H2, Vd D2 ∧ HV (dn D2) H2 ∧ XS f D H r D2 H2 ∧ MS g D H r D2 H2 := fun f g hf hg => by
      refine tl_St (w := 0) (i := i) (j := j) (v := z) V hv (by omega) (by omega) hok (fun σ σ2 X e => ?_) (fun σ σ2 M e => ?_)
      · rw [hf σ X]
        unfold X_table_c66
        rw [show (0 : Int32) = nI 0 from rfl, e, zb2_sm]
      · rw [hg σ M]
        unfold M_table_c56
        rw [h9, ld76 (by omega), ob_some, M.1.2.1 i (by omega) j (by omega)]
        show (M_changes (nI 0) (nI (pl 0 i j)) (dv D 0 i j) z σ).bind _ = _
        rw [e, ob_some]
        rfl
    by_cases hij : i = j
    · refine main _ _ (fun σ X => ?_) (fun σ M => ?_)
      · unfold X_table; rw [g1 σ X.1.1.1, ob_some, if_neg i10, k1 σ X.1.1.1, ob_some, if_neg i10, if_neg z1, if_pos z2, if_pos (by rw [hij])]
      · unfold M_table; rw [g2 σ M.1.1.1, ob_some, if_neg i10, k2 σ M.1.1.1, ob_some, if_neg i10, e3, ob_some, if_pos i10, if_pos (by rw [hij])]
    · have hij2 : ¬ nI i = nI j := fun q => hij ((nI_inj (by omega) (by omega)).mp q)
      have part : ∀ t : Int32, (∀ σ, XI D H σ → X_table (nI i) (nI j) z σ = X_table_c51 (nI i) (nI j) z t σ) → (∀ σ, MI D H σ → M_table (nI i) (nI j) z σ = M_table_c50 (nI i) (nI j) z t (hln D i j) σ) → ∃ r D2 H2, Vd D2 ∧ HV (dn D2) H2 ∧ XS (X_table (nI i) (nI j) z) D H r D2 H2 ∧ MS (M_table (nI i) (nI j) z) D H r D2 H2 := fun t hx hm => by
        by_cases e : t = hln D i j
        · refine main _ _ (fun σ X => ?_) (fun σ M => ?_)
          · rw [hx σ X]; unfold X_table_c51; rw [xhl_ok X.1 (by omega) (by omega), ob_some, if_pos e]
          · rw [hm σ M]; unfold M_table_c50; rw [if_pos e.symm]
        · refine ⟨-100, D, H, V, hv, XS_id fun σ X => ?_, MS_id fun σ M => ?_⟩
          · rw [hx σ X]; unfold X_table_c51; rw [xhl_ok X.1 (by omega) (by omega), ob_some, if_neg e]
          · rw [hm σ M]; unfold M_table_c50; rw [if_neg (Ne.symm e)]
      by_cases hz : z = 0
      · refine part 0 (fun σ X => ?_) (fun σ M => ?_)
        · unfold X_table; rw [g1 σ X.1.1.1, ob_some, if_neg i10, k1 σ X.1.1.1, ob_some, if_neg i10, if_neg z1, if_pos z2, if_neg hij2, if_pos hz]
        · unfold M_table; rw [g2 σ M.1.1.1, ob_some, if_neg i10, k2 σ M.1.1.1, ob_some, if_neg i10, e3, ob_some, if_pos i10, if_neg hij2, mhl_ok M.1 (by omega) (by omega), ob_some, if_pos hz]
      · refine part 1 (fun σ X => ?_) (fun σ M => ?_)
        · unfold X_table; rw [g1 σ X.1.1.1, ob_some, if_neg i10, k1 σ X.1.1.1, ob_some, if_neg i10, if_neg z1, if_pos z2, if_neg hij2, if_neg hz]
        · unfold M_table; rw [g2 σ M.1.1.1, ob_some, if_neg i10, k2 σ M.1.1.1, ob_some, if_neg i10, e3, ob_some, if_pos i10, if_neg hij2, mhl_ok M.1 (by omega) (by omega), ob_some, if_neg hz]
  · have z3 : (9 : Int32) < z := Int32.not_le.mp z2
    refine ⟨-2147483648, D, H, V, hv, XS_id fun σ X => ?_, MS_id fun σ M => ?_⟩
    · unfold X_table; rw [g1 σ X.1.1.1, ob_some, if_neg i10, k1 σ X.1.1.1, ob_some, if_neg i10, if_neg z1, if_neg z2]
    · unfold M_table; rw [g2 σ M.1.1.1, ob_some, if_neg i10, k2 σ M.1.1.1, ob_some, if_neg i10, min_hi z1 z3, ob_some, if_neg (fun q => q rfl)]

/-! PURE: read -/
theorem nvl_lt {m i : Nat} {b : Nat → Nat} (h : fgr m b i = true) : nvl m b i < 100 := by
  have g := fgr_at h
  unfold nvl
  by_cases e : fgr m b (i + 1) = true
  · have g2 := fgr_at e
    rw [if_pos e]; omega
  · rw [if_neg e]; omega
theorem TX_fr {m : Nat} {b : Nat → Nat} {σ σ2 : zSt} (f : ∀ a q, fX a q = false → σ2 a q = σ a q) (X : TX m b σ) : TX m b σ2 := ⟨(f 71 0 rfl).trans X.1, fun i hi => (f 72 i rfl).trans (X.2 i hi)⟩
theorem rd_loop {m T : Nat} {b : Nat → Nat} (B : BV m b) (hT : T ≤ 80) (hok : ∀ j, j < T → (pac m b (Pp m b j)).1 = true) : ∀ (d k : Nat) (D : yD) (H : yH), k + d = T → Vd D → HV (dn D) H → ∃ ans D2 H2, Vd D2 ∧ HV (dn D2) H2 ∧ (∀ (σ : zSt) (n : Nat), XI D H σ → TX m b σ → σ 71 1 = nI (Pp m b k) → σ 71 2 = nI T → d < n → ∃ σ2, X_read_c37 n mI (nI T) (nI k) σ = some (ans, σ2) ∧ XI D2 H2 σ2 ∧ σ2 71 0 = 0 ∧ ∀ a q, fX a q = false → a ≠ 71 → σ2 a q = σ a q) ∧ ∀ (τ : zSt) (n : Nat), MI D H τ → τ 75 34 = nI T → (∀ j, j < T → AE m b τ j (Pp m b j)) → d < n → ∃ τ2, M_read_c96 n (nI k) τ = some (ans, τ2) ∧ MI D2 H2 τ2 ∧ ∀ a q, fM a q = false → τ2 a q = τ a q
  | 0, k, D, H, hk, V, hv => by
    obtain rfl : k = T := by omega
    refine ⟨nI k, D, H, V, hv, fun σ n X hX h1 h2 hn => ?_, fun τ n M h34 hA hn => ?_⟩
    · obtain ⟨n, rfl⟩ : ∃ n2, n = n2 + 1 := ⟨n - 1, by omega⟩
      refine ⟨su σ 71 0 0, ?_, XI_sm (fun a i h => ?_) X, by rw [su_ap, if_pos ⟨rfl, rfl⟩], fun a q _ h => by rw [su_ap, if_neg (fun w => h w.1)]⟩
      · rw [X_read_c37, if_neg mI_neg, h2, if_pos (nI_le (Nat.le_refl _) (by omega))]
        unfold X_read_c74
        rw [zlet_ap]
      · have := fX_iff.mp h
        rw [su_ap, if_neg (by omega)]
    · obtain ⟨n, rfl⟩ : ∃ n2, n = n2 + 1 := ⟨n - 1, by omega⟩
      exact ⟨τ, by rw [M_read_c96, h34, if_pos (nI_le (Nat.le_refl _) (by omega))], M, fun _ _ _ => rfl⟩
  | d + 1, k, D, H, hk, V, hv => by
    have hp := hok k (by omega)
    obtain ⟨g1, g2, g3, g4, g5, g6, g7⟩ := (pac_le (m := m) (b := b) (i := Pp m b k)).2 hp
    have a1 := nvl_lt g4
    have a2 : v2l m b (Pp m b k) < 100 := by
      unfold v2l
      by_cases e : lni m b (Pp m b k) = 2
      · rw [if_pos e]; exact nvl_lt (g6 e).1
      · rw [if_neg e]; omega
    have hL : lno (b (Pp m b k)) = 1 ∨ lno (b (Pp m b k)) = 2 := by
      unfold lni at g5
      rw [if_pos g3] at g5
      exact g5
    obtain ⟨r, D1, H1, h0, V1, hv1, xs, md⟩ := act_ok (a := nvl m b (Pp m b k + 1)) (c := v2l m b (Pp m b k)) (by omega) (by omega) hL D H V hv
    have hX1 : ∀ σ, XI D H σ → TX m b σ → σ 71 1 = nI (Pp m b k) → σ 71 2 = nI T → ∃ σ2, X_doAct σ = some (r, σ2) ∧ XI D1 H1 σ2 ∧ TX m b σ2 ∧ σ2 71 1 = nI (Pp m b (k + 1)) ∧ σ2 71 2 = nI T ∧ ∀ a q, fX a q = false → a ≠ 71 → σ2 a q = σ a q := fun σ X hX h1 h2 => by
      have X1 : XI D H (su σ 71 1 (nI ((pac m b (Pp m b k)).2 + 1))) := XI_sm (fun a i h => by
        have := fX_iff.mp h
        rw [su_ap, if_neg (by omega)]) X
      obtain ⟨σ2, e, X2, f2⟩ := xs _ X1
      refine ⟨σ2, by rw [xda_ok B hX h1 hp]; exact e, X2, TX_fr f2 (TX_su (by decide) hX), ?_, ?_, fun a q h w => ?_⟩
      · rw [f2 71 1 rfl, su_ap, if_pos ⟨rfl, rfl⟩]; rfl
      · rw [f2 71 2 rfl, su_ap, if_neg (by omega)]; exact h2
      · rw [f2 a q h, su_ap, if_neg (fun z => w z.1)]
    have hM1 : ∀ τ, MI D H τ → τ 75 34 = nI T → (∀ j, j < T → AE m b τ j (Pp m b j)) → ∃ τ2, M_isDone (nI k) τ = some (if 0 ≤ r then 1 else 0, τ2) ∧ MI D1 H1 τ2 ∧ τ2 75 34 = nI T ∧ (∀ j, j < T → AE m b τ2 j (Pp m b j)) ∧ ∀ a q, fM a q = false → τ2 a q = τ a q := fun τ M h34 hA => by
      obtain ⟨q1, q2, q3⟩ := hA k (by omega)
      obtain ⟨τ2, e, M2, f2⟩ := md τ k M (by omega) q1 q2 q3
      refine ⟨τ2, e, M2, (f2 75 34 rfl).trans h34, fun j hj => AE_sm (fun a w1 w2 => f2 a j (f_no fun z => ?_)) (hA j hj), f2⟩
      have := fM_iff.mp z
      omega
    by_cases hr : 0 ≤ r
    · obtain ⟨ans, D2, H2, V2, hv2, x2, m2⟩ := rd_loop B hT hok d (k + 1) D1 H1 (by omega) V1 hv1
      refine ⟨ans, D2, H2, V2, hv2, fun σ n X hX h1 h2 hn => ?_, fun τ n M h34 hA hn => ?_⟩
      · obtain ⟨n, rfl⟩ : ∃ n2, n = n2 + 1 := ⟨n - 1, by omega⟩
        obtain ⟨σ1, e1, X1, hX1', k1, k2, f1⟩ := hX1 σ X hX h1 h2
        obtain ⟨σ2, e2, X2, w2, f2⟩ := x2 σ1 n X1 hX1' k1 k2 (by omega)
        refine ⟨σ2, ?_, X2, w2, fun a q h w => (f2 a q h w).trans (f1 a q h w)⟩
        rw [X_read_c37, if_neg mI_neg, h2, if_neg (nI_ge (by omega) (by omega)), e1, zb2_sm, if_pos hr, nI_1]
        exact e2
      · obtain ⟨n, rfl⟩ : ∃ n2, n = n2 + 1 := ⟨n - 1, by omega⟩
        obtain ⟨τ1, e1, M1, k1, k2, f1⟩ := hM1 τ M h34 hA
        obtain ⟨τ2, e2, M2, f2⟩ := m2 τ1 n M1 k1 k2 (by omega)
        refine ⟨τ2, ?_, M2, fun a q h => (f2 a q h).trans (f1 a q h)⟩
        rw [M_read_c96, h34, if_neg (nI_ge (by omega) (by omega)), e1, zb2_sm, if_pos hr, if_pos i10, nI_1]
        exact e2
    · refine ⟨(-200) - nI k, D1, H1, V1, hv1, fun σ n X hX h1 h2 hn => ?_, fun τ n M h34 hA hn => ?_⟩
      · obtain ⟨n, rfl⟩ : ∃ n2, n = n2 + 1 := ⟨n - 1, by omega⟩
        obtain ⟨σ1, e1, X1, hX1', k1, k2, f1⟩ := hX1 σ X hX h1 h2
        refine ⟨su σ1 71 0 0, ?_, XI_sm (fun a i h => ?_) X1, by rw [su_ap, if_pos ⟨rfl, rfl⟩], fun a q h w => by rw [su_ap, if_neg (fun z => w z.1)]; exact f1 a q h w⟩
        · rw [X_read_c37, if_neg mI_neg, h2, if_neg (nI_ge (by omega) (by omega)), e1, zb2_sm, if_neg hr]
          unfold X_read_c74
          rw [zlet_ap]
        · have := fX_iff.mp h
          rw [su_ap, if_neg (by omega)]
      · obtain ⟨n, rfl⟩ : ∃ n2, n = n2 + 1 := ⟨n - 1, by omega⟩
        obtain ⟨τ1, e1, M1, k1, k2, f1⟩ := hM1 τ M h34 hA
        refine ⟨τ1, ?_, M1, f1⟩
        rw [M_read_c96, h34, if_neg (nI_ge (by omega) (by omega)), e1, zb2_sm, if_neg hr, if_neg (fun q => q rfl)]
theorem psx_b {m : Nat} {b : Nat → Nat} : ∀ (d i k : Nat), 3 * k ≤ i → (psx m b d i k).1 = true → 3 * (psx m b d i k).2.2 ≤ (psx m b d i k).2.1 + 1 ∧ (psx m b d i k).2.1 ≤ m
  | 0, i, k, _, h => by cases h
  | d + 1, i, k, hk, h => by
    have hp := pac_le (m := m) (b := b) (i := i)
    unfold psx at h ⊢
    by_cases h1 : (pac m b i).1 = true
    · have g := hp.2 h1
      have hf : ¬ (pac m b i).1 = false := fun q => by rw [h1] at q; cases q
      rw [if_neg hf] at h ⊢
      by_cases h2 : m ≤ (pac m b i).2
      · rw [if_pos h2] at h ⊢
        exact ⟨(by omega : 3 * (k + 1) ≤ (pac m b i).2 + 1), g.2.1⟩
      · rw [if_neg h2] at h ⊢
        by_cases h3 : b (pac m b i).2 = 59
        · rw [if_pos h3] at h ⊢
          exact psx_b d ((pac m b i).2 + 1) (k + 1) (by omega) h
        · rw [if_neg h3] at h; cases h
    · rw [if_pos (bt' h1)] at h; cases h
theorem psx_e {m : Nat} {b : Nat → Nat} : ∀ (d i k : Nat), i ≤ m → (psx m b d i k).2.1 ≤ m + 6
  | 0, i, k, hi => by show i ≤ m + 6; omega
  | d + 1, i, k, hi => by
    have hp := pac_le (m := m) (b := b) (i := i)
    unfold psx
    by_cases h1 : (pac m b i).1 = true
    · have g := hp.2 h1
      rw [if_neg (show ¬ (pac m b i).1 = false from fun q => by rw [h1] at q; cases q)]
      by_cases h2 : m ≤ (pac m b i).2
      · rw [if_pos h2]; show (pac m b i).2 ≤ m + 6; omega
      · rw [if_neg h2]
        by_cases h3 : b (pac m b i).2 = 59
        · rw [if_pos h3]; exact psx_e d _ _ (by omega)
        · rw [if_neg h3]; show (pac m b i).2 ≤ m + 6; omega
    · rw [if_pos (bt' h1)]; show (pac m b i).2 ≤ m + 6; omega
theorem TF_0 (σ : zSt) : su (su σ 71 1 0) 71 2 0 = TF σ 0 0 := by
  funext a q
  unfold TF
  simp only [su_ap]
  by_cases e : a = 71 ∧ q = 2
  · rw [if_pos e, if_neg (by omega), if_pos e]; rfl
  · rw [if_neg e, if_neg e]
    rfl
theorem q_read : Q2 X_read M_read := by
  rintro σ ⟨D, I⟩
  obtain ⟨m, b, B, X, M⟩ := Tp_b I.2.2.2.2.2.2.1
  obtain ⟨H, hv, hXI, hMI⟩ := In_sides I
  have hB := B.1
  have e1 := xff_loop B X (m + 1) zF 0 0 0 (by omega) (zF_big (by omega)) (Nat.zero_le _) (Nat.zero_le _)
  have eF : Tape_findFault σ = some (if (psx m b (m + 1) 0 0).1 = true then mI else nI (psx m b (m + 1) 0 0).2.1, TF σ (psx m b (m + 1) 0 0).2.1 (psx m b (m + 1) 0 0).2.2) := by
    unfold Tape_findFault
    rw [zlet_ap, zlet_ap, TF_0]
    exact e1
  have hTF : ∀ i k a q, a ≠ 71 → TF σ i k a q = σ a q := fun i k a q h => by
    unfold TF
    rw [su_ap, if_neg (fun w => h w.1), su_ap, if_neg (fun w => h w.1)]
  -- the reference parses at any state that holds its tape
  have hMP : ∀ τ, TM m b τ → ∃ τ2, M_read τ = M_read_c71 (b01 (!(psx m b (m + 1) 0 0).1)) τ2 ∧ τ2 75 29 = nI (psx m b (m + 1) 0 0).2.1 ∧ ((psx m b (m + 1) 0 0).1 = true → τ2 75 34 = nI (psx m b (m + 1) 0 0).2.2 ∧ ∀ j, j < (psx m b (m + 1) 0 0).2.2 → AE m b τ2 j (Pp m b j)) ∧ FRm τ τ2 := fun τ hτ => by
    obtain ⟨τ2, e, a1, a2, a3⟩ := mrl_loop B (m + 1) zF 0 0 (su (su τ 75 29 0) 75 34 0) (by omega) (zF_big (by omega)) (Nat.zero_le _) (Nat.zero_le _) rfl (TM_su (by omega) (by decide) (TM_su (by omega) (by decide) hτ)) (by rw [su_ap, if_neg (by omega), su_ap, if_pos ⟨rfl, rfl⟩]; rfl) (by rw [su_ap, if_pos ⟨rfl, rfl⟩]; rfl) (fun j hj => absurd hj (Nat.not_lt_zero _))
    refine ⟨τ2, ?_, a1, a2, FRm_t (fun a q w1 w2 => by rw [su_ap, if_neg (by omega), su_ap, if_neg (by omega)]) a3⟩
    unfold M_read
    rw [zlet_ap, zlet_ap]
    exact e
  generalize hps : psx m b (m + 1) 0 0 = ps at *
  have hpe : ps.2.1 ≤ m + 6 := by rw [← hps]; exact psx_e _ _ _ (Nat.zero_le _)
  by_cases hok : ps.1 = true
  · have hT : 3 * ps.2.2 ≤ ps.2.1 + 1 ∧ ps.2.1 ≤ m := by
      rw [← hps]
      exact psx_b (m + 1) 0 0 (Nat.le_refl _) (by rw [hps]; exact hok)
    have hacts : ∀ j, j < ps.2.2 → (pac m b (Pp m b j)).1 = true := by
      have := (psx_ok (m := m) (b := b) (m + 1) 0 0 rfl (by rw [hps]; exact hok) (fun j hj => absurd hj (Nat.not_lt_zero _))).1
      rw [hps] at this
      exact this
    obtain ⟨ans, D2, H2, V2, hv2, x2, m2⟩ := rd_loop B (by omega : ps.2.2 ≤ 80) hacts ps.2.2 0 D H (Nat.zero_add _) I.1 hv
    have X0 : XI D H (su (TF σ ps.2.1 ps.2.2) 71 1 0) := XI_sm (fun a i h => by
      have := fX_iff.mp h
      rw [su_ap, if_neg (by omega), hTF _ _ _ _ (by omega)]) hXI
    obtain ⟨σ1, e2, X1, w1, f1⟩ := x2 (su (TF σ ps.2.1 ps.2.2) 71 1 0) zF X0 (TX_su (by decide) (TF_X X)) (by rw [su_ap, if_pos ⟨rfl, rfl⟩]; rfl) (by rw [su_ap, if_neg (by omega), TF_r2]) (zF_big (by omega))
    have f1' : ∀ a q, fX a q = false → a ≠ 71 → σ1 a q = σ a q := fun a q h w => by rw [f1 a q h w, su_ap, if_neg (fun z => w z.1), hTF _ _ _ _ w]
    have M1 : TM m b σ1 := ⟨(f1' 75 28 rfl (by decide)).trans M.1, fun i hi => (f1' 91 i rfl (by decide)).trans (M.2 i hi)⟩
    obtain ⟨τ2, e3, a1, a2, a3⟩ := hMP σ1 M1
    obtain ⟨a4, a5⟩ := a2 hok
    have fN : ∀ a q, fM a q = true → fX a q = false ∧ a ≠ 71 ∧ ¬ (a = 75 ∧ (q = 28 ∨ q = 29 ∨ q = 30 ∨ q = 34)) ∧ ¬ (92 ≤ a ∧ a ≤ 94) := fun a q h => by
      have := fM_iff.mp h
      exact ⟨fM_X h, by omega, by omega, by omega⟩
    have MI2 : MI D H (su (su τ2 75 30 0) 75 28 0) := MI_sm (fun a q h => by
      obtain ⟨n1, n2, n3, n4⟩ := fN a q h
      rw [su_ap, if_neg (by omega), su_ap, if_neg (by omega), a3 a q (by omega) n4, f1' a q n1 n2]) hMI
    obtain ⟨τ3, e4, M3, f3⟩ := m2 (su (su τ2 75 30 0) 75 28 0) zF MI2 (by rw [su_ap, if_neg (by omega), su_ap, if_neg (by omega)]; exact a4) (fun j hj => AE_sm (fun a q1 q2 => by rw [su_ap, if_neg (by omega), su_ap, if_neg (by omega)]) (a5 j hj)) (zF_big (by omega))
    have fZ : ∀ a q, fM a q = false → ¬ (a = 75 ∧ (q = 28 ∨ q = 29 ∨ q = 30 ∨ q = 34)) → ¬ (92 ≤ a ∧ a ≤ 94) → τ3 a q = σ1 a q := fun a q h n3 n4 => by
      rw [f3 a q h, su_ap, if_neg (by omega), su_ap, if_neg (by omega), a3 a q (by omega) n4]
    refine ⟨ans, σ1, τ3, ?_, ?_, D2, In_tp I V2 hv2 (XI_sm (fun a q h => ?_) X1) M3 (fun a q h => ?_) (Tp_of (m := 0) (b := b) ⟨by omega, fun i hi => absurd hi (Nat.not_lt_zero _)⟩ ⟨?_, fun i hi => absurd hi (Nat.not_lt_zero _)⟩ ⟨?_, fun i hi => absurd hi (Nat.not_lt_zero _)⟩)⟩
    · unfold X_read X_read_c26
      rw [eF, zb2_sm, if_pos hok, if_neg mI_neg, TF_r2, zlet_ap]
      exact e2
    · rw [e3, hok]
      unfold M_read_c71
      rw [show b01 (!true) = 0 from rfl, k75 0 rfl, cond_true, zlet_ap, zlet_ap, show su (su τ2 75 30 0) 75 28 0 75 30 = 0 by rw [su_ap, if_neg (by omega), su_ap, if_pos ⟨rfl, rfl⟩], if_pos rfl]
      exact e4
    · have := fX_iff.mp h
      exact fZ a q (fX_M h) (by omega) (by omega)
    · have := fQ_iff.mp h
      have nX : fX a q = false := f_no fun z => by have := fX_iff.mp z; omega
      have nM : fM a q = false := f_no fun z => by have := fM_iff.mp z; omega
      rw [fZ a q nM (by omega) (by omega), f1' a q nX (by omega)]
    · rw [fZ 71 0 rfl (by omega) (by omega), w1]; rfl
    · rw [f3 75 28 rfl, su_ap, if_pos ⟨rfl, rfl⟩]; rfl
  · have e2 : X_read σ = some ((-100) - nI ps.2.1, su (su (TF σ ps.2.1 ps.2.2) 71 1 0) 71 0 0) := by
      unfold X_read X_read_c26
      rw [eF, zb2_sm, if_neg hok, if_pos (nI_pos' (by omega)), zlet_ap]
      show X_read_c37 (4095 + 1) _ _ _ _ = _
      rw [X_read_c37, if_pos (nI_pos' (by omega))]
      unfold X_read_c74
      rw [zlet_ap]
    have f1 : ∀ a q, a ≠ 71 → su (su (TF σ ps.2.1 ps.2.2) 71 1 0) 71 0 0 a q = σ a q := fun a q w => by rw [su_ap, if_neg (fun z => w z.1), su_ap, if_neg (fun z => w z.1), hTF _ _ _ _ w]
    obtain ⟨τ2, e3, a1, _, a3⟩ := hMP (su (su (TF σ ps.2.1 ps.2.2) 71 1 0) 71 0 0) ⟨(f1 75 28 (by decide)).trans M.1, fun i hi => (f1 91 i (by decide)).trans (M.2 i hi)⟩
    have fZ : ∀ a q, a ≠ 71 → ¬ (a = 75 ∧ (q = 28 ∨ q = 29 ∨ q = 30 ∨ q = 34)) → ¬ (92 ≤ a ∧ a ≤ 94) → su (su τ2 75 30 1) 75 28 0 a q = σ a q := fun a q n2 n3 n4 => by
      rw [su_ap, if_neg (by omega), su_ap, if_neg (by omega), a3 a q (by omega) n4, f1 a q n2]
    refine ⟨(-100) - nI ps.2.1, _, su (su τ2 75 30 1) 75 28 0, e2, ?_, D, In_tp I I.1 hv (XI_sm (fun a q h => ?_) hXI) (MI_sm (fun a q h => ?_) hMI) (fun a q h => ?_) (Tp_of (m := 0) (b := b) ⟨by omega, fun i hi => absurd hi (Nat.not_lt_zero _)⟩ ⟨?_, fun i hi => absurd hi (Nat.not_lt_zero _)⟩ ⟨?_, fun i hi => absurd hi (Nat.not_lt_zero _)⟩)⟩
    · rw [e3, bt' hok]
      unfold M_read_c71
      rw [show b01 (!false) = 1 from rfl, k75 1 rfl, cond_true, zlet_ap, zlet_ap, show su (su τ2 75 30 1) 75 28 0 75 30 = 1 by rw [su_ap, if_neg (by omega), su_ap, if_pos ⟨rfl, rfl⟩], if_neg i10, show su (su τ2 75 30 1) 75 28 0 75 29 = nI ps.2.1 by rw [su_ap, if_neg (by omega), su_ap, if_neg (by omega)]; exact a1]
    · have := fX_iff.mp h
      exact fZ a q (by omega) (by omega) (by omega)
    · have := fM_iff.mp h
      exact fZ a q (by omega) (by omega) (by omega)
    · have := fQ_iff.mp h
      exact fZ a q (by omega) (by omega) (by omega)
    · rw [su_ap, if_neg (by omega), su_ap, if_neg (by omega), a3 71 0 (by omega) (by omega), su_ap, if_pos ⟨rfl, rfl⟩]; rfl
    · rw [su_ap, if_pos ⟨rfl, rfl⟩]; rfl

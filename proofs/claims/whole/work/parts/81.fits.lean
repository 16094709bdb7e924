/-! PURE: fits -/
def gsf (pl : Nat → Int32) (nb : Nat → Nat) (al r k : Nat) : Nat → Nat → Nat → Bool
  | 0, _, _ => true
  | d + 1, i, s => if pl i = nI (xnx nb al r k s (decide (i = 1))) then gsf pl nb al r k d (i + 1) (xnx nb al r k s (decide (i = 1))) else false
def gsa (pl : Nat → Int32) (nb : Nat → Nat) (al m r k : Nat) : Bool := if 0 ≤ pl 0 ∧ pl 0 ≤ nI al then gsf pl nb al r k (m - 1) 1 (pl 0).toNatClampNeg else false
def b01 (b : Bool) : Int32 := if b = true then 1 else 0
theorem xgs_loop {σ : zSt} {nb : Nat → Nat} {al r k l m : Nat} {pl : Nat → Int32} (F : Fs σ nb al r k) (G : Gr nb al) (hr : r ≤ 4) (hk : k < 100) (hl : l < 3) (hm : m ≤ 40) (hp : ∀ i, i < m → σ (66 + 2 * l) i = pl i) : ∀ (d t i s : Nat), i + d = m → 1 ≤ i → d < t → sub s al → Fcg_goesAs_c21 σ t (66 + 2 * l) (nI m) (nI s) (nI i) = some (b01 (gsf pl nb al r k d i s))
  | d, 0, i, s, _, _, ht, _ => absurd ht (Nat.not_lt_zero _)
  | 0, t + 1, i, s, hi, _, _, _ => by
    rw [Fcg_goesAs_c21, if_pos (nI_le (by omega) (by omega))]
    rfl
  | d + 1, t + 1, i, s, hi, hi1, ht, hs => by
    obtain ⟨_, k1, k2, k3, k4⟩ := rk_l l hl
    have step : ∀ v : Int32, v = nI (decide (i = 1)).toNat → Fcg_goesAs_c40 σ (Fcg_goesAs_c21 σ t) (66 + 2 * l) (nI m) (nI i) v (nI s) = some (b01 (gsf pl nb al r k (d + 1) i s)) := fun v hv => by
      have e1 := fnx_ok F G hr hk hs (decide (i = 1))
      unfold Fcg_goesAs_c40 gsf
      rw [hv, e1, ob_some, zld_at k3 k4 (by omega : i < 40) (by decide), ob_some, hp i (by omega)]
      by_cases e : pl i = nI (xnx nb al r k s (decide (i = 1)))
      · rw [if_pos e, if_pos e, nI_1]
        exact xgs_loop F G hr hk hl hm hp d t (i + 1) _ (by omega) (by omega) (by omega) (xnx_in G hs)
      · rw [if_neg e, if_neg e]; rfl
    rw [Fcg_goesAs_c21, if_neg (nI_ge (by omega) (by omega))]
    by_cases e : i = 1
    · subst e
      rw [if_neg (show ¬ ¬ nI 1 = 1 from fun q => q rfl)]
      exact step 1 rfl
    · rw [if_pos (show ¬ nI i = 1 from fun q => e ((nI_inj (b := 1) (by omega) (by decide)).mp q))]
      refine step 0 ?_
      rw [decide_eq_false e]
      rfl
theorem xgs_ok {σ : zSt} {nb : Nat → Nat} {n r k l m : Nat} {pl : Nat → Int32} (F : Fs σ nb (alm n) r k) (G : Gr nb (alm n)) (hr : r ≤ 4) (hk : k < 100) (hl : l < 3) (hm1 : 1 ≤ m) (hm : m ≤ 40) (hp : ∀ i, i < m → σ (66 + 2 * l) i = pl i) : Fcg_goesAs (66 + 2 * l) (nI m) σ = some (b01 (gsa pl nb (alm n) m r k)) := by
  obtain ⟨_, k1, k2, k3, k4⟩ := rk_l l hl
  have hal := G.1
  unfold Fcg_goesAs gsa
  rw [show (0 : Int32) = nI 0 from rfl, zld_at k3 k4 (by decide : 0 < 40) (by decide), ob_some, hp 0 (by omega), F.1]
  rcases rng (pl 0) 0 (alm n) (by decide) (by omega) with h | ⟨h, h2, h3⟩ | ⟨s, _, h2, e⟩
  · rw [if_pos h, if_neg (fun q => absurd h (Int32.not_lt.mpr q.1))]; rfl
  · rw [if_neg h, if_neg h3, if_neg (fun q => h3 q.2)]; rfl
  · rw [e, if_neg (show ¬ nI s < nI 0 from nI_pos (by omega)), if_pos (nI_le h2 (by omega)), if_pos ⟨nI_pos' (by omega), nI_le h2 (by omega)⟩, nI_clamp (by omega)]
    exact xgs_loop F G hr hk hl hm hp (m - 1) zF 1 s (by omega) (Nat.le_refl _) (zF_big (by omega)) (sub_alm h2)
theorem mis_loop {σ : zSt} {nb : Nat → Nat} {al r k l m : Nat} {pl : Nat → Int32} (h14 : σ 75 14 = nI al) (h83 : ∀ i, i < 9 → σ 83 i = nI (nb i)) (G : Gr nb al) (hr : r ≤ 4) (hk : k < 100) (hl : l < 3) (hm : m ≤ 40) (hp : ∀ i, i < m → σ 90 (40 * l + i) = pl i) : ∀ (d t i s : Nat), i + d = m → 1 ≤ i → d < t → sub s al → M_isSo_c25 σ t (nI l) (nI m) (nI r) (nI k) (nI s) (nI i) = some (b01 (gsf pl nb al r k d i s))
  | d, 0, i, s, _, _, ht, _ => absurd ht (Nat.not_lt_zero _)
  | 0, t + 1, i, s, hi, _, _, _ => by
    rw [M_isSo_c25, if_pos (nI_le (by omega) (by omega))]
    rfl
  | d + 1, t + 1, i, s, hi, hi1, ht, hs => by
    have e1 := mrd_ok (σ := σ) (i := i - 1) h14 h83 G hs hr hk (by omega)
    have e2 : decide (i - 1 = 0) = decide (i = 1) := by
      by_cases e : i = 1
      · rw [decide_eq_true e, decide_eq_true (by omega)]
      · rw [decide_eq_false e, decide_eq_false (by omega)]
    rw [e2] at e1
    rw [M_isSo_c25, if_neg (nI_ge (by omega) (by omega)), show nI i - 1 = nI (i - 1) from pk_sub (b := 1) hi1, e1, ob_some, h40, ld90 (by omega), ob_some, hp i (by omega), gsf]
    by_cases e : pl i = nI (xnx nb al r k s (decide (i = 1)))
    · rw [if_pos e.symm, if_pos e, nI_1]
      exact mis_loop h14 h83 G hr hk hl hm hp d t (i + 1) _ (by omega) (by omega) (by omega) (xnx_in G hs)
    · rw [if_neg (Ne.symm e), if_neg e]; rfl
theorem mis_ok {σ : zSt} {D : yD} {nb : Nat → Nat} {r k l m : Nat} {pl : Nat → Int32} (I : In D σ) (h14 : σ 75 14 = nI (alm (dn D))) (h83 : ∀ i, i < 9 → σ 83 i = nI (nb i)) (G : Gr nb (alm (dn D))) (hr : r ≤ 4) (hk : k < 100) (hl : l < 3) (hm1 : 1 ≤ m) (hm : m ≤ 40) (hp : ∀ i, i < m → σ 90 (40 * l + i) = pl i) : M_isSo (nI l) (nI m) (nI r) (nI k) σ = some (b01 (gsa pl nb (alm (dn D)) m r k)) := by
  have hal := G.1
  have hn := I.1.1.2
  have e0 : (40 : Int32) * nI l = nI (40 * l + 0) := by rw [z_40, pk_mul, Nat.add_zero]
  unfold M_isSo gsa
  rw [e0, ld90 (by omega), ob_some, hp 0 (by omega)]
  have mw := mwh_ok I.2.2.1.1.1 hn
  rcases rng (pl 0) 0 (alm (dn D)) (by decide) (by omega) with h | ⟨h, h2, h3⟩ | ⟨s, _, h2, e⟩
  · have hS : M_isSet (pl 0) σ = some 0 := by
      unfold M_isSet
      rw [mw, ob_some, show M_in (pl 0) 0 (nI (alm (dn D))) σ = some 0 from min_lo h, ob_some]
      rfl
    rw [hS, ob_some, if_neg (fun q => q rfl), if_neg (fun q => absurd h (Int32.not_lt.mpr q.1))]
    rfl
  · have hS : M_isSet (pl 0) σ = some 0 := by
      unfold M_isSet
      rw [mw, ob_some, show M_in (pl 0) 0 (nI (alm (dn D))) σ = some 0 from min_hi h h2, ob_some]
      rfl
    rw [hS, ob_some, if_neg (fun q => q rfl), if_neg (fun q => h3 q.2)]
    rfl
  · have hS : M_isSet (nI s) σ = some 1 := by
      unfold M_isSet
      rw [mw, ob_some, show M_in (nI s) 0 (nI (alm (dn D))) σ = some 1 from min_ok (Nat.zero_le _) h2 (by omega), ob_some]
      rfl
    rw [e, hS, ob_some, if_pos i10, if_pos ⟨nI_pos' (by omega), nI_le h2 (by omega)⟩, nI_clamp (by omega)]
    exact mis_loop h14 h83 G hr hk hl hm hp (m - 1) zF 1 s (by omega) (Nat.le_refl _) (zF_big (by omega)) (sub_alm h2)
theorem Fs_su1 {σ : zSt} {nb : Nat → Nat} {al r r2 k : Nat} (F : Fs σ nb al r k) : Fs (su σ 43 1 (nI r2)) nb al r2 k := by
  obtain ⟨h1, h2, h3, h4, h5⟩ := F
  refine ⟨?_, ?_, ?_, fun i hi => ?_, fun x hx => ?_⟩
  · rw [su_ap, if_neg (by omega)]; exact h1
  · rw [su_ap, if_pos ⟨rfl, rfl⟩]
  · rw [su_ap, if_neg (by omega)]; exact h3
  · rw [su_ap, if_neg (by omega)]; exact h4 i hi
  · rw [su_ap, if_neg (by omega)]; exact h5 x hx
theorem Fs_su2 {σ : zSt} {nb : Nat → Nat} {al r k k2 : Nat} (F : Fs σ nb al r k) : Fs (su σ 43 2 (nI k2)) nb al r k2 := by
  obtain ⟨h1, h2, h3, h4, h5⟩ := F
  refine ⟨?_, ?_, ?_, fun i hi => ?_, fun x hx => ?_⟩
  · rw [su_ap, if_neg (by omega)]; exact h1
  · rw [su_ap, if_neg (by omega)]; exact h2
  · rw [su_ap, if_pos ⟨rfl, rfl⟩]
  · rw [su_ap, if_neg (by omega)]; exact h4 i hi
  · rw [su_ap, if_neg (by omega)]; exact h5 x hx
def frf (pl : Nat → Int32) (nb : Nat → Nat) (al m k r : Nat) : Nat := if gsa pl nb al m r k = true then 2 ^ r else 0
theorem b01_0 (b : Bool) : b01 b = 0 ↔ ¬ b = true := by cases b <;> simp [b01]
theorem xfr_loop {nb : Nat → Nat} {n k l m : Nat} {pl : Nat → Int32} (G : Gr nb (alm n)) (hk : k < 100) (hl : l < 3) (hm1 : 1 ≤ m) (hm : m ≤ 40) : ∀ (d t i r0 : Nat) (σ : zSt), i + d = 5 → d < t → Fs σ nb (alm n) r0 k → (∀ i, i < m → σ (66 + 2 * l) i = pl i) → ∃ σ2, X_fittingRules_c5 t (65 + 2 * l) (nI m) (nI (orf (frf pl nb (alm n) m k) i)) (nI i) σ = some (nI (orf (frf pl nb (alm n) m k) 5), σ2) ∧ ∀ a q, a ≠ 43 → σ2 a q = σ a q
  | d, 0, i, r0, σ, _, ht, _, _ => absurd ht (Nat.not_lt_zero _)
  | 0, t + 1, i, r0, σ, hi, _, _, _ => by
    obtain rfl : i = 5 := by omega
    exact ⟨σ, by rw [X_fittingRules_c5, if_pos (show (5 : Int32) ≤ nI 5 by decide)], fun _ _ _ => rfl⟩
  | d + 1, t + 1, i, r0, σ, hi, ht, F, hp => by
    obtain ⟨_, k1, k2, k3, k4⟩ := rk_l l hl
    have e66 : ∀ a q, a ≠ 43 → su σ 43 1 (nI i) a q = σ a q := fun a q w => by rw [su_ap, if_neg (fun z => w z.1)]
    have hp2 : ∀ j, j < m → su σ 43 1 (nI i) (66 + 2 * l) j = pl j := fun j hj => (e66 _ j (by omega)).trans (hp j hj)
    have e1 := xgs_ok (l := l) (pl := pl) (Fs_su1 (r2 := i) F) G (by omega) hk hl hm1 hm hp2
    rw [X_fittingRules_c5, if_neg (show ¬ (5 : Int32) ≤ nI i from nI_ge (b := 5) (by omega) (by decide)), zlet_ap, k1, k2, cond_true, e1, ob_some]
    by_cases e : gsa pl nb (alm n) m i k = true
    · rw [if_neg (fun q => ((b01_0 _).mp q) e), sh1 (by omega), pb_or, zlet_ap, nI_1]
      obtain ⟨σ2, a1, a2⟩ := xfr_loop (pl := pl) G hk hl hm1 hm d t (i + 1) i _ (by omega) (by omega) (Fs_su1 (r2 := i) F) hp2
      refine ⟨σ2, ?_, fun a q w => (a2 a q w).trans (e66 a q w)⟩
      rw [orf_s, show frf pl nb (alm n) m k i = 2 ^ i from if_pos e] at a1
      exact a1
    · rw [if_pos ((b01_0 _).mpr e), nI_1]
      obtain ⟨σ2, a1, a2⟩ := xfr_loop (pl := pl) G hk hl hm1 hm d t (i + 1) i _ (by omega) (by omega) (Fs_su1 (r2 := i) F) hp2
      refine ⟨σ2, ?_, fun a q w => (a2 a q w).trans (e66 a q w)⟩
      rw [orf_s, show frf pl nb (alm n) m k i = 0 from if_neg e, Nat.or_zero] at a1
      exact a1
def lkf (pl : Nat → Int32) (nb : Nat → Nat) (al m : Nat) : Nat → Nat → Int32
  | 0, _ => -2
  | d + 1, k => if gsa pl nb al m 4 k = true then nI k else lkf pl nb al m d (k + 1)
theorem xlk_loop {nb : Nat → Nat} {n l m : Nat} {pl : Nat → Int32} (G : Gr nb (alm n)) (hl : l < 3) (hm1 : 1 ≤ m) (hm : m ≤ 40) : ∀ (d t k k0 : Nat) (σ : zSt), k + d = 5 → d < t → Fs σ nb (alm n) 4 k0 → (∀ i, i < m → σ (66 + 2 * l) i = pl i) → ∃ σ2, X_leastFittingK_c10 t (65 + 2 * l) (nI m) (nI k) σ = some (lkf pl nb (alm n) m d k, σ2) ∧ ∀ a q, a ≠ 43 → σ2 a q = σ a q
  | d, 0, k, k0, σ, _, ht, _, _ => absurd ht (Nat.not_lt_zero _)
  | 0, t + 1, k, k0, σ, hi, _, _, _ => by
    obtain rfl : k = 5 := by omega
    exact ⟨σ, by rw [X_leastFittingK_c10, if_pos (show (4 : Int32) < nI 5 by decide)]; rfl, fun _ _ _ => rfl⟩
  | d + 1, t + 1, k, k0, σ, hi, ht, F, hp => by
    obtain ⟨_, k1, k2, k3, k4⟩ := rk_l l hl
    have e66 : ∀ a q, a ≠ 43 → su σ 43 2 (nI k) a q = σ a q := fun a q w => by rw [su_ap, if_neg (fun z => w z.1)]
    have hp2 : ∀ j, j < m → su σ 43 2 (nI k) (66 + 2 * l) j = pl j := fun j hj => (e66 _ j (by omega)).trans (hp j hj)
    have e1 := xgs_ok (l := l) (pl := pl) (Fs_su2 (k2 := k) F) G (by decide) (by omega) hl hm1 hm hp2
    rw [X_leastFittingK_c10, if_neg (show ¬ (4 : Int32) < nI k from nI_nlt (a := 4) (by omega) (by decide)), zlet_ap, k1, k2, cond_true, e1, ob_some, lkf]
    by_cases e : gsa pl nb (alm n) m 4 k = true
    · rw [if_neg (fun q => ((b01_0 _).mp q) e), if_pos e]
      exact ⟨_, rfl, e66⟩
    · rw [if_pos ((b01_0 _).mpr e), if_neg e, nI_1]
      obtain ⟨σ2, a1, a2⟩ := xlk_loop (pl := pl) G hl hm1 hm d t (k + 1) k _ (by omega) (by omega) (Fs_su2 (k2 := k) F) hp2
      exact ⟨σ2, a1, fun a q w => (a2 a q w).trans (e66 a q w)⟩
theorem mfr_loop {σ : zSt} {D : yD} {nb : Nat → Nat} {l m : Nat} {pl : Nat → Int32} (I : In D σ) (h14 : σ 75 14 = nI (alm (dn D))) (h83 : ∀ i, i < 9 → σ 83 i = nI (nb i)) (G : Gr nb (alm (dn D))) (hl : l < 3) (hm1 : 1 ≤ m) (hm : m ≤ 40) (hp : ∀ i, i < m → σ 90 (40 * l + i) = pl i) : ∀ (d t i : Nat), i + d = 5 → d < t → M_fits_c67 t (nI l) (nI m) (nI (orf (frf pl nb (alm (dn D)) m (dk D)) i)) (nI i) σ = some (nI (orf (frf pl nb (alm (dn D)) m (dk D)) 5), σ)
  | d, 0, i, _, ht => absurd ht (Nat.not_lt_zero _)
  | 0, t + 1, i, hi, _ => by
    obtain rfl : i = 5 := by omega
    rw [M_fits_c67, if_pos (show (5 : Int32) ≤ nI 5 by decide)]
  | d + 1, t + 1, i, hi, ht => by
    have e1 := mis_ok (r := i) (k := dk D) I h14 h83 G (by omega) (dk_lt I.1) hl hm1 hm hp
    have ih := mfr_loop I h14 h83 G hl hm1 hm hp d t (i + 1) (by omega) (by omega)
    rw [M_fits_c67, if_neg (show ¬ (5 : Int32) ≤ nI i from nI_ge (b := 5) (by omega) (by decide)), I.2.2.1.1.2.2.1, e1, ob_some]
    rw [orf_s] at ih
    by_cases e : gsa pl nb (alm (dn D)) m i (dk D) = true
    · rw [if_neg (fun q => ((b01_0 _).mp q) e), sh1 (by omega), pb_or, zlet_ap, nI_1]
      rw [show frf pl nb (alm (dn D)) m (dk D) i = 2 ^ i from if_pos e] at ih
      exact ih
    · rw [if_pos ((b01_0 _).mpr e), nI_1, show (0 : Int32) = nI 0 from rfl, pb_or]
      rw [show frf pl nb (alm (dn D)) m (dk D) i = 0 from if_neg e] at ih
      exact ih
theorem mlk_loop {σ : zSt} {D : yD} {nb : Nat → Nat} {l m : Nat} {pl : Nat → Int32} (I : In D σ) (h14 : σ 75 14 = nI (alm (dn D))) (h83 : ∀ i, i < 9 → σ 83 i = nI (nb i)) (G : Gr nb (alm (dn D))) (hl : l < 3) (hm1 : 1 ≤ m) (hm : m ≤ 40) (hp : ∀ i, i < m → σ 90 (40 * l + i) = pl i) : ∀ (d t k : Nat), k + d = 5 → d < t → M_fits_c113 t (nI l) (nI m) (nI k) σ = some (lkf pl nb (alm (dn D)) m d k, σ)
  | d, 0, k, _, ht => absurd ht (Nat.not_lt_zero _)
  | 0, t + 1, k, hi, _ => by
    obtain rfl : k = 5 := by omega
    rw [M_fits_c113, if_pos (show (4 : Int32) < nI 5 by decide)]
    rfl
  | d + 1, t + 1, k, hi, ht => by
    have e1 := mis_ok (r := 4) (k := k) I h14 h83 G (by decide) (by omega) hl hm1 hm hp
    rw [M_fits_c113, if_neg (show ¬ (4 : Int32) < nI k from nI_nlt (a := 4) (by omega) (by decide)), show (4 : Int32) = nI 4 from rfl, e1, ob_some, lkf]
    by_cases e : gsa pl nb (alm (dn D)) m 4 k = true
    · rw [if_neg (fun q => ((b01_0 _).mp q) e), if_pos e]
    · rw [if_pos ((b01_0 _).mpr e), if_neg e, nI_1]
      exact mlk_loop I h14 h83 G hl hm1 hm hp d t (k + 1) (by omega) (by omega)
theorem q_fits (x y z : Int32) : Q2 (X_fits x y z) (M_fits x y z) := by
  rintro σ ⟨D, I⟩
  have V := I.1
  have hRw := I.2.2.2.2.2.1
  rcases row_cases x with h | ⟨l, rfl, hl, h⟩
  · refine ⟨-1, σ, σ, ?_, ?_, D, I⟩
    · unfold X_fits; rw [(h σ).1, ob_some, zmo_nn]
    · unfold M_fits; rw [(h σ).2, ob_some, if_pos rfl]
  rcases rng y 1 40 (by decide) (by decide) with k | ⟨k, k2, k3⟩ | ⟨m, hm1, hm, rfl⟩
  · refine ⟨-1, σ, σ, ?_, ?_, D, I⟩
    · unfold X_fits; rw [(h σ).1, ob_some, zmo_sm, if_pos (show y < 1 from k)]
    · unfold M_fits; rw [(h σ).2, ob_some, if_neg i10, show M_in y 1 40 σ = some 0 from min_lo k, ob_some, if_pos rfl]
  · refine ⟨-1, σ, σ, ?_, ?_, D, I⟩
    · unfold X_fits; rw [(h σ).1, ob_some, zmo_sm, if_neg (show ¬ y < 1 from k), if_pos (show (40 : Int32) < y from k2)]
    · unfold M_fits; rw [(h σ).2, ob_some, if_neg i10, show M_in y 1 40 σ = some 0 from min_hi k k2, ob_some, if_pos rfl]
  have n1 : ¬ nI m < 1 := nI_nlt (b := 1) hm1 (by omega)
  have n2 : ¬ (40 : Int32) < nI m := nI_nlt (a := 40) hm (by decide)
  have mi : ∀ τ, M_in (nI m) 1 40 τ = some 1 := fun τ => min_ok hm1 hm (by decide)
  rcases rng z 0 1 (by decide) (by decide) with k | ⟨k, k2, k3⟩ | ⟨s, _, hs, rfl⟩
  · refine ⟨-1, σ, σ, ?_, ?_, D, I⟩
    · unfold X_fits; rw [(h σ).1, ob_some, zmo_sm, if_neg n1, if_neg n2, if_pos (show z < 0 from k)]
    · unfold M_fits; rw [(h σ).2, ob_some, if_neg i10, mi, ob_some, if_neg i10, show M_in z 0 1 σ = some 0 from min_lo k, ob_some, if_neg (fun q => q rfl)]
  · refine ⟨-1, σ, σ, ?_, ?_, D, I⟩
    · unfold X_fits; rw [(h σ).1, ob_some, zmo_sm, if_neg n1, if_neg n2, if_neg (show ¬ z < 0 from k), if_neg (show ¬ z ≤ 1 from k3)]
    · unfold M_fits; rw [(h σ).2, ob_some, if_neg i10, mi, ob_some, if_neg i10, show M_in z 0 1 σ = some 0 from min_hi k k2, ob_some, if_neg (fun q => q rfl)]
  obtain ⟨_, k1, k2, k3, k4⟩ := rk_l l hl
  have zi : ∀ τ, M_in (nI s) 0 1 τ = some 1 := fun τ => min_ok (Nat.zero_le _) hs (by decide)
  have n3 : ¬ nI s < 0 := nI_pos (by omega)
  have n4 : nI s ≤ 1 := nI_le (b := 1) hs (by decide)
  rcases hRw l hl with ⟨r1, r2⟩ | ⟨M, m1, r1, r2, r3, r4⟩
  · refine ⟨-11, σ, σ, ?_, ?_, D, I⟩
    · unfold X_fits; rw [(h σ).1, ob_some, zmo_sm, if_neg n1, if_neg n2, if_neg n3, if_pos n4, k1, cond_true, r1, if_neg mI_neg]
    · unfold M_fits; rw [(h σ).2, ob_some, if_neg i10, mi, ob_some, if_neg i10, zi, ob_some, if_pos i10, zl88 hl, r2, ob_some, if_neg (fun q => q rfl)]
  by_cases hmM : m ≤ M
  · obtain ⟨σ3, e3, L3⟩ := ftk_ok I
    have G := nbm_Gr V
    have p66 : ∀ q, per (66 + 2 * l) q = true := fun q => by
      rcases (by omega : l = 0 ∨ l = 1 ∨ l = 2) with rfl | rfl | rfl <;> rfl
    have hp3 : ∀ i, i < m → σ3 (66 + 2 * l) i = σ (66 + 2 * l) i := fun i _ => L3.1 _ i (p66 i)
    have nper : ∀ a q, per a q = true → a ≠ 43 := fun a q hp w => by subst w; cases hp
    -- both roads of the class
    have hX : ∃ σ4, X_fits (nI l) (nI m) (nI s) σ = some (if nI s = 0 then nI (orf (frf (σ (66 + 2 * l)) (nbm (dT D)) (alm (dn D)) m (dk D)) 5) else lkf (σ (66 + 2 * l)) (nbm (dT D)) (alm (dn D)) m 4 1, σ4) ∧ Sm per σ σ4 := by
      by_cases e : nI s = 0
      · obtain ⟨σ4, a1, a2⟩ := xfr_loop (pl := σ (66 + 2 * l)) G (dk_lt V) hl hm1 hm 5 zF 0 (dr D) σ3 rfl (zF_big (by decide)) L3.2 hp3
        refine ⟨σ4, ?_, fun a q hp => (a2 a q (nper a q hp)).trans (L3.1 a q hp)⟩
        unfold X_fits X_fittingRules
        rw [(h σ).1, ob_some, zmo_sm, if_neg n1, if_neg n2, if_neg n3, if_pos n4, k1, cond_true, r1, if_pos (nI_pos' (by omega)), cond_true, if_pos (nI_le hmM (by omega)), e3, ob_some, if_neg (fun q => q e), if_pos e]
        show zb2 (X_fittingRules_c5 zF (65 + 2 * l) (nI m) (nI (orf (frf (σ (66 + 2 * l)) (nbm (dT D)) (alm (dn D)) m (dk D)) 0)) (nI 0) σ3) _ = _
        rw [a1, zb2_sm]
      · obtain ⟨σ4, a1, a2⟩ := xlk_loop (pl := σ (66 + 2 * l)) G hl hm1 hm 4 zF 1 (dk D) (su σ3 43 1 (nI 4)) rfl (zF_big (by decide)) (Fs_su1 (r2 := 4) L3.2) (fun i hi => by rw [su_ap, if_neg (by omega)]; exact hp3 i hi)
        refine ⟨σ4, ?_, fun a q hp => by rw [a2 a q (nper a q hp), su_ap, if_neg (fun w => nper a q hp w.1)]; exact L3.1 a q hp⟩
        unfold X_fits X_leastFittingK
        rw [(h σ).1, ob_some, zmo_sm, if_neg n1, if_neg n2, if_neg n3, if_pos n4, k1, cond_true, r1, if_pos (nI_pos' (by omega)), cond_true, if_pos (nI_le hmM (by omega)), e3, ob_some, if_pos e, if_neg e, zlet_ap]
        show zb2 (X_leastFittingK_c10 zF (65 + 2 * l) (nI m) (nI 1) (su σ3 43 1 (nI 4))) _ = _
        rw [a1, zb2_sm]
    obtain ⟨σ4, e4, s4⟩ := hX
    have I4 := In_sm s4 I
    obtain ⟨g, e5, g5⟩ := mtk_ok I4
    have I5 : In D (Mst σ4 (alm (dn D)) g) := In_sm Mst_per I4
    obtain ⟨M1, M2, M3, M4⟩ := Mst_Ms (al := alm (dn D)) I4 g5
    have hp5 : ∀ i, i < m → Mst σ4 (alm (dn D)) g 90 (40 * l + i) = σ (66 + 2 * l) i := fun i hi => by
      rw [r4 i (by omega)]
      unfold Mst
      rw [sw_ap, if_neg (by omega), su_ap, if_neg (by omega)]
      exact s4 90 _ rfl
    refine ⟨_, σ4, Mst σ4 (alm (dn D)) g, e4, ?_, D, I5⟩
    unfold M_fits
    rw [(h _).2, ob_some, if_neg i10, mi, ob_some, if_neg i10, zi, ob_some, if_pos i10, zl88 hl, show σ4 88 l = 1 from (s4 88 l rfl).trans r2, ob_some, if_pos i10, ld89 hl, show σ4 89 l = nI M from (s4 89 l rfl).trans r3, ob_some, if_pos (nI_le hmM (by omega)), e5, ob_some]
    by_cases e : nI s = 0
    · rw [if_neg (fun q => q e), if_pos e]
      exact mfr_loop I5 M1 M2 G hl hm1 hm hp5 5 zF 0 rfl (zF_big (by decide))
    · rw [if_pos e, if_neg e]
      exact mlk_loop I5 M1 M2 G hl hm1 hm hp5 4 zF 1 rfl (zF_big (by decide))
  · refine ⟨-13, σ, σ, ?_, ?_, D, I⟩
    · unfold X_fits; rw [(h σ).1, ob_some, zmo_sm, if_neg n1, if_neg n2, if_neg n3, if_pos n4, k1, cond_true, r1, if_pos (nI_pos' (by omega)), cond_true, if_neg (nI_ge (by omega) (by omega))]
    · unfold M_fits; rw [(h σ).2, ob_some, if_neg i10, mi, ob_some, if_neg i10, zi, ob_some, if_pos i10, zl88 hl, r2, ob_some, if_pos i10, ld89 hl, r3, ob_some, if_neg (nI_ge (by omega) (by omega))]

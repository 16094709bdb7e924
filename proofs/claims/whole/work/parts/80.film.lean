/-! PURE: film -/
theorem mtk2 {σ : zSt} {D : yD} (V : Vd D) (M0 : MN 3 4 5 6 76 77 78 D σ) : ∃ g, M_takes σ = some (Mst σ (alm (dn D)) g) ∧ ∀ i, i < 9 → g i = nI (nbm (dT D) i) := by
  have hn := V.1.2
  have M : ∀ g, MN 3 4 5 6 76 77 78 D (Mst σ (alm (dn D)) g) := fun g => MN1_sm (per_sm Mst_per).2.2.1 M0
  unfold M_takes
  rw [mwh_ok M0.1.1 hn, ob_some, zlet_ap]
  have key : ∀ (d n i : Nat) (g : Nat → Int32), i + d = 9 → d < n → (∀ j, j < i → g j = nI (nbm (dT D) j)) → ∃ g2, M_takes_c10 n (nI i) (Mst σ (alm (dn D)) g) = some (Mst σ (alm (dn D)) g2) ∧ ∀ j, j < 9 → g2 j = nI (nbm (dT D) j) := by
    intro d
    induction d with
    | zero =>
      intro n i g hi hn2 hg
      obtain ⟨n, rfl⟩ : ∃ n2, n = n2 + 1 := ⟨n - 1, by omega⟩
      obtain rfl : i = 9 := by omega
      exact ⟨g, rfl, hg⟩
    | succ d ih =>
      intro n i g hi hn2 hg
      obtain ⟨n, rfl⟩ : ∃ n2, n = n2 + 1 := ⟨n - 1, by omega⟩
      have h9 : ¬ (9 : Int32) ≤ nI i := nI_ge (b := 9) (by omega) (by decide)
      have step : ∀ v, v = nI (nbm (dT D) i) → ∃ g2, M_takes_c38 (M_takes_c10 n) (nI i) v (nI i) (Mst σ (alm (dn D)) g) = some (Mst σ (alm (dn D)) g2) ∧ ∀ j, j < 9 → g2 j = nI (nbm (dT D) j) := by
        intro v hv
        unfold M_takes_c38
        rw [st83 (by omega), ob_some, Mst_su, nI_1]
        refine ih n (i + 1) _ (by omega) (by omega) (fun j hj => ?_)
        by_cases e : j = i
        · rw [e, pk_us, hv]
        · rw [pk_un e]; exact hg j (by omega)
      rw [M_takes_c10, if_neg h9, (M g).1.1]
      by_cases hd : dn D ≤ i
      · rw [if_pos (nI_le hd (by omega))]
        refine step _ ?_
        have : nbm (dT D) i = 0 := (nbm_Gr V).2.2.2 i (by rw [alm_bit]; omega)
        rw [this]
        rfl
      · rw [if_neg (nI_ge (by omega) (by omega)), mnb_ok (M g) V (by omega), ob_some]
        exact step _ rfl
  have := key 9 zF 0 (σ 83) rfl (zF_big (by decide)) (fun j hj => absurd hj (Nat.not_lt_zero _))
  have e : Mst σ (alm (dn D)) (σ 83) = su σ 75 14 (nI (alm (dn D))) := by
    unfold Mst
    have h : su σ 75 14 (nI (alm (dn D))) 83 = σ 83 := by
      funext j
      rw [su_ap]
      exact if_neg (fun q => absurd q.1 (by decide))
    rw [← h, sw_self]
  rw [e] at this
  exact this
theorem Mst_Ms2 {σ : zSt} {D : yD} {nb : Nat → Nat} {al : Nat} {g : Nat → Int32} (M : MN 3 4 5 6 76 77 78 D σ) (h : ∀ i, i < 9 → g i = nI (nb i)) : Ms (Mst σ al g) nb al (dr D) (dk D) := by
  refine ⟨?_, fun i hi => ?_, ?_, ?_⟩
  · unfold Mst; rw [sw_ap, if_neg (by decide), su_ap]; rfl
  · unfold Mst; rw [sw_ap, if_pos rfl]; exact h i hi
  · unfold Mst; rw [sw_ap, if_neg (by decide), su_ap]; exact M.1.2.1
  · unfold Mst; rw [sw_ap, if_neg (by decide), su_ap]; exact M.1.2.2.1
theorem Fs_sw2 {σ : zSt} {nb : Nat → Nat} {al r k a : Nat} {f : Nat → Int32} (ha : a < 43 ∨ 45 < a) (F : Fs σ nb al r k) : Fs (sw σ a f) nb al r k := by
  obtain ⟨h1, h2, h3, h4, h5⟩ := F
  have e : ∀ b q, 43 ≤ b → b ≤ 45 → sw σ a f b q = σ b q := fun b q h1 h2 => by rw [sw_ap, if_neg (by omega)]
  exact ⟨(e _ _ (by decide) (by decide)).trans h1, (e _ _ (by decide) (by decide)).trans h2, (e _ _ (by decide) (by decide)).trans h3, fun i hi => (e _ _ (by decide) (by decide)).trans (h4 i hi), fun x hx => (e _ _ (by decide) (by decide)).trans (h5 x hx)⟩
theorem xfl_loop {σ : zSt} {nb : Nat → Nat} {al r k s l M : Nat} (F : Fs σ nb al r k) (G : Gr nb al) (hr : r ≤ 4) (hk : k < 100) (hs : sub s al) (hl : l < 3) (hM : M < 40) : ∀ (d m i : Nat) (f : Nat → Int32), i + d = M + 1 → 1 ≤ i → d < m → (∀ x, x < i → f x = nI (rsq nb al r k s x)) → ∃ f2, X_film_c60 m (nI M) (65 + 2 * l) (nI (rsq nb al r k s (i - 1))) (nI i) (sw σ (66 + 2 * l) f) = some (nI (M + 1), su (sw σ (66 + 2 * l) f2) (65 + 2 * l) 0 (nI (M + 1))) ∧ ∀ x, x < M + 1 → f2 x = nI (rsq nb al r k s x)
  | d, 0, i, f, _, _, hm, _ => absurd hm (Nat.not_lt_zero _)
  | 0, m + 1, i, f, hi, _, _, h => by
    obtain ⟨_, k1, k2, k3, k4⟩ := rk_l l hl
    refine ⟨f, ?_, fun x hx => h x (by omega)⟩
    rw [X_film_c60, if_pos (nI_lt (by omega) (by omega)), k1, cond_true, zlet_ap, nI_1]
  | d + 1, m + 1, i, f, hi, hi1, hm, h => by
    obtain ⟨_, k1, k2, k3, k4⟩ := rk_l l hl
    have step : ∀ t : Int32, t = nI (decide (i - 1 = 0)).toNat → ∃ f2, X_film_c83 (X_film_c60 m) (nI M) (65 + 2 * l) (nI i) t (nI (rsq nb al r k s (i - 1))) (sw σ (66 + 2 * l) f) = some (nI (M + 1), su (sw σ (66 + 2 * l) f2) (65 + 2 * l) 0 (nI (M + 1))) ∧ ∀ x, x < M + 1 → f2 x = nI (rsq nb al r k s x) := fun t ht => by
      have e1 := fnx_ok (Fs_sw2 (a := 66 + 2 * l) (f := f) (by omega) F) G hr hk (rsq_in (r := r) (k := k) G hs (i - 1)) (decide (i - 1 = 0))
      have e2 : xnx nb al r k (rsq nb al r k s (i - 1)) (decide (i - 1 = 0)) = rsq nb al r k s i := by
        obtain ⟨j, rfl⟩ : ∃ j, i = j + 1 := ⟨i - 1, by omega⟩
        rfl
      rw [e2] at e1
      unfold X_film_c83
      rw [ht, e1, ob_some, k1, k2, cond_true, zst_at k3 k4 (by omega : i < 40) (by decide), ob_some, su_sw, nI_1]
      have := xfl_loop F G hr hk hs hl hM d m (i + 1) (upd f i (nI (rsq nb al r k s i))) (by omega) (by omega) (by omega) (fun x hx => by
        by_cases e : x = i
        · rw [e, pk_us]
        · rw [pk_un e]; exact h x (by omega))
      rw [Nat.add_sub_cancel] at this
      exact this
    rw [X_film_c60, if_neg (nI_nlt (by omega) (by omega))]
    by_cases e : i = 1
    · subst e
      rw [if_neg (show ¬ ¬ nI 1 = 1 from fun q => q rfl)]
      exact step 1 rfl
    · rw [if_pos (show ¬ nI i = 1 from fun q => e ((nI_inj (b := 1) (by omega) (by decide)).mp q))]
      refine step 0 ?_
      rw [decide_eq_false (show ¬ i - 1 = 0 by omega)]
      rfl
theorem mfl_loop {σ : zSt} {nb : Nat → Nat} {al r k s l M : Nat} (h14 : σ 75 14 = nI al) (h83 : ∀ i, i < 9 → σ 83 i = nI (nb i)) (h4 : σ 75 4 = nI r) (h5 : σ 75 5 = nI k) (G : Gr nb al) (hr : r ≤ 4) (hk : k < 100) (hs : sub s al) (hl : l < 3) (hM : M < 40) : ∀ (d m i : Nat) (f : Nat → Int32), i + d = M + 1 → d < m → (∀ x, x < i → f (40 * l + x) = nI (rsq nb al r k s x)) → (∀ a, (a < 40 * l ∨ 40 * l + 40 ≤ a) → f a = σ 90 a) → ∃ f2, M_film_c46 m (nI l) (nI M) (nI (rsq nb al r k s i)) (nI i) (sw σ 90 f) = some (nI (M + 1), sw σ 90 f2) ∧ (∀ x, x < M + 1 → f2 (40 * l + x) = nI (rsq nb al r k s x)) ∧ ∀ a, (a < 40 * l ∨ 40 * l + 40 ≤ a) → f2 a = σ 90 a
  | d, 0, i, f, _, hm, _, _ => absurd hm (Nat.not_lt_zero _)
  | 0, m + 1, i, f, hi, _, h, h2 => by
    refine ⟨f, ?_, fun x hx => h x (by omega), h2⟩
    rw [M_film_c46, if_pos (nI_lt (by omega) (by omega)), nI_1]
  | d + 1, m + 1, i, f, hi, hm, h, h2 => by
    have e1 := mrd_ok (σ := sw σ 90 (upd f (40 * l + i) (nI (rsq nb al r k s i)))) (i := i) h14 h83 G (rsq_in (r := r) (k := k) G hs i) hr hk (by omega)
    have e2 : xnx nb al r k (rsq nb al r k s i) (decide (i = 0)) = rsq nb al r k s (i + 1) := rfl
    rw [e2] at e1
    rw [M_film_c46, if_neg (nI_nlt (by omega) (by omega)), h40, st90 (by omega), ob_some, su_sw, show sw σ 90 (upd f (40 * l + i) (nI (rsq nb al r k s i))) 75 4 = nI r from h4, show sw σ 90 (upd f (40 * l + i) (nI (rsq nb al r k s i))) 75 5 = nI k from h5, e1, ob_some, nI_1]
    refine mfl_loop h14 h83 h4 h5 G hr hk hs hl hM d m (i + 1) _ (by omega) (by omega) (fun x hx => ?_) (fun a ha => ?_)
    · by_cases e : x = i
      · rw [e, pk_us]
      · rw [pk_un (by omega)]; exact h x (by omega)
    · rw [pk_un (by omega)]; exact h2 a ha
theorem q_film (x y z : Int32) : Q2 (X_film x y z) (M_film x y z) := by
  rintro σ ⟨D, I⟩
  have V := I.1
  have hRw := I.2.2.2.2.2.1
  rcases row_cases x with h | ⟨l, rfl, hl, h⟩
  · refine ⟨-1, σ, σ, ?_, ?_, D, I⟩
    · unfold X_film; rw [(h σ).1, ob_some, zmo_nn]
    · unfold M_film; rw [(h σ).2, ob_some, if_pos rfl]
  rcases set_cases D V y with hs | ⟨s, rfl, hss, hs⟩
  · refine ⟨-1, σ, σ, ?_, ?_, D, I⟩
    · unfold X_film; rw [(h σ).1, ob_some, zmo_sm, (hs σ I).1, ob_some, if_pos rfl]
    · unfold M_film; rw [(h σ).2, ob_some, if_neg i10, (hs σ I).2, ob_some, if_pos rfl]
  rcases rng z 0 39 (by decide) (by decide) with k | ⟨k, k2, k3⟩ | ⟨M, _, hM, rfl⟩
  · refine ⟨-1, σ, σ, ?_, ?_, D, I⟩
    · unfold X_film; rw [(h σ).1, ob_some, zmo_sm, (hs σ I).1, ob_some, if_neg i10, if_pos (show z < 0 from k)]
    · unfold M_film; rw [(h σ).2, ob_some, if_neg i10, (hs σ I).2, ob_some, if_neg i10, show M_in z 0 39 σ = some 0 from min_lo k, ob_some, if_neg (fun q => q rfl)]
  · refine ⟨-1, σ, σ, ?_, ?_, D, I⟩
    · unfold X_film; rw [(h σ).1, ob_some, zmo_sm, (hs σ I).1, ob_some, if_neg i10, if_neg (show ¬ z < 0 from k), if_neg (show ¬ z < 40 from gt_not (b := 40) k2 rfl (by decide))]
    · unfold M_film; rw [(h σ).2, ob_some, if_neg i10, (hs σ I).2, ob_some, if_neg i10, show M_in z 0 39 σ = some 0 from min_hi k k2, ob_some, if_neg (fun q => q rfl)]
  · obtain ⟨_, k1, k2, k3, k4⟩ := rk_l l hl
    have G := nbm_Gr V
    obtain ⟨σ4, e4, L4⟩ := ftk_ok I
    obtain ⟨f2, e5, g5⟩ := xfl_loop (l := l) (M := M) L4.2 G V.2.1.1 (dk_lt V) hss hl (by omega) M zF 1 (upd (σ4 (66 + 2 * l)) 0 (nI s)) (by omega) (Nat.le_refl _) (zF_big (by omega)) (fun x hx => by
      rw [show x = 0 by omega, pk_us]; rfl)
    have fA : ∀ a q, per a q = true → a ≠ 65 + 2 * l → a ≠ 66 + 2 * l → su (sw σ4 (66 + 2 * l) f2) (65 + 2 * l) 0 (nI (M + 1)) a q = σ a q := fun a q hp h1 h2 => by
      rw [su_ap, if_neg (fun w => h1 w.1), sw_ap, if_neg h2]; exact L4.1 a q hp
    have MX : MN 3 4 5 6 76 77 78 D (su (sw σ4 (66 + 2 * l) f2) (65 + 2 * l) 0 (nI (M + 1))) := MN1_sm (fun a q hf => by
      have hf2 := hf
      unfold fM1 at hf2
      simp only [zbl, zbq, Bool.or_eq_true, Bool.and_eq_true, decide_eq_true_eq] at hf2
      exact fA a q (by unfold per; rw [hf]; simp) (by omega) (by omega)) I.2.2.1
    obtain ⟨f6, e6, g6, g7⟩ := mrow_ok (σ := su (sw σ4 (66 + 2 * l) f2) (65 + 2 * l) 0 (nI (M + 1))) hl (nI (M + 1)) (nI_le (b := 40) (by omega) (by decide)) (Int32.le_iff_toInt_le.mpr (by rw [nI_toInt (by omega)]; have : (-1 : Int32).toInt = -1 := rfl; omega))
    rw [if_neg (nI_pos (by omega)), if_pos (nI_pos' (by omega))] at e6
    have MY : MN 3 4 5 6 76 77 78 D (sw (su (su (su (sw σ4 (66 + 2 * l) f2) (65 + 2 * l) 0 (nI (M + 1))) 88 l 1) 89 l (nI (M + 1))) 90 f6) := MN1_sm (Sm_tr (Sm_tr (Sm_su rfl) (Sm_su rfl)) (Sm_sw (fun _ => rfl))) MX
    obtain ⟨g, e8, g8⟩ := mtk2 V MY
    obtain ⟨M1, M2, M3, M4⟩ := Mst_Ms2 (al := alm (dn D)) MY g8
    obtain ⟨f9, e9, g9, g10⟩ := mfl_loop (l := l) (M := M) (s := s) M1 M2 M3 M4 G V.2.1.1 (dk_lt V) hss hl (by omega) (M + 1) zF 0 (Mst (sw (su (su (su (sw σ4 (66 + 2 * l) f2) (65 + 2 * l) 0 (nI (M + 1))) 88 l 1) 89 l (nI (M + 1))) 90 f6) (alm (dn D)) g 90) (Nat.zero_add _) (zF_big (by omega)) (fun x hx => absurd hx (Nat.not_lt_zero _)) (fun _ _ => rfl)
    rw [sw_self] at e9
    have e90 : ∀ a, (a < 40 * l ∨ 40 * l + 40 ≤ a) → f9 a = σ 90 a := fun a ha => by
      rw [g10 a ha]
      unfold Mst
      rw [sw_ap, if_neg (by decide), su_ap, if_neg (fun w => absurd w.1 (by decide)), sw_ap, if_pos rfl, g7 a ha]
      exact fA 90 a rfl (by omega) (by omega)
    refine ⟨nI (M + 1), su (sw σ4 (66 + 2 * l) f2) (65 + 2 * l) 0 (nI (M + 1)), sw (Mst (sw (su (su (su (sw σ4 (66 + 2 * l) f2) (65 + 2 * l) 0 (nI (M + 1))) 88 l 1) 89 l (nI (M + 1))) 90 f6) (alm (dn D)) g) 90 f9, ?_, ?_, D, In_rw (σ := σ) (fun a q hp => ?_) I (fun l2 hl2 => ?_)⟩
    · unfold X_film
      rw [(h σ).1, ob_some, zmo_sm, (hs σ I).1, ob_some, if_neg i10, if_neg (nI_pos (by omega)), if_pos (show nI M < 40 from nI_lt (b := 40) (by omega) (by decide)), e4, ob_some, k1, k2, cond_true, show (0 : Int32) = nI 0 from rfl, zst_at k3 k4 (by decide : 0 < 40) (by decide), ob_some, su_sw0]
      exact e5
    · unfold M_film
      have Hset : M_isSet (nI s) (su (sw σ4 (66 + 2 * l) f2) (65 + 2 * l) 0 (nI (M + 1))) = some 1 := by
        have hn := V.1.2
        have hle := sub_le hss
        have hal := alm_lt hn
        unfold M_isSet
        rw [mwh_ok MX.1.1 hn, ob_some, show (0 : Int32) = nI 0 from rfl, min_ok (Nat.zero_le _) hle (by omega), ob_some]
        rfl
      rw [(h _).2, ob_some, if_neg i10, Hset, ob_some, if_neg i10, show M_in (nI M) 0 39 _ = some 1 from min_ok (Nat.zero_le _) hM (by decide), ob_some, if_pos i10, nI_1, e6, zb2_sm, e8, ob_some]
      exact e9
    · have hper : per a q = true := by
        unfold pRw at hp
        unfold per
        simp only [Bool.or_eq_true] at hp ⊢
        grind
      have n1 : ¬ (65 ≤ a ∧ a ≤ 70) ∧ ¬ (88 ≤ a ∧ a ≤ 90) ∧ ¬ (a = 75 ∧ q = 14) ∧ a ≠ 83 := by
        unfold pRw fC1 fCk fM1 fMk fK0 fHi fTp fTr fCe at hp
        simp only [zbl, zbq, Bool.or_eq_true, Bool.and_eq_true, decide_eq_true_eq] at hp
        omega
      unfold Mst
      rw [sw_ap, if_neg (by omega), sw_ap, if_neg (by omega), su_ap, if_neg (by omega), sw_ap, if_neg (by omega), su_ap, if_neg (by omega), su_ap, if_neg (by omega)]
      exact fA a q hper (by omega) (by omega)
    · by_cases e : l2 = l
      · subst e
        refine Or.inr ⟨M + 1, by omega, ?_, ?_, ?_, fun i hi => ?_⟩
        · unfold Mst
          rw [sw_ap, if_neg (by omega), sw_ap, if_neg (by omega), su_ap, if_neg (by omega), sw_ap, if_neg (by omega), su_ap, if_neg (by omega), su_ap, if_neg (by omega), su_ap, if_pos ⟨rfl, rfl⟩]
        · unfold Mst
          rw [sw_ap, if_neg (by omega), sw_ap, if_neg (by omega), su_ap, if_neg (by omega), sw_ap, if_neg (by omega), su_ap, if_neg (by omega), su_ap, if_pos ⟨rfl, rfl⟩]
        · unfold Mst
          rw [sw_ap, if_neg (by omega), sw_ap, if_neg (by omega), su_ap, if_neg (by omega), sw_ap, if_neg (by omega), su_ap, if_pos ⟨rfl, rfl⟩]
        · rw [show ∀ τ : zSt, sw τ 90 f9 90 (40 * l2 + i) = f9 (40 * l2 + i) from fun τ => by rw [sw_ap, if_pos rfl], g9 i hi]
          unfold Mst
          rw [sw_ap, if_neg (by omega), sw_ap, if_neg (by omega), su_ap, if_neg (by omega), sw_ap, if_neg (by omega), su_ap, if_neg (by omega), su_ap, if_neg (by omega), su_ap, if_neg (by omega), sw_ap, if_pos rfl]
          exact g5 i hi
      · have eB : ∀ a q, per a q = true → a ≠ 65 + 2 * l → a ≠ 66 + 2 * l → a ≠ 90 → a ≠ 75 → a ≠ 83 → (a = 88 → q ≠ l) → (a = 89 → q ≠ l) → sw (Mst (sw (su (su (su (sw σ4 (66 + 2 * l) f2) (65 + 2 * l) 0 (nI (M + 1))) 88 l 1) 89 l (nI (M + 1))) 90 f6) (alm (dn D)) g) 90 f9 a q = σ a q := fun a q hp h1 h2 h3 h4 h5 h6 h7 => by
          unfold Mst
          rw [sw_ap, if_neg h3, sw_ap, if_neg h5, su_ap, if_neg (fun w => h4 w.1), sw_ap, if_neg h3, su_ap, if_neg (fun w => h7 w.1 w.2), su_ap, if_neg (fun w => h6 w.1 w.2)]
          exact fA a q hp h1 h2
        have p65 : ∀ q, per (65 + 2 * l2) q = true := fun q => by
          rcases (by omega : l2 = 0 ∨ l2 = 1 ∨ l2 = 2) with rfl | rfl | rfl <;> rfl
        have p66 : ∀ q, per (66 + 2 * l2) q = true := fun q => by
          rcases (by omega : l2 = 0 ∨ l2 = 1 ∨ l2 = 2) with rfl | rfl | rfl <;> rfl
        rcases hRw l2 hl2 with ⟨t1, t2⟩ | ⟨m2, n1, t1, t2, t3, t4⟩
        · refine Or.inl ⟨?_, ?_⟩
          · rw [eB _ _ (p65 0) (by omega) (by omega) (by omega) (by omega) (by omega) (by omega) (by omega)]; exact t1
          · rw [eB _ _ rfl (by omega) (by omega) (by omega) (by omega) (by omega) (by omega) (by omega)]; exact t2
        · refine Or.inr ⟨m2, n1, ?_, ?_, ?_, fun i hi => ?_⟩
          · rw [eB _ _ (p65 0) (by omega) (by omega) (by omega) (by omega) (by omega) (by omega) (by omega)]; exact t1
          · rw [eB _ _ rfl (by omega) (by omega) (by omega) (by omega) (by omega) (by omega) (by omega)]; exact t2
          · rw [eB _ _ rfl (by omega) (by omega) (by omega) (by omega) (by omega) (by omega) (by omega)]; exact t3
          · rw [eB _ _ (p66 i) (by omega) (by omega) (by omega) (by omega) (by omega) (by omega) (by omega), show ∀ τ : zSt, sw τ 90 f9 90 (40 * l2 + i) = f9 (40 * l2 + i) from fun τ => by rw [sw_ap, if_pos rfl], e90 _ (by omega)]
            exact t4 i hi

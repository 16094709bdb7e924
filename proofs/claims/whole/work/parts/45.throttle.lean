/-! PURE: throttle and best -/
def wt (t : Nat → Int32) (x : Nat) : Nat := pc x + (t x).toNatClampNeg
theorem wt_lt {t : Nat → Int32} (T : tok t) (x : Nat) : wt t x < 100 := by
  have hp := pc_le x
  unfold wt
  rcases T x with h | ⟨q, hq, h⟩
  · rw [h]
    have : mI.toNatClampNeg = 0 := by decide
    omega
  · rw [h, nI_clamp (by omega)]
    omega
theorem fst_ok {σ : zSt} {t : Nat → Int32} {al x : Nat} (T : tok t) (h46 : ∀ x, x ≤ al → σ 46 x = t x) (hal : al < 512) (hx : x ≤ al) (h : ¬ t x = mI) : Fcg_sizeAndTime (nI x) σ = some (nI (wt t x)) := by
  unfold Fcg_sizeAndTime
  rw [Jdk_bitCount_ok (by omega), ob_some, ld46 (by omega), h46 x hx, ob_some]
  unfold wt
  rcases T x with g | ⟨q, hq, g⟩
  · exact absurd g h
  · rw [g, nI_clamp (by omega), nI_add]
theorem xth_loop {σ : zSt} {t : Nat → Int32} {al : Nat} (T : tok t) (h46 : ∀ x, x ≤ al → σ 46 x = t x) (hal : al < 512) : ∀ (d n b : Nat), d ≤ al + 1 → d < n → b ≤ al → ¬ t b = mI → Fcg_throttleSet_c10 σ n (nI b) (ix d) = some (nI (chs t (wt t) d b))
  | d, 0, b, _, hn, _, _ => absurd hn (Nat.not_lt_zero _)
  | 0, n + 1, b, _, _, _, _ => by
    rw [Fcg_throttleSet_c10, if_pos (show ix 0 < 0 by decide)]
    rfl
  | x + 1, n + 1, b, hd, hn, hb, hbt => by
    have s1 := wt_lt T x
    have s2 := wt_lt T b
    show Fcg_throttleSet_c10 σ (n + 1) (nI b) (nI x) = _
    rw [Fcg_throttleSet_c10, if_neg (nI_pos (by omega)), ld46 (by omega), h46 x (by omega), ob_some, ix_s, chs]
    by_cases h : t x = mI
    · rw [if_pos ((tok_lt T x).mpr h), if_pos (Or.inl h)]
      exact xth_loop T h46 hal x n b (by omega) (by omega) hb hbt
    · rw [if_neg (fun q => h ((tok_lt T x).mp q)), fst_ok T h46 hal (by omega) h, ob_some, fst_ok T h46 hal hb hbt, ob_some]
      by_cases h2 : wt t b < wt t x
      · rw [if_pos (nI_lt h2 (by omega)), if_pos (Or.inr h2)]
        exact xth_loop T h46 hal x n b (by omega) (by omega) hb hbt
      · rw [if_neg (nI_nlt (by omega) (by omega)), if_neg (show ¬ (t x = mI ∨ wt t b < wt t x) from fun q => q.elim h h2)]
        exact xth_loop T h46 hal x n x (by omega) (by omega) (by omega) h
theorem mth_loop {σ : zSt} {nb : Nat → Nat} {n r k a : Nat} (hn9 : n ≤ 9) (M : Ms σ nb (alm n) r k) (G : Gr nb (alm n)) (hr : r ≤ 4) (hk : k < 100) (ha : a ≤ 1) : ∀ (d m b : Nat) (h : Nat → Int32), d ≤ alm n + 1 → d < m → Ws σ h → ∃ h2, M_throttle_c33 m (nI a) (nI b) (nI (wt (TT nb (alm n) r k) b)) (ix d) (sw σ 75 h) = some (if a = 0 then nI (wt (TT nb (alm n) r k) (chs (TT nb (alm n) r k) (wt (TT nb (alm n) r k)) d b)) else nI (chs (TT nb (alm n) r k) (wt (TT nb (alm n) r k)) d b), sw σ 75 h2) ∧ Ws σ h2
  | d, 0, b, h, _, hn, _ => absurd hn (Nat.not_lt_zero _)
  | 0, m + 1, b, h, _, _, W => by
    refine ⟨h, ?_, W⟩
    rw [M_throttle_c33, if_pos (show ix 0 < 0 by decide)]
    by_cases e : a = 0
    · rw [if_neg (fun q => q (by rw [e]; rfl)), if_pos e]
      rfl
    · rw [if_pos (show ¬ nI a = 0 from fun q => e ((nI_inj (b := 0) (by omega) (by omega)).mp q)), if_neg e]
      rfl
  | x + 1, m + 1, b, h, hd, hn, W => by
    have hal := alm_lt hn9
    have s2 := wt_lt (TT_tok (nb := nb) (al := alm n) (r := r) (k := k)) b
    have hsub : sub x (alm n) := sub_alm (by omega)
    have et : TT nb (alm n) r k x = tim nb (alm n) r k x := TT_in hsub
    have hp := pc_le x
    have wp : pc x ≤ wt (TT nb (alm n) r k) x := Nat.le_add_right _ _
    show ∃ h2, M_throttle_c33 (m + 1) (nI a) (nI b) (nI (wt (TT nb (alm n) r k) b)) (nI x) (sw σ 75 h) = _ ∧ _
    rw [M_throttle_c33, if_neg (nI_pos (by omega)), mbits_ok (by omega), ob_some, ix_s, chs]
    by_cases h2 : wt (TT nb (alm n) r k) b < pc x
    · rw [if_pos (nI_lt h2 (by omega)), if_pos (show TT nb (alm n) r k x = mI ∨ wt (TT nb (alm n) r k) b < wt (TT nb (alm n) r k) x from Or.inr (by omega))]
      exact mth_loop hn9 M G hr hk ha x m b h (by omega) (by omega) W
    · rw [if_neg (nI_nlt (by omega) (by omega)), misf_ok (Ws_Ms W M) G hr hk hsub, zb2_sm, su_sw]
      have W1 := Ws_upd (v := tim nb (alm n) r k x) W (i := 15) (by omega) (by omega)
      by_cases h3 : tim nb (alm n) r k x = mI
      · rw [if_pos h3, if_pos rfl, if_pos (show TT nb (alm n) r k x = mI ∨ wt (TT nb (alm n) r k) b < wt (TT nb (alm n) r k) x from Or.inl (et.trans h3))]
        exact mth_loop hn9 M G hr hk ha x m b _ (by omega) (by omega) W1
      · obtain ⟨q, hq, eq⟩ : ∃ q, q ≤ 9 ∧ tim nb (alm n) r k x = nI q := by
          rcases tim_cases (nb := nb) (al := alm n) (r := r) (k := k) x with w | w
          · exact absurd w h3
          · exact w
        have ew : wt (TT nb (alm n) r k) x = pc x + q := by
          unfold wt
          rw [et, eq, nI_clamp (by omega)]
        rw [if_neg h3, if_neg i10, mbits_ok (by omega), ob_some, r75, pk_us, eq, nI_add, ← ew]
        rw [eq] at W1
        by_cases h4 : wt (TT nb (alm n) r k) b < wt (TT nb (alm n) r k) x
        · rw [if_neg (nI_ge h4 (by omega)), if_pos (show TT nb (alm n) r k x = mI ∨ wt (TT nb (alm n) r k) b < wt (TT nb (alm n) r k) x from Or.inr h4)]
          exact mth_loop hn9 M G hr hk ha x m b _ (by omega) (by omega) W1
        · rw [if_pos (nI_le (by omega) (by omega)), ob_some, nI_add, ← ew, if_neg (show ¬ (TT nb (alm n) r k x = mI ∨ wt (TT nb (alm n) r k) b < wt (TT nb (alm n) r k) x) from fun q => q.elim (fun q => h3 (et.symm.trans q)) h4)]
          exact mth_loop hn9 M G hr hk ha x m x _ (by omega) (by omega) W1
theorem q_throttle (x : Int32) : Qs (X_throttle x) (M_throttle x) := by
  intro D V
  have hn := V.1.2
  have hal := alm_lt hn
  rcases rng x 0 1 (by decide) (by decide) with h | ⟨h, h2, h3⟩ | ⟨j, _, hj, rfl⟩
  · refine ⟨-1, As_of fun σ I => if_pos h, As_of fun σ I => ?_⟩
    unfold M_throttle
    rw [show M_in x 0 1 σ = some 0 from min_lo h, ob_some, if_neg (fun q => q rfl)]
  · refine ⟨-1, As_of fun σ I => (if_neg h).trans (if_neg h3), As_of fun σ I => ?_⟩
    unfold M_throttle
    rw [show M_in x 0 1 σ = some 0 from min_hi h h2, ob_some, if_neg (fun q => q rfl)]
  · have hc := chs_in (t := TT (nbm (dT D)) (alm (dn D)) (dr D) (dk D)) (w := wt (TT (nbm (dT D)) (alm (dn D)) (dr D) (dk D))) (al := alm (dn D)) (alm (dn D)) (alm (dn D)) (by omega) (Nat.le_refl _) TT_al.1
    refine ⟨if j = 0 then nI (wt (TT (nbm (dT D)) (alm (dn D)) (dr D) (dk D)) (chs (TT (nbm (dT D)) (alm (dn D)) (dr D) (dk D)) (wt (TT (nbm (dT D)) (alm (dn D)) (dr D) (dk D))) (alm (dn D)) (alm (dn D)))) else nI (chs (TT (nbm (dT D)) (alm (dn D)) (dr D) (dk D)) (wt (TT (nbm (dT D)) (alm (dn D)) (dr D) (dk D))) (alm (dn D)) (alm (dn D))), fun σ I => ?_, fun σ I => ?_⟩
    · obtain ⟨σ2, e, L⟩ := ftk_ok I
      obtain ⟨σ3, e3, T⟩ := flt_of L (nbm_Gr V) V.2.1.1 (dk_lt V)
      have e4 := xth_loop (t := TT (nbm (dT D)) (alm (dn D)) (dr D) (dk D)) TT_tok T.2.2 hal (alm (dn D) + 1) zF (alm (dn D)) (Nat.le_refl _) (zF_big (by omega)) (Nat.le_refl _) TT_al.1
      rw [chs_top] at e4
      refine ⟨σ3, ?_, T.1⟩
      unfold X_throttle Fcg_throttleSet
      rw [if_neg (nI_pos (by omega)), if_pos (show nI j ≤ 1 from nI_le hj (by decide)), e, ob_some, e3, ob_some, T.2.1]
      rw [show ix (alm (dn D) + 1) = nI (alm (dn D)) from rfl] at e4
      rw [e4, ob_some]
      by_cases e5 : j = 0
      · rw [if_pos (show ¬ nI j = 1 by rw [e5]; decide), fst_ok TT_tok T.2.2 hal hc.1 hc.2, ob_some, if_pos e5]
      · obtain rfl : j = 1 := by omega
        rw [if_neg (fun q => q rfl), if_neg e5]
    · obtain ⟨g, e, L⟩ := mtk_ok I
      have M := Mst_Ms (al := alm (dn D)) I L
      have I2 := In_sm (Mst_per (al := alm (dn D)) (g := g)) I
      obtain ⟨h, e2, W⟩ := mth_loop (a := j) hn M (nbm_Gr V) V.2.1.1 (dk_lt V) hj (alm (dn D)) zF (alm (dn D)) (Mst σ (alm (dn D)) g 75) (by omega) (zF_big (by omega)) (fun _ _ => rfl)
      rw [sw_self] at e2
      have en : nI (dn D) = nI (wt (TT (nbm (dT D)) (alm (dn D)) (dr D) (dk D)) (alm (dn D))) := by
        unfold wt
        rw [TT_in (fun _ h => h), show tim (nbm (dT D)) (alm (dn D)) (dr D) (dk D) (alm (dn D)) = nI 0 from if_pos rfl]
        have key : ∀ n, n < 10 → nI n = nI (pc (alm n) + (nI 0).toNatClampNeg) := by decide +kernel
        exact key _ (by omega)
      refine ⟨_, ?_, Sm_tr Mst_per (Ws_per W)⟩
      unfold M_throttle
      rw [show M_in (nI j) 0 1 σ = some 1 from min_ok (Nat.zero_le _) hj (by decide), ob_some, if_pos i10, e, ob_some, M.1, alm_pos V.1.1 hn, I2.2.2.1.1.1, en]
      exact e2

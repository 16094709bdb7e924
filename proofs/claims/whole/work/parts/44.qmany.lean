/-! PURE: least, many, cheapest, throttle -/
theorem q_least (x : Int32) : Qs (X_least x) (M_least_ x) := by
  intro D V
  have hal := alm_lt V.1.2
  rcases rng x 0 3 (by decide) (by decide) with h | ⟨h, h2, h3⟩ | ⟨j, _, hj, rfl⟩
  · refine ⟨-1, As_of fun σ I => if_pos h, As_of fun σ I => ?_⟩
    unfold M_least_
    rw [show M_in x 0 3 σ = some 0 from min_lo h, ob_some, if_neg (fun q => q rfl)]
  · refine ⟨-1, As_of fun σ I => (if_neg h).trans (if_neg h3), As_of fun σ I => ?_⟩
    unfold M_least_
    rw [show M_in x 0 3 σ = some 0 from min_hi h h2, ob_some, if_neg (fun q => q rfl)]
  · obtain ⟨f, hf, f1, f2⟩ := lmin_at (nb := nbm (dT D)) (al := alm (dn D)) (r := dr D) (k := dk D)
    refine ⟨if j = 0 then nI (lm0 D) else if j = 1 then nI f else if j = 2 then nI (cnt (TT (nbm (dT D)) (alm (dn D)) (dr D) (dk D)) (lm0 D) (alm (dn D) + 1)) else nI (tmn (TT (nbm (dT D)) (alm (dn D)) (dr D) (dk D)) (lm0 D) (alm (dn D) + 1)), fun σ I => ?_, fun σ I => ?_⟩
    · obtain ⟨σ2, e, L⟩ := ftk_ok I
      obtain ⟨σ3, e3, T⟩ := flt_of L (nbm_Gr V) V.2.1.1 (dk_lt V)
      refine ⟨σ3, ?_, T.1⟩
      have a1 := fls_ok T.2.1 hal T.2.2 TT_tok
      have a2 := ffo_ok T.2.1 T.2.2 hal TT_tok lmin_9 hf f1 f2
      have a3 := fhm_ok (L := lm0 D) T.2.1 T.2.2 hal TT_tok lmin_9
      have a4 := flt_ok (L := lm0 D) T.2.1 T.2.2 hal TT_tok lmin_9
      unfold X_least
      rw [if_neg (nI_pos (by omega)), if_pos (show nI j ≤ 3 from nI_le hj (by decide)), e, ob_some, e3, ob_some, a1, ob_some]
      change (if nI j = 0 then some (nI (lm0 D), σ3) else if nI j = 1 then (Fcg_firstOf (nI (lm0 D)) σ3).bind _ else if nI j = 2 then (Fcg_howMany (nI (lm0 D)) σ3).bind _ else (Fcg_leastTime (nI (lm0 D)) σ3).bind _) = _
      rw [show lmin (nbm (dT D)) (alm (dn D)) (dr D) (dk D) = lm0 D from rfl] at a2
      rw [a2, a3, a4]
      rcases (by omega : j = 0 ∨ j = 1 ∨ j = 2 ∨ j = 3) with rfl | rfl | rfl | rfl <;> rfl
    · obtain ⟨g, e, L⟩ := mtk_ok I
      have M := Mst_Ms (al := alm (dn D)) I L
      obtain ⟨h, f', e2, W, h16, h17, ⟨g1, g2, g3⟩, h18, h19⟩ := mlst_ok M (nbm_Gr V) V.2.1.1 (dk_lt V)
      have hff : f' = f := by
        rcases Nat.lt_trichotomy f' f with q | q | q
        · exact absurd g2 (f2 f' q)
        · exact q
        · exact absurd f1 (g3 f q)
      refine ⟨_, ?_, Sm_tr Mst_per (Ws_per W)⟩
      unfold M_least_
      rw [show M_in (nI j) 0 3 σ = some 1 from min_ok (Nat.zero_le _) hj (by decide), ob_some, if_pos i10, e, ob_some, e2, ob_some, r75, r75, r75, r75, h16, h17, h18, h19, hff]
      rcases (by omega : j = 0 ∨ j = 1 ∨ j = 2 ∨ j = 3) with rfl | rfl | rfl | rfl <;> rfl
theorem mm_loop {σ : zSt} {nb : Nat → Nat} {n r k L : Nat} (hn9 : n ≤ 9) (M : Ms σ nb (alm n) r k) (G : Gr nb (alm n)) (hr : r ≤ 4) (hk : k < 100) (hL : L ≤ 9) : ∀ (d m i : Nat) (h : Nat → Int32), i + d = alm n + 1 → d < m → Ws σ h → ∃ h2, M_many_c22 m (nI L) (nI (cnt (TT nb (alm n) r k) L i)) (nI i) (sw σ 75 h) = some (nI (cnt (TT nb (alm n) r k) L (alm n + 1)), sw σ 75 h2) ∧ Ws σ h2
  | d, 0, i, h, _, hn, _ => absurd hn (Nat.not_lt_zero _)
  | 0, m + 1, i, h, hi, hn, W => by
    have hal := alm_lt hn9
    have e14 : sw σ 75 h 75 14 = nI (alm n) := (Ws_Ms W M).1
    rw [M_many_c22, e14, if_pos (nI_lt (by omega) (by omega)), show i = alm n + 1 by omega]
    exact ⟨h, rfl, W⟩
  | d + 1, m + 1, i, h, hi, hn, W => by
    have hal := alm_lt hn9
    have e14 : sw σ 75 h 75 14 = nI (alm n) := (Ws_Ms W M).1
    have hsub : sub i (alm n) := sub_alm (by omega)
    have hp := pc_le i
    have et : TT nb (alm n) r k i = tim nb (alm n) r k i := TT_in hsub
    rw [M_many_c22, e14, if_neg (nI_nlt (by omega) (by omega)), mbits_ok (by omega), ob_some]
    have e0 : ∀ a, nI a + 0 = nI a := fun a => nI_add a 0
    by_cases h1 : pc i = L
    · rw [if_neg (fun q => q (by rw [h1])), misf_ok (Ws_Ms W M) G hr hk hsub, zb2_sm, su_sw]
      have W1 := Ws_upd (v := tim nb (alm n) r k i) W (i := 15) (by omega) (by omega)
      have := mm_loop hn9 M G hr hk hL d m (i + 1) _ (by omega) (by omega) W1
      by_cases h2 : tim nb (alm n) r k i = mI
      · rw [if_pos h2, if_pos rfl, e0, nI_1]
        rw [cnt, if_neg (fun q => q.1 (et.trans h2))] at this
        exact this
      · rw [if_neg h2, if_neg i10, nI_1, nI_1]
        rw [cnt, if_pos ⟨fun q => h2 (et.symm.trans q), h1⟩] at this
        exact this
    · rw [if_pos (show ¬ nI (pc i) = nI L from fun q => h1 ((nI_inj (by omega) (by omega)).mp q)), e0, nI_1]
      have := mm_loop hn9 M G hr hk hL d m (i + 1) _ (by omega) (by omega) W
      rw [cnt, if_neg (fun q => h1 q.2)] at this
      exact this
theorem q_many (x : Int32) : Qs (X_many x) (M_many x) := by
  intro D V
  have hn := V.1.2
  have hal := alm_lt hn
  rcases rng x 0 (dn D) (by decide) (by omega) with h | ⟨h, h2, h3⟩ | ⟨j, _, hj, rfl⟩
  · refine ⟨-1, As_of fun σ I => if_pos h, As_of fun σ I => ?_⟩
    unfold M_many
    rw [show M_in x 0 (σ 75 3) σ = some 0 from min_lo h, ob_some, if_neg (fun q => q rfl)]
  · refine ⟨-1, As_of fun σ I => ?_, As_of fun σ I => ?_⟩
    · unfold X_many
      rw [if_neg (show ¬ x < 0 from h), I.2.1.1.1, if_neg h3]
    · unfold M_many
      rw [I.2.2.1.1.1, show M_in x 0 (nI (dn D)) σ = some 0 from min_hi h h2, ob_some, if_neg (fun q => q rfl)]
  · refine ⟨nI (cnt (TT (nbm (dT D)) (alm (dn D)) (dr D) (dk D)) j (alm (dn D) + 1)), fun σ I => ?_, fun σ I => ?_⟩
    · obtain ⟨σ2, e, L⟩ := ftk_ok I
      obtain ⟨σ3, e3, T⟩ := flt_of L (nbm_Gr V) V.2.1.1 (dk_lt V)
      refine ⟨σ3, ?_, T.1⟩
      unfold X_many
      rw [if_neg (nI_pos (by omega)), I.2.1.1.1, if_pos (nI_le hj (by omega)), e, ob_some, e3, ob_some, fhm_ok T.2.1 T.2.2 hal TT_tok (by omega), ob_some]
    · obtain ⟨g, e, L⟩ := mtk_ok I
      have M := Mst_Ms (al := alm (dn D)) I L
      obtain ⟨h, e2, W⟩ := mm_loop (L := j) hn M (nbm_Gr V) V.2.1.1 (dk_lt V) (by omega) (alm (dn D) + 1) zF 0 (Mst σ (alm (dn D)) g 75) (by omega) (zF_big (by omega)) (fun _ _ => rfl)
      rw [sw_self] at e2
      refine ⟨_, ?_, Sm_tr Mst_per (Ws_per W)⟩
      unfold M_many
      rw [I.2.2.1.1.1, show M_in (nI j) 0 (nI (dn D)) σ = some 1 from min_ok (Nat.zero_le _) hj (by omega), ob_some, if_pos i10, e, ob_some]
      exact e2
/-- a point's counted cost, as both say it -/
def cts (K C : Nat → Nat) (i : Nat) : Nat := if K i = 2 then 2 * (C i + 1) - 1 else if K i = 3 then (C i + 1 + 1) / 2 else if K i = 4 then 2 * (C i + 1) + 2 else C i + 1
def smn (K C : Nat → Nat) (s : Nat) : Nat → Nat
  | 0 => 0
  | i + 1 => if s.testBit i = true then smn K C s i + cts K C i else smn K C s i
theorem cts_body {a c : Nat} (ha : a ≤ 4) (hc : c ≤ 9) : (if nI a = 2 then some (2 * (nI c + 1) - 1) else if nI a = 3 then ((zdvq (nI c + 1 + 1) 2).bind fun v5 => some v5) else if nI a = 4 then some (2 * (nI c + 1) + 2) else some (nI c + 1)) = some (nI (if a = 2 then 2 * (c + 1) - 1 else if a = 3 then (c + 1 + 1) / 2 else if a = 4 then 2 * (c + 1) + 2 else c + 1)) := by
  have key : ∀ a, a < 5 → ∀ c, c < 10 → (if nI a = 2 then some (2 * (nI c + 1) - 1) else if nI a = 3 then ((zdvq (nI c + 1 + 1) 2).bind fun v5 => some v5) else if nI a = 4 then some (2 * (nI c + 1) + 2) else some (nI c + 1)) = some (nI (if a = 2 then 2 * (c + 1) - 1 else if a = 3 then (c + 1 + 1) / 2 else if a = 4 then 2 * (c + 1) + 2 else c + 1)) := by decide +kernel
  exact key a (by omega) c (by omega)
theorem cof_ok {σ : zSt} {D : yD} {i : Nat} (C : CN 1 2 3 4 6 D σ) (V : Vd D) (hi : i < 9) : Net_countsOf (nI i) σ = some (nI (cts (dK D) (dC D) i)) := by
  unfold Net_countsOf
  rw [ld4 hi, C.2.2.2.1 i hi, ob_some, ld3 hi, C.2.2.1 i hi, ob_some]
  exact cts_body (V.2.2.2.2.2.2.1 i) (V.2.2.2.2.2.2.2 i)
theorem mcof_ok {σ : zSt} {D : yD} {i : Nat} (M : MN 3 4 5 6 76 77 78 D σ) (V : Vd D) (hi : i < 9) : M_counts (nI i) σ = some (nI (cts (dK D) (dC D) i)) := by
  unfold M_counts
  rw [ld78 hi, M.2.2.2 i hi, ob_some, ld77 hi, M.2.2.1 i hi, ob_some]
  exact cts_body (V.2.2.2.2.2.2.1 i) (V.2.2.2.2.2.2.2 i)
theorem cts_lt {D : yD} (V : Vd D) (i : Nat) : cts (dK D) (dC D) i ≤ 22 := by
  have := V.2.2.2.2.2.2.2 i
  unfold cts
  split
  · omega
  · split
    · omega
    · split <;> omega
theorem smn_lt {D : yD} (V : Vd D) (s : Nat) : ∀ i, smn (dK D) (dC D) s i ≤ 22 * i
  | 0 => Nat.le_refl _
  | i + 1 => by
    have h1 := smn_lt V s i
    have h2 := cts_lt V i
    rw [smn]
    split <;> omega
def sm (D : yD) (s : Nat) : Nat := smn (dK D) (dC D) s (dn D)
theorem sm_lt {D : yD} (V : Vd D) (s : Nat) : sm D s < 1000 := by
  have := smn_lt V s (dn D)
  have := V.1.2
  unfold sm
  omega
theorem xsum_ok {σ : zSt} {D : yD} {s : Nat} (C : CN 1 2 3 4 6 D σ) (V : Vd D) (hs : s < 512) : Net_sumOf (nI s) σ = some (nI (sm D s)) := by
  have hn := V.1.2
  refine lup (fun n (q : Int32 × Int32) => Net_sumOf_c4 σ n (nI s) q.1 q.2) (fun i => (nI (smn (dK D) (dC D) s i), nI i)) (dn D) (some (nI (sm D s))) (fun n => ?_) (fun n i hi => ?_) (dn D) zF 0 (by omega) (zF_big (by omega))
  · show Net_sumOf_c4 σ (n + 1) (nI s) (nI _) (nI (dn D)) = _
    rw [Net_sumOf_c4, C.1.1, if_pos (nI_le (Nat.le_refl _) (by omega))]
    rfl
  · show Net_sumOf_c4 σ (n + 1) (nI s) (nI _) (nI i) = Net_sumOf_c4 σ n (nI s) (nI _) (nI (i + 1))
    rw [Net_sumOf_c4, C.1.1, if_neg (nI_ge hi (by omega)), smn]
    by_cases h : s.testBit i = true
    · rw [if_neg (fun q => q ((pb_is1 (by omega) (by omega)).mpr h)), cof_ok C V (by omega), ob_some, nI_add, nI_1, if_pos h]
    · rw [if_pos (show ¬ (nI s >>> (nI i &&& 31)) &&& 1 = 1 from fun q => h ((pb_is1 (by omega) (by omega)).mp q)), nI_1, if_neg h]
theorem msum_ok {σ : zSt} {D : yD} {s : Nat} (M : MN 3 4 5 6 76 77 78 D σ) (V : Vd D) (hs : s < 512) : M_sumOf (nI s) σ = some (nI (sm D s)) := by
  have hn := V.1.2
  refine lup (fun n (q : Int32 × Int32) => M_sumOf_c4 σ n (nI s) q.1 q.2) (fun i => (nI (smn (dK D) (dC D) s i), nI i)) (dn D) (some (nI (sm D s))) (fun n => ?_) (fun n i hi => ?_) (dn D) zF 0 (by omega) (zF_big (by omega))
  · show M_sumOf_c4 σ (n + 1) (nI s) (nI _) (nI (dn D)) = _
    rw [M_sumOf_c4, M.1.1, if_pos (nI_le (Nat.le_refl _) (by omega))]
    rfl
  · show M_sumOf_c4 σ (n + 1) (nI s) (nI _) (nI i) = M_sumOf_c4 σ n (nI s) (nI _) (nI (i + 1))
    have e0 : ∀ a, nI a + 0 = nI a := fun a => nI_add a 0
    rw [M_sumOf_c4, M.1.1, if_neg (nI_ge hi (by omega)), mhas_ok hs (by omega), ob_some, smn]
    cases h : s.testBit i
    · rw [if_pos (show nI false.toNat = 0 from rfl), if_neg (show ¬ false = true from fun q => Bool.noConfusion q), e0, nI_1]
    · rw [if_neg (show ¬ nI true.toNat = 0 by decide), if_pos rfl, mcof_ok M V (by omega), ob_some, nI_add, nI_1]
/-- the last kept among those that fill and cost no more, from above -/
def chs (t : Nat → Int32) (w : Nat → Nat) : Nat → Nat → Nat
  | 0, b => b
  | d + 1, b => chs t w d (if t d = mI ∨ w b < w d then b else d)
theorem chs_in {t : Nat → Int32} {w : Nat → Nat} {al : Nat} : ∀ d b, d ≤ al + 1 → b ≤ al → ¬ t b = mI → chs t w d b ≤ al ∧ ¬ t (chs t w d b) = mI
  | 0, b, _, h1, h2 => ⟨h1, h2⟩
  | d + 1, b, hd, h1, h2 => by
    rw [chs]
    by_cases h : t d = mI ∨ w b < w d
    · rw [if_pos h]; exact chs_in d b (by omega) h1 h2
    · rw [if_neg h]; exact chs_in d d (by omega) (by omega) (fun q => h (Or.inl q))
theorem chs_top {t : Nat → Int32} {w : Nat → Nat} (al : Nat) : chs t w (al + 1) al = chs t w al al := by
  rw [chs]
  split <;> rfl
theorem xch_loop {σ : zSt} {D : yD} {t : Nat → Int32} {al : Nat} (C : CN 1 2 3 4 6 D σ) (V : Vd D) (T : tok t) (h46 : ∀ x, x ≤ al → σ 46 x = t x) (hal : al < 512) : ∀ (d n b : Nat), d ≤ al + 1 → d < n → b ≤ al → Fcg_cheapestSet_c20 σ n (nI b) (nI (sm D b)) (ix d) = some (nI (chs t (sm D) d b))
  | d, 0, b, _, hn, _ => absurd hn (Nat.not_lt_zero _)
  | 0, n + 1, b, _, _, _ => by
    rw [Fcg_cheapestSet_c20, if_pos (show ix 0 < 0 by decide)]
    rfl
  | x + 1, n + 1, b, hd, hn, hb => by
    have s1 := sm_lt V x
    have s2 := sm_lt V b
    show Fcg_cheapestSet_c20 σ (n + 1) (nI b) (nI (sm D b)) (nI x) = _
    rw [Fcg_cheapestSet_c20, if_neg (nI_pos (by omega)), ld46 (by omega), h46 x (by omega), ob_some, ix_s, chs]
    by_cases h : t x = mI
    · rw [if_pos ((tok_lt T x).mpr h), if_pos (Or.inl h)]
      exact xch_loop C V T h46 hal x n b (by omega) (by omega) hb
    · rw [if_neg (fun q => h ((tok_lt T x).mp q)), xsum_ok C V (by omega), ob_some]
      by_cases h2 : sm D b < sm D x
      · rw [if_pos (nI_lt h2 (by omega)), if_pos (Or.inr h2)]
        exact xch_loop C V T h46 hal x n b (by omega) (by omega) hb
      · rw [if_neg (nI_nlt (by omega) (by omega)), if_neg (fun q => q.elim h h2)]
        exact xch_loop C V T h46 hal x n x (by omega) (by omega) (by omega)
theorem mch_loop {σ : zSt} {D : yD} {nb : Nat → Nat} {n r k a : Nat} (hn9 : n ≤ 9) (M : Ms σ nb (alm n) r k) (G : Gr nb (alm n)) (hr : r ≤ 4) (hk : k < 100) (V : Vd D) (N : MN 3 4 5 6 76 77 78 D σ) (ha : a ≤ 1) : ∀ (d m b : Nat) (h : Nat → Int32), d ≤ alm n + 1 → d < m → b ≤ alm n → Ws σ h → ∃ h2, M_cheapest_c27 m (nI a) (nI b) (ix d) (sw σ 75 h) = some (if a = 0 then nI (chs (TT nb (alm n) r k) (sm D) d b) else nI (sm D (chs (TT nb (alm n) r k) (sm D) d b)), sw σ 75 h2) ∧ Ws σ h2
  | d, 0, b, h, _, hn, _, _ => absurd hn (Nat.not_lt_zero _)
  | 0, m + 1, b, h, _, _, hb, W => by
    have hal := alm_lt hn9
    have N1 : MN 3 4 5 6 76 77 78 D (sw σ 75 h) := MN1_sm (per_sm (Ws_per W)).2.2.1 N
    refine ⟨h, ?_, W⟩
    rw [M_cheapest_c27, if_pos (show ix 0 < 0 by decide)]
    by_cases e : a = 0
    · rw [if_neg (fun q => q (by rw [e]; rfl)), if_pos e]
      rfl
    · rw [if_pos (show ¬ nI a = 0 from fun q => e ((nI_inj (b := 0) (by omega) (by omega)).mp q)), if_neg e, msum_ok N1 V (by omega), ob_some]
      rfl
  | x + 1, m + 1, b, h, hd, hn, hb, W => by
    have hal := alm_lt hn9
    have s1 := sm_lt V x
    have s2 := sm_lt V b
    have N1 : MN 3 4 5 6 76 77 78 D (sw σ 75 h) := MN1_sm (per_sm (Ws_per W)).2.2.1 N
    have hsub : sub x (alm n) := sub_alm (by omega)
    have et : TT nb (alm n) r k x = tim nb (alm n) r k x := TT_in hsub
    show ∃ h2, M_cheapest_c27 (m + 1) (nI a) (nI b) (nI x) (sw σ 75 h) = _ ∧ _
    rw [M_cheapest_c27, if_neg (nI_pos (by omega)), msum_ok N1 V (by omega), ob_some, msum_ok N1 V (by omega), ob_some, ix_s, chs]
    by_cases h2 : sm D b < sm D x
    · rw [if_pos (nI_lt h2 (by omega)), if_pos (Or.inr h2)]
      exact mch_loop hn9 M G hr hk V N ha x m b h (by omega) (by omega) hb W
    · rw [if_neg (nI_nlt (by omega) (by omega)), misf_ok (Ws_Ms W M) G hr hk hsub, zb2_sm, su_sw]
      have W1 := Ws_upd (v := tim nb (alm n) r k x) W (i := 15) (by omega) (by omega)
      by_cases h3 : tim nb (alm n) r k x = mI
      · rw [if_pos h3, if_pos rfl, if_pos (Or.inl (et.trans h3))]
        exact mch_loop hn9 M G hr hk V N ha x m b _ (by omega) (by omega) hb W1
      · rw [if_neg h3, if_neg i10, if_neg (show ¬ (TT nb (alm n) r k x = mI ∨ sm D b < sm D x) from fun q => q.elim (fun q => h3 (et.symm.trans q)) h2)]
        exact mch_loop hn9 M G hr hk V N ha x m x _ (by omega) (by omega) (by omega) W1
theorem alm_pos {n : Nat} (h : 1 ≤ n) (h2 : n ≤ 9) : nI (alm n) - 1 = ix (alm n) := by
  have key : ∀ n, n < 10 → 1 ≤ n → nI (alm n) - 1 = ix (alm n) := by decide +kernel
  exact key n (by omega) h
theorem q_cheapest (x : Int32) : Qs (X_cheapest x) (M_cheapest x) := by
  intro D V
  have hn := V.1.2
  have hal := alm_lt hn
  rcases rng x 0 1 (by decide) (by decide) with h | ⟨h, h2, h3⟩ | ⟨j, _, hj, rfl⟩
  · refine ⟨-1, As_of fun σ I => if_pos h, As_of fun σ I => ?_⟩
    unfold M_cheapest
    rw [show M_in x 0 1 σ = some 0 from min_lo h, ob_some, if_neg (fun q => q rfl)]
  · refine ⟨-1, As_of fun σ I => (if_neg h).trans (if_neg h3), As_of fun σ I => ?_⟩
    unfold M_cheapest
    rw [show M_in x 0 1 σ = some 0 from min_hi h h2, ob_some, if_neg (fun q => q rfl)]
  · refine ⟨if j = 0 then nI (chs (TT (nbm (dT D)) (alm (dn D)) (dr D) (dk D)) (sm D) (alm (dn D)) (alm (dn D))) else nI (sm D (chs (TT (nbm (dT D)) (alm (dn D)) (dr D) (dk D)) (sm D) (alm (dn D)) (alm (dn D)))), fun σ I => ?_, fun σ I => ?_⟩
    · obtain ⟨σ2, e, L⟩ := ftk_ok I
      obtain ⟨σ3, e3, T⟩ := flt_of L (nbm_Gr V) V.2.1.1 (dk_lt V)
      have C3 := (In_sm T.1 I).2.1
      have hc := (chs_in (t := TT (nbm (dT D)) (alm (dn D)) (dr D) (dk D)) (w := sm D) (al := alm (dn D)) (alm (dn D)) (alm (dn D)) (by omega) (Nat.le_refl _) TT_al.1).1
      have e4 := xch_loop (t := TT (nbm (dT D)) (alm (dn D)) (dr D) (dk D)) C3 V TT_tok T.2.2 hal (alm (dn D) + 1) zF (alm (dn D)) (Nat.le_refl _) (zF_big (by omega)) (Nat.le_refl _)
      rw [chs_top] at e4
      refine ⟨σ3, ?_, T.1⟩
      unfold X_cheapest Fcg_cheapestSet
      rw [if_neg (nI_pos (by omega)), if_pos (show nI j ≤ 1 from nI_le hj (by decide)), e, ob_some, e3, ob_some, T.2.1, xsum_ok C3 V hal, ob_some]
      rw [show ix (alm (dn D) + 1) = nI (alm (dn D)) from rfl] at e4
      rw [e4, ob_some]
      by_cases e5 : j = 0
      · rw [if_neg (fun q => q (by rw [e5]; rfl)), if_pos e5]
      · rw [if_pos (show ¬ nI j = 0 from fun q => e5 ((nI_inj (b := 0) (by omega) (by omega)).mp q)), xsum_ok C3 V (by omega), ob_some, if_neg e5]
    · obtain ⟨g, e, L⟩ := mtk_ok I
      have M := Mst_Ms (al := alm (dn D)) I L
      have I2 := In_sm (Mst_per (al := alm (dn D)) (g := g)) I
      obtain ⟨h, e2, W⟩ := mch_loop (a := j) hn M (nbm_Gr V) V.2.1.1 (dk_lt V) V I2.2.2.1 hj (alm (dn D)) zF (alm (dn D)) (Mst σ (alm (dn D)) g 75) (by omega) (zF_big (by omega)) (Nat.le_refl _) (fun _ _ => rfl)
      rw [sw_self] at e2
      refine ⟨_, ?_, Sm_tr Mst_per (Ws_per W)⟩
      unfold M_cheapest
      rw [show M_in (nI j) 0 1 σ = some 1 from min_ok (Nat.zero_le _) hj (by decide), ob_some, if_pos i10, e, ob_some, M.1, alm_pos V.1.1 hn]
      exact e2

/-! PURE: the graph is loaded on both sides -/
def alm (n : Nat) : Nat := 2 ^ n - 1
theorem alm_bit {n i : Nat} : (alm n).testBit i = true ↔ i < n := by
  unfold alm
  rw [Nat.testBit_two_pow_sub_one, decide_eq_true_eq]
theorem alm_lt {n : Nat} (h : n ≤ 9) : alm n < 512 := by
  have : ∀ n, n ≤ 9 → alm n < 512 := by decide
  exact this n h
theorem all_ok {σ : zSt} {n : Nat} (h : σ 1 0 = nI n) (hn : n ≤ 9) : Net_all σ = some (nI (alm n)) := by
  have key : ∀ n, n ≤ 9 → some (((1 : Int32) <<< (nI n &&& 31)) - 1) = some (nI (alm n)) := by decide +kernel
  unfold Net_all
  rw [h, key n hn]
theorem mwh_ok {σ : zSt} {n : Nat} (h : σ 75 3 = nI n) (hn : n ≤ 9) : M_whole σ = some (nI (alm n)) := by
  have key : ∀ n, n ≤ 9 → some (((1 : Int32) <<< (nI n &&& 31)) - 1) = some (nI (alm n)) := by decide +kernel
  unfold M_whole
  rw [h, key n hn]
theorem nbf_bit {T : Nat → Nat → Int32} {i j l : Nat} : (nbf T i j).testBit l = true ↔ l = j ∧ j ≠ i ∧ T i j ≠ 0 := by
  unfold nbf
  rw [ite_bit, Nat.testBit_two_pow, decide_eq_true_eq]
  constructor
  · rintro ⟨h, rfl⟩; exact ⟨rfl, h⟩
  · rintro ⟨rfl, h⟩; exact ⟨h, rfl⟩
theorem nbm_bit {T : Nat → Nat → Int32} {i l : Nat} : (nbm T i).testBit l = true ↔ l < 9 ∧ l ≠ i ∧ T i l ≠ 0 := by
  unfold nbm
  rw [orf_bit]
  constructor
  · rintro ⟨j, hj, h⟩
    rw [nbf_bit] at h
    obtain ⟨rfl, h⟩ := h
    exact ⟨hj, h⟩
  · rintro ⟨h1, h2⟩
    exact ⟨l, h1, nbf_bit.mpr ⟨rfl, h2⟩⟩
theorem nbm_lt {T : Nat → Nat → Int32} {i : Nat} : nbm T i < 512 := orf_lt (m := 9) (fun j hj => by
  unfold nbf
  split
  · exact two_lt j hj
  · decide)
theorem nbm_Gr {D : yD} (V : Vd D) : Gr (nbm (dT D)) (alm (dn D)) := by
  obtain ⟨⟨h1, h2⟩, _, _, hsy, hz, _⟩ := V
  refine ⟨alm_lt h2, fun i => nbm_lt, fun i j h => ?_, fun i h => ?_⟩
  · rw [nbm_bit] at h
    rw [alm_bit]
    refine Nat.not_le.mp fun q => h.2.2 ?_
    rw [hsy]
    exact hz j i q
  · rw [alm_bit] at h
    refine Nat.eq_of_testBit_eq fun j => ?_
    rw [Nat.zero_testBit]
    cases e : (nbm (dT D) i).testBit j
    · rfl
    · rw [nbm_bit] at e
      exact absurd (hz i j (by omega)) e.2.2
theorem orf_cut {f : Nat → Nat} {n : Nat} (h : ∀ i, n ≤ i → f i = 0) : ∀ d, orf f (n + d) = orf f n
  | 0 => rfl
  | d + 1 => by
    show orf f (n + d) ||| f (n + d) = _
    rw [h _ (by omega), Nat.or_zero]
    exact orf_cut h d
theorem isl_ok {σ : zSt} {D : yD} {i j : Nat} (M : MN 3 4 5 6 76 77 78 D σ) (hi : i < 9) (hj : j < 9) : M_isLine (nI i) (nI j) σ = some (if j ≠ i ∧ dT D i j ≠ 0 then nI 1 else nI 0) := by
  unfold M_isLine
  by_cases h : i = j
  · subst h
    rw [if_pos rfl, if_neg (fun q => q.1 rfl)]
    rfl
  · have h2 : ¬ nI i = nI j := fun q => h ((nI_inj (by omega) (by omega)).mp q)
    have h9 : (9 : Int32) * nI i + nI j = nI (9 * i + j) := by rw [z_9, pk_mul, nI_add]
    rw [if_neg h2, h9, ld76 (by omega), M.2.1 i hi j hj, ob_some]
    by_cases h3 : dT D i j = 0
    · rw [if_pos h3, if_neg (fun q => q.2 h3)]
      rfl
    · rw [if_neg h3, if_pos ⟨fun q => h q.symm, h3⟩]
      rfl
theorem mnb_ok {σ : zSt} {D : yD} {i : Nat} (M : MN 3 4 5 6 76 77 78 D σ) (V : Vd D) (hi : i < 9) : M_neighbours (nI i) σ = some (nI (nbm (dT D) i)) := by
  have hn := V.1.2
  have e1 : nbm (dT D) i = orf (nbf (dT D) i) (dn D) := by
    have := orf_cut (f := nbf (dT D) i) (n := dn D) (fun j hj => by
      unfold nbf
      rw [if_neg]
      intro q
      exact q.2 (by rw [V.2.2.2.1]; exact V.2.2.2.2.1 j i hj)) (9 - dn D)
    rw [show dn D + (9 - dn D) = 9 by omega] at this
    exact this
  rw [e1]
  refine lup (fun n (q : Int32 × Int32) => M_neighbours_c4 σ n (nI i) q.1 q.2) (fun j => (nI (orf (nbf (dT D) i) j), nI j)) (dn D) (some (nI (orf (nbf (dT D) i) (dn D)))) (fun n => ?_) (fun n j hj => ?_) (dn D) zF 0 (by omega) (zF_big (by omega))
  · show M_neighbours_c4 σ (n + 1) (nI i) (nI _) (nI (dn D)) = _
    rw [M_neighbours_c4, M.1.1, if_pos (nI_le (Nat.le_refl _) (by omega))]
  · show M_neighbours_c4 σ (n + 1) (nI i) (nI _) (nI j) = M_neighbours_c4 σ n (nI i) (nI _) (nI (j + 1))
    rw [M_neighbours_c4, M.1.1, if_neg (nI_ge hj (by omega)), isl_ok M hi (by omega), ob_some, orf_s]
    by_cases h : j ≠ i ∧ dT D i j ≠ 0
    · rw [if_pos h, if_neg (show ¬ nI 1 = 0 by decide), sh1 (by omega), zlet_ap, pb_or, nI_1]
      unfold nbf
      rw [if_pos h]
    · rw [if_neg h, if_pos (show nI 0 = 0 from rfl), show (0 : Int32) = nI 0 from rfl, pb_or, nI_1]
      unfold nbf
      rw [if_neg h]
def Mst (σ : zSt) (al : Nat) (g : Nat → Int32) : zSt := sw (su σ 75 14 (nI al)) 83 g
theorem Mst_per {σ : zSt} {al : Nat} {g : Nat → Int32} : Sm per σ (Mst σ al g) := Sm_tr (Sm_su rfl) (Sm_sw (fun _ => rfl))
theorem su_sw0 (σ : zSt) (a i : Nat) (v : Int32) : su σ a i v = sw σ a (upd (σ a) i v) := by
  have := su_sw σ a i (σ a) v
  rw [sw_self] at this
  exact this
theorem Mst_su {σ : zSt} {al : Nat} {g : Nat → Int32} {i : Nat} {v : Int32} : su (Mst σ al g) 83 i v = Mst σ al (upd g i v) := su_sw _ _ _ _ _
theorem Mst_Ms {σ : zSt} {D : yD} {nb : Nat → Nat} {al : Nat} {g : Nat → Int32} (I : In D σ) (h : ∀ i, i < 9 → g i = nI (nb i)) : Ms (Mst σ al g) nb al (dr D) (dk D) := by
  have M := I.2.2.1
  refine ⟨?_, fun i hi => ?_, ?_, ?_⟩
  · unfold Mst; rw [sw_ap, if_neg (by decide), su_ap]; rfl
  · unfold Mst; rw [sw_ap, if_pos rfl]; exact h i hi
  · unfold Mst; rw [sw_ap, if_neg (by decide), su_ap]; exact M.1.2.1
  · unfold Mst; rw [sw_ap, if_neg (by decide), su_ap]; exact M.1.2.2.1
theorem mtk_ok {σ : zSt} {D : yD} (I : In D σ) : ∃ g, M_takes σ = some (Mst σ (alm (dn D)) g) ∧ ∀ i, i < 9 → g i = nI (nbm (dT D) i) := by
  have V := I.1
  have hn := V.1.2
  have M : ∀ g, MN 3 4 5 6 76 77 78 D (Mst σ (alm (dn D)) g) := fun g => MN1_sm (per_sm Mst_per).2.2.1 I.2.2.1
  unfold M_takes
  rw [mwh_ok I.2.2.1.1.1 hn, ob_some, zlet_ap]
  have key : ∀ (d n i : Nat) (g : Nat → Int32), i + d = 9 → d < n → (∀ j, j < i → g j = nI (nbm (dT D) j)) → ∃ g2, M_takes_c10 n (nI i) (Mst σ (alm (dn D)) g) = some (Mst σ (alm (dn D)) g2) ∧ ∀ j, j < 9 → g2 j = nI (nbm (dT D) j) := by
    intro d
    induction d with
    | zero =>
      intro n i g hi hn2 hg
      obtain ⟨n, rfl⟩ : ∃ n2, n = n2 + 1 := ⟨n - 1, by omega⟩
      obtain rfl : i = 9 := by omega
      exact ⟨g, rfl, hg⟩
    | succ d ih =>
      intro n i g hi hn2 hg
      obtain ⟨n, rfl⟩ : ∃ n2, n = n2 + 1 := ⟨n - 1, by omega⟩
      have h9 : ¬ (9 : Int32) ≤ nI i := nI_ge (b := 9) (by omega) (by decide)
      have step : ∀ v, v = nI (nbm (dT D) i) → ∃ g2, M_takes_c38 (M_takes_c10 n) (nI i) v (nI i) (Mst σ (alm (dn D)) g) = some (Mst σ (alm (dn D)) g2) ∧ ∀ j, j < 9 → g2 j = nI (nbm (dT D) j) := by
        intro v hv
        unfold M_takes_c38
        rw [st83 (by omega), ob_some, Mst_su, nI_1]
        refine ih n (i + 1) _ (by omega) (by omega) (fun j hj => ?_)
        by_cases e : j = i
        · rw [e, pk_us, hv]
        · rw [pk_un e]; exact hg j (by omega)
      rw [M_takes_c10, if_neg h9, (M g).1.1]
      by_cases hd : dn D ≤ i
      · rw [if_pos (nI_le hd (by omega))]
        refine step _ ?_
        have : nbm (dT D) i = 0 := (nbm_Gr V).2.2.2 i (by rw [alm_bit]; omega)
        rw [this]
        rfl
      · rw [if_neg (nI_ge (by omega) (by omega)), mnb_ok (M g) V (by omega), ob_some]
        exact step _ rfl
  have := key 9 zF 0 (σ 83) rfl (zF_big (by decide)) (fun j hj => absurd hj (Nat.not_lt_zero _))
  have e : Mst σ (alm (dn D)) (σ 83) = su σ 75 14 (nI (alm (dn D))) := by
    unfold Mst
    have h : su σ 75 14 (nI (alm (dn D))) 83 = σ 83 := by
      funext j
      rw [su_ap]
      exact if_neg (fun q => absurd q.1 (by decide))
    rw [← h, sw_self]
  rw [e] at this
  exact this
theorem cpy9 {σ : zSt} {a0 a : Nat} (h1 : Nat.beq (zkd a0) 100 = true) (h2 : Nat.beq (zkd a) 100 = true) (h3 : zln a0 = 9) (h4 : zln a = 9) : zcpy σ a0 0 a 0 9 = some (sw σ a (va_cpy (σ a0) (σ a) 0 0 9)) := by
  unfold zcpy
  rw [h1, h2, h3, h4]
  rfl
theorem tp_or : ∀ m, m < 9 → ∀ x, x < 2 ^ m → 2 ^ m + x = 2 ^ m ||| x := by decide +kernel
theorem ar_add {nb : Nat → Nat} {m x : Nat} (hm : m < 9) (hx : x < 2 ^ m) : ar nb (2 ^ m + x) = nb m ||| ar nb x := by
  rw [tp_or m hm x hx]
  refine bits_ext fun j => ?_
  rw [or_bit, ar_bit, ar_bit]
  constructor
  · rintro ⟨i, hi, h1, h2⟩
    rcases or_bit.mp h1 with h1 | h1
    · rw [Nat.testBit_two_pow, decide_eq_true_eq] at h1
      exact Or.inl (h1 ▸ h2)
    · exact Or.inr ⟨i, hi, h1, h2⟩
  · rintro (h | ⟨i, hi, h1, h2⟩)
    · exact ⟨m, hm, or_bit.mpr (Or.inl (by simp)), h⟩
    · exact ⟨i, hi, or_bit.mpr (Or.inr h1), h2⟩
theorem two_2 : ∀ m, m < 9 → 2 ^ m + 2 ^ m ≤ 512 := by decide
theorem fa_in {σ : zSt} {nb : Nat → Nat} {m : Nat} (h44 : ∀ i, i < 9 → σ 44 i = nI (nb i)) (hm : m < 9) (c9 : Int32 → zSt → Option zSt) : ∀ (d n i : Nat) (g : Nat → Int32), i + d = 2 ^ m → d < n → (∀ x, x < 2 ^ m + i → g x = nI (ar nb x)) → ∃ g2, Fcg_fillAround_c31 c9 n (nI m) (nI (2 ^ m)) (nI i) (sw σ 45 g) = c9 (nI (m + 1)) (sw σ 45 g2) ∧ ∀ x, x < 2 ^ (m + 1) → g2 x = nI (ar nb x)
  | d, 0, i, g, _, hn, _ => absurd hn (Nat.not_lt_zero _)
  | 0, n + 1, i, g, hi, hn, hg => by
    have h2 := two_2 m hm
    rw [Fcg_fillAround_c31, if_pos (nI_le (by omega) (by omega)), nI_1]
    refine ⟨g, rfl, fun x hx => hg x ?_⟩
    rw [Nat.pow_succ] at hx
    omega
  | d + 1, n + 1, i, g, hi, hn, hg => by
    have h2 := two_2 m hm
    have e44 : sw σ 45 g 44 m = nI (nb m) := by rw [sw_ap, if_neg (by decide)]; exact h44 m hm
    have e45 : sw σ 45 g 45 i = nI (ar nb i) := by rw [sw_ap, if_pos rfl]; exact hg i (by omega)
    rw [Fcg_fillAround_c31, if_neg (nI_ge (by omega) (by omega)), ld44 hm, e44, ob_some, ld45 (by omega), e45, ob_some, nI_add, st45 (by omega), ob_some, su_sw, nI_1, pb_or]
    refine fa_in h44 hm c9 d n (i + 1) _ (by omega) (by omega) (fun x hx => ?_)
    by_cases e : x = 2 ^ m + i
    · rw [e, pk_us, ar_add hm (by omega)]
    · rw [pk_un e]; exact hg x (by omega)
theorem fa_out {σ : zSt} {nb : Nat → Nat} {al : Nat} (h43 : σ 43 0 = nI al) (hal : al < 512) (h44 : ∀ i, i < 9 → σ 44 i = nI (nb i)) : ∀ (d n m : Nat) (g : Nat → Int32), m + d = 9 → d < n → (∀ x, x < 2 ^ m → g x = nI (ar nb x)) → ∃ g2, Fcg_fillAround_c9 n (nI m) (sw σ 45 g) = some (sw σ 45 g2) ∧ ∀ x, x ≤ al → g2 x = nI (ar nb x)
  | d, 0, m, g, _, hn, _ => absurd hn (Nat.not_lt_zero _)
  | 0, n + 1, m, g, hm, hn, hg => by
    obtain rfl : m = 9 := by omega
    exact ⟨g, rfl, fun x hx => hg x (by omega)⟩
  | d + 1, n + 1, m, g, hm, hn, hg => by
    have h2 := two_2 m (by omega)
    have hp : 0 < 2 ^ m := Nat.pow_pos (by decide)
    have e43 : sw σ 45 g 43 0 = nI al := by rw [sw_ap, if_neg (by decide)]; exact h43
    rw [Fcg_fillAround_c9, if_neg (show ¬ (9 : Int32) ≤ nI m from nI_ge (b := 9) (by omega) (by decide)), e43, sh1 (by omega)]
    by_cases h : al < 2 ^ m
    · rw [if_pos (nI_lt h (by omega))]
      exact ⟨g, rfl, fun x hx => hg x (by omega)⟩
    · rw [if_neg (nI_nlt (by omega) (by omega))]
      obtain ⟨g2, h3, h4⟩ := fa_in h44 (by omega : m < 9) (Fcg_fillAround_c9 n) (2 ^ m) zF 0 g (by omega) (zF_big (by omega)) (fun x hx => hg x (by omega))
      rw [show (0 : Int32) = nI 0 from rfl, h3]
      exact fa_out h43 hal h44 d n (m + 1) g2 (by omega) (by omega) h4
theorem fa_ok {σ : zSt} {nb : Nat → Nat} {al : Nat} (h43 : σ 43 0 = nI al) (hal : al < 512) (h44 : ∀ i, i < 9 → σ 44 i = nI (nb i)) : ∃ g, Fcg_fillAround σ = some (sw σ 45 g) ∧ ∀ x, x ≤ al → g x = nI (ar nb x) := by
  unfold Fcg_fillAround
  rw [show zst σ 45 0 0 = some (su σ 45 0 0) from st45 (i := 0) (by decide), ob_some, su_sw0]
  have e0 : ar nb 0 = 0 := by
    refine Nat.eq_of_testBit_eq fun j => ?_
    rw [Nat.zero_testBit]
    cases e : (ar nb 0).testBit j
    · rfl
    · obtain ⟨i, _, h, _⟩ := ar_bit.mp e
      rw [Nat.zero_testBit] at h
      cases h
  exact fa_out h43 hal h44 9 zF 0 _ rfl (zF_big (by decide)) (fun x hx => by
    obtain rfl : x = 0 := by rw [Nat.pow_zero] at hx; omega
    rw [pk_us, e0]
    rfl)

/-! PURE: chains -/
def updN (g : Nat → Nat) (i v : Nat) : Nat → Nat := fun j => if j = i then v else g j
/-- the least point from i on that forces by itself, or n -/
def lfo (nb : Nat → Nat) (s n : Nat) : Nat → Nat → Nat
  | 0, _ => n
  | d + 1, i => if s.testBit i = true ∧ pc (sd (nb i) s) = 1 then i else lfo nb s n d (i + 1)
/-- whom each point forces (9: nobody) -/
def chn (nb : Nat → Nat) (n : Nat) : Nat → Nat → (Nat → Nat) → Nat → Nat
  | 0, _, g => g
  | d + 1, s, g => if lfo nb s n n 0 = n then g else chn nb n d (s ||| sd (nb (lfo nb s n n 0)) s) (updN g (lfo nb s n n 0) (pc (sd (nb (lfo nb s n n 0)) s - 1)))
def ec (z : Int32) (g : Nat → Nat) (i : Nat) : Int32 := if g i = 9 then z else nI (g i)
theorem lfo_at {nb : Nat → Nat} {s n : Nat} : ∀ d i, i + d = n → lfo nb s n d i = n ∨ (lfo nb s n d i < n ∧ s.testBit (lfo nb s n d i) = true ∧ pc (sd (nb (lfo nb s n d i)) s) = 1)
  | 0, i, _ => Or.inl rfl
  | d + 1, i, h => by
    rw [lfo]
    by_cases q : s.testBit i = true ∧ pc (sd (nb i) s) = 1
    · rw [if_pos q]; exact Or.inr ⟨by omega, q⟩
    · rw [if_neg q]; exact lfo_at d (i + 1) (by omega)
theorem one_bit {m : Nat} (hm : m < 512) (h : pc m = 1) : ∃ q, q < 9 ∧ m = 2 ^ q := by
  have key : ∀ m, m < 512 → pc m = 1 → ∃ q, q < 9 ∧ m = 2 ^ q := by decide +kernel
  exact key m hm h
theorem pc_pre : ∀ q, q < 9 → pc (2 ^ q - 1) = q := by decide +kernel
theorem jb_pre (σ : zSt) {q : Nat} (hq : q < 9) : Jdk_bitCount (nI (2 ^ q) - 1) σ = some (nI q) := by
  have h := two_lt q hq
  have hp : 0 < 2 ^ q := Nat.pow_pos (by decide)
  rw [show nI (2 ^ q) - 1 = nI (2 ^ q - 1) from pk_sub (b := 1) hp, Jdk_bitCount_ok (by omega), pc_pre q hq]
theorem mI_ne {a : Nat} (h : a < 2 ^ 31) : ¬ nI a = mI := fun (w : nI a = mI) => mI_neg (w ▸ nI_pos' h)
theorem clf_ok {σ : zSt} {D : yD} {s : Nat} (C : CN 1 2 3 4 6 D σ) (V : Vd D) (hs : s < 512) : Chn_leastForcer (nI s) σ = some (if lfo (nbm (dT D)) s (dn D) (dn D) 0 = dn D then mI else nI (lfo (nbm (dT D)) s (dn D) (dn D) 0)) := by
  have hn := V.1.2
  have key : ∀ (d n i : Nat), i + d = dn D → d < n → Chn_leastForcer_c2 σ n (nI s) (nI i) = some (if lfo (nbm (dT D)) s (dn D) d i = dn D then mI else nI (lfo (nbm (dT D)) s (dn D) d i)) := by
    intro d
    induction d with
    | zero =>
      intro n i hi hm
      obtain ⟨n, rfl⟩ : ∃ n2, n = n2 + 1 := ⟨n - 1, by omega⟩
      rw [Chn_leastForcer_c2, C.1.1, if_pos (nI_le (by omega) (by omega)), lfo, if_pos rfl]
      rfl
    | succ d ih =>
      intro n i hi hm
      obtain ⟨n, rfl⟩ : ∃ n2, n = n2 + 1 := ⟨n - 1, by omega⟩
      have h5 : sd (nbm (dT D) i) s < 512 := sd512 nbm_lt
      have hp := pc_le (sd (nbm (dT D) i) s)
      rw [Chn_leastForcer_c2, C.1.1, if_neg (nI_ge (by omega) (by omega)), lfo]
      by_cases h1 : s.testBit i = true
      · rw [if_neg (fun q => q ((pb_is1 (by omega) (by omega)).mpr h1)), ld2 (by omega), C.2.1 i (by omega), ob_some, pb_sd, Jdk_bitCount_ok h5, ob_some]
        by_cases h2 : pc (sd (nbm (dT D) i) s) = 1
        · rw [if_neg (fun q => q (by rw [h2]; rfl)), if_pos (show s.testBit i = true ∧ pc (sd (nbm (dT D) i) s) = 1 from ⟨h1, h2⟩), if_neg (show ¬ i = dn D by omega)]
        · rw [if_pos (show ¬ nI (pc (sd (nbm (dT D) i) s)) = 1 from fun q => h2 ((nI_inj (b := 1) (by omega) (by omega)).mp q)), if_neg (show ¬ (s.testBit i = true ∧ pc (sd (nbm (dT D) i) s) = 1) from fun q => h2 q.2), nI_1]
          exact ih n (i + 1) (by omega) (by omega)
      · rw [if_pos (show ¬ (nI s >>> (nI i &&& 31)) &&& 1 = 1 from fun q => h1 ((pb_is1 (by omega) (by omega)).mp q)), if_neg (show ¬ (s.testBit i = true ∧ pc (sd (nbm (dT D) i) s) = 1) from fun q => h1 q.1), nI_1]
        exact ih n (i + 1) (by omega) (by omega)
  exact key (dn D) zF 0 (by omega) (zF_big (by omega))
theorem ec_upd {z : Int32} {g : Nat → Nat} {h : Nat → Int32} {i q : Nat} (hq : q < 9) (he : ∀ j, j < 9 → h j = ec z g j) : ∀ j, j < 9 → upd h i (nI q) j = ec z (updN g i q) j := fun j hj => by
  unfold ec updN
  by_cases e : j = i
  · rw [e, pk_us, if_pos rfl, if_neg (by omega)]
  · rw [pk_un e, if_neg e]
    exact he j hj
theorem cfo_loop {σ : zSt} {D : yD} (C : CN 1 2 3 4 6 D σ) (V : Vd D) : ∀ (d m c s : Nat) (g : Nat → Nat) (h : Nat → Int32), c + d = 9 → d < m → s < 512 → (∀ j, j < 9 → h j = ec mI g j) → ∃ h2, Chn_force_c13 m (nI s) (nI c) (sw σ 48 h) = some (sw σ 48 h2) ∧ ∀ j, j < 9 → h2 j = ec mI (chn (nbm (dT D)) (dn D) d s g) j
  | d, 0, c, s, g, h, _, hn, _, _ => absurd hn (Nat.not_lt_zero _)
  | 0, m + 1, c, s, g, h, hc, _, _, he => by
    obtain rfl : c = 9 := by omega
    exact ⟨h, rfl, he⟩
  | d + 1, m + 1, c, s, g, h, hc, hm, hs, he => by
    have hn := V.1.2
    have C1 : CN 1 2 3 4 6 D (sw σ 48 h) := CN1_sm (Sm_sw (fun _ => rfl)) C
    rw [Chn_force_c13, if_neg (show ¬ (9 : Int32) ≤ nI c from nI_ge (b := 9) (by omega) (by decide)), clf_ok C1 V hs, ob_some, chn]
    rcases lfo_at (nb := nbm (dT D)) (s := s) (n := dn D) (dn D) 0 (by omega) with h1 | ⟨h1, h2, h3⟩
    · rw [if_pos h1, if_neg (show ¬ ¬ mI = -1 from fun q => q rfl), if_pos h1]
      exact ⟨h, rfl, he⟩
    · have hne : ¬ lfo (nbm (dT D)) s (dn D) (dn D) 0 = dn D := by omega
      rw [if_neg hne, if_neg hne]
      generalize lfo (nbm (dT D)) s (dn D) (dn D) 0 = i at *
      have h5 : sd (nbm (dT D) i) s < 512 := sd512 nbm_lt
      obtain ⟨q, hq, eq⟩ := one_bit h5 h3
      rw [if_pos (show ¬ nI i = -1 from mI_ne (by omega)), ld2 (by omega), C1.2.1 i (by omega), ob_some, pb_sd, eq, jb_pre _ hq, ob_some, st48 (by omega), ob_some, su_sw, pb_or, zlet_ap, nI_1, pc_pre q hq]
      exact cfo_loop C V d m (c + 1) (s ||| 2 ^ q) _ _ (by omega) (by omega) (or512 hs (two_lt q hq)) (ec_upd hq he)
theorem sd_al {nb : Nat → Nat} {al s i : Nat} (G : Gr nb al) : nb i &&& sd al s = sd (nb i) s := bits_ext fun j => by
  rw [and_bit, sd_bit', sd_bit']
  constructor
  · rintro ⟨h1, h2, h3⟩; exact ⟨h1, h3⟩
  · rintro ⟨h1, h3⟩; exact ⟨h1, G.2.2.1 i j h1, h3⟩
theorem mff_ok {σ : zSt} {nb : Nat → Nat} {al s i : Nat} (h14 : σ 75 14 = nI al) (h83 : ∀ i, i < 9 → σ 83 i = nI (nb i)) (G : Gr nb al) (hs : s < 512) (hi : i < 9) : M_forces (nI i) (nI s) 0 1 σ = some (nI (if s.testBit i = true ∧ pc (sd (nb i) s) = 1 then sd (nb i) s else 0)) := by
  have e := mfo_ok (by_ := 0) (k := 1) h14 h83 G.2.1 G.1 hs hi (by decide) (by decide)
  rw [show (0 : Int32) = nI 0 from rfl, show (1 : Int32) = nI 1 from rfl, e]
  congr 2
  have e2 : mf nb al 0 1 i s = if s.testBit i = true then (if pc (nb i &&& sd al s) ≤ 1 then nb i &&& sd al s else 0) else 0 := rfl
  rw [e2, sd_al G]
  by_cases h : s.testBit i = true
  · rw [if_pos h]
    by_cases h2 : pc (sd (nb i) s) = 1
    · rw [if_pos (show s.testBit i = true ∧ pc (sd (nb i) s) = 1 from ⟨h, h2⟩), if_pos (show pc (sd (nb i) s) ≤ 1 by omega)]
    · rw [if_neg (show ¬ (s.testBit i = true ∧ pc (sd (nb i) s) = 1) from fun q => h2 q.2)]
      by_cases h3 : pc (sd (nb i) s) ≤ 1
      · rw [if_pos h3]
        have h5 : sd (nb i) s < 512 := sd512 (G.2.1 i)
        have h4 : ∀ m, m < 512 → pc m = 0 → m = 0 := by decide +kernel
        exact h4 _ h5 (by omega)
      · rw [if_neg h3]
  · rw [if_neg h, if_neg (show ¬ (s.testBit i = true ∧ pc (sd (nb i) s) = 1) from fun q => h q.1)]
theorem pc_grow {a b j : Nat} (ha : a < 512) (hb : b < 512) (h : ¬ a.testBit j = true) (h2 : b.testBit j = true) : pc a + 1 ≤ pc (a ||| b) := by
  have := gr_pc (a := a) (b := a ||| b) ha (or512 ha hb) (fun i h => or_bit.mpr (Or.inl h)) (fun e => h (by rw [← e]; exact or_bit.mpr (Or.inr h2)))
  omega
def Cm (σ : zSt) (nb : Nat → Nat) (al n : Nat) : Prop := σ 75 14 = nI al ∧ (∀ i, i < 9 → σ 83 i = nI (nb i)) ∧ σ 75 3 = nI n
theorem Cm_sw {σ : zSt} {nb : Nat → Nat} {al n : Nat} (C : Cm σ nb al n) (h : Nat → Int32) : Cm (sw σ 84 h) nb al n := by
  refine ⟨?_, fun i hi => ?_, ?_⟩ <;> rw [sw_ap, if_neg (by decide)]
  · exact C.1
  · exact C.2.1 i hi
  · exact C.2.2
theorem mc_find {σ : zSt} {q i s : Nat} {h : Nat → Int32} (hq : q < 9) (hi : i < 9) (c30 : Int32 → Int32 → zSt → Option zSt) : ∀ (d m j : Nat), j + d = q → d < m → M_chains_c62 c30 m (nI s) (nI i) (nI (2 ^ q)) (nI j) (sw σ 84 h) = c30 (nI (s ||| 2 ^ q)) 0 (sw σ 84 (upd h i (nI q)))
  | d, 0, j, _, hm => absurd hm (Nat.not_lt_zero _)
  | 0, m + 1, j, hj, _ => by
    obtain rfl : j = q := by omega
    have e : (2 ^ j).testBit j = true := by simp
    rw [M_chains_c62, mhas_ok (two_lt j hq) (by omega), e, ob_some, if_pos (show ¬ nI true.toNat = 0 by decide), st84 hi, ob_some, su_sw, pb_or]
  | d + 1, m + 1, j, hj, hm => by
    have e : (2 ^ q).testBit j = false := by rw [Nat.testBit_two_pow]; exact decide_eq_false (by omega)
    rw [M_chains_c62, mhas_ok (two_lt q hq) (by omega), e, ob_some, if_neg (show ¬ ¬ nI false.toNat = 0 from fun q => q rfl), nI_1]
    exact mc_find hq hi c30 d m (j + 1) (by omega) (by omega)
theorem sd511 {a i : Nat} (ha : a < 512) (h : sd a 511 = i) : i = 0 := by
  subst h
  refine zero512 (sd512 ha) (fun j hj => ?_)
  rw [sd_bit]
  have : (511 : Nat).testBit j = true := by
    have key : ∀ j, j < 9 → (511 : Nat).testBit j = true := by decide
    exact key j hj
  rw [this]
  simp
theorem mcn_loop {σ : zSt} {nb : Nat → Nat} {al n : Nat} (C : Cm σ nb al n) (G : Gr nb al) (hn : n ≤ 9) : ∀ (d e m i s : Nat) (g : Nat → Nat) (h : Nat → Int32), i + e = n → 20 * d + e < m → s < 512 → 9 ≤ pc s + d → lfo nb s n n 0 = lfo nb s n e i → (∀ j, j < 9 → h j = ec (-2) g j) → ∃ h2, M_chains_c30 m (nI s) (nI i) (sw σ 84 h) = some (sw σ 84 h2) ∧ ∀ j, j < 9 → h2 j = ec (-2) (chn nb n d s g) j
  | d, e, 0, i, s, g, h, _, hm, _, _, _, _ => absurd hm (Nat.not_lt_zero _)
  | d, 0, m + 1, i, s, g, h, hi, hm, hs, hp, hl, he => by
    have C1 := Cm_sw C h
    rw [M_chains_c30, C1.2.2, if_pos (nI_le (by omega) (by omega))]
    refine ⟨h, rfl, ?_⟩
    have : chn nb n d s g = g := by
      cases d with
      | zero => rfl
      | succ d => rw [chn, if_pos (show lfo nb s n n 0 = n from hl)]
    rw [this]
    exact he
  | d, e + 1, m + 1, i, s, g, h, hi, hm, hs, hp, hl, he => by
    have C1 := Cm_sw C h
    have h5 : sd (nb i) s < 512 := sd512 (G.2.1 i)
    rw [M_chains_c30, C1.2.2, if_neg (nI_ge (by omega) (by omega)), mff_ok C1.1 C1.2.1 G hs (by omega), ob_some]
    rw [lfo] at hl
    by_cases hf : s.testBit i = true ∧ pc (sd (nb i) s) = 1
    · rw [if_pos hf] at hl ⊢
      obtain ⟨q, hq, eq⟩ := one_bit h5 hf.2
      have h2q := two_lt q hq
      have hb : (sd (nb i) s).testBit q = true := by rw [eq]; simp
      have hns : ¬ s.testBit q = true := (sd_bit'.mp hb).2
      have hgr := pc_grow hs h2q hns (by simp : (2 ^ q).testBit q = true)
      match d, hm, hp with
      | 0, hm, hp =>
        have e511 := pc_full hs (by omega)
        rw [e511] at hf
        have := sd511 (G.2.1 i) rfl
        rw [this] at hf
        exact absurd hf.2 (by decide)
      | d + 1, hm, hp =>
        have hne : ¬ nI (sd (nb i) s) = 0 := by
          rw [eq]
          have key : ∀ q, q < 9 → ¬ nI (2 ^ q) = 0 := by decide +kernel
          exact key q hq
        rw [if_pos hne, eq, show (0 : Int32) = nI 0 from rfl, mc_find hq (by omega) _ q zF 0 (by omega) (zF_big (by omega)), show (0 : Int32) = nI 0 from rfl]
        obtain ⟨h2, a1, a2⟩ := mcn_loop C G hn d n m 0 (s ||| 2 ^ q) (updN g i q) _ (by omega) (by omega) (or512 hs h2q) (by omega) rfl (ec_upd (i := i) hq he)
        refine ⟨h2, a1, ?_⟩
        rw [chn, hl, if_neg (show ¬ i = n by omega), eq, pc_pre q hq]
        exact a2
    · rw [if_neg hf] at hl ⊢
      rw [if_neg (show ¬ ¬ nI 0 = 0 from fun q => q rfl), nI_1]
      exact mcn_loop C G hn d e m (i + 1) s g h (by omega) (by omega) hs hp hl he

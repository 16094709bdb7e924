/-! PURE: the class's graph: as it is, without a point, with a line turned -/
def Cst (σ : zSt) (h f : Nat → Int32) : zSt := sw (sw σ 43 h) 44 f
theorem Cst_per {σ : zSt} {h f : Nat → Int32} : Sm per σ (Cst σ h f) := Sm_tr (Sm_sw (fun _ => rfl)) (Sm_sw (fun _ => rfl))
theorem Cst_43 {σ : zSt} {h f : Nat → Int32} {i : Nat} {v : Int32} : su (Cst σ h f) 43 i v = Cst σ (upd h i v) f := by
  funext b j
  unfold Cst
  rw [su_ap, sw_ap, sw_ap, sw_ap, sw_ap]
  by_cases h1 : b = 43
  · by_cases h2 : j = i <;> simp [h1, h2, upd]
  · simp [h1]
theorem Cst_44 {σ : zSt} {h f : Nat → Int32} {i : Nat} {v : Int32} : su (Cst σ h f) 44 i v = Cst σ h (upd f i v) := su_sw _ _ _ _ _
theorem Cst_r43 {σ : zSt} {h f : Nat → Int32} {i : Nat} : Cst σ h f 43 i = h i := by
  unfold Cst
  rw [sw_ap, if_neg (by decide), sw_ap, if_pos rfl]
theorem Cst_r44 {σ : zSt} {h f : Nat → Int32} {i : Nat} : Cst σ h f 44 i = f i := by
  unfold Cst
  rw [sw_ap, if_pos rfl]
theorem fcp_ok {σ : zSt} {D : yD} (I : In D σ) : ∃ h f, Fcg_copy σ = some (Cst σ h f) ∧ (h 0 = nI (alm (dn D)) ∧ h 1 = nI (dr D) ∧ h 2 = nI (dk D)) ∧ ∀ i, i < 9 → f i = nI (nbm (dT D) i) := by
  have C := I.2.1
  unfold Fcg_copy
  rw [all_ok C.1.1 I.1.1.2, ob_some, zlet_ap, zlet_ap, zlet_ap]
  have e1 : su σ 43 0 (nI (alm (dn D))) 1 1 = nI (dr D) := by rw [su_ap]; exact C.1.2.1
  have e2 : su (su σ 43 0 (nI (alm (dn D)))) 43 1 (nI (dr D)) 1 2 = nI (dk D) := by rw [su_ap, su_ap]; exact C.1.2.2.1
  rw [e1, e2, cpy9 rfl rfl rfl rfl, ob_some]
  refine ⟨upd (upd (upd (σ 43) 0 (nI (alm (dn D)))) 1 (nI (dr D))) 2 (nI (dk D)), va_cpy (σ 2) (σ 44) 0 0 9, ?_, ⟨?_, ?_, ?_⟩, fun i hi => ?_⟩
  · unfold Cst
    rw [su_sw0 σ, su_sw, su_sw]
    congr 2
  · rw [pk_un (by decide), pk_un (by decide), pk_us]
  · rw [pk_un (by decide), pk_us]
  · rw [pk_us]
  · rw [pk_cpy_in (by omega) (by omega)]
    have := C.2.1 i hi
    rw [show 0 + (i - 0) = i by omega]
    exact this
/-- a state in which the class's graph is loaded, and nothing that is kept has changed -/
def Ld (σ σ2 : zSt) (nb : Nat → Nat) (al r k : Nat) : Prop := Sm per σ σ2 ∧ Fs σ2 nb al r k
theorem Cst_Ld {σ : zSt} {h f : Nat → Int32} {nb : Nat → Nat} {al r k : Nat} (hal : al < 512) (h0 : h 0 = nI al) (h1 : h 1 = nI r) (h2 : h 2 = nI k) (h44 : ∀ i, i < 9 → f i = nI (nb i)) : ∃ σ2, Fcg_fillAround (Cst σ h f) = some σ2 ∧ Ld σ σ2 nb al r k := by
  obtain ⟨g, e1, e2⟩ := fa_ok (σ := Cst σ h f) (nb := nb) (Cst_r43.trans h0) hal (fun i hi => Cst_r44.trans (h44 i hi))
  refine ⟨_, e1, Sm_tr Cst_per (Sm_sw (fun _ => rfl)), ?_, ?_, ?_, fun i hi => ?_, fun x hx => ?_⟩
  · rw [sw_ap, if_neg (by decide), Cst_r43]; exact h0
  · rw [sw_ap, if_neg (by decide), Cst_r43]; exact h1
  · rw [sw_ap, if_neg (by decide), Cst_r43]; exact h2
  · rw [sw_ap, if_neg (by decide), Cst_r44]; exact h44 i hi
  · rw [sw_ap, if_pos rfl]; exact e2 x hx
theorem ftk_ok {σ : zSt} {D : yD} (I : In D σ) : ∃ σ2, Fcg_take σ = some σ2 ∧ Ld σ σ2 (nbm (dT D)) (alm (dn D)) (dr D) (dk D) := by
  obtain ⟨h, f, e, ⟨h0, h1, h2⟩, h3⟩ := fcp_ok I
  obtain ⟨σ2, e2, L⟩ := Cst_Ld (σ := σ) (alm_lt I.1.1.2) h0 h1 h2 h3
  refine ⟨σ2, ?_, L⟩
  unfold Fcg_take
  rw [e, ob_some, e2, ob_some]
/-- the graph without point p -/
def nbd (nb : Nat → Nat) (p i : Nat) : Nat := if i = p then 0 else sd (nb i) (2 ^ p)
/-- the graph with the line i j turned -/
def nbt (nb : Nat → Nat) (i j x : Nat) : Nat := if x = i then nb i ^^^ 2 ^ j else if x = j then nb j ^^^ 2 ^ i else nb x
theorem two_bit {p j : Nat} : (2 ^ p).testBit j = true ↔ p = j := by rw [Nat.testBit_two_pow, decide_eq_true_eq]
theorem nbd_Gr {nb : Nat → Nat} {al p : Nat} (G : Gr nb al) : Gr (nbd nb p) (sd al (2 ^ p)) := by
  obtain ⟨h1, h2, h3, h4⟩ := G
  refine ⟨sd512 h1, fun i => ?_, fun i j h => ?_, fun i h => ?_⟩
  · unfold nbd
    split
    · decide
    · exact sd512 (h2 i)
  · unfold nbd at h
    by_cases e : i = p
    · rw [if_pos e, Nat.zero_testBit] at h; cases h
    · rw [if_neg e, sd_bit'] at h
      exact sd_bit'.mpr ⟨h3 i j h.1, h.2⟩
  · unfold nbd
    by_cases e : i = p
    · rw [if_pos e]
    · rw [if_neg e, h4 i (fun q => h (sd_bit'.mpr ⟨q, fun q2 => e (two_bit.mp q2).symm⟩))]
      unfold sd
      rw [Nat.zero_and]
      rfl
theorem xor_bit {a b j : Nat} : (a ^^^ b).testBit j = true ↔ ¬ (a.testBit j = true ↔ b.testBit j = true) := by
  rw [Nat.testBit_xor]
  cases a.testBit j <;> cases b.testBit j <;> simp
theorem nbt_Gr {nb : Nat → Nat} {n i j : Nat} (hn : n ≤ 9) (G : Gr nb (alm n)) (hi : i < n) (hj : j < n) : Gr (nbt nb i j) (alm n) := by
  obtain ⟨h1, h2, h3, h4⟩ := G
  have x1 : ∀ a q, a < 512 → q < 9 → a ^^^ 2 ^ q < 512 := fun a q ha hq => Nat.xor_lt_two_pow (n := 9) ha (two_lt q hq)
  refine ⟨h1, fun x => ?_, fun x y h => ?_, fun x h => ?_⟩
  · unfold nbt
    split
    · exact x1 _ _ (h2 i) (by omega)
    · split
      · exact x1 _ _ (h2 j) (by omega)
      · exact h2 x
  · unfold nbt at h
    have key : ∀ a q, q < n → (nb a ^^^ 2 ^ q).testBit y = true → (alm n).testBit y = true := fun a q hq h => by
      rw [xor_bit, two_bit] at h
      by_cases e : q = y
      · rw [alm_bit]; omega
      · exact h3 a y (Classical.byContradiction fun g => h ⟨fun w => absurd w g, fun w => absurd w e⟩)
    split at h
    · exact key i j hj h
    · split at h
      · exact key j i hi h
      · exact h3 x y h
  · rw [alm_bit] at h
    unfold nbt
    rw [if_neg (by omega), if_neg (by omega)]
    exact h4 x (by rw [alm_bit]; exact h)
theorem ftw_ok {σ : zSt} {D : yD} {p : Nat} (I : In D σ) (hp : p < dn D) : ∃ σ2, Fcg_takeWithout (nI p) σ = some σ2 ∧ Ld σ σ2 (nbd (nbm (dT D)) p) (sd (alm (dn D)) (2 ^ p)) (dr D) (dk D) := by
  have hn := I.1.1.2
  have hal := alm_lt hn
  obtain ⟨h, f, e, ⟨h0, h1, h2⟩, h3⟩ := fcp_ok I
  unfold Fcg_takeWithout
  rw [e, ob_some, sh1 (by omega), zlet_ap, zlet_ap, Cst_r43, h0, pb_sd, Cst_43]
  have key : ∀ (d n i : Nat) (g : Nat → Int32), i + d = 9 → d < n → (∀ j, j < i → g j = nI (sd (nbm (dT D) j) (2 ^ p))) → (∀ j, i ≤ j → j < 9 → g j = nI (nbm (dT D) j)) → ∃ σ2, Fcg_takeWithout_c24 n (nI p) (nI (2 ^ p) ^^^ (-1)) (nI i) (Cst σ (upd h 0 (nI (sd (alm (dn D)) (2 ^ p)))) g) = some σ2 ∧ Ld σ σ2 (nbd (nbm (dT D)) p) (sd (alm (dn D)) (2 ^ p)) (dr D) (dk D) := by
    intro d
    induction d with
    | zero =>
      intro n i g hi hn2 hg _
      obtain ⟨n, rfl⟩ : ∃ n2, n = n2 + 1 := ⟨n - 1, by omega⟩
      obtain rfl : i = 9 := by omega
      rw [Fcg_takeWithout_c24, if_pos (show (9 : Int32) ≤ nI 9 by decide), st44 (by omega), ob_some, Cst_44]
      obtain ⟨σ2, e2, L⟩ := Cst_Ld (σ := σ) (h := upd h 0 (nI (sd (alm (dn D)) (2 ^ p)))) (f := upd g p 0) (nb := nbd (nbm (dT D)) p) (sd512 (b := 2 ^ p) hal) pk_us ((pk_un (by decide)).trans h1) ((pk_un (by decide)).trans h2) (fun i hi => by
        unfold nbd
        by_cases e : i = p
        · rw [e, pk_us, if_pos rfl]; rfl
        · rw [pk_un e, if_neg e]; exact hg i hi)
      exact ⟨σ2, by rw [e2, ob_some], L⟩
    | succ d ih =>
      intro n i g hi hn2 hg hg2
      obtain ⟨n, rfl⟩ : ∃ n2, n = n2 + 1 := ⟨n - 1, by omega⟩
      rw [Fcg_takeWithout_c24, if_neg (show ¬ (9 : Int32) ≤ nI i from nI_ge (b := 9) (by omega) (by decide)), ld44 (by omega), Cst_r44, hg2 i (Nat.le_refl _) (by omega), ob_some, pb_sd, st44 (by omega), ob_some, Cst_44, nI_1]
      refine ih n (i + 1) _ (by omega) (by omega) (fun j hj => ?_) (fun j hj hj2 => ?_)
      · by_cases e : j = i
        · rw [e, pk_us]
        · rw [pk_un e]; exact hg j (by omega)
      · rw [pk_un (by omega)]; exact hg2 j (by omega) hj2
  exact key 9 zF 0 f rfl (zF_big (by decide)) (fun j hj => absurd hj (Nat.not_lt_zero _)) (fun j _ hj => h3 j hj)
theorem ftf_ok {σ : zSt} {D : yD} {i j : Nat} (I : In D σ) (hi : i < dn D) (hj : j < dn D) (hij : i ≠ j) : ∃ σ2, Fcg_takeFlipped (nI i) (nI j) σ = some σ2 ∧ Ld σ σ2 (nbt (nbm (dT D)) i j) (alm (dn D)) (dr D) (dk D) := by
  have hn := I.1.1.2
  obtain ⟨h, f, e, ⟨h0, h1, h2⟩, h3⟩ := fcp_ok I
  unfold Fcg_takeFlipped
  rw [e, ob_some, ld44 (by omega), Cst_r44, h3 i (by omega), ob_some, sh1 (by omega), st44 (by omega), ob_some, Cst_44, ld44 (by omega), Cst_r44, pk_un hij.symm, h3 j (by omega), ob_some, sh1 (by omega), st44 (by omega), ob_some, Cst_44, pb_xor, pb_xor]
  obtain ⟨σ2, e2, L⟩ := Cst_Ld (σ := σ) (h := h) (f := upd (upd f i (nI (nbm (dT D) i ^^^ 2 ^ j))) j (nI (nbm (dT D) j ^^^ 2 ^ i))) (nb := nbt (nbm (dT D)) i j) (alm_lt hn) h0 h1 h2 (fun x hx => by
    unfold nbt
    by_cases e1 : x = i
    · rw [e1, if_pos rfl, pk_un hij, pk_us]
    · by_cases e2 : x = j
      · rw [e2, if_neg hij.symm, if_pos rfl, pk_us]
      · rw [if_neg e1, if_neg e2, pk_un e2, pk_un e1]; exact h3 x hx)
  exact ⟨σ2, by rw [e2, ob_some], L⟩
theorem mdr_ok {σ : zSt} {al p : Nat} {nb : Nat → Nat} {g : Nat → Int32} (hal : al < 512) (hp : p < 9) (hg : ∀ i, i < 9 → g i = nI (nb i)) : ∃ g2, M_drops (nI p) (Mst σ al g) = some (Mst σ (sd al (2 ^ p)) g2) ∧ ∀ i, i < 9 → g2 i = nI (nbd nb p i) := by
  have e14 : Mst σ al g 75 14 = nI al := by unfold Mst; rw [sw_ap, if_neg (by decide), su_ap]; rfl
  have es : su (Mst σ al g) 75 14 (nI (sd al (2 ^ p))) = Mst σ (sd al (2 ^ p)) g := by
    funext b j
    unfold Mst
    rw [su_ap, sw_ap, sw_ap, su_ap, su_ap]
    by_cases h1 : b = 75
    · by_cases h2 : j = 14 <;> simp [h1, h2]
    · simp [h1]
  unfold M_drops
  rw [e14, sh1 (by omega), pb_sd, zlet_ap, es]
  have key : ∀ (d n i : Nat) (g : Nat → Int32), i + d = 9 → d < n → (∀ j, j < i → g j = nI (nbd nb p j)) → (∀ j, i ≤ j → j < 9 → g j = nI (nb j)) → ∃ g2, M_drops_c16 n (nI p) (nI i) (Mst σ (sd al (2 ^ p)) g) = some (Mst σ (sd al (2 ^ p)) g2) ∧ ∀ i, i < 9 → g2 i = nI (nbd nb p i) := by
    intro d
    induction d with
    | zero =>
      intro n i g hi hn2 hg _
      obtain ⟨n, rfl⟩ : ∃ n2, n = n2 + 1 := ⟨n - 1, by omega⟩
      obtain rfl : i = 9 := by omega
      exact ⟨g, rfl, hg⟩
    | succ d ih =>
      intro n i g hi hn2 hg hg2
      obtain ⟨n, rfl⟩ : ∃ n2, n = n2 + 1 := ⟨n - 1, by omega⟩
      have step : ∀ v, v = nI (nbd nb p i) → ∃ g2, M_drops_c48 (M_drops_c16 n) (nI p) (nI i) v (nI i) (Mst σ (sd al (2 ^ p)) g) = some (Mst σ (sd al (2 ^ p)) g2) ∧ ∀ i, i < 9 → g2 i = nI (nbd nb p i) := by
        intro v hv
        unfold M_drops_c48
        rw [st83 (by omega), ob_some, Mst_su, nI_1]
        refine ih n (i + 1) _ (by omega) (by omega) (fun j hj => ?_) (fun j hj hj2 => ?_)
        · by_cases e : j = i
          · rw [e, pk_us, hv]
          · rw [pk_un e]; exact hg j (by omega)
        · rw [pk_un (by omega)]; exact hg2 j (by omega) hj2
      have e83 : Mst σ (sd al (2 ^ p)) g 83 i = nI (nb i) := by unfold Mst; rw [sw_ap, if_pos rfl]; exact hg2 i (Nat.le_refl _) (by omega)
      rw [M_drops_c16, if_neg (show ¬ (9 : Int32) ≤ nI i from nI_ge (b := 9) (by omega) (by decide))]
      by_cases e : i = p
      · rw [if_neg (fun q => q (by rw [e]))]
        refine step 0 ?_
        unfold nbd
        rw [if_pos e]
        rfl
      · rw [if_pos (show ¬ nI i = nI p from fun q => e ((nI_inj (by omega) (by omega)).mp q)), ld83 (by omega), e83, ob_some, sh1 (by omega), pb_sd]
        refine step _ ?_
        unfold nbd
        rw [if_neg e]
  exact key 9 zF 0 g rfl (zF_big (by decide)) (fun j hj => absurd hj (Nat.not_lt_zero _)) (fun j _ hj => hg j hj)
theorem mtu_ok {σ : zSt} {al i j : Nat} {nb : Nat → Nat} {g : Nat → Int32} (hi : i < 9) (hj : j < 9) (hij : i ≠ j) (hg : ∀ i, i < 9 → g i = nI (nb i)) : ∃ g2, M_turns (nI i) (nI j) (Mst σ al g) = some (Mst σ al g2) ∧ ∀ x, x < 9 → g2 x = nI (nbt nb i j x) := by
  have r83 : ∀ g i, Mst σ al g 83 i = g i := fun g i => by unfold Mst; rw [sw_ap, if_pos rfl]
  unfold M_turns
  rw [ld83 hi, r83, hg i hi, ob_some, sh1 (by omega), st83 hi, ob_some, Mst_su, ld83 hj, r83, pk_un hij.symm, hg j hj, ob_some, sh1 (by omega), st83 hj, ob_some, Mst_su, pb_xor, pb_xor]
  refine ⟨_, rfl, fun x hx => ?_⟩
  unfold nbt
  by_cases e1 : x = i
  · rw [e1, if_pos rfl, pk_un hij, pk_us]
  · by_cases e2 : x = j
    · rw [e2, if_neg hij.symm, if_pos rfl, pk_us]
    · rw [if_neg e1, if_neg e2, pk_un e2, pk_un e1]; exact hg x hx

/-! PURE: a question: both answer the same, and nothing that is kept changes -/
def Q2 (x m : zSt → Option (Int32 × zSt)) : Prop := ∀ σ, Inv σ → ∃ r σ1 σ2, x σ = some (r, σ1) ∧ m σ1 = some (r, σ2) ∧ Inv σ2
def As (D : yD) (f : zSt → Option (Int32 × zSt)) (r : Int32) : Prop := ∀ σ, In D σ → ∃ σ2, f σ = some (r, σ2) ∧ Sm per σ σ2
def Qs (x m : zSt → Option (Int32 × zSt)) : Prop := ∀ D, Vd D → ∃ r, As D x r ∧ As D m r
theorem Qs_Q2 {x m : zSt → Option (Int32 × zSt)} (h : Qs x m) : Q2 x m := by
  rintro σ ⟨D, I⟩
  obtain ⟨r, h1, h2⟩ := h D I.1
  obtain ⟨σ1, e1, s1⟩ := h1 σ I
  obtain ⟨σ2, e2, s2⟩ := h2 σ1 (In_sm s1 I)
  exact ⟨r, σ1, σ2, e1, e2, D, In_sm s2 (In_sm s1 I)⟩
theorem rng (x : Int32) (a b : Nat) (ha : a < 2 ^ 31) (hb : b < 2 ^ 31) : x < nI a ∨ (¬ x < nI a ∧ nI b < x ∧ ¬ x ≤ nI b) ∨ ∃ j, a ≤ j ∧ j ≤ b ∧ x = nI j := by
  by_cases h : x < nI a
  · exact Or.inl h
  · by_cases h2 : nI b < x
    · exact Or.inr (Or.inl ⟨h, h2, fun q => absurd h2 (Int32.not_lt.mpr q)⟩)
    · have h3 : nI a ≤ x := Int32.not_lt.mp h
      have h4 : x ≤ nI b := Int32.not_lt.mp h2
      have h0 : ¬ x < 0 := fun q => by
        rw [Int32.lt_iff_toInt_lt] at q
        rw [Int32.le_iff_toInt_le, nI_toInt ha] at h3
        have : (0 : Int32).toInt = 0 := rfl
        omega
      obtain ⟨j, hj, rfl⟩ := nI_of2 (n := b) (nI_toInt hb) h0 h4
      exact Or.inr (Or.inr ⟨j, (nI_leI ha (by omega)).mp h3, hj, rfl⟩)
theorem min_lo {x lo hi : Int32} {σ : zSt} (h : x < lo) : M_in x lo hi σ = some 0 := if_pos h
theorem min_hi {x lo hi : Int32} {σ : zSt} (h : ¬ x < lo) (h2 : hi < x) : M_in x lo hi σ = some 0 := (if_neg h).trans (if_pos h2)
theorem min_ok {a b j : Nat} {σ : zSt} (h : a ≤ j) (h2 : j ≤ b) (hb : b < 2 ^ 31) : M_in (nI j) (nI a) (nI b) σ = some 1 := (if_neg (nI_nlt h (by omega))).trans (if_neg (nI_nlt h2 hb))
theorem sub_alm {n s : Nat} (h : s ≤ alm n) : sub s (alm n) := fun i hi => by
  rw [alm_bit]
  have : 0 < 2 ^ n := Nat.pow_pos (by decide)
  unfold alm at h
  exact small_bit (by omega) hi
theorem set_cases (D : yD) (V : Vd D) (x : Int32) : (∀ σ, In D σ → Net_hasSet x σ = some 0 ∧ M_isSet x σ = some 0) ∨ ∃ s, x = nI s ∧ sub s (alm (dn D)) ∧ ∀ σ, In D σ → Net_hasSet x σ = some 1 ∧ M_isSet x σ = some 1 := by
  have hn := V.1.2
  have hal := alm_lt hn
  rcases rng x 0 (alm (dn D)) (by decide) (by omega) with h | ⟨h, h2, _⟩ | ⟨s, _, h2, rfl⟩
  · refine Or.inl fun σ I => ⟨if_pos h, ?_⟩
    unfold M_isSet
    rw [mwh_ok I.2.2.1.1.1 hn, ob_some, show (0 : Int32) = nI 0 from rfl, min_lo h, ob_some]
    rfl
  · refine Or.inl fun σ I => ⟨?_, ?_⟩
    · unfold Net_hasSet
      rw [if_neg (show ¬ x < 0 from h), all_ok I.2.1.1.1 hn, ob_some, if_pos h2]
    · unfold M_isSet
      rw [mwh_ok I.2.2.1.1.1 hn, ob_some, show (0 : Int32) = nI 0 from rfl, min_hi h h2, ob_some]
      rfl
  · refine Or.inr ⟨s, rfl, sub_alm h2, fun σ I => ⟨?_, ?_⟩⟩
    · unfold Net_hasSet
      rw [if_neg (nI_pos (by omega)), all_ok I.2.1.1.1 hn, ob_some, if_neg (nI_nlt h2 (by omega))]
    · unfold M_isSet
      rw [mwh_ok I.2.2.1.1.1 hn, ob_some, show (0 : Int32) = nI 0 from rfl, min_ok (Nat.zero_le _) h2 (by omega), ob_some]
      rfl
theorem pt_cases (D : yD) (V : Vd D) (x : Int32) : (∀ σ, In D σ → Net_hasPoint x σ = some 0 ∧ M_isPoint x σ = some 0) ∨ ∃ a, x = nI a ∧ a < dn D ∧ ∀ σ, In D σ → Net_hasPoint x σ = some 1 ∧ M_isPoint x σ = some 1 := by
  have hn := V.1
  have e1 : nI (dn D) - 1 = nI (dn D - 1) := pk_sub (b := 1) (by omega)
  rcases rng x 0 (dn D - 1) (by decide) (by omega) with h | ⟨h, h2, h3⟩ | ⟨s, _, h2, rfl⟩
  · refine Or.inl fun σ I => ⟨if_pos h, ?_⟩
    unfold M_isPoint
    rw [show (0 : Int32) = nI 0 from rfl, min_lo h, ob_some]
    rfl
  · have h4 : nI (dn D) ≤ x := by
      rw [Int32.lt_iff_toInt_lt, nI_toInt (by omega)] at h2
      rw [Int32.le_iff_toInt_le, nI_toInt (by omega)]
      omega
    refine Or.inl fun σ I => ⟨?_, ?_⟩
    · unfold Net_hasPoint
      rw [if_neg (show ¬ x < 0 from h), I.2.1.1.1, if_pos h4]
    · unfold M_isPoint
      rw [I.2.2.1.1.1, e1, show (0 : Int32) = nI 0 from rfl, min_hi h h2, ob_some]
      rfl
  · refine Or.inr ⟨s, rfl, by omega, fun σ I => ⟨?_, ?_⟩⟩
    · unfold Net_hasPoint
      rw [if_neg (nI_pos (by omega)), I.2.1.1.1, if_neg (nI_ge (by omega) (by omega))]
    · unfold M_isPoint
      rw [I.2.2.1.1.1, e1, show (0 : Int32) = nI 0 from rfl, min_ok (Nat.zero_le _) h2 (by omega), ob_some]
      rfl
theorem i10 : ¬ (1 : Int32) = 0 := by decide
theorem As_of {D : yD} {f : zSt → Option (Int32 × zSt)} {r : Int32} (h : ∀ σ, In D σ → f σ = some (r, σ)) : As D f r := fun σ I => ⟨σ, h σ I, Sm_refl⟩
theorem dk_lt {D : yD} (V : Vd D) : dk D < 100 := by have := V.2.1.2.2; omega
theorem q_round (x : Int32) : Qs (X_round x) (M_round_ x) := by
  intro D V
  rcases set_cases D V x with h | ⟨s, rfl, hs, h⟩
  · refine ⟨-1, As_of fun σ I => ?_, As_of fun σ I => ?_⟩
    · unfold X_round
      rw [(h σ I).1, ob_some, if_neg (fun q => q rfl)]
    · unfold M_round_
      rw [(h σ I).2, ob_some, if_neg (fun q => q rfl)]
  · refine ⟨nI (xnx (nbm (dT D)) (alm (dn D)) (dr D) (dk D) s true), fun σ I => ?_, fun σ I => ?_⟩
    · obtain ⟨σ2, e, L⟩ := ftk_ok I
      refine ⟨σ2, ?_, L.1⟩
      have e1 := fnx_ok L.2 (nbm_Gr V) V.2.1.1 (dk_lt V) hs true
      unfold X_round
      rw [(h σ I).1, ob_some, if_pos i10, e, ob_some, show (1 : Int32) = nI true.toNat from rfl, e1, ob_some]
    · obtain ⟨g, e, L⟩ := mtk_ok I
      refine ⟨_, ?_, Mst_per (al := alm (dn D)) (g := g)⟩
      obtain ⟨M1, M2, M3, M4⟩ := Mst_Ms (al := alm (dn D)) I L
      have e1 := mrd_ok (i := 0) M1 M2 (nbm_Gr V) hs V.2.1.1 (dk_lt V) (by decide)
      unfold M_round_
      rw [(h σ I).2, ob_some, if_pos i10, e, ob_some, M3, M4, show (0 : Int32) = nI 0 from rfl, e1, ob_some]
      rfl
theorem q_closure (x : Int32) : Qs (X_closure x) (M_closure x) := by
  intro D V
  rcases set_cases D V x with h | ⟨s, rfl, hs, h⟩
  · refine ⟨-1, As_of fun σ I => ?_, As_of fun σ I => ?_⟩
    · unfold X_closure
      rw [(h σ I).1, ob_some, if_neg (fun q => q rfl)]
    · unfold M_closure
      rw [(h σ I).2, ob_some, if_neg (fun q => q rfl)]
  · refine ⟨nI (rsq (nbm (dT D)) (alm (dn D)) (dr D) (dk D) s 9), fun σ I => ?_, fun σ I => ?_⟩
    · obtain ⟨σ2, e, L⟩ := ftk_ok I
      refine ⟨σ2, ?_, L.1⟩
      have e1 := lo_loop L.2 (nbm_Gr V) V.2.1.1 (dk_lt V) hs 9 zF 0 rfl (zF_big (by decide))
      unfold X_closure Fcg_lastOf
      rw [(h σ I).1, ob_some, if_pos i10, e, ob_some, show (0 : Int32) = nI 0 from rfl, show nI s = nI (rsq (nbm (dT D)) (alm (dn D)) (dr D) (dk D) s 0) from rfl, e1, ob_some]
    · obtain ⟨g, e, L⟩ := mtk_ok I
      have M := Mst_Ms (al := alm (dn D)) I L
      have e1 := mcl_ok M (nbm_Gr V) V.2.1.1 (dk_lt V) hs
      refine ⟨su (Mst σ (alm (dn D)) g) 75 15 (tim (nbm (dT D)) (alm (dn D)) (dr D) (dk D) s), ?_, Sm_tr (Mst_per (al := alm (dn D)) (g := g)) (Sm_su rfl)⟩
      unfold M_closure
      rw [(h σ I).2, ob_some, if_pos i10, e, ob_some, e1, zb2_sm]
theorem tim_full {nb : Nat → Nat} {al r k s : Nat} (G : Gr nb al) (hs : sub s al) : (rsq nb al r k s 9 = al) ↔ ¬ tim nb al r k s = mI := by
  constructor
  · intro h q
    have := tms_ge 9 0 9 (by omega) (by omega) (by omega) h
    unfold tim at q
    rw [q] at this
    exact mI_neg this
  · intro h
    rcases tms_cases (nb := nb) (al := al) (r := r) (k := k) (s := s) 9 0 with ⟨h1, _⟩ | ⟨x, _, h2, _, h4⟩
    · exact absurd h1 h
    · have : ∀ d, rsq nb al r k s (x + d) = al := by
        intro d
        induction d with
        | zero => exact h4
        | succ d ih => exact rsq_full G hs ih
      have := this (9 - x)
      rw [show x + (9 - x) = 9 by omega] at this
      exact this
theorem misf_ok {nb : Nat → Nat} {al r k s : Nat} {σ : zSt} (M : Ms σ nb al r k) (G : Gr nb al) (hr : r ≤ 4) (hk : k < 100) (hs : sub s al) : M_isForcing (nI s) σ = some (if tim nb al r k s = mI then 0 else 1, su σ 75 15 (tim nb al r k s)) := by
  have hal := G.1
  have l1 := sub_le (rsq_in (r := r) (k := k) G hs 9)
  have e14 : su σ 75 15 (tim nb al r k s) 75 14 = nI al := by rw [su_ap]; exact M.1
  unfold M_isForcing
  rw [mcl_ok M G hr hk hs, zb2_sm, e14]
  by_cases h : tim nb al r k s = mI
  · rw [if_pos h, if_pos]
    intro q
    exact ((tim_full G hs).mp ((nI_inj (by omega) (by omega)).mp q)) h
  · rw [if_neg h, if_neg]
    intro q
    exact q (by rw [(tim_full G hs).mpr h])
theorem q_time (x : Int32) : Qs (X_time x) (M_time x) := by
  intro D V
  rcases set_cases D V x with h | ⟨s, rfl, hs, h⟩
  · refine ⟨-1, As_of fun σ I => ?_, As_of fun σ I => ?_⟩
    · unfold X_time
      rw [(h σ I).1, ob_some, if_neg (fun q => q rfl)]
    · unfold M_time
      rw [(h σ I).2, ob_some, if_neg (fun q => q rfl)]
  · refine ⟨if tim (nbm (dT D)) (alm (dn D)) (dr D) (dk D) s = mI then -2 else tim (nbm (dT D)) (alm (dn D)) (dr D) (dk D) s, fun σ I => ?_, fun σ I => ?_⟩
    · obtain ⟨σ2, e, L⟩ := ftk_ok I
      refine ⟨σ2, ?_, L.1⟩
      have e1 := ro_loop L.2 (nbm_Gr V) V.2.1.1 (dk_lt V) hs 9 zF 0 rfl (zF_big (by decide))
      unfold X_time Fcg_roundsOf
      rw [(h σ I).1, ob_some, if_pos i10, e, ob_some, show (0 : Int32) = nI 0 from rfl, show nI s = nI (rsq (nbm (dT D)) (alm (dn D)) (dr D) (dk D) s 0) from rfl, e1, ob_some]
      change (if 0 ≤ tim (nbm (dT D)) (alm (dn D)) (dr D) (dk D) s then some (tim (nbm (dT D)) (alm (dn D)) (dr D) (dk D) s, σ2) else _) = _
      rcases tim_cases (nb := nbm (dT D)) (al := alm (dn D)) (r := dr D) (k := dk D) s with q | ⟨t, ht, q⟩
      · rw [q]; rfl
      · rw [q, if_pos (nI_pos' (by omega)), if_neg (fun (w : nI t = mI) => mI_neg (w ▸ nI_pos' (by omega)))]
    · obtain ⟨g, e, L⟩ := mtk_ok I
      have M := Mst_Ms (al := alm (dn D)) I L
      have e1 := misf_ok M (nbm_Gr V) V.2.1.1 (dk_lt V) hs
      refine ⟨su (Mst σ (alm (dn D)) g) 75 15 (tim (nbm (dT D)) (alm (dn D)) (dr D) (dk D) s), ?_, Sm_tr (Mst_per (al := alm (dn D)) (g := g)) (Sm_su rfl)⟩
      unfold M_time
      rw [(h σ I).2, ob_some, if_pos i10, e, ob_some, e1, zb2_sm]
      by_cases q : tim (nbm (dT D)) (alm (dn D)) (dr D) (dk D) s = mI
      · rw [if_pos q, if_pos q, if_pos rfl]
      · rw [if_neg q, if_neg q, if_neg i10, su_ap, if_pos ⟨rfl, rfl⟩]

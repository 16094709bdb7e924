/-! PURE: count -/
def ipf (nb : Nat → Nat) : Nat → Nat → Nat → Nat
  | 0, _, x => x
  | d + 1, i, x => ipf nb d (i + 1) (if x.testBit i = true then x ||| nb i else x)
def ipI (nb : Nat → Nat) (n : Nat) : Nat → Nat → Nat
  | 0, x => x
  | t + 1, x => ipI nb n t (ipf nb n 0 x)
theorem ipf_sub {nb : Nat → Nat} : ∀ (d i x : Nat), sub x (ipf nb d i x)
  | 0, _, _ => fun _ h => h
  | d + 1, i, x => fun j h => by
    unfold ipf
    refine ipf_sub d (i + 1) _ j ?_
    by_cases e : x.testBit i = true
    · rw [if_pos e]; exact or_bit.mpr (Or.inl h)
    · rw [if_neg e]; exact h
theorem ipf_nb {nb : Nat → Nat} : ∀ (d i x p : Nat), i ≤ p → p < i + d → x.testBit p = true → sub (nb p) (ipf nb d i x)
  | 0, i, x, p, h1, h2, _ => absurd h1 (by omega)
  | d + 1, i, x, p, h1, h2, hp => fun j h => by
    unfold ipf
    by_cases e : p = i
    · rw [← e, if_pos hp]
      exact ipf_sub d (p + 1) _ j (or_bit.mpr (Or.inr h))
    · refine ipf_nb d (i + 1) _ p (by omega) (by omega) ?_ j h
      by_cases e2 : x.testBit i = true
      · rw [if_pos e2]; exact or_bit.mpr (Or.inl hp)
      · rw [if_neg e2]; exact hp
theorem ipf_cl {nb : Nat → Nat} {c : Nat} (hc : ∀ i, c.testBit i = true → sub (nb i) c) : ∀ (d i x : Nat), sub x c → sub (ipf nb d i x) c
  | 0, _, _, h => h
  | d + 1, i, x, h => by
    unfold ipf
    refine ipf_cl hc d (i + 1) _ ?_
    by_cases e : x.testBit i = true
    · rw [if_pos e]; exact sub_or h (hc i (h i e))
    · rw [if_neg e]; exact h
theorem ipI_cl {nb : Nat → Nat} {n c : Nat} (hc : ∀ i, c.testBit i = true → sub (nb i) c) : ∀ (t x : Nat), sub x c → sub (ipI nb n t x) c
  | 0, _, h => h
  | t + 1, x, h => ipI_cl hc t _ (ipf_cl hc n 0 x h)
theorem ipI_gr {nb : Nat → Nat} {n al : Nat} (hz : ∀ i, n ≤ i → nb i = 0) : ∀ (t x y : Nat), sub x y → sub (grI nb al t x) (ipI nb n t y)
  | 0, _, _, h => h
  | t + 1, x, y, h => by
    unfold grI ipI
    refine ipI_gr hz t _ _ (fun j hj => ?_)
    rcases grE_bit.mp hj with h1 | ⟨_, i, hi, h2, h3⟩
    · exact ipf_sub n 0 y j (h j h1)
    · have hin : i < n := by
        refine Nat.not_le.mp fun q => ?_
        rw [hz i q, Nat.zero_testBit] at h3
        cases h3
      exact ipf_nb n 0 y i (Nat.zero_le _) (by omega) (h i h2) j h3
theorem ipI_cmp {nb : Nat → Nat} {n q : Nat} (G : Gr nb (alm n)) (hn : n ≤ 9) (hq : q < 9) : ipI nb n 9 (2 ^ q) = cmp nb (alm n) q := by
  have hfix := cmp_fix (nb := nb) G.1 hq
  have hlt := cmp_lt (nb := nb) G.1 hq
  have hc : ∀ i, (cmp nb (alm n) q).testBit i = true → sub (nb i) (cmp nb (alm n) q) := fun i hi j hj => by
    rw [← hfix]
    exact grE_bit.mpr (Or.inr ⟨G.2.2.1 i j hj, i, small_bit (n := 9) hlt hi, hi, hj⟩)
  have h1 : sub (ipI nb n 9 (2 ^ q)) (cmp nb (alm n) q) := ipI_cl hc 9 _ (sub_two cmp_self)
  have h2 : sub (cmp nb (alm n) q) (ipI nb n 9 (2 ^ q)) := ipI_gr (al := alm n) (fun i hi => G.2.2.2 i (by rw [alm_bit]; omega)) 9 _ _ (fun _ h => h)
  exact bits_ext fun j => ⟨h1 j, h2 j⟩
theorem ipf_lt {nb : Nat → Nat} (hn : ∀ i, nb i < 512) : ∀ (d i x : Nat), x < 512 → ipf nb d i x < 512
  | 0, _, _, h => h
  | d + 1, i, x, h => by
    unfold ipf
    refine ipf_lt hn d (i + 1) _ ?_
    split
    · exact or512 h (hn i)
    · exact h
theorem xpo_in {σ : zSt} {D : yD} (V : Vd D) (C : CN 1 2 3 4 6 D σ) (c4 : Int32 → Int32 → Option Int32) : ∀ (d m i x t : Nat), i + d = dn D → d < m → x < 512 → Net_partOf_c13 σ c4 m (nI x) (nI t) (nI i) = c4 (nI (ipf (nbm (dT D)) d i x)) (nI (t + 1))
  | d, 0, i, x, t, _, hm, _ => absurd hm (Nat.not_lt_zero _)
  | 0, m + 1, i, x, t, hi, _, _ => by
    have hn := V.1.2
    rw [Net_partOf_c13, C.1.1, if_pos (nI_le (by omega) (by omega)), nI_1]
    rfl
  | d + 1, m + 1, i, x, t, hi, hm, hx => by
    have hn := V.1.2
    rw [Net_partOf_c13, C.1.1, if_neg (nI_ge (by omega) (by omega)), ipf]
    by_cases e : x.testBit i = true
    · rw [if_neg (fun q => q ((pb_is1 (by omega) (by omega)).mpr e)), ld2 (by omega), ob_some, C.2.1 i (by omega), pb_or, nI_1, if_pos e]
      exact xpo_in V C c4 d m (i + 1) _ t (by omega) (by omega) (or512 hx nbm_lt)
    · rw [if_pos (fun q => e ((pb_is1 (by omega) (by omega)).mp q)), nI_1, if_neg e]
      exact xpo_in V C c4 d m (i + 1) x t (by omega) (by omega) hx
theorem xpo_loop {σ : zSt} {D : yD} (V : Vd D) (C : CN 1 2 3 4 6 D σ) : ∀ (d m t x : Nat), t + d = 9 → d < m → x < 512 → Net_partOf_c4 σ m (nI x) (nI t) = some (nI (ipI (nbm (dT D)) (dn D) d x))
  | d, 0, t, x, _, hm, _ => absurd hm (Nat.not_lt_zero _)
  | 0, m + 1, t, x, ht, _, _ => by
    obtain rfl : t = 9 := by omega
    rw [Net_partOf_c4, if_pos (show (9 : Int32) ≤ nI 9 by decide)]
    rfl
  | d + 1, m + 1, t, x, ht, hm, hx => by
    have hn := V.1.2
    rw [Net_partOf_c4, if_neg (show ¬ (9 : Int32) ≤ nI t from nI_ge (b := 9) (by omega) (by decide)), show (0 : Int32) = nI 0 from rfl, xpo_in V C (Net_partOf_c4 σ m) (dn D) zF 0 x t (Nat.zero_add _) (zF_big (by omega)) hx]
    exact xpo_loop V C d m (t + 1) _ (by omega) (by omega) (ipf_lt (fun _ => nbm_lt) _ _ _ hx)
theorem xpo_ok {σ : zSt} {D : yD} {q : Nat} (V : Vd D) (C : CN 1 2 3 4 6 D σ) (hq : q < 9) : Net_partOf (nI (2 ^ q)) σ = some (nI (cmp (nbm (dT D)) (alm (dn D)) q)) := by
  rw [← ipI_cmp (nbm_Gr V) V.1.2 hq]
  exact xpo_loop V C 9 zF 0 (2 ^ q) rfl (zF_big (by decide)) (two_lt q hq)
def pcu (nb : Nat → Nat) (al : Nat) : Nat → Nat → Nat → Nat → Nat
  | 0, _, _, c => c
  | d + 1, p, left, c => if left.testBit p = true then pcu nb al d (p + 1) (sd left (cmp nb al p)) (c + 1) else pcu nb al d (p + 1) left c
theorem pcu_no {nb : Nat → Nat} {al : Nat} : ∀ (d p left c : Nat), (∀ i, p ≤ i → left.testBit i = false) → pcu nb al d p left c = c
  | 0, _, _, _, _ => rfl
  | d + 1, p, left, c, h => by
    unfold pcu
    rw [if_neg (by rw [h p (Nat.le_refl _)]; decide)]
    exact pcu_no d (p + 1) left c (fun i hi => h i (by omega))
theorem xpt_loop {σ : zSt} {D : yD} (V : Vd D) (C : CN 1 2 3 4 6 D σ) : ∀ (d m q left c t : Nat), q + d = 9 → t ≤ q → d < m → left < 512 → (∀ i, i < q → left.testBit i = false) → Net_parts_c9 σ m (nI left) (nI c) (nI t) = some (nI (pcu (nbm (dT D)) (alm (dn D)) d q left c))
  | d, 0, q, left, c, t, _, _, hm, _, _ => absurd hm (Nat.not_lt_zero _)
  | 0, m + 1, q, left, c, t, hq, ht, _, hl, hb => by
    obtain rfl : q = 9 := by omega
    obtain rfl := zero512 hl hb
    rw [Net_parts_c9]
    by_cases e : (9 : Int32) ≤ nI t
    · rw [if_pos e]; rfl
    · rw [if_neg e, if_pos (show nI 0 = 0 from rfl)]; rfl
  | d + 1, m + 1, q, left, c, t, hq, ht, hm, hl, hb => by
    by_cases h : left.testBit q = true
    · have h0 : ¬ left = 0 := ne_bit h
      rw [Net_parts_c9, if_neg (show ¬ (9 : Int32) ≤ nI t from nI_ge (b := 9) (by omega) (by decide)), if_neg (show ¬ nI left = 0 from nI_ne0 (by omega) (by omega)), lowb hl (by omega : q < 9) h hb, xpo_ok V C (by omega), ob_some, pb_sd, nI_1, nI_1, pcu, if_pos h]
      exact xpt_loop V C d m (q + 1) _ (c + 1) (t + 1) (by omega) (by omega) (by omega) (sd512 hl) (fun i hi => by
        rw [sd_bit]
        by_cases e : i = q
        · rw [e, cmp_self]; simp
        · rw [hb i (by omega)]; rfl)
    · rw [pcu, if_neg h]
      exact xpt_loop V C d (m + 1) (q + 1) left c t (by omega) (by omega) (by omega) hl (fun i hi => by
        by_cases e : i = q
        · rw [e]; exact bt' h
        · exact hb i (by omega))
theorem mpt_loop2 {σ : zSt} {D : yD} (V : Vd D) (M : MN 3 4 5 6 76 77 78 D σ) (h14 : σ 75 14 = nI (alm (dn D))) (h83 : ∀ i, i < 9 → σ 83 i = nI (nbm (dT D) i)) : ∀ (d m q left c : Nat), q + d = 9 → q ≤ dn D → d < m → sub left (alm (dn D)) → M_parts_c13 m (nI left) (nI c) (nI q) σ = some (nI (pcu (nbm (dT D)) (alm (dn D)) d q left c), σ)
  | d, 0, q, left, c, _, _, hm, _ => absurd hm (Nat.not_lt_zero _)
  | 0, m + 1, q, left, c, hq, hqn, _, _ => by
    have hn := V.1.2
    rw [M_parts_c13, M.1.1, if_pos (nI_le (by omega) (by omega))]
    rfl
  | d + 1, m + 1, q, left, c, hq, hqn, hm, hl => by
    have hn := V.1.2
    have hal := alm_lt hn
    have hll := sub_le hl
    by_cases hqe : q = dn D
    · rw [M_parts_c13, M.1.1, if_pos (nI_le (by omega) (by omega)), pcu_no]
      intro i hi
      refine bt' (fun q2 => ?_)
      have := alm_bit.mp (hl i q2)
      omega
    · rw [M_parts_c13, M.1.1, if_neg (nI_ge (by omega) (by omega)), mhas_ok (by omega) (by omega), ob_some, pcu]
      by_cases h : left.testBit q = true
      · rw [h, if_pos (show ¬ nI true.toNat = 0 by decide), h14, mpo_ok h83 hal (by omega), ob_some, pb_sd, nI_1, nI_1, if_pos rfl]
        exact mpt_loop2 V M h14 h83 d m (q + 1) _ (c + 1) (by omega) (by omega) (by omega) (sub_sd hl)
      · rw [bt' h, if_neg (show ¬ ¬ nI false.toNat = 0 from fun q => q rfl), nI_1, if_neg (by decide)]
        exact mpt_loop2 V M h14 h83 d m (q + 1) left c (by omega) (by omega) (by omega) hl
theorem q_count (x : Int32) : Q1 (X_count x) (M_count x) := by
  rintro σ ⟨D, I⟩
  have V := I.1
  have C := I.2.1
  have M := I.2.2.1
  have hn := V.1
  obtain ⟨H, hv, hX, hM⟩ := In_sides I
  unfold X_count M_count
  by_cases h0 : x = 0
  · rw [if_pos h0, if_pos h0]; exact ⟨nI (dn D), σ, by rw [C.1.1], by rw [M.1.1], D, I⟩
  rw [if_neg h0, if_neg h0]
  by_cases h1 : x = 1
  · rw [if_pos h1, if_pos h1]; exact ⟨nI (lnD D), σ, by rw [xlns_ok V C, ob_some], by rw [mlns_ok V M, ob_some], D, I⟩
  rw [if_neg h1, if_neg h1]
  by_cases h2 : x = 2
  · rw [if_pos h2, if_pos h2]; exact ⟨nI (dr D), σ, by rw [C.1.2.1], by rw [M.1.2.1], D, I⟩
  rw [if_neg h2, if_neg h2]
  by_cases h3 : x = 3
  · rw [if_pos h3, if_pos h3]; exact ⟨nI (dk D), σ, by rw [C.1.2.2.1], by rw [M.1.2.2.1], D, I⟩
  rw [if_neg h3, if_neg h3]
  by_cases h4 : x = 4
  · rw [if_pos h4, if_pos h4]; exact ⟨nI (dp D), σ, by rw [C.1.2.2.2], by rw [M.1.2.2.2], D, I⟩
  rw [if_neg h4, if_neg h4]
  by_cases h5 : x = 5
  · obtain ⟨r, a1, a2⟩ := dgl_ok V C M
    rw [if_pos h5, if_pos h5]; exact ⟨r, σ, by rw [a1, ob_some], by rw [a2, ob_some], D, I⟩
  rw [if_neg h5, if_neg h5]
  by_cases h6 : x = 6
  · obtain ⟨r, a1, a2⟩ := dgg_ok V C M
    rw [if_pos h6, if_pos h6]; exact ⟨r, σ, by rw [a1, ob_some], by rw [a2, ob_some], D, I⟩
  rw [if_neg h6, if_neg h6]
  by_cases h7 : x = 7
  · have hal := alm_lt hn.2
    obtain ⟨g, e5, g5⟩ := mtk_ok I
    have J : In D (Mst σ (alm (dn D)) g) := In_sm Mst_per I
    obtain ⟨M1, M2, _, _⟩ := Mst_Ms (al := alm (dn D)) I g5
    rw [if_pos h7, if_pos h7]
    refine ⟨nI (pcu (nbm (dT D)) (alm (dn D)) 9 0 (alm (dn D)) 0), Mst σ (alm (dn D)) g, ?_, ?_, D, J⟩
    · unfold Net_parts
      rw [all_ok C.1.1 hn.2, ob_some, show (0 : Int32) = nI 0 from rfl, xpt_loop V C 9 zF 0 (alm (dn D)) 0 0 rfl (Nat.le_refl _) (zF_big (by decide)) hal (fun i hi => absurd hi (Nat.not_lt_zero _)), ob_some]
    · unfold M_parts
      rw [e5, ob_some, M1, show (0 : Int32) = nI 0 from rfl, mpt_loop2 V J.2.2.1 M1 M2 9 zF 0 (alm (dn D)) 0 rfl (Nat.zero_le _) (zF_big (by decide)) (fun _ h => h), zb2_sm]
  rw [if_neg h7, if_neg h7]
  by_cases h8 : x = 8
  · rw [if_pos h8, if_pos h8]; exact ⟨nI (hd H), σ, by rw [hX.2.2.1.1], by rw [hM.2.1.1], D, I⟩
  rw [if_neg h8, if_neg h8]
  by_cases h9 : x = 9
  · rw [if_pos h9, if_pos h9]; exact ⟨nI (ht H - hd H), σ, by rw [hX.2.2.1.1, hX.2.2.1.2, pk_sub hv.1.1], by rw [hM.2.1.2], D, I⟩
  rw [if_neg h9, if_neg h9]
  by_cases h10 : x = 10
  · obtain ⟨m, _, t1, t2, _⟩ := I.2.2.2.2.2.2.1
    rw [if_pos h10, if_pos h10]; exact ⟨nI m, σ, by rw [t1], by rw [t2], D, I⟩
  · rw [if_neg h10, if_neg h10]; exact ⟨-1, σ, rfl, rfl, D, I⟩

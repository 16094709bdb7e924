/-! PURE: chain, ends -/
theorem fil_loop {σ : zSt} {a N : Nat} {v : Int32} (hk : Nat.beq (zkd a) 100 = true) (hl : zln a = N) (hN : N < 2 ^ 30) : ∀ (d m i : Nat) (f : Nat → Int32), i + d = N → d < m → (∀ j, j < i → f j = v) → ∃ f2, Jdk_fill_c5 m a v (nI i) (nI N) (sw σ a f) = some (sw σ a f2) ∧ ∀ j, j < N → f2 j = v
  | d, 0, i, f, _, hm, _ => absurd hm (Nat.not_lt_zero _)
  | 0, m + 1, i, f, hi, _, hf => by
    obtain rfl : i = N := by omega
    rw [Jdk_fill_c5, if_pos (nI_le (Nat.le_refl _) (by omega))]
    exact ⟨f, rfl, hf⟩
  | d + 1, m + 1, i, f, hi, hm, hf => by
    rw [Jdk_fill_c5, if_neg (nI_ge (by omega) (by omega)), zst_at hk hl (by omega) (by omega), ob_some, su_sw, nI_1]
    refine fil_loop hk hl hN d m (i + 1) _ (by omega) (by omega) (fun j hj => ?_)
    by_cases e : j = i
    · rw [e, pk_us]
    · rw [pk_un e]; exact hf j (by omega)
theorem fil_ok {a N : Nat} {v : Int32} (σ : zSt) (hk : Nat.beq (zkd a) 100 = true) (hl : zln a = N) (hN : N < 4000) : ∃ f, Jdk_fill a v σ = some (sw σ a f) ∧ ∀ j, j < N → f j = v := by
  unfold Jdk_fill
  rw [hk, hl, Bool.true_or, cond_true, show (0 : Int32) = nI 0 from rfl, show Int32.ofNat N = nI N from rfl]
  have := fil_loop (σ := σ) (v := v) hk hl (by omega) N zF 0 (σ a) (by omega) (zF_big (by omega)) (fun j hj => absurd hj (Nat.not_lt_zero _))
  rw [sw_self] at this
  exact this
/-- the chains of a set -/
def gch (D : yD) (s : Nat) : Nat → Nat := chn (nbm (dT D)) (dn D) 9 s (fun _ => 9)
theorem cfs_ok {σ : zSt} {D : yD} {s : Nat} (I : In D σ) (hs : s < 512) : ∃ σ2, Chn_force (nI s) σ = some σ2 ∧ Sm per σ σ2 ∧ ∀ j, j < 9 → σ2 48 j = ec mI (gch D s) j := by
  obtain ⟨f, e, hf⟩ := fil_ok (a := 48) (N := 9) (v := -1) σ rfl rfl (by decide)
  obtain ⟨h, e2, h2⟩ := cfo_loop I.2.1 I.1 9 zF 0 s (fun _ => 9) f rfl (zF_big (by decide)) hs (fun j hj => by rw [hf j hj]; rfl)
  refine ⟨sw σ 48 h, ?_, Sm_sw (fun _ => rfl), fun j hj => ?_⟩
  · unfold Chn_force
    rw [e, ob_some]
    exact e2
  · rw [sw_ap, if_pos rfl]; exact h2 j hj
theorem mcs_ok {σ : zSt} {D : yD} {s : Nat} (I : In D σ) (hs : s < 512) : ∃ σ2, M_chains (nI s) σ = some σ2 ∧ Sm per σ σ2 ∧ ∀ j, j < 9 → σ2 84 j = ec (-2) (gch D s) j := by
  have V := I.1
  have hn := V.1.2
  obtain ⟨g, e, L⟩ := mtk_ok I
  have M := Mst_Ms (al := alm (dn D)) I L
  have C : Cm (Mst σ (alm (dn D)) g) (nbm (dT D)) (alm (dn D)) (dn D) := ⟨M.1, M.2.1, (In_sm Mst_per I).2.2.1.1.1⟩
  have key : ∀ (d m i : Nat) (f : Nat → Int32), i + d = 9 → d < m → (∀ j, j < i → f j = -2) → ∃ h2, M_chains_c8 m (nI s) (nI i) (sw (Mst σ (alm (dn D)) g) 84 f) = some (sw (Mst σ (alm (dn D)) g) 84 h2) ∧ ∀ j, j < 9 → h2 j = ec (-2) (gch D s) j := by
    intro d
    induction d with
    | zero =>
      intro m i f hi hm hf
      obtain ⟨m, rfl⟩ : ∃ m2, m = m2 + 1 := ⟨m - 1, by omega⟩
      obtain rfl : i = 9 := by omega
      rw [M_chains_c8, if_pos (show (9 : Int32) ≤ nI 9 by decide), show (0 : Int32) = nI 0 from rfl]
      exact mcn_loop C (nbm_Gr V) hn 9 (dn D) zF 0 s (fun _ => 9) f (by omega) (zF_big (by omega)) hs (by omega) rfl (fun j hj => by rw [hf j hj]; rfl)
    | succ d ih =>
      intro m i f hi hm hf
      obtain ⟨m, rfl⟩ : ∃ m2, m = m2 + 1 := ⟨m - 1, by omega⟩
      rw [M_chains_c8, if_neg (show ¬ (9 : Int32) ≤ nI i from nI_ge (b := 9) (by omega) (by decide)), st84 (by omega), ob_some, su_sw, nI_1]
      refine ih m (i + 1) _ (by omega) (by omega) (fun j hj => ?_)
      by_cases e : j = i
      · rw [e, pk_us]
      · rw [pk_un e]; exact hf j (by omega)
  obtain ⟨h2, e2, a⟩ := key 9 zF 0 (Mst σ (alm (dn D)) g 84) rfl (zF_big (by decide)) (fun j hj => absurd hj (Nat.not_lt_zero _))
  rw [sw_self] at e2
  refine ⟨sw (Mst σ (alm (dn D)) g) 84 h2, ?_, Sm_tr Mst_per (Sm_sw (a := 84) (fun _ => rfl)), fun j hj => ?_⟩
  · unfold M_chains
    rw [e, ob_some]
    exact e2
  · rw [sw_ap, if_pos rfl]; exact a j hj
theorem chn_rk {nb : Nat → Nat} {n : Nat} (hnb : ∀ i, nb i < 512) : ∀ (d s : Nat) (g rk : Nat → Nat) (t : Nat), (∀ i, g i = 9 ∨ (g i < 9 ∧ rk i < rk (g i) ∧ s.testBit (g i) = true ∧ s.testBit i = true)) → (∀ i, rk i ≤ t) → ∃ rk2 : Nat → Nat, (∀ i, chn nb n d s g i = 9 ∨ (chn nb n d s g i < 9 ∧ rk2 i < rk2 (chn nb n d s g i))) ∧ ∀ i, rk2 i ≤ t + d
  | 0, s, g, rk, t, h1, h2 => ⟨rk, fun i => (h1 i).imp id (fun q => ⟨q.1, q.2.1⟩), h2⟩
  | d + 1, s, g, rk, t, h1, h2 => by
    rw [chn]
    rcases lfo_at (nb := nb) (s := s) (n := n) n 0 (by omega) with q1 | ⟨q1, q2, q3⟩
    · rw [if_pos q1]
      exact ⟨rk, fun i => (h1 i).imp id (fun q => ⟨q.1, q.2.1⟩), fun i => by have := h2 i; omega⟩
    · rw [if_neg (by omega)]
      generalize lfo nb s n n 0 = i0 at *
      obtain ⟨q, hq, eq⟩ := one_bit (sd512 (hnb i0)) q3
      have hb : (sd (nb i0) s).testBit q = true := by rw [eq]; simp
      have hns : ¬ s.testBit q = true := (sd_bit'.mp hb).2
      rw [eq, pc_pre q hq]
      obtain ⟨rk2, a1, a2⟩ := chn_rk hnb d (s ||| 2 ^ q) (updN g i0 q) (updN rk q (t + 1)) (t + 1) (fun i => by
        by_cases e : i = i0
        · right
          have e1 : updN g i0 q i = q := if_pos e
          have e2 : updN rk q (t + 1) i = rk i := if_neg (fun w => hns (by rw [← w, e]; exact q2))
          have e3 : updN rk q (t + 1) q = t + 1 := if_pos rfl
          rw [e1, e2, e3]
          have := h2 i
          exact ⟨hq, by omega, or_bit.mpr (Or.inr (by simp)), or_bit.mpr (Or.inl (by rw [e]; exact q2))⟩
        · have e1 : updN g i0 q i = g i := if_neg e
          rw [e1]
          refine (h1 i).imp id (fun w => ?_)
          have e2 : updN rk q (t + 1) i = rk i := if_neg (fun z => hns (by rw [← z]; exact w.2.2.2))
          have e3 : updN rk q (t + 1) (g i) = rk (g i) := if_neg (fun z => hns (by rw [← z]; exact w.2.2.1))
          rw [e2, e3]
          exact ⟨w.1, w.2.1, or_bit.mpr (Or.inl w.2.2.1), or_bit.mpr (Or.inl w.2.2.2)⟩) (fun i => by
        unfold updN
        split
        · exact Nat.le_refl _
        · have := h2 i; omega)
      exact ⟨rk2, a1, fun i => by have := a2 i; omega⟩
theorem gch_rk (D : yD) (s : Nat) : ∃ rk : Nat → Nat, (∀ i, gch D s i = 9 ∨ (gch D s i < 9 ∧ rk i < rk (gch D s i))) ∧ ∀ i, rk i ≤ 9 := by
  obtain ⟨rk, h1, h2⟩ := chn_rk (nb := nbm (dT D)) (n := dn D) (fun _ => nbm_lt) 9 s (fun _ => 9) (fun _ => 0) 0 (fun _ => Or.inl rfl) (fun _ => Nat.le_refl _)
  exact ⟨rk, h1, fun i => by have := h2 i; omega⟩
def en (z : Int32) (i : Nat) : Int32 := if i = 9 then z else nI i
def bh (g : Nat → Nat) : Nat → Nat → Nat
  | 0, i => i
  | m + 1, i => if i = 9 then 9 else bh g m (g i)
theorem bh_9 (g : Nat → Nat) (m : Nat) : bh g m 9 = 9 := by
  cases m with
  | zero => rfl
  | succ m => exact if_pos rfl
section BH
variable {σ : zSt} {g rk : Nat → Nat}
theorem xbh_loop (h48 : ∀ j, j < 9 → σ 48 j = ec mI g j) (hr : ∀ i, g i = 9 ∨ (g i < 9 ∧ rk i < rk (g i))) (h9 : ∀ i, rk i ≤ 9) {S : Nat} (hS : S < 2 ^ 31) : ∀ (e m i c : Nat), e < m → (i = 9 ∨ (i < 9 ∧ 10 ≤ rk i + e)) → c ≤ S → Chn_behind_c5 σ m (nI S) (en mI i) (nI c) = some (en mI (bh g (S - c) i))
  | e, 0, i, c, hm, _, _ => absurd hm (Nat.not_lt_zero _)
  | e, m + 1, i, c, hm, hi, hc => by
    rw [Chn_behind_c5]
    by_cases h1 : S ≤ c
    · rw [if_pos (nI_le h1 (by omega)), show S - c = 0 by omega]
      rfl
    · rw [if_neg (nI_ge (by omega) (by omega))]
      by_cases h2 : i = 9
      · subst h2
        rw [if_pos (show en mI 9 = -1 from rfl), bh_9]
      · have hi2 : i < 9 ∧ 10 ≤ rk i + e := hi.resolve_left h2
        have e1 : en mI i = nI i := if_neg h2
        obtain ⟨w, hw⟩ : ∃ w, S - c = w + 1 := ⟨S - c - 1, by omega⟩
        rw [e1, if_neg (show ¬ nI i = -1 from mI_ne (by omega)), ld48 hi2.1, h48 i hi2.1, ob_some, hw, bh, if_neg h2, nI_1, show w = S - (c + 1) by omega]
        have := h9 i
        match e, hm, hi2 with
        | 0, hm, hi2 => omega
        | e + 1, hm, hi2 =>
          exact xbh_loop h48 hr h9 hS e m (g i) (c + 1) (by omega) ((hr i).imp id (fun q => ⟨q.1, by omega⟩)) (by omega)
theorem mbh_loop (h84 : ∀ j, j < 9 → σ 84 j = ec (-2) g j) (hr : ∀ i, g i = 9 ∨ (g i < 9 ∧ rk i < rk (g i))) (h9 : ∀ i, rk i ≤ 9) {S : Nat} (hS : S < 2 ^ 31) : ∀ (e m i c : Nat), e < m → (i = 9 ∨ (i < 9 ∧ 10 ≤ rk i + e)) → c ≤ S → M_chain_c41 m (nI S) (en (-2) i) (nI c) σ = some (en (-2) (bh g (S - c) i), σ)
  | e, 0, i, c, hm, _, _ => absurd hm (Nat.not_lt_zero _)
  | e, m + 1, i, c, hm, hi, hc => by
    rw [M_chain_c41]
    by_cases h1 : S ≤ c
    · rw [if_pos (nI_le h1 (by omega)), show S - c = 0 by omega]
      rfl
    · rw [if_neg (nI_ge (by omega) (by omega))]
      by_cases h2 : i = 9
      · subst h2
        rw [if_pos (show en (-2) 9 = -2 from rfl), bh_9]
      · have hi2 : i < 9 ∧ 10 ≤ rk i + e := hi.resolve_left h2
        have e1 : en (-2) i = nI i := if_neg h2
        obtain ⟨w, hw⟩ : ∃ w, S - c = w + 1 := ⟨S - c - 1, by omega⟩
        have hne : ¬ nI i = -2 := fun w => absurd (w ▸ nI_pos' (by omega) : (0 : Int32) ≤ -2) (by decide)
        rw [e1, if_neg hne, ld84 hi2.1, h84 i hi2.1, ob_some, hw, bh, if_neg h2, nI_1, show w = S - (c + 1) by omega]
        have := h9 i
        match e, hm, hi2 with
        | 0, hm, hi2 => omega
        | e + 1, hm, hi2 =>
          exact mbh_loop h84 hr h9 hS e m (g i) (c + 1) (by omega) ((hr i).imp id (fun q => ⟨q.1, by omega⟩)) (by omega)
end BH
theorem en_lt {z : Int32} {i : Nat} (h : i < 9) : en z i = nI i := if_neg (by omega)
theorem bh_le {g : Nat → Nat} (hg : ∀ i, g i ≤ 9) : ∀ m i, i ≤ 9 → bh g m i ≤ 9
  | 0, _, h => h
  | m + 1, i, h => by
    rw [bh]
    by_cases e : i = 9
    · rw [if_pos e]; exact Nat.le_refl _
    · rw [if_neg e]; exact bh_le hg m _ (hg i)
theorem q_chain (x y z : Int32) : Qs (X_chain x y z) (M_chain x y z) := by
  intro D V
  have hn := V.1.2
  have hal := alm_lt hn
  rcases set_cases D V x with h | ⟨s, rfl, hs, h⟩
  · refine ⟨-1, As_of fun σ I => ?_, As_of fun σ I => ?_⟩
    · unfold X_chain
      rw [(h σ I).1, ob_some, if_pos rfl]
    · unfold M_chain
      rw [(h σ I).2, ob_some, if_pos rfl]
  have hs5 : s < 512 := by have := sub_le hs; omega
  rcases pt_cases D V y with h2 | ⟨i, rfl, hi, h2⟩
  · refine ⟨-1, As_of fun σ I => ?_, As_of fun σ I => ?_⟩
    · unfold X_chain
      rw [(h σ I).1, ob_some, if_neg i10, (h2 σ I).1, ob_some, if_pos rfl]
    · unfold M_chain
      rw [(h σ I).2, ob_some, if_neg i10, (h2 σ I).2, ob_some, if_pos rfl]
  cases hb : s.testBit i
  · refine ⟨-1, As_of fun σ I => ?_, As_of fun σ I => ?_⟩
    · unfold X_chain
      rw [(h σ I).1, ob_some, if_neg i10, (h2 σ I).1, ob_some, if_neg i10, if_pos ((pb_is0 (by omega) (by omega)).mpr hb)]
    · unfold M_chain
      rw [(h σ I).2, ob_some, if_neg i10, (h2 σ I).2, ob_some, if_neg i10, mhas_ok hs5 (by omega), hb, ob_some, if_pos (show nI false.toNat = 0 from rfl)]
  have hx : ∀ σ, In D σ → X_chain (nI s) (nI i) z σ = if 0 ≤ z then ((Chn_force (nI s) σ).bind fun σ3 => (Chn_behind (nI i) z σ3).bind fun v4 => if 0 ≤ v4 then (some (v4, σ3)) else (some ((-2), σ3))) else (some ((-1), σ)) := fun σ I => by
    unfold X_chain
    rw [(h σ I).1, ob_some, if_neg i10, (h2 σ I).1, ob_some, if_neg i10, if_neg]
    intro q
    rw [(pb_is0 (by omega) (by omega)).mp q] at hb
    cases hb
  have hm : ∀ σ, In D σ → M_chain (nI s) (nI i) z σ = if 0 ≤ z then ((M_chains (nI s) σ).bind fun σ4 => M_chain_c41 zF z (nI i) 0 σ4) else (some ((-1), σ)) := fun σ I => by
    unfold M_chain
    rw [(h σ I).2, ob_some, if_neg i10, (h2 σ I).2, ob_some, if_neg i10, mhas_ok hs5 (by omega), hb, ob_some, if_neg (show ¬ nI true.toNat = 0 by decide)]
  by_cases hz : 0 ≤ z
  · obtain ⟨S, hS, rfl⟩ := nI_of (x := z) (Int32.not_lt.mpr hz)
    obtain ⟨rk, r1, r2⟩ := gch_rk D s
    have hg : ∀ i, gch D s i ≤ 9 := fun i => by rcases r1 i with q | q <;> omega
    have hb9 := bh_le hg S i (by omega)
    refine ⟨en (-2) (bh (gch D s) S i), fun σ I => ?_, fun σ I => ?_⟩
    · obtain ⟨σ2, e, S2, h48⟩ := cfs_ok I hs5
      have e2 := xbh_loop h48 r1 r2 hS 10 zF i 0 (zF_big (by decide)) (Or.inr ⟨by omega, by omega⟩) (Nat.zero_le _)
      refine ⟨σ2, ?_, S2⟩
      unfold Chn_behind at hx
      rw [hx σ I, if_pos hz, e, ob_some]
      rw [en_lt (by omega), Nat.sub_zero] at e2
      rw [show (0 : Int32) = nI 0 from rfl, e2, ob_some]
      unfold en
      by_cases q : bh (gch D s) S i = 9
      · rw [if_pos q, if_pos q]; rfl
      · rw [if_neg q, if_neg q, if_pos (nI_le (Nat.zero_le _) (by omega))]
    · obtain ⟨σ2, e, S2, h84⟩ := mcs_ok I hs5
      have e2 := mbh_loop h84 r1 r2 hS 10 zF i 0 (zF_big (by decide)) (Or.inr ⟨by omega, by omega⟩) (Nat.zero_le _)
      refine ⟨σ2, ?_, S2⟩
      rw [hm σ I, if_pos hz, e, ob_some]
      rw [en_lt (by omega), Nat.sub_zero] at e2
      exact e2
  · refine ⟨-1, As_of fun σ I => ?_, As_of fun σ I => ?_⟩
    · rw [hx σ I, if_neg hz]
    · rw [hm σ I, if_neg hz]

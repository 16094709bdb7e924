/-! PURE: the class reduces; rank -/
theorem GX_row {n p r : Nat} {c : Nat → Nat} {A : Nat → Nat → Nat} {g : Nat → Nat} {f : Nat → Int32} {σ : zSt} (hn : n ≤ 9) (h : GX n p c A σ) (hr : r < 9) (hf : ∀ y, y < n → f y = nI (g y)) : GX n p c (fun x y => if x = r then g y else A x y) (sw σ (c r) f) := by
  obtain ⟨h1, ⟨h2, h3⟩, h4⟩ := h
  have hc := (h2 r hr).2
  refine ⟨⟨?_, ?_⟩, ⟨fun q hq => ?_, h3⟩, fun x hx y hy => ?_⟩
  · rw [sw_ap, if_neg (by omega)]; exact h1.1
  · rw [sw_ap, if_neg (by omega)]; exact h1.2
  · rw [sw_ap, if_neg (by omega)]; exact h2 q hq
  · show _ = nI (if x = r then g y else A x y)
    rw [sw_ap]
    by_cases e : x = r
    · rw [if_pos (by rw [e]), if_pos e]; exact hf y hy
    · rw [if_neg (fun w => e (h3 x r (by omega) hr w)), if_neg e]; exact h4 x hx y hy
theorem gcs_loop {n p R r k : Nat} {c : Nat → Nat} {A : Nat → Nat → Nat} (hp : prim p) (hn : n ≤ 9) (hR : R ≤ n) (hr : r < R) (hk : k < n) (hA : ∀ i j, j < n → A i j < p) (c4 : Int32 → Int32 → Int32 → zSt → Option (Int32 × zSt)) : ∀ (d m i : Nat) (σ : zSt), i + d = R → d < m → GX n p c (fun x y => if x < i then cl p k r R A x y else A x y) σ → ∃ σ2, Grd_reduce_c54 c4 m (nI R) (nI r) (nI k) (nI i) σ = c4 (nI R) (nI (r + 1)) (nI (k + 1)) (su σ2 62 k (nI r)) ∧ GX n p c (cl p k r R A) σ2 ∧ ∀ a q, (a < 53 ∨ 61 < a) → σ2 a q = σ a q
  | d, 0, i, σ, _, hm, _ => absurd hm (Nat.not_lt_zero _)
  | 0, m + 1, i, σ, hi, _, h => by
    refine ⟨σ, ?_, GX_cg h (fun x hx y hy => ?_), fun _ _ _ => rfl⟩
    · rw [Grd_reduce_c54, if_pos (nI_le (by omega) (by omega)), st62 (by omega), ob_some, nI_1, nI_1]
    · by_cases e : x < i
      · rw [if_pos e]
      · rw [if_neg e]
        unfold cl
        rw [if_pos (Or.inr (by omega))]
  | d + 1, m + 1, i, σ, hi, hm, h => by
    have hpb := prim_b hp
    have hA' : ∀ x y, y < n → (if x < i then cl p k r R A x y else A x y) < p := fun x y hy => by
      split
      · exact cl_lt (by omega) hA x y hy
      · exact hA x y hy
    rw [Grd_reduce_c54, if_neg (nI_ge (by omega) (by omega))]
    by_cases e : i = r
    · rw [if_pos (by rw [e]), nI_1]
      refine gcs_loop hp hn hR hr hk hA c4 d m (i + 1) σ (by omega) (by omega) (GX_cg h (fun x hx y hy => ?_))
      by_cases e2 : x < i
      · rw [if_pos e2, if_pos (by omega)]
      · by_cases e3 : x = i
        · rw [if_neg e2, if_pos (by omega)]
          unfold cl
          rw [if_pos (Or.inl (by omega))]
        · rw [if_neg e2, if_neg (by omega)]
    · have hci := h.2.1.1 i (by omega)
      have hcr := h.2.1.1 r (by omega)
      obtain ⟨k1, k2, _⟩ := kd_gr (c i) (by omega) hci.2.1 (Or.inl hci.2.2)
      obtain ⟨k3, k4, _⟩ := kd_gr (c r) (by omega) hcr.2.1 (Or.inl hcr.2.2)
      have hne : c i ≠ c r := fun w => e (h.2.1.2 i r (by omega) (by omega) w)
      obtain ⟨f, e2, g2⟩ := gcl_ok (k := k) (a := fun y => if i < i then cl p k r R A i y else A i y) (b := fun y => if r < i then cl p k r R A r y else A r y) h.1.1 h.1.2 hp hn k1 k2 k3 k4 (by omega) hne (fun j hj => hA' i j hj) (fun j hj => hA' r j hj) (fun j hj => h.2.2 i (by omega) j hj) (fun j hj => h.2.2 r (by omega) j hj) hk
      rw [if_neg (fun q => e ((nI_inj (by omega) (by omega)).mp q)), lr52 (by omega) hci.1 hci.2.2, ob_some, lr52 (by omega) hcr.1 hcr.2.2, ob_some, e2, ob_some, nI_1]
      have hr2 : ∀ y, (if r < i then cl p k r R A r y else A r y) = A r y := fun y => by
        split
        · unfold cl; rw [if_pos (Or.inl rfl)]
        · rfl
      obtain ⟨σ3, e3, g3, f3⟩ := gcs_loop hp hn hR hr hk hA c4 d m (i + 1) (sw σ (c i) f) (by omega) (by omega) (GX_cg (GX_row hn h (by omega) g2) (fun x hx y hy => by
        show (if x = i then ((if i < i then cl p k r R A i y else A i y) + (p - (if i < i then cl p k r R A i k else A i k)) * (if r < i then cl p k r R A r y else A r y)) % p else if x < i then cl p k r R A x y else A x y) = if x < i + 1 then cl p k r R A x y else A x y
        by_cases e4 : x = i
        · rw [if_pos e4, if_neg (Nat.lt_irrefl i), if_neg (Nat.lt_irrefl i), hr2, if_pos (by omega), e4]
          unfold cl
          rw [if_neg (show ¬ (i = r ∨ R ≤ i) by omega)]
        · rw [if_neg e4]
          by_cases e5 : x < i
          · rw [if_pos e5, if_pos (by omega)]
          · rw [if_neg e5, if_neg (by omega)]))
      exact ⟨σ3, e3, g3, fun a q hq => by rw [f3 a q hq, sw_ap, if_neg (by omega)]⟩
def lv (x : Nat) : Int32 := if x = 99 then mI else nI x
theorem grd_loop {n p R : Nat} (hp : prim p) (hn : n ≤ 9) (hR : R ≤ n) : ∀ (d m k r : Nat) (A : Nat → Nat → Nat) (L pv c : Nat → Nat) (σ : zSt), k + d = n → d < m → RI p n R k r A L pv → GX n p c A σ → (∀ x, x < k → σ 62 x = lv (L x)) → ∃ σ2 c2 pv2, Grd_reduce_c4 m (nI R) (nI r) (nI k) σ = some (nI (rr p R d k r A L).1, σ2) ∧ GX n p c2 (rr p R d k r A L).2.1 σ2 ∧ (∀ x, x < n → σ2 62 x = lv ((rr p R d k r A L).2.2 x)) ∧ RI p n R n (rr p R d k r A L).1 (rr p R d k r A L).2.1 (rr p R d k r A L).2.2 pv2 ∧ (∀ i, R ≤ i → c2 i = c i) ∧ ∀ a q, (a < 52 ∨ 62 < a) → σ2 a q = σ a q
  | d, 0, k, r, A, L, pv, c, σ, _, hm, _, _, _ => absurd hm (Nat.not_lt_zero _)
  | 0, m + 1, k, r, A, L, pv, c, σ, hk, _, hI, hG, hL => by
    obtain rfl : k = n := by omega
    refine ⟨σ, c, pv, ?_, hG, hL, hI, fun _ _ => rfl, fun _ _ _ => rfl⟩
    rw [Grd_reduce_c4, hG.1.1, if_pos (nI_le (Nat.le_refl _) (by omega))]
    rfl
  | d + 1, m + 1, k, r, A, L, pv, c, σ, hk, hm, hI, hG, hL => by
    have hb := prim_b hp
    have hr := hI.1
    have hA := hI.2.1
    have e62 : ∀ a q, a ≠ 62 → su σ 62 k (-1) a q = σ a q := fun a q w => by rw [su_ap, if_neg (fun z => w z.1)]
    have G1 : GX n p c A (su σ 62 k (-1)) := GX_sm hn hG (fun a q _ h2 => e62 a q (by omega))
    have efw := gfw_loop G1 hp hn hR (by omega : k < n) hA (R - r) zF r (by omega) (zF_big (by omega))
    rw [Grd_reduce_c4, hG.1.1, if_neg (nI_ge (by omega) (by omega)), st62 (by omega), ob_some]
    unfold Grd_firstWith
    rw [efw, ob_some]
    rcases fwi_ok (A := A) (c := k) (R := R) (R - r) r (by omega) with ⟨w1, w2⟩ | ⟨w1, w2, w3⟩
    · have er : rr p R (d + 1) k r A L = rr p R d (k + 1) r A (updN L k 99) := by rw [rr, if_pos w1]
      rw [if_pos w1, if_pos (show mI < 0 by decide), nI_1, er]
      obtain ⟨σ2, c2, pv2, a1, a2, a3, a4, a5, a6⟩ := grd_loop hp hn hR d m (k + 1) r A (updN L k 99) pv c (su σ 62 k (-1)) (by omega) (by omega) (RI_no hI w2) G1 (fun x hx => by
        unfold updN
        by_cases e : x = k
        · rw [e, su_ap, if_pos ⟨rfl, rfl⟩, if_pos rfl]; rfl
        · rw [su_ap, if_neg (fun w => e w.2), if_neg e]; exact hL x (by omega))
      exact ⟨σ2, c2, pv2, a1, a2, a3, a4, a5, fun a q hq => (a6 a q hq).trans (e62 a q (by omega))⟩
    · have er : rr p R (d + 1) k r A L = rr p R d (k + 1) (r + 1) (cl p k r R (lw p k (fw A k R (R - r) r) r A)) (updN L k r) := by rw [rr, if_neg (by omega)]
      rw [er, if_neg (show ¬ fw A k R (R - r) r = R by omega)]
      generalize fw A k R (R - r) r = f at *
      rw [if_neg (nI_pos (by omega))]
      obtain ⟨σ3, e3, G3, f3⟩ := gsw_ok (i := f) (j := r) G1 hn (by omega) (by omega)
      have hcr := G3.2.1.1 r (by omega)
      obtain ⟨k1, k2, _⟩ := kd_gr (swp c f r r) (by omega) hcr.2.1 (Or.inl hcr.2.2)
      have hAs : ∀ i j, j < n → swp A f r i j < p := fun i j hj => by
        unfold swp
        split
        · exact hA _ j hj
        · split
          · exact hA _ j hj
          · exact hA _ j hj
      have hsr : swp A f r r = A f := by
        unfold swp
        by_cases e : r = f
        · rw [if_pos e, e]
        · rw [if_neg e, if_pos rfl]
      obtain ⟨g, e4, g4⟩ := gld_ok (k := k) (a := swp A f r r) G3.1.1 G3.1.2 hp hn k1 k2 (by omega) (fun j hj => hAs r j hj) (fun j hj => G3.2.2 r (by omega) j hj) (by omega) (by rw [hsr]; exact w3)
      have G4 : GX n p (swp c f r) (lw p k f r A) (sw σ3 (swp c f r r) g) := GX_cg (GX_row hn G3 (by omega) g4) (fun x hx y hy => by
        show (if x = r then swp A f r r y * iv p (swp A f r r k) % p else swp A f r x y) = lw p k f r A x y
        rw [hsr]
        unfold lw swp
        by_cases e : x = r
        · rw [if_pos e, if_pos e]
        · rw [if_neg e, if_neg e]
          by_cases e2 : x = f
          · rw [if_pos e2, if_pos e2, if_neg e]
          · rw [if_neg e2, if_neg e2, if_neg e])
      obtain ⟨σ5, e5, G5, f5⟩ := gcs_loop (k := k) hp hn hR (by omega : r < R) (by omega) (lw_lt (c := k) (f := f) (r := r) (by omega) hA) (Grd_reduce_c4 m) R zF 0 (sw σ3 (swp c f r r) g) (Nat.zero_add _) (zF_big (by omega)) (GX_cg G4 (fun x hx y hy => by rw [if_neg (Nat.not_lt_zero _)]))
      have fA : ∀ a q, (a < 52 ∨ 61 < a) → a ≠ 62 → σ5 a q = σ a q := fun a q hq h62 => by
        rw [f5 a q (by omega), sw_ap, if_neg (by omega), f3 a q (by omega), e62 a q h62]
      rw [e3, ob_some, lr52 (by omega) hcr.1 hcr.2.2, ob_some, e4, ob_some, show (0 : Int32) = nI 0 from rfl, e5]
      obtain ⟨σ2, c2, pv2, a1, a2, a3, a4, a5, a6⟩ := grd_loop hp hn hR d m (k + 1) (r + 1) _ (updN L k r) (updN pv r k) (swp c f r) (su σ5 62 k (nI r)) (by omega) (by omega) (RI_yes hp (by omega) hI w1 w2 w3) (GX_sm hn G5 (fun a q _ h2 => by rw [su_ap, if_neg (by omega)])) (fun x hx => by
        unfold updN
        by_cases e : x = k
        · rw [e, su_ap, if_pos ⟨rfl, rfl⟩, if_pos rfl]
          unfold lv
          rw [if_neg (by omega)]
        · rw [su_ap, if_neg (fun w => e w.2), if_neg e, f5 62 x (by omega), sw_ap, if_neg (by omega), f3 62 x (by omega), su_ap, if_neg (fun w => e w.2)]
          exact hL x (by omega))
      refine ⟨σ2, c2, pv2, a1, a2, a3, a4, fun i hi => ?_, fun a q hq => ?_⟩
      · rw [a5 i hi]
        unfold swp
        rw [if_neg (by omega), if_neg (by omega)]
      · rw [a6 a q hq, su_ap, if_neg (by omega)]
        exact fA a q (by omega) (by omega)
theorem grd_ok {n p R : Nat} {A : Nat → Nat → Nat} {c : Nat → Nat} {σ : zSt} (hp : prim p) (hn : n ≤ 9) (hR : R ≤ n) (hA : ∀ i j, j < n → A i j < p) (hG : GX n p c A σ) : ∃ σ2 c2 pv2, Grd_reduce (nI R) σ = some (nI (rr p R n 0 0 A L99).1, σ2) ∧ GX n p c2 (rr p R n 0 0 A L99).2.1 σ2 ∧ (∀ x, x < n → σ2 62 x = lv ((rr p R n 0 0 A L99).2.2 x)) ∧ RI p n R n (rr p R n 0 0 A L99).1 (rr p R n 0 0 A L99).2.1 (rr p R n 0 0 A L99).2.2 pv2 ∧ (∀ i, R ≤ i → c2 i = c i) ∧ ∀ a q, (a < 52 ∨ 62 < a) → σ2 a q = σ a q :=
  grd_loop hp hn hR n zF 0 0 A L99 (fun _ => 0) c σ (Nat.zero_add _) (zF_big (by omega)) (RI_0 hA) hG (fun x hx => absurd hx (Nat.not_lt_zero _))
theorem In_gr {D : yD} {σ σ2 : zSt} (I : In D σ) (f : ∀ a q, (a < 51 ∨ 63 < a) → σ2 a q = σ a q) (ce : Ce σ2) : In D σ2 := by
  have g : ∀ fp : Nat → Nat → Bool, (∀ a i, fp a i = true → a < 51 ∨ 63 < a) → Sm fp σ σ2 := fun fp h a i q => f a i (h a i q)
  obtain ⟨h1, h2, h3, h4, h5, h6, h7, h8, h9⟩ := I
  refine ⟨h1, CN1_sm (g fC1 fun a i q => ?_) h2, MN1_sm (g fM1 fun a i q => ?_) h3, Kp_sm (g fK0 fun a i q => ?_) (g fCk fun a i q => ?_) (g fMk fun a i q => ?_) h4, Hi_sm (g fHi fun a i q => ?_) h5, Rw_sm (g fRw fun a i q => ?_) h6, Tp_sm (g fTp fun a i q => ?_) h7, Tr_sm (g fTr fun a i q => ?_) h8, ce⟩
  · unfold fC1 at q; simp only [zbl, zbq, Bool.or_eq_true, Bool.and_eq_true, decide_eq_true_eq] at q; omega
  · unfold fM1 at q; simp only [zbl, zbq, Bool.or_eq_true, Bool.and_eq_true, decide_eq_true_eq] at q; omega
  · unfold fK0 at q; simp only [zbl, zbq, Bool.or_eq_true, Bool.and_eq_true, decide_eq_true_eq] at q; omega
  · unfold fCk at q; simp only [zbl, zbq, Bool.or_eq_true, Bool.and_eq_true, decide_eq_true_eq] at q; omega
  · unfold fMk at q; simp only [zbl, zbq, Bool.or_eq_true, Bool.and_eq_true, decide_eq_true_eq] at q; omega
  · unfold fHi at q; simp only [zbl, zbq, Bool.or_eq_true, Bool.and_eq_true, decide_eq_true_eq] at q; omega
  · unfold fRw at q; simp only [zbl, zbq, Bool.or_eq_true, Bool.and_eq_true, decide_eq_true_eq] at q; omega
  · unfold fTp at q; simp only [zbl, zbq, Bool.or_eq_true, Bool.and_eq_true, decide_eq_true_eq] at q; omega
  · unfold fTr at q; simp only [zbl, zbq, Bool.or_eq_true, Bool.and_eq_true, decide_eq_true_eq] at q; omega
theorem GX_Ce {n p : Nat} {c : Nat → Nat} {A : Nat → Nat → Nat} {σ : zSt} (h : GX n p c A σ) : Ce σ := ⟨c, h.2.1.1, h.2.1.2⟩
/-- the whole table reduced, on both sides -/
theorem xre_ok {σ : zSt} {D : yD} (I : In D σ) : ∃ σ1 σ2 c pv, Grd_take σ = some σ1 ∧ σ1 1 0 = nI (dn D) ∧ Grd_reduce (nI (dn D)) σ1 = some (nI (rk (dp D) (dn D) (tA D)), σ2) ∧ GX (dn D) (dp D) c (rr (dp D) (dn D) (dn D) 0 0 (tA D) L99).2.1 σ2 ∧ (∀ x, x < dn D → σ2 62 x = lv ((rr (dp D) (dn D) (dn D) 0 0 (tA D) L99).2.2 x)) ∧ RI (dp D) (dn D) (dn D) (dn D) (rk (dp D) (dn D) (tA D)) (rr (dp D) (dn D) (dn D) 0 0 (tA D) L99).2.1 (rr (dp D) (dn D) (dn D) 0 0 (tA D) L99).2.2 pv ∧ In D σ2 := by
  have V := I.1
  obtain ⟨σ1, c, e1, G1, f1⟩ := gtk_ok I
  obtain ⟨σ2, c2, pv, e2, G2, h62, hI, _, f2⟩ := grd_ok V.2.2.1 V.1.2 (Nat.le_refl _) (fun i j _ => tA_lt V i j) G1
  exact ⟨σ1, σ2, c2, pv, e1, (f1 1 0 (by omega)).trans I.2.1.1.1, e2, G2, h62, hI, In_gr I (fun a q hq => (f2 a q (by omega)).trans (f1 a q (by omega))) (GX_Ce G2)⟩
theorem mre_ok {σ : zSt} {D : yD} (I : In D σ) : ∃ f f2 g2 pv, M_copies σ = some (sw σ 86 f) ∧ M_steps (sw σ 86 f) = some (nI (rk (dp D) (dn D) (tA D)), sw (sw σ 87 g2) 86 f2) ∧ GE (dn D) (rr (dp D) (dn D) (dn D) 0 0 (tA D) L99).2.1 f2 ∧ RI (dp D) (dn D) (dn D) (dn D) (rk (dp D) (dn D) (tA D)) (rr (dp D) (dn D) (dn D) 0 0 (tA D) L99).2.1 (rr (dp D) (dn D) (dn D) 0 0 (tA D) L99).2.2 pv ∧ (∀ q, q < rk (dp D) (dn D) (tA D) → g2 q = nI (pv q)) ∧ In D (sw (sw σ 87 g2) 86 f2) := by
  have V := I.1
  obtain ⟨f, e1, g1⟩ := mcp_ok V I.2.2.1
  obtain ⟨f2, g2, pv, e2, h1, h2, h3⟩ := mst_ok (σ := σ) I.2.2.1.1.1 I.2.2.1.1.2.2.2 V.2.2.1 V.1.2 (fun i j _ => tA_lt V i j) g1
  exact ⟨f, f2, g2, pv, e1, e2, h1, h2, h3, In_sm (Sm_tr (Sm_sw (fun _ => rfl)) (Sm_sw (fun _ => rfl))) I⟩
theorem q_rank (x : Int32) : Q2 (X_rank x) (M_rank x) := by
  rintro σ ⟨D, I⟩
  have hn := I.1.1
  rcases rng x 0 1 (by decide) (by decide) with k | ⟨k, k2, k3⟩ | ⟨a, _, ha, rfl⟩
  · refine ⟨-1, σ, σ, ?_, ?_, D, I⟩
    · unfold X_rank; rw [if_pos (show x < 0 from k)]
    · unfold M_rank; rw [show M_in x 0 1 σ = some 0 from min_lo k, ob_some, if_neg (fun q => q rfl)]
  · refine ⟨-1, σ, σ, ?_, ?_, D, I⟩
    · unfold X_rank; rw [if_neg (show ¬ x < 0 from k), if_neg (show ¬ x ≤ 1 from k3)]
    · unfold M_rank; rw [show M_in x 0 1 σ = some 0 from min_hi k k2, ob_some, if_neg (fun q => q rfl)]
  · obtain ⟨σ1, σ2, c, pv, e1, e2, e3, _, _, _, I2⟩ := xre_ok I
    obtain ⟨f, f2, g2, pv2, a1, a2, _, _, _, I3⟩ := mre_ok I2
    refine ⟨if nI a = 0 then nI (rk (dp D) (dn D) (tA D)) else nI (dn D) - nI (rk (dp D) (dn D) (tA D)), σ2, _, ?_, ?_, D, I3⟩
    · unfold X_rank
      rw [if_neg (nI_pos (by omega)), if_pos (show nI a ≤ 1 from nI_le (b := 1) ha (by decide)), e1, ob_some, e2, e3, zb2_sm, I2.2.1.1.1]
      by_cases e : nI a = 0
      · rw [if_neg (fun q => q e), if_pos e]
      · rw [if_pos e, if_neg e]
    · unfold M_rank
      rw [show M_in (nI a) 0 1 σ2 = some 1 from min_ok (Nat.zero_le _) ha (by decide), ob_some, if_pos i10, a1, ob_some, a2, zb2_sm, I3.2.2.1.1.1]
      by_cases e : nI a = 0
      · rw [if_neg (fun q => q e), if_pos e]
      · rw [if_pos e, if_neg e]

/-! PURE: mend, mendTwo -/
theorem Av_lt {p n a v : Nat} {A : Nat → Nat → Nat} (hv : v < p) (hA : ∀ i j, j < n → A i j < p) : ∀ i j, j < n → Av A a v i j < p := fun i j hj => by
  unfold Av
  split
  · exact hv
  · exact hA i j hj
theorem rk_le {p n : Nat} {A : Nat → Nat → Nat} (hp : prim p) (hA : ∀ i j, j < n → A i j < p) : rk p n A ≤ n := by
  obtain ⟨pv, h, _⟩ := rr_ok (R := n) hp n 0 0 A L99 (fun _ => 0) (Nat.zero_add _) (RI_0 hA)
  exact h.1
theorem Mr_le {p n a : Nat} {A : Nat → Nat → Nat} (hp : prim p) (hn : 1 ≤ n) (ha : a < n) (hA : ∀ i j, j < n → A i j < p) : Mr p n a A ≤ n - 1 := by
  have hb := prim_b hp
  have hA2 : ∀ i j, j < n → A2 A a n i j < p := fun i j hj => by
    unfold A2
    split
    · split
      · omega
      · exact hA a j hj
    · split
      · exact hA _ j hj
      · exact hA i j hj
  obtain ⟨pv, h, _⟩ := rr_ok (R := n - 1) hp n 0 0 (A2 A a n) L99 (fun _ => 0) (Nat.zero_add _) (RI_0 hA2)
  exact h.1
theorem mf2_eq {p n a : Nat} {A : Nat → Nat → Nat} (hp : prim p) (hn : 1 ≤ n ∧ n ≤ 9) (ha : a < n) (hA : ∀ i j, j < n → A i j < p) : mf2 (fun v => rk p n (Av A a v)) p 0 0 10 = cs (mP p n a A) (Mr p n a A) p 0 := by
  have hb := prim_b hp
  have hm := Mr_le hp hn.1 ha hA
  rw [mf2_blk (P := mP p n a A) (r := Mr p n a A) (V := 0) (by omega) (fun x hx => by
    show rk p n (Av A a (0 + x)) = _
    rw [Nat.zero_add]; exact rk_mP hp hn ha hA hx), Nat.zero_add]
  rcases cs_cases (P := mP p n a A) (r := Mr p n a A) p 0 with ⟨h1, _⟩ | h1
  · rw [if_pos (by omega)]
  · rw [h1, if_pos (show Mr p n a A + 1 < 10 by omega)]
/-- the reference's grid with a number put in the middle -/
theorem GE_mid {n a v : Nat} {A : Nat → Nat → Nat} {f : Nat → Int32} (hn : n ≤ 9) (ha : a < n) (h : GE n A f) : GE n (Av A a v) (upd f (10 * a) (nI v)) := fun i hi j hj => by
  unfold Av
  by_cases e : i = a ∧ j = a
  · rw [if_pos e, show 9 * i + j = 10 * a by omega, pk_us]
  · rw [if_neg e, pk_un (by omega)]; exact h i hi j hj
theorem mmd_loop {σ : zSt} {D : yD} {a : Nat} {x : Int32} (I : In D σ) (ha : a < dn D) : ∀ (d m v b l : Nat) (f g : Nat → Int32), v + d = dp D → d < m → l ≤ 10 → ∃ f2 g2, M_mend_c28 m (nI a) x (nI b) (nI l) (nI v) (sw (sw σ 87 g) 86 f) = some (if x = 0 then nI (mf2 (fun v => rk (dp D) (dn D) (Av (tA D) a v)) d v b l).1 else nI (mf2 (fun v => rk (dp D) (dn D) (Av (tA D) a v)) d v b l).2, sw (sw σ 87 g2) 86 f2)
  | d, 0, v, b, l, f, g, _, hm, _ => absurd hm (Nat.not_lt_zero _)
  | 0, m + 1, v, b, l, f, g, hv, _, _ => by
    have hb := prim_b I.1.2.2.1
    refine ⟨f, g, ?_⟩
    rw [M_mend_c28, show sw (sw σ 87 g) 86 f 75 6 = nI (dp D) from I.2.2.1.1.2.2.2, if_pos (nI_le (by omega) (by omega))]
    by_cases e : x = 0
    · rw [if_neg (fun q => q e), if_pos e]; rfl
    · rw [if_pos e, if_neg e]; rfl
  | d + 1, m + 1, v, b, l, f, g, hv, hm, hl => by
    have V := I.1
    have hb := prim_b V.2.2.1
    have hn := V.1
    have M2 : MN 3 4 5 6 76 77 78 D (sw (sw σ 87 g) 86 f) := MN1_sm (Sm_tr (Sm_sw (fun _ => rfl)) (Sm_sw (fun _ => rfl))) I.2.2.1
    obtain ⟨f1, e1, g1⟩ := mcp_ok V M2
    rw [sw_idem] at e1
    have hA : ∀ i j, j < dn D → tA D i j < dp D := fun i j _ => tA_lt V i j
    obtain ⟨f2, g2, pv, e2, _, _, _⟩ := mst_ok (σ := sw σ 87 g) (n := dn D) (p := dp D) (A := Av (tA D) a v) (f := upd f1 (10 * a) (nI v)) I.2.2.1.1.1 I.2.2.1.1.2.2.2 V.2.2.1 hn.2 (Av_lt (by omega) hA) (GE_mid hn.2 ha g1)
    rw [sw_idem] at e2
    have hrk := rk_le V.2.2.1 (Av_lt (a := a) (v := v) (by omega) hA)
    rw [M_mend_c28, show sw (sw σ 87 g) 86 f 75 6 = nI (dp D) from I.2.2.1.1.2.2.2, if_neg (nI_ge (by omega) (by omega)), e1, ob_some, z_10, pk_mul, st86 (by omega), ob_some, su_sw, e2, zb2_sm, mf2]
    unfold M_mend_c71
    by_cases e : rk (dp D) (dn D) (Av (tA D) a v) < l
    · have n1 : ¬ nI l ≤ nI (rk (dp D) (dn D) (Av (tA D) a v)) := nI_ge e (by omega)
      rw [if_neg n1, if_neg n1, if_pos e, nI_1]
      exact mmd_loop I ha d m (v + 1) v _ f2 g2 (by omega) (by omega) (by omega)
    · have n1 : nI l ≤ nI (rk (dp D) (dn D) (Av (tA D) a v)) := nI_le (by omega) (by omega)
      rw [if_pos n1, if_pos n1, if_neg e, nI_1]
      exact mmd_loop I ha d m (v + 1) b l f2 g2 (by omega) (by omega) hl
theorem q_mend (x y : Int32) : Q2 (X_mend x y) (M_mend x y) := by
  rintro σ ⟨D, I⟩
  have V := I.1
  have hn := V.1
  have hb := prim_b V.2.2.1
  rcases pt_cases D V x with h | ⟨a, rfl, ha, h⟩
  · refine ⟨-1, σ, σ, ?_, ?_, D, I⟩
    · unfold X_mend; rw [(h σ I).1, ob_some, if_pos rfl]
    · unfold M_mend; rw [(h σ I).2, ob_some, if_pos rfl]
  rcases rng y 0 1 (by decide) (by decide) with k | ⟨k, k2, k3⟩ | ⟨s, _, hs, rfl⟩
  · refine ⟨-1, σ, σ, ?_, ?_, D, I⟩
    · unfold X_mend; rw [(h σ I).1, ob_some, if_neg i10, if_pos (show y < 0 from k)]
    · unfold M_mend; rw [(h σ I).2, ob_some, if_neg i10, show M_in y 0 1 σ = some 0 from min_lo k, ob_some, if_neg (fun q => q rfl)]
  · refine ⟨-1, σ, σ, ?_, ?_, D, I⟩
    · unfold X_mend; rw [(h σ I).1, ob_some, if_neg i10, if_neg (show ¬ y < 0 from k), if_neg (show ¬ y ≤ 1 from k3)]
    · unfold M_mend; rw [(h σ I).2, ob_some, if_neg i10, show M_in y 0 1 σ = some 0 from min_hi k k2, ob_some, if_neg (fun q => q rfl)]
  · have hA : ∀ i j, j < dn D → tA D i j < dp D := fun i j _ => tA_lt V i j
    obtain ⟨σ1, c, e1, G1, f1⟩ := gtk_ok I
    obtain ⟨σ2, e2, e3, ce, f2⟩ := gmd_ok V.2.2.1 hn ha hA G1
    have I2 : In D σ2 := In_gr I (fun b q hq => (f2 b q hq).trans (f1 b q (by omega))) ce
    obtain ⟨f3, g3, e4⟩ := mmd_loop (x := nI s) I2 ha (dp D) zF 0 0 10 (σ2 86) (σ2 87) (Nat.zero_add _) (zF_big (by omega)) (Nat.le_refl _)
    rw [sw_self] at e4
    rw [sw_self, mf2_eq V.2.2.1 hn ha hA] at e4
    refine ⟨if nI s = 0 then nI (cs (mP (dp D) (dn D) a (tA D)) (Mr (dp D) (dn D) a (tA D)) (dp D) 0).1 else nI (cs (mP (dp D) (dn D) a (tA D)) (Mr (dp D) (dn D) a (tA D)) (dp D) 0).2, σ2, sw (sw σ2 87 g3) 86 f3, ?_, ?_, D, In_sm (Sm_tr (Sm_sw (fun _ => rfl)) (Sm_sw (fun _ => rfl))) I2⟩
    · unfold X_mend
      rw [(h σ I).1, ob_some, if_neg i10, if_neg (nI_pos (by omega)), if_pos (show nI s ≤ 1 from nI_le (b := 1) hs (by decide)), e1, ob_some, e2, zb2_sm, e3]
      by_cases e : nI s = 0
      · rw [if_neg (fun q => q e), if_pos e]
      · rw [if_pos e, if_neg e]
    · unfold M_mend
      rw [(h σ2 I2).2, ob_some, if_neg i10, show M_in (nI s) 0 1 σ2 = some 1 from min_ok (Nat.zero_le _) hs (by decide), ob_some, if_pos i10]
      exact e4
/-- the rank by a pair of numbers -/
def r2 (D : yD) (lo hi v : Nat) : Nat := rk (dp D) (dn D) (Av (Av (tA D) lo (v / dp D)) hi (v % dp D))
theorem mm2_loop {σ : zSt} {D : yD} {lo hi : Nat} {x : Int32} (I : In D σ) (hlo : lo < dn D) (hhi : hi < dn D) : ∀ (d m v b l : Nat) (f g : Nat → Int32), v + d = dp D * dp D → d < m → l ≤ 10 → ∃ f2 g2, M_mendTwo_c54 m x (nI lo) (nI hi) (nI b) (nI l) (nI v) (sw (sw σ 87 g) 86 f) = some (if x = 0 then nI (mf2 (r2 D lo hi) d v b l).1 else nI (mf2 (r2 D lo hi) d v b l).2, sw (sw σ 87 g2) 86 f2)
  | d, 0, v, b, l, f, g, _, hm, _ => absurd hm (Nat.not_lt_zero _)
  | 0, m + 1, v, b, l, f, g, hv, _, _ => by
    have hb := prim_b I.1.2.2.1
    have hpp : dp D * dp D ≤ 31 * 31 := Nat.mul_le_mul hb.2 hb.2
    refine ⟨f, g, ?_⟩
    rw [M_mendTwo_c54, show sw (sw σ 87 g) 86 f 75 6 = nI (dp D) from I.2.2.1.1.2.2.2, pk_mul, if_pos (nI_le (by omega) (by omega))]
    by_cases e : x = 0
    · rw [if_neg (fun q => q e), if_pos e]; rfl
    · rw [if_pos e, if_neg e]; rfl
  | d + 1, m + 1, v, b, l, f, g, hv, hm, hl => by
    have V := I.1
    have hb := prim_b V.2.2.1
    have hn := V.1
    have hpp : dp D * dp D ≤ 31 * 31 := Nat.mul_le_mul hb.2 hb.2
    have hdv : v / dp D < dp D := Nat.div_lt_of_lt_mul (by omega)
    have hmv : v % dp D < dp D := Nat.mod_lt _ (by omega)
    have M2 : MN 3 4 5 6 76 77 78 D (sw (sw σ 87 g) 86 f) := MN1_sm (Sm_tr (Sm_sw (fun _ => rfl)) (Sm_sw (fun _ => rfl))) I.2.2.1
    obtain ⟨f1, e1, g1⟩ := mcp_ok V M2
    rw [sw_idem] at e1
    have hA : ∀ i j, j < dn D → tA D i j < dp D := fun i j _ => tA_lt V i j
    have hA2 := Av_lt (a := hi) (v := v % dp D) hmv (Av_lt (a := lo) (v := v / dp D) hdv hA)
    obtain ⟨f2, g2, pv, e2, _, _, _⟩ := mst_ok (σ := sw σ 87 g) (n := dn D) (p := dp D) (A := Av (Av (tA D) lo (v / dp D)) hi (v % dp D)) (f := upd (upd f1 (10 * lo) (nI (v / dp D))) (10 * hi) (nI (v % dp D))) I.2.2.1.1.1 I.2.2.1.1.2.2.2 V.2.2.1 hn.2 hA2 (GE_mid hn.2 hhi (GE_mid hn.2 hlo g1))
    rw [sw_idem] at e2
    have hrk : r2 D lo hi v ≤ dn D := rk_le V.2.2.1 hA2
    have ed : zdvq (nI v) (nI (dp D)) = some (nI (v / dp D)) := by
      unfold zdvq
      rw [if_neg (show ¬ nI (dp D) = 0 from nI_ne0 (by omega) (by omega)), pk_div (by omega) (by omega) (by omega)]
    rw [M_mendTwo_c54, show sw (sw σ 87 g) 86 f 75 6 = nI (dp D) from I.2.2.1.1.2.2.2, pk_mul, if_neg (nI_ge (by omega) (by omega)), e1, ob_some, show sw (sw σ 87 g) 86 f1 75 6 = nI (dp D) from I.2.2.1.1.2.2.2, ed, ob_some, z_10, pk_mul, st86 (by omega), ob_some, su_sw, show sw (sw σ 87 g) 86 (upd f1 (10 * lo) (nI (v / dp D))) 75 6 = nI (dp D) from I.2.2.1.1.2.2.2, rem_ok (by omega) (by omega) (by omega), ob_some, pk_mul, st86 (by omega), ob_some, su_sw, e2, zb2_sm, mf2]
    show ∃ f2_1 g2_1, (if nI l ≤ nI (r2 D lo hi v) then M_mendTwo_c126 (M_mendTwo_c54 m) x (nI lo) (nI hi) (nI l) (nI v) (nI (r2 D lo hi v)) (nI b) (sw (sw σ 87 g2) 86 f2) else M_mendTwo_c126 (M_mendTwo_c54 m) x (nI lo) (nI hi) (nI l) (nI v) (nI (r2 D lo hi v)) (nI v) (sw (sw σ 87 g2) 86 f2)) = some (_, sw (sw σ 87 g2_1) 86 f2_1)
    unfold M_mendTwo_c126
    by_cases e : r2 D lo hi v < l
    · have n1 : ¬ nI l ≤ nI (r2 D lo hi v) := nI_ge e (by omega)
      rw [if_neg n1, if_neg n1, if_pos e, nI_1]
      exact mm2_loop I hlo hhi d m (v + 1) v _ f2 g2 (by omega) (by omega) (by omega)
    · have n1 : nI l ≤ nI (r2 D lo hi v) := nI_le (by omega) (by omega)
      rw [if_pos n1, if_pos n1, if_neg e, nI_1]
      exact mm2_loop I hlo hhi d m (v + 1) b l f2 g2 (by omega) (by omega) hl
theorem r2_at {D : yD} {lo hi f x : Nat} (hx : x < dp D) : r2 D lo hi (dp D * f + x) = rk (dp D) (dn D) (Av (Av (tA D) lo f) hi x) := by
  unfold r2
  rw [Nat.mul_add_div (by omega), Nat.div_eq_of_lt hx, Nat.add_zero, Nat.mul_add_mod, Nat.mod_eq_of_lt hx]
theorem xm2_loop {D : yD} {lo hi : Nat} {x : Int32} (V : Vd D) (hlo : lo < dn D) (hhi : hi < dn D) : ∀ (d m f b l : Nat) (σ : zSt), f + d = dp D → d < m → b < 1000 → l ≤ 10 → In D σ → ∃ σ2, X_mendTwo_c44 m x (nI lo) (nI hi) (nI b) (nI l) (nI f) σ = some (if x = 0 then nI (mf2 (r2 D lo hi) (dp D * d) (dp D * f) b l).1 else nI (mf2 (r2 D lo hi) (dp D * d) (dp D * f) b l).2, σ2) ∧ In D σ2
  | d, 0, f, b, l, σ, _, hm, _, _, _ => absurd hm (Nat.not_lt_zero _)
  | 0, m + 1, f, b, l, σ, hf, _, _, _, I => by
    have hb := prim_b V.2.2.1
    refine ⟨σ, ?_, I⟩
    rw [X_mendTwo_c44, I.2.1.1.2.2.2, if_pos (nI_le (by omega) (by omega)), Nat.mul_zero]
    by_cases e : x = 0
    · rw [if_neg (fun q => q e), if_pos e]; rfl
    · rw [if_pos e, if_neg e]; rfl
  | d + 1, m + 1, f, b, l, σ, hf, hm, hbb, hl, I => by
    have hb := prim_b V.2.2.1
    have hn := V.1
    have hA : ∀ i j, j < dn D → tA D i j < dp D := fun i j _ => tA_lt V i j
    have hA2 := Av_lt (a := lo) (v := f) (by omega) hA
    obtain ⟨σ1, c, e1, G1, f1⟩ := gtk_ok I
    have hc := G1.2.1.1 lo (by omega)
    obtain ⟨k1, k2, _⟩ := kd_gr (c lo) (by omega) hc.2.1 (Or.inl hc.2.2)
    have G2 : GX (dn D) (dp D) c (Av (tA D) lo f) (su σ1 (c lo) lo (nI f)) := by
      rw [su_sw0]
      refine GX_cg (GX_row (r := lo) (g := fun j => if j = lo then f else tA D lo j) hn.2 G1 (by omega) (fun y hy => ?_)) (fun i hi j hj => ?_)
      · show upd (σ1 (c lo)) lo (nI f) y = nI (if y = lo then f else tA D lo y)
        by_cases e : y = lo
        · rw [e, pk_us, if_pos rfl]
        · rw [pk_un e, if_neg e]; exact G1.2.2 lo (by omega) y hy
      · show (if i = lo then (if j = lo then f else tA D lo j) else tA D i j) = Av (tA D) lo f i j
        unfold Av
        by_cases e : i = lo
        · by_cases e2 : j = lo
          · rw [if_pos e, if_pos e2, if_pos ⟨e, e2⟩]
          · rw [if_pos e, if_neg e2, if_neg (fun w => e2 w.2), e]
        · rw [if_neg e, if_neg (fun w => e w.1)]
    obtain ⟨σ2, e2, e3, ce, f2⟩ := gmd_ok V.2.2.1 hn hhi hA2 G2
    have I2 : In D σ2 := In_gr I (fun b q hq => by rw [f2 b q hq, su_ap, if_neg (by omega), f1 b q (by omega)]) ce
    have blk := mf2_blk (g := r2 D lo hi) (P := mP (dp D) (dn D) hi (Av (tA D) lo f)) (r := Mr (dp D) (dn D) hi (Av (tA D) lo f)) (V := dp D * f) (d := dp D) (b := b) (l := l) (by omega) (fun y hy => by rw [r2_at hy]; exact rk_mP V.2.2.1 hn hhi hA2 hy)
    have hm1 := Mr_le V.2.2.1 hn.1 hhi hA2
    have hadd := mf2_add (g := r2 D lo hi) (dp D) (dp D * d) (dp D * f) b l
    rw [show dp D + dp D * d = dp D * (d + 1) by rw [Nat.mul_succ, Nat.add_comm], show dp D * f + dp D = dp D * (f + 1) by rw [Nat.mul_succ], blk] at hadd
    rw [hadd]
    have hs : (cs (mP (dp D) (dn D) hi (Av (tA D) lo f)) (Mr (dp D) (dn D) hi (Av (tA D) lo f)) (dp D) 0).1 < dp D ∧ (cs (mP (dp D) (dn D) hi (Av (tA D) lo f)) (Mr (dp D) (dn D) hi (Av (tA D) lo f)) (dp D) 0).2 ≤ 9 := by
      rcases cs_cases (P := mP (dp D) (dn D) hi (Av (tA D) lo f)) (r := Mr (dp D) (dn D) hi (Av (tA D) lo f)) (dp D) 0 with ⟨h1, h2, h3⟩ | h1
      · omega
      · rw [h1]
        exact ⟨by show 0 < dp D; omega, by show Mr (dp D) (dn D) hi (Av (tA D) lo f) + 1 ≤ 9; omega⟩
    generalize cs (mP (dp D) (dn D) hi (Av (tA D) lo f)) (Mr (dp D) (dn D) hi (Av (tA D) lo f)) (dp D) 0 = z at *
    have hpf : dp D * f ≤ 31 * 30 := Nat.mul_le_mul hb.2 (by omega)
    rw [X_mendTwo_c44, I.2.1.1.2.2.2, if_neg (nI_ge (by omega) (by omega)), e1, ob_some, lr52 (by omega) hc.1 hc.2.2, ob_some, zst_at k1 k2 (by omega : lo < 9) (by decide), ob_some, e2, zb2_sm, e3]
    by_cases e : z.2 < l
    · rw [if_neg (nI_ge e (by omega)), if_pos e, I2.2.1.1.2.2.2, pk_mul, nI_add, nI_1]
      exact xm2_loop V hlo hhi d m (f + 1) (dp D * f + z.1) z.2 σ2 (by omega) (by omega) (by omega) (by omega) I2
    · rw [if_pos (nI_le (by omega) (by omega)), if_neg e, nI_1]
      exact xm2_loop V hlo hhi d m (f + 1) b l σ2 (by omega) (by omega) hbb hl I2
theorem q_mendTwo (x y z : Int32) : Q2 (X_mendTwo x y z) (M_mendTwo x y z) := by
  rintro σ ⟨D, I⟩
  have V := I.1
  have hn := V.1
  have hb := prim_b V.2.2.1
  rcases two2 V.1 x y with ⟨g1, g2⟩ | ⟨i, j, rfl, rfl, hi, hj, hij, g1, g2⟩
  · refine ⟨-1, σ, σ, ?_, ?_, D, I⟩
    · unfold X_mendTwo; rw [g1 σ I.2.1.1.1, ob_some, if_pos rfl]
    · unfold M_mendTwo; rw [g2 σ I.2.2.1.1.1, ob_some, if_pos rfl]
  rcases rng z 0 1 (by decide) (by decide) with k | ⟨k, k2, k3⟩ | ⟨s, _, hs, rfl⟩
  · refine ⟨-1, σ, σ, ?_, ?_, D, I⟩
    · unfold X_mendTwo; rw [g1 σ I.2.1.1.1, ob_some, if_neg i10, if_pos (show z < 0 from k)]
    · unfold M_mendTwo; rw [g2 σ I.2.2.1.1.1, ob_some, if_neg i10, show M_in z 0 1 σ = some 0 from min_lo k, ob_some, if_neg (fun q => q rfl)]
  · refine ⟨-1, σ, σ, ?_, ?_, D, I⟩
    · unfold X_mendTwo; rw [g1 σ I.2.1.1.1, ob_some, if_neg i10, if_neg (show ¬ z < 0 from k), if_neg (show ¬ z ≤ 1 from k3)]
    · unfold M_mendTwo; rw [g2 σ I.2.2.1.1.1, ob_some, if_neg i10, show M_in z 0 1 σ = some 0 from min_hi k k2, ob_some, if_neg (fun q => q rfl)]
  · -- the lesser and the greater
    have main : ∀ lo hi, lo < dn D → hi < dn D → X_mendTwo (nI i) (nI j) (nI s) σ = X_mendTwo_c44 zF (nI s) (nI lo) (nI hi) 0 10 0 σ → (∀ σ2, In D σ2 → M_mendTwo (nI i) (nI j) (nI s) σ2 = M_mendTwo_c54 zF (nI s) (nI lo) (nI hi) 0 10 0 σ2) → ∃ r σ1 σ2, X_mendTwo (nI i) (nI j) (nI s) σ = some (r, σ1) ∧ M_mendTwo (nI i) (nI j) (nI s) σ1 = some (r, σ2) ∧ Inv σ2 := fun lo hi hlo hhi hX hM => by
      obtain ⟨σ2, e2, I2⟩ := xm2_loop (x := nI s) V hlo hhi (dp D) zF 0 0 10 σ (Nat.zero_add _) (zF_big (by omega)) (by decide) (Nat.le_refl _) I
      have hpp : dp D * dp D ≤ 31 * 31 := Nat.mul_le_mul hb.2 hb.2
      obtain ⟨f3, g3, e4⟩ := mm2_loop (x := nI s) I2 hlo hhi (dp D * dp D) zF 0 0 10 (σ2 86) (σ2 87) (Nat.zero_add _) (zF_big (by omega)) (Nat.le_refl _)
      rw [sw_self] at e4
      rw [sw_self] at e4
      rw [Nat.mul_zero] at e2
      refine ⟨_, σ2, sw (sw σ2 87 g3) 86 f3, hX.trans e2, (hM σ2 I2).trans e4, D, In_sm (Sm_tr (Sm_sw (fun _ => rfl)) (Sm_sw (fun _ => rfl))) I2⟩
    have pre : ∀ σ2, In D σ2 → M_mendTwo (nI i) (nI j) (nI s) σ2 = if nI j ≤ nI i then M_mendTwo_c30 (nI i) (nI j) (nI s) (nI j) σ2 else M_mendTwo_c30 (nI i) (nI j) (nI s) (nI i) σ2 := fun σ2 I2 => by
      unfold M_mendTwo
      rw [g2 σ2 I2.2.2.1.1.1, ob_some, if_neg i10, show M_in (nI s) 0 1 σ2 = some 1 from min_ok (Nat.zero_le _) hs (by decide), ob_some, if_pos i10]
    by_cases c : i < j
    · refine main i j hi hj ?_ (fun σ2 I2 => ?_)
      · unfold X_mendTwo
        rw [g1 σ I.2.1.1.1, ob_some, if_neg i10, if_neg (nI_pos (by omega)), if_pos (show nI s ≤ 1 from nI_le (b := 1) hs (by decide)), zlet_ap, zlet_ap, if_neg (nI_nlt (by omega) (by omega)), if_pos (nI_lt c (by omega))]
      · rw [pre σ2 I2, if_neg (nI_ge c (by omega))]
        unfold M_mendTwo_c30 M_mendTwo_c42
        rw [if_neg (nI_ge c (by omega))]
    · refine main j i hj hi ?_ (fun σ2 I2 => ?_)
      · unfold X_mendTwo
        rw [g1 σ I.2.1.1.1, ob_some, if_neg i10, if_neg (nI_pos (by omega)), if_pos (show nI s ≤ 1 from nI_le (b := 1) hs (by decide)), zlet_ap, zlet_ap, if_pos (nI_lt (by omega) (by omega)), if_neg (nI_nlt (by omega) (by omega))]
      · rw [pre σ2 I2, if_pos (nI_le (by omega) (by omega))]
        unfold M_mendTwo_c30 M_mendTwo_c42
        rw [if_pos (nI_le (by omega) (by omega))]

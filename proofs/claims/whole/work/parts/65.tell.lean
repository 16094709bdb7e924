/-! PURE: the class tells a change -/
def upE (e : Nat → yE) (q : Nat) (E : yE) : Nat → yE := fun j => if j = q then E else e j
def tH (H : yH) (E : yE) : yH := if hd H < 12 then (hd H + 1, hd H + 1, upE (he H) (hd H) E) else (12, 12, upE (fun q => he H (q + 1)) 11 E)
theorem tH_V {n : Nat} {H : yH} {E : yE} (h : HV n H) (hE : EV n E) : HV n (tH H E) := by
  obtain ⟨⟨h1, h2⟩, h3⟩ := h
  unfold tH
  by_cases c : hd H < 12
  · rw [if_pos c]
    refine ⟨⟨Nat.le_refl _, (by omega : hd H + 1 ≤ 12)⟩, fun q hq => ?_⟩
    have hq2 : q < hd H + 1 := hq
    show EV n (upE (he H) (hd H) E q)
    unfold upE
    by_cases e : q = hd H
    · rw [if_pos e]; exact hE
    · rw [if_neg e]; exact h3 q (by omega)
  · rw [if_neg c]
    refine ⟨⟨Nat.le_refl _, Nat.le_refl _⟩, fun q hq => ?_⟩
    have hq2 : q < 12 := hq
    show EV n (upE (fun q => he H (q + 1)) 11 E q)
    unfold upE
    by_cases e : q = 11
    · rw [if_pos e]; exact hE
    · rw [if_neg e]; exact h3 (q + 1) (by omega)
theorem kd_ch : ∀ v, v < 43 → 31 ≤ v → Nat.beq (zkd v) 2 = true ∧ Nat.blt v zNL = true := by decide +kernel
theorem lr30 {σ : zSt} {q v : Nat} (hq : q < 12) (h : σ 30 q = nI v) (hv : v ≤ 42) : zlr σ 30 (nI q) = some v := by
  unfold zlr
  rw [show zre (zkd 30) = true from rfl, show zln 30 = 12 from rfl, zob_ok hq (by decide), nI_clamp (by omega)]
  show some (ztr 30 (σ 30) q) = _
  rw [show ztr 30 (σ 30) q = (σ 30 q).toNatClampNeg from rfl, h, nI_clamp (by omega)]
theorem sR30 {σ : zSt} {q v : Nat} (hq : q < 12) (h : 31 ≤ v) (hv : v ≤ 42) : zsR σ 30 (nI q) v = some (su σ 30 q (nI v)) := by
  obtain ⟨k1, k2⟩ := kd_ch v (by omega) h
  unfold zsR
  rw [k1, k2, show zln 30 = 12 from rfl, zob_ok hq (by decide), nI_clamp (by omega)]
  rfl
theorem xde_loop {σ : zSt} {c : Nat → Nat} (hc : ∀ q, q < 12 → 31 ≤ c q ∧ c q ≤ 42) : ∀ (d n i : Nat) (f : Nat → Int32), i + d = 12 → d < n → 1 ≤ i → (∀ q, q + 1 < i → f q = nI (c (q + 1))) → (∀ q, i ≤ q + 1 → q < 12 → f q = nI (c q)) → ∃ f2, His_dropEldest_c9 n (c 0) (nI i) (sw σ 30 f) = some (su (sw σ 30 f2) 29 1 11) ∧ (∀ q, q < 11 → f2 q = nI (c (q + 1))) ∧ f2 11 = nI (c 0)
  | d, 0, i, f, _, hm, _, _, _ => absurd hm (Nat.not_lt_zero _)
  | 0, m + 1, i, f, hi, _, _, h1, h2 => by
    obtain rfl : i = 12 := by omega
    have h0 := hc 0 (by decide)
    rw [His_dropEldest_c9, if_pos (show (12 : Int32) ≤ nI 12 by decide), show (11 : Int32) = nI 11 from rfl, sR30 (by decide) h0.1 h0.2, ob_some, zlet_ap, su_sw]
    refine ⟨_, rfl, fun q hq => ?_, pk_us⟩
    rw [pk_un (by omega)]
    exact h1 q (by omega)
  | d + 1, m + 1, i, f, hi, hm, hi1, h1, h2 => by
    have h0 := hc i (by omega)
    have e1 : nI i - 1 = nI (i - 1) := pk_sub (b := 1) hi1
    rw [His_dropEldest_c9, if_neg (show ¬ (12 : Int32) ≤ nI i from nI_ge (b := 12) (by omega) (by decide)), lr30 (v := c i) (by omega) (by rw [sw_ap, if_pos rfl]; exact h2 i (by omega) (by omega)) h0.2, ob_some, e1, sR30 (by omega) h0.1 h0.2, ob_some, su_sw, nI_1]
    refine xde_loop hc d m (i + 1) _ (by omega) (by omega) (by omega) (fun q hq => ?_) (fun q hq hq2 => ?_)
    · by_cases e : q = i - 1
      · subst e; rw [pk_us, show i - 1 + 1 = i by omega]
      · rw [pk_un e]; exact h1 q (by omega)
    · rw [pk_un (by omega)]; exact h2 q (by omega) hq2
theorem xde_ok {σ : zSt} {c : Nat → Nat} (hc : ∀ q, q < 12 → σ 30 q = nI (c q) ∧ 31 ≤ c q ∧ c q ≤ 42) : ∃ f2, His_dropEldest σ = some (su (sw σ 30 f2) 29 1 11) ∧ (∀ q, q < 11 → f2 q = nI (c (q + 1))) ∧ f2 11 = nI (c 0) := by
  have h0 := hc 0 (by decide)
  unfold His_dropEldest
  rw [show (0 : Int32) = nI 0 from rfl, lr30 (by decide) h0.1 h0.2.2, ob_some]
  have := xde_loop (σ := σ) (c := c) (fun q hq => (hc q hq).2) 11 zF 1 (σ 30) rfl (zF_big (by decide)) (Nat.le_refl _) (fun q hq => absurd hq (by omega)) (fun q _ hq => (hc q hq).1)
  rw [sw_self] at this
  exact this
theorem xt33 {σ : zSt} {D : yD} {w i j d : Nat} {v b : Int32} {e : Nat → yE} {c : Nat → Nat} (C : CN 1 2 3 4 6 D σ) (h29 : σ 29 1 = nI d) (hd : d < 12) (hp : Hp c σ) (hE : ∀ q, q < d → XE (c q) (e q) σ) (hi : i < 9) (hj : j < 9) (h : okv (dn D) w i j v) : ∃ σ2, His_tell_c33 (nI w) (nI i) (nI j) v b σ = some (b, σ2) ∧ XI (upD D w i j v) (d + 1, d + 1, upE e d (w, i, j, b, v)) σ2 ∧ ∀ a q, fX a q = false → σ2 a q = σ a q := by
  obtain ⟨hp1, hp2⟩ := hp
  have hcd := hp1 d hd
  obtain ⟨k1, _⟩ := kd_ch (c d) (by omega) hcd.2.1
  have eA : ∀ a q, a ≠ c d → a ≠ 29 → su (su (su (su (su (su (su σ (c d) 0 (nI w)) (c d) 1 (nI i)) (c d) 2 (nI j)) (c d) 3 b) (c d) 4 v) 29 1 (nI (d + 1))) 29 2 (nI (d + 1)) a q = σ a q := fun a q h1 h2 => by
    rw [su_ap, if_neg (fun z => h2 z.1), su_ap, if_neg (fun z => h2 z.1), su_ap, if_neg (fun z => h1 z.1), su_ap, if_neg (fun z => h1 z.1), su_ap, if_neg (fun z => h1 z.1), su_ap, if_neg (fun z => h1 z.1), su_ap, if_neg (fun z => h1 z.1)]
  have C2 : CN 1 2 3 4 6 D (su (su (su (su (su (su (su σ (c d) 0 (nI w)) (c d) 1 (nI i)) (c d) 2 (nI j)) (c d) 3 b) (c d) 4 v) 29 1 (nI (d + 1))) 29 2 (nI (d + 1))) := CN1_sm (fun a q hf => eA a q (fun z => by
    subst z
    unfold fC1 at hf
    simp only [zbl, Bool.and_eq_true, decide_eq_true_eq] at hf
    omega) (fun z => by subst z; cases hf)) C
  obtain ⟨σ2, e1, C3, f3⟩ := xsv_ok C2 hi hj h
  have e29 : su (su (su (su (su σ (c d) 0 (nI w)) (c d) 1 (nI i)) (c d) 2 (nI j)) (c d) 3 b) (c d) 4 v 29 1 + 1 = nI (d + 1) := by
    rw [su_ap, if_neg (by omega), su_ap, if_neg (by omega), su_ap, if_neg (by omega), su_ap, if_neg (by omega), su_ap, if_neg (by omega), h29, nI_1]
  refine ⟨σ2, ?_, ⟨C3, (by omega : d + 1 ≤ 12), ⟨?_, ?_⟩, c, ⟨fun q hq => ⟨?_, (hp1 q hq).2⟩, hp2⟩, fun q hq => ?_⟩, fun a q hf => ?_⟩
  · unfold His_tell_c33
    rw [h29, lr30 hd hcd.1 hcd.2.2, ob_some, k1]
    simp only [zlet_ap, cond_true]
    rw [e29, show su (su (su (su (su (su σ (c d) 0 (nI w)) (c d) 1 (nI i)) (c d) 2 (nI j)) (c d) 3 b) (c d) 4 v) 29 1 (nI (d + 1)) 29 1 = nI (d + 1) by rw [su_ap, if_pos ⟨rfl, rfl⟩], e1, ob_some]
  · rw [f3 _ _ rfl, su_ap, if_neg (by omega), su_ap, if_pos ⟨rfl, rfl⟩]; rfl
  · rw [f3 _ _ rfl, su_ap, if_pos ⟨rfl, rfl⟩]; rfl
  · rw [f3 _ _ rfl, eA _ _ (by omega) (by decide)]; exact (hp1 q hq).1
  · have hq2 : q < d + 1 := hq
    have hcq := hp1 q (by omega)
    have fc : ∀ x, fC1 (c q) x = false := fun x => f_no fun z => by
      unfold fC1 at z
      simp only [zbl, Bool.and_eq_true, decide_eq_true_eq] at z
      omega
    show XE (c q) (upE e d (w, i, j, b, v) q) σ2
    unfold upE
    by_cases z : q = d
    · rw [if_pos z, z]
      rw [z] at fc
      have ne : c d ≠ 29 := by omega
      refine ⟨?_, ?_, ?_, ?_, ?_⟩
      · rw [f3 _ _ (fc 0)]; simp [su_ap, ne, ew]
      · rw [f3 _ _ (fc 1)]; simp [su_ap, ne, ei]
      · rw [f3 _ _ (fc 2)]; simp [su_ap, ne, ej]
      · rw [f3 _ _ (fc 3)]; simp [su_ap, ne, eb]
      · rw [f3 _ _ (fc 4)]; simp [su_ap, ne, ea]
    · rw [if_neg z]
      refine XE_sm (σ := σ) (fun x => ?_) (hE q (by omega))
      rw [f3 _ _ (fc x), eA _ _ (fun z2 => z (hp2 q d (by omega) hd z2)) (by omega)]
  · have := fX_at hf
    rw [f3 a q (fX_C hf), eA a q (by omega) (by omega)]

/-! PURE: the class's grid -/
def GX (n p : Nat) (c : Nat → Nat) (A : Nat → Nat → Nat) (σ : zSt) : Prop := (σ 51 0 = nI n ∧ σ 51 1 = nI p) ∧ ((∀ q, q < 9 → σ 52 q = nI (c q) ∧ 53 ≤ c q ∧ c q ≤ 61) ∧ ∀ q q2, q < 9 → q2 < 9 → c q = c q2 → q = q2) ∧ ∀ i, i < n → ∀ j, j < n → σ (c i) j = nI (A i j)
theorem GX_cg {n p : Nat} {c : Nat → Nat} {A B : Nat → Nat → Nat} {σ : zSt} (h : GX n p c A σ) (e : ∀ i, i < n → ∀ j, j < n → A i j = B i j) : GX n p c B σ := ⟨h.1, h.2.1, fun i hi j hj => by rw [h.2.2 i hi j hj, e i hi j hj]⟩
theorem GX_sm {n p : Nat} {c : Nat → Nat} {A : Nat → Nat → Nat} {σ σ2 : zSt} (hn : n ≤ 9) (h : GX n p c A σ) (e : ∀ a q, 51 ≤ a → a ≤ 61 → σ2 a q = σ a q) : GX n p c A σ2 := ⟨⟨(e 51 0 (by decide) (by decide)).trans h.1.1, (e 51 1 (by decide) (by decide)).trans h.1.2⟩, ⟨fun q hq => ⟨(e 52 q (by decide) (by decide)).trans (h.2.1.1 q hq).1, (h.2.1.1 q hq).2⟩, h.2.1.2⟩, fun i hi j hj => by
  have hc := (h.2.1.1 i (by omega)).2
  exact (e _ j (by omega) (by omega)).trans (h.2.2 i hi j hj)⟩
theorem kd_gr : ∀ v, v < 64 → 53 ≤ v → (v ≤ 61 ∨ v = 63) → Nat.beq (zkd v) 100 = true ∧ zln v = 9 ∧ Nat.blt v zNL = true := by decide +kernel
theorem lr52 {σ : zSt} {q v : Nat} (hq : q < 9) (h : σ 52 q = nI v) (hv : v ≤ 61) : zlr σ 52 (nI q) = some v := by
  unfold zlr
  rw [show zre (zkd 52) = true from rfl, show zln 52 = 9 from rfl, zob_ok hq (by decide), nI_clamp (by omega)]
  show some (ztr 52 (σ 52) q) = _
  rw [show ztr 52 (σ 52) q = (σ 52 q).toNatClampNeg from rfl, h, nI_clamp (by omega)]
theorem sR52 {σ : zSt} {q v : Nat} (hq : q < 9) (h : 53 ≤ v) (hv : v ≤ 61) : zsR σ 52 (nI q) v = some (su σ 52 q (nI v)) := by
  obtain ⟨k1, k2, k3⟩ := kd_gr v (by omega) h (Or.inl hv)
  unfold zsR
  rw [k1, k3, show zln 52 = 9 from rfl, zob_ok hq (by decide), nI_clamp (by omega)]
  rfl
theorem gmod_ok {σ : zSt} {p : Nat} {x : Int32} (h : σ 51 1 = nI p) (hp : prim p) (h1 : -1000 ≤ x.toInt) (h2 : x.toInt < 1000) : Grd_modulo x σ = some (nI (mdz p x.toInt)) := by
  have hb := prim_b hp
  unfold Grd_modulo
  rw [h, if_pos (show (1 : Int32) ≤ nI p from nI_le (a := 1) (by omega) (by omega))]
  exact mdc_ok hp h1 h2
theorem gmod_nat {σ : zSt} {p x : Nat} (h : σ 51 1 = nI p) (hp : prim p) (hx : x < 1000) : Grd_modulo (nI x) σ = some (nI (x % p)) := by
  have e : (nI x).toInt = (x : Int) := nI_toInt (by omega)
  rw [gmod_ok h hp (by omega) (by omega), e, mdz_nat]
theorem gmod_sub {σ : zSt} {p a b t : Nat} (h : σ 51 1 = nI p) (hp : prim p) (ha : a < p) (hb : b < p) (ht : t < p) : Grd_modulo (nI a - nI t * nI b) σ = some (nI ((a + (p - t) * b) % p)) := by
  have hpb := prim_b hp
  have h1 : t * b ≤ 31 * 31 := Nat.mul_le_mul (by omega) (by omega)
  have e : (nI a - nI t * nI b).toInt = (a : Int) - t * b := by
    rw [pk_mul, pk_sub_toInt (by omega) (by omega), Int.natCast_mul]
  have h2 : ((t * b : Nat) : Int) = (t : Int) * b := Int.natCast_mul t b
  rw [gmod_ok h hp (by rw [e]; omega) (by rw [e]; omega), e, mdz_sub (by omega)]
theorem gtk_in {σ1 : zSt} {D : yD} {c : Nat → Nat} {i : Nat} (V : Vd D) (C : CN 1 2 3 4 6 D σ1) (h51 : σ1 51 0 = nI (dn D) ∧ σ1 51 1 = nI (dp D)) (hc : (∀ q, q < 9 → σ1 52 q = nI (c q) ∧ 53 ≤ c q ∧ c q ≤ 61) ∧ ∀ q q2, q < 9 → q2 < 9 → c q = c q2 → q = q2) (hi : i < dn D) (c18 : Int32 → zSt → Option zSt) : ∀ (d m j : Nat) (σ : zSt), j + d = dn D → d < m → (∀ a q, (a < 53 ∨ 61 < a) → σ a q = σ1 a q) → (∀ x, x < i → ∀ y, y < dn D → σ (c x) y = nI (tA D x y)) → (∀ y, y < j → σ (c i) y = nI (tA D i y)) → ∃ σ2, Grd_take_c28 c18 m (nI i) (nI j) σ = c18 (nI (i + 1)) σ2 ∧ (∀ a q, (a < 53 ∨ 61 < a) → σ2 a q = σ1 a q) ∧ ∀ x, x < i + 1 → ∀ y, y < dn D → σ2 (c x) y = nI (tA D x y)
  | d, 0, j, σ, _, hm, _, _, _ => absurd hm (Nat.not_lt_zero _)
  | 0, m + 1, j, σ, hj, _, hf, h1, h2 => by
    have hn := V.1.2
    refine ⟨σ, ?_, hf, fun x hx y hy => ?_⟩
    · rw [Grd_take_c28, hf 51 0 (by omega), h51.1, if_pos (nI_le (by omega) (by omega)), nI_1]
    · by_cases e : x = i
      · rw [e]; exact h2 y (by omega)
      · exact h1 x (by omega) y hy
  | d + 1, m + 1, j, σ, hj, hm, hf, h1, h2 => by
    have hn := V.1.2
    have hci := hc.1 i (by omega)
    obtain ⟨k1, k2, _⟩ := kd_gr (c i) (by omega) hci.2.1 (Or.inl hci.2.2)
    have he := V.2.2.2.2.2.1 i j
    unfold ent at he
    rw [Grd_take_c28, hf 51 0 (by omega), h51.1, if_neg (nI_ge (by omega) (by omega)), lr52 (v := c i) (by omega) (by rw [hf 52 i (by omega)]; exact hci.1) hci.2.2, ob_some, lr6 (by omega), ob_some, ldr6 (by omega) (by omega), ob_some, hf (6 + i) j (by omega), C.2.2.2.2 i (by omega) j (by omega), gmod_ok (p := dp D) (by rw [hf 51 1 (by omega)]; exact h51.2) V.2.2.1 (by omega) (by omega), ob_some, zst_at k1 k2 (by omega : j < 9) (by decide), ob_some, nI_1]
    refine gtk_in V C h51 hc hi c18 d m (j + 1) _ (by omega) (by omega) (fun a q hq => ?_) (fun x hx y hy => ?_) (fun y hy => ?_)
    · rw [su_ap, if_neg (by omega)]; exact hf a q hq
    · rw [su_ap, if_neg (fun w => by have := hc.2 x i (by omega) (by omega) w.1; omega)]; exact h1 x hx y hy
    · by_cases e : y = j
      · rw [e, su_ap, if_pos ⟨rfl, rfl⟩]; rfl
      · rw [su_ap, if_neg (fun w => e w.2)]; exact h2 y (by omega)
theorem gtk_loop {σ1 : zSt} {D : yD} {c : Nat → Nat} (V : Vd D) (C : CN 1 2 3 4 6 D σ1) (h51 : σ1 51 0 = nI (dn D) ∧ σ1 51 1 = nI (dp D)) (hc : (∀ q, q < 9 → σ1 52 q = nI (c q) ∧ 53 ≤ c q ∧ c q ≤ 61) ∧ ∀ q q2, q < 9 → q2 < 9 → c q = c q2 → q = q2) : ∀ (d m i : Nat) (σ : zSt), i + d = dn D → d < m → (∀ a q, (a < 53 ∨ 61 < a) → σ a q = σ1 a q) → (∀ x, x < i → ∀ y, y < dn D → σ (c x) y = nI (tA D x y)) → ∃ σ2, Grd_take_c18 m (nI i) σ = some σ2 ∧ (∀ a q, (a < 53 ∨ 61 < a) → σ2 a q = σ1 a q) ∧ ∀ x, x < dn D → ∀ y, y < dn D → σ2 (c x) y = nI (tA D x y)
  | d, 0, i, σ, _, hm, _, _ => absurd hm (Nat.not_lt_zero _)
  | 0, m + 1, i, σ, hi, _, hf, h1 => by
    have hn := V.1.2
    exact ⟨σ, by rw [Grd_take_c18, hf 51 0 (by omega), h51.1, if_pos (nI_le (by omega) (by omega))], hf, fun x hx y hy => h1 x (by omega) y hy⟩
  | d + 1, m + 1, i, σ, hi, hm, hf, h1 => by
    have hn := V.1.2
    obtain ⟨σ2, e2, f2, g2⟩ := gtk_in V C h51 hc (i := i) (by omega) (Grd_take_c18 m) (dn D) zF 0 σ (Nat.zero_add _) (zF_big (by omega)) hf h1 (fun y hy => absurd hy (Nat.not_lt_zero _))
    rw [Grd_take_c18, hf 51 0 (by omega), h51.1, if_neg (nI_ge (by omega) (by omega)), show (0 : Int32) = nI 0 from rfl, e2]
    exact gtk_loop V C h51 hc d m (i + 1) σ2 (by omega) (by omega) f2 g2
theorem gtk_ok {σ : zSt} {D : yD} (I : In D σ) : ∃ σ2 c, Grd_take σ = some σ2 ∧ GX (dn D) (dp D) c (tA D) σ2 ∧ ∀ a q, (a < 51 ∨ 61 < a) → σ2 a q = σ a q := by
  have V := I.1
  obtain ⟨c, hc1, hc2⟩ := I.2.2.2.2.2.2.2.2
  have eA : ∀ a q, a ≠ 51 → su (su σ 51 0 (nI (dn D))) 51 1 (nI (dp D)) a q = σ a q := fun a q h => by rw [su_ap, if_neg (fun w => h w.1), su_ap, if_neg (fun w => h w.1)]
  have C2 : CN 1 2 3 4 6 D (su (su σ 51 0 (nI (dn D))) 51 1 (nI (dp D))) := CN1_sm (Sm_tr (Sm_su rfl) (Sm_su rfl)) I.2.1
  have h51 : su (su σ 51 0 (nI (dn D))) 51 1 (nI (dp D)) 51 0 = nI (dn D) ∧ su (su σ 51 0 (nI (dn D))) 51 1 (nI (dp D)) 51 1 = nI (dp D) := ⟨by rw [su_ap, if_neg (by omega), su_ap, if_pos ⟨rfl, rfl⟩], by rw [su_ap, if_pos ⟨rfl, rfl⟩]⟩
  have hc : (∀ q, q < 9 → su (su σ 51 0 (nI (dn D))) 51 1 (nI (dp D)) 52 q = nI (c q) ∧ 53 ≤ c q ∧ c q ≤ 61) ∧ ∀ q q2, q < 9 → q2 < 9 → c q = c q2 → q = q2 := ⟨fun q hq => ⟨(eA 52 q (by decide)).trans (hc1 q hq).1, (hc1 q hq).2⟩, hc2⟩
  obtain ⟨σ2, e2, f2, g2⟩ := gtk_loop V C2 h51 hc (dn D) zF 0 _ (Nat.zero_add _) (zF_big (by have := V.1.2; omega)) (fun _ _ _ => rfl) (fun x hx => absurd hx (Nat.not_lt_zero _))
  refine ⟨σ2, c, ?_, ⟨⟨(f2 51 0 (by omega)).trans h51.1, (f2 51 1 (by omega)).trans h51.2⟩, ⟨fun q hq => ⟨(f2 52 q (by omega)).trans (hc.1 q hq).1, (hc1 q hq).2⟩, hc2⟩, g2⟩, fun a q hq => (f2 a q (by omega)).trans (eA a q (by omega))⟩
  unfold Grd_take
  rw [zlet_ap, I.2.1.1.1, show su σ 51 0 (nI (dn D)) 1 3 = nI (dp D) from I.2.1.1.2.2.2, zlet_ap]
  exact e2
theorem gfw_loop {σ : zSt} {n p R k : Nat} {c : Nat → Nat} {A : Nat → Nat → Nat} (h : GX n p c A σ) (hp : prim p) (hn : n ≤ 9) (hR : R ≤ n) (hk : k < n) (hA : ∀ i j, j < n → A i j < p) : ∀ (d m i : Nat), i + d = R → d < m → Grd_firstWith_c3 σ m (nI k) (nI R) (nI i) = some (if fw A k R d i = R then mI else nI (fw A k R d i))
  | d, 0, i, _, hm => absurd hm (Nat.not_lt_zero _)
  | 0, m + 1, i, hi, _ => by
    rw [Grd_firstWith_c3, if_pos (nI_le (by omega) (by omega)), fw, if_pos rfl]
    rfl
  | d + 1, m + 1, i, hi, hm => by
    have hb := prim_b hp
    have hci := h.2.1.1 i (by omega)
    obtain ⟨k1, k2, _⟩ := kd_gr (c i) (by omega) hci.2.1 (Or.inl hci.2.2)
    have a1 := hA i k hk
    rw [Grd_firstWith_c3, if_neg (nI_ge (by omega) (by omega)), lr52 (by omega) hci.1 hci.2.2, ob_some, zld_at k1 k2 (by omega : k < 9) (by decide), ob_some, h.2.2 i (by omega) k hk, fw]
    by_cases e : A i k = 0
    · rw [if_pos (by rw [e]; rfl), if_pos e, nI_1]
      exact gfw_loop h hp hn hR hk hA d m (i + 1) (by omega) (by omega)
    · rw [if_neg (show ¬ nI (A i k) = 0 from nI_ne0 (by omega) (by omega)), if_neg e, if_neg (by omega)]
def swp {α : Type} (g : Nat → α) (i j : Nat) : Nat → α := fun x => if x = i then g j else if x = j then g i else g x
theorem gsw_ok {σ : zSt} {n p i j : Nat} {c : Nat → Nat} {A : Nat → Nat → Nat} (h : GX n p c A σ) (hn : n ≤ 9) (hi : i < n) (hj : j < n) : ∃ σ2, Grd_swapRows (nI i) (nI j) σ = some σ2 ∧ GX n p (swp c i j) (swp A i j) σ2 ∧ ∀ a q, a ≠ 52 → σ2 a q = σ a q := by
  obtain ⟨h1, ⟨h2, h3⟩, h4⟩ := h
  have hi9 := h2 i (by omega)
  have hj9 := h2 j (by omega)
  have eA : ∀ a q, a ≠ 52 → su (su σ 52 i (nI (c j))) 52 j (nI (c i)) a q = σ a q := fun a q w => by rw [su_ap, if_neg (fun z => w z.1), su_ap, if_neg (fun z => w z.1)]
  refine ⟨su (su σ 52 i (nI (c j))) 52 j (nI (c i)), ?_, ⟨⟨(eA _ _ (by decide)).trans h1.1, (eA _ _ (by decide)).trans h1.2⟩, ⟨fun q hq => ?_, fun q q2 hq hq2 e => ?_⟩, fun x hx y hy => ?_⟩, eA⟩
  · unfold Grd_swapRows
    rw [lr52 (by omega) hi9.1 hi9.2.2, ob_some, lr52 (by omega) hj9.1 hj9.2.2, ob_some, sR52 (by omega) hj9.2.1 hj9.2.2, ob_some, sR52 (by omega) hi9.2.1 hi9.2.2, ob_some]
  · unfold swp
    rw [su_ap, su_ap]
    by_cases e : q = i
    · by_cases e2 : q = j
      · rw [if_pos ⟨rfl, e2⟩, if_pos e]
        have : i = j := by omega
        subst this
        exact ⟨rfl, hi9.2⟩
      · rw [if_neg (fun w => e2 w.2), if_pos ⟨rfl, e⟩, if_pos e]
        exact ⟨rfl, hj9.2⟩
    · by_cases e2 : q = j
      · rw [if_pos ⟨rfl, e2⟩, if_neg e, if_pos e2]
        exact ⟨rfl, hi9.2⟩
      · rw [if_neg (fun w => e2 w.2), if_neg (fun w => e w.2), if_neg e, if_neg e2]
        exact h2 q hq
  · have inj : ∀ x y, x < 9 → y < 9 → x ≠ y → c x ≠ c y := fun x y hx hy hne w => hne (h3 x y hx hy w)
    unfold swp at e
    by_cases e1 : q = i <;> by_cases e2 : q2 = i <;> by_cases e3 : q = j <;> by_cases e4 : q2 = j
    all_goals simp only [e1, e2, e3, e4, if_true, if_false] at e
    all_goals first
      | omega
      | (have := h3 _ _ (by omega) (by omega) e; omega)
      | (simp_all; done)
      | (split at e <;> (try split at e) <;> (have := h3 _ _ (by omega) (by omega) e; omega))
  · have : swp c i j x = c (if x = i then j else if x = j then i else x) ∧ swp A i j x = A (if x = i then j else if x = j then i else x) := by
      unfold swp
      by_cases e : x = i
      · rw [if_pos e, if_pos e, if_pos e]; exact ⟨rfl, rfl⟩
      · rw [if_neg e, if_neg e, if_neg e]
        by_cases e2 : x = j
        · rw [if_pos e2, if_pos e2, if_pos e2]; exact ⟨rfl, rfl⟩
        · rw [if_neg e2, if_neg e2, if_neg e2]; exact ⟨rfl, rfl⟩
    rw [this.1, this.2]
    have hx2 : (if x = i then j else if x = j then i else x) < n := by
      split
      · exact hj
      · split
        · exact hi
        · exact hx
    have hc := (h2 _ (by omega : (if x = i then j else if x = j then i else x) < 9)).2
    rw [eA _ _ (by omega)]
    exact h4 _ hx2 y hy
theorem giv_loop {σ : zSt} {p v : Nat} (h : σ 51 1 = nI p) (hp : prim p) (hv : v < p) : ∀ (d m w : Nat), w + d = p → d < m → Grd_inverseOf_c2 σ m (nI v) (nI w) = some (nI (ivd p v d w))
  | d, 0, w, _, hm => absurd hm (Nat.not_lt_zero _)
  | 0, m + 1, w, hw, _ => by
    have hb := prim_b hp
    rw [Grd_inverseOf_c2, h, if_pos (nI_le (by omega) (by omega))]
    rfl
  | d + 1, m + 1, w, hw, hm => by
    have hb := prim_b hp
    have h1 : w * v ≤ 31 * 31 := Nat.mul_le_mul (by omega) (by omega)
    have h2 : w * v % p < p := Nat.mod_lt _ (by omega)
    rw [Grd_inverseOf_c2, h, if_neg (nI_ge (by omega) (by omega)), pk_mul, Nat.mul_comm v w, gmod_nat h hp (by omega), ob_some, ivd]
    by_cases e : w * v % p = 1
    · rw [if_neg (fun q => q (by rw [e]; rfl)), if_pos e]
    · rw [if_pos (show ¬ nI (w * v % p) = 1 from fun q => e ((nI_inj (b := 1) (by omega) (by omega)).mp q)), if_neg e, nI_1]
      exact giv_loop h hp hv d m (w + 1) (by omega) (by omega)
theorem giv_ok {σ : zSt} {p v : Nat} (h : σ 51 1 = nI p) (hp : prim p) (hv : v < p) : Grd_inverseOf (nI v) σ = some (nI (iv p v)) := by
  have hb := prim_b hp
  exact giv_loop h hp hv (p - 1) zF 1 (by omega) (zF_big (by omega))
theorem gld_loop {σ : zSt} {n p l w : Nat} {a : Nat → Nat} (h0 : σ 51 0 = nI n) (h1 : σ 51 1 = nI p) (hp : prim p) (hn : n ≤ 9) (k1 : Nat.beq (zkd l) 100 = true) (k2 : zln l = 9) (hl : l ≠ 51) (ha : ∀ j, j < n → a j < p) (hw : w < p) : ∀ (d m j : Nat) (f : Nat → Int32), j + d = n → d < m → (∀ y, y < n → f y = nI (if y < j then a y * w % p else a y)) → ∃ f2, Grd_leadWithOne_c11 m l (nI w) (nI j) (sw σ l f) = some (sw σ l f2) ∧ ∀ y, y < n → f2 y = nI (a y * w % p)
  | d, 0, j, f, _, hm, _ => absurd hm (Nat.not_lt_zero _)
  | 0, m + 1, j, f, hj, _, h => by
    refine ⟨f, ?_, fun y hy => by rw [h y hy, if_pos (by omega)]⟩
    rw [Grd_leadWithOne_c11, sw_ap, if_neg (Ne.symm hl), h0, if_pos (nI_le (by omega) (by omega))]
  | d + 1, m + 1, j, f, hj, hm, h => by
    have hb := prim_b hp
    have a1 := ha j (by omega)
    have a2 : a j * w ≤ 30 * 30 := Nat.mul_le_mul (by omega) (by omega)
    rw [Grd_leadWithOne_c11, sw_ap, if_neg (Ne.symm hl), h0, if_neg (nI_ge (by omega) (by omega)), zld_at k1 k2 (by omega : j < 9) (by decide), ob_some, sw_ap, if_pos rfl, h j (by omega), if_neg (Nat.lt_irrefl j), pk_mul, gmod_nat (p := p) (by rw [sw_ap, if_neg (Ne.symm hl)]; exact h1) hp (by omega), ob_some, zst_at k1 k2 (by omega : j < 9) (by decide), ob_some, su_sw, nI_1]
    refine gld_loop h0 h1 hp hn k1 k2 hl ha hw d m (j + 1) _ (by omega) (by omega) (fun y hy => ?_)
    by_cases e : y = j
    · rw [e, pk_us, if_pos (by omega)]
    · rw [pk_un e, h y hy]
      by_cases e2 : y < j
      · rw [if_pos e2, if_pos (by omega)]
      · rw [if_neg e2, if_neg (by omega)]
theorem gld_ok {σ : zSt} {n p l k : Nat} {a : Nat → Nat} (h0 : σ 51 0 = nI n) (h1 : σ 51 1 = nI p) (hp : prim p) (hn : n ≤ 9) (k1 : Nat.beq (zkd l) 100 = true) (k2 : zln l = 9) (hl : l ≠ 51) (ha : ∀ j, j < n → a j < p) (hf : ∀ j, j < n → σ l j = nI (a j)) (hk : k < n) (h3 : a k ≠ 0) : ∃ f, Grd_leadWithOne l (nI k) σ = some (sw σ l f) ∧ ∀ y, y < n → f y = nI (a y * iv p (a k) % p) := by
  unfold Grd_leadWithOne
  rw [zld_at k1 k2 (by omega : k < 9) (by decide), ob_some, hf k hk, giv_ok h1 hp (ha k hk), ob_some]
  have := gld_loop h0 h1 hp hn k1 k2 hl ha (iv_ok hp h3 (ha k hk)).1 n zF 0 (σ l) (Nat.zero_add _) (zF_big (by omega)) (fun y hy => by rw [if_neg (Nat.not_lt_zero y)]; exact hf y hy)
  rw [sw_self] at this
  exact this
theorem gcl_loop {σ : zSt} {n p l l2 t : Nat} {a b : Nat → Nat} (h0 : σ 51 0 = nI n) (h1 : σ 51 1 = nI p) (hp : prim p) (hn : n ≤ 9) (k1 : Nat.beq (zkd l) 100 = true) (k2 : zln l = 9) (k3 : Nat.beq (zkd l2) 100 = true) (k4 : zln l2 = 9) (hl : l ≠ 51) (hl2 : l ≠ l2) (ha : ∀ j, j < n → a j < p) (hb : ∀ j, j < n → b j < p) (hg : ∀ j, j < n → σ l2 j = nI (b j)) (ht : t < p) : ∀ (d m j : Nat) (f : Nat → Int32), j + d = n → d < m → (∀ y, y < n → f y = nI (if y < j then (a y + (p - t) * b y) % p else a y)) → ∃ f2, Grd_clear_c14 m l l2 (nI t) (nI j) (sw σ l f) = some (sw σ l f2) ∧ ∀ y, y < n → f2 y = nI ((a y + (p - t) * b y) % p)
  | d, 0, j, f, _, hm, _ => absurd hm (Nat.not_lt_zero _)
  | 0, m + 1, j, f, hj, _, h => by
    refine ⟨f, ?_, fun y hy => by rw [h y hy, if_pos (by omega)]⟩
    rw [Grd_clear_c14, sw_ap, if_neg (Ne.symm hl), h0, if_pos (nI_le (by omega) (by omega))]
  | d + 1, m + 1, j, f, hj, hm, h => by
    have e1 : sw σ l f l j = nI (a j) := by rw [sw_ap, if_pos rfl, h j (by omega), if_neg (Nat.lt_irrefl j)]
    have e2 : sw σ l f l2 j = nI (b j) := by rw [sw_ap, if_neg (Ne.symm hl2)]; exact hg j (by omega)
    have e0 : sw σ l f 51 0 = nI n := by rw [sw_ap, if_neg (Ne.symm hl)]; exact h0
    rw [Grd_clear_c14, e0, if_neg (nI_ge (by omega) (by omega)), zld_at k1 k2 (by omega : j < 9) (by decide), ob_some, zld_at k3 k4 (by omega : j < 9) (by decide), ob_some, e1, e2, gmod_sub (p := p) (by rw [sw_ap, if_neg (Ne.symm hl)]; exact h1) hp (ha j (by omega)) (hb j (by omega)) ht, ob_some, zst_at k1 k2 (by omega : j < 9) (by decide), ob_some, su_sw, nI_1]
    refine gcl_loop h0 h1 hp hn k1 k2 k3 k4 hl hl2 ha hb hg ht d m (j + 1) _ (by omega) (by omega) (fun y hy => ?_)
    by_cases e : y = j
    · rw [e, pk_us, if_pos (by omega)]
    · rw [pk_un e, h y hy]
      by_cases e2 : y < j
      · rw [if_pos e2, if_pos (by omega)]
      · rw [if_neg e2, if_neg (by omega)]
theorem gcl_ok {σ : zSt} {n p l l2 k : Nat} {a b : Nat → Nat} (h0 : σ 51 0 = nI n) (h1 : σ 51 1 = nI p) (hp : prim p) (hn : n ≤ 9) (k1 : Nat.beq (zkd l) 100 = true) (k2 : zln l = 9) (k3 : Nat.beq (zkd l2) 100 = true) (k4 : zln l2 = 9) (hl : l ≠ 51) (hl2 : l ≠ l2) (ha : ∀ j, j < n → a j < p) (hb : ∀ j, j < n → b j < p) (hf : ∀ j, j < n → σ l j = nI (a j)) (hg : ∀ j, j < n → σ l2 j = nI (b j)) (hk : k < n) : ∃ f, Grd_clear l l2 (nI k) σ = some (sw σ l f) ∧ ∀ y, y < n → f y = nI ((a y + (p - a k) * b y) % p) := by
  have hpb := prim_b hp
  have hak := ha k hk
  unfold Grd_clear
  rw [zld_at k1 k2 (by omega : k < 9) (by decide), ob_some, hf k hk]
  by_cases e : a k = 0
  · rw [if_neg (fun q => q (by rw [e]; rfl))]
    refine ⟨σ l, by rw [sw_self], fun y hy => ?_⟩
    rw [hf y hy, e, Nat.sub_zero, Nat.add_mul_mod_self_left, Nat.mod_eq_of_lt (ha y hy)]
  · rw [if_pos (show ¬ nI (a k) = 0 from nI_ne0 (by omega) (by omega))]
    have := gcl_loop h0 h1 hp hn k1 k2 k3 k4 hl hl2 ha hb hg hak n zF 0 (σ l) (Nat.zero_add _) (zF_big (by omega)) (fun y hy => by rw [if_neg (Nat.not_lt_zero y)]; exact hf y hy)
    rw [sw_self] at this
    exact this

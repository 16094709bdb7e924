/-! PURE: the reference's grid -/
/-- THE TABLE modulo the prime -/
def tA (D : yD) : Nat → Nat → Nat := fun i j => mdz (dp D) (dT D i j).toInt
theorem tA_lt {D : yD} (V : Vd D) (i j : Nat) : tA D i j < dp D := mdz_lt V.2.2.1
theorem i9 {i j : Nat} : (9 : Int32) * nI i + nI j = nI (9 * i + j) := by rw [z_9, pk_mul, nI_add]
theorem mce_ok {σ : zSt} {D : yD} {i j : Nat} (V : Vd D) (M : MN 3 4 5 6 76 77 78 D σ) (hi : i < 9) (hj : j < 9) : M_cell (nI i) (nI j) σ = some (nI (tA D i j)) := by
  have he := V.2.2.2.2.2.1 i j
  unfold ent at he
  unfold M_cell
  rw [i9, ld76 (by omega), ob_some, M.2.1 i hi j hj, M.1.2.2.2]
  exact mdc_ok V.2.2.1 (by omega) (by omega)
/-- a table in the reference's grid -/
def GE (n : Nat) (A : Nat → Nat → Nat) (f : Nat → Int32) : Prop := ∀ i, i < n → ∀ j, j < n → f (9 * i + j) = nI (A i j)
theorem mcp_in {σ : zSt} {D : yD} {i : Nat} (V : Vd D) (M : MN 3 4 5 6 76 77 78 D σ) (hi : i < dn D) (c2 : Int32 → zSt → Option zSt) : ∀ (d m j : Nat) (f : Nat → Int32), j + d = dn D → d < m → (∀ x, x < i → ∀ y, y < dn D → f (9 * x + y) = nI (tA D x y)) → (∀ y, y < j → f (9 * i + y) = nI (tA D i y)) → ∃ f2, M_copies_c12 c2 m (nI i) (nI j) (sw σ 86 f) = c2 (nI (i + 1)) (sw σ 86 f2) ∧ ∀ x, x < i + 1 → ∀ y, y < dn D → f2 (9 * x + y) = nI (tA D x y)
  | d, 0, j, f, _, hm, _, _ => absurd hm (Nat.not_lt_zero _)
  | 0, m + 1, j, f, hj, _, h1, h2 => by
    have hn := V.1.2
    refine ⟨f, ?_, fun x hx y hy => ?_⟩
    · rw [M_copies_c12, show sw σ 86 f 75 3 = nI (dn D) from M.1.1, if_pos (nI_le (by omega) (by omega)), nI_1]
    · by_cases e : x = i
      · rw [e]; exact h2 y (by omega)
      · exact h1 x (by omega) y hy
  | d + 1, m + 1, j, f, hj, hm, h1, h2 => by
    have hn := V.1.2
    have M2 : MN 3 4 5 6 76 77 78 D (sw σ 86 f) := MN1_sm (Sm_sw (fun _ => rfl)) M
    rw [M_copies_c12, show sw σ 86 f 75 3 = nI (dn D) from M.1.1, if_neg (nI_ge (by omega) (by omega)), mce_ok V M2 (by omega) (by omega), ob_some, i9, st86 (by omega), ob_some, su_sw, nI_1]
    refine mcp_in V M hi c2 d m (j + 1) _ (by omega) (by omega) (fun x hx y hy => ?_) (fun y hy => ?_)
    · rw [pk_un (by omega)]; exact h1 x hx y hy
    · by_cases e : y = j
      · rw [e, pk_us]
      · rw [pk_un (by omega)]; exact h2 y (by omega)
theorem mcp_loop {σ : zSt} {D : yD} (V : Vd D) (M : MN 3 4 5 6 76 77 78 D σ) : ∀ (d m i : Nat) (f : Nat → Int32), i + d = dn D → d < m → (∀ x, x < i → ∀ y, y < dn D → f (9 * x + y) = nI (tA D x y)) → ∃ f2, M_copies_c2 m (nI i) (sw σ 86 f) = some (sw σ 86 f2) ∧ GE (dn D) (tA D) f2
  | d, 0, i, f, _, hm, _ => absurd hm (Nat.not_lt_zero _)
  | 0, m + 1, i, f, hi, _, h1 => by
    have hn := V.1.2
    refine ⟨f, ?_, fun x hx y hy => h1 x (by omega) y hy⟩
    rw [M_copies_c2, show sw σ 86 f 75 3 = nI (dn D) from M.1.1, if_pos (nI_le (by omega) (by omega))]
  | d + 1, m + 1, i, f, hi, hm, h1 => by
    have hn := V.1.2
    rw [M_copies_c2, show sw σ 86 f 75 3 = nI (dn D) from M.1.1, if_neg (nI_ge (by omega) (by omega))]
    obtain ⟨f2, e2, g2⟩ := mcp_in V M (i := i) (by omega) (M_copies_c2 m) (dn D) zF 0 f (Nat.zero_add _) (zF_big (by omega)) h1 (fun y hy => absurd hy (Nat.not_lt_zero _))
    rw [show (0 : Int32) = nI 0 from rfl, e2]
    exact mcp_loop V M d m (i + 1) f2 (by omega) (by omega) g2
theorem mcp_ok {σ : zSt} {D : yD} (V : Vd D) (M : MN 3 4 5 6 76 77 78 D σ) : ∃ f, M_copies σ = some (sw σ 86 f) ∧ GE (dn D) (tA D) f := by
  have := mcp_loop V M (dn D) zF 0 (σ 86) (Nat.zero_add _) (zF_big (by have := V.1.2; omega)) (fun x hx => absurd hx (Nat.not_lt_zero _))
  rw [sw_self] at this
  exact this
theorem minv_loop {σ : zSt} {p v : Nat} (h6 : σ 75 6 = nI p) (hp : prim p) (hv : v < p) : ∀ (d m w : Nat), w + d = p → d < m → (∃ x, w ≤ x ∧ x < p ∧ x * v % p = 1) → M_inverse_c2 σ m (nI v) (nI w) = some (nI (ivd p v d w))
  | d, 0, w, _, hm, _ => absurd hm (Nat.not_lt_zero _)
  | 0, m + 1, w, hw, _, ⟨x, h1, h2, _⟩ => absurd h1 (by omega)
  | d + 1, m + 1, w, hw, hm, ⟨x, h1, h2, h3⟩ => by
    have hb := prim_b hp
    have hwv : w * v ≤ 31 * 31 := Nat.mul_le_mul (by omega) (by omega)
    have hm2 : w * v % p < p := Nat.mod_lt _ (by omega)
    rw [M_inverse_c2, h6, pk_mul, rem_ok (by omega) (by omega) (by omega), ob_some]
    unfold ivd
    by_cases e : w * v % p = 1
    · rw [if_pos (by rw [e]; rfl), if_pos e]
    · rw [if_neg (show ¬ nI (w * v % p) = 1 from fun q => e ((nI_inj (b := 1) (by omega) (by omega)).mp q)), if_neg e, nI_1]
      refine minv_loop h6 hp hv d m (w + 1) (by omega) (by omega) ⟨x, ?_, h2, h3⟩
      by_cases e2 : x = w
      · rw [e2] at h3; exact absurd h3 e
      · omega
theorem minv_ok {σ : zSt} {p v : Nat} (h6 : σ 75 6 = nI p) (hp : prim p) (h0 : v ≠ 0) (hv : v < p) : M_inverse (nI v) σ = some (nI (iv p v)) := by
  have hb := prim_b hp
  obtain ⟨i1, i2, i3⟩ := iv_ok hp h0 hv
  exact minv_loop h6 hp hv (p - 1) zF 1 (by omega) (zF_big (by omega)) ⟨iv p v, i3, i1, by rw [Nat.mul_comm]; exact i2⟩
/-- one row less so many times another one -/
theorem mto_loop {σ : zSt} {n p i t r : Nat} {A : Nat → Nat → Nat} (h3 : σ 75 3 = nI n) (h6 : σ 75 6 = nI p) (hp : prim p) (hn : n ≤ 9) (hi : i < n) (hr : r < n) (hir : i ≠ r) (ht : t < p) (hA : ∀ i j, j < n → A i j < p) : ∀ (d m j : Nat) (f : Nat → Int32), j + d = n → d < m → (∀ x, x < n → x ≠ i → ∀ y, y < n → f (9 * x + y) = nI (A x y)) → (∀ y, y < n → f (9 * i + y) = nI (if y < j then (A i y + (p - t) * A r y) % p else A i y)) → ∃ f2, M_takesOff_c3 m (nI i) (nI t) (nI r) (nI j) (sw σ 86 f) = some (sw σ 86 f2) ∧ (∀ x, x < n → x ≠ i → ∀ y, y < n → f2 (9 * x + y) = nI (A x y)) ∧ ∀ y, y < n → f2 (9 * i + y) = nI ((A i y + (p - t) * A r y) % p)
  | d, 0, j, f, _, hm, _, _ => absurd hm (Nat.not_lt_zero _)
  | 0, m + 1, j, f, hj, _, h1, h2 => by
    refine ⟨f, ?_, h1, fun y hy => ?_⟩
    · rw [M_takesOff_c3, show sw σ 86 f 75 3 = nI n from h3, if_pos (nI_le (by omega) (by omega))]
    · rw [h2 y hy, if_pos (by omega)]
  | d + 1, m + 1, j, f, hj, hm, h1, h2 => by
    have hb := prim_b hp
    have a1 := hA i j (by omega)
    have a2 := hA r j (by omega)
    have a3 : (p - t) * A r j ≤ 31 * 31 := Nat.mul_le_mul (by omega) (by omega)
    have e1 : sw σ 86 f 86 (9 * i + j) = nI (A i j) := by rw [sw_ap, if_pos rfl, h2 j (by omega), if_neg (Nat.lt_irrefl _)]
    have e2 : sw σ 86 f 86 (9 * r + j) = nI (A r j) := by rw [sw_ap, if_pos rfl, h1 r hr (Ne.symm hir) j (by omega)]
    rw [M_takesOff_c3, show sw σ 86 f 75 3 = nI n from h3, if_neg (nI_ge (by omega) (by omega)), i9, i9, ld86 (by omega), ob_some, ld86 (by omega), ob_some, e1, e2, show sw σ 86 f 75 6 = nI p from h6, pk_sub (by omega), pk_mul, nI_add, rem_ok (by omega) (by omega) (by omega), ob_some, st86 (by omega), ob_some, su_sw, nI_1]
    refine mto_loop h3 h6 hp hn hi hr hir ht hA d m (j + 1) _ (by omega) (by omega) (fun x hx hxi y hy => ?_) (fun y hy => ?_)
    · rw [pk_un (by omega)]; exact h1 x hx hxi y hy
    · by_cases e : y = j
      · rw [e, pk_us, if_pos (by omega)]
      · rw [pk_un (by omega), h2 y hy]
        by_cases e3 : y < j
        · rw [if_pos e3, if_pos (by omega)]
        · rw [if_neg e3, if_neg (by omega)]
theorem mcl_loop2 {σ : zSt} {n p r c : Nat} {A : Nat → Nat → Nat} (h3 : σ 75 3 = nI n) (h6 : σ 75 6 = nI p) (hp : prim p) (hn : n ≤ 9) (hr : r < n) (hc : c < n) (hA : ∀ i j, j < n → A i j < p) (c4 : Int32 → Int32 → zSt → Option (Int32 × zSt)) : ∀ (d m i : Nat) (f : Nat → Int32), i + d = n → d < m → (∀ x, x < n → ∀ y, y < n → f (9 * x + y) = nI (if x < i then cl p c r n A x y else A x y)) → ∃ f2, M_steps_c151 c4 m (nI r) (nI c) (nI i) (sw σ 86 f) = c4 (nI (r + 1)) (nI (c + 1)) (su (sw σ 86 f2) 87 r (nI c)) ∧ GE n (cl p c r n A) f2
  | d, 0, i, f, _, hm, _ => absurd hm (Nat.not_lt_zero _)
  | 0, m + 1, i, f, hi, _, h1 => by
    refine ⟨f, ?_, fun x hx y hy => by rw [h1 x hx y hy, if_pos (by omega)]⟩
    rw [M_steps_c151, show sw σ 86 f 75 3 = nI n from h3, if_pos (nI_le (by omega) (by omega)), st87 (by omega), ob_some, nI_1, nI_1]
  | d + 1, m + 1, i, f, hi, hm, h1 => by
    rw [M_steps_c151, show sw σ 86 f 75 3 = nI n from h3, if_neg (nI_ge (by omega) (by omega))]
    by_cases e : i = r
    · rw [if_pos (by rw [e]), nI_1]
      refine mcl_loop2 h3 h6 hp hn hr hc hA c4 d m (i + 1) f (by omega) (by omega) (fun x hx y hy => ?_)
      rw [h1 x hx y hy]
      by_cases e2 : x < i
      · rw [if_pos e2, if_pos (by omega)]
      · by_cases e3 : x = i
        · rw [if_neg e2, if_pos (by omega)]
          unfold cl
          rw [if_pos (Or.inl (by omega))]
        · rw [if_neg e2, if_neg (by omega)]
    · have hb := prim_b hp
      have a1 := hA i c hc
      have e1 : sw σ 86 f 86 (9 * i + c) = nI (A i c) := by rw [sw_ap, if_pos rfl, h1 i (by omega) c hc, if_neg (Nat.lt_irrefl _)]
      have hcr : ∀ y, cl p c r n A r y = A r y := fun y => by unfold cl; rw [if_pos (Or.inl rfl)]
      rw [if_neg (fun q => e ((nI_inj (by omega) (by omega)).mp q)), i9, ld86 (by omega), ob_some, e1]
      obtain ⟨f2, e2, g1, g2⟩ := mto_loop (i := i) (t := A i c) (r := r) (A := fun x y => if x < i then cl p c r n A x y else A x y) h3 h6 hp hn (by omega) hr e a1 (fun x y hy => by
        show (if x < i then cl p c r n A x y else A x y) < p
        split
        · exact cl_lt (by omega) hA x y hy
        · exact hA x y hy) n zF 0 f (Nat.zero_add _) (zF_big (by omega)) (fun x hx _ y hy => h1 x hx y hy) (fun y hy => by
        rw [h1 i (by omega) y hy, if_neg (Nat.not_lt_zero y)])
      unfold M_takesOff
      rw [show (0 : Int32) = nI 0 from rfl, e2, ob_some, nI_1]
      refine mcl_loop2 h3 h6 hp hn hr hc hA c4 d m (i + 1) f2 (by omega) (by omega) (fun x hx y hy => ?_)
      by_cases e3 : x = i
      · have hr2 : (if r < i then cl p c r n A r y else A r y) = A r y := by
          split
          · exact hcr y
          · rfl
        rw [e3, g2 y hy, if_neg (Nat.lt_irrefl i), if_pos (Nat.lt_succ_self i), hr2]
        unfold cl
        rw [if_neg (show ¬ (i = r ∨ n ≤ i) by omega)]
      · rw [g1 x hx e3 y hy]
        by_cases e4 : x < i
        · rw [if_pos e4, if_pos (by omega)]
        · rw [if_neg e4, if_neg (by omega)]
theorem msw_loop {σ : zSt} {n p r c q : Nat} {A : Nat → Nat → Nat} (h3 : σ 75 3 = nI n) (h6 : σ 75 6 = nI p) (hp : prim p) (hn : n ≤ 9) (hr : r < n) (hq : q < n) (hA : ∀ i j, j < n → A i j < p) (hiv : iv p (A q c) < p) (c4 : Int32 → Int32 → zSt → Option (Int32 × zSt)) : ∀ (d m j : Nat) (f : Nat → Int32), j + d = n → d < m → (∀ x, x < n → ∀ y, y < n → f (9 * x + y) = nI (if y < j then lw p c q r A x y else A x y)) → ∃ f2, M_steps_c73 c4 m (nI r) (nI c) (nI q) (nI (iv p (A q c))) (nI j) (sw σ 86 f) = M_steps_c151 c4 zF (nI r) (nI c) (nI 0) (sw σ 86 f2) ∧ GE n (lw p c q r A) f2
  | d, 0, j, f, _, hm, _ => absurd hm (Nat.not_lt_zero _)
  | 0, m + 1, j, f, hj, _, h1 => by
    refine ⟨f, ?_, fun x hx y hy => by rw [h1 x hx y hy, if_pos (by omega)]⟩
    rw [M_steps_c73, show sw σ 86 f 75 3 = nI n from h3, if_pos (nI_le (by omega) (by omega))]
    rfl
  | d + 1, m + 1, j, f, hj, hm, h1 => by
    have hb := prim_b hp
    have a1 := hA q j (by omega)
    have a3 : A q j * iv p (A q c) ≤ 31 * 31 := Nat.mul_le_mul (by omega) (by omega)
    have e1 : sw σ 86 f 86 (9 * q + j) = nI (A q j) := by rw [sw_ap, if_pos rfl, h1 q hq j (by omega), if_neg (Nat.lt_irrefl _)]
    have e2 : sw σ 86 f 86 (9 * r + j) = nI (A r j) := by rw [sw_ap, if_pos rfl, h1 r hr j (by omega), if_neg (Nat.lt_irrefl _)]
    rw [M_steps_c73, show sw σ 86 f 75 3 = nI n from h3, if_neg (nI_ge (by omega) (by omega)), i9, i9, ld86 (by omega), ob_some, ld86 (by omega), ob_some, e1, e2, st86 (by omega), ob_some, su_sw, show sw σ 86 (upd f (9 * q + j) (nI (A r j))) 75 6 = nI p from h6, pk_mul, rem_ok (by omega) (by omega) (by omega), ob_some, st86 (by omega), ob_some, su_sw, nI_1]
    refine msw_loop h3 h6 hp hn hr hq hA hiv c4 d m (j + 1) _ (by omega) (by omega) (fun x hx y hy => ?_)
    by_cases e3 : y = j
    · rw [e3, if_pos (by omega)]
      unfold lw
      by_cases e4 : x = r
      · rw [e4, pk_us, if_pos rfl]
      · rw [pk_un (by omega), if_neg e4]
        by_cases e5 : x = q
        · rw [e5, pk_us, if_pos rfl]
        · rw [pk_un (by omega), if_neg e5, h1 x hx j (by omega), if_neg (Nat.lt_irrefl _)]
    · rw [pk_un (by omega), pk_un (by omega), h1 x hx y hy]
      by_cases e4 : y < j
      · rw [if_pos e4, if_pos (by omega)]
      · rw [if_neg e4, if_neg (by omega)]
theorem mfd_loop {σ : zSt} {n p r c : Nat} {A : Nat → Nat → Nat} {f : Nat → Int32} (h3 : σ 75 3 = nI n) (hp : prim p) (hn : n ≤ 9) (hc : c < n) (hA : ∀ i j, j < n → A i j < p) (hf : GE n A f) (c4 : Int32 → Int32 → zSt → Option (Int32 × zSt)) : ∀ (d m i : Nat), i + d = n → d < m → M_steps_c14 c4 m (nI r) (nI c) (nI i) (sw σ 86 f) = M_steps_c42 c4 (nI r) (nI c) (nI (fw A c n d i)) (sw σ 86 f)
  | d, 0, i, _, hm => absurd hm (Nat.not_lt_zero _)
  | 0, m + 1, i, hi, _ => by
    obtain rfl : i = n := by omega
    rw [M_steps_c14, show sw σ 86 f 75 3 = nI i from h3, if_pos (nI_le (Nat.le_refl _) (by omega))]
    rfl
  | d + 1, m + 1, i, hi, hm => by
    have hb := prim_b hp
    have a1 := hA i c hc
    have e1 : sw σ 86 f 86 (9 * i + c) = nI (A i c) := by rw [sw_ap, if_pos rfl, hf i (by omega) c hc]
    rw [M_steps_c14, show sw σ 86 f 75 3 = nI n from h3, if_neg (nI_ge (by omega) (by omega)), i9, ld86 (by omega), ob_some, e1, fw]
    by_cases e : A i c = 0
    · rw [if_neg (fun q => q (by rw [e]; rfl)), if_pos e, nI_1]
      exact mfd_loop h3 hp hn hc hA hf c4 d m (i + 1) (by omega) (by omega)
    · rw [if_pos (show ¬ nI (A i c) = 0 from nI_ne0 (by omega) (by omega)), if_neg e]
theorem sw_sw2 (σ : zSt) (f g : Nat → Int32) (i : Nat) (v : Int32) : su (sw (sw σ 87 g) 86 f) 87 i v = sw (sw σ 87 (upd g i v)) 86 f := by
  funext a j
  simp only [sw_ap, su_ap, upd]
  by_cases z : a = 86
  · rw [if_neg (by omega), if_pos z, if_pos z]
  · rw [if_neg z, if_neg z]
    by_cases z2 : a = 87
    · by_cases z3 : j = i
      · rw [if_pos ⟨z2, z3⟩, if_pos z2, if_pos z3]
      · rw [if_neg (fun w => z3 w.2), if_pos z2, if_pos z2, if_neg z3]
    · rw [if_neg (fun w => z2 w.1), if_neg z2, if_neg z2]
theorem mst_loop {σ : zSt} {n p : Nat} (h3 : σ 75 3 = nI n) (h6 : σ 75 6 = nI p) (hp : prim p) (hn : n ≤ 9) : ∀ (d m c r : Nat) (A : Nat → Nat → Nat) (L pv : Nat → Nat) (f g : Nat → Int32), c + d = n → d < m → RI p n n c r A L pv → GE n A f → (∀ q, q < r → g q = nI (pv q)) → ∃ f2 g2 pv2, M_steps_c4 m (nI r) (nI c) (sw (sw σ 87 g) 86 f) = some (nI (rr p n d c r A L).1, sw (sw σ 87 g2) 86 f2) ∧ GE n (rr p n d c r A L).2.1 f2 ∧ RI p n n n (rr p n d c r A L).1 (rr p n d c r A L).2.1 (rr p n d c r A L).2.2 pv2 ∧ ∀ q, q < (rr p n d c r A L).1 → g2 q = nI (pv2 q)
  | d, 0, c, r, A, L, pv, f, g, _, hm, _, _, _ => absurd hm (Nat.not_lt_zero _)
  | 0, m + 1, c, r, A, L, pv, f, g, hc, _, hI, hf, hg => by
    obtain rfl : c = n := by omega
    refine ⟨f, g, pv, ?_, hf, hI, hg⟩
    rw [M_steps_c4, show sw (sw σ 87 g) 86 f 75 3 = nI c from h3, if_pos (nI_le (Nat.le_refl _) (by omega))]
    rfl
  | d + 1, m + 1, c, r, A, L, pv, f, g, hc, hm, hI, hf, hg => by
    have h3' : sw σ 87 g 75 3 = nI n := h3
    have h6' : sw σ 87 g 75 6 = nI p := h6
    have hb := prim_b hp
    have hr := hI.1
    rw [M_steps_c4, show sw (sw σ 87 g) 86 f 75 3 = nI n from h3, if_neg (nI_ge (by omega) (by omega)), mfd_loop h3' hp hn (by omega) hI.2.1 hf (M_steps_c4 m) (n - r) zF r (by omega) (zF_big (by omega))]
    unfold M_steps_c42
    rw [show sw (sw σ 87 g) 86 f 75 3 = nI n from h3]
    rcases fwi_ok (A := A) (c := c) (R := n) (n - r) r (by omega) with ⟨w1, w2⟩ | ⟨w1, w2, w3⟩
    · have er : rr p n (d + 1) c r A L = rr p n d (c + 1) r A (updN L c 99) := by rw [rr, if_pos w1]
      rw [w1, if_neg (fun q => q rfl), nI_1, er]
      exact mst_loop h3 h6 hp hn d m (c + 1) r A _ pv f g (by omega) (by omega) (RI_no hI w2) hf hg
    · have er : rr p n (d + 1) c r A L = rr p n d (c + 1) (r + 1) (cl p c r n (lw p c (fw A c n (n - r) r) r A)) (updN L c r) := by rw [rr, if_neg (by omega)]
      rw [er]
      generalize fw A c n (n - r) r = q at *
      have hqA := hI.2.1 q c (by omega)
      obtain ⟨i1, _, _⟩ := iv_ok hp w3 hqA
      have e1 : sw (sw σ 87 g) 86 f 86 (9 * q + c) = nI (A q c) := by rw [sw_ap, if_pos rfl, hf q w2 c (by omega)]
      have h6'' : sw (sw σ 87 g) 86 f 75 6 = nI p := h6
      rw [if_pos (fun w => by have := (nI_inj (by omega) (by omega)).mp w; omega), i9, ld86 (by omega), ob_some, e1, minv_ok h6'' hp w3 hqA, ob_some]
      obtain ⟨f2, e2, g2⟩ := msw_loop (c := c) (q := q) (r := r) h3' h6' hp hn (by omega) w2 hI.2.1 i1 (M_steps_c4 m) n zF 0 f (Nat.zero_add _) (zF_big (by omega)) (fun x hx y hy => by rw [if_neg (Nat.not_lt_zero _)]; exact hf x hx y hy)
      rw [show (0 : Int32) = nI 0 from rfl, e2]
      obtain ⟨f3, e3, g3⟩ := mcl_loop2 (c := c) (r := r) h3' h6' hp hn (by omega) (by omega) (lw_lt (c := c) (f := q) (r := r) (by omega) hI.2.1) (M_steps_c4 m) n zF 0 f2 (Nat.zero_add _) (zF_big (by omega)) (fun x hx y hy => by rw [if_neg (Nat.not_lt_zero _)]; exact g2 x hx y hy)
      rw [e3, sw_sw2]
      refine mst_loop h3 h6 hp hn d m (c + 1) (r + 1) _ _ (updN pv r c) f3 _ (by omega) (by omega) (RI_yes hp (by omega) hI w1 w2 w3) g3 (fun x hx => ?_)
      unfold updN
      by_cases z : x = r
      · rw [z, pk_us, if_pos rfl]
      · rw [pk_un z, if_neg z]; exact hg x (by omega)
/-- the reference's steps: its rank, its table, its columns -/
theorem mst_ok {σ : zSt} {n p : Nat} {A : Nat → Nat → Nat} {f : Nat → Int32} (h3 : σ 75 3 = nI n) (h6 : σ 75 6 = nI p) (hp : prim p) (hn : n ≤ 9) (hA : ∀ i j, j < n → A i j < p) (hf : GE n A f) : ∃ f2 g2 pv2, M_steps (sw σ 86 f) = some (nI (rk p n A), sw (sw σ 87 g2) 86 f2) ∧ GE n (rr p n n 0 0 A L99).2.1 f2 ∧ RI p n n n (rk p n A) (rr p n n 0 0 A L99).2.1 (rr p n n 0 0 A L99).2.2 pv2 ∧ ∀ q, q < rk p n A → g2 q = nI (pv2 q) := by
  have := mst_loop h3 h6 hp hn n zF 0 0 A L99 (fun _ => 0) f (σ 87) (Nat.zero_add _) (zF_big (by omega)) (RI_0 hA) hf (fun q hq => absurd hq (Nat.not_lt_zero _))
  rw [sw_self] at this
  exact this

/-! PURE: a table of whole numbers brought to steps -/
def ivd (p v : Nat) : Nat → Nat → Nat
  | 0, _ => 1
  | d + 1, w => if w * v % p = 1 then w else ivd p v d (w + 1)
def iv (p v : Nat) : Nat := ivd p v (p - 1) 1
def fw (A : Nat → Nat → Nat) (c R : Nat) : Nat → Nat → Nat
  | 0, _ => R
  | d + 1, i => if A i c = 0 then fw A c R d (i + 1) else i
def lw (p c f r : Nat) (A : Nat → Nat → Nat) : Nat → Nat → Nat := fun i j => if i = r then A f j * iv p (A f c) % p else if i = f then A r j else A i j
def cl (p c r R : Nat) (A : Nat → Nat → Nat) : Nat → Nat → Nat := fun i j => if i = r ∨ R ≤ i then A i j else (A i j + (p - A i c) * A r j) % p
def rr (p R : Nat) : Nat → Nat → Nat → (Nat → Nat → Nat) → (Nat → Nat) → Nat × (Nat → Nat → Nat) × (Nat → Nat)
  | 0, _, r, A, L => (r, A, L)
  | d + 1, c, r, A, L => if fw A c R (R - r) r = R then rr p R d (c + 1) r A (updN L c 99) else rr p R d (c + 1) (r + 1) (cl p c r R (lw p c (fw A c R (R - r) r) r A)) (updN L c r)
theorem iv_ok {p v : Nat} (hp : prim p) (h0 : v ≠ 0) (hv : v < p) : iv p v < p ∧ v * iv p v % p = 1 ∧ 1 ≤ iv p v := by
  have k11 : ∀ v, v < 11 → v ≠ 0 → iv 11 v < 11 ∧ v * iv 11 v % 11 = 1 ∧ 1 ≤ iv 11 v := by decide +kernel
  have k13 : ∀ v, v < 13 → v ≠ 0 → iv 13 v < 13 ∧ v * iv 13 v % 13 = 1 ∧ 1 ≤ iv 13 v := by decide +kernel
  have k17 : ∀ v, v < 17 → v ≠ 0 → iv 17 v < 17 ∧ v * iv 17 v % 17 = 1 ∧ 1 ≤ iv 17 v := by decide +kernel
  have k19 : ∀ v, v < 19 → v ≠ 0 → iv 19 v < 19 ∧ v * iv 19 v % 19 = 1 ∧ 1 ≤ iv 19 v := by decide +kernel
  have k23 : ∀ v, v < 23 → v ≠ 0 → iv 23 v < 23 ∧ v * iv 23 v % 23 = 1 ∧ 1 ≤ iv 23 v := by decide +kernel
  have k29 : ∀ v, v < 29 → v ≠ 0 → iv 29 v < 29 ∧ v * iv 29 v % 29 = 1 ∧ 1 ≤ iv 29 v := by decide +kernel
  have k31 : ∀ v, v < 31 → v ≠ 0 → iv 31 v < 31 ∧ v * iv 31 v % 31 = 1 ∧ 1 ≤ iv 31 v := by decide +kernel
  rcases hp with rfl | rfl | rfl | rfl | rfl | rfl | rfl
  · exact k11 v hv h0
  · exact k13 v hv h0
  · exact k17 v hv h0
  · exact k19 v hv h0
  · exact k23 v hv h0
  · exact k29 v hv h0
  · exact k31 v hv h0
theorem prim_b {p : Nat} (hp : prim p) : 11 ≤ p ∧ p ≤ 31 := by unfold prim at hp; omega
theorem zr_1 {p : Nat} (hp : prim p) : ¬ zr (p : Int) 1 := by
  rintro ⟨k, e⟩
  rcases hp with rfl | rfl | rfl | rfl | rfl | rfl | rfl <;> omega
theorem zr_p {p : Nat} (hp : prim p) (a b : Int) (h : zr (p : Int) (a * b)) : zr (p : Int) a ∨ zr (p : Int) b := by
  by_cases ha : zr (p : Int) a
  · exact Or.inl ha
  · refine Or.inr ?_
    have hb := prim_b hp
    have hx : ∃ x k, x < p ∧ a = ((x : Nat) : Int) + p * k := by
      refine ⟨(a % (p : Int)).toNat, a / (p : Int), ?_, ?_⟩
      · have h1 := Int.emod_lt_of_pos a (show (0 : Int) < p by omega)
        have h2 := Int.emod_nonneg a (show (p : Int) ≠ 0 by omega)
        omega
      · have h2 := Int.emod_nonneg a (show (p : Int) ≠ 0 by omega)
        rw [Int.toNat_of_nonneg h2]
        exact (Int.emod_add_mul_ediv a p).symm
    obtain ⟨x, k, hx1, hx2⟩ := hx
    have hx0 : x ≠ 0 := fun q => ha ⟨k, by rw [hx2, q]; simp⟩
    obtain ⟨i1, i2, _⟩ := iv_ok hp hx0 hx1
    obtain ⟨m, hm⟩ := h
    have e2 : (x : Int) * (iv p x : Int) = 1 + p * ((x * iv p x / p : Nat) : Int) := by
      have := Nat.mod_add_div (x * iv p x) p
      rw [i2] at this
      have h3 : ((x * iv p x : Nat) : Int) = ((1 + p * (x * iv p x / p) : Nat) : Int) := by rw [this]
      simpa using h3
    refine ⟨m * (iv p x : Int) - k * (iv p x : Int) * b - ((x * iv p x / p : Nat) : Int) * b, ?_⟩
    grind
theorem fwi_ok {A : Nat → Nat → Nat} {c R : Nat} : ∀ d i, i + d = R → (fw A c R d i = R ∧ ∀ x, i ≤ x → x < R → A x c = 0) ∨ (i ≤ fw A c R d i ∧ fw A c R d i < R ∧ A (fw A c R d i) c ≠ 0)
  | 0, i, h => Or.inl ⟨rfl, fun x h1 h2 => absurd h1 (by omega)⟩
  | d + 1, i, h => by
    unfold fw
    by_cases e : A i c = 0
    · rw [if_pos e]
      rcases fwi_ok (A := A) (c := c) (R := R) d (i + 1) (by omega) with ⟨h1, h2⟩ | ⟨h1, h2, h3⟩
      · refine Or.inl ⟨h1, fun x g1 g2 => ?_⟩
        by_cases e2 : x = i
        · rw [e2]; exact e
        · exact h2 x (by omega) g2
      · exact Or.inr ⟨by omega, h2, h3⟩
    · rw [if_neg e]; exact Or.inr ⟨Nat.le_refl _, by omega, e⟩
/-- what holds behind so many columns -/
def RI (p n R c r : Nat) (A : Nat → Nat → Nat) (L pv : Nat → Nat) : Prop := r ≤ R ∧ (∀ i j, j < n → A i j < p) ∧ (∀ x, x < c → L x = 99 ∨ (L x < r ∧ pv (L x) = x)) ∧ (∀ q, q < r → pv q < c ∧ L (pv q) = q) ∧ (∀ q, q < r → ∀ i, i < R → A i (pv q) = if i = q then 1 else 0) ∧ (∀ q, q < r → ∀ j, j < pv q → A q j = 0) ∧ ∀ i, r ≤ i → i < R → ∀ j, j < c → A i j = 0
theorem lw_lt {p n c f r : Nat} {A : Nat → Nat → Nat} (h0 : 0 < p) (h : ∀ i j, j < n → A i j < p) : ∀ i j, j < n → lw p c f r A i j < p := fun i j hj => by
  unfold lw
  by_cases e : i = r
  · rw [if_pos e]; exact Nat.mod_lt _ h0
  · rw [if_neg e]
    by_cases e2 : i = f
    · rw [if_pos e2]; exact h r j hj
    · rw [if_neg e2]; exact h i j hj
theorem cl_lt {p n c r R : Nat} {A : Nat → Nat → Nat} (h0 : 0 < p) (h : ∀ i j, j < n → A i j < p) : ∀ i j, j < n → cl p c r R A i j < p := fun i j hj => by
  unfold cl
  by_cases e : i = r ∨ R ≤ i
  · rw [if_pos e]; exact h i j hj
  · rw [if_neg e]; exact Nat.mod_lt _ h0
theorem RI_no {p n R c r : Nat} {A : Nat → Nat → Nat} {L pv : Nat → Nat} (h : RI p n R c r A L pv) (hf : ∀ x, r ≤ x → x < R → A x c = 0) : RI p n R (c + 1) r A (updN L c 99) pv := by
  obtain ⟨h1, h2, h3, h4, h5, h6, h7⟩ := h
  refine ⟨h1, h2, fun x hx => ?_, fun q hq => ⟨by have := h4 q hq; omega, ?_⟩, h5, h6, fun i g1 g2 j hj => ?_⟩
  · unfold updN
    by_cases e : x = c
    · rw [if_pos e]; exact Or.inl rfl
    · rw [if_neg e]; exact h3 x (by omega)
  · unfold updN
    rw [if_neg (by have := h4 q hq; omega)]; exact (h4 q hq).2
  · by_cases e : j = c
    · rw [e]; exact hf i g1 g2
    · exact h7 i g1 g2 j (by omega)
theorem RI_yes {p n R c r f : Nat} {A : Nat → Nat → Nat} {L pv : Nat → Nat} (hp : prim p) (hc : c < n) (h : RI p n R c r A L pv) (hf1 : r ≤ f) (hf2 : f < R) (hf3 : A f c ≠ 0) : RI p n R (c + 1) (r + 1) (cl p c r R (lw p c f r A)) (updN L c r) (updN pv r c) := by
  obtain ⟨h1, h2, h3, h4, h5, h6, h7⟩ := h
  have hb := prim_b hp
  have hA := lw_lt (c := c) (f := f) (r := r) (by omega : 0 < p) h2
  obtain ⟨i1, i2, _⟩ := iv_ok hp hf3 (h2 f c hc)
  have er : lw p c f r A r c = 1 := by unfold lw; rw [if_pos rfl]; exact i2
  have col : ∀ i, i < R → cl p c r R (lw p c f r A) i c = if i = r then 1 else 0 := fun i hi => by
    unfold cl
    by_cases e : i = r
    · rw [if_pos (Or.inl e), if_pos e, e, er]
    · rw [if_neg (by omega), if_neg e, er, Nat.mul_one]
      have := hA i c hc
      rw [show lw p c f r A i c + (p - lw p c f r A i c) = p by omega, Nat.mod_self]
  have old : ∀ j, j < c → (∀ x, r ≤ x → x < R → A x j = 0) → ∀ i, i < R → cl p c r R (lw p c f r A) i j = if i = r then 0 else if i = f then 0 else A i j := fun j hj hz i hi => by
    have z1 : lw p c f r A r j = 0 := by unfold lw; rw [if_pos rfl, hz f hf1 hf2, Nat.zero_mul, Nat.zero_mod]
    unfold cl
    by_cases e : i = r
    · rw [if_pos (Or.inl e), if_pos e, e, z1]
    · rw [if_neg (by omega), if_neg e, z1, Nat.mul_zero, Nat.add_zero, Nat.mod_eq_of_lt (hA i j (by omega))]
      unfold lw
      rw [if_neg e]
      by_cases e2 : i = f
      · rw [if_pos e2, if_pos e2]; exact hz r (Nat.le_refl _) (by omega)
      · rw [if_neg e2, if_neg e2]
  refine ⟨by omega, cl_lt (by omega) hA, fun x hx => ?_, fun q hq => ?_, fun q hq i hi => ?_, fun q hq j hj => ?_, fun i g1 g2 j hj => ?_⟩
  · unfold updN
    by_cases e : x = c
    · rw [if_pos e]; exact Or.inr ⟨by omega, by rw [if_pos rfl, e]⟩
    · rw [if_neg e]
      rcases h3 x (by omega) with g | ⟨g1, g2⟩
      · exact Or.inl g
      · exact Or.inr ⟨by omega, by rw [if_neg (by omega)]; exact g2⟩
  · unfold updN
    by_cases e : q = r
    · rw [if_pos e, if_pos rfl]; exact ⟨by omega, e.symm⟩
    · have := h4 q (by omega)
      rw [if_neg e, if_neg (by omega)]; exact ⟨by omega, this.2⟩
  · by_cases e : q = r
    · rw [show updN pv r c q = c from if_pos e, col i hi, e]
    · have g := h4 q (by omega)
      rw [show updN pv r c q = pv q from if_neg e, old (pv q) g.1 (fun x g1 g2 => by rw [h5 q (by omega) x g2, if_neg (by omega)]) i hi]
      by_cases e2 : i = r
      · rw [if_pos e2, if_neg (by omega)]
      · rw [if_neg e2]
        by_cases e3 : i = f
        · rw [if_pos e3, if_neg (by omega)]
        · rw [if_neg e3]; exact h5 q (by omega) i hi
  · by_cases e : q = r
    · have hj2 : j < c := by rw [show updN pv r c q = c from if_pos e] at hj; exact hj
      rw [old j hj2 (fun x g1 g2 => h7 x g1 g2 j hj2) q (by omega), if_pos e]
    · have hj2 : j < pv q := by rw [show updN pv r c q = pv q from if_neg e] at hj; exact hj
      have g := h4 q (by omega)
      rw [old j (by omega) (fun x g1 g2 => h7 x g1 g2 j (by omega)) q (by omega), if_neg e, if_neg (by omega)]
      exact h6 q (by omega) j hj2
  · by_cases e : j = c
    · rw [e, col i g2, if_neg (by omega)]
    · rw [old j (by omega) (fun x k1 k2 => h7 x k1 k2 j (by omega)) i g2]
      by_cases e2 : i = r
      · rw [if_pos e2]
      · rw [if_neg e2]
        by_cases e3 : i = f
        · rw [if_pos e3]
        · rw [if_neg e3]; exact h7 i (by omega) g2 j (by omega)
def cI (A : Nat → Nat → Nat) : Nat → Nat → Int := fun i j => (A i j : Int)
theorem md_I (x p : Nat) : ∃ k : Int, ((x % p : Nat) : Int) = (x : Int) + p * k := ⟨-((x / p : Nat) : Int), by
  have := Nat.mod_add_div x p
  have h3 : ((x % p + p * (x / p) : Nat) : Int) = (x : Int) := by rw [this]
  have h4 : ((x % p : Nat) : Int) + (p : Int) * ((x / p : Nat) : Int) = (x : Int) := by simpa using h3
  grind⟩
theorem md_s {p t : Nat} (ht : t ≤ p) (a b : Nat) : ∃ k : Int, (((a + (p - t) * b) % p : Nat) : Int) = (a : Int) + (-(t : Int)) * b + p * k := by
  obtain ⟨k, e⟩ := md_I (a + (p - t) * b) p
  refine ⟨k + b, ?_⟩
  have h2 : ((a + (p - t) * b : Nat) : Int) = (a : Int) + ((p : Int) - t) * b := by
    rw [Int.natCast_add, Int.natCast_mul, Int.natCast_sub ht]
  rw [e, h2]
  grind
/-- a step's rows lie in what the rows ahead of it span, and the other way round -/
theorem lw_sp {p n R c f r : Nat} {A : Nat → Nat → Nat} (hp : prim p) (hc : c < n) (h2 : ∀ i j, j < n → A i j < p) (hr : r < R) (hf : f < R) (hf3 : A f c ≠ 0) : (∀ i, i < R → Sp (p : Int) n R (cI A) (cI (lw p c f r A) i)) ∧ ∀ i, i < R → Sp (p : Int) n R (cI (lw p c f r A)) (cI A i) := by
  obtain ⟨i1, i2, _⟩ := iv_ok hp hf3 (h2 f c hc)
  have hlr : ∀ j, ∃ k : Int, cI (lw p c f r A) r j = (iv p (A f c) : Int) * cI A f j + p * k := fun j => by
    obtain ⟨k, e⟩ := md_I (A f j * iv p (A f c)) p
    refine ⟨k, ?_⟩
    unfold cI lw
    rw [if_pos rfl, e, Int.natCast_mul]
    grind
  have e2 : ((A f c : Nat) : Int) * ((iv p (A f c) : Nat) : Int) = 1 + p * ((A f c * iv p (A f c) / p : Nat) : Int) := by
    have := Nat.mod_add_div (A f c * iv p (A f c)) p
    rw [i2] at this
    have h3 : ((A f c * iv p (A f c) : Nat) : Int) = ((1 + p * (A f c * iv p (A f c) / p) : Nat) : Int) := by rw [this]
    simpa using h3
  constructor
  · intro i hi
    by_cases e : i = r
    · rw [e]
      exact Sp_mul (iv p (A f c) : Int) (Sp_row hf) (fun j _ => hlr j)
    · by_cases e3 : i = f
      · refine Sp_sbs.1 _ _ (Sp_row hr) (fun j _ => ⟨0, ?_⟩)
        unfold cI lw
        rw [if_neg e, if_pos e3]; simp
      · refine Sp_sbs.1 _ _ (Sp_row hi) (fun j _ => ⟨0, ?_⟩)
        unfold cI lw
        rw [if_neg e, if_neg e3]; simp
  · have hf' : Sp (p : Int) n R (cI (lw p c f r A)) (cI A f) := Sp_mul (A f c : Int) (Sp_row hr) (fun j _ => by
      obtain ⟨k, e⟩ := hlr j
      refine ⟨-((A f c : Int) * k) - ((A f c * iv p (A f c) / p : Nat) : Int) * cI A f j, ?_⟩
      rw [e]
      grind)
    intro i hi
    by_cases e3 : i = f
    · rw [e3]; exact hf'
    · by_cases e : i = r
      · refine Sp_sbs.1 _ _ (Sp_row (i := f) hf) (fun j _ => ⟨0, ?_⟩)
        unfold cI lw
        rw [if_neg (by omega), if_pos rfl, e]; simp
      · refine Sp_sbs.1 _ _ (Sp_row hi) (fun j _ => ⟨0, ?_⟩)
        unfold cI lw
        rw [if_neg e, if_neg e3]; simp
theorem cl_sp {p n R c r : Nat} {A : Nat → Nat → Nat} (hc : c < n) (h2 : ∀ i j, j < n → A i j < p) (hr : r < R) : (∀ i, i < R → Sp (p : Int) n R (cI A) (cI (cl p c r R A) i)) ∧ ∀ i, i < R → Sp (p : Int) n R (cI (cl p c r R A)) (cI A i) := by
  have hrr : cI (cl p c r R A) r = cI A r := by funext j; unfold cI cl; rw [if_pos (Or.inl rfl)]
  have hci : ∀ i, i < R → i ≠ r → ∀ j, ∃ k : Int, cI (cl p c r R A) i j = cI A i j + (-(A i c : Int)) * cI A r j + p * k := fun i hi e j => by
    obtain ⟨k, g⟩ := md_s (Nat.le_of_lt (h2 i c hc)) (A i j) (A r j)
    refine ⟨k, ?_⟩
    unfold cI cl
    rw [if_neg (by omega)]
    exact g
  constructor
  · intro i hi
    by_cases e : i = r
    · rw [e, hrr]; exact Sp_row hr
    · exact Sp_of (-(A i c : Int)) (Sp_row hi) (Sp_row hr) (fun j _ => hci i hi e j)
  · intro i hi
    have hrS : Sp (p : Int) n R (cI (cl p c r R A)) (cI A r) := by rw [← hrr]; exact Sp_row hr
    by_cases e : i = r
    · rw [e]; exact hrS
    · exact Sp_of (A i c : Int) (Sp_row hi) hrS (fun j _ => by
        obtain ⟨k, g⟩ := hci i hi e j
        exact ⟨-k, by rw [g]; grind⟩)
/-- two tables whose rows span the same -/
def SpE (p n R : Nat) (A B : Nat → Nat → Nat) : Prop := (∀ i, i < R → Sp (p : Int) n R (cI A) (cI B i)) ∧ ∀ i, i < R → Sp (p : Int) n R (cI B) (cI A i)
theorem SpE_r {p n R : Nat} {A : Nat → Nat → Nat} : SpE p n R A A := ⟨fun _ hi => Sp_row hi, fun _ hi => Sp_row hi⟩
theorem SpE_t {p n R : Nat} {A B C : Nat → Nat → Nat} (h : SpE p n R A B) (h2 : SpE p n R B C) : SpE p n R A C := ⟨fun i hi => Sp_le h.1 (h2.1 i hi), fun i hi => Sp_le h2.2 (h.2 i hi)⟩
theorem rr_ok {p n R : Nat} (hp : prim p) : ∀ (d c r : Nat) (A : Nat → Nat → Nat) (L pv : Nat → Nat), c + d = n → RI p n R c r A L pv → ∃ pv2, RI p n R n (rr p R d c r A L).1 (rr p R d c r A L).2.1 (rr p R d c r A L).2.2 pv2 ∧ SpE p n R A (rr p R d c r A L).2.1 ∧ ∀ i, R ≤ i → (rr p R d c r A L).2.1 i = A i
  | 0, c, r, A, L, pv, hc, h => by
    obtain rfl : c = n := by omega
    exact ⟨pv, h, SpE_r, fun _ _ => rfl⟩
  | d + 1, c, r, A, L, pv, hc, h => by
    unfold rr
    have hr := h.1
    rcases fwi_ok (A := A) (c := c) (R := R) (R - r) r (by omega) with ⟨h1, h2⟩ | ⟨h1, h2, h3⟩
    · rw [if_pos h1]
      exact rr_ok hp d (c + 1) r A (updN L c 99) pv (by omega) (RI_no h h2)
    · rw [if_neg (by omega)]
      have hA := lw_lt (c := c) (f := fw A c R (R - r) r) (r := r) (by have := prim_b hp; omega : 0 < p) h.2.1
      obtain ⟨pv2, g1, g2, g3⟩ := rr_ok hp d (c + 1) (r + 1) _ (updN L c r) (updN pv r c) (by omega) (RI_yes hp (by omega) h h1 h2 h3)
      obtain ⟨a1, a2⟩ := lw_sp (R := R) hp (by omega : c < n) h.2.1 (by omega : r < R) h2 h3
      obtain ⟨b1, b2⟩ := cl_sp (R := R) (r := r) (by omega : c < n) hA (by omega)
      refine ⟨pv2, g1, SpE_t ⟨a1, a2⟩ (SpE_t ⟨b1, b2⟩ g2), fun i hi => ?_⟩
      rw [g3 i hi]
      funext j
      unfold cl lw
      rw [if_pos (Or.inr hi), if_neg (by omega), if_neg (by omega)]
theorem rr_cn {p R : Nat} : ∀ (d c r : Nat) (A : Nat → Nat → Nat) (L : Nat → Nat), r + d < 99 → cnl L c = r → cnl (rr p R d c r A L).2.2 (c + d) = (rr p R d c r A L).1
  | 0, c, r, A, L, _, h => h
  | d + 1, c, r, A, L, hr, h => by
    have up : ∀ v, ∀ x, x ≤ c → cnl (updN L c v) x = cnl L x := fun v x => by
      induction x with
      | zero => intro _; rfl
      | succ x ih =>
        intro hx
        unfold cnl
        rw [ih (by omega), show updN L c v x = L x from if_neg (by omega)]
    unfold rr
    by_cases e : fw A c R (R - r) r = R
    · rw [if_pos e, show c + (d + 1) = c + 1 + d by omega]
      refine rr_cn d (c + 1) r A _ (by omega) ?_
      unfold cnl
      rw [up 99 c (Nat.le_refl _), show updN L c 99 c = 99 from if_pos rfl, if_pos rfl, h, Nat.add_zero]
    · rw [if_neg e, show c + (d + 1) = c + 1 + d by omega]
      refine rr_cn d (c + 1) (r + 1) _ _ (by omega) ?_
      unfold cnl
      rw [up r c (Nat.le_refl _), show updN L c r c = r from if_pos rfl, if_neg (by omega), h]

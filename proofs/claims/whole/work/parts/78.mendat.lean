/-! PURE: the class mends at a point -/
def nz (o u : Nat → Nat) (p v : Nat) : Nat → Nat → Bool
  | 0, _ => true
  | d + 1, j => if (o j + v * u j) % p = 0 then nz o u p v d (j + 1) else false
theorem nz_iff {o u : Nat → Nat} {p v : Nat} : ∀ d j, nz o u p v d j = true ↔ ∀ x, j ≤ x → x < j + d → (o x + v * u x) % p = 0
  | 0, j => ⟨fun _ x h1 h2 => absurd h1 (by omega), fun _ => rfl⟩
  | d + 1, j => by
    unfold nz
    by_cases e : (o j + v * u j) % p = 0
    · rw [if_pos e, nz_iff d (j + 1)]
      constructor
      · intro h x h1 h2
        by_cases e2 : x = j
        · rw [e2]; exact e
        · exact h x (by omega) (by omega)
      · intro h x h1 h2
        exact h x (by omega) (by omega)
    · rw [if_neg e]
      constructor
      · intro h; cases h
      · intro h; exact absurd (h j (Nat.le_refl _) (by omega)) e
/-- whether the own row is nought beyond the others by a number -/
def mP (p n a : Nat) (A : Nat → Nat → Nat) (v : Nat) : Bool := nz (Mo p n a A) (Mu p n a A) p v n 0
theorem rk_mP {p n a v : Nat} {A : Nat → Nat → Nat} (hp : prim p) (hn : 1 ≤ n ∧ n ≤ 9) (ha : a < n) (hA : ∀ i j, j < n → A i j < p) (hv : v < p) : rk p n (Av A a v) = if mP p n a A v = true then Mr p n a A else Mr p n a A + 1 := by
  obtain ⟨h1, h2⟩ := rk_ok hp hn ha hA hv
  have e : mP p n a A v = true ↔ Mz p n a A v := by
    unfold mP Mz
    rw [nz_iff]
    exact ⟨fun h j hj => h j (Nat.zero_le _) (by omega), fun h x _ h2 => h x (by omega)⟩
  by_cases c : mP p n a A v = true
  · rw [if_pos c]; exact h1 (e.mp c)
  · rw [if_neg c]; exact h2 (fun q => c (e.mpr q))
theorem sw_idem (σ : zSt) (a : Nat) (f g : Nat → Int32) : sw (sw σ a f) a g = sw σ a g := by
  funext b j
  rw [sw_ap, sw_ap, sw_ap]
  by_cases e : b = a
  · rw [if_pos e, if_pos e]
  · rw [if_neg e, if_neg e, if_neg e]
theorem gca_loop {σ : zSt} {n p R r l : Nat} {B : Nat → Nat → Nat} {c L pv : Nat → Nat} (hp : prim p) (hn : n ≤ 9) (hR : R ≤ n) (h0 : σ 51 0 = nI n) (h1 : σ 51 1 = nI p) (h52 : ∀ q, q < R → σ 52 q = nI (c q) ∧ 53 ≤ c q ∧ c q ≤ 61) (hB : ∀ q, q < R → ∀ j, j < n → σ (c q) j = nI (B q j)) (hI : RI p n R n r B L pv) (h62 : ∀ x, x < n → σ 62 x = lv (L x)) (k1 : Nat.beq (zkd l) 100 = true) (k2 : zln l = 9) (hl : 53 ≤ l) (hl2 : l ≠ 62) (hne : ∀ q, q < R → l ≠ c q) : ∀ (d m k : Nat) (f : Nat → Nat) (F : Nat → Int32), k + d = n → d < m → (∀ j, j < n → F j = nI (f j) ∧ f j < p) → ∃ F2, Grd_clearAll_c2 m l (nI k) (sw σ l F) = some (sw σ l F2) ∧ ∀ j, j < n → F2 j = nI (ca p B L d k f j) ∧ ca p B L d k f j < p
  | d, 0, k, f, F, _, hm, _ => absurd hm (Nat.not_lt_zero _)
  | 0, m + 1, k, f, F, hk, _, hf => by
    refine ⟨F, ?_, hf⟩
    rw [Grd_clearAll_c2, show sw σ l F 51 0 = nI n by rw [sw_ap, if_neg (by omega)]; exact h0, if_pos (nI_le (by omega) (by omega))]
  | d + 1, m + 1, k, f, F, hk, hm, hf => by
    have hr := hI.1
    have hpb := prim_b hp
    rw [Grd_clearAll_c2, show sw σ l F 51 0 = nI n by rw [sw_ap, if_neg (by omega)]; exact h0, if_neg (nI_ge (by omega) (by omega)), ld62 (by omega), ob_some, ob_some, show sw σ l F 62 k = lv (L k) by rw [sw_ap, if_neg (by omega)]; exact h62 k (by omega)]
    unfold lv
    rcases hI.2.2.1 k (by omega) with e | ⟨e1, e2⟩
    · rw [if_pos e, if_pos (show mI < 0 by decide), nI_1, ca, if_pos e]
      exact gca_loop hp hn hR h0 h1 h52 hB hI h62 k1 k2 hl hl2 hne d m (k + 1) f F (by omega) (by omega) hf
    · have hne9 : ¬ L k = 99 := by omega
      have hc := h52 (L k) (by omega)
      obtain ⟨k3, k4, _⟩ := kd_gr (c (L k)) (by omega) hc.2.1 (Or.inl hc.2.2)
      have hlc := hne (L k) (by omega)
      have hBb := hI.2.1 (L k)
      obtain ⟨F2, e3, g3⟩ := gcl_ok (σ := sw σ l F) (n := n) (p := p) (l := l) (l2 := c (L k)) (k := k) (a := f) (b := B (L k)) (by rw [sw_ap, if_neg (by omega)]; exact h0) (by rw [sw_ap, if_neg (by omega)]; exact h1) hp hn k1 k2 k3 k4 (by omega) hlc (fun j hj => (hf j hj).2) (fun j hj => hBb j hj) (fun j hj => by rw [sw_ap, if_pos rfl]; exact (hf j hj).1) (fun j hj => by rw [sw_ap, if_neg (Ne.symm hlc)]; exact hB (L k) (by omega) j hj) (by omega)
      rw [if_neg hne9, if_neg (nI_pos (by omega)), lr52 (v := c (L k)) (by omega) (by rw [sw_ap, if_neg (by omega)]; exact hc.1) hc.2.2, ob_some, e3, ob_some, sw_idem, nI_1, ca, if_neg hne9]
      exact gca_loop hp hn hR h0 h1 h52 hB hI h62 k1 k2 hl hl2 hne d m (k + 1) _ F2 (by omega) (by omega) (fun j hj => ⟨g3 j hj, Nat.mod_lt _ (by omega)⟩)
theorem gin_loop {σ : zSt} {n p l v : Nat} {o u : Nat → Nat} (hp : prim p) (hn : n ≤ 9) (h0 : σ 51 0 = nI n) (h1 : σ 51 1 = nI p) (k1 : Nat.beq (zkd l) 100 = true) (k2 : zln l = 9) (ho : ∀ j, j < n → σ l j = nI (o j) ∧ o j < p) (hu : ∀ j, j < n → σ 63 j = nI (u j) ∧ u j < p) (hv : v < p) : ∀ (d m j : Nat), j + d = n → d < m → Grd_isNought_c2 σ m l (nI v) (nI j) = some (nI (nz o u p v d j).toNat)
  | d, 0, j, _, hm => absurd hm (Nat.not_lt_zero _)
  | 0, m + 1, j, hj, _ => by
    rw [Grd_isNought_c2, h0, if_pos (nI_le (by omega) (by omega))]
    rfl
  | d + 1, m + 1, j, hj, hm => by
    have hb := prim_b hp
    have a1 := ho j (by omega)
    have a2 := hu j (by omega)
    have a3 : v * u j ≤ 30 * 30 := Nat.mul_le_mul (by omega) (by omega)
    have a4 : (o j + v * u j) % p < p := Nat.mod_lt _ (by omega)
    rw [Grd_isNought_c2, h0, if_neg (nI_ge (by omega) (by omega)), zld_at k1 k2 (by omega : j < 9) (by decide), ob_some, ld63 (by omega), ob_some, a1.1, a2.1, pk_mul, nI_add, gmod_nat h1 hp (by omega), ob_some, nz]
    by_cases e : (o j + v * u j) % p = 0
    · rw [if_pos (by rw [e]; rfl), if_pos e, nI_1]
      exact gin_loop hp hn h0 h1 k1 k2 ho hu hv d m (j + 1) (by omega) (by omega)
    · rw [if_neg (show ¬ nI ((o j + v * u j) % p) = 0 from nI_ne0 (by omega) (by omega)), if_neg e]
      rfl
theorem gms_loop {σ : zSt} {n p l r : Nat} {o u : Nat → Nat} (hp : prim p) (hn : n ≤ 9) (h0 : σ 51 0 = nI n) (h1 : σ 51 1 = nI p) (k1 : Nat.beq (zkd l) 100 = true) (k2 : zln l = 9) (ho : ∀ j, j < n → σ l j = nI (o j) ∧ o j < p) (hu : ∀ j, j < n → σ 63 j = nI (u j) ∧ u j < p) : ∀ (d m v : Nat), v + d = p → d < m → Grd_mendAt_c62 m l (nI r) (nI v) σ = some (nI (cs (fun v => nz o u p v n 0) r d v).1, su σ 51 2 (nI (cs (fun v => nz o u p v n 0) r d v).2))
  | d, 0, v, _, hm => absurd hm (Nat.not_lt_zero _)
  | 0, m + 1, v, hv, _ => by
    have hb := prim_b hp
    rw [Grd_mendAt_c62, h1, if_pos (nI_le (by omega) (by omega)), nI_1, zlet_ap]
    rfl
  | d + 1, m + 1, v, hv, hm => by
    have hb := prim_b hp
    have e1 := gin_loop hp hn h0 h1 k1 k2 ho hu (v := v) (by omega) n zF 0 (Nat.zero_add _) (zF_big (by omega))
    unfold Grd_mendAt_c62 Grd_isNought
    rw [h1, if_neg (nI_ge (by omega) (by omega)), show (0 : Int32) = nI 0 from rfl, e1, ob_some, cs]
    cases e : nz o u p v n 0 with
    | true =>
      rw [if_neg (show ¬ nI true.toNat = nI 0 by decide), if_pos rfl, zlet_ap]
    | false =>
      rw [if_pos (show nI false.toNat = nI 0 from rfl), if_neg (by decide), nI_1]
      exact gms_loop hp hn h0 h1 k1 k2 ho hu d m (v + 1) (by omega) (by omega)
theorem gmd_ok {σ : zSt} {n p a : Nat} {c : Nat → Nat} {A : Nat → Nat → Nat} (hp : prim p) (hn : 1 ≤ n ∧ n ≤ 9) (ha : a < n) (hA : ∀ i j, j < n → A i j < p) (hG : GX n p c A σ) : ∃ σ2, Grd_mendAt (nI a) σ = some (nI (cs (mP p n a A) (Mr p n a A) p 0).1, σ2) ∧ σ2 51 2 = nI (cs (mP p n a A) (Mr p n a A) p 0).2 ∧ Ce σ2 ∧ ∀ b q, (b < 51 ∨ 63 < b) → σ2 b q = σ b q := by
  have hb := prim_b hp
  have hn2 := hn.2
  obtain ⟨σ1, e1, G1, f1⟩ := gsw_ok (i := a) (j := n - 1) hG hn2 ha (by omega)
  have hl := G1.2.1.1 (n - 1) (by omega)
  generalize hc1 : swp c a (n - 1) = c1 at *
  obtain ⟨k1, k2, _⟩ := kd_gr (c1 (n - 1)) (by omega) hl.2.1 (Or.inl hl.2.2)
  -- the own row's place is nought
  have G3 : GX n p c1 (A2 A a n) (su σ1 (c1 (n - 1)) a 0) := by
    rw [su_sw0]
    refine GX_cg (GX_row (r := n - 1) (g := fun j => if j = a then 0 else A a j) hn2 G1 (by omega) (fun y hy => ?_)) (fun x hx y hy => ?_)
    · show upd (σ1 (c1 (n - 1))) a 0 y = nI (if y = a then 0 else A a y)
      by_cases e : y = a
      · rw [e, pk_us, if_pos rfl]; rfl
      · rw [pk_un e, if_neg e, G1.2.2 (n - 1) (by omega) y hy]
        unfold swp
        by_cases e2 : n - 1 = a
        · rw [if_pos e2, e2]
        · rw [if_neg e2, if_pos rfl]
    · show (if x = n - 1 then (if y = a then 0 else A a y) else swp A a (n - 1) x y) = A2 A a n x y
      unfold A2 swp
      by_cases e : x = n - 1
      · rw [if_pos e, if_pos e]
      · rw [if_neg e, if_neg e, if_neg e]
        by_cases e2 : x = a
        · rw [if_pos e2, if_pos e2]
        · rw [if_neg e2, if_neg e2]
  obtain ⟨f, e4, g4⟩ := fil_ok (a := 63) (N := 9) (v := 0) (su σ1 (c1 (n - 1)) a 0) rfl rfl (by decide)
  have G5 : GX n p c1 (A2 A a n) (su (sw (su σ1 (c1 (n - 1)) a 0) 63 f) 63 a 1) := GX_sm hn2 G3 (fun b q _ h2 => by rw [su_ap, if_neg (by omega), sw_ap, if_neg (by omega)])
  have hA2 : ∀ i j, j < n → A2 A a n i j < p := fun i j hj => by
    unfold A2
    split
    · split
      · omega
      · exact hA a j hj
    · split
      · exact hA _ j hj
      · exact hA i j hj
  obtain ⟨σ7, c2, pv, e7, G7, h62, hI, hc2, f7⟩ := grd_ok (R := n - 1) hp hn2 (by omega) hA2 G5
  have hl2 : c2 (n - 1) = c1 (n - 1) := hc2 (n - 1) (Nat.le_refl _)
  have u7 : ∀ j, j < n → σ7 63 j = nI (Ua a j) ∧ Ua a j < p := fun j hj => by
    refine ⟨?_, by unfold Ua; split <;> omega⟩
    rw [f7 63 j (by omega), su_ap]
    unfold Ua
    by_cases e : j = a
    · rw [if_pos ⟨rfl, e⟩, if_pos e]; rfl
    · rw [if_neg (fun w => e w.2), if_neg e, sw_ap, if_pos rfl, g4 j (by omega)]; rfl
  have er : (rr p (n - 1) n 0 0 (A2 A a n) L99).1 = Mr p n a A := rfl
  have eo : Mo p n a A = ca p (rr p (n - 1) n 0 0 (A2 A a n) L99).2.1 (rr p (n - 1) n 0 0 (A2 A a n) L99).2.2 n 0 (A2 A a n (n - 1)) := rfl
  have eu : Mu p n a A = ca p (rr p (n - 1) n 0 0 (A2 A a n) L99).2.1 (rr p (n - 1) n 0 0 (A2 A a n) L99).2.2 n 0 (Ua a) := rfl
  have hB7 : (rr p (n - 1) n 0 0 (A2 A a n) L99).2.1 (n - 1) = A2 A a n (n - 1) := by
    obtain ⟨_, _, _, T⟩ := rr_ok (R := n - 1) hp n 0 0 (A2 A a n) L99 (fun _ => 0) (Nat.zero_add _) (RI_0 hA2)
    exact T (n - 1) (Nat.le_refl _)
  generalize (rr p (n - 1) n 0 0 (A2 A a n) L99).2.1 = B at *
  generalize (rr p (n - 1) n 0 0 (A2 A a n) L99).2.2 = L at *
  have inj := G7.2.1.2
  have r52 : ∀ q, q < n - 1 → σ7 52 q = nI (c2 q) ∧ 53 ≤ c2 q ∧ c2 q ≤ 61 := fun q hq => G7.2.1.1 q (by omega)
  have own7 : ∀ j, j < n → σ7 (c1 (n - 1)) j = nI (A2 A a n (n - 1) j) ∧ A2 A a n (n - 1) j < p := fun j hj => by
    refine ⟨?_, hA2 _ j hj⟩
    rw [← hl2, G7.2.2 (n - 1) (by omega) j hj, hB7]
  obtain ⟨F, e8, g8⟩ := gca_loop (σ := σ7) (l := c1 (n - 1)) hp hn2 (by omega) G7.1.1 G7.1.2 r52 (fun q hq j hj => G7.2.2 q (by omega) j hj) hI h62 k1 k2 hl.2.1 (by omega) (fun q hq w => by have := inj (n - 1) q (by omega) (by omega) (hl2.trans w); omega) n zF 0 (A2 A a n (n - 1)) (σ7 (c1 (n - 1))) (Nat.zero_add _) (zF_big (by omega)) own7
  rw [sw_self] at e8
  rw [← eo] at g8
  obtain ⟨F2, e9, g9⟩ := gca_loop (σ := sw σ7 (c1 (n - 1)) F) (l := 63) (c := c2) hp hn2 (by omega : n - 1 ≤ n) (by rw [sw_ap, if_neg (by omega)]; exact G7.1.1) (by rw [sw_ap, if_neg (by omega)]; exact G7.1.2) (fun q hq => by rw [sw_ap, if_neg (by omega)]; exact r52 q hq) (fun q hq j hj => by
    rw [sw_ap, if_neg (fun w => by have := inj q (n - 1) (by omega) (by omega) (w.trans hl2.symm); omega)]
    exact G7.2.2 q (by omega) j hj) hI (fun x hx => by rw [sw_ap, if_neg (by omega)]; exact h62 x hx) rfl rfl (by decide) (by decide) (fun q hq => by have := (r52 q hq).2; omega) n zF 0 (Ua a) (sw σ7 (c1 (n - 1)) F 63) (Nat.zero_add _) (zF_big (by omega)) (fun j hj => by rw [sw_ap, if_neg (by omega)]; exact u7 j hj)
  rw [sw_self] at e9
  rw [← eu] at g9
  have e10 := gms_loop (σ := sw (sw σ7 (c1 (n - 1)) F) 63 F2) (l := c1 (n - 1)) (r := Mr p n a A) (o := Mo p n a A) (u := Mu p n a A) hp hn2 (by rw [sw_ap, if_neg (by omega), sw_ap, if_neg (by omega)]; exact G7.1.1) (by rw [sw_ap, if_neg (by omega), sw_ap, if_neg (by omega)]; exact G7.1.2) k1 k2 (fun j hj => by rw [sw_ap, if_neg (by omega), sw_ap, if_pos rfl]; exact g8 j hj) (fun j hj => by rw [sw_ap, if_pos rfl]; exact g9 j hj) p zF 0 (Nat.zero_add _) (zF_big (by omega))
  have eP : (fun v => nz (Mo p n a A) (Mu p n a A) p v n 0) = mP p n a A := rfl
  rw [eP] at e10
  refine ⟨su (sw (sw σ7 (c1 (n - 1)) F) 63 F2) 51 2 (nI (cs (mP p n a A) (Mr p n a A) p 0).2), ?_, ?_, ⟨c2, fun q hq => ?_, inj⟩, fun b q hq => ?_⟩
  · unfold Grd_mendAt Grd_clearAll
    rw [hG.1.1, show nI n - 1 = nI (n - 1) from pk_sub (b := 1) hn.1, e1, ob_some, lr52 (by omega) hl.1 hl.2.2, ob_some, zst_at k1 k2 (by omega : a < 9) (by decide), ob_some, e4, ob_some, st63 (by omega), ob_some, e7, zb2_sm, show (0 : Int32) = nI 0 from rfl, e8, ob_some, e9, ob_some, er]
    exact e10
  · rw [su_ap, if_pos ⟨rfl, rfl⟩]
  · rw [su_ap, if_neg (by omega), sw_ap, if_neg (by omega), sw_ap, if_neg (by omega)]
    exact G7.2.1.1 q hq
  · rw [su_ap, if_neg (by omega), sw_ap, if_neg (by omega), sw_ap, if_neg (by omega), f7 b q (by omega), su_ap, if_neg (by omega), sw_ap, if_neg (by omega), su_ap, if_neg (by omega), f1 b q (by omega)]

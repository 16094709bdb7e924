/-! PURE: the rank by each number at one place: what the class finds is what the reference finds -/
def ca (p : Nat) (B : Nat → Nat → Nat) (L : Nat → Nat) : Nat → Nat → (Nat → Nat) → Nat → Nat
  | 0, _, f => f
  | d + 1, c, f => if L c = 99 then ca p B L d (c + 1) f else ca p B L d (c + 1) (fun j => (f j + (p - f c) * B (L c) j) % p)
theorem ca_ok {p n R r : Nat} {B : Nat → Nat → Nat} {L pv : Nat → Nat} (hp : prim p) (hR : R ≤ 9) (h : RI p n R n r B L pv) : ∀ (d c : Nat) (f : Nat → Nat), c + d = n → (∀ j, j < n → f j < p) → (∀ q, q < r → pv q < c → f (pv q) = 0) → (∀ j, j < n → ca p B L d c f j < p) ∧ (∀ q, q < r → ca p B L d c f (pv q) = 0) ∧ Sp (p : Int) n R (cI B) (fun j => (ca p B L d c f j : Int) - (f j : Int))
  | 0, c, f, hc, hf, hz => by
    obtain rfl : c = n := by omega
    refine ⟨hf, fun q hq => hz q hq (h.2.2.2.1 q hq).1, Sp_sbs.1 _ _ Sp_sbs.2.1 (fun j _ => ⟨0, ?_⟩)⟩
    unfold ca
    simp
  | d + 1, c, f, hc, hf, hz => by
    have hb := prim_b hp
    have hr := h.1
    unfold ca
    rcases h.2.2.1 c (by omega) with e | ⟨e1, e2⟩
    · rw [if_pos e]
      refine ca_ok hp hR h d (c + 1) f (by omega) hf (fun q hq hq2 => ?_)
      by_cases e3 : pv q = c
      · have := (h.2.2.2.1 q hq).2
        rw [e3, e] at this
        omega
      · exact hz q hq (by omega)
    · have hne : ¬ L c = 99 := by omega
      have hq1 : B (L c) c = 1 := by
        have := h.2.2.2.2.1 (L c) e1 (L c) (by omega)
        rw [e2, if_pos rfl] at this
        exact this
      have hfc := hf c (by omega)
      rw [if_neg hne]
      obtain ⟨g1, g2, g3⟩ := ca_ok hp hR h d (c + 1) (fun j => (f j + (p - f c) * B (L c) j) % p) (by omega) (fun j _ => Nat.mod_lt _ (by omega)) (fun q hq hq2 => by
        show (f (pv q) + (p - f c) * B (L c) (pv q)) % p = 0
        by_cases e3 : pv q = c
        · rw [e3, hq1, Nat.mul_one, show f c + (p - f c) = p by omega, Nat.mod_self]
        · have := h.2.2.2.2.1 q hq (L c) (by omega)
          rw [if_neg (fun w => e3 (by rw [← w]; exact e2))] at this
          rw [this, hz q hq (by omega)]
          simp)
      refine ⟨g1, g2, Sp_of (-(f c : Int)) g3 (Sp_row (i := L c) (by omega)) (fun j hj => ?_)⟩
      obtain ⟨k, e4⟩ := md_s (Nat.le_of_lt hfc) (f j) (B (L c) j)
      refine ⟨k, ?_⟩
      show _ = (ca p B L d (c + 1) (fun j => (f j + (p - f c) * B (L c) j) % p) j : Int) - (((f j + (p - f c) * B (L c) j) % p : Nat) : Int) + -(f c : Int) * (B (L c) j : Int) + p * k
      rw [e4]
      grind
theorem Sp_ext {p : Int} {n R : Nat} {B : Nat → Nat → Int} {w u : Nat → Int} (h : Sp p n R B u) : Sp p n (R + 1) (ext R B w) u := Sp_le (fun i hi => by
  have := Sp_row (p := p) (n := n) (A := ext R B w) (show i < R + 1 by omega)
  unfold ext at this ⊢
  rw [if_pos hi] at this
  exact this) h
theorem Sp_extw {p : Int} {n R : Nat} {B : Nat → Nat → Int} {w : Nat → Int} : Sp p n (R + 1) (ext R B w) w := by
  have := Sp_row (p := p) (n := n) (A := ext R B w) (Nat.lt_succ_self R)
  unfold ext at this ⊢
  rw [if_neg (Nat.lt_irrefl _)] at this
  exact this
theorem RI_RF {p n R r : Nat} {B : Nat → Nat → Nat} {L pv : Nat → Nat} (h : RI p n R n r B L pv) : RF n R (cI B) r pv := by
  obtain ⟨h1, h2, h3, h4, h5, h6, h7⟩ := h
  refine ⟨h1, fun q hq => ⟨(h4 q hq).1, ?_, fun j hj => ?_⟩, fun q hq i hi hne => ?_, fun i g1 g2 j hj => ?_⟩
  · unfold cI
    rw [h5 q hq q (by omega), if_pos rfl]
    rfl
  · unfold cI
    rw [h6 q hq j hj]
    rfl
  · unfold cI
    rw [h5 q hq i hi, if_neg hne]
    rfl
  · unfold cI
    rw [h7 i g1 g2 j hj]
    rfl
theorem RI_L {p n R r : Nat} {B : Nat → Nat → Nat} {L pv : Nat → Nat} (hR : R ≤ 9) (h : RI p n R n r B L pv) {c : Nat} (hc : c < n) : ¬ L c = 99 ↔ ∃ q, q < r ∧ pv q = c := by
  have hr := h.1
  constructor
  · intro e
    rcases h.2.2.1 c hc with z | ⟨z1, z2⟩
    · exact absurd z e
    · exact ⟨L c, z1, z2⟩
  · rintro ⟨q, hq, rfl⟩
    rw [(h.2.2.2.1 q hq).2]
    omega
def L99 : Nat → Nat := fun _ => 99
theorem RI_0 {p n R : Nat} {A : Nat → Nat → Nat} {pv : Nat → Nat} (h : ∀ i j, j < n → A i j < p) : RI p n R 0 0 A L99 pv := ⟨Nat.zero_le _, h, fun x hx => absurd hx (Nat.not_lt_zero _), fun q hq => absurd hq (Nat.not_lt_zero _), fun q hq => absurd hq (Nat.not_lt_zero _), fun q hq => absurd hq (Nat.not_lt_zero _), fun i _ _ j hj => absurd hj (Nat.not_lt_zero _)⟩
/-- the table with a number at one place of the middle -/
def Av (A : Nat → Nat → Nat) (a v : Nat) : Nat → Nat → Nat := fun i j => if i = a ∧ j = a then v else A i j
/-- the class's: two rows changed, the own one's place nought -/
def A2 (A : Nat → Nat → Nat) (a n : Nat) : Nat → Nat → Nat := fun i j => if i = n - 1 then (if j = a then 0 else A a j) else if i = a then A (n - 1) j else A i j
def Ua (a : Nat) : Nat → Nat := fun j => if j = a then 1 else 0
def rk (p n : Nat) (A : Nat → Nat → Nat) : Nat := (rr p n n 0 0 A L99).1
/-- the class's own row and unit row behind what the others take off -/
def Mo (p n a : Nat) (A : Nat → Nat → Nat) : Nat → Nat := ca p (rr p (n - 1) n 0 0 (A2 A a n) L99).2.1 (rr p (n - 1) n 0 0 (A2 A a n) L99).2.2 n 0 (A2 A a n (n - 1))
def Mu (p n a : Nat) (A : Nat → Nat → Nat) : Nat → Nat := ca p (rr p (n - 1) n 0 0 (A2 A a n) L99).2.1 (rr p (n - 1) n 0 0 (A2 A a n) L99).2.2 n 0 (Ua a)
def Mr (p n a : Nat) (A : Nat → Nat → Nat) : Nat := (rr p (n - 1) n 0 0 (A2 A a n) L99).1
def Mz (p n a : Nat) (A : Nat → Nat → Nat) (v : Nat) : Prop := ∀ j, j < n → (Mo p n a A j + v * Mu p n a A j) % p = 0
theorem zr_nat {p x : Nat} (hp : 0 < p) : zr (p : Int) (x : Int) ↔ x % p = 0 := by
  constructor
  · rintro ⟨k, e⟩
    have h0 : (0 : Int) ≤ k := by
      refine Int.not_lt.mp fun q => ?_
      have : (p : Int) * k < 0 := Int.mul_neg_of_pos_of_neg (by omega) q
      omega
    obtain ⟨m, rfl⟩ := Int.eq_ofNat_of_zero_le h0
    have : x = p * m := by
      have h3 : (x : Int) = ((p * m : Nat) : Int) := by rw [e]; simp
      exact Int.ofNat.inj h3
    rw [this]
    exact Nat.mul_mod_right p m
  · intro h
    have := Nat.mod_add_div x p
    rw [h, Nat.zero_add] at this
    exact ⟨((x / p : Nat) : Int), by
      have h3 : ((p * (x / p) : Nat) : Int) = (x : Int) := by rw [this]
      rw [← h3]
      simp⟩
theorem rk_ok {p n a v : Nat} {A : Nat → Nat → Nat} (hp : prim p) (hn : 1 ≤ n ∧ n ≤ 9) (ha : a < n) (hA : ∀ i j, j < n → A i j < p) (hv : v < p) : (Mz p n a A v → rk p n (Av A a v) = Mr p n a A) ∧ (¬ Mz p n a A v → rk p n (Av A a v) = Mr p n a A + 1) := by
  have hb := prim_b hp
  have hAv : ∀ i j, j < n → Av A a v i j < p := fun i j hj => by
    unfold Av
    split
    · exact hv
    · exact hA i j hj
  have hA2 : ∀ i j, j < n → A2 A a n i j < p := fun i j hj => by
    unfold A2
    split
    · split
      · omega
      · exact hA a j hj
    · split
      · exact hA _ j hj
      · exact hA i j hj
  obtain ⟨pv2, I2, S2, _⟩ := rr_ok (R := n) hp n 0 0 (Av A a v) L99 (fun _ => 0) (Nat.zero_add _) (RI_0 hAv)
  obtain ⟨pv1, I1, S1, T1⟩ := rr_ok (R := n - 1) hp n 0 0 (A2 A a n) L99 (fun _ => 0) (Nat.zero_add _) (RI_0 hA2)
  have c2 : cnl (rr p n n 0 0 (Av A a v) L99).2.2 n = rk p n (Av A a v) := by
    have := rr_cn (p := p) (R := n) n 0 0 (Av A a v) L99 (by omega) rfl
    rw [Nat.zero_add] at this
    exact this
  have c1 : cnl (rr p (n - 1) n 0 0 (A2 A a n) L99).2.2 n = Mr p n a A := by
    have := rr_cn (p := p) (R := n - 1) n 0 0 (A2 A a n) L99 (by omega) rfl
    rw [Nat.zero_add] at this
    exact this
  obtain ⟨o1, o2, o3⟩ := ca_ok hp (by omega) I1 n 0 (A2 A a n (n - 1)) (Nat.zero_add _) (fun j hj => hA2 _ j hj) (fun q _ h => absurd h (Nat.not_lt_zero _))
  obtain ⟨u1, u2, u3⟩ := ca_ok hp (by omega) I1 n 0 (Ua a) (Nat.zero_add _) (fun j hj => by unfold Ua; split <;> omega) (fun q _ h => absurd h (Nat.not_lt_zero _))
  generalize hB : (rr p (n - 1) n 0 0 (A2 A a n) L99).2.1 = B at *
  generalize hL : (rr p (n - 1) n 0 0 (A2 A a n) L99).2.2 = L at *
  have eo : Mo p n a A = ca p B L n 0 (A2 A a n (n - 1)) := by unfold Mo; rw [hB, hL]
  have eu : Mu p n a A = ca p B L n 0 (Ua a) := by unfold Mu; rw [hB, hL]
  rw [← eo] at o1 o2 o3
  rw [← eu] at u1 u2 u3
  have er : (rr p (n - 1) n 0 0 (A2 A a n) L99).1 = Mr p n a A := rfl
  rw [er] at I1 o2 u2
  have er2 : (rr p n n 0 0 (Av A a v) L99).1 = rk p n (Av A a v) := rfl
  rw [er2] at I2
  -- the row with the number v
  have hw0 : ∀ q, q < Mr p n a A → zr (p : Int) ((fun j => (Mo p n a A j : Int) + v * (Mu p n a A j : Int)) (pv1 q)) := fun q hq => ⟨0, by
    show (Mo p n a A (pv1 q) : Int) + v * (Mu p n a A (pv1 q) : Int) = _
    rw [o2 q hq, u2 q hq]; simp⟩
  have hRn : n - 1 + 1 = n := by omega
  -- both span the same
  have row2 : ∀ i, i < n - 1 → Sp (p : Int) n (n - 1 + 1) (ext (n - 1) (cI B) (fun j => (Mo p n a A j : Int) + v * (Mu p n a A j : Int))) (cI (A2 A a n) i) := fun i hi => Sp_ext (S1.2 i hi)
  have hown : ∀ j, (A2 A a n (n - 1) j : Int) + v * (Ua a j : Int) = cI (Av A a v) a j := fun j => by
    unfold A2 Ua cI Av
    by_cases e : j = a
    · rw [if_pos rfl, if_pos e, if_pos e, if_pos ⟨rfl, e⟩]; simp
    · rw [if_pos rfl, if_neg e, if_neg e, if_neg (fun w => e w.2)]; simp
  have fwd : ∀ i, i < n → Sp (p : Int) n (n - 1 + 1) (ext (n - 1) (cI B) (fun j => (Mo p n a A j : Int) + v * (Mu p n a A j : Int))) (cI (Av A a v) i) := fun i hi => by
    by_cases e : i = a
    · rw [e]
      refine Sp_of (-1) (Sp_of (-(v : Int)) Sp_extw (Sp_ext u3) (fun j _ => ⟨0, by rw [Int.mul_zero, Int.add_zero]⟩)) (Sp_ext o3) (fun j _ => ⟨0, ?_⟩)
      rw [← hown j]
      grind
    · by_cases e2 : i = n - 1
      · refine Sp_sbs.1 _ _ (row2 a (by omega)) (fun j _ => ⟨0, ?_⟩)
        unfold cI A2 Av
        rw [if_neg (by omega), if_pos rfl, if_neg (fun w => e w.1), e2]; simp
      · refine Sp_sbs.1 _ _ (row2 i (by omega)) (fun j _ => ⟨0, ?_⟩)
        unfold cI A2 Av
        rw [if_neg e2, if_neg e, if_neg (fun w => e w.1)]; simp
  have rowB : ∀ u, Sp (p : Int) n (n - 1) (cI B) u → Sp (p : Int) n n (cI (Av A a v)) u := fun u hu => Sp_le (fun i hi => Sp_le (fun i hi => by
    by_cases e : i = a
    · refine Sp_sbs.1 _ _ (Sp_row (i := n - 1) (by omega)) (fun j _ => ⟨0, ?_⟩)
      unfold cI A2 Av
      rw [if_neg (fun w => absurd w.1 (by omega)), if_neg (by omega), if_pos e]; simp
    · refine Sp_sbs.1 _ _ (Sp_row (i := i) (by omega)) (fun j _ => ⟨0, ?_⟩)
      unfold cI A2 Av
      rw [if_neg (fun w => e w.1), if_neg (by omega), if_neg e]; simp) (S1.1 i hi)) hu
  have bwd : ∀ i, i < n - 1 + 1 → Sp (p : Int) n n (cI (Av A a v)) (ext (n - 1) (cI B) (fun j => (Mo p n a A j : Int) + v * (Mu p n a A j : Int)) i) := fun i hi => by
    unfold ext
    by_cases e : i < n - 1
    · rw [if_pos e]; exact rowB _ (Sp_row e)
    · rw [if_neg e]
      refine Sp_of 1 (Sp_of (v : Int) (Sp_row (i := a) ha) (rowB _ u3) (fun j _ => ⟨0, by rw [Int.mul_zero, Int.add_zero]⟩)) (rowB _ o3) (fun j _ => ⟨0, ?_⟩)
      rw [← hown j]
      grind
  have same : ∀ d, LC (p : Int) n (Sp (p : Int) n n (cI (rr p n n 0 0 (Av A a v) L99).2.1)) d ↔ LC (p : Int) n (Sp (p : Int) n (n - 1 + 1) (ext (n - 1) (cI B) (fun j => (Mo p n a A j : Int) + v * (Mu p n a A j : Int)))) d := fun d => by
    constructor
    · rintro ⟨u, hu, hd⟩
      exact ⟨u, Sp_le fwd (Sp_le S2.1 hu), hd⟩
    · rintro ⟨u, hu, hd⟩
      exact ⟨u, Sp_le S2.2 (Sp_le bwd hu), hd⟩
  have key : ∀ c, c < n → (¬ (rr p n n 0 0 (Av A a v) L99).2.2 c = 99 ↔ ¬ L c = 99 ∨ ldc (p : Int) n (fun j => (Mo p n a A j : Int) + v * (Mu p n a A j : Int)) c) := fun c hc => by
    rw [RI_L hn.2 I2 hc, ← RF_LC (zr_1 hp) (zr_p hp) (RI_RF I2), same c, ext_LC (zr_1 hp) (zr_p hp) (RI_RF I1) hw0, ← RI_L (by omega) I1 hc]
  have zz : ∀ j, zr (p : Int) ((Mo p n a A j : Int) + v * (Mu p n a A j : Int)) ↔ (Mo p n a A j + v * Mu p n a A j) % p = 0 := fun j => by
    rw [← zr_nat (by omega)]
    rw [Int.natCast_add, Int.natCast_mul]
  constructor
  · intro hz
    rw [← c2, ← c1]
    refine cnl_eq (fun c hc => ?_)
    have h1 := key c hc
    have h2 : ¬ ldc (p : Int) n (fun j => (Mo p n a A j : Int) + v * (Mu p n a A j : Int)) c := fun w => w.2.2 ((zz c).mpr (hz c hc))
    constructor
    · intro e
      exact Classical.byContradiction fun q => h1.mpr (Or.inl q) e
    · intro e
      refine Classical.byContradiction fun q => ?_
      rcases h1.mp q with w | w
      · exact w e
      · exact h2 w
  · intro hz
    obtain ⟨d, hd⟩ := ldc_ex (p := (p : Int)) (n := n) (w := fun j => (Mo p n a A j : Int) + v * (Mu p n a A j : Int)) (fun q => hz (fun j hj => (zz j).mp (q j hj)))
    rw [← c2, ← c1]
    have dL : L d = 99 := Classical.byContradiction fun q => by
      obtain ⟨x, hx, hx2⟩ := (RI_L (by omega) I1 hd.1).mp q
      have := hw0 x hx
      rw [hx2] at this
      exact hd.2.2 this
    refine cnl_one ((key d hd.1).mpr (Or.inr hd)) dL (fun c hc hne => ?_) hd.1
    have h1 := key c hc
    constructor
    · intro e
      refine Classical.byContradiction fun q => ?_
      rcases h1.mp q with w | w
      · exact w e
      · exact hne (ldc_one w hd)
    · intro e
      exact Classical.byContradiction fun q => h1.mpr (Or.inl q) e
/-- the reference goes through all numbers -/
def mf2 (g : Nat → Nat) : Nat → Nat → Nat → Nat → Nat × Nat
  | 0, _, b, l => (b, l)
  | d + 1, v, b, l => if g v < l then mf2 g d (v + 1) v (g v) else mf2 g d (v + 1) b l
/-- the class stops at the first -/
def cs (P : Nat → Bool) (r : Nat) : Nat → Nat → Nat × Nat
  | 0, _ => (0, r + 1)
  | d + 1, v => if P v = true then (v, r) else cs P r d (v + 1)
theorem cs_cases {P : Nat → Bool} {r : Nat} : ∀ d v, ((cs P r d v).2 = r ∧ v ≤ (cs P r d v).1 ∧ (cs P r d v).1 < v + d) ∨ cs P r d v = (0, r + 1)
  | 0, v => Or.inr rfl
  | d + 1, v => by
    unfold cs
    by_cases h : P v = true
    · rw [if_pos h]; exact Or.inl ⟨rfl, Nat.le_refl _, by show v < v + (d + 1); omega⟩
    · rw [if_neg h]
      rcases cs_cases (P := P) (r := r) d (v + 1) with ⟨h1, h2, h3⟩ | h1
      · exact Or.inl ⟨h1, by omega, by omega⟩
      · exact Or.inr h1
theorem mf2_lo {g : Nat → Nat} : ∀ (d v b l : Nat), (∀ x, v ≤ x → x < v + d → l ≤ g x) → mf2 g d v b l = (b, l)
  | 0, _, _, _, _ => rfl
  | d + 1, v, b, l, h => by
    unfold mf2
    rw [if_neg (by have := h v (Nat.le_refl _) (by omega); omega)]
    exact mf2_lo d (v + 1) b l (fun x h1 h2 => h x (by omega) (by omega))
theorem mf2_r1 {g : Nat → Nat} {P : Nat → Bool} {r V : Nat} : ∀ (d v b : Nat), (∀ x, v ≤ x → x < v + d → g (V + x) = if P x = true then r else r + 1) → mf2 g d (V + v) b (r + 1) = if (cs P r d v).2 = r then (V + (cs P r d v).1, r) else (b, r + 1)
  | 0, v, b, _ => by
    show (b, r + 1) = if r + 1 = r then _ else (b, r + 1)
    rw [if_neg (by omega)]
  | d + 1, v, b, h => by
    have h0 := h v (Nat.le_refl _) (by omega)
    unfold mf2 cs
    by_cases e : P v = true
    · rw [if_pos e] at h0
      rw [if_pos e, h0, if_pos (Nat.lt_succ_self r), if_pos rfl]
      refine mf2_lo d (V + v + 1) (V + v) r (fun x h1 h2 => ?_)
      have := h (x - V) (by omega) (by omega)
      rw [show V + (x - V) = x by omega] at this
      rw [this]
      split <;> omega
    · rw [if_neg e] at h0
      rw [if_neg e, h0, if_neg (Nat.lt_irrefl _)]
      exact mf2_r1 d (v + 1) b (fun x h1 h2 => h x (by omega) (by omega))
theorem mf2_blk {g : Nat → Nat} {P : Nat → Bool} {r V d b l : Nat} (hd : 0 < d) (h : ∀ x, x < d → g (V + x) = if P x = true then r else r + 1) : mf2 g d V b l = if (cs P r d 0).2 < l then (V + (cs P r d 0).1, (cs P r d 0).2) else (b, l) := by
  rcases Nat.lt_trichotomy l (r + 1) with c | c | c
  · rw [mf2_lo d V b l (fun x h1 h2 => by
      have := h (x - V) (by omega)
      rw [show V + (x - V) = x by omega] at this
      rw [this]
      split <;> omega)]
    rw [if_neg]
    rcases cs_cases (P := P) (r := r) d 0 with ⟨h1, _⟩ | h1
    · omega
    · rw [h1]; show ¬ r + 1 < l; omega
  · subst c
    have := mf2_r1 (g := g) (P := P) (r := r) (V := V) d 0 b (fun x _ h2 => h x (by omega))
    rw [Nat.add_zero] at this
    rw [this]
    rcases cs_cases (P := P) (r := r) d 0 with ⟨h1, _⟩ | h1
    · rw [if_pos h1, if_pos (by omega), h1]
    · rw [h1, if_neg (by show ¬ r + 1 = r; omega), if_neg (by show ¬ r + 1 < r + 1; omega)]
  · obtain ⟨d, rfl⟩ : ∃ d2, d = d2 + 1 := ⟨d - 1, by omega⟩
    have h0 := h 0 (by omega)
    rw [Nat.add_zero] at h0
    unfold mf2
    by_cases e : P 0 = true
    · have ec : cs P r (d + 1) 0 = (0, r) := by unfold cs; rw [if_pos e]
      rw [if_pos e] at h0
      rw [h0, if_pos (by omega), ec, if_pos (show r < l by omega)]
      refine mf2_lo d (V + 1) V r (fun x h1 h2 => ?_)
      have := h (x - V) (by omega)
      rw [show V + (x - V) = x by omega] at this
      rw [this]
      split <;> omega
    · have ec : cs P r (d + 1) 0 = cs P r d 1 := by rw [cs, if_neg e]
      rw [if_neg e] at h0
      rw [h0, if_pos (by omega), mf2_r1 (g := g) (P := P) (r := r) (V := V) d 1 V (fun x _ h2 => h x (by omega)), ec]
      rcases cs_cases (P := P) (r := r) d 1 with ⟨h1, _⟩ | h1
      · rw [if_pos h1, if_pos (by omega), h1]
      · rw [h1, if_neg (by show ¬ r + 1 = r; omega), if_pos (by show r + 1 < l; omega)]; rfl
theorem mf2_add {g : Nat → Nat} : ∀ (d1 d2 v b l : Nat), mf2 g (d1 + d2) v b l = mf2 g d2 (v + d1) (mf2 g d1 v b l).1 (mf2 g d1 v b l).2
  | 0, d2, v, b, l => by rw [Nat.zero_add]; rfl
  | d1 + 1, d2, v, b, l => by
    rw [show d1 + 1 + d2 = d1 + d2 + 1 by omega, mf2, mf2]
    by_cases e : g v < l
    · rw [if_pos e, if_pos e, mf2_add d1 d2 (v + 1) v (g v), show v + (d1 + 1) = v + 1 + d1 by omega]
    · rw [if_neg e, if_neg e, mf2_add d1 d2 (v + 1) b l, show v + (d1 + 1) = v + 1 + d1 by omega]

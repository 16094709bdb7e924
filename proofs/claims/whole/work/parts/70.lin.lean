/-! PURE: rows of whole numbers modulo a prime: what they span, and at which columns it leads -/
def zr (p x : Int) : Prop := ∃ k, x = p * k
def eqv (p : Int) (n : Nat) (v w : Nat → Int) : Prop := ∀ j, j < n → ∃ k, v j = w j + p * k
theorem eqv_r {p : Int} {n : Nat} {v : Nat → Int} : eqv p n v v := fun j _ => ⟨0, by simp⟩
theorem eqv_s {p : Int} {n : Nat} {v w : Nat → Int} (h : eqv p n v w) : eqv p n w v := fun j hj => by
  obtain ⟨k, e⟩ := h j hj
  exact ⟨-k, by grind⟩
def Sbs (p : Int) (n : Nat) (S : (Nat → Int) → Prop) : Prop := (∀ v w, S v → eqv p n v w → S w) ∧ S (fun _ => 0) ∧ ∀ v w a, S v → S w → S (fun j => v j + a * w j)
def Sp (p : Int) (n R : Nat) (A : Nat → Nat → Int) (v : Nat → Int) : Prop := ∀ S, Sbs p n S → (∀ i, i < R → S (A i)) → S v
theorem Sp_sbs {p : Int} {n R : Nat} {A : Nat → Nat → Int} : Sbs p n (Sp p n R A) := ⟨fun v w h e S hS hr => hS.1 v w (h S hS hr) e, fun S hS _ => hS.2.1, fun v w a h1 h2 S hS hr => hS.2.2 v w a (h1 S hS hr) (h2 S hS hr)⟩
theorem Sp_row {p : Int} {n R i : Nat} {A : Nat → Nat → Int} (hi : i < R) : Sp p n R A (A i) := fun S _ hr => hr i hi
theorem Sp_le {p : Int} {n R R2 : Nat} {A B : Nat → Nat → Int} (h : ∀ i, i < R → Sp p n R2 B (A i)) {v : Nat → Int} (hv : Sp p n R A v) : Sp p n R2 B v := hv _ Sp_sbs h
/-- a row that is another one and so many times a third -/
theorem Sp_of {p : Int} {n R : Nat} {A : Nat → Nat → Int} {u v w : Nat → Int} (a : Int) (hv : Sp p n R A v) (hw : Sp p n R A w) (h : ∀ j, j < n → ∃ k, u j = v j + a * w j + p * k) : Sp p n R A u := Sp_sbs.1 _ _ (Sp_sbs.2.2 v w a hv hw) (fun j hj => by
  obtain ⟨k, e⟩ := h j hj
  exact ⟨-k, by grind⟩)
theorem Sp_mul {p : Int} {n R : Nat} {A : Nat → Nat → Int} {u w : Nat → Int} (a : Int) (hw : Sp p n R A w) (h : ∀ j, j < n → ∃ k, u j = a * w j + p * k) : Sp p n R A u := Sp_of a Sp_sbs.2.1 hw (fun j hj => by
  obtain ⟨k, e⟩ := h j hj
  exact ⟨k, by rw [e]; simp⟩)
def ldc (p : Int) (n : Nat) (v : Nat → Int) (c : Nat) : Prop := c < n ∧ (∀ j, j < c → zr p (v j)) ∧ ¬ zr p (v c)
def LC (p : Int) (n : Nat) (S : (Nat → Int) → Prop) (c : Nat) : Prop := ∃ v, S v ∧ ldc p n v c
def smI (f : Nat → Int) : Nat → Int
  | 0 => 0
  | r + 1 => smI f r + f r
theorem sm_lin {f g : Nat → Int} {a : Int} : ∀ r, smI (fun q => f q + a * g q) r = smI f r + a * smI g r
  | 0 => by simp [smI]
  | r + 1 => by
    have := sm_lin (f := f) (g := g) (a := a) r
    unfold smI
    rw [this]
    grind
theorem sm_cg {f g : Nat → Int} : ∀ {r : Nat}, (∀ q, q < r → f q = g q) → smI f r = smI g r
  | 0, _ => rfl
  | r + 1, h => by
    unfold smI
    rw [sm_cg (fun q hq => h q (by omega)), h r (by omega)]
theorem sm_0 {f : Nat → Int} : ∀ {r : Nat}, (∀ q, q < r → f q = 0) → smI f r = 0
  | 0, _ => rfl
  | r + 1, h => by
    unfold smI
    rw [sm_0 (fun q hq => h q (by omega)), h r (by omega)]
    rfl
theorem sm_z {p : Int} {f : Nat → Int} : ∀ {r : Nat}, (∀ q, q < r → zr p (f q)) → zr p (smI f r)
  | 0, _ => ⟨0, by simp [smI]⟩
  | r + 1, h => by
    obtain ⟨k, e⟩ := sm_z (fun q hq => h q (by omega) : ∀ q, q < r → zr p (f q))
    obtain ⟨k2, e2⟩ := h r (by omega)
    exact ⟨k + k2, by unfold smI; rw [e, e2]; grind⟩
theorem sm_eqv {p : Int} {f g : Nat → Int} : ∀ {r : Nat}, (∀ q, q < r → ∃ k, f q = g q + p * k) → ∃ k, smI f r = smI g r + p * k
  | 0, _ => ⟨0, by simp [smI]⟩
  | r + 1, h => by
    obtain ⟨k, e⟩ := sm_eqv (fun q hq => h q (by omega) : ∀ q, q < r → ∃ k, f q = g q + p * k)
    obtain ⟨k2, e2⟩ := h r (by omega)
    exact ⟨k + k2, by unfold smI; rw [e, e2]; grind⟩
theorem sm_one {f : Nat → Int} {q0 : Nat} : ∀ {r : Nat}, q0 < r → (∀ q, q < r → q ≠ q0 → f q = 0) → smI f r = f q0
  | 0, h0, _ => absurd h0 (Nat.not_lt_zero _)
  | r + 1, h0, h => by
    unfold smI
    by_cases e : q0 = r
    · rw [sm_0 (fun q hq => h q (by omega) (by omega)), e]; simp
    · rw [sm_one (by omega : q0 < r) (fun q hq => h q (by omega)), h r (by omega) (by omega)]; simp
/-- rows brought to steps that lead with 1 -/
def RF (n R : Nat) (B : Nat → Nat → Int) (r : Nat) (pv : Nat → Nat) : Prop := r ≤ R ∧ (∀ q, q < r → pv q < n ∧ B q (pv q) = 1 ∧ ∀ j, j < pv q → B q j = 0) ∧ (∀ q, q < r → ∀ i, i < R → i ≠ q → B i (pv q) = 0) ∧ ∀ i, r ≤ i → i < R → ∀ j, j < n → B i j = 0
/-- what such rows and one more, nought where they lead, span -/
def SX (p : Int) (n : Nat) (B : Nat → Nat → Int) (r : Nat) (pv : Nat → Nat) (w v : Nat → Int) : Prop := ∃ a, ∀ j, j < n → ∃ k, v j = a * w j + smI (fun q => v (pv q) * B q j) r + p * k
theorem SX_sbs {p : Int} {n r : Nat} {B : Nat → Nat → Int} {pv : Nat → Nat} {w : Nat → Int} (hpv : ∀ q, q < r → pv q < n) : Sbs p n (SX p n B r pv w) := by
  refine ⟨fun u v h e => ?_, ⟨0, fun j hj => ⟨0, ?_⟩⟩, fun u v a h1 h2 => ?_⟩
  · obtain ⟨a, h⟩ := h
    refine ⟨a, fun j hj => ?_⟩
    obtain ⟨k, e1⟩ := h j hj
    obtain ⟨k2, e2⟩ := e j hj
    obtain ⟨k3, e3⟩ := sm_eqv (p := p) (f := fun q => u (pv q) * B q j) (g := fun q => v (pv q) * B q j) (r := r) (fun q hq => by
      obtain ⟨k4, e4⟩ := e (pv q) (hpv q hq)
      exact ⟨k4 * B q j, by show u (pv q) * B q j = v (pv q) * B q j + p * (k4 * B q j); rw [e4]; grind⟩)
    exact ⟨k + k3 - k2, by grind⟩
  · rw [sm_0 (fun q _ => by simp)]
    simp
  · obtain ⟨a1, h1⟩ := h1
    obtain ⟨a2, h2⟩ := h2
    refine ⟨a1 + a * a2, fun j hj => ?_⟩
    obtain ⟨k1, e1⟩ := h1 j hj
    obtain ⟨k2, e2⟩ := h2 j hj
    have e3 : smI (fun q => (u (pv q) + a * v (pv q)) * B q j) r = smI (fun q => u (pv q) * B q j) r + a * smI (fun q => v (pv q) * B q j) r := by
      rw [← sm_lin]
      exact sm_cg (fun q _ => by grind)
    exact ⟨k1 + a * k2, by
      show u j + a * v j = _
      rw [show smI (fun q => (fun j => u j + a * v j) (pv q) * B q j) r = _ from e3]
      grind⟩
theorem RF_row {p : Int} {n R r : Nat} {B : Nat → Nat → Int} {pv : Nat → Nat} {w : Nat → Int} (h : RF n R B r pv) {i : Nat} (hi : i < R) : SX p n B r pv w (B i) := by
  obtain ⟨h1, h2, h3, h4⟩ := h
  refine ⟨0, fun j hj => ⟨0, ?_⟩⟩
  by_cases c : i < r
  · rw [sm_one c (fun q hq hne => by rw [h3 q hq i hi (Ne.symm hne)]; simp), (h2 i c).2.1]
    simp
  · rw [sm_0 (fun q hq => by rw [h3 q hq i hi (by omega)]; simp), h4 i (by omega) hi j hj]
    simp
theorem zr_mul {p a b : Int} (h : zr p a) : zr p (a * b) := by
  obtain ⟨k, e⟩ := h
  exact ⟨k * b, by rw [e]; grind⟩
theorem zr_mul2 {p a b : Int} (h : zr p b) : zr p (a * b) := by
  obtain ⟨k, e⟩ := h
  exact ⟨a * k, by rw [e]; grind⟩
/-- the sum's terms at a column ahead of which all is nought, and which no row leads -/
theorem sm_at {p : Int} {n R r : Nat} {B : Nat → Nat → Int} {pv : Nat → Nat} {v : Nat → Int} {d : Nat} (h : RF n R B r pv) (hz : ∀ j, j < d → zr p (v j)) (hd : ∀ q, q < r → pv q ≠ d) : zr p (smI (fun q => v (pv q) * B q d) r) := sm_z (fun q hq => by
  by_cases c : pv q < d
  · exact zr_mul (hz _ c)
  · have := (h.2.1 q hq).2.2 d (by have := hd q hq; omega)
    exact ⟨0, by rw [this]; simp⟩)
theorem SX_lead {p : Int} {n R r : Nat} {B : Nat → Nat → Int} {pv : Nat → Nat} {w v : Nat → Int} {d : Nat} (hp : ∀ a b, zr p (a * b) → zr p a ∨ zr p b) (h : RF n R B r pv) (hw : ∀ q, q < r → zr p (w (pv q))) (hv : SX p n B r pv w v) (hd : ldc p n v d) : (∃ q, q < r ∧ pv q = d) ∨ ldc p n w d := by
  by_cases c : ∃ q, q < r ∧ pv q = d
  · exact Or.inl c
  · obtain ⟨a, ha⟩ := hv
    obtain ⟨d1, d2, d3⟩ := hd
    have hdq : ∀ q, q < r → pv q ≠ d := fun q hq e => c ⟨q, hq, e⟩
    obtain ⟨k, e⟩ := ha d d1
    obtain ⟨k2, e2⟩ := sm_at (p := p) h d2 hdq
    have na : ¬ zr p a := fun q => d3 (by
      obtain ⟨k3, e3⟩ := q
      exact ⟨k3 * w d + k2 + k, by rw [e, e2, e3]; grind⟩)
    have nw : ¬ zr p (w d) := fun q => d3 (by
      obtain ⟨k3, e3⟩ := q
      exact ⟨a * k3 + k2 + k, by rw [e, e2, e3]; grind⟩)
    refine Or.inr ⟨d1, fun j hj => ?_, nw⟩
    by_cases c2 : ∃ q, q < r ∧ pv q = j
    · obtain ⟨q, hq, rfl⟩ := c2
      exact hw q hq
    · obtain ⟨k3, e3⟩ := ha j (by omega)
      obtain ⟨k4, e4⟩ := sm_at (p := p) h (fun i hi => d2 i (by omega)) (fun q hq e => c2 ⟨q, hq, e⟩)
      obtain ⟨k5, e5⟩ := d2 j hj
      rcases hp a (w j) ⟨k5 - k4 - k3, by rw [e4] at e3; rw [e5] at e3; grind⟩ with q | q
      · exact absurd q na
      · exact q
/-- with one row more -/
def ext (R : Nat) (B : Nat → Nat → Int) (w : Nat → Int) : Nat → Nat → Int := fun i => if i < R then B i else w
theorem ext_LC {p : Int} {n R r : Nat} {B : Nat → Nat → Int} {pv : Nat → Nat} {w : Nat → Int} {d : Nat} (hp1 : ¬ zr p 1) (hp : ∀ a b, zr p (a * b) → zr p a ∨ zr p b) (h : RF n R B r pv) (hw : ∀ q, q < r → zr p (w (pv q))) : LC p n (Sp p n (R + 1) (ext R B w)) d ↔ (∃ q, q < r ∧ pv q = d) ∨ ldc p n w d := by
  constructor
  · rintro ⟨v, hv, hd⟩
    refine SX_lead hp h hw (hv _ (SX_sbs (fun q hq => (h.2.1 q hq).1)) (fun i hi => ?_)) hd
    unfold ext
    by_cases c : i < R
    · rw [if_pos c]; exact RF_row h c
    · rw [if_neg c]
      refine ⟨1, fun j hj => ?_⟩
      obtain ⟨k, e⟩ := sm_z (p := p) (f := fun q => w (pv q) * B q j) (r := r) (fun q hq => zr_mul (hw q hq))
      exact ⟨-k, by rw [e]; grind⟩
  · rintro (⟨q, hq, rfl⟩ | c)
    · obtain ⟨g1, g2, g3⟩ := h.2.1 q hq
      have hqR : q < R := by have := h.1; omega
      refine ⟨B q, ?_, g1, fun j hj => ⟨0, by rw [g3 j hj]; simp⟩, by rw [g2]; exact hp1⟩
      have := Sp_row (p := p) (n := n) (A := ext R B w) (show q < R + 1 by omega)
      unfold ext at this ⊢
      rw [if_pos hqR] at this
      exact this
    · refine ⟨w, ?_, c⟩
      have := Sp_row (p := p) (n := n) (A := ext R B w) (Nat.lt_succ_self R)
      unfold ext at this ⊢
      rw [if_neg (Nat.lt_irrefl _)] at this
      exact this
theorem RF_LC {p : Int} {n R r : Nat} {B : Nat → Nat → Int} {pv : Nat → Nat} {d : Nat} (hp1 : ¬ zr p 1) (hp : ∀ a b, zr p (a * b) → zr p a ∨ zr p b) (h : RF n R B r pv) : LC p n (Sp p n R B) d ↔ ∃ q, q < r ∧ pv q = d := by
  constructor
  · rintro ⟨v, hv, hd⟩
    rcases SX_lead (w := fun _ => 0) hp h (fun q hq => ⟨0, by simp⟩) (hv _ (SX_sbs (fun q hq => (h.2.1 q hq).1)) (fun i hi => RF_row h hi)) hd with c | c
    · exact c
    · exact absurd ⟨0, by simp⟩ c.2.2
  · rintro ⟨q, hq, rfl⟩
    obtain ⟨g1, g2, g3⟩ := h.2.1 q hq
    exact ⟨B q, Sp_row (by have := h.1; omega), g1, fun j hj => ⟨0, by rw [g3 j hj]; simp⟩, by rw [g2]; exact hp1⟩
theorem ldc_one {p : Int} {n : Nat} {w : Nat → Int} {d e : Nat} (h : ldc p n w d) (h2 : ldc p n w e) : d = e := by
  rcases Nat.lt_trichotomy d e with c | c | c
  · exact absurd (h2.2.1 d c) h.2.2
  · exact c
  · exact absurd (h.2.1 e c) h2.2.2
theorem ldc_ex {p : Int} {n : Nat} {w : Nat → Int} (h : ¬ ∀ j, j < n → zr p (w j)) : ∃ d, ldc p n w d := by
  have : ∃ j, j < n ∧ ¬ zr p (w j) := Classical.byContradiction fun q => h fun j hj => Classical.byContradiction fun q2 => q ⟨j, hj, q2⟩
  obtain ⟨d, ⟨h1, h2⟩, h3⟩ := pk_least (fun j => j < n ∧ ¬ zr p (w j)) this
  exact ⟨d, h1, fun j hj => Classical.byContradiction fun q => h3 j hj ⟨by omega, q⟩, h2⟩
/-- how many columns are led -/
def cnl (L : Nat → Nat) : Nat → Nat
  | 0 => 0
  | c + 1 => cnl L c + (if L c = 99 then 0 else 1)
theorem cnl_eq {L L2 : Nat → Nat} : ∀ {n : Nat}, (∀ c, c < n → (L c = 99 ↔ L2 c = 99)) → cnl L n = cnl L2 n
  | 0, _ => rfl
  | n + 1, h => by
    have := cnl_eq (fun c hc => h c (by omega) : ∀ c, c < n → _)
    have h2 := h n (by omega)
    unfold cnl
    by_cases e : L n = 99
    · rw [if_pos e, if_pos (h2.mp e), this]
    · rw [if_neg e, if_neg (fun q => e (h2.mpr q)), this]
theorem cnl_one {L L2 : Nat → Nat} {d : Nat} (hd : ¬ L2 d = 99) (hd2 : L d = 99) : ∀ {n : Nat}, (∀ c, c < n → c ≠ d → (L c = 99 ↔ L2 c = 99)) → d < n → cnl L2 n = cnl L n + 1
  | 0, _, h => absurd h (Nat.not_lt_zero _)
  | n + 1, h, hn => by
    unfold cnl
    by_cases e : d = n
    · subst e
      rw [if_neg hd, if_pos hd2, cnl_eq (fun c hc => (h c (by omega) (by omega)).symm)]
    · have := cnl_one hd hd2 (fun c hc => h c (by omega) : ∀ c, c < n → _) (by omega)
      have h2 := h n (by omega) (by omega)
      by_cases e2 : L n = 99
      · rw [if_pos e2, if_pos (h2.mp e2), this]
      · rw [if_neg e2, if_neg (fun q => e2 (h2.mpr q)), this]

/-! PURE: the least forcing sets -/
def fo (t : Nat → Int32) (L x : Nat) : Prop := ¬ t x = mI ∧ pc x = L
def lsz (t : Nat → Int32) : Nat → Nat
  | 0 => 9
  | d + 1 => if t d = mI then lsz t d else min (pc d) (lsz t d)
def cnt (t : Nat → Int32) (L : Nat) : Nat → Nat
  | 0 => 0
  | d + 1 => if ¬ t d = mI ∧ pc d = L then cnt t L d + 1 else cnt t L d
def tmn (t : Nat → Int32) (L : Nat) : Nat → Nat
  | 0 => 9
  | d + 1 => if ¬ t d = mI ∧ pc d = L then min (t d).toNatClampNeg (tmn t L d) else tmn t L d
def tok (t : Nat → Int32) : Prop := ∀ x, t x = mI ∨ ∃ q, q ≤ 9 ∧ t x = nI q
theorem tok_lt {t : Nat → Int32} (T : tok t) (x : Nat) : (t x < 0) ↔ t x = mI := by
  rcases T x with h | ⟨q, hq, h⟩
  · rw [h]; exact ⟨fun _ => rfl, fun _ => by decide⟩
  · rw [h]
    exact ⟨fun w => absurd w (nI_pos (by omega)), fun w => absurd (w ▸ nI_pos' (by omega) : (0 : Int32) ≤ mI) mI_neg⟩
theorem lsz_le {t : Nat → Int32} {x : Nat} (hx : ¬ t x = mI) : ∀ d, x < d → lsz t d ≤ pc x
  | 0, h => absurd h (Nat.not_lt_zero _)
  | d + 1, h => by
    rw [lsz]
    by_cases e : x = d
    · subst e
      rw [if_neg hx]; exact Nat.min_le_left _ _
    · have := lsz_le hx d (by omega)
      split <;> omega
theorem lsz_at {t : Nat → Int32} : ∀ d, lsz t d = 9 ∨ ∃ x, x < d ∧ fo t (lsz t d) x
  | 0 => Or.inl rfl
  | d + 1 => by
    rw [lsz]
    by_cases h : t d = mI
    · rw [if_pos h]
      rcases lsz_at (t := t) d with g | ⟨x, h1, h2⟩
      · exact Or.inl g
      · exact Or.inr ⟨x, by omega, h2⟩
    · rw [if_neg h]
      by_cases h2 : pc d ≤ lsz t d
      · rw [Nat.min_eq_left h2]; exact Or.inr ⟨d, by omega, h, rfl⟩
      · rw [Nat.min_eq_right (by omega)]
        rcases lsz_at (t := t) d with g | ⟨x, h1, h2⟩
        · exact Or.inl g
        · exact Or.inr ⟨x, by omega, h2⟩
theorem lsz_9 {t : Nat → Int32} : ∀ d, lsz t d ≤ 9
  | 0 => Nat.le_refl _
  | d + 1 => by
    have := lsz_9 (t := t) d
    rw [lsz]
    split <;> omega
theorem lsz_is {t : Nat → Int32} {L d x : Nat} (hx : x < d) (h1 : fo t L x) (h2 : ∀ y, y < d → ¬ t y = mI → L ≤ pc y) : lsz t d = L := by
  have a := lsz_le h1.1 d hx
  rw [h1.2] at a
  rcases lsz_at (t := t) d with h | ⟨y, hy, h⟩
  · have := pc_le x
    have := h1.2
    omega
  · have := h2 y hy h.1
    have := h.2
    omega
theorem cnt_out {t : Nat → Int32} {L a : Nat} (h : ∀ x, a ≤ x → t x = mI) : ∀ d, cnt t L (a + d) = cnt t L a
  | 0 => rfl
  | d + 1 => by
    show (if ¬ t (a + d) = mI ∧ pc (a + d) = L then _ else cnt t L (a + d)) = _
    rw [if_neg (fun q => q.1 (h _ (by omega)))]
    exact cnt_out h d
theorem tmn_out {t : Nat → Int32} {L a : Nat} (h : ∀ x, a ≤ x → t x = mI) : ∀ d, tmn t L (a + d) = tmn t L a
  | 0 => rfl
  | d + 1 => by
    show (if ¬ t (a + d) = mI ∧ pc (a + d) = L then _ else tmn t L (a + d)) = _
    rw [if_neg (fun q => q.1 (h _ (by omega)))]
    exact tmn_out h d
theorem cnt_0 {t : Nat → Int32} {L : Nat} : ∀ d, (∀ x, x < d → ¬ fo t L x) → cnt t L d = 0 ∧ tmn t L d = 9
  | 0, _ => ⟨rfl, rfl⟩
  | d + 1, h => by
    obtain ⟨h1, h2⟩ := cnt_0 d (fun x hx => h x (by omega))
    have := h d (by omega)
    exact ⟨(if_neg this).trans h1, (if_neg this).trans h2⟩
theorem cnt_le {t : Nat → Int32} {L : Nat} : ∀ d, cnt t L d ≤ d
  | 0 => Nat.le_refl _
  | d + 1 => by
    have := cnt_le (t := t) (L := L) d
    rw [cnt]
    split <;> omega
theorem tmn_le {t : Nat → Int32} {L : Nat} : ∀ d, tmn t L d ≤ 9
  | 0 => Nat.le_refl _
  | d + 1 => by
    have := tmn_le (t := t) (L := L) d
    rw [tmn]
    split <;> omega
section CL
variable {σ : zSt} {t : Nat → Int32} {al : Nat}
theorem fls_ok (h43 : σ 43 0 = nI al) (hal : al < 512) (h46 : ∀ x, x ≤ al → σ 46 x = t x) (T : tok t) : Fcg_leastSize σ = some (nI (lsz t (al + 1))) := by
  refine lup (fun n (q : Int32 × Int32) => Fcg_leastSize_c5 σ n q.1 q.2) (fun i => (nI (lsz t i), nI i)) (al + 1) (some (nI (lsz t (al + 1)))) (fun n => ?_) (fun n i hi => ?_) (al + 1) zF 0 (by omega) (zF_big (by omega))
  · show Fcg_leastSize_c5 σ (n + 1) (nI _) (nI (al + 1)) = _
    rw [Fcg_leastSize_c5, h43, if_pos (nI_lt (by omega) (by omega))]
  · show Fcg_leastSize_c5 σ (n + 1) (nI _) (nI i) = Fcg_leastSize_c5 σ n (nI _) (nI (i + 1))
    have hp := pc_le i
    have hl := lsz_9 (t := t) i
    rw [Fcg_leastSize_c5, h43, if_neg (nI_nlt (by omega) (by omega)), ld46 (by omega), h46 i (by omega), ob_some, nI_1, lsz]
    by_cases h : t i = mI
    · rw [if_pos ((tok_lt T i).mpr h), if_pos h]
    · rw [if_neg (fun q => h ((tok_lt T i).mp q)), if_neg h, Jdk_bitCount_ok (by omega), ob_some, zlet_ap]
      by_cases h2 : pc i < lsz t i
      · rw [if_pos (nI_lt h2 (by omega)), Nat.min_eq_left (by omega)]
      · rw [if_neg (nI_nlt (by omega) (by omega)), Nat.min_eq_right (by omega)]
theorem ffw_ok (h46 : ∀ x, x ≤ al → σ 46 x = t x) (hal : al < 512) (T : tok t) {L x : Nat} (hL : L ≤ 9) (hx : x ≤ al) : Fcg_forcesWith (nI x) (nI L) σ = some (if ¬ t x = mI ∧ pc x = L then 1 else 0) := by
  have hp := pc_le x
  unfold Fcg_forcesWith
  rw [ld46 (by omega), h46 x hx, ob_some]
  by_cases h : t x = mI
  · rw [if_pos ((tok_lt T x).mpr h), if_neg (fun q => q.1 h)]
  · rw [if_neg (fun q => h ((tok_lt T x).mp q)), Jdk_bitCount_ok (by omega), ob_some]
    by_cases h2 : pc x = L
    · rw [if_neg (fun q => q (by rw [h2])), if_pos ⟨h, h2⟩]
    · rw [if_pos (show ¬ nI (pc x) = nI L from fun q => h2 ((nI_inj (by omega) (by omega)).mp q)), if_neg (fun q => h2 q.2)]
theorem ffo_ok (h43 : σ 43 0 = nI al) (h46 : ∀ x, x ≤ al → σ 46 x = t x) (hal : al < 512) (T : tok t) {L f : Nat} (hL : L ≤ 9) (hf : f ≤ al) (h1 : fo t L f) (h2 : ∀ y, y < f → ¬ fo t L y) : Fcg_firstOf (nI L) σ = some (nI f) := by
  refine lup (fun n (q : Int32) => Fcg_firstOf_c2 σ n (nI L) q) (fun i => nI i) f (some (nI f)) (fun n => ?_) (fun n i hi => ?_) f zF 0 (by omega) (zF_big (by omega))
  · show Fcg_firstOf_c2 σ (n + 1) (nI L) (nI f) = _
    rw [Fcg_firstOf_c2, h43, if_neg (nI_nlt (by omega) (by omega)), ffw_ok h46 hal T hL hf, ob_some, if_pos (show ¬ t f = mI ∧ pc f = L from h1), if_neg i10]
  · show Fcg_firstOf_c2 σ (n + 1) (nI L) (nI i) = Fcg_firstOf_c2 σ n (nI L) (nI (i + 1))
    rw [Fcg_firstOf_c2, h43, if_neg (nI_nlt (by omega) (by omega)), ffw_ok h46 hal T hL (by omega), ob_some, if_neg (show ¬ (¬ t i = mI ∧ pc i = L) from h2 i hi), if_pos rfl, nI_1]
theorem fhm_ok (h43 : σ 43 0 = nI al) (h46 : ∀ x, x ≤ al → σ 46 x = t x) (hal : al < 512) (T : tok t) {L : Nat} (hL : L ≤ 9) : Fcg_howMany (nI L) σ = some (nI (cnt t L (al + 1))) := by
  refine lup (fun n (q : Int32 × Int32) => Fcg_howMany_c4 σ n (nI L) q.1 q.2) (fun i => (nI (cnt t L i), nI i)) (al + 1) (some (nI (cnt t L (al + 1)))) (fun n => ?_) (fun n i hi => ?_) (al + 1) zF 0 (by omega) (zF_big (by omega))
  · show Fcg_howMany_c4 σ (n + 1) (nI L) (nI _) (nI (al + 1)) = _
    rw [Fcg_howMany_c4, h43, if_pos (nI_lt (by omega) (by omega))]
  · show Fcg_howMany_c4 σ (n + 1) (nI L) (nI _) (nI i) = Fcg_howMany_c4 σ n (nI L) (nI _) (nI (i + 1))
    rw [Fcg_howMany_c4, h43, if_neg (nI_nlt (by omega) (by omega)), ffw_ok h46 hal T hL (by omega), ob_some, cnt]
    by_cases h : ¬ t i = mI ∧ pc i = L
    · rw [if_pos h, if_neg i10, nI_1, nI_1, if_pos h]
    · rw [if_neg h, if_pos rfl, nI_1, if_neg h]
theorem flt_ok (h43 : σ 43 0 = nI al) (h46 : ∀ x, x ≤ al → σ 46 x = t x) (hal : al < 512) (T : tok t) {L : Nat} (hL : L ≤ 9) : Fcg_leastTime (nI L) σ = some (nI (tmn t L (al + 1))) := by
  refine lup (fun n (q : Int32 × Int32) => Fcg_leastTime_c5 σ n (nI L) q.1 q.2) (fun i => (nI (tmn t L i), nI i)) (al + 1) (some (nI (tmn t L (al + 1)))) (fun n => ?_) (fun n i hi => ?_) (al + 1) zF 0 (by omega) (zF_big (by omega))
  · show Fcg_leastTime_c5 σ (n + 1) (nI L) (nI _) (nI (al + 1)) = _
    rw [Fcg_leastTime_c5, h43, if_pos (nI_lt (by omega) (by omega))]
  · show Fcg_leastTime_c5 σ (n + 1) (nI L) (nI _) (nI i) = Fcg_leastTime_c5 σ n (nI L) (nI _) (nI (i + 1))
    have hl := tmn_le (t := t) (L := L) i
    rw [Fcg_leastTime_c5, h43, if_neg (nI_nlt (by omega) (by omega)), ffw_ok h46 hal T hL (by omega), ob_some, tmn]
    by_cases h : ¬ t i = mI ∧ pc i = L
    · rcases T i with g | ⟨q, hq, g⟩
      · exact absurd g h.1
      · rw [if_pos h, if_neg i10, ld46 (by omega), h46 i (by omega), ob_some, zlet_ap, if_pos h, g, nI_clamp (by omega), nI_1]
        by_cases h2 : q < tmn t L i
        · rw [if_pos (nI_lt h2 (by omega)), Nat.min_eq_left (by omega)]
        · rw [if_neg (nI_nlt (by omega) (by omega)), Nat.min_eq_right (by omega)]
    · rw [if_neg h, if_pos rfl, nI_1, if_neg h]
end CL

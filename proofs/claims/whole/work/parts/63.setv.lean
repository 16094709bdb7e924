/-! PURE: the class sets a thing, and reads it -/
theorem xsv_ok {σ : zSt} {D : yD} {w i j : Nat} {v : Int32} (C : CN 1 2 3 4 6 D σ) (hi : i < 9) (hj : j < 9) (h : okv (dn D) w i j v) : ∃ σ2, Net_setValue (nI w) (nI i) (nI j) v σ = some σ2 ∧ CN 1 2 3 4 6 (upD D w i j v) σ2 ∧ ∀ a q, fC1 a q = false → σ2 a q = σ a q := by
  unfold Net_setValue
  rcases h with ⟨rfl, h1, h2, he⟩ | ⟨rfl, a, ha, rfl⟩ | ⟨rfl, a, ha, rfl⟩ | ⟨rfl, r, k, hr, hk1, hk2, rfl⟩ | ⟨rfl, p, hp, rfl⟩
  · obtain ⟨σ2, e, g⟩ := xsn_ok (v := v) C hi hj
    rw [if_pos (show nI 0 = 0 from rfl), e, ob_some]
    exact ⟨σ2, rfl, g⟩
  · obtain ⟨⟨c1, c2, c3, c4⟩, c5, c6, c7, c8⟩ := C
    rw [if_neg (show ¬ nI 1 = 0 by decide), if_pos (show nI 1 = 1 from rfl), st3 hi, ob_some]
    refine ⟨_, rfl, ⟨⟨?_, ?_, ?_, ?_⟩, fun x hx => ?_, fun x hx => ?_, fun x hx => ?_, fun x hx y hy => ?_⟩, fun b q hf => ?_⟩
    · rw [su_ap, if_neg (by omega)]; exact c1
    · rw [su_ap, if_neg (by omega)]; exact c2
    · rw [su_ap, if_neg (by omega)]; exact c3
    · rw [su_ap, if_neg (by omega)]; exact c4
    · rw [su_ap, if_neg (by omega)]; exact c5 x hx
    · show _ = nI (updN (dK D) i (nI a).toNatClampNeg x)
      unfold updN
      rw [su_ap, nI_clamp (by omega)]
      by_cases q : x = i
      · rw [if_pos ⟨rfl, q⟩, if_pos q]
      · rw [if_neg (fun w => q w.2), if_neg q]; exact c6 x hx
    · rw [su_ap, if_neg (by omega)]; exact c7 x hx
    · rw [su_ap, if_neg (by omega)]; exact c8 x hx y hy
    · rw [su_ap, if_neg]
      rintro ⟨rfl, _⟩; cases hf
  · obtain ⟨⟨c1, c2, c3, c4⟩, c5, c6, c7, c8⟩ := C
    rw [if_neg (show ¬ nI 2 = 0 by decide), if_neg (show ¬ nI 2 = 1 by decide), if_pos (show nI 2 = 2 from rfl), st4 hi, ob_some]
    refine ⟨_, rfl, ⟨⟨?_, ?_, ?_, ?_⟩, fun x hx => ?_, fun x hx => ?_, fun x hx => ?_, fun x hx y hy => ?_⟩, fun b q hf => ?_⟩
    · rw [su_ap, if_neg (by omega)]; exact c1
    · rw [su_ap, if_neg (by omega)]; exact c2
    · rw [su_ap, if_neg (by omega)]; exact c3
    · rw [su_ap, if_neg (by omega)]; exact c4
    · rw [su_ap, if_neg (by omega)]; exact c5 x hx
    · rw [su_ap, if_neg (by omega)]; exact c6 x hx
    · show _ = nI (updN (dC D) i (nI a).toNatClampNeg x)
      unfold updN
      rw [su_ap, nI_clamp (by omega)]
      by_cases q : x = i
      · rw [if_pos ⟨rfl, q⟩, if_pos q]
      · rw [if_neg (fun w => q w.2), if_neg q]; exact c7 x hx
    · rw [su_ap, if_neg (by omega)]; exact c8 x hx y hy
    · rw [su_ap, if_neg]
      rintro ⟨rfl, _⟩; cases hf
  · obtain ⟨⟨c1, c2, c3, c4⟩, c5, c6, c7, c8⟩ := C
    have e1 : zdvq (nI (10 * r + k)) 10 = some (nI ((nI (10 * r + k)).toNatClampNeg / 10)) := by
      have key : ∀ r, r < 5 → ∀ k, k < 5 → zdvq (nI (10 * r + k)) 10 = some (nI ((nI (10 * r + k)).toNatClampNeg / 10)) := by decide +kernel
      exact key r (by omega) k (by omega)
    have e2 : zrmq (nI (10 * r + k)) 10 = some (nI ((nI (10 * r + k)).toNatClampNeg % 10)) := by
      have key : ∀ r, r < 5 → ∀ k, k < 5 → zrmq (nI (10 * r + k)) 10 = some (nI ((nI (10 * r + k)).toNatClampNeg % 10)) := by decide +kernel
      exact key r (by omega) k (by omega)
    rw [if_neg (show ¬ nI 3 = 0 by decide), if_neg (show ¬ nI 3 = 1 by decide), if_neg (show ¬ nI 3 = 2 by decide), if_pos (show nI 3 = 3 from rfl), e1, ob_some, zlet_ap, e2, ob_some, zlet_ap]
    refine ⟨_, rfl, ⟨⟨?_, ?_, ?_, ?_⟩, fun x hx => ?_, fun x hx => ?_, fun x hx => ?_, fun x hx y hy => ?_⟩, fun b q hf => ?_⟩
    · rw [su_ap, if_neg (by omega), su_ap, if_neg (by omega)]; exact c1
    · rw [su_ap, if_neg (by omega), su_ap, if_pos ⟨rfl, rfl⟩]; rfl
    · rw [su_ap, if_pos ⟨rfl, rfl⟩]; rfl
    · rw [su_ap, if_neg (by omega), su_ap, if_neg (by omega)]; exact c4
    · rw [su_ap, if_neg (by omega), su_ap, if_neg (by omega)]; exact c5 x hx
    · rw [su_ap, if_neg (by omega), su_ap, if_neg (by omega)]; exact c6 x hx
    · rw [su_ap, if_neg (by omega), su_ap, if_neg (by omega)]; exact c7 x hx
    · rw [su_ap, if_neg (by omega), su_ap, if_neg (by omega)]; exact c8 x hx y hy
    · rw [su_ap, if_neg, su_ap, if_neg]
      · rintro ⟨rfl, _⟩; cases hf
      · rintro ⟨rfl, _⟩; cases hf
  · obtain ⟨⟨c1, c2, c3, c4⟩, c5, c6, c7, c8⟩ := C
    have hp31 : p ≤ 31 := by unfold prim at hp; omega
    rw [if_neg (show ¬ nI 4 = 0 by decide), if_neg (show ¬ nI 4 = 1 by decide), if_neg (show ¬ nI 4 = 2 by decide), if_neg (show ¬ nI 4 = 3 by decide), zlet_ap]
    refine ⟨_, rfl, ⟨⟨?_, ?_, ?_, ?_⟩, fun x hx => ?_, fun x hx => ?_, fun x hx => ?_, fun x hx y hy => ?_⟩, fun b q hf => ?_⟩
    · rw [su_ap, if_neg (by omega)]; exact c1
    · rw [su_ap, if_neg (by omega)]; exact c2
    · rw [su_ap, if_neg (by omega)]; exact c3
    · rw [su_ap, if_pos ⟨rfl, rfl⟩]
      show nI p = nI (nI p).toNatClampNeg
      rw [nI_clamp (by omega)]
    · rw [su_ap, if_neg (by omega)]; exact c5 x hx
    · rw [su_ap, if_neg (by omega)]; exact c6 x hx
    · rw [su_ap, if_neg (by omega)]; exact c7 x hx
    · rw [su_ap, if_neg (by omega)]; exact c8 x hx y hy
    · rw [su_ap, if_neg]
      rintro ⟨rfl, _⟩; cases hf
/-- what a thing is -/
def dv (D : yD) (w i j : Nat) : Int32 := if w = 0 then dT D i j else if w = 1 then nI (dK D i) else if w = 2 then nI (dC D i) else if w = 3 then nI (10 * dr D + dk D) else nI (dp D)
theorem dv_ok {D : yD} {w i j : Nat} (V : Vd D) (hw : w ≤ 4) (h : w = 0 → i < dn D ∧ j < dn D) : okv (dn D) w i j (dv D w i j) := by
  obtain ⟨v1, v2, v3, v4, v5, v6, v7, v8⟩ := V
  rcases (by omega : w = 0 ∨ w = 1 ∨ w = 2 ∨ w = 3 ∨ w = 4) with rfl | rfl | rfl | rfl | rfl
  · exact Or.inl ⟨rfl, (h rfl).1, (h rfl).2, v6 i j⟩
  · exact Or.inr (Or.inl ⟨rfl, dK D i, v7 i, rfl⟩)
  · exact Or.inr (Or.inr (Or.inl ⟨rfl, dC D i, v8 i, rfl⟩))
  · exact Or.inr (Or.inr (Or.inr (Or.inl ⟨rfl, dr D, dk D, v2.1, v2.2.1, v2.2.2, rfl⟩)))
  · exact Or.inr (Or.inr (Or.inr (Or.inr ⟨rfl, dp D, v3, rfl⟩)))
theorem xvo_ok {σ : zSt} {D : yD} {w i j : Nat} (C : CN 1 2 3 4 6 D σ) (hw : w ≤ 4) (hi : i < 9) (hj : j < 9) : Net_valueOf (nI w) (nI i) (nI j) σ = some (dv D w i j) := by
  obtain ⟨⟨c1, c2, c3, c4⟩, c5, c6, c7, c8⟩ := C
  unfold Net_valueOf
  rcases (by omega : w = 0 ∨ w = 1 ∨ w = 2 ∨ w = 3 ∨ w = 4) with rfl | rfl | rfl | rfl | rfl
  · rw [if_pos (show nI 0 = 0 from rfl), lr6 hi, ob_some, ldr6 hi hj, ob_some, c8 i hi j hj]
    rfl
  · rw [if_neg (show ¬ nI 1 = 0 by decide), if_pos (show nI 1 = 1 from rfl), ld3 hi, ob_some, c6 i hi]
    rfl
  · rw [if_neg (show ¬ nI 2 = 0 by decide), if_neg (show ¬ nI 2 = 1 by decide), if_pos (show nI 2 = 2 from rfl), ld4 hi, ob_some, c7 i hi]
    rfl
  · rw [if_neg (show ¬ nI 3 = 0 by decide), if_neg (show ¬ nI 3 = 1 by decide), if_neg (show ¬ nI 3 = 2 by decide), if_pos (show nI 3 = 3 from rfl), c2, c3, z_10, pk_mul, nI_add]
    rfl
  · rw [if_neg (show ¬ nI 4 = 0 by decide), if_neg (show ¬ nI 4 = 1 by decide), if_neg (show ¬ nI 4 = 2 by decide), if_neg (show ¬ nI 4 = 3 by decide), c4]
    rfl

/-! PURE: the reference lays a change, the class sets it -/
def fNet (a i : Nat) : Bool := fC1 a i || fM1 a i
theorem mly_ok {σ : zSt} {D : yD} {w i j : Nat} {v : Int32} (M : MN 3 4 5 6 76 77 78 D σ) (hw : w ≤ 4) (hi : i < 9) (hj : j < 9) (h : okv (dn D) w i j v) : ∃ σ2, M_lays (nI w) (nI (pl w i j)) v σ = some σ2 ∧ MN 3 4 5 6 76 77 78 (upD D w i j v) σ2 ∧ ∀ a q, fM1 a q = false → σ2 a q = σ a q := by
  obtain ⟨⟨m1, m2, m3, m4⟩, m5, m6, m7⟩ := M
  unfold M_lays
  rcases h with ⟨rfl, h1, h2, he⟩ | ⟨rfl, a, ha, rfl⟩ | ⟨rfl, a, ha, rfl⟩ | ⟨rfl, r, k, hr, hk1, hk2, rfl⟩ | ⟨rfl, p, hp, rfl⟩
  · have e1 : zrmq (nI (pl 0 i j)) 9 = some (nI j) := by
      have key : ∀ i, i < 9 → ∀ j, j < 9 → zrmq (nI (pl 0 i j)) 9 = some (nI j) := by decide +kernel
      exact key i hi j hj
    have e2 : zdvq (nI (pl 0 i j)) 9 = some (nI i) := by
      have key : ∀ i, i < 9 → ∀ j, j < 9 → zdvq (nI (pl 0 i j)) 9 = some (nI i) := by decide +kernel
      exact key i hi j hj
    have e3 : (9 : Int32) * nI j + nI i = nI (9 * j + i) := by rw [z_9, pk_mul, nI_add]
    rw [if_neg (show ¬ ¬ nI 0 = 0 from fun q => q rfl), e1, e2, show pl 0 i j = 9 * i + j from rfl, st76 (by omega), ob_some, ob_some, ob_some, e3, st76 (by omega), ob_some]
    refine ⟨_, rfl, ⟨⟨?_, ?_, ?_, ?_⟩, fun x hx y hy => ?_, fun x hx => ?_, fun x hx => ?_⟩, fun a q hf => ?_⟩
    · rw [su_ap, if_neg (by omega), su_ap, if_neg (by omega)]; exact m1
    · rw [su_ap, if_neg (by omega), su_ap, if_neg (by omega)]; exact m2
    · rw [su_ap, if_neg (by omega), su_ap, if_neg (by omega)]; exact m3
    · rw [su_ap, if_neg (by omega), su_ap, if_neg (by omega)]; exact m4
    · show _ = upT (dT D) i j v x y
      unfold upT
      rw [su_ap, su_ap]
      by_cases q : (x = i ∧ y = j) ∨ (x = j ∧ y = i)
      · rw [if_pos q]
        rcases q with q | q
        · by_cases q2 : 76 = 76 ∧ 9 * x + y = 9 * j + i
          · rw [if_pos q2]
          · rw [if_neg q2, if_pos (by omega)]
        · rw [if_pos (by omega)]
      · rw [if_neg q, if_neg (by omega), if_neg (by omega)]
        exact m5 x hx y hy
    · rw [su_ap, if_neg (by omega), su_ap, if_neg (by omega)]; exact m6 x hx
    · rw [su_ap, if_neg (by omega), su_ap, if_neg (by omega)]; exact m7 x hx
    · rw [su_ap, if_neg, su_ap, if_neg]
      · rintro ⟨rfl, _⟩; cases hf
      · rintro ⟨rfl, _⟩; cases hf
  · rw [if_pos (show ¬ nI 1 = 0 by decide), if_neg (show ¬ ¬ nI 1 = 1 from fun q => q rfl), show pl 1 i j = i from rfl, st77 hi, ob_some]
    refine ⟨_, rfl, ⟨⟨?_, ?_, ?_, ?_⟩, fun x hx y hy => ?_, fun x hx => ?_, fun x hx => ?_⟩, fun a q hf => ?_⟩
    · rw [su_ap, if_neg (by omega)]; exact m1
    · rw [su_ap, if_neg (by omega)]; exact m2
    · rw [su_ap, if_neg (by omega)]; exact m3
    · rw [su_ap, if_neg (by omega)]; exact m4
    · rw [su_ap, if_neg (by omega)]; exact m5 x hx y hy
    · show _ = nI (updN (dK D) i (nI a).toNatClampNeg x)
      unfold updN
      rw [su_ap, nI_clamp (by omega)]
      by_cases q : x = i
      · rw [if_pos ⟨rfl, q⟩, if_pos q]
      · rw [if_neg (fun w => q w.2), if_neg q]; exact m6 x hx
    · rw [su_ap, if_neg (by omega)]; exact m7 x hx
    · rw [su_ap, if_neg]
      rintro ⟨rfl, _⟩; cases hf
  · rw [if_pos (show ¬ nI 2 = 0 by decide), if_pos (show ¬ nI 2 = 1 by decide), if_neg (show ¬ ¬ nI 2 = 2 from fun q => q rfl), show pl 2 i j = i from rfl, st78 hi, ob_some]
    refine ⟨_, rfl, ⟨⟨?_, ?_, ?_, ?_⟩, fun x hx y hy => ?_, fun x hx => ?_, fun x hx => ?_⟩, fun a q hf => ?_⟩
    · rw [su_ap, if_neg (by omega)]; exact m1
    · rw [su_ap, if_neg (by omega)]; exact m2
    · rw [su_ap, if_neg (by omega)]; exact m3
    · rw [su_ap, if_neg (by omega)]; exact m4
    · rw [su_ap, if_neg (by omega)]; exact m5 x hx y hy
    · rw [su_ap, if_neg (by omega)]; exact m6 x hx
    · show _ = nI (updN (dC D) i (nI a).toNatClampNeg x)
      unfold updN
      rw [su_ap, nI_clamp (by omega)]
      by_cases q : x = i
      · rw [if_pos ⟨rfl, q⟩, if_pos q]
      · rw [if_neg (fun w => q w.2), if_neg q]; exact m7 x hx
    · rw [su_ap, if_neg]
      rintro ⟨rfl, _⟩; cases hf
  · have e1 : zdvq (nI (10 * r + k)) 10 = some (nI ((nI (10 * r + k)).toNatClampNeg / 10)) := by
      have key : ∀ r, r < 5 → ∀ k, k < 5 → zdvq (nI (10 * r + k)) 10 = some (nI ((nI (10 * r + k)).toNatClampNeg / 10)) := by decide +kernel
      exact key r (by omega) k (by omega)
    have e2 : zrmq (nI (10 * r + k)) 10 = some (nI ((nI (10 * r + k)).toNatClampNeg % 10)) := by
      have key : ∀ r, r < 5 → ∀ k, k < 5 → zrmq (nI (10 * r + k)) 10 = some (nI ((nI (10 * r + k)).toNatClampNeg % 10)) := by decide +kernel
      exact key r (by omega) k (by omega)
    rw [if_pos (show ¬ nI 3 = 0 by decide), if_pos (show ¬ nI 3 = 1 by decide), if_pos (show ¬ nI 3 = 2 by decide), if_neg (show ¬ ¬ nI 3 = 3 from fun q => q rfl), e1, ob_some, zlet_ap, e2, ob_some, zlet_ap]
    refine ⟨_, rfl, ⟨⟨?_, ?_, ?_, ?_⟩, fun x hx y hy => ?_, fun x hx => ?_, fun x hx => ?_⟩, fun a q hf => ?_⟩
    · rw [su_ap, if_neg (by omega), su_ap, if_neg (by omega)]; exact m1
    · rw [su_ap, if_neg (by omega), su_ap, if_pos ⟨rfl, rfl⟩]; rfl
    · rw [su_ap, if_pos ⟨rfl, rfl⟩]; rfl
    · rw [su_ap, if_neg (by omega), su_ap, if_neg (by omega)]; exact m4
    · rw [su_ap, if_neg (by omega), su_ap, if_neg (by omega)]; exact m5 x hx y hy
    · rw [su_ap, if_neg (by omega), su_ap, if_neg (by omega)]; exact m6 x hx
    · rw [su_ap, if_neg (by omega), su_ap, if_neg (by omega)]; exact m7 x hx
    · rw [su_ap, if_neg, su_ap, if_neg]
      · rintro ⟨rfl, rfl⟩; cases hf
      · rintro ⟨rfl, rfl⟩; cases hf
  · have hp31 : p ≤ 31 := by unfold prim at hp; omega
    rw [if_pos (show ¬ nI 4 = 0 by decide), if_pos (show ¬ nI 4 = 1 by decide), if_pos (show ¬ nI 4 = 2 by decide), if_pos (show ¬ nI 4 = 3 by decide), zlet_ap]
    refine ⟨_, rfl, ⟨⟨?_, ?_, ?_, ?_⟩, fun x hx y hy => ?_, fun x hx => ?_, fun x hx => ?_⟩, fun a q hf => ?_⟩
    · rw [su_ap, if_neg (by omega)]; exact m1
    · rw [su_ap, if_neg (by omega)]; exact m2
    · rw [su_ap, if_neg (by omega)]; exact m3
    · rw [su_ap, if_pos ⟨rfl, rfl⟩]
      show nI p = nI (nI p).toNatClampNeg
      rw [nI_clamp (by omega)]
    · rw [su_ap, if_neg (by omega)]; exact m5 x hx y hy
    · rw [su_ap, if_neg (by omega)]; exact m6 x hx
    · rw [su_ap, if_neg (by omega)]; exact m7 x hx
    · rw [su_ap, if_neg]
      rintro ⟨rfl, rfl⟩; cases hf

/-! PURE: a change told, on both sides -/
def tD (D : yD) (w i j : Nat) (v : Int32) : yD := if dv D w i j = v then D else upD D w i j v
def tHH (D : yD) (H : yH) (w i j : Nat) (v : Int32) : yH := if dv D w i j = v then H else tH H (w, i, j, dv D w i j, v)
theorem okv_n {n w i j : Nat} {v : Int32} (h : okv n w i j v) : w ≤ 4 ∧ (w = 0 → i < n ∧ j < n) := by
  rcases h with ⟨rfl, h1, h2, he⟩ | ⟨rfl, a, ha, rfl⟩ | ⟨rfl, a, ha, rfl⟩ | ⟨rfl, r, k, hr, hk1, hk2, rfl⟩ | ⟨rfl, p, hp, rfl⟩
  · exact ⟨by decide, fun _ => ⟨h1, h2⟩⟩
  · exact ⟨by decide, fun q => by cases q⟩
  · exact ⟨by decide, fun q => by cases q⟩
  · exact ⟨by decide, fun q => by cases q⟩
  · exact ⟨by decide, fun q => by cases q⟩
theorem tl_V {D : yD} {H : yH} {w i j : Nat} {v : Int32} (V : Vd D) (hv : HV (dn D) H) (hi : i < 9) (hj : j < 9) (h : okv (dn D) w i j v) : Vd (tD D w i j v) ∧ HV (dn (tD D w i j v)) (tHH D H w i j v) := by
  unfold tD tHH
  by_cases e : dv D w i j = v
  · rw [if_pos e, if_pos e]; exact ⟨V, hv⟩
  · rw [if_neg e, if_neg e, upD_n]
    exact ⟨upD_V V h, tH_V hv ⟨⟨(okv_n h).1, hi, hj⟩, dv_ok V (okv_n h).1 (okv_n h).2, h⟩⟩
theorem xtl_ok {D : yD} {H : yH} {w i j : Nat} {v : Int32} (hv : HV (dn D) H) (hi : i < 9) (hj : j < 9) (h : okv (dn D) w i j v) : XS (His_tell (nI w) (nI i) (nI j) v) D H (dv D w i j) (tD D w i j v) (tHH D H w i j v) := by
  rintro σ ⟨C, h12, ⟨x1, x2⟩, c, hp, hE⟩
  unfold His_tell tD tHH
  rw [xvo_ok C (okv_n h).1 hi hj, ob_some]
  by_cases e : dv D w i j = v
  · rw [if_neg (fun q => q e), if_pos e, if_pos e]
    exact ⟨σ, rfl, ⟨C, h12, ⟨x1, x2⟩, c, hp, hE⟩, fun _ _ _ => rfl⟩
  · rw [if_pos e, if_neg e, if_neg e, x1]
    unfold tH
    by_cases c12 : hd H < 12
    · rw [if_pos (show nI (hd H) < 12 from nI_lt (b := 12) c12 (by decide)), if_pos c12]
      exact xt33 C x1 c12 hp (fun q hq => hE q (by have := hv.1.1; omega)) hi hj h
    · rw [if_neg (show ¬ nI (hd H) < 12 from nI_nlt (b := 12) (by omega) (by have := hv.1; omega)), if_neg c12]
      obtain ⟨f2, e2, g1, g2⟩ := xde_ok hp.1
      rw [e2, ob_some]
      have eA : ∀ a q, a ≠ 30 → a ≠ 29 → su (sw σ 30 f2) 29 1 11 a q = σ a q := fun a q q1 q2 => by rw [su_ap, if_neg (fun z => q2 z.1), sw_ap, if_neg q1]
      obtain ⟨hp1, hp2⟩ := hp
      have hP : Hp (fun q => if q = 11 then c 0 else c (q + 1)) (su (sw σ 30 f2) 29 1 11) := by
        refine ⟨fun q hq => ?_, fun q q2 hq hq2 hc => ?_⟩
        · show su (sw σ 30 f2) 29 1 11 30 q = nI (if q = 11 then c 0 else c (q + 1)) ∧ 31 ≤ (if q = 11 then c 0 else c (q + 1)) ∧ (if q = 11 then c 0 else c (q + 1)) ≤ 42
          rw [su_ap, if_neg (by omega), sw_ap, if_pos rfl]
          by_cases z : q = 11
          · rw [if_pos z, z]; exact ⟨g2, (hp1 0 (by decide)).2⟩
          · rw [if_neg z]; exact ⟨g1 q (by omega), (hp1 (q + 1) (by omega)).2⟩
        · have hc2 : (if q = 11 then c 0 else c (q + 1)) = (if q2 = 11 then c 0 else c (q2 + 1)) := hc
          by_cases z : q = 11 <;> by_cases z2 : q2 = 11
          · omega
          · rw [if_pos z, if_neg z2] at hc2
            have := hp2 0 (q2 + 1) (by decide) (by omega) hc2
            omega
          · rw [if_neg z, if_pos z2] at hc2
            have := hp2 (q + 1) 0 (by omega) (by decide) hc2
            omega
          · rw [if_neg z, if_neg z2] at hc2
            have := hp2 (q + 1) (q2 + 1) (by omega) (by omega) hc2
            omega
      have hE2 : ∀ q, q < 11 → XE ((fun q => if q = 11 then c 0 else c (q + 1)) q) ((fun q => he H (q + 1)) q) (su (sw σ 30 f2) 29 1 11) := fun q hq => by
        show XE (if q = 11 then c 0 else c (q + 1)) (he H (q + 1)) _
        have hc := hp1 (q + 1) (by omega)
        rw [if_neg (by omega)]
        exact XE_sm (fun x => eA _ _ (by omega) (by omega)) (hE (q + 1) (by have := hv.1; omega))
      obtain ⟨σ2, a1, a2, a3⟩ := xt33 (σ := su (sw σ 30 f2) 29 1 11) (d := 11) (w := w) (i := i) (j := j) (v := v) (b := dv D w i j) (e := fun q => he H (q + 1)) (c := fun q => if q = 11 then c 0 else c (q + 1)) (CN1_sm (fun a q hf => eA a q (fun z => by subst z; cases hf) (fun z => by subst z; cases hf)) C) (by rw [su_ap, if_pos ⟨rfl, rfl⟩]; rfl) (by decide) hP hE2 hi hj h
      refine ⟨σ2, a1, a2, fun a q hf => ?_⟩
      have := fX_at hf
      rw [a3 a q hf, eA a q (by omega) (by omega)]
/-- the reference's rows of changes, moved by one place up to i -/
def Shf (σ0 : zSt) (i : Nat) (σ : zSt) : Prop := (∀ a, 79 ≤ a → a ≤ 82 → (∀ q, q < i → σ a q = σ0 a (q + 1)) ∧ ∀ q, i ≤ q → σ a q = σ0 a q) ∧ ∀ a q, (a < 79 ∨ 82 < a) → σ a q = σ0 a q
theorem Shf_s {σ0 σ : zSt} {i : Nat} {v1 v2 v3 v4 : Int32} (h : Shf σ0 i σ) (h1 : v1 = σ0 79 (i + 1)) (h2 : v2 = σ0 80 (i + 1)) (h3 : v3 = σ0 81 (i + 1)) (h4 : v4 = σ0 82 (i + 1)) : Shf σ0 (i + 1) (su (su (su (su σ 79 i v1) 80 i v2) 81 i v3) 82 i v4) := by
  refine ⟨fun a ha ha2 => ⟨fun q hq => ?_, fun q hq => ?_⟩, fun a q hq => ?_⟩
  · have hh := (h.1 a ha ha2).1 q
    by_cases z : q = i
    · subst z
      rcases (by omega : a = 79 ∨ a = 80 ∨ a = 81 ∨ a = 82) with rfl | rfl | rfl | rfl
      · simp [su_ap, h1]
      · simp [su_ap, h2]
      · simp [su_ap, h3]
      · simp [su_ap, h4]
    · rw [su_ap, if_neg (fun w => z w.2), su_ap, if_neg (fun w => z w.2), su_ap, if_neg (fun w => z w.2), su_ap, if_neg (fun w => z w.2)]
      exact hh (by omega)
  · have z : ¬ q = i := by omega
    rw [su_ap, if_neg (fun w => z w.2), su_ap, if_neg (fun w => z w.2), su_ap, if_neg (fun w => z w.2), su_ap, if_neg (fun w => z w.2)]
    exact (h.1 a ha ha2).2 q (by omega)
  · rw [su_ap, if_neg (by omega), su_ap, if_neg (by omega), su_ap, if_neg (by omega), su_ap, if_neg (by omega)]
    exact h.2 a q hq
theorem msh_loop {σ0 : zSt} {l1 l2 l3 l4 : Int32} : ∀ (d n i : Nat) (σ : zSt), i + d = 11 → d < n → Shf σ0 i σ → ∃ σ2, M_changes_c19 n l1 l2 l3 l4 (nI i) σ = M_changes_c106 l1 l2 l3 l4 (su σ2 75 11 (σ2 75 11 - 1)) ∧ Shf σ0 11 σ2
  | d, 0, i, σ, _, hm, _ => absurd hm (Nat.not_lt_zero _)
  | 0, m + 1, i, σ, hi, _, h => by
    obtain rfl : i = 11 := by omega
    exact ⟨σ, by rw [M_changes_c19, if_pos (show (11 : Int32) ≤ nI 11 by decide), zlet_ap], h⟩
  | d + 1, m + 1, i, σ, hi, hm, h => by
    have r : ∀ (τ : zSt) (a b q x : Nat) (v : Int32), b ≠ a → su τ a q v b x = τ b x := fun τ a b q x v z => by rw [su_ap, if_neg (fun w => z w.1)]
    have g := fun a h1 h2 => (h.1 a h1 h2).2 (i + 1) (by omega)
    rw [M_changes_c19, if_neg (show ¬ (11 : Int32) ≤ nI i from nI_ge (b := 11) (by omega) (by decide)), nI_1, ld79 (by omega), ob_some, st79 (by omega), ob_some, ld80 (by omega), ob_some, st80 (by omega), ob_some, ld81 (by omega), ob_some, st81 (by omega), ob_some, ld82 (by omega), ob_some, st82 (by omega), ob_some]
    refine msh_loop d m (i + 1) _ (by omega) (by omega) (Shf_s h ?_ ?_ ?_ ?_)
    · exact g 79 (by decide) (by decide)
    · rw [r _ _ _ _ _ _ (by decide)]; exact g 80 (by decide) (by decide)
    · rw [r _ _ _ _ _ _ (by decide), r _ _ _ _ _ _ (by decide)]; exact g 81 (by decide) (by decide)
    · rw [r _ _ _ _ _ _ (by decide), r _ _ _ _ _ _ (by decide), r _ _ _ _ _ _ (by decide)]; exact g 82 (by decide) (by decide)
theorem mc106 {σ : zSt} {D : yD} {w i j d : Nat} {v b : Int32} {e : Nat → yE} (M : MN 3 4 5 6 76 77 78 D σ) (h11 : σ 75 11 = nI d) (hd : d < 12) (hE : ∀ q, q < d → ME q (e q) σ) (hi : i < 9) (hj : j < 9) (h : okv (dn D) w i j v) : ∃ σ2, M_changes_c106 (nI w) (nI (pl w i j)) b v σ = some σ2 ∧ MI (upD D w i j v) (d + 1, d + 1, upE e d (w, i, j, b, v)) σ2 ∧ ∀ a q, fM a q = false → σ2 a q = σ a q := by
  have r : ∀ (τ : zSt) (a q : Nat) (v : Int32), a ≠ 75 → su τ a q v 75 11 = τ 75 11 := fun τ a q v z => by rw [su_ap, if_neg (fun w => z w.1.symm)]
  have eA : ∀ a q, a < 79 → (a = 75 → q ≠ 11 ∧ q ≠ 12) → su (su (su (su (su (su σ 79 d (nI w)) 80 d (nI (pl w i j))) 81 d b) 82 d v) 75 11 (nI (d + 1))) 75 12 0 a q = σ a q := fun a q h1 h2 => by
    rw [su_ap, if_neg (fun z => (h2 z.1).2 z.2), su_ap, if_neg (fun z => (h2 z.1).1 z.2), su_ap, if_neg (by omega), su_ap, if_neg (by omega), su_ap, if_neg (by omega), su_ap, if_neg (by omega)]
  have M2 : MN 3 4 5 6 76 77 78 D (su (su (su (su (su (su σ 79 d (nI w)) 80 d (nI (pl w i j))) 81 d b) 82 d v) 75 11 (nI (d + 1))) 75 12 0) := MN1_sm (fun a q hf => by
    unfold fM1 at hf
    simp only [zbl, zbq, Bool.or_eq_true, Bool.and_eq_true, decide_eq_true_eq] at hf
    exact eA a q (by omega) (by omega)) M
  obtain ⟨σ2, e1, M3, f3⟩ := mly_ok M2 (okv_n h).1 hi hj h
  refine ⟨σ2, ?_, ⟨M3, ⟨?_, ?_⟩, fun q hq => ?_⟩, fun a q hf => ?_⟩
  · unfold M_changes_c106
    rw [h11, st79 hd, ob_some, r _ _ _ _ (by decide), h11, st80 hd, ob_some, r _ _ _ _ (by decide), r _ _ _ _ (by decide), h11, st81 hd, ob_some, r _ _ _ _ (by decide), r _ _ _ _ (by decide), r _ _ _ _ (by decide), h11, st82 hd, ob_some, zlet_ap, r _ _ _ _ (by decide), r _ _ _ _ (by decide), r _ _ _ _ (by decide), r _ _ _ _ (by decide), h11, nI_1, zlet_ap, e1, ob_some]
  · rw [f3 _ _ rfl, su_ap, if_neg (by omega), su_ap, if_pos ⟨rfl, rfl⟩]; rfl
  · rw [f3 _ _ rfl, su_ap, if_pos ⟨rfl, rfl⟩]
    show (0 : Int32) = nI (d + 1 - (d + 1))
    rw [Nat.sub_self]; rfl
  · have hq2 : q < d + 1 := hq
    show ME q (upE e d (w, i, j, b, v) q) σ2
    unfold upE
    by_cases z : q = d
    · rw [if_pos z, z]
      refine ⟨?_, ?_, ?_, ?_⟩
      · rw [f3 _ _ rfl]; simp [su_ap, ew]
      · rw [f3 _ _ rfl]; simp [su_ap, ew, ei, ej]
      · rw [f3 _ _ rfl]; simp [su_ap, eb]
      · rw [f3 _ _ rfl]; simp [su_ap, ea]
    · rw [if_neg z]
      refine ME_sm (σ := σ) (fun a ha ha2 => ?_) (hE q (by omega))
      rw [f3 a q (f_no fun hf => by
        unfold fM1 at hf
        simp only [zbl, zbq, Bool.or_eq_true, Bool.and_eq_true, decide_eq_true_eq] at hf
        omega), su_ap, if_neg (by omega), su_ap, if_neg (by omega), su_ap, if_neg (fun z2 => z z2.2), su_ap, if_neg (fun z2 => z z2.2), su_ap, if_neg (fun z2 => z z2.2), su_ap, if_neg (fun z2 => z z2.2)]
  · have := fM_at hf
    rw [f3 a q (fM_N hf), su_ap, if_neg (by omega), su_ap, if_neg (by omega), su_ap, if_neg (by omega), su_ap, if_neg (by omega), su_ap, if_neg (by omega), su_ap, if_neg (by omega)]
theorem mtl_ok {D : yD} {H : yH} {w i j : Nat} {v : Int32} (hv : HV (dn D) H) (hi : i < 9) (hj : j < 9) (h : okv (dn D) w i j v) : ∀ σ, MI D H σ → ∃ σ2, M_changes (nI w) (nI (pl w i j)) (dv D w i j) v σ = some σ2 ∧ MI (tD D w i j v) (tHH D H w i j v) σ2 ∧ ∀ a q, fM a q = false → σ2 a q = σ a q := by
  rintro σ ⟨M, ⟨m1, m2⟩, hE⟩
  unfold M_changes tD tHH
  by_cases e : dv D w i j = v
  · rw [if_neg (fun q => q e), if_pos e, if_pos e]
    exact ⟨σ, rfl, ⟨M, ⟨m1, m2⟩, hE⟩, fun _ _ _ => rfl⟩
  · rw [if_pos e, if_neg e, if_neg e, m1]
    unfold tH
    have h1 := hv.1
    by_cases c12 : hd H < 12
    · rw [if_pos (show ¬ nI (hd H) = 12 from fun q => by have := (nI_inj (b := 12) (by omega) (by decide)).mp q; omega), if_pos c12]
      exact mc106 M m1 c12 (fun q hq => hE q (by omega)) hi hj h
    · have e12 : hd H = 12 := by omega
      rw [if_neg (fun q => q (by rw [e12]; rfl)), if_neg c12]
      obtain ⟨σ2, e2, g1, g2⟩ := msh_loop (σ0 := σ) (l1 := nI w) (l2 := nI (pl w i j)) (l3 := dv D w i j) (l4 := v) 11 zF 0 σ rfl (zF_big (by decide)) ⟨fun a _ _ => ⟨fun q hq => absurd hq (Nat.not_lt_zero _), fun q _ => rfl⟩, fun a q _ => rfl⟩
      rw [show (0 : Int32) = nI 0 from rfl, e2]
      have h11 : σ2 75 11 - 1 = nI 11 := by rw [g2 75 11 (by omega), m1, e12]; rfl
      rw [h11]
      have eA : ∀ a q, (a < 79 ∨ 82 < a) → (a = 75 → q ≠ 11) → su σ2 75 11 (nI 11) a q = σ a q := fun a q q1 q2 => by
        rw [su_ap, if_neg (fun z => q2 z.1 z.2)]; exact g2 a q q1
      have hE2 : ∀ q, q < 11 → ME q ((fun q => he H (q + 1)) q) (su σ2 75 11 (nI 11)) := fun q hq => by
        obtain ⟨k1, k2, k3, k4⟩ := hE (q + 1) (by omega)
        have eB : ∀ a, 79 ≤ a → a ≤ 82 → su σ2 75 11 (nI 11) a q = σ a (q + 1) := fun a ha ha2 => by
          rw [su_ap, if_neg (by omega)]; exact (g1 a ha ha2).1 q hq
        exact ⟨(eB 79 (by decide) (by decide)).trans k1, (eB 80 (by decide) (by decide)).trans k2, (eB 81 (by decide) (by decide)).trans k3, (eB 82 (by decide) (by decide)).trans k4⟩
      obtain ⟨σ3, a1, a2, a3⟩ := mc106 (σ := su σ2 75 11 (nI 11)) (d := 11) (w := w) (i := i) (j := j) (v := v) (b := dv D w i j) (e := fun q => he H (q + 1)) (MN1_sm (fun a q hf => by
        unfold fM1 at hf
        simp only [zbl, zbq, Bool.or_eq_true, Bool.and_eq_true, decide_eq_true_eq] at hf
        exact eA a q (by omega) (by omega)) M) (by rw [su_ap, if_pos ⟨rfl, rfl⟩]) (by decide) hE2 hi hj h
      refine ⟨σ3, a1, a2, fun a q hf => ?_⟩
      have := fM_at hf
      rw [a3 a q hf, eA a q (by omega) (by omega)]

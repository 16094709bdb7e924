/-! PURE: the reference passes a text -/
def FRm (σ σ2 : zSt) : Prop := ∀ a q, ¬ (a = 75 ∧ (q = 29 ∨ q = 30 ∨ q = 34)) → ¬ (92 ≤ a ∧ a ≤ 94) → σ2 a q = σ a q
theorem FRm_t {σ σ2 σ3 : zSt} (h : FRm σ σ2) (h2 : FRm σ2 σ3) : FRm σ σ3 := fun a q g1 g2 => (h2 a q g1 g2).trans (h a q g1 g2)
theorem TM_fr {m : Nat} {b : Nat → Nat} {σ σ2 : zSt} (h : FRm σ σ2) (M : TM m b σ) : TM m b σ2 := ⟨(h 75 28 (by omega) (by omega)).trans M.1, fun i hi => (h 91 i (by omega) (by omega)).trans (M.2 i hi)⟩
theorem TM_su {m a q : Nat} {b : Nat → Nat} {σ : zSt} {v : Int32} (h1 : ¬ (a = 75 ∧ q = 28)) (h2 : a ≠ 91) (M : TM m b σ) : TM m b (su σ a q v) := ⟨by rw [su_ap, if_neg (by omega)]; exact M.1, fun i hi => by rw [su_ap, if_neg (fun w => h2 w.1.symm)]; exact M.2 i hi⟩
theorem k75 (t : Int32) (h : zbo t = true) : (Nat.beq (zkd 75) 11 && zbo t) = true := by
  rw [show Nat.beq (zkd 75) 11 = true from rfl, h]
  rfl
theorem mnu_ok {σ : zSt} {m i : Nat} {b : Nat → Nat} (B : BV m b) (M : TM m b σ) (h : σ 75 29 = nI i) (hi : i < 900) : M_number σ = some (if fgr m b i = true then (nI (nvl m b i), su (su σ 75 30 0) 75 29 (nI (nel m b i))) else (0, su σ 75 30 1)) := by
  have hB := B.1
  have r : ∀ (τ : zSt) (v : Int32), su τ 75 29 v 75 29 = v := fun τ v => by rw [su_ap, if_pos ⟨rfl, rfl⟩]
  have r0 : ∀ (v : Int32), su σ 75 30 v 75 29 = nI i := fun v => by rw [su_ap, if_neg (by omega)]; exact h
  have M0 : ∀ v, TM m b (su σ 75 30 v) := fun v => TM_su (by omega) (by decide) M
  unfold M_number M_number_c15
  rw [mfi_ok B M h (by omega), ob_some]
  by_cases e : fgr m b i = true
  · have g := fgr_at e
    have d1 : (10 : Int32) * nI 0 + nI (b i) - 48 = nI (b i - 48) := by
      have := dig (v := 0) g.2.1
      rw [Nat.mul_zero, Nat.zero_add] at this
      exact this
    have hbi : bt m b i = nI (b i) := if_pos g.1
    rw [if_pos e, if_pos (fun q => ((b01_0 _).mp q) e), k75 0 rfl, cond_true, zlet_ap]
    show M_number_c20 (4093 + 3) (nI 0) (nI 0) _ = _
    rw [M_number_c20, if_neg (show ¬ (2 : Int32) ≤ nI 0 by decide), mfi_ok B (M0 0) (r0 0) (by omega), ob_some, if_neg (fun q => ((b01_0 _).mp q) e), mhe_ok B (M0 0) (r0 0) (by omega), ob_some, r0, nI_1, zlet_ap, hbi, d1, nI_1]
    rw [M_number_c20, if_neg (show ¬ (2 : Int32) ≤ nI (0 + 1) by decide), mfi_ok B (TM_su (by omega) (by decide) (M0 0)) (r _ _) (by omega), ob_some]
    unfold nvl nel
    by_cases e2 : fgr m b (i + 1) = true
    · have g2 := fgr_at e2
      have hb2 : bt m b (i + 1) = nI (b (i + 1)) := if_pos g2.1
      rw [if_pos e2, if_pos e2, if_neg (fun q => ((b01_0 _).mp q) e2), mhe_ok B (TM_su (by omega) (by decide) (M0 0)) (r _ _) (by omega), ob_some, r, nI_1, zlet_ap, hb2, dig g2.2.1, nI_1, su_su]
      rw [M_number_c20, if_pos (show (2 : Int32) ≤ nI (0 + 1 + 1) by decide)]
    · rw [if_neg e2, if_neg e2, if_pos ((b01_0 _).mpr e2)]
  · rw [if_neg e, if_neg (fun q => q ((b01_0 _).mpr e)), k75 1 rfl, cond_true, zlet_ap]
    show M_number_c20 (4095 + 1) 0 0 _ = _
    rw [M_number_c20, if_neg (show ¬ (2 : Int32) ≤ 0 by decide), mfi_ok B (M0 1) (r0 1) (by omega), ob_some, if_pos ((b01_0 _).mpr e)]
/-- the k-th act, as the reference keeps it -/
def AE (m : Nat) (b : Nat → Nat) (σ : zSt) (k i : Nat) : Prop := σ 92 k = nI (b i) ∧ σ 93 k = nI (nvl m b (i + 1)) ∧ σ 94 k = nI (v2l m b i)
theorem mac_ok {σ : zSt} {m i k : Nat} {b : Nat → Nat} (B : BV m b) (M : TM m b σ) (h29 : σ 75 29 = nI i) (h34 : σ 75 34 = nI k) (hi : i < 800) (hk : k < 80) : ∃ σ2, M_act σ = some σ2 ∧ σ2 75 29 = nI (pac m b i).2 ∧ σ2 75 30 = b01 (!(pac m b i).1) ∧ ((pac m b i).1 = true → σ2 75 34 = nI (k + 1) ∧ AE m b σ2 k i) ∧ (∀ a j, 92 ≤ a → a ≤ 94 → j ≠ k → σ2 a j = σ a j) ∧ FRm σ σ2 := by
  have hl := lni_le (m := m) (i := i) (b := b)
  have hb1 := nel_b (m := m) (b := b) (i := i + 1)
  obtain ⟨o1, o2⟩ := mon_ok (σ := σ) (i := i) B
  have fr0 : ∀ (τ : zSt) (a q : Nat) (v : Int32), ((a = 75 ∧ (q = 29 ∨ q = 30 ∨ q = 34)) ∨ (92 ≤ a ∧ a ≤ 94)) → FRm τ (su τ a q v) := fun τ a q v hh a2 q2 g1 g2 => by rw [su_ap, if_neg (by omega)]
  unfold M_act
  rw [mhe_ok B M h29 (by omega), ob_some, o1, ob_some]
  by_cases h1 : lni m b i = 0
  · rw [if_neg (fun q => q (by rw [decide_eq_false (by omega)]; rfl)), o2, ob_some, if_neg (fun q => q (by rw [decide_eq_false (by omega)]; rfl))]
    have ep : pac m b i = (false, i) := by unfold pac; rw [if_pos h1]
    refine ⟨su σ 75 30 1, ?_, ?_, ?_, ?_, ?_, fr0 _ _ _ _ (by omega)⟩
    · unfold M_act_c25
      rw [k75 1 rfl, cond_true, zlet_ap, show su σ 75 30 1 75 30 = 1 by rw [su_ap, if_pos ⟨rfl, rfl⟩], if_neg (show ¬ (1 : Int32) = 0 by decide)]
    · rw [ep, su_ap, if_neg (by omega)]; exact h29
    · rw [ep, su_ap, if_pos ⟨rfl, rfl⟩]; rfl
    · rw [ep]; intro q; cases q
    · intro a j g1 g2 g3; rw [su_ap, if_neg (by omega)]
  -- a letter
  have him : i < m := by
    refine Nat.not_le.mp fun q => h1 ?_
    unfold lni
    rw [if_neg (by omega)]
  have hbi : bt m b i = nI (b i) := if_pos him
  have e25 : M_act_c25 (bt m b i) 0 σ = (zb2 (M_number (su (su (su σ 75 30 0) 75 29 (nI (i + 1))) 92 k (nI (b i)))) fun v9 σ10 => (zst σ10 93 (nI k) v9).bind fun σ11 => (zst σ11 94 (σ11 75 34) 0).bind fun σ12 => if ¬ (σ12 75 30) = 0 then (M_act_c141 σ12) else ((M_isTwo (bt m b i) σ12).bind fun v13 => if v13 = 0 then (M_act_c141 σ12) else ((M_here σ12).bind fun v14 => if v14 = 44 then (M_act_c108 0 σ12) else (M_act_c108 1 σ12)))) := by
    have a1 : su σ 75 30 0 75 30 = 0 := by rw [su_ap, if_pos ⟨rfl, rfl⟩]
    have a2 : su σ 75 30 0 75 29 = nI i := by rw [su_ap, if_neg (by omega)]; exact h29
    have a3 : su (su σ 75 30 0) 75 29 (nI (i + 1)) 75 34 = nI k := by rw [su_ap, if_neg (by omega), su_ap, if_neg (by omega)]; exact h34
    have a4 : su (su (su σ 75 30 0) 75 29 (nI (i + 1))) 92 k (nI (b i)) 75 34 = nI k := by rw [su_ap, if_neg (by omega)]; exact a3
    unfold M_act_c25
    rw [k75 0 rfl, cond_true, zlet_ap, a1, if_pos rfl, a2, nI_1, zlet_ap, a3, st92 hk, ob_some, hbi, a4]
  have eact : (if ¬ b01 (decide (lni m b i = 1)) = 0 then M_act_c24 (bt m b i) σ else (M_isTwo (bt m b i) σ).bind fun v3 => if ¬ v3 = 0 then M_act_c24 (bt m b i) σ else M_act_c25 (bt m b i) 1 σ) = M_act_c25 (bt m b i) 0 σ := by
    by_cases h3 : lni m b i = 1
    · rw [if_pos (by rw [decide_eq_true h3]; decide)]; rfl
    · rw [if_neg (fun q => q (by rw [decide_eq_false h3]; rfl)), o2, ob_some, if_pos (by rw [decide_eq_true (by omega)]; decide)]; rfl
  rw [eact, e25]
  have M8 : TM m b (su (su (su σ 75 30 0) 75 29 (nI (i + 1))) 92 k (nI (b i))) := TM_su (by omega) (by decide) (TM_su (by omega) (by decide) (TM_su (by omega) (by decide) M))
  have h8 : su (su (su σ 75 30 0) 75 29 (nI (i + 1))) 92 k (nI (b i)) 75 29 = nI (i + 1) := by rw [su_ap, if_neg (by omega), su_ap, if_pos ⟨rfl, rfl⟩]
  have F8 : FRm σ (su (su (su σ 75 30 0) 75 29 (nI (i + 1))) 92 k (nI (b i))) := FRm_t (FRm_t (fr0 _ _ _ _ (by omega)) (fr0 _ _ _ _ (by omega))) (fr0 _ _ _ _ (by omega))
  have r34 : su (su (su σ 75 30 0) 75 29 (nI (i + 1))) 92 k (nI (b i)) 75 34 = nI k := by rw [su_ap, if_neg (by omega), su_ap, if_neg (by omega), su_ap, if_neg (by omega)]; exact h34
  have r92 : su (su (su σ 75 30 0) 75 29 (nI (i + 1))) 92 k (nI (b i)) 92 k = nI (b i) := by rw [su_ap, if_pos ⟨rfl, rfl⟩]
  have ro : ∀ a j, 92 ≤ a → a ≤ 94 → j ≠ k → su (su (su σ 75 30 0) 75 29 (nI (i + 1))) 92 k (nI (b i)) a j = σ a j := fun a j g1 g2 g3 => by rw [su_ap, if_neg (by omega), su_ap, if_neg (by omega), su_ap, if_neg (by omega)]
  generalize su (su (su σ 75 30 0) 75 29 (nI (i + 1))) 92 k (nI (b i)) = τ at *
  rw [mnu_ok B M8 h8 (by omega)]
  by_cases h2 : fgr m b (i + 1) = true
  · rw [if_pos h2, zb2_sm]
    have a1 : ∀ v w : Int32, su (su (su (su τ 75 30 0) 75 29 v) 93 k w) 94 k 0 75 34 = nI k := fun v w => by rw [su_ap, if_neg (by omega), su_ap, if_neg (by omega), su_ap, if_neg (by omega), su_ap, if_neg (by omega)]; exact r34
    have a2 : ∀ v w : Int32, su (su (su τ 75 30 0) 75 29 v) 93 k w 75 34 = nI k := fun v w => by rw [su_ap, if_neg (by omega), su_ap, if_neg (by omega), su_ap, if_neg (by omega)]; exact r34
    have a3 : ∀ v w : Int32, su (su (su (su τ 75 30 0) 75 29 v) 93 k w) 94 k 0 75 30 = 0 := fun v w => by rw [su_ap, if_neg (by omega), su_ap, if_neg (by omega), su_ap, if_neg (by omega), su_ap, if_pos ⟨rfl, rfl⟩]
    have a4 : ∀ v w : Int32, su (su (su (su τ 75 30 0) 75 29 v) 93 k w) 94 k 0 75 29 = v := fun v w => by rw [su_ap, if_neg (by omega), su_ap, if_neg (by omega), su_ap, if_pos ⟨rfl, rfl⟩]
    have M12 : ∀ v w : Int32, TM m b (su (su (su (su τ 75 30 0) 75 29 v) 93 k w) 94 k 0) := fun v w => TM_su (by omega) (by decide) (TM_su (by omega) (by decide) (TM_su (by omega) (by decide) (TM_su (by omega) (by decide) M8)))
    have F12 : ∀ v w : Int32, FRm τ (su (su (su (su τ 75 30 0) 75 29 v) 93 k w) 94 k 0) := fun v w => FRm_t (FRm_t (FRm_t (fr0 _ _ _ _ (by omega)) (fr0 _ _ _ _ (by omega))) (fr0 _ _ _ _ (by omega))) (fr0 _ _ _ _ (by omega))
    have o12 : ∀ v w : Int32, ∀ a j, 92 ≤ a → a ≤ 94 → j ≠ k → su (su (su (su τ 75 30 0) 75 29 v) 93 k w) 94 k 0 a j = σ a j := fun v w a j g1 g2 g3 => by rw [su_ap, if_neg (by omega), su_ap, if_neg (by omega), su_ap, if_neg (by omega), su_ap, if_neg (by omega)]; exact ro a j g1 g2 g3
    have e12 : ∀ v w : Int32, su (su (su (su τ 75 30 0) 75 29 v) 93 k w) 94 k 0 92 k = nI (b i) ∧ su (su (su (su τ 75 30 0) 75 29 v) 93 k w) 94 k 0 93 k = w ∧ su (su (su (su τ 75 30 0) 75 29 v) 93 k w) 94 k 0 94 k = 0 := fun v w => ⟨by rw [su_ap, if_neg (by omega), su_ap, if_neg (by omega), su_ap, if_neg (by omega), su_ap, if_neg (by omega)]; exact r92, by rw [su_ap, if_neg (by omega), su_ap, if_pos ⟨rfl, rfl⟩], by rw [su_ap, if_pos ⟨rfl, rfl⟩]⟩
    rw [st93 hk, ob_some, a2, st94 hk, ob_some, a3, if_neg (fun q => q rfl), (mon_ok B).2, ob_some]
    have M12' := M12 (nI (nel m b (i + 1))) (nI (nvl m b (i + 1)))
    have F12' := F12 (nI (nel m b (i + 1))) (nI (nvl m b (i + 1)))
    have o12' := o12 (nI (nel m b (i + 1))) (nI (nvl m b (i + 1)))
    have e12' := e12 (nI (nel m b (i + 1))) (nI (nvl m b (i + 1)))
    have a1' := a1 (nI (nel m b (i + 1))) (nI (nvl m b (i + 1)))
    have a3' := a3 (nI (nel m b (i + 1))) (nI (nvl m b (i + 1)))
    have a4' := a4 (nI (nel m b (i + 1))) (nI (nvl m b (i + 1)))
    generalize su (su (su (su τ 75 30 0) 75 29 (nI (nel m b (i + 1)))) 93 k (nI (nvl m b (i + 1)))) 94 k 0 = υ at *
    have Fυ : FRm σ υ := FRm_t F8 F12'
    have nf : ¬ fgr m b (i + 1) = false := fun q => by rw [h2] at q; cases q
    by_cases h3 : lni m b i = 1
    · have ep : pac m b i = (true, nel m b (i + 1)) := by unfold pac; rw [if_neg h1, if_neg nf, if_pos h3]
      rw [if_pos (by rw [decide_eq_false (by omega)]; rfl)]
      refine ⟨su υ 75 34 (nI (k + 1)), ?_, ?_, ?_, fun _ => ⟨?_, ?_, ?_, ?_⟩, ?_, FRm_t Fυ (fr0 _ _ _ _ (by omega))⟩
      · unfold M_act_c141; rw [a1', nI_1, zlet_ap]
      · rw [ep, su_ap, if_neg (by omega)]; exact a4'
      · rw [ep, su_ap, if_neg (by omega)]; exact a3'
      · rw [su_ap, if_pos ⟨rfl, rfl⟩]
      · rw [su_ap, if_neg (by omega)]; exact e12'.1
      · rw [su_ap, if_neg (by omega)]; exact e12'.2.1
      · rw [su_ap, if_neg (by omega), e12'.2.2]; unfold v2l; rw [if_neg (by omega)]; rfl
      · intro a j g1 g2 g3; rw [su_ap, if_neg (by omega)]; exact o12' a j g1 g2 g3
    · rw [if_neg (by rw [decide_eq_true (by omega)]; decide), mhe_ok B M12' a4' (by omega), ob_some]
      by_cases h4 : bt m b (nel m b (i + 1)) = 44
      · rw [if_pos h4]
        have c1 : su υ 75 30 0 = υ := su_id a3'
        have M21 : TM m b (su υ 75 29 (nI (nel m b (i + 1) + 1))) := TM_su (by omega) (by decide) M12'
        have e108 : M_act_c108 0 υ = zb2 (M_number (su υ 75 29 (nI (nel m b (i + 1) + 1)))) fun v22 σ23 => (zst σ23 94 (nI k) v22).bind fun σ24 => M_act_c141 σ24 := by
          unfold M_act_c108
          rw [k75 0 rfl, cond_true, zlet_ap, c1, a3', if_neg (fun q => q rfl), a4', nI_1, zlet_ap, show su υ 75 29 (nI (nel m b (i + 1) + 1)) 75 34 = nI k by rw [su_ap, if_neg (by omega)]; exact a1']
        rw [e108, mnu_ok (i := nel m b (i + 1) + 1) B M21 (by rw [su_ap, if_pos ⟨rfl, rfl⟩]) (by omega)]
        by_cases h5 : fgr m b (nel m b (i + 1) + 1) = true
        · have nf2 : ¬ fgr m b (nel m b (i + 1) + 1) = false := fun q => by rw [h5] at q; cases q
          have ep : pac m b i = (true, nel m b (nel m b (i + 1) + 1)) := by unfold pac; rw [if_neg h1, if_neg nf, if_neg h3, if_neg (fun q => q h4), if_neg nf2]
          rw [if_pos h5, zb2_sm, st94 hk, ob_some]
          refine ⟨su (su (su (su (su υ 75 29 (nI (nel m b (i + 1) + 1))) 75 30 0) 75 29 (nI (nel m b (nel m b (i + 1) + 1)))) 94 k (nI (nvl m b (nel m b (i + 1) + 1)))) 75 34 (nI (k + 1)), ?_, ?_, ?_, fun _ => ⟨?_, ?_, ?_, ?_⟩, ?_, FRm_t (FRm_t (FRm_t (FRm_t (FRm_t Fυ (fr0 _ _ _ _ (by omega))) (fr0 _ _ _ _ (by omega))) (fr0 _ _ _ _ (by omega))) (fr0 _ _ _ _ (by omega))) (fr0 _ _ _ _ (by omega))⟩
          · unfold M_act_c141
            rw [show su (su (su (su υ 75 29 (nI (nel m b (i + 1) + 1))) 75 30 0) 75 29 (nI (nel m b (nel m b (i + 1) + 1)))) 94 k (nI (nvl m b (nel m b (i + 1) + 1))) 75 34 = nI k by rw [su_ap, if_neg (by omega), su_ap, if_neg (by omega), su_ap, if_neg (by omega), su_ap, if_neg (by omega)]; exact a1', nI_1, zlet_ap]
          · rw [ep, su_ap, if_neg (by omega), su_ap, if_neg (by omega), su_ap, if_pos ⟨rfl, rfl⟩]
          · rw [ep, su_ap, if_neg (by omega), su_ap, if_neg (by omega), su_ap, if_neg (by omega), su_ap, if_pos ⟨rfl, rfl⟩]; rfl
          · rw [su_ap, if_pos ⟨rfl, rfl⟩]
          · rw [su_ap, if_neg (by omega), su_ap, if_neg (by omega), su_ap, if_neg (by omega), su_ap, if_neg (by omega), su_ap, if_neg (by omega)]; exact e12'.1
          · rw [su_ap, if_neg (by omega), su_ap, if_neg (by omega), su_ap, if_neg (by omega), su_ap, if_neg (by omega), su_ap, if_neg (by omega)]; exact e12'.2.1
          · rw [su_ap, if_neg (by omega), su_ap, if_pos ⟨rfl, rfl⟩]; unfold v2l; rw [if_pos (by omega)]
          · intro a j g1 g2 g3
            rw [su_ap, if_neg (by omega), su_ap, if_neg (by omega), su_ap, if_neg (by omega), su_ap, if_neg (by omega), su_ap, if_neg (by omega)]; exact o12' a j g1 g2 g3
        · have ep : pac m b i = (false, nel m b (i + 1) + 1) := by unfold pac; rw [if_neg h1, if_neg nf, if_neg h3, if_neg (fun q => q h4), if_pos (bt' h5)]
          rw [if_neg h5, zb2_sm, st94 hk, ob_some]
          refine ⟨su (su (su (su υ 75 29 (nI (nel m b (i + 1) + 1))) 75 30 1) 94 k 0) 75 34 (nI (k + 1)), ?_, ?_, ?_, ?_, ?_, FRm_t (FRm_t (FRm_t (FRm_t Fυ (fr0 _ _ _ _ (by omega))) (fr0 _ _ _ _ (by omega))) (fr0 _ _ _ _ (by omega))) (fr0 _ _ _ _ (by omega))⟩
          · unfold M_act_c141
            rw [show su (su (su υ 75 29 (nI (nel m b (i + 1) + 1))) 75 30 1) 94 k 0 75 34 = nI k by rw [su_ap, if_neg (by omega), su_ap, if_neg (by omega), su_ap, if_neg (by omega)]; exact a1', nI_1, zlet_ap]
          · rw [ep, su_ap, if_neg (by omega), su_ap, if_neg (by omega), su_ap, if_neg (by omega), su_ap, if_pos ⟨rfl, rfl⟩]
          · rw [ep, su_ap, if_neg (by omega), su_ap, if_neg (by omega), su_ap, if_pos ⟨rfl, rfl⟩]; rfl
          · rw [ep]; intro q; cases q
          · intro a j g1 g2 g3
            rw [su_ap, if_neg (by omega), su_ap, if_neg (by omega), su_ap, if_neg (by omega), su_ap, if_neg (by omega)]; exact o12' a j g1 g2 g3
      · have ep : pac m b i = (false, nel m b (i + 1)) := by unfold pac; rw [if_neg h1, if_neg nf, if_neg h3, if_pos h4]
        rw [if_neg h4]
        refine ⟨su (su υ 75 30 1) 75 34 (nI (k + 1)), ?_, ?_, ?_, ?_, ?_, FRm_t (FRm_t Fυ (fr0 _ _ _ _ (by omega))) (fr0 _ _ _ _ (by omega))⟩
        · unfold M_act_c108 M_act_c141
          rw [k75 1 rfl, cond_true, zlet_ap, show su υ 75 30 1 75 30 = 1 by rw [su_ap, if_pos ⟨rfl, rfl⟩], if_pos i10, show su υ 75 30 1 75 34 = nI k by rw [su_ap, if_neg (by omega)]; exact a1', nI_1, zlet_ap]
        · rw [ep, su_ap, if_neg (by omega), su_ap, if_neg (by omega)]; exact a4'
        · rw [ep, su_ap, if_neg (by omega), su_ap, if_pos ⟨rfl, rfl⟩]; rfl
        · rw [ep]; intro q; cases q
        · intro a j g1 g2 g3
          rw [su_ap, if_neg (by omega), su_ap, if_neg (by omega)]; exact o12' a j g1 g2 g3
  · have ep : pac m b i = (false, i + 1) := by unfold pac; rw [if_neg h1, if_pos (bt' h2)]
    rw [if_neg h2, zb2_sm, st93 hk, ob_some, show su (su τ 75 30 1) 93 k 0 75 34 = nI k by rw [su_ap, if_neg (by omega), su_ap, if_neg (by omega)]; exact r34, st94 hk, ob_some, show su (su (su τ 75 30 1) 93 k 0) 94 k 0 75 30 = 1 by rw [su_ap, if_neg (by omega), su_ap, if_neg (by omega), su_ap, if_pos ⟨rfl, rfl⟩], if_pos i10]
    refine ⟨su (su (su (su τ 75 30 1) 93 k 0) 94 k 0) 75 34 (nI (k + 1)), ?_, ?_, ?_, ?_, ?_, FRm_t (FRm_t (FRm_t (FRm_t F8 (fr0 _ _ _ _ (by omega))) (fr0 _ _ _ _ (by omega))) (fr0 _ _ _ _ (by omega))) (fr0 _ _ _ _ (by omega))⟩
    · unfold M_act_c141
      rw [show su (su (su τ 75 30 1) 93 k 0) 94 k 0 75 34 = nI k by rw [su_ap, if_neg (by omega), su_ap, if_neg (by omega), su_ap, if_neg (by omega)]; exact r34, nI_1, zlet_ap]
    · rw [ep, su_ap, if_neg (by omega), su_ap, if_neg (by omega), su_ap, if_neg (by omega), su_ap, if_neg (by omega)]; exact h8
    · rw [ep, su_ap, if_neg (by omega), su_ap, if_neg (by omega), su_ap, if_neg (by omega), su_ap, if_pos ⟨rfl, rfl⟩]; rfl
    · rw [ep]; intro q; cases q
    · intro a j g1 g2 g3
      rw [su_ap, if_neg (by omega), su_ap, if_neg (by omega), su_ap, if_neg (by omega), su_ap, if_neg (by omega)]; exact ro a j g1 g2 g3
theorem AE_sm {m : Nat} {b : Nat → Nat} {σ σ2 : zSt} {k i : Nat} (h : ∀ a, 92 ≤ a → a ≤ 94 → σ2 a k = σ a k) (A : AE m b σ k i) : AE m b σ2 k i := ⟨(h 92 (by decide) (by decide)).trans A.1, (h 93 (by decide) (by decide)).trans A.2.1, (h 94 (by decide) (by decide)).trans A.2.2⟩
theorem mrl_loop {m : Nat} {b : Nat → Nat} (B : BV m b) : ∀ (d n i k : Nat) (σ : zSt), m < i + d → d < n → i ≤ m → 3 * k ≤ i → i = Pp m b k → TM m b σ → σ 75 29 = nI i → σ 75 34 = nI k → (∀ j, j < k → AE m b σ j (Pp m b j)) → ∃ σ2, ((M_act σ).bind fun σ3 => M_read_c14 n σ3) = M_read_c71 (b01 (!(psx m b d i k).1)) σ2 ∧ σ2 75 29 = nI (psx m b d i k).2.1 ∧ ((psx m b d i k).1 = true → σ2 75 34 = nI (psx m b d i k).2.2 ∧ ∀ j, j < (psx m b d i k).2.2 → AE m b σ2 j (Pp m b j)) ∧ FRm σ σ2
  | d, 0, i, k, σ, _, hn, _, _, _, _, _, _, _ => absurd hn (Nat.not_lt_zero _)
  | 0, n + 1, i, k, σ, h, _, hi, _, _, _, _, _, _ => absurd h (by omega)
  | d + 1, n + 1, i, k, σ, h, hn, hi, hk, hP, M, h29, h34, hA => by
    have hB := B.1
    obtain ⟨σ2, e2, g1, g2, g3, g4, g5⟩ := mac_ok B M h29 h34 (by omega) (by omega)
    have M2 := TM_fr g5 M
    have hp := pac_le (m := m) (b := b) (i := i)
    rw [e2, ob_some, M_read_c14, g2, psx]
    by_cases h1 : (pac m b i).1 = true
    · have g := hp.2 h1
      obtain ⟨k1, k2⟩ := g3 h1
      have hA2 : ∀ j, j < k + 1 → AE m b σ2 j (Pp m b j) := fun j hj => by
        by_cases e : j = k
        · rw [e, ← hP]; exact k2
        · exact AE_sm (fun a q1 q2 => g4 a j q1 q2 e) (hA j (by omega))
      have nf : ¬ (pac m b i).1 = false := fun q => by rw [h1] at q; cases q
      have ew : b01 (!(pac m b i).1) = 0 := by rw [h1]; rfl
      rw [ew, if_neg (fun q => q rfl), mhe_ok B M2 g1 (by omega), ob_some, if_neg nf]
      by_cases h2 : m ≤ (pac m b i).2
      · rw [if_pos h2, show bt m b (pac m b i).2 = mI from if_neg (by omega), if_pos (show ¬ mI = 59 by decide)]
        refine ⟨σ2, ?_, g1, fun _ => ⟨k1, hA2⟩, g5⟩
        unfold M_read_c47
        rw [g2, ew, if_neg (fun q => q rfl), M2.1, g1, if_pos (nI_le h2 (by omega))]
        rfl
      · have hbj : bt m b (pac m b i).2 = nI (b (pac m b i).2) := if_pos (by omega)
        have hb := B.2 (pac m b i).2 (by omega)
        rw [if_neg h2, hbj]
        by_cases h3 : b (pac m b i).2 = 59
        · rw [if_neg (show ¬ ¬ nI (b (pac m b i).2) = 59 from fun q => q (by rw [h3]; rfl)), if_pos h3, g1, nI_1, zlet_ap]
          obtain ⟨σ3, e3, a1, a2, a3⟩ := mrl_loop B d n ((pac m b i).2 + 1) (k + 1) (su σ2 75 29 (nI ((pac m b i).2 + 1))) (by omega) (by omega) (by omega) (by omega) (by rw [hP]; rfl) (TM_su (by omega) (by decide) M2) (by rw [su_ap, if_pos ⟨rfl, rfl⟩]) (by rw [su_ap, if_neg (by omega)]; exact k1) (fun j hj => AE_sm (fun a q1 q2 => by rw [su_ap, if_neg (by omega)]) (hA2 j hj))
          exact ⟨σ3, e3, a1, a2, FRm_t g5 (FRm_t (fun a q w1 w2 => by rw [su_ap, if_neg (by omega)]) a3)⟩
        · rw [if_pos (show ¬ nI (b (pac m b i).2) = 59 from fun q => h3 ((nI_inj (b := 59) (by omega) (by decide)).mp q)), if_neg h3]
          refine ⟨σ2, ?_, g1, fun q => (by cases q), g5⟩
          unfold M_read_c47 M_read_c66
          rw [g2, ew, if_neg (fun q => q rfl), M2.1, g1, if_neg (nI_ge (by omega) (by omega))]
          rfl
    · have hf := bt' h1
      have ew : b01 (!(pac m b i).1) = 1 := by rw [hf]; rfl
      rw [ew, if_pos i10, if_pos hf]
      refine ⟨σ2, ?_, g1, fun q => (by cases q), g5⟩
      unfold M_read_c47 M_read_c66
      rw [g2, ew, if_pos i10]
      rfl

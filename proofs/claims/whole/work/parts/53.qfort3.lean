/-! PURE: forts and innerFort -/
def cnf (p : Nat → Bool) (w L : Nat) : Nat → Nat
  | 0 => 0
  | d + 1 => if w ≤ mkv p d ∧ pc d = L then cnf p w L d + 1 else cnf p w L d
def nif (p : Nat → Bool) (S : Nat) : Nat → Nat → Nat → Nat
  | 0, _, _ => 600
  | d + 1, c, x => if mkv p x = 3 then (if c = S then x else nif p S d (c + 1) (x + 1)) else nif p S d c (x + 1)
theorem xhm_ok {σ : zSt} {p : Nat → Bool} {al w L : Nat} (hal : al < 512) (h50 : ∀ x, x ≤ al → σ 50 x = nI (mkv p x)) (hw : w ≤ 3) (hL : L ≤ 9) : Frt_howMany (nI al) (nI L) (nI w) σ = some (nI (cnf p w L (al + 1))) := by
  refine lup (fun n (q : Int32 × Int32) => Frt_howMany_c6 σ n (nI al) (nI L) (nI w) q.1 q.2) (fun i => (nI (cnf p w L i), nI i)) (al + 1) (some (nI (cnf p w L (al + 1)))) (fun n => ?_) (fun n i hi => ?_) (al + 1) zF 0 (by omega) (zF_big (by omega))
  · show Frt_howMany_c6 σ (n + 1) (nI al) (nI L) (nI w) (nI _) (nI (al + 1)) = _
    rw [Frt_howMany_c6, if_pos (nI_lt (by omega) (by omega))]
  · show Frt_howMany_c6 σ (n + 1) (nI al) (nI L) (nI w) (nI _) (nI i) = Frt_howMany_c6 σ n (nI al) (nI L) (nI w) (nI _) (nI (i + 1))
    have h3 := mkv_3 (p := p) i
    have hp := pc_le i
    rw [Frt_howMany_c6, if_neg (nI_nlt (by omega) (by omega)), ld50 (by omega), h50 i (by omega), ob_some, cnf]
    by_cases h1 : w ≤ mkv p i
    · rw [if_neg (nI_nlt h1 (by omega)), Jdk_bitCount_ok (by omega), ob_some]
      by_cases h2 : pc i = L
      · rw [if_neg (fun q => q (by rw [h2])), if_pos ⟨h1, h2⟩, nI_1, nI_1]
      · rw [if_pos (show ¬ nI (pc i) = nI L from fun q => h2 ((nI_inj (by omega) (by omega)).mp q)), if_neg (show ¬ (w ≤ mkv p i ∧ pc i = L) from fun q => h2 q.2), nI_1]
    · rw [if_pos (nI_lt (by omega) (by omega)), if_neg (show ¬ (w ≤ mkv p i ∧ pc i = L) from fun q => h1 q.1), nI_1]
theorem mhm_ok {σ : zSt} {p : Nat → Bool} {al a L : Nat} (hal : al < 512) (h14 : σ 75 14 = nI al) (h85 : ∀ y, y ≤ al → σ 85 y = nI (p y).toNat) (h0 : p 0 = false) (ha : a ≤ 1) (hL : L ≤ 9) : M_forts__c32 zF (nI L) (nI a) (nI 0) (nI 0) σ = some (nI (cnf p (a + 2) L (al + 1)), σ) := by
  refine lup (fun n (q : Int32 × Int32) => M_forts__c32 n (nI L) (nI a) q.1 q.2 σ) (fun i => (nI (cnf p (a + 2) L i), nI i)) (al + 1) (some (nI (cnf p (a + 2) L (al + 1)), σ)) (fun n => ?_) (fun n i hi => ?_) (al + 1) zF 0 (by omega) (zF_big (by omega))
  · show M_forts__c32 (n + 1) (nI L) (nI a) (nI _) (nI (al + 1)) σ = _
    rw [M_forts__c32, h14, if_pos (nI_lt (by omega) (by omega))]
  · show M_forts__c32 (n + 1) (nI L) (nI a) (nI _) (nI i) σ = M_forts__c32 n (nI L) (nI a) (nI _) (nI (i + 1)) σ
    have h3 := mkv_3 (p := p) i
    have hp := pc_le i
    have e0 : ∀ a, nI a + 0 = nI a := fun a => nI_add a 0
    rw [M_forts__c32, h14, if_neg (nI_nlt (by omega) (by omega)), mbits_ok (by omega), ob_some, cnf]
    by_cases h2 : pc i = L
    · rw [if_neg (fun q => q (by rw [h2]))]
      rcases (by omega : a = 0 ∨ a = 1) with rfl | rfl
      · rw [if_neg (show ¬ ¬ nI 0 = 0 from fun q => q rfl), zl85 (by omega), h85 i (by omega), ob_some]
        have hm := mkv_fort (p := p) (x := i)
        cases hp2 : p i
        · rw [if_pos (show nI false.toNat = 0 from rfl), e0, nI_1, if_neg]
          intro q; rw [hp2] at hm; exact absurd (hm.mpr (by omega)) (fun q => Bool.noConfusion q)
        · rw [if_neg (show ¬ nI true.toNat = 0 by decide), nI_1, nI_1, if_pos]
          exact ⟨by have := hm.mp hp2; omega, h2⟩
      · rw [if_pos (show ¬ nI 1 = 0 by decide), misi_ok hal h85 h0 (by omega), ob_some]
        by_cases h4 : mkv p i = 3
        · rw [if_pos h4, if_neg i10, nI_1, nI_1, if_pos ⟨by omega, h2⟩]
        · rw [if_neg h4, if_pos rfl, e0, nI_1, if_neg]
          intro q; omega
    · rw [if_pos (show ¬ nI (pc i) = nI L from fun q => h2 ((nI_inj (by omega) (by omega)).mp q)), e0, nI_1, if_neg (show ¬ (a + 2 ≤ mkv p i ∧ pc i = L) from fun q => h2 q.2)]
theorem q_forts (x y : Int32) : Qs (X_forts x y) (M_forts_ x y) := by
  intro D V
  have hn := V.1.2
  have hal := alm_lt hn
  have hneg1 : ∀ σ : zSt, In D σ → M_in x 0 (σ 75 3) σ = some 0 → M_forts_ x y σ = some (-1, σ) := fun σ I h => by
    unfold M_forts_
    rw [h, ob_some, if_pos rfl]
  rcases rng x 0 (dn D) (by decide) (by omega) with h | ⟨h, h2, h3⟩ | ⟨L, _, hL, rfl⟩
  · exact ⟨-1, As_of fun σ I => if_pos h, As_of fun σ I => hneg1 σ I (min_lo h)⟩
  · refine ⟨-1, As_of fun σ I => ?_, As_of fun σ I => hneg1 σ I (by rw [I.2.2.1.1.1]; exact min_hi h h2)⟩
    unfold X_forts
    rw [if_neg (show ¬ x < 0 from h), I.2.1.1.1, if_pos h2]
  have hx : ∀ σ, In D σ → X_forts (nI L) y σ = (if y < 0 then (some ((-1), σ)) else (if y ≤ 1 then ((Frt_fillMarks σ).bind fun σ1 => (Net_all σ1).bind fun v2 => if ¬ y = 1 then (X_forts_c59 2 (nI L) v2 σ1) else (X_forts_c59 3 (nI L) v2 σ1)) else (some ((-1), σ)))) := fun σ I => by
    unfold X_forts
    rw [if_neg (nI_pos (by omega)), I.2.1.1.1, if_neg (nI_nlt hL (by omega))]
  have hm : ∀ σ, In D σ → M_forts_ (nI L) y σ = ((M_in y 0 1 σ).bind fun v2 => if ¬ v2 = 0 then ((M_forts σ).bind fun σ3 => M_forts__c32 zF (nI L) y 0 0 σ3) else (some ((-1), σ))) := fun σ I => by
    unfold M_forts_
    rw [I.2.2.1.1.1, show M_in (nI L) 0 (nI (dn D)) σ = some 1 from min_ok (Nat.zero_le _) hL (by omega), ob_some, if_neg i10]
  rcases rng y 0 1 (by decide) (by decide) with h | ⟨h, h2, h3⟩ | ⟨a, _, ha, rfl⟩
  · refine ⟨-1, As_of fun σ I => (hx σ I).trans (if_pos h), As_of fun σ I => ?_⟩
    rw [hm σ I, show M_in y 0 1 σ = some 0 from min_lo h, ob_some, if_neg (fun q => q rfl)]
  · refine ⟨-1, As_of fun σ I => (hx σ I).trans ((if_neg h).trans (if_neg h3)), As_of fun σ I => ?_⟩
    rw [hm σ I, show M_in y 0 1 σ = some 0 from min_hi h h2, ob_some, if_neg (fun q => q rfl)]
  · refine ⟨nI (cnf (fp D) (a + 2) L (alm (dn D) + 1)), fun σ I => ?_, fun σ I => ?_⟩
    · obtain ⟨σ2, e, S2, h50⟩ := ffm_ok I
      refine ⟨σ2, ?_, S2⟩
      rw [hx σ I, if_neg (nI_pos (by omega)), if_pos (show nI a ≤ 1 from nI_le ha (by decide)), e, ob_some, all_ok (In_sm S2 I).2.1.1.1 hn, ob_some]
      unfold X_forts_c59
      rcases (by omega : a = 0 ∨ a = 1) with rfl | rfl
      · rw [if_pos (show ¬ nI 0 = 1 by decide), show (2 : Int32) = nI 2 from rfl, xhm_ok hal h50 (by decide) (by omega), ob_some]
      · rw [if_neg (show ¬ ¬ nI 1 = 1 from fun q => q rfl), show (3 : Int32) = nI 3 from rfl, xhm_ok hal h50 (by decide) (by omega), ob_some]
    · obtain ⟨σ2, e, S2, h14, h85⟩ := mft_ok I
      refine ⟨σ2, ?_, S2⟩
      rw [hm σ I, show M_in (nI a) 0 1 σ = some 1 from min_ok (Nat.zero_le _) ha (by decide), ob_some, if_pos i10, e, ob_some, show (0 : Int32) = nI 0 from rfl]
      exact mhm_ok hal h14 h85 (fp_0 D) ha (by omega)

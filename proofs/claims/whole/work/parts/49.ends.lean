/-! PURE: ends -/
def le9 (g : Nat → Nat) : Nat → Nat → Nat
  | 0, i => i
  | d + 1, i => if g i = 9 then i else le9 g d (g i)
theorem le9_lt {g rk : Nat → Nat} (hr : ∀ i, g i = 9 ∨ (g i < 9 ∧ rk i < rk (g i))) : ∀ d i, i < 9 → le9 g d i < 9
  | 0, _, h => h
  | d + 1, i, h => by
    rw [le9]
    by_cases e : g i = 9
    · rw [if_pos e]; exact h
    · rw [if_neg e]; exact le9_lt hr d _ ((hr i).resolve_left e).1
def ef (g : Nat → Nat) (s i : Nat) : Nat := if s.testBit i = true then 2 ^ le9 g 9 i else 0
section EN
variable {σ : zSt} {g rk : Nat → Nat}
theorem xle_loop (h48 : ∀ j, j < 9 → σ 48 j = ec mI g j) (hr : ∀ i, g i = 9 ∨ (g i < 9 ∧ rk i < rk (g i))) : ∀ (d m i c : Nat), c + d = 9 → d < m → i < 9 → Chn_lastFrom_c4 σ m (nI i) (nI c) = some (nI (le9 g d i))
  | d, 0, i, c, _, hm, _ => absurd hm (Nat.not_lt_zero _)
  | 0, m + 1, i, c, hc, _, _ => by
    obtain rfl : c = 9 := by omega
    rfl
  | d + 1, m + 1, i, c, hc, hm, hi => by
    rw [Chn_lastFrom_c4, if_neg (show ¬ (9 : Int32) ≤ nI c from nI_ge (b := 9) (by omega) (by decide)), ld48 hi, h48 i hi, ob_some, le9]
    unfold ec
    by_cases e : g i = 9
    · rw [if_pos e, if_pos (show mI = -1 from rfl), if_pos e]
    · have hg := (hr i).resolve_left e
      rw [if_neg e, if_neg (show ¬ nI (g i) = -1 from mI_ne (by omega)), if_neg e, ob_some, nI_1]
      exact xle_loop h48 hr d m (g i) (c + 1) (by omega) (by omega) hg.1
theorem mle_loop (h84 : ∀ j, j < 9 → σ 84 j = ec (-2) g j) (hr : ∀ i, g i = 9 ∨ (g i < 9 ∧ rk i < rk (g i))) (h9 : ∀ i, rk i ≤ 9) {s acc l : Nat} (c19 : Int32 → Int32 → Int32 → zSt → Option (Int32 × zSt)) : ∀ (d m i : Nat), 9 ≤ rk i + d → d < m → i < 9 → M_ends_c41 c19 m (nI s) (nI acc) (nI l) (nI i) σ = c19 (nI s) (nI (acc ||| 2 ^ le9 g d i)) (nI (l + 1)) σ
  | d, 0, i, _, hm, _ => absurd hm (Nat.not_lt_zero _)
  | d, m + 1, i, hd, hm, hi => by
    rw [M_ends_c41, ld84 hi, h84 i hi, ob_some]
    unfold ec
    by_cases e : g i = 9
    · have el : le9 g d i = i := by
        cases d with
        | zero => rfl
        | succ d => exact if_pos e
      rw [if_pos e, if_pos (show (-2 : Int32) = -2 from rfl), sh1 (by omega), pb_or, zlet_ap, nI_1, el]
    · have hg := (hr i).resolve_left e
      have hne : ¬ nI (g i) = -2 := fun w => absurd (w ▸ nI_pos' (by omega) : (0 : Int32) ≤ -2) (by decide)
      rw [if_neg e, if_neg hne, ob_some]
      have := h9 (g i)
      match d, hd, hm with
      | 0, hd, hm => omega
      | d + 1, hd, hm =>
        rw [mle_loop h84 hr h9 c19 d m (g i) (by omega) (by omega) hg.1, le9, if_neg e]
end EN
theorem q_ends (x : Int32) : Qs (X_ends x) (M_ends x) := by
  intro D V
  have hn := V.1.2
  have hal := alm_lt hn
  rcases set_cases D V x with h | ⟨s, rfl, hs, h⟩
  · refine ⟨-1, As_of fun σ I => ?_, As_of fun σ I => ?_⟩
    · unfold X_ends
      rw [(h σ I).1, ob_some, if_neg (fun q => q rfl)]
    · unfold M_ends
      rw [(h σ I).2, ob_some, if_neg (fun q => q rfl)]
  have hs5 : s < 512 := by have := sub_le hs; omega
  obtain ⟨rk, r1, r2⟩ := gch_rk D s
  refine ⟨nI (orf (ef (gch D s) s) (dn D)), fun σ I => ?_, fun σ I => ?_⟩
  · obtain ⟨σ2, e, S2, h48⟩ := cfs_ok I hs5
    have N2 := (In_sm S2 I).2.1.1.1
    refine ⟨σ2, ?_, S2⟩
    unfold X_ends
    rw [(h σ I).1, ob_some, if_pos i10, e, ob_some]
    refine lup (fun n (q : Int32 × Int32) => X_ends_c29 n (nI s) q.1 q.2 σ2) (fun i => (nI (orf (ef (gch D s) s) i), nI i)) (dn D) (some (nI (orf (ef (gch D s) s) (dn D)), σ2)) (fun n => ?_) (fun n i hi => ?_) (dn D) zF 0 (by omega) (zF_big (by omega))
    · show X_ends_c29 (n + 1) (nI s) (nI _) (nI (dn D)) σ2 = _
      rw [X_ends_c29, N2, if_pos (nI_le (Nat.le_refl _) (by omega))]
    · show X_ends_c29 (n + 1) (nI s) (nI _) (nI i) σ2 = X_ends_c29 n (nI s) (nI _) (nI (i + 1)) σ2
      rw [X_ends_c29, N2, if_neg (nI_ge hi (by omega)), orf_s]
      unfold ef
      by_cases hb : s.testBit i = true
      · have e3 := xle_loop h48 r1 9 zF i 0 rfl (zF_big (by decide)) (by omega)
        have hl := le9_lt r1 9 i (by omega)
        unfold Chn_lastFrom
        rw [if_neg (fun q => q ((pb_is1 (by omega) (by omega)).mpr hb)), show (0 : Int32) = nI 0 from rfl, e3, ob_some, sh1 (by omega), pb_or, zlet_ap, nI_1, if_pos hb]
      · rw [if_pos (show ¬ (nI s >>> (nI i &&& 31)) &&& 1 = 1 from fun q => hb ((pb_is1 (by omega) (by omega)).mp q)), if_neg hb, Nat.or_zero, nI_1]
  · obtain ⟨σ2, e, S2, h84⟩ := mcs_ok I hs5
    have N2 := (In_sm S2 I).2.2.1.1.1
    refine ⟨σ2, ?_, S2⟩
    unfold M_ends
    rw [(h σ I).2, ob_some, if_pos i10, e, ob_some]
    refine lup (fun n (q : Int32 × Int32) => M_ends_c19 n (nI s) q.1 q.2 σ2) (fun i => (nI (orf (ef (gch D s) s) i), nI i)) (dn D) (some (nI (orf (ef (gch D s) s) (dn D)), σ2)) (fun n => ?_) (fun n i hi => ?_) (dn D) zF 0 (by omega) (zF_big (by omega))
    · show M_ends_c19 (n + 1) (nI s) (nI _) (nI (dn D)) σ2 = _
      rw [M_ends_c19, N2, if_pos (nI_le (Nat.le_refl _) (by omega))]
    · show M_ends_c19 (n + 1) (nI s) (nI _) (nI i) σ2 = M_ends_c19 n (nI s) (nI _) (nI (i + 1)) σ2
      rw [M_ends_c19, N2, if_neg (nI_ge hi (by omega)), mhas_ok hs5 (by omega), ob_some, orf_s]
      unfold ef
      cases hb : s.testBit i
      · rw [if_neg (show ¬ ¬ nI false.toNat = 0 from fun q => q rfl), if_neg (show ¬ false = true from fun q => Bool.noConfusion q), Nat.or_zero, nI_1]
      · rw [if_pos (show ¬ nI true.toNat = 0 by decide), if_pos rfl, mle_loop h84 r1 r2 _ 9 zF i (by omega) (zF_big (by decide)) (by omega)]

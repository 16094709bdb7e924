/-! PURE: the tape: feed, wipe; what stands at a place -/
def TX (m : Nat) (b : Nat → Nat) (σ : zSt) : Prop := σ 71 0 = nI m ∧ ∀ i, i < m → σ 72 i = nI (b i)
def TM (m : Nat) (b : Nat → Nat) (σ : zSt) : Prop := σ 75 28 = nI m ∧ ∀ i, i < m → σ 91 i = nI (b i)
def BV (m : Nat) (b : Nat → Nat) : Prop := m ≤ 80 ∧ ∀ i, i < m → 32 ≤ b i ∧ b i ≤ 126
theorem Tp_b {σ : zSt} (h : Tp σ) : ∃ m b, BV m b ∧ TX m b σ ∧ TM m b σ := by
  obtain ⟨m, h1, h2, h3, h4⟩ := h
  have hB : ∀ i, ∃ c : Nat, i < m → 32 ≤ c ∧ c ≤ 126 ∧ σ 91 i = nI c := fun i => by
    by_cases h : i < m
    · obtain ⟨_, c, g⟩ := h4 i h
      exact ⟨c, fun _ => g⟩
    · exact ⟨0, fun q => absurd q h⟩
  obtain ⟨b, hb⟩ := Classical.axiomOfChoice hB
  exact ⟨m, b, ⟨h1, fun i hi => ⟨(hb i hi).1, (hb i hi).2.1⟩⟩, ⟨h2, fun i hi => by rw [(h4 i hi).1]; exact (hb i hi).2.2⟩, ⟨h3, fun i hi => (hb i hi).2.2⟩⟩
theorem Tp_of {σ : zSt} {m : Nat} {b : Nat → Nat} (B : BV m b) (X : TX m b σ) (M : TM m b σ) : Tp σ := ⟨m, B.1, X.1, M.1, fun i hi => ⟨by rw [X.2 i hi, M.2 i hi], b i, (B.2 i hi).1, (B.2 i hi).2, M.2 i hi⟩⟩
/-- what is kept but the graph, the changes and the tape -/
def fQ (a i : Nat) : Bool := fCk a i || fMk a i || fK0 a i || fRw a i || fTr a i || fCe a i
theorem fQ_iff {a i : Nat} : fQ a i = true ↔ (15 ≤ a ∧ a ≤ 28) ∨ ((a = 75 ∧ 40 ≤ i ∧ i ≤ 43) ∨ (96 ≤ a ∧ a ≤ 98)) ∨ (a = 0 ∧ i = 2) ∨ ((65 ≤ a ∧ a ≤ 70) ∨ (88 ≤ a ∧ a ≤ 90)) ∨ ((a = 73 ∧ i = 3) ∨ a = 74 ∨ (a = 75 ∧ i = 36) ∨ a = 95) ∨ a = 52 := by
  unfold fQ fCk fMk fK0 fRw fTr fCe
  simp only [zbl, zbq, Bool.or_eq_true, Bool.and_eq_true, decide_eq_true_eq, or_assoc]
theorem In_tp {D D2 : yD} {H2 : yH} {σ σ2 : zSt} (I : In D σ) (V2 : Vd D2) (h2 : HV (dn D2) H2) (x : XI D2 H2 σ2) (m : MI D2 H2 σ2) (S : Sm fQ σ σ2) (T : Tp σ2) : In D2 σ2 := by
  obtain ⟨_, _, _, h4, _, h6, h7, h8, h9⟩ := I
  have s : Sm fCk σ σ2 ∧ Sm fMk σ σ2 ∧ Sm fK0 σ σ2 ∧ Sm fRw σ σ2 ∧ Sm fTr σ σ2 ∧ Sm fCe σ σ2 := by
    refine ⟨fun a i h => ?_, fun a i h => ?_, fun a i h => ?_, fun a i h => ?_, fun a i h => ?_, fun a i h => ?_⟩
    all_goals refine S a i ?_
    all_goals unfold fQ
    all_goals rw [h]
    all_goals simp
  obtain ⟨s1, s2, s3, s4, s6, s7⟩ := s
  exact ⟨V2, x.1, m.1, Kp_sm s3 s1 s2 h4, Hi_of h2 x m, Rw_sm s4 h6, T, Tr_sm s6 h8, Ce_sm s7 h9⟩
/-- only the tape has changed -/
theorem In_t {D : yD} {σ σ2 : zSt} (I : In D σ) (S : ∀ a i, a ≠ 71 → a ≠ 72 → a ≠ 91 → ¬ (a = 75 ∧ i = 28) → σ2 a i = σ a i) (T : Tp σ2) : In D σ2 := by
  obtain ⟨H, h1, x, m⟩ := In_sides I
  refine In_tp I I.1 h1 (XI_sm (fun a i h => ?_) x) (MI_sm (fun a i h => ?_) m) (fun a i h => ?_) T
  · have := fX_iff.mp h
    exact S a i (by omega) (by omega) (by omega) (by omega)
  · have := fM_iff.mp h
    exact S a i (by omega) (by omega) (by omega) (by omega)
  · have := fQ_iff.mp h
    exact S a i (by omega) (by omega) (by omega) (by omega)
theorem q_feed (x : Int32) : Q2 (X_feed x) (M_feed x) := by
  rintro σ ⟨D, I⟩
  obtain ⟨m, b, B, X, M⟩ := Tp_b I.2.2.2.2.2.2.1
  rcases rng x 32 126 (by decide) (by decide) with k | ⟨k, k2, k3⟩ | ⟨c, hc1, hc2, rfl⟩
  · refine ⟨-1, σ, σ, ?_, ?_, D, I⟩
    · unfold X_feed; rw [if_pos (show x < 32 from k)]
    · unfold M_feed; rw [show M_in x 32 126 σ = some 0 from min_lo k, ob_some, if_neg (fun q => q rfl)]
  · refine ⟨-1, σ, σ, ?_, ?_, D, I⟩
    · unfold X_feed; rw [if_neg (show ¬ x < 32 from k), if_neg (show ¬ x ≤ 126 from k3)]
    · unfold M_feed; rw [show M_in x 32 126 σ = some 0 from min_hi k k2, ob_some, if_neg (fun q => q rfl)]
  have n1 : ¬ nI c < 32 := nI_nlt (b := 32) hc1 (by omega)
  have n2 : nI c ≤ 126 := nI_le (b := 126) hc2 (by decide)
  have n3 : ∀ τ, M_in (nI c) 32 126 τ = some 1 := fun τ => min_ok hc1 hc2 (by decide)
  by_cases hm : m = 80
  · refine ⟨-3, σ, σ, ?_, ?_, D, I⟩
    · unfold X_feed Tape_append
      rw [if_neg n1, if_pos n2, X.1, hm, if_neg (show ¬ nI 80 < 80 by decide), zb2_sm, if_pos rfl]
    · unfold M_feed
      rw [n3, ob_some, if_pos i10, M.1, hm, if_neg (fun q => q rfl)]
  · have hB := B.1
    have e1 : su σ 72 m (nI c) 71 0 + 1 = nI (m + 1) := by rw [su_ap, if_neg (by omega), X.1, nI_1]
    have e2 : ∀ τ : zSt, su (su τ 91 m (nI c)) 75 28 (nI (m + 1)) 75 28 = nI (m + 1) := fun τ => by rw [su_ap, if_pos ⟨rfl, rfl⟩]
    have e3 : su (su (su σ 72 m (nI c)) 71 0 (nI (m + 1))) 91 m (nI c) 75 28 + 1 = nI (m + 1) := by rw [su_ap, if_neg (by omega), su_ap, if_neg (by omega), su_ap, if_neg (by omega), M.1, nI_1]
    have e4 : su (su σ 72 m (nI c)) 71 0 (nI (m + 1)) 75 28 = nI m := by rw [su_ap, if_neg (by omega), su_ap, if_neg (by omega), M.1]
    refine ⟨nI (m + 1), su (su σ 72 m (nI c)) 71 0 (nI (m + 1)), su (su (su (su σ 72 m (nI c)) 71 0 (nI (m + 1))) 91 m (nI c)) 75 28 (nI (m + 1)), ?_, ?_, D, In_t I (fun a i h1 h2 h3 h4 => by rw [su_ap, if_neg h4, su_ap, if_neg (fun w => h3 w.1), su_ap, if_neg (fun w => h1 w.1), su_ap, if_neg (fun w => h2 w.1)]) (Tp_of (m := m + 1) (b := fun i => if i = m then c else b i) ⟨by omega, fun i hi => ?_⟩ ⟨?_, fun i hi => ?_⟩ ⟨?_, fun i hi => ?_⟩)⟩
    · unfold X_feed Tape_append
      rw [if_neg n1, if_pos n2, X.1, if_pos (show nI m < 80 from nI_lt (b := 80) (by omega) (by decide)), st72 (by omega), ob_some, e1, zlet_ap, zb2_sm, if_neg i10, su_ap, if_pos ⟨rfl, rfl⟩]
    · unfold M_feed
      rw [n3, ob_some, if_pos i10, e4, if_pos (show ¬ nI m = 80 from fun q => hm ((nI_inj (b := 80) (by omega) (by decide)).mp q)), st91 (by omega), ob_some, e3, zlet_ap, e2]
    · show 32 ≤ (if i = m then c else b i) ∧ (if i = m then c else b i) ≤ 126
      by_cases e : i = m
      · rw [if_pos e]; exact ⟨hc1, hc2⟩
      · rw [if_neg e]; exact B.2 i (by omega)
    · rw [su_ap, if_neg (by omega), su_ap, if_neg (by omega), su_ap, if_pos ⟨rfl, rfl⟩]
    · show _ = nI (if i = m then c else b i)
      rw [su_ap, if_neg (by omega), su_ap, if_neg (by omega), su_ap, if_neg (by omega), su_ap]
      by_cases e : i = m
      · rw [if_pos ⟨rfl, e⟩, if_pos e]
      · rw [if_neg (fun w => e w.2), if_neg e]; exact X.2 i (by omega)
    · exact e2 _
    · show _ = nI (if i = m then c else b i)
      rw [su_ap, if_neg (by omega), su_ap]
      by_cases e : i = m
      · rw [if_pos ⟨rfl, e⟩, if_pos e]
      · rw [if_neg (fun w => e w.2), if_neg e, su_ap, if_neg (by omega), su_ap, if_neg (by omega)]; exact M.2 i (by omega)
theorem q_wipe : Q2 X_wipe M_wipe := by
  rintro σ ⟨D, I⟩
  obtain ⟨m, b, B, X, M⟩ := Tp_b I.2.2.2.2.2.2.1
  refine ⟨nI m, su σ 71 0 0, su (su σ 71 0 0) 75 28 0, ?_, ?_, D, In_t I (fun a i h1 h2 h3 h4 => by rw [su_ap, if_neg h4, su_ap, if_neg (fun w => h1 w.1)]) (Tp_of (m := 0) (b := b) ⟨by omega, fun i hi => absurd hi (Nat.not_lt_zero _)⟩ ⟨?_, fun i hi => absurd hi (Nat.not_lt_zero _)⟩ ⟨?_, fun i hi => absurd hi (Nat.not_lt_zero _)⟩)⟩
  · unfold X_wipe; rw [zlet_ap, X.1]
  · unfold M_wipe; rw [zlet_ap, su_ap, if_neg (by omega), M.1]
  · rw [su_ap, if_neg (by omega), su_ap, if_pos ⟨rfl, rfl⟩]; rfl
  · rw [su_ap, if_pos ⟨rfl, rfl⟩]; rfl
-- bytes, figures, letters
def bt (m : Nat) (b : Nat → Nat) (i : Nat) : Int32 := if i < m then nI (b i) else mI
def fgr (m : Nat) (b : Nat → Nat) (i : Nat) : Bool := decide (i < m ∧ 48 ≤ b i ∧ b i ≤ 57)
def lno (c : Nat) : Nat := if c = 67 then 2 else if c = 80 then 2 else if c = 99 then 2 else if c = 107 then 2 else if c = 108 then 2 else if c = 109 then 1 else if c = 110 then 1 else if c = 114 then 2 else if c = 117 then 2 else 0
def lni (m : Nat) (b : Nat → Nat) (i : Nat) : Nat := if i < m then lno (b i) else 0
theorem xbt_ok {σ : zSt} {m i : Nat} {b : Nat → Nat} (B : BV m b) (X : TX m b σ) (hi : i < 1000) : Tape_byteAt (nI i) σ = some (bt m b i) := by
  have hB := B.1
  unfold Tape_byteAt bt
  rw [if_neg (nI_pos (by omega)), X.1]
  by_cases h : i < m
  · rw [if_pos (nI_lt h (by omega)), ld72 (by omega), ob_some, if_pos h, X.2 i h]
  · rw [if_neg (nI_nlt (by omega) (by omega)), if_neg h]; rfl
theorem b01_of {c : Prop} [Decidable c] : b01 (decide c) = if c then 1 else 0 := by
  unfold b01
  by_cases h : c
  · rw [if_pos h, decide_eq_true h, if_pos rfl]
  · rw [if_neg h, decide_eq_false h, if_neg (by decide)]
theorem xhf_ok {σ : zSt} {m i : Nat} {b : Nat → Nat} (B : BV m b) (X : TX m b σ) (hi : i < 1000) : Tape_hasFigure (nI i) σ = some (b01 (fgr m b i)) := by
  unfold Tape_hasFigure fgr
  rw [xbt_ok B X hi, ob_some, ob_some]
  unfold bt b01
  by_cases h : i < m
  · have hb := B.2 i h
    rw [if_pos h]
    by_cases h1 : b i < 48
    · rw [if_pos (show nI (b i) < 48 from nI_lt (b := 48) h1 (by decide)), if_neg (by simp; omega)]
    · rw [if_neg (show ¬ nI (b i) < 48 from nI_nlt (b := 48) (by omega) (by omega))]
      by_cases h2 : 57 < b i
      · rw [if_pos (show (57 : Int32) < nI (b i) from nI_lt (a := 57) h2 (by omega)), if_neg (by simp; omega)]
      · rw [if_neg (show ¬ (57 : Int32) < nI (b i) from nI_nlt (a := 57) (by omega) (by decide)), if_pos (by simp; omega)]
  · rw [if_neg h, if_pos (show mI < 48 by decide), if_neg (by simp; omega)]
theorem mhe_ok {σ : zSt} {m i : Nat} {b : Nat → Nat} (B : BV m b) (M : TM m b σ) (h : σ 75 29 = nI i) (hi : i < 1000) : M_here σ = some (bt m b i) := by
  have hB := B.1
  unfold M_here bt
  rw [M.1, h]
  by_cases h : i < m
  · rw [if_neg (nI_ge h (by omega)), ld91 (by omega), ob_some, if_pos h, M.2 i h]
  · rw [if_pos (nI_le (by omega) (by omega)), if_neg h]; rfl
theorem zbo_b (b : Bool) : zbo (b01 b) = true := by cases b <;> rfl
theorem mfi_ok {σ : zSt} {m i : Nat} {b : Nat → Nat} (B : BV m b) (M : TM m b σ) (h : σ 75 29 = nI i) (hi : i < 1000) : M_isFigure σ = some (b01 (fgr m b i)) := by
  have e : M_in (bt m b i) 48 57 σ = some (b01 (fgr m b i)) := by
    unfold bt fgr b01
    by_cases h : i < m
    · have hb := B.2 i h
      rw [if_pos h]
      by_cases h1 : b i < 48
      · rw [show M_in (nI (b i)) 48 57 σ = some 0 from min_lo (nI_lt (b := 48) h1 (by decide)), if_neg (by simp; omega)]
      · by_cases h2 : 57 < b i
        · rw [show M_in (nI (b i)) 48 57 σ = some 0 from min_hi (nI_nlt (b := 48) (by omega) (by omega)) (nI_lt (a := 57) h2 (by omega)), if_neg (by simp; omega)]
        · rw [show M_in (nI (b i)) 48 57 σ = some 1 from min_ok (a := 48) (b := 57) (by omega) (by omega) (by decide), if_pos (by simp; omega)]
    · rw [if_neg h, show M_in mI 48 57 σ = some 0 from min_lo (show mI < 48 by decide), if_neg (by simp; omega)]
  unfold M_isFigure
  rw [mhe_ok B M h hi, ob_some, e, ob_some, zbo_b]
  rfl
theorem xno_ok {σ : zSt} {m i : Nat} {b : Nat → Nat} (B : BV m b) : Tape_numbersOf (bt m b i) σ = some (nI (lni m b i)) := by
  unfold bt lni
  by_cases h : i < m
  · have hb := B.2 i h
    have key : ∀ c, c < 127 → Tape_numbersOf (nI c) (fun _ _ => 0) = some (nI (lno c)) := by decide +kernel
    rw [if_pos h, if_pos h]
    exact key (b i) (by omega)
  · rw [if_neg h, if_neg h]; rfl
theorem lni_le {m i : Nat} {b : Nat → Nat} : lni m b i ≤ 2 := by
  unfold lni
  split
  · unfold lno
    repeat' split
    all_goals omega
  · omega
theorem mon_ok {σ : zSt} {m i : Nat} {b : Nat → Nat} (B : BV m b) : M_isOne (bt m b i) σ = some (b01 (decide (lni m b i = 1))) ∧ M_isTwo (bt m b i) σ = some (b01 (decide (lni m b i = 2))) := by
  unfold bt lni
  by_cases h : i < m
  · have hb := B.2 i h
    have key : ∀ c, c < 127 → M_isOne (nI c) (fun _ _ => 0) = some (b01 (decide (lno c = 1))) ∧ M_isTwo (nI c) (fun _ _ => 0) = some (b01 (decide (lno c = 2))) := by decide +kernel
    rw [if_pos h, if_pos h]
    exact key (b i) (by omega)
  · rw [if_neg h, if_neg h]; exact ⟨rfl, rfl⟩

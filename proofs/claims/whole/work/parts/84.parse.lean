/-! PURE: the class passes a text, and reads an act -/
def nel (m : Nat) (b : Nat → Nat) (i : Nat) : Nat := i + (if fgr m b (i + 1) = true then 2 else 1)
def nvl (m : Nat) (b : Nat → Nat) (i : Nat) : Nat := if fgr m b (i + 1) = true then 10 * (b i - 48) + (b (i + 1) - 48) else b i - 48
def pac (m : Nat) (b : Nat → Nat) (i : Nat) : Bool × Nat :=
  if lni m b i = 0 then (false, i)
  else if fgr m b (i + 1) = false then (false, i + 1)
  else if lni m b i = 1 then (true, nel m b (i + 1))
  else if ¬ bt m b (nel m b (i + 1)) = 44 then (false, nel m b (i + 1))
  else if fgr m b (nel m b (i + 1) + 1) = false then (false, nel m b (i + 1) + 1)
  else (true, nel m b (nel m b (i + 1) + 1))
theorem fgr_at {m i : Nat} {b : Nat → Nat} (h : fgr m b i = true) : i < m ∧ 48 ≤ b i ∧ b i ≤ 57 := of_decide_eq_true h
theorem nel_le {m i : Nat} {b : Nat → Nat} (h : fgr m b i = true) : i < nel m b i ∧ nel m b i ≤ m ∧ nel m b i ≤ i + 2 := by
  have h1 := fgr_at h
  unfold nel
  by_cases e : fgr m b (i + 1) = true
  · have h2 := fgr_at e
    rw [if_pos e]; omega
  · rw [if_neg e]; omega
theorem nel_b {m i : Nat} {b : Nat → Nat} : nel m b i ≤ i + 2 := by
  unfold nel
  split <;> omega
theorem bf {x : Bool} (h : ¬ x = false) : x = true := by cases x <;> simp_all
theorem bt' {x : Bool} (h : ¬ x = true) : x = false := by cases x <;> simp_all
theorem pac_le {m i : Nat} {b : Nat → Nat} : (pac m b i).2 ≤ i + 6 ∧ ((pac m b i).1 = true → i + 2 ≤ (pac m b i).2 ∧ (pac m b i).2 ≤ m ∧ i < m ∧ fgr m b (i + 1) = true ∧ (lni m b i = 1 ∨ lni m b i = 2) ∧ (lni m b i = 2 → fgr m b (nel m b (i + 1) + 1) = true ∧ (pac m b i).2 = nel m b (nel m b (i + 1) + 1)) ∧ (lni m b i = 1 → (pac m b i).2 = nel m b (i + 1))) := by
  have hl := lni_le (m := m) (i := i) (b := b)
  have hb1 := nel_b (m := m) (b := b) (i := i + 1)
  have hb2 := nel_b (m := m) (b := b) (i := nel m b (i + 1) + 1)
  unfold pac
  by_cases h1 : lni m b i = 0
  · rw [if_pos h1]; exact ⟨by show i ≤ i + 6; omega, fun q => by cases q⟩
  rw [if_neg h1]
  have him : i < m := by
    refine Nat.not_le.mp fun q => h1 ?_
    unfold lni
    rw [if_neg (by omega)]
  by_cases h2 : fgr m b (i + 1) = false
  · rw [if_pos h2]; exact ⟨by show i + 1 ≤ i + 6; omega, fun q => by cases q⟩
  rw [if_neg h2]
  have g2 := nel_le (bf h2)
  by_cases h3 : lni m b i = 1
  · rw [if_pos h3]
    exact ⟨by show nel m b (i + 1) ≤ i + 6; omega, fun _ => ⟨by show i + 2 ≤ nel m b (i + 1); omega, g2.2.1, him, bf h2, Or.inl h3, fun q => by omega, fun _ => rfl⟩⟩
  rw [if_neg h3]
  by_cases h4 : bt m b (nel m b (i + 1)) = 44
  · rw [if_neg (fun q => q h4)]
    by_cases h5 : fgr m b (nel m b (i + 1) + 1) = false
    · rw [if_pos h5]; exact ⟨by show nel m b (i + 1) + 1 ≤ i + 6; omega, fun q => by cases q⟩
    · rw [if_neg h5]
      have g5 := nel_le (bf h5)
      exact ⟨by show nel m b (nel m b (i + 1) + 1) ≤ i + 6; omega, fun _ => ⟨by show i + 2 ≤ nel m b (nel m b (i + 1) + 1); omega, g5.2.1, him, bf h2, Or.inr (by omega), fun _ => ⟨bf h5, rfl⟩, fun q => absurd q h3⟩⟩
  · rw [if_pos h4]; exact ⟨by show nel m b (i + 1) ≤ i + 6; omega, fun q => by cases q⟩
theorem TX_su {m q : Nat} {b : Nat → Nat} {σ : zSt} {v : Int32} (hq : q ≠ 0) (h : TX m b σ) : TX m b (su σ 71 q v) := ⟨by rw [su_ap, if_neg (fun w => hq w.2.symm)]; exact h.1, fun i hi => by rw [su_ap, if_neg (by omega)]; exact h.2 i hi⟩
theorem su_id {σ : zSt} {a i : Nat} {v : Int32} (h : σ a i = v) : su σ a i v = σ := by
  funext b j
  rw [su_ap]
  by_cases e : b = a ∧ j = i
  · rw [if_pos e, e.1, e.2, h]
  · rw [if_neg e]
theorem xpn_ok {σ : zSt} {m i : Nat} {b : Nat → Nat} (B : BV m b) (X : TX m b σ) (h : σ 71 1 = nI i) (hi : i < 900) : Tape_passNumber σ = some (if fgr m b i = true then (1, su σ 71 1 (nI (nel m b i))) else (0, σ)) := by
  unfold Tape_passNumber Tape_passNumber_c36
  rw [h, xhf_ok B X (by omega), ob_some]
  by_cases e : fgr m b i = true
  · rw [if_pos e, if_pos (fun q => ((b01_0 _).mp q) e), nI_1, xhf_ok B X (by omega), ob_some]
    unfold nel
    by_cases e2 : fgr m b (i + 1) = true
    · rw [if_neg (fun q => ((b01_0 _).mp q) e2), if_pos e2, zlet_ap, z_2, nI_add]
    · rw [if_pos ((b01_0 _).mpr e2), if_neg e2, zlet_ap]
  · rw [if_neg e, if_neg (fun q => q ((b01_0 _).mpr e))]
theorem xpa_ok {σ : zSt} {m i : Nat} {b : Nat → Nat} (B : BV m b) (X : TX m b σ) (h : σ 71 1 = nI i) (hi : i < 800) : Tape_passAct σ = some (b01 (pac m b i).1, su σ 71 1 (nI (pac m b i).2)) := by
  have hl := lni_le (m := m) (i := i) (b := b)
  have hb1 := nel_b (m := m) (b := b) (i := i + 1)
  have r : ∀ (τ : zSt) (v : Int32), su τ 71 1 v 71 1 = v := fun τ v => by rw [su_ap, if_pos ⟨rfl, rfl⟩]
  unfold Tape_passAct pac
  rw [h, xbt_ok B X (by omega), ob_some, xno_ok B, ob_some]
  by_cases h1 : lni m b i = 0
  · rw [if_pos h1, h1, if_neg (fun q => q rfl), su_id h]; rfl
  rw [if_neg h1, if_pos (show ¬ nI (lni m b i) = 0 from nI_ne0 (by omega) (by omega)), nI_1, zlet_ap, xpn_ok (i := i + 1) B (TX_su (by decide) X) (r _ _) (by omega)]
  by_cases h2 : fgr m b (i + 1) = true
  · rw [if_pos h2, if_neg (fun q => by rw [h2] at q; cases q), zb2_sm, su_su, if_pos i10]
    by_cases h3 : lni m b i = 1
    · rw [if_pos h3, h3, if_neg (fun q => q rfl)]; rfl
    rw [if_neg h3, if_pos (show ¬ nI (lni m b i) = 1 from fun q => h3 ((nI_inj (b := 1) (by omega) (by omega)).mp q)), r, xbt_ok B (TX_su (by decide) X) (by omega), ob_some]
    by_cases h4 : bt m b (nel m b (i + 1)) = 44
    · rw [if_pos h4, if_neg (fun q => q h4), nI_1, zlet_ap, su_su, xpn_ok (i := nel m b (i + 1) + 1) B (TX_su (by decide) X) (r _ _) (by omega)]
      by_cases h5 : fgr m b (nel m b (i + 1) + 1) = true
      · rw [if_pos h5, if_neg (fun q => by rw [h5] at q; cases q), zb2_sm, su_su]; rfl
      · rw [if_neg h5, if_pos (bt' h5), zb2_sm]; rfl
    · rw [if_neg h4, if_pos h4]; rfl
  · rw [if_neg h2, if_pos (bt' h2), zb2_sm, if_neg (fun q => q rfl)]; rfl
/-- a text from a place on: whether it is one, where it stands at its end, how many acts -/
def psx (m : Nat) (b : Nat → Nat) : Nat → Nat → Nat → Bool × Nat × Nat
  | 0, i, k => (false, i, k)
  | d + 1, i, k => if (pac m b i).1 = false then (false, (pac m b i).2, k) else if m ≤ (pac m b i).2 then (true, (pac m b i).2, k + 1) else if b (pac m b i).2 = 59 then psx m b d ((pac m b i).2 + 1) (k + 1) else (false, (pac m b i).2, k + 1)
def TF (σ : zSt) (i k : Nat) : zSt := su (su σ 71 2 (nI k)) 71 1 (nI i)
theorem TF_1 {σ : zSt} {i k j : Nat} : su (TF σ i k) 71 1 (nI j) = TF σ j k := su_su _ _ _ _ _
theorem TF_2 {σ : zSt} {i k j : Nat} : su (TF σ i k) 71 2 (nI j) = TF σ i j := by
  funext a q
  unfold TF
  simp only [su_ap]
  by_cases e : a = 71 ∧ q = 2
  · rw [if_pos e, if_neg (by omega), if_pos e]
  · rw [if_neg e, if_neg e, if_neg e]
theorem TF_r1 {σ : zSt} {i k : Nat} : TF σ i k 71 1 = nI i := by unfold TF; rw [su_ap, if_pos ⟨rfl, rfl⟩]
theorem TF_r2 {σ : zSt} {i k : Nat} : TF σ i k 71 2 = nI k := by unfold TF; rw [su_ap, if_neg (by omega), su_ap, if_pos ⟨rfl, rfl⟩]
theorem TF_X {σ : zSt} {m i k : Nat} {b : Nat → Nat} (X : TX m b σ) : TX m b (TF σ i k) := TX_su (by decide) (TX_su (by decide) X)
theorem xff_loop {σ : zSt} {m : Nat} {b : Nat → Nat} (B : BV m b) (X : TX m b σ) : ∀ (d n t i k : Nat), m < i + d → d < n → i ≤ m → 3 * t ≤ i → Tape_findFault_c12 n (nI t) (TF σ i k) = some (if (psx m b d i k).1 = true then mI else nI (psx m b d i k).2.1, TF σ (psx m b d i k).2.1 (psx m b d i k).2.2)
  | d, 0, t, i, k, _, hn, _, _ => absurd hn (Nat.not_lt_zero _)
  | 0, n + 1, t, i, k, h, _, hi, _ => absurd h (by omega)
  | d + 1, n + 1, t, i, k, h, hn, hi, ht => by
    have hB := B.1
    have hp := pac_le (m := m) (b := b) (i := i)
    rw [Tape_findFault_c12, if_neg (show ¬ (80 : Int32) < nI t from nI_nlt (a := 80) (by omega) (by decide)), xpa_ok B (TF_X X) TF_r1 (by omega), zb2_sm, TF_1, psx]
    by_cases h1 : (pac m b i).1 = true
    · have g := hp.2 h1
      rw [if_pos (show ¬ b01 (pac m b i).1 = 0 from fun q => ((b01_0 _).mp q) h1), if_neg (show ¬ (pac m b i).1 = false from fun q => by rw [h1] at q; cases q), TF_r2, nI_1, zlet_ap, TF_2, TF_r1, (TF_X X).1]
      by_cases h2 : m ≤ (pac m b i).2
      · rw [if_neg (nI_nlt h2 (by omega)), if_pos h2]; rfl
      · rw [if_pos (nI_lt (by omega) (by omega)), if_neg h2, xbt_ok B (TF_X X) (by omega), ob_some, show bt m b (pac m b i).2 = nI (b (pac m b i).2) from if_pos (by omega)]
        have hb := B.2 (pac m b i).2 (by omega)
        by_cases h3 : b (pac m b i).2 = 59
        · rw [if_pos (show nI (b (pac m b i).2) = 59 by rw [h3]; rfl), if_pos h3, nI_1, zlet_ap, TF_1, nI_1]
          exact xff_loop B X d n (t + 1) ((pac m b i).2 + 1) (k + 1) (by omega) (by omega) (by omega) (by omega)
        · rw [if_neg (show ¬ nI (b (pac m b i).2) = 59 from fun q => h3 ((nI_inj (b := 59) (by omega) (by decide)).mp q)), if_neg h3]; rfl
    · rw [if_pos (bt' h1), if_neg (fun q => q ((b01_0 _).mpr h1)), TF_r1]; rfl
/-- where the k-th act begins -/
def Pp (m : Nat) (b : Nat → Nat) : Nat → Nat
  | 0 => 0
  | k + 1 => (pac m b (Pp m b k)).2 + 1
theorem psx_ok {m : Nat} {b : Nat → Nat} : ∀ (d i k : Nat), i = Pp m b k → (psx m b d i k).1 = true → (∀ j, j < k → (pac m b (Pp m b j)).1 = true) → (∀ j, j < (psx m b d i k).2.2 → (pac m b (Pp m b j)).1 = true) ∧ k ≤ (psx m b d i k).2.2
  | 0, i, k, _, h, _ => by cases h
  | d + 1, i, k, hi, h, hk => by
    unfold psx at h ⊢
    by_cases h1 : (pac m b i).1 = true
    · have hk2 : ∀ j, j < k + 1 → (pac m b (Pp m b j)).1 = true := fun j hj => by
        by_cases e : j = k
        · rw [e, ← hi]; exact h1
        · exact hk j (by omega)
      have hf : ¬ (pac m b i).1 = false := fun q => by rw [h1] at q; cases q
      rw [if_neg hf] at h ⊢
      by_cases h2 : m ≤ (pac m b i).2
      · rw [if_pos h2] at h ⊢
        exact ⟨hk2, Nat.le_succ _⟩
      · rw [if_neg h2] at h ⊢
        by_cases h3 : b (pac m b i).2 = 59
        · rw [if_pos h3] at h ⊢
          have := psx_ok d ((pac m b i).2 + 1) (k + 1) (by rw [hi]; rfl) h hk2
          exact ⟨this.1, by omega⟩
        · rw [if_neg h3] at h; cases h
    · rw [if_pos (bt' h1)] at h; cases h
/-- the second number of an act -/
def v2l (m : Nat) (b : Nat → Nat) (i : Nat) : Nat := if lni m b i = 2 then nvl m b (nel m b (i + 1) + 1) else 0
theorem dig {v c : Nat} (hc : 48 ≤ c) : (10 : Int32) * nI v + nI c - 48 = nI (10 * v + (c - 48)) := by
  rw [z_10, pk_mul, nI_add, z_48, pk_sub (by omega)]
  congr 1
  omega
theorem xnb_ok {σ : zSt} {m i : Nat} {b : Nat → Nat} (B : BV m b) (X : TX m b σ) (h : σ 71 1 = nI i) (hi : i < m) : Tape_nextByte σ = some (nI (b i), su σ 71 1 (nI (i + 1))) := by
  have hB := B.1
  unfold Tape_nextByte
  rw [h, xbt_ok B X (by omega), ob_some, nI_1, zlet_ap]
  unfold bt
  rw [if_pos hi]
theorem xnn_ok {σ : zSt} {m i : Nat} {b : Nat → Nat} (B : BV m b) (X : TX m b σ) (h : σ 71 1 = nI i) (hf : fgr m b i = true) : Tape_nextNumber σ = some (nI (nvl m b i), su σ 71 1 (nI (nel m b i + 1))) := by
  have hB := B.1
  have g := fgr_at hf
  have r : ∀ (τ : zSt) (v : Int32), su τ 71 1 v 71 1 = v := fun τ v => by rw [su_ap, if_pos ⟨rfl, rfl⟩]
  have d1 : (10 : Int32) * 0 + nI (b i) - 48 = nI (b i - 48) := by
    have := dig (v := 0) g.2.1
    rw [Nat.mul_zero, Nat.zero_add] at this
    exact this
  show Tape_nextNumber_c4 (4093 + 3) (nI 0) (nI 0) σ = _
  rw [Tape_nextNumber_c4, if_neg (show ¬ (2 : Int32) ≤ nI 0 by decide), h, xhf_ok B X (by omega), ob_some, if_neg (fun q => ((b01_0 _).mp q) hf), xnb_ok B X h g.1, zb2_sm]
  rw [show (10 : Int32) * nI 0 + nI (b i) - 48 = nI (b i - 48) from d1, nI_1]
  rw [Tape_nextNumber_c4, if_neg (show ¬ (2 : Int32) ≤ nI (0 + 1) by decide), r, xhf_ok B (TX_su (by decide) X) (by omega), ob_some]
  unfold nvl nel Tape_nextNumber_c39
  by_cases e : fgr m b (i + 1) = true
  · have g2 := fgr_at e
    rw [if_pos e, if_pos e, if_neg (fun q => ((b01_0 _).mp q) e), xnb_ok B (TX_su (by decide) X) (r _ _) g2.1, zb2_sm, su_su, dig g2.2.1, nI_1]
    rw [Tape_nextNumber_c4, if_pos (show (2 : Int32) ≤ nI (0 + 1 + 1) by decide)]
    unfold Tape_nextNumber_c39
    rw [r, nI_1, zlet_ap, su_su]
  · rw [if_neg e, if_neg e, if_pos ((b01_0 _).mpr e), r, nI_1, zlet_ap, su_su]
theorem xda_ok {σ : zSt} {m i : Nat} {b : Nat → Nat} (B : BV m b) (X : TX m b σ) (h : σ 71 1 = nI i) (hp : (pac m b i).1 = true) : X_doAct σ = X_doAct_c35 (nI (b i)) (nI (nvl m b (i + 1))) (nI (v2l m b i)) (su σ 71 1 (nI ((pac m b i).2 + 1))) := by
  have hB := B.1
  obtain ⟨_, g⟩ := pac_le (m := m) (b := b) (i := i)
  obtain ⟨g1, g2, g3, g4, g5, g6, g7⟩ := g hp
  have r : ∀ (τ : zSt) (v : Int32), su τ 71 1 v 71 1 = v := fun τ v => by rw [su_ap, if_pos ⟨rfl, rfl⟩]
  have hn : Tape_numbersOf (nI (b i)) (su σ 71 1 (nI (nel m b (i + 1) + 1))) = some (nI (lni m b i)) := by
    have := xno_ok (σ := su σ 71 1 (nI (nel m b (i + 1) + 1))) (i := i) B
    unfold bt at this
    rw [if_pos g3] at this
    exact this
  unfold X_doAct
  rw [xnb_ok B X h g3, zb2_sm, xnn_ok B (TX_su (by decide) X) (r _ _) g4, zb2_sm, su_su, hn, ob_some]
  unfold v2l
  rcases g5 with e | e
  · rw [if_pos (show ¬ nI (lni m b i) = 2 by rw [e]; decide), if_neg (by omega), g7 e]
    rfl
  · obtain ⟨k1, k2⟩ := g6 e
    rw [if_neg (show ¬ ¬ nI (lni m b i) = 2 from fun q => q (by rw [e]; rfl)), if_pos e, xnn_ok B (TX_su (by decide) X) (r _ _) k1, zb2_sm, su_su, k2]

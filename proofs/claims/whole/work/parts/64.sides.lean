/-! PURE: what is kept, apart: the class's side, the reference's side, the rest -/
abbrev yE : Type := Nat × Nat × Nat × Int32 × Int32
abbrev yH : Type := Nat × Nat × (Nat → yE)
def hd (H : yH) : Nat := H.1
def ht (H : yH) : Nat := H.2.1
def he (H : yH) : Nat → yE := H.2.2
def ew (E : yE) : Nat := E.1
def ei (E : yE) : Nat := E.2.1
def ej (E : yE) : Nat := E.2.2.1
def eb (E : yE) : Int32 := E.2.2.2.1
def ea (E : yE) : Int32 := E.2.2.2.2
def EV (n : Nat) (E : yE) : Prop := (ew E ≤ 4 ∧ ei E < 9 ∧ ej E < 9) ∧ okv n (ew E) (ei E) (ej E) (eb E) ∧ okv n (ew E) (ei E) (ej E) (ea E)
def HV (n : Nat) (H : yH) : Prop := (hd H ≤ ht H ∧ ht H ≤ 12) ∧ ∀ q, q < ht H → EV n (he H q)
def XE (c : Nat) (E : yE) (σ : zSt) : Prop := σ c 0 = nI (ew E) ∧ σ c 1 = nI (ei E) ∧ σ c 2 = nI (ej E) ∧ σ c 3 = eb E ∧ σ c 4 = ea E
def ME (q : Nat) (E : yE) (σ : zSt) : Prop := σ 79 q = nI (ew E) ∧ σ 80 q = nI (pl (ew E) (ei E) (ej E)) ∧ σ 81 q = eb E ∧ σ 82 q = ea E
def XH (H : yH) (σ : zSt) : Prop := ht H ≤ 12 ∧ (σ 29 1 = nI (hd H) ∧ σ 29 2 = nI (ht H)) ∧ ∃ c, Hp c σ ∧ ∀ q, q < ht H → XE (c q) (he H q) σ
def MH (H : yH) (σ : zSt) : Prop := (σ 75 11 = nI (hd H) ∧ σ 75 12 = nI (ht H - hd H)) ∧ ∀ q, q < ht H → ME q (he H q) σ
def XI (D : yD) (H : yH) (σ : zSt) : Prop := CN 1 2 3 4 6 D σ ∧ XH H σ
def MI (D : yD) (H : yH) (σ : zSt) : Prop := MN 3 4 5 6 76 77 78 D σ ∧ MH H σ
def fX (a i : Nat) : Bool := fC1 a i || (Nat.ble 29 a && Nat.ble a 42)
def fM (a i : Nat) : Bool := fM1 a i || (Nat.beq a 75 && (Nat.beq i 11 || Nat.beq i 12)) || (Nat.ble 79 a && Nat.ble a 82)
/-- the rest of what is kept -/
def fO (a i : Nat) : Bool := fCk a i || fMk a i || fK0 a i || fRw a i || fTp a i || fTr a i || fCe a i
theorem fX_iff {a i : Nat} : fX a i = true ↔ (1 ≤ a ∧ a ≤ 14) ∨ (29 ≤ a ∧ a ≤ 42) := by
  unfold fX fC1
  simp only [zbl, Bool.or_eq_true, Bool.and_eq_true, decide_eq_true_eq]
theorem fM_iff {a i : Nat} : fM a i = true ↔ ((a = 75 ∧ 3 ≤ i ∧ i ≤ 6) ∨ (76 ≤ a ∧ a ≤ 78)) ∨ (a = 75 ∧ (i = 11 ∨ i = 12)) ∨ (79 ≤ a ∧ a ≤ 82) := by
  unfold fM fM1
  simp only [zbl, zbq, Bool.or_eq_true, Bool.and_eq_true, decide_eq_true_eq, or_assoc]
theorem fO_iff {a i : Nat} : fO a i = true ↔ (15 ≤ a ∧ a ≤ 28) ∨ ((a = 75 ∧ 40 ≤ i ∧ i ≤ 43) ∨ (96 ≤ a ∧ a ≤ 98)) ∨ (a = 0 ∧ i = 2) ∨ ((65 ≤ a ∧ a ≤ 70) ∨ (88 ≤ a ∧ a ≤ 90)) ∨ ((a = 71 ∧ i = 0) ∨ a = 72 ∨ (a = 75 ∧ i = 28) ∨ a = 91) ∨ ((a = 73 ∧ i = 3) ∨ a = 74 ∨ (a = 75 ∧ i = 36) ∨ a = 95) ∨ a = 52 := by
  unfold fO fCk fMk fK0 fRw fTp fTr fCe
  simp only [zbl, zbq, Bool.or_eq_true, Bool.and_eq_true, decide_eq_true_eq, or_assoc]
theorem f_no {a i : Nat} {f : Nat → Nat → Bool} (h : ¬ f a i = true) : f a i = false := by
  cases q : f a i with
  | false => rfl
  | true => exact absurd q h
theorem f_nt {b : Bool} (h : b = false) : ¬ b = true := fun q => by rw [h] at q; cases q
theorem fX_M {a i : Nat} (h : fX a i = true) : fM a i = false := f_no fun q => by
  have h1 := fX_iff.mp h
  have h2 := fM_iff.mp q
  omega
theorem fM_X {a i : Nat} (h : fM a i = true) : fX a i = false := f_no fun q => by
  have h1 := fM_iff.mp h
  have h2 := fX_iff.mp q
  omega
theorem fO_X {a i : Nat} (h : fO a i = true) : fX a i = false := f_no fun q => by
  have h1 := fO_iff.mp h
  have h2 := fX_iff.mp q
  omega
theorem fO_M {a i : Nat} (h : fO a i = true) : fM a i = false := f_no fun q => by
  have h1 := fO_iff.mp h
  have h2 := fM_iff.mp q
  omega
theorem fX_at {a i : Nat} (h : fX a i = false) : ¬ ((1 ≤ a ∧ a ≤ 14) ∨ (29 ≤ a ∧ a ≤ 42)) := fun q => f_nt h (fX_iff.mpr q)
theorem fM_at {a i : Nat} (h : fM a i = false) : ¬ (((a = 75 ∧ 3 ≤ i ∧ i ≤ 6) ∨ (76 ≤ a ∧ a ≤ 78)) ∨ (a = 75 ∧ (i = 11 ∨ i = 12)) ∨ (79 ≤ a ∧ a ≤ 82)) := fun q => f_nt h (fM_iff.mpr q)
theorem fX_C {a i : Nat} (h : fX a i = false) : fC1 a i = false := f_no fun q => by
  have := fX_at h
  unfold fC1 at q
  simp only [zbl, Bool.and_eq_true, decide_eq_true_eq] at q
  omega
theorem fM_N {a i : Nat} (h : fM a i = false) : fM1 a i = false := f_no fun q => by
  have := fM_at h
  unfold fM1 at q
  simp only [zbl, zbq, Bool.or_eq_true, Bool.and_eq_true, decide_eq_true_eq] at q
  omega
theorem XE_sm {c : Nat} {E : yE} {σ σ2 : zSt} (e : ∀ i, σ2 c i = σ c i) (h : XE c E σ) : XE c E σ2 := ⟨(e 0).trans h.1, (e 1).trans h.2.1, (e 2).trans h.2.2.1, (e 3).trans h.2.2.2.1, (e 4).trans h.2.2.2.2⟩
theorem ME_sm {q : Nat} {E : yE} {σ σ2 : zSt} (e : ∀ a, 79 ≤ a → a ≤ 82 → σ2 a q = σ a q) (h : ME q E σ) : ME q E σ2 := ⟨(e 79 (by decide) (by decide)).trans h.1, (e 80 (by decide) (by decide)).trans h.2.1, (e 81 (by decide) (by decide)).trans h.2.2.1, (e 82 (by decide) (by decide)).trans h.2.2.2⟩
theorem XI_sm {D : yD} {H : yH} {σ σ2 : zSt} (S : Sm fX σ σ2) (h : XI D H σ) : XI D H σ2 := by
  obtain ⟨h1, h0, ⟨h2, h3⟩, c, ⟨h4, h5⟩, h6⟩ := h
  have S1 : Sm fC1 σ σ2 := fun a i q => S a i (by unfold fX; rw [q]; rfl)
  have S2 : ∀ a i, 29 ≤ a → a ≤ 42 → σ2 a i = σ a i := fun a i q q2 => S a i (fX_iff.mpr (Or.inr ⟨q, q2⟩))
  refine ⟨CN1_sm S1 h1, h0, ⟨(S2 _ _ (by decide) (by decide)).trans h2, (S2 _ _ (by decide) (by decide)).trans h3⟩, c, ⟨fun q hq => ⟨(S2 _ _ (by decide) (by decide)).trans (h4 q hq).1, (h4 q hq).2⟩, h5⟩, fun q hq => ?_⟩
  have hc := (h4 q (by omega)).2
  exact XE_sm (fun i => S2 _ _ (by omega) (by omega)) (h6 q hq)
theorem MI_sm {D : yD} {H : yH} {σ σ2 : zSt} (S : Sm fM σ σ2) (h : MI D H σ) : MI D H σ2 := by
  obtain ⟨h1, ⟨h2, h3⟩, h4⟩ := h
  have S1 : Sm fM1 σ σ2 := fun a i q => S a i (by unfold fM; rw [q]; rfl)
  have S2 : ∀ a i, 79 ≤ a → a ≤ 82 → σ2 a i = σ a i := fun a i q q2 => S a i (fM_iff.mpr (Or.inr (Or.inr ⟨q, q2⟩)))
  exact ⟨MN1_sm S1 h1, ⟨(S 75 11 rfl).trans h2, (S 75 12 rfl).trans h3⟩, fun q hq => ME_sm (fun a q1 q2 => S2 a q q1 q2) (h4 q hq)⟩
theorem In_sides {D : yD} {σ : zSt} (I : In D σ) : ∃ H, HV (dn D) H ∧ XI D H σ ∧ MI D H σ := by
  obtain ⟨V, C, M, _, ⟨d, t, c, ⟨h1, h2⟩, ⟨h3, h4⟩, ⟨h5, h6⟩, hp, hq⟩, _⟩ := I
  have hE : ∀ q, ∃ E : yE, q < t → EV (dn D) E ∧ XE (c q) E σ ∧ ME q E σ := fun q => by
    by_cases h : q < t
    · obtain ⟨w, i, j, g1, ⟨g2, g3, g4⟩, ⟨g5, g6, g7, g8⟩, g9, g10⟩ := hq q h
      exact ⟨(w, i, j, σ (c q) 3, σ (c q) 4), fun _ => ⟨⟨g1, g9, g10⟩, ⟨g2, g3, g4, rfl, rfl⟩, ⟨g5, g6, g7, g8⟩⟩⟩
    · exact ⟨(0, 0, 0, 0, 0), fun q => absurd q h⟩
  obtain ⟨e, he⟩ := Classical.axiomOfChoice hE
  exact ⟨(d, t, e), ⟨⟨h1, h2⟩, fun q h => (he q h).1⟩, ⟨C, h2, ⟨h3, h4⟩, c, hp, fun q h => (he q h).2.1⟩, ⟨M, ⟨h5, h6⟩, fun q h => (he q h).2.2⟩⟩
theorem Hi_of {D : yD} {n : Nat} {H : yH} {σ : zSt} (h : HV n H) (X : XI D H σ) (M : MI D H σ) : Hi n σ := by
  obtain ⟨⟨h1, h2⟩, h3⟩ := h
  obtain ⟨_, _, ⟨x1, x2⟩, c, x3, x4⟩ := X
  obtain ⟨_, ⟨m1, m2⟩, m3⟩ := M
  refine ⟨hd H, ht H, c, ⟨h1, h2⟩, ⟨x1, x2⟩, ⟨m1, m2⟩, x3, fun q hq => ?_⟩
  obtain ⟨g1, g2, g3⟩ := h3 q hq
  obtain ⟨a1, a2, a3, a4, a5⟩ := x4 q hq
  obtain ⟨b1, b2, b3, b4⟩ := m3 q hq
  exact ⟨ew (he H q), ei (he H q), ej (he H q), g1, ⟨a1, a2, a3⟩, ⟨b1, b2, b3.trans a4.symm, b4.trans a5.symm⟩, by rw [a4]; exact g2, by rw [a5]; exact g3⟩
/-- what the rest says -/
theorem O_sm {D : yD} {σ σ2 : zSt} (S : Sm fO σ σ2) (I : In D σ) : Kp σ2 ∧ Rw σ2 ∧ Tp σ2 ∧ Tr σ2 ∧ Ce σ2 := by
  obtain ⟨_, _, _, h4, _, h6, h7, h8, h9⟩ := I
  have s : Sm fCk σ σ2 ∧ Sm fMk σ σ2 ∧ Sm fK0 σ σ2 ∧ Sm fRw σ σ2 ∧ Sm fTp σ σ2 ∧ Sm fTr σ σ2 ∧ Sm fCe σ σ2 := by
    refine ⟨fun a i h => ?_, fun a i h => ?_, fun a i h => ?_, fun a i h => ?_, fun a i h => ?_, fun a i h => ?_, fun a i h => ?_⟩
    all_goals refine S a i ?_
    all_goals unfold fO
    all_goals rw [h]
    all_goals simp
  obtain ⟨s1, s2, s3, s4, s5, s6, s7⟩ := s
  exact ⟨Kp_sm s3 s1 s2 h4, Rw_sm s4 h6, Tp_sm s5 h7, Tr_sm s6 h8, Ce_sm s7 h9⟩
theorem In_next {D D2 : yD} {H2 : yH} {σ σ1 σ2 : zSt} (I : In D σ) (V2 : Vd D2) (h2 : HV (dn D2) H2) (x : XI D2 H2 σ1) (e1 : ∀ a q, fX a q = false → σ1 a q = σ a q) (m : MI D2 H2 σ2) (e2 : ∀ a q, fM a q = false → σ2 a q = σ1 a q) : In D2 σ2 := by
  have x2 : XI D2 H2 σ2 := XI_sm (fun a i h => e2 a i (fX_M h)) x
  obtain ⟨o1, o2, o3, o4, o5⟩ := O_sm (σ2 := σ2) (fun a i h => (e2 a i (fO_M h)).trans (e1 a i (fO_X h))) I
  exact ⟨V2, x2.1, m.1, o1, Hi_of h2 x2 m, o2, o3, o4, o5⟩
/-- a call that changes what is kept, side by side -/
def XS (f : zSt → Option (Int32 × zSt)) (D : yD) (H : yH) (r : Int32) (D2 : yD) (H2 : yH) : Prop := ∀ σ, XI D H σ → ∃ σ2, f σ = some (r, σ2) ∧ XI D2 H2 σ2 ∧ ∀ a q, fX a q = false → σ2 a q = σ a q
def MS (f : zSt → Option (Int32 × zSt)) (D : yD) (H : yH) (r : Int32) (D2 : yD) (H2 : yH) : Prop := ∀ σ, MI D H σ → ∃ σ2, f σ = some (r, σ2) ∧ MI D2 H2 σ2 ∧ ∀ a q, fM a q = false → σ2 a q = σ a q
def St (f g : zSt → Option (Int32 × zSt)) : Prop := ∀ D H, Vd D → HV (dn D) H → ∃ r D2 H2, Vd D2 ∧ HV (dn D2) H2 ∧ XS f D H r D2 H2 ∧ MS g D H r D2 H2
theorem St_Q2 {f g : zSt → Option (Int32 × zSt)} (h : St f g) : Q2 f g := by
  rintro σ ⟨D, I⟩
  obtain ⟨H, h1, x, m⟩ := In_sides I
  obtain ⟨r, D2, H2, V2, k2, xs, ms⟩ := h D H I.1 h1
  obtain ⟨σ1, e1, x1, f1⟩ := xs σ x
  obtain ⟨σ2, e2, m2, f2⟩ := ms σ1 (MI_sm (fun a i q => f1 a i (fM_X q)) m)
  exact ⟨r, σ1, σ2, e1, e2, D2, In_next I V2 k2 x1 f1 m2 f2⟩
theorem XS_id {f : zSt → Option (Int32 × zSt)} {D : yD} {H : yH} {r : Int32} (h : ∀ σ, XI D H σ → f σ = some (r, σ)) : XS f D H r D H := fun σ x => ⟨σ, h σ x, x, fun _ _ _ => rfl⟩
theorem MS_id {f : zSt → Option (Int32 × zSt)} {D : yD} {H : yH} {r : Int32} (h : ∀ σ, MI D H σ → f σ = some (r, σ)) : MS f D H r D H := fun σ x => ⟨σ, h σ x, x, fun _ _ _ => rfl⟩
theorem pt2 {n : Nat} (hn : 1 ≤ n ∧ n ≤ 9) (x : Int32) : ((∀ σ : zSt, σ 1 0 = nI n → Net_hasPoint x σ = some 0) ∧ ∀ σ : zSt, σ 75 3 = nI n → M_isPoint x σ = some 0) ∨ ∃ a, x = nI a ∧ a < n ∧ (∀ σ : zSt, σ 1 0 = nI n → Net_hasPoint x σ = some 1) ∧ ∀ σ : zSt, σ 75 3 = nI n → M_isPoint x σ = some 1 := by
  have e1 : nI n - 1 = nI (n - 1) := pk_sub (b := 1) (by omega)
  rcases rng x 0 (n - 1) (by decide) (by omega) with h | ⟨h, h2, h3⟩ | ⟨s, _, h2, rfl⟩
  · refine Or.inl ⟨fun σ I => if_pos h, fun σ I => ?_⟩
    unfold M_isPoint
    rw [show (0 : Int32) = nI 0 from rfl, min_lo h, ob_some]
    rfl
  · have h4 : nI n ≤ x := by
      rw [Int32.lt_iff_toInt_lt, nI_toInt (by omega)] at h2
      rw [Int32.le_iff_toInt_le, nI_toInt (by omega)]
      omega
    refine Or.inl ⟨fun σ I => ?_, fun σ I => ?_⟩
    · unfold Net_hasPoint
      rw [if_neg (show ¬ x < 0 from h), I, if_pos h4]
    · unfold M_isPoint
      rw [I, e1, show (0 : Int32) = nI 0 from rfl, min_hi h h2, ob_some]
      rfl
  · refine Or.inr ⟨s, rfl, by omega, fun σ I => ?_, fun σ I => ?_⟩
    · unfold Net_hasPoint
      rw [if_neg (nI_pos (by omega)), I, if_neg (nI_ge (by omega) (by omega))]
    · unfold M_isPoint
      rw [I, e1, show (0 : Int32) = nI 0 from rfl, min_ok (Nat.zero_le _) h2 (by omega), ob_some]
      rfl

/-! PURE: what holds between any two calls -/
abbrev yD : Type := Nat × Nat × Nat × Nat × (Nat → Nat → Int32) × (Nat → Nat) × (Nat → Nat)
def dn (D : yD) : Nat := D.1
def dr (D : yD) : Nat := D.2.1
def dk (D : yD) : Nat := D.2.2.1
def dp (D : yD) : Nat := D.2.2.2.1
def dT (D : yD) : Nat → Nat → Int32 := D.2.2.2.2.1
def dK (D : yD) : Nat → Nat := D.2.2.2.2.2.1
def dC (D : yD) : Nat → Nat := D.2.2.2.2.2.2
def prim (p : Nat) : Prop := p = 11 ∨ p = 13 ∨ p = 17 ∨ p = 19 ∨ p = 23 ∨ p = 29 ∨ p = 31
def ent (v : Int32) : Prop := -9 ≤ v.toInt ∧ v.toInt ≤ 9
def Vd (D : yD) : Prop := (1 ≤ dn D ∧ dn D ≤ 9) ∧ (dr D ≤ 4 ∧ 1 ≤ dk D ∧ dk D ≤ 4) ∧ prim (dp D) ∧ (∀ i j, dT D i j = dT D j i) ∧ (∀ i j, dn D ≤ i → dT D i j = 0) ∧ (∀ i j, ent (dT D i j)) ∧ (∀ i, dK D i ≤ 4) ∧ (∀ i, dC D i ≤ 9)
def nbf (T : Nat → Nat → Int32) (i j : Nat) : Nat := if j ≠ i ∧ T i j ≠ 0 then 2 ^ j else 0
def nbm (T : Nat → Nat → Int32) (i : Nat) : Nat := orf (nbf T i) 9
def CN (f nr ki co row : Nat) (D : yD) (σ : zSt) : Prop := (σ f 0 = nI (dn D) ∧ σ f 1 = nI (dr D) ∧ σ f 2 = nI (dk D) ∧ σ f 3 = nI (dp D)) ∧ (∀ i, i < 9 → σ nr i = nI (nbm (dT D) i)) ∧ (∀ i, i < 9 → σ ki i = nI (dK D i)) ∧ (∀ i, i < 9 → σ co i = nI (dC D i)) ∧ (∀ i, i < 9 → ∀ j, j < 9 → σ (row + i) j = dT D i j)
def MN (pn pr pk pp t ki co : Nat) (D : yD) (σ : zSt) : Prop := (σ 75 pn = nI (dn D) ∧ σ 75 pr = nI (dr D) ∧ σ 75 pk = nI (dk D) ∧ σ 75 pp = nI (dp D)) ∧ (∀ i, i < 9 → ∀ j, j < 9 → σ t (9 * i + j) = dT D i j) ∧ (∀ i, i < 9 → σ ki i = nI (dK D i)) ∧ (∀ i, i < 9 → σ co i = nI (dC D i))
def Kp (σ : zSt) : Prop := (σ 0 2 = 0 ∧ σ 75 40 = 0) ∨ (σ 0 2 = 1 ∧ ∃ E, Vd E ∧ CN 15 16 17 18 20 E σ ∧ MN 40 41 42 43 96 97 98 E σ)
def pl (w i j : Nat) : Nat := if w = 0 then 9 * i + j else if w ≤ 2 then i else 0
def okv (n w i j : Nat) (v : Int32) : Prop := (w = 0 ∧ i < n ∧ j < n ∧ ent v) ∨ (w = 1 ∧ ∃ a, a ≤ 4 ∧ v = nI a) ∨ (w = 2 ∧ ∃ a, a ≤ 9 ∧ v = nI a) ∨ (w = 3 ∧ ∃ r k, r ≤ 4 ∧ 1 ≤ k ∧ k ≤ 4 ∧ v = nI (10 * r + k)) ∨ (w = 4 ∧ ∃ p, prim p ∧ v = nI p)
def He (n q c w i j : Nat) (σ : zSt) : Prop := (w ≤ 4 ∧ i < 9 ∧ j < 9) ∧ (σ c 0 = nI w ∧ σ c 1 = nI i ∧ σ c 2 = nI j) ∧ (σ 79 q = nI w ∧ σ 80 q = nI (pl w i j) ∧ σ 81 q = σ c 3 ∧ σ 82 q = σ c 4) ∧ okv n w i j (σ c 3) ∧ okv n w i j (σ c 4)
def Hp (c : Nat → Nat) (σ : zSt) : Prop := (∀ q, q < 12 → σ 30 q = nI (c q) ∧ 31 ≤ c q ∧ c q ≤ 42) ∧ ∀ q q2, q < 12 → q2 < 12 → c q = c q2 → q = q2
def Hi (n : Nat) (σ : zSt) : Prop := ∃ (d t : Nat) (c : Nat → Nat), (d ≤ t ∧ t ≤ 12) ∧ (σ 29 1 = nI d ∧ σ 29 2 = nI t) ∧ (σ 75 11 = nI d ∧ σ 75 12 = nI (t - d)) ∧ Hp c σ ∧ ∀ q, q < t → ∃ w i j, He n q (c q) w i j σ
def Rl (l : Nat) (σ : zSt) : Prop := (σ (65 + 2 * l) 0 = mI ∧ σ 88 l = 0) ∨ ∃ m, m ≤ 40 ∧ σ (65 + 2 * l) 0 = nI m ∧ σ 88 l = 1 ∧ σ 89 l = nI m ∧ ∀ i, i < m → σ (66 + 2 * l) i = σ 90 (40 * l + i)
def Rw (σ : zSt) : Prop := ∀ l, l < 3 → Rl l σ
def Tp (σ : zSt) : Prop := ∃ m, m ≤ 80 ∧ σ 71 0 = nI m ∧ σ 75 28 = nI m ∧ ∀ i, i < m → σ 72 i = σ 91 i ∧ ∃ b, 32 ≤ b ∧ b ≤ 126 ∧ σ 91 i = nI b
def Tr (σ : zSt) : Prop := ∃ m, m < 1000 ∧ σ 75 36 = nI m ∧ σ 73 3 = nI (min m 24) ∧ ∀ i, i < min m 24 → σ 74 i = σ 95 i
def Ce (σ : zSt) : Prop := ∃ c : Nat → Nat, (∀ q, q < 9 → σ 52 q = nI (c q) ∧ 53 ≤ c q ∧ c q ≤ 61) ∧ ∀ q q2, q < 9 → q2 < 9 → c q = c q2 → q = q2
def In (D : yD) (σ : zSt) : Prop := Vd D ∧ CN 1 2 3 4 6 D σ ∧ MN 3 4 5 6 76 77 78 D σ ∧ Kp σ ∧ Hi (dn D) σ ∧ Rw σ ∧ Tp σ ∧ Tr σ ∧ Ce σ
def Inv (σ : zSt) : Prop := ∃ D, In D σ
-- footprints
def fC1 (a _i : Nat) : Bool := Nat.ble 1 a && Nat.ble a 14
def fCk (a _i : Nat) : Bool := Nat.ble 15 a && Nat.ble a 28
def fM1 (a i : Nat) : Bool := (Nat.beq a 75 && (Nat.ble 3 i && Nat.ble i 6)) || (Nat.ble 76 a && Nat.ble a 78)
def fMk (a i : Nat) : Bool := (Nat.beq a 75 && (Nat.ble 40 i && Nat.ble i 43)) || (Nat.ble 96 a && Nat.ble a 98)
def fK0 (a i : Nat) : Bool := Nat.beq a 0 && Nat.beq i 2
def fHi (a i : Nat) : Bool := (Nat.ble 29 a && Nat.ble a 42) || (Nat.beq a 75 && (Nat.beq i 11 || Nat.beq i 12)) || (Nat.ble 79 a && Nat.ble a 82)
def fRw (a _i : Nat) : Bool := (Nat.ble 65 a && Nat.ble a 70) || (Nat.ble 88 a && Nat.ble a 90)
def fTp (a i : Nat) : Bool := (Nat.beq a 71 && Nat.beq i 0) || Nat.beq a 72 || (Nat.beq a 75 && Nat.beq i 28) || Nat.beq a 91
def fTr (a i : Nat) : Bool := (Nat.beq a 73 && Nat.beq i 3) || Nat.beq a 74 || (Nat.beq a 75 && Nat.beq i 36) || Nat.beq a 95
def fCe (a _i : Nat) : Bool := Nat.beq a 52
def Sm (f : Nat → Nat → Bool) (σ σ2 : zSt) : Prop := ∀ a i, f a i = true → σ2 a i = σ a i
theorem bb {a b : Nat} (h : a ≤ b) : Nat.ble a b = true := by rw [zbl]; exact decide_eq_true h
theorem fC1_in {a i : Nat} (h : 1 ≤ a) (h2 : a ≤ 14) : fC1 a i = true := by unfold fC1; rw [bb h, bb h2]; rfl
theorem fCk_in {a i : Nat} (h : 15 ≤ a) (h2 : a ≤ 28) : fCk a i = true := by unfold fCk; rw [bb h, bb h2]; rfl
theorem CN1_sm {D : yD} {σ σ2 : zSt} (S : Sm fC1 σ σ2) (h : CN 1 2 3 4 6 D σ) : CN 1 2 3 4 6 D σ2 := by
  obtain ⟨⟨h1, h2, h3, h4⟩, h5, h6, h7, h8⟩ := h
  refine ⟨⟨(S _ _ rfl).trans h1, (S _ _ rfl).trans h2, (S _ _ rfl).trans h3, (S _ _ rfl).trans h4⟩, fun i hi => (S _ _ rfl).trans (h5 i hi), fun i hi => (S _ _ rfl).trans (h6 i hi), fun i hi => (S _ _ rfl).trans (h7 i hi), fun i hi j hj => (S _ _ (fC1_in (by omega) (by omega))).trans (h8 i hi j hj)⟩
theorem CNk_sm {D : yD} {σ σ2 : zSt} (S : Sm fCk σ σ2) (h : CN 15 16 17 18 20 D σ) : CN 15 16 17 18 20 D σ2 := by
  obtain ⟨⟨h1, h2, h3, h4⟩, h5, h6, h7, h8⟩ := h
  refine ⟨⟨(S _ _ rfl).trans h1, (S _ _ rfl).trans h2, (S _ _ rfl).trans h3, (S _ _ rfl).trans h4⟩, fun i hi => (S _ _ rfl).trans (h5 i hi), fun i hi => (S _ _ rfl).trans (h6 i hi), fun i hi => (S _ _ rfl).trans (h7 i hi), fun i hi j hj => (S _ _ (fCk_in (by omega) (by omega))).trans (h8 i hi j hj)⟩
theorem MN1_sm {D : yD} {σ σ2 : zSt} (S : Sm fM1 σ σ2) (h : MN 3 4 5 6 76 77 78 D σ) : MN 3 4 5 6 76 77 78 D σ2 := by
  obtain ⟨⟨h1, h2, h3, h4⟩, h5, h6, h7⟩ := h
  refine ⟨⟨(S _ _ rfl).trans h1, (S _ _ rfl).trans h2, (S _ _ rfl).trans h3, (S _ _ rfl).trans h4⟩, fun i hi j hj => (S _ _ rfl).trans (h5 i hi j hj), fun i hi => (S _ _ rfl).trans (h6 i hi), fun i hi => (S _ _ rfl).trans (h7 i hi)⟩
theorem MNk_sm {D : yD} {σ σ2 : zSt} (S : Sm fMk σ σ2) (h : MN 40 41 42 43 96 97 98 D σ) : MN 40 41 42 43 96 97 98 D σ2 := by
  obtain ⟨⟨h1, h2, h3, h4⟩, h5, h6, h7⟩ := h
  refine ⟨⟨(S _ _ rfl).trans h1, (S _ _ rfl).trans h2, (S _ _ rfl).trans h3, (S _ _ rfl).trans h4⟩, fun i hi j hj => (S _ _ rfl).trans (h5 i hi j hj), fun i hi => (S _ _ rfl).trans (h6 i hi), fun i hi => (S _ _ rfl).trans (h7 i hi)⟩
theorem Kp_sm {σ σ2 : zSt} (S0 : Sm fK0 σ σ2) (S1 : Sm fCk σ σ2) (S2 : Sm fMk σ σ2) (h : Kp σ) : Kp σ2 := by
  rcases h with ⟨h1, h2⟩ | ⟨h1, E, h2, h3, h4⟩
  · exact Or.inl ⟨(S0 _ _ rfl).trans h1, (S2 _ _ rfl).trans h2⟩
  · exact Or.inr ⟨(S0 _ _ rfl).trans h1, E, h2, CNk_sm S1 h3, MNk_sm S2 h4⟩
theorem fHi_in {a i : Nat} (h : 29 ≤ a) (h2 : a ≤ 42) : fHi a i = true := by unfold fHi; rw [bb h, bb h2]; rfl
theorem Hi_sm {n : Nat} {σ σ2 : zSt} (S : Sm fHi σ σ2) (h : Hi n σ) : Hi n σ2 := by
  obtain ⟨d, t, c, h1, ⟨h2, h3⟩, ⟨h4, h5⟩, ⟨h6, h7⟩, h8⟩ := h
  refine ⟨d, t, c, h1, ⟨(S _ _ rfl).trans h2, (S _ _ rfl).trans h3⟩, ⟨(S _ _ rfl).trans h4, (S _ _ rfl).trans h5⟩, ⟨fun q hq => ⟨(S _ _ rfl).trans (h6 q hq).1, (h6 q hq).2⟩, h7⟩, fun q hq => ?_⟩
  obtain ⟨w, i, j, g1, ⟨g2, g3, g4⟩, ⟨g5, g6, g7, g8⟩, g9, g10⟩ := h8 q hq
  have hc := (h6 q (by omega)).2
  have e : ∀ i, σ2 (c q) i = σ (c q) i := fun i => S _ _ (fHi_in (by omega) (by omega))
  refine ⟨w, i, j, g1, ⟨(e 0).trans g2, (e 1).trans g3, (e 2).trans g4⟩, ⟨(S _ _ rfl).trans g5, (S _ _ rfl).trans g6, ?_, ?_⟩, ?_, ?_⟩
  · rw [e 3]; exact (S _ _ rfl).trans g7
  · rw [e 4]; exact (S _ _ rfl).trans g8
  · rw [e 3]; exact g9
  · rw [e 4]; exact g10
theorem fRw_in {a i : Nat} (h : 65 ≤ a) (h2 : a ≤ 70) : fRw a i = true := by unfold fRw; rw [bb h, bb h2]; rfl
theorem Rl_sm {l : Nat} (hl : l < 3) {σ σ2 : zSt} (S : Sm fRw σ σ2) (h : Rl l σ) : Rl l σ2 := by
  have e1 : ∀ i, σ2 (65 + 2 * l) i = σ (65 + 2 * l) i := fun i => S _ _ (fRw_in (by omega) (by omega))
  have e2 : ∀ i, σ2 (66 + 2 * l) i = σ (66 + 2 * l) i := fun i => S _ _ (fRw_in (by omega) (by omega))
  rcases h with ⟨h1, h2⟩ | ⟨m, h1, h2, h3, h4, h5⟩
  · exact Or.inl ⟨(e1 _).trans h1, (S _ _ rfl).trans h2⟩
  · exact Or.inr ⟨m, h1, (e1 _).trans h2, (S _ _ rfl).trans h3, (S _ _ rfl).trans h4, fun i hi => by rw [e2, h5 i hi]; exact (S _ _ rfl).symm⟩
theorem Rw_sm {σ σ2 : zSt} (S : Sm fRw σ σ2) (h : Rw σ) : Rw σ2 := fun l hl => Rl_sm hl S (h l hl)
theorem Tp_sm {σ σ2 : zSt} (S : Sm fTp σ σ2) (h : Tp σ) : Tp σ2 := by
  obtain ⟨m, h1, h2, h3, h4⟩ := h
  refine ⟨m, h1, (S _ _ rfl).trans h2, (S _ _ rfl).trans h3, fun i hi => ⟨?_, ?_⟩⟩
  · rw [S 72 i rfl, S 91 i rfl]; exact (h4 i hi).1
  · rw [S 91 i rfl]; exact (h4 i hi).2
theorem Tr_sm {σ σ2 : zSt} (S : Sm fTr σ σ2) (h : Tr σ) : Tr σ2 := by
  obtain ⟨m, h1, h2, h3, h4⟩ := h
  refine ⟨m, h1, (S _ _ rfl).trans h2, (S _ _ rfl).trans h3, fun i hi => ?_⟩
  rw [S 74 i rfl, S 95 i rfl]; exact h4 i hi
theorem Ce_sm {σ σ2 : zSt} (S : Sm fCe σ σ2) (h : Ce σ) : Ce σ2 := by
  obtain ⟨c, h1, h2⟩ := h
  exact ⟨c, fun q hq => ⟨(S _ _ rfl).trans (h1 q hq).1, (h1 q hq).2⟩, h2⟩
/-- what is kept from call to call; the rest is written anew before it is read -/
def per (a i : Nat) : Bool := fC1 a i || fCk a i || fM1 a i || fMk a i || fK0 a i || fHi a i || fRw a i || fTp a i || fTr a i || fCe a i
theorem per_sm {σ σ2 : zSt} (S : Sm per σ σ2) : Sm fC1 σ σ2 ∧ Sm fCk σ σ2 ∧ Sm fM1 σ σ2 ∧ Sm fMk σ σ2 ∧ Sm fK0 σ σ2 ∧ Sm fHi σ σ2 ∧ Sm fRw σ σ2 ∧ Sm fTp σ σ2 ∧ Sm fTr σ σ2 ∧ Sm fCe σ σ2 := by
  refine ⟨fun a i h => ?_, fun a i h => ?_, fun a i h => ?_, fun a i h => ?_, fun a i h => ?_, fun a i h => ?_, fun a i h => ?_, fun a i h => ?_, fun a i h => ?_, fun a i h => ?_⟩
  all_goals refine S a i ?_
  all_goals unfold per
  all_goals rw [h]
  all_goals simp
theorem In_sm {D : yD} {σ σ2 : zSt} (S : Sm per σ σ2) (h : In D σ) : In D σ2 := by
  obtain ⟨s1, s2, s3, s4, s5, s6, s7, s8, s9, s10⟩ := per_sm S
  obtain ⟨h1, h2, h3, h4, h5, h6, h7, h8, h9⟩ := h
  exact ⟨h1, CN1_sm s1 h2, MN1_sm s3 h3, Kp_sm s5 s2 s4 h4, Hi_sm s6 h5, Rw_sm s7 h6, Tp_sm s8 h7, Tr_sm s9 h8, Ce_sm s10 h9⟩
theorem Sm_refl {f : Nat → Nat → Bool} {σ : zSt} : Sm f σ σ := fun _ _ _ => rfl
theorem Sm_tr {f : Nat → Nat → Bool} {σ σ2 σ3 : zSt} (h : Sm f σ σ2) (h2 : Sm f σ2 σ3) : Sm f σ σ3 := fun a i q => (h2 a i q).trans (h a i q)
theorem Sm_su {f : Nat → Nat → Bool} {σ : zSt} {a i : Nat} {v : Int32} (h : f a i = false) : Sm f σ (su σ a i v) := fun b j q => by
  rw [su_ap, if_neg]
  rintro ⟨rfl, rfl⟩
  rw [h] at q
  cases q
theorem Sm_sw {f : Nat → Nat → Bool} {σ : zSt} {a : Nat} {g : Nat → Int32} (h : ∀ i, f a i = false) : Sm f σ (sw σ a g) := fun b j q => by
  rw [sw_ap, if_neg]
  rintro rfl
  rw [h] at q
  cases q
theorem In_0 : In (4, 0, 1, 11, fun _ _ => 0, fun _ => 0, fun _ => 0) zs0 := by
  have z9 : ∀ j, j < 9 → orf (nbf (fun _ _ => 0) 0) 9 = 0 := fun _ _ => by decide
  refine ⟨⟨⟨by decide, by decide⟩, ⟨by decide, by decide, by decide⟩, Or.inl rfl, fun _ _ => rfl, fun _ _ _ => rfl, fun _ _ => (show ent 0 from ⟨by decide, by decide⟩), fun _ => Nat.zero_le _, fun _ => Nat.zero_le _⟩, ⟨⟨rfl, rfl, rfl, rfl⟩, ?_, ?_, ?_, ?_⟩, ⟨⟨rfl, rfl, rfl, rfl⟩, ?_, ?_, ?_⟩, Or.inl ⟨rfl, rfl⟩, ⟨0, 0, fun q => 31 + q, ⟨by decide, by decide⟩, ⟨rfl, rfl⟩, ⟨rfl, rfl⟩, ⟨fun q hq => ⟨rfl, (by omega : 31 ≤ 31 + q), (by omega : 31 + q ≤ 42)⟩, fun q q2 _ _ (h : 31 + q = 31 + q2) => by omega⟩, fun q hq => absurd hq (Nat.not_lt_zero _)⟩, ?_, ⟨0, by decide, rfl, rfl, fun i hi => absurd hi (Nat.not_lt_zero _)⟩, ⟨0, by decide, rfl, rfl, fun i hi => absurd hi (by simp)⟩, ⟨fun q => 53 + q, fun q hq => ⟨rfl, (by omega : 53 ≤ 53 + q), (by omega : 53 + q ≤ 61)⟩, fun q q2 _ _ (h : 53 + q = 53 + q2) => by omega⟩⟩
  · have : ∀ i, i < 9 → nbm (fun _ _ => 0) i = 0 := by decide
    intro i hi
    show zs0 2 i = nI (nbm (fun _ _ => 0) i)
    rw [this i hi]
    rfl
  · intro i hi; rfl
  · intro i hi; rfl
  · have : ∀ i, i < 9 → zs0 (6 + i) = fun _ => 0 := by
      intro i hi
      rcases (by omega : i = 0 ∨ i = 1 ∨ i = 2 ∨ i = 3 ∨ i = 4 ∨ i = 5 ∨ i = 6 ∨ i = 7 ∨ i = 8) with rfl | rfl | rfl | rfl | rfl | rfl | rfl | rfl | rfl <;> rfl
    intro i hi j hj
    rw [this i hi]
    rfl
  · intro i hi j hj; rfl
  · intro i hi; rfl
  · intro i hi; rfl
  · intro l hl
    rcases (by omega : l = 0 ∨ l = 1 ∨ l = 2) with rfl | rfl | rfl <;> exact Or.inl ⟨rfl, rfl⟩

/-! PURE: acts of points -/
theorem isu_ind : ∀ (n : Nat) (a b c : Int32) (σ σ2 : zSt), Bod_isUnder_c4 σ n a b c = Bod_isUnder_c4 σ2 n a b c
  | 0, _, _, _, _, _ => rfl
  | n + 1, a, b, c, σ, σ2 => by
    have e : (fun v1 => Bod_isUnder_c4 σ n a v1 (c + 1)) = fun v1 => Bod_isUnder_c4 σ2 n a v1 (c + 1) := funext fun v => isu_ind n a v (c + 1) σ σ2
    rw [Bod_isUnder_c4, Bod_isUnder_c4, show zld σ 201 b = zld σ2 201 b from rfl, e]
def und (K o : Nat) : Bool := decide (o = K ∨ o = 0 ∨ (o = 1 ∧ (K = 2 ∨ K = 4)) ∨ (o = 2 ∧ K = 4))
theorem xiu_ok {σ : zSt} {K o : Nat} (hK : K ≤ 4) (ho : o ≤ 4) : Bod_isUnder (nI K) (nI o) σ = some (b01 (und K o)) := by
  have key : ∀ K, K < 5 → ∀ o, o < 5 → Bod_isUnder_c4 (fun _ _ => 0) zF (nI o) (nI K) 0 = some (b01 (und K o)) := by decide +kernel
  unfold Bod_isUnder
  rw [isu_ind zF (nI o) (nI K) 0 σ (fun _ _ => 0)]
  exact key K (by omega) o (by omega)
theorem miu_ok {σ : zSt} {K o : Nat} (hK : K ≤ 4) (ho : o ≤ 4) : M_isUnder (nI K) (nI o) σ = some (b01 (und K o)) := by
  have key : ∀ K, K < 5 → ∀ o, o < 5 → M_isUnder (nI K) (nI o) (fun _ _ => 0) = some (b01 (und K o)) := by decide +kernel
  exact key K (by omega) o (by omega)
-- the bodies that ran
abbrev yT : Type := Nat × (Nat → Int32)
def nt (s : yT) (v : Int32) : yT := (s.1 + 1, upd s.2 s.1 v)
def NX (s : yT) (σ : zSt) : Prop := σ 73 3 = nI s.1 ∧ ∀ i, i < s.1 → σ 74 i = s.2 i
def NM (s : yT) (σ : zSt) : Prop := σ 75 36 = nI s.1 ∧ ∀ i, i < s.1 → σ 95 i = s.2 i
def Rx (σ σ2 : zSt) : Prop := ∀ a q, a ≠ 74 → ¬ (a = 73 ∧ q = 3) → σ2 a q = σ a q
def Ry (σ σ2 : zSt) : Prop := ∀ a q, a ≠ 95 → ¬ (a = 75 ∧ q = 36) → σ2 a q = σ a q
theorem Rx_t {σ σ2 σ3 : zSt} (h : Rx σ σ2) (h2 : Rx σ2 σ3) : Rx σ σ3 := fun a q g1 g2 => (h2 a q g1 g2).trans (h a q g1 g2)
theorem Ry_t {σ σ2 σ3 : zSt} (h : Ry σ σ2) (h2 : Ry σ2 σ3) : Ry σ σ3 := fun a q g1 g2 => (h2 a q g1 g2).trans (h a q g1 g2)
theorem xnt_ok {σ : zSt} {s : yT} {v : Int32} (h : NX s σ) (hs : s.1 < 24) : ∃ σ2, Bod_note v σ = some σ2 ∧ NX (nt s v) σ2 ∧ Rx σ σ2 := by
  obtain ⟨h1, h2⟩ := h
  refine ⟨su (su σ 74 s.1 v) 73 3 (nI (s.1 + 1)), ?_, ⟨?_, fun i hi => ?_⟩, fun a q g1 g2 => ?_⟩
  · unfold Bod_note
    rw [h1, if_neg (show ¬ (24 : Int32) ≤ nI s.1 from nI_ge (b := 24) hs (by decide)), st74 hs, ob_some, show su σ 74 s.1 v 73 3 = nI s.1 by rw [su_ap, if_neg (by omega)]; exact h1, nI_1, zlet_ap]
  · rw [su_ap, if_pos ⟨rfl, rfl⟩]; rfl
  · have hi2 : i < s.1 + 1 := hi
    show _ = upd s.2 s.1 v i
    rw [su_ap, if_neg (by omega), su_ap]
    by_cases e : i = s.1
    · rw [if_pos ⟨rfl, e⟩, e, pk_us]
    · rw [if_neg (fun w => e w.2), pk_un e]; exact h2 i (by omega)
  · rw [su_ap, if_neg g2, su_ap, if_neg (fun w => g1 w.1)]
theorem mnt_ok {σ : zSt} {s : yT} {v : Int32} (h : NM s σ) (hs : s.1 < 24) : ∃ σ2, M_runs_ v σ = some σ2 ∧ NM (nt s v) σ2 ∧ Ry σ σ2 := by
  obtain ⟨h1, h2⟩ := h
  refine ⟨su (su σ 95 s.1 v) 75 36 (nI (s.1 + 1)), ?_, ⟨?_, fun i hi => ?_⟩, fun a q g1 g2 => ?_⟩
  · unfold M_runs_ M_runs__c19
    rw [h1, if_neg (show ¬ (24 : Int32) ≤ nI s.1 from nI_ge (b := 24) hs (by decide)), st95 hs, ob_some, show su σ 95 s.1 v 75 36 = nI s.1 by rw [su_ap, if_neg (by omega)]; exact h1, nI_1, zlet_ap]
  · rw [su_ap, if_pos ⟨rfl, rfl⟩]; rfl
  · have hi2 : i < s.1 + 1 := hi
    show _ = upd s.2 s.1 v i
    rw [su_ap, if_neg (by omega), su_ap]
    by_cases e : i = s.1
    · rw [if_pos ⟨rfl, e⟩, e, pk_us]
    · rw [if_neg (fun w => e w.2), pk_un e]; exact h2 i (by omega)
  · rw [su_ap, if_neg g2, su_ap, if_neg (fun w => g1 w.1)]
def kA (K : Nat) (s : yT) : yT := if und K 1 = true then nt (nt s 20) 10 else nt s 10
def vA (K : Nat) (i x : Int32) : Int32 := if und K 1 = true then -(x + i) else x + i
def kT (K : Nat) (s : yT) : yT := if K = 4 then nt (nt (nt s 50) 30) 1 else if K = 2 then nt (nt s 30) 1 else nt s 1
def vT (K : Nat) (c x : Int32) : Int32 := if K = 4 then (x - 1 + 2) * 3 + c else if K = 2 then (x + 2) * 3 else x + 2
def kS (K : Nat) (s : yT) : yT := if K = 3 then kT K (kA K (nt (nt s 40) 11)) else kT K (kA K (nt s 11))
def vS (K : Nat) (i c x : Int32) : Int32 := if K = 3 then (vA K i x * 2 + vT K c 1) ^^^ 5 else vA K i x * 2 + vT K c 1
theorem kA_le {K : Nat} {s : yT} : (kA K s).1 ≤ s.1 + 2 := by
  unfold kA
  split
  · exact Nat.le_refl _
  · show s.1 + 1 ≤ s.1 + 2; omega
theorem kT_le {K : Nat} {s : yT} : (kT K s).1 ≤ s.1 + 3 := by
  unfold kT
  split
  · exact Nat.le_refl _
  · split
    · show s.1 + 1 + 1 ≤ s.1 + 3; omega
    · show s.1 + 1 ≤ s.1 + 3; omega
theorem kS_le {K : Nat} {s : yT} : (kS K s).1 ≤ s.1 + 7 := by
  unfold kS
  split
  · have h1 := kT_le (K := K) (s := kA K (nt (nt s 40) 11))
    have h2 := kA_le (K := K) (s := nt (nt s 40) 11)
    have h3 : (nt (nt s 40) 11).1 = s.1 + 2 := rfl
    omega
  · have h1 := kT_le (K := K) (s := kA K (nt s 11))
    have h2 := kA_le (K := K) (s := nt s 11)
    have h3 : (nt s 11).1 = s.1 + 1 := rfl
    omega
theorem xas_ok {σ : zSt} {s : yT} {K : Nat} {i x : Int32} (hK : K ≤ 4) (h0 : σ 73 0 = nI K) (h1 : σ 73 1 = i) (h : NX s σ) (hs : s.1 < 20) : ∃ σ2, Bod_asks x σ = some (vA K i x, σ2) ∧ NX (kA K s) σ2 ∧ Rx σ σ2 := by
  unfold Bod_asks Bod_pointAsks kA vA
  rw [h0, show (1 : Int32) = nI 1 from rfl, xiu_ok hK (by decide), ob_some]
  by_cases e : und K 1 = true
  · obtain ⟨σ1, e1, n1, r1⟩ := xnt_ok (v := 20) h (by omega)
    obtain ⟨σ2, e2, n2, r2⟩ := xnt_ok (v := 10) n1 (by show s.1 + 1 < 24; omega)
    rw [if_neg (fun q => ((b01_0 _).mp q) e), e1, ob_some, e2, ob_some, zb2_sm, if_pos e, if_pos e]
    refine ⟨σ2, ?_, n2, Rx_t r1 r2⟩
    rw [r2 73 1 (by decide) (by omega), r1 73 1 (by decide) (by omega), h1]
  · obtain ⟨σ1, e1, n1, r1⟩ := xnt_ok (v := 10) h (by omega)
    rw [if_pos ((b01_0 _).mpr e), e1, ob_some, zb2_sm, if_neg e, if_neg e]
    refine ⟨σ1, ?_, n1, r1⟩
    rw [r1 73 1 (by decide) (by omega), h1]
theorem und_4 : ∀ K, K < 5 → (und K 4 = true ↔ K = 4) ∧ (und K 3 = true ↔ K = 3) ∧ (und K 2 = true ↔ K = 2 ∨ K = 4) := by decide
theorem xte_ok {σ : zSt} {s : yT} {K : Nat} {c x : Int32} (hK : K ≤ 4) (h0 : σ 73 0 = nI K) (h1 : σ 73 2 = c) (h : NX s σ) (hs : s.1 < 20) : ∃ σ2, Bod_tells x σ = some (vT K c x, σ2) ∧ NX (kT K s) σ2 ∧ Rx σ σ2 := by
  obtain ⟨u4, _, u2⟩ := und_4 K (by omega)
  unfold Bod_tells Bod_hubTells Bod_countedTells kT vT
  rw [h0, show (4 : Int32) = nI 4 from rfl, xiu_ok hK (by decide), ob_some]
  by_cases e : K = 4
  · obtain ⟨σ1, e1, n1, r1⟩ := xnt_ok (v := 50) h (by omega)
    obtain ⟨σ2, e2, n2, r2⟩ := xnt_ok (v := 30) n1 (by show s.1 + 1 < 24; omega)
    obtain ⟨σ3, e3, n3, r3⟩ := xnt_ok (v := 1) n2 (by show s.1 + 1 + 1 < 24; omega)
    rw [if_neg (fun q => ((b01_0 _).mp q) (u4.mpr e)), e1, ob_some, e2, ob_some, e3, ob_some, zb2_sm, zb2_sm, if_pos e, if_pos e]
    refine ⟨σ3, ?_, n3, Rx_t r1 (Rx_t r2 r3)⟩
    rw [r3 73 2 (by decide) (by omega), r2 73 2 (by decide) (by omega), r1 73 2 (by decide) (by omega), h1]
  · rw [if_pos ((b01_0 _).mpr (fun q => e (u4.mp q))), show (2 : Int32) = nI 2 from rfl, xiu_ok hK (by decide), ob_some, if_neg e, if_neg e]
    by_cases e2 : K = 2
    · obtain ⟨σ1, e3, n1, r1⟩ := xnt_ok (v := 30) h (by omega)
      obtain ⟨σ2, e4, n2, r2⟩ := xnt_ok (v := 1) n1 (by show s.1 + 1 < 24; omega)
      rw [if_neg (fun q => ((b01_0 _).mp q) (u2.mpr (Or.inl e2))), e3, ob_some, e4, ob_some, zb2_sm, zb2_sm, if_pos e2, if_pos e2]
      exact ⟨σ2, rfl, n2, Rx_t r1 r2⟩
    · obtain ⟨σ1, e3, n1, r1⟩ := xnt_ok (v := 1) h (by omega)
      rw [if_pos ((b01_0 _).mpr (fun q => (u2.mp q).elim e2 e)), e3, ob_some, zb2_sm, if_neg e2, if_neg e2]
      exact ⟨σ1, rfl, n1, r1⟩
theorem xsy_ok {σ : zSt} {s : yT} {K : Nat} {i c x : Int32} (hK : K ≤ 4) (h0 : σ 73 0 = nI K) (h1 : σ 73 1 = i) (h2 : σ 73 2 = c) (h : NX s σ) (hs : s.1 < 10) : ∃ σ2, Bod_says x σ = some (vS K i c x, σ2) ∧ NX (kS K s) σ2 ∧ Rx σ σ2 := by
  obtain ⟨_, u3, _⟩ := und_4 K (by omega)
  have body : ∀ (τ : zSt) (s' : yT), τ 73 0 = nI K → τ 73 1 = i → τ 73 2 = c → NX s' τ → s'.1 < 14 → ∃ σ2, Bod_pointSays x τ = some (vA K i x * 2 + vT K c 1, σ2) ∧ NX (kT K (kA K (nt s' 11))) σ2 ∧ Rx τ σ2 := fun τ s' g0 g1 g2 g gs => by
    obtain ⟨σ1, e1, n1, r1⟩ := xnt_ok (v := 11) g (by omega)
    have hn : (nt s' 11).1 = s'.1 + 1 := rfl
    obtain ⟨σ2, e2, n2, r2⟩ := xas_ok (x := x) hK ((r1 73 0 (by decide) (by omega)).trans g0) ((r1 73 1 (by decide) (by omega)).trans g1) n1 (by omega)
    have hk := kA_le (K := K) (s := nt s' 11)
    obtain ⟨σ3, e3, n3, r3⟩ := xte_ok (x := 1) hK ((r2 73 0 (by decide) (by omega)).trans ((r1 73 0 (by decide) (by omega)).trans g0)) ((r2 73 2 (by decide) (by omega)).trans ((r1 73 2 (by decide) (by omega)).trans g2)) n2 (by omega)
    refine ⟨σ3, ?_, n3, Rx_t r1 (Rx_t r2 r3)⟩
    unfold Bod_pointSays
    rw [e1, ob_some, e2, zb2_sm, e3, zb2_sm]
  unfold Bod_says kS vS
  rw [h0, show (3 : Int32) = nI 3 from rfl, xiu_ok hK (by decide), ob_some]
  by_cases e : K = 3
  · obtain ⟨σ1, e1, n1, r1⟩ := xnt_ok (v := 40) h (by omega)
    obtain ⟨σ2, e2, n2, r2⟩ := body σ1 _ ((r1 73 0 (by decide) (by omega)).trans h0) ((r1 73 1 (by decide) (by omega)).trans h1) ((r1 73 2 (by decide) (by omega)).trans h2) n1 (by show s.1 + 1 < 14; omega)
    rw [if_neg (fun q => ((b01_0 _).mp q) (u3.mpr e)), e1, ob_some, e2, zb2_sm, if_pos e, if_pos e]
    exact ⟨σ2, rfl, n2, Rx_t r1 r2⟩
  · obtain ⟨σ2, e2, n2, r2⟩ := body σ s h0 h1 h2 h (by omega)
    rw [if_pos ((b01_0 _).mpr (fun q => e (u3.mp q))), e2, zb2_sm, if_neg e, if_neg e]
    exact ⟨σ2, rfl, n2, r2⟩
theorem mas_ok {σ : zSt} {s : yT} {K p : Nat} {x : Int32} (hK : K ≤ 4) (hp : p < 9) (h0 : σ 77 p = nI K) (h : NM s σ) (hs : s.1 < 20) : ∃ σ2, M_asks (nI p) x σ = some (vA K (nI p) x, σ2) ∧ NM (kA K s) σ2 ∧ Ry σ σ2 := by
  unfold M_asks M_asks_c22 kA vA
  rw [ld77 hp, ob_some, h0, show (1 : Int32) = nI 1 from rfl, miu_ok hK (by decide), ob_some]
  by_cases e : und K 1 = true
  · obtain ⟨σ1, e1, n1, r1⟩ := mnt_ok (v := 20) h (by omega)
    obtain ⟨σ2, e2, n2, r2⟩ := mnt_ok (v := 10) n1 (by show s.1 + 1 < 24; omega)
    have nb : ¬ b01 (und K 1) = 0 := fun q => ((b01_0 _).mp q) e
    rw [if_neg nb, e1, ob_some, e2, ob_some, if_neg nb, if_pos e, if_pos e]
    exact ⟨σ2, rfl, n2, Ry_t r1 r2⟩
  · obtain ⟨σ1, e1, n1, r1⟩ := mnt_ok (v := 10) h (by omega)
    have nb : b01 (und K 1) = 0 := (b01_0 _).mpr e
    rw [if_pos nb, e1, ob_some, if_pos nb, if_neg e, if_neg e]
    exact ⟨σ1, rfl, n1, r1⟩
theorem mte_ok {σ : zSt} {s : yT} {K p : Nat} {c x : Int32} (hK : K ≤ 4) (hp : p < 9) (h0 : σ 77 p = nI K) (h1 : σ 78 p = c) (h : NM s σ) (hs : s.1 < 20) : ∃ σ2, M_tells (nI p) x σ = some (vT K c x, σ2) ∧ NM (kT K s) σ2 ∧ Ry σ σ2 := by
  obtain ⟨_, _, u2⟩ := und_4 K (by omega)
  have fin : ∀ (τ : zSt) (v : Int32), τ 77 p = nI K → τ 78 p = c → M_tells_c67 (nI p) v τ = some (if K = 4 then v + c else v, τ) := fun τ v g0 g1 => by
    unfold M_tells_c67
    rw [ld77 hp, ob_some, g0]
    by_cases e : K = 4
    · rw [if_neg (show ¬ ¬ nI K = 4 from fun q => q (by rw [e]; rfl)), ld78 hp, ob_some, g1, if_pos e]
    · rw [if_pos (show ¬ nI K = 4 from fun q => e ((nI_inj (b := 4) (by omega) (by decide)).mp q)), if_neg e]
  have mid : ∀ (τ : zSt) (s' : yT) (v : Int32), τ 77 p = nI K → τ 78 p = c → NM s' τ → s'.1 < 22 → ∃ σ2, M_tells_c22 (nI p) v τ = some (if K = 4 then (v + 2) * 3 + c else if K = 2 then (v + 2) * 3 else v + 2, σ2) ∧ NM (if K = 4 ∨ K = 2 then nt (nt s' 30) 1 else nt s' 1) σ2 ∧ Ry τ σ2 := fun τ s' v g0 g1 g gs => by
    unfold M_tells_c22 M_tells_c46
    rw [ld77 hp, ob_some, g0, show (2 : Int32) = nI 2 from rfl, miu_ok hK (by decide), ob_some]
    by_cases e : K = 2 ∨ K = 4
    · obtain ⟨σ1, e1, n1, r1⟩ := mnt_ok (v := 30) g (by omega)
      obtain ⟨σ2, e2, n2, r2⟩ := mnt_ok (v := 1) n1 (by show s'.1 + 1 < 24; omega)
      have nb : ¬ b01 (und K 2) = 0 := fun q => ((b01_0 _).mp q) (u2.mpr e)
      rw [if_neg nb, e1, ob_some, e2, ob_some, if_neg nb, fin σ2 _ ((r2 77 p (by decide) (by omega)).trans ((r1 77 p (by decide) (by omega)).trans g0)) ((r2 78 p (by decide) (by omega)).trans ((r1 78 p (by decide) (by omega)).trans g1)), if_pos e.symm]
      refine ⟨σ2, ?_, n2, Ry_t r1 r2⟩
      by_cases e4 : K = 4
      · rw [if_pos e4, if_pos e4]
      · rw [if_neg e4, if_neg e4, if_pos (show K = 2 by omega)]
    · obtain ⟨σ1, e1, n1, r1⟩ := mnt_ok (v := 1) g (by omega)
      have nb : b01 (und K 2) = 0 := (b01_0 _).mpr (fun q => e (u2.mp q))
      rw [if_pos nb, e1, ob_some, if_pos nb, fin σ1 _ ((r1 77 p (by decide) (by omega)).trans g0) ((r1 78 p (by decide) (by omega)).trans g1), if_neg (show ¬ (K = 4 ∨ K = 2) by omega), if_neg (show ¬ K = 4 by omega), if_neg (show ¬ K = 4 by omega), if_neg (show ¬ K = 2 by omega)]
      exact ⟨σ1, rfl, n1, r1⟩
  unfold M_tells kT vT
  rw [ld77 hp, ob_some, h0]
  by_cases e : K = 4
  · obtain ⟨σ1, e1, n1, r1⟩ := mnt_ok (v := 50) h (by omega)
    obtain ⟨σ2, e2, n2, r2⟩ := mid σ1 _ (x - 1) ((r1 77 p (by decide) (by omega)).trans h0) ((r1 78 p (by decide) (by omega)).trans h1) n1 (by show s.1 + 1 < 22; omega)
    rw [if_pos (Or.inl e)] at n2
    rw [if_pos e] at e2
    rw [if_neg (show ¬ ¬ nI K = 4 from fun q => q (by rw [e]; rfl)), e1, ob_some, e2, if_pos e, if_pos e]
    exact ⟨σ2, rfl, n2, Ry_t r1 r2⟩
  · obtain ⟨σ2, e2, n2, r2⟩ := mid σ s x h0 h1 h (by omega)
    rw [if_neg e] at e2
    rw [if_pos (show ¬ nI K = 4 from fun q => e ((nI_inj (b := 4) (by omega) (by decide)).mp q)), e2, if_neg e, if_neg e]
    refine ⟨σ2, rfl, ?_, r2⟩
    by_cases e4 : K = 2
    · rw [if_pos (Or.inr e4)] at n2
      rw [if_pos e4]; exact n2
    · rw [if_neg (by omega)] at n2
      rw [if_neg e4]; exact n2
theorem msy_ok {σ : zSt} {s : yT} {K p : Nat} {c x : Int32} (hK : K ≤ 4) (hp : p < 9) (h0 : σ 77 p = nI K) (h1 : σ 78 p = c) (h : NM s σ) (hs : s.1 < 10) : ∃ σ2, M_says (nI p) x σ = some (vS K (nI p) c x, σ2) ∧ NM (kS K s) σ2 ∧ Ry σ σ2 := by
  have body : ∀ (τ : zSt) (s' : yT) (t : Int32), τ 77 p = nI K → τ 78 p = c → NM s' τ → s'.1 < 14 → ∃ σ2, M_says_c26 (nI p) x t τ = some (if t = 0 then vA K (nI p) x * 2 + vT K c 1 else (vA K (nI p) x * 2 + vT K c 1) ^^^ 5, σ2) ∧ NM (kT K (kA K (nt s' 11))) σ2 ∧ Ry τ σ2 := fun τ s' t g0 g1 g gs => by
    obtain ⟨σ1, e1, n1, r1⟩ := mnt_ok (v := 11) g (by omega)
    have hn : (nt s' 11).1 = s'.1 + 1 := rfl
    obtain ⟨σ2, e2, n2, r2⟩ := mas_ok (x := x) hK hp ((r1 77 p (by decide) (by omega)).trans g0) n1 (by omega)
    have hk := kA_le (K := K) (s := nt s' 11)
    obtain ⟨σ3, e3, n3, r3⟩ := mte_ok (x := 1) hK hp ((r2 77 p (by decide) (by omega)).trans ((r1 77 p (by decide) (by omega)).trans g0)) ((r2 78 p (by decide) (by omega)).trans ((r1 78 p (by decide) (by omega)).trans g1)) n2 (by omega)
    refine ⟨σ3, ?_, n3, Ry_t r1 (Ry_t r2 r3)⟩
    unfold M_says_c26
    rw [e1, ob_some, e2, zb2_sm, e3, zb2_sm]
    by_cases e : t = 0
    · rw [if_pos e, if_pos e]
    · rw [if_neg e, if_neg e]
  unfold M_says M_says_c15 kS vS
  rw [ld77 hp, ob_some, h0]
  by_cases e : K = 3
  · obtain ⟨σ1, e1, n1, r1⟩ := mnt_ok (v := 40) h (by omega)
    obtain ⟨σ2, e2, n2, r2⟩ := body σ1 _ 1 ((r1 77 p (by decide) (by omega)).trans h0) ((r1 78 p (by decide) (by omega)).trans h1) n1 (by show s.1 + 1 < 14; omega)
    rw [if_neg i10] at e2
    rw [if_neg (show ¬ ¬ nI K = 3 from fun q => q (by rw [e]; rfl)), if_neg i10, e1, ob_some, e2, if_pos e, if_pos e]
    exact ⟨σ2, rfl, n2, Ry_t r1 r2⟩
  · obtain ⟨σ2, e2, n2, r2⟩ := body σ s 0 h0 h1 h (by omega)
    rw [if_pos rfl] at e2
    rw [if_pos (show ¬ nI K = 3 from fun q => e ((nI_inj (b := 3) (by omega) (by decide)).mp q)), if_pos rfl, e2, if_neg e, if_neg e]
    exact ⟨σ2, rfl, n2, r2⟩
/-- only what ran has changed -/
theorem In_tr {D : yD} {σ σ2 : zSt} (I : In D σ) (S : ∀ a i, a ≠ 73 → a ≠ 74 → a ≠ 95 → ¬ (a = 75 ∧ i = 36) → σ2 a i = σ a i) (T : Tr σ2) : In D σ2 := by
  obtain ⟨h1, h2, h3, h4, h5, h6, h7, h8, h9⟩ := I
  have g : ∀ fp : Nat → Nat → Bool, (∀ a i, fp a i = true → a ≠ 73 ∧ a ≠ 74 ∧ a ≠ 95 ∧ ¬ (a = 75 ∧ i = 36)) → Sm fp σ σ2 := fun fp h a i q => S a i (h a i q).1 (h a i q).2.1 (h a i q).2.2.1 (h a i q).2.2.2
  refine ⟨h1, CN1_sm (g fC1 fun a i q => ?_) h2, MN1_sm (g fM1 fun a i q => ?_) h3, Kp_sm (g fK0 fun a i q => ?_) (g fCk fun a i q => ?_) (g fMk fun a i q => ?_) h4, Hi_sm (g fHi fun a i q => ?_) h5, Rw_sm (g fRw fun a i q => ?_) h6, Tp_sm (g fTp fun a i q => ?_) h7, T, Ce_sm (g fCe fun a i q => ?_) h9⟩
  · unfold fC1 at q; simp only [zbl, zbq, Bool.or_eq_true, Bool.and_eq_true, decide_eq_true_eq] at q; omega
  · unfold fM1 at q; simp only [zbl, zbq, Bool.or_eq_true, Bool.and_eq_true, decide_eq_true_eq] at q; omega
  · unfold fK0 at q; simp only [zbl, zbq, Bool.or_eq_true, Bool.and_eq_true, decide_eq_true_eq] at q; omega
  · unfold fCk at q; simp only [zbl, zbq, Bool.or_eq_true, Bool.and_eq_true, decide_eq_true_eq] at q; omega
  · unfold fMk at q; simp only [zbl, zbq, Bool.or_eq_true, Bool.and_eq_true, decide_eq_true_eq] at q; omega
  · unfold fHi at q; simp only [zbl, zbq, Bool.or_eq_true, Bool.and_eq_true, decide_eq_true_eq] at q; omega
  · unfold fRw at q; simp only [zbl, zbq, Bool.or_eq_true, Bool.and_eq_true, decide_eq_true_eq] at q; omega
  · unfold fTp at q; simp only [zbl, zbq, Bool.or_eq_true, Bool.and_eq_true, decide_eq_true_eq] at q; omega
  · unfold fCe at q; simp only [zbl, zbq, Bool.or_eq_true, Bool.and_eq_true, decide_eq_true_eq] at q; omega
theorem q_act (x y z : Int32) : Q2 (X_act x y z) (M_act_ x y z) := by
  rintro σ ⟨D, I⟩
  have V := I.1
  have hn := V.1
  rcases pt_cases D V x with h | ⟨p, rfl, hp, h⟩
  · refine ⟨0, σ, σ, ?_, ?_, D, I⟩
    · unfold X_act; rw [(h σ I).1, ob_some, if_pos rfl]
    · unfold M_act_; rw [(h σ I).2, ob_some, if_pos rfl]
  rcases rng y 0 2 (by decide) (by decide) with k | ⟨k, k2, k3⟩ | ⟨o, _, ho, rfl⟩
  · refine ⟨0, σ, σ, ?_, ?_, D, I⟩
    · unfold X_act; rw [(h σ I).1, ob_some, if_neg i10, if_pos (show y < 0 from k)]
    · unfold M_act_; rw [(h σ I).2, ob_some, if_neg i10, show M_in y 0 2 σ = some 0 from min_lo k, ob_some, if_neg (fun q => q rfl)]
  · refine ⟨0, σ, σ, ?_, ?_, D, I⟩
    · unfold X_act; rw [(h σ I).1, ob_some, if_neg i10, if_neg (show ¬ y < 0 from k), if_neg (show ¬ y ≤ 2 from k3)]
    · unfold M_act_; rw [(h σ I).2, ob_some, if_neg i10, show M_in y 0 2 σ = some 0 from min_hi k k2, ob_some, if_neg (fun q => q rfl)]
  have hK : dK D p ≤ 4 := V.2.2.2.2.2.2.1 p
  -- both begin
  have e0 : X_act (nI p) (nI o) z σ = (if nI o = 0 then zb2 (Bod_asks z (su (su (su (su σ 73 0 (nI (dK D p))) 73 1 (nI p)) 73 2 (nI (dC D p))) 73 3 0)) fun v6 σ7 => some (v6, σ7) else if nI o = 1 then zb2 (Bod_says z (su (su (su (su σ 73 0 (nI (dK D p))) 73 1 (nI p)) 73 2 (nI (dC D p))) 73 3 0)) fun v9 σ10 => some (v9, σ10) else zb2 (Bod_tells z (su (su (su (su σ 73 0 (nI (dK D p))) 73 1 (nI p)) 73 2 (nI (dC D p))) 73 3 0)) fun v11 σ12 => some (v11, σ12)) := by
    unfold X_act Bod_begin
    rw [(h σ I).1, ob_some, if_neg i10, if_neg (nI_pos (by omega)), if_pos (show nI o ≤ 2 from nI_le (b := 2) ho (by decide)), ld3 (by omega), ob_some, ld4 (by omega), ob_some, I.2.1.2.2.1 p (by omega), I.2.1.2.2.2.1 p (by omega), zlet_ap, zlet_ap, zlet_ap, zlet_ap, ob_some]
  have r0 : su (su (su (su σ 73 0 (nI (dK D p))) 73 1 (nI p)) 73 2 (nI (dC D p))) 73 3 0 73 0 = nI (dK D p) := by rw [su_ap, if_neg (by omega), su_ap, if_neg (by omega), su_ap, if_neg (by omega), su_ap, if_pos ⟨rfl, rfl⟩]
  have r1 : su (su (su (su σ 73 0 (nI (dK D p))) 73 1 (nI p)) 73 2 (nI (dC D p))) 73 3 0 73 1 = nI p := by rw [su_ap, if_neg (by omega), su_ap, if_neg (by omega), su_ap, if_pos ⟨rfl, rfl⟩]
  have r2 : su (su (su (su σ 73 0 (nI (dK D p))) 73 1 (nI p)) 73 2 (nI (dC D p))) 73 3 0 73 2 = nI (dC D p) := by rw [su_ap, if_neg (by omega), su_ap, if_pos ⟨rfl, rfl⟩]
  have r3 : NX (0, fun _ => 0) (su (su (su (su σ 73 0 (nI (dK D p))) 73 1 (nI p)) 73 2 (nI (dC D p))) 73 3 0) := ⟨by rw [su_ap, if_pos ⟨rfl, rfl⟩]; rfl, fun i hi => absurd hi (Nat.not_lt_zero _)⟩
  have rF : ∀ a q, a ≠ 73 → su (su (su (su σ 73 0 (nI (dK D p))) 73 1 (nI p)) 73 2 (nI (dC D p))) 73 3 0 a q = σ a q := fun a q w => by rw [su_ap, if_neg (fun v => w v.1), su_ap, if_neg (fun v => w v.1), su_ap, if_neg (fun v => w v.1), su_ap, if_neg (fun v => w v.1)]
  rw [e0]
  generalize su (su (su (su σ 73 0 (nI (dK D p))) 73 1 (nI p)) 73 2 (nI (dC D p))) 73 3 0 = τ at *
  have a2 : ∀ υ : zSt, M_isPoint (nI p) υ = some 1 → M_act_ (nI p) (nI o) z υ = (if ¬ nI o = 0 then (if ¬ nI o = 1 then (zb2 (M_tells (nI p) z (su υ 75 36 0)) fun v4 σ5 => some (v4, σ5)) else (zb2 (M_says (nI p) z (su υ 75 36 0)) fun v6 σ7 => some (v6, σ7))) else (zb2 (M_asks (nI p) z (su υ 75 36 0)) fun v9 σ10 => some (v9, σ10))) := fun υ hυ => by
    unfold M_act_
    rw [hυ, ob_some, if_neg i10, show M_in (nI o) 0 2 υ = some 1 from min_ok (Nat.zero_le _) ho (by decide), ob_some, if_pos i10, zlet_ap]
  have main : ∀ (r : Int32) (s : yT) (f : zSt → Option (Int32 × zSt)) (g : zSt → Option (Int32 × zSt)), s.1 ≤ 7 → (∃ σ2, f τ = some (r, σ2) ∧ NX s σ2 ∧ Rx τ σ2) → (∀ υ, υ 77 p = nI (dK D p) → υ 78 p = nI (dC D p) → NM (0, fun _ => 0) υ → ∃ σ2, g υ = some (r, σ2) ∧ NM s σ2 ∧ Ry υ σ2) → (∀ υ, M_isPoint (nI p) υ = some 1 → M_act_ (nI p) (nI o) z υ = zb2 (g (su υ 75 36 0)) fun v σ => some (v, σ)) → ∃ r σ1 σ2, zb2 (f τ) (fun v σ => some (v, σ)) = some (r, σ1) ∧ M_act_ (nI p) (nI o) z σ1 = some (r, σ2) ∧ Inv σ2 := fun r s f g hs hf hg hM => by
    obtain ⟨σ1, e1, n1, x1⟩ := hf
    have fr : ∀ a q, a ≠ 73 → a ≠ 74 → σ1 a q = σ a q := fun a q w1 w2 => (x1 a q w2 (by omega)).trans (rF a q w1)
    obtain ⟨σ2, e2, n2, y2⟩ := hg (su σ1 75 36 0) (by rw [su_ap, if_neg (by omega), fr 77 p (by decide) (by decide)]; exact I.2.2.1.2.2.1 p (by omega)) (by rw [su_ap, if_neg (by omega), fr 78 p (by decide) (by decide)]; exact I.2.2.1.2.2.2 p (by omega)) ⟨by rw [su_ap, if_pos ⟨rfl, rfl⟩]; rfl, fun i hi => absurd hi (Nat.not_lt_zero _)⟩
    have fr2 : ∀ a q, a ≠ 95 → ¬ (a = 75 ∧ q = 36) → σ2 a q = σ1 a q := fun a q w1 w2 => by rw [y2 a q w1 w2, su_ap, if_neg w2]
    have hpt : M_isPoint (nI p) σ1 = some 1 := by
      unfold M_isPoint
      rw [fr 75 3 (by decide) (by decide), I.2.2.1.1.1, show nI (dn D) - 1 = nI (dn D - 1) from pk_sub (b := 1) hn.1, show (0 : Int32) = nI 0 from rfl, min_ok (Nat.zero_le _) (by omega) (by omega), ob_some]
      rfl
    refine ⟨r, σ1, σ2, by rw [e1, zb2_sm], by rw [hM σ1 hpt, e2, zb2_sm], D, In_tr I (fun a q w1 w2 w3 w4 => (fr2 a q w3 w4).trans (fr a q w1 w2)) ⟨s.1, by omega, n2.1, ?_, fun i hi => ?_⟩⟩
    · rw [fr2 73 3 (by decide) (by omega), n1.1, Nat.min_eq_left (by omega)]
    · rw [Nat.min_eq_left (by omega)] at hi
      rw [fr2 74 i (by decide) (by omega), n1.2 i hi, n2.2 i hi]
  have z0 : ((0 : Nat), fun (_ : Nat) => (0 : Int32)).1 = 0 := rfl
  rcases (by omega : o = 0 ∨ o = 1 ∨ o = 2) with rfl | rfl | rfl
  · rw [if_pos (show nI 0 = 0 from rfl)]
    have hk := kA_le (K := dK D p) (s := (0, fun _ => 0))
    exact main _ _ (Bod_asks z) (M_asks (nI p) z) (by omega) (xas_ok (x := z) hK r0 r1 r3 (by rw [z0]; omega)) (fun υ h1 _ h3 => mas_ok (x := z) hK (by omega) h1 h3 (by rw [z0]; omega)) (fun υ hυ => by rw [a2 υ hυ, if_neg (show ¬ ¬ nI 0 = 0 from fun q => q rfl)])
  · rw [if_neg (show ¬ nI 1 = 0 by decide), if_pos (show nI 1 = 1 from rfl)]
    have hk := kS_le (K := dK D p) (s := (0, fun _ => 0))
    exact main _ _ (Bod_says z) (M_says (nI p) z) (by omega) (xsy_ok (x := z) hK r0 r1 r2 r3 (by rw [z0]; omega)) (fun υ h1 h2 h3 => msy_ok (x := z) hK (by omega) h1 h2 h3 (by rw [z0]; omega)) (fun υ hυ => by rw [a2 υ hυ, if_pos (show ¬ nI 1 = 0 by decide), if_neg (show ¬ ¬ nI 1 = 1 from fun q => q rfl)])
  · rw [if_neg (show ¬ nI 2 = 0 by decide), if_neg (show ¬ nI 2 = 1 by decide)]
    have hk := kT_le (K := dK D p) (s := (0, fun _ => 0))
    exact main _ _ (Bod_tells z) (M_tells (nI p) z) (by omega) (xte_ok (x := z) hK r0 r2 r3 (by rw [z0]; omega)) (fun υ h1 h2 h3 => mte_ok (x := z) hK (by omega) h1 h2 h3 (by rw [z0]; omega)) (fun υ hυ => by rw [a2 υ hυ, if_pos (show ¬ nI 2 = 0 by decide), if_pos (show ¬ nI 2 = 1 by decide)])
theorem g_taken (x y : Int32) : Qg (X_taken x y) (M_taken x y) := by
  intro σ D I
  have V := I.1
  have hn := V.1
  rcases pt_cases D V x with h | ⟨p, rfl, hp, h⟩
  · refine ⟨-1, ?_, ?_⟩
    · unfold X_taken; rw [(h σ I).1, ob_some, if_pos rfl]
    · unfold M_taken; rw [(h σ I).2, ob_some, if_pos rfl]
  rcases rng y 0 4 (by decide) (by decide) with k | ⟨k, k2, k3⟩ | ⟨o, _, ho, rfl⟩
  · refine ⟨-1, ?_, ?_⟩
    · unfold X_taken; rw [(h σ I).1, ob_some, if_neg i10, if_pos (show y < 0 from k)]
    · unfold M_taken; rw [(h σ I).2, ob_some, if_neg i10, show M_in y 0 4 σ = some 0 from min_lo k, ob_some, if_neg (fun q => q rfl)]
  · refine ⟨-1, ?_, ?_⟩
    · unfold X_taken; rw [(h σ I).1, ob_some, if_neg i10, if_neg (show ¬ y < 0 from k), if_neg (show ¬ y < 5 from gt_not (b := 5) k2 rfl (by decide))]
    · unfold M_taken; rw [(h σ I).2, ob_some, if_neg i10, show M_in y 0 4 σ = some 0 from min_hi k k2, ob_some, if_neg (fun q => q rfl)]
  have hK : dK D p ≤ 4 := V.2.2.2.2.2.2.1 p
  refine ⟨if b01 (und (dK D p) o) = 0 then -5 else nI (dC D p), ?_, ?_⟩
  · unfold X_taken
    rw [(h σ I).1, ob_some, if_neg i10, if_neg (nI_pos (by omega)), if_pos (show nI o < 5 from nI_lt (b := 5) (by omega) (by decide)), ld3 (by omega), ob_some, I.2.1.2.2.1 p (by omega), xiu_ok hK ho, ob_some, ld4 (by omega), ob_some, I.2.1.2.2.2.1 p (by omega)]
    by_cases e : b01 (und (dK D p) o) = 0
    · rw [if_pos e, if_pos e]
    · rw [if_neg e, if_neg e]
  · unfold M_taken
    rw [(h σ I).2, ob_some, if_neg i10, show M_in (nI o) 0 4 σ = some 1 from min_ok (Nat.zero_le _) ho (by decide), ob_some, if_pos i10, ld77 (by omega), ob_some, I.2.2.1.2.2.1 p (by omega), miu_ok hK ho, ob_some, ld78 (by omega), ob_some, I.2.2.1.2.2.2 p (by omega)]
    by_cases e : b01 (und (dK D p) o) = 0
    · rw [if_pos e, if_pos e]
    · rw [if_neg e, if_neg e]
theorem g_trace (x : Int32) : Qg (X_trace x) (M_trace x) := by
  intro σ D I
  obtain ⟨m, hm, h1, h2, h3⟩ := I.2.2.2.2.2.2.2.1
  have hmin : min m 24 ≤ 24 := Nat.min_le_right _ _
  have eM : M_trace x σ = M_trace_c20 σ x (nI (min m 24)) 0 x := by
    unfold M_trace
    rw [h1]
    by_cases e : 24 ≤ m
    · rw [if_pos (show (24 : Int32) ≤ nI m from nI_le (a := 24) e (by omega)), Nat.min_eq_right e]
      rfl
    · rw [if_neg (show ¬ (24 : Int32) ≤ nI m from nI_ge (b := 24) (by omega) (by decide)), Nat.min_eq_left (by omega)]
  rw [eM]
  unfold X_trace M_trace_c20
  rw [h2]
  rcases pk_ix x (n := min m 24) (by omega) with hy | hy | ⟨i, hi, rfl⟩
  · rw [if_pos hy, show M_in x 0 (nI (min m 24) - 1) σ = some 0 from min_lo hy, ob_some, if_pos rfl]
    exact ⟨_, rfl, rfl⟩
  · have hy0 : ¬ x < 0 := fun q => by
      have e0 : (0 : Int32).toInt = 0 := rfl
      rw [Int32.lt_iff_toInt_lt] at q
      rw [Int32.le_iff_toInt_le, nI_toInt (by omega)] at hy
      omega
    have hm1 : nI (min m 24) - 1 < x := by
      rw [Int32.le_iff_toInt_le, nI_toInt (by omega)] at hy
      rw [Int32.lt_iff_toInt_lt, show (nI (min m 24) - 1).toInt = ((min m 24 : Nat) : Int) - (1 : Nat) from pk_sub_toInt (by omega) (by decide)]
      omega
    rw [if_neg hy0, if_neg (Int32.not_lt.mpr hy), show M_in x 0 (nI (min m 24) - 1) σ = some 0 from min_hi hy0 hm1, ob_some, if_pos rfl]
    exact ⟨_, rfl, rfl⟩
  · rw [if_neg (nI_pos (by omega)), if_pos (nI_lt hi (by omega)), ld74 (by omega), ob_some, show nI (min m 24) - 1 = nI (min m 24 - 1) from pk_sub (b := 1) (by omega), show M_in (nI i) 0 (nI (min m 24 - 1)) σ = some 1 from min_ok (Nat.zero_le _) (by omega) (by omega), ob_some, if_neg i10, ld95 (by omega), ob_some, h3 i hi]
    exact ⟨_, rfl, rfl⟩

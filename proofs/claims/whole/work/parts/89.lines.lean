/-! PURE: how many lines -/
def sN (f : Nat → Nat) : Nat → Nat
  | 0 => 0
  | n + 1 => sN f n + f n
theorem sN_cg {f g : Nat → Nat} : ∀ {n : Nat}, (∀ i, i < n → f i = g i) → sN f n = sN g n
  | 0, _ => rfl
  | n + 1, h => by
    unfold sN
    rw [sN_cg (fun i hi => h i (by omega)), h n (by omega)]
theorem sN_add {f g : Nat → Nat} : ∀ n, sN (fun i => f i + g i) n = sN f n + sN g n
  | 0 => rfl
  | n + 1 => by
    unfold sN
    rw [sN_add n]
    omega
theorem sN_0 : ∀ n, sN (fun _ => 0) n = 0
  | 0 => rfl
  | n + 1 => by
    unfold sN
    rw [sN_0 n]
theorem sN_swap {h : Nat → Nat → Nat} {n : Nat} : ∀ m, sN (fun a => sN (h a) n) m = sN (fun b => sN (fun a => h a b) m) n
  | 0 => by
    show 0 = sN (fun _ => 0) n
    rw [sN_0]
  | m + 1 => by
    show sN (fun a => sN (h a) n) m + sN (h m) n = sN (fun b => sN (fun a => h a b) m + h m b) n
    rw [sN_swap m, sN_add]
theorem sN_le {f : Nat → Nat} {c : Nat} : ∀ {n : Nat}, (∀ i, i < n → f i ≤ c) → sN f n ≤ n * c
  | 0, _ => by simp [sN]
  | n + 1, h => by
    have h1 := sN_le (fun i hi => h i (by omega) : ∀ i, i < n → f i ≤ c)
    have h2 := h n (by omega)
    unfold sN
    rw [Nat.succ_mul]
    omega
def sI (f : Nat → Nat) : Nat → Nat → Nat
  | _, 0 => 0
  | b, d + 1 => f b + sI f (b + 1) d
theorem sI_sN {f : Nat → Nat} : ∀ d b, sN f (b + d) = sN f b + sI f b d
  | 0, b => by simp [sI]
  | d + 1, b => by
    rw [show b + (d + 1) = b + 1 + d by omega, sI_sN d (b + 1), sI, sN]
    omega
theorem sI_cg {f g : Nat → Nat} : ∀ {d b : Nat}, (∀ i, b ≤ i → f i = g i) → sI f b d = sI g b d
  | 0, _, _ => rfl
  | d + 1, b, h => by
    unfold sI
    rw [h b (Nat.le_refl _), sI_cg (fun i hi => h i (by omega))]
def eL (T : Nat → Nat → Int32) (i j : Nat) : Nat := if j ≠ i ∧ T i j ≠ 0 then 1 else 0
theorem eL_le {T : Nat → Nat → Int32} {i j : Nat} : eL T i j ≤ 1 := by unfold eL; split <;> omega
theorem pcn_nbm {T : Nat → Nat → Int32} {i : Nat} : ∀ n, n ≤ 9 → pcn (nbm T i) n = sN (eL T i) n
  | 0, _ => rfl
  | n + 1, h => by
    unfold pcn sN
    rw [pcn_nbm n (by omega)]
    congr 1
    unfold eL
    by_cases e : n ≠ i ∧ T i n ≠ 0
    · rw [if_pos e, if_pos (nbm_bit.mpr ⟨by omega, e.1, e.2⟩)]
    · rw [if_neg e, if_neg (fun q => e (nbm_bit.mp q).2)]
/-- the lines, each once -/
def lnD (D : yD) : Nat := sN (fun a => sN (fun b => if a < b then eL (dT D) a b else 0) (dn D)) (dn D)
theorem pc_sum {D : yD} (V : Vd D) (i : Nat) : pc (nbm (dT D) i) = sN (eL (dT D) i) (dn D) := by
  have hn := V.1.2
  have h1 : pc (nbm (dT D) i) = sN (eL (dT D) i) 9 := pcn_nbm 9 (Nat.le_refl _)
  have h2 := sI_sN (f := eL (dT D) i) (9 - dn D) (dn D)
  rw [show dn D + (9 - dn D) = 9 by omega] at h2
  have h3 : sI (eL (dT D) i) (dn D) (9 - dn D) = sI (fun _ => 0) (dn D) (9 - dn D) := sI_cg (fun j hj => by
    unfold eL
    rw [if_neg]
    intro q
    exact q.2 (by rw [V.2.2.2.1]; exact V.2.2.2.2.1 j i hj))
  have h4 : ∀ d b, sI (fun _ => 0) b d = 0 := fun d => by
    induction d with
    | zero => intro b; rfl
    | succ d ih => intro b; unfold sI; rw [ih]
  rw [h1, h2, h3, h4]
  rfl
theorem ln_sum {D : yD} (V : Vd D) : sN (fun i => pc (nbm (dT D) i)) (dn D) = lnD D + lnD D := by
  have sym : ∀ a b, eL (dT D) a b = eL (dT D) b a := fun a b => by
    unfold eL
    rw [V.2.2.2.1 a b]
    by_cases e : b ≠ a
    · by_cases e2 : dT D b a ≠ 0
      · rw [if_pos ⟨e, e2⟩, if_pos ⟨Ne.symm e, e2⟩]
      · rw [if_neg (fun q => e2 q.2), if_neg (fun q => e2 q.2)]
    · rw [if_neg (fun q => e q.1), if_neg (fun q => e (Ne.symm q.1))]
  have e1 : sN (fun i => pc (nbm (dT D) i)) (dn D) = sN (fun a => sN (fun b => if a < b then eL (dT D) a b else 0) (dn D) + sN (fun b => if b < a then eL (dT D) a b else 0) (dn D)) (dn D) := sN_cg (fun a _ => by
    rw [pc_sum V, ← sN_add]
    refine sN_cg (fun b _ => ?_)
    by_cases c : a < b
    · rw [if_pos c, if_neg (by omega)]; rfl
    · by_cases c2 : b < a
      · rw [if_neg c, if_pos c2, Nat.zero_add]
      · rw [if_neg c, if_neg c2]
        unfold eL
        rw [if_neg (fun q => q.1 (by omega))])
  have e2 : sN (fun a => sN (fun b => if b < a then eL (dT D) a b else 0) (dn D)) (dn D) = lnD D := by
    rw [sN_swap (h := fun a b => if b < a then eL (dT D) a b else 0)]
    unfold lnD
    refine sN_cg (fun a _ => sN_cg (fun b _ => ?_))
    by_cases c : a < b
    · rw [if_pos c, if_pos c, sym]
    · rw [if_neg c, if_neg c]
  rw [e1, sN_add, e2]
  rfl
theorem xlns_ok {σ : zSt} {D : yD} (V : Vd D) (C : CN 1 2 3 4 6 D σ) : Net_lines σ = some (nI (lnD D)) := by
  have hn := V.1.2
  have hS := ln_sum V
  have hle : sN (fun i => pc (nbm (dT D) i)) (dn D) ≤ dn D * 9 := sN_le (fun i _ => pc_le _)
  have loop : ∀ (d m i : Nat), i + d = dn D → d < m → Net_lines_c4 σ m (nI (sN (fun i => pc (nbm (dT D) i)) i)) (nI i) = some (nI (lnD D)) := by
    intro d
    induction d with
    | zero =>
      intro m i hi hm
      obtain ⟨m, rfl⟩ : ∃ m2, m = m2 + 1 := ⟨m - 1, by omega⟩
      obtain rfl : i = dn D := by omega
      rw [Net_lines_c4, C.1.1, if_pos (nI_le (Nat.le_refl _) (by omega)), hS]
      unfold zdvq
      rw [if_neg (show ¬ (2 : Int32) = 0 by decide), z_2, pk_div (by omega) (by decide) (by decide), ob_some]
      congr 2
      omega
    | succ d ih =>
      intro m i hi hm
      obtain ⟨m, rfl⟩ : ∃ m2, m = m2 + 1 := ⟨m - 1, by omega⟩
      rw [Net_lines_c4, C.1.1, if_neg (nI_ge (by omega) (by omega)), ld2 (by omega), ob_some, C.2.1 i (by omega), Jdk_bitCount_ok nbm_lt, ob_some, nI_add, nI_1]
      exact ih m (i + 1) (by omega) (by omega)
  exact loop (dn D) zF 0 (Nat.zero_add _) (zF_big (by omega))
theorem mln_in {σ : zSt} {D : yD} {a : Nat} (V : Vd D) (M : MN 3 4 5 6 76 77 78 D σ) (ha : a < dn D) (c4 : Int32 → Int32 → Option Int32) : ∀ (d m b acc : Nat), b + d = dn D → d < m → M_lines_c16 σ c4 m (nI acc) (nI a) (nI b) = c4 (nI (acc + sI (eL (dT D) a) b d)) (nI (a + 1))
  | d, 0, b, acc, _, hm => absurd hm (Nat.not_lt_zero _)
  | 0, m + 1, b, acc, hb, _ => by
    have hn := V.1.2
    rw [M_lines_c16, M.1.1, if_pos (nI_le (by omega) (by omega)), nI_1]
    rfl
  | d + 1, m + 1, b, acc, hb, hm => by
    have hn := V.1.2
    rw [M_lines_c16, M.1.1, if_neg (nI_ge (by omega) (by omega)), isl_ok M (by omega) (by omega), ob_some, sI]
    by_cases e : b ≠ a ∧ dT D a b ≠ 0
    · rw [if_pos e, if_neg (show ¬ nI 1 = 0 by decide), nI_1, nI_1, mln_in V M ha c4 d m (b + 1) (acc + 1) (by omega) (by omega), show eL (dT D) a b = 1 from if_pos e, Nat.add_assoc]
    · rw [if_neg e, if_pos (show nI 0 = 0 from rfl), nI_1, show (0 : Int32) = nI 0 from rfl, nI_add, mln_in V M ha c4 d m (b + 1) (acc + 0) (by omega) (by omega), show eL (dT D) a b = 0 from if_neg e, Nat.add_assoc]
theorem mlns_ok {σ : zSt} {D : yD} (V : Vd D) (M : MN 3 4 5 6 76 77 78 D σ) : M_lines σ = some (nI (lnD D)) := by
  have hn := V.1.2
  have loop : ∀ (d m a : Nat), a + d = dn D → d < m → M_lines_c4 σ m (nI (sN (fun a => sN (fun b => if a < b then eL (dT D) a b else 0) (dn D)) a)) (nI a) = some (nI (lnD D)) := by
    intro d
    induction d with
    | zero =>
      intro m a ha hm
      obtain ⟨m, rfl⟩ : ∃ m2, m = m2 + 1 := ⟨m - 1, by omega⟩
      obtain rfl : a = dn D := by omega
      rw [M_lines_c4, M.1.1, if_pos (nI_le (Nat.le_refl _) (by omega))]
      rfl
    | succ d ih =>
      intro m a ha hm
      obtain ⟨m, rfl⟩ : ∃ m2, m = m2 + 1 := ⟨m - 1, by omega⟩
      have e1 : sN (fun b => if a < b then eL (dT D) a b else 0) (dn D) = sI (eL (dT D) a) (a + 1) d := by
        have h2 := sI_sN (f := fun b => if a < b then eL (dT D) a b else 0) d (a + 1)
        rw [show a + 1 + d = dn D by omega] at h2
        have h3 : sN (fun b => if a < b then eL (dT D) a b else 0) (a + 1) = sN (fun _ => 0) (a + 1) := sN_cg (fun b hb => by rw [if_neg (by omega)])
        rw [h2, h3, sN_0, Nat.zero_add]
        exact sI_cg (fun b hb => by rw [if_pos (by omega)])
      rw [M_lines_c4, M.1.1, if_neg (nI_ge (by omega) (by omega)), nI_1, mln_in V M (by omega) (M_lines_c4 σ m) d zF (a + 1) _ (by omega) (zF_big (by omega)), ← e1]
      exact ih m (a + 1) (by omega) (by omega)
  exact loop (dn D) zF 0 (Nat.zero_add _) (zF_big (by omega))
-- degrees
def lg (g : Nat → Nat) : Nat → Nat → Nat → Nat
  | 0, _, c => c
  | d + 1, i, c => lg g d (i + 1) (if g i < c then g i else c)
def gg (g : Nat → Nat) : Nat → Nat → Nat → Nat
  | 0, _, c => c
  | d + 1, i, c => gg g d (i + 1) (if c < g i then g i else c)
theorem xlD_loop {σ : zSt} {D : yD} (V : Vd D) (C : CN 1 2 3 4 6 D σ) : ∀ (d m i c : Nat), i + d = dn D → d < m → c ≤ 9 → Net_leastDegree_c5 σ m (nI c) (nI i) = some (nI (lg (fun i => pc (nbm (dT D) i)) d i c))
  | d, 0, i, c, _, hm, _ => absurd hm (Nat.not_lt_zero _)
  | 0, m + 1, i, c, hi, _, _ => by
    have hn := V.1.2
    rw [Net_leastDegree_c5, C.1.1, if_pos (nI_le (by omega) (by omega))]
    rfl
  | d + 1, m + 1, i, c, hi, hm, hc => by
    have hn := V.1.2
    have hp := pc_le (nbm (dT D) i)
    rw [Net_leastDegree_c5, C.1.1, if_neg (nI_ge (by omega) (by omega)), ld2 (by omega), ob_some, C.2.1 i (by omega), Jdk_bitCount_ok nbm_lt, ob_some, zlet_ap, nI_1, lg]
    by_cases e : pc (nbm (dT D) i) < c
    · rw [if_pos (nI_lt e (by omega)), if_pos e]
      exact xlD_loop V C d m (i + 1) _ (by omega) (by omega) hp
    · rw [if_neg (nI_nlt (by omega) (by omega)), if_neg e]
      exact xlD_loop V C d m (i + 1) _ (by omega) (by omega) hc
theorem xgD_loop {σ : zSt} {D : yD} (V : Vd D) (C : CN 1 2 3 4 6 D σ) : ∀ (d m i c : Nat), i + d = dn D → d < m → c ≤ 9 → Net_greatestDegree_c4 σ m (nI c) (nI i) = some (nI (gg (fun i => pc (nbm (dT D) i)) d i c))
  | d, 0, i, c, _, hm, _ => absurd hm (Nat.not_lt_zero _)
  | 0, m + 1, i, c, hi, _, _ => by
    have hn := V.1.2
    rw [Net_greatestDegree_c4, C.1.1, if_pos (nI_le (by omega) (by omega))]
    rfl
  | d + 1, m + 1, i, c, hi, hm, hc => by
    have hn := V.1.2
    have hp := pc_le (nbm (dT D) i)
    rw [Net_greatestDegree_c4, C.1.1, if_neg (nI_ge (by omega) (by omega)), ld2 (by omega), ob_some, C.2.1 i (by omega), Jdk_bitCount_ok nbm_lt, ob_some, zlet_ap, nI_1, gg]
    by_cases e : c < pc (nbm (dT D) i)
    · rw [if_pos (nI_lt e (by omega)), if_pos e]
      exact xgD_loop V C d m (i + 1) _ (by omega) (by omega) hp
    · rw [if_neg (nI_nlt (by omega) (by omega)), if_neg e]
      exact xgD_loop V C d m (i + 1) _ (by omega) (by omega) hc
theorem ng_key : (∀ a, a < 10 → ∀ b, b < 10 → ((-1 : Int32) * nI a ≤ (-1) * nI b ↔ b ≤ a)) ∧ ∀ a, a < 10 → (-1 : Int32) * ((-1) * nI a) = nI a := by decide +kernel
theorem mlD_loop {σ : zSt} {D : yD} (V : Vd D) (M : MN 3 4 5 6 76 77 78 D σ) : ∀ (d m i c : Nat), i + d = dn D → d < m → c ≤ 9 → M_degree_c13 σ m (-1) ((-1) * nI c) (nI i) = some (nI (lg (fun i => pc (nbm (dT D) i)) d i c))
  | d, 0, i, c, _, hm, _ => absurd hm (Nat.not_lt_zero _)
  | 0, m + 1, i, c, hi, _, hc => by
    have hn := V.1.2
    rw [M_degree_c13, M.1.1, if_pos (nI_le (by omega) (by omega)), ng_key.2 c (by omega)]
    rfl
  | d + 1, m + 1, i, c, hi, hm, hc => by
    have hn := V.1.2
    have hp := pc_le (nbm (dT D) i)
    have k := ng_key.1 (pc (nbm (dT D) i)) (by omega) c (by omega)
    rw [M_degree_c13, M.1.1, if_neg (nI_ge (by omega) (by omega)), mnb_ok M V (by omega), ob_some, mbits_ok nbm_lt, ob_some, ob_some, mbits_ok nbm_lt, ob_some, nI_1, lg]
    by_cases e : pc (nbm (dT D) i) < c
    · rw [if_neg (fun q => by have := k.mp q; omega), if_pos e]
      exact mlD_loop V M d m (i + 1) _ (by omega) (by omega) hp
    · rw [if_pos (k.mpr (by omega)), if_neg e]
      exact mlD_loop V M d m (i + 1) _ (by omega) (by omega) hc
theorem mgD_loop {σ : zSt} {D : yD} (V : Vd D) (M : MN 3 4 5 6 76 77 78 D σ) : ∀ (d m i c : Nat), i + d = dn D → d < m → c ≤ 9 → M_degree_c13 σ m 1 (nI c) (nI i) = some (nI (gg (fun i => pc (nbm (dT D) i)) d i c))
  | d, 0, i, c, _, hm, _ => absurd hm (Nat.not_lt_zero _)
  | 0, m + 1, i, c, hi, _, hc => by
    have hn := V.1.2
    rw [M_degree_c13, M.1.1, if_pos (nI_le (by omega) (by omega)), show (1 : Int32) = nI 1 from rfl, pk_mul, Nat.one_mul]
    rfl
  | d + 1, m + 1, i, c, hi, hm, hc => by
    have hn := V.1.2
    have hp := pc_le (nbm (dT D) i)
    have h1 : ∀ x, (1 : Int32) * nI x = nI x := fun x => by rw [show (1 : Int32) = nI 1 from rfl, pk_mul, Nat.one_mul]
    rw [M_degree_c13, M.1.1, if_neg (nI_ge (by omega) (by omega)), mnb_ok M V (by omega), ob_some, mbits_ok nbm_lt, ob_some, ob_some, mbits_ok nbm_lt, ob_some, h1, nI_1, gg]
    by_cases e : c < pc (nbm (dT D) i)
    · rw [if_neg (nI_ge e (by omega)), if_pos e]
      exact mgD_loop V M d m (i + 1) _ (by omega) (by omega) hp
    · rw [if_pos (nI_le (by omega) (by omega)), if_neg e]
      exact mgD_loop V M d m (i + 1) _ (by omega) (by omega) hc
theorem dgl_ok {σ τ : zSt} {D : yD} (V : Vd D) (C : CN 1 2 3 4 6 D σ) (M : MN 3 4 5 6 76 77 78 D τ) : ∃ r, (Net_leastDegree σ = some r ∧ M_degree (-1) τ = some r) := by
  have hn := V.1
  have hp := pc_le (nbm (dT D) 0)
  refine ⟨_, xlD_loop V C (dn D) zF 0 9 (Nat.zero_add _) (zF_big (by omega)) (Nat.le_refl _), ?_⟩
  obtain ⟨n, hnn⟩ : ∃ n, dn D = n + 1 := ⟨dn D - 1, by omega⟩
  unfold M_degree
  rw [show (0 : Int32) = nI 0 from rfl, mnb_ok M V (by decide), ob_some, mbits_ok nbm_lt, ob_some]
  have e1 := mlD_loop V M n zF 1 (pc (nbm (dT D) 0)) (by omega) (zF_big (by omega)) hp
  rw [show M_degree_c13 τ zF (-1) ((-1) * nI (pc (nbm (dT D) 0))) 1 = some (nI (lg (fun i => pc (nbm (dT D) i)) n 1 (pc (nbm (dT D) 0)))) from e1, hnn, lg]
  congr 3
  by_cases e : pc (nbm (dT D) 0) < 9
  · rw [if_pos e]
  · rw [if_neg e]; omega
theorem dgg_ok {σ τ : zSt} {D : yD} (V : Vd D) (C : CN 1 2 3 4 6 D σ) (M : MN 3 4 5 6 76 77 78 D τ) : ∃ r, (Net_greatestDegree σ = some r ∧ M_degree 1 τ = some r) := by
  have hn := V.1
  have hp := pc_le (nbm (dT D) 0)
  refine ⟨_, xgD_loop V C (dn D) zF 0 0 (Nat.zero_add _) (zF_big (by omega)) (Nat.zero_le _), ?_⟩
  obtain ⟨n, hnn⟩ : ∃ n, dn D = n + 1 := ⟨dn D - 1, by omega⟩
  unfold M_degree
  rw [show (0 : Int32) = nI 0 from rfl, mnb_ok M V (by decide), ob_some, mbits_ok nbm_lt, ob_some]
  have e1 := mgD_loop V M n zF 1 (pc (nbm (dT D) 0)) (by omega) (zF_big (by omega)) hp
  rw [show ∀ x, (1 : Int32) * nI x = nI x from fun x => by rw [show (1 : Int32) = nI 1 from rfl, pk_mul, Nat.one_mul]]
  rw [show M_degree_c13 τ zF 1 (nI (pc (nbm (dT D) 0))) 1 = some (nI (gg (fun i => pc (nbm (dT D) i)) n 1 (pc (nbm (dT D) 0)))) from e1, hnn, gg]
  congr 3
  by_cases e : 0 < pc (nbm (dT D) 0)
  · rw [if_pos e]
  · rw [if_neg e]; omega

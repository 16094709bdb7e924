/-! PURE: the reference's rounds over a loaded graph -/
theorem mhas_ok {σ : zSt} {s i : Nat} (hs : s < 512) (hi : i < 32) : M_has (nI s) (nI i) σ = some (nI (s.testBit i).toNat) := by
  unfold M_has
  by_cases h : s.testBit i = true
  · simp (disch := omega) only [pb_sdm, pb_and, pb_or, ↓bt1, ↓bt0, ↓sh1, ↓reduceIte, not_true_eq_false, not_false_eq_true, and_true, true_and, and_false, false_and, and_self, Bool.not_eq_true, Nat.or_zero, reduceCtorEq, eq_self, Bool.false_eq_true, Bool.true_eq_false, Bool.toNat_true, Bool.toNat_false, Nat.reduceEqDiff, Nat.reduceLeDiff, Nat.reduceLT, h, Bool.toNat_true, ↓z_m1, z_0, z_1, z_2, z_3, z_4, z_5, z_6, z_7, z_9, z_10, z_11, z_12, z_24, z_31, z_39, z_40, z_41, z_48, z_80, z_81, z_126, z_512, nI_add, pk_mul]
  · have h2 : s.testBit i = false := by simpa using h
    simp (disch := omega) only [pb_sdm, pb_and, pb_or, ↓bt1, ↓bt0, ↓sh1, ↓reduceIte, not_true_eq_false, not_false_eq_true, and_true, true_and, and_false, false_and, and_self, Bool.not_eq_true, Nat.or_zero, reduceCtorEq, eq_self, Bool.false_eq_true, Bool.true_eq_false, Bool.toNat_true, Bool.toNat_false, Nat.reduceEqDiff, Nat.reduceLeDiff, Nat.reduceLT, h2, Bool.toNat_false, ↓z_m1, z_0, z_1, z_2, z_3, z_4, z_5, z_6, z_7, z_9, z_10, z_11, z_12, z_24, z_31, z_39, z_40, z_41, z_48, z_80, z_81, z_126, z_512, nI_add, pk_mul]
theorem pcn_s (s n : Nat) : pcn s (n + 1) = pcn s n + (s.testBit n).toNat := by
  show pcn s n + (if s.testBit n = true then 1 else 0) = _
  cases s.testBit n <;> rfl
theorem mbits_ok {σ : zSt} {s : Nat} (hs : s < 512) : M_bits (nI s) σ = some (nI (pc s)) := by
  refine lup (fun n (q : Int32 × Int32) => M_bits_c4 σ n (nI s) q.1 q.2) (fun i => (nI (pcn s i), nI i)) 9 (some (nI (pcn s 9))) (fun n => ?_) (fun n i hi => ?_) 9 zF 0 rfl (zF_big (by decide))
  · rfl
  · have h9 : ¬ 9 ≤ i := by omega
    show M_bits_c4 σ (n + 1) (nI s) (nI (pcn s i)) (nI i) = M_bits_c4 σ n (nI s) (nI (pcn s (i + 1))) (nI (i + 1))
    rw [M_bits_c4, pcn_s]
    simp (disch := omega) only [↓pb_bit, ↓z_m1, z_0, z_1, z_2, z_3, z_4, z_5, z_6, z_7, z_9, z_10, z_11, z_12, z_24, z_31, z_39, z_40, z_41, z_48, z_80, z_81, z_126, z_512, nI_add, pk_mul, nI_leI, nI_ltI, nI_eq, ob_some, zlet_ap, zb2_sm, ↓reduceIte, not_true_eq_false, not_false_eq_true, and_true, true_and, and_false, false_and, and_self, Bool.not_eq_true, Nat.or_zero, reduceCtorEq, eq_self, Bool.false_eq_true, Bool.true_eq_false, Bool.toNat_true, Bool.toNat_false, Nat.reduceEqDiff, Nat.reduceLeDiff, Nat.reduceLT, h9]
def mpf (nb : Nat → Nat) (op x i : Nat) : Nat := if x.testBit i = true then nb i &&& op else 0
theorem grE_mpf (nb : Nat → Nat) (op x : Nat) : x ||| orf (mpf nb op x) 9 = grE nb op x := by
  refine bits_ext fun j => ?_
  rw [or_bit, orf_bit, grE_bit]
  constructor
  · rintro (h | ⟨i, hi, h⟩)
    · exact Or.inl h
    · unfold mpf at h
      rw [ite_bit, and_bit] at h
      exact Or.inr ⟨h.2.2, i, hi, h.1, h.2.1⟩
  · rintro (h | ⟨h1, i, hi, h2, h3⟩)
    · exact Or.inl h
    · refine Or.inr ⟨i, hi, ?_⟩
      unfold mpf
      rw [ite_bit, and_bit]
      exact ⟨h2, h3, h1⟩
theorem mpo_in {σ : zSt} {nb : Nat → Nat} {op x : Nat} (h83 : ∀ i, i < 9 → σ 83 i = nI (nb i)) (hx : x < 512) (c7 : Int32 → Int32 → Int32 → Option Int32) : M_partOf_c19 σ c7 zF (nI op) (nI x) (nI x) 0 = c7 (nI op) (nI (grE nb op x)) (nI x) := by
  rw [← grE_mpf]
  have e : nI x = nI (x ||| orf (mpf nb op x) 0) := by show nI x = nI (x ||| 0); rw [Nat.or_zero]
  have key := lup (fun n (q : Int32 × Int32) => M_partOf_c19 σ c7 n (nI op) q.1 (nI x) q.2) (fun i => (nI (x ||| orf (mpf nb op x) i), nI i)) 9 (c7 (nI op) (nI (x ||| orf (mpf nb op x) 9)) (nI x)) (fun n => by rfl) (fun n i hi => by
    have h9 : ¬ 9 ≤ i := by omega
    show M_partOf_c19 σ c7 (n + 1) (nI op) (nI (x ||| orf _ i)) (nI x) (nI i) = M_partOf_c19 σ c7 n (nI op) (nI (x ||| orf _ (i + 1))) (nI x) (nI (i + 1))
    rw [M_partOf_c19, orf_s, mpf]
    by_cases h1 : x.testBit i = true
    · simp (disch := omega) only [mhas_ok hx, h1, ld83, h83 i hi, Bool.toNat_true, pb_sdm, pb_and, pb_or, ↓bt1, ↓bt0, ↓sh1, ↓z_m1, z_0, z_1, z_2, z_3, z_4, z_5, z_6, z_7, z_9, z_10, z_11, z_12, z_24, z_31, z_39, z_40, z_41, z_48, z_80, z_81, z_126, z_512, nI_add, pk_mul, nI_leI, nI_ltI, nI_eq, ob_some, zlet_ap, zb2_sm, ↓reduceIte, not_true_eq_false, not_false_eq_true, and_true, true_and, and_false, false_and, and_self, Bool.not_eq_true, Nat.or_zero, reduceCtorEq, eq_self, Bool.false_eq_true, Bool.true_eq_false, Bool.toNat_true, Bool.toNat_false, Nat.reduceEqDiff, Nat.reduceLeDiff, Nat.reduceLT, h9, ← Nat.or_assoc]
    · have h2 : x.testBit i = false := by simpa using h1
      simp (disch := omega) only [mhas_ok hx, h2, Bool.false_eq_true, Bool.toNat_false, pb_sdm, pb_and, pb_or, ↓bt1, ↓bt0, ↓sh1, ↓z_m1, z_0, z_1, z_2, z_3, z_4, z_5, z_6, z_7, z_9, z_10, z_11, z_12, z_24, z_31, z_39, z_40, z_41, z_48, z_80, z_81, z_126, z_512, nI_add, pk_mul, nI_leI, nI_ltI, nI_eq, ob_some, zlet_ap, zb2_sm, ↓reduceIte, not_true_eq_false, not_false_eq_true, and_true, true_and, and_false, false_and, and_self, Bool.not_eq_true, Nat.or_zero, reduceCtorEq, eq_self, Bool.false_eq_true, Bool.true_eq_false, Bool.toNat_true, Bool.toNat_false, Nat.reduceEqDiff, Nat.reduceLeDiff, Nat.reduceLT, h9]) 9 zF 0 rfl (zF_big (by decide))
  rw [← e] at key
  exact key
theorem mpo_loop {σ : zSt} {nb : Nat → Nat} {op q : Nat} (h83 : ∀ i, i < 9 → σ 83 i = nI (nb i)) (ho : op < 512) (hq : q < 9) : ∀ (d n i : Nat), i + d = 9 → d < n → M_partOf_c7 σ n (nI op) (nI (grI nb op (i + 1) (2 ^ q))) (nI (grI nb op i (2 ^ q))) = some (nI (cmp nb op q))
  | 0, n + 1, i, hi, _ => by
    obtain rfl : i = 9 := by omega
    have e : grI nb op (9 + 1) (2 ^ q) = grI nb op 9 (2 ^ q) := by rw [grI_succ]; exact cmp_fix ho hq
    rw [M_partOf_c7, e, if_pos rfl]
    rfl
  | d + 1, n + 1, i, hi, hn => by
    have h1 : grI nb op i (2 ^ q) < 512 := grI_lt ho (two_lt q hq)
    have h2 : grI nb op (i + 1) (2 ^ q) < 512 := grI_lt ho (two_lt q hq)
    rw [M_partOf_c7]
    by_cases h : grI nb op (i + 1) (2 ^ q) = grI nb op i (2 ^ q)
    · rw [h, if_pos rfl]
      rw [grI_succ] at h
      have : grI nb op (9 - i) (grI nb op i (2 ^ q)) = grI nb op i (2 ^ q) := grI_fix h _
      have e : ∀ a b x, grI nb op a (grI nb op b x) = grI nb op (b + a) x := by
        intro a b
        induction b with
        | zero => intro x; rw [Nat.zero_add]; rfl
        | succ b ih => intro x; rw [Nat.add_right_comm]; exact ih _
      rw [e, show i + (9 - i) = 9 by omega] at this
      rw [← this]
      rfl
    · rw [if_neg (fun q => h ((nI_inj (by omega) (by omega)).mp q)), mpo_in h83 h2, ← grI_succ]
      exact mpo_loop h83 ho hq d n (i + 1) (by omega) (by omega)
theorem mpo_ok {σ : zSt} {nb : Nat → Nat} {op q : Nat} (h83 : ∀ i, i < 9 → σ 83 i = nI (nb i)) (ho : op < 512) (hq : q < 9) : M_partOf (nI q) (nI op) σ = some (nI (cmp nb op q)) := by
  unfold M_partOf
  rw [sh1 (by omega), show zF = 4095 + 1 from rfl, M_partOf_c7]
  have h0 : ¬ nI (2 ^ q) = 0 := by
    have : ∀ q, q < 9 → ¬ nI (2 ^ q) = 0 := by decide +kernel
    exact this q hq
  rw [if_neg h0, mpo_in h83 (two_lt q hq)]
  exact mpo_loop h83 ho hq 9 4095 0 rfl (by decide)
theorem mpy_loop {σ : zSt} {nb : Nat → Nat} {op p : Nat} (h83 : ∀ i, i < 9 → σ 83 i = nI (nb i)) (hn : ∀ i, nb i < 512) (ho : op < 512) (hp : p < 9) : ∀ (d n q acc left : Nat), q + d = 9 → d < n → left < 512 → M_partly_c8 σ n (nI p) (nI op) (nI acc) (nI left) (nI q) = some (nI (acc ||| lor (mpt nb p) (prts nb op d q left)))
  | 0, n + 1, q, acc, left, hq, _, hl => by
    obtain rfl : q = 9 := by omega
    rw [M_partly_c8, if_pos (by decide), prts, lor, Nat.or_zero]
  | d + 1, n + 1, q, acc, left, hq, hn2, hl => by
    have h9 : ¬ 9 ≤ q := by omega
    have e1 := mpo_ok h83 ho (show q < 9 by omega)
    have hb : nb p &&& cmp nb op q < 512 := and512 (hn p)
    have hpl : pc (nb p &&& cmp nb op q) ≤ 9 := pc_le _
    rw [M_partly_c8, prts]
    by_cases h : left.testBit q = true
    · by_cases h2 : pc (nb p &&& cmp nb op q) = 1
      all_goals simp (disch := omega) only [mhas_ok hl, h, e1, ld83, h83 p hp, mbits_ok hb, Bool.toNat_true, pb_sdm, pb_and, pb_or, ↓bt1, ↓bt0, ↓sh1, ↓z_m1, z_0, z_1, z_2, z_3, z_4, z_5, z_6, z_7, z_9, z_10, z_11, z_12, z_24, z_31, z_39, z_40, z_41, z_48, z_80, z_81, z_126, z_512, nI_add, pk_mul, nI_leI, nI_ltI, nI_eq, ob_some, zlet_ap, zb2_sm, ↓reduceIte, not_true_eq_false, not_false_eq_true, and_true, true_and, and_false, false_and, and_self, Bool.not_eq_true, Nat.or_zero, reduceCtorEq, eq_self, Bool.false_eq_true, Bool.true_eq_false, Bool.toNat_true, Bool.toNat_false, Nat.reduceEqDiff, Nat.reduceLeDiff, Nat.reduceLT, h9, h2, lor, mpt]
      all_goals rw [mpy_loop h83 hn ho hp d n (q + 1) _ _ (by omega) (by omega) (sd512 hl)]
      · rw [Nat.or_assoc]
      · rw [Nat.zero_or]
    · have h2 : left.testBit q = false := by simpa using h
      simp (disch := omega) only [mhas_ok hl, h2, Bool.false_eq_true, Bool.toNat_false, pb_sdm, pb_and, pb_or, ↓bt1, ↓bt0, ↓sh1, ↓z_m1, z_0, z_1, z_2, z_3, z_4, z_5, z_6, z_7, z_9, z_10, z_11, z_12, z_24, z_31, z_39, z_40, z_41, z_48, z_80, z_81, z_126, z_512, nI_add, pk_mul, nI_leI, nI_ltI, nI_eq, ob_some, zlet_ap, zb2_sm, ↓reduceIte, not_true_eq_false, not_false_eq_true, and_true, true_and, and_false, false_and, and_self, Bool.not_eq_true, Nat.or_zero, reduceCtorEq, eq_self, Bool.false_eq_true, Bool.true_eq_false, Bool.toNat_true, Bool.toNat_false, Nat.reduceEqDiff, Nat.reduceLeDiff, Nat.reduceLT, h9]
      exact mpy_loop h83 hn ho hp d n (q + 1) _ _ (by omega) (by omega) hl
theorem mfo_ok {σ : zSt} {nb : Nat → Nat} {al s by_ k p : Nat} (h14 : σ 75 14 = nI al) (h83 : ∀ i, i < 9 → σ 83 i = nI (nb i)) (hn : ∀ i, nb i < 512) (hal : al < 512) (hs : s < 512) (hp : p < 9) (hb : by_ ≤ 4) (hk : k < 100) : M_forces (nI p) (nI s) (nI by_) (nI k) σ = some (nI (mf nb al by_ k p s)) := by
  have hw : sd al s < 512 := sd512 hal
  have hx : nb p &&& sd al s < 512 := and512 (hn p)
  have hpl : pc (nb p &&& sd al s) ≤ 9 := pc_le _
  have e1 := mpy_loop h83 hn hw hp 9 zF 0 0 (sd al s) rfl (zF_big (by decide)) hw
  rw [Nat.zero_or] at e1
  unfold M_forces M_forces_c93 mf M_partly
  rcases (by omega : by_ = 0 ∨ by_ = 1 ∨ by_ = 2 ∨ by_ = 3 ∨ by_ = 4) with rfl | rfl | rfl | rfl | rfl
  all_goals cases h : s.testBit p
  all_goals by_cases h3 : pc (nb p &&& sd al s) ≤ 1
  all_goals rcases Classical.em (pc (nb p &&& sd al s) = 1) with h4' | h4'
  all_goals first | (have h4 := eq_false h4') | (have h4 := eq_true h4')
  all_goals clear h4'
  all_goals by_cases h5 : pc (nb p &&& sd al s) ≤ k
  all_goals have h6 : (1 < pc (nb p &&& sd al s)) = ¬ (pc (nb p &&& sd al s) ≤ 1) := propext (by omega)
  all_goals have h7 : (k < pc (nb p &&& sd al s)) = ¬ (pc (nb p &&& sd al s) ≤ k) := propext (by omega)
  all_goals simp (disch := omega) only [h14, ld83, h83 p hp, mhas_ok hs, mbits_ok hx, e1, h, h3, h4, h5, h6, h7, pb_sdm, pb_and, pb_or, ↓bt1, ↓bt0, ↓sh1, ↓z_m1, z_0, z_1, z_2, z_3, z_4, z_5, z_6, z_7, z_9, z_10, z_11, z_12, z_24, z_31, z_39, z_40, z_41, z_48, z_80, z_81, z_126, z_512, nI_add, pk_mul, nI_leI, nI_ltI, nI_eq, ob_some, zlet_ap, zb2_sm, ↓reduceIte, not_true_eq_false, not_false_eq_true, and_true, true_and, and_false, false_and, and_self, Bool.not_eq_true, Nat.or_zero, reduceCtorEq, eq_self, Bool.false_eq_true, Bool.true_eq_false, Bool.toNat_true, Bool.toNat_false, Nat.reduceEqDiff, Nat.reduceLeDiff, Nat.reduceLT]
def mgf (nb : Nat → Nat) (al by_ k s p : Nat) : Nat := if al.testBit p = true then mf nb al by_ k p s else 0
theorem mge_ok {σ : zSt} {nb : Nat → Nat} {al s by_ k : Nat} (h14 : σ 75 14 = nI al) (h83 : ∀ i, i < 9 → σ 83 i = nI (nb i)) (hn : ∀ i, nb i < 512) (hal : al < 512) (hs : s < 512) (hb : by_ ≤ 4) (hk : k < 100) : M_goes (nI s) (nI by_) (nI k) σ = some (nI (mgo nb al by_ k s)) := by
  have e0 : nI s = nI (s ||| orf (mgf nb al by_ k s) 0) := by show nI s = nI (s ||| 0); rw [Nat.or_zero]
  have e1 : mgo nb al by_ k s = s ||| orf (mgf nb al by_ k s) 9 := rfl
  rw [e1]
  have key := lup (fun n (q : Int32 × Int32) => M_goes_c6 σ n (nI s) (nI by_) (nI k) q.1 q.2) (fun i => (nI (s ||| orf (mgf nb al by_ k s) i), nI i)) 9 (some (nI (s ||| orf (mgf nb al by_ k s) 9))) (fun n => by rfl) (fun n i hi => by
    have h9 : ¬ 9 ≤ i := by omega
    show M_goes_c6 σ (n + 1) (nI s) (nI by_) (nI k) (nI (s ||| orf _ i)) (nI i) = M_goes_c6 σ n (nI s) (nI by_) (nI k) (nI (s ||| orf _ (i + 1))) (nI (i + 1))
    rw [M_goes_c6, orf_s, mgf]
    have e2 := mfo_ok (s := s) (k := k) h14 h83 hn hal hs hi hb hk
    by_cases h1 : al.testBit i = true
    · simp (disch := omega) only [h14, mhas_ok hal, h1, e2, Bool.toNat_true, pb_sdm, pb_and, pb_or, ↓bt1, ↓bt0, ↓sh1, ↓z_m1, z_0, z_1, z_2, z_3, z_4, z_5, z_6, z_7, z_9, z_10, z_11, z_12, z_24, z_31, z_39, z_40, z_41, z_48, z_80, z_81, z_126, z_512, nI_add, pk_mul, nI_leI, nI_ltI, nI_eq, ob_some, zlet_ap, zb2_sm, ↓reduceIte, not_true_eq_false, not_false_eq_true, and_true, true_and, and_false, false_and, and_self, Bool.not_eq_true, Nat.or_zero, reduceCtorEq, eq_self, Bool.false_eq_true, Bool.true_eq_false, Bool.toNat_true, Bool.toNat_false, Nat.reduceEqDiff, Nat.reduceLeDiff, Nat.reduceLT, h9, ← Nat.or_assoc]
    · have h2 : al.testBit i = false := by simpa using h1
      simp (disch := omega) only [h14, mhas_ok hal, h2, Bool.false_eq_true, Bool.toNat_false, pb_sdm, pb_and, pb_or, ↓bt1, ↓bt0, ↓sh1, ↓z_m1, z_0, z_1, z_2, z_3, z_4, z_5, z_6, z_7, z_9, z_10, z_11, z_12, z_24, z_31, z_39, z_40, z_41, z_48, z_80, z_81, z_126, z_512, nI_add, pk_mul, nI_leI, nI_ltI, nI_eq, ob_some, zlet_ap, zb2_sm, ↓reduceIte, not_true_eq_false, not_false_eq_true, and_true, true_and, and_false, false_and, and_self, Bool.not_eq_true, Nat.or_zero, reduceCtorEq, eq_self, Bool.false_eq_true, Bool.true_eq_false, Bool.toNat_true, Bool.toNat_false, Nat.reduceEqDiff, Nat.reduceLeDiff, Nat.reduceLT, h9]) 9 zF 0 rfl (zF_big (by decide))
  have key2 : M_goes_c6 σ zF (nI s) (nI by_) (nI k) (nI (s ||| orf (mgf nb al by_ k s) 0)) 0 = some (nI (s ||| orf (mgf nb al by_ k s) 9)) := key
  rw [← e0] at key2
  exact key2
theorem mrd_ok {σ : zSt} {nb : Nat → Nat} {al s r k i : Nat} (h14 : σ 75 14 = nI al) (h83 : ∀ i, i < 9 → σ 83 i = nI (nb i)) (G : Gr nb al) (hs : sub s al) (hr : r ≤ 4) (hk : k < 100) (hi : i < 100) : M_round (nI s) (nI r) (nI k) (nI i) σ = some (nI (xnx nb al r k s (decide (i = 0)))) := by
  have hal := G.1
  have hsl := sub_le hs
  have e1 := round_same (k := k) (first := decide (i = 0)) G.2.1 G.2.2.1 G.2.2.2 hs hr
  rw [← e1]
  have e2 := fun by_ (hb : by_ ≤ 4) => mge_ok (s := s) (by_ := by_) (k := k) h14 h83 G.2.1 G.1 (by omega) hb hk
  unfold M_round M_round_c16 M_round_c17
  by_cases h1 : r = 3
  · subst h1
    by_cases h2 : i = 0
    · subst h2
      simp (disch := omega) only [↓z_m1, z_0, z_1, z_2, z_3, z_4, z_5, z_6, z_7, z_9, z_10, z_11, z_12, z_24, z_31, z_39, z_40, z_41, z_48, z_80, z_81, z_126, z_512, nI_add, pk_mul, nI_leI, nI_ltI, nI_eq, ob_some, zlet_ap, zb2_sm, ↓reduceIte, not_true_eq_false, not_false_eq_true, and_true, true_and, and_false, false_and, and_self, Bool.not_eq_true, Nat.or_zero, reduceCtorEq, eq_self, Bool.false_eq_true, Bool.true_eq_false, Bool.toNat_true, Bool.toNat_false, Nat.reduceEqDiff, Nat.reduceLeDiff, Nat.reduceLT, e2, Nat.le_refl, decide_true, Bool.true_eq_false]
    · have h3 : ¬ i ≤ 0 := by omega
      simp (disch := omega) only [↓z_m1, z_0, z_1, z_2, z_3, z_4, z_5, z_6, z_7, z_9, z_10, z_11, z_12, z_24, z_31, z_39, z_40, z_41, z_48, z_80, z_81, z_126, z_512, nI_add, pk_mul, nI_leI, nI_ltI, nI_eq, ob_some, zlet_ap, zb2_sm, ↓reduceIte, not_true_eq_false, not_false_eq_true, and_true, true_and, and_false, false_and, and_self, Bool.not_eq_true, Nat.or_zero, reduceCtorEq, eq_self, Bool.false_eq_true, Bool.true_eq_false, Bool.toNat_true, Bool.toNat_false, Nat.reduceEqDiff, Nat.reduceLeDiff, Nat.reduceLT, e2, h3, h2, decide_false]
  · simp (disch := omega) only [↓z_m1, z_0, z_1, z_2, z_3, z_4, z_5, z_6, z_7, z_9, z_10, z_11, z_12, z_24, z_31, z_39, z_40, z_41, z_48, z_80, z_81, z_126, z_512, nI_add, pk_mul, nI_leI, nI_ltI, nI_eq, ob_some, zlet_ap, zb2_sm, ↓reduceIte, not_true_eq_false, not_false_eq_true, and_true, true_and, and_false, false_and, and_self, Bool.not_eq_true, Nat.or_zero, reduceCtorEq, eq_self, Bool.false_eq_true, Bool.true_eq_false, Bool.toNat_true, Bool.toNat_false, Nat.reduceEqDiff, Nat.reduceLeDiff, Nat.reduceLT, e2, h1]

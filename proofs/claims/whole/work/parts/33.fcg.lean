/-! PURE: the class's rounds over a loaded graph -/
theorem bt1 {a i : Nat} (ha : a < 2 ^ 31) (hi : i < 32) : (((nI a >>> (nI i &&& 31)) &&& 1) = 1) = (a.testBit i = true) := propext (pb_is1 ha hi)
theorem bt0 {a i : Nat} (ha : a < 2 ^ 31) (hi : i < 32) : (((nI a >>> (nI i &&& 31)) &&& 1) = 0) = (a.testBit i = false) := propext (pb_is0 ha hi)
theorem sh1 {i : Nat} (hi : i < 31) : (1 : Int32) <<< (nI i &&& 31) = nI (2 ^ i) := pb_1shl hi
theorem pb_sdm (a b : Nat) : nI a &&& (nI b ^^^ mI) = nI (sd a b) := pb_sd a b
theorem pop1 {m : Nat} (h : m < 512) : (nI m &&& (nI m - nI 1) = nI 0) = (pc m ≤ 1) := by
  have key : ∀ m, m < 512 → ((nI m &&& (nI m - 1) = 0) ↔ (pc m ≤ 1)) := by decide +kernel
  exact propext (key m h)
theorem orf_s (f : Nat → Nat) (i : Nat) : orf f (i + 1) = orf f i ||| f i := rfl
theorem orf_z {f : Nat → Nat} {i : Nat} (h : f i = 0) : orf f (i + 1) = orf f i := by
  show orf f i ||| f i = _
  rw [h, Nat.or_zero]
theorem and512 {a b : Nat} (h : a < 512) : a &&& b < 512 := Nat.lt_of_le_of_lt Nat.and_le_left h
theorem sd512 {a b : Nat} (h : a < 512) : sd a b < 512 := pb_lt (n := 9) (by decide) h
theorem or512 {a b : Nat} (h : a < 512) (h2 : b < 512) : a ||| b < 512 := Nat.or_lt_two_pow (n := 9) h h2
def xbf (nb : Nat → Nat) (s w i : Nat) : Nat := if s.testBit i = true ∧ pc (nb i &&& w) ≤ 1 then nb i &&& w else 0
theorem fb_ok {σ : zSt} {nb : Nat → Nat} {s w : Nat} (h44 : ∀ i, i < 9 → σ 44 i = nI (nb i)) (hn : ∀ i, nb i < 512) (hs : s < 512) : Fcg_forcedBy (nI s) (nI w) σ = some (nI (xby nb s w)) := by
  refine lup (fun n (q : Int32 × Int32) => Fcg_forcedBy_c5 σ n (nI s) (nI w) q.1 q.2) (fun i => (nI (orf (xbf nb s w) i), nI i)) 9 _ (fun n => ?_) (fun n i hi => ?_) 9 zF 0 rfl (zF_big (by decide))
  · rfl
  · have hb : nb i &&& w < 512 := and512 (hn i)
    have h9 : ¬ 9 ≤ i := by omega
    show Fcg_forcedBy_c5 σ (n + 1) (nI s) (nI w) (nI (orf _ i)) (nI i) = Fcg_forcedBy_c5 σ n (nI s) (nI w) (nI (orf _ (i + 1))) (nI (i + 1))
    rw [Fcg_forcedBy_c5, orf_s, xbf]
    by_cases h1 : s.testBit i = true <;> by_cases h2 : pc (nb i &&& w) ≤ 1 <;> simp (disch := omega) only [ld44, h44 i hi, pb_sdm, pb_and, pb_or, ↓bt1, ↓bt0, ↓sh1, pop1, ↓z_m1, z_0, z_1, z_2, z_3, z_4, z_5, z_6, z_7, z_9, z_10, z_11, z_12, z_24, z_31, z_39, z_40, z_41, z_48, z_80, z_81, z_126, z_512, nI_add, pk_mul, nI_leI, nI_ltI, nI_eq, ob_some, zlet_ap, zb2_sm, ↓reduceIte, not_true_eq_false, not_false_eq_true, and_true, true_and, and_false, false_and, and_self, Bool.not_eq_true, Nat.or_zero, reduceCtorEq, eq_self, Bool.false_eq_true, Bool.true_eq_false, Bool.toNat_true, Bool.toNat_false, Nat.reduceEqDiff, Nat.reduceLeDiff, Nat.reduceLT, h9, h1, h2]
def xmf (nb : Nat → Nat) (k s i : Nat) : Nat := if s.testBit i = true ∧ pc (sd (nb i) s) ≤ k then sd (nb i) s else 0
theorem fm_ok {σ : zSt} {nb : Nat → Nat} {s k : Nat} (h44 : ∀ i, i < 9 → σ 44 i = nI (nb i)) (hk : σ 43 2 = nI k) (hk2 : k < 100) (hn : ∀ i, nb i < 512) (hs : s < 512) : Fcg_forcedByMany (nI s) σ = some (nI (xmany nb k s)) := by
  have e0 : xmany nb k s = orf (xmf nb k s) 9 := rfl
  rw [e0]
  refine lup (fun n (q : Int32 × Int32) => Fcg_forcedByMany_c4 σ n (nI s) q.1 q.2) (fun i => (nI (orf (xmf nb k s) i), nI i)) 9 (some (nI (orf (xmf nb k s) 9))) (fun n => ?_) (fun n i hi => ?_) 9 zF 0 rfl (zF_big (by decide))
  · rfl
  · have hb : sd (nb i) s < 512 := sd512 (hn i)
    have hp : pc (sd (nb i) s) ≤ 9 := pc_le _
    have h9 : ¬ 9 ≤ i := by omega
    show Fcg_forcedByMany_c4 σ (n + 1) (nI s) (nI (orf _ i)) (nI i) = Fcg_forcedByMany_c4 σ n (nI s) (nI (orf _ (i + 1))) (nI (i + 1))
    rw [Fcg_forcedByMany_c4, orf_s, xmf]
    by_cases h1 : s.testBit i = true <;> by_cases h2 : pc (sd (nb i) s) ≤ k
    all_goals have h3 : ((k < pc (sd (nb i) s)) = ¬ (pc (sd (nb i) s) ≤ k)) := propext (by omega)
    all_goals simp (disch := omega) only [ld44, h44 i hi, hk, pb_sdm, pb_and, pb_or, ↓bt1, ↓bt0, ↓sh1, Jdk_bitCount_ok, ↓z_m1, z_0, z_1, z_2, z_3, z_4, z_5, z_6, z_7, z_9, z_10, z_11, z_12, z_24, z_31, z_39, z_40, z_41, z_48, z_80, z_81, z_126, z_512, nI_add, pk_mul, nI_leI, nI_ltI, nI_eq, ob_some, zlet_ap, zb2_sm, ↓reduceIte, not_true_eq_false, not_false_eq_true, and_true, true_and, and_false, false_and, and_self, Bool.not_eq_true, Nat.or_zero, reduceCtorEq, eq_self, Bool.false_eq_true, Bool.true_eq_false, Bool.toNat_true, Bool.toNat_false, Nat.reduceEqDiff, Nat.reduceLeDiff, Nat.reduceLT, h9, h1, h2, h3]
def sub (a b : Nat) : Prop := ∀ i, a.testBit i = true → b.testBit i = true
theorem sub_le {a b : Nat} (h : sub a b) : a ≤ b := sub_bits h
theorem sub_or {a b c : Nat} (h : sub a c) (h2 : sub b c) : sub (a ||| b) c := fun i q => (or_bit.mp q).elim (h i) (h2 i)
theorem sub_andr {a b c : Nat} (h : sub b c) : sub (a &&& b) c := fun i q => h i (and_bit.mp q).2
theorem sub_andl {a b c : Nat} (h : sub a c) : sub (a &&& b) c := fun i q => h i (and_bit.mp q).1
theorem sub_sd {a b c : Nat} (h : sub a c) : sub (sd a b) c := fun i q => h i (sd_bit'.mp q).1
theorem sub_two {q c : Nat} (h : c.testBit q = true) : sub (2 ^ q) c := fun i e => by
  rw [Nat.testBit_two_pow] at e
  rw [decide_eq_true_eq] at e
  exact e ▸ h
def Gr (nb : Nat → Nat) (al : Nat) : Prop := al < 512 ∧ (∀ i, nb i < 512) ∧ (∀ i j, (nb i).testBit j = true → al.testBit j = true) ∧ (∀ i, ¬ al.testBit i = true → nb i = 0)
def Fs (σ : zSt) (nb : Nat → Nat) (al r k : Nat) : Prop := σ 43 0 = nI al ∧ σ 43 1 = nI r ∧ σ 43 2 = nI k ∧ (∀ i, i < 9 → σ 44 i = nI (nb i)) ∧ (∀ x, x ≤ al → σ 45 x = nI (ar nb x))
theorem grE_in {nb : Nat → Nat} {op x c : Nat} (h : sub x c) (ho : sub op c) : sub (grE nb op x) c := sub_or h (sub_andr ho)
theorem fp_loop {σ : zSt} {nb : Nat → Nat} {al op : Nat} (h45 : ∀ x, x ≤ al → σ 45 x = nI (ar nb x)) (hal : al < 512) (ho : sub op al) : ∀ (d n i x : Nat), i + d = 9 → d < n → sub x al → Fcg_partOf_c5 σ n (nI op) (nI x) (nI i) = some (nI (grI nb op d x))
  | 0, n + 1, i, x, hi, _, _ => by
    obtain rfl : i = 9 := by omega
    rfl
  | d + 1, n + 1, i, x, hi, hn, hx => by
    have h9 : ¬ 9 ≤ i := by omega
    have hxl : x ≤ al := sub_le hx
    have hxo : x ||| (ar nb x &&& op) ≤ al := sub_le (grE_in (nb := nb) hx ho)
    rw [Fcg_partOf_c5]
    have e : x ||| (ar nb x &&& op) = grE nb op x := rfl
    simp (disch := omega) only [ld45, h45 x hxl, pb_and, pb_or, ↓z_m1, z_0, z_1, z_2, z_3, z_4, z_5, z_6, z_7, z_9, z_10, z_11, z_12, z_24, z_31, z_39, z_40, z_41, z_48, z_80, z_81, z_126, z_512, nI_add, pk_mul, nI_leI, nI_ltI, nI_eq, ob_some, zlet_ap, zb2_sm, ↓reduceIte, not_true_eq_false, not_false_eq_true, and_true, true_and, and_false, false_and, and_self, Bool.not_eq_true, Nat.or_zero, reduceCtorEq, eq_self, Bool.false_eq_true, Bool.true_eq_false, Bool.toNat_true, Bool.toNat_false, Nat.reduceEqDiff, Nat.reduceLeDiff, Nat.reduceLT, h9]
    rw [e]
    by_cases h : grE nb op x = x
    · simp only [h, ↓reduceIte, not_true_eq_false, not_false_eq_true, and_true, true_and, and_false, false_and, and_self, Bool.not_eq_true, Nat.or_zero, reduceCtorEq, eq_self, Bool.false_eq_true, Bool.true_eq_false, Bool.toNat_true, Bool.toNat_false, Nat.reduceEqDiff, Nat.reduceLeDiff, Nat.reduceLT]
      rw [grI_fix h]
    · simp only [h, ↓reduceIte, not_true_eq_false, not_false_eq_true, and_true, true_and, and_false, false_and, and_self, Bool.not_eq_true, Nat.or_zero, reduceCtorEq, eq_self, Bool.false_eq_true, Bool.true_eq_false, Bool.toNat_true, Bool.toNat_false, Nat.reduceEqDiff, Nat.reduceLeDiff, Nat.reduceLT]
      exact fp_loop h45 hal ho d n (i + 1) _ (by omega) (by omega) (grE_in hx ho)
theorem fp_ok {σ : zSt} {nb : Nat → Nat} {al op q : Nat} (h45 : ∀ x, x ≤ al → σ 45 x = nI (ar nb x)) (hal : al < 512) (ho : sub op al) (hq : al.testBit q = true) : Fcg_partOf (nI (2 ^ q)) (nI op) σ = some (nI (cmp nb op q)) := fp_loop h45 hal ho 9 zF 0 (2 ^ q) rfl (zF_big (by decide)) (sub_two hq)
theorem lowb {m q : Nat} (hm : m < 512) (hq : q < 9) (h1 : m.testBit q = true) (h2 : ∀ i, i < q → m.testBit i = false) : nI m &&& -nI m = nI (2 ^ q) := by
  have key : ∀ m, m < 512 → ∀ q, q < 9 → m.testBit q = true → (∀ i, i < q → m.testBit i = false) → nI m &&& -nI m = nI (2 ^ q) := by decide +kernel
  exact key m hm q hq h1 h2
theorem zero512 {m : Nat} (hm : m < 512) (h2 : ∀ i, i < 9 → m.testBit i = false) : m = 0 := Nat.eq_of_testBit_eq fun i => by
  rw [Nat.zero_testBit]
  by_cases h : i < 9
  · exact h2 i h
  · exact Nat.testBit_lt_two_pow (Nat.lt_of_lt_of_le hm (Nat.pow_le_pow_right (n := 2) (by decide) (by omega : 9 ≤ i)))
theorem ne_bit {m q : Nat} (h1 : m.testBit q = true) : ¬ m = 0 := fun e => by rw [e, Nat.zero_testBit] at h1; cases h1
theorem fip_loop {σ : zSt} {nb : Nat → Nat} {al op s : Nat} (h44 : ∀ i, i < 9 → σ 44 i = nI (nb i)) (h45 : ∀ x, x ≤ al → σ 45 x = nI (ar nb x)) (hn : ∀ i, nb i < 512) (hal : al < 512) (ho : sub op al) (hs : s < 512) : ∀ (d n q left acc c : Nat), q + d = 9 → c ≤ q → d < n → left < 512 → sub left op → (∀ i, i < q → left.testBit i = false) → Fcg_forcedInParts_c17 σ n (nI s) (nI op) (nI left) (nI acc) (nI c) = some (nI (acc ||| lor (xby nb s) (prts nb op d q left)))
  | 0, n + 1, q, left, acc, c, hq, hc, _, hl, _, hb => by
    obtain rfl : q = 9 := by omega
    obtain rfl := zero512 hl hb
    rw [Fcg_forcedInParts_c17]
    simp (disch := omega) only [↓z_m1, z_0, z_1, z_2, z_3, z_4, z_5, z_6, z_7, z_9, z_10, z_11, z_12, z_24, z_31, z_39, z_40, z_41, z_48, z_80, z_81, z_126, z_512, nI_add, pk_mul, nI_leI, nI_ltI, nI_eq, ob_some, zlet_ap, zb2_sm, ↓reduceIte, not_true_eq_false, not_false_eq_true, and_true, true_and, and_false, false_and, and_self, Bool.not_eq_true, Nat.or_zero, reduceCtorEq, eq_self, Bool.false_eq_true, Bool.true_eq_false, Bool.toNat_true, Bool.toNat_false, Nat.reduceEqDiff, Nat.reduceLeDiff, Nat.reduceLT]
    by_cases h : 9 ≤ c <;> simp only [h, ↓reduceIte, not_true_eq_false, not_false_eq_true, and_true, true_and, and_false, false_and, and_self, Bool.not_eq_true, Nat.or_zero, reduceCtorEq, eq_self, Bool.false_eq_true, Bool.true_eq_false, Bool.toNat_true, Bool.toNat_false, Nat.reduceEqDiff, Nat.reduceLeDiff, Nat.reduceLT, prts, lor]
  | d + 1, n + 1, q, left, acc, c, hq, hc, hn2, hl, hlo, hb => by
    by_cases h : left.testBit q = true
    · have hop : op < 512 := by have := sub_le ho; omega
      have hp : cmp nb op q < 512 := cmp_lt hop (by omega)
      have h0 : ¬ left = 0 := ne_bit h
      have h9 : ¬ 9 ≤ c := by omega
      rw [Fcg_forcedInParts_c17]
      have e1 := fp_ok h45 hal ho (ho q (hlo q h))
      have e2 := fb_ok (w := cmp nb op q) h44 hn hs
      simp (disch := omega) only [pb_sdm, pb_and, pb_or, ↓bt1, ↓bt0, ↓sh1, lowb hl (by omega : q < 9) h hb, e1, e2, ↓z_m1, z_0, z_1, z_2, z_3, z_4, z_5, z_6, z_7, z_9, z_10, z_11, z_12, z_24, z_31, z_39, z_40, z_41, z_48, z_80, z_81, z_126, z_512, nI_add, pk_mul, nI_leI, nI_ltI, nI_eq, ob_some, zlet_ap, zb2_sm, ↓reduceIte, not_true_eq_false, not_false_eq_true, and_true, true_and, and_false, false_and, and_self, Bool.not_eq_true, Nat.or_zero, reduceCtorEq, eq_self, Bool.false_eq_true, Bool.true_eq_false, Bool.toNat_true, Bool.toNat_false, Nat.reduceEqDiff, Nat.reduceLeDiff, Nat.reduceLT, h0, h9]
      rw [fip_loop h44 h45 hn hal ho hs d n (q + 1) (sd left (cmp nb op q)) _ (c + 1) (by omega) (by omega) (by omega) (sd512 hl) (sub_sd hlo) (fun i hi => by
        rw [sd_bit]
        by_cases e : i = q
        · subst e; rw [cmp_self]; simp
        · rw [hb i (by omega)]; rfl)]
      rw [prts, if_pos h, lor, Nat.or_assoc]
    · rw [prts, if_neg h]
      exact fip_loop h44 h45 hn hal ho hs d (n + 1) (q + 1) left acc c (by omega) (by omega) (by omega) hl hlo (fun i hi => by
        by_cases e : i = q
        · subst e; simpa using h
        · exact hb i (by omega))
theorem fip_ok {σ : zSt} {nb : Nat → Nat} {al s r k : Nat} (F : Fs σ nb al r k) (G : Gr nb al) (hs : s < 512) : Fcg_forcedInParts (nI s) σ = some (nI (lor (xby nb s) (prts nb (sd al s) 9 0 (sd al s)))) := by
  obtain ⟨h0, h1, h2, h44, h45⟩ := F
  have ho : sub (sd al s) al := sub_sd fun _ h => h
  unfold Fcg_forcedInParts
  simp (disch := omega) only [h0, pb_sdm, pb_and, pb_or, ↓bt1, ↓bt0, ↓sh1, ↓z_m1, z_0, z_1, z_2, z_3, z_4, z_5, z_6, z_7, z_9, z_10, z_11, z_12, z_24, z_31, z_39, z_40, z_41, z_48, z_80, z_81, z_126, z_512, nI_add, pk_mul, ob_some, zlet_ap, zb2_sm]
  have e := fip_loop h44 h45 G.2.1 G.1 ho hs 9 zF 0 (sd al s) 0 0 rfl (by decide) (zF_big (by decide)) (sd512 G.1) (fun _ h => h) (fun i h => absurd h (Nat.not_lt_zero i))
  rw [Nat.zero_or] at e
  exact e
theorem fnx_ok {σ : zSt} {nb : Nat → Nat} {al s r k : Nat} (F : Fs σ nb al r k) (G : Gr nb al) (hr : r ≤ 4) (hk : k < 100) (hs : sub s al) (first : Bool) : Fcg_next (nI s) (nI first.toNat) σ = some (nI (xnx nb al r k s first)) := by
  have hal := G.1
  have hsl := sub_le hs
  have hs5 : s < 512 := by omega
  have e1 := fip_ok F G hs5
  obtain ⟨h0, h1, h2, h44, h45⟩ := F
  have e2 := fm_ok (s := s) h44 h2 hk G.2.1 hs5
  have e3 := fb_ok (s := s) (w := sd al s) h44 G.2.1 hs5
  have e4 := fb_ok (s := al) (w := sd al s) h44 G.2.1 hal
  have h5 := h45 s hsl
  unfold Fcg_next xnx
  rcases (by omega : r = 0 ∨ r = 1 ∨ r = 2 ∨ r = 3 ∨ r = 4) with rfl | rfl | rfl | rfl | rfl
  all_goals cases first <;> simp (disch := omega) only [h0, h1, Bool.toNat_true, Bool.toNat_false, cond_true, cond_false, ld45, h5, pb_sdm, pb_and, pb_or, ↓bt1, ↓bt0, ↓sh1, ↓z_m1, z_0, z_1, z_2, z_3, z_4, z_5, z_6, z_7, z_9, z_10, z_11, z_12, z_24, z_31, z_39, z_40, z_41, z_48, z_80, z_81, z_126, z_512, nI_add, pk_mul, nI_leI, nI_ltI, nI_eq, ob_some, zlet_ap, zb2_sm, ↓reduceIte, not_true_eq_false, not_false_eq_true, and_true, true_and, and_false, false_and, and_self, Bool.not_eq_true, Nat.or_zero, reduceCtorEq, eq_self, Bool.false_eq_true, Bool.true_eq_false, Bool.toNat_true, Bool.toNat_false, Nat.reduceEqDiff, Nat.reduceLeDiff, Nat.reduceLT, e1, e2, e3, e4]

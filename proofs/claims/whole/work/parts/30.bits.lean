/-! PURE: sets of at most nine points as bits -/
theorem pb_and (a b : Nat) : nI a &&& nI b = nI (a &&& b) := by
  apply Int32.toBitVec_inj.1
  show BitVec.ofNat 32 a &&& BitVec.ofNat 32 b = BitVec.ofNat 32 (a &&& b)
  apply BitVec.eq_of_getLsbD_eq
  intro i hi
  simp [hi]
theorem pb_or (a b : Nat) : nI a ||| nI b = nI (a ||| b) := by
  apply Int32.toBitVec_inj.1
  show BitVec.ofNat 32 a ||| BitVec.ofNat 32 b = BitVec.ofNat 32 (a ||| b)
  apply BitVec.eq_of_getLsbD_eq
  intro i hi
  simp [hi]
theorem pb_xor (a b : Nat) : nI a ^^^ nI b = nI (a ^^^ b) := by
  apply Int32.toBitVec_inj.1
  show BitVec.ofNat 32 a ^^^ BitVec.ofNat 32 b = BitVec.ofNat 32 (a ^^^ b)
  apply BitVec.eq_of_getLsbD_eq
  intro i hi
  simp [hi]
/-- a without b -/
def sd (a b : Nat) : Nat := a ^^^ (a &&& b)
theorem sd_bit (a b i : Nat) : (sd a b).testBit i = (a.testBit i && !b.testBit i) := by
  unfold sd
  rw [Nat.testBit_xor, Nat.testBit_and]
  cases a.testBit i <;> cases b.testBit i <;> rfl
theorem pb_sd (a b : Nat) : nI a &&& (nI b ^^^ (-1)) = nI (sd a b) := by
  apply Int32.toBitVec_inj.1
  show BitVec.ofNat 32 a &&& (BitVec.ofNat 32 b ^^^ (-1 : Int32).toBitVec) = BitVec.ofNat 32 (sd a b)
  apply BitVec.eq_of_getLsbD_eq
  intro i hi
  have h1 : ∀ i, i < 32 → (-1 : Int32).toBitVec.getLsbD i = true := by decide +kernel
  rw [BitVec.getLsbD_and, BitVec.getLsbD_xor, h1 i hi]
  simp only [BitVec.getLsbD_ofNat, hi, decide_true, Bool.true_and, sd_bit, Bool.xor_true]
theorem ps_amt : ∀ n, n < 32 → ((nI n &&& 31).toBitVec.smod 32).toNat = n := by decide +kernel
theorem pb_shr {a i : Nat} (ha : a < 2 ^ 31) (hi : i < 32) : nI a >>> (nI i &&& 31) = nI (a / 2 ^ i) := pk_shrN ha _ i (ps_amt i hi)
theorem pb_shl {a i : Nat} (hi : i < 32) (h : a * 2 ^ i < 2 ^ 32) : nI a <<< (nI i &&& 31) = nI (a * 2 ^ i) := pk_shlN _ i (ps_amt i hi) h
theorem pb_1shl {i : Nat} (hi : i < 31) : (1 : Int32) <<< (nI i &&& 31) = nI (2 ^ i) := by
  have h : (2 : Nat) ^ i < 2 ^ 31 := Nat.pow_lt_pow_right (by decide) hi
  have e := pb_shl (a := 1) (i := i) (by omega) (by omega)
  rw [Nat.one_mul] at e
  exact e
theorem pb_bit {a i : Nat} (ha : a < 2 ^ 31) (hi : i < 32) : (nI a >>> (nI i &&& 31)) &&& 1 = nI (a.testBit i).toNat := by
  rw [pb_shr ha hi]
  have e : (1 : Int32) = nI 1 := rfl
  rw [e, pb_and, Nat.and_one_is_mod]
  rw [Nat.testBit_eq_decide_div_mod_eq]
  rcases Nat.mod_two_eq_zero_or_one (a / 2 ^ i) with h | h <;> rw [h] <;> rfl
theorem pb_is1 {a i : Nat} (ha : a < 2 ^ 31) (hi : i < 32) : ((nI a >>> (nI i &&& 31)) &&& 1 = 1) ↔ a.testBit i = true := by
  rw [pb_bit ha hi]
  cases a.testBit i <;> simp [nI]
theorem pb_is0 {a i : Nat} (ha : a < 2 ^ 31) (hi : i < 32) : ((nI a >>> (nI i &&& 31)) &&& 1 = 0) ↔ a.testBit i = false := by
  rw [pb_bit ha hi]
  cases a.testBit i <;> simp [nI]
theorem nI_inj {a b : Nat} (ha : a < 2 ^ 31) (hb : b < 2 ^ 31) : nI a = nI b ↔ a = b := nI_eq ha hb
theorem pb_lt {a b n : Nat} (hn : n ≤ 31) (ha : a < 2 ^ n) : sd a b < 2 ^ n := by
  refine Nat.lt_pow_two_of_testBit _ (fun i hi => ?_)
  rw [sd_bit, Nat.testBit_lt_two_pow (Nat.lt_of_lt_of_le ha (Nat.pow_le_pow_right (by decide) hi))]
  rfl
theorem sub_bits {a b : Nat} (h : ∀ i, a.testBit i = true → b.testBit i = true) : a ≤ b := by
  have e : a &&& b = a := Nat.eq_of_testBit_eq fun i => by
    rw [Nat.testBit_and]
    cases ha : a.testBit i with
    | true => rw [h i ha]; rfl
    | false => rfl
  rw [← e]
  exact Nat.and_le_right
theorem small_bit {a n i : Nat} (ha : a < 2 ^ n) (h : a.testBit i = true) : i < n := by
  refine Nat.not_le.mp fun q => ?_
  rw [Nat.testBit_lt_two_pow (Nat.lt_of_lt_of_le ha (Nat.pow_le_pow_right (by decide) q))] at h
  cases h
/-- how many bits stand below place n -/
def pcn (s : Nat) : Nat → Nat
  | 0 => 0
  | n + 1 => pcn s n + (if s.testBit n = true then 1 else 0)
def pc (s : Nat) : Nat := pcn s 9
theorem pcn_le (s : Nat) : ∀ n, pcn s n ≤ n
  | 0 => Nat.le_refl _
  | n + 1 => by
    have := pcn_le s n
    unfold pcn
    split <;> omega
theorem pc_le (s : Nat) : pc s ≤ 9 := pcn_le s 9
theorem pcn_mono {s t : Nat} (h : ∀ i, s.testBit i = true → t.testBit i = true) : ∀ n, pcn s n ≤ pcn t n
  | 0 => Nat.le_refl _
  | n + 1 => by
    have h1 := pcn_mono h n
    unfold pcn
    by_cases hs : s.testBit n = true
    · rw [if_pos hs, if_pos (h n hs)]; omega
    · rw [if_neg hs]; omega
theorem pcn_lt {s t : Nat} (h : ∀ i, s.testBit i = true → t.testBit i = true) {j : Nat} (h1 : ¬ s.testBit j = true) (h2 : t.testBit j = true) : ∀ n, j < n → pcn s n < pcn t n
  | 0, hj => absurd hj (Nat.not_lt_zero j)
  | n + 1, hj => by
    have hm := pcn_mono h n
    unfold pcn
    by_cases e : j = n
    · subst e
      rw [if_neg h1, if_pos h2]; omega
    · have := pcn_lt h h1 h2 n (by omega)
      by_cases hs : s.testBit n = true
      · rw [if_pos hs, if_pos (h n hs)]; omega
      · rw [if_neg hs]; omega
/-- the bits' or of f 0 .. f (n - 1) -/
def orf (f : Nat → Nat) : Nat → Nat
  | 0 => 0
  | n + 1 => orf f n ||| f n
theorem orf_bit (f : Nat → Nat) (j : Nat) : ∀ n, (orf f n).testBit j = true ↔ ∃ i, i < n ∧ (f i).testBit j = true
  | 0 => by simp [orf]
  | n + 1 => by
    unfold orf
    rw [Nat.testBit_or, Bool.or_eq_true, orf_bit f j n]
    constructor
    · rintro (⟨i, hi, h⟩ | h)
      · exact ⟨i, by omega, h⟩
      · exact ⟨n, by omega, h⟩
    · rintro ⟨i, hi, h⟩
      by_cases e : i = n
      · subst e; exact Or.inr h
      · exact Or.inl ⟨i, by omega, h⟩
theorem orf_lt {f : Nat → Nat} {m : Nat} : ∀ {n : Nat}, (∀ i, i < n → f i < 2 ^ m) → orf f n < 2 ^ m
  | 0, _ => Nat.pow_pos (by decide)
  | n + 1, h => Nat.or_lt_two_pow (orf_lt (fun i hi => h i (by omega))) (h n (by omega))
theorem orf_congr {f g : Nat → Nat} : ∀ {n : Nat}, (∀ i, i < n → f i = g i) → orf f n = orf g n
  | 0, _ => rfl
  | n + 1, h => by
    unfold orf
    rw [orf_congr (fun i hi => h i (by omega)), h n (by omega)]
theorem bits_ext {a b : Nat} (h : ∀ i, a.testBit i = true ↔ b.testBit i = true) : a = b := Nat.eq_of_testBit_eq fun i => by
  have := h i
  cases ha : a.testBit i <;> cases hb : b.testBit i <;> simp_all
/-- a loop that counts up -/
theorem lup {S : Type} {R : Type} (F : Nat → S → Option R) (st : Nat → S) (N : Nat) (r : Option R) (he : ∀ n, F (n + 1) (st N) = r) (hs : ∀ n i, i < N → F (n + 1) (st i) = F n (st (i + 1))) : ∀ (d n i : Nat), i + d = N → d < n → F n (st i) = r
  | 0, n + 1, i, h, _ => by
    rw [show i = N by omega]
    exact he n
  | d + 1, n + 1, i, h, hn => by
    rw [hs n i (by omega)]
    exact lup F st N r he hs d n (i + 1) (by omega) (by omega)
theorem zF_big {d : Nat} (h : d < 4096) : d < zF := h
theorem Jdk_bitCount_ok {s : Nat} (hs : s < 512) (σ : zSt) : Jdk_bitCount (nI s) σ = some (nI (pc s)) := by
  have key : ∀ s, s < 512 → Jdk_bitCount (nI s) (fun _ _ => 0) = some (nI (pc s)) := by decide +kernel
  exact key s hs

/-! PURE: modulo a prime -/
def mdz (p : Nat) (z : Int) : Nat := (z % (p : Int)).toNat
theorem mdz_lt {p : Nat} {z : Int} (hp : prim p) : mdz p z < p := by
  have hb := prim_b hp
  have h1 := Int.emod_lt_of_pos z (show (0 : Int) < p by omega)
  have h2 := Int.emod_nonneg z (show (p : Int) ≠ 0 by omega)
  unfold mdz
  omega
theorem mdz_nat {p x : Nat} : mdz p (x : Int) = x % p := by
  unfold mdz
  rw [← Int.natCast_emod, Int.toNat_natCast]
theorem mdz_sub {p t a b : Nat} (ht : t ≤ p) : mdz p ((a : Int) - t * b) = (a + (p - t) * b) % p := by
  have e : ((a + (p - t) * b : Nat) : Int) = ((a : Int) - t * b) + p * b := by
    rw [Int.natCast_add, Int.natCast_mul, Int.natCast_sub ht]
    grind
  rw [← mdz_nat, e]
  unfold mdz
  rw [Int.add_mul_emod_self_left]
def mdc (p : Nat) (x : Int32) : Option Int32 := (zrmq x (nI p)).bind fun v => if 0 ≤ v then some v else some (v + nI p)
theorem mdc_at {p : Nat} (hp : prim p) {k : Nat} (hk : k < 2000) : mdc p (Int32.ofInt ((k : Int) - 1000)) = some (nI (mdz p ((k : Int) - 1000))) := by
  have k11 : ∀ a : Nat, a < 40 → ∀ b : Nat, b < 50 → mdc 11 (Int32.ofInt (((50 * a + b : Nat) : Int) - 1000)) = some (nI (mdz 11 (((50 * a + b : Nat) : Int) - 1000))) := by decide +kernel
  have k13 : ∀ a : Nat, a < 40 → ∀ b : Nat, b < 50 → mdc 13 (Int32.ofInt (((50 * a + b : Nat) : Int) - 1000)) = some (nI (mdz 13 (((50 * a + b : Nat) : Int) - 1000))) := by decide +kernel
  have k17 : ∀ a : Nat, a < 40 → ∀ b : Nat, b < 50 → mdc 17 (Int32.ofInt (((50 * a + b : Nat) : Int) - 1000)) = some (nI (mdz 17 (((50 * a + b : Nat) : Int) - 1000))) := by decide +kernel
  have k19 : ∀ a : Nat, a < 40 → ∀ b : Nat, b < 50 → mdc 19 (Int32.ofInt (((50 * a + b : Nat) : Int) - 1000)) = some (nI (mdz 19 (((50 * a + b : Nat) : Int) - 1000))) := by decide +kernel
  have k23 : ∀ a : Nat, a < 40 → ∀ b : Nat, b < 50 → mdc 23 (Int32.ofInt (((50 * a + b : Nat) : Int) - 1000)) = some (nI (mdz 23 (((50 * a + b : Nat) : Int) - 1000))) := by decide +kernel
  have k29 : ∀ a : Nat, a < 40 → ∀ b : Nat, b < 50 → mdc 29 (Int32.ofInt (((50 * a + b : Nat) : Int) - 1000)) = some (nI (mdz 29 (((50 * a + b : Nat) : Int) - 1000))) := by decide +kernel
  have k31 : ∀ a : Nat, a < 40 → ∀ b : Nat, b < 50 → mdc 31 (Int32.ofInt (((50 * a + b : Nat) : Int) - 1000)) = some (nI (mdz 31 (((50 * a + b : Nat) : Int) - 1000))) := by decide +kernel
  have e : 50 * (k / 50) + k % 50 = k := Nat.div_add_mod k 50
  have h1 : k / 50 < 40 := by omega
  have h2 : k % 50 < 50 := by omega
  rw [← e]
  rcases hp with rfl | rfl | rfl | rfl | rfl | rfl | rfl
  · exact k11 _ h1 _ h2
  · exact k13 _ h1 _ h2
  · exact k17 _ h1 _ h2
  · exact k19 _ h1 _ h2
  · exact k23 _ h1 _ h2
  · exact k29 _ h1 _ h2
  · exact k31 _ h1 _ h2
theorem mdc_ok {p : Nat} {x : Int32} (hp : prim p) (h1 : -1000 ≤ x.toInt) (h2 : x.toInt < 1000) : mdc p x = some (nI (mdz p x.toInt)) := by
  have hk : (((x.toInt + 1000).toNat : Nat) : Int) - 1000 = x.toInt := by omega
  have hx : x = Int32.ofInt ((((x.toInt + 1000).toNat : Nat) : Int) - 1000) := by rw [hk, Int32.ofInt_toInt]
  have := mdc_at hp (k := (x.toInt + 1000).toNat) (by omega)
  rw [← hx, hk] at this
  exact this
theorem rem_ok {a p : Nat} (ha : a < 2 ^ 31) (h0 : 0 < p) (hp : p < 2 ^ 31) : zrmq (nI a) (nI p) = some (nI (a % p)) := by
  unfold zrmq
  rw [if_neg (show ¬ nI p = 0 from nI_ne0 h0 hp), pk_rem ha h0 hp]

/-! PURE: kernel -/
def kfr (L : Nat → Nat) (S : Nat) : Nat → Nat → Nat → Nat
  | 0, _, _ => 600
  | d + 1, s, c => if L c = 99 then (if s = S then c else kfr L S d (s + 1) (c + 1)) else kfr L S d s (c + 1)
theorem kfr_lt {L : Nat → Nat} {S : Nat} : ∀ d s c, kfr L S d s c = 600 ∨ (c ≤ kfr L S d s c ∧ kfr L S d s c < c + d ∧ L (kfr L S d s c) = 99)
  | 0, _, _ => Or.inl rfl
  | d + 1, s, c => by
    unfold kfr
    by_cases h1 : L c = 99
    · rw [if_pos h1]
      by_cases h2 : s = S
      · rw [if_pos h2]; exact Or.inr ⟨Nat.le_refl _, by omega, h1⟩
      · rw [if_neg h2]
        rcases kfr_lt (L := L) (S := S) d (s + 1) (c + 1) with g | ⟨g1, g2, g3⟩
        · exact Or.inl g
        · exact Or.inr ⟨by omega, by omega, g3⟩
    · rw [if_neg h1]
      rcases kfr_lt (L := L) (S := S) d s (c + 1) with g | ⟨g1, g2, g3⟩
      · exact Or.inl g
      · exact Or.inr ⟨by omega, by omega, g3⟩
theorem xfc_loop {σ : zSt} {n S : Nat} {L : Nat → Nat} (h0 : σ 51 0 = nI n) (hn : n ≤ 9) (h62 : ∀ x, x < n → σ 62 x = lv (L x)) (hL : ∀ x, x < n → L x = 99 ∨ L x < 9) (hS : S < 2 ^ 31) : ∀ (d m s c : Nat), c + d = n → d < m → s ≤ c → Grd_freeColumn_c4 σ m (nI S) (nI s) (nI c) = some (e6 mI (kfr L S d s c))
  | d, 0, s, c, _, hm, _ => absurd hm (Nat.not_lt_zero _)
  | 0, m + 1, s, c, hc, _, _ => by
    rw [Grd_freeColumn_c4, h0, if_pos (nI_le (by omega) (by omega))]
    rfl
  | d + 1, m + 1, s, c, hc, hm, hs => by
    rw [Grd_freeColumn_c4, h0, if_neg (nI_ge (by omega) (by omega)), ld62 (by omega), ob_some, h62 c (by omega), kfr]
    unfold lv
    by_cases h1 : L c = 99
    · rw [if_pos h1, if_neg mI_neg, if_pos h1]
      by_cases h2 : s = S
      · rw [if_neg (fun q => q (by rw [h2])), if_pos h2]
        unfold e6
        rw [if_neg (by omega)]
      · rw [if_pos (show ¬ nI s = nI S from fun q => h2 ((nI_inj (by omega) (by omega)).mp q)), if_neg h2, nI_1, nI_1]
        exact xfc_loop h0 hn h62 hL hS d m (s + 1) (c + 1) (by omega) (by omega) (by omega)
    · rw [if_neg h1, if_pos (nI_pos' (by have := hL c (by omega); omega)), if_neg h1, nI_1]
      exact xfc_loop h0 hn h62 hL hS d m s (c + 1) (by omega) (by omega) (by omega)
/-- the kernel's number at a place -/
def kvl (p : Nat) (A : Nat → Nat → Nat) (L : Nat → Nat) (f i : Nat) : Int32 := if L i = 99 then (if i = f then 1 else 0) else nI ((p - A (L i) f) % p)
theorem gna_ok {σ : zSt} {n p R r f i : Nat} {c L pv : Nat → Nat} {A : Nat → Nat → Nat} (hp : prim p) (hn : n ≤ 9) (hR : R ≤ n) (hG : GX n p c A σ) (hI : RI p n R n r A L pv) (h62 : ∀ x, x < n → σ 62 x = lv (L x)) (hf : f < n) (hi : i < n) : Grd_noughtAt (nI f) (nI i) σ = some (kvl p A L f i) := by
  have hr := hI.1
  unfold Grd_noughtAt kvl
  rw [ld62 (by omega), ob_some, ob_some, h62 i hi]
  unfold lv
  by_cases h1 : L i = 99
  · rw [if_pos h1, if_neg mI_neg, if_pos h1]
    by_cases h2 : i = f
    · rw [if_neg (fun q => q (by rw [h2])), if_pos h2]
    · rw [if_pos (show ¬ nI i = nI f from fun q => h2 ((nI_inj (by omega) (by omega)).mp q)), if_neg h2]
  · rcases hI.2.2.1 i hi with z | ⟨z1, z2⟩
    · exact absurd z h1
    · have hc := hG.2.1.1 (L i) (by omega)
      obtain ⟨k1, k2, _⟩ := kd_gr (c (L i)) (by omega) hc.2.1 (Or.inl hc.2.2)
      have hA := hI.2.1 (L i) f hf
      have e0 : -nI (A (L i) f) = nI 0 - nI 1 * nI (A (L i) f) := by
        rw [pk_mul, Nat.one_mul]
        apply Int32.toBitVec_inj.1
        show -(nI (A (L i) f)).toBitVec = (nI 0).toBitVec - (nI (A (L i) f)).toBitVec
        rw [show (nI 0).toBitVec = 0#32 from rfl, BitVec.zero_sub]
      have hb := prim_b hp
      rw [if_neg h1, if_pos (nI_pos' (by omega)), lr52 (by omega) hc.1 hc.2.2, ob_some, zld_at k1 k2 (by omega : f < 9) (by decide), ob_some, hG.2.2 (L i) (by omega) f hf, e0, pk_mul, Nat.one_mul, ← Nat.one_mul (A (L i) f), ← pk_mul, Nat.one_mul]
      have e1 : Grd_modulo (nI 0 - nI 1 * nI (A (L i) f)) σ = some (nI ((p - A (L i) f) % p)) := by
        have h3 : (nI 0 - nI 1 * nI (A (L i) f)).toInt = (0 : Int) - (A (L i) f : Int) := by
          rw [pk_mul, Nat.one_mul, pk_sub_toInt (by omega) (by omega)]
          rfl
        rw [gmod_ok hG.1.2 hp (by rw [h3]; omega) (by rw [h3]; omega), h3]
        have := mdz_sub (p := p) (t := A (L i) f) (a := 0) (b := 1) (by omega)
        rw [Nat.zero_add, Nat.mul_one] at this
        rw [← this]
        congr 2
        simp
      rw [e1, ob_some, if_neg h1]
theorem mso_loop {σ : zSt} {r c : Nat} {L pv : Nat → Nat} (h87 : ∀ q, q < r → σ 87 q = nI (pv q)) (hr : r ≤ 9) (hpv : ∀ q, q < r → pv q < 9 ∧ L (pv q) = q) (hc : c < 9) : ∀ (d m q : Nat), q + d = r → d < m → (L c = 99 ∨ (q ≤ L c ∧ L c < r ∧ pv (L c) = c)) → M_stepOf_c2 σ m (nI c) (nI r) (nI q) = some (if L c = 99 then -2 else nI (L c))
  | d, 0, q, _, hm, _ => absurd hm (Nat.not_lt_zero _)
  | 0, m + 1, q, hq, _, h => by
    rw [M_stepOf_c2, if_pos (nI_le (by omega) (by omega))]
    rcases h with z | ⟨z1, z2, _⟩
    · rw [if_pos z]
    · omega
  | d + 1, m + 1, q, hq, hm, h => by
    have hp := hpv q (by omega)
    rw [M_stepOf_c2, if_neg (nI_ge (by omega) (by omega)), ld87 (by omega), ob_some, h87 q (by omega)]
    by_cases e : pv q = c
    · rw [if_neg (fun w => w (by rw [e])), if_neg (by rw [← e, hp.2]; omega), ← e, hp.2]
    · rw [if_pos (show ¬ nI (pv q) = nI c from fun w => e ((nI_inj (by omega) (by omega)).mp w)), nI_1]
      refine mso_loop h87 hr hpv hc d m (q + 1) (by omega) (by omega) ?_
      rcases h with z | ⟨z1, z2, z3⟩
      · exact Or.inl z
      · refine Or.inr ⟨?_, z2, z3⟩
        by_cases e2 : q = L c
        · rw [e2] at e; exact absurd z3 e
        · omega
theorem mso_ok {σ : zSt} {n p R r c : Nat} {A : Nat → Nat → Nat} {L pv : Nat → Nat} (hn : n ≤ 9) (hR : R ≤ n) (hI : RI p n R n r A L pv) (h87 : ∀ q, q < r → σ 87 q = nI (pv q)) (hc : c < n) : M_stepOf (nI c) (nI r) σ = some (if L c = 99 then -2 else nI (L c)) := by
  have hr := hI.1
  refine mso_loop h87 (by omega) (fun q hq => ⟨by have := (hI.2.2.2.1 q hq).1; omega, (hI.2.2.2.1 q hq).2⟩) (by omega) r zF 0 (Nat.zero_add _) (zF_big (by omega)) ?_
  rcases hI.2.2.1 c hc with z | ⟨z1, z2⟩
  · exact Or.inl z
  · exact Or.inr ⟨Nat.zero_le _, z1, z2⟩
theorem mkn_fin {σ : zSt} {n p r S i s col m : Nat} {A : Nat → Nat → Nat} {L pv : Nat → Nat} (h3 : σ 75 3 = nI n) (h6 : σ 75 6 = nI p) (hp : prim p) (hn : n ≤ 9) (hI : RI p n n n r A L pv) (h87 : ∀ q, q < r → σ 87 q = nI (pv q)) (hE : GE n A (σ 86)) (hi : i < n) (hcol : col < n) (hs : S < s) (hs2 : s < 2 ^ 31) : M_kernel_c33 (m + 1) (nI S) (nI i) (nI r) (nI s) (nI col) (nI n) σ = some (kvl p A L col i, σ) := by
  have hb := prim_b hp
  have hr := hI.1
  rw [M_kernel_c33, h3, if_pos (nI_le (Nat.le_refl _) (by omega)), if_pos (nI_lt hs hs2), mso_ok hn (Nat.le_refl _) hI h87 hi, ob_some]
  unfold kvl
  by_cases h1 : L i = 99
  · rw [if_pos h1, if_neg (fun q => q rfl), if_pos h1]
    by_cases h2 : i = col
    · rw [if_neg (fun q => q (by rw [h2])), if_pos h2]
    · rw [if_pos (show ¬ nI i = nI col from fun q => h2 ((nI_inj (by omega) (by omega)).mp q)), if_neg h2]
  · rcases hI.2.2.1 i hi with z | ⟨z1, z2⟩
    · exact absurd z h1
    · have hA := hI.2.1 (L i) col hcol
      have hne : ¬ nI (L i) = (-2 : Int32) := fun q => by
        have h2 := nI_pos' (n := L i) (by omega)
        rw [q] at h2
        exact absurd h2 (by decide)
      rw [if_neg h1, if_pos hne, i9, ld86 (by omega), ob_some, hE (L i) (by omega) col hcol, h6, pk_sub (by omega), rem_ok (by omega) (by omega) (by omega), ob_some, if_neg h1]
theorem mkn_b {σ : zSt} {n p r S i col : Nat} {A : Nat → Nat → Nat} {L pv : Nat → Nat} (h3 : σ 75 3 = nI n) (h6 : σ 75 6 = nI p) (hp : prim p) (hn : n ≤ 9) (hI : RI p n n n r A L pv) (h87 : ∀ q, q < r → σ 87 q = nI (pv q)) (hE : GE n A (σ 86)) (hi : i < n) (hcol : col < n) : ∀ (d m s c : Nat), c + d = n → d < m → S < s → s ≤ c → M_kernel_c33 m (nI S) (nI i) (nI r) (nI s) (nI col) (nI c) σ = some (kvl p A L col i, σ)
  | d, 0, s, c, _, hm, _, _ => absurd hm (Nat.not_lt_zero _)
  | 0, m + 1, s, c, hc, _, hs, hs2 => by
    obtain rfl : c = n := by omega
    exact mkn_fin h3 h6 hp hn hI h87 hE hi hcol hs (by omega)
  | d + 1, m + 1, s, c, hc, hm, hs, hs2 => by
    rw [M_kernel_c33, h3, if_neg (nI_ge (by omega) (by omega)), mso_ok hn (Nat.le_refl _) hI h87 (by omega), ob_some]
    by_cases h1 : L c = 99
    · rw [if_pos h1, if_pos rfl, if_pos (show ¬ nI s = nI S from fun q => by have := (nI_inj (by omega) (by omega)).mp q; omega), nI_1, nI_1]
      exact mkn_b h3 h6 hp hn hI h87 hE hi hcol d m (s + 1) (c + 1) (by omega) (by omega) (by omega) (by omega)
    · have hr := hI.1
      have hl : L c < r := by
        rcases hI.2.2.1 c (by omega) with z | ⟨z1, z2⟩
        · exact absurd z h1
        · exact z1
      rw [if_neg h1, if_neg (fun q => by
        have h2 := nI_pos' (n := L c) (by omega)
        rw [q] at h2
        exact absurd h2 (by decide)), nI_1]
      exact mkn_b h3 h6 hp hn hI h87 hE hi hcol d m s (c + 1) (by omega) (by omega) hs (by omega)
theorem mkn_a {σ : zSt} {n p r S i : Nat} {A : Nat → Nat → Nat} {L pv : Nat → Nat} (h3 : σ 75 3 = nI n) (h6 : σ 75 6 = nI p) (hp : prim p) (hn : n ≤ 9) (hI : RI p n n n r A L pv) (h87 : ∀ q, q < r → σ 87 q = nI (pv q)) (hE : GE n A (σ 86)) (hi : i < n) (hS : S < 2 ^ 31) : ∀ (d m s c : Nat) (x : Int32), c + d = n → d < m → s ≤ S → s ≤ c → M_kernel_c33 m (nI S) (nI i) (nI r) (nI s) x (nI c) σ = some (if kfr L S d s c = 600 then -2 else kvl p A L (kfr L S d s c) i, σ)
  | d, 0, s, c, x, _, hm, _, _ => absurd hm (Nat.not_lt_zero _)
  | 0, m + 1, s, c, x, hc, _, hs, hs2 => by
    rw [M_kernel_c33, h3, if_pos (nI_le (by omega) (by omega)), if_neg (nI_nlt hs hS), kfr, if_pos rfl]
  | d + 1, m + 1, s, c, x, hc, hm, hs, hs2 => by
    rw [M_kernel_c33, h3, if_neg (nI_ge (by omega) (by omega)), mso_ok hn (Nat.le_refl _) hI h87 (by omega), ob_some, kfr]
    by_cases h1 : L c = 99
    · rw [if_pos h1, if_pos rfl, if_pos h1]
      by_cases h2 : s = S
      · rw [if_neg (fun q => q (by rw [h2])), if_pos h2, nI_1, nI_1, if_neg (by omega)]
        exact mkn_b h3 h6 hp hn hI h87 hE hi (by omega) d m (s + 1) (c + 1) (by omega) (by omega) (by omega) (by omega)
      · rw [if_pos (show ¬ nI s = nI S from fun q => h2 ((nI_inj (by omega) (by omega)).mp q)), if_neg h2, nI_1, nI_1]
        exact mkn_a h3 h6 hp hn hI h87 hE hi hS d m (s + 1) (c + 1) x (by omega) (by omega) (by omega) (by omega)
    · have hr := hI.1
      have hl : L c < r := by
        rcases hI.2.2.1 c (by omega) with z | ⟨z1, z2⟩
        · exact absurd z h1
        · exact z1
      rw [if_neg h1, if_neg (fun q => by
        have h2 := nI_pos' (n := L c) (by omega)
        rw [q] at h2
        exact absurd h2 (by decide)), if_neg h1, nI_1]
      exact mkn_a h3 h6 hp hn hI h87 hE hi hS d m s (c + 1) x (by omega) (by omega) hs (by omega)
theorem q_kernel (x y : Int32) : Q2 (X_kernel x y) (M_kernel x y) := by
  rintro σ ⟨D, I⟩
  have V := I.1
  have hn := V.1
  rcases pt_cases D V y with h | ⟨i, rfl, hi, h⟩
  · refine ⟨-1, σ, σ, ?_, ?_, D, I⟩
    · unfold X_kernel; rw [(h σ I).1, ob_some, if_pos rfl]
    · unfold M_kernel; rw [(h σ I).2, ob_some, if_pos rfl]
  by_cases h0 : 0 ≤ x
  · obtain ⟨S, hS, rfl⟩ := nI_of (Int32.not_lt.mpr h0)
    obtain ⟨σ1, σ2, c, pv, e1, e2, e3, G2, h62, hI, I2⟩ := xre_ok I
    obtain ⟨f, f2, g2, pv2, a1, a2, hE, hI2, h87, I3⟩ := mre_ok I2
    generalize hL : (rr (dp D) (dn D) (dn D) 0 0 (tA D) L99).2.2 = L at *
    generalize hA : (rr (dp D) (dn D) (dn D) 0 0 (tA D) L99).2.1 = A at *
    refine ⟨if kfr L S (dn D) 0 0 = 600 then -2 else kvl (dp D) A L (kfr L S (dn D) 0 0) i, σ2, _, ?_, ?_, D, I3⟩
    · unfold X_kernel Grd_freeColumn
      have hr := hI.1
      have hx := xfc_loop G2.1.1 hn.2 h62 (fun x hx => (hI.2.2.1 x hx).elim Or.inl (fun z => Or.inr (by omega))) hS (dn D) zF 0 0 (Nat.zero_add _) (zF_big (by omega)) (Nat.le_refl _)
      rw [(h σ I).1, ob_some, if_neg i10, if_pos h0, e1, ob_some, e2, e3, zb2_sm, show (0 : Int32) = nI 0 from rfl, hx, ob_some]
      unfold e6
      by_cases e : kfr L S (dn D) 0 0 = 600
      · rw [if_pos e, if_neg (show ¬ nI 0 ≤ mI from mI_neg), if_pos e]
      · have hk := (kfr_lt (L := L) (S := S) (dn D) 0 0).resolve_left e
        rw [if_neg e, if_pos (show nI 0 ≤ nI (kfr L S (dn D) 0 0) from nI_pos' (by omega)), gna_ok V.2.2.1 hn.2 (Nat.le_refl _) G2 hI h62 (by omega) hi, ob_some, if_neg e]
    · unfold M_kernel
      rw [(h σ2 I2).2, ob_some, if_neg i10, if_pos h0, a1, ob_some, a2, zb2_sm]
      exact mkn_a I3.2.2.1.1.1 I3.2.2.1.1.2.2.2 V.2.2.1 hn.2 hI2 (fun q hq => by rw [sw_ap, if_neg (by decide), sw_ap, if_pos rfl]; exact h87 q hq) (fun a ha b hb => by rw [sw_ap, if_pos rfl]; exact hE a ha b hb) hi hS (dn D) zF 0 0 (-2) (Nat.zero_add _) (zF_big (by omega)) (Nat.zero_le _) (Nat.le_refl _)
  · refine ⟨-1, σ, σ, ?_, ?_, D, I⟩
    · unfold X_kernel; rw [(h σ I).1, ob_some, if_neg i10, if_neg h0]
    · unfold M_kernel; rw [(h σ I).2, ob_some, if_neg i10, if_neg h0]

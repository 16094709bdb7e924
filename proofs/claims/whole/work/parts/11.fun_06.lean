/-! the methods as functions, by program -/
def M_best_c91 (c38 : Int32 → Int32 → Int32 → Int32 → Int32 → zSt → Option (Int32 × zSt)) (c53 : Int32 → Int32 → Int32 → Int32 → Int32 → Int32 → zSt → Option (Int32 × zSt)) (l1 : Int32) (l2 : Int32) (l4 : Int32) (l5 : Int32) (l6 : Int32) (l7 : Int32) (t0 : Int32) (σ : zSt) : Option (Int32 × zSt) := if l4 ≤ l7 then (c53 l1 l2 t0 l4 l5 (l6 + 1) σ) else (c53 l1 l2 t0 l7 l5 (l6 + 1) σ)
theorem M_best_g91 {c38 : Int32 → Int32 → Int32 → Int32 → Int32 → zSt → Option (Int32 × zSt)} {c53 : Int32 → Int32 → Int32 → Int32 → Int32 → Int32 → zSt → Option (Int32 × zSt)} (hc38 : ∀ {d6 : Option Value} {d7 : Option Value} {l1 : Int32} {l2 : Int32} {l3 : Int32} {l4 : Int32} {l5 : Int32} {σ : zSt} {r : Int32 × zSt}, c38 l1 l2 l3 l4 l5 σ = some r → zGo zPT zmlc zP_194 (38, [some (.ref 75), some (.int l1), some (.int l2), some (.int l3), some (.int l4), some (.int l5), d6, d7], [], σ) (some (.int r.1), r.2)) (hc53 : ∀ {d7 : Option Value} {l1 : Int32} {l2 : Int32} {l3 : Int32} {l4 : Int32} {l5 : Int32} {l6 : Int32} {σ : zSt} {r : Int32 × zSt}, c53 l1 l2 l3 l4 l5 l6 σ = some r → zGo zPT zmlc zP_194 (53, [some (.ref 75), some (.int l1), some (.int l2), some (.int l3), some (.int l4), some (.int l5), some (.int l6), d7], [], σ) (some (.int r.1), r.2)) {d3 : Option Value} {l1 : Int32} {l2 : Int32} {l4 : Int32} {l5 : Int32} {l6 : Int32} {l7 : Int32} {t0 : Int32} {σ : zSt} {r : Int32 × zSt} (h : M_best_c91 c38 c53 l1 l2 l4 l5 l6 l7 t0 σ = some r) : zGo zPT zmlc zP_194 (91, [some (.ref 75), some (.int l1), some (.int l2), d3, some (.int l4), some (.int l5), some (.int l6), some (.int l7)], [.int t0], σ) (some (.int r.1), r.2) := by
  unfold M_best_c91 at h
  refine zGo.sts 3 (cf' := (96, [some (.ref 75), some (.int l1), some (.int l2), some (.int t0), some (.int l4), some (.int l5), some (.int l6), some (.int l7)], [.int l4, .int l7], σ)) rfl ?_
  by_cases hb13 : l4 ≤ l7
  · replace h := zif_t hb13 h
    refine zC_ge_t rfl hb13 ?_
    refine zGo.sts 4 (cf' := (53, [some (.ref 75), some (.int l1), some (.int l2), some (.int t0), some (.int l4), some (.int l5), some (.int (l6 + 1)), some (.int l7)], [], σ)) rfl ?_
    exact hc53 h
  · replace h := zif_f hb13 h
    refine zC_ge_f rfl hb13 ?_
    refine zGo.sts 5 (cf' := (53, [some (.ref 75), some (.int l1), some (.int l2), some (.int t0), some (.int l7), some (.int l5), some (.int (l6 + 1)), some (.int l7)], [], σ)) rfl ?_
    exact hc53 h
def M_best_c53 (c38 : Int32 → Int32 → Int32 → Int32 → Int32 → zSt → Option (Int32 × zSt)) : Nat → Int32 → Int32 → Int32 → Int32 → Int32 → Int32 → zSt → Option (Int32 × zSt)
  | 0, _, _, _, _, _, _, _ => none
  | n + 1, l1, l2, l3, l4, l5, l6, σ => if (σ 75 3) ≤ l6 then (c38 l1 l2 l3 l4 (l5 + 1) σ) else (zb2 (M_turned l5 l6 σ) fun v9 σ10 => if l4 ≤ v9 then (M_best_c91 c38 (M_best_c53 c38 n) l1 l2 l4 l5 l6 v9 l3 σ10) else (M_best_c91 c38 (M_best_c53 c38 n) l1 l2 l4 l5 l6 v9 ((10 * l5) + l6) σ10))
theorem M_best_g53 {c38 : Int32 → Int32 → Int32 → Int32 → Int32 → zSt → Option (Int32 × zSt)} (hc38 : ∀ {d6 : Option Value} {d7 : Option Value} {l1 : Int32} {l2 : Int32} {l3 : Int32} {l4 : Int32} {l5 : Int32} {σ : zSt} {r : Int32 × zSt}, c38 l1 l2 l3 l4 l5 σ = some r → zGo zPT zmlc zP_194 (38, [some (.ref 75), some (.int l1), some (.int l2), some (.int l3), some (.int l4), some (.int l5), d6, d7], [], σ) (some (.int r.1), r.2)) : ∀ (n : Nat) {d7 : Option Value} {l1 : Int32} {l2 : Int32} {l3 : Int32} {l4 : Int32} {l5 : Int32} {l6 : Int32} {σ : zSt} {r : Int32 × zSt}, M_best_c53 c38 n l1 l2 l3 l4 l5 l6 σ = some r → zGo zPT zmlc zP_194 (53, [some (.ref 75), some (.int l1), some (.int l2), some (.int l3), some (.int l4), some (.int l5), some (.int l6), d7], [], σ) (some (.int r.1), r.2) := by
  intro n
  induction n with
  | zero => intro d7 l1 l2 l3 l4 l5 l6 σ r h; cases h
  | succ n ih =>
    intro d7 l1 l2 l3 l4 l5 l6 σ r h
    rw [M_best_c53] at h
    refine zGo.sts 3 (cf' := (59, [some (.ref 75), some (.int l1), some (.int l2), some (.int l3), some (.int l4), some (.int l5), some (.int l6), d7], [.int (σ 75 3), .int l6], σ)) rfl ?_
    by_cases hb12 : (σ 75 3) ≤ l6
    · replace h := zif_t hb12 h
      refine zC_ge_t rfl hb12 ?_
      refine zGo.sts 2 (cf' := (38, [some (.ref 75), some (.int l1), some (.int l2), some (.int l3), some (.int l4), some (.int (l5 + 1)), some (.int l6), d7], [], σ)) rfl ?_
      exact hc38 h
    · replace h := zif_f hb12 h
      refine zC_ge_f rfl hb12 ?_
      refine zGo.sts 3 (cf' := (67, [some (.ref 75), some (.int l1), some (.int l2), some (.int l3), some (.int l4), some (.int l5), some (.int l6), d7], [.int l6, .int l5, .ref 75], σ)) rfl ?_
      obtain ⟨v9, σ10, hv, h⟩ := zbd2 h
      refine zGo.call rfl rfl (M_turned_g hv) ?_
      refine zGo.sts 3 (cf' := (76, [some (.ref 75), some (.int l1), some (.int l2), some (.int l3), some (.int l4), some (.int l5), some (.int l6), some (.int v9)], [.int l4, .int v9], σ10)) rfl ?_
      by_cases hb11 : l4 ≤ v9
      · replace h := zif_t hb11 h
        refine zC_ge_t rfl hb11 ?_
        refine zGo.sts 1 (cf' := (91, [some (.ref 75), some (.int l1), some (.int l2), some (.int l3), some (.int l4), some (.int l5), some (.int l6), some (.int v9)], [.int l3], σ10)) rfl ?_
        exact M_best_g91 hc38 ih h
      · replace h := zif_f hb11 h
        refine zC_ge_f rfl hb11 ?_
        refine zGo.sts 6 (cf' := (91, [some (.ref 75), some (.int l1), some (.int l2), some (.int l3), some (.int l4), some (.int l5), some (.int l6), some (.int v9)], [.int ((10 * l5) + l6)], σ10)) rfl ?_
        exact M_best_g91 hc38 ih h
def M_best_c38 : Nat → Int32 → Int32 → Int32 → Int32 → Int32 → zSt → Option (Int32 × zSt)
  | 0, _, _, _, _, _, _ => none
  | n + 1, l1, l2, l3, l4, l5, σ => if (σ 75 3) ≤ l5 then (if ¬ l1 = 0 then (some (l2 - l4, σ)) else (some (l3, σ))) else (M_best_c53 (M_best_c38 n) zF l1 l2 l3 l4 l5 (l5 + 1) σ)
theorem M_best_g38 : ∀ (n : Nat) {d6 : Option Value} {d7 : Option Value} {l1 : Int32} {l2 : Int32} {l3 : Int32} {l4 : Int32} {l5 : Int32} {σ : zSt} {r : Int32 × zSt}, M_best_c38 n l1 l2 l3 l4 l5 σ = some r → zGo zPT zmlc zP_194 (38, [some (.ref 75), some (.int l1), some (.int l2), some (.int l3), some (.int l4), some (.int l5), d6, d7], [], σ) (some (.int r.1), r.2) := by
  intro n
  induction n with
  | zero => intro d6 d7 l1 l2 l3 l4 l5 σ r h; cases h
  | succ n ih =>
    intro d6 d7 l1 l2 l3 l4 l5 σ r h
    rw [M_best_c38] at h
    refine zGo.sts 3 (cf' := (44, [some (.ref 75), some (.int l1), some (.int l2), some (.int l3), some (.int l4), some (.int l5), d6, d7], [.int (σ 75 3), .int l5], σ)) rfl ?_
    by_cases hb8 : (σ 75 3) ≤ l5
    · replace h := zif_t hb8 h
      refine zC_ge_t rfl hb8 ?_
      refine zGo.sts 1 (cf' := (121, [some (.ref 75), some (.int l1), some (.int l2), some (.int l3), some (.int l4), some (.int l5), d6, d7], [.int l1], σ)) rfl ?_
      by_cases hb7 : ¬ l1 = 0
      · replace h := zif_t hb7 h
        refine zI_ne_t rfl hb7 ?_
        refine zGo.sts 3 (cf' := (132, [some (.ref 75), some (.int l1), some (.int l2), some (.int l3), some (.int l4), some (.int l5), d6, d7], [.int (l2 - l4)], σ)) rfl ?_
        obtain rfl := Option.some.inj h
        exact zGo.ret rfl rfl
      · replace h := zif_f hb7 h
        refine zI_ne_f rfl hb7 ?_
        refine zGo.sts 2 (cf' := (132, [some (.ref 75), some (.int l1), some (.int l2), some (.int l3), some (.int l4), some (.int l5), d6, d7], [.int l3], σ)) rfl ?_
        obtain rfl := Option.some.inj h
        exact zGo.ret rfl rfl
    · replace h := zif_f hb8 h
      refine zC_ge_f rfl hb8 ?_
      refine zGo.sts 4 (cf' := (53, [some (.ref 75), some (.int l1), some (.int l2), some (.int l3), some (.int l4), some (.int l5), some (.int (l5 + 1)), d7], [], σ)) rfl ?_
      exact M_best_g53 ih zF h
def M_best (l1 : Int32) (σ : zSt) : Option (Int32 × zSt) := (M_in l1 0 1 σ).bind fun v1 => if v1 = 0 then (some ((-2147483648), σ)) else (if ¬ (σ 75 3) = 1 then ((M_takes σ).bind fun σ2 => zb2 (M_leastNow σ2) fun v3 σ4 => M_best_c38 zF l1 v3 0 11 0 σ4) else (some ((-2147483648), σ)))
theorem M_best_g {l1 : Int32} {σ : zSt} {r : Int32 × zSt} (h : M_best l1 σ = some r) : zGo zPT zmlc (zPT 194) (0, zent (zmlc 194) [.ref 75, .int l1], [], σ) (some (.int r.1), r.2) := by
  unfold M_best at h
  show zGo zPT zmlc zP_194 (0, [some (.ref 75), some (.int l1), none, none, none, none, none, none], [], σ) _
  refine zGo.sts 3 (cf' := (3, [some (.ref 75), some (.int l1), none, none, none, none, none, none], [.int 1, .int 0, .int l1], σ)) rfl ?_
  obtain ⟨v1, hv, h⟩ := zbd h
  refine zGo.call rfl rfl (M_in_g hv) ?_
  by_cases hb6 : v1 = 0
  · replace h := zif_t hb6 h
    refine zI_eq_t rfl hb6 ?_
    refine zGo.sts 1 (cf' := (19, [some (.ref 75), some (.int l1), none, none, none, none, none, none], [.int (-2147483648)], σ)) rfl ?_
    obtain rfl := Option.some.inj h
    exact zGo.ret rfl rfl
  · replace h := zif_f hb6 h
    refine zI_eq_f rfl hb6 ?_
    refine zGo.sts 3 (cf' := (14, [some (.ref 75), some (.int l1), none, none, none, none, none, none], [.int 1, .int (σ 75 3)], σ)) rfl ?_
    by_cases hb5 : ¬ (σ 75 3) = 1
    · replace h := zif_t hb5 h
      refine zC_ne_t rfl hb5 ?_
      refine zGo.sts 1 (cf' := (21, [some (.ref 75), some (.int l1), none, none, none, none, none, none], [.ref 75], σ)) rfl ?_
      obtain ⟨σ2, hv, h⟩ := zbd h
      refine zGo.call rfl rfl (M_takes_g hv) ?_
      refine zGo.sts 1 (cf' := (25, [some (.ref 75), some (.int l1), none, none, none, none, none, none], [.ref 75], σ2)) rfl ?_
      obtain ⟨v3, σ4, hv, h⟩ := zbd2 h
      refine zGo.call rfl rfl (M_leastNow_g hv) ?_
      refine zGo.sts 7 (cf' := (38, [some (.ref 75), some (.int l1), some (.int v3), some (.int 0), some (.int 11), some (.int 0), none, none], [], σ4)) rfl ?_
      exact M_best_g38 zF h
    · replace h := zif_f hb5 h
      refine zC_ne_f rfl hb5 ?_
      refine zGo.sts 1 (cf' := (19, [some (.ref 75), some (.int l1), none, none, none, none, none, none], [.int (-2147483648)], σ)) rfl ?_
      obtain rfl := Option.some.inj h
      exact zGo.ret rfl rfl
def M_chains_c62 (c30 : Int32 → Int32 → zSt → Option (zSt)) : Nat → Int32 → Int32 → Int32 → Int32 → zSt → Option (zSt)
  | 0, _, _, _, _, _ => none
  | n + 1, l2, l3, l4, l5, σ => (M_has l4 l5 σ).bind fun v7 => if ¬ v7 = 0 then ((zst σ 84 l3 l5).bind fun σ8 => c30 (l2 ||| l4) 0 σ8) else (M_chains_c62 c30 n l2 l3 l4 (l5 + 1) σ)
theorem M_chains_g62 {c30 : Int32 → Int32 → zSt → Option (zSt)} (hc30 : ∀ {d1 : Option Value} {d4 : Option Value} {d5 : Option Value} {l2 : Int32} {l3 : Int32} {σ : zSt} {r : zSt}, c30 l2 l3 σ = some r → zGo zPT zmlc zP_195 (30, [some (.ref 75), d1, some (.int l2), some (.int l3), d4, d5], [], σ) (none, r)) : ∀ (n : Nat) {d1 : Option Value} {l2 : Int32} {l3 : Int32} {l4 : Int32} {l5 : Int32} {σ : zSt} {r : zSt}, M_chains_c62 c30 n l2 l3 l4 l5 σ = some r → zGo zPT zmlc zP_195 (62, [some (.ref 75), d1, some (.int l2), some (.int l3), some (.int l4), some (.int l5)], [], σ) (none, r) := by
  intro n
  induction n with
  | zero => intro d1 l2 l3 l4 l5 σ r h; cases h
  | succ n ih =>
    intro d1 l2 l3 l4 l5 σ r h
    rw [M_chains_c62] at h
    refine zGo.sts 2 (cf' := (66, [some (.ref 75), d1, some (.int l2), some (.int l3), some (.int l4), some (.int l5)], [.int l5, .int l4], σ)) rfl ?_
    obtain ⟨v7, hv, h⟩ := zbd h
    refine zGo.call rfl rfl (M_has_g hv) ?_
    by_cases hb9 : ¬ v7 = 0
    · replace h := zif_t hb9 h
      refine zI_ne_t rfl hb9 ?_
      refine zGo.sts 4 (cf' := (85, [some (.ref 75), d1, some (.int l2), some (.int l3), some (.int l4), some (.int l5)], [.int l5, .int l3, .ref 84], σ)) rfl ?_
      obtain ⟨σ8, hv, h⟩ := zbd h
      refine zG_st rfl hv ?_
      refine zGo.sts 7 (cf' := (30, [some (.ref 75), d1, some (.int (l2 ||| l4)), some (.int 0), some (.int l4), some (.int l5)], [], σ8)) rfl ?_
      exact hc30 h
    · replace h := zif_f hb9 h
      refine zI_ne_f rfl hb9 ?_
      refine zGo.sts 2 (cf' := (62, [some (.ref 75), d1, some (.int l2), some (.int l3), some (.int l4), some (.int (l5 + 1))], [], σ)) rfl ?_
      exact ih h
def M_chains_c30 : Nat → Int32 → Int32 → zSt → Option (zSt)
  | 0, _, _, _ => none
  | n + 1, l2, l3, σ => if (σ 75 3) ≤ l3 then (some σ) else ((M_forces l3 l2 0 1 σ).bind fun v4 => if ¬ v4 = 0 then (M_chains_c62 (M_chains_c30 n) zF l2 l3 v4 0 σ) else (M_chains_c30 n l2 (l3 + 1) σ))
theorem M_chains_g30 : ∀ (n : Nat) {d1 : Option Value} {d4 : Option Value} {d5 : Option Value} {l2 : Int32} {l3 : Int32} {σ : zSt} {r : zSt}, M_chains_c30 n l2 l3 σ = some r → zGo zPT zmlc zP_195 (30, [some (.ref 75), d1, some (.int l2), some (.int l3), d4, d5], [], σ) (none, r) := by
  intro n
  induction n with
  | zero => intro d1 d4 d5 l2 l3 σ r h; cases h
  | succ n ih =>
    intro d1 d4 d5 l2 l3 σ r h
    rw [M_chains_c30] at h
    refine zGo.sts 3 (cf' := (35, [some (.ref 75), d1, some (.int l2), some (.int l3), d4, d5], [.int (σ 75 3), .int l3], σ)) rfl ?_
    by_cases hb6 : (σ 75 3) ≤ l3
    · replace h := zif_t hb6 h
      refine zC_ge_t rfl hb6 ?_
      obtain rfl := Option.some.inj h
      exact zGo.ret rfl rfl
    · replace h := zif_f hb6 h
      refine zC_ge_f rfl hb6 ?_
      refine zGo.sts 5 (cf' := (43, [some (.ref 75), d1, some (.int l2), some (.int l3), d4, d5], [.int 1, .int 0, .int l2, .int l3, .ref 75], σ)) rfl ?_
      obtain ⟨v4, hv, h⟩ := zbd h
      refine zGo.call rfl rfl (M_forces_g hv) ?_
      refine zGo.sts 2 (cf' := (50, [some (.ref 75), d1, some (.int l2), some (.int l3), some (.int v4), d5], [.int v4], σ)) rfl ?_
      by_cases hb5 : ¬ v4 = 0
      · replace h := zif_t hb5 h
        refine zI_ne_t rfl hb5 ?_
        refine zGo.sts 2 (cf' := (62, [some (.ref 75), d1, some (.int l2), some (.int l3), some (.int v4), some (.int 0)], [], σ)) rfl ?_
        exact M_chains_g62 ih zF h
      · replace h := zif_f hb5 h
        refine zI_ne_f rfl hb5 ?_
        refine zGo.sts 2 (cf' := (30, [some (.ref 75), d1, some (.int l2), some (.int (l3 + 1)), some (.int v4), d5], [], σ)) rfl ?_
        exact ih h
def M_chains_c8 : Nat → Int32 → Int32 → zSt → Option (zSt)
  | 0, _, _, _ => none
  | n + 1, l2, l3, σ => if 9 ≤ l3 then (M_chains_c30 zF l2 0 σ) else ((zst σ 84 l3 (-2)).bind fun σ2 => M_chains_c8 n l2 (l3 + 1) σ2)
theorem M_chains_g8 : ∀ (n : Nat) {d1 : Option Value} {d4 : Option Value} {d5 : Option Value} {l2 : Int32} {l3 : Int32} {σ : zSt} {r : zSt}, M_chains_c8 n l2 l3 σ = some r → zGo zPT zmlc zP_195 (8, [some (.ref 75), d1, some (.int l2), some (.int l3), d4, d5], [], σ) (none, r) := by
  intro n
  induction n with
  | zero => intro d1 d4 d5 l2 l3 σ r h; cases h
  | succ n ih =>
    intro d1 d4 d5 l2 l3 σ r h
    rw [M_chains_c8] at h
    refine zGo.sts 2 (cf' := (11, [some (.ref 75), d1, some (.int l2), some (.int l3), d4, d5], [.int 9, .int l3], σ)) rfl ?_
    by_cases hb3 : 9 ≤ l3
    · replace h := zif_t hb3 h
      refine zC_ge_t rfl hb3 ?_
      refine zGo.sts 2 (cf' := (30, [some (.ref 75), d1, some (.int l2), some (.int 0), d4, d5], [], σ)) rfl ?_
      exact M_chains_g30 zF h
    · replace h := zif_f hb3 h
      refine zC_ge_f rfl hb3 ?_
      refine zGo.sts 4 (cf' := (21, [some (.ref 75), d1, some (.int l2), some (.int l3), d4, d5], [.int (-2), .int l3, .ref 84], σ)) rfl ?_
      obtain ⟨σ2, hv, h⟩ := zbd h
      refine zG_st rfl hv ?_
      refine zGo.sts 2 (cf' := (8, [some (.ref 75), d1, some (.int l2), some (.int (l3 + 1)), d4, d5], [], σ2)) rfl ?_
      exact ih h
def M_chains (l1 : Int32) (σ : zSt) : Option (zSt) := (M_takes σ).bind fun σ1 => M_chains_c8 zF l1 0 σ1
theorem M_chains_g {l1 : Int32} {σ : zSt} {r : zSt} (h : M_chains l1 σ = some r) : zGo zPT zmlc (zPT 195) (0, zent (zmlc 195) [.ref 75, .int l1], [], σ) (none, r) := by
  unfold M_chains at h
  show zGo zPT zmlc zP_195 (0, [some (.ref 75), some (.int l1), none, none, none, none], [], σ) _
  refine zGo.sts 1 (cf' := (1, [some (.ref 75), some (.int l1), none, none, none, none], [.ref 75], σ)) rfl ?_
  obtain ⟨σ1, hv, h⟩ := zbd h
  refine zGo.call rfl rfl (M_takes_g hv) ?_
  refine zGo.sts 4 (cf' := (8, [some (.ref 75), some (.int l1), some (.int l1), some (.int 0), none, none], [], σ1)) rfl ?_
  exact M_chains_g8 zF h
def M_chain_c41 : Nat → Int32 → Int32 → Int32 → zSt → Option (Int32 × zSt)
  | 0, _, _, _, _ => none
  | n + 1, l3, l4, l5, σ => if l3 ≤ l5 then (some (l4, σ)) else (if l4 = (-2) then (some (l4, σ)) else ((zld σ 84 l4).bind fun v9 => M_chain_c41 n l3 v9 (l5 + 1) σ))
theorem M_chain_g41 : ∀ (n : Nat) {d1 : Option Value} {d2 : Option Value} {l3 : Int32} {l4 : Int32} {l5 : Int32} {σ : zSt} {r : Int32 × zSt}, M_chain_c41 n l3 l4 l5 σ = some r → zGo zPT zmlc zP_196 (41, [some (.ref 75), d1, d2, some (.int l3), some (.int l4), some (.int l5)], [], σ) (some (.int r.1), r.2) := by
  intro n
  induction n with
  | zero => intro d1 d2 l3 l4 l5 σ r h; cases h
  | succ n ih =>
    intro d1 d2 l3 l4 l5 σ r h
    rw [M_chain_c41] at h
    refine zGo.sts 2 (cf' := (44, [some (.ref 75), d1, d2, some (.int l3), some (.int l4), some (.int l5)], [.int l3, .int l5], σ)) rfl ?_
    by_cases hb11 : l3 ≤ l5
    · replace h := zif_t hb11 h
      refine zC_ge_t rfl hb11 ?_
      refine zGo.sts 1 (cf' := (71, [some (.ref 75), d1, d2, some (.int l3), some (.int l4), some (.int l5)], [.int l4], σ)) rfl ?_
      obtain rfl := Option.some.inj h
      exact zGo.ret rfl rfl
    · replace h := zif_f hb11 h
      refine zC_ge_f rfl hb11 ?_
      refine zGo.sts 2 (cf' := (51, [some (.ref 75), d1, d2, some (.int l3), some (.int l4), some (.int l5)], [.int (-2), .int l4], σ)) rfl ?_
      by_cases hb10 : l4 = (-2)
      · replace h := zif_t hb10 h
        refine zC_eq_t rfl hb10 ?_
        refine zGo.sts 1 (cf' := (71, [some (.ref 75), d1, d2, some (.int l3), some (.int l4), some (.int l5)], [.int l4], σ)) rfl ?_
        obtain rfl := Option.some.inj h
        exact zGo.ret rfl rfl
      · replace h := zif_f hb10 h
        refine zC_eq_f rfl hb10 ?_
        refine zGo.sts 3 (cf' := (60, [some (.ref 75), d1, d2, some (.int l3), some (.int l4), some (.int l5)], [.int l4, .ref 84], σ)) rfl ?_
        obtain ⟨v9, hv, h⟩ := zbd h
        refine zG_ld rfl hv ?_
        refine zGo.sts 3 (cf' := (41, [some (.ref 75), d1, d2, some (.int l3), some (.int v9), some (.int (l5 + 1))], [], σ)) rfl ?_
        exact ih h
def M_chain (l1 : Int32) (l2 : Int32) (l3 : Int32) (σ : zSt) : Option (Int32 × zSt) := (M_isSet l1 σ).bind fun v1 => if v1 = 0 then (some ((-1), σ)) else ((M_isPoint l2 σ).bind fun v2 => if v2 = 0 then (some ((-1), σ)) else ((M_has l1 l2 σ).bind fun v3 => if v3 = 0 then (some ((-1), σ)) else (if 0 ≤ l3 then ((M_chains l1 σ).bind fun σ4 => M_chain_c41 zF l3 l2 0 σ4) else (some ((-1), σ)))))
theorem M_chain_g {l1 : Int32} {l2 : Int32} {l3 : Int32} {σ : zSt} {r : Int32 × zSt} (h : M_chain l1 l2 l3 σ = some r) : zGo zPT zmlc (zPT 196) (0, zent (zmlc 196) [.ref 75, .int l1, .int l2, .int l3], [], σ) (some (.int r.1), r.2) := by
  unfold M_chain at h
  show zGo zPT zmlc zP_196 (0, [some (.ref 75), some (.int l1), some (.int l2), some (.int l3), none, none], [], σ) _
  refine zGo.sts 2 (cf' := (2, [some (.ref 75), some (.int l1), some (.int l2), some (.int l3), none, none], [.int l1, .ref 75], σ)) rfl ?_
  obtain ⟨v1, hv, h⟩ := zbd h
  refine zGo.call rfl rfl (M_isSet_g hv) ?_
  by_cases hb8 : v1 = 0
  · replace h := zif_t hb8 h
    refine zI_eq_t rfl hb8 ?_
    refine zGo.sts 1 (cf' := (29, [some (.ref 75), some (.int l1), some (.int l2), some (.int l3), none, none], [.int (-1)], σ)) rfl ?_
    obtain rfl := Option.some.inj h
    exact zGo.ret rfl rfl
  · replace h := zif_f hb8 h
    refine zI_eq_f rfl hb8 ?_
    refine zGo.sts 2 (cf' := (10, [some (.ref 75), some (.int l1), some (.int l2), some (.int l3), none, none], [.int l2, .ref 75], σ)) rfl ?_
    obtain ⟨v2, hv, h⟩ := zbd h
    refine zGo.call rfl rfl (M_isPoint_g hv) ?_
    by_cases hb7 : v2 = 0
    · replace h := zif_t hb7 h
      refine zI_eq_t rfl hb7 ?_
      refine zGo.sts 1 (cf' := (29, [some (.ref 75), some (.int l1), some (.int l2), some (.int l3), none, none], [.int (-1)], σ)) rfl ?_
      obtain rfl := Option.some.inj h
      exact zGo.ret rfl rfl
    · replace h := zif_f hb7 h
      refine zI_eq_f rfl hb7 ?_
      refine zGo.sts 2 (cf' := (18, [some (.ref 75), some (.int l1), some (.int l2), some (.int l3), none, none], [.int l2, .int l1], σ)) rfl ?_
      obtain ⟨v3, hv, h⟩ := zbd h
      refine zGo.call rfl rfl (M_has_g hv) ?_
      by_cases hb6 : v3 = 0
      · replace h := zif_t hb6 h
        refine zI_eq_t rfl hb6 ?_
        refine zGo.sts 1 (cf' := (29, [some (.ref 75), some (.int l1), some (.int l2), some (.int l3), none, none], [.int (-1)], σ)) rfl ?_
        obtain rfl := Option.some.inj h
        exact zGo.ret rfl rfl
      · replace h := zif_f hb6 h
        refine zI_eq_f rfl hb6 ?_
        refine zGo.sts 1 (cf' := (25, [some (.ref 75), some (.int l1), some (.int l2), some (.int l3), none, none], [.int l3], σ)) rfl ?_
        by_cases hb5 : 0 ≤ l3
        · replace h := zif_t hb5 h
          refine zI_ge_t rfl hb5 ?_
          refine zGo.sts 2 (cf' := (32, [some (.ref 75), some (.int l1), some (.int l2), some (.int l3), none, none], [.int l1, .ref 75], σ)) rfl ?_
          obtain ⟨σ4, hv, h⟩ := zbd h
          refine zGo.call rfl rfl (M_chains_g hv) ?_
          refine zGo.sts 4 (cf' := (41, [some (.ref 75), some (.int l1), some (.int l2), some (.int l3), some (.int l2), some (.int 0)], [], σ4)) rfl ?_
          exact M_chain_g41 zF h
        · replace h := zif_f hb5 h
          refine zI_ge_f rfl hb5 ?_
          refine zGo.sts 1 (cf' := (29, [some (.ref 75), some (.int l1), some (.int l2), some (.int l3), none, none], [.int (-1)], σ)) rfl ?_
          obtain rfl := Option.some.inj h
          exact zGo.ret rfl rfl
def M_ends_c41 (c19 : Int32 → Int32 → Int32 → zSt → Option (Int32 × zSt)) : Nat → Int32 → Int32 → Int32 → Int32 → zSt → Option (Int32 × zSt)
  | 0, _, _, _, _, _ => none
  | n + 1, l1, l2, l3, l4, σ => (zld σ 84 l4).bind fun v7 => if v7 = (-2) then (zlet (l2 ||| (1 <<< (l4 &&& 31))) fun v8 => c19 l1 v8 (l3 + 1) σ) else ((zld σ 84 l4).bind fun v9 => M_ends_c41 c19 n l1 l2 l3 v9 σ)
theorem M_ends_g41 {c19 : Int32 → Int32 → Int32 → zSt → Option (Int32 × zSt)} (hc19 : ∀ {d4 : Option Value} {l1 : Int32} {l2 : Int32} {l3 : Int32} {σ : zSt} {r : Int32 × zSt}, c19 l1 l2 l3 σ = some r → zGo zPT zmlc zP_197 (19, [some (.ref 75), some (.int l1), some (.int l2), some (.int l3), d4], [], σ) (some (.int r.1), r.2)) : ∀ (n : Nat) {l1 : Int32} {l2 : Int32} {l3 : Int32} {l4 : Int32} {σ : zSt} {r : Int32 × zSt}, M_ends_c41 c19 n l1 l2 l3 l4 σ = some r → zGo zPT zmlc zP_197 (41, [some (.ref 75), some (.int l1), some (.int l2), some (.int l3), some (.int l4)], [], σ) (some (.int r.1), r.2) := by
  intro n
  induction n with
  | zero => intro l1 l2 l3 l4 σ r h; cases h
  | succ n ih =>
    intro l1 l2 l3 l4 σ r h
    rw [M_ends_c41] at h
    refine zGo.sts 3 (cf' := (47, [some (.ref 75), some (.int l1), some (.int l2), some (.int l3), some (.int l4)], [.int l4, .ref 84], σ)) rfl ?_
    obtain ⟨v7, hv, h⟩ := zbd h
    refine zG_ld rfl hv ?_
    refine zGo.sts 1 (cf' := (50, [some (.ref 75), some (.int l1), some (.int l2), some (.int l3), some (.int l4)], [.int (-2), .int v7], σ)) rfl ?_
    by_cases hb10 : v7 = (-2)
    · replace h := zif_t hb10 h
      refine zC_eq_t rfl hb10 ?_
      refine zGo.sts 6 (cf' := (72, [some (.ref 75), some (.int l1), some (.int (l2 ||| (1 <<< (l4 &&& 31)))), some (.int l3), some (.int l4)], [], σ)) rfl ?_
      replace h := zlet_of h
      generalize l2 ||| (1 <<< (l4 &&& 31)) = v8 at h ⊢
      refine zGo.sts 2 (cf' := (19, [some (.ref 75), some (.int l1), some (.int v8), some (.int (l3 + 1)), some (.int l4)], [], σ)) rfl ?_
      exact hc19 h
    · replace h := zif_f hb10 h
      refine zC_eq_f rfl hb10 ?_
      refine zGo.sts 3 (cf' := (59, [some (.ref 75), some (.int l1), some (.int l2), some (.int l3), some (.int l4)], [.int l4, .ref 84], σ)) rfl ?_
      obtain ⟨v9, hv, h⟩ := zbd h
      refine zG_ld rfl hv ?_
      refine zGo.sts 2 (cf' := (41, [some (.ref 75), some (.int l1), some (.int l2), some (.int l3), some (.int v9)], [], σ)) rfl ?_
      exact ih h
def M_ends_c19 : Nat → Int32 → Int32 → Int32 → zSt → Option (Int32 × zSt)
  | 0, _, _, _, _ => none
  | n + 1, l1, l2, l3, σ => if (σ 75 3) ≤ l3 then (some (l2, σ)) else ((M_has l1 l3 σ).bind fun v4 => if ¬ v4 = 0 then (M_ends_c41 (M_ends_c19 n) zF l1 l2 l3 l3 σ) else (M_ends_c19 n l1 l2 (l3 + 1) σ))
theorem M_ends_g19 : ∀ (n : Nat) {d4 : Option Value} {l1 : Int32} {l2 : Int32} {l3 : Int32} {σ : zSt} {r : Int32 × zSt}, M_ends_c19 n l1 l2 l3 σ = some r → zGo zPT zmlc zP_197 (19, [some (.ref 75), some (.int l1), some (.int l2), some (.int l3), d4], [], σ) (some (.int r.1), r.2) := by
  intro n
  induction n with
  | zero => intro d4 l1 l2 l3 σ r h; cases h
  | succ n ih =>
    intro d4 l1 l2 l3 σ r h
    rw [M_ends_c19] at h
    refine zGo.sts 3 (cf' := (24, [some (.ref 75), some (.int l1), some (.int l2), some (.int l3), d4], [.int (σ 75 3), .int l3], σ)) rfl ?_
    by_cases hb6 : (σ 75 3) ≤ l3
    · replace h := zif_t hb6 h
      refine zC_ge_t rfl hb6 ?_
      refine zGo.sts 1 (cf' := (79, [some (.ref 75), some (.int l1), some (.int l2), some (.int l3), d4], [.int l2], σ)) rfl ?_
      obtain rfl := Option.some.inj h
      exact zGo.ret rfl rfl
    · replace h := zif_f hb6 h
      refine zC_ge_f rfl hb6 ?_
      refine zGo.sts 2 (cf' := (29, [some (.ref 75), some (.int l1), some (.int l2), some (.int l3), d4], [.int l3, .int l1], σ)) rfl ?_
      obtain ⟨v4, hv, h⟩ := zbd h
      refine zGo.call rfl rfl (M_has_g hv) ?_
      by_cases hb5 : ¬ v4 = 0
      · replace h := zif_t hb5 h
        refine zI_ne_t rfl hb5 ?_
        refine zGo.sts 2 (cf' := (41, [some (.ref 75), some (.int l1), some (.int l2), some (.int l3), some (.int l3)], [], σ)) rfl ?_
        exact M_ends_g41 ih zF h
      · replace h := zif_f hb5 h
        refine zI_ne_f rfl hb5 ?_
        refine zGo.sts 3 (cf' := (19, [some (.ref 75), some (.int l1), some (.int l2), some (.int (l3 + 1)), d4], [], σ)) rfl ?_
        exact ih h
def M_ends (l1 : Int32) (σ : zSt) : Option (Int32 × zSt) := (M_isSet l1 σ).bind fun v1 => if ¬ v1 = 0 then ((M_chains l1 σ).bind fun σ2 => M_ends_c19 zF l1 0 0 σ2) else (some ((-1), σ))
theorem M_ends_g {l1 : Int32} {σ : zSt} {r : Int32 × zSt} (h : M_ends l1 σ = some r) : zGo zPT zmlc (zPT 197) (0, zent (zmlc 197) [.ref 75, .int l1], [], σ) (some (.int r.1), r.2) := by
  unfold M_ends at h
  show zGo zPT zmlc zP_197 (0, [some (.ref 75), some (.int l1), none, none, none], [], σ) _
  refine zGo.sts 2 (cf' := (2, [some (.ref 75), some (.int l1), none, none, none], [.int l1, .ref 75], σ)) rfl ?_
  obtain ⟨v1, hv, h⟩ := zbd h
  refine zGo.call rfl rfl (M_isSet_g hv) ?_
  by_cases hb3 : ¬ v1 = 0
  · replace h := zif_t hb3 h
    refine zI_ne_t rfl hb3 ?_
    refine zGo.sts 2 (cf' := (12, [some (.ref 75), some (.int l1), none, none, none], [.int l1, .ref 75], σ)) rfl ?_
    obtain ⟨σ2, hv, h⟩ := zbd h
    refine zGo.call rfl rfl (M_chains_g hv) ?_
    refine zGo.sts 4 (cf' := (19, [some (.ref 75), some (.int l1), some (.int 0), some (.int 0), none], [], σ2)) rfl ?_
    exact M_ends_g19 zF h
  · replace h := zif_f hb3 h
    refine zI_ne_f rfl hb3 ?_
    refine zGo.sts 1 (cf' := (9, [some (.ref 75), some (.int l1), none, none, none], [.int (-1)], σ)) rfl ?_
    obtain rfl := Option.some.inj h
    exact zGo.ret rfl rfl
def M_forts_c26 (c6 : Int32 → zSt → Option (zSt)) : Nat → Int32 → Int32 → Int32 → zSt → Option (zSt)
  | 0, _, _, _, _ => none
  | n + 1, l1, l2, l3, σ => if (σ 75 3) ≤ l3 then ((zzst σ 85 l1 l2).bind fun σ4 => c6 (l1 + 1) σ4) else (if l2 = 0 then (M_forts_c26 c6 n l1 0 (l3 + 1) σ) else ((M_has l1 l3 σ).bind fun v5 => if ¬ v5 = 0 then (M_forts_c26 c6 n l1 1 (l3 + 1) σ) else ((zld σ 83 l3).bind fun v6 => (M_bits (v6 &&& l1) σ).bind fun v7 => if v7 = 1 then (M_forts_c26 c6 n l1 0 (l3 + 1) σ) else (M_forts_c26 c6 n l1 1 (l3 + 1) σ))))
theorem M_forts_g26 {c6 : Int32 → zSt → Option (zSt)} (hc6 : ∀ {d2 : Option Value} {d3 : Option Value} {l1 : Int32} {σ : zSt} {r : zSt}, c6 l1 σ = some r → zGo zPT zmlc zP_198 (6, [some (.ref 75), some (.int l1), d2, d3], [], σ) (none, r)) : ∀ (n : Nat) {l1 : Int32} {l2 : Int32} {l3 : Int32} {σ : zSt} {r : zSt}, M_forts_c26 c6 n l1 l2 l3 σ = some r → zGo zPT zmlc zP_198 (26, [some (.ref 75), some (.int l1), some (.int l2), some (.int l3)], [], σ) (none, r) := by
  intro n
  induction n with
  | zero => intro l1 l2 l3 σ r h; cases h
  | succ n ih =>
    intro l1 l2 l3 σ r h
    rw [M_forts_c26] at h
    refine zGo.sts 3 (cf' := (31, [some (.ref 75), some (.int l1), some (.int l2), some (.int l3)], [.int (σ 75 3), .int l3], σ)) rfl ?_
    by_cases hb11 : (σ 75 3) ≤ l3
    · replace h := zif_t hb11 h
      refine zC_ge_t rfl hb11 ?_
      refine zGo.sts 4 (cf' := (79, [some (.ref 75), some (.int l1), some (.int l2), some (.int l3)], [.int l2, .int l1, .ref 85], σ)) rfl ?_
      obtain ⟨σ4, hv, h⟩ := zbd h
      refine zG_zst rfl hv ?_
      refine zGo.sts 2 (cf' := (6, [some (.ref 75), some (.int (l1 + 1)), some (.int l2), some (.int l3)], [], σ4)) rfl ?_
      exact hc6 h
    · replace h := zif_f hb11 h
      refine zC_ge_f rfl hb11 ?_
      refine zGo.sts 1 (cf' := (35, [some (.ref 75), some (.int l1), some (.int l2), some (.int l3)], [.int l2], σ)) rfl ?_
      by_cases hb10 : l2 = 0
      · replace h := zif_t hb10 h
        refine zI_eq_t rfl hb10 ?_
        refine zGo.sts 4 (cf' := (26, [some (.ref 75), some (.int l1), some (.int 0), some (.int (l3 + 1))], [], σ)) rfl ?_
        exact ih h
      · replace h := zif_f hb10 h
        refine zI_eq_f rfl hb10 ?_
        refine zGo.sts 2 (cf' := (40, [some (.ref 75), some (.int l1), some (.int l2), some (.int l3)], [.int l3, .int l1], σ)) rfl ?_
        obtain ⟨v5, hv, h⟩ := zbd h
        refine zGo.call rfl rfl (M_has_g hv) ?_
        by_cases hb9 : ¬ v5 = 0
        · replace h := zif_t hb9 h
          refine zI_ne_t rfl hb9 ?_
          refine zGo.sts 5 (cf' := (26, [some (.ref 75), some (.int l1), some (.int 1), some (.int (l3 + 1))], [], σ)) rfl ?_
          exact ih h
        · replace h := zif_f hb9 h
          refine zI_ne_f rfl hb9 ?_
          refine zGo.sts 3 (cf' := (51, [some (.ref 75), some (.int l1), some (.int l2), some (.int l3)], [.int l3, .ref 83], σ)) rfl ?_
          obtain ⟨v6, hv, h⟩ := zbd h
          refine zG_ld rfl hv ?_
          refine zGo.sts 2 (cf' := (54, [some (.ref 75), some (.int l1), some (.int l2), some (.int l3)], [.int (v6 &&& l1)], σ)) rfl ?_
          obtain ⟨v7, hv, h⟩ := zbd h
          refine zGo.call rfl rfl (M_bits_g hv) ?_
          refine zGo.sts 1 (cf' := (58, [some (.ref 75), some (.int l1), some (.int l2), some (.int l3)], [.int 1, .int v7], σ)) rfl ?_
          by_cases hb8 : v7 = 1
          · replace h := zif_t hb8 h
            refine zC_eq_t rfl hb8 ?_
            refine zGo.sts 4 (cf' := (26, [some (.ref 75), some (.int l1), some (.int 0), some (.int (l3 + 1))], [], σ)) rfl ?_
            exact ih h
          · replace h := zif_f hb8 h
            refine zC_eq_f rfl hb8 ?_
            refine zGo.sts 5 (cf' := (26, [some (.ref 75), some (.int l1), some (.int 1), some (.int (l3 + 1))], [], σ)) rfl ?_
            exact ih h
def M_forts_c6 : Nat → Int32 → zSt → Option (zSt)
  | 0, _, _ => none
  | n + 1, l1, σ => if (σ 75 14) < l1 then (some σ) else (if l1 ≤ 0 then (M_forts_c26 (M_forts_c6 n) zF l1 0 0 σ) else (M_forts_c26 (M_forts_c6 n) zF l1 1 0 σ))
theorem M_forts_g6 : ∀ (n : Nat) {d2 : Option Value} {d3 : Option Value} {l1 : Int32} {σ : zSt} {r : zSt}, M_forts_c6 n l1 σ = some r → zGo zPT zmlc zP_198 (6, [some (.ref 75), some (.int l1), d2, d3], [], σ) (none, r) := by
  intro n
  induction n with
  | zero => intro d2 d3 l1 σ r h; cases h
  | succ n ih =>
    intro d2 d3 l1 σ r h
    rw [M_forts_c6] at h
    refine zGo.sts 3 (cf' := (11, [some (.ref 75), some (.int l1), d2, d3], [.int (σ 75 14), .int l1], σ)) rfl ?_
    by_cases hb3 : (σ 75 14) < l1
    · replace h := zif_t hb3 h
      refine zC_gt_t rfl hb3 ?_
      obtain rfl := Option.some.inj h
      exact zGo.ret rfl rfl
    · replace h := zif_f hb3 h
      refine zC_gt_f rfl hb3 ?_
      refine zGo.sts 1 (cf' := (15, [some (.ref 75), some (.int l1), d2, d3], [.int l1], σ)) rfl ?_
      by_cases hb2 : l1 ≤ 0
      · replace h := zif_t hb2 h
        refine zI_le_t rfl hb2 ?_
        refine zGo.sts 4 (cf' := (26, [some (.ref 75), some (.int l1), some (.int 0), some (.int 0)], [], σ)) rfl ?_
        exact M_forts_g26 ih zF h
      · replace h := zif_f hb2 h
        refine zI_le_f rfl hb2 ?_
        refine zGo.sts 5 (cf' := (26, [some (.ref 75), some (.int l1), some (.int 1), some (.int 0)], [], σ)) rfl ?_
        exact M_forts_g26 ih zF h
def M_forts (σ : zSt) : Option (zSt) := (M_takes σ).bind fun σ1 => M_forts_c6 zF 0 σ1
theorem M_forts_g {σ : zSt} {r : zSt} (h : M_forts σ = some r) : zGo zPT zmlc (zPT 198) (0, zent (zmlc 198) [.ref 75], [], σ) (none, r) := by
  unfold M_forts at h
  show zGo zPT zmlc zP_198 (0, [some (.ref 75), none, none, none], [], σ) _
  refine zGo.sts 1 (cf' := (1, [some (.ref 75), none, none, none], [.ref 75], σ)) rfl ?_
  obtain ⟨σ1, hv, h⟩ := zbd h
  refine zGo.call rfl rfl (M_takes_g hv) ?_
  refine zGo.sts 2 (cf' := (6, [some (.ref 75), some (.int 0), none, none], [], σ1)) rfl ?_
  exact M_forts_g6 zF h
def M_isInner_c13 (σ : zSt) : Nat → Int32 → Int32 → Option (Int32)
  | 0, _, _ => none
  | n + 1, l1, l2 => if l1 ≤ l2 then (some 1) else (if ¬ (l2 &&& (l1 ^^^ (-1))) = 0 then (M_isInner_c13 σ n l1 (l2 + 1)) else ((zzld σ 85 l2).bind fun v3 => if v3 = 0 then (M_isInner_c13 σ n l1 (l2 + 1)) else (some 0)))
theorem M_isInner_g13 {σ : zSt} : ∀ (n : Nat) {l1 : Int32} {l2 : Int32} {r : Int32}, M_isInner_c13 σ n l1 l2 = some r → zGo zPT zmlc zP_199 (13, [some (.ref 75), some (.int l1), some (.int l2)], [], σ) (some (.int r), σ) := by
  intro n
  induction n with
  | zero => intro l1 l2 r h; cases h
  | succ n ih =>
    intro l1 l2 r h
    rw [M_isInner_c13] at h
    refine zGo.sts 2 (cf' := (15, [some (.ref 75), some (.int l1), some (.int l2)], [.int l1, .int l2], σ)) rfl ?_
    by_cases hb6 : l1 ≤ l2
    · replace h := zif_t hb6 h
      refine zC_ge_t rfl hb6 ?_
      refine zGo.sts 1 (cf' := (44, [some (.ref 75), some (.int l1), some (.int l2)], [.int 1], σ)) rfl ?_
      obtain rfl := Option.some.inj h
      exact zGo.ret rfl rfl
    · replace h := zif_f hb6 h
      refine zC_ge_f rfl hb6 ?_
      refine zGo.sts 5 (cf' := (23, [some (.ref 75), some (.int l1), some (.int l2)], [.int (l2 &&& (l1 ^^^ (-1)))], σ)) rfl ?_
      by_cases hb5 : ¬ (l2 &&& (l1 ^^^ (-1))) = 0
      · replace h := zif_t hb5 h
        refine zI_ne_t rfl hb5 ?_
        refine zGo.sts 2 (cf' := (13, [some (.ref 75), some (.int l1), some (.int (l2 + 1))], [], σ)) rfl ?_
        exact ih h
      · replace h := zif_f hb5 h
        refine zI_ne_f rfl hb5 ?_
        refine zGo.sts 3 (cf' := (31, [some (.ref 75), some (.int l1), some (.int l2)], [.int l2, .ref 85], σ)) rfl ?_
        obtain ⟨v3, hv, h⟩ := zbd h
        refine zG_zld rfl hv ?_
        by_cases hb4 : v3 = 0
        · replace h := zif_t hb4 h
          refine zI_eq_t rfl hb4 ?_
          refine zGo.sts 2 (cf' := (13, [some (.ref 75), some (.int l1), some (.int (l2 + 1))], [], σ)) rfl ?_
          exact ih h
        · replace h := zif_f hb4 h
          refine zI_eq_f rfl hb4 ?_
          refine zGo.sts 1 (cf' := (36, [some (.ref 75), some (.int l1), some (.int l2)], [.int 0], σ)) rfl ?_
          obtain rfl := Option.some.inj h
          exact zGo.ret rfl rfl
def M_isInner (l1 : Int32) (σ : zSt) : Option (Int32) := (zzld σ 85 l1).bind fun v1 => if ¬ v1 = 0 then (M_isInner_c13 σ zF l1 1) else (some 0)
theorem M_isInner_g {l1 : Int32} {σ : zSt} {r : Int32} (h : M_isInner l1 σ = some r) : zGo zPT zmlc (zPT 199) (0, zent (zmlc 199) [.ref 75, .int l1], [], σ) (some (.int r), σ) := by
  unfold M_isInner at h
  show zGo zPT zmlc zP_199 (0, [some (.ref 75), some (.int l1), none], [], σ) _
  refine zGo.sts 3 (cf' := (5, [some (.ref 75), some (.int l1), none], [.int l1, .ref 85], σ)) rfl ?_
  obtain ⟨v1, hv, h⟩ := zbd h
  refine zG_zld rfl hv ?_
  by_cases hb2 : ¬ v1 = 0
  · replace h := zif_t hb2 h
    refine zI_ne_t rfl hb2 ?_
    refine zGo.sts 2 (cf' := (13, [some (.ref 75), some (.int l1), some (.int 1)], [], σ)) rfl ?_
    exact M_isInner_g13 zF h
  · replace h := zif_f hb2 h
    refine zI_ne_f rfl hb2 ?_
    refine zGo.sts 1 (cf' := (10, [some (.ref 75), some (.int l1), none], [.int 0], σ)) rfl ?_
    obtain rfl := Option.some.inj h
    exact zGo.ret rfl rfl
def M_fort (l1 : Int32) (σ : zSt) : Option (Int32 × zSt) := (M_isSet l1 σ).bind fun v1 => if ¬ v1 = 0 then ((M_forts σ).bind fun σ2 => (zzld σ2 85 l1).bind fun v3 => if ¬ v3 = 0 then ((M_isInner l1 σ2).bind fun v4 => if v4 = 0 then (some (1, σ2)) else (some (2, σ2))) else (some (0, σ2))) else (some ((-1), σ))
theorem M_fort_g {l1 : Int32} {σ : zSt} {r : Int32 × zSt} (h : M_fort l1 σ = some r) : zGo zPT zmlc (zPT 200) (0, zent (zmlc 200) [.ref 75, .int l1], [], σ) (some (.int r.1), r.2) := by
  unfold M_fort at h
  show zGo zPT zmlc zP_200 (0, [some (.ref 75), some (.int l1)], [], σ) _
  refine zGo.sts 2 (cf' := (2, [some (.ref 75), some (.int l1)], [.int l1, .ref 75], σ)) rfl ?_
  obtain ⟨v1, hv, h⟩ := zbd h
  refine zGo.call rfl rfl (M_isSet_g hv) ?_
  by_cases hb7 : ¬ v1 = 0
  · replace h := zif_t hb7 h
    refine zI_ne_t rfl hb7 ?_
    refine zGo.sts 1 (cf' := (11, [some (.ref 75), some (.int l1)], [.ref 75], σ)) rfl ?_
    obtain ⟨σ2, hv, h⟩ := zbd h
    refine zGo.call rfl rfl (M_forts_g hv) ?_
    refine zGo.sts 3 (cf' := (19, [some (.ref 75), some (.int l1)], [.int l1, .ref 85], σ2)) rfl ?_
    obtain ⟨v3, hv, h⟩ := zbd h
    refine zG_zld rfl hv ?_
    by_cases hb6 : ¬ v3 = 0
    · replace h := zif_t hb6 h
      refine zI_ne_t rfl hb6 ?_
      refine zGo.sts 2 (cf' := (29, [some (.ref 75), some (.int l1)], [.int l1, .ref 75], σ2)) rfl ?_
      obtain ⟨v4, hv, h⟩ := zbd h
      refine zGo.call rfl rfl (M_isInner_g hv) ?_
      by_cases hb5 : v4 = 0
      · replace h := zif_t hb5 h
        refine zI_eq_t rfl hb5 ?_
        refine zGo.sts 1 (cf' := (40, [some (.ref 75), some (.int l1)], [.int 1], σ2)) rfl ?_
        obtain rfl := Option.some.inj h
        exact zGo.ret rfl rfl
      · replace h := zif_f hb5 h
        refine zI_eq_f rfl hb5 ?_
        refine zGo.sts 2 (cf' := (40, [some (.ref 75), some (.int l1)], [.int 2], σ2)) rfl ?_
        obtain rfl := Option.some.inj h
        exact zGo.ret rfl rfl
    · replace h := zif_f hb6 h
      refine zI_ne_f rfl hb6 ?_
      refine zGo.sts 2 (cf' := (40, [some (.ref 75), some (.int l1)], [.int 0], σ2)) rfl ?_
      obtain rfl := Option.some.inj h
      exact zGo.ret rfl rfl
  · replace h := zif_f hb7 h
    refine zI_ne_f rfl hb7 ?_
    refine zGo.sts 1 (cf' := (9, [some (.ref 75), some (.int l1)], [.int (-1)], σ)) rfl ?_
    obtain rfl := Option.some.inj h
    exact zGo.ret rfl rfl
def M_forts__c32 : Nat → Int32 → Int32 → Int32 → Int32 → zSt → Option (Int32 × zSt)
  | 0, _, _, _, _, _ => none
  | n + 1, l1, l2, l3, l4, σ => if (σ 75 14) < l4 then (some (l3, σ)) else ((M_bits l4 σ).bind fun v6 => if ¬ v6 = l1 then (M_forts__c32 n l1 l2 (l3 + 0) (l4 + 1) σ) else (if ¬ l2 = 0 then ((M_isInner l4 σ).bind fun v7 => if v7 = 0 then (M_forts__c32 n l1 l2 (l3 + 0) (l4 + 1) σ) else (M_forts__c32 n l1 l2 (l3 + 1) (l4 + 1) σ)) else ((zzld σ 85 l4).bind fun v9 => if v9 = 0 then (M_forts__c32 n l1 l2 (l3 + 0) (l4 + 1) σ) else (M_forts__c32 n l1 l2 (l3 + 1) (l4 + 1) σ))))
theorem M_forts__g32 : ∀ (n : Nat) {l1 : Int32} {l2 : Int32} {l3 : Int32} {l4 : Int32} {σ : zSt} {r : Int32 × zSt}, M_forts__c32 n l1 l2 l3 l4 σ = some r → zGo zPT zmlc zP_201 (32, [some (.ref 75), some (.int l1), some (.int l2), some (.int l3), some (.int l4)], [], σ) (some (.int r.1), r.2) := by
  intro n
  induction n with
  | zero => intro l1 l2 l3 l4 σ r h; cases h
  | succ n ih =>
    intro l1 l2 l3 l4 σ r h
    rw [M_forts__c32] at h
    refine zGo.sts 3 (cf' := (38, [some (.ref 75), some (.int l1), some (.int l2), some (.int l3), some (.int l4)], [.int (σ 75 14), .int l4], σ)) rfl ?_
    by_cases hb13 : (σ 75 14) < l4
    · replace h := zif_t hb13 h
      refine zC_gt_t rfl hb13 ?_
      refine zGo.sts 1 (cf' := (91, [some (.ref 75), some (.int l1), some (.int l2), some (.int l3), some (.int l4)], [.int l3], σ)) rfl ?_
      obtain rfl := Option.some.inj h
      exact zGo.ret rfl rfl
    · replace h := zif_f hb13 h
      refine zC_gt_f rfl hb13 ?_
      refine zGo.sts 2 (cf' := (44, [some (.ref 75), some (.int l1), some (.int l2), some (.int l3), some (.int l4)], [.int l4, .int l3], σ)) rfl ?_
      obtain ⟨v6, hv, h⟩ := zbd h
      refine zGo.call rfl rfl (M_bits_g hv) ?_
      refine zGo.sts 1 (cf' := (48, [some (.ref 75), some (.int l1), some (.int l2), some (.int l3), some (.int l4)], [.int l1, .int v6, .int l3], σ)) rfl ?_
      by_cases hb12 : ¬ v6 = l1
      · replace h := zif_t hb12 h
        refine zC_ne_t rfl hb12 ?_
        refine zGo.sts 5 (cf' := (32, [some (.ref 75), some (.int l1), some (.int l2), some (.int (l3 + 0)), some (.int (l4 + 1))], [], σ)) rfl ?_
        exact ih h
      · replace h := zif_f hb12 h
        refine zC_ne_f rfl hb12 ?_
        refine zGo.sts 1 (cf' := (52, [some (.ref 75), some (.int l1), some (.int l2), some (.int l3), some (.int l4)], [.int l2, .int l3], σ)) rfl ?_
        by_cases hb11 : ¬ l2 = 0
        · replace h := zif_t hb11 h
          refine zI_ne_t rfl hb11 ?_
          refine zGo.sts 2 (cf' := (71, [some (.ref 75), some (.int l1), some (.int l2), some (.int l3), some (.int l4)], [.int l4, .ref 75, .int l3], σ)) rfl ?_
          obtain ⟨v7, hv, h⟩ := zbd h
          refine zGo.call rfl rfl (M_isInner_g hv) ?_
          by_cases hb8 : v7 = 0
          · replace h := zif_t hb8 h
            refine zI_eq_t rfl hb8 ?_
            refine zGo.sts 5 (cf' := (32, [some (.ref 75), some (.int l1), some (.int l2), some (.int (l3 + 0)), some (.int (l4 + 1))], [], σ)) rfl ?_
            exact ih h
          · replace h := zif_f hb8 h
            refine zI_eq_f rfl hb8 ?_
            refine zGo.sts 6 (cf' := (32, [some (.ref 75), some (.int l1), some (.int l2), some (.int (l3 + 1)), some (.int (l4 + 1))], [], σ)) rfl ?_
            exact ih h
        · replace h := zif_f hb11 h
          refine zI_ne_f rfl hb11 ?_
          refine zGo.sts 3 (cf' := (61, [some (.ref 75), some (.int l1), some (.int l2), some (.int l3), some (.int l4)], [.int l4, .ref 85, .int l3], σ)) rfl ?_
          obtain ⟨v9, hv, h⟩ := zbd h
          refine zG_zld rfl hv ?_
          by_cases hb10 : v9 = 0
          · replace h := zif_t hb10 h
            refine zI_eq_t rfl hb10 ?_
            refine zGo.sts 5 (cf' := (32, [some (.ref 75), some (.int l1), some (.int l2), some (.int (l3 + 0)), some (.int (l4 + 1))], [], σ)) rfl ?_
            exact ih h
          · replace h := zif_f hb10 h
            refine zI_eq_f rfl hb10 ?_
            refine zGo.sts 7 (cf' := (32, [some (.ref 75), some (.int l1), some (.int l2), some (.int (l3 + 1)), some (.int (l4 + 1))], [], σ)) rfl ?_
            exact ih h
def M_forts_ (l1 : Int32) (l2 : Int32) (σ : zSt) : Option (Int32 × zSt) := (M_in l1 0 (σ 75 3) σ).bind fun v1 => if v1 = 0 then (some ((-1), σ)) else ((M_in l2 0 1 σ).bind fun v2 => if ¬ v2 = 0 then ((M_forts σ).bind fun σ3 => M_forts__c32 zF l1 l2 0 0 σ3) else (some ((-1), σ)))
theorem M_forts__g {l1 : Int32} {l2 : Int32} {σ : zSt} {r : Int32 × zSt} (h : M_forts_ l1 l2 σ = some r) : zGo zPT zmlc (zPT 201) (0, zent (zmlc 201) [.ref 75, .int l1, .int l2], [], σ) (some (.int r.1), r.2) := by
  unfold M_forts_ at h
  show zGo zPT zmlc zP_201 (0, [some (.ref 75), some (.int l1), some (.int l2), none, none], [], σ) _
  refine zGo.sts 4 (cf' := (6, [some (.ref 75), some (.int l1), some (.int l2), none, none], [.int (σ 75 3), .int 0, .int l1], σ)) rfl ?_
  obtain ⟨v1, hv, h⟩ := zbd h
  refine zGo.call rfl rfl (M_in_g hv) ?_
  by_cases hb5 : v1 = 0
  · replace h := zif_t hb5 h
    refine zI_eq_t rfl hb5 ?_
    refine zGo.sts 1 (cf' := (22, [some (.ref 75), some (.int l1), some (.int l2), none, none], [.int (-1)], σ)) rfl ?_
    obtain rfl := Option.some.inj h
    exact zGo.ret rfl rfl
  · replace h := zif_f hb5 h
    refine zI_eq_f rfl hb5 ?_
    refine zGo.sts 3 (cf' := (15, [some (.ref 75), some (.int l1), some (.int l2), none, none], [.int 1, .int 0, .int l2], σ)) rfl ?_
    obtain ⟨v2, hv, h⟩ := zbd h
    refine zGo.call rfl rfl (M_in_g hv) ?_
    by_cases hb4 : ¬ v2 = 0
    · replace h := zif_t hb4 h
      refine zI_ne_t rfl hb4 ?_
      refine zGo.sts 1 (cf' := (24, [some (.ref 75), some (.int l1), some (.int l2), none, none], [.ref 75], σ)) rfl ?_
      obtain ⟨σ3, hv, h⟩ := zbd h
      refine zGo.call rfl rfl (M_forts_g hv) ?_
      refine zGo.sts 4 (cf' := (32, [some (.ref 75), some (.int l1), some (.int l2), some (.int 0), some (.int 0)], [], σ3)) rfl ?_
      exact M_forts__g32 zF h
    · replace h := zif_f hb4 h
      refine zI_ne_f rfl hb4 ?_
      refine zGo.sts 1 (cf' := (22, [some (.ref 75), some (.int l1), some (.int l2), none, none], [.int (-1)], σ)) rfl ?_
      obtain rfl := Option.some.inj h
      exact zGo.ret rfl rfl
def M_innerFort_c14 : Nat → Int32 → Int32 → Int32 → zSt → Option (Int32 × zSt)
  | 0, _, _, _, _ => none
  | n + 1, l1, l2, l3, σ => if (σ 75 14) < l3 then (some ((-2), σ)) else ((M_isInner l3 σ).bind fun v3 => if ¬ v3 = 0 then (if ¬ l2 = l1 then (M_innerFort_c14 n l1 (l2 + 1) (l3 + 1) σ) else (some (l3, σ))) else (M_innerFort_c14 n l1 l2 (l3 + 1) σ))
theorem M_innerFort_g14 : ∀ (n : Nat) {l1 : Int32} {l2 : Int32} {l3 : Int32} {σ : zSt} {r : Int32 × zSt}, M_innerFort_c14 n l1 l2 l3 σ = some r → zGo zPT zmlc zP_202 (14, [some (.ref 75), some (.int l1), some (.int l2), some (.int l3)], [], σ) (some (.int r.1), r.2) := by
  intro n
  induction n with
  | zero => intro l1 l2 l3 σ r h; cases h
  | succ n ih =>
    intro l1 l2 l3 σ r h
    rw [M_innerFort_c14] at h
    refine zGo.sts 3 (cf' := (19, [some (.ref 75), some (.int l1), some (.int l2), some (.int l3)], [.int (σ 75 14), .int l3], σ)) rfl ?_
    by_cases hb6 : (σ 75 14) < l3
    · replace h := zif_t hb6 h
      refine zC_gt_t rfl hb6 ?_
      refine zGo.sts 1 (cf' := (51, [some (.ref 75), some (.int l1), some (.int l2), some (.int l3)], [.int (-2)], σ)) rfl ?_
      obtain rfl := Option.some.inj h
      exact zGo.ret rfl rfl
    · replace h := zif_f hb6 h
      refine zC_gt_f rfl hb6 ?_
      refine zGo.sts 2 (cf' := (24, [some (.ref 75), some (.int l1), some (.int l2), some (.int l3)], [.int l3, .ref 75], σ)) rfl ?_
      obtain ⟨v3, hv, h⟩ := zbd h
      refine zGo.call rfl rfl (M_isInner_g hv) ?_
      by_cases hb5 : ¬ v3 = 0
      · replace h := zif_t hb5 h
        refine zI_ne_t rfl hb5 ?_
        refine zGo.sts 2 (cf' := (35, [some (.ref 75), some (.int l1), some (.int l2), some (.int l3)], [.int l1, .int l2], σ)) rfl ?_
        by_cases hb4 : ¬ l2 = l1
        · replace h := zif_t hb4 h
          refine zC_ne_t rfl hb4 ?_
          refine zGo.sts 3 (cf' := (14, [some (.ref 75), some (.int l1), some (.int (l2 + 1)), some (.int (l3 + 1))], [], σ)) rfl ?_
          exact ih h
        · replace h := zif_f hb4 h
          refine zC_ne_f rfl hb4 ?_
          refine zGo.sts 1 (cf' := (39, [some (.ref 75), some (.int l1), some (.int l2), some (.int l3)], [.int l3], σ)) rfl ?_
          obtain rfl := Option.some.inj h
          exact zGo.ret rfl rfl
      · replace h := zif_f hb5 h
        refine zI_ne_f rfl hb5 ?_
        refine zGo.sts 3 (cf' := (14, [some (.ref 75), some (.int l1), some (.int l2), some (.int (l3 + 1))], [], σ)) rfl ?_
        exact ih h
def M_innerFort (l1 : Int32) (σ : zSt) : Option (Int32 × zSt) := if 0 ≤ l1 then ((M_forts σ).bind fun σ1 => M_innerFort_c14 zF l1 0 0 σ1) else (some ((-1), σ))
theorem M_innerFort_g {l1 : Int32} {σ : zSt} {r : Int32 × zSt} (h : M_innerFort l1 σ = some r) : zGo zPT zmlc (zPT 202) (0, zent (zmlc 202) [.ref 75, .int l1], [], σ) (some (.int r.1), r.2) := by
  unfold M_innerFort at h
  show zGo zPT zmlc zP_202 (0, [some (.ref 75), some (.int l1), none, none], [], σ) _
  refine zGo.sts 1 (cf' := (1, [some (.ref 75), some (.int l1), none, none], [.int l1], σ)) rfl ?_
  by_cases hb2 : 0 ≤ l1
  · replace h := zif_t hb2 h
    refine zI_ge_t rfl hb2 ?_
    refine zGo.sts 1 (cf' := (7, [some (.ref 75), some (.int l1), none, none], [.ref 75], σ)) rfl ?_
    obtain ⟨σ1, hv, h⟩ := zbd h
    refine zGo.call rfl rfl (M_forts_g hv) ?_
    refine zGo.sts 4 (cf' := (14, [some (.ref 75), some (.int l1), some (.int 0), some (.int 0)], [], σ1)) rfl ?_
    exact M_innerFort_g14 zF h
  · replace h := zif_f hb2 h
    refine zI_ge_f rfl hb2 ?_
    refine zGo.sts 1 (cf' := (5, [some (.ref 75), some (.int l1), none, none], [.int (-1)], σ)) rfl ?_
    obtain rfl := Option.some.inj h
    exact zGo.ret rfl rfl
def M_meets_c16 : Nat → Int32 → Int32 → zSt → Option (Int32 × zSt)
  | 0, _, _, _ => none
  | n + 1, l1, l2, σ => if (σ 75 14) < l2 then (some (1, σ)) else ((zzld σ 85 l2).bind fun v4 => if v4 = 0 then (M_meets_c16 n l1 (l2 + 1) σ) else (if ¬ (l2 &&& l1) = 0 then (M_meets_c16 n l1 (l2 + 1) σ) else (some (0, σ))))
theorem M_meets_g16 : ∀ (n : Nat) {l1 : Int32} {l2 : Int32} {σ : zSt} {r : Int32 × zSt}, M_meets_c16 n l1 l2 σ = some r → zGo zPT zmlc zP_203 (16, [some (.ref 75), some (.int l1), some (.int l2)], [], σ) (some (.int r.1), r.2) := by
  intro n
  induction n with
  | zero => intro l1 l2 σ r h; cases h
  | succ n ih =>
    intro l1 l2 σ r h
    rw [M_meets_c16] at h
    refine zGo.sts 3 (cf' := (21, [some (.ref 75), some (.int l1), some (.int l2)], [.int (σ 75 14), .int l2], σ)) rfl ?_
    by_cases hb7 : (σ 75 14) < l2
    · replace h := zif_t hb7 h
      refine zC_gt_t rfl hb7 ?_
      refine zGo.sts 1 (cf' := (48, [some (.ref 75), some (.int l1), some (.int l2)], [.int 1], σ)) rfl ?_
      obtain rfl := Option.some.inj h
      exact zGo.ret rfl rfl
    · replace h := zif_f hb7 h
      refine zC_gt_f rfl hb7 ?_
      refine zGo.sts 3 (cf' := (29, [some (.ref 75), some (.int l1), some (.int l2)], [.int l2, .ref 85], σ)) rfl ?_
      obtain ⟨v4, hv, h⟩ := zbd h
      refine zG_zld rfl hv ?_
      by_cases hb6 : v4 = 0
      · replace h := zif_t hb6 h
        refine zI_eq_t rfl hb6 ?_
        refine zGo.sts 2 (cf' := (16, [some (.ref 75), some (.int l1), some (.int (l2 + 1))], [], σ)) rfl ?_
        exact ih h
      · replace h := zif_f hb6 h
        refine zI_eq_f rfl hb6 ?_
        refine zGo.sts 3 (cf' := (36, [some (.ref 75), some (.int l1), some (.int l2)], [.int (l2 &&& l1)], σ)) rfl ?_
        by_cases hb5 : ¬ (l2 &&& l1) = 0
        · replace h := zif_t hb5 h
          refine zI_ne_t rfl hb5 ?_
          refine zGo.sts 2 (cf' := (16, [some (.ref 75), some (.int l1), some (.int (l2 + 1))], [], σ)) rfl ?_
          exact ih h
        · replace h := zif_f hb5 h
          refine zI_ne_f rfl hb5 ?_
          refine zGo.sts 1 (cf' := (40, [some (.ref 75), some (.int l1), some (.int l2)], [.int 0], σ)) rfl ?_
          obtain rfl := Option.some.inj h
          exact zGo.ret rfl rfl
def M_meets (l1 : Int32) (σ : zSt) : Option (Int32 × zSt) := (M_isSet l1 σ).bind fun v1 => if ¬ v1 = 0 then ((M_forts σ).bind fun σ2 => M_meets_c16 zF l1 1 σ2) else (some ((-1), σ))
theorem M_meets_g {l1 : Int32} {σ : zSt} {r : Int32 × zSt} (h : M_meets l1 σ = some r) : zGo zPT zmlc (zPT 203) (0, zent (zmlc 203) [.ref 75, .int l1], [], σ) (some (.int r.1), r.2) := by
  unfold M_meets at h
  show zGo zPT zmlc zP_203 (0, [some (.ref 75), some (.int l1), none], [], σ) _
  refine zGo.sts 2 (cf' := (2, [some (.ref 75), some (.int l1), none], [.int l1, .ref 75], σ)) rfl ?_
  obtain ⟨v1, hv, h⟩ := zbd h
  refine zGo.call rfl rfl (M_isSet_g hv) ?_
  by_cases hb3 : ¬ v1 = 0
  · replace h := zif_t hb3 h
    refine zI_ne_t rfl hb3 ?_
    refine zGo.sts 1 (cf' := (11, [some (.ref 75), some (.int l1), none], [.ref 75], σ)) rfl ?_
    obtain ⟨σ2, hv, h⟩ := zbd h
    refine zGo.call rfl rfl (M_forts_g hv) ?_
    refine zGo.sts 2 (cf' := (16, [some (.ref 75), some (.int l1), some (.int 1)], [], σ2)) rfl ?_
    exact M_meets_g16 zF h
  · replace h := zif_f hb3 h
    refine zI_ne_f rfl hb3 ?_
    refine zGo.sts 1 (cf' := (9, [some (.ref 75), some (.int l1), none], [.int (-1)], σ)) rfl ?_
    obtain rfl := Option.some.inj h
    exact zGo.ret rfl rfl
def M_cell (l1 : Int32) (l2 : Int32) (σ : zSt) : Option (Int32) := (zld σ 76 ((9 * l1) + l2)).bind fun v1 => (zrmq v1 (σ 75 6)).bind fun v2 => if 0 ≤ v2 then (some v2) else (some (v2 + (σ 75 6)))
theorem M_cell_g {l1 : Int32} {l2 : Int32} {σ : zSt} {r : Int32} (h : M_cell l1 l2 σ = some r) : zGo zPT zmlc (zPT 204) (0, zent (zmlc 204) [.ref 75, .int l1, .int l2], [], σ) (some (.int r), σ) := by
  unfold M_cell at h
  show zGo zPT zmlc zP_204 (0, [some (.ref 75), some (.int l1), some (.int l2), none], [], σ) _
  refine zGo.sts 7 (cf' := (10, [some (.ref 75), some (.int l1), some (.int l2), none], [.int ((9 * l1) + l2), .ref 76], σ)) rfl ?_
  obtain ⟨v1, hv, h⟩ := zbd h
  refine zG_ld rfl hv ?_
  refine zGo.sts 2 (cf' := (15, [some (.ref 75), some (.int l1), some (.int l2), none], [.int (σ 75 6), .int v1], σ)) rfl ?_
  obtain ⟨v2, hv, h⟩ := zbd h
  refine zG_div rfl hv ?_
  refine zGo.sts 2 (cf' := (18, [some (.ref 75), some (.int l1), some (.int l2), some (.int v2)], [.int v2], σ)) rfl ?_
  by_cases hb3 : 0 ≤ v2
  · replace h := zif_t hb3 h
    refine zI_ge_t rfl hb3 ?_
    refine zGo.sts 1 (cf' := (31, [some (.ref 75), some (.int l1), some (.int l2), some (.int v2)], [.int v2], σ)) rfl ?_
    obtain rfl := Option.some.inj h
    exact zGo.ret rfl rfl
  · replace h := zif_f hb3 h
    refine zI_ge_f rfl hb3 ?_
    refine zGo.sts 5 (cf' := (31, [some (.ref 75), some (.int l1), some (.int l2), some (.int v2)], [.int (v2 + (σ 75 6))], σ)) rfl ?_
    obtain rfl := Option.some.inj h
    exact zGo.ret rfl rfl
def M_copies_c12 (c2 : Int32 → zSt → Option (zSt)) : Nat → Int32 → Int32 → zSt → Option (zSt)
  | 0, _, _, _ => none
  | n + 1, l1, l2, σ => if (σ 75 3) ≤ l2 then (c2 (l1 + 1) σ) else ((M_cell l1 l2 σ).bind fun v2 => (zst σ 86 ((9 * l1) + l2) v2).bind fun σ3 => M_copies_c12 c2 n l1 (l2 + 1) σ3)
theorem M_copies_g12 {c2 : Int32 → zSt → Option (zSt)} (hc2 : ∀ {d2 : Option Value} {l1 : Int32} {σ : zSt} {r : zSt}, c2 l1 σ = some r → zGo zPT zmlc zP_205 (2, [some (.ref 75), some (.int l1), d2], [], σ) (none, r)) : ∀ (n : Nat) {l1 : Int32} {l2 : Int32} {σ : zSt} {r : zSt}, M_copies_c12 c2 n l1 l2 σ = some r → zGo zPT zmlc zP_205 (12, [some (.ref 75), some (.int l1), some (.int l2)], [], σ) (none, r) := by
  intro n
  induction n with
  | zero => intro l1 l2 σ r h; cases h
  | succ n ih =>
    intro l1 l2 σ r h
    rw [M_copies_c12] at h
    refine zGo.sts 3 (cf' := (17, [some (.ref 75), some (.int l1), some (.int l2)], [.int (σ 75 3), .int l2], σ)) rfl ?_
    by_cases hb4 : (σ 75 3) ≤ l2
    · replace h := zif_t hb4 h
      refine zC_ge_t rfl hb4 ?_
      refine zGo.sts 2 (cf' := (2, [some (.ref 75), some (.int (l1 + 1)), some (.int l2)], [], σ)) rfl ?_
      exact hc2 h
    · replace h := zif_f hb4 h
      refine zC_ge_f rfl hb4 ?_
      refine zGo.sts 10 (cf' := (33, [some (.ref 75), some (.int l1), some (.int l2)], [.int l2, .int l1, .ref 75, .int ((9 * l1) + l2), .ref 86], σ)) rfl ?_
      obtain ⟨v2, hv, h⟩ := zbd h
      refine zGo.call rfl rfl (M_cell_g hv) ?_
      obtain ⟨σ3, hv, h⟩ := zbd h
      refine zG_st rfl hv ?_
      refine zGo.sts 2 (cf' := (12, [some (.ref 75), some (.int l1), some (.int (l2 + 1))], [], σ3)) rfl ?_
      exact ih h
def M_copies_c2 : Nat → Int32 → zSt → Option (zSt)
  | 0, _, _ => none
  | n + 1, l1, σ => if (σ 75 3) ≤ l1 then (some σ) else (M_copies_c12 (M_copies_c2 n) zF l1 0 σ)
theorem M_copies_g2 : ∀ (n : Nat) {d2 : Option Value} {l1 : Int32} {σ : zSt} {r : zSt}, M_copies_c2 n l1 σ = some r → zGo zPT zmlc zP_205 (2, [some (.ref 75), some (.int l1), d2], [], σ) (none, r) := by
  intro n
  induction n with
  | zero => intro d2 l1 σ r h; cases h
  | succ n ih =>
    intro d2 l1 σ r h
    rw [M_copies_c2] at h
    refine zGo.sts 3 (cf' := (7, [some (.ref 75), some (.int l1), d2], [.int (σ 75 3), .int l1], σ)) rfl ?_
    by_cases hb1 : (σ 75 3) ≤ l1
    · replace h := zif_t hb1 h
      refine zC_ge_t rfl hb1 ?_
      obtain rfl := Option.some.inj h
      exact zGo.ret rfl rfl
    · replace h := zif_f hb1 h
      refine zC_ge_f rfl hb1 ?_
      refine zGo.sts 2 (cf' := (12, [some (.ref 75), some (.int l1), some (.int 0)], [], σ)) rfl ?_
      exact M_copies_g12 ih zF h
def M_copies (σ : zSt) : Option (zSt) := M_copies_c2 zF 0 σ
theorem M_copies_g {σ : zSt} {r : zSt} (h : M_copies σ = some r) : zGo zPT zmlc (zPT 205) (0, zent (zmlc 205) [.ref 75], [], σ) (none, r) := by
  unfold M_copies at h
  show zGo zPT zmlc zP_205 (0, [some (.ref 75), none, none], [], σ) _
  refine zGo.sts 2 (cf' := (2, [some (.ref 75), some (.int 0), none], [], σ)) rfl ?_
  exact M_copies_g2 zF h
def M_inverse_c2 (σ : zSt) : Nat → Int32 → Int32 → Option (Int32)
  | 0, _, _ => none
  | n + 1, l1, l2 => (zrmq (l2 * l1) (σ 75 6)).bind fun v1 => if v1 = 1 then (some l2) else (M_inverse_c2 σ n l1 (l2 + 1))
theorem M_inverse_g2 {σ : zSt} : ∀ (n : Nat) {l1 : Int32} {l2 : Int32} {r : Int32}, M_inverse_c2 σ n l1 l2 = some r → zGo zPT zmlc zP_206 (2, [some (.ref 75), some (.int l1), some (.int l2)], [], σ) (some (.int r), σ) := by
  intro n
  induction n with
  | zero => intro l1 l2 r h; cases h
  | succ n ih =>
    intro l1 l2 r h
    rw [M_inverse_c2] at h
    refine zGo.sts 5 (cf' := (9, [some (.ref 75), some (.int l1), some (.int l2)], [.int (σ 75 6), .int (l2 * l1)], σ)) rfl ?_
    obtain ⟨v1, hv, h⟩ := zbd h
    refine zG_div rfl hv ?_
    refine zGo.sts 1 (cf' := (11, [some (.ref 75), some (.int l1), some (.int l2)], [.int 1, .int v1], σ)) rfl ?_
    by_cases hb2 : v1 = 1
    · replace h := zif_t hb2 h
      refine zC_eq_t rfl hb2 ?_
      refine zGo.sts 1 (cf' := (21, [some (.ref 75), some (.int l1), some (.int l2)], [.int l2], σ)) rfl ?_
      obtain rfl := Option.some.inj h
      exact zGo.ret rfl rfl
    · replace h := zif_f hb2 h
      refine zC_eq_f rfl hb2 ?_
      refine zGo.sts 2 (cf' := (2, [some (.ref 75), some (.int l1), some (.int (l2 + 1))], [], σ)) rfl ?_
      exact ih h
def M_inverse (l1 : Int32) (σ : zSt) : Option (Int32) := M_inverse_c2 σ zF l1 1
theorem M_inverse_g {l1 : Int32} {σ : zSt} {r : Int32} (h : M_inverse l1 σ = some r) : zGo zPT zmlc (zPT 206) (0, zent (zmlc 206) [.ref 75, .int l1], [], σ) (some (.int r), σ) := by
  unfold M_inverse at h
  show zGo zPT zmlc zP_206 (0, [some (.ref 75), some (.int l1), none], [], σ) _
  refine zGo.sts 2 (cf' := (2, [some (.ref 75), some (.int l1), some (.int 1)], [], σ)) rfl ?_
  exact M_inverse_g2 zF h
def M_takesOff_c3 : Nat → Int32 → Int32 → Int32 → Int32 → zSt → Option (zSt)
  | 0, _, _, _, _, _ => none
  | n + 1, l1, l2, l3, l4, σ => if (σ 75 3) ≤ l4 then (some σ) else ((zld σ 86 ((9 * l1) + l4)).bind fun v1 => (zld σ 86 ((9 * l3) + l4)).bind fun v2 => (zrmq (v1 + (((σ 75 6) - l2) * v2)) (σ 75 6)).bind fun v3 => (zst σ 86 ((9 * l1) + l4) v3).bind fun σ4 => M_takesOff_c3 n l1 l2 l3 (l4 + 1) σ4)
theorem M_takesOff_g3 : ∀ (n : Nat) {l1 : Int32} {l2 : Int32} {l3 : Int32} {l4 : Int32} {σ : zSt} {r : zSt}, M_takesOff_c3 n l1 l2 l3 l4 σ = some r → zGo zPT zmlc zP_207 (3, [some (.ref 75), some (.int l1), some (.int l2), some (.int l3), some (.int l4)], [], σ) (none, r) := by
  intro n
  induction n with
  | zero => intro l1 l2 l3 l4 σ r h; cases h
  | succ n ih =>
    intro l1 l2 l3 l4 σ r h
    rw [M_takesOff_c3] at h
    refine zGo.sts 3 (cf' := (9, [some (.ref 75), some (.int l1), some (.int l2), some (.int l3), some (.int l4)], [.int (σ 75 3), .int l4], σ)) rfl ?_
    by_cases hb5 : (σ 75 3) ≤ l4
    · replace h := zif_t hb5 h
      refine zC_ge_t rfl hb5 ?_
      obtain rfl := Option.some.inj h
      exact zGo.ret rfl rfl
    · replace h := zif_f hb5 h
      refine zC_ge_f rfl hb5 ?_
      refine zGo.sts 14 (cf' := (34, [some (.ref 75), some (.int l1), some (.int l2), some (.int l3), some (.int l4)], [.int ((9 * l1) + l4), .ref 86, .int ((9 * l1) + l4), .ref 86], σ)) rfl ?_
      obtain ⟨v1, hv, h⟩ := zbd h
      refine zG_ld rfl hv ?_
      refine zGo.sts 11 (cf' := (52, [some (.ref 75), some (.int l1), some (.int l2), some (.int l3), some (.int l4)], [.int ((9 * l3) + l4), .ref 86, .int ((σ 75 6) - l2), .int v1, .int ((9 * l1) + l4), .ref 86], σ)) rfl ?_
      obtain ⟨v2, hv, h⟩ := zbd h
      refine zG_ld rfl hv ?_
      refine zGo.sts 4 (cf' := (59, [some (.ref 75), some (.int l1), some (.int l2), some (.int l3), some (.int l4)], [.int (σ 75 6), .int (v1 + (((σ 75 6) - l2) * v2)), .int ((9 * l1) + l4), .ref 86], σ)) rfl ?_
      obtain ⟨v3, hv, h⟩ := zbd h
      refine zG_div rfl hv ?_
      obtain ⟨σ4, hv, h⟩ := zbd h
      refine zG_st rfl hv ?_
      refine zGo.sts 2 (cf' := (3, [some (.ref 75), some (.int l1), some (.int l2), some (.int l3), some (.int (l4 + 1))], [], σ4)) rfl ?_
      exact ih h
def M_takesOff (l1 : Int32) (l2 : Int32) (l3 : Int32) (σ : zSt) : Option (zSt) := M_takesOff_c3 zF l1 l2 l3 0 σ
theorem M_takesOff_g {l1 : Int32} {l2 : Int32} {l3 : Int32} {σ : zSt} {r : zSt} (h : M_takesOff l1 l2 l3 σ = some r) : zGo zPT zmlc (zPT 207) (0, zent (zmlc 207) [.ref 75, .int l1, .int l2, .int l3], [], σ) (none, r) := by
  unfold M_takesOff at h
  show zGo zPT zmlc zP_207 (0, [some (.ref 75), some (.int l1), some (.int l2), some (.int l3), none], [], σ) _
  refine zGo.sts 2 (cf' := (3, [some (.ref 75), some (.int l1), some (.int l2), some (.int l3), some (.int 0)], [], σ)) rfl ?_
  exact M_takesOff_g3 zF h
def M_steps_c151 (c4 : Int32 → Int32 → zSt → Option (Int32 × zSt)) : Nat → Int32 → Int32 → Int32 → zSt → Option (Int32 × zSt)
  | 0, _, _, _, _ => none
  | n + 1, l1, l2, l5, σ => if (σ 75 3) ≤ l5 then ((zst σ 87 l1 l2).bind fun σ14 => c4 (l1 + 1) (l2 + 1) σ14) else (if l5 = l1 then (M_steps_c151 c4 n l1 l2 (l5 + 1) σ) else ((zld σ 86 ((9 * l5) + l2)).bind fun v15 => (M_takesOff l5 v15 l1 σ).bind fun σ16 => M_steps_c151 c4 n l1 l2 (l5 + 1) σ16))
theorem M_steps_g151 {c4 : Int32 → Int32 → zSt → Option (Int32 × zSt)} (hc4 : ∀ {d3 : Option Value} {d4 : Option Value} {d5 : Option Value} {d6 : Option Value} {l1 : Int32} {l2 : Int32} {σ : zSt} {r : Int32 × zSt}, c4 l1 l2 σ = some r → zGo zPT zmlc zP_208 (4, [some (.ref 75), some (.int l1), some (.int l2), d3, d4, d5, d6], [], σ) (some (.int r.1), r.2)) : ∀ (n : Nat) {d3 : Option Value} {d4 : Option Value} {d6 : Option Value} {l1 : Int32} {l2 : Int32} {l5 : Int32} {σ : zSt} {r : Int32 × zSt}, M_steps_c151 c4 n l1 l2 l5 σ = some r → zGo zPT zmlc zP_208 (151, [some (.ref 75), some (.int l1), some (.int l2), d3, d4, some (.int l5), d6], [], σ) (some (.int r.1), r.2) := by
  intro n
  induction n with
  | zero => intro d3 d4 d6 l1 l2 l5 σ r h; cases h
  | succ n ih =>
    intro d3 d4 d6 l1 l2 l5 σ r h
    rw [M_steps_c151] at h
    refine zGo.sts 3 (cf' := (157, [some (.ref 75), some (.int l1), some (.int l2), d3, d4, some (.int l5), d6], [.int (σ 75 3), .int l5], σ)) rfl ?_
    by_cases hb18 : (σ 75 3) ≤ l5
    · replace h := zif_t hb18 h
      refine zC_ge_t rfl hb18 ?_
      refine zGo.sts 4 (cf' := (197, [some (.ref 75), some (.int l1), some (.int l2), d3, d4, some (.int l5), d6], [.int l2, .int l1, .ref 87], σ)) rfl ?_
      obtain ⟨σ14, hv, h⟩ := zbd h
      refine zG_st rfl hv ?_
      refine zGo.sts 3 (cf' := (4, [some (.ref 75), some (.int (l1 + 1)), some (.int (l2 + 1)), d3, d4, some (.int l5), d6], [], σ14)) rfl ?_
      exact hc4 h
    · replace h := zif_f hb18 h
      refine zC_ge_f rfl hb18 ?_
      refine zGo.sts 2 (cf' := (163, [some (.ref 75), some (.int l1), some (.int l2), d3, d4, some (.int l5), d6], [.int l1, .int l5], σ)) rfl ?_
      by_cases hb17 : l5 = l1
      · replace h := zif_t hb17 h
        refine zC_eq_t rfl hb17 ?_
        refine zGo.sts 2 (cf' := (151, [some (.ref 75), some (.int l1), some (.int l2), d3, d4, some (.int (l5 + 1)), d6], [], σ)) rfl ?_
        exact ih h
      · replace h := zif_f hb17 h
        refine zC_eq_f rfl hb17 ?_
        refine zGo.sts 9 (cf' := (180, [some (.ref 75), some (.int l1), some (.int l2), d3, d4, some (.int l5), d6], [.int ((9 * l5) + l2), .ref 86, .int l5, .ref 75], σ)) rfl ?_
        obtain ⟨v15, hv, h⟩ := zbd h
        refine zG_ld rfl hv ?_
        refine zGo.sts 1 (cf' := (182, [some (.ref 75), some (.int l1), some (.int l2), d3, d4, some (.int l5), d6], [.int l1, .int v15, .int l5, .ref 75], σ)) rfl ?_
        obtain ⟨σ16, hv, h⟩ := zbd h
        refine zGo.call rfl rfl (M_takesOff_g hv) ?_
        refine zGo.sts 2 (cf' := (151, [some (.ref 75), some (.int l1), some (.int l2), d3, d4, some (.int (l5 + 1)), d6], [], σ16)) rfl ?_
        exact ih h
def M_steps_c73 (c4 : Int32 → Int32 → zSt → Option (Int32 × zSt)) : Nat → Int32 → Int32 → Int32 → Int32 → Int32 → zSt → Option (Int32 × zSt)
  | 0, _, _, _, _, _, _ => none
  | n + 1, l1, l2, l3, l4, l5, σ => if (σ 75 3) ≤ l5 then (M_steps_c151 c4 zF l1 l2 0 σ) else ((zld σ 86 ((9 * l3) + l5)).bind fun v8 => (zld σ 86 ((9 * l1) + l5)).bind fun v9 => (zst σ 86 ((9 * l3) + l5) v9).bind fun σ10 => (zrmq (v8 * l4) (σ10 75 6)).bind fun v11 => (zst σ10 86 ((9 * l1) + l5) v11).bind fun σ12 => M_steps_c73 c4 n l1 l2 l3 l4 (l5 + 1) σ12)
theorem M_steps_g73 {c4 : Int32 → Int32 → zSt → Option (Int32 × zSt)} (hc4 : ∀ {d3 : Option Value} {d4 : Option Value} {d5 : Option Value} {d6 : Option Value} {l1 : Int32} {l2 : Int32} {σ : zSt} {r : Int32 × zSt}, c4 l1 l2 σ = some r → zGo zPT zmlc zP_208 (4, [some (.ref 75), some (.int l1), some (.int l2), d3, d4, d5, d6], [], σ) (some (.int r.1), r.2)) : ∀ (n : Nat) {d6 : Option Value} {l1 : Int32} {l2 : Int32} {l3 : Int32} {l4 : Int32} {l5 : Int32} {σ : zSt} {r : Int32 × zSt}, M_steps_c73 c4 n l1 l2 l3 l4 l5 σ = some r → zGo zPT zmlc zP_208 (73, [some (.ref 75), some (.int l1), some (.int l2), some (.int l3), some (.int l4), some (.int l5), d6], [], σ) (some (.int r.1), r.2) := by
  intro n
  induction n with
  | zero => intro d6 l1 l2 l3 l4 l5 σ r h; cases h
  | succ n ih =>
    intro d6 l1 l2 l3 l4 l5 σ r h
    rw [M_steps_c73] at h
    refine zGo.sts 3 (cf' := (79, [some (.ref 75), some (.int l1), some (.int l2), some (.int l3), some (.int l4), some (.int l5), d6], [.int (σ 75 3), .int l5], σ)) rfl ?_
    by_cases hb13 : (σ 75 3) ≤ l5
    · replace h := zif_t hb13 h
      refine zC_ge_t rfl hb13 ?_
      refine zGo.sts 2 (cf' := (151, [some (.ref 75), some (.int l1), some (.int l2), some (.int l3), some (.int l4), some (.int 0), d6], [], σ)) rfl ?_
      exact M_steps_g151 hc4 zF h
    · replace h := zif_f hb13 h
      refine zC_ge_f rfl hb13 ?_
      refine zGo.sts 7 (cf' := (93, [some (.ref 75), some (.int l1), some (.int l2), some (.int l3), some (.int l4), some (.int l5), d6], [.int ((9 * l3) + l5), .ref 86], σ)) rfl ?_
      obtain ⟨v8, hv, h⟩ := zbd h
      refine zG_ld rfl hv ?_
      refine zGo.sts 15 (cf' := (118, [some (.ref 75), some (.int l1), some (.int l2), some (.int l3), some (.int l4), some (.int l5), some (.int v8)], [.int ((9 * l1) + l5), .ref 86, .int ((9 * l3) + l5), .ref 86], σ)) rfl ?_
      obtain ⟨v9, hv, h⟩ := zbd h
      refine zG_ld rfl hv ?_
      obtain ⟨σ10, hv, h⟩ := zbd h
      refine zG_st rfl hv ?_
      refine zGo.sts 12 (cf' := (140, [some (.ref 75), some (.int l1), some (.int l2), some (.int l3), some (.int l4), some (.int l5), some (.int v8)], [.int (σ10 75 6), .int (v8 * l4), .int ((9 * l1) + l5), .ref 86], σ10)) rfl ?_
      obtain ⟨v11, hv, h⟩ := zbd h
      refine zG_div rfl hv ?_
      obtain ⟨σ12, hv, h⟩ := zbd h
      refine zG_st rfl hv ?_
      refine zGo.sts 2 (cf' := (73, [some (.ref 75), some (.int l1), some (.int l2), some (.int l3), some (.int l4), some (.int (l5 + 1)), some (.int v8)], [], σ12)) rfl ?_
      exact ih h
def M_steps_c42 (c4 : Int32 → Int32 → zSt → Option (Int32 × zSt)) (l1 : Int32) (l2 : Int32) (l3 : Int32) (σ : zSt) : Option (Int32 × zSt) := if ¬ l3 = (σ 75 3) then ((zld σ 86 ((9 * l3) + l2)).bind fun v5 => (M_inverse v5 σ).bind fun v6 => M_steps_c73 c4 zF l1 l2 l3 v6 0 σ) else (c4 l1 (l2 + 1) σ)
theorem M_steps_g42 {c4 : Int32 → Int32 → zSt → Option (Int32 × zSt)} (hc4 : ∀ {d3 : Option Value} {d4 : Option Value} {d5 : Option Value} {d6 : Option Value} {l1 : Int32} {l2 : Int32} {σ : zSt} {r : Int32 × zSt}, c4 l1 l2 σ = some r → zGo zPT zmlc zP_208 (4, [some (.ref 75), some (.int l1), some (.int l2), d3, d4, d5, d6], [], σ) (some (.int r.1), r.2)) {d4 : Option Value} {d5 : Option Value} {d6 : Option Value} {l1 : Int32} {l2 : Int32} {l3 : Int32} {σ : zSt} {r : Int32 × zSt} (h : M_steps_c42 c4 l1 l2 l3 σ = some r) : zGo zPT zmlc zP_208 (42, [some (.ref 75), some (.int l1), some (.int l2), some (.int l3), d4, d5, d6], [], σ) (some (.int r.1), r.2) := by
  unfold M_steps_c42 at h
  refine zGo.sts 3 (cf' := (47, [some (.ref 75), some (.int l1), some (.int l2), some (.int l3), d4, d5, d6], [.int (σ 75 3), .int l3], σ)) rfl ?_
  by_cases hb7 : ¬ l3 = (σ 75 3)
  · replace h := zif_t hb7 h
    refine zC_ne_t rfl hb7 ?_
    refine zGo.sts 8 (cf' := (64, [some (.ref 75), some (.int l1), some (.int l2), some (.int l3), d4, d5, d6], [.int ((9 * l3) + l2), .ref 86, .ref 75], σ)) rfl ?_
    obtain ⟨v5, hv, h⟩ := zbd h
    refine zG_ld rfl hv ?_
    obtain ⟨v6, hv, h⟩ := zbd h
    refine zGo.call rfl rfl (M_inverse_g hv) ?_
    refine zGo.sts 3 (cf' := (73, [some (.ref 75), some (.int l1), some (.int l2), some (.int l3), some (.int v6), some (.int 0), d6], [], σ)) rfl ?_
    exact M_steps_g73 hc4 zF h
  · replace h := zif_f hb7 h
    refine zC_ne_f rfl hb7 ?_
    refine zGo.sts 3 (cf' := (4, [some (.ref 75), some (.int l1), some (.int (l2 + 1)), some (.int l3), d4, d5, d6], [], σ)) rfl ?_
    exact hc4 h
def M_steps_c14 (c4 : Int32 → Int32 → zSt → Option (Int32 × zSt)) : Nat → Int32 → Int32 → Int32 → zSt → Option (Int32 × zSt)
  | 0, _, _, _, _ => none
  | n + 1, l1, l2, l3, σ => if (σ 75 3) ≤ l3 then (M_steps_c42 c4 l1 l2 l3 σ) else ((zld σ 86 ((9 * l3) + l2)).bind fun v2 => if ¬ v2 = 0 then (M_steps_c42 c4 l1 l2 l3 σ) else (M_steps_c14 c4 n l1 l2 (l3 + 1) σ))
theorem M_steps_g14 {c4 : Int32 → Int32 → zSt → Option (Int32 × zSt)} (hc4 : ∀ {d3 : Option Value} {d4 : Option Value} {d5 : Option Value} {d6 : Option Value} {l1 : Int32} {l2 : Int32} {σ : zSt} {r : Int32 × zSt}, c4 l1 l2 σ = some r → zGo zPT zmlc zP_208 (4, [some (.ref 75), some (.int l1), some (.int l2), d3, d4, d5, d6], [], σ) (some (.int r.1), r.2)) : ∀ (n : Nat) {d4 : Option Value} {d5 : Option Value} {d6 : Option Value} {l1 : Int32} {l2 : Int32} {l3 : Int32} {σ : zSt} {r : Int32 × zSt}, M_steps_c14 c4 n l1 l2 l3 σ = some r → zGo zPT zmlc zP_208 (14, [some (.ref 75), some (.int l1), some (.int l2), some (.int l3), d4, d5, d6], [], σ) (some (.int r.1), r.2) := by
  intro n
  induction n with
  | zero => intro d4 d5 d6 l1 l2 l3 σ r h; cases h
  | succ n ih =>
    intro d4 d5 d6 l1 l2 l3 σ r h
    rw [M_steps_c14] at h
    refine zGo.sts 3 (cf' := (19, [some (.ref 75), some (.int l1), some (.int l2), some (.int l3), d4, d5, d6], [.int (σ 75 3), .int l3], σ)) rfl ?_
    by_cases hb4 : (σ 75 3) ≤ l3
    · replace h := zif_t hb4 h
      refine zC_ge_t rfl hb4 ?_
      exact M_steps_g42 hc4 h
    · replace h := zif_f hb4 h
      refine zC_ge_f rfl hb4 ?_
      refine zGo.sts 7 (cf' := (32, [some (.ref 75), some (.int l1), some (.int l2), some (.int l3), d4, d5, d6], [.int ((9 * l3) + l2), .ref 86], σ)) rfl ?_
      obtain ⟨v2, hv, h⟩ := zbd h
      refine zG_ld rfl hv ?_
      by_cases hb3 : ¬ v2 = 0
      · replace h := zif_t hb3 h
        refine zI_ne_t rfl hb3 ?_
        exact M_steps_g42 hc4 h
      · replace h := zif_f hb3 h
        refine zI_ne_f rfl hb3 ?_
        refine zGo.sts 2 (cf' := (14, [some (.ref 75), some (.int l1), some (.int l2), some (.int (l3 + 1)), d4, d5, d6], [], σ)) rfl ?_
        exact ih h
def M_steps_c4 : Nat → Int32 → Int32 → zSt → Option (Int32 × zSt)
  | 0, _, _, _ => none
  | n + 1, l1, l2, σ => if (σ 75 3) ≤ l2 then (some (l1, σ)) else (M_steps_c14 (M_steps_c4 n) zF l1 l2 l1 σ)
theorem M_steps_g4 : ∀ (n : Nat) {d3 : Option Value} {d4 : Option Value} {d5 : Option Value} {d6 : Option Value} {l1 : Int32} {l2 : Int32} {σ : zSt} {r : Int32 × zSt}, M_steps_c4 n l1 l2 σ = some r → zGo zPT zmlc zP_208 (4, [some (.ref 75), some (.int l1), some (.int l2), d3, d4, d5, d6], [], σ) (some (.int r.1), r.2) := by
  intro n
  induction n with
  | zero => intro d3 d4 d5 d6 l1 l2 σ r h; cases h
  | succ n ih =>
    intro d3 d4 d5 d6 l1 l2 σ r h
    rw [M_steps_c4] at h
    refine zGo.sts 3 (cf' := (9, [some (.ref 75), some (.int l1), some (.int l2), d3, d4, d5, d6], [.int (σ 75 3), .int l2], σ)) rfl ?_
    by_cases hb1 : (σ 75 3) ≤ l2
    · replace h := zif_t hb1 h
      refine zC_ge_t rfl hb1 ?_
      refine zGo.sts 1 (cf' := (208, [some (.ref 75), some (.int l1), some (.int l2), d3, d4, d5, d6], [.int l1], σ)) rfl ?_
      obtain rfl := Option.some.inj h
      exact zGo.ret rfl rfl
    · replace h := zif_f hb1 h
      refine zC_ge_f rfl hb1 ?_
      refine zGo.sts 2 (cf' := (14, [some (.ref 75), some (.int l1), some (.int l2), some (.int l1), d4, d5, d6], [], σ)) rfl ?_
      exact M_steps_g14 ih zF h
def M_steps (σ : zSt) : Option (Int32 × zSt) := M_steps_c4 zF 0 0 σ
theorem M_steps_g {σ : zSt} {r : Int32 × zSt} (h : M_steps σ = some r) : zGo zPT zmlc (zPT 208) (0, zent (zmlc 208) [.ref 75], [], σ) (some (.int r.1), r.2) := by
  unfold M_steps at h
  show zGo zPT zmlc zP_208 (0, [some (.ref 75), none, none, none, none, none, none], [], σ) _
  refine zGo.sts 4 (cf' := (4, [some (.ref 75), some (.int 0), some (.int 0), none, none, none, none], [], σ)) rfl ?_
  exact M_steps_g4 zF h
def M_rank (l1 : Int32) (σ : zSt) : Option (Int32 × zSt) := (M_in l1 0 1 σ).bind fun v1 => if ¬ v1 = 0 then ((M_copies σ).bind fun σ2 => zb2 (M_steps σ2) fun v3 σ4 => if ¬ l1 = 0 then (some ((σ4 75 3) - v3, σ4)) else (some (v3, σ4))) else (some ((-1), σ))
theorem M_rank_g {l1 : Int32} {σ : zSt} {r : Int32 × zSt} (h : M_rank l1 σ = some r) : zGo zPT zmlc (zPT 209) (0, zent (zmlc 209) [.ref 75, .int l1], [], σ) (some (.int r.1), r.2) := by
  unfold M_rank at h
  show zGo zPT zmlc zP_209 (0, [some (.ref 75), some (.int l1), none], [], σ) _
  refine zGo.sts 3 (cf' := (3, [some (.ref 75), some (.int l1), none], [.int 1, .int 0, .int l1], σ)) rfl ?_
  obtain ⟨v1, hv, h⟩ := zbd h
  refine zGo.call rfl rfl (M_in_g hv) ?_
  by_cases hb6 : ¬ v1 = 0
  · replace h := zif_t hb6 h
    refine zI_ne_t rfl hb6 ?_
    refine zGo.sts 1 (cf' := (12, [some (.ref 75), some (.int l1), none], [.ref 75], σ)) rfl ?_
    obtain ⟨σ2, hv, h⟩ := zbd h
    refine zGo.call rfl rfl (M_copies_g hv) ?_
    refine zGo.sts 1 (cf' := (16, [some (.ref 75), some (.int l1), none], [.ref 75], σ2)) rfl ?_
    obtain ⟨v3, σ4, hv, h⟩ := zbd2 h
    refine zGo.call rfl rfl (M_steps_g hv) ?_
    refine zGo.sts 2 (cf' := (21, [some (.ref 75), some (.int l1), some (.int v3)], [.int l1], σ4)) rfl ?_
    by_cases hb5 : ¬ l1 = 0
    · replace h := zif_t hb5 h
      refine zI_ne_t rfl hb5 ?_
      refine zGo.sts 4 (cf' := (34, [some (.ref 75), some (.int l1), some (.int v3)], [.int ((σ4 75 3) - v3)], σ4)) rfl ?_
      obtain rfl := Option.some.inj h
      exact zGo.ret rfl rfl
    · replace h := zif_f hb5 h
      refine zI_ne_f rfl hb5 ?_
      refine zGo.sts 2 (cf' := (34, [some (.ref 75), some (.int l1), some (.int v3)], [.int v3], σ4)) rfl ?_
      obtain rfl := Option.some.inj h
      exact zGo.ret rfl rfl
  · replace h := zif_f hb6 h
    refine zI_ne_f rfl hb6 ?_
    refine zGo.sts 1 (cf' := (10, [some (.ref 75), some (.int l1), none], [.int (-1)], σ)) rfl ?_
    obtain rfl := Option.some.inj h
    exact zGo.ret rfl rfl
def M_stepOf_c2 (σ : zSt) : Nat → Int32 → Int32 → Int32 → Option (Int32)
  | 0, _, _, _ => none
  | n + 1, l1, l2, l3 => if l2 ≤ l3 then (some (-2)) else ((zld σ 87 l3).bind fun v1 => if ¬ v1 = l1 then (M_stepOf_c2 σ n l1 l2 (l3 + 1)) else (some l3))
theorem M_stepOf_g2 {σ : zSt} : ∀ (n : Nat) {l1 : Int32} {l2 : Int32} {l3 : Int32} {r : Int32}, M_stepOf_c2 σ n l1 l2 l3 = some r → zGo zPT zmlc zP_210 (2, [some (.ref 75), some (.int l1), some (.int l2), some (.int l3)], [], σ) (some (.int r), σ) := by
  intro n
  induction n with
  | zero => intro l1 l2 l3 r h; cases h
  | succ n ih =>
    intro l1 l2 l3 r h
    rw [M_stepOf_c2] at h
    refine zGo.sts 2 (cf' := (4, [some (.ref 75), some (.int l1), some (.int l2), some (.int l3)], [.int l2, .int l3], σ)) rfl ?_
    by_cases hb3 : l2 ≤ l3
    · replace h := zif_t hb3 h
      refine zC_ge_t rfl hb3 ?_
      refine zGo.sts 1 (cf' := (27, [some (.ref 75), some (.int l1), some (.int l2), some (.int l3)], [.int (-2)], σ)) rfl ?_
      obtain rfl := Option.some.inj h
      exact zGo.ret rfl rfl
    · replace h := zif_f hb3 h
      refine zC_ge_f rfl hb3 ?_
      refine zGo.sts 3 (cf' := (12, [some (.ref 75), some (.int l1), some (.int l2), some (.int l3)], [.int l3, .ref 87], σ)) rfl ?_
      obtain ⟨v1, hv, h⟩ := zbd h
      refine zG_ld rfl hv ?_
      refine zGo.sts 1 (cf' := (14, [some (.ref 75), some (.int l1), some (.int l2), some (.int l3)], [.int l1, .int v1], σ)) rfl ?_
      by_cases hb2 : ¬ v1 = l1
      · replace h := zif_t hb2 h
        refine zC_ne_t rfl hb2 ?_
        refine zGo.sts 2 (cf' := (2, [some (.ref 75), some (.int l1), some (.int l2), some (.int (l3 + 1))], [], σ)) rfl ?_
        exact ih h
      · replace h := zif_f hb2 h
        refine zC_ne_f rfl hb2 ?_
        refine zGo.sts 1 (cf' := (18, [some (.ref 75), some (.int l1), some (.int l2), some (.int l3)], [.int l3], σ)) rfl ?_
        obtain rfl := Option.some.inj h
        exact zGo.ret rfl rfl
def M_stepOf (l1 : Int32) (l2 : Int32) (σ : zSt) : Option (Int32) := M_stepOf_c2 σ zF l1 l2 0
theorem M_stepOf_g {l1 : Int32} {l2 : Int32} {σ : zSt} {r : Int32} (h : M_stepOf l1 l2 σ = some r) : zGo zPT zmlc (zPT 210) (0, zent (zmlc 210) [.ref 75, .int l1, .int l2], [], σ) (some (.int r), σ) := by
  unfold M_stepOf at h
  show zGo zPT zmlc zP_210 (0, [some (.ref 75), some (.int l1), some (.int l2), none], [], σ) _
  refine zGo.sts 2 (cf' := (2, [some (.ref 75), some (.int l1), some (.int l2), some (.int 0)], [], σ)) rfl ?_
  exact M_stepOf_g2 zF h
def M_kernel_c33 : Nat → Int32 → Int32 → Int32 → Int32 → Int32 → Int32 → zSt → Option (Int32 × zSt)
  | 0, _, _, _, _, _, _, _ => none
  | n + 1, l1, l2, l3, l4, l5, l6, σ => if (σ 75 3) ≤ l6 then (if l1 < l4 then ((M_stepOf l2 l3 σ).bind fun v7 => if ¬ v7 = (-2) then ((zld σ 86 ((9 * v7) + l5)).bind fun v8 => (zrmq ((σ 75 6) - v8) (σ 75 6)).bind fun v9 => some (v9, σ)) else (if ¬ l2 = l5 then (some (0, σ)) else (some (1, σ)))) else (some ((-2), σ))) else ((M_stepOf l6 l3 σ).bind fun v13 => if v13 = (-2) then (if ¬ l4 = l1 then (M_kernel_c33 n l1 l2 l3 (l4 + 1) l5 (l6 + 1) σ) else (M_kernel_c33 n l1 l2 l3 (l4 + 1) l6 (l6 + 1) σ)) else (M_kernel_c33 n l1 l2 l3 l4 l5 (l6 + 1) σ))
theorem M_kernel_g33 : ∀ (n : Nat) {l1 : Int32} {l2 : Int32} {l3 : Int32} {l4 : Int32} {l5 : Int32} {l6 : Int32} {σ : zSt} {r : Int32 × zSt}, M_kernel_c33 n l1 l2 l3 l4 l5 l6 σ = some r → zGo zPT zmlc zP_211 (33, [some (.ref 75), some (.int l1), some (.int l2), some (.int l3), some (.int l4), some (.int l5), some (.int l6)], [], σ) (some (.int r.1), r.2) := by
  intro n
  induction n with
  | zero => intro l1 l2 l3 l4 l5 l6 σ r h; cases h
  | succ n ih =>
    intro l1 l2 l3 l4 l5 l6 σ r h
    rw [M_kernel_c33] at h
    refine zGo.sts 3 (cf' := (39, [some (.ref 75), some (.int l1), some (.int l2), some (.int l3), some (.int l4), some (.int l5), some (.int l6)], [.int (σ 75 3), .int l6], σ)) rfl ?_
    by_cases hb16 : (σ 75 3) ≤ l6
    · replace h := zif_t hb16 h
      refine zC_ge_t rfl hb16 ?_
      refine zGo.sts 2 (cf' := (84, [some (.ref 75), some (.int l1), some (.int l2), some (.int l3), some (.int l4), some (.int l5), some (.int l6)], [.int l4, .int l1], σ)) rfl ?_
      by_cases hb12 : l1 < l4
      · replace h := zif_t hb12 h
        refine zC_lt_t rfl hb12 ?_
        refine zGo.sts 3 (cf' := (93, [some (.ref 75), some (.int l1), some (.int l2), some (.int l3), some (.int l4), some (.int l5), some (.int l6)], [.int l3, .int l2, .ref 75], σ)) rfl ?_
        obtain ⟨v7, hv, h⟩ := zbd h
        refine zGo.call rfl rfl (M_stepOf_g hv) ?_
        refine zGo.sts 3 (cf' := (102, [some (.ref 75), some (.int l1), some (.int l2), some (.int l3), some (.int l4), some (.int l5), some (.int v7)], [.int (-2), .int v7], σ)) rfl ?_
        by_cases hb11 : ¬ v7 = (-2)
        · replace h := zif_t hb11 h
          refine zC_ne_t rfl hb11 ?_
          refine zGo.sts 9 (cf' := (135, [some (.ref 75), some (.int l1), some (.int l2), some (.int l3), some (.int l4), some (.int l5), some (.int v7)], [.int ((9 * v7) + l5), .ref 86, .int (σ 75 6)], σ)) rfl ?_
          obtain ⟨v8, hv, h⟩ := zbd h
          refine zG_ld rfl hv ?_
          refine zGo.sts 3 (cf' := (141, [some (.ref 75), some (.int l1), some (.int l2), some (.int l3), some (.int l4), some (.int l5), some (.int v7)], [.int (σ 75 6), .int ((σ 75 6) - v8)], σ)) rfl ?_
          obtain ⟨v9, hv, h⟩ := zbd h
          refine zG_div rfl hv ?_
          obtain rfl := Option.some.inj h
          exact zGo.ret rfl rfl
        · replace h := zif_f hb11 h
          refine zC_ne_f rfl hb11 ?_
          refine zGo.sts 2 (cf' := (108, [some (.ref 75), some (.int l1), some (.int l2), some (.int l3), some (.int l4), some (.int l5), some (.int v7)], [.int l5, .int l2], σ)) rfl ?_
          by_cases hb10 : ¬ l2 = l5
          · replace h := zif_t hb10 h
            refine zC_ne_t rfl hb10 ?_
            refine zGo.sts 2 (cf' := (142, [some (.ref 75), some (.int l1), some (.int l2), some (.int l3), some (.int l4), some (.int l5), some (.int v7)], [.int 0], σ)) rfl ?_
            obtain rfl := Option.some.inj h
            exact zGo.ret rfl rfl
          · replace h := zif_f hb10 h
            refine zC_ne_f rfl hb10 ?_
            refine zGo.sts 2 (cf' := (142, [some (.ref 75), some (.int l1), some (.int l2), some (.int l3), some (.int l4), some (.int l5), some (.int v7)], [.int 1], σ)) rfl ?_
            obtain rfl := Option.some.inj h
            exact zGo.ret rfl rfl
      · replace h := zif_f hb12 h
        refine zC_lt_f rfl hb12 ?_
        refine zGo.sts 1 (cf' := (89, [some (.ref 75), some (.int l1), some (.int l2), some (.int l3), some (.int l4), some (.int l5), some (.int l6)], [.int (-2)], σ)) rfl ?_
        obtain rfl := Option.some.inj h
        exact zGo.ret rfl rfl
    · replace h := zif_f hb16 h
      refine zC_ge_f rfl hb16 ?_
      refine zGo.sts 3 (cf' := (46, [some (.ref 75), some (.int l1), some (.int l2), some (.int l3), some (.int l4), some (.int l5), some (.int l6)], [.int l3, .int l6, .ref 75], σ)) rfl ?_
      obtain ⟨v13, hv, h⟩ := zbd h
      refine zGo.call rfl rfl (M_stepOf_g hv) ?_
      refine zGo.sts 1 (cf' := (51, [some (.ref 75), some (.int l1), some (.int l2), some (.int l3), some (.int l4), some (.int l5), some (.int l6)], [.int (-2), .int v13], σ)) rfl ?_
      by_cases hb15 : v13 = (-2)
      · replace h := zif_t hb15 h
        refine zC_eq_t rfl hb15 ?_
        refine zGo.sts 2 (cf' := (60, [some (.ref 75), some (.int l1), some (.int l2), some (.int l3), some (.int l4), some (.int l5), some (.int l6)], [.int l1, .int l4], σ)) rfl ?_
        by_cases hb14 : ¬ l4 = l1
        · replace h := zif_t hb14 h
          refine zC_ne_t rfl hb14 ?_
          refine zGo.sts 5 (cf' := (33, [some (.ref 75), some (.int l1), some (.int l2), some (.int l3), some (.int (l4 + 1)), some (.int l5), some (.int (l6 + 1))], [], σ)) rfl ?_
          exact ih h
        · replace h := zif_f hb14 h
          refine zC_ne_f rfl hb14 ?_
          refine zGo.sts 6 (cf' := (33, [some (.ref 75), some (.int l1), some (.int l2), some (.int l3), some (.int (l4 + 1)), some (.int l6), some (.int (l6 + 1))], [], σ)) rfl ?_
          exact ih h
      · replace h := zif_f hb15 h
        refine zC_eq_f rfl hb15 ?_
        refine zGo.sts 3 (cf' := (33, [some (.ref 75), some (.int l1), some (.int l2), some (.int l3), some (.int l4), some (.int l5), some (.int (l6 + 1))], [], σ)) rfl ?_
        exact ih h
def M_kernel (l1 : Int32) (l2 : Int32) (σ : zSt) : Option (Int32 × zSt) := (M_isPoint l2 σ).bind fun v1 => if v1 = 0 then (some ((-1), σ)) else (if 0 ≤ l1 then ((M_copies σ).bind fun σ2 => zb2 (M_steps σ2) fun v3 σ4 => M_kernel_c33 zF l1 l2 v3 0 (-2) 0 σ4) else (some ((-1), σ)))
theorem M_kernel_g {l1 : Int32} {l2 : Int32} {σ : zSt} {r : Int32 × zSt} (h : M_kernel l1 l2 σ = some r) : zGo zPT zmlc (zPT 211) (0, zent (zmlc 211) [.ref 75, .int l1, .int l2], [], σ) (some (.int r.1), r.2) := by
  unfold M_kernel at h
  show zGo zPT zmlc zP_211 (0, [some (.ref 75), some (.int l1), some (.int l2), none, none, none, none], [], σ) _
  refine zGo.sts 2 (cf' := (2, [some (.ref 75), some (.int l1), some (.int l2), none, none, none, none], [.int l2, .ref 75], σ)) rfl ?_
  obtain ⟨v1, hv, h⟩ := zbd h
  refine zGo.call rfl rfl (M_isPoint_g hv) ?_
  by_cases hb6 : v1 = 0
  · replace h := zif_t hb6 h
    refine zI_eq_t rfl hb6 ?_
    refine zGo.sts 1 (cf' := (13, [some (.ref 75), some (.int l1), some (.int l2), none, none, none, none], [.int (-1)], σ)) rfl ?_
    obtain rfl := Option.some.inj h
    exact zGo.ret rfl rfl
  · replace h := zif_f hb6 h
    refine zI_eq_f rfl hb6 ?_
    refine zGo.sts 1 (cf' := (9, [some (.ref 75), some (.int l1), some (.int l2), none, none, none, none], [.int l1], σ)) rfl ?_
    by_cases hb5 : 0 ≤ l1
    · replace h := zif_t hb5 h
      refine zI_ge_t rfl hb5 ?_
      refine zGo.sts 1 (cf' := (15, [some (.ref 75), some (.int l1), some (.int l2), none, none, none, none], [.ref 75], σ)) rfl ?_
      obtain ⟨σ2, hv, h⟩ := zbd h
      refine zGo.call rfl rfl (M_copies_g hv) ?_
      refine zGo.sts 1 (cf' := (19, [some (.ref 75), some (.int l1), some (.int l2), none, none, none, none], [.ref 75], σ2)) rfl ?_
      obtain ⟨v3, σ4, hv, h⟩ := zbd2 h
      refine zGo.call rfl rfl (M_steps_g hv) ?_
      refine zGo.sts 7 (cf' := (33, [some (.ref 75), some (.int l1), some (.int l2), some (.int v3), some (.int 0), some (.int (-2)), some (.int 0)], [], σ4)) rfl ?_
      exact M_kernel_g33 zF h
    · replace h := zif_f hb5 h
      refine zI_ge_f rfl hb5 ?_
      refine zGo.sts 1 (cf' := (13, [some (.ref 75), some (.int l1), some (.int l2), none, none, none, none], [.int (-1)], σ)) rfl ?_
      obtain rfl := Option.some.inj h
      exact zGo.ret rfl rfl
def M_mend_c71 (c28 : Int32 → Int32 → Int32 → Int32 → Int32 → zSt → Option (Int32 × zSt)) (l1 : Int32) (l2 : Int32) (l4 : Int32) (l5 : Int32) (l6 : Int32) (t0 : Int32) (σ : zSt) : Option (Int32 × zSt) := if l4 ≤ l6 then (c28 l1 l2 t0 l4 (l5 + 1) σ) else (c28 l1 l2 t0 l6 (l5 + 1) σ)
theorem M_mend_g71 {c28 : Int32 → Int32 → Int32 → Int32 → Int32 → zSt → Option (Int32 × zSt)} (hc28 : ∀ {d6 : Option Value} {l1 : Int32} {l2 : Int32} {l3 : Int32} {l4 : Int32} {l5 : Int32} {σ : zSt} {r : Int32 × zSt}, c28 l1 l2 l3 l4 l5 σ = some r → zGo zPT zmlc zP_212 (28, [some (.ref 75), some (.int l1), some (.int l2), some (.int l3), some (.int l4), some (.int l5), d6], [], σ) (some (.int r.1), r.2)) {d3 : Option Value} {l1 : Int32} {l2 : Int32} {l4 : Int32} {l5 : Int32} {l6 : Int32} {t0 : Int32} {σ : zSt} {r : Int32 × zSt} (h : M_mend_c71 c28 l1 l2 l4 l5 l6 t0 σ = some r) : zGo zPT zmlc zP_212 (71, [some (.ref 75), some (.int l1), some (.int l2), d3, some (.int l4), some (.int l5), some (.int l6)], [.int t0], σ) (some (.int r.1), r.2) := by
  unfold M_mend_c71 at h
  refine zGo.sts 3 (cf' := (76, [some (.ref 75), some (.int l1), some (.int l2), some (.int t0), some (.int l4), some (.int l5), some (.int l6)], [.int l4, .int l6], σ)) rfl ?_
  by_cases hb12 : l4 ≤ l6
  · replace h := zif_t hb12 h
    refine zC_ge_t rfl hb12 ?_
    refine zGo.sts 4 (cf' := (28, [some (.ref 75), some (.int l1), some (.int l2), some (.int t0), some (.int l4), some (.int (l5 + 1)), some (.int l6)], [], σ)) rfl ?_
    exact hc28 h
  · replace h := zif_f hb12 h
    refine zC_ge_f rfl hb12 ?_
    refine zGo.sts 5 (cf' := (28, [some (.ref 75), some (.int l1), some (.int l2), some (.int t0), some (.int l6), some (.int (l5 + 1)), some (.int l6)], [], σ)) rfl ?_
    exact hc28 h
def M_mend_c28 : Nat → Int32 → Int32 → Int32 → Int32 → Int32 → zSt → Option (Int32 × zSt)
  | 0, _, _, _, _, _, _ => none
  | n + 1, l1, l2, l3, l4, l5, σ => if (σ 75 6) ≤ l5 then (if ¬ l2 = 0 then (some (l4, σ)) else (some (l3, σ))) else ((M_copies σ).bind fun σ6 => (zst σ6 86 (10 * l1) l5).bind fun σ7 => zb2 (M_steps σ7) fun v8 σ9 => if l4 ≤ v8 then (M_mend_c71 (M_mend_c28 n) l1 l2 l4 l5 v8 l3 σ9) else (M_mend_c71 (M_mend_c28 n) l1 l2 l4 l5 v8 l5 σ9))
theorem M_mend_g28 : ∀ (n : Nat) {d6 : Option Value} {l1 : Int32} {l2 : Int32} {l3 : Int32} {l4 : Int32} {l5 : Int32} {σ : zSt} {r : Int32 × zSt}, M_mend_c28 n l1 l2 l3 l4 l5 σ = some r → zGo zPT zmlc zP_212 (28, [some (.ref 75), some (.int l1), some (.int l2), some (.int l3), some (.int l4), some (.int l5), d6], [], σ) (some (.int r.1), r.2) := by
  intro n
  induction n with
  | zero => intro d6 l1 l2 l3 l4 l5 σ r h; cases h
  | succ n ih =>
    intro d6 l1 l2 l3 l4 l5 σ r h
    rw [M_mend_c28] at h
    refine zGo.sts 3 (cf' := (34, [some (.ref 75), some (.int l1), some (.int l2), some (.int l3), some (.int l4), some (.int l5), d6], [.int (σ 75 6), .int l5], σ)) rfl ?_
    by_cases hb11 : (σ 75 6) ≤ l5
    · replace h := zif_t hb11 h
      refine zC_ge_t rfl hb11 ?_
      refine zGo.sts 1 (cf' := (95, [some (.ref 75), some (.int l1), some (.int l2), some (.int l3), some (.int l4), some (.int l5), d6], [.int l2], σ)) rfl ?_
      by_cases hb5 : ¬ l2 = 0
      · replace h := zif_t hb5 h
        refine zI_ne_t rfl hb5 ?_
        refine zGo.sts 1 (cf' := (104, [some (.ref 75), some (.int l1), some (.int l2), some (.int l3), some (.int l4), some (.int l5), d6], [.int l4], σ)) rfl ?_
        obtain rfl := Option.some.inj h
        exact zGo.ret rfl rfl
      · replace h := zif_f hb5 h
        refine zI_ne_f rfl hb5 ?_
        refine zGo.sts 2 (cf' := (104, [some (.ref 75), some (.int l1), some (.int l2), some (.int l3), some (.int l4), some (.int l5), d6], [.int l3], σ)) rfl ?_
        obtain rfl := Option.some.inj h
        exact zGo.ret rfl rfl
    · replace h := zif_f hb11 h
      refine zC_ge_f rfl hb11 ?_
      refine zGo.sts 1 (cf' := (38, [some (.ref 75), some (.int l1), some (.int l2), some (.int l3), some (.int l4), some (.int l5), d6], [.ref 75], σ)) rfl ?_
      obtain ⟨σ6, hv, h⟩ := zbd h
      refine zGo.call rfl rfl (M_copies_g hv) ?_
      refine zGo.sts 6 (cf' := (51, [some (.ref 75), some (.int l1), some (.int l2), some (.int l3), some (.int l4), some (.int l5), d6], [.int l5, .int (10 * l1), .ref 86], σ6)) rfl ?_
      obtain ⟨σ7, hv, h⟩ := zbd h
      refine zG_st rfl hv ?_
      refine zGo.sts 1 (cf' := (53, [some (.ref 75), some (.int l1), some (.int l2), some (.int l3), some (.int l4), some (.int l5), d6], [.ref 75], σ7)) rfl ?_
      obtain ⟨v8, σ9, hv, h⟩ := zbd2 h
      refine zGo.call rfl rfl (M_steps_g hv) ?_
      refine zGo.sts 3 (cf' := (62, [some (.ref 75), some (.int l1), some (.int l2), some (.int l3), some (.int l4), some (.int l5), some (.int v8)], [.int l4, .int v8], σ9)) rfl ?_
      by_cases hb10 : l4 ≤ v8
      · replace h := zif_t hb10 h
        refine zC_ge_t rfl hb10 ?_
        refine zGo.sts 1 (cf' := (71, [some (.ref 75), some (.int l1), some (.int l2), some (.int l3), some (.int l4), some (.int l5), some (.int v8)], [.int l3], σ9)) rfl ?_
        exact M_mend_g71 ih h
      · replace h := zif_f hb10 h
        refine zC_ge_f rfl hb10 ?_
        refine zGo.sts 2 (cf' := (71, [some (.ref 75), some (.int l1), some (.int l2), some (.int l3), some (.int l4), some (.int l5), some (.int v8)], [.int l5], σ9)) rfl ?_
        exact M_mend_g71 ih h
def M_mend (l1 : Int32) (l2 : Int32) (σ : zSt) : Option (Int32 × zSt) := (M_isPoint l1 σ).bind fun v1 => if v1 = 0 then (some ((-1), σ)) else ((M_in l2 0 1 σ).bind fun v2 => if ¬ v2 = 0 then (M_mend_c28 zF l1 l2 0 10 0 σ) else (some ((-1), σ)))
theorem M_mend_g {l1 : Int32} {l2 : Int32} {σ : zSt} {r : Int32 × zSt} (h : M_mend l1 l2 σ = some r) : zGo zPT zmlc (zPT 212) (0, zent (zmlc 212) [.ref 75, .int l1, .int l2], [], σ) (some (.int r.1), r.2) := by
  unfold M_mend at h
  show zGo zPT zmlc zP_212 (0, [some (.ref 75), some (.int l1), some (.int l2), none, none, none, none], [], σ) _
  refine zGo.sts 2 (cf' := (2, [some (.ref 75), some (.int l1), some (.int l2), none, none, none, none], [.int l1, .ref 75], σ)) rfl ?_
  obtain ⟨v1, hv, h⟩ := zbd h
  refine zGo.call rfl rfl (M_isPoint_g hv) ?_
  by_cases hb4 : v1 = 0
  · replace h := zif_t hb4 h
    refine zI_eq_t rfl hb4 ?_
    refine zGo.sts 1 (cf' := (18, [some (.ref 75), some (.int l1), some (.int l2), none, none, none, none], [.int (-1)], σ)) rfl ?_
    obtain rfl := Option.some.inj h
    exact zGo.ret rfl rfl
  · replace h := zif_f hb4 h
    refine zI_eq_f rfl hb4 ?_
    refine zGo.sts 3 (cf' := (11, [some (.ref 75), some (.int l1), some (.int l2), none, none, none, none], [.int 1, .int 0, .int l2], σ)) rfl ?_
    obtain ⟨v2, hv, h⟩ := zbd h
    refine zGo.call rfl rfl (M_in_g hv) ?_
    by_cases hb3 : ¬ v2 = 0
    · replace h := zif_t hb3 h
      refine zI_ne_t rfl hb3 ?_
      refine zGo.sts 6 (cf' := (28, [some (.ref 75), some (.int l1), some (.int l2), some (.int 0), some (.int 10), some (.int 0), none], [], σ)) rfl ?_
      exact M_mend_g28 zF h
    · replace h := zif_f hb3 h
      refine zI_ne_f rfl hb3 ?_
      refine zGo.sts 1 (cf' := (18, [some (.ref 75), some (.int l1), some (.int l2), none, none, none, none], [.int (-1)], σ)) rfl ?_
      obtain rfl := Option.some.inj h
      exact zGo.ret rfl rfl
def M_mendTwo_c126 (c54 : Int32 → Int32 → Int32 → Int32 → Int32 → Int32 → zSt → Option (Int32 × zSt)) (l3 : Int32) (l4 : Int32) (l5 : Int32) (l7 : Int32) (l8 : Int32) (l9 : Int32) (t0 : Int32) (σ : zSt) : Option (Int32 × zSt) := if l7 ≤ l9 then (c54 l3 l4 l5 t0 l7 (l8 + 1) σ) else (c54 l3 l4 l5 t0 l9 (l8 + 1) σ)
theorem M_mendTwo_g126 {c54 : Int32 → Int32 → Int32 → Int32 → Int32 → Int32 → zSt → Option (Int32 × zSt)} (hc54 : ∀ {d1 : Option Value} {d2 : Option Value} {d9 : Option Value} {l3 : Int32} {l4 : Int32} {l5 : Int32} {l6 : Int32} {l7 : Int32} {l8 : Int32} {σ : zSt} {r : Int32 × zSt}, c54 l3 l4 l5 l6 l7 l8 σ = some r → zGo zPT zmlc zP_213 (54, [some (.ref 75), d1, d2, some (.int l3), some (.int l4), some (.int l5), some (.int l6), some (.int l7), some (.int l8), d9], [], σ) (some (.int r.1), r.2)) {d1 : Option Value} {d2 : Option Value} {d6 : Option Value} {l3 : Int32} {l4 : Int32} {l5 : Int32} {l7 : Int32} {l8 : Int32} {l9 : Int32} {t0 : Int32} {σ : zSt} {r : Int32 × zSt} (h : M_mendTwo_c126 c54 l3 l4 l5 l7 l8 l9 t0 σ = some r) : zGo zPT zmlc zP_213 (126, [some (.ref 75), d1, d2, some (.int l3), some (.int l4), some (.int l5), d6, some (.int l7), some (.int l8), some (.int l9)], [.int t0], σ) (some (.int r.1), r.2) := by
  unfold M_mendTwo_c126 at h
  refine zGo.sts 3 (cf' := (132, [some (.ref 75), d1, d2, some (.int l3), some (.int l4), some (.int l5), some (.int t0), some (.int l7), some (.int l8), some (.int l9)], [.int l7, .int l9], σ)) rfl ?_
  by_cases hb17 : l7 ≤ l9
  · replace h := zif_t hb17 h
    refine zC_ge_t rfl hb17 ?_
    refine zGo.sts 4 (cf' := (54, [some (.ref 75), d1, d2, some (.int l3), some (.int l4), some (.int l5), some (.int t0), some (.int l7), some (.int (l8 + 1)), some (.int l9)], [], σ)) rfl ?_
    exact hc54 h
  · replace h := zif_f hb17 h
    refine zC_ge_f rfl hb17 ?_
    refine zGo.sts 5 (cf' := (54, [some (.ref 75), d1, d2, some (.int l3), some (.int l4), some (.int l5), some (.int t0), some (.int l9), some (.int (l8 + 1)), some (.int l9)], [], σ)) rfl ?_
    exact hc54 h
def M_mendTwo_c54 : Nat → Int32 → Int32 → Int32 → Int32 → Int32 → Int32 → zSt → Option (Int32 × zSt)
  | 0, _, _, _, _, _, _, _ => none
  | n + 1, l3, l4, l5, l6, l7, l8, σ => if ((σ 75 6) * (σ 75 6)) ≤ l8 then (if ¬ l3 = 0 then (some (l7, σ)) else (some (l6, σ))) else ((M_copies σ).bind fun σ8 => (zdvq l8 (σ8 75 6)).bind fun v9 => (zst σ8 86 (10 * l4) v9).bind fun σ10 => (zrmq l8 (σ10 75 6)).bind fun v11 => (zst σ10 86 (10 * l5) v11).bind fun σ12 => zb2 (M_steps σ12) fun v13 σ14 => if l7 ≤ v13 then (M_mendTwo_c126 (M_mendTwo_c54 n) l3 l4 l5 l7 l8 v13 l6 σ14) else (M_mendTwo_c126 (M_mendTwo_c54 n) l3 l4 l5 l7 l8 v13 l8 σ14))
theorem M_mendTwo_g54 : ∀ (n : Nat) {d1 : Option Value} {d2 : Option Value} {d9 : Option Value} {l3 : Int32} {l4 : Int32} {l5 : Int32} {l6 : Int32} {l7 : Int32} {l8 : Int32} {σ : zSt} {r : Int32 × zSt}, M_mendTwo_c54 n l3 l4 l5 l6 l7 l8 σ = some r → zGo zPT zmlc zP_213 (54, [some (.ref 75), d1, d2, some (.int l3), some (.int l4), some (.int l5), some (.int l6), some (.int l7), some (.int l8), d9], [], σ) (some (.int r.1), r.2) := by
  intro n
  induction n with
  | zero => intro d1 d2 d9 l3 l4 l5 l6 l7 l8 σ r h; cases h
  | succ n ih =>
    intro d1 d2 d9 l3 l4 l5 l6 l7 l8 σ r h
    rw [M_mendTwo_c54] at h
    refine zGo.sts 6 (cf' := (65, [some (.ref 75), d1, d2, some (.int l3), some (.int l4), some (.int l5), some (.int l6), some (.int l7), some (.int l8), d9], [.int ((σ 75 6) * (σ 75 6)), .int l8], σ)) rfl ?_
    by_cases hb16 : ((σ 75 6) * (σ 75 6)) ≤ l8
    · replace h := zif_t hb16 h
      refine zC_ge_t rfl hb16 ?_
      refine zGo.sts 1 (cf' := (151, [some (.ref 75), d1, d2, some (.int l3), some (.int l4), some (.int l5), some (.int l6), some (.int l7), some (.int l8), d9], [.int l3], σ)) rfl ?_
      by_cases hb7 : ¬ l3 = 0
      · replace h := zif_t hb7 h
        refine zI_ne_t rfl hb7 ?_
        refine zGo.sts 1 (cf' := (161, [some (.ref 75), d1, d2, some (.int l3), some (.int l4), some (.int l5), some (.int l6), some (.int l7), some (.int l8), d9], [.int l7], σ)) rfl ?_
        obtain rfl := Option.some.inj h
        exact zGo.ret rfl rfl
      · replace h := zif_f hb7 h
        refine zI_ne_f rfl hb7 ?_
        refine zGo.sts 2 (cf' := (161, [some (.ref 75), d1, d2, some (.int l3), some (.int l4), some (.int l5), some (.int l6), some (.int l7), some (.int l8), d9], [.int l6], σ)) rfl ?_
        obtain rfl := Option.some.inj h
        exact zGo.ret rfl rfl
    · replace h := zif_f hb16 h
      refine zC_ge_f rfl hb16 ?_
      refine zGo.sts 1 (cf' := (69, [some (.ref 75), d1, d2, some (.int l3), some (.int l4), some (.int l5), some (.int l6), some (.int l7), some (.int l8), d9], [.ref 75], σ)) rfl ?_
      obtain ⟨σ8, hv, h⟩ := zbd h
      refine zGo.call rfl rfl (M_copies_g hv) ?_
      refine zGo.sts 8 (cf' := (87, [some (.ref 75), d1, d2, some (.int l3), some (.int l4), some (.int l5), some (.int l6), some (.int l7), some (.int l8), d9], [.int (σ8 75 6), .int l8, .int (10 * l4), .ref 86], σ8)) rfl ?_
      obtain ⟨v9, hv, h⟩ := zbd h
      refine zG_div rfl hv ?_
      obtain ⟨σ10, hv, h⟩ := zbd h
      refine zG_st rfl hv ?_
      refine zGo.sts 8 (cf' := (104, [some (.ref 75), d1, d2, some (.int l3), some (.int l4), some (.int l5), some (.int l6), some (.int l7), some (.int l8), d9], [.int (σ10 75 6), .int l8, .int (10 * l5), .ref 86], σ10)) rfl ?_
      obtain ⟨v11, hv, h⟩ := zbd h
      refine zG_div rfl hv ?_
      obtain ⟨σ12, hv, h⟩ := zbd h
      refine zG_st rfl hv ?_
      refine zGo.sts 1 (cf' := (107, [some (.ref 75), d1, d2, some (.int l3), some (.int l4), some (.int l5), some (.int l6), some (.int l7), some (.int l8), d9], [.ref 75], σ12)) rfl ?_
      obtain ⟨v13, σ14, hv, h⟩ := zbd2 h
      refine zGo.call rfl rfl (M_steps_g hv) ?_
      refine zGo.sts 3 (cf' := (116, [some (.ref 75), d1, d2, some (.int l3), some (.int l4), some (.int l5), some (.int l6), some (.int l7), some (.int l8), some (.int v13)], [.int l7, .int v13], σ14)) rfl ?_
      by_cases hb15 : l7 ≤ v13
      · replace h := zif_t hb15 h
        refine zC_ge_t rfl hb15 ?_
        refine zGo.sts 1 (cf' := (126, [some (.ref 75), d1, d2, some (.int l3), some (.int l4), some (.int l5), some (.int l6), some (.int l7), some (.int l8), some (.int v13)], [.int l6], σ14)) rfl ?_
        exact M_mendTwo_g126 ih h
      · replace h := zif_f hb15 h
        refine zC_ge_f rfl hb15 ?_
        refine zGo.sts 2 (cf' := (126, [some (.ref 75), d1, d2, some (.int l3), some (.int l4), some (.int l5), some (.int l6), some (.int l7), some (.int l8), some (.int v13)], [.int l8], σ14)) rfl ?_
        exact M_mendTwo_g126 ih h
def M_mendTwo_c42 (l3 : Int32) (l4 : Int32) (t0 : Int32) (σ : zSt) : Option (Int32 × zSt) := M_mendTwo_c54 zF l3 l4 t0 0 10 0 σ
theorem M_mendTwo_g42 {d1 : Option Value} {d2 : Option Value} {d5 : Option Value} {d6 : Option Value} {d7 : Option Value} {d8 : Option Value} {d9 : Option Value} {l3 : Int32} {l4 : Int32} {t0 : Int32} {σ : zSt} {r : Int32 × zSt} (h : M_mendTwo_c42 l3 l4 t0 σ = some r) : zGo zPT zmlc zP_213 (42, [some (.ref 75), d1, d2, some (.int l3), some (.int l4), d5, d6, d7, d8, d9], [.int t0], σ) (some (.int r.1), r.2) := by
  unfold M_mendTwo_c42 at h
  refine zGo.sts 7 (cf' := (54, [some (.ref 75), d1, d2, some (.int l3), some (.int l4), some (.int t0), some (.int 0), some (.int 10), some (.int 0), d9], [], σ)) rfl ?_
  exact M_mendTwo_g54 zF h
def M_mendTwo_c30 (l1 : Int32) (l2 : Int32) (l3 : Int32) (t0 : Int32) (σ : zSt) : Option (Int32 × zSt) := if l2 ≤ l1 then (M_mendTwo_c42 l3 t0 l1 σ) else (M_mendTwo_c42 l3 t0 l2 σ)
theorem M_mendTwo_g30 {d4 : Option Value} {d5 : Option Value} {d6 : Option Value} {d7 : Option Value} {d8 : Option Value} {d9 : Option Value} {l1 : Int32} {l2 : Int32} {l3 : Int32} {t0 : Int32} {σ : zSt} {r : Int32 × zSt} (h : M_mendTwo_c30 l1 l2 l3 t0 σ = some r) : zGo zPT zmlc zP_213 (30, [some (.ref 75), some (.int l1), some (.int l2), some (.int l3), d4, d5, d6, d7, d8, d9], [.int t0], σ) (some (.int r.1), r.2) := by
  unfold M_mendTwo_c30 at h
  refine zGo.sts 3 (cf' := (34, [some (.ref 75), some (.int l1), some (.int l2), some (.int l3), some (.int t0), d5, d6, d7, d8, d9], [.int l2, .int l1], σ)) rfl ?_
  by_cases hb6 : l2 ≤ l1
  · replace h := zif_t hb6 h
    refine zC_ge_t rfl hb6 ?_
    refine zGo.sts 1 (cf' := (42, [some (.ref 75), some (.int l1), some (.int l2), some (.int l3), some (.int t0), d5, d6, d7, d8, d9], [.int l1], σ)) rfl ?_
    exact M_mendTwo_g42 h
  · replace h := zif_f hb6 h
    refine zC_ge_f rfl hb6 ?_
    refine zGo.sts 2 (cf' := (42, [some (.ref 75), some (.int l1), some (.int l2), some (.int l3), some (.int t0), d5, d6, d7, d8, d9], [.int l2], σ)) rfl ?_
    exact M_mendTwo_g42 h
def M_mendTwo (l1 : Int32) (l2 : Int32) (l3 : Int32) (σ : zSt) : Option (Int32 × zSt) := (M_areTwo l1 l2 σ).bind fun v1 => if v1 = 0 then (some ((-1), σ)) else ((M_in l3 0 1 σ).bind fun v2 => if ¬ v2 = 0 then (if l2 ≤ l1 then (M_mendTwo_c30 l1 l2 l3 l2 σ) else (M_mendTwo_c30 l1 l2 l3 l1 σ)) else (some ((-1), σ)))
theorem M_mendTwo_g {l1 : Int32} {l2 : Int32} {l3 : Int32} {σ : zSt} {r : Int32 × zSt} (h : M_mendTwo l1 l2 l3 σ = some r) : zGo zPT zmlc (zPT 213) (0, zent (zmlc 213) [.ref 75, .int l1, .int l2, .int l3], [], σ) (some (.int r.1), r.2) := by
  unfold M_mendTwo at h
  show zGo zPT zmlc zP_213 (0, [some (.ref 75), some (.int l1), some (.int l2), some (.int l3), none, none, none, none, none, none], [], σ) _
  refine zGo.sts 3 (cf' := (3, [some (.ref 75), some (.int l1), some (.int l2), some (.int l3), none, none, none, none, none, none], [.int l2, .int l1, .ref 75], σ)) rfl ?_
  obtain ⟨v1, hv, h⟩ := zbd h
  refine zGo.call rfl rfl (M_areTwo_g hv) ?_
  by_cases hb5 : v1 = 0
  · replace h := zif_t hb5 h
    refine zI_eq_t rfl hb5 ?_
    refine zGo.sts 1 (cf' := (19, [some (.ref 75), some (.int l1), some (.int l2), some (.int l3), none, none, none, none, none, none], [.int (-1)], σ)) rfl ?_
    obtain rfl := Option.some.inj h
    exact zGo.ret rfl rfl
  · replace h := zif_f hb5 h
    refine zI_eq_f rfl hb5 ?_
    refine zGo.sts 3 (cf' := (12, [some (.ref 75), some (.int l1), some (.int l2), some (.int l3), none, none, none, none, none, none], [.int 1, .int 0, .int l3], σ)) rfl ?_
    obtain ⟨v2, hv, h⟩ := zbd h
    refine zGo.call rfl rfl (M_in_g hv) ?_
    by_cases hb4 : ¬ v2 = 0
    · replace h := zif_t hb4 h
      refine zI_ne_t rfl hb4 ?_
      refine zGo.sts 2 (cf' := (22, [some (.ref 75), some (.int l1), some (.int l2), some (.int l3), none, none, none, none, none, none], [.int l2, .int l1], σ)) rfl ?_
      by_cases hb3 : l2 ≤ l1
      · replace h := zif_t hb3 h
        refine zC_ge_t rfl hb3 ?_
        refine zGo.sts 1 (cf' := (30, [some (.ref 75), some (.int l1), some (.int l2), some (.int l3), none, none, none, none, none, none], [.int l2], σ)) rfl ?_
        exact M_mendTwo_g30 h
      · replace h := zif_f hb3 h
        refine zC_ge_f rfl hb3 ?_
        refine zGo.sts 2 (cf' := (30, [some (.ref 75), some (.int l1), some (.int l2), some (.int l3), none, none, none, none, none, none], [.int l1], σ)) rfl ?_
        exact M_mendTwo_g30 h
    · replace h := zif_f hb4 h
      refine zI_ne_f rfl hb4 ?_
      refine zGo.sts 1 (cf' := (19, [some (.ref 75), some (.int l1), some (.int l2), some (.int l3), none, none, none, none, none, none], [.int (-1)], σ)) rfl ?_
      obtain rfl := Option.some.inj h
      exact zGo.ret rfl rfl
def M_isRow (l0 : Int32) (σ : zSt) : Option (Int32) := (M_in l0 0 2 σ).bind fun v1 => bif zbo v1 then some v1 else none
theorem M_isRow_g {l0 : Int32} {σ : zSt} {r : Int32} (h : M_isRow l0 σ = some r) : zGo zPT zmlc (zPT 214) (0, zent (zmlc 214) [.int l0], [], σ) (some (.int r), σ) := by
  unfold M_isRow at h
  show zGo zPT zmlc zP_214 (0, [some (.int l0)], [], σ) _
  refine zGo.sts 3 (cf' := (3, [some (.int l0)], [.int 2, .int 0, .int l0], σ)) rfl ?_
  obtain ⟨v1, hv, h⟩ := zbd h
  refine zGo.call rfl rfl (M_in_g hv) ?_
  obtain ⟨hc, h⟩ := zbif h
  obtain rfl := Option.some.inj h
  exact zGo.ret rfl (zrt_b hc)

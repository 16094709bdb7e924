/-! the methods as functions, by program -/
def M_rule (l1 : Int32) (l2 : Int32) (σ : zSt) : Option (Int32 × zSt) := (M_in l1 0 4 σ).bind fun v1 => if v1 = 0 then (some ((-1), σ)) else ((M_in l2 1 4 σ).bind fun v2 => if ¬ v2 = 0 then (zlet ((10 * (σ 75 4)) + (σ 75 5)) fun v3 => (M_changes 3 0 v3 ((10 * l1) + l2) σ).bind fun σ4 => some (v3, σ4)) else (some ((-1), σ)))
theorem M_rule_g {l1 : Int32} {l2 : Int32} {σ : zSt} {r : Int32 × zSt} (h : M_rule l1 l2 σ = some r) : zGo zPT zmlc (zPT 164) (0, zent (zmlc 164) [.ref 75, .int l1, .int l2], [], σ) (some (.int r.1), r.2) := by
  unfold M_rule at h
  show zGo zPT zmlc zP_164 (0, [some (.ref 75), some (.int l1), some (.int l2), none], [], σ) _
  refine zGo.sts 3 (cf' := (3, [some (.ref 75), some (.int l1), some (.int l2), none], [.int 4, .int 0, .int l1], σ)) rfl ?_
  obtain ⟨v1, hv, h⟩ := zbd h
  refine zGo.call rfl rfl (M_in_g hv) ?_
  by_cases hb6 : v1 = 0
  · replace h := zif_t hb6 h
    refine zI_eq_t rfl hb6 ?_
    refine zGo.sts 1 (cf' := (19, [some (.ref 75), some (.int l1), some (.int l2), none], [.int (-1)], σ)) rfl ?_
    obtain rfl := Option.some.inj h
    exact zGo.ret rfl rfl
  · replace h := zif_f hb6 h
    refine zI_eq_f rfl hb6 ?_
    refine zGo.sts 3 (cf' := (12, [some (.ref 75), some (.int l1), some (.int l2), none], [.int 4, .int 1, .int l2], σ)) rfl ?_
    obtain ⟨v2, hv, h⟩ := zbd h
    refine zGo.call rfl rfl (M_in_g hv) ?_
    by_cases hb5 : ¬ v2 = 0
    · replace h := zif_t hb5 h
      refine zI_ne_t rfl hb5 ?_
      refine zGo.sts 8 (cf' := (33, [some (.ref 75), some (.int l1), some (.int l2), some (.int ((10 * (σ 75 4)) + (σ 75 5)))], [], σ)) rfl ?_
      replace h := zlet_of h
      generalize (10 * (σ 75 4)) + (σ 75 5) = v3 at h ⊢
      refine zGo.sts 9 (cf' := (43, [some (.ref 75), some (.int l1), some (.int l2), some (.int v3)], [.int ((10 * l1) + l2), .int v3, .int 0, .int 3, .ref 75], σ)) rfl ?_
      obtain ⟨σ4, hv, h⟩ := zbd h
      refine zGo.call rfl rfl (M_changes_g hv) ?_
      refine zGo.sts 1 (cf' := (47, [some (.ref 75), some (.int l1), some (.int l2), some (.int v3)], [.int v3], σ4)) rfl ?_
      obtain rfl := Option.some.inj h
      exact zGo.ret rfl rfl
    · replace h := zif_f hb5 h
      refine zI_ne_f rfl hb5 ?_
      refine zGo.sts 1 (cf' := (19, [some (.ref 75), some (.int l1), some (.int l2), none], [.int (-1)], σ)) rfl ?_
      obtain rfl := Option.some.inj h
      exact zGo.ret rfl rfl
def M_table_c56 (l1 : Int32) (l2 : Int32) (l3 : Int32) (σ : zSt) : Option (Int32 × zSt) := (zld σ 76 ((9 * l1) + l2)).bind fun v10 => (M_changes 0 ((9 * l1) + l2) v10 l3 σ).bind fun σ11 => some (v10, σ11)
theorem M_table_g56 {d4 : Option Value} {l1 : Int32} {l2 : Int32} {l3 : Int32} {σ : zSt} {r : Int32 × zSt} (h : M_table_c56 l1 l2 l3 σ = some r) : zGo zPT zmlc zP_165 (56, [some (.ref 75), some (.int l1), some (.int l2), some (.int l3), d4], [], σ) (some (.int r.1), r.2) := by
  unfold M_table_c56 at h
  refine zGo.sts 7 (cf' := (66, [some (.ref 75), some (.int l1), some (.int l2), some (.int l3), d4], [.int ((9 * l1) + l2), .ref 76], σ)) rfl ?_
  obtain ⟨v10, hv, h⟩ := zbd h
  refine zG_ld rfl hv ?_
  refine zGo.sts 10 (cf' := (80, [some (.ref 75), some (.int l1), some (.int l2), some (.int l3), some (.int v10)], [.int l3, .int v10, .int ((9 * l1) + l2), .int 0, .ref 75], σ)) rfl ?_
  obtain ⟨σ11, hv, h⟩ := zbd h
  refine zGo.call rfl rfl (M_changes_g hv) ?_
  refine zGo.sts 1 (cf' := (85, [some (.ref 75), some (.int l1), some (.int l2), some (.int l3), some (.int v10)], [.int v10], σ11)) rfl ?_
  obtain rfl := Option.some.inj h
  exact zGo.ret rfl rfl
def M_table_c50 (l1 : Int32) (l2 : Int32) (l3 : Int32) (t0 : Int32) (t1 : Int32) (σ : zSt) : Option (Int32 × zSt) := if t1 = t0 then (M_table_c56 l1 l2 l3 σ) else (some ((-100), σ))
theorem M_table_g50 {d4 : Option Value} {l1 : Int32} {l2 : Int32} {l3 : Int32} {t0 : Int32} {t1 : Int32} {σ : zSt} {r : Int32 × zSt} (h : M_table_c50 l1 l2 l3 t0 t1 σ = some r) : zGo zPT zmlc zP_165 (50, [some (.ref 75), some (.int l1), some (.int l2), some (.int l3), d4], [.int t0, .int t1], σ) (some (.int r.1), r.2) := by
  unfold M_table_c50 at h
  by_cases hb12 : t1 = t0
  · replace h := zif_t hb12 h
    refine zC_eq_t rfl hb12 ?_
    exact M_table_g56 h
  · replace h := zif_f hb12 h
    refine zC_eq_f rfl hb12 ?_
    refine zGo.sts 1 (cf' := (55, [some (.ref 75), some (.int l1), some (.int l2), some (.int l3), d4], [.int (-100)], σ)) rfl ?_
    obtain rfl := Option.some.inj h
    exact zGo.ret rfl rfl
def M_table (l1 : Int32) (l2 : Int32) (l3 : Int32) (σ : zSt) : Option (Int32 × zSt) := (M_isPoint l1 σ).bind fun v1 => if v1 = 0 then (some ((-2147483648), σ)) else ((M_isPoint l2 σ).bind fun v2 => if v2 = 0 then (some ((-2147483648), σ)) else ((M_in l3 (-9) 9 σ).bind fun v3 => if ¬ v3 = 0 then (if l1 = l2 then (M_table_c56 l1 l2 l3 σ) else ((M_isLine l1 l2 σ).bind fun v4 => if l3 = 0 then (M_table_c50 l1 l2 l3 0 v4 σ) else (M_table_c50 l1 l2 l3 1 v4 σ))) else (some ((-2147483648), σ))))
theorem M_table_g {l1 : Int32} {l2 : Int32} {l3 : Int32} {σ : zSt} {r : Int32 × zSt} (h : M_table l1 l2 l3 σ = some r) : zGo zPT zmlc (zPT 165) (0, zent (zmlc 165) [.ref 75, .int l1, .int l2, .int l3], [], σ) (some (.int r.1), r.2) := by
  unfold M_table at h
  show zGo zPT zmlc zP_165 (0, [some (.ref 75), some (.int l1), some (.int l2), some (.int l3), none], [], σ) _
  refine zGo.sts 2 (cf' := (2, [some (.ref 75), some (.int l1), some (.int l2), some (.int l3), none], [.int l1, .ref 75], σ)) rfl ?_
  obtain ⟨v1, hv, h⟩ := zbd h
  refine zGo.call rfl rfl (M_isPoint_g hv) ?_
  by_cases hb9 : v1 = 0
  · replace h := zif_t hb9 h
    refine zI_eq_t rfl hb9 ?_
    refine zGo.sts 1 (cf' := (29, [some (.ref 75), some (.int l1), some (.int l2), some (.int l3), none], [.int (-2147483648)], σ)) rfl ?_
    obtain rfl := Option.some.inj h
    exact zGo.ret rfl rfl
  · replace h := zif_f hb9 h
    refine zI_eq_f rfl hb9 ?_
    refine zGo.sts 2 (cf' := (10, [some (.ref 75), some (.int l1), some (.int l2), some (.int l3), none], [.int l2, .ref 75], σ)) rfl ?_
    obtain ⟨v2, hv, h⟩ := zbd h
    refine zGo.call rfl rfl (M_isPoint_g hv) ?_
    by_cases hb8 : v2 = 0
    · replace h := zif_t hb8 h
      refine zI_eq_t rfl hb8 ?_
      refine zGo.sts 1 (cf' := (29, [some (.ref 75), some (.int l1), some (.int l2), some (.int l3), none], [.int (-2147483648)], σ)) rfl ?_
      obtain rfl := Option.some.inj h
      exact zGo.ret rfl rfl
    · replace h := zif_f hb8 h
      refine zI_eq_f rfl hb8 ?_
      refine zGo.sts 3 (cf' := (21, [some (.ref 75), some (.int l1), some (.int l2), some (.int l3), none], [.int 9, .int (-9), .int l3], σ)) rfl ?_
      obtain ⟨v3, hv, h⟩ := zbd h
      refine zGo.call rfl rfl (M_in_g hv) ?_
      by_cases hb7 : ¬ v3 = 0
      · replace h := zif_t hb7 h
        refine zI_ne_t rfl hb7 ?_
        refine zGo.sts 2 (cf' := (32, [some (.ref 75), some (.int l1), some (.int l2), some (.int l3), none], [.int l2, .int l1], σ)) rfl ?_
        by_cases hb6 : l1 = l2
        · replace h := zif_t hb6 h
          refine zC_eq_t rfl hb6 ?_
          exact M_table_g56 h
        · replace h := zif_f hb6 h
          refine zC_eq_f rfl hb6 ?_
          refine zGo.sts 3 (cf' := (38, [some (.ref 75), some (.int l1), some (.int l2), some (.int l3), none], [.int l2, .int l1, .ref 75], σ)) rfl ?_
          obtain ⟨v4, hv, h⟩ := zbd h
          refine zGo.call rfl rfl (M_isLine_g hv) ?_
          refine zGo.sts 1 (cf' := (42, [some (.ref 75), some (.int l1), some (.int l2), some (.int l3), none], [.int l3, .int v4], σ)) rfl ?_
          by_cases hb5 : l3 = 0
          · replace h := zif_t hb5 h
            refine zI_eq_t rfl hb5 ?_
            refine zGo.sts 1 (cf' := (50, [some (.ref 75), some (.int l1), some (.int l2), some (.int l3), none], [.int 0, .int v4], σ)) rfl ?_
            exact M_table_g50 h
          · replace h := zif_f hb5 h
            refine zI_eq_f rfl hb5 ?_
            refine zGo.sts 2 (cf' := (50, [some (.ref 75), some (.int l1), some (.int l2), some (.int l3), none], [.int 1, .int v4], σ)) rfl ?_
            exact M_table_g50 h
      · replace h := zif_f hb7 h
        refine zI_ne_f rfl hb7 ?_
        refine zGo.sts 1 (cf' := (29, [some (.ref 75), some (.int l1), some (.int l2), some (.int l3), none], [.int (-2147483648)], σ)) rfl ?_
        obtain rfl := Option.some.inj h
        exact zGo.ret rfl rfl
def M_entry (l1 : Int32) (l2 : Int32) (σ : zSt) : Option (Int32) := (M_isPoint l1 σ).bind fun v1 => if v1 = 0 then (some (-2147483648)) else ((M_isPoint l2 σ).bind fun v2 => if v2 = 0 then (some (-2147483648)) else ((zld σ 76 ((9 * l1) + l2)).bind fun v3 => some v3))
theorem M_entry_g {l1 : Int32} {l2 : Int32} {σ : zSt} {r : Int32} (h : M_entry l1 l2 σ = some r) : zGo zPT zmlc (zPT 166) (0, zent (zmlc 166) [.ref 75, .int l1, .int l2], [], σ) (some (.int r), σ) := by
  unfold M_entry at h
  show zGo zPT zmlc zP_166 (0, [some (.ref 75), some (.int l1), some (.int l2)], [], σ) _
  refine zGo.sts 2 (cf' := (2, [some (.ref 75), some (.int l1), some (.int l2)], [.int l1, .ref 75], σ)) rfl ?_
  obtain ⟨v1, hv, h⟩ := zbd h
  refine zGo.call rfl rfl (M_isPoint_g hv) ?_
  by_cases hb5 : v1 = 0
  · replace h := zif_t hb5 h
    refine zI_eq_t rfl hb5 ?_
    refine zGo.sts 1 (cf' := (32, [some (.ref 75), some (.int l1), some (.int l2)], [.int (-2147483648)], σ)) rfl ?_
    obtain rfl := Option.some.inj h
    exact zGo.ret rfl rfl
  · replace h := zif_f hb5 h
    refine zI_eq_f rfl hb5 ?_
    refine zGo.sts 2 (cf' := (10, [some (.ref 75), some (.int l1), some (.int l2)], [.int l2, .ref 75], σ)) rfl ?_
    obtain ⟨v2, hv, h⟩ := zbd h
    refine zGo.call rfl rfl (M_isPoint_g hv) ?_
    by_cases hb4 : v2 = 0
    · replace h := zif_t hb4 h
      refine zI_eq_t rfl hb4 ?_
      refine zGo.sts 1 (cf' := (32, [some (.ref 75), some (.int l1), some (.int l2)], [.int (-2147483648)], σ)) rfl ?_
      obtain rfl := Option.some.inj h
      exact zGo.ret rfl rfl
    · replace h := zif_f hb4 h
      refine zI_eq_f rfl hb4 ?_
      refine zGo.sts 7 (cf' := (26, [some (.ref 75), some (.int l1), some (.int l2)], [.int ((9 * l1) + l2), .ref 76], σ)) rfl ?_
      obtain ⟨v3, hv, h⟩ := zbd h
      refine zG_ld rfl hv ?_
      refine zGo.sts 1 (cf' := (32, [some (.ref 75), some (.int l1), some (.int l2)], [.int v3], σ)) rfl ?_
      obtain rfl := Option.some.inj h
      exact zGo.ret rfl rfl
def M_prime_c44 (l1 : Int32) (σ : zSt) : Option (Int32 × zSt) := (M_changes 4 0 (σ 75 6) l1 σ).bind fun σ8 => some (σ 75 6, σ8)
theorem M_prime_g44 {d2 : Option Value} {l1 : Int32} {σ : zSt} {r : Int32 × zSt} (h : M_prime_c44 l1 σ = some r) : zGo zPT zmlc zP_167 (44, [some (.ref 75), some (.int l1), d2], [], σ) (some (.int r.1), r.2) := by
  unfold M_prime_c44 at h
  refine zGo.sts 8 (cf' := (54, [some (.ref 75), some (.int l1), some (.int (σ 75 6))], [.int l1, .int (σ 75 6), .int 0, .int 4, .ref 75], σ)) rfl ?_
  obtain ⟨σ8, hv, h⟩ := zbd h
  refine zGo.call rfl rfl (M_changes_g hv) ?_
  refine zGo.sts 1 (cf' := (58, [some (.ref 75), some (.int l1), some (.int (σ 75 6))], [.int (σ 75 6)], σ8)) rfl ?_
  obtain rfl := Option.some.inj h
  exact zGo.ret rfl rfl
def M_prime (l1 : Int32) (σ : zSt) : Option (Int32 × zSt) := if l1 = 11 then (M_prime_c44 l1 σ) else (if l1 = 13 then (M_prime_c44 l1 σ) else (if l1 = 17 then (M_prime_c44 l1 σ) else (if l1 = 19 then (M_prime_c44 l1 σ) else (if l1 = 23 then (M_prime_c44 l1 σ) else (if l1 = 29 then (M_prime_c44 l1 σ) else (if l1 = 31 then (M_prime_c44 l1 σ) else (some ((-1), σ))))))))
theorem M_prime_g {l1 : Int32} {σ : zSt} {r : Int32 × zSt} (h : M_prime l1 σ = some r) : zGo zPT zmlc (zPT 167) (0, zent (zmlc 167) [.ref 75, .int l1], [], σ) (some (.int r.1), r.2) := by
  unfold M_prime at h
  show zGo zPT zmlc zP_167 (0, [some (.ref 75), some (.int l1), none], [], σ) _
  refine zGo.sts 2 (cf' := (3, [some (.ref 75), some (.int l1), none], [.int 11, .int l1], σ)) rfl ?_
  by_cases hb7 : l1 = 11
  · replace h := zif_t hb7 h
    refine zC_eq_t rfl hb7 ?_
    exact M_prime_g44 h
  · replace h := zif_f hb7 h
    refine zC_eq_f rfl hb7 ?_
    refine zGo.sts 2 (cf' := (9, [some (.ref 75), some (.int l1), none], [.int 13, .int l1], σ)) rfl ?_
    by_cases hb6 : l1 = 13
    · replace h := zif_t hb6 h
      refine zC_eq_t rfl hb6 ?_
      exact M_prime_g44 h
    · replace h := zif_f hb6 h
      refine zC_eq_f rfl hb6 ?_
      refine zGo.sts 2 (cf' := (15, [some (.ref 75), some (.int l1), none], [.int 17, .int l1], σ)) rfl ?_
      by_cases hb5 : l1 = 17
      · replace h := zif_t hb5 h
        refine zC_eq_t rfl hb5 ?_
        exact M_prime_g44 h
      · replace h := zif_f hb5 h
        refine zC_eq_f rfl hb5 ?_
        refine zGo.sts 2 (cf' := (21, [some (.ref 75), some (.int l1), none], [.int 19, .int l1], σ)) rfl ?_
        by_cases hb4 : l1 = 19
        · replace h := zif_t hb4 h
          refine zC_eq_t rfl hb4 ?_
          exact M_prime_g44 h
        · replace h := zif_f hb4 h
          refine zC_eq_f rfl hb4 ?_
          refine zGo.sts 2 (cf' := (27, [some (.ref 75), some (.int l1), none], [.int 23, .int l1], σ)) rfl ?_
          by_cases hb3 : l1 = 23
          · replace h := zif_t hb3 h
            refine zC_eq_t rfl hb3 ?_
            exact M_prime_g44 h
          · replace h := zif_f hb3 h
            refine zC_eq_f rfl hb3 ?_
            refine zGo.sts 2 (cf' := (33, [some (.ref 75), some (.int l1), none], [.int 29, .int l1], σ)) rfl ?_
            by_cases hb2 : l1 = 29
            · replace h := zif_t hb2 h
              refine zC_eq_t rfl hb2 ?_
              exact M_prime_g44 h
            · replace h := zif_f hb2 h
              refine zC_eq_f rfl hb2 ?_
              refine zGo.sts 2 (cf' := (39, [some (.ref 75), some (.int l1), none], [.int 31, .int l1], σ)) rfl ?_
              by_cases hb1 : l1 = 31
              · replace h := zif_t hb1 h
                refine zC_eq_t rfl hb1 ?_
                exact M_prime_g44 h
              · replace h := zif_f hb1 h
                refine zC_eq_f rfl hb1 ?_
                refine zGo.sts 1 (cf' := (43, [some (.ref 75), some (.int l1), none], [.int (-1)], σ)) rfl ?_
                obtain rfl := Option.some.inj h
                exact zGo.ret rfl rfl
def M_neighbours_c4 (σ : zSt) : Nat → Int32 → Int32 → Int32 → Option (Int32)
  | 0, _, _, _ => none
  | n + 1, l1, l2, l3 => if (σ 75 3) ≤ l3 then (some l2) else ((M_isLine l1 l3 σ).bind fun v1 => if v1 = 0 then (M_neighbours_c4 σ n l1 (l2 ||| 0) (l3 + 1)) else (zlet (l2 ||| (1 <<< (l3 &&& 31))) fun v2 => M_neighbours_c4 σ n l1 v2 (l3 + 1)))
theorem M_neighbours_g4 {σ : zSt} : ∀ (n : Nat) {l1 : Int32} {l2 : Int32} {l3 : Int32} {r : Int32}, M_neighbours_c4 σ n l1 l2 l3 = some r → zGo zPT zmlc zP_168 (4, [some (.ref 75), some (.int l1), some (.int l2), some (.int l3)], [], σ) (some (.int r), σ) := by
  intro n
  induction n with
  | zero => intro l1 l2 l3 r h; cases h
  | succ n ih =>
    intro l1 l2 l3 r h
    rw [M_neighbours_c4] at h
    refine zGo.sts 3 (cf' := (9, [some (.ref 75), some (.int l1), some (.int l2), some (.int l3)], [.int (σ 75 3), .int l3], σ)) rfl ?_
    by_cases hb4 : (σ 75 3) ≤ l3
    · replace h := zif_t hb4 h
      refine zC_ge_t rfl hb4 ?_
      refine zGo.sts 1 (cf' := (38, [some (.ref 75), some (.int l1), some (.int l2), some (.int l3)], [.int l2], σ)) rfl ?_
      obtain rfl := Option.some.inj h
      exact zGo.ret rfl rfl
    · replace h := zif_f hb4 h
      refine zC_ge_f rfl hb4 ?_
      refine zGo.sts 4 (cf' := (16, [some (.ref 75), some (.int l1), some (.int l2), some (.int l3)], [.int l3, .int l1, .ref 75, .int l2], σ)) rfl ?_
      obtain ⟨v1, hv, h⟩ := zbd h
      refine zGo.call rfl rfl (M_isLine_g hv) ?_
      by_cases hb3 : v1 = 0
      · replace h := zif_t hb3 h
        refine zI_eq_t rfl hb3 ?_
        refine zGo.sts 5 (cf' := (4, [some (.ref 75), some (.int l1), some (.int (l2 ||| 0)), some (.int (l3 + 1))], [], σ)) rfl ?_
        exact ih h
      · replace h := zif_f hb3 h
        refine zI_eq_f rfl hb3 ?_
        refine zGo.sts 6 (cf' := (31, [some (.ref 75), some (.int l1), some (.int (l2 ||| (1 <<< (l3 &&& 31)))), some (.int l3)], [], σ)) rfl ?_
        replace h := zlet_of h
        generalize l2 ||| (1 <<< (l3 &&& 31)) = v2 at h ⊢
        refine zGo.sts 2 (cf' := (4, [some (.ref 75), some (.int l1), some (.int v2), some (.int (l3 + 1))], [], σ)) rfl ?_
        exact ih h
def M_neighbours (l1 : Int32) (σ : zSt) : Option (Int32) := M_neighbours_c4 σ zF l1 0 0
theorem M_neighbours_g {l1 : Int32} {σ : zSt} {r : Int32} (h : M_neighbours l1 σ = some r) : zGo zPT zmlc (zPT 168) (0, zent (zmlc 168) [.ref 75, .int l1], [], σ) (some (.int r), σ) := by
  unfold M_neighbours at h
  show zGo zPT zmlc zP_168 (0, [some (.ref 75), some (.int l1), none, none], [], σ) _
  refine zGo.sts 4 (cf' := (4, [some (.ref 75), some (.int l1), some (.int 0), some (.int 0)], [], σ)) rfl ?_
  exact M_neighbours_g4 zF h
def M_counts (l1 : Int32) (σ : zSt) : Option (Int32) := (zld σ 78 l1).bind fun v1 => (zld σ 77 l1).bind fun v2 => if v2 = 2 then (some ((2 * (v1 + 1)) - 1)) else (if v2 = 3 then ((zdvq ((v1 + 1) + 1) 2).bind fun v5 => some v5) else (if v2 = 4 then (some ((2 * (v1 + 1)) + 2)) else (some (v1 + 1))))
theorem M_counts_g {l1 : Int32} {σ : zSt} {r : Int32} (h : M_counts l1 σ = some r) : zGo zPT zmlc (zPT 169) (0, zent (zmlc 169) [.ref 75, .int l1], [], σ) (some (.int r), σ) := by
  unfold M_counts at h
  show zGo zPT zmlc zP_169 (0, [some (.ref 75), some (.int l1), none], [], σ) _
  refine zGo.sts 3 (cf' := (5, [some (.ref 75), some (.int l1), none], [.int l1, .ref 78], σ)) rfl ?_
  obtain ⟨v1, hv, h⟩ := zbd h
  refine zG_ld rfl hv ?_
  refine zGo.sts 6 (cf' := (14, [some (.ref 75), some (.int l1), some (.int (v1 + 1))], [.int l1, .ref 77], σ)) rfl ?_
  obtain ⟨v2, hv, h⟩ := zbd h
  refine zG_ld rfl hv ?_
  by_cases hb3 : v2 = 2
  · replace h := zif_t hb3 h
    refine zG_sw rfl (zsw_t hb3) ?_
    refine zGo.sts 5 (cf' := (45, [some (.ref 75), some (.int l1), some (.int (v1 + 1))], [.int ((2 * (v1 + 1)) - 1)], σ)) rfl ?_
    obtain rfl := Option.some.inj h
    exact zGo.ret rfl rfl
  · replace h := zif_f hb3 h
    by_cases hb4 : v2 = 3
    · replace h := zif_t hb4 h
      refine zG_sw rfl ((zsw_f hb3).trans (zsw_t hb4)) ?_
      refine zGo.sts 4 (cf' := (50, [some (.ref 75), some (.int l1), some (.int (v1 + 1))], [.int 2, .int ((v1 + 1) + 1)], σ)) rfl ?_
      obtain ⟨v5, hv, h⟩ := zbd h
      refine zG_div rfl hv ?_
      obtain rfl := Option.some.inj h
      exact zGo.ret rfl rfl
    · replace h := zif_f hb4 h
      by_cases hb6 : v2 = 4
      · replace h := zif_t hb6 h
        refine zG_sw rfl ((zsw_f hb3).trans ((zsw_f hb4).trans (zsw_t hb6))) ?_
        refine zGo.sts 5 (cf' := (57, [some (.ref 75), some (.int l1), some (.int (v1 + 1))], [.int ((2 * (v1 + 1)) + 2)], σ)) rfl ?_
        obtain rfl := Option.some.inj h
        exact zGo.ret rfl rfl
      · replace h := zif_f hb6 h
        refine zG_sw rfl ((zsw_f hb3).trans ((zsw_f hb4).trans ((zsw_f hb6).trans rfl))) ?_
        refine zGo.sts 1 (cf' := (59, [some (.ref 75), some (.int l1), some (.int (v1 + 1))], [.int (v1 + 1)], σ)) rfl ?_
        obtain rfl := Option.some.inj h
        exact zGo.ret rfl rfl
def M_of (l1 : Int32) (l2 : Int32) (σ : zSt) : Option (Int32) := (M_isPoint l1 σ).bind fun v1 => if v1 = 0 then (some (-1)) else ((M_in l2 0 4 σ).bind fun v2 => if ¬ v2 = 0 then (if l2 = 0 then ((zld σ 77 l1).bind fun v4 => some v4) else (if l2 = 1 then ((zld σ 78 l1).bind fun v6 => some v6) else (if l2 = 2 then ((M_counts l1 σ).bind fun v8 => some v8) else (if l2 = 3 then ((M_neighbours l1 σ).bind fun v10 => (M_bits v10 σ).bind fun v11 => some v11) else ((M_neighbours l1 σ).bind fun v12 => some v12))))) else (some (-1)))
theorem M_of_g {l1 : Int32} {l2 : Int32} {σ : zSt} {r : Int32} (h : M_of l1 l2 σ = some r) : zGo zPT zmlc (zPT 170) (0, zent (zmlc 170) [.ref 75, .int l1, .int l2], [], σ) (some (.int r), σ) := by
  unfold M_of at h
  show zGo zPT zmlc zP_170 (0, [some (.ref 75), some (.int l1), some (.int l2)], [], σ) _
  refine zGo.sts 2 (cf' := (2, [some (.ref 75), some (.int l1), some (.int l2)], [.int l1, .ref 75], σ)) rfl ?_
  obtain ⟨v1, hv, h⟩ := zbd h
  refine zGo.call rfl rfl (M_isPoint_g hv) ?_
  by_cases hb14 : v1 = 0
  · replace h := zif_t hb14 h
    refine zI_eq_t rfl hb14 ?_
    refine zGo.sts 1 (cf' := (18, [some (.ref 75), some (.int l1), some (.int l2)], [.int (-1)], σ)) rfl ?_
    obtain rfl := Option.some.inj h
    exact zGo.ret rfl rfl
  · replace h := zif_f hb14 h
    refine zI_eq_f rfl hb14 ?_
    refine zGo.sts 3 (cf' := (11, [some (.ref 75), some (.int l1), some (.int l2)], [.int 4, .int 0, .int l2], σ)) rfl ?_
    obtain ⟨v2, hv, h⟩ := zbd h
    refine zGo.call rfl rfl (M_in_g hv) ?_
    by_cases hb13 : ¬ v2 = 0
    · replace h := zif_t hb13 h
      refine zI_ne_t rfl hb13 ?_
      refine zGo.sts 1 (cf' := (20, [some (.ref 75), some (.int l1), some (.int l2)], [.int l2], σ)) rfl ?_
      by_cases hb3 : l2 = 0
      · replace h := zif_t hb3 h
        refine zG_sw rfl (zsw_t hb3) ?_
        refine zGo.sts 3 (cf' := (57, [some (.ref 75), some (.int l1), some (.int l2)], [.int l1, .ref 77], σ)) rfl ?_
        obtain ⟨v4, hv, h⟩ := zbd h
        refine zG_ld rfl hv ?_
        obtain rfl := Option.some.inj h
        exact zGo.ret rfl rfl
      · replace h := zif_f hb3 h
        by_cases hb5 : l2 = 1
        · replace h := zif_t hb5 h
          refine zG_sw rfl ((zsw_f hb3).trans (zsw_t hb5)) ?_
          refine zGo.sts 3 (cf' := (64, [some (.ref 75), some (.int l1), some (.int l2)], [.int l1, .ref 78], σ)) rfl ?_
          obtain ⟨v6, hv, h⟩ := zbd h
          refine zG_ld rfl hv ?_
          obtain rfl := Option.some.inj h
          exact zGo.ret rfl rfl
        · replace h := zif_f hb5 h
          by_cases hb7 : l2 = 2
          · replace h := zif_t hb7 h
            refine zG_sw rfl ((zsw_f hb3).trans ((zsw_f hb5).trans (zsw_t hb7))) ?_
            refine zGo.sts 2 (cf' := (68, [some (.ref 75), some (.int l1), some (.int l2)], [.int l1, .ref 75], σ)) rfl ?_
            obtain ⟨v8, hv, h⟩ := zbd h
            refine zGo.call rfl rfl (M_counts_g hv) ?_
            obtain rfl := Option.some.inj h
            exact zGo.ret rfl rfl
          · replace h := zif_f hb7 h
            by_cases hb9 : l2 = 3
            · replace h := zif_t hb9 h
              refine zG_sw rfl ((zsw_f hb3).trans ((zsw_f hb5).trans ((zsw_f hb7).trans (zsw_t hb9)))) ?_
              refine zGo.sts 2 (cf' := (74, [some (.ref 75), some (.int l1), some (.int l2)], [.int l1, .ref 75], σ)) rfl ?_
              obtain ⟨v10, hv, h⟩ := zbd h
              refine zGo.call rfl rfl (M_neighbours_g hv) ?_
              obtain ⟨v11, hv, h⟩ := zbd h
              refine zGo.call rfl rfl (M_bits_g hv) ?_
              obtain rfl := Option.some.inj h
              exact zGo.ret rfl rfl
            · replace h := zif_f hb9 h
              refine zG_sw rfl ((zsw_f hb3).trans ((zsw_f hb5).trans ((zsw_f hb7).trans ((zsw_f hb9).trans rfl)))) ?_
              refine zGo.sts 2 (cf' := (83, [some (.ref 75), some (.int l1), some (.int l2)], [.int l1, .ref 75], σ)) rfl ?_
              obtain ⟨v12, hv, h⟩ := zbd h
              refine zGo.call rfl rfl (M_neighbours_g hv) ?_
              obtain rfl := Option.some.inj h
              exact zGo.ret rfl rfl
    · replace h := zif_f hb13 h
      refine zI_ne_f rfl hb13 ?_
      refine zGo.sts 1 (cf' := (18, [some (.ref 75), some (.int l1), some (.int l2)], [.int (-1)], σ)) rfl ?_
      obtain rfl := Option.some.inj h
      exact zGo.ret rfl rfl
def M_takes_c38 (c10 : Int32 → zSt → Option (zSt)) (l1 : Int32) (t0 : Int32) (t1 : Int32) (σ : zSt) : Option (zSt) := (zst σ 83 t1 t0).bind fun σ6 => c10 (l1 + 1) σ6
theorem M_takes_g38 {c10 : Int32 → zSt → Option (zSt)} (hc10 : ∀ {l1 : Int32} {σ : zSt} {r : zSt}, c10 l1 σ = some r → zGo zPT zmlc zP_171 (10, [some (.ref 75), some (.int l1)], [], σ) (none, r)) {l1 : Int32} {t0 : Int32} {t1 : Int32} {σ : zSt} {r : zSt} (h : M_takes_c38 c10 l1 t0 t1 σ = some r) : zGo zPT zmlc zP_171 (38, [some (.ref 75), some (.int l1)], [.int t0, .int t1, .ref 83], σ) (none, r) := by
  unfold M_takes_c38 at h
  obtain ⟨σ6, hv, h⟩ := zbd h
  refine zG_st rfl hv ?_
  refine zGo.sts 2 (cf' := (10, [some (.ref 75), some (.int (l1 + 1))], [], σ6)) rfl ?_
  exact hc10 h
def M_takes_c10 : Nat → Int32 → zSt → Option (zSt)
  | 0, _, _ => none
  | n + 1, l1, σ => if 9 ≤ l1 then (some σ) else (if (σ 75 3) ≤ l1 then (M_takes_c38 (M_takes_c10 n) l1 0 l1 σ) else ((M_neighbours l1 σ).bind fun v3 => M_takes_c38 (M_takes_c10 n) l1 v3 l1 σ))
theorem M_takes_g10 : ∀ (n : Nat) {l1 : Int32} {σ : zSt} {r : zSt}, M_takes_c10 n l1 σ = some r → zGo zPT zmlc zP_171 (10, [some (.ref 75), some (.int l1)], [], σ) (none, r) := by
  intro n
  induction n with
  | zero => intro l1 σ r h; cases h
  | succ n ih =>
    intro l1 σ r h
    rw [M_takes_c10] at h
    refine zGo.sts 2 (cf' := (13, [some (.ref 75), some (.int l1)], [.int 9, .int l1], σ)) rfl ?_
    by_cases hb5 : 9 ≤ l1
    · replace h := zif_t hb5 h
      refine zC_ge_t rfl hb5 ?_
      obtain rfl := Option.some.inj h
      exact zGo.ret rfl rfl
    · replace h := zif_f hb5 h
      refine zC_ge_f rfl hb5 ?_
      refine zGo.sts 6 (cf' := (26, [some (.ref 75), some (.int l1)], [.int (σ 75 3), .int l1, .int l1, .ref 83], σ)) rfl ?_
      by_cases hb4 : (σ 75 3) ≤ l1
      · replace h := zif_t hb4 h
        refine zC_ge_t rfl hb4 ?_
        refine zGo.sts 1 (cf' := (38, [some (.ref 75), some (.int l1)], [.int 0, .int l1, .ref 83], σ)) rfl ?_
        exact M_takes_g38 ih h
      · replace h := zif_f hb4 h
        refine zC_ge_f rfl hb4 ?_
        refine zGo.sts 2 (cf' := (31, [some (.ref 75), some (.int l1)], [.int l1, .ref 75, .int l1, .ref 83], σ)) rfl ?_
        obtain ⟨v3, hv, h⟩ := zbd h
        refine zGo.call rfl rfl (M_neighbours_g hv) ?_
        refine zGo.sts 1 (cf' := (38, [some (.ref 75), some (.int l1)], [.int v3, .int l1, .ref 83], σ)) rfl ?_
        exact M_takes_g38 ih h
def M_takes (σ : zSt) : Option (zSt) := (M_whole σ).bind fun v1 => zlet (su σ 75 14 v1) fun σ2 => M_takes_c10 zF 0 σ2
theorem M_takes_g {σ : zSt} {r : zSt} (h : M_takes σ = some r) : zGo zPT zmlc (zPT 171) (0, zent (zmlc 171) [.ref 75], [], σ) (none, r) := by
  unfold M_takes at h
  show zGo zPT zmlc zP_171 (0, [some (.ref 75), none], [], σ) _
  refine zGo.sts 2 (cf' := (2, [some (.ref 75), none], [.ref 75, .ref 75], σ)) rfl ?_
  obtain ⟨v1, hv, h⟩ := zbd h
  refine zGo.call rfl rfl (M_whole_g hv) ?_
  refine zGo.sts 1 (cf' := (8, [some (.ref 75), none], [], (su σ 75 14 v1))) rfl ?_
  replace h := zlet_of h
  generalize su σ 75 14 v1 = σ2 at h ⊢
  refine zGo.sts 2 (cf' := (10, [some (.ref 75), some (.int 0)], [], σ2)) rfl ?_
  exact M_takes_g10 zF h
def M_drops_c48 (c16 : Int32 → Int32 → zSt → Option (zSt)) (l1 : Int32) (l2 : Int32) (t0 : Int32) (t1 : Int32) (σ : zSt) : Option (zSt) := (zst σ 83 t1 t0).bind fun σ5 => c16 l1 (l2 + 1) σ5
theorem M_drops_g48 {c16 : Int32 → Int32 → zSt → Option (zSt)} (hc16 : ∀ {l1 : Int32} {l2 : Int32} {σ : zSt} {r : zSt}, c16 l1 l2 σ = some r → zGo zPT zmlc zP_172 (16, [some (.ref 75), some (.int l1), some (.int l2)], [], σ) (none, r)) {l1 : Int32} {l2 : Int32} {t0 : Int32} {t1 : Int32} {σ : zSt} {r : zSt} (h : M_drops_c48 c16 l1 l2 t0 t1 σ = some r) : zGo zPT zmlc zP_172 (48, [some (.ref 75), some (.int l1), some (.int l2)], [.int t0, .int t1, .ref 83], σ) (none, r) := by
  unfold M_drops_c48 at h
  obtain ⟨σ5, hv, h⟩ := zbd h
  refine zG_st rfl hv ?_
  refine zGo.sts 2 (cf' := (16, [some (.ref 75), some (.int l1), some (.int (l2 + 1))], [], σ5)) rfl ?_
  exact hc16 h
def M_drops_c16 : Nat → Int32 → Int32 → zSt → Option (zSt)
  | 0, _, _, _ => none
  | n + 1, l1, l2, σ => if 9 ≤ l2 then (some σ) else (if ¬ l2 = l1 then ((zld σ 83 l2).bind fun v2 => M_drops_c48 (M_drops_c16 n) l1 l2 (v2 &&& ((1 <<< (l1 &&& 31)) ^^^ (-1))) l2 σ) else (M_drops_c48 (M_drops_c16 n) l1 l2 0 l2 σ))
theorem M_drops_g16 : ∀ (n : Nat) {l1 : Int32} {l2 : Int32} {σ : zSt} {r : zSt}, M_drops_c16 n l1 l2 σ = some r → zGo zPT zmlc zP_172 (16, [some (.ref 75), some (.int l1), some (.int l2)], [], σ) (none, r) := by
  intro n
  induction n with
  | zero => intro l1 l2 σ r h; cases h
  | succ n ih =>
    intro l1 l2 σ r h
    rw [M_drops_c16] at h
    refine zGo.sts 2 (cf' := (19, [some (.ref 75), some (.int l1), some (.int l2)], [.int 9, .int l2], σ)) rfl ?_
    by_cases hb4 : 9 ≤ l2
    · replace h := zif_t hb4 h
      refine zC_ge_t rfl hb4 ?_
      obtain rfl := Option.some.inj h
      exact zGo.ret rfl rfl
    · replace h := zif_f hb4 h
      refine zC_ge_f rfl hb4 ?_
      refine zGo.sts 5 (cf' := (29, [some (.ref 75), some (.int l1), some (.int l2)], [.int l1, .int l2, .int l2, .ref 83], σ)) rfl ?_
      by_cases hb3 : ¬ l2 = l1
      · replace h := zif_t hb3 h
        refine zC_ne_t rfl hb3 ?_
        refine zGo.sts 3 (cf' := (41, [some (.ref 75), some (.int l1), some (.int l2)], [.int l2, .ref 83, .int l2, .ref 83], σ)) rfl ?_
        obtain ⟨v2, hv, h⟩ := zbd h
        refine zG_ld rfl hv ?_
        refine zGo.sts 6 (cf' := (48, [some (.ref 75), some (.int l1), some (.int l2)], [.int (v2 &&& ((1 <<< (l1 &&& 31)) ^^^ (-1))), .int l2, .ref 83], σ)) rfl ?_
        exact M_drops_g48 ih h
      · replace h := zif_f hb3 h
        refine zC_ne_f rfl hb3 ?_
        refine zGo.sts 2 (cf' := (48, [some (.ref 75), some (.int l1), some (.int l2)], [.int 0, .int l2, .ref 83], σ)) rfl ?_
        exact M_drops_g48 ih h
def M_drops (l1 : Int32) (σ : zSt) : Option (zSt) := zlet (su σ 75 14 ((σ 75 14) &&& ((1 <<< (l1 &&& 31)) ^^^ (-1)))) fun σ1 => M_drops_c16 zF l1 0 σ1
theorem M_drops_g {l1 : Int32} {σ : zSt} {r : zSt} (h : M_drops l1 σ = some r) : zGo zPT zmlc (zPT 172) (0, zent (zmlc 172) [.ref 75, .int l1], [], σ) (none, r) := by
  unfold M_drops at h
  show zGo zPT zmlc zP_172 (0, [some (.ref 75), some (.int l1), none], [], σ) _
  refine zGo.sts 10 (cf' := (14, [some (.ref 75), some (.int l1), none], [], (su σ 75 14 ((σ 75 14) &&& ((1 <<< (l1 &&& 31)) ^^^ (-1)))))) rfl ?_
  replace h := zlet_of h
  generalize su σ 75 14 ((σ 75 14) &&& ((1 <<< (l1 &&& 31)) ^^^ (-1))) = σ1 at h ⊢
  refine zGo.sts 2 (cf' := (16, [some (.ref 75), some (.int l1), some (.int 0)], [], σ1)) rfl ?_
  exact M_drops_g16 zF h
def M_turns (l1 : Int32) (l2 : Int32) (σ : zSt) : Option (zSt) := (zld σ 83 l1).bind fun v1 => (zst σ 83 l1 (v1 ^^^ (1 <<< (l2 &&& 31)))).bind fun σ2 => (zld σ2 83 l2).bind fun v3 => (zst σ2 83 l2 (v3 ^^^ (1 <<< (l1 &&& 31)))).bind fun σ4 => some σ4
theorem M_turns_g {l1 : Int32} {l2 : Int32} {σ : zSt} {r : zSt} (h : M_turns l1 l2 σ = some r) : zGo zPT zmlc (zPT 173) (0, zent (zmlc 173) [.ref 75, .int l1, .int l2], [], σ) (none, r) := by
  unfold M_turns at h
  show zGo zPT zmlc zP_173 (0, [some (.ref 75), some (.int l1), some (.int l2)], [], σ) _
  refine zGo.sts 4 (cf' := (6, [some (.ref 75), some (.int l1), some (.int l2)], [.int l1, .ref 83, .int l1, .ref 83], σ)) rfl ?_
  obtain ⟨v1, hv, h⟩ := zbd h
  refine zG_ld rfl hv ?_
  refine zGo.sts 4 (cf' := (11, [some (.ref 75), some (.int l1), some (.int l2)], [.int (v1 ^^^ (1 <<< (l2 &&& 31))), .int l1, .ref 83], σ)) rfl ?_
  obtain ⟨σ2, hv, h⟩ := zbd h
  refine zG_st rfl hv ?_
  refine zGo.sts 4 (cf' := (18, [some (.ref 75), some (.int l1), some (.int l2)], [.int l2, .ref 83, .int l2, .ref 83], σ2)) rfl ?_
  obtain ⟨v3, hv, h⟩ := zbd h
  refine zG_ld rfl hv ?_
  refine zGo.sts 4 (cf' := (23, [some (.ref 75), some (.int l1), some (.int l2)], [.int (v3 ^^^ (1 <<< (l1 &&& 31))), .int l2, .ref 83], σ2)) rfl ?_
  obtain ⟨σ4, hv, h⟩ := zbd h
  refine zG_st rfl hv ?_
  obtain rfl := Option.some.inj h
  exact zGo.ret rfl rfl
def M_partOf_c19 (σ : zSt) (c7 : Int32 → Int32 → Int32 → Option (Int32)) : Nat → Int32 → Int32 → Int32 → Int32 → Option (Int32)
  | 0, _, _, _, _ => none
  | n + 1, l2, l3, l4, l5 => if 9 ≤ l5 then (c7 l2 l3 l4) else ((M_has l4 l5 σ).bind fun v2 => if v2 = 0 then (M_partOf_c19 σ c7 n l2 (l3 ||| 0) l4 (l5 + 1)) else ((zld σ 83 l5).bind fun v3 => M_partOf_c19 σ c7 n l2 (l3 ||| (v3 &&& l2)) l4 (l5 + 1)))
theorem M_partOf_g19 {σ : zSt} {c7 : Int32 → Int32 → Int32 → Option (Int32)} (hc7 : ∀ {d1 : Option Value} {d5 : Option Value} {l2 : Int32} {l3 : Int32} {l4 : Int32} {r : Int32}, c7 l2 l3 l4 = some r → zGo zPT zmlc zP_174 (7, [some (.ref 75), d1, some (.int l2), some (.int l3), some (.int l4), d5], [], σ) (some (.int r), σ)) : ∀ (n : Nat) {d1 : Option Value} {l2 : Int32} {l3 : Int32} {l4 : Int32} {l5 : Int32} {r : Int32}, M_partOf_c19 σ c7 n l2 l3 l4 l5 = some r → zGo zPT zmlc zP_174 (19, [some (.ref 75), d1, some (.int l2), some (.int l3), some (.int l4), some (.int l5)], [], σ) (some (.int r), σ) := by
  intro n
  induction n with
  | zero => intro d1 l2 l3 l4 l5 r h; cases h
  | succ n ih =>
    intro d1 l2 l3 l4 l5 r h
    rw [M_partOf_c19] at h
    refine zGo.sts 2 (cf' := (23, [some (.ref 75), d1, some (.int l2), some (.int l3), some (.int l4), some (.int l5)], [.int 9, .int l5], σ)) rfl ?_
    by_cases hb5 : 9 ≤ l5
    · replace h := zif_t hb5 h
      refine zC_ge_t rfl hb5 ?_
      refine zGo.sts 1 (cf' := (7, [some (.ref 75), d1, some (.int l2), some (.int l3), some (.int l4), some (.int l5)], [], σ)) rfl ?_
      exact hc7 h
    · replace h := zif_f hb5 h
      refine zC_ge_f rfl hb5 ?_
      refine zGo.sts 3 (cf' := (31, [some (.ref 75), d1, some (.int l2), some (.int l3), some (.int l4), some (.int l5)], [.int l5, .int l4, .int l3], σ)) rfl ?_
      obtain ⟨v2, hv, h⟩ := zbd h
      refine zGo.call rfl rfl (M_has_g hv) ?_
      by_cases hb4 : v2 = 0
      · replace h := zif_t hb4 h
        refine zI_eq_t rfl hb4 ?_
        refine zGo.sts 5 (cf' := (19, [some (.ref 75), d1, some (.int l2), some (.int (l3 ||| 0)), some (.int l4), some (.int (l5 + 1))], [], σ)) rfl ?_
        exact ih h
      · replace h := zif_f hb4 h
        refine zI_eq_f rfl hb4 ?_
        refine zGo.sts 3 (cf' := (43, [some (.ref 75), d1, some (.int l2), some (.int l3), some (.int l4), some (.int l5)], [.int l5, .ref 83, .int l3], σ)) rfl ?_
        obtain ⟨v3, hv, h⟩ := zbd h
        refine zG_ld rfl hv ?_
        refine zGo.sts 7 (cf' := (19, [some (.ref 75), d1, some (.int l2), some (.int (l3 ||| (v3 &&& l2))), some (.int l4), some (.int (l5 + 1))], [], σ)) rfl ?_
        exact ih h
def M_partOf_c7 (σ : zSt) : Nat → Int32 → Int32 → Int32 → Option (Int32)
  | 0, _, _, _ => none
  | n + 1, l2, l3, l4 => if l3 = l4 then (some l3) else (M_partOf_c19 σ (M_partOf_c7 σ n) zF l2 l3 l3 0)
theorem M_partOf_g7 {σ : zSt} : ∀ (n : Nat) {d1 : Option Value} {d5 : Option Value} {l2 : Int32} {l3 : Int32} {l4 : Int32} {r : Int32}, M_partOf_c7 σ n l2 l3 l4 = some r → zGo zPT zmlc zP_174 (7, [some (.ref 75), d1, some (.int l2), some (.int l3), some (.int l4), d5], [], σ) (some (.int r), σ) := by
  intro n
  induction n with
  | zero => intro d1 d5 l2 l3 l4 r h; cases h
  | succ n ih =>
    intro d1 d5 l2 l3 l4 r h
    rw [M_partOf_c7] at h
    refine zGo.sts 2 (cf' := (10, [some (.ref 75), d1, some (.int l2), some (.int l3), some (.int l4), d5], [.int l4, .int l3], σ)) rfl ?_
    by_cases hb1 : l3 = l4
    · replace h := zif_t hb1 h
      refine zC_eq_t rfl hb1 ?_
      refine zGo.sts 1 (cf' := (62, [some (.ref 75), d1, some (.int l2), some (.int l3), some (.int l4), d5], [.int l3], σ)) rfl ?_
      obtain rfl := Option.some.inj h
      exact zGo.ret rfl rfl
    · replace h := zif_f hb1 h
      refine zC_eq_f rfl hb1 ?_
      refine zGo.sts 4 (cf' := (19, [some (.ref 75), d1, some (.int l2), some (.int l3), some (.int l3), some (.int 0)], [], σ)) rfl ?_
      exact M_partOf_g19 ih zF h
def M_partOf (l1 : Int32) (l2 : Int32) (σ : zSt) : Option (Int32) := M_partOf_c7 σ zF l2 (1 <<< (l1 &&& 31)) 0
theorem M_partOf_g {l1 : Int32} {l2 : Int32} {σ : zSt} {r : Int32} (h : M_partOf l1 l2 σ = some r) : zGo zPT zmlc (zPT 174) (0, zent (zmlc 174) [.ref 75, .int l1, .int l2], [], σ) (some (.int r), σ) := by
  unfold M_partOf at h
  show zGo zPT zmlc zP_174 (0, [some (.ref 75), some (.int l1), some (.int l2), none, none, none], [], σ) _
  refine zGo.sts 6 (cf' := (7, [some (.ref 75), some (.int l1), some (.int l2), some (.int (1 <<< (l1 &&& 31))), some (.int 0), none], [], σ)) rfl ?_
  exact M_partOf_g7 zF h
def M_partly_c8 (σ : zSt) : Nat → Int32 → Int32 → Int32 → Int32 → Int32 → Option (Int32)
  | 0, _, _, _, _, _ => none
  | n + 1, l1, l2, l3, l4, l5 => if 9 ≤ l5 then (some l3) else ((M_has l4 l5 σ).bind fun v1 => if ¬ v1 = 0 then ((M_partOf l5 l2 σ).bind fun v2 => (zld σ 83 l1).bind fun v3 => (M_bits (v3 &&& v2) σ).bind fun v4 => if ¬ v4 = 1 then (M_partly_c8 σ n l1 l2 (l3 ||| 0) (l4 &&& (v2 ^^^ (-1))) (l5 + 1)) else ((zld σ 83 l1).bind fun v5 => M_partly_c8 σ n l1 l2 (l3 ||| (v5 &&& v2)) (l4 &&& (v2 ^^^ (-1))) (l5 + 1))) else (M_partly_c8 σ n l1 l2 l3 l4 (l5 + 1)))
theorem M_partly_g8 {σ : zSt} : ∀ (n : Nat) {d6 : Option Value} {l1 : Int32} {l2 : Int32} {l3 : Int32} {l4 : Int32} {l5 : Int32} {r : Int32}, M_partly_c8 σ n l1 l2 l3 l4 l5 = some r → zGo zPT zmlc zP_175 (8, [some (.ref 75), some (.int l1), some (.int l2), some (.int l3), some (.int l4), some (.int l5), d6], [], σ) (some (.int r), σ) := by
  intro n
  induction n with
  | zero => intro d6 l1 l2 l3 l4 l5 r h; cases h
  | succ n ih =>
    intro d6 l1 l2 l3 l4 l5 r h
    rw [M_partly_c8] at h
    refine zGo.sts 2 (cf' := (12, [some (.ref 75), some (.int l1), some (.int l2), some (.int l3), some (.int l4), some (.int l5), d6], [.int 9, .int l5], σ)) rfl ?_
    by_cases hb8 : 9 ≤ l5
    · replace h := zif_t hb8 h
      refine zC_ge_t rfl hb8 ?_
      refine zGo.sts 1 (cf' := (85, [some (.ref 75), some (.int l1), some (.int l2), some (.int l3), some (.int l4), some (.int l5), d6], [.int l3], σ)) rfl ?_
      obtain rfl := Option.some.inj h
      exact zGo.ret rfl rfl
    · replace h := zif_f hb8 h
      refine zC_ge_f rfl hb8 ?_
      refine zGo.sts 2 (cf' := (19, [some (.ref 75), some (.int l1), some (.int l2), some (.int l3), some (.int l4), some (.int l5), d6], [.int l5, .int l4], σ)) rfl ?_
      obtain ⟨v1, hv, h⟩ := zbd h
      refine zGo.call rfl rfl (M_has_g hv) ?_
      by_cases hb7 : ¬ v1 = 0
      · replace h := zif_t hb7 h
        refine zI_ne_t rfl hb7 ?_
        refine zGo.sts 3 (cf' := (32, [some (.ref 75), some (.int l1), some (.int l2), some (.int l3), some (.int l4), some (.int l5), d6], [.int l2, .int l5, .ref 75], σ)) rfl ?_
        obtain ⟨v2, hv, h⟩ := zbd h
        refine zGo.call rfl rfl (M_partOf_g hv) ?_
        refine zGo.sts 11 (cf' := (52, [some (.ref 75), some (.int l1), some (.int l2), some (.int l3), some (.int (l4 &&& (v2 ^^^ (-1)))), some (.int l5), some (.int v2)], [.int l1, .ref 83, .int l3], σ)) rfl ?_
        obtain ⟨v3, hv, h⟩ := zbd h
        refine zG_ld rfl hv ?_
        refine zGo.sts 2 (cf' := (56, [some (.ref 75), some (.int l1), some (.int l2), some (.int l3), some (.int (l4 &&& (v2 ^^^ (-1)))), some (.int l5), some (.int v2)], [.int (v3 &&& v2), .int l3], σ)) rfl ?_
        obtain ⟨v4, hv, h⟩ := zbd h
        refine zGo.call rfl rfl (M_bits_g hv) ?_
        refine zGo.sts 1 (cf' := (60, [some (.ref 75), some (.int l1), some (.int l2), some (.int l3), some (.int (l4 &&& (v2 ^^^ (-1)))), some (.int l5), some (.int v2)], [.int 1, .int v4, .int l3], σ)) rfl ?_
        by_cases hb6 : ¬ v4 = 1
        · replace h := zif_t hb6 h
          refine zC_ne_t rfl hb6 ?_
          refine zGo.sts 5 (cf' := (8, [some (.ref 75), some (.int l1), some (.int l2), some (.int (l3 ||| 0)), some (.int (l4 &&& (v2 ^^^ (-1)))), some (.int (l5 + 1)), some (.int v2)], [], σ)) rfl ?_
          exact ih h
        · replace h := zif_f hb6 h
          refine zC_ne_f rfl hb6 ?_
          refine zGo.sts 3 (cf' := (68, [some (.ref 75), some (.int l1), some (.int l2), some (.int l3), some (.int (l4 &&& (v2 ^^^ (-1)))), some (.int l5), some (.int v2)], [.int l1, .ref 83, .int l3], σ)) rfl ?_
          obtain ⟨v5, hv, h⟩ := zbd h
          refine zG_ld rfl hv ?_
          refine zGo.sts 7 (cf' := (8, [some (.ref 75), some (.int l1), some (.int l2), some (.int (l3 ||| (v5 &&& v2))), some (.int (l4 &&& (v2 ^^^ (-1)))), some (.int (l5 + 1)), some (.int v2)], [], σ)) rfl ?_
          exact ih h
      · replace h := zif_f hb7 h
        refine zI_ne_f rfl hb7 ?_
        refine zGo.sts 3 (cf' := (8, [some (.ref 75), some (.int l1), some (.int l2), some (.int l3), some (.int l4), some (.int (l5 + 1)), d6], [], σ)) rfl ?_
        exact ih h
def M_partly (l1 : Int32) (l2 : Int32) (σ : zSt) : Option (Int32) := M_partly_c8 σ zF l1 l2 0 l2 0
theorem M_partly_g {l1 : Int32} {l2 : Int32} {σ : zSt} {r : Int32} (h : M_partly l1 l2 σ = some r) : zGo zPT zmlc (zPT 175) (0, zent (zmlc 175) [.ref 75, .int l1, .int l2], [], σ) (some (.int r), σ) := by
  unfold M_partly at h
  show zGo zPT zmlc zP_175 (0, [some (.ref 75), some (.int l1), some (.int l2), none, none, none, none], [], σ) _
  refine zGo.sts 6 (cf' := (8, [some (.ref 75), some (.int l1), some (.int l2), some (.int 0), some (.int l2), some (.int 0), none], [], σ)) rfl ?_
  exact M_partly_g8 zF h
def M_forces_c93 (σ : zSt) (l6 : Int32) (t0 : Int32) (t1 : Int32) : Option (Int32) := if t0 < t1 then (some 0) else (some l6)
theorem M_forces_g93 {σ : zSt} {d0 : Option Value} {d1 : Option Value} {d2 : Option Value} {d3 : Option Value} {d4 : Option Value} {d5 : Option Value} {d7 : Option Value} {l6 : Int32} {t0 : Int32} {t1 : Int32} {r : Int32} (h : M_forces_c93 σ l6 t0 t1 = some r) : zGo zPT zmlc zP_176 (93, [d0, d1, d2, d3, d4, d5, some (.int l6), d7], [.int t0, .int t1], σ) (some (.int r), σ) := by
  unfold M_forces_c93 at h
  by_cases hb13 : t0 < t1
  · replace h := zif_t hb13 h
    refine zC_gt_t rfl hb13 ?_
    refine zGo.sts 1 (cf' := (102, [d0, d1, d2, d3, d4, d5, some (.int l6), d7], [.int 0], σ)) rfl ?_
    obtain rfl := Option.some.inj h
    exact zGo.ret rfl rfl
  · replace h := zif_f hb13 h
    refine zC_gt_f rfl hb13 ?_
    refine zGo.sts 2 (cf' := (102, [d0, d1, d2, d3, d4, d5, some (.int l6), d7], [.int l6], σ)) rfl ?_
    obtain rfl := Option.some.inj h
    exact zGo.ret rfl rfl
def M_forces (l1 : Int32) (l2 : Int32) (l3 : Int32) (l4 : Int32) (σ : zSt) : Option (Int32) := zlet ((σ 75 14) &&& (l2 ^^^ (-1))) fun v1 => (zld σ 83 l1).bind fun v2 => (M_has l2 l1 σ).bind fun v3 => if ¬ l3 = 1 then (if ¬ v3 = 0 then (if ¬ l3 = 3 then (if ¬ l3 = 2 then ((M_bits (v2 &&& v1) σ).bind fun v4 => if ¬ l3 = 4 then (M_forces_c93 σ (v2 &&& v1) 1 v4) else (M_forces_c93 σ (v2 &&& v1) l4 v4)) else ((M_partly l1 v1 σ).bind fun v6 => some v6)) else (some (v2 &&& v1))) else (some 0)) else ((M_bits (v2 &&& v1) σ).bind fun v10 => if ¬ v10 = 1 then (some 0) else (some (v2 &&& v1)))
theorem M_forces_g {l1 : Int32} {l2 : Int32} {l3 : Int32} {l4 : Int32} {σ : zSt} {r : Int32} (h : M_forces l1 l2 l3 l4 σ = some r) : zGo zPT zmlc (zPT 176) (0, zent (zmlc 176) [.ref 75, .int l1, .int l2, .int l3, .int l4], [], σ) (some (.int r), σ) := by
  unfold M_forces at h
  show zGo zPT zmlc zP_176 (0, [some (.ref 75), some (.int l1), some (.int l2), some (.int l3), some (.int l4), none, none, none], [], σ) _
  refine zGo.sts 7 (cf' := (10, [some (.ref 75), some (.int l1), some (.int l2), some (.int l3), some (.int l4), some (.int ((σ 75 14) &&& (l2 ^^^ (-1)))), none, none], [], σ)) rfl ?_
  replace h := zlet_of h
  generalize (σ 75 14) &&& (l2 ^^^ (-1)) = v1 at h ⊢
  refine zGo.sts 3 (cf' := (15, [some (.ref 75), some (.int l1), some (.int l2), some (.int l3), some (.int l4), some (.int v1), none, none], [.int l1, .ref 83], σ)) rfl ?_
  obtain ⟨v2, hv, h⟩ := zbd h
  refine zG_ld rfl hv ?_
  refine zGo.sts 5 (cf' := (23, [some (.ref 75), some (.int l1), some (.int l2), some (.int l3), some (.int l4), some (.int v1), some (.int (v2 &&& v1)), none], [.int l1, .int l2], σ)) rfl ?_
  obtain ⟨v3, hv, h⟩ := zbd h
  refine zGo.call rfl rfl (M_has_g hv) ?_
  refine zGo.sts 3 (cf' := (30, [some (.ref 75), some (.int l1), some (.int l2), some (.int l3), some (.int l4), some (.int v1), some (.int (v2 &&& v1)), some (.int v3)], [.int 1, .int l3], σ)) rfl ?_
  by_cases hb12 : ¬ l3 = 1
  · replace h := zif_t hb12 h
    refine zC_ne_t rfl hb12 ?_
    refine zGo.sts 1 (cf' := (51, [some (.ref 75), some (.int l1), some (.int l2), some (.int l3), some (.int l4), some (.int v1), some (.int (v2 &&& v1)), some (.int v3)], [.int v3], σ)) rfl ?_
    by_cases hb9 : ¬ v3 = 0
    · replace h := zif_t hb9 h
      refine zI_ne_t rfl hb9 ?_
      refine zGo.sts 2 (cf' := (58, [some (.ref 75), some (.int l1), some (.int l2), some (.int l3), some (.int l4), some (.int v1), some (.int (v2 &&& v1)), some (.int v3)], [.int 3, .int l3], σ)) rfl ?_
      by_cases hb8 : ¬ l3 = 3
      · replace h := zif_t hb8 h
        refine zC_ne_t rfl hb8 ?_
        refine zGo.sts 2 (cf' := (66, [some (.ref 75), some (.int l1), some (.int l2), some (.int l3), some (.int l4), some (.int v1), some (.int (v2 &&& v1)), some (.int v3)], [.int 2, .int l3], σ)) rfl ?_
        by_cases hb7 : ¬ l3 = 2
        · replace h := zif_t hb7 h
          refine zC_ne_t rfl hb7 ?_
          refine zGo.sts 1 (cf' := (79, [some (.ref 75), some (.int l1), some (.int l2), some (.int l3), some (.int l4), some (.int v1), some (.int (v2 &&& v1)), some (.int v3)], [.int (v2 &&& v1)], σ)) rfl ?_
          obtain ⟨v4, hv, h⟩ := zbd h
          refine zGo.call rfl rfl (M_bits_g hv) ?_
          refine zGo.sts 2 (cf' := (84, [some (.ref 75), some (.int l1), some (.int l2), some (.int l3), some (.int l4), some (.int v1), some (.int (v2 &&& v1)), some (.int v3)], [.int 4, .int l3, .int v4], σ)) rfl ?_
          by_cases hb5 : ¬ l3 = 4
          · replace h := zif_t hb5 h
            refine zC_ne_t rfl hb5 ?_
            refine zGo.sts 1 (cf' := (93, [some (.ref 75), some (.int l1), some (.int l2), some (.int l3), some (.int l4), some (.int v1), some (.int (v2 &&& v1)), some (.int v3)], [.int 1, .int v4], σ)) rfl ?_
            exact M_forces_g93 h
          · replace h := zif_f hb5 h
            refine zC_ne_f rfl hb5 ?_
            refine zGo.sts 2 (cf' := (93, [some (.ref 75), some (.int l1), some (.int l2), some (.int l3), some (.int l4), some (.int v1), some (.int (v2 &&& v1)), some (.int v3)], [.int l4, .int v4], σ)) rfl ?_
            exact M_forces_g93 h
        · replace h := zif_f hb7 h
          refine zC_ne_f rfl hb7 ?_
          refine zGo.sts 3 (cf' := (73, [some (.ref 75), some (.int l1), some (.int l2), some (.int l3), some (.int l4), some (.int v1), some (.int (v2 &&& v1)), some (.int v3)], [.int v1, .int l1, .ref 75], σ)) rfl ?_
          obtain ⟨v6, hv, h⟩ := zbd h
          refine zGo.call rfl rfl (M_partly_g hv) ?_
          obtain rfl := Option.some.inj h
          exact zGo.ret rfl rfl
      · replace h := zif_f hb8 h
        refine zC_ne_f rfl hb8 ?_
        refine zGo.sts 1 (cf' := (63, [some (.ref 75), some (.int l1), some (.int l2), some (.int l3), some (.int l4), some (.int v1), some (.int (v2 &&& v1)), some (.int v3)], [.int (v2 &&& v1)], σ)) rfl ?_
        obtain rfl := Option.some.inj h
        exact zGo.ret rfl rfl
    · replace h := zif_f hb9 h
      refine zI_ne_f rfl hb9 ?_
      refine zGo.sts 1 (cf' := (55, [some (.ref 75), some (.int l1), some (.int l2), some (.int l3), some (.int l4), some (.int v1), some (.int (v2 &&& v1)), some (.int v3)], [.int 0], σ)) rfl ?_
      obtain rfl := Option.some.inj h
      exact zGo.ret rfl rfl
  · replace h := zif_f hb12 h
    refine zC_ne_f rfl hb12 ?_
    refine zGo.sts 1 (cf' := (35, [some (.ref 75), some (.int l1), some (.int l2), some (.int l3), some (.int l4), some (.int v1), some (.int (v2 &&& v1)), some (.int v3)], [.int (v2 &&& v1)], σ)) rfl ?_
    obtain ⟨v10, hv, h⟩ := zbd h
    refine zGo.call rfl rfl (M_bits_g hv) ?_
    refine zGo.sts 1 (cf' := (39, [some (.ref 75), some (.int l1), some (.int l2), some (.int l3), some (.int l4), some (.int v1), some (.int (v2 &&& v1)), some (.int v3)], [.int 1, .int v10], σ)) rfl ?_
    by_cases hb11 : ¬ v10 = 1
    · replace h := zif_t hb11 h
      refine zC_ne_t rfl hb11 ?_
      refine zGo.sts 1 (cf' := (48, [some (.ref 75), some (.int l1), some (.int l2), some (.int l3), some (.int l4), some (.int v1), some (.int (v2 &&& v1)), some (.int v3)], [.int 0], σ)) rfl ?_
      obtain rfl := Option.some.inj h
      exact zGo.ret rfl rfl
    · replace h := zif_f hb11 h
      refine zC_ne_f rfl hb11 ?_
      refine zGo.sts 2 (cf' := (48, [some (.ref 75), some (.int l1), some (.int l2), some (.int l3), some (.int l4), some (.int v1), some (.int (v2 &&& v1)), some (.int v3)], [.int (v2 &&& v1)], σ)) rfl ?_
      obtain rfl := Option.some.inj h
      exact zGo.ret rfl rfl
def M_goes_c6 (σ : zSt) : Nat → Int32 → Int32 → Int32 → Int32 → Int32 → Option (Int32)
  | 0, _, _, _, _, _ => none
  | n + 1, l1, l2, l3, l4, l5 => if 9 ≤ l5 then (some l4) else ((M_has (σ 75 14) l5 σ).bind fun v1 => if v1 = 0 then (M_goes_c6 σ n l1 l2 l3 (l4 ||| 0) (l5 + 1)) else ((M_forces l5 l1 l2 l3 σ).bind fun v2 => M_goes_c6 σ n l1 l2 l3 (l4 ||| v2) (l5 + 1)))
theorem M_goes_g6 {σ : zSt} : ∀ (n : Nat) {l1 : Int32} {l2 : Int32} {l3 : Int32} {l4 : Int32} {l5 : Int32} {r : Int32}, M_goes_c6 σ n l1 l2 l3 l4 l5 = some r → zGo zPT zmlc zP_177 (6, [some (.ref 75), some (.int l1), some (.int l2), some (.int l3), some (.int l4), some (.int l5)], [], σ) (some (.int r), σ) := by
  intro n
  induction n with
  | zero => intro l1 l2 l3 l4 l5 r h; cases h
  | succ n ih =>
    intro l1 l2 l3 l4 l5 r h
    rw [M_goes_c6] at h
    refine zGo.sts 2 (cf' := (10, [some (.ref 75), some (.int l1), some (.int l2), some (.int l3), some (.int l4), some (.int l5)], [.int 9, .int l5], σ)) rfl ?_
    by_cases hb4 : 9 ≤ l5
    · replace h := zif_t hb4 h
      refine zC_ge_t rfl hb4 ?_
      refine zGo.sts 1 (cf' := (51, [some (.ref 75), some (.int l1), some (.int l2), some (.int l3), some (.int l4), some (.int l5)], [.int l4], σ)) rfl ?_
      obtain rfl := Option.some.inj h
      exact zGo.ret rfl rfl
    · replace h := zif_f hb4 h
      refine zC_ge_f rfl hb4 ?_
      refine zGo.sts 4 (cf' := (21, [some (.ref 75), some (.int l1), some (.int l2), some (.int l3), some (.int l4), some (.int l5)], [.int l5, .int (σ 75 14), .int l4], σ)) rfl ?_
      obtain ⟨v1, hv, h⟩ := zbd h
      refine zGo.call rfl rfl (M_has_g hv) ?_
      by_cases hb3 : v1 = 0
      · replace h := zif_t hb3 h
        refine zI_eq_t rfl hb3 ?_
        refine zGo.sts 5 (cf' := (6, [some (.ref 75), some (.int l1), some (.int l2), some (.int l3), some (.int (l4 ||| 0)), some (.int (l5 + 1))], [], σ)) rfl ?_
        exact ih h
      · replace h := zif_f hb3 h
        refine zI_eq_f rfl hb3 ?_
        refine zGo.sts 5 (cf' := (33, [some (.ref 75), some (.int l1), some (.int l2), some (.int l3), some (.int l4), some (.int l5)], [.int l3, .int l2, .int l1, .int l5, .ref 75, .int l4], σ)) rfl ?_
        obtain ⟨v2, hv, h⟩ := zbd h
        refine zGo.call rfl rfl (M_forces_g hv) ?_
        refine zGo.sts 5 (cf' := (6, [some (.ref 75), some (.int l1), some (.int l2), some (.int l3), some (.int (l4 ||| v2)), some (.int (l5 + 1))], [], σ)) rfl ?_
        exact ih h
def M_goes (l1 : Int32) (l2 : Int32) (l3 : Int32) (σ : zSt) : Option (Int32) := M_goes_c6 σ zF l1 l2 l3 l1 0
theorem M_goes_g {l1 : Int32} {l2 : Int32} {l3 : Int32} {σ : zSt} {r : Int32} (h : M_goes l1 l2 l3 σ = some r) : zGo zPT zmlc (zPT 177) (0, zent (zmlc 177) [.ref 75, .int l1, .int l2, .int l3], [], σ) (some (.int r), σ) := by
  unfold M_goes at h
  show zGo zPT zmlc zP_177 (0, [some (.ref 75), some (.int l1), some (.int l2), some (.int l3), none, none], [], σ) _
  refine zGo.sts 4 (cf' := (6, [some (.ref 75), some (.int l1), some (.int l2), some (.int l3), some (.int l1), some (.int 0)], [], σ)) rfl ?_
  exact M_goes_g6 zF h
def M_round_c17 (σ : zSt) (l3 : Int32) (t0 : Int32) (t1 : Int32) : Option (Int32) := (M_goes t1 t0 l3 σ).bind fun v3 => some v3
theorem M_round_g17 {σ : zSt} {d0 : Option Value} {d1 : Option Value} {d2 : Option Value} {d4 : Option Value} {l3 : Int32} {t0 : Int32} {t1 : Int32} {r : Int32} (h : M_round_c17 σ l3 t0 t1 = some r) : zGo zPT zmlc zP_178 (17, [d0, d1, d2, some (.int l3), d4], [.int t0, .int t1, .ref 75], σ) (some (.int r), σ) := by
  unfold M_round_c17 at h
  refine zGo.sts 1 (cf' := (18, [d0, d1, d2, some (.int l3), d4], [.int l3, .int t0, .int t1, .ref 75], σ)) rfl ?_
  obtain ⟨v3, hv, h⟩ := zbd h
  refine zGo.call rfl rfl (M_goes_g hv) ?_
  obtain rfl := Option.some.inj h
  exact zGo.ret rfl rfl
def M_round_c16 (σ : zSt) (l2 : Int32) (l3 : Int32) (t0 : Int32) : Option (Int32) := M_round_c17 σ l3 l2 t0
theorem M_round_g16 {σ : zSt} {d0 : Option Value} {d1 : Option Value} {d4 : Option Value} {l2 : Int32} {l3 : Int32} {t0 : Int32} {r : Int32} (h : M_round_c16 σ l2 l3 t0 = some r) : zGo zPT zmlc zP_178 (16, [d0, d1, some (.int l2), some (.int l3), d4], [.int t0, .ref 75], σ) (some (.int r), σ) := by
  unfold M_round_c16 at h
  refine zGo.sts 1 (cf' := (17, [d0, d1, some (.int l2), some (.int l3), d4], [.int l2, .int t0, .ref 75], σ)) rfl ?_
  exact M_round_g17 h
def M_round (l1 : Int32) (l2 : Int32) (l3 : Int32) (l4 : Int32) (σ : zSt) : Option (Int32) := if ¬ l2 = 3 then (M_round_c16 σ l2 l3 l1) else (if l4 ≤ 0 then (M_round_c16 σ l2 l3 l1) else (M_round_c17 σ l3 0 l1))
theorem M_round_g {l1 : Int32} {l2 : Int32} {l3 : Int32} {l4 : Int32} {σ : zSt} {r : Int32} (h : M_round l1 l2 l3 l4 σ = some r) : zGo zPT zmlc (zPT 178) (0, zent (zmlc 178) [.ref 75, .int l1, .int l2, .int l3, .int l4], [], σ) (some (.int r), σ) := by
  unfold M_round at h
  show zGo zPT zmlc zP_178 (0, [some (.ref 75), some (.int l1), some (.int l2), some (.int l3), some (.int l4)], [], σ) _
  refine zGo.sts 4 (cf' := (4, [some (.ref 75), some (.int l1), some (.int l2), some (.int l3), some (.int l4)], [.int 3, .int l2, .int l1, .ref 75], σ)) rfl ?_
  by_cases hb2 : ¬ l2 = 3
  · replace h := zif_t hb2 h
    refine zC_ne_t rfl hb2 ?_
    exact M_round_g16 h
  · replace h := zif_f hb2 h
    refine zC_ne_f rfl hb2 ?_
    refine zGo.sts 1 (cf' := (9, [some (.ref 75), some (.int l1), some (.int l2), some (.int l3), some (.int l4)], [.int l4, .int l1, .ref 75], σ)) rfl ?_
    by_cases hb1 : l4 ≤ 0
    · replace h := zif_t hb1 h
      refine zI_le_t rfl hb1 ?_
      exact M_round_g16 h
    · replace h := zif_f hb1 h
      refine zI_le_f rfl hb1 ?_
      refine zGo.sts 2 (cf' := (17, [some (.ref 75), some (.int l1), some (.int l2), some (.int l3), some (.int l4)], [.int 0, .int l1, .ref 75], σ)) rfl ?_
      exact M_round_g17 h
def M_closes_c80 (c24 : Int32 → Int32 → Int32 → zSt → Option (Int32 × zSt)) (l2 : Int32) (l3 : Int32) (l4 : Int32) (t0 : Int32) (σ : zSt) : Option (Int32 × zSt) := zlet (su σ 75 15 t0) fun σ8 => c24 l2 l3 (l4 + 1) σ8
theorem M_closes_g80 {c24 : Int32 → Int32 → Int32 → zSt → Option (Int32 × zSt)} (hc24 : ∀ {d1 : Option Value} {l2 : Int32} {l3 : Int32} {l4 : Int32} {σ : zSt} {r : Int32 × zSt}, c24 l2 l3 l4 σ = some r → zGo zPT zmlc zP_179 (24, [some (.ref 75), d1, some (.int l2), some (.int l3), some (.int l4)], [], σ) (some (.int r.1), r.2)) {d1 : Option Value} {l2 : Int32} {l3 : Int32} {l4 : Int32} {t0 : Int32} {σ : zSt} {r : Int32 × zSt} (h : M_closes_c80 c24 l2 l3 l4 t0 σ = some r) : zGo zPT zmlc zP_179 (80, [some (.ref 75), d1, some (.int l2), some (.int l3), some (.int l4)], [.int t0, .ref 75], σ) (some (.int r.1), r.2) := by
  unfold M_closes_c80 at h
  refine zGo.sts 1 (cf' := (83, [some (.ref 75), d1, some (.int l2), some (.int l3), some (.int l4)], [], (su σ 75 15 t0))) rfl ?_
  replace h := zlet_of h
  generalize su σ 75 15 t0 = σ8 at h ⊢
  refine zGo.sts 2 (cf' := (24, [some (.ref 75), d1, some (.int l2), some (.int l3), some (.int (l4 + 1))], [], σ8)) rfl ?_
  exact hc24 h
def M_closes_c76 (c24 : Int32 → Int32 → Int32 → zSt → Option (Int32 × zSt)) (l2 : Int32) (l3 : Int32) (l4 : Int32) (σ : zSt) : Option (Int32 × zSt) := M_closes_c80 c24 l2 l3 l4 (σ 75 15) σ
theorem M_closes_g76 {c24 : Int32 → Int32 → Int32 → zSt → Option (Int32 × zSt)} (hc24 : ∀ {d1 : Option Value} {l2 : Int32} {l3 : Int32} {l4 : Int32} {σ : zSt} {r : Int32 × zSt}, c24 l2 l3 l4 σ = some r → zGo zPT zmlc zP_179 (24, [some (.ref 75), d1, some (.int l2), some (.int l3), some (.int l4)], [], σ) (some (.int r.1), r.2)) {d1 : Option Value} {l2 : Int32} {l3 : Int32} {l4 : Int32} {σ : zSt} {r : Int32 × zSt} (h : M_closes_c76 c24 l2 l3 l4 σ = some r) : zGo zPT zmlc zP_179 (76, [some (.ref 75), d1, some (.int l2), some (.int l3), some (.int l4)], [.ref 75], σ) (some (.int r.1), r.2) := by
  unfold M_closes_c76 at h
  refine zGo.sts 2 (cf' := (80, [some (.ref 75), d1, some (.int l2), some (.int l3), some (.int l4)], [.int (σ 75 15), .ref 75], σ)) rfl ?_
  exact M_closes_g80 hc24 h
def M_closes_c35 (c24 : Int32 → Int32 → Int32 → zSt → Option (Int32 × zSt)) (l2 : Int32) (l4 : Int32) (σ : zSt) : Option (Int32 × zSt) := (M_round l2 (σ 75 4) (σ 75 5) l4 σ).bind fun v5 => if 0 ≤ (σ 75 15) then (M_closes_c76 c24 v5 l2 l4 σ) else (if ¬ v5 = (σ 75 14) then (M_closes_c76 c24 v5 l2 l4 σ) else (M_closes_c80 c24 v5 l2 l4 (l4 + 1) σ))
theorem M_closes_g35 {c24 : Int32 → Int32 → Int32 → zSt → Option (Int32 × zSt)} (hc24 : ∀ {d1 : Option Value} {l2 : Int32} {l3 : Int32} {l4 : Int32} {σ : zSt} {r : Int32 × zSt}, c24 l2 l3 l4 σ = some r → zGo zPT zmlc zP_179 (24, [some (.ref 75), d1, some (.int l2), some (.int l3), some (.int l4)], [], σ) (some (.int r.1), r.2)) {d1 : Option Value} {d3 : Option Value} {l2 : Int32} {l4 : Int32} {σ : zSt} {r : Int32 × zSt} (h : M_closes_c35 c24 l2 l4 σ = some r) : zGo zPT zmlc zP_179 (35, [some (.ref 75), d1, some (.int l2), d3, some (.int l4)], [], σ) (some (.int r.1), r.2) := by
  unfold M_closes_c35 at h
  refine zGo.sts 9 (cf' := (49, [some (.ref 75), d1, some (.int l2), some (.int l2), some (.int l4)], [.int l4, .int (σ 75 5), .int (σ 75 4), .int l2, .ref 75], σ)) rfl ?_
  obtain ⟨v5, hv, h⟩ := zbd h
  refine zGo.call rfl rfl (M_round_g hv) ?_
  refine zGo.sts 4 (cf' := (58, [some (.ref 75), d1, some (.int v5), some (.int l2), some (.int l4)], [.int (σ 75 15), .ref 75], σ)) rfl ?_
  by_cases hb7 : 0 ≤ (σ 75 15)
  · replace h := zif_t hb7 h
    refine zI_ge_t rfl hb7 ?_
    exact M_closes_g76 hc24 h
  · replace h := zif_f hb7 h
    refine zI_ge_f rfl hb7 ?_
    refine zGo.sts 3 (cf' := (66, [some (.ref 75), d1, some (.int v5), some (.int l2), some (.int l4)], [.int (σ 75 14), .int v5, .ref 75], σ)) rfl ?_
    by_cases hb6 : ¬ v5 = (σ 75 14)
    · replace h := zif_t hb6 h
      refine zC_ne_t rfl hb6 ?_
      exact M_closes_g76 hc24 h
    · replace h := zif_f hb6 h
      refine zC_ne_f rfl hb6 ?_
      refine zGo.sts 4 (cf' := (80, [some (.ref 75), d1, some (.int v5), some (.int l2), some (.int l4)], [.int (l4 + 1), .ref 75], σ)) rfl ?_
      exact M_closes_g80 hc24 h
def M_closes_c24 : Nat → Int32 → Int32 → Int32 → zSt → Option (Int32 × zSt)
  | 0, _, _, _, _ => none
  | n + 1, l2, l3, l4, σ => if ¬ l2 = l3 then (M_closes_c35 (M_closes_c24 n) l2 l4 σ) else (if ¬ l4 = 1 then (some (l2, σ)) else (M_closes_c35 (M_closes_c24 n) l2 l4 σ))
theorem M_closes_g24 : ∀ (n : Nat) {d1 : Option Value} {l2 : Int32} {l3 : Int32} {l4 : Int32} {σ : zSt} {r : Int32 × zSt}, M_closes_c24 n l2 l3 l4 σ = some r → zGo zPT zmlc zP_179 (24, [some (.ref 75), d1, some (.int l2), some (.int l3), some (.int l4)], [], σ) (some (.int r.1), r.2) := by
  intro n
  induction n with
  | zero => intro d1 l2 l3 l4 σ r h; cases h
  | succ n ih =>
    intro d1 l2 l3 l4 σ r h
    rw [M_closes_c24] at h
    refine zGo.sts 2 (cf' := (26, [some (.ref 75), d1, some (.int l2), some (.int l3), some (.int l4)], [.int l3, .int l2], σ)) rfl ?_
    by_cases hb4 : ¬ l2 = l3
    · replace h := zif_t hb4 h
      refine zC_ne_t rfl hb4 ?_
      exact M_closes_g35 ih h
    · replace h := zif_f hb4 h
      refine zC_ne_f rfl hb4 ?_
      refine zGo.sts 2 (cf' := (32, [some (.ref 75), d1, some (.int l2), some (.int l3), some (.int l4)], [.int 1, .int l4], σ)) rfl ?_
      by_cases hb3 : ¬ l4 = 1
      · replace h := zif_t hb3 h
        refine zC_ne_t rfl hb3 ?_
        refine zGo.sts 1 (cf' := (90, [some (.ref 75), d1, some (.int l2), some (.int l3), some (.int l4)], [.int l2], σ)) rfl ?_
        obtain rfl := Option.some.inj h
        exact zGo.ret rfl rfl
      · replace h := zif_f hb3 h
        refine zC_ne_f rfl hb3 ?_
        exact M_closes_g35 ih h
def M_closes_c18 (l2 : Int32) (l3 : Int32) (t0 : Int32) (σ : zSt) : Option (Int32 × zSt) := zlet (su σ 75 15 t0) fun σ2 => M_closes_c24 zF l2 l3 0 σ2
theorem M_closes_g18 {d1 : Option Value} {d4 : Option Value} {l2 : Int32} {l3 : Int32} {t0 : Int32} {σ : zSt} {r : Int32 × zSt} (h : M_closes_c18 l2 l3 t0 σ = some r) : zGo zPT zmlc zP_179 (18, [some (.ref 75), d1, some (.int l2), some (.int l3), d4], [.int t0, .ref 75], σ) (some (.int r.1), r.2) := by
  unfold M_closes_c18 at h
  refine zGo.sts 1 (cf' := (21, [some (.ref 75), d1, some (.int l2), some (.int l3), d4], [], (su σ 75 15 t0))) rfl ?_
  replace h := zlet_of h
  generalize su σ 75 15 t0 = σ2 at h ⊢
  refine zGo.sts 2 (cf' := (24, [some (.ref 75), d1, some (.int l2), some (.int l3), some (.int 0)], [], σ2)) rfl ?_
  exact M_closes_g24 zF h
def M_closes (l1 : Int32) (σ : zSt) : Option (Int32 × zSt) := if ¬ l1 = (σ 75 14) then (M_closes_c18 l1 (-1) (-1) σ) else (M_closes_c18 l1 (-1) 0 σ)
theorem M_closes_g {l1 : Int32} {σ : zSt} {r : Int32 × zSt} (h : M_closes l1 σ = some r) : zGo zPT zmlc (zPT 179) (0, zent (zmlc 179) [.ref 75, .int l1], [], σ) (some (.int r.1), r.2) := by
  unfold M_closes at h
  show zGo zPT zmlc zP_179 (0, [some (.ref 75), some (.int l1), none, none, none], [], σ) _
  refine zGo.sts 8 (cf' := (10, [some (.ref 75), some (.int l1), some (.int l1), some (.int (-1)), none], [.int (σ 75 14), .int l1, .ref 75], σ)) rfl ?_
  by_cases hb1 : ¬ l1 = (σ 75 14)
  · replace h := zif_t hb1 h
    refine zC_ne_t rfl hb1 ?_
    refine zGo.sts 1 (cf' := (18, [some (.ref 75), some (.int l1), some (.int l1), some (.int (-1)), none], [.int (-1), .ref 75], σ)) rfl ?_
    exact M_closes_g18 h
  · replace h := zif_f hb1 h
    refine zC_ne_f rfl hb1 ?_
    refine zGo.sts 2 (cf' := (18, [some (.ref 75), some (.int l1), some (.int l1), some (.int (-1)), none], [.int 0, .ref 75], σ)) rfl ?_
    exact M_closes_g18 h
def M_isForcing (l1 : Int32) (σ : zSt) : Option (Int32 × zSt) := zb2 (M_closes l1 σ) fun v1 σ2 => if ¬ v1 = (σ2 75 14) then (some (0, σ2)) else (some (1, σ2))
theorem M_isForcing_g {l1 : Int32} {σ : zSt} {r : Int32 × zSt} (h : M_isForcing l1 σ = some r) : zGo zPT zmlc (zPT 180) (0, zent (zmlc 180) [.ref 75, .int l1], [], σ) (some (.int r.1), r.2) := by
  unfold M_isForcing at h
  show zGo zPT zmlc zP_180 (0, [some (.ref 75), some (.int l1)], [], σ) _
  refine zGo.sts 2 (cf' := (2, [some (.ref 75), some (.int l1)], [.int l1, .ref 75], σ)) rfl ?_
  obtain ⟨v1, σ2, hv, h⟩ := zbd2 h
  refine zGo.call rfl rfl (M_closes_g hv) ?_
  refine zGo.sts 2 (cf' := (9, [some (.ref 75), some (.int l1)], [.int (σ2 75 14), .int v1], σ2)) rfl ?_
  by_cases hb3 : ¬ v1 = (σ2 75 14)
  · replace h := zif_t hb3 h
    refine zC_ne_t rfl hb3 ?_
    refine zGo.sts 1 (cf' := (17, [some (.ref 75), some (.int l1)], [.int 0], σ2)) rfl ?_
    obtain rfl := Option.some.inj h
    exact zGo.ret rfl rfl
  · replace h := zif_f hb3 h
    refine zC_ne_f rfl hb3 ?_
    refine zGo.sts 2 (cf' := (17, [some (.ref 75), some (.int l1)], [.int 1], σ2)) rfl ?_
    obtain rfl := Option.some.inj h
    exact zGo.ret rfl rfl
def M_round_ (l1 : Int32) (σ : zSt) : Option (Int32 × zSt) := (M_isSet l1 σ).bind fun v1 => if ¬ v1 = 0 then ((M_takes σ).bind fun σ2 => (M_round l1 (σ2 75 4) (σ2 75 5) 0 σ2).bind fun v3 => some (v3, σ2)) else (some ((-1), σ))
theorem M_round__g {l1 : Int32} {σ : zSt} {r : Int32 × zSt} (h : M_round_ l1 σ = some r) : zGo zPT zmlc (zPT 181) (0, zent (zmlc 181) [.ref 75, .int l1], [], σ) (some (.int r.1), r.2) := by
  unfold M_round_ at h
  show zGo zPT zmlc zP_181 (0, [some (.ref 75), some (.int l1)], [], σ) _
  refine zGo.sts 2 (cf' := (2, [some (.ref 75), some (.int l1)], [.int l1, .ref 75], σ)) rfl ?_
  obtain ⟨v1, hv, h⟩ := zbd h
  refine zGo.call rfl rfl (M_isSet_g hv) ?_
  by_cases hb4 : ¬ v1 = 0
  · replace h := zif_t hb4 h
    refine zI_ne_t rfl hb4 ?_
    refine zGo.sts 1 (cf' := (11, [some (.ref 75), some (.int l1)], [.ref 75], σ)) rfl ?_
    obtain ⟨σ2, hv, h⟩ := zbd h
    refine zGo.call rfl rfl (M_takes_g hv) ?_
    refine zGo.sts 7 (cf' := (25, [some (.ref 75), some (.int l1)], [.int 0, .int (σ2 75 5), .int (σ2 75 4), .int l1, .ref 75], σ2)) rfl ?_
    obtain ⟨v3, hv, h⟩ := zbd h
    refine zGo.call rfl rfl (M_round_g hv) ?_
    obtain rfl := Option.some.inj h
    exact zGo.ret rfl rfl
  · replace h := zif_f hb4 h
    refine zI_ne_f rfl hb4 ?_
    refine zGo.sts 1 (cf' := (9, [some (.ref 75), some (.int l1)], [.int (-1)], σ)) rfl ?_
    obtain rfl := Option.some.inj h
    exact zGo.ret rfl rfl
def M_closure (l1 : Int32) (σ : zSt) : Option (Int32 × zSt) := (M_isSet l1 σ).bind fun v1 => if ¬ v1 = 0 then ((M_takes σ).bind fun σ2 => zb2 (M_closes l1 σ2) fun v3 σ4 => some (v3, σ4)) else (some ((-1), σ))
theorem M_closure_g {l1 : Int32} {σ : zSt} {r : Int32 × zSt} (h : M_closure l1 σ = some r) : zGo zPT zmlc (zPT 182) (0, zent (zmlc 182) [.ref 75, .int l1], [], σ) (some (.int r.1), r.2) := by
  unfold M_closure at h
  show zGo zPT zmlc zP_182 (0, [some (.ref 75), some (.int l1)], [], σ) _
  refine zGo.sts 2 (cf' := (2, [some (.ref 75), some (.int l1)], [.int l1, .ref 75], σ)) rfl ?_
  obtain ⟨v1, hv, h⟩ := zbd h
  refine zGo.call rfl rfl (M_isSet_g hv) ?_
  by_cases hb5 : ¬ v1 = 0
  · replace h := zif_t hb5 h
    refine zI_ne_t rfl hb5 ?_
    refine zGo.sts 1 (cf' := (11, [some (.ref 75), some (.int l1)], [.ref 75], σ)) rfl ?_
    obtain ⟨σ2, hv, h⟩ := zbd h
    refine zGo.call rfl rfl (M_takes_g hv) ?_
    refine zGo.sts 2 (cf' := (16, [some (.ref 75), some (.int l1)], [.int l1, .ref 75], σ2)) rfl ?_
    obtain ⟨v3, σ4, hv, h⟩ := zbd2 h
    refine zGo.call rfl rfl (M_closes_g hv) ?_
    obtain rfl := Option.some.inj h
    exact zGo.ret rfl rfl
  · replace h := zif_f hb5 h
    refine zI_ne_f rfl hb5 ?_
    refine zGo.sts 1 (cf' := (9, [some (.ref 75), some (.int l1)], [.int (-1)], σ)) rfl ?_
    obtain rfl := Option.some.inj h
    exact zGo.ret rfl rfl
def M_time (l1 : Int32) (σ : zSt) : Option (Int32 × zSt) := (M_isSet l1 σ).bind fun v1 => if ¬ v1 = 0 then ((M_takes σ).bind fun σ2 => zb2 (M_isForcing l1 σ2) fun v3 σ4 => if v3 = 0 then (some ((-2), σ4)) else (some (σ4 75 15, σ4))) else (some ((-1), σ))
theorem M_time_g {l1 : Int32} {σ : zSt} {r : Int32 × zSt} (h : M_time l1 σ = some r) : zGo zPT zmlc (zPT 183) (0, zent (zmlc 183) [.ref 75, .int l1], [], σ) (some (.int r.1), r.2) := by
  unfold M_time at h
  show zGo zPT zmlc zP_183 (0, [some (.ref 75), some (.int l1)], [], σ) _
  refine zGo.sts 2 (cf' := (2, [some (.ref 75), some (.int l1)], [.int l1, .ref 75], σ)) rfl ?_
  obtain ⟨v1, hv, h⟩ := zbd h
  refine zGo.call rfl rfl (M_isSet_g hv) ?_
  by_cases hb6 : ¬ v1 = 0
  · replace h := zif_t hb6 h
    refine zI_ne_t rfl hb6 ?_
    refine zGo.sts 1 (cf' := (11, [some (.ref 75), some (.int l1)], [.ref 75], σ)) rfl ?_
    obtain ⟨σ2, hv, h⟩ := zbd h
    refine zGo.call rfl rfl (M_takes_g hv) ?_
    refine zGo.sts 2 (cf' := (16, [some (.ref 75), some (.int l1)], [.int l1, .ref 75], σ2)) rfl ?_
    obtain ⟨v3, σ4, hv, h⟩ := zbd2 h
    refine zGo.call rfl rfl (M_isForcing_g hv) ?_
    by_cases hb5 : v3 = 0
    · replace h := zif_t hb5 h
      refine zI_eq_t rfl hb5 ?_
      refine zGo.sts 1 (cf' := (31, [some (.ref 75), some (.int l1)], [.int (-2)], σ4)) rfl ?_
      obtain rfl := Option.some.inj h
      exact zGo.ret rfl rfl
    · replace h := zif_f hb5 h
      refine zI_eq_f rfl hb5 ?_
      refine zGo.sts 3 (cf' := (31, [some (.ref 75), some (.int l1)], [.int (σ4 75 15)], σ4)) rfl ?_
      obtain rfl := Option.some.inj h
      exact zGo.ret rfl rfl
  · replace h := zif_f hb6 h
    refine zI_ne_f rfl hb6 ?_
    refine zGo.sts 1 (cf' := (9, [some (.ref 75), some (.int l1)], [.int (-1)], σ)) rfl ?_
    obtain rfl := Option.some.inj h
    exact zGo.ret rfl rfl
def M_least_c118 (c8 : Int32 → zSt → Option (zSt)) (l1 : Int32) (t0 : Int32) (σ : zSt) : Option (zSt) := zlet (su σ 75 19 t0) fun σ18 => c8 (l1 + 1) σ18
theorem M_least_g118 {c8 : Int32 → zSt → Option (zSt)} (hc8 : ∀ {l1 : Int32} {σ : zSt} {r : zSt}, c8 l1 σ = some r → zGo zPT zmlc zP_184 (8, [some (.ref 75), some (.int l1)], [], σ) (none, r)) {l1 : Int32} {t0 : Int32} {σ : zSt} {r : zSt} (h : M_least_c118 c8 l1 t0 σ = some r) : zGo zPT zmlc zP_184 (118, [some (.ref 75), some (.int l1)], [.int t0, .ref 75], σ) (none, r) := by
  unfold M_least_c118 at h
  refine zGo.sts 1 (cf' := (121, [some (.ref 75), some (.int l1)], [], (su σ 75 19 t0))) rfl ?_
  replace h := zlet_of h
  generalize su σ 75 19 t0 = σ18 at h ⊢
  refine zGo.sts 2 (cf' := (8, [some (.ref 75), some (.int (l1 + 1))], [], σ18)) rfl ?_
  exact hc8 h
def M_least_c85 (c8 : Int32 → zSt → Option (zSt)) (l1 : Int32) (σ : zSt) : Option (zSt) := zlet (su σ 75 18 ((σ 75 18) + 1)) fun σ16 => if (σ16 75 19) ≤ (σ16 75 15) then (M_least_c118 c8 l1 (σ16 75 19) σ16) else (M_least_c118 c8 l1 (σ16 75 15) σ16)
theorem M_least_g85 {c8 : Int32 → zSt → Option (zSt)} (hc8 : ∀ {l1 : Int32} {σ : zSt} {r : zSt}, c8 l1 σ = some r → zGo zPT zmlc zP_184 (8, [some (.ref 75), some (.int l1)], [], σ) (none, r)) {l1 : Int32} {σ : zSt} {r : zSt} (h : M_least_c85 c8 l1 σ = some r) : zGo zPT zmlc zP_184 (85, [some (.ref 75), some (.int l1)], [], σ) (none, r) := by
  unfold M_least_c85 at h
  refine zGo.sts 6 (cf' := (95, [some (.ref 75), some (.int l1)], [], (su σ 75 18 ((σ 75 18) + 1)))) rfl ?_
  replace h := zlet_of h
  generalize su σ 75 18 ((σ 75 18) + 1) = σ16 at h ⊢
  refine zGo.sts 5 (cf' := (104, [some (.ref 75), some (.int l1)], [.int (σ16 75 19), .int (σ16 75 15), .ref 75], σ16)) rfl ?_
  by_cases hb17 : (σ16 75 19) ≤ (σ16 75 15)
  · replace h := zif_t hb17 h
    refine zC_ge_t rfl hb17 ?_
    refine zGo.sts 2 (cf' := (118, [some (.ref 75), some (.int l1)], [.int (σ16 75 19), .ref 75], σ16)) rfl ?_
    exact M_least_g118 hc8 h
  · replace h := zif_f hb17 h
    refine zC_ge_f rfl hb17 ?_
    refine zGo.sts 3 (cf' := (118, [some (.ref 75), some (.int l1)], [.int (σ16 75 15), .ref 75], σ16)) rfl ?_
    exact M_least_g118 hc8 h
def M_least_c8 : Nat → Int32 → zSt → Option (zSt)
  | 0, _, _ => none
  | n + 1, l1, σ => if 512 ≤ l1 then (some σ) else (if ¬ (l1 &&& ((σ 75 14) ^^^ (-1))) = 0 then (M_least_c8 n (l1 + 1) σ) else ((M_bits l1 σ).bind fun v2 => if (σ 75 16) < v2 then (M_least_c8 n (l1 + 1) σ) else (zb2 (M_isForcing l1 σ) fun v3 σ4 => if ¬ v3 = 0 then ((M_bits l1 σ4).bind fun v5 => if (σ4 75 16) ≤ v5 then (M_least_c85 (M_least_c8 n) l1 σ4) else ((M_bits l1 σ4).bind fun v6 => zlet (su σ4 75 16 v6) fun σ7 => zlet (su σ7 75 17 l1) fun σ8 => zlet (su σ8 75 18 0) fun σ9 => zlet (su σ9 75 19 (σ9 75 15)) fun σ10 => M_least_c85 (M_least_c8 n) l1 σ10)) else (M_least_c8 n (l1 + 1) σ4))))
theorem M_least_g8 : ∀ (n : Nat) {l1 : Int32} {σ : zSt} {r : zSt}, M_least_c8 n l1 σ = some r → zGo zPT zmlc zP_184 (8, [some (.ref 75), some (.int l1)], [], σ) (none, r) := by
  intro n
  induction n with
  | zero => intro l1 σ r h; cases h
  | succ n ih =>
    intro l1 σ r h
    rw [M_least_c8] at h
    refine zGo.sts 2 (cf' := (12, [some (.ref 75), some (.int l1)], [.int 512, .int l1], σ)) rfl ?_
    by_cases hb15 : 512 ≤ l1
    · replace h := zif_t hb15 h
      refine zC_ge_t rfl hb15 ?_
      obtain rfl := Option.some.inj h
      exact zGo.ret rfl rfl
    · replace h := zif_f hb15 h
      refine zC_ge_f rfl hb15 ?_
      refine zGo.sts 6 (cf' := (23, [some (.ref 75), some (.int l1)], [.int (l1 &&& ((σ 75 14) ^^^ (-1)))], σ)) rfl ?_
      by_cases hb14 : ¬ (l1 &&& ((σ 75 14) ^^^ (-1))) = 0
      · replace h := zif_t hb14 h
        refine zI_ne_t rfl hb14 ?_
        refine zGo.sts 2 (cf' := (8, [some (.ref 75), some (.int (l1 + 1))], [], σ)) rfl ?_
        exact ih h
      · replace h := zif_f hb14 h
        refine zI_ne_f rfl hb14 ?_
        refine zGo.sts 1 (cf' := (27, [some (.ref 75), some (.int l1)], [.int l1], σ)) rfl ?_
        obtain ⟨v2, hv, h⟩ := zbd h
        refine zGo.call rfl rfl (M_bits_g hv) ?_
        refine zGo.sts 2 (cf' := (34, [some (.ref 75), some (.int l1)], [.int (σ 75 16), .int v2], σ)) rfl ?_
        by_cases hb13 : (σ 75 16) < v2
        · replace h := zif_t hb13 h
          refine zC_gt_t rfl hb13 ?_
          refine zGo.sts 2 (cf' := (8, [some (.ref 75), some (.int (l1 + 1))], [], σ)) rfl ?_
          exact ih h
        · replace h := zif_f hb13 h
          refine zC_gt_f rfl hb13 ?_
          refine zGo.sts 2 (cf' := (39, [some (.ref 75), some (.int l1)], [.int l1, .ref 75], σ)) rfl ?_
          obtain ⟨v3, σ4, hv, h⟩ := zbd2 h
          refine zGo.call rfl rfl (M_isForcing_g hv) ?_
          by_cases hb12 : ¬ v3 = 0
          · replace h := zif_t hb12 h
            refine zI_ne_t rfl hb12 ?_
            refine zGo.sts 1 (cf' := (49, [some (.ref 75), some (.int l1)], [.int l1], σ4)) rfl ?_
            obtain ⟨v5, hv, h⟩ := zbd h
            refine zGo.call rfl rfl (M_bits_g hv) ?_
            refine zGo.sts 2 (cf' := (56, [some (.ref 75), some (.int l1)], [.int (σ4 75 16), .int v5], σ4)) rfl ?_
            by_cases hb11 : (σ4 75 16) ≤ v5
            · replace h := zif_t hb11 h
              refine zC_ge_t rfl hb11 ?_
              exact M_least_g85 ih h
            · replace h := zif_f hb11 h
              refine zC_ge_f rfl hb11 ?_
              refine zGo.sts 2 (cf' := (61, [some (.ref 75), some (.int l1)], [.int l1, .ref 75], σ4)) rfl ?_
              obtain ⟨v6, hv, h⟩ := zbd h
              refine zGo.call rfl rfl (M_bits_g hv) ?_
              refine zGo.sts 1 (cf' := (67, [some (.ref 75), some (.int l1)], [], (su σ4 75 16 v6))) rfl ?_
              replace h := zlet_of h
              generalize su σ4 75 16 v6 = σ7 at h ⊢
              refine zGo.sts 3 (cf' := (72, [some (.ref 75), some (.int l1)], [], (su σ7 75 17 l1))) rfl ?_
              replace h := zlet_of h
              generalize su σ7 75 17 l1 = σ8 at h ⊢
              refine zGo.sts 3 (cf' := (77, [some (.ref 75), some (.int l1)], [], (su σ8 75 18 0))) rfl ?_
              replace h := zlet_of h
              generalize su σ8 75 18 0 = σ9 at h ⊢
              refine zGo.sts 4 (cf' := (85, [some (.ref 75), some (.int l1)], [], (su σ9 75 19 (σ9 75 15)))) rfl ?_
              replace h := zlet_of h
              generalize su σ9 75 19 (σ9 75 15) = σ10 at h ⊢
              exact M_least_g85 ih h
          · replace h := zif_f hb12 h
            refine zI_ne_f rfl hb12 ?_
            refine zGo.sts 3 (cf' := (8, [some (.ref 75), some (.int (l1 + 1))], [], σ4)) rfl ?_
            exact ih h
def M_least (σ : zSt) : Option (zSt) := zlet (su σ 75 16 10) fun σ1 => M_least_c8 zF 0 σ1
theorem M_least_g {σ : zSt} {r : zSt} (h : M_least σ = some r) : zGo zPT zmlc (zPT 184) (0, zent (zmlc 184) [.ref 75], [], σ) (none, r) := by
  unfold M_least at h
  show zGo zPT zmlc zP_184 (0, [some (.ref 75), none], [], σ) _
  refine zGo.sts 3 (cf' := (6, [some (.ref 75), none], [], (su σ 75 16 10))) rfl ?_
  replace h := zlet_of h
  generalize su σ 75 16 10 = σ1 at h ⊢
  refine zGo.sts 2 (cf' := (8, [some (.ref 75), some (.int 0)], [], σ1)) rfl ?_
  exact M_least_g8 zF h
def M_least_ (l1 : Int32) (σ : zSt) : Option (Int32 × zSt) := (M_in l1 0 3 σ).bind fun v1 => if ¬ v1 = 0 then ((M_takes σ).bind fun σ2 => (M_least σ2).bind fun σ3 => if ¬ l1 = 0 then (if ¬ l1 = 1 then (if ¬ l1 = 2 then (some (σ3 75 19, σ3)) else (some (σ3 75 18, σ3))) else (some (σ3 75 17, σ3))) else (some (σ3 75 16, σ3))) else (some ((-1), σ))
theorem M_least__g {l1 : Int32} {σ : zSt} {r : Int32 × zSt} (h : M_least_ l1 σ = some r) : zGo zPT zmlc (zPT 185) (0, zent (zmlc 185) [.ref 75, .int l1], [], σ) (some (.int r.1), r.2) := by
  unfold M_least_ at h
  show zGo zPT zmlc zP_185 (0, [some (.ref 75), some (.int l1)], [], σ) _
  refine zGo.sts 3 (cf' := (3, [some (.ref 75), some (.int l1)], [.int 3, .int 0, .int l1], σ)) rfl ?_
  obtain ⟨v1, hv, h⟩ := zbd h
  refine zGo.call rfl rfl (M_in_g hv) ?_
  by_cases hb7 : ¬ v1 = 0
  · replace h := zif_t hb7 h
    refine zI_ne_t rfl hb7 ?_
    refine zGo.sts 1 (cf' := (12, [some (.ref 75), some (.int l1)], [.ref 75], σ)) rfl ?_
    obtain ⟨σ2, hv, h⟩ := zbd h
    refine zGo.call rfl rfl (M_takes_g hv) ?_
    refine zGo.sts 1 (cf' := (16, [some (.ref 75), some (.int l1)], [.ref 75], σ2)) rfl ?_
    obtain ⟨σ3, hv, h⟩ := zbd h
    refine zGo.call rfl rfl (M_least_g hv) ?_
    refine zGo.sts 1 (cf' := (20, [some (.ref 75), some (.int l1)], [.int l1], σ3)) rfl ?_
    by_cases hb6 : ¬ l1 = 0
    · replace h := zif_t hb6 h
      refine zI_ne_t rfl hb6 ?_
      refine zGo.sts 2 (cf' := (32, [some (.ref 75), some (.int l1)], [.int 1, .int l1], σ3)) rfl ?_
      by_cases hb5 : ¬ l1 = 1
      · replace h := zif_t hb5 h
        refine zC_ne_t rfl hb5 ?_
        refine zGo.sts 2 (cf' := (44, [some (.ref 75), some (.int l1)], [.int 2, .int l1], σ3)) rfl ?_
        by_cases hb4 : ¬ l1 = 2
        · replace h := zif_t hb4 h
          refine zC_ne_t rfl hb4 ?_
          refine zGo.sts 2 (cf' := (58, [some (.ref 75), some (.int l1)], [.int (σ3 75 19)], σ3)) rfl ?_
          obtain rfl := Option.some.inj h
          exact zGo.ret rfl rfl
        · replace h := zif_f hb4 h
          refine zC_ne_f rfl hb4 ?_
          refine zGo.sts 3 (cf' := (58, [some (.ref 75), some (.int l1)], [.int (σ3 75 18)], σ3)) rfl ?_
          obtain rfl := Option.some.inj h
          exact zGo.ret rfl rfl
      · replace h := zif_f hb5 h
        refine zC_ne_f rfl hb5 ?_
        refine zGo.sts 3 (cf' := (58, [some (.ref 75), some (.int l1)], [.int (σ3 75 17)], σ3)) rfl ?_
        obtain rfl := Option.some.inj h
        exact zGo.ret rfl rfl
    · replace h := zif_f hb6 h
      refine zI_ne_f rfl hb6 ?_
      refine zGo.sts 3 (cf' := (58, [some (.ref 75), some (.int l1)], [.int (σ3 75 16)], σ3)) rfl ?_
      obtain rfl := Option.some.inj h
      exact zGo.ret rfl rfl
  · replace h := zif_f hb7 h
    refine zI_ne_f rfl hb7 ?_
    refine zGo.sts 1 (cf' := (10, [some (.ref 75), some (.int l1)], [.int (-1)], σ)) rfl ?_
    obtain rfl := Option.some.inj h
    exact zGo.ret rfl rfl
def M_sumOf_c4 (σ : zSt) : Nat → Int32 → Int32 → Int32 → Option (Int32)
  | 0, _, _, _ => none
  | n + 1, l1, l2, l3 => if (σ 75 3) ≤ l3 then (some l2) else ((M_has l1 l3 σ).bind fun v1 => if v1 = 0 then (M_sumOf_c4 σ n l1 (l2 + 0) (l3 + 1)) else ((M_counts l3 σ).bind fun v2 => M_sumOf_c4 σ n l1 (l2 + v2) (l3 + 1)))
theorem M_sumOf_g4 {σ : zSt} : ∀ (n : Nat) {l1 : Int32} {l2 : Int32} {l3 : Int32} {r : Int32}, M_sumOf_c4 σ n l1 l2 l3 = some r → zGo zPT zmlc zP_186 (4, [some (.ref 75), some (.int l1), some (.int l2), some (.int l3)], [], σ) (some (.int r), σ) := by
  intro n
  induction n with
  | zero => intro l1 l2 l3 r h; cases h
  | succ n ih =>
    intro l1 l2 l3 r h
    rw [M_sumOf_c4] at h
    refine zGo.sts 3 (cf' := (9, [some (.ref 75), some (.int l1), some (.int l2), some (.int l3)], [.int (σ 75 3), .int l3], σ)) rfl ?_
    by_cases hb4 : (σ 75 3) ≤ l3
    · replace h := zif_t hb4 h
      refine zC_ge_t rfl hb4 ?_
      refine zGo.sts 1 (cf' := (39, [some (.ref 75), some (.int l1), some (.int l2), some (.int l3)], [.int l2], σ)) rfl ?_
      obtain rfl := Option.some.inj h
      exact zGo.ret rfl rfl
    · replace h := zif_f hb4 h
      refine zC_ge_f rfl hb4 ?_
      refine zGo.sts 3 (cf' := (15, [some (.ref 75), some (.int l1), some (.int l2), some (.int l3)], [.int l3, .int l1, .int l2], σ)) rfl ?_
      obtain ⟨v1, hv, h⟩ := zbd h
      refine zGo.call rfl rfl (M_has_g hv) ?_
      by_cases hb3 : v1 = 0
      · replace h := zif_t hb3 h
        refine zI_eq_t rfl hb3 ?_
        refine zGo.sts 5 (cf' := (4, [some (.ref 75), some (.int l1), some (.int (l2 + 0)), some (.int (l3 + 1))], [], σ)) rfl ?_
        exact ih h
      · replace h := zif_f hb3 h
        refine zI_eq_f rfl hb3 ?_
        refine zGo.sts 2 (cf' := (23, [some (.ref 75), some (.int l1), some (.int l2), some (.int l3)], [.int l3, .ref 75, .int l2], σ)) rfl ?_
        obtain ⟨v2, hv, h⟩ := zbd h
        refine zGo.call rfl rfl (M_counts_g hv) ?_
        refine zGo.sts 5 (cf' := (4, [some (.ref 75), some (.int l1), some (.int (l2 + v2)), some (.int (l3 + 1))], [], σ)) rfl ?_
        exact ih h
def M_sumOf (l1 : Int32) (σ : zSt) : Option (Int32) := M_sumOf_c4 σ zF l1 0 0
theorem M_sumOf_g {l1 : Int32} {σ : zSt} {r : Int32} (h : M_sumOf l1 σ = some r) : zGo zPT zmlc (zPT 186) (0, zent (zmlc 186) [.ref 75, .int l1], [], σ) (some (.int r), σ) := by
  unfold M_sumOf at h
  show zGo zPT zmlc zP_186 (0, [some (.ref 75), some (.int l1), none, none], [], σ) _
  refine zGo.sts 4 (cf' := (4, [some (.ref 75), some (.int l1), some (.int 0), some (.int 0)], [], σ)) rfl ?_
  exact M_sumOf_g4 zF h
def M_cheapest_c27 : Nat → Int32 → Int32 → Int32 → zSt → Option (Int32 × zSt)
  | 0, _, _, _, _ => none
  | n + 1, l1, l2, l3, σ => if l3 < 0 then (if ¬ l1 = 0 then ((M_sumOf l2 σ).bind fun v4 => some (v4, σ)) else (some (l2, σ))) else ((M_sumOf l3 σ).bind fun v6 => (M_sumOf l2 σ).bind fun v7 => if v7 < v6 then (M_cheapest_c27 n l1 l2 (l3 + (-1)) σ) else (zb2 (M_isForcing l3 σ) fun v8 σ9 => if v8 = 0 then (M_cheapest_c27 n l1 l2 (l3 + (-1)) σ9) else (M_cheapest_c27 n l1 l3 (l3 + (-1)) σ9)))
theorem M_cheapest_g27 : ∀ (n : Nat) {l1 : Int32} {l2 : Int32} {l3 : Int32} {σ : zSt} {r : Int32 × zSt}, M_cheapest_c27 n l1 l2 l3 σ = some r → zGo zPT zmlc zP_187 (27, [some (.ref 75), some (.int l1), some (.int l2), some (.int l3)], [], σ) (some (.int r.1), r.2) := by
  intro n
  induction n with
  | zero => intro l1 l2 l3 σ r h; cases h
  | succ n ih =>
    intro l1 l2 l3 σ r h
    rw [M_cheapest_c27] at h
    refine zGo.sts 1 (cf' := (28, [some (.ref 75), some (.int l1), some (.int l2), some (.int l3)], [.int l3], σ)) rfl ?_
    by_cases hb12 : l3 < 0
    · replace h := zif_t hb12 h
      refine zI_lt_t rfl hb12 ?_
      refine zGo.sts 1 (cf' := (65, [some (.ref 75), some (.int l1), some (.int l2), some (.int l3)], [.int l1], σ)) rfl ?_
      by_cases hb5 : ¬ l1 = 0
      · replace h := zif_t hb5 h
        refine zI_ne_t rfl hb5 ?_
        refine zGo.sts 2 (cf' := (74, [some (.ref 75), some (.int l1), some (.int l2), some (.int l3)], [.int l2, .ref 75], σ)) rfl ?_
        obtain ⟨v4, hv, h⟩ := zbd h
        refine zGo.call rfl rfl (M_sumOf_g hv) ?_
        obtain rfl := Option.some.inj h
        exact zGo.ret rfl rfl
      · replace h := zif_f hb5 h
        refine zI_ne_f rfl hb5 ?_
        refine zGo.sts 2 (cf' := (77, [some (.ref 75), some (.int l1), some (.int l2), some (.int l3)], [.int l2], σ)) rfl ?_
        obtain rfl := Option.some.inj h
        exact zGo.ret rfl rfl
    · replace h := zif_f hb12 h
      refine zI_lt_f rfl hb12 ?_
      refine zGo.sts 2 (cf' := (33, [some (.ref 75), some (.int l1), some (.int l2), some (.int l3)], [.int l3, .ref 75], σ)) rfl ?_
      obtain ⟨v6, hv, h⟩ := zbd h
      refine zGo.call rfl rfl (M_sumOf_g hv) ?_
      refine zGo.sts 2 (cf' := (38, [some (.ref 75), some (.int l1), some (.int l2), some (.int l3)], [.int l2, .ref 75, .int v6], σ)) rfl ?_
      obtain ⟨v7, hv, h⟩ := zbd h
      refine zGo.call rfl rfl (M_sumOf_g hv) ?_
      by_cases hb11 : v7 < v6
      · replace h := zif_t hb11 h
        refine zC_gt_t rfl hb11 ?_
        refine zGo.sts 4 (cf' := (27, [some (.ref 75), some (.int l1), some (.int l2), some (.int (l3 + (-1)))], [], σ)) rfl ?_
        exact ih h
      · replace h := zif_f hb11 h
        refine zC_gt_f rfl hb11 ?_
        refine zGo.sts 2 (cf' := (46, [some (.ref 75), some (.int l1), some (.int l2), some (.int l3)], [.int l3, .ref 75], σ)) rfl ?_
        obtain ⟨v8, σ9, hv, h⟩ := zbd2 h
        refine zGo.call rfl rfl (M_isForcing_g hv) ?_
        by_cases hb10 : v8 = 0
        · replace h := zif_t hb10 h
          refine zI_eq_t rfl hb10 ?_
          refine zGo.sts 4 (cf' := (27, [some (.ref 75), some (.int l1), some (.int l2), some (.int (l3 + (-1)))], [], σ9)) rfl ?_
          exact ih h
        · replace h := zif_f hb10 h
          refine zI_eq_f rfl hb10 ?_
          refine zGo.sts 5 (cf' := (27, [some (.ref 75), some (.int l1), some (.int l3), some (.int (l3 + (-1)))], [], σ9)) rfl ?_
          exact ih h
def M_cheapest (l1 : Int32) (σ : zSt) : Option (Int32 × zSt) := (M_in l1 0 1 σ).bind fun v1 => if ¬ v1 = 0 then ((M_takes σ).bind fun σ2 => M_cheapest_c27 zF l1 (σ2 75 14) ((σ2 75 14) - 1) σ2) else (some ((-1), σ))
theorem M_cheapest_g {l1 : Int32} {σ : zSt} {r : Int32 × zSt} (h : M_cheapest l1 σ = some r) : zGo zPT zmlc (zPT 187) (0, zent (zmlc 187) [.ref 75, .int l1], [], σ) (some (.int r.1), r.2) := by
  unfold M_cheapest at h
  show zGo zPT zmlc zP_187 (0, [some (.ref 75), some (.int l1), none, none], [], σ) _
  refine zGo.sts 3 (cf' := (3, [some (.ref 75), some (.int l1), none, none], [.int 1, .int 0, .int l1], σ)) rfl ?_
  obtain ⟨v1, hv, h⟩ := zbd h
  refine zGo.call rfl rfl (M_in_g hv) ?_
  by_cases hb3 : ¬ v1 = 0
  · replace h := zif_t hb3 h
    refine zI_ne_t rfl hb3 ?_
    refine zGo.sts 1 (cf' := (12, [some (.ref 75), some (.int l1), none, none], [.ref 75], σ)) rfl ?_
    obtain ⟨σ2, hv, h⟩ := zbd h
    refine zGo.call rfl rfl (M_takes_g hv) ?_
    refine zGo.sts 8 (cf' := (27, [some (.ref 75), some (.int l1), some (.int (σ2 75 14)), some (.int ((σ2 75 14) - 1))], [], σ2)) rfl ?_
    exact M_cheapest_g27 zF h
  · replace h := zif_f hb3 h
    refine zI_ne_f rfl hb3 ?_
    refine zGo.sts 1 (cf' := (10, [some (.ref 75), some (.int l1), none, none], [.int (-1)], σ)) rfl ?_
    obtain rfl := Option.some.inj h
    exact zGo.ret rfl rfl
def M_many_c22 : Nat → Int32 → Int32 → Int32 → zSt → Option (Int32 × zSt)
  | 0, _, _, _, _ => none
  | n + 1, l1, l2, l3, σ => if (σ 75 14) < l3 then (some (l2, σ)) else ((M_bits l3 σ).bind fun v4 => if ¬ v4 = l1 then (M_many_c22 n l1 (l2 + 0) (l3 + 1) σ) else (zb2 (M_isForcing l3 σ) fun v5 σ6 => if v5 = 0 then (M_many_c22 n l1 (l2 + 0) (l3 + 1) σ6) else (M_many_c22 n l1 (l2 + 1) (l3 + 1) σ6)))
theorem M_many_g22 : ∀ (n : Nat) {l1 : Int32} {l2 : Int32} {l3 : Int32} {σ : zSt} {r : Int32 × zSt}, M_many_c22 n l1 l2 l3 σ = some r → zGo zPT zmlc zP_188 (22, [some (.ref 75), some (.int l1), some (.int l2), some (.int l3)], [], σ) (some (.int r.1), r.2) := by
  intro n
  induction n with
  | zero => intro l1 l2 l3 σ r h; cases h
  | succ n ih =>
    intro l1 l2 l3 σ r h
    rw [M_many_c22] at h
    refine zGo.sts 3 (cf' := (27, [some (.ref 75), some (.int l1), some (.int l2), some (.int l3)], [.int (σ 75 14), .int l3], σ)) rfl ?_
    by_cases hb9 : (σ 75 14) < l3
    · replace h := zif_t hb9 h
      refine zC_gt_t rfl hb9 ?_
      refine zGo.sts 1 (cf' := (61, [some (.ref 75), some (.int l1), some (.int l2), some (.int l3)], [.int l2], σ)) rfl ?_
      obtain rfl := Option.some.inj h
      exact zGo.ret rfl rfl
    · replace h := zif_f hb9 h
      refine zC_gt_f rfl hb9 ?_
      refine zGo.sts 2 (cf' := (32, [some (.ref 75), some (.int l1), some (.int l2), some (.int l3)], [.int l3, .int l2], σ)) rfl ?_
      obtain ⟨v4, hv, h⟩ := zbd h
      refine zGo.call rfl rfl (M_bits_g hv) ?_
      refine zGo.sts 1 (cf' := (36, [some (.ref 75), some (.int l1), some (.int l2), some (.int l3)], [.int l1, .int v4, .int l2], σ)) rfl ?_
      by_cases hb8 : ¬ v4 = l1
      · replace h := zif_t hb8 h
        refine zC_ne_t rfl hb8 ?_
        refine zGo.sts 5 (cf' := (22, [some (.ref 75), some (.int l1), some (.int (l2 + 0)), some (.int (l3 + 1))], [], σ)) rfl ?_
        exact ih h
      · replace h := zif_f hb8 h
        refine zC_ne_f rfl hb8 ?_
        refine zGo.sts 2 (cf' := (41, [some (.ref 75), some (.int l1), some (.int l2), some (.int l3)], [.int l3, .ref 75, .int l2], σ)) rfl ?_
        obtain ⟨v5, σ6, hv, h⟩ := zbd2 h
        refine zGo.call rfl rfl (M_isForcing_g hv) ?_
        by_cases hb7 : v5 = 0
        · replace h := zif_t hb7 h
          refine zI_eq_t rfl hb7 ?_
          refine zGo.sts 5 (cf' := (22, [some (.ref 75), some (.int l1), some (.int (l2 + 0)), some (.int (l3 + 1))], [], σ6)) rfl ?_
          exact ih h
        · replace h := zif_f hb7 h
          refine zI_eq_f rfl hb7 ?_
          refine zGo.sts 6 (cf' := (22, [some (.ref 75), some (.int l1), some (.int (l2 + 1)), some (.int (l3 + 1))], [], σ6)) rfl ?_
          exact ih h
def M_many (l1 : Int32) (σ : zSt) : Option (Int32 × zSt) := (M_in l1 0 (σ 75 3) σ).bind fun v1 => if ¬ v1 = 0 then ((M_takes σ).bind fun σ2 => M_many_c22 zF l1 0 0 σ2) else (some ((-1), σ))
theorem M_many_g {l1 : Int32} {σ : zSt} {r : Int32 × zSt} (h : M_many l1 σ = some r) : zGo zPT zmlc (zPT 188) (0, zent (zmlc 188) [.ref 75, .int l1], [], σ) (some (.int r.1), r.2) := by
  unfold M_many at h
  show zGo zPT zmlc zP_188 (0, [some (.ref 75), some (.int l1), none, none], [], σ) _
  refine zGo.sts 4 (cf' := (6, [some (.ref 75), some (.int l1), none, none], [.int (σ 75 3), .int 0, .int l1], σ)) rfl ?_
  obtain ⟨v1, hv, h⟩ := zbd h
  refine zGo.call rfl rfl (M_in_g hv) ?_
  by_cases hb3 : ¬ v1 = 0
  · replace h := zif_t hb3 h
    refine zI_ne_t rfl hb3 ?_
    refine zGo.sts 1 (cf' := (15, [some (.ref 75), some (.int l1), none, none], [.ref 75], σ)) rfl ?_
    obtain ⟨σ2, hv, h⟩ := zbd h
    refine zGo.call rfl rfl (M_takes_g hv) ?_
    refine zGo.sts 4 (cf' := (22, [some (.ref 75), some (.int l1), some (.int 0), some (.int 0)], [], σ2)) rfl ?_
    exact M_many_g22 zF h
  · replace h := zif_f hb3 h
    refine zI_ne_f rfl hb3 ?_
    refine zGo.sts 1 (cf' := (13, [some (.ref 75), some (.int l1), none, none], [.int (-1)], σ)) rfl ?_
    obtain rfl := Option.some.inj h
    exact zGo.ret rfl rfl
def M_throttle_c33 : Nat → Int32 → Int32 → Int32 → Int32 → zSt → Option (Int32 × zSt)
  | 0, _, _, _, _, _ => none
  | n + 1, l1, l2, l3, l4, σ => if l4 < 0 then (if ¬ l1 = 0 then (some (l2, σ)) else (some (l3, σ))) else ((M_bits l4 σ).bind fun v5 => if l3 < v5 then (M_throttle_c33 n l1 l2 l3 (l4 + (-1)) σ) else (zb2 (M_isForcing l4 σ) fun v6 σ7 => if v6 = 0 then (M_throttle_c33 n l1 l2 l3 (l4 + (-1)) σ7) else ((M_bits l4 σ7).bind fun v8 => if (v8 + (σ7 75 15)) ≤ l3 then ((M_bits l4 σ7).bind fun v9 => M_throttle_c33 n l1 l4 (v9 + (σ7 75 15)) (l4 + (-1)) σ7) else (M_throttle_c33 n l1 l2 l3 (l4 + (-1)) σ7))))
theorem M_throttle_g33 : ∀ (n : Nat) {l1 : Int32} {l2 : Int32} {l3 : Int32} {l4 : Int32} {σ : zSt} {r : Int32 × zSt}, M_throttle_c33 n l1 l2 l3 l4 σ = some r → zGo zPT zmlc zP_189 (33, [some (.ref 75), some (.int l1), some (.int l2), some (.int l3), some (.int l4)], [], σ) (some (.int r.1), r.2) := by
  intro n
  induction n with
  | zero => intro l1 l2 l3 l4 σ r h; cases h
  | succ n ih =>
    intro l1 l2 l3 l4 σ r h
    rw [M_throttle_c33] at h
    refine zGo.sts 1 (cf' := (35, [some (.ref 75), some (.int l1), some (.int l2), some (.int l3), some (.int l4)], [.int l4], σ)) rfl ?_
    by_cases hb13 : l4 < 0
    · replace h := zif_t hb13 h
      refine zI_lt_t rfl hb13 ?_
      refine zGo.sts 1 (cf' := (94, [some (.ref 75), some (.int l1), some (.int l2), some (.int l3), some (.int l4)], [.int l1], σ)) rfl ?_
      by_cases hb4 : ¬ l1 = 0
      · replace h := zif_t hb4 h
        refine zI_ne_t rfl hb4 ?_
        refine zGo.sts 1 (cf' := (102, [some (.ref 75), some (.int l1), some (.int l2), some (.int l3), some (.int l4)], [.int l2], σ)) rfl ?_
        obtain rfl := Option.some.inj h
        exact zGo.ret rfl rfl
      · replace h := zif_f hb4 h
        refine zI_ne_f rfl hb4 ?_
        refine zGo.sts 2 (cf' := (102, [some (.ref 75), some (.int l1), some (.int l2), some (.int l3), some (.int l4)], [.int l3], σ)) rfl ?_
        obtain rfl := Option.some.inj h
        exact zGo.ret rfl rfl
    · replace h := zif_f hb13 h
      refine zI_lt_f rfl hb13 ?_
      refine zGo.sts 1 (cf' := (40, [some (.ref 75), some (.int l1), some (.int l2), some (.int l3), some (.int l4)], [.int l4], σ)) rfl ?_
      obtain ⟨v5, hv, h⟩ := zbd h
      refine zGo.call rfl rfl (M_bits_g hv) ?_
      refine zGo.sts 1 (cf' := (44, [some (.ref 75), some (.int l1), some (.int l2), some (.int l3), some (.int l4)], [.int l3, .int v5], σ)) rfl ?_
      by_cases hb12 : l3 < v5
      · replace h := zif_t hb12 h
        refine zC_gt_t rfl hb12 ?_
        refine zGo.sts 2 (cf' := (33, [some (.ref 75), some (.int l1), some (.int l2), some (.int l3), some (.int (l4 + (-1)))], [], σ)) rfl ?_
        exact ih h
      · replace h := zif_f hb12 h
        refine zC_gt_f rfl hb12 ?_
        refine zGo.sts 2 (cf' := (50, [some (.ref 75), some (.int l1), some (.int l2), some (.int l3), some (.int l4)], [.int l4, .ref 75], σ)) rfl ?_
        obtain ⟨v6, σ7, hv, h⟩ := zbd2 h
        refine zGo.call rfl rfl (M_isForcing_g hv) ?_
        by_cases hb11 : v6 = 0
        · replace h := zif_t hb11 h
          refine zI_eq_t rfl hb11 ?_
          refine zGo.sts 2 (cf' := (33, [some (.ref 75), some (.int l1), some (.int l2), some (.int l3), some (.int (l4 + (-1)))], [], σ7)) rfl ?_
          exact ih h
        · replace h := zif_f hb11 h
          refine zI_eq_f rfl hb11 ?_
          refine zGo.sts 1 (cf' := (58, [some (.ref 75), some (.int l1), some (.int l2), some (.int l3), some (.int l4)], [.int l4], σ7)) rfl ?_
          obtain ⟨v8, hv, h⟩ := zbd h
          refine zGo.call rfl rfl (M_bits_g hv) ?_
          refine zGo.sts 4 (cf' := (67, [some (.ref 75), some (.int l1), some (.int l2), some (.int l3), some (.int l4)], [.int l3, .int (v8 + (σ7 75 15))], σ7)) rfl ?_
          by_cases hb10 : (v8 + (σ7 75 15)) ≤ l3
          · replace h := zif_t hb10 h
            refine zC_le_t rfl hb10 ?_
            refine zGo.sts 3 (cf' := (78, [some (.ref 75), some (.int l1), some (.int l4), some (.int l3), some (.int l4)], [.int l4], σ7)) rfl ?_
            obtain ⟨v9, hv, h⟩ := zbd h
            refine zGo.call rfl rfl (M_bits_g hv) ?_
            refine zGo.sts 6 (cf' := (33, [some (.ref 75), some (.int l1), some (.int l4), some (.int (v9 + (σ7 75 15))), some (.int (l4 + (-1)))], [], σ7)) rfl ?_
            exact ih h
          · replace h := zif_f hb10 h
            refine zC_le_f rfl hb10 ?_
            refine zGo.sts 3 (cf' := (33, [some (.ref 75), some (.int l1), some (.int l2), some (.int l3), some (.int (l4 + (-1)))], [], σ7)) rfl ?_
            exact ih h
def M_throttle (l1 : Int32) (σ : zSt) : Option (Int32 × zSt) := (M_in l1 0 1 σ).bind fun v1 => if ¬ v1 = 0 then ((M_takes σ).bind fun σ2 => M_throttle_c33 zF l1 (σ2 75 14) (σ2 75 3) ((σ2 75 14) - 1) σ2) else (some ((-1), σ))
theorem M_throttle_g {l1 : Int32} {σ : zSt} {r : Int32 × zSt} (h : M_throttle l1 σ = some r) : zGo zPT zmlc (zPT 189) (0, zent (zmlc 189) [.ref 75, .int l1], [], σ) (some (.int r.1), r.2) := by
  unfold M_throttle at h
  show zGo zPT zmlc zP_189 (0, [some (.ref 75), some (.int l1), none, none, none], [], σ) _
  refine zGo.sts 3 (cf' := (3, [some (.ref 75), some (.int l1), none, none, none], [.int 1, .int 0, .int l1], σ)) rfl ?_
  obtain ⟨v1, hv, h⟩ := zbd h
  refine zGo.call rfl rfl (M_in_g hv) ?_
  by_cases hb3 : ¬ v1 = 0
  · replace h := zif_t hb3 h
    refine zI_ne_t rfl hb3 ?_
    refine zGo.sts 1 (cf' := (12, [some (.ref 75), some (.int l1), none, none, none], [.ref 75], σ)) rfl ?_
    obtain ⟨σ2, hv, h⟩ := zbd h
    refine zGo.call rfl rfl (M_takes_g hv) ?_
    refine zGo.sts 11 (cf' := (33, [some (.ref 75), some (.int l1), some (.int (σ2 75 14)), some (.int (σ2 75 3)), some (.int ((σ2 75 14) - 1))], [], σ2)) rfl ?_
    exact M_throttle_g33 zF h
  · replace h := zif_f hb3 h
    refine zI_ne_f rfl hb3 ?_
    refine zGo.sts 1 (cf' := (10, [some (.ref 75), some (.int l1), none, none, none], [.int (-1)], σ)) rfl ?_
    obtain rfl := Option.some.inj h
    exact zGo.ret rfl rfl
def M_leastNow (σ : zSt) : Option (Int32 × zSt) := (M_least σ).bind fun σ1 => some (σ1 75 16, σ1)
theorem M_leastNow_g {σ : zSt} {r : Int32 × zSt} (h : M_leastNow σ = some r) : zGo zPT zmlc (zPT 190) (0, zent (zmlc 190) [.ref 75], [], σ) (some (.int r.1), r.2) := by
  unfold M_leastNow at h
  show zGo zPT zmlc zP_190 (0, [some (.ref 75)], [], σ) _
  refine zGo.sts 1 (cf' := (1, [some (.ref 75)], [.ref 75], σ)) rfl ?_
  obtain ⟨σ1, hv, h⟩ := zbd h
  refine zGo.call rfl rfl (M_least_g hv) ?_
  refine zGo.sts 2 (cf' := (8, [some (.ref 75)], [.int (σ1 75 16)], σ1)) rfl ?_
  obtain rfl := Option.some.inj h
  exact zGo.ret rfl rfl
def M_spread (l1 : Int32) (σ : zSt) : Option (Int32 × zSt) := (M_isPoint l1 σ).bind fun v1 => if ¬ v1 = 0 then ((M_takes σ).bind fun σ2 => zb2 (M_leastNow σ2) fun v3 σ4 => (M_drops l1 σ4).bind fun σ5 => zb2 (M_leastNow σ5) fun v6 σ7 => some (v3 - v6, σ7)) else (some ((-2147483648), σ))
theorem M_spread_g {l1 : Int32} {σ : zSt} {r : Int32 × zSt} (h : M_spread l1 σ = some r) : zGo zPT zmlc (zPT 191) (0, zent (zmlc 191) [.ref 75, .int l1], [], σ) (some (.int r.1), r.2) := by
  unfold M_spread at h
  show zGo zPT zmlc zP_191 (0, [some (.ref 75), some (.int l1), none], [], σ) _
  refine zGo.sts 2 (cf' := (2, [some (.ref 75), some (.int l1), none], [.int l1, .ref 75], σ)) rfl ?_
  obtain ⟨v1, hv, h⟩ := zbd h
  refine zGo.call rfl rfl (M_isPoint_g hv) ?_
  by_cases hb8 : ¬ v1 = 0
  · replace h := zif_t hb8 h
    refine zI_ne_t rfl hb8 ?_
    refine zGo.sts 1 (cf' := (12, [some (.ref 75), some (.int l1), none], [.ref 75], σ)) rfl ?_
    obtain ⟨σ2, hv, h⟩ := zbd h
    refine zGo.call rfl rfl (M_takes_g hv) ?_
    refine zGo.sts 1 (cf' := (16, [some (.ref 75), some (.int l1), none], [.ref 75], σ2)) rfl ?_
    obtain ⟨v3, σ4, hv, h⟩ := zbd2 h
    refine zGo.call rfl rfl (M_leastNow_g hv) ?_
    refine zGo.sts 3 (cf' := (22, [some (.ref 75), some (.int l1), some (.int v3)], [.int l1, .ref 75], σ4)) rfl ?_
    obtain ⟨σ5, hv, h⟩ := zbd h
    refine zGo.call rfl rfl (M_drops_g hv) ?_
    refine zGo.sts 2 (cf' := (27, [some (.ref 75), some (.int l1), some (.int v3)], [.ref 75, .int v3], σ5)) rfl ?_
    obtain ⟨v6, σ7, hv, h⟩ := zbd2 h
    refine zGo.call rfl rfl (M_leastNow_g hv) ?_
    refine zGo.sts 1 (cf' := (31, [some (.ref 75), some (.int l1), some (.int v3)], [.int (v3 - v6)], σ7)) rfl ?_
    obtain rfl := Option.some.inj h
    exact zGo.ret rfl rfl
  · replace h := zif_f hb8 h
    refine zI_ne_f rfl hb8 ?_
    refine zGo.sts 1 (cf' := (10, [some (.ref 75), some (.int l1), none], [.int (-2147483648)], σ)) rfl ?_
    obtain rfl := Option.some.inj h
    exact zGo.ret rfl rfl
def M_turned (l1 : Int32) (l2 : Int32) (σ : zSt) : Option (Int32 × zSt) := (M_takes σ).bind fun σ1 => (M_turns l1 l2 σ1).bind fun σ2 => zb2 (M_leastNow σ2) fun v3 σ4 => some (v3, σ4)
theorem M_turned_g {l1 : Int32} {l2 : Int32} {σ : zSt} {r : Int32 × zSt} (h : M_turned l1 l2 σ = some r) : zGo zPT zmlc (zPT 192) (0, zent (zmlc 192) [.ref 75, .int l1, .int l2], [], σ) (some (.int r.1), r.2) := by
  unfold M_turned at h
  show zGo zPT zmlc zP_192 (0, [some (.ref 75), some (.int l1), some (.int l2)], [], σ) _
  refine zGo.sts 1 (cf' := (1, [some (.ref 75), some (.int l1), some (.int l2)], [.ref 75], σ)) rfl ?_
  obtain ⟨σ1, hv, h⟩ := zbd h
  refine zGo.call rfl rfl (M_takes_g hv) ?_
  refine zGo.sts 3 (cf' := (7, [some (.ref 75), some (.int l1), some (.int l2)], [.int l2, .int l1, .ref 75], σ1)) rfl ?_
  obtain ⟨σ2, hv, h⟩ := zbd h
  refine zGo.call rfl rfl (M_turns_g hv) ?_
  refine zGo.sts 1 (cf' := (11, [some (.ref 75), some (.int l1), some (.int l2)], [.ref 75], σ2)) rfl ?_
  obtain ⟨v3, σ4, hv, h⟩ := zbd2 h
  refine zGo.call rfl rfl (M_leastNow_g hv) ?_
  obtain rfl := Option.some.inj h
  exact zGo.ret rfl rfl
def M_lineSpread (l1 : Int32) (l2 : Int32) (σ : zSt) : Option (Int32 × zSt) := (M_areTwo l1 l2 σ).bind fun v1 => if ¬ v1 = 0 then ((M_takes σ).bind fun σ2 => zb2 (M_leastNow σ2) fun v3 σ4 => zb2 (M_turned l1 l2 σ4) fun v5 σ6 => some (v3 - v5, σ6)) else (some ((-2147483648), σ))
theorem M_lineSpread_g {l1 : Int32} {l2 : Int32} {σ : zSt} {r : Int32 × zSt} (h : M_lineSpread l1 l2 σ = some r) : zGo zPT zmlc (zPT 193) (0, zent (zmlc 193) [.ref 75, .int l1, .int l2], [], σ) (some (.int r.1), r.2) := by
  unfold M_lineSpread at h
  show zGo zPT zmlc zP_193 (0, [some (.ref 75), some (.int l1), some (.int l2), none], [], σ) _
  refine zGo.sts 3 (cf' := (3, [some (.ref 75), some (.int l1), some (.int l2), none], [.int l2, .int l1, .ref 75], σ)) rfl ?_
  obtain ⟨v1, hv, h⟩ := zbd h
  refine zGo.call rfl rfl (M_areTwo_g hv) ?_
  by_cases hb7 : ¬ v1 = 0
  · replace h := zif_t hb7 h
    refine zI_ne_t rfl hb7 ?_
    refine zGo.sts 1 (cf' := (13, [some (.ref 75), some (.int l1), some (.int l2), none], [.ref 75], σ)) rfl ?_
    obtain ⟨σ2, hv, h⟩ := zbd h
    refine zGo.call rfl rfl (M_takes_g hv) ?_
    refine zGo.sts 1 (cf' := (17, [some (.ref 75), some (.int l1), some (.int l2), none], [.ref 75], σ2)) rfl ?_
    obtain ⟨v3, σ4, hv, h⟩ := zbd2 h
    refine zGo.call rfl rfl (M_leastNow_g hv) ?_
    refine zGo.sts 5 (cf' := (25, [some (.ref 75), some (.int l1), some (.int l2), some (.int v3)], [.int l2, .int l1, .ref 75, .int v3], σ4)) rfl ?_
    obtain ⟨v5, σ6, hv, h⟩ := zbd2 h
    refine zGo.call rfl rfl (M_turned_g hv) ?_
    refine zGo.sts 1 (cf' := (29, [some (.ref 75), some (.int l1), some (.int l2), some (.int v3)], [.int (v3 - v5)], σ6)) rfl ?_
    obtain rfl := Option.some.inj h
    exact zGo.ret rfl rfl
  · replace h := zif_f hb7 h
    refine zI_ne_f rfl hb7 ?_
    refine zGo.sts 1 (cf' := (11, [some (.ref 75), some (.int l1), some (.int l2), none], [.int (-2147483648)], σ)) rfl ?_
    obtain rfl := Option.some.inj h
    exact zGo.ret rfl rfl

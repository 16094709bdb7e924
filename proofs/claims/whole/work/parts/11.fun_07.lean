/-! the methods as functions, by program -/
def M_row_c55 : Nat → Int32 → Int32 → zSt → Option (Int32 × zSt)
  | 0, _, _, _ => none
  | n + 1, l1, l3, σ => if 40 ≤ l3 then (some (1, σ)) else ((zst σ 90 ((40 * l1) + l3) 0).bind fun σ9 => M_row_c55 n l1 (l3 + 1) σ9)
theorem M_row_g55 : ∀ (n : Nat) {d2 : Option Value} {l1 : Int32} {l3 : Int32} {σ : zSt} {r : Int32 × zSt}, M_row_c55 n l1 l3 σ = some r → zGo zPT zmlc zP_215 (55, [some (.ref 75), some (.int l1), d2, some (.int l3)], [], σ) (some (.int r.1), r.2) := by
  intro n
  induction n with
  | zero => intro d2 l1 l3 σ r h; cases h
  | succ n ih =>
    intro d2 l1 l3 σ r h
    rw [M_row_c55] at h
    refine zGo.sts 2 (cf' := (58, [some (.ref 75), some (.int l1), d2, some (.int l3)], [.int 40, .int l3], σ)) rfl ?_
    by_cases hb10 : 40 ≤ l3
    · replace h := zif_t hb10 h
      refine zC_ge_t rfl hb10 ?_
      refine zGo.sts 1 (cf' := (80, [some (.ref 75), some (.int l1), d2, some (.int l3)], [.int 1], σ)) rfl ?_
      obtain rfl := Option.some.inj h
      exact zGo.ret rfl rfl
    · replace h := zif_f hb10 h
      refine zC_ge_f rfl hb10 ?_
      refine zGo.sts 8 (cf' := (72, [some (.ref 75), some (.int l1), d2, some (.int l3)], [.int 0, .int ((40 * l1) + l3), .ref 90], σ)) rfl ?_
      obtain ⟨σ9, hv, h⟩ := zbd h
      refine zG_st rfl hv ?_
      refine zGo.sts 2 (cf' := (55, [some (.ref 75), some (.int l1), d2, some (.int (l3 + 1))], [], σ9)) rfl ?_
      exact ih h
def M_row_c52 (l1 : Int32) (t0 : Int32) (t1 : Int32) (σ : zSt) : Option (Int32 × zSt) := (zst σ 89 t1 t0).bind fun σ8 => M_row_c55 zF l1 0 σ8
theorem M_row_g52 {d2 : Option Value} {d3 : Option Value} {l1 : Int32} {t0 : Int32} {t1 : Int32} {σ : zSt} {r : Int32 × zSt} (h : M_row_c52 l1 t0 t1 σ = some r) : zGo zPT zmlc zP_215 (52, [some (.ref 75), some (.int l1), d2, d3], [.int t0, .int t1, .ref 89], σ) (some (.int r.1), r.2) := by
  unfold M_row_c52 at h
  obtain ⟨σ8, hv, h⟩ := zbd h
  refine zG_st rfl hv ?_
  refine zGo.sts 2 (cf' := (55, [some (.ref 75), some (.int l1), d2, some (.int 0)], [], σ8)) rfl ?_
  exact M_row_g55 zF h
def M_row_c37 (l1 : Int32) (l2 : Int32) (t0 : Int32) (t1 : Int32) (σ : zSt) : Option (Int32 × zSt) := (zzst σ 88 t1 t0).bind fun σ6 => if 0 ≤ l2 then (M_row_c52 l1 l2 l1 σ6) else (M_row_c52 l1 0 l1 σ6)
theorem M_row_g37 {d3 : Option Value} {l1 : Int32} {l2 : Int32} {t0 : Int32} {t1 : Int32} {σ : zSt} {r : Int32 × zSt} (h : M_row_c37 l1 l2 t0 t1 σ = some r) : zGo zPT zmlc zP_215 (37, [some (.ref 75), some (.int l1), some (.int l2), d3], [.int t0, .int t1, .ref 88], σ) (some (.int r.1), r.2) := by
  unfold M_row_c37 at h
  obtain ⟨σ6, hv, h⟩ := zbd h
  refine zG_zst rfl hv ?_
  refine zGo.sts 4 (cf' := (44, [some (.ref 75), some (.int l1), some (.int l2), d3], [.int l2, .int l1, .ref 89], σ6)) rfl ?_
  by_cases hb7 : 0 ≤ l2
  · replace h := zif_t hb7 h
    refine zI_ge_t rfl hb7 ?_
    refine zGo.sts 1 (cf' := (52, [some (.ref 75), some (.int l1), some (.int l2), d3], [.int l2, .int l1, .ref 89], σ6)) rfl ?_
    exact M_row_g52 h
  · replace h := zif_f hb7 h
    refine zI_ge_f rfl hb7 ?_
    refine zGo.sts 2 (cf' := (52, [some (.ref 75), some (.int l1), some (.int l2), d3], [.int 0, .int l1, .ref 89], σ6)) rfl ?_
    exact M_row_g52 h
def M_row (l1 : Int32) (l2 : Int32) (σ : zSt) : Option (Int32 × zSt) := (M_isRow l1 σ).bind fun v1 => if v1 = 0 then (some ((-1), σ)) else (if l2 ≤ 40 then (if (-1) ≤ l2 then (if l2 < 0 then (M_row_c37 l1 l2 0 l1 σ) else (M_row_c37 l1 l2 1 l1 σ)) else (some ((-14), σ))) else (some ((-1), σ)))
theorem M_row_g {l1 : Int32} {l2 : Int32} {σ : zSt} {r : Int32 × zSt} (h : M_row l1 l2 σ = some r) : zGo zPT zmlc (zPT 215) (0, zent (zmlc 215) [.ref 75, .int l1, .int l2], [], σ) (some (.int r.1), r.2) := by
  unfold M_row at h
  show zGo zPT zmlc zP_215 (0, [some (.ref 75), some (.int l1), some (.int l2), none], [], σ) _
  refine zGo.sts 1 (cf' := (1, [some (.ref 75), some (.int l1), some (.int l2), none], [.int l1], σ)) rfl ?_
  obtain ⟨v1, hv, h⟩ := zbd h
  refine zGo.call rfl rfl (M_isRow_g hv) ?_
  by_cases hb5 : v1 = 0
  · replace h := zif_t hb5 h
    refine zI_eq_t rfl hb5 ?_
    refine zGo.sts 1 (cf' := (14, [some (.ref 75), some (.int l1), some (.int l2), none], [.int (-1)], σ)) rfl ?_
    obtain rfl := Option.some.inj h
    exact zGo.ret rfl rfl
  · replace h := zif_f hb5 h
    refine zI_eq_f rfl hb5 ?_
    refine zGo.sts 2 (cf' := (10, [some (.ref 75), some (.int l1), some (.int l2), none], [.int 40, .int l2], σ)) rfl ?_
    by_cases hb4 : l2 ≤ 40
    · replace h := zif_t hb4 h
      refine zC_le_t rfl hb4 ?_
      refine zGo.sts 2 (cf' := (17, [some (.ref 75), some (.int l1), some (.int l2), none], [.int (-1), .int l2], σ)) rfl ?_
      by_cases hb3 : (-1) ≤ l2
      · replace h := zif_t hb3 h
        refine zC_ge_t rfl hb3 ?_
        refine zGo.sts 4 (cf' := (29, [some (.ref 75), some (.int l1), some (.int l2), none], [.int l2, .int l1, .ref 88], σ)) rfl ?_
        by_cases hb2 : l2 < 0
        · replace h := zif_t hb2 h
          refine zI_lt_t rfl hb2 ?_
          refine zGo.sts 1 (cf' := (37, [some (.ref 75), some (.int l1), some (.int l2), none], [.int 0, .int l1, .ref 88], σ)) rfl ?_
          exact M_row_g37 h
        · replace h := zif_f hb2 h
          refine zI_lt_f rfl hb2 ?_
          refine zGo.sts 2 (cf' := (37, [some (.ref 75), some (.int l1), some (.int l2), none], [.int 1, .int l1, .ref 88], σ)) rfl ?_
          exact M_row_g37 h
      · replace h := zif_f hb3 h
        refine zC_ge_f rfl hb3 ?_
        refine zGo.sts 1 (cf' := (22, [some (.ref 75), some (.int l1), some (.int l2), none], [.int (-14)], σ)) rfl ?_
        obtain rfl := Option.some.inj h
        exact zGo.ret rfl rfl
    · replace h := zif_f hb4 h
      refine zC_le_f rfl hb4 ?_
      refine zGo.sts 1 (cf' := (14, [some (.ref 75), some (.int l1), some (.int l2), none], [.int (-1)], σ)) rfl ?_
      obtain rfl := Option.some.inj h
      exact zGo.ret rfl rfl
def M_put (l1 : Int32) (l2 : Int32) (l3 : Int32) (σ : zSt) : Option (Int32 × zSt) := (M_isRow l1 σ).bind fun v1 => if ¬ v1 = 0 then ((zzld σ 88 l1).bind fun v2 => if ¬ v2 = 0 then ((zld σ 89 l1).bind fun v3 => (M_in l2 0 (v3 - 1) σ).bind fun v4 => if ¬ v4 = 0 then ((zst σ 90 ((40 * l1) + l2) l3).bind fun σ5 => some (1, σ5)) else (some ((-13), σ))) else (some ((-11), σ))) else (some ((-1), σ))
theorem M_put_g {l1 : Int32} {l2 : Int32} {l3 : Int32} {σ : zSt} {r : Int32 × zSt} (h : M_put l1 l2 l3 σ = some r) : zGo zPT zmlc (zPT 216) (0, zent (zmlc 216) [.ref 75, .int l1, .int l2, .int l3], [], σ) (some (.int r.1), r.2) := by
  unfold M_put at h
  show zGo zPT zmlc zP_216 (0, [some (.ref 75), some (.int l1), some (.int l2), some (.int l3)], [], σ) _
  refine zGo.sts 1 (cf' := (1, [some (.ref 75), some (.int l1), some (.int l2), some (.int l3)], [.int l1], σ)) rfl ?_
  obtain ⟨v1, hv, h⟩ := zbd h
  refine zGo.call rfl rfl (M_isRow_g hv) ?_
  by_cases hb8 : ¬ v1 = 0
  · replace h := zif_t hb8 h
    refine zI_ne_t rfl hb8 ?_
    refine zGo.sts 3 (cf' := (14, [some (.ref 75), some (.int l1), some (.int l2), some (.int l3)], [.int l1, .ref 88], σ)) rfl ?_
    obtain ⟨v2, hv, h⟩ := zbd h
    refine zG_zld rfl hv ?_
    by_cases hb7 : ¬ v2 = 0
    · replace h := zif_t hb7 h
      refine zI_ne_t rfl hb7 ?_
      refine zGo.sts 5 (cf' := (28, [some (.ref 75), some (.int l1), some (.int l2), some (.int l3)], [.int l1, .ref 89, .int 0, .int l2], σ)) rfl ?_
      obtain ⟨v3, hv, h⟩ := zbd h
      refine zG_ld rfl hv ?_
      refine zGo.sts 2 (cf' := (31, [some (.ref 75), some (.int l1), some (.int l2), some (.int l3)], [.int (v3 - 1), .int 0, .int l2], σ)) rfl ?_
      obtain ⟨v4, hv, h⟩ := zbd h
      refine zGo.call rfl rfl (M_in_g hv) ?_
      by_cases hb6 : ¬ v4 = 0
      · replace h := zif_t hb6 h
        refine zI_ne_t rfl hb6 ?_
        refine zGo.sts 8 (cf' := (51, [some (.ref 75), some (.int l1), some (.int l2), some (.int l3)], [.int l3, .int ((40 * l1) + l2), .ref 90], σ)) rfl ?_
        obtain ⟨σ5, hv, h⟩ := zbd h
        refine zG_st rfl hv ?_
        refine zGo.sts 1 (cf' := (53, [some (.ref 75), some (.int l1), some (.int l2), some (.int l3)], [.int 1], σ5)) rfl ?_
        obtain rfl := Option.some.inj h
        exact zGo.ret rfl rfl
      · replace h := zif_f hb6 h
        refine zI_ne_f rfl hb6 ?_
        refine zGo.sts 1 (cf' := (39, [some (.ref 75), some (.int l1), some (.int l2), some (.int l3)], [.int (-13)], σ)) rfl ?_
        obtain rfl := Option.some.inj h
        exact zGo.ret rfl rfl
    · replace h := zif_f hb7 h
      refine zI_ne_f rfl hb7 ?_
      refine zGo.sts 1 (cf' := (20, [some (.ref 75), some (.int l1), some (.int l2), some (.int l3)], [.int (-11)], σ)) rfl ?_
      obtain rfl := Option.some.inj h
      exact zGo.ret rfl rfl
  · replace h := zif_f hb8 h
    refine zI_ne_f rfl hb8 ?_
    refine zGo.sts 1 (cf' := (8, [some (.ref 75), some (.int l1), some (.int l2), some (.int l3)], [.int (-1)], σ)) rfl ?_
    obtain rfl := Option.some.inj h
    exact zGo.ret rfl rfl
def M_get (l1 : Int32) (l2 : Int32) (σ : zSt) : Option (Int32) := (M_isRow l1 σ).bind fun v1 => if v1 = 0 then (some (-2147483648)) else ((zzld σ 88 l1).bind fun v2 => if v2 = 0 then (some (-2147483648)) else ((zld σ 89 l1).bind fun v3 => (M_in l2 0 (v3 - 1) σ).bind fun v4 => if v4 = 0 then (some (-2147483648)) else ((zld σ 90 ((40 * l1) + l2)).bind fun v5 => some v5)))
theorem M_get_g {l1 : Int32} {l2 : Int32} {σ : zSt} {r : Int32} (h : M_get l1 l2 σ = some r) : zGo zPT zmlc (zPT 217) (0, zent (zmlc 217) [.ref 75, .int l1, .int l2], [], σ) (some (.int r), σ) := by
  unfold M_get at h
  show zGo zPT zmlc zP_217 (0, [some (.ref 75), some (.int l1), some (.int l2)], [], σ) _
  refine zGo.sts 1 (cf' := (1, [some (.ref 75), some (.int l1), some (.int l2)], [.int l1], σ)) rfl ?_
  obtain ⟨v1, hv, h⟩ := zbd h
  refine zGo.call rfl rfl (M_isRow_g hv) ?_
  by_cases hb8 : v1 = 0
  · replace h := zif_t hb8 h
    refine zI_eq_t rfl hb8 ?_
    refine zGo.sts 1 (cf' := (48, [some (.ref 75), some (.int l1), some (.int l2)], [.int (-2147483648)], σ)) rfl ?_
    obtain rfl := Option.some.inj h
    exact zGo.ret rfl rfl
  · replace h := zif_f hb8 h
    refine zI_eq_f rfl hb8 ?_
    refine zGo.sts 3 (cf' := (12, [some (.ref 75), some (.int l1), some (.int l2)], [.int l1, .ref 88], σ)) rfl ?_
    obtain ⟨v2, hv, h⟩ := zbd h
    refine zG_zld rfl hv ?_
    by_cases hb7 : v2 = 0
    · replace h := zif_t hb7 h
      refine zI_eq_t rfl hb7 ?_
      refine zGo.sts 1 (cf' := (48, [some (.ref 75), some (.int l1), some (.int l2)], [.int (-2147483648)], σ)) rfl ?_
      obtain rfl := Option.some.inj h
      exact zGo.ret rfl rfl
    · replace h := zif_f hb7 h
      refine zI_eq_f rfl hb7 ?_
      refine zGo.sts 5 (cf' := (23, [some (.ref 75), some (.int l1), some (.int l2)], [.int l1, .ref 89, .int 0, .int l2], σ)) rfl ?_
      obtain ⟨v3, hv, h⟩ := zbd h
      refine zG_ld rfl hv ?_
      refine zGo.sts 2 (cf' := (26, [some (.ref 75), some (.int l1), some (.int l2)], [.int (v3 - 1), .int 0, .int l2], σ)) rfl ?_
      obtain ⟨v4, hv, h⟩ := zbd h
      refine zGo.call rfl rfl (M_in_g hv) ?_
      by_cases hb6 : v4 = 0
      · replace h := zif_t hb6 h
        refine zI_eq_t rfl hb6 ?_
        refine zGo.sts 1 (cf' := (48, [some (.ref 75), some (.int l1), some (.int l2)], [.int (-2147483648)], σ)) rfl ?_
        obtain rfl := Option.some.inj h
        exact zGo.ret rfl rfl
      · replace h := zif_f hb6 h
        refine zI_eq_f rfl hb6 ?_
        refine zGo.sts 7 (cf' := (42, [some (.ref 75), some (.int l1), some (.int l2)], [.int ((40 * l1) + l2), .ref 90], σ)) rfl ?_
        obtain ⟨v5, hv, h⟩ := zbd h
        refine zG_ld rfl hv ?_
        refine zGo.sts 1 (cf' := (48, [some (.ref 75), some (.int l1), some (.int l2)], [.int v5], σ)) rfl ?_
        obtain rfl := Option.some.inj h
        exact zGo.ret rfl rfl
def M_film_c46 : Nat → Int32 → Int32 → Int32 → Int32 → zSt → Option (Int32 × zSt)
  | 0, _, _, _, _, _ => none
  | n + 1, l1, l3, l4, l5, σ => if l3 < l5 then (some (l3 + 1, σ)) else ((zst σ 90 ((40 * l1) + l5) l4).bind fun σ10 => (M_round l4 (σ10 75 4) (σ10 75 5) l5 σ10).bind fun v11 => M_film_c46 n l1 l3 v11 (l5 + 1) σ10)
theorem M_film_g46 : ∀ (n : Nat) {d2 : Option Value} {l1 : Int32} {l3 : Int32} {l4 : Int32} {l5 : Int32} {σ : zSt} {r : Int32 × zSt}, M_film_c46 n l1 l3 l4 l5 σ = some r → zGo zPT zmlc zP_218 (46, [some (.ref 75), some (.int l1), d2, some (.int l3), some (.int l4), some (.int l5)], [], σ) (some (.int r.1), r.2) := by
  intro n
  induction n with
  | zero => intro d2 l1 l3 l4 l5 σ r h; cases h
  | succ n ih =>
    intro d2 l1 l3 l4 l5 σ r h
    rw [M_film_c46] at h
    refine zGo.sts 2 (cf' := (49, [some (.ref 75), some (.int l1), d2, some (.int l3), some (.int l4), some (.int l5)], [.int l3, .int l5], σ)) rfl ?_
    by_cases hb12 : l3 < l5
    · replace h := zif_t hb12 h
      refine zC_gt_t rfl hb12 ?_
      refine zGo.sts 3 (cf' := (93, [some (.ref 75), some (.int l1), d2, some (.int l3), some (.int l4), some (.int l5)], [.int (l3 + 1)], σ)) rfl ?_
      obtain rfl := Option.some.inj h
      exact zGo.ret rfl rfl
    · replace h := zif_f hb12 h
      refine zC_gt_f rfl hb12 ?_
      refine zGo.sts 8 (cf' := (65, [some (.ref 75), some (.int l1), d2, some (.int l3), some (.int l4), some (.int l5)], [.int l4, .int ((40 * l1) + l5), .ref 90], σ)) rfl ?_
      obtain ⟨σ10, hv, h⟩ := zbd h
      refine zG_st rfl hv ?_
      refine zGo.sts 7 (cf' := (79, [some (.ref 75), some (.int l1), d2, some (.int l3), some (.int l4), some (.int l5)], [.int l5, .int (σ10 75 5), .int (σ10 75 4), .int l4, .ref 75], σ10)) rfl ?_
      obtain ⟨v11, hv, h⟩ := zbd h
      refine zGo.call rfl rfl (M_round_g hv) ?_
      refine zGo.sts 3 (cf' := (46, [some (.ref 75), some (.int l1), d2, some (.int l3), some (.int v11), some (.int (l5 + 1))], [], σ10)) rfl ?_
      exact ih h
def M_film (l1 : Int32) (l2 : Int32) (l3 : Int32) (σ : zSt) : Option (Int32 × zSt) := (M_isRow l1 σ).bind fun v1 => if v1 = 0 then (some ((-1), σ)) else ((M_isSet l2 σ).bind fun v2 => if v2 = 0 then (some ((-1), σ)) else ((M_in l3 0 39 σ).bind fun v3 => if ¬ v3 = 0 then (zb2 (M_row l1 (l3 + 1) σ) fun v4 σ5 => (M_takes σ5).bind fun σ6 => M_film_c46 zF l1 l3 l2 0 σ6) else (some ((-1), σ))))
theorem M_film_g {l1 : Int32} {l2 : Int32} {l3 : Int32} {σ : zSt} {r : Int32 × zSt} (h : M_film l1 l2 l3 σ = some r) : zGo zPT zmlc (zPT 218) (0, zent (zmlc 218) [.ref 75, .int l1, .int l2, .int l3], [], σ) (some (.int r.1), r.2) := by
  unfold M_film at h
  show zGo zPT zmlc zP_218 (0, [some (.ref 75), some (.int l1), some (.int l2), some (.int l3), none, none], [], σ) _
  refine zGo.sts 1 (cf' := (1, [some (.ref 75), some (.int l1), some (.int l2), some (.int l3), none, none], [.int l1], σ)) rfl ?_
  obtain ⟨v1, hv, h⟩ := zbd h
  refine zGo.call rfl rfl (M_isRow_g hv) ?_
  by_cases hb9 : v1 = 0
  · replace h := zif_t hb9 h
    refine zI_eq_t rfl hb9 ?_
    refine zGo.sts 1 (cf' := (26, [some (.ref 75), some (.int l1), some (.int l2), some (.int l3), none, none], [.int (-1)], σ)) rfl ?_
    obtain rfl := Option.some.inj h
    exact zGo.ret rfl rfl
  · replace h := zif_f hb9 h
    refine zI_eq_f rfl hb9 ?_
    refine zGo.sts 2 (cf' := (9, [some (.ref 75), some (.int l1), some (.int l2), some (.int l3), none, none], [.int l2, .ref 75], σ)) rfl ?_
    obtain ⟨v2, hv, h⟩ := zbd h
    refine zGo.call rfl rfl (M_isSet_g hv) ?_
    by_cases hb8 : v2 = 0
    · replace h := zif_t hb8 h
      refine zI_eq_t rfl hb8 ?_
      refine zGo.sts 1 (cf' := (26, [some (.ref 75), some (.int l1), some (.int l2), some (.int l3), none, none], [.int (-1)], σ)) rfl ?_
      obtain rfl := Option.some.inj h
      exact zGo.ret rfl rfl
    · replace h := zif_f hb8 h
      refine zI_eq_f rfl hb8 ?_
      refine zGo.sts 3 (cf' := (19, [some (.ref 75), some (.int l1), some (.int l2), some (.int l3), none, none], [.int 39, .int 0, .int l3], σ)) rfl ?_
      obtain ⟨v3, hv, h⟩ := zbd h
      refine zGo.call rfl rfl (M_in_g hv) ?_
      by_cases hb7 : ¬ v3 = 0
      · replace h := zif_t hb7 h
        refine zI_ne_t rfl hb7 ?_
        refine zGo.sts 5 (cf' := (32, [some (.ref 75), some (.int l1), some (.int l2), some (.int l3), none, none], [.int (l3 + 1), .int l1, .ref 75], σ)) rfl ?_
        obtain ⟨v4, σ5, hv, h⟩ := zbd2 h
        refine zGo.call rfl rfl (M_row_g hv) ?_
        refine zGo.sts 2 (cf' := (37, [some (.ref 75), some (.int l1), some (.int l2), some (.int l3), none, none], [.ref 75], σ5)) rfl ?_
        obtain ⟨σ6, hv, h⟩ := zbd h
        refine zGo.call rfl rfl (M_takes_g hv) ?_
        refine zGo.sts 4 (cf' := (46, [some (.ref 75), some (.int l1), some (.int l2), some (.int l3), some (.int l2), some (.int 0)], [], σ6)) rfl ?_
        exact M_film_g46 zF h
      · replace h := zif_f hb7 h
        refine zI_ne_f rfl hb7 ?_
        refine zGo.sts 1 (cf' := (26, [some (.ref 75), some (.int l1), some (.int l2), some (.int l3), none, none], [.int (-1)], σ)) rfl ?_
        obtain rfl := Option.some.inj h
        exact zGo.ret rfl rfl
def M_isSo_c25 (σ : zSt) : Nat → Int32 → Int32 → Int32 → Int32 → Int32 → Int32 → Option (Int32)
  | 0, _, _, _, _, _, _ => none
  | n + 1, l1, l2, l3, l4, l5, l6 => if l2 ≤ l6 then (some 1) else ((M_round l5 l3 l4 (l6 - 1) σ).bind fun v4 => (zld σ 90 ((40 * l1) + l6)).bind fun v5 => if v4 = v5 then (M_isSo_c25 σ n l1 l2 l3 l4 v4 (l6 + 1)) else (some 0))
theorem M_isSo_g25 {σ : zSt} : ∀ (n : Nat) {l1 : Int32} {l2 : Int32} {l3 : Int32} {l4 : Int32} {l5 : Int32} {l6 : Int32} {r : Int32}, M_isSo_c25 σ n l1 l2 l3 l4 l5 l6 = some r → zGo zPT zmlc zP_219 (25, [some (.ref 75), some (.int l1), some (.int l2), some (.int l3), some (.int l4), some (.int l5), some (.int l6)], [], σ) (some (.int r), σ) := by
  intro n
  induction n with
  | zero => intro l1 l2 l3 l4 l5 l6 r h; cases h
  | succ n ih =>
    intro l1 l2 l3 l4 l5 l6 r h
    rw [M_isSo_c25] at h
    refine zGo.sts 2 (cf' := (28, [some (.ref 75), some (.int l1), some (.int l2), some (.int l3), some (.int l4), some (.int l5), some (.int l6)], [.int l2, .int l6], σ)) rfl ?_
    by_cases hb7 : l2 ≤ l6
    · replace h := zif_t hb7 h
      refine zC_ge_t rfl hb7 ?_
      refine zGo.sts 1 (cf' := (72, [some (.ref 75), some (.int l1), some (.int l2), some (.int l3), some (.int l4), some (.int l5), some (.int l6)], [.int 1], σ)) rfl ?_
      obtain rfl := Option.some.inj h
      exact zGo.ret rfl rfl
    · replace h := zif_f hb7 h
      refine zC_ge_f rfl hb7 ?_
      refine zGo.sts 7 (cf' := (41, [some (.ref 75), some (.int l1), some (.int l2), some (.int l3), some (.int l4), some (.int l5), some (.int l6)], [.int (l6 - 1), .int l4, .int l3, .int l5, .ref 75], σ)) rfl ?_
      obtain ⟨v4, hv, h⟩ := zbd h
      refine zGo.call rfl rfl (M_round_g hv) ?_
      refine zGo.sts 9 (cf' := (59, [some (.ref 75), some (.int l1), some (.int l2), some (.int l3), some (.int l4), some (.int v4), some (.int l6)], [.int ((40 * l1) + l6), .ref 90, .int v4], σ)) rfl ?_
      obtain ⟨v5, hv, h⟩ := zbd h
      refine zG_ld rfl hv ?_
      by_cases hb6 : v4 = v5
      · replace h := zif_t hb6 h
        refine zC_eq_t rfl hb6 ?_
        refine zGo.sts 2 (cf' := (25, [some (.ref 75), some (.int l1), some (.int l2), some (.int l3), some (.int l4), some (.int v4), some (.int (l6 + 1))], [], σ)) rfl ?_
        exact ih h
      · replace h := zif_f hb6 h
        refine zC_eq_f rfl hb6 ?_
        refine zGo.sts 1 (cf' := (64, [some (.ref 75), some (.int l1), some (.int l2), some (.int l3), some (.int l4), some (.int v4), some (.int l6)], [.int 0], σ)) rfl ?_
        obtain rfl := Option.some.inj h
        exact zGo.ret rfl rfl
def M_isSo (l1 : Int32) (l2 : Int32) (l3 : Int32) (l4 : Int32) (σ : zSt) : Option (Int32) := (zld σ 90 (40 * l1)).bind fun v1 => (M_isSet v1 σ).bind fun v2 => if ¬ v2 = 0 then (M_isSo_c25 σ zF l1 l2 l3 l4 v1 1) else (some 0)
theorem M_isSo_g {l1 : Int32} {l2 : Int32} {l3 : Int32} {l4 : Int32} {σ : zSt} {r : Int32} (h : M_isSo l1 l2 l3 l4 σ = some r) : zGo zPT zmlc (zPT 219) (0, zent (zmlc 219) [.ref 75, .int l1, .int l2, .int l3, .int l4], [], σ) (some (.int r), σ) := by
  unfold M_isSo at h
  show zGo zPT zmlc zP_219 (0, [some (.ref 75), some (.int l1), some (.int l2), some (.int l3), some (.int l4), none, none], [], σ) _
  refine zGo.sts 5 (cf' := (8, [some (.ref 75), some (.int l1), some (.int l2), some (.int l3), some (.int l4), none, none], [.int (40 * l1), .ref 90], σ)) rfl ?_
  obtain ⟨v1, hv, h⟩ := zbd h
  refine zG_ld rfl hv ?_
  refine zGo.sts 3 (cf' := (14, [some (.ref 75), some (.int l1), some (.int l2), some (.int l3), some (.int l4), some (.int v1), none], [.int v1, .ref 75], σ)) rfl ?_
  obtain ⟨v2, hv, h⟩ := zbd h
  refine zGo.call rfl rfl (M_isSet_g hv) ?_
  by_cases hb3 : ¬ v2 = 0
  · replace h := zif_t hb3 h
    refine zI_ne_t rfl hb3 ?_
    refine zGo.sts 2 (cf' := (25, [some (.ref 75), some (.int l1), some (.int l2), some (.int l3), some (.int l4), some (.int v1), some (.int 1)], [], σ)) rfl ?_
    exact M_isSo_g25 zF h
  · replace h := zif_f hb3 h
    refine zI_ne_f rfl hb3 ?_
    refine zGo.sts 1 (cf' := (21, [some (.ref 75), some (.int l1), some (.int l2), some (.int l3), some (.int l4), some (.int v1), none], [.int 0], σ)) rfl ?_
    obtain rfl := Option.some.inj h
    exact zGo.ret rfl rfl
def M_fits_c113 : Nat → Int32 → Int32 → Int32 → zSt → Option (Int32 × zSt)
  | 0, _, _, _, _ => none
  | n + 1, l1, l2, l4, σ => if 4 < l4 then (some ((-2), σ)) else ((M_isSo l1 l2 4 l4 σ).bind fun v13 => if v13 = 0 then (M_fits_c113 n l1 l2 (l4 + 1) σ) else (some (l4, σ)))
theorem M_fits_g113 : ∀ (n : Nat) {d3 : Option Value} {d5 : Option Value} {l1 : Int32} {l2 : Int32} {l4 : Int32} {σ : zSt} {r : Int32 × zSt}, M_fits_c113 n l1 l2 l4 σ = some r → zGo zPT zmlc zP_220 (113, [some (.ref 75), some (.int l1), some (.int l2), d3, some (.int l4), d5], [], σ) (some (.int r.1), r.2) := by
  intro n
  induction n with
  | zero => intro d3 d5 l1 l2 l4 σ r h; cases h
  | succ n ih =>
    intro d3 d5 l1 l2 l4 σ r h
    rw [M_fits_c113] at h
    refine zGo.sts 2 (cf' := (116, [some (.ref 75), some (.int l1), some (.int l2), d3, some (.int l4), d5], [.int 4, .int l4], σ)) rfl ?_
    by_cases hb15 : 4 < l4
    · replace h := zif_t hb15 h
      refine zC_gt_t rfl hb15 ?_
      refine zGo.sts 1 (cf' := (142, [some (.ref 75), some (.int l1), some (.int l2), d3, some (.int l4), d5], [.int (-2)], σ)) rfl ?_
      obtain rfl := Option.some.inj h
      exact zGo.ret rfl rfl
    · replace h := zif_f hb15 h
      refine zC_gt_f rfl hb15 ?_
      refine zGo.sts 5 (cf' := (125, [some (.ref 75), some (.int l1), some (.int l2), d3, some (.int l4), d5], [.int l4, .int 4, .int l2, .int l1, .ref 75], σ)) rfl ?_
      obtain ⟨v13, hv, h⟩ := zbd h
      refine zGo.call rfl rfl (M_isSo_g hv) ?_
      by_cases hb14 : v13 = 0
      · replace h := zif_t hb14 h
        refine zI_eq_t rfl hb14 ?_
        refine zGo.sts 2 (cf' := (113, [some (.ref 75), some (.int l1), some (.int l2), d3, some (.int (l4 + 1)), d5], [], σ)) rfl ?_
        exact ih h
      · replace h := zif_f hb14 h
        refine zI_eq_f rfl hb14 ?_
        refine zGo.sts 1 (cf' := (133, [some (.ref 75), some (.int l1), some (.int l2), d3, some (.int l4), d5], [.int l4], σ)) rfl ?_
        obtain rfl := Option.some.inj h
        exact zGo.ret rfl rfl
def M_fits_c67 : Nat → Int32 → Int32 → Int32 → Int32 → zSt → Option (Int32 × zSt)
  | 0, _, _, _, _, _ => none
  | n + 1, l1, l2, l4, l5, σ => if 5 ≤ l5 then (some (l4, σ)) else ((M_isSo l1 l2 l5 (σ 75 5) σ).bind fun v16 => if v16 = 0 then (M_fits_c67 n l1 l2 (l4 ||| 0) (l5 + 1) σ) else (zlet (l4 ||| (1 <<< (l5 &&& 31))) fun v17 => M_fits_c67 n l1 l2 v17 (l5 + 1) σ))
theorem M_fits_g67 : ∀ (n : Nat) {d3 : Option Value} {l1 : Int32} {l2 : Int32} {l4 : Int32} {l5 : Int32} {σ : zSt} {r : Int32 × zSt}, M_fits_c67 n l1 l2 l4 l5 σ = some r → zGo zPT zmlc zP_220 (67, [some (.ref 75), some (.int l1), some (.int l2), d3, some (.int l4), some (.int l5)], [], σ) (some (.int r.1), r.2) := by
  intro n
  induction n with
  | zero => intro d3 l1 l2 l4 l5 σ r h; cases h
  | succ n ih =>
    intro d3 l1 l2 l4 l5 σ r h
    rw [M_fits_c67] at h
    refine zGo.sts 2 (cf' := (70, [some (.ref 75), some (.int l1), some (.int l2), d3, some (.int l4), some (.int l5)], [.int 5, .int l5], σ)) rfl ?_
    by_cases hb19 : 5 ≤ l5
    · replace h := zif_t hb19 h
      refine zC_ge_t rfl hb19 ?_
      refine zGo.sts 1 (cf' := (109, [some (.ref 75), some (.int l1), some (.int l2), d3, some (.int l4), some (.int l5)], [.int l4], σ)) rfl ?_
      obtain rfl := Option.some.inj h
      exact zGo.ret rfl rfl
    · replace h := zif_f hb19 h
      refine zC_ge_f rfl hb19 ?_
      refine zGo.sts 7 (cf' := (84, [some (.ref 75), some (.int l1), some (.int l2), d3, some (.int l4), some (.int l5)], [.int (σ 75 5), .int l5, .int l2, .int l1, .ref 75, .int l4], σ)) rfl ?_
      obtain ⟨v16, hv, h⟩ := zbd h
      refine zGo.call rfl rfl (M_isSo_g hv) ?_
      by_cases hb18 : v16 = 0
      · replace h := zif_t hb18 h
        refine zI_eq_t rfl hb18 ?_
        refine zGo.sts 5 (cf' := (67, [some (.ref 75), some (.int l1), some (.int l2), d3, some (.int (l4 ||| 0)), some (.int (l5 + 1))], [], σ)) rfl ?_
        exact ih h
      · replace h := zif_f hb18 h
        refine zI_eq_f rfl hb18 ?_
        refine zGo.sts 6 (cf' := (101, [some (.ref 75), some (.int l1), some (.int l2), d3, some (.int (l4 ||| (1 <<< (l5 &&& 31)))), some (.int l5)], [], σ)) rfl ?_
        replace h := zlet_of h
        generalize l4 ||| (1 <<< (l5 &&& 31)) = v17 at h ⊢
        refine zGo.sts 2 (cf' := (67, [some (.ref 75), some (.int l1), some (.int l2), d3, some (.int v17), some (.int (l5 + 1))], [], σ)) rfl ?_
        exact ih h
def M_fits (l1 : Int32) (l2 : Int32) (l3 : Int32) (σ : zSt) : Option (Int32 × zSt) := (M_isRow l1 σ).bind fun v1 => if v1 = 0 then (some ((-1), σ)) else ((M_in l2 1 40 σ).bind fun v2 => if v2 = 0 then (some ((-1), σ)) else ((M_in l3 0 1 σ).bind fun v3 => if ¬ v3 = 0 then ((zzld σ 88 l1).bind fun v4 => if ¬ v4 = 0 then ((zld σ 89 l1).bind fun v5 => if l2 ≤ v5 then ((M_takes σ).bind fun σ6 => if ¬ l3 = 0 then (M_fits_c113 zF l1 l2 1 σ6) else (M_fits_c67 zF l1 l2 0 0 σ6)) else (some ((-13), σ))) else (some ((-11), σ))) else (some ((-1), σ))))
theorem M_fits_g {l1 : Int32} {l2 : Int32} {l3 : Int32} {σ : zSt} {r : Int32 × zSt} (h : M_fits l1 l2 l3 σ = some r) : zGo zPT zmlc (zPT 220) (0, zent (zmlc 220) [.ref 75, .int l1, .int l2, .int l3], [], σ) (some (.int r.1), r.2) := by
  unfold M_fits at h
  show zGo zPT zmlc zP_220 (0, [some (.ref 75), some (.int l1), some (.int l2), some (.int l3), none, none], [], σ) _
  refine zGo.sts 1 (cf' := (1, [some (.ref 75), some (.int l1), some (.int l2), some (.int l3), none, none], [.int l1], σ)) rfl ?_
  obtain ⟨v1, hv, h⟩ := zbd h
  refine zGo.call rfl rfl (M_isRow_g hv) ?_
  by_cases hb12 : v1 = 0
  · replace h := zif_t hb12 h
    refine zI_eq_t rfl hb12 ?_
    refine zGo.sts 1 (cf' := (27, [some (.ref 75), some (.int l1), some (.int l2), some (.int l3), none, none], [.int (-1)], σ)) rfl ?_
    obtain rfl := Option.some.inj h
    exact zGo.ret rfl rfl
  · replace h := zif_f hb12 h
    refine zI_eq_f rfl hb12 ?_
    refine zGo.sts 3 (cf' := (11, [some (.ref 75), some (.int l1), some (.int l2), some (.int l3), none, none], [.int 40, .int 1, .int l2], σ)) rfl ?_
    obtain ⟨v2, hv, h⟩ := zbd h
    refine zGo.call rfl rfl (M_in_g hv) ?_
    by_cases hb11 : v2 = 0
    · replace h := zif_t hb11 h
      refine zI_eq_t rfl hb11 ?_
      refine zGo.sts 1 (cf' := (27, [some (.ref 75), some (.int l1), some (.int l2), some (.int l3), none, none], [.int (-1)], σ)) rfl ?_
      obtain rfl := Option.some.inj h
      exact zGo.ret rfl rfl
    · replace h := zif_f hb11 h
      refine zI_eq_f rfl hb11 ?_
      refine zGo.sts 3 (cf' := (20, [some (.ref 75), some (.int l1), some (.int l2), some (.int l3), none, none], [.int 1, .int 0, .int l3], σ)) rfl ?_
      obtain ⟨v3, hv, h⟩ := zbd h
      refine zGo.call rfl rfl (M_in_g hv) ?_
      by_cases hb10 : ¬ v3 = 0
      · replace h := zif_t hb10 h
        refine zI_ne_t rfl hb10 ?_
        refine zGo.sts 3 (cf' := (33, [some (.ref 75), some (.int l1), some (.int l2), some (.int l3), none, none], [.int l1, .ref 88], σ)) rfl ?_
        obtain ⟨v4, hv, h⟩ := zbd h
        refine zG_zld rfl hv ?_
        by_cases hb9 : ¬ v4 = 0
        · replace h := zif_t hb9 h
          refine zI_ne_t rfl hb9 ?_
          refine zGo.sts 4 (cf' := (46, [some (.ref 75), some (.int l1), some (.int l2), some (.int l3), none, none], [.int l1, .ref 89, .int l2], σ)) rfl ?_
          obtain ⟨v5, hv, h⟩ := zbd h
          refine zG_ld rfl hv ?_
          by_cases hb8 : l2 ≤ v5
          · replace h := zif_t hb8 h
            refine zC_le_t rfl hb8 ?_
            refine zGo.sts 1 (cf' := (54, [some (.ref 75), some (.int l1), some (.int l2), some (.int l3), none, none], [.ref 75], σ)) rfl ?_
            obtain ⟨σ6, hv, h⟩ := zbd h
            refine zGo.call rfl rfl (M_takes_g hv) ?_
            refine zGo.sts 1 (cf' := (58, [some (.ref 75), some (.int l1), some (.int l2), some (.int l3), none, none], [.int l3], σ6)) rfl ?_
            by_cases hb7 : ¬ l3 = 0
            · replace h := zif_t hb7 h
              refine zI_ne_t rfl hb7 ?_
              refine zGo.sts 2 (cf' := (113, [some (.ref 75), some (.int l1), some (.int l2), some (.int l3), some (.int 1), none], [], σ6)) rfl ?_
              exact M_fits_g113 zF h
            · replace h := zif_f hb7 h
              refine zI_ne_f rfl hb7 ?_
              refine zGo.sts 4 (cf' := (67, [some (.ref 75), some (.int l1), some (.int l2), some (.int l3), some (.int 0), some (.int 0)], [], σ6)) rfl ?_
              exact M_fits_g67 zF h
          · replace h := zif_f hb8 h
            refine zC_le_f rfl hb8 ?_
            refine zGo.sts 1 (cf' := (52, [some (.ref 75), some (.int l1), some (.int l2), some (.int l3), none, none], [.int (-13)], σ)) rfl ?_
            obtain rfl := Option.some.inj h
            exact zGo.ret rfl rfl
        · replace h := zif_f hb9 h
          refine zI_ne_f rfl hb9 ?_
          refine zGo.sts 1 (cf' := (39, [some (.ref 75), some (.int l1), some (.int l2), some (.int l3), none, none], [.int (-11)], σ)) rfl ?_
          obtain rfl := Option.some.inj h
          exact zGo.ret rfl rfl
      · replace h := zif_f hb10 h
        refine zI_ne_f rfl hb10 ?_
        refine zGo.sts 1 (cf' := (27, [some (.ref 75), some (.int l1), some (.int l2), some (.int l3), none, none], [.int (-1)], σ)) rfl ?_
        obtain rfl := Option.some.inj h
        exact zGo.ret rfl rfl
def M_isForced_c2 (σ : zSt) : Nat → Int32 → Int32 → Int32 → Option (Int32)
  | 0, _, _, _ => none
  | n + 1, l1, l2, l3 => if (σ 75 3) ≤ l3 then (some 0) else ((M_forces l3 l2 0 1 σ).bind fun v1 => if ¬ v1 = (1 <<< (l1 &&& 31)) then (M_isForced_c2 σ n l1 l2 (l3 + 1)) else (some 1))
theorem M_isForced_g2 {σ : zSt} : ∀ (n : Nat) {l1 : Int32} {l2 : Int32} {l3 : Int32} {r : Int32}, M_isForced_c2 σ n l1 l2 l3 = some r → zGo zPT zmlc zP_221 (2, [some (.ref 75), some (.int l1), some (.int l2), some (.int l3)], [], σ) (some (.int r), σ) := by
  intro n
  induction n with
  | zero => intro l1 l2 l3 r h; cases h
  | succ n ih =>
    intro l1 l2 l3 r h
    rw [M_isForced_c2] at h
    refine zGo.sts 3 (cf' := (7, [some (.ref 75), some (.int l1), some (.int l2), some (.int l3)], [.int (σ 75 3), .int l3], σ)) rfl ?_
    by_cases hb3 : (σ 75 3) ≤ l3
    · replace h := zif_t hb3 h
      refine zC_ge_t rfl hb3 ?_
      refine zGo.sts 1 (cf' := (33, [some (.ref 75), some (.int l1), some (.int l2), some (.int l3)], [.int 0], σ)) rfl ?_
      obtain rfl := Option.some.inj h
      exact zGo.ret rfl rfl
    · replace h := zif_f hb3 h
      refine zC_ge_f rfl hb3 ?_
      refine zGo.sts 5 (cf' := (15, [some (.ref 75), some (.int l1), some (.int l2), some (.int l3)], [.int 1, .int 0, .int l2, .int l3, .ref 75], σ)) rfl ?_
      obtain ⟨v1, hv, h⟩ := zbd h
      refine zGo.call rfl rfl (M_forces_g hv) ?_
      refine zGo.sts 3 (cf' := (21, [some (.ref 75), some (.int l1), some (.int l2), some (.int l3)], [.int (1 <<< (l1 &&& 31)), .int v1], σ)) rfl ?_
      by_cases hb2 : ¬ v1 = (1 <<< (l1 &&& 31))
      · replace h := zif_t hb2 h
        refine zC_ne_t rfl hb2 ?_
        refine zGo.sts 2 (cf' := (2, [some (.ref 75), some (.int l1), some (.int l2), some (.int (l3 + 1))], [], σ)) rfl ?_
        exact ih h
      · replace h := zif_f hb2 h
        refine zC_ne_f rfl hb2 ?_
        refine zGo.sts 1 (cf' := (25, [some (.ref 75), some (.int l1), some (.int l2), some (.int l3)], [.int 1], σ)) rfl ?_
        obtain rfl := Option.some.inj h
        exact zGo.ret rfl rfl
def M_isForced (l1 : Int32) (l2 : Int32) (σ : zSt) : Option (Int32) := M_isForced_c2 σ zF l1 l2 0
theorem M_isForced_g {l1 : Int32} {l2 : Int32} {σ : zSt} {r : Int32} (h : M_isForced l1 l2 σ = some r) : zGo zPT zmlc (zPT 221) (0, zent (zmlc 221) [.ref 75, .int l1, .int l2], [], σ) (some (.int r), σ) := by
  unfold M_isForced at h
  show zGo zPT zmlc zP_221 (0, [some (.ref 75), some (.int l1), some (.int l2), none], [], σ) _
  refine zGo.sts 2 (cf' := (2, [some (.ref 75), some (.int l1), some (.int l2), some (.int 0)], [], σ)) rfl ?_
  exact M_isForced_g2 zF h
def M_judge_c59 : Nat → Int32 → Int32 → Int32 → zSt → Option (Int32 × zSt)
  | 0, _, _, _, _ => none
  | n + 1, l1, l2, l3, σ => (zld σ 89 l1).bind fun v11 => if v11 ≤ l3 then (some ((-2), σ)) else ((zld σ 90 ((40 * l1) + l3)).bind fun v12 => (M_isPoint v12 σ).bind fun v13 => if v13 = 0 then (some (l3, σ)) else ((M_has l2 v12 σ).bind fun v14 => if ¬ v14 = 0 then (some (l3, σ)) else ((M_isForced v12 l2 σ).bind fun v15 => if ¬ v15 = 0 then (zlet (l2 ||| (1 <<< (v12 &&& 31))) fun v16 => M_judge_c59 n l1 v16 (l3 + 1) σ) else (some (l3, σ)))))
theorem M_judge_g59 : ∀ (n : Nat) {d4 : Option Value} {l1 : Int32} {l2 : Int32} {l3 : Int32} {σ : zSt} {r : Int32 × zSt}, M_judge_c59 n l1 l2 l3 σ = some r → zGo zPT zmlc zP_222 (59, [some (.ref 75), some (.int l1), some (.int l2), some (.int l3), d4], [], σ) (some (.int r.1), r.2) := by
  intro n
  induction n with
  | zero => intro d4 l1 l2 l3 σ r h; cases h
  | succ n ih =>
    intro d4 l1 l2 l3 σ r h
    rw [M_judge_c59] at h
    refine zGo.sts 4 (cf' := (65, [some (.ref 75), some (.int l1), some (.int l2), some (.int l3), d4], [.int l1, .ref 89, .int l3], σ)) rfl ?_
    obtain ⟨v11, hv, h⟩ := zbd h
    refine zG_ld rfl hv ?_
    by_cases hb20 : v11 ≤ l3
    · replace h := zif_t hb20 h
      refine zC_ge_t rfl hb20 ?_
      refine zGo.sts 1 (cf' := (127, [some (.ref 75), some (.int l1), some (.int l2), some (.int l3), d4], [.int (-2)], σ)) rfl ?_
      obtain rfl := Option.some.inj h
      exact zGo.ret rfl rfl
    · replace h := zif_f hb20 h
      refine zC_ge_f rfl hb20 ?_
      refine zGo.sts 7 (cf' := (79, [some (.ref 75), some (.int l1), some (.int l2), some (.int l3), d4], [.int ((40 * l1) + l3), .ref 90], σ)) rfl ?_
      obtain ⟨v12, hv, h⟩ := zbd h
      refine zG_ld rfl hv ?_
      refine zGo.sts 3 (cf' := (85, [some (.ref 75), some (.int l1), some (.int l2), some (.int l3), some (.int v12)], [.int v12, .ref 75], σ)) rfl ?_
      obtain ⟨v13, hv, h⟩ := zbd h
      refine zGo.call rfl rfl (M_isPoint_g hv) ?_
      by_cases hb19 : v13 = 0
      · replace h := zif_t hb19 h
        refine zI_eq_t rfl hb19 ?_
        refine zGo.sts 1 (cf' := (111, [some (.ref 75), some (.int l1), some (.int l2), some (.int l3), some (.int v12)], [.int l3], σ)) rfl ?_
        obtain rfl := Option.some.inj h
        exact zGo.ret rfl rfl
      · replace h := zif_f hb19 h
        refine zI_eq_f rfl hb19 ?_
        refine zGo.sts 2 (cf' := (94, [some (.ref 75), some (.int l1), some (.int l2), some (.int l3), some (.int v12)], [.int v12, .int l2], σ)) rfl ?_
        obtain ⟨v14, hv, h⟩ := zbd h
        refine zGo.call rfl rfl (M_has_g hv) ?_
        by_cases hb18 : ¬ v14 = 0
        · replace h := zif_t hb18 h
          refine zI_ne_t rfl hb18 ?_
          refine zGo.sts 1 (cf' := (111, [some (.ref 75), some (.int l1), some (.int l2), some (.int l3), some (.int v12)], [.int l3], σ)) rfl ?_
          obtain rfl := Option.some.inj h
          exact zGo.ret rfl rfl
        · replace h := zif_f hb18 h
          refine zI_ne_f rfl hb18 ?_
          refine zGo.sts 3 (cf' := (104, [some (.ref 75), some (.int l1), some (.int l2), some (.int l3), some (.int v12)], [.int l2, .int v12, .ref 75], σ)) rfl ?_
          obtain ⟨v15, hv, h⟩ := zbd h
          refine zGo.call rfl rfl (M_isForced_g hv) ?_
          by_cases hb17 : ¬ v15 = 0
          · replace h := zif_t hb17 h
            refine zI_ne_t rfl hb17 ?_
            refine zGo.sts 6 (cf' := (119, [some (.ref 75), some (.int l1), some (.int (l2 ||| (1 <<< (v12 &&& 31)))), some (.int l3), some (.int v12)], [], σ)) rfl ?_
            replace h := zlet_of h
            generalize l2 ||| (1 <<< (v12 &&& 31)) = v16 at h ⊢
            refine zGo.sts 2 (cf' := (59, [some (.ref 75), some (.int l1), some (.int v16), some (.int (l3 + 1)), some (.int v12)], [], σ)) rfl ?_
            exact ih h
          · replace h := zif_f hb17 h
            refine zI_ne_f rfl hb17 ?_
            refine zGo.sts 1 (cf' := (111, [some (.ref 75), some (.int l1), some (.int l2), some (.int l3), some (.int v12)], [.int l3], σ)) rfl ?_
            obtain rfl := Option.some.inj h
            exact zGo.ret rfl rfl
def M_judge (l1 : Int32) (σ : zSt) : Option (Int32 × zSt) := (M_isRow l1 σ).bind fun v1 => if ¬ v1 = 0 then ((zzld σ 88 l1).bind fun v2 => if ¬ v2 = 0 then ((zld σ 89 l1).bind fun v3 => if ¬ v3 = 0 then ((M_takes σ).bind fun σ4 => (zld σ4 90 (40 * l1)).bind fun v5 => (M_isSet v5 σ4).bind fun v6 => if ¬ v6 = 0 then (M_judge_c59 zF l1 v5 1 σ4) else (some (0, σ4))) else (some ((-5), σ))) else (some ((-11), σ))) else (some ((-1), σ))
theorem M_judge_g {l1 : Int32} {σ : zSt} {r : Int32 × zSt} (h : M_judge l1 σ = some r) : zGo zPT zmlc (zPT 222) (0, zent (zmlc 222) [.ref 75, .int l1], [], σ) (some (.int r.1), r.2) := by
  unfold M_judge at h
  show zGo zPT zmlc zP_222 (0, [some (.ref 75), some (.int l1), none, none, none], [], σ) _
  refine zGo.sts 1 (cf' := (1, [some (.ref 75), some (.int l1), none, none, none], [.int l1], σ)) rfl ?_
  obtain ⟨v1, hv, h⟩ := zbd h
  refine zGo.call rfl rfl (M_isRow_g hv) ?_
  by_cases hb10 : ¬ v1 = 0
  · replace h := zif_t hb10 h
    refine zI_ne_t rfl hb10 ?_
    refine zGo.sts 3 (cf' := (14, [some (.ref 75), some (.int l1), none, none, none], [.int l1, .ref 88], σ)) rfl ?_
    obtain ⟨v2, hv, h⟩ := zbd h
    refine zG_zld rfl hv ?_
    by_cases hb9 : ¬ v2 = 0
    · replace h := zif_t hb9 h
      refine zI_ne_t rfl hb9 ?_
      refine zGo.sts 3 (cf' := (26, [some (.ref 75), some (.int l1), none, none, none], [.int l1, .ref 89], σ)) rfl ?_
      obtain ⟨v3, hv, h⟩ := zbd h
      refine zG_ld rfl hv ?_
      by_cases hb8 : ¬ v3 = 0
      · replace h := zif_t hb8 h
        refine zI_ne_t rfl hb8 ?_
        refine zGo.sts 1 (cf' := (34, [some (.ref 75), some (.int l1), none, none, none], [.ref 75], σ)) rfl ?_
        obtain ⟨σ4, hv, h⟩ := zbd h
        refine zGo.call rfl rfl (M_takes_g hv) ?_
        refine zGo.sts 5 (cf' := (45, [some (.ref 75), some (.int l1), none, none, none], [.int (40 * l1), .ref 90], σ4)) rfl ?_
        obtain ⟨v5, hv, h⟩ := zbd h
        refine zG_ld rfl hv ?_
        refine zGo.sts 3 (cf' := (49, [some (.ref 75), some (.int l1), some (.int v5), none, none], [.int v5, .ref 75], σ4)) rfl ?_
        obtain ⟨v6, hv, h⟩ := zbd h
        refine zGo.call rfl rfl (M_isSet_g hv) ?_
        by_cases hb7 : ¬ v6 = 0
        · replace h := zif_t hb7 h
          refine zI_ne_t rfl hb7 ?_
          refine zGo.sts 2 (cf' := (59, [some (.ref 75), some (.int l1), some (.int v5), some (.int 1), none], [], σ4)) rfl ?_
          exact M_judge_g59 zF h
        · replace h := zif_f hb7 h
          refine zI_ne_f rfl hb7 ?_
          refine zGo.sts 1 (cf' := (56, [some (.ref 75), some (.int l1), some (.int v5), none, none], [.int 0], σ4)) rfl ?_
          obtain rfl := Option.some.inj h
          exact zGo.ret rfl rfl
      · replace h := zif_f hb8 h
        refine zI_ne_f rfl hb8 ?_
        refine zGo.sts 1 (cf' := (32, [some (.ref 75), some (.int l1), none, none, none], [.int (-5)], σ)) rfl ?_
        obtain rfl := Option.some.inj h
        exact zGo.ret rfl rfl
    · replace h := zif_f hb9 h
      refine zI_ne_f rfl hb9 ?_
      refine zGo.sts 1 (cf' := (20, [some (.ref 75), some (.int l1), none, none, none], [.int (-11)], σ)) rfl ?_
      obtain rfl := Option.some.inj h
      exact zGo.ret rfl rfl
  · replace h := zif_f hb10 h
    refine zI_ne_f rfl hb10 ?_
    refine zGo.sts 1 (cf' := (8, [some (.ref 75), some (.int l1), none, none, none], [.int (-1)], σ)) rfl ?_
    obtain rfl := Option.some.inj h
    exact zGo.ret rfl rfl
def M_feed (l1 : Int32) (σ : zSt) : Option (Int32 × zSt) := (M_in l1 32 126 σ).bind fun v1 => if ¬ v1 = 0 then (if ¬ (σ 75 28) = 80 then ((zst σ 91 (σ 75 28) l1).bind fun σ2 => zlet (su σ2 75 28 ((σ2 75 28) + 1)) fun σ3 => some (σ3 75 28, σ3)) else (some ((-3), σ))) else (some ((-1), σ))
theorem M_feed_g {l1 : Int32} {σ : zSt} {r : Int32 × zSt} (h : M_feed l1 σ = some r) : zGo zPT zmlc (zPT 223) (0, zent (zmlc 223) [.ref 75, .int l1], [], σ) (some (.int r.1), r.2) := by
  unfold M_feed at h
  show zGo zPT zmlc zP_223 (0, [some (.ref 75), some (.int l1)], [], σ) _
  refine zGo.sts 3 (cf' := (5, [some (.ref 75), some (.int l1)], [.int 126, .int 32, .int l1], σ)) rfl ?_
  obtain ⟨v1, hv, h⟩ := zbd h
  refine zGo.call rfl rfl (M_in_g hv) ?_
  by_cases hb5 : ¬ v1 = 0
  · replace h := zif_t hb5 h
    refine zI_ne_t rfl hb5 ?_
    refine zGo.sts 3 (cf' := (19, [some (.ref 75), some (.int l1)], [.int 80, .int (σ 75 28)], σ)) rfl ?_
    by_cases hb4 : ¬ (σ 75 28) = 80
    · replace h := zif_t hb4 h
      refine zC_ne_t rfl hb4 ?_
      refine zGo.sts 5 (cf' := (34, [some (.ref 75), some (.int l1)], [.int l1, .int (σ 75 28), .ref 91], σ)) rfl ?_
      obtain ⟨σ2, hv, h⟩ := zbd h
      refine zG_st rfl hv ?_
      refine zGo.sts 6 (cf' := (45, [some (.ref 75), some (.int l1)], [], (su σ2 75 28 ((σ2 75 28) + 1)))) rfl ?_
      replace h := zlet_of h
      generalize su σ2 75 28 ((σ2 75 28) + 1) = σ3 at h ⊢
      refine zGo.sts 2 (cf' := (49, [some (.ref 75), some (.int l1)], [.int (σ3 75 28)], σ3)) rfl ?_
      obtain rfl := Option.some.inj h
      exact zGo.ret rfl rfl
    · replace h := zif_f hb4 h
      refine zC_ne_f rfl hb4 ?_
      refine zGo.sts 1 (cf' := (24, [some (.ref 75), some (.int l1)], [.int (-3)], σ)) rfl ?_
      obtain rfl := Option.some.inj h
      exact zGo.ret rfl rfl
  · replace h := zif_f hb5 h
    refine zI_ne_f rfl hb5 ?_
    refine zGo.sts 1 (cf' := (12, [some (.ref 75), some (.int l1)], [.int (-1)], σ)) rfl ?_
    obtain rfl := Option.some.inj h
    exact zGo.ret rfl rfl
def M_wipe (σ : zSt) : Option (Int32 × zSt) := zlet (su σ 75 28 0) fun σ1 => some (σ 75 28, σ1)
theorem M_wipe_g {σ : zSt} {r : Int32 × zSt} (h : M_wipe σ = some r) : zGo zPT zmlc (zPT 224) (0, zent (zmlc 224) [.ref 75], [], σ) (some (.int r.1), r.2) := by
  unfold M_wipe at h
  show zGo zPT zmlc zP_224 (0, [some (.ref 75), none], [], σ) _
  refine zGo.sts 6 (cf' := (10, [some (.ref 75), some (.int (σ 75 28))], [], (su σ 75 28 0))) rfl ?_
  replace h := zlet_of h
  generalize su σ 75 28 0 = σ1 at h ⊢
  refine zGo.sts 1 (cf' := (11, [some (.ref 75), some (.int (σ 75 28))], [.int (σ 75 28)], σ1)) rfl ?_
  obtain rfl := Option.some.inj h
  exact zGo.ret rfl rfl
def M_here (σ : zSt) : Option (Int32) := if (σ 75 28) ≤ (σ 75 29) then (some (-1)) else ((zld σ 91 (σ 75 29)).bind fun v1 => some v1)
theorem M_here_g {σ : zSt} {r : Int32} (h : M_here σ = some r) : zGo zPT zmlc (zPT 225) (0, zent (zmlc 225) [.ref 75], [], σ) (some (.int r), σ) := by
  unfold M_here at h
  show zGo zPT zmlc zP_225 (0, [some (.ref 75)], [], σ) _
  refine zGo.sts 4 (cf' := (8, [some (.ref 75)], [.int (σ 75 28), .int (σ 75 29)], σ)) rfl ?_
  by_cases hb2 : (σ 75 28) ≤ (σ 75 29)
  · replace h := zif_t hb2 h
    refine zC_ge_t rfl hb2 ?_
    refine zGo.sts 1 (cf' := (24, [some (.ref 75)], [.int (-1)], σ)) rfl ?_
    obtain rfl := Option.some.inj h
    exact zGo.ret rfl rfl
  · replace h := zif_f hb2 h
    refine zC_ge_f rfl hb2 ?_
    refine zGo.sts 4 (cf' := (19, [some (.ref 75)], [.int (σ 75 29), .ref 91], σ)) rfl ?_
    obtain ⟨v1, hv, h⟩ := zbd h
    refine zG_ld rfl hv ?_
    refine zGo.sts 1 (cf' := (24, [some (.ref 75)], [.int v1], σ)) rfl ?_
    obtain rfl := Option.some.inj h
    exact zGo.ret rfl rfl
def M_isFigure (σ : zSt) : Option (Int32) := (M_here σ).bind fun v1 => (M_in v1 48 57 σ).bind fun v2 => bif zbo v2 then some v2 else none
theorem M_isFigure_g {σ : zSt} {r : Int32} (h : M_isFigure σ = some r) : zGo zPT zmlc (zPT 226) (0, zent (zmlc 226) [.ref 75], [], σ) (some (.int r), σ) := by
  unfold M_isFigure at h
  show zGo zPT zmlc zP_226 (0, [some (.ref 75)], [], σ) _
  refine zGo.sts 1 (cf' := (1, [some (.ref 75)], [.ref 75], σ)) rfl ?_
  obtain ⟨v1, hv, h⟩ := zbd h
  refine zGo.call rfl rfl (M_here_g hv) ?_
  refine zGo.sts 2 (cf' := (8, [some (.ref 75)], [.int 57, .int 48, .int v1], σ)) rfl ?_
  obtain ⟨v2, hv, h⟩ := zbd h
  refine zGo.call rfl rfl (M_in_g hv) ?_
  obtain ⟨hc, h⟩ := zbif h
  obtain rfl := Option.some.inj h
  exact zGo.ret rfl (zrt_b hc)
def M_number_c20 : Nat → Int32 → Int32 → zSt → Option (Int32 × zSt)
  | 0, _, _, _ => none
  | n + 1, l1, l2, σ => if 2 ≤ l2 then (some (l1, σ)) else ((M_isFigure σ).bind fun v4 => if v4 = 0 then (some (l1, σ)) else ((M_here σ).bind fun v5 => zlet (su σ 75 29 ((σ 75 29) + 1)) fun σ6 => M_number_c20 n (((10 * l1) + v5) - 48) (l2 + 1) σ6))
theorem M_number_g20 : ∀ (n : Nat) {l1 : Int32} {l2 : Int32} {σ : zSt} {r : Int32 × zSt}, M_number_c20 n l1 l2 σ = some r → zGo zPT zmlc zP_227 (20, [some (.ref 75), some (.int l1), some (.int l2)], [], σ) (some (.int r.1), r.2) := by
  intro n
  induction n with
  | zero => intro l1 l2 σ r h; cases h
  | succ n ih =>
    intro l1 l2 σ r h
    rw [M_number_c20] at h
    refine zGo.sts 2 (cf' := (22, [some (.ref 75), some (.int l1), some (.int l2)], [.int 2, .int l2], σ)) rfl ?_
    by_cases hb8 : 2 ≤ l2
    · replace h := zif_t hb8 h
      refine zC_ge_t rfl hb8 ?_
      refine zGo.sts 1 (cf' := (62, [some (.ref 75), some (.int l1), some (.int l2)], [.int l1], σ)) rfl ?_
      obtain rfl := Option.some.inj h
      exact zGo.ret rfl rfl
    · replace h := zif_f hb8 h
      refine zC_ge_f rfl hb8 ?_
      refine zGo.sts 1 (cf' := (26, [some (.ref 75), some (.int l1), some (.int l2)], [.ref 75], σ)) rfl ?_
      obtain ⟨v4, hv, h⟩ := zbd h
      refine zGo.call rfl rfl (M_isFigure_g hv) ?_
      by_cases hb7 : v4 = 0
      · replace h := zif_t hb7 h
        refine zI_eq_t rfl hb7 ?_
        refine zGo.sts 1 (cf' := (62, [some (.ref 75), some (.int l1), some (.int l2)], [.int l1], σ)) rfl ?_
        obtain rfl := Option.some.inj h
        exact zGo.ret rfl rfl
      · replace h := zif_f hb7 h
        refine zI_eq_f rfl hb7 ?_
        refine zGo.sts 4 (cf' := (37, [some (.ref 75), some (.int l1), some (.int l2)], [.ref 75, .int (10 * l1)], σ)) rfl ?_
        obtain ⟨v5, hv, h⟩ := zbd h
        refine zGo.call rfl rfl (M_here_g hv) ?_
        refine zGo.sts 10 (cf' := (55, [some (.ref 75), some (.int (((10 * l1) + v5) - 48)), some (.int l2)], [], (su σ 75 29 ((σ 75 29) + 1)))) rfl ?_
        replace h := zlet_of h
        generalize su σ 75 29 ((σ 75 29) + 1) = σ6 at h ⊢
        refine zGo.sts 2 (cf' := (20, [some (.ref 75), some (.int (((10 * l1) + v5) - 48)), some (.int (l2 + 1))], [], σ6)) rfl ?_
        exact ih h
def M_number_c15 (l1 : Int32) (t0 : Int32) (σ : zSt) : Option (Int32 × zSt) := bif Nat.beq (zkd 75) 11 && zbo t0 then zlet (su σ 75 30 t0) fun σ3 => M_number_c20 zF l1 0 σ3 else none
theorem M_number_g15 {d2 : Option Value} {l1 : Int32} {t0 : Int32} {σ : zSt} {r : Int32 × zSt} (h : M_number_c15 l1 t0 σ = some r) : zGo zPT zmlc zP_227 (15, [some (.ref 75), some (.int l1), d2], [.int t0, .ref 75], σ) (some (.int r.1), r.2) := by
  unfold M_number_c15 at h
  obtain ⟨hc, h⟩ := zbif h
  refine zG_pZ rfl hc ?_
  replace h := zlet_of h
  generalize su σ 75 30 t0 = σ3 at h ⊢
  refine zGo.sts 2 (cf' := (20, [some (.ref 75), some (.int l1), some (.int 0)], [], σ3)) rfl ?_
  exact M_number_g20 zF h
def M_number (σ : zSt) : Option (Int32 × zSt) := (M_isFigure σ).bind fun v1 => if ¬ v1 = 0 then (M_number_c15 0 0 σ) else (M_number_c15 0 1 σ)
theorem M_number_g {σ : zSt} {r : Int32 × zSt} (h : M_number σ = some r) : zGo zPT zmlc (zPT 227) (0, zent (zmlc 227) [.ref 75], [], σ) (some (.int r.1), r.2) := by
  unfold M_number at h
  show zGo zPT zmlc zP_227 (0, [some (.ref 75), none, none], [], σ) _
  refine zGo.sts 4 (cf' := (4, [some (.ref 75), some (.int 0), none], [.ref 75, .ref 75], σ)) rfl ?_
  obtain ⟨v1, hv, h⟩ := zbd h
  refine zGo.call rfl rfl (M_isFigure_g hv) ?_
  by_cases hb2 : ¬ v1 = 0
  · replace h := zif_t hb2 h
    refine zI_ne_t rfl hb2 ?_
    refine zGo.sts 1 (cf' := (15, [some (.ref 75), some (.int 0), none], [.int 0, .ref 75], σ)) rfl ?_
    exact M_number_g15 h
  · replace h := zif_f hb2 h
    refine zI_ne_f rfl hb2 ?_
    refine zGo.sts 2 (cf' := (15, [some (.ref 75), some (.int 0), none], [.int 1, .ref 75], σ)) rfl ?_
    exact M_number_g15 h
def M_isOne (l0 : Int32) (σ : zSt) : Option (Int32) := if l0 = 110 then (some 1) else (if ¬ l0 = 109 then (some 0) else (some 1))
theorem M_isOne_g {l0 : Int32} {σ : zSt} {r : Int32} (h : M_isOne l0 σ = some r) : zGo zPT zmlc (zPT 228) (0, zent (zmlc 228) [.int l0], [], σ) (some (.int r), σ) := by
  unfold M_isOne at h
  show zGo zPT zmlc zP_228 (0, [some (.int l0)], [], σ) _
  refine zGo.sts 2 (cf' := (3, [some (.int l0)], [.int 110, .int l0], σ)) rfl ?_
  by_cases hb2 : l0 = 110
  · replace h := zif_t hb2 h
    refine zC_eq_t rfl hb2 ?_
    refine zGo.sts 2 (cf' := (17, [some (.int l0)], [.int 1], σ)) rfl ?_
    obtain rfl := Option.some.inj h
    exact zGo.ret rfl rfl
  · replace h := zif_f hb2 h
    refine zC_eq_f rfl hb2 ?_
    refine zGo.sts 2 (cf' := (9, [some (.int l0)], [.int 109, .int l0], σ)) rfl ?_
    by_cases hb1 : ¬ l0 = 109
    · replace h := zif_t hb1 h
      refine zC_ne_t rfl hb1 ?_
      refine zGo.sts 1 (cf' := (17, [some (.int l0)], [.int 0], σ)) rfl ?_
      obtain rfl := Option.some.inj h
      exact zGo.ret rfl rfl
    · replace h := zif_f hb1 h
      refine zC_ne_f rfl hb1 ?_
      refine zGo.sts 2 (cf' := (17, [some (.int l0)], [.int 1], σ)) rfl ?_
      obtain rfl := Option.some.inj h
      exact zGo.ret rfl rfl
def M_isTwo (l0 : Int32) (σ : zSt) : Option (Int32) := if l0 = 108 then (some 1) else (if l0 = 117 then (some 1) else (if l0 = 80 then (some 1) else (if l0 = 67 then (some 1) else (if l0 = 107 then (some 1) else (if l0 = 99 then (some 1) else (if ¬ l0 = 114 then (some 0) else (some 1)))))))
theorem M_isTwo_g {l0 : Int32} {σ : zSt} {r : Int32} (h : M_isTwo l0 σ = some r) : zGo zPT zmlc (zPT 229) (0, zent (zmlc 229) [.int l0], [], σ) (some (.int r), σ) := by
  unfold M_isTwo at h
  show zGo zPT zmlc zP_229 (0, [some (.int l0)], [], σ) _
  refine zGo.sts 2 (cf' := (3, [some (.int l0)], [.int 108, .int l0], σ)) rfl ?_
  by_cases hb7 : l0 = 108
  · replace h := zif_t hb7 h
    refine zC_eq_t rfl hb7 ?_
    refine zGo.sts 2 (cf' := (47, [some (.int l0)], [.int 1], σ)) rfl ?_
    obtain rfl := Option.some.inj h
    exact zGo.ret rfl rfl
  · replace h := zif_f hb7 h
    refine zC_eq_f rfl hb7 ?_
    refine zGo.sts 2 (cf' := (9, [some (.int l0)], [.int 117, .int l0], σ)) rfl ?_
    by_cases hb6 : l0 = 117
    · replace h := zif_t hb6 h
      refine zC_eq_t rfl hb6 ?_
      refine zGo.sts 2 (cf' := (47, [some (.int l0)], [.int 1], σ)) rfl ?_
      obtain rfl := Option.some.inj h
      exact zGo.ret rfl rfl
    · replace h := zif_f hb6 h
      refine zC_eq_f rfl hb6 ?_
      refine zGo.sts 2 (cf' := (15, [some (.int l0)], [.int 80, .int l0], σ)) rfl ?_
      by_cases hb5 : l0 = 80
      · replace h := zif_t hb5 h
        refine zC_eq_t rfl hb5 ?_
        refine zGo.sts 2 (cf' := (47, [some (.int l0)], [.int 1], σ)) rfl ?_
        obtain rfl := Option.some.inj h
        exact zGo.ret rfl rfl
      · replace h := zif_f hb5 h
        refine zC_eq_f rfl hb5 ?_
        refine zGo.sts 2 (cf' := (21, [some (.int l0)], [.int 67, .int l0], σ)) rfl ?_
        by_cases hb4 : l0 = 67
        · replace h := zif_t hb4 h
          refine zC_eq_t rfl hb4 ?_
          refine zGo.sts 2 (cf' := (47, [some (.int l0)], [.int 1], σ)) rfl ?_
          obtain rfl := Option.some.inj h
          exact zGo.ret rfl rfl
        · replace h := zif_f hb4 h
          refine zC_eq_f rfl hb4 ?_
          refine zGo.sts 2 (cf' := (27, [some (.int l0)], [.int 107, .int l0], σ)) rfl ?_
          by_cases hb3 : l0 = 107
          · replace h := zif_t hb3 h
            refine zC_eq_t rfl hb3 ?_
            refine zGo.sts 2 (cf' := (47, [some (.int l0)], [.int 1], σ)) rfl ?_
            obtain rfl := Option.some.inj h
            exact zGo.ret rfl rfl
          · replace h := zif_f hb3 h
            refine zC_eq_f rfl hb3 ?_
            refine zGo.sts 2 (cf' := (33, [some (.int l0)], [.int 99, .int l0], σ)) rfl ?_
            by_cases hb2 : l0 = 99
            · replace h := zif_t hb2 h
              refine zC_eq_t rfl hb2 ?_
              refine zGo.sts 2 (cf' := (47, [some (.int l0)], [.int 1], σ)) rfl ?_
              obtain rfl := Option.some.inj h
              exact zGo.ret rfl rfl
            · replace h := zif_f hb2 h
              refine zC_eq_f rfl hb2 ?_
              refine zGo.sts 2 (cf' := (39, [some (.int l0)], [.int 114, .int l0], σ)) rfl ?_
              by_cases hb1 : ¬ l0 = 114
              · replace h := zif_t hb1 h
                refine zC_ne_t rfl hb1 ?_
                refine zGo.sts 1 (cf' := (47, [some (.int l0)], [.int 0], σ)) rfl ?_
                obtain rfl := Option.some.inj h
                exact zGo.ret rfl rfl
              · replace h := zif_f hb1 h
                refine zC_ne_f rfl hb1 ?_
                refine zGo.sts 2 (cf' := (47, [some (.int l0)], [.int 1], σ)) rfl ?_
                obtain rfl := Option.some.inj h
                exact zGo.ret rfl rfl
def M_act_c141 (σ : zSt) : Option (zSt) := zlet (su σ 75 34 ((σ 75 34) + 1)) fun σ19 => some σ19
theorem M_act_g141 {d1 : Option Value} {σ : zSt} {r : zSt} (h : M_act_c141 σ = some r) : zGo zPT zmlc zP_230 (141, [some (.ref 75), d1], [], σ) (none, r) := by
  unfold M_act_c141 at h
  refine zGo.sts 6 (cf' := (151, [some (.ref 75), d1], [], (su σ 75 34 ((σ 75 34) + 1)))) rfl ?_
  replace h := zlet_of h
  generalize su σ 75 34 ((σ 75 34) + 1) = σ19 at h ⊢
  obtain rfl := Option.some.inj h
  exact zGo.ret rfl rfl
def M_act_c108 (t0 : Int32) (σ : zSt) : Option (zSt) := bif Nat.beq (zkd 75) 11 && zbo t0 then zlet (su σ 75 30 t0) fun σ20 => if ¬ (σ20 75 30) = 0 then (M_act_c141  σ20) else (zlet (su σ20 75 29 ((σ20 75 29) + 1)) fun σ21 => zb2 (M_number σ21) fun v22 σ23 => (zst σ23 94 (σ21 75 34) v22).bind fun σ24 => M_act_c141  σ24) else none
theorem M_act_g108 {d1 : Option Value} {t0 : Int32} {σ : zSt} {r : zSt} (h : M_act_c108 t0 σ = some r) : zGo zPT zmlc zP_230 (108, [some (.ref 75), d1], [.int t0, .ref 75], σ) (none, r) := by
  unfold M_act_c108 at h
  obtain ⟨hc, h⟩ := zbif h
  refine zG_pZ rfl hc ?_
  replace h := zlet_of h
  generalize su σ 75 30 t0 = σ20 at h ⊢
  refine zGo.sts 2 (cf' := (115, [some (.ref 75), d1], [.int (σ20 75 30)], σ20)) rfl ?_
  by_cases hb25 : ¬ (σ20 75 30) = 0
  · replace h := zif_t hb25 h
    refine zI_ne_t rfl hb25 ?_
    exact M_act_g141 h
  · replace h := zif_f hb25 h
    refine zI_ne_f rfl hb25 ?_
    refine zGo.sts 6 (cf' := (128, [some (.ref 75), d1], [], (su σ20 75 29 ((σ20 75 29) + 1)))) rfl ?_
    replace h := zlet_of h
    generalize su σ20 75 29 ((σ20 75 29) + 1) = σ21 at h ⊢
    refine zGo.sts 5 (cf' := (137, [some (.ref 75), d1], [.ref 75, .int (σ21 75 34), .ref 94], σ21)) rfl ?_
    obtain ⟨v22, σ23, hv, h⟩ := zbd2 h
    refine zGo.call rfl rfl (M_number_g hv) ?_
    obtain ⟨σ24, hv, h⟩ := zbd h
    refine zG_st rfl hv ?_
    exact M_act_g141 h
def M_act_c25 (l1 : Int32) (t0 : Int32) (σ : zSt) : Option (zSt) := bif Nat.beq (zkd 75) 11 && zbo t0 then zlet (su σ 75 30 t0) fun σ6 => if (σ6 75 30) = 0 then (zlet (su σ6 75 29 ((σ6 75 29) + 1)) fun σ7 => (zst σ7 92 (σ7 75 34) l1).bind fun σ8 => zb2 (M_number σ8) fun v9 σ10 => (zst σ10 93 (σ8 75 34) v9).bind fun σ11 => (zst σ11 94 (σ11 75 34) 0).bind fun σ12 => if ¬ (σ12 75 30) = 0 then (M_act_c141  σ12) else ((M_isTwo l1 σ12).bind fun v13 => if v13 = 0 then (M_act_c141  σ12) else ((M_here σ12).bind fun v14 => if v14 = 44 then (M_act_c108 0 σ12) else (M_act_c108 1 σ12)))) else (some σ6) else none
theorem M_act_g25 {l1 : Int32} {t0 : Int32} {σ : zSt} {r : zSt} (h : M_act_c25 l1 t0 σ = some r) : zGo zPT zmlc zP_230 (25, [some (.ref 75), some (.int l1)], [.int t0, .ref 75], σ) (none, r) := by
  unfold M_act_c25 at h
  obtain ⟨hc, h⟩ := zbif h
  refine zG_pZ rfl hc ?_
  replace h := zlet_of h
  generalize su σ 75 30 t0 = σ6 at h ⊢
  refine zGo.sts 2 (cf' := (32, [some (.ref 75), some (.int l1)], [.int (σ6 75 30)], σ6)) rfl ?_
  by_cases hb18 : (σ6 75 30) = 0
  · replace h := zif_t hb18 h
    refine zI_eq_t rfl hb18 ?_
    refine zGo.sts 6 (cf' := (46, [some (.ref 75), some (.int l1)], [], (su σ6 75 29 ((σ6 75 29) + 1)))) rfl ?_
    replace h := zlet_of h
    generalize su σ6 75 29 ((σ6 75 29) + 1) = σ7 at h ⊢
    refine zGo.sts 5 (cf' := (55, [some (.ref 75), some (.int l1)], [.int l1, .int (σ7 75 34), .ref 92], σ7)) rfl ?_
    obtain ⟨σ8, hv, h⟩ := zbd h
    refine zG_st rfl hv ?_
    refine zGo.sts 5 (cf' := (65, [some (.ref 75), some (.int l1)], [.ref 75, .int (σ8 75 34), .ref 93], σ8)) rfl ?_
    obtain ⟨v9, σ10, hv, h⟩ := zbd2 h
    refine zGo.call rfl rfl (M_number_g hv) ?_
    obtain ⟨σ11, hv, h⟩ := zbd h
    refine zG_st rfl hv ?_
    refine zGo.sts 5 (cf' := (78, [some (.ref 75), some (.int l1)], [.int 0, .int (σ11 75 34), .ref 94], σ11)) rfl ?_
    obtain ⟨σ12, hv, h⟩ := zbd h
    refine zG_st rfl hv ?_
    refine zGo.sts 2 (cf' := (83, [some (.ref 75), some (.int l1)], [.int (σ12 75 30)], σ12)) rfl ?_
    by_cases hb17 : ¬ (σ12 75 30) = 0
    · replace h := zif_t hb17 h
      refine zI_ne_t rfl hb17 ?_
      exact M_act_g141 h
    · replace h := zif_f hb17 h
      refine zI_ne_f rfl hb17 ?_
      refine zGo.sts 1 (cf' := (87, [some (.ref 75), some (.int l1)], [.int l1], σ12)) rfl ?_
      obtain ⟨v13, hv, h⟩ := zbd h
      refine zGo.call rfl rfl (M_isTwo_g hv) ?_
      by_cases hb16 : v13 = 0
      · replace h := zif_t hb16 h
        refine zI_eq_t rfl hb16 ?_
        exact M_act_g141 h
      · replace h := zif_f hb16 h
        refine zI_eq_f rfl hb16 ?_
        refine zGo.sts 2 (cf' := (95, [some (.ref 75), some (.int l1)], [.ref 75, .ref 75], σ12)) rfl ?_
        obtain ⟨v14, hv, h⟩ := zbd h
        refine zGo.call rfl rfl (M_here_g hv) ?_
        refine zGo.sts 1 (cf' := (100, [some (.ref 75), some (.int l1)], [.int 44, .int v14, .ref 75], σ12)) rfl ?_
        by_cases hb15 : v14 = 44
        · replace h := zif_t hb15 h
          refine zC_eq_t rfl hb15 ?_
          refine zGo.sts 1 (cf' := (108, [some (.ref 75), some (.int l1)], [.int 0, .ref 75], σ12)) rfl ?_
          exact M_act_g108 h
        · replace h := zif_f hb15 h
          refine zC_eq_f rfl hb15 ?_
          refine zGo.sts 2 (cf' := (108, [some (.ref 75), some (.int l1)], [.int 1, .ref 75], σ12)) rfl ?_
          exact M_act_g108 h
  · replace h := zif_f hb18 h
    refine zI_eq_f rfl hb18 ?_
    obtain rfl := Option.some.inj h
    exact zGo.ret rfl rfl
def M_act_c24 (l1 : Int32) (σ : zSt) : Option (zSt) := M_act_c25 l1 0 σ
theorem M_act_g24 {l1 : Int32} {σ : zSt} {r : zSt} (h : M_act_c24 l1 σ = some r) : zGo zPT zmlc zP_230 (24, [some (.ref 75), some (.int l1)], [.ref 75], σ) (none, r) := by
  unfold M_act_c24 at h
  refine zGo.sts 1 (cf' := (25, [some (.ref 75), some (.int l1)], [.int 0, .ref 75], σ)) rfl ?_
  exact M_act_g25 h
def M_act (σ : zSt) : Option (zSt) := (M_here σ).bind fun v1 => (M_isOne v1 σ).bind fun v2 => if ¬ v2 = 0 then (M_act_c24 v1 σ) else ((M_isTwo v1 σ).bind fun v3 => if ¬ v3 = 0 then (M_act_c24 v1 σ) else (M_act_c25 v1 1 σ))
theorem M_act_g {σ : zSt} {r : zSt} (h : M_act σ = some r) : zGo zPT zmlc (zPT 230) (0, zent (zmlc 230) [.ref 75], [], σ) (none, r) := by
  unfold M_act at h
  show zGo zPT zmlc zP_230 (0, [some (.ref 75), none], [], σ) _
  refine zGo.sts 1 (cf' := (1, [some (.ref 75), none], [.ref 75], σ)) rfl ?_
  obtain ⟨v1, hv, h⟩ := zbd h
  refine zGo.call rfl rfl (M_here_g hv) ?_
  refine zGo.sts 3 (cf' := (7, [some (.ref 75), some (.int v1)], [.int v1, .ref 75], σ)) rfl ?_
  obtain ⟨v2, hv, h⟩ := zbd h
  refine zGo.call rfl rfl (M_isOne_g hv) ?_
  by_cases hb5 : ¬ v2 = 0
  · replace h := zif_t hb5 h
    refine zI_ne_t rfl hb5 ?_
    exact M_act_g24 h
  · replace h := zif_f hb5 h
    refine zI_ne_f rfl hb5 ?_
    refine zGo.sts 1 (cf' := (14, [some (.ref 75), some (.int v1)], [.int v1, .ref 75], σ)) rfl ?_
    obtain ⟨v3, hv, h⟩ := zbd h
    refine zGo.call rfl rfl (M_isTwo_g hv) ?_
    by_cases hb4 : ¬ v3 = 0
    · replace h := zif_t hb4 h
      refine zI_ne_t rfl hb4 ?_
      exact M_act_g24 h
    · replace h := zif_f hb4 h
      refine zI_ne_f rfl hb4 ?_
      refine zGo.sts 2 (cf' := (25, [some (.ref 75), some (.int v1)], [.int 1, .ref 75], σ)) rfl ?_
      exact M_act_g25 h
def M_isRun (l1 : Int32) (l2 : Int32) (l3 : Int32) (σ : zSt) : Option (Int32) := (M_isPoint l1 σ).bind fun v1 => if v1 = 0 then (some 0) else ((M_isPoint l2 σ).bind fun v2 => if v2 = 0 then (some 0) else (if l2 < (l1 + l3) then (some 0) else (some 1)))
theorem M_isRun_g {l1 : Int32} {l2 : Int32} {l3 : Int32} {σ : zSt} {r : Int32} (h : M_isRun l1 l2 l3 σ = some r) : zGo zPT zmlc (zPT 231) (0, zent (zmlc 231) [.ref 75, .int l1, .int l2, .int l3], [], σ) (some (.int r), σ) := by
  unfold M_isRun at h
  show zGo zPT zmlc zP_231 (0, [some (.ref 75), some (.int l1), some (.int l2), some (.int l3)], [], σ) _
  refine zGo.sts 2 (cf' := (2, [some (.ref 75), some (.int l1), some (.int l2), some (.int l3)], [.int l1, .ref 75], σ)) rfl ?_
  obtain ⟨v1, hv, h⟩ := zbd h
  refine zGo.call rfl rfl (M_isPoint_g hv) ?_
  by_cases hb5 : v1 = 0
  · replace h := zif_t hb5 h
    refine zI_eq_t rfl hb5 ?_
    refine zGo.sts 1 (cf' := (28, [some (.ref 75), some (.int l1), some (.int l2), some (.int l3)], [.int 0], σ)) rfl ?_
    obtain rfl := Option.some.inj h
    exact zGo.ret rfl rfl
  · replace h := zif_f hb5 h
    refine zI_eq_f rfl hb5 ?_
    refine zGo.sts 2 (cf' := (10, [some (.ref 75), some (.int l1), some (.int l2), some (.int l3)], [.int l2, .ref 75], σ)) rfl ?_
    obtain ⟨v2, hv, h⟩ := zbd h
    refine zGo.call rfl rfl (M_isPoint_g hv) ?_
    by_cases hb4 : v2 = 0
    · replace h := zif_t hb4 h
      refine zI_eq_t rfl hb4 ?_
      refine zGo.sts 1 (cf' := (28, [some (.ref 75), some (.int l1), some (.int l2), some (.int l3)], [.int 0], σ)) rfl ?_
      obtain rfl := Option.some.inj h
      exact zGo.ret rfl rfl
    · replace h := zif_f hb4 h
      refine zI_eq_f rfl hb4 ?_
      refine zGo.sts 4 (cf' := (20, [some (.ref 75), some (.int l1), some (.int l2), some (.int l3)], [.int (l1 + l3), .int l2], σ)) rfl ?_
      by_cases hb3 : l2 < (l1 + l3)
      · replace h := zif_t hb3 h
        refine zC_lt_t rfl hb3 ?_
        refine zGo.sts 1 (cf' := (28, [some (.ref 75), some (.int l1), some (.int l2), some (.int l3)], [.int 0], σ)) rfl ?_
        obtain rfl := Option.some.inj h
        exact zGo.ret rfl rfl
      · replace h := zif_f hb3 h
        refine zC_lt_f rfl hb3 ?_
        refine zGo.sts 2 (cf' := (28, [some (.ref 75), some (.int l1), some (.int l2), some (.int l3)], [.int 1], σ)) rfl ?_
        obtain rfl := Option.some.inj h
        exact zGo.ret rfl rfl
def M_runs_c2 : Nat → Int32 → Int32 → zSt → Option (zSt)
  | 0, _, _, _ => none
  | n + 1, l2, l3, σ => if l2 ≤ l3 then (some σ) else (zb2 (M_line l3 (l3 + 1) 1 σ) fun v1 σ2 => M_runs_c2 n l2 (l3 + 1) σ2)
theorem M_runs_g2 : ∀ (n : Nat) {d1 : Option Value} {l2 : Int32} {l3 : Int32} {σ : zSt} {r : zSt}, M_runs_c2 n l2 l3 σ = some r → zGo zPT zmlc zP_232 (2, [some (.ref 75), d1, some (.int l2), some (.int l3)], [], σ) (none, r) := by
  intro n
  induction n with
  | zero => intro d1 l2 l3 σ r h; cases h
  | succ n ih =>
    intro d1 l2 l3 σ r h
    rw [M_runs_c2] at h
    refine zGo.sts 2 (cf' := (4, [some (.ref 75), d1, some (.int l2), some (.int l3)], [.int l2, .int l3], σ)) rfl ?_
    by_cases hb3 : l2 ≤ l3
    · replace h := zif_t hb3 h
      refine zC_ge_t rfl hb3 ?_
      obtain rfl := Option.some.inj h
      exact zGo.ret rfl rfl
    · replace h := zif_f hb3 h
      refine zC_ge_f rfl hb3 ?_
      refine zGo.sts 6 (cf' := (13, [some (.ref 75), d1, some (.int l2), some (.int l3)], [.int 1, .int (l3 + 1), .int l3, .ref 75], σ)) rfl ?_
      obtain ⟨v1, σ2, hv, h⟩ := zbd2 h
      refine zGo.call rfl rfl (M_line_g hv) ?_
      refine zGo.sts 3 (cf' := (2, [some (.ref 75), d1, some (.int l2), some (.int (l3 + 1))], [], σ2)) rfl ?_
      exact ih h
def M_runs (l1 : Int32) (l2 : Int32) (σ : zSt) : Option (zSt) := M_runs_c2 zF l2 l1 σ
theorem M_runs_g {l1 : Int32} {l2 : Int32} {σ : zSt} {r : zSt} (h : M_runs l1 l2 σ = some r) : zGo zPT zmlc (zPT 232) (0, zent (zmlc 232) [.ref 75, .int l1, .int l2], [], σ) (none, r) := by
  unfold M_runs at h
  show zGo zPT zmlc zP_232 (0, [some (.ref 75), some (.int l1), some (.int l2), none], [], σ) _
  refine zGo.sts 2 (cf' := (2, [some (.ref 75), some (.int l1), some (.int l2), some (.int l1)], [], σ)) rfl ?_
  exact M_runs_g2 zF h
def M_isDone (l1 : Int32) (σ : zSt) : Option (Int32 × zSt) := (zld σ 93 l1).bind fun v1 => (zld σ 94 l1).bind fun v2 => (zld σ 92 l1).bind fun v3 => if v3 = 80 then ((M_isRun v1 v2 1 σ).bind fun v5 => if ¬ v5 = 0 then ((M_runs v1 v2 σ).bind fun σ6 => some (1, σ6)) else (some (0, σ))) else (if v3 = 99 then (zb2 (M_cost v1 v2 σ) fun v9 σ10 => if v9 = (-1) then (some (0, σ10)) else (some (1, σ10))) else (if v3 = 107 then (zb2 (M_kind v1 v2 σ) fun v13 σ14 => if v13 = (-1) then (some (0, σ14)) else (some (1, σ14))) else (if v3 = 108 then (zb2 (M_line v1 v2 1 σ) fun v17 σ18 => if v17 = (-1) then (some (0, σ18)) else (some (1, σ18))) else (if v3 = 109 then (zb2 (M_prime v1 σ) fun v21 σ22 => if v21 = (-1) then (some (0, σ22)) else (some (1, σ22))) else (if v3 = 110 then (zb2 (M_points v1 σ) fun v25 σ26 => if v25 = (-1) then (some (0, σ26)) else (some (1, σ26))) else (if v3 = 114 then (zb2 (M_rule v1 v2 σ) fun v29 σ30 => if v29 = (-1) then (some (0, σ30)) else (some (1, σ30))) else (if v3 = 117 then (zb2 (M_line v1 v2 0 σ) fun v33 σ34 => if v33 = (-1) then (some (0, σ34)) else (some (1, σ34))) else ((M_isRun v1 v2 2 σ).bind fun v36 => if ¬ v36 = 0 then ((M_runs v1 v2 σ).bind fun σ37 => zb2 (M_line v2 v1 1 σ37) fun v38 σ39 => some (1, σ39)) else (some (0, σ))))))))))
theorem M_isDone_g {l1 : Int32} {σ : zSt} {r : Int32 × zSt} (h : M_isDone l1 σ = some r) : zGo zPT zmlc (zPT 233) (0, zent (zmlc 233) [.ref 75, .int l1], [], σ) (some (.int r.1), r.2) := by
  unfold M_isDone at h
  show zGo zPT zmlc zP_233 (0, [some (.ref 75), some (.int l1), none, none], [], σ) _
  refine zGo.sts 3 (cf' := (5, [some (.ref 75), some (.int l1), none, none], [.int l1, .ref 93], σ)) rfl ?_
  obtain ⟨v1, hv, h⟩ := zbd h
  refine zG_ld rfl hv ?_
  refine zGo.sts 4 (cf' := (12, [some (.ref 75), some (.int l1), some (.int v1), none], [.int l1, .ref 94], σ)) rfl ?_
  obtain ⟨v2, hv, h⟩ := zbd h
  refine zG_ld rfl hv ?_
  refine zGo.sts 4 (cf' := (19, [some (.ref 75), some (.int l1), some (.int v1), some (.int v2)], [.int l1, .ref 92], σ)) rfl ?_
  obtain ⟨v3, hv, h⟩ := zbd h
  refine zG_ld rfl hv ?_
  by_cases hb4 : v3 = 80
  · replace h := zif_t hb4 h
    refine zG_sw rfl (zsw_t hb4) ?_
    refine zGo.sts 4 (cf' := (212, [some (.ref 75), some (.int l1), some (.int v1), some (.int v2)], [.int 1, .int v2, .int v1, .ref 75], σ)) rfl ?_
    obtain ⟨v5, hv, h⟩ := zbd h
    refine zGo.call rfl rfl (M_isRun_g hv) ?_
    by_cases hb7 : ¬ v5 = 0
    · replace h := zif_t hb7 h
      refine zI_ne_t rfl hb7 ?_
      refine zGo.sts 3 (cf' := (223, [some (.ref 75), some (.int l1), some (.int v1), some (.int v2)], [.int v2, .int v1, .ref 75], σ)) rfl ?_
      obtain ⟨σ6, hv, h⟩ := zbd h
      refine zGo.call rfl rfl (M_runs_g hv) ?_
      refine zGo.sts 1 (cf' := (227, [some (.ref 75), some (.int l1), some (.int v1), some (.int v2)], [.int 1], σ6)) rfl ?_
      obtain rfl := Option.some.inj h
      exact zGo.ret rfl rfl
    · replace h := zif_f hb7 h
      refine zI_ne_f rfl hb7 ?_
      refine zGo.sts 1 (cf' := (219, [some (.ref 75), some (.int l1), some (.int v1), some (.int v2)], [.int 0], σ)) rfl ?_
      obtain rfl := Option.some.inj h
      exact zGo.ret rfl rfl
  · replace h := zif_f hb4 h
    by_cases hb8 : v3 = 99
    · replace h := zif_t hb8 h
      refine zG_sw rfl ((zsw_f hb4).trans (zsw_t hb8)) ?_
      refine zGo.sts 3 (cf' := (164, [some (.ref 75), some (.int l1), some (.int v1), some (.int v2)], [.int v2, .int v1, .ref 75], σ)) rfl ?_
      obtain ⟨v9, σ10, hv, h⟩ := zbd2 h
      refine zGo.call rfl rfl (M_cost_g hv) ?_
      refine zGo.sts 1 (cf' := (168, [some (.ref 75), some (.int l1), some (.int v1), some (.int v2)], [.int (-1), .int v9], σ10)) rfl ?_
      by_cases hb11 : v9 = (-1)
      · replace h := zif_t hb11 h
        refine zC_eq_t rfl hb11 ?_
        refine zGo.sts 1 (cf' := (176, [some (.ref 75), some (.int l1), some (.int v1), some (.int v2)], [.int 0], σ10)) rfl ?_
        obtain rfl := Option.some.inj h
        exact zGo.ret rfl rfl
      · replace h := zif_f hb11 h
        refine zC_eq_f rfl hb11 ?_
        refine zGo.sts 2 (cf' := (176, [some (.ref 75), some (.int l1), some (.int v1), some (.int v2)], [.int 1], σ10)) rfl ?_
        obtain rfl := Option.some.inj h
        exact zGo.ret rfl rfl
    · replace h := zif_f hb8 h
      by_cases hb12 : v3 = 107
      · replace h := zif_t hb12 h
        refine zG_sw rfl ((zsw_f hb4).trans ((zsw_f hb8).trans (zsw_t hb12))) ?_
        refine zGo.sts 3 (cf' := (148, [some (.ref 75), some (.int l1), some (.int v1), some (.int v2)], [.int v2, .int v1, .ref 75], σ)) rfl ?_
        obtain ⟨v13, σ14, hv, h⟩ := zbd2 h
        refine zGo.call rfl rfl (M_kind_g hv) ?_
        refine zGo.sts 1 (cf' := (152, [some (.ref 75), some (.int l1), some (.int v1), some (.int v2)], [.int (-1), .int v13], σ14)) rfl ?_
        by_cases hb15 : v13 = (-1)
        · replace h := zif_t hb15 h
          refine zC_eq_t rfl hb15 ?_
          refine zGo.sts 1 (cf' := (160, [some (.ref 75), some (.int l1), some (.int v1), some (.int v2)], [.int 0], σ14)) rfl ?_
          obtain rfl := Option.some.inj h
          exact zGo.ret rfl rfl
        · replace h := zif_f hb15 h
          refine zC_eq_f rfl hb15 ?_
          refine zGo.sts 2 (cf' := (160, [some (.ref 75), some (.int l1), some (.int v1), some (.int v2)], [.int 1], σ14)) rfl ?_
          obtain rfl := Option.some.inj h
          exact zGo.ret rfl rfl
      · replace h := zif_f hb12 h
        by_cases hb16 : v3 = 108
        · replace h := zif_t hb16 h
          refine zG_sw rfl ((zsw_f hb4).trans ((zsw_f hb8).trans ((zsw_f hb12).trans (zsw_t hb16)))) ?_
          refine zGo.sts 4 (cf' := (115, [some (.ref 75), some (.int l1), some (.int v1), some (.int v2)], [.int 1, .int v2, .int v1, .ref 75], σ)) rfl ?_
          obtain ⟨v17, σ18, hv, h⟩ := zbd2 h
          refine zGo.call rfl rfl (M_line_g hv) ?_
          refine zGo.sts 1 (cf' := (119, [some (.ref 75), some (.int l1), some (.int v1), some (.int v2)], [.int (-1), .int v17], σ18)) rfl ?_
          by_cases hb19 : v17 = (-1)
          · replace h := zif_t hb19 h
            refine zC_eq_t rfl hb19 ?_
            refine zGo.sts 1 (cf' := (127, [some (.ref 75), some (.int l1), some (.int v1), some (.int v2)], [.int 0], σ18)) rfl ?_
            obtain rfl := Option.some.inj h
            exact zGo.ret rfl rfl
          · replace h := zif_f hb19 h
            refine zC_eq_f rfl hb19 ?_
            refine zGo.sts 2 (cf' := (127, [some (.ref 75), some (.int l1), some (.int v1), some (.int v2)], [.int 1], σ18)) rfl ?_
            obtain rfl := Option.some.inj h
            exact zGo.ret rfl rfl
        · replace h := zif_f hb16 h
          by_cases hb20 : v3 = 109
          · replace h := zif_t hb20 h
            refine zG_sw rfl ((zsw_f hb4).trans ((zsw_f hb8).trans ((zsw_f hb12).trans ((zsw_f hb16).trans (zsw_t hb20))))) ?_
            refine zGo.sts 2 (cf' := (195, [some (.ref 75), some (.int l1), some (.int v1), some (.int v2)], [.int v1, .ref 75], σ)) rfl ?_
            obtain ⟨v21, σ22, hv, h⟩ := zbd2 h
            refine zGo.call rfl rfl (M_prime_g hv) ?_
            refine zGo.sts 1 (cf' := (199, [some (.ref 75), some (.int l1), some (.int v1), some (.int v2)], [.int (-1), .int v21], σ22)) rfl ?_
            by_cases hb23 : v21 = (-1)
            · replace h := zif_t hb23 h
              refine zC_eq_t rfl hb23 ?_
              refine zGo.sts 1 (cf' := (207, [some (.ref 75), some (.int l1), some (.int v1), some (.int v2)], [.int 0], σ22)) rfl ?_
              obtain rfl := Option.some.inj h
              exact zGo.ret rfl rfl
            · replace h := zif_f hb23 h
              refine zC_eq_f rfl hb23 ?_
              refine zGo.sts 2 (cf' := (207, [some (.ref 75), some (.int l1), some (.int v1), some (.int v2)], [.int 1], σ22)) rfl ?_
              obtain rfl := Option.some.inj h
              exact zGo.ret rfl rfl
          · replace h := zif_f hb20 h
            by_cases hb24 : v3 = 110
            · replace h := zif_t hb24 h
              refine zG_sw rfl ((zsw_f hb4).trans ((zsw_f hb8).trans ((zsw_f hb12).trans ((zsw_f hb16).trans ((zsw_f hb20).trans (zsw_t hb24)))))) ?_
              refine zGo.sts 2 (cf' := (98, [some (.ref 75), some (.int l1), some (.int v1), some (.int v2)], [.int v1, .ref 75], σ)) rfl ?_
              obtain ⟨v25, σ26, hv, h⟩ := zbd2 h
              refine zGo.call rfl rfl (M_points_g hv) ?_
              refine zGo.sts 1 (cf' := (102, [some (.ref 75), some (.int l1), some (.int v1), some (.int v2)], [.int (-1), .int v25], σ26)) rfl ?_
              by_cases hb27 : v25 = (-1)
              · replace h := zif_t hb27 h
                refine zC_eq_t rfl hb27 ?_
                refine zGo.sts 1 (cf' := (110, [some (.ref 75), some (.int l1), some (.int v1), some (.int v2)], [.int 0], σ26)) rfl ?_
                obtain rfl := Option.some.inj h
                exact zGo.ret rfl rfl
              · replace h := zif_f hb27 h
                refine zC_eq_f rfl hb27 ?_
                refine zGo.sts 2 (cf' := (110, [some (.ref 75), some (.int l1), some (.int v1), some (.int v2)], [.int 1], σ26)) rfl ?_
                obtain rfl := Option.some.inj h
                exact zGo.ret rfl rfl
            · replace h := zif_f hb24 h
              by_cases hb28 : v3 = 114
              · replace h := zif_t hb28 h
                refine zG_sw rfl ((zsw_f hb4).trans ((zsw_f hb8).trans ((zsw_f hb12).trans ((zsw_f hb16).trans ((zsw_f hb20).trans ((zsw_f hb24).trans (zsw_t hb28))))))) ?_
                refine zGo.sts 3 (cf' := (180, [some (.ref 75), some (.int l1), some (.int v1), some (.int v2)], [.int v2, .int v1, .ref 75], σ)) rfl ?_
                obtain ⟨v29, σ30, hv, h⟩ := zbd2 h
                refine zGo.call rfl rfl (M_rule_g hv) ?_
                refine zGo.sts 1 (cf' := (184, [some (.ref 75), some (.int l1), some (.int v1), some (.int v2)], [.int (-1), .int v29], σ30)) rfl ?_
                by_cases hb31 : v29 = (-1)
                · replace h := zif_t hb31 h
                  refine zC_eq_t rfl hb31 ?_
                  refine zGo.sts 1 (cf' := (192, [some (.ref 75), some (.int l1), some (.int v1), some (.int v2)], [.int 0], σ30)) rfl ?_
                  obtain rfl := Option.some.inj h
                  exact zGo.ret rfl rfl
                · replace h := zif_f hb31 h
                  refine zC_eq_f rfl hb31 ?_
                  refine zGo.sts 2 (cf' := (192, [some (.ref 75), some (.int l1), some (.int v1), some (.int v2)], [.int 1], σ30)) rfl ?_
                  obtain rfl := Option.some.inj h
                  exact zGo.ret rfl rfl
              · replace h := zif_f hb28 h
                by_cases hb32 : v3 = 117
                · replace h := zif_t hb32 h
                  refine zG_sw rfl ((zsw_f hb4).trans ((zsw_f hb8).trans ((zsw_f hb12).trans ((zsw_f hb16).trans ((zsw_f hb20).trans ((zsw_f hb24).trans ((zsw_f hb28).trans (zsw_t hb32)))))))) ?_
                  refine zGo.sts 4 (cf' := (132, [some (.ref 75), some (.int l1), some (.int v1), some (.int v2)], [.int 0, .int v2, .int v1, .ref 75], σ)) rfl ?_
                  obtain ⟨v33, σ34, hv, h⟩ := zbd2 h
                  refine zGo.call rfl rfl (M_line_g hv) ?_
                  refine zGo.sts 1 (cf' := (136, [some (.ref 75), some (.int l1), some (.int v1), some (.int v2)], [.int (-1), .int v33], σ34)) rfl ?_
                  by_cases hb35 : v33 = (-1)
                  · replace h := zif_t hb35 h
                    refine zC_eq_t rfl hb35 ?_
                    refine zGo.sts 1 (cf' := (144, [some (.ref 75), some (.int l1), some (.int v1), some (.int v2)], [.int 0], σ34)) rfl ?_
                    obtain rfl := Option.some.inj h
                    exact zGo.ret rfl rfl
                  · replace h := zif_f hb35 h
                    refine zC_eq_f rfl hb35 ?_
                    refine zGo.sts 2 (cf' := (144, [some (.ref 75), some (.int l1), some (.int v1), some (.int v2)], [.int 1], σ34)) rfl ?_
                    obtain rfl := Option.some.inj h
                    exact zGo.ret rfl rfl
                · replace h := zif_f hb32 h
                  refine zG_sw rfl ((zsw_f hb4).trans ((zsw_f hb8).trans ((zsw_f hb12).trans ((zsw_f hb16).trans ((zsw_f hb20).trans ((zsw_f hb24).trans ((zsw_f hb28).trans ((zsw_f hb32).trans rfl)))))))) ?_
                  refine zGo.sts 4 (cf' := (232, [some (.ref 75), some (.int l1), some (.int v1), some (.int v2)], [.int 2, .int v2, .int v1, .ref 75], σ)) rfl ?_
                  obtain ⟨v36, hv, h⟩ := zbd h
                  refine zGo.call rfl rfl (M_isRun_g hv) ?_
                  by_cases hb40 : ¬ v36 = 0
                  · replace h := zif_t hb40 h
                    refine zI_ne_t rfl hb40 ?_
                    refine zGo.sts 3 (cf' := (243, [some (.ref 75), some (.int l1), some (.int v1), some (.int v2)], [.int v2, .int v1, .ref 75], σ)) rfl ?_
                    obtain ⟨σ37, hv, h⟩ := zbd h
                    refine zGo.call rfl rfl (M_runs_g hv) ?_
                    refine zGo.sts 4 (cf' := (250, [some (.ref 75), some (.int l1), some (.int v1), some (.int v2)], [.int 1, .int v1, .int v2, .ref 75], σ37)) rfl ?_
                    obtain ⟨v38, σ39, hv, h⟩ := zbd2 h
                    refine zGo.call rfl rfl (M_line_g hv) ?_
                    refine zGo.sts 2 (cf' := (255, [some (.ref 75), some (.int l1), some (.int v1), some (.int v2)], [.int 1], σ39)) rfl ?_
                    obtain rfl := Option.some.inj h
                    exact zGo.ret rfl rfl
                  · replace h := zif_f hb40 h
                    refine zI_ne_f rfl hb40 ?_
                    refine zGo.sts 1 (cf' := (239, [some (.ref 75), some (.int l1), some (.int v1), some (.int v2)], [.int 0], σ)) rfl ?_
                    obtain rfl := Option.some.inj h
                    exact zGo.ret rfl rfl
def M_read_c96 : Nat → Int32 → zSt → Option (Int32 × zSt)
  | 0, _, _ => none
  | n + 1, l1, σ => if (σ 75 34) ≤ l1 then (some (σ 75 34, σ)) else (zb2 (M_isDone l1 σ) fun v14 σ15 => if ¬ v14 = 0 then (M_read_c96 n (l1 + 1) σ15) else (some ((-200) - l1, σ15)))
theorem M_read_g96 : ∀ (n : Nat) {l1 : Int32} {σ : zSt} {r : Int32 × zSt}, M_read_c96 n l1 σ = some r → zGo zPT zmlc zP_234 (96, [some (.ref 75), some (.int l1)], [], σ) (some (.int r.1), r.2) := by
  intro n
  induction n with
  | zero => intro l1 σ r h; cases h
  | succ n ih =>
    intro l1 σ r h
    rw [M_read_c96] at h
    refine zGo.sts 3 (cf' := (101, [some (.ref 75), some (.int l1)], [.int (σ 75 34), .int l1], σ)) rfl ?_
    by_cases hb17 : (σ 75 34) ≤ l1
    · replace h := zif_t hb17 h
      refine zC_ge_t rfl hb17 ?_
      refine zGo.sts 2 (cf' := (128, [some (.ref 75), some (.int l1)], [.int (σ 75 34)], σ)) rfl ?_
      obtain rfl := Option.some.inj h
      exact zGo.ret rfl rfl
    · replace h := zif_f hb17 h
      refine zC_ge_f rfl hb17 ?_
      refine zGo.sts 2 (cf' := (106, [some (.ref 75), some (.int l1)], [.int l1, .ref 75], σ)) rfl ?_
      obtain ⟨v14, σ15, hv, h⟩ := zbd2 h
      refine zGo.call rfl rfl (M_isDone_g hv) ?_
      by_cases hb16 : ¬ v14 = 0
      · replace h := zif_t hb16 h
        refine zI_ne_t rfl hb16 ?_
        refine zGo.sts 2 (cf' := (96, [some (.ref 75), some (.int (l1 + 1))], [], σ15)) rfl ?_
        exact ih h
      · replace h := zif_f hb16 h
        refine zI_ne_f rfl hb16 ?_
        refine zGo.sts 3 (cf' := (117, [some (.ref 75), some (.int l1)], [.int ((-200) - l1)], σ15)) rfl ?_
        obtain rfl := Option.some.inj h
        exact zGo.ret rfl rfl
def M_read_c71 (t0 : Int32) (σ : zSt) : Option (Int32 × zSt) := bif Nat.beq (zkd 75) 11 && zbo t0 then zlet (su σ 75 30 t0) fun σ11 => zlet (su σ11 75 28 0) fun σ12 => if (σ12 75 30) = 0 then (M_read_c96 zF 0 σ12) else (some ((-100) - (σ12 75 29), σ12)) else none
theorem M_read_g71 {d1 : Option Value} {t0 : Int32} {σ : zSt} {r : Int32 × zSt} (h : M_read_c71 t0 σ = some r) : zGo zPT zmlc zP_234 (71, [some (.ref 75), d1], [.int t0, .ref 75], σ) (some (.int r.1), r.2) := by
  unfold M_read_c71 at h
  obtain ⟨hc, h⟩ := zbif h
  refine zG_pZ rfl hc ?_
  replace h := zlet_of h
  generalize su σ 75 30 t0 = σ11 at h ⊢
  refine zGo.sts 3 (cf' := (79, [some (.ref 75), d1], [], (su σ11 75 28 0))) rfl ?_
  replace h := zlet_of h
  generalize su σ11 75 28 0 = σ12 at h ⊢
  refine zGo.sts 2 (cf' := (83, [some (.ref 75), d1], [.int (σ12 75 30)], σ12)) rfl ?_
  by_cases hb13 : (σ12 75 30) = 0
  · replace h := zif_t hb13 h
    refine zI_eq_t rfl hb13 ?_
    refine zGo.sts 2 (cf' := (96, [some (.ref 75), some (.int 0)], [], σ12)) rfl ?_
    exact M_read_g96 zF h
  · replace h := zif_f hb13 h
    refine zI_eq_f rfl hb13 ?_
    refine zGo.sts 4 (cf' := (93, [some (.ref 75), d1], [.int ((-100) - (σ12 75 29))], σ12)) rfl ?_
    obtain rfl := Option.some.inj h
    exact zGo.ret rfl rfl
def M_read_c66 (σ : zSt) : Option (Int32 × zSt) := M_read_c71 1 σ
theorem M_read_g66 {d1 : Option Value} {σ : zSt} {r : Int32 × zSt} (h : M_read_c66 σ = some r) : zGo zPT zmlc zP_234 (66, [some (.ref 75), d1], [.ref 75], σ) (some (.int r.1), r.2) := by
  unfold M_read_c66 at h
  refine zGo.sts 2 (cf' := (71, [some (.ref 75), d1], [.int 1, .ref 75], σ)) rfl ?_
  exact M_read_g71 h
def M_read_c47 (σ : zSt) : Option (Int32 × zSt) := if ¬ (σ 75 30) = 0 then (M_read_c66  σ) else (if (σ 75 28) ≤ (σ 75 29) then (M_read_c71 0 σ) else (M_read_c66  σ))
theorem M_read_g47 {d1 : Option Value} {σ : zSt} {r : Int32 × zSt} (h : M_read_c47 σ = some r) : zGo zPT zmlc zP_234 (47, [some (.ref 75), d1], [], σ) (some (.int r.1), r.2) := by
  unfold M_read_c47 at h
  refine zGo.sts 3 (cf' := (52, [some (.ref 75), d1], [.int (σ 75 30), .ref 75], σ)) rfl ?_
  by_cases hb10 : ¬ (σ 75 30) = 0
  · replace h := zif_t hb10 h
    refine zI_ne_t rfl hb10 ?_
    exact M_read_g66 h
  · replace h := zif_f hb10 h
    refine zI_ne_f rfl hb10 ?_
    refine zGo.sts 4 (cf' := (63, [some (.ref 75), d1], [.int (σ 75 28), .int (σ 75 29), .ref 75], σ)) rfl ?_
    by_cases hb9 : (σ 75 28) ≤ (σ 75 29)
    · replace h := zif_t hb9 h
      refine zC_ge_t rfl hb9 ?_
      refine zGo.sts 1 (cf' := (71, [some (.ref 75), d1], [.int 0, .ref 75], σ)) rfl ?_
      exact M_read_g71 h
    · replace h := zif_f hb9 h
      refine zC_ge_f rfl hb9 ?_
      exact M_read_g66 h
def M_read_c14 : Nat → zSt → Option (Int32 × zSt)
  | 0, _ => none
  | n + 1, σ => if ¬ (σ 75 30) = 0 then (M_read_c47  σ) else ((M_here σ).bind fun v4 => if ¬ v4 = 59 then (M_read_c47  σ) else (zlet (su σ 75 29 ((σ 75 29) + 1)) fun σ5 => (M_act σ5).bind fun σ6 => M_read_c14 n  σ6))
theorem M_read_g14 : ∀ (n : Nat) {d1 : Option Value} {σ : zSt} {r : Int32 × zSt}, M_read_c14 n σ = some r → zGo zPT zmlc zP_234 (14, [some (.ref 75), d1], [], σ) (some (.int r.1), r.2) := by
  intro n
  induction n with
  | zero => intro d1 σ r h; cases h
  | succ n ih =>
    intro d1 σ r h
    rw [M_read_c14] at h
    refine zGo.sts 2 (cf' := (18, [some (.ref 75), d1], [.int (σ 75 30)], σ)) rfl ?_
    by_cases hb8 : ¬ (σ 75 30) = 0
    · replace h := zif_t hb8 h
      refine zI_ne_t rfl hb8 ?_
      exact M_read_g47 h
    · replace h := zif_f hb8 h
      refine zI_ne_f rfl hb8 ?_
      refine zGo.sts 1 (cf' := (22, [some (.ref 75), d1], [.ref 75], σ)) rfl ?_
      obtain ⟨v4, hv, h⟩ := zbd h
      refine zGo.call rfl rfl (M_here_g hv) ?_
      refine zGo.sts 1 (cf' := (27, [some (.ref 75), d1], [.int 59, .int v4], σ)) rfl ?_
      by_cases hb7 : ¬ v4 = 59
      · replace h := zif_t hb7 h
        refine zC_ne_t rfl hb7 ?_
        exact M_read_g47 h
      · replace h := zif_f hb7 h
        refine zC_ne_f rfl hb7 ?_
        refine zGo.sts 6 (cf' := (40, [some (.ref 75), d1], [], (su σ 75 29 ((σ 75 29) + 1)))) rfl ?_
        replace h := zlet_of h
        generalize su σ 75 29 ((σ 75 29) + 1) = σ5 at h ⊢
        refine zGo.sts 1 (cf' := (41, [some (.ref 75), d1], [.ref 75], σ5)) rfl ?_
        obtain ⟨σ6, hv, h⟩ := zbd h
        refine zGo.call rfl rfl (M_act_g hv) ?_
        refine zGo.sts 1 (cf' := (14, [some (.ref 75), d1], [], σ6)) rfl ?_
        exact ih h
def M_read (σ : zSt) : Option (Int32 × zSt) := zlet (su σ 75 29 0) fun σ1 => zlet (su σ1 75 34 0) fun σ2 => (M_act σ2).bind fun σ3 => M_read_c14 zF  σ3
theorem M_read_g {σ : zSt} {r : Int32 × zSt} (h : M_read σ = some r) : zGo zPT zmlc (zPT 234) (0, zent (zmlc 234) [.ref 75], [], σ) (some (.int r.1), r.2) := by
  unfold M_read at h
  show zGo zPT zmlc zP_234 (0, [some (.ref 75), none], [], σ) _
  refine zGo.sts 3 (cf' := (5, [some (.ref 75), none], [], (su σ 75 29 0))) rfl ?_
  replace h := zlet_of h
  generalize su σ 75 29 0 = σ1 at h ⊢
  refine zGo.sts 3 (cf' := (10, [some (.ref 75), none], [], (su σ1 75 34 0))) rfl ?_
  replace h := zlet_of h
  generalize su σ1 75 34 0 = σ2 at h ⊢
  refine zGo.sts 1 (cf' := (11, [some (.ref 75), none], [.ref 75], σ2)) rfl ?_
  obtain ⟨σ3, hv, h⟩ := zbd h
  refine zGo.call rfl rfl (M_act_g hv) ?_
  exact M_read_g14 zF h
def M_runs__c19 (σ : zSt) : Option (zSt) := zlet (su σ 75 36 ((σ 75 36) + 1)) fun σ3 => some σ3
theorem M_runs__g19 {d1 : Option Value} {σ : zSt} {r : zSt} (h : M_runs__c19 σ = some r) : zGo zPT zmlc zP_235 (19, [some (.ref 75), d1], [], σ) (none, r) := by
  unfold M_runs__c19 at h
  refine zGo.sts 6 (cf' := (29, [some (.ref 75), d1], [], (su σ 75 36 ((σ 75 36) + 1)))) rfl ?_
  replace h := zlet_of h
  generalize su σ 75 36 ((σ 75 36) + 1) = σ3 at h ⊢
  obtain rfl := Option.some.inj h
  exact zGo.ret rfl rfl
def M_runs_ (l1 : Int32) (σ : zSt) : Option (zSt) := if 24 ≤ (σ 75 36) then (M_runs__c19  σ) else ((zst σ 95 (σ 75 36) l1).bind fun σ1 => M_runs__c19  σ1)
theorem M_runs__g {l1 : Int32} {σ : zSt} {r : zSt} (h : M_runs_ l1 σ = some r) : zGo zPT zmlc (zPT 235) (0, zent (zmlc 235) [.ref 75, .int l1], [], σ) (none, r) := by
  unfold M_runs_ at h
  show zGo zPT zmlc zP_235 (0, [some (.ref 75), some (.int l1)], [], σ) _
  refine zGo.sts 3 (cf' := (6, [some (.ref 75), some (.int l1)], [.int 24, .int (σ 75 36)], σ)) rfl ?_
  by_cases hb2 : 24 ≤ (σ 75 36)
  · replace h := zif_t hb2 h
    refine zC_ge_t rfl hb2 ?_
    exact M_runs__g19 h
  · replace h := zif_f hb2 h
    refine zC_ge_f rfl hb2 ?_
    refine zGo.sts 5 (cf' := (18, [some (.ref 75), some (.int l1)], [.int l1, .int (σ 75 36), .ref 95], σ)) rfl ?_
    obtain ⟨σ1, hv, h⟩ := zbd h
    refine zG_st rfl hv ?_
    exact M_runs__g19 h
def M_isUnder_c24 (σ : zSt) (l1 : Int32) (l2 : Int32) : Option (Int32) := if ¬ l2 = 2 then (some 0) else (if ¬ l1 = 4 then (some 0) else (some 1))
theorem M_isUnder_g24 {σ : zSt} {d0 : Option Value} {l1 : Int32} {l2 : Int32} {r : Int32} (h : M_isUnder_c24 σ l1 l2 = some r) : zGo zPT zmlc zP_236 (24, [d0, some (.int l1), some (.int l2)], [], σ) (some (.int r), σ) := by
  unfold M_isUnder_c24 at h
  refine zGo.sts 2 (cf' := (26, [d0, some (.int l1), some (.int l2)], [.int 2, .int l2], σ)) rfl ?_
  by_cases hb7 : ¬ l2 = 2
  · replace h := zif_t hb7 h
    refine zC_ne_t rfl hb7 ?_
    refine zGo.sts 1 (cf' := (39, [d0, some (.int l1), some (.int l2)], [.int 0], σ)) rfl ?_
    obtain rfl := Option.some.inj h
    exact zGo.ret rfl rfl
  · replace h := zif_f hb7 h
    refine zC_ne_f rfl hb7 ?_
    refine zGo.sts 2 (cf' := (31, [d0, some (.int l1), some (.int l2)], [.int 4, .int l1], σ)) rfl ?_
    by_cases hb6 : ¬ l1 = 4
    · replace h := zif_t hb6 h
      refine zC_ne_t rfl hb6 ?_
      refine zGo.sts 1 (cf' := (39, [d0, some (.int l1), some (.int l2)], [.int 0], σ)) rfl ?_
      obtain rfl := Option.some.inj h
      exact zGo.ret rfl rfl
    · replace h := zif_f hb6 h
      refine zC_ne_f rfl hb6 ?_
      refine zGo.sts 2 (cf' := (39, [d0, some (.int l1), some (.int l2)], [.int 1], σ)) rfl ?_
      obtain rfl := Option.some.inj h
      exact zGo.ret rfl rfl
def M_isUnder (l1 : Int32) (l2 : Int32) (σ : zSt) : Option (Int32) := if l1 = l2 then (some 1) else (if l2 = 0 then (some 1) else (if ¬ l2 = 1 then (M_isUnder_c24 σ l1 l2) else (if l1 = 2 then (some 1) else (if l1 = 4 then (some 1) else (M_isUnder_c24 σ l1 l2)))))
theorem M_isUnder_g {l1 : Int32} {l2 : Int32} {σ : zSt} {r : Int32} (h : M_isUnder l1 l2 σ = some r) : zGo zPT zmlc (zPT 236) (0, zent (zmlc 236) [.ref 75, .int l1, .int l2], [], σ) (some (.int r), σ) := by
  unfold M_isUnder at h
  show zGo zPT zmlc zP_236 (0, [some (.ref 75), some (.int l1), some (.int l2)], [], σ) _
  refine zGo.sts 2 (cf' := (2, [some (.ref 75), some (.int l1), some (.int l2)], [.int l2, .int l1], σ)) rfl ?_
  by_cases hb5 : l1 = l2
  · replace h := zif_t hb5 h
    refine zC_eq_t rfl hb5 ?_
    refine zGo.sts 2 (cf' := (39, [some (.ref 75), some (.int l1), some (.int l2)], [.int 1], σ)) rfl ?_
    obtain rfl := Option.some.inj h
    exact zGo.ret rfl rfl
  · replace h := zif_f hb5 h
    refine zC_eq_f rfl hb5 ?_
    refine zGo.sts 1 (cf' := (6, [some (.ref 75), some (.int l1), some (.int l2)], [.int l2], σ)) rfl ?_
    by_cases hb4 : l2 = 0
    · replace h := zif_t hb4 h
      refine zI_eq_t rfl hb4 ?_
      refine zGo.sts 2 (cf' := (39, [some (.ref 75), some (.int l1), some (.int l2)], [.int 1], σ)) rfl ?_
      obtain rfl := Option.some.inj h
      exact zGo.ret rfl rfl
    · replace h := zif_f hb4 h
      refine zI_eq_f rfl hb4 ?_
      refine zGo.sts 2 (cf' := (11, [some (.ref 75), some (.int l1), some (.int l2)], [.int 1, .int l2], σ)) rfl ?_
      by_cases hb3 : ¬ l2 = 1
      · replace h := zif_t hb3 h
        refine zC_ne_t rfl hb3 ?_
        exact M_isUnder_g24 h
      · replace h := zif_f hb3 h
        refine zC_ne_f rfl hb3 ?_
        refine zGo.sts 2 (cf' := (16, [some (.ref 75), some (.int l1), some (.int l2)], [.int 2, .int l1], σ)) rfl ?_
        by_cases hb2 : l1 = 2
        · replace h := zif_t hb2 h
          refine zC_eq_t rfl hb2 ?_
          refine zGo.sts 2 (cf' := (39, [some (.ref 75), some (.int l1), some (.int l2)], [.int 1], σ)) rfl ?_
          obtain rfl := Option.some.inj h
          exact zGo.ret rfl rfl
        · replace h := zif_f hb2 h
          refine zC_eq_f rfl hb2 ?_
          refine zGo.sts 2 (cf' := (21, [some (.ref 75), some (.int l1), some (.int l2)], [.int 4, .int l1], σ)) rfl ?_
          by_cases hb1 : l1 = 4
          · replace h := zif_t hb1 h
            refine zC_eq_t rfl hb1 ?_
            refine zGo.sts 2 (cf' := (39, [some (.ref 75), some (.int l1), some (.int l2)], [.int 1], σ)) rfl ?_
            obtain rfl := Option.some.inj h
            exact zGo.ret rfl rfl
          · replace h := zif_f hb1 h
            refine zC_eq_f rfl hb1 ?_
            exact M_isUnder_g24 h
def M_asks_c22 (l1 : Int32) (l2 : Int32) (l3 : Int32) (σ : zSt) : Option (Int32 × zSt) := (M_runs_ 10 σ).bind fun σ5 => if l3 = 0 then (some (l2 + l1, σ5)) else (some (-(l2 + l1), σ5))
theorem M_asks_g22 {l1 : Int32} {l2 : Int32} {l3 : Int32} {σ : zSt} {r : Int32 × zSt} (h : M_asks_c22 l1 l2 l3 σ = some r) : zGo zPT zmlc zP_237 (22, [some (.ref 75), some (.int l1), some (.int l2), some (.int l3)], [], σ) (some (.int r.1), r.2) := by
  unfold M_asks_c22 at h
  refine zGo.sts 2 (cf' := (25, [some (.ref 75), some (.int l1), some (.int l2), some (.int l3)], [.int 10, .ref 75], σ)) rfl ?_
  obtain ⟨σ5, hv, h⟩ := zbd h
  refine zGo.call rfl rfl (M_runs__g hv) ?_
  refine zGo.sts 1 (cf' := (29, [some (.ref 75), some (.int l1), some (.int l2), some (.int l3)], [.int l3], σ5)) rfl ?_
  by_cases hb6 : l3 = 0
  · replace h := zif_t hb6 h
    refine zI_eq_t rfl hb6 ?_
    refine zGo.sts 3 (cf' := (42, [some (.ref 75), some (.int l1), some (.int l2), some (.int l3)], [.int (l2 + l1)], σ5)) rfl ?_
    obtain rfl := Option.some.inj h
    exact zGo.ret rfl rfl
  · replace h := zif_f hb6 h
    refine zI_eq_f rfl hb6 ?_
    refine zGo.sts 5 (cf' := (42, [some (.ref 75), some (.int l1), some (.int l2), some (.int l3)], [.int (-(l2 + l1))], σ5)) rfl ?_
    obtain rfl := Option.some.inj h
    exact zGo.ret rfl rfl
def M_asks (l1 : Int32) (l2 : Int32) (σ : zSt) : Option (Int32 × zSt) := (zld σ 77 l1).bind fun v1 => (M_isUnder v1 1 σ).bind fun v2 => if v2 = 0 then (M_asks_c22 l1 l2 v2 σ) else ((M_runs_ 20 σ).bind fun σ3 => M_asks_c22 l1 l2 v2 σ3)
theorem M_asks_g {l1 : Int32} {l2 : Int32} {σ : zSt} {r : Int32 × zSt} (h : M_asks l1 l2 σ = some r) : zGo zPT zmlc (zPT 237) (0, zent (zmlc 237) [.ref 75, .int l1, .int l2], [], σ) (some (.int r.1), r.2) := by
  unfold M_asks at h
  show zGo zPT zmlc zP_237 (0, [some (.ref 75), some (.int l1), some (.int l2), none], [], σ) _
  refine zGo.sts 4 (cf' := (6, [some (.ref 75), some (.int l1), some (.int l2), none], [.int l1, .ref 77, .ref 75], σ)) rfl ?_
  obtain ⟨v1, hv, h⟩ := zbd h
  refine zG_ld rfl hv ?_
  refine zGo.sts 1 (cf' := (8, [some (.ref 75), some (.int l1), some (.int l2), none], [.int 1, .int v1, .ref 75], σ)) rfl ?_
  obtain ⟨v2, hv, h⟩ := zbd h
  refine zGo.call rfl rfl (M_isUnder_g hv) ?_
  refine zGo.sts 2 (cf' := (13, [some (.ref 75), some (.int l1), some (.int l2), some (.int v2)], [.int v2], σ)) rfl ?_
  by_cases hb4 : v2 = 0
  · replace h := zif_t hb4 h
    refine zI_eq_t rfl hb4 ?_
    exact M_asks_g22 h
  · replace h := zif_f hb4 h
    refine zI_eq_f rfl hb4 ?_
    refine zGo.sts 2 (cf' := (19, [some (.ref 75), some (.int l1), some (.int l2), some (.int v2)], [.int 20, .ref 75], σ)) rfl ?_
    obtain ⟨σ3, hv, h⟩ := zbd h
    refine zGo.call rfl rfl (M_runs__g hv) ?_
    exact M_asks_g22 h
def M_tells_c67 (l1 : Int32) (t0 : Int32) (σ : zSt) : Option (Int32 × zSt) := (zld σ 77 l1).bind fun v10 => if ¬ v10 = 4 then (some (t0, σ)) else ((zld σ 78 l1).bind fun v11 => some (t0 + v11, σ))
theorem M_tells_g67 {d2 : Option Value} {d3 : Option Value} {d4 : Option Value} {l1 : Int32} {t0 : Int32} {σ : zSt} {r : Int32 × zSt} (h : M_tells_c67 l1 t0 σ = some r) : zGo zPT zmlc zP_238 (67, [some (.ref 75), some (.int l1), d2, d3, d4], [.int t0], σ) (some (.int r.1), r.2) := by
  unfold M_tells_c67 at h
  refine zGo.sts 4 (cf' := (73, [some (.ref 75), some (.int l1), d2, some (.int t0), d4], [.int l1, .ref 77], σ)) rfl ?_
  obtain ⟨v10, hv, h⟩ := zbd h
  refine zG_ld rfl hv ?_
  refine zGo.sts 1 (cf' := (75, [some (.ref 75), some (.int l1), d2, some (.int t0), d4], [.int 4, .int v10], σ)) rfl ?_
  by_cases hb12 : ¬ v10 = 4
  · replace h := zif_t hb12 h
    refine zC_ne_t rfl hb12 ?_
    refine zGo.sts 1 (cf' := (90, [some (.ref 75), some (.int l1), d2, some (.int t0), d4], [.int t0], σ)) rfl ?_
    obtain rfl := Option.some.inj h
    exact zGo.ret rfl rfl
  · replace h := zif_f hb12 h
    refine zC_ne_f rfl hb12 ?_
    refine zGo.sts 4 (cf' := (84, [some (.ref 75), some (.int l1), d2, some (.int t0), d4], [.int l1, .ref 78, .int t0], σ)) rfl ?_
    obtain ⟨v11, hv, h⟩ := zbd h
    refine zG_ld rfl hv ?_
    refine zGo.sts 2 (cf' := (90, [some (.ref 75), some (.int l1), d2, some (.int t0), d4], [.int (t0 + v11)], σ)) rfl ?_
    obtain rfl := Option.some.inj h
    exact zGo.ret rfl rfl
def M_tells_c46 (l1 : Int32) (l3 : Int32) (l4 : Int32) (σ : zSt) : Option (Int32 × zSt) := (M_runs_ 1 σ).bind fun σ8 => if l4 = 0 then (M_tells_c67 l1 (l3 + 2) σ8) else (M_tells_c67 l1 ((l3 + 2) * 3) σ8)
theorem M_tells_g46 {d2 : Option Value} {l1 : Int32} {l3 : Int32} {l4 : Int32} {σ : zSt} {r : Int32 × zSt} (h : M_tells_c46 l1 l3 l4 σ = some r) : zGo zPT zmlc zP_238 (46, [some (.ref 75), some (.int l1), d2, some (.int l3), some (.int l4)], [], σ) (some (.int r.1), r.2) := by
  unfold M_tells_c46 at h
  refine zGo.sts 2 (cf' := (48, [some (.ref 75), some (.int l1), d2, some (.int l3), some (.int l4)], [.int 1, .ref 75], σ)) rfl ?_
  obtain ⟨σ8, hv, h⟩ := zbd h
  refine zGo.call rfl rfl (M_runs__g hv) ?_
  refine zGo.sts 1 (cf' := (53, [some (.ref 75), some (.int l1), d2, some (.int l3), some (.int l4)], [.int l4], σ8)) rfl ?_
  by_cases hb9 : l4 = 0
  · replace h := zif_t hb9 h
    refine zI_eq_t rfl hb9 ?_
    refine zGo.sts 3 (cf' := (67, [some (.ref 75), some (.int l1), d2, some (.int l3), some (.int l4)], [.int (l3 + 2)], σ8)) rfl ?_
    exact M_tells_g67 h
  · replace h := zif_f hb9 h
    refine zI_eq_f rfl hb9 ?_
    refine zGo.sts 6 (cf' := (67, [some (.ref 75), some (.int l1), d2, some (.int l3), some (.int l4)], [.int ((l3 + 2) * 3)], σ8)) rfl ?_
    exact M_tells_g67 h
def M_tells_c22 (l1 : Int32) (l3 : Int32) (σ : zSt) : Option (Int32 × zSt) := (zld σ 77 l1).bind fun v4 => (M_isUnder v4 2 σ).bind fun v5 => if v5 = 0 then (M_tells_c46 l1 l3 v5 σ) else ((M_runs_ 30 σ).bind fun σ6 => M_tells_c46 l1 l3 v5 σ6)
theorem M_tells_g22 {d2 : Option Value} {d4 : Option Value} {l1 : Int32} {l3 : Int32} {σ : zSt} {r : Int32 × zSt} (h : M_tells_c22 l1 l3 σ = some r) : zGo zPT zmlc zP_238 (22, [some (.ref 75), some (.int l1), d2, some (.int l3), d4], [], σ) (some (.int r.1), r.2) := by
  unfold M_tells_c22 at h
  refine zGo.sts 4 (cf' := (28, [some (.ref 75), some (.int l1), d2, some (.int l3), d4], [.int l1, .ref 77, .ref 75], σ)) rfl ?_
  obtain ⟨v4, hv, h⟩ := zbd h
  refine zG_ld rfl hv ?_
  refine zGo.sts 1 (cf' := (30, [some (.ref 75), some (.int l1), d2, some (.int l3), d4], [.int 2, .int v4, .ref 75], σ)) rfl ?_
  obtain ⟨v5, hv, h⟩ := zbd h
  refine zGo.call rfl rfl (M_isUnder_g hv) ?_
  refine zGo.sts 2 (cf' := (37, [some (.ref 75), some (.int l1), d2, some (.int l3), some (.int v5)], [.int v5], σ)) rfl ?_
  by_cases hb7 : v5 = 0
  · replace h := zif_t hb7 h
    refine zI_eq_t rfl hb7 ?_
    exact M_tells_g46 h
  · replace h := zif_f hb7 h
    refine zI_eq_f rfl hb7 ?_
    refine zGo.sts 2 (cf' := (43, [some (.ref 75), some (.int l1), d2, some (.int l3), some (.int v5)], [.int 30, .ref 75], σ)) rfl ?_
    obtain ⟨σ6, hv, h⟩ := zbd h
    refine zGo.call rfl rfl (M_runs__g hv) ?_
    exact M_tells_g46 h
def M_tells (l1 : Int32) (l2 : Int32) (σ : zSt) : Option (Int32 × zSt) := (zld σ 77 l1).bind fun v1 => if ¬ v1 = 4 then (M_tells_c22 l1 l2 σ) else ((M_runs_ 50 σ).bind fun σ2 => M_tells_c22 l1 (l2 - 1) σ2)
theorem M_tells_g {l1 : Int32} {l2 : Int32} {σ : zSt} {r : Int32 × zSt} (h : M_tells l1 l2 σ = some r) : zGo zPT zmlc (zPT 238) (0, zent (zmlc 238) [.ref 75, .int l1, .int l2], [], σ) (some (.int r.1), r.2) := by
  unfold M_tells at h
  show zGo zPT zmlc zP_238 (0, [some (.ref 75), some (.int l1), some (.int l2), none, none], [], σ) _
  refine zGo.sts 5 (cf' := (7, [some (.ref 75), some (.int l1), some (.int l2), some (.int l2), none], [.int l1, .ref 77], σ)) rfl ?_
  obtain ⟨v1, hv, h⟩ := zbd h
  refine zG_ld rfl hv ?_
  refine zGo.sts 1 (cf' := (9, [some (.ref 75), some (.int l1), some (.int l2), some (.int l2), none], [.int 4, .int v1], σ)) rfl ?_
  by_cases hb3 : ¬ v1 = 4
  · replace h := zif_t hb3 h
    refine zC_ne_t rfl hb3 ?_
    exact M_tells_g22 h
  · replace h := zif_f hb3 h
    refine zC_ne_f rfl hb3 ?_
    refine zGo.sts 2 (cf' := (15, [some (.ref 75), some (.int l1), some (.int l2), some (.int l2), none], [.int 50, .ref 75], σ)) rfl ?_
    obtain ⟨σ2, hv, h⟩ := zbd h
    refine zGo.call rfl rfl (M_runs__g hv) ?_
    refine zGo.sts 4 (cf' := (22, [some (.ref 75), some (.int l1), some (.int l2), some (.int (l2 - 1)), none], [], σ2)) rfl ?_
    exact M_tells_g22 h

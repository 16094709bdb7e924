/-! the methods as functions, by program -/
def Bod_pointSays (l1 : Int32) (σ : zSt) : Option (Int32 × zSt) := (Bod_note 11 σ).bind fun σ1 => zb2 (Bod_asks l1 σ1) fun v2 σ3 => zb2 (Bod_tells 1 σ3) fun v4 σ5 => some ((v2 * 2) + v4, σ5)
theorem Bod_pointSays_g {l1 : Int32} {σ : zSt} {r : Int32 × zSt} (h : Bod_pointSays l1 σ = some r) : zGo zPT zmlc (zPT 19) (0, zent (zmlc 19) [.ref 73, .int l1], [], σ) (some (.int r.1), r.2) := by
  unfold Bod_pointSays at h
  show zGo zPT zmlc zP_19 (0, [some (.ref 73), some (.int l1)], [], σ) _
  refine zGo.sts 2 (cf' := (3, [some (.ref 73), some (.int l1)], [.int 11, .ref 73], σ)) rfl ?_
  obtain ⟨σ1, hv, h⟩ := zbd h
  refine zGo.call rfl rfl (Bod_note_g hv) ?_
  refine zGo.sts 2 (cf' := (8, [some (.ref 73), some (.int l1)], [.int l1, .ref 73], σ1)) rfl ?_
  obtain ⟨v2, σ3, hv, h⟩ := zbd2 h
  refine zGo.call rfl rfl (Bod_asks_g hv) ?_
  refine zGo.sts 4 (cf' := (15, [some (.ref 73), some (.int l1)], [.int 1, .ref 73, .int (v2 * 2)], σ3)) rfl ?_
  obtain ⟨v4, σ5, hv, h⟩ := zbd2 h
  refine zGo.call rfl rfl (Bod_tells_g hv) ?_
  refine zGo.sts 1 (cf' := (19, [some (.ref 73), some (.int l1)], [.int ((v2 * 2) + v4)], σ5)) rfl ?_
  obtain rfl := Option.some.inj h
  exact zGo.ret rfl rfl
def Bod_says (l1 : Int32) (σ : zSt) : Option (Int32 × zSt) := (Bod_isUnder (σ 73 0) 3 σ).bind fun v1 => if v1 = 0 then (zb2 (Bod_pointSays l1 σ) fun v2 σ3 => some (v2, σ3)) else ((Bod_note 40 σ).bind fun σ4 => zb2 (Bod_pointSays l1 σ4) fun v5 σ6 => some (v5 ^^^ 5, σ6))
theorem Bod_says_g {l1 : Int32} {σ : zSt} {r : Int32 × zSt} (h : Bod_says l1 σ = some r) : zGo zPT zmlc (zPT 16) (0, zent (zmlc 16) [.ref 73, .int l1], [], σ) (some (.int r.1), r.2) := by
  unfold Bod_says at h
  show zGo zPT zmlc zP_16 (0, [some (.ref 73), some (.int l1)], [], σ) _
  refine zGo.sts 3 (cf' := (5, [some (.ref 73), some (.int l1)], [.int 3, .int (σ 73 0)], σ)) rfl ?_
  obtain ⟨v1, hv, h⟩ := zbd h
  refine zGo.call rfl rfl (Bod_isUnder_g hv) ?_
  by_cases hb7 : v1 = 0
  · replace h := zif_t hb7 h
    refine zI_eq_t rfl hb7 ?_
    refine zGo.sts 2 (cf' := (27, [some (.ref 73), some (.int l1)], [.int l1, .ref 73], σ)) rfl ?_
    obtain ⟨v2, σ3, hv, h⟩ := zbd2 h
    refine zGo.call rfl rfl (Bod_pointSays_g hv) ?_
    obtain rfl := Option.some.inj h
    exact zGo.ret rfl rfl
  · replace h := zif_f hb7 h
    refine zI_eq_f rfl hb7 ?_
    refine zGo.sts 2 (cf' := (14, [some (.ref 73), some (.int l1)], [.int 40, .ref 73], σ)) rfl ?_
    obtain ⟨σ4, hv, h⟩ := zbd h
    refine zGo.call rfl rfl (Bod_note_g hv) ?_
    refine zGo.sts 2 (cf' := (19, [some (.ref 73), some (.int l1)], [.int l1, .ref 73], σ4)) rfl ?_
    obtain ⟨v5, σ6, hv, h⟩ := zbd2 h
    refine zGo.call rfl rfl (Bod_pointSays_g hv) ?_
    refine zGo.sts 2 (cf' := (24, [some (.ref 73), some (.int l1)], [.int (v5 ^^^ 5)], σ6)) rfl ?_
    obtain rfl := Option.some.inj h
    exact zGo.ret rfl rfl
def X_act (l1 : Int32) (l2 : Int32) (l3 : Int32) (σ : zSt) : Option (Int32 × zSt) := (Net_hasPoint l1 σ).bind fun v1 => if v1 = 0 then (some (0, σ)) else (if l2 < 0 then (some (0, σ)) else (if l2 ≤ 2 then ((zld σ 3 l1).bind fun v2 => (zld σ 4 l1).bind fun v3 => (Bod_begin v2 l1 v3 σ).bind fun σ4 => if l2 = 0 then (zb2 (Bod_asks l3 σ4) fun v6 σ7 => some (v6, σ7)) else (if l2 = 1 then (zb2 (Bod_says l3 σ4) fun v9 σ10 => some (v9, σ10)) else (zb2 (Bod_tells l3 σ4) fun v11 σ12 => some (v11, σ12)))) else (some (0, σ))))
theorem X_act_g {l1 : Int32} {l2 : Int32} {l3 : Int32} {σ : zSt} {r : Int32 × zSt} (h : X_act l1 l2 l3 σ = some r) : zGo zPT zmlc (zPT 130) (0, zent (zmlc 130) [.ref 0, .int l1, .int l2, .int l3], [], σ) (some (.int r.1), r.2) := by
  unfold X_act at h
  show zGo zPT zmlc zP_130 (0, [some (.ref 0), some (.int l1), some (.int l2), some (.int l3)], [], σ) _
  refine zGo.sts 3 (cf' := (5, [some (.ref 0), some (.int l1), some (.int l2), some (.int l3)], [.int l1, .ref 1], σ)) rfl ?_
  obtain ⟨v1, hv, h⟩ := zbd h
  refine zGo.call rfl rfl (Net_hasPoint_g hv) ?_
  by_cases hb15 : v1 = 0
  · replace h := zif_t hb15 h
    refine zI_eq_t rfl hb15 ?_
    refine zGo.sts 1 (cf' := (21, [some (.ref 0), some (.int l1), some (.int l2), some (.int l3)], [.int 0], σ)) rfl ?_
    obtain rfl := Option.some.inj h
    exact zGo.ret rfl rfl
  · replace h := zif_f hb15 h
    refine zI_eq_f rfl hb15 ?_
    refine zGo.sts 1 (cf' := (12, [some (.ref 0), some (.int l1), some (.int l2), some (.int l3)], [.int l2], σ)) rfl ?_
    by_cases hb14 : l2 < 0
    · replace h := zif_t hb14 h
      refine zI_lt_t rfl hb14 ?_
      refine zGo.sts 1 (cf' := (21, [some (.ref 0), some (.int l1), some (.int l2), some (.int l3)], [.int 0], σ)) rfl ?_
      obtain rfl := Option.some.inj h
      exact zGo.ret rfl rfl
    · replace h := zif_f hb14 h
      refine zI_lt_f rfl hb14 ?_
      refine zGo.sts 2 (cf' := (17, [some (.ref 0), some (.int l1), some (.int l2), some (.int l3)], [.int 2, .int l2], σ)) rfl ?_
      by_cases hb13 : l2 ≤ 2
      · replace h := zif_t hb13 h
        refine zC_le_t rfl hb13 ?_
        refine zGo.sts 6 (cf' := (34, [some (.ref 0), some (.int l1), some (.int l2), some (.int l3)], [.int l1, .ref 3, .ref 73], σ)) rfl ?_
        obtain ⟨v2, hv, h⟩ := zbd h
        refine zG_ld rfl hv ?_
        refine zGo.sts 5 (cf' := (44, [some (.ref 0), some (.int l1), some (.int l2), some (.int l3)], [.int l1, .ref 4, .int l1, .int v2, .ref 73], σ)) rfl ?_
        obtain ⟨v3, hv, h⟩ := zbd h
        refine zG_ld rfl hv ?_
        obtain ⟨σ4, hv, h⟩ := zbd h
        refine zGo.call rfl rfl (Bod_begin_g hv) ?_
        refine zGo.sts 1 (cf' := (49, [some (.ref 0), some (.int l1), some (.int l2), some (.int l3)], [.int l2], σ4)) rfl ?_
        by_cases hb5 : l2 = 0
        · replace h := zif_t hb5 h
          refine zG_sw rfl (zsw_t hb5) ?_
          refine zGo.sts 3 (cf' := (81, [some (.ref 0), some (.int l1), some (.int l2), some (.int l3)], [.int l3, .ref 73], σ4)) rfl ?_
          obtain ⟨v6, σ7, hv, h⟩ := zbd2 h
          refine zGo.call rfl rfl (Bod_asks_g hv) ?_
          obtain rfl := Option.some.inj h
          exact zGo.ret rfl rfl
        · replace h := zif_f hb5 h
          by_cases hb8 : l2 = 1
          · replace h := zif_t hb8 h
            refine zG_sw rfl ((zsw_f hb5).trans (zsw_t hb8)) ?_
            refine zGo.sts 3 (cf' := (90, [some (.ref 0), some (.int l1), some (.int l2), some (.int l3)], [.int l3, .ref 73], σ4)) rfl ?_
            obtain ⟨v9, σ10, hv, h⟩ := zbd2 h
            refine zGo.call rfl rfl (Bod_says_g hv) ?_
            obtain rfl := Option.some.inj h
            exact zGo.ret rfl rfl
          · replace h := zif_f hb8 h
            refine zG_sw rfl ((zsw_f hb5).trans ((zsw_f hb8).trans rfl)) ?_
            refine zGo.sts 3 (cf' := (99, [some (.ref 0), some (.int l1), some (.int l2), some (.int l3)], [.int l3, .ref 73], σ4)) rfl ?_
            obtain ⟨v11, σ12, hv, h⟩ := zbd2 h
            refine zGo.call rfl rfl (Bod_tells_g hv) ?_
            obtain rfl := Option.some.inj h
            exact zGo.ret rfl rfl
      · replace h := zif_f hb13 h
        refine zC_le_f rfl hb13 ?_
        refine zGo.sts 1 (cf' := (21, [some (.ref 0), some (.int l1), some (.int l2), some (.int l3)], [.int 0], σ)) rfl ?_
        obtain rfl := Option.some.inj h
        exact zGo.ret rfl rfl
def X_trace (l1 : Int32) (σ : zSt) : Option (Int32) := if l1 < 0 then (some (-2)) else (if l1 < (σ 73 3) then ((zld σ 74 l1).bind fun v1 => some v1) else (some (-2)))
theorem X_trace_g {l1 : Int32} {σ : zSt} {r : Int32} (h : X_trace l1 σ = some r) : zGo zPT zmlc (zPT 131) (0, zent (zmlc 131) [.ref 0, .int l1], [], σ) (some (.int r), σ) := by
  unfold X_trace at h
  show zGo zPT zmlc zP_131 (0, [some (.ref 0), some (.int l1)], [], σ) _
  refine zGo.sts 1 (cf' := (1, [some (.ref 0), some (.int l1)], [.int l1], σ)) rfl ?_
  by_cases hb3 : l1 < 0
  · replace h := zif_t hb3 h
    refine zI_lt_t rfl hb3 ?_
    refine zGo.sts 2 (cf' := (29, [some (.ref 0), some (.int l1)], [.int (-2)], σ)) rfl ?_
    obtain rfl := Option.some.inj h
    exact zGo.ret rfl rfl
  · replace h := zif_f hb3 h
    refine zI_lt_f rfl hb3 ?_
    refine zGo.sts 4 (cf' := (12, [some (.ref 0), some (.int l1)], [.int (σ 73 3), .int l1], σ)) rfl ?_
    by_cases hb2 : l1 < (σ 73 3)
    · replace h := zif_t hb2 h
      refine zC_lt_t rfl hb2 ?_
      refine zGo.sts 4 (cf' := (28, [some (.ref 0), some (.int l1)], [.int l1, .ref 74], σ)) rfl ?_
      obtain ⟨v1, hv, h⟩ := zbd h
      refine zG_ld rfl hv ?_
      obtain rfl := Option.some.inj h
      exact zGo.ret rfl rfl
    · replace h := zif_f hb2 h
      refine zC_lt_f rfl hb2 ?_
      refine zGo.sts 2 (cf' := (29, [some (.ref 0), some (.int l1)], [.int (-2)], σ)) rfl ?_
      obtain rfl := Option.some.inj h
      exact zGo.ret rfl rfl
def X_taken (l1 : Int32) (l2 : Int32) (σ : zSt) : Option (Int32) := (Net_hasPoint l1 σ).bind fun v1 => if v1 = 0 then (some (-1)) else (if l2 < 0 then (some (-1)) else (if l2 < 5 then ((zld σ 3 l1).bind fun v2 => (Bod_isUnder v2 l2 σ).bind fun v3 => if v3 = 0 then (some (-5)) else ((zld σ 4 l1).bind fun v4 => some v4)) else (some (-1))))
theorem X_taken_g {l1 : Int32} {l2 : Int32} {σ : zSt} {r : Int32} (h : X_taken l1 l2 σ = some r) : zGo zPT zmlc (zPT 132) (0, zent (zmlc 132) [.ref 0, .int l1, .int l2], [], σ) (some (.int r), σ) := by
  unfold X_taken at h
  show zGo zPT zmlc zP_132 (0, [some (.ref 0), some (.int l1), some (.int l2)], [], σ) _
  refine zGo.sts 3 (cf' := (5, [some (.ref 0), some (.int l1), some (.int l2)], [.int l1, .ref 1], σ)) rfl ?_
  obtain ⟨v1, hv, h⟩ := zbd h
  refine zGo.call rfl rfl (Net_hasPoint_g hv) ?_
  by_cases hb8 : v1 = 0
  · replace h := zif_t hb8 h
    refine zI_eq_t rfl hb8 ?_
    refine zGo.sts 1 (cf' := (21, [some (.ref 0), some (.int l1), some (.int l2)], [.int (-1)], σ)) rfl ?_
    obtain rfl := Option.some.inj h
    exact zGo.ret rfl rfl
  · replace h := zif_f hb8 h
    refine zI_eq_f rfl hb8 ?_
    refine zGo.sts 1 (cf' := (12, [some (.ref 0), some (.int l1), some (.int l2)], [.int l2], σ)) rfl ?_
    by_cases hb7 : l2 < 0
    · replace h := zif_t hb7 h
      refine zI_lt_t rfl hb7 ?_
      refine zGo.sts 1 (cf' := (21, [some (.ref 0), some (.int l1), some (.int l2)], [.int (-1)], σ)) rfl ?_
      obtain rfl := Option.some.inj h
      exact zGo.ret rfl rfl
    · replace h := zif_f hb7 h
      refine zI_lt_f rfl hb7 ?_
      refine zGo.sts 2 (cf' := (17, [some (.ref 0), some (.int l1), some (.int l2)], [.int 5, .int l2], σ)) rfl ?_
      by_cases hb6 : l2 < 5
      · replace h := zif_t hb6 h
        refine zC_lt_t rfl hb6 ?_
        refine zGo.sts 4 (cf' := (30, [some (.ref 0), some (.int l1), some (.int l2)], [.int l1, .ref 3], σ)) rfl ?_
        obtain ⟨v2, hv, h⟩ := zbd h
        refine zG_ld rfl hv ?_
        refine zGo.sts 1 (cf' := (32, [some (.ref 0), some (.int l1), some (.int l2)], [.int l2, .int v2], σ)) rfl ?_
        obtain ⟨v3, hv, h⟩ := zbd h
        refine zGo.call rfl rfl (Bod_isUnder_g hv) ?_
        by_cases hb5 : v3 = 0
        · replace h := zif_t hb5 h
          refine zI_eq_t rfl hb5 ?_
          refine zGo.sts 1 (cf' := (52, [some (.ref 0), some (.int l1), some (.int l2)], [.int (-5)], σ)) rfl ?_
          obtain rfl := Option.some.inj h
          exact zGo.ret rfl rfl
        · replace h := zif_f hb5 h
          refine zI_eq_f rfl hb5 ?_
          refine zGo.sts 4 (cf' := (46, [some (.ref 0), some (.int l1), some (.int l2)], [.int l1, .ref 4], σ)) rfl ?_
          obtain ⟨v4, hv, h⟩ := zbd h
          refine zG_ld rfl hv ?_
          refine zGo.sts 1 (cf' := (52, [some (.ref 0), some (.int l1), some (.int l2)], [.int v4], σ)) rfl ?_
          obtain rfl := Option.some.inj h
          exact zGo.ret rfl rfl
      · replace h := zif_f hb6 h
        refine zC_lt_f rfl hb6 ?_
        refine zGo.sts 1 (cf' := (21, [some (.ref 0), some (.int l1), some (.int l2)], [.int (-1)], σ)) rfl ?_
        obtain rfl := Option.some.inj h
        exact zGo.ret rfl rfl
def Net_become_15_1_c79 : Nat → Int32 → zSt → Option (zSt)
  | 0, _, _ => none
  | n + 1, l2, σ => if 9 ≤ l2 then (some σ) else ((zlr σ 5 l2).bind fun v8 => (zlr σ 19 l2).bind fun v9 => (zcpy σ v8 0 v9 0 9).bind fun σ10 => Net_become_15_1_c79 n (l2 + 1) σ10)
theorem Net_become_15_1_g79 : ∀ (n : Nat) {l2 : Int32} {σ : zSt} {r : zSt}, Net_become_15_1_c79 n l2 σ = some r → zGo zPT zmlc zP_23 (79, [some (.ref 15), some (.ref 1), some (.int l2)], [], σ) (none, r) := by
  intro n
  induction n with
  | zero => intro l2 σ r h; cases h
  | succ n ih =>
    intro l2 σ r h
    rw [Net_become_15_1_c79] at h
    refine zGo.sts 2 (cf' := (82, [some (.ref 15), some (.ref 1), some (.int l2)], [.int 9, .int l2], σ)) rfl ?_
    by_cases hb11 : 9 ≤ l2
    · replace h := zif_t hb11 h
      refine zC_ge_t rfl hb11 ?_
      obtain rfl := Option.some.inj h
      exact zGo.ret rfl rfl
    · replace h := zif_f hb11 h
      refine zC_ge_f rfl hb11 ?_
      refine zGo.sts 3 (cf' := (90, [some (.ref 15), some (.ref 1), some (.int l2)], [.int l2, .ref 5], σ)) rfl ?_
      obtain ⟨v8, hv, h⟩ := zbd h
      refine zG_lr rfl hv ?_
      refine zGo.sts 4 (cf' := (97, [some (.ref 15), some (.ref 1), some (.int l2)], [.int l2, .ref 19, .int 0, .ref v8], σ)) rfl ?_
      obtain ⟨v9, hv, h⟩ := zbd h
      refine zG_lr rfl hv ?_
      refine zGo.sts 2 (cf' := (101, [some (.ref 15), some (.ref 1), some (.int l2)], [.int 9, .int 0, .ref v9, .int 0, .ref v8], σ)) rfl ?_
      obtain ⟨σ10, hv, h⟩ := zbd h
      refine zG_cp rfl rfl hv ?_
      refine zGo.sts 2 (cf' := (79, [some (.ref 15), some (.ref 1), some (.int (l2 + 1))], [], σ10)) rfl ?_
      exact ih h
def Net_become_15_1 (σ : zSt) : Option (zSt) := zlet (su σ 15 0 (σ 1 0)) fun σ1 => zlet (su σ1 15 1 (σ1 1 1)) fun σ2 => zlet (su σ2 15 2 (σ2 1 2)) fun σ3 => zlet (su σ3 15 3 (σ3 1 3)) fun σ4 => (zcpy σ4 2 0 16 0 9).bind fun σ5 => (zcpy σ5 3 0 17 0 9).bind fun σ6 => (zcpy σ6 4 0 18 0 9).bind fun σ7 => Net_become_15_1_c79 zF 0 σ7
theorem Net_become_15_1_g {σ : zSt} {r : zSt} (h : Net_become_15_1 σ = some r) : zGo zPT zmlc (zPT 23) (0, zent (zmlc 23) [.ref 15, .ref 1], [], σ) (none, r) := by
  unfold Net_become_15_1 at h
  show zGo zPT zmlc zP_23 (0, [some (.ref 15), some (.ref 1), none], [], σ) _
  refine zGo.sts 4 (cf' := (8, [some (.ref 15), some (.ref 1), none], [], (su σ 15 0 (σ 1 0)))) rfl ?_
  replace h := zlet_of h
  generalize su σ 15 0 (σ 1 0) = σ1 at h ⊢
  refine zGo.sts 4 (cf' := (16, [some (.ref 15), some (.ref 1), none], [], (su σ1 15 1 (σ1 1 1)))) rfl ?_
  replace h := zlet_of h
  generalize su σ1 15 1 (σ1 1 1) = σ2 at h ⊢
  refine zGo.sts 4 (cf' := (24, [some (.ref 15), some (.ref 1), none], [], (su σ2 15 2 (σ2 1 2)))) rfl ?_
  replace h := zlet_of h
  generalize su σ2 15 2 (σ2 1 2) = σ3 at h ⊢
  refine zGo.sts 4 (cf' := (32, [some (.ref 15), some (.ref 1), none], [], (su σ3 15 3 (σ3 1 3)))) rfl ?_
  replace h := zlet_of h
  generalize su σ3 15 3 (σ3 1 3) = σ4 at h ⊢
  refine zGo.sts 7 (cf' := (44, [some (.ref 15), some (.ref 1), none], [.int 9, .int 0, .ref 16, .int 0, .ref 2], σ4)) rfl ?_
  obtain ⟨σ5, hv, h⟩ := zbd h
  refine zG_cp rfl rfl hv ?_
  refine zGo.sts 7 (cf' := (59, [some (.ref 15), some (.ref 1), none], [.int 9, .int 0, .ref 17, .int 0, .ref 3], σ5)) rfl ?_
  obtain ⟨σ6, hv, h⟩ := zbd h
  refine zG_cp rfl rfl hv ?_
  refine zGo.sts 7 (cf' := (74, [some (.ref 15), some (.ref 1), none], [.int 9, .int 0, .ref 18, .int 0, .ref 4], σ6)) rfl ?_
  obtain ⟨σ7, hv, h⟩ := zbd h
  refine zG_cp rfl rfl hv ?_
  refine zGo.sts 2 (cf' := (79, [some (.ref 15), some (.ref 1), some (.int 0)], [], σ7)) rfl ?_
  exact Net_become_15_1_g79 zF h
def Net_lines_c4 (σ : zSt) : Nat → Int32 → Int32 → Option (Int32)
  | 0, _, _ => none
  | n + 1, l1, l2 => if (σ 1 0) ≤ l2 then ((zdvq l1 2).bind fun v1 => some v1) else ((zld σ 2 l2).bind fun v2 => (Jdk_bitCount v2 σ).bind fun v3 => Net_lines_c4 σ n (l1 + v3) (l2 + 1))
theorem Net_lines_g4 {σ : zSt} : ∀ (n : Nat) {l1 : Int32} {l2 : Int32} {r : Int32}, Net_lines_c4 σ n l1 l2 = some r → zGo zPT zmlc zP_33 (4, [some (.ref 1), some (.int l1), some (.int l2)], [], σ) (some (.int r), σ) := by
  intro n
  induction n with
  | zero => intro l1 l2 r h; cases h
  | succ n ih =>
    intro l1 l2 r h
    rw [Net_lines_c4] at h
    refine zGo.sts 3 (cf' := (9, [some (.ref 1), some (.int l1), some (.int l2)], [.int (σ 1 0), .int l2], σ)) rfl ?_
    by_cases hb4 : (σ 1 0) ≤ l2
    · replace h := zif_t hb4 h
      refine zC_ge_t rfl hb4 ?_
      refine zGo.sts 2 (cf' := (32, [some (.ref 1), some (.int l1), some (.int l2)], [.int 2, .int l1], σ)) rfl ?_
      obtain ⟨v1, hv, h⟩ := zbd h
      refine zG_div rfl hv ?_
      obtain rfl := Option.some.inj h
      exact zGo.ret rfl rfl
    · replace h := zif_f hb4 h
      refine zC_ge_f rfl hb4 ?_
      refine zGo.sts 4 (cf' := (18, [some (.ref 1), some (.int l1), some (.int l2)], [.int l2, .ref 2, .int l1], σ)) rfl ?_
      obtain ⟨v2, hv, h⟩ := zbd h
      refine zG_ld rfl hv ?_
      obtain ⟨v3, hv, h⟩ := zbd h
      refine zGo.call rfl rfl (Jdk_bitCount_g hv) ?_
      refine zGo.sts 4 (cf' := (4, [some (.ref 1), some (.int (l1 + v3)), some (.int (l2 + 1))], [], σ)) rfl ?_
      exact ih h
def Net_lines (σ : zSt) : Option (Int32) := Net_lines_c4 σ zF 0 0
theorem Net_lines_g {σ : zSt} {r : Int32} (h : Net_lines σ = some r) : zGo zPT zmlc (zPT 33) (0, zent (zmlc 33) [.ref 1], [], σ) (some (.int r), σ) := by
  unfold Net_lines at h
  show zGo zPT zmlc zP_33 (0, [some (.ref 1), none, none], [], σ) _
  refine zGo.sts 4 (cf' := (4, [some (.ref 1), some (.int 0), some (.int 0)], [], σ)) rfl ?_
  exact Net_lines_g4 zF h
def X_image (σ : zSt) : Option (Int32 × zSt) := (Net_become_15_1 σ).bind fun σ1 => zlet (su σ1 0 2 1) fun σ2 => (Net_lines σ2).bind fun v3 => some (v3, σ2)
theorem X_image_g {σ : zSt} {r : Int32 × zSt} (h : X_image σ = some r) : zGo zPT zmlc (zPT 133) (0, zent (zmlc 133) [.ref 0], [], σ) (some (.int r.1), r.2) := by
  unfold X_image at h
  show zGo zPT zmlc zP_133 (0, [some (.ref 0)], [], σ) _
  refine zGo.sts 4 (cf' := (8, [some (.ref 0)], [.ref 1, .ref 15], σ)) rfl ?_
  obtain ⟨σ1, hv, h⟩ := zbd h
  refine zGo.call rfl rfl (Net_become_15_1_g hv) ?_
  refine zGo.sts 3 (cf' := (16, [some (.ref 0)], [], (su σ1 0 2 1))) rfl ?_
  replace h := zlet_of h
  generalize su σ1 0 2 1 = σ2 at h ⊢
  refine zGo.sts 2 (cf' := (20, [some (.ref 0)], [.ref 1], σ2)) rfl ?_
  obtain ⟨v3, hv, h⟩ := zbd h
  refine zGo.call rfl rfl (Net_lines_g hv) ?_
  obtain rfl := Option.some.inj h
  exact zGo.ret rfl rfl
def Net_become_1_15_c79 : Nat → Int32 → zSt → Option (zSt)
  | 0, _, _ => none
  | n + 1, l2, σ => if 9 ≤ l2 then (some σ) else ((zlr σ 19 l2).bind fun v8 => (zlr σ 5 l2).bind fun v9 => (zcpy σ v8 0 v9 0 9).bind fun σ10 => Net_become_1_15_c79 n (l2 + 1) σ10)
theorem Net_become_1_15_g79 : ∀ (n : Nat) {l2 : Int32} {σ : zSt} {r : zSt}, Net_become_1_15_c79 n l2 σ = some r → zGo zPT zmlc zP_23 (79, [some (.ref 1), some (.ref 15), some (.int l2)], [], σ) (none, r) := by
  intro n
  induction n with
  | zero => intro l2 σ r h; cases h
  | succ n ih =>
    intro l2 σ r h
    rw [Net_become_1_15_c79] at h
    refine zGo.sts 2 (cf' := (82, [some (.ref 1), some (.ref 15), some (.int l2)], [.int 9, .int l2], σ)) rfl ?_
    by_cases hb11 : 9 ≤ l2
    · replace h := zif_t hb11 h
      refine zC_ge_t rfl hb11 ?_
      obtain rfl := Option.some.inj h
      exact zGo.ret rfl rfl
    · replace h := zif_f hb11 h
      refine zC_ge_f rfl hb11 ?_
      refine zGo.sts 3 (cf' := (90, [some (.ref 1), some (.ref 15), some (.int l2)], [.int l2, .ref 19], σ)) rfl ?_
      obtain ⟨v8, hv, h⟩ := zbd h
      refine zG_lr rfl hv ?_
      refine zGo.sts 4 (cf' := (97, [some (.ref 1), some (.ref 15), some (.int l2)], [.int l2, .ref 5, .int 0, .ref v8], σ)) rfl ?_
      obtain ⟨v9, hv, h⟩ := zbd h
      refine zG_lr rfl hv ?_
      refine zGo.sts 2 (cf' := (101, [some (.ref 1), some (.ref 15), some (.int l2)], [.int 9, .int 0, .ref v9, .int 0, .ref v8], σ)) rfl ?_
      obtain ⟨σ10, hv, h⟩ := zbd h
      refine zG_cp rfl rfl hv ?_
      refine zGo.sts 2 (cf' := (79, [some (.ref 1), some (.ref 15), some (.int (l2 + 1))], [], σ10)) rfl ?_
      exact ih h
def Net_become_1_15 (σ : zSt) : Option (zSt) := zlet (su σ 1 0 (σ 15 0)) fun σ1 => zlet (su σ1 1 1 (σ1 15 1)) fun σ2 => zlet (su σ2 1 2 (σ2 15 2)) fun σ3 => zlet (su σ3 1 3 (σ3 15 3)) fun σ4 => (zcpy σ4 16 0 2 0 9).bind fun σ5 => (zcpy σ5 17 0 3 0 9).bind fun σ6 => (zcpy σ6 18 0 4 0 9).bind fun σ7 => Net_become_1_15_c79 zF 0 σ7
theorem Net_become_1_15_g {σ : zSt} {r : zSt} (h : Net_become_1_15 σ = some r) : zGo zPT zmlc (zPT 23) (0, zent (zmlc 23) [.ref 1, .ref 15], [], σ) (none, r) := by
  unfold Net_become_1_15 at h
  show zGo zPT zmlc zP_23 (0, [some (.ref 1), some (.ref 15), none], [], σ) _
  refine zGo.sts 4 (cf' := (8, [some (.ref 1), some (.ref 15), none], [], (su σ 1 0 (σ 15 0)))) rfl ?_
  replace h := zlet_of h
  generalize su σ 1 0 (σ 15 0) = σ1 at h ⊢
  refine zGo.sts 4 (cf' := (16, [some (.ref 1), some (.ref 15), none], [], (su σ1 1 1 (σ1 15 1)))) rfl ?_
  replace h := zlet_of h
  generalize su σ1 1 1 (σ1 15 1) = σ2 at h ⊢
  refine zGo.sts 4 (cf' := (24, [some (.ref 1), some (.ref 15), none], [], (su σ2 1 2 (σ2 15 2)))) rfl ?_
  replace h := zlet_of h
  generalize su σ2 1 2 (σ2 15 2) = σ3 at h ⊢
  refine zGo.sts 4 (cf' := (32, [some (.ref 1), some (.ref 15), none], [], (su σ3 1 3 (σ3 15 3)))) rfl ?_
  replace h := zlet_of h
  generalize su σ3 1 3 (σ3 15 3) = σ4 at h ⊢
  refine zGo.sts 7 (cf' := (44, [some (.ref 1), some (.ref 15), none], [.int 9, .int 0, .ref 2, .int 0, .ref 16], σ4)) rfl ?_
  obtain ⟨σ5, hv, h⟩ := zbd h
  refine zG_cp rfl rfl hv ?_
  refine zGo.sts 7 (cf' := (59, [some (.ref 1), some (.ref 15), none], [.int 9, .int 0, .ref 3, .int 0, .ref 17], σ5)) rfl ?_
  obtain ⟨σ6, hv, h⟩ := zbd h
  refine zG_cp rfl rfl hv ?_
  refine zGo.sts 7 (cf' := (74, [some (.ref 1), some (.ref 15), none], [.int 9, .int 0, .ref 4, .int 0, .ref 18], σ6)) rfl ?_
  obtain ⟨σ7, hv, h⟩ := zbd h
  refine zG_cp rfl rfl hv ?_
  refine zGo.sts 2 (cf' := (79, [some (.ref 1), some (.ref 15), some (.int 0)], [], σ7)) rfl ?_
  exact Net_become_1_15_g79 zF h
def X_back (σ : zSt) : Option (Int32 × zSt) := if ¬ (σ 0 2) = 0 then ((Net_become_1_15 σ).bind fun σ1 => (His_forget σ1).bind fun σ2 => (Net_lines σ2).bind fun v3 => some (v3, σ2)) else (some ((-5), σ))
theorem X_back_g {σ : zSt} {r : Int32 × zSt} (h : X_back σ = some r) : zGo zPT zmlc (zPT 134) (0, zent (zmlc 134) [.ref 0], [], σ) (some (.int r.1), r.2) := by
  unfold X_back at h
  show zGo zPT zmlc zP_134 (0, [some (.ref 0)], [], σ) _
  refine zGo.sts 2 (cf' := (4, [some (.ref 0)], [.int (σ 0 2)], σ)) rfl ?_
  by_cases hb4 : ¬ (σ 0 2) = 0
  · replace h := zif_t hb4 h
    refine zI_ne_t rfl hb4 ?_
    refine zGo.sts 4 (cf' := (18, [some (.ref 0)], [.ref 15, .ref 1], σ)) rfl ?_
    obtain ⟨σ1, hv, h⟩ := zbd h
    refine zGo.call rfl rfl (Net_become_1_15_g hv) ?_
    refine zGo.sts 2 (cf' := (25, [some (.ref 0)], [.ref 29], σ1)) rfl ?_
    obtain ⟨σ2, hv, h⟩ := zbd h
    refine zGo.call rfl rfl (His_forget_g hv) ?_
    refine zGo.sts 2 (cf' := (32, [some (.ref 0)], [.ref 1], σ2)) rfl ?_
    obtain ⟨v3, hv, h⟩ := zbd h
    refine zGo.call rfl rfl (Net_lines_g hv) ?_
    obtain rfl := Option.some.inj h
    exact zGo.ret rfl rfl
  · replace h := zif_f hb4 h
    refine zI_ne_f rfl hb4 ?_
    refine zGo.sts 1 (cf' := (9, [some (.ref 0)], [.int (-5)], σ)) rfl ?_
    obtain rfl := Option.some.inj h
    exact zGo.ret rfl rfl
def Net_leastDegree_c5 (σ : zSt) : Nat → Int32 → Int32 → Option (Int32)
  | 0, _, _ => none
  | n + 1, l1, l2 => if (σ 1 0) ≤ l2 then (some l1) else ((zld σ 2 l2).bind fun v1 => (Jdk_bitCount v1 σ).bind fun v2 => zlet (if v2 < l1 then v2 else l1) fun v3 => Net_leastDegree_c5 σ n v3 (l2 + 1))
theorem Net_leastDegree_g5 {σ : zSt} : ∀ (n : Nat) {l1 : Int32} {l2 : Int32} {r : Int32}, Net_leastDegree_c5 σ n l1 l2 = some r → zGo zPT zmlc zP_34 (5, [some (.ref 1), some (.int l1), some (.int l2)], [], σ) (some (.int r), σ) := by
  intro n
  induction n with
  | zero => intro l1 l2 r h; cases h
  | succ n ih =>
    intro l1 l2 r h
    rw [Net_leastDegree_c5] at h
    refine zGo.sts 3 (cf' := (10, [some (.ref 1), some (.int l1), some (.int l2)], [.int (σ 1 0), .int l2], σ)) rfl ?_
    by_cases hb4 : (σ 1 0) ≤ l2
    · replace h := zif_t hb4 h
      refine zC_ge_t rfl hb4 ?_
      refine zGo.sts 1 (cf' := (34, [some (.ref 1), some (.int l1), some (.int l2)], [.int l1], σ)) rfl ?_
      obtain rfl := Option.some.inj h
      exact zGo.ret rfl rfl
    · replace h := zif_f hb4 h
      refine zC_ge_f rfl hb4 ?_
      refine zGo.sts 4 (cf' := (19, [some (.ref 1), some (.int l1), some (.int l2)], [.int l2, .ref 2, .int l1], σ)) rfl ?_
      obtain ⟨v1, hv, h⟩ := zbd h
      refine zG_ld rfl hv ?_
      obtain ⟨v2, hv, h⟩ := zbd h
      refine zGo.call rfl rfl (Jdk_bitCount_g hv) ?_
      refine zGo.sts 2 (cf' := (27, [some (.ref 1), some (.int (if v2 < l1 then v2 else l1)), some (.int l2)], [], σ)) rfl ?_
      replace h := zlet_of h
      generalize (if v2 < l1 then v2 else l1) = v3 at h ⊢
      refine zGo.sts 2 (cf' := (5, [some (.ref 1), some (.int v3), some (.int (l2 + 1))], [], σ)) rfl ?_
      exact ih h
def Net_leastDegree (σ : zSt) : Option (Int32) := Net_leastDegree_c5 σ zF 9 0
theorem Net_leastDegree_g {σ : zSt} {r : Int32} (h : Net_leastDegree σ = some r) : zGo zPT zmlc (zPT 34) (0, zent (zmlc 34) [.ref 1], [], σ) (some (.int r), σ) := by
  unfold Net_leastDegree at h
  show zGo zPT zmlc zP_34 (0, [some (.ref 1), none, none], [], σ) _
  refine zGo.sts 4 (cf' := (5, [some (.ref 1), some (.int 9), some (.int 0)], [], σ)) rfl ?_
  exact Net_leastDegree_g5 zF h
def Net_greatestDegree_c4 (σ : zSt) : Nat → Int32 → Int32 → Option (Int32)
  | 0, _, _ => none
  | n + 1, l1, l2 => if (σ 1 0) ≤ l2 then (some l1) else ((zld σ 2 l2).bind fun v1 => (Jdk_bitCount v1 σ).bind fun v2 => zlet (if l1 < v2 then v2 else l1) fun v3 => Net_greatestDegree_c4 σ n v3 (l2 + 1))
theorem Net_greatestDegree_g4 {σ : zSt} : ∀ (n : Nat) {l1 : Int32} {l2 : Int32} {r : Int32}, Net_greatestDegree_c4 σ n l1 l2 = some r → zGo zPT zmlc zP_35 (4, [some (.ref 1), some (.int l1), some (.int l2)], [], σ) (some (.int r), σ) := by
  intro n
  induction n with
  | zero => intro l1 l2 r h; cases h
  | succ n ih =>
    intro l1 l2 r h
    rw [Net_greatestDegree_c4] at h
    refine zGo.sts 3 (cf' := (9, [some (.ref 1), some (.int l1), some (.int l2)], [.int (σ 1 0), .int l2], σ)) rfl ?_
    by_cases hb4 : (σ 1 0) ≤ l2
    · replace h := zif_t hb4 h
      refine zC_ge_t rfl hb4 ?_
      refine zGo.sts 1 (cf' := (33, [some (.ref 1), some (.int l1), some (.int l2)], [.int l1], σ)) rfl ?_
      obtain rfl := Option.some.inj h
      exact zGo.ret rfl rfl
    · replace h := zif_f hb4 h
      refine zC_ge_f rfl hb4 ?_
      refine zGo.sts 4 (cf' := (18, [some (.ref 1), some (.int l1), some (.int l2)], [.int l2, .ref 2, .int l1], σ)) rfl ?_
      obtain ⟨v1, hv, h⟩ := zbd h
      refine zG_ld rfl hv ?_
      obtain ⟨v2, hv, h⟩ := zbd h
      refine zGo.call rfl rfl (Jdk_bitCount_g hv) ?_
      refine zGo.sts 2 (cf' := (26, [some (.ref 1), some (.int (if l1 < v2 then v2 else l1)), some (.int l2)], [], σ)) rfl ?_
      replace h := zlet_of h
      generalize (if l1 < v2 then v2 else l1) = v3 at h ⊢
      refine zGo.sts 2 (cf' := (4, [some (.ref 1), some (.int v3), some (.int (l2 + 1))], [], σ)) rfl ?_
      exact ih h
def Net_greatestDegree (σ : zSt) : Option (Int32) := Net_greatestDegree_c4 σ zF 0 0
theorem Net_greatestDegree_g {σ : zSt} {r : Int32} (h : Net_greatestDegree σ = some r) : zGo zPT zmlc (zPT 35) (0, zent (zmlc 35) [.ref 1], [], σ) (some (.int r), σ) := by
  unfold Net_greatestDegree at h
  show zGo zPT zmlc zP_35 (0, [some (.ref 1), none, none], [], σ) _
  refine zGo.sts 4 (cf' := (4, [some (.ref 1), some (.int 0), some (.int 0)], [], σ)) rfl ?_
  exact Net_greatestDegree_g4 zF h
def Net_partOf_c13 (σ : zSt) (c4 : Int32 → Int32 → Option (Int32)) : Nat → Int32 → Int32 → Int32 → Option (Int32)
  | 0, _, _, _ => none
  | n + 1, l2, l3, l4 => if (σ 1 0) ≤ l4 then (c4 l2 (l3 + 1)) else (if ¬ ((l2 >>> (l4 &&& 31)) &&& 1) = 1 then (Net_partOf_c13 σ c4 n l2 l3 (l4 + 1)) else ((zld σ 2 l4).bind fun v2 => Net_partOf_c13 σ c4 n (l2 ||| v2) l3 (l4 + 1)))
theorem Net_partOf_g13 {σ : zSt} {c4 : Int32 → Int32 → Option (Int32)} (hc4 : ∀ {d1 : Option Value} {d4 : Option Value} {l2 : Int32} {l3 : Int32} {r : Int32}, c4 l2 l3 = some r → zGo zPT zmlc zP_37 (4, [some (.ref 1), d1, some (.int l2), some (.int l3), d4], [], σ) (some (.int r), σ)) : ∀ (n : Nat) {d1 : Option Value} {l2 : Int32} {l3 : Int32} {l4 : Int32} {r : Int32}, Net_partOf_c13 σ c4 n l2 l3 l4 = some r → zGo zPT zmlc zP_37 (13, [some (.ref 1), d1, some (.int l2), some (.int l3), some (.int l4)], [], σ) (some (.int r), σ) := by
  intro n
  induction n with
  | zero => intro d1 l2 l3 l4 r h; cases h
  | succ n ih =>
    intro d1 l2 l3 l4 r h
    rw [Net_partOf_c13] at h
    refine zGo.sts 3 (cf' := (19, [some (.ref 1), d1, some (.int l2), some (.int l3), some (.int l4)], [.int (σ 1 0), .int l4], σ)) rfl ?_
    by_cases hb4 : (σ 1 0) ≤ l4
    · replace h := zif_t hb4 h
      refine zC_ge_t rfl hb4 ?_
      refine zGo.sts 2 (cf' := (4, [some (.ref 1), d1, some (.int l2), some (.int (l3 + 1)), some (.int l4)], [], σ)) rfl ?_
      exact hc4 h
    · replace h := zif_f hb4 h
      refine zC_ge_f rfl hb4 ?_
      refine zGo.sts 6 (cf' := (29, [some (.ref 1), d1, some (.int l2), some (.int l3), some (.int l4)], [.int 1, .int ((l2 >>> (l4 &&& 31)) &&& 1)], σ)) rfl ?_
      by_cases hb3 : ¬ ((l2 >>> (l4 &&& 31)) &&& 1) = 1
      · replace h := zif_t hb3 h
        refine zC_ne_t rfl hb3 ?_
        refine zGo.sts 2 (cf' := (13, [some (.ref 1), d1, some (.int l2), some (.int l3), some (.int (l4 + 1))], [], σ)) rfl ?_
        exact ih h
      · replace h := zif_f hb3 h
        refine zC_ne_f rfl hb3 ?_
        refine zGo.sts 4 (cf' := (39, [some (.ref 1), d1, some (.int l2), some (.int l3), some (.int l4)], [.int l4, .ref 2, .int l2], σ)) rfl ?_
        obtain ⟨v2, hv, h⟩ := zbd h
        refine zG_ld rfl hv ?_
        refine zGo.sts 4 (cf' := (13, [some (.ref 1), d1, some (.int (l2 ||| v2)), some (.int l3), some (.int (l4 + 1))], [], σ)) rfl ?_
        exact ih h
def Net_partOf_c4 (σ : zSt) : Nat → Int32 → Int32 → Option (Int32)
  | 0, _, _ => none
  | n + 1, l2, l3 => if 9 ≤ l3 then (some l2) else (Net_partOf_c13 σ (Net_partOf_c4 σ n) zF l2 l3 0)
theorem Net_partOf_g4 {σ : zSt} : ∀ (n : Nat) {d1 : Option Value} {d4 : Option Value} {l2 : Int32} {l3 : Int32} {r : Int32}, Net_partOf_c4 σ n l2 l3 = some r → zGo zPT zmlc zP_37 (4, [some (.ref 1), d1, some (.int l2), some (.int l3), d4], [], σ) (some (.int r), σ) := by
  intro n
  induction n with
  | zero => intro d1 d4 l2 l3 r h; cases h
  | succ n ih =>
    intro d1 d4 l2 l3 r h
    rw [Net_partOf_c4] at h
    refine zGo.sts 2 (cf' := (7, [some (.ref 1), d1, some (.int l2), some (.int l3), d4], [.int 9, .int l3], σ)) rfl ?_
    by_cases hb1 : 9 ≤ l3
    · replace h := zif_t hb1 h
      refine zC_ge_t rfl hb1 ?_
      refine zGo.sts 1 (cf' := (55, [some (.ref 1), d1, some (.int l2), some (.int l3), d4], [.int l2], σ)) rfl ?_
      obtain rfl := Option.some.inj h
      exact zGo.ret rfl rfl
    · replace h := zif_f hb1 h
      refine zC_ge_f rfl hb1 ?_
      refine zGo.sts 2 (cf' := (13, [some (.ref 1), d1, some (.int l2), some (.int l3), some (.int 0)], [], σ)) rfl ?_
      exact Net_partOf_g13 ih zF h
def Net_partOf (l1 : Int32) (σ : zSt) : Option (Int32) := Net_partOf_c4 σ zF l1 0
theorem Net_partOf_g {l1 : Int32} {σ : zSt} {r : Int32} (h : Net_partOf l1 σ = some r) : zGo zPT zmlc (zPT 37) (0, zent (zmlc 37) [.ref 1, .int l1], [], σ) (some (.int r), σ) := by
  unfold Net_partOf at h
  show zGo zPT zmlc zP_37 (0, [some (.ref 1), some (.int l1), none, none, none], [], σ) _
  refine zGo.sts 4 (cf' := (4, [some (.ref 1), some (.int l1), some (.int l1), some (.int 0), none], [], σ)) rfl ?_
  exact Net_partOf_g4 zF h
def Net_parts_c9 (σ : zSt) : Nat → Int32 → Int32 → Int32 → Option (Int32)
  | 0, _, _, _ => none
  | n + 1, l1, l2, l3 => if 9 ≤ l3 then (some l2) else (if l1 = 0 then (some l2) else ((Net_partOf (l1 &&& (-l1)) σ).bind fun v2 => Net_parts_c9 σ n (l1 &&& (v2 ^^^ (-1))) (l2 + 1) (l3 + 1)))
theorem Net_parts_g9 {σ : zSt} : ∀ (n : Nat) {l1 : Int32} {l2 : Int32} {l3 : Int32} {r : Int32}, Net_parts_c9 σ n l1 l2 l3 = some r → zGo zPT zmlc zP_36 (9, [some (.ref 1), some (.int l1), some (.int l2), some (.int l3)], [], σ) (some (.int r), σ) := by
  intro n
  induction n with
  | zero => intro l1 l2 l3 r h; cases h
  | succ n ih =>
    intro l1 l2 l3 r h
    rw [Net_parts_c9] at h
    refine zGo.sts 2 (cf' := (12, [some (.ref 1), some (.int l1), some (.int l2), some (.int l3)], [.int 9, .int l3], σ)) rfl ?_
    by_cases hb4 : 9 ≤ l3
    · replace h := zif_t hb4 h
      refine zC_ge_t rfl hb4 ?_
      refine zGo.sts 1 (cf' := (42, [some (.ref 1), some (.int l1), some (.int l2), some (.int l3)], [.int l2], σ)) rfl ?_
      obtain rfl := Option.some.inj h
      exact zGo.ret rfl rfl
    · replace h := zif_f hb4 h
      refine zC_ge_f rfl hb4 ?_
      refine zGo.sts 1 (cf' := (16, [some (.ref 1), some (.int l1), some (.int l2), some (.int l3)], [.int l1], σ)) rfl ?_
      by_cases hb3 : l1 = 0
      · replace h := zif_t hb3 h
        refine zI_eq_t rfl hb3 ?_
        refine zGo.sts 1 (cf' := (42, [some (.ref 1), some (.int l1), some (.int l2), some (.int l3)], [.int l2], σ)) rfl ?_
        obtain rfl := Option.some.inj h
        exact zGo.ret rfl rfl
      · replace h := zif_f hb3 h
        refine zI_eq_f rfl hb3 ?_
        refine zGo.sts 6 (cf' := (25, [some (.ref 1), some (.int l1), some (.int l2), some (.int l3)], [.int (l1 &&& (-l1)), .ref 1, .int l1], σ)) rfl ?_
        obtain ⟨v2, hv, h⟩ := zbd h
        refine zGo.call rfl rfl (Net_partOf_g hv) ?_
        refine zGo.sts 7 (cf' := (9, [some (.ref 1), some (.int (l1 &&& (v2 ^^^ (-1)))), some (.int (l2 + 1)), some (.int (l3 + 1))], [], σ)) rfl ?_
        exact ih h
def Net_parts (σ : zSt) : Option (Int32) := (Net_all σ).bind fun v1 => Net_parts_c9 σ zF v1 0 0
theorem Net_parts_g {σ : zSt} {r : Int32} (h : Net_parts σ = some r) : zGo zPT zmlc (zPT 36) (0, zent (zmlc 36) [.ref 1], [], σ) (some (.int r), σ) := by
  unfold Net_parts at h
  show zGo zPT zmlc zP_36 (0, [some (.ref 1), none, none, none], [], σ) _
  refine zGo.sts 1 (cf' := (1, [some (.ref 1), none, none, none], [.ref 1], σ)) rfl ?_
  obtain ⟨v1, hv, h⟩ := zbd h
  refine zGo.call rfl rfl (Net_all_g hv) ?_
  refine zGo.sts 5 (cf' := (9, [some (.ref 1), some (.int v1), some (.int 0), some (.int 0)], [], σ)) rfl ?_
  exact Net_parts_g9 zF h
def X_count (l1 : Int32) (σ : zSt) : Option (Int32) := if l1 = 0 then (some (σ 1 0)) else (if l1 = 1 then ((Net_lines σ).bind fun v3 => some v3) else (if l1 = 2 then (some (σ 1 1)) else (if l1 = 3 then (some (σ 1 2)) else (if l1 = 4 then (some (σ 1 3)) else (if l1 = 5 then ((Net_leastDegree σ).bind fun v8 => some v8) else (if l1 = 6 then ((Net_greatestDegree σ).bind fun v10 => some v10) else (if l1 = 7 then ((Net_parts σ).bind fun v12 => some v12) else (if l1 = 8 then (some (σ 29 1)) else (if l1 = 9 then (some ((σ 29 2) - (σ 29 1))) else (if l1 = 10 then (some (σ 71 0)) else (some (-1))))))))))))
theorem X_count_g {l1 : Int32} {σ : zSt} {r : Int32} (h : X_count l1 σ = some r) : zGo zPT zmlc (zPT 135) (0, zent (zmlc 135) [.ref 0, .int l1], [], σ) (some (.int r), σ) := by
  unfold X_count at h
  show zGo zPT zmlc zP_135 (0, [some (.ref 0), some (.int l1)], [], σ) _
  refine zGo.sts 1 (cf' := (1, [some (.ref 0), some (.int l1)], [.int l1], σ)) rfl ?_
  by_cases hb1 : l1 = 0
  · replace h := zif_t hb1 h
    refine zG_sw rfl (zsw_t hb1) ?_
    refine zGo.sts 3 (cf' := (67, [some (.ref 0), some (.int l1)], [.int (σ 1 0)], σ)) rfl ?_
    obtain rfl := Option.some.inj h
    exact zGo.ret rfl rfl
  · replace h := zif_f hb1 h
    by_cases hb2 : l1 = 1
    · replace h := zif_t hb2 h
      refine zG_sw rfl ((zsw_f hb1).trans (zsw_t hb2)) ?_
      refine zGo.sts 2 (cf' := (72, [some (.ref 0), some (.int l1)], [.ref 1], σ)) rfl ?_
      obtain ⟨v3, hv, h⟩ := zbd h
      refine zGo.call rfl rfl (Net_lines_g hv) ?_
      obtain rfl := Option.some.inj h
      exact zGo.ret rfl rfl
    · replace h := zif_f hb2 h
      by_cases hb4 : l1 = 2
      · replace h := zif_t hb4 h
        refine zG_sw rfl ((zsw_f hb1).trans ((zsw_f hb2).trans (zsw_t hb4))) ?_
        refine zGo.sts 3 (cf' := (83, [some (.ref 0), some (.int l1)], [.int (σ 1 1)], σ)) rfl ?_
        obtain rfl := Option.some.inj h
        exact zGo.ret rfl rfl
      · replace h := zif_f hb4 h
        by_cases hb5 : l1 = 3
        · replace h := zif_t hb5 h
          refine zG_sw rfl ((zsw_f hb1).trans ((zsw_f hb2).trans ((zsw_f hb4).trans (zsw_t hb5)))) ?_
          refine zGo.sts 3 (cf' := (91, [some (.ref 0), some (.int l1)], [.int (σ 1 2)], σ)) rfl ?_
          obtain rfl := Option.some.inj h
          exact zGo.ret rfl rfl
        · replace h := zif_f hb5 h
          by_cases hb6 : l1 = 4
          · replace h := zif_t hb6 h
            refine zG_sw rfl ((zsw_f hb1).trans ((zsw_f hb2).trans ((zsw_f hb4).trans ((zsw_f hb5).trans (zsw_t hb6))))) ?_
            refine zGo.sts 3 (cf' := (99, [some (.ref 0), some (.int l1)], [.int (σ 1 3)], σ)) rfl ?_
            obtain rfl := Option.some.inj h
            exact zGo.ret rfl rfl
          · replace h := zif_f hb6 h
            by_cases hb7 : l1 = 5
            · replace h := zif_t hb7 h
              refine zG_sw rfl ((zsw_f hb1).trans ((zsw_f hb2).trans ((zsw_f hb4).trans ((zsw_f hb5).trans ((zsw_f hb6).trans (zsw_t hb7)))))) ?_
              refine zGo.sts 2 (cf' := (104, [some (.ref 0), some (.int l1)], [.ref 1], σ)) rfl ?_
              obtain ⟨v8, hv, h⟩ := zbd h
              refine zGo.call rfl rfl (Net_leastDegree_g hv) ?_
              obtain rfl := Option.some.inj h
              exact zGo.ret rfl rfl
            · replace h := zif_f hb7 h
              by_cases hb9 : l1 = 6
              · replace h := zif_t hb9 h
                refine zG_sw rfl ((zsw_f hb1).trans ((zsw_f hb2).trans ((zsw_f hb4).trans ((zsw_f hb5).trans ((zsw_f hb6).trans ((zsw_f hb7).trans (zsw_t hb9))))))) ?_
                refine zGo.sts 2 (cf' := (112, [some (.ref 0), some (.int l1)], [.ref 1], σ)) rfl ?_
                obtain ⟨v10, hv, h⟩ := zbd h
                refine zGo.call rfl rfl (Net_greatestDegree_g hv) ?_
                obtain rfl := Option.some.inj h
                exact zGo.ret rfl rfl
              · replace h := zif_f hb9 h
                by_cases hb11 : l1 = 7
                · replace h := zif_t hb11 h
                  refine zG_sw rfl ((zsw_f hb1).trans ((zsw_f hb2).trans ((zsw_f hb4).trans ((zsw_f hb5).trans ((zsw_f hb6).trans ((zsw_f hb7).trans ((zsw_f hb9).trans (zsw_t hb11)))))))) ?_
                  refine zGo.sts 2 (cf' := (120, [some (.ref 0), some (.int l1)], [.ref 1], σ)) rfl ?_
                  obtain ⟨v12, hv, h⟩ := zbd h
                  refine zGo.call rfl rfl (Net_parts_g hv) ?_
                  obtain rfl := Option.some.inj h
                  exact zGo.ret rfl rfl
                · replace h := zif_f hb11 h
                  by_cases hb13 : l1 = 8
                  · replace h := zif_t hb13 h
                    refine zG_sw rfl ((zsw_f hb1).trans ((zsw_f hb2).trans ((zsw_f hb4).trans ((zsw_f hb5).trans ((zsw_f hb6).trans ((zsw_f hb7).trans ((zsw_f hb9).trans ((zsw_f hb11).trans (zsw_t hb13))))))))) ?_
                    refine zGo.sts 3 (cf' := (131, [some (.ref 0), some (.int l1)], [.int (σ 29 1)], σ)) rfl ?_
                    obtain rfl := Option.some.inj h
                    exact zGo.ret rfl rfl
                  · replace h := zif_f hb13 h
                    by_cases hb14 : l1 = 9
                    · replace h := zif_t hb14 h
                      refine zG_sw rfl ((zsw_f hb1).trans ((zsw_f hb2).trans ((zsw_f hb4).trans ((zsw_f hb5).trans ((zsw_f hb6).trans ((zsw_f hb7).trans ((zsw_f hb9).trans ((zsw_f hb11).trans ((zsw_f hb13).trans (zsw_t hb14)))))))))) ?_
                      refine zGo.sts 7 (cf' := (147, [some (.ref 0), some (.int l1)], [.int ((σ 29 2) - (σ 29 1))], σ)) rfl ?_
                      obtain rfl := Option.some.inj h
                      exact zGo.ret rfl rfl
                    · replace h := zif_f hb14 h
                      by_cases hb15 : l1 = 10
                      · replace h := zif_t hb15 h
                        refine zG_sw rfl ((zsw_f hb1).trans ((zsw_f hb2).trans ((zsw_f hb4).trans ((zsw_f hb5).trans ((zsw_f hb6).trans ((zsw_f hb7).trans ((zsw_f hb9).trans ((zsw_f hb11).trans ((zsw_f hb13).trans ((zsw_f hb14).trans (zsw_t hb15))))))))))) ?_
                        refine zGo.sts 3 (cf' := (155, [some (.ref 0), some (.int l1)], [.int (σ 71 0)], σ)) rfl ?_
                        obtain rfl := Option.some.inj h
                        exact zGo.ret rfl rfl
                      · replace h := zif_f hb15 h
                        refine zG_sw rfl ((zsw_f hb1).trans ((zsw_f hb2).trans ((zsw_f hb4).trans ((zsw_f hb5).trans ((zsw_f hb6).trans ((zsw_f hb7).trans ((zsw_f hb9).trans ((zsw_f hb11).trans ((zsw_f hb13).trans ((zsw_f hb14).trans ((zsw_f hb15).trans rfl))))))))))) ?_
                        refine zGo.sts 1 (cf' := (157, [some (.ref 0), some (.int l1)], [.int (-1)], σ)) rfl ?_
                        obtain rfl := Option.some.inj h
                        exact zGo.ret rfl rfl
def M_in (l0 : Int32) (l1 : Int32) (l2 : Int32) (σ : zSt) : Option (Int32) := if l0 < l1 then (some 0) else (if l2 < l0 then (some 0) else (some 1))
theorem M_in_g {l0 : Int32} {l1 : Int32} {l2 : Int32} {σ : zSt} {r : Int32} (h : M_in l0 l1 l2 σ = some r) : zGo zPT zmlc (zPT 147) (0, zent (zmlc 147) [.int l0, .int l1, .int l2], [], σ) (some (.int r), σ) := by
  unfold M_in at h
  show zGo zPT zmlc zP_147 (0, [some (.int l0), some (.int l1), some (.int l2)], [], σ) _
  refine zGo.sts 2 (cf' := (2, [some (.int l0), some (.int l1), some (.int l2)], [.int l1, .int l0], σ)) rfl ?_
  by_cases hb2 : l0 < l1
  · replace h := zif_t hb2 h
    refine zC_lt_t rfl hb2 ?_
    refine zGo.sts 1 (cf' := (15, [some (.int l0), some (.int l1), some (.int l2)], [.int 0], σ)) rfl ?_
    obtain rfl := Option.some.inj h
    exact zGo.ret rfl rfl
  · replace h := zif_f hb2 h
    refine zC_lt_f rfl hb2 ?_
    refine zGo.sts 2 (cf' := (7, [some (.int l0), some (.int l1), some (.int l2)], [.int l2, .int l0], σ)) rfl ?_
    by_cases hb1 : l2 < l0
    · replace h := zif_t hb1 h
      refine zC_gt_t rfl hb1 ?_
      refine zGo.sts 1 (cf' := (15, [some (.int l0), some (.int l1), some (.int l2)], [.int 0], σ)) rfl ?_
      obtain rfl := Option.some.inj h
      exact zGo.ret rfl rfl
    · replace h := zif_f hb1 h
      refine zC_gt_f rfl hb1 ?_
      refine zGo.sts 2 (cf' := (15, [some (.int l0), some (.int l1), some (.int l2)], [.int 1], σ)) rfl ?_
      obtain rfl := Option.some.inj h
      exact zGo.ret rfl rfl
def M_has (l0 : Int32) (l1 : Int32) (σ : zSt) : Option (Int32) := if ¬ ((l0 >>> (l1 &&& 31)) &&& 1) = 1 then (some 0) else (some 1)
theorem M_has_g {l0 : Int32} {l1 : Int32} {σ : zSt} {r : Int32} (h : M_has l0 l1 σ = some r) : zGo zPT zmlc (zPT 148) (0, zent (zmlc 148) [.int l0, .int l1], [], σ) (some (.int r), σ) := by
  unfold M_has at h
  show zGo zPT zmlc zP_148 (0, [some (.int l0), some (.int l1)], [], σ) _
  refine zGo.sts 6 (cf' := (6, [some (.int l0), some (.int l1)], [.int 1, .int ((l0 >>> (l1 &&& 31)) &&& 1)], σ)) rfl ?_
  by_cases hb1 : ¬ ((l0 >>> (l1 &&& 31)) &&& 1) = 1
  · replace h := zif_t hb1 h
    refine zC_ne_t rfl hb1 ?_
    refine zGo.sts 1 (cf' := (14, [some (.int l0), some (.int l1)], [.int 0], σ)) rfl ?_
    obtain rfl := Option.some.inj h
    exact zGo.ret rfl rfl
  · replace h := zif_f hb1 h
    refine zC_ne_f rfl hb1 ?_
    refine zGo.sts 2 (cf' := (14, [some (.int l0), some (.int l1)], [.int 1], σ)) rfl ?_
    obtain rfl := Option.some.inj h
    exact zGo.ret rfl rfl
def M_bits_c4 (σ : zSt) : Nat → Int32 → Int32 → Int32 → Option (Int32)
  | 0, _, _, _ => none
  | n + 1, l0, l1, l2 => if 9 ≤ l2 then (some l1) else (zlet (l1 + ((l0 >>> (l2 &&& 31)) &&& 1)) fun v1 => M_bits_c4 σ n l0 v1 (l2 + 1))
theorem M_bits_g4 {σ : zSt} : ∀ (n : Nat) {l0 : Int32} {l1 : Int32} {l2 : Int32} {r : Int32}, M_bits_c4 σ n l0 l1 l2 = some r → zGo zPT zmlc zP_149 (4, [some (.int l0), some (.int l1), some (.int l2)], [], σ) (some (.int r), σ) := by
  intro n
  induction n with
  | zero => intro l0 l1 l2 r h; cases h
  | succ n ih =>
    intro l0 l1 l2 r h
    rw [M_bits_c4] at h
    refine zGo.sts 2 (cf' := (7, [some (.int l0), some (.int l1), some (.int l2)], [.int 9, .int l2], σ)) rfl ?_
    by_cases hb2 : 9 ≤ l2
    · replace h := zif_t hb2 h
      refine zC_ge_t rfl hb2 ?_
      refine zGo.sts 1 (cf' := (25, [some (.int l0), some (.int l1), some (.int l2)], [.int l1], σ)) rfl ?_
      obtain rfl := Option.some.inj h
      exact zGo.ret rfl rfl
    · replace h := zif_f hb2 h
      refine zC_ge_f rfl hb2 ?_
      refine zGo.sts 8 (cf' := (18, [some (.int l0), some (.int (l1 + ((l0 >>> (l2 &&& 31)) &&& 1))), some (.int l2)], [], σ)) rfl ?_
      replace h := zlet_of h
      generalize l1 + ((l0 >>> (l2 &&& 31)) &&& 1) = v1 at h ⊢
      refine zGo.sts 2 (cf' := (4, [some (.int l0), some (.int v1), some (.int (l2 + 1))], [], σ)) rfl ?_
      exact ih h
def M_bits (l0 : Int32) (σ : zSt) : Option (Int32) := M_bits_c4 σ zF l0 0 0
theorem M_bits_g {l0 : Int32} {σ : zSt} {r : Int32} (h : M_bits l0 σ = some r) : zGo zPT zmlc (zPT 149) (0, zent (zmlc 149) [.int l0], [], σ) (some (.int r), σ) := by
  unfold M_bits at h
  show zGo zPT zmlc zP_149 (0, [some (.int l0), none, none], [], σ) _
  refine zGo.sts 4 (cf' := (4, [some (.int l0), some (.int 0), some (.int 0)], [], σ)) rfl ?_
  exact M_bits_g4 zF h
def M_isPoint (l1 : Int32) (σ : zSt) : Option (Int32) := (M_in l1 0 ((σ 75 3) - 1) σ).bind fun v1 => bif zbo v1 then some v1 else none
theorem M_isPoint_g {l1 : Int32} {σ : zSt} {r : Int32} (h : M_isPoint l1 σ = some r) : zGo zPT zmlc (zPT 150) (0, zent (zmlc 150) [.ref 75, .int l1], [], σ) (some (.int r), σ) := by
  unfold M_isPoint at h
  show zGo zPT zmlc zP_150 (0, [some (.ref 75), some (.int l1)], [], σ) _
  refine zGo.sts 6 (cf' := (8, [some (.ref 75), some (.int l1)], [.int ((σ 75 3) - 1), .int 0, .int l1], σ)) rfl ?_
  obtain ⟨v1, hv, h⟩ := zbd h
  refine zGo.call rfl rfl (M_in_g hv) ?_
  obtain ⟨hc, h⟩ := zbif h
  obtain rfl := Option.some.inj h
  exact zGo.ret rfl (zrt_b hc)
def M_whole (σ : zSt) : Option (Int32) := some ((1 <<< ((σ 75 3) &&& 31)) - 1)
theorem M_whole_g {σ : zSt} {r : Int32} (h : M_whole σ = some r) : zGo zPT zmlc (zPT 151) (0, zent (zmlc 151) [.ref 75], [], σ) (some (.int r), σ) := by
  unfold M_whole at h
  show zGo zPT zmlc zP_151 (0, [some (.ref 75)], [], σ) _
  refine zGo.sts 6 (cf' := (8, [some (.ref 75)], [.int ((1 <<< ((σ 75 3) &&& 31)) - 1)], σ)) rfl ?_
  obtain rfl := Option.some.inj h
  exact zGo.ret rfl rfl
def M_isSet (l1 : Int32) (σ : zSt) : Option (Int32) := (M_whole σ).bind fun v1 => (M_in l1 0 v1 σ).bind fun v2 => bif zbo v2 then some v2 else none
theorem M_isSet_g {l1 : Int32} {σ : zSt} {r : Int32} (h : M_isSet l1 σ = some r) : zGo zPT zmlc (zPT 152) (0, zent (zmlc 152) [.ref 75, .int l1], [], σ) (some (.int r), σ) := by
  unfold M_isSet at h
  show zGo zPT zmlc zP_152 (0, [some (.ref 75), some (.int l1)], [], σ) _
  refine zGo.sts 3 (cf' := (3, [some (.ref 75), some (.int l1)], [.ref 75, .int 0, .int l1], σ)) rfl ?_
  obtain ⟨v1, hv, h⟩ := zbd h
  refine zGo.call rfl rfl (M_whole_g hv) ?_
  obtain ⟨v2, hv, h⟩ := zbd h
  refine zGo.call rfl rfl (M_in_g hv) ?_
  obtain ⟨hc, h⟩ := zbif h
  obtain rfl := Option.some.inj h
  exact zGo.ret rfl (zrt_b hc)
def M_isLine (l1 : Int32) (l2 : Int32) (σ : zSt) : Option (Int32) := if l1 = l2 then (some 0) else ((zld σ 76 ((9 * l1) + l2)).bind fun v1 => if v1 = 0 then (some 0) else (some 1))
theorem M_isLine_g {l1 : Int32} {l2 : Int32} {σ : zSt} {r : Int32} (h : M_isLine l1 l2 σ = some r) : zGo zPT zmlc (zPT 153) (0, zent (zmlc 153) [.ref 75, .int l1, .int l2], [], σ) (some (.int r), σ) := by
  unfold M_isLine at h
  show zGo zPT zmlc zP_153 (0, [some (.ref 75), some (.int l1), some (.int l2)], [], σ) _
  refine zGo.sts 2 (cf' := (2, [some (.ref 75), some (.int l1), some (.int l2)], [.int l2, .int l1], σ)) rfl ?_
  by_cases hb3 : l1 = l2
  · replace h := zif_t hb3 h
    refine zC_eq_t rfl hb3 ?_
    refine zGo.sts 1 (cf' := (24, [some (.ref 75), some (.int l1), some (.int l2)], [.int 0], σ)) rfl ?_
    obtain rfl := Option.some.inj h
    exact zGo.ret rfl rfl
  · replace h := zif_f hb3 h
    refine zC_eq_f rfl hb3 ?_
    refine zGo.sts 7 (cf' := (15, [some (.ref 75), some (.int l1), some (.int l2)], [.int ((9 * l1) + l2), .ref 76], σ)) rfl ?_
    obtain ⟨v1, hv, h⟩ := zbd h
    refine zG_ld rfl hv ?_
    by_cases hb2 : v1 = 0
    · replace h := zif_t hb2 h
      refine zI_eq_t rfl hb2 ?_
      refine zGo.sts 1 (cf' := (24, [some (.ref 75), some (.int l1), some (.int l2)], [.int 0], σ)) rfl ?_
      obtain rfl := Option.some.inj h
      exact zGo.ret rfl rfl
    · replace h := zif_f hb2 h
      refine zI_eq_f rfl hb2 ?_
      refine zGo.sts 2 (cf' := (24, [some (.ref 75), some (.int l1), some (.int l2)], [.int 1], σ)) rfl ?_
      obtain rfl := Option.some.inj h
      exact zGo.ret rfl rfl
def M_lays (l1 : Int32) (l2 : Int32) (l3 : Int32) (σ : zSt) : Option (zSt) := if ¬ l1 = 0 then (if ¬ l1 = 1 then (if ¬ l1 = 2 then (if ¬ l1 = 3 then (zlet (su σ 75 6 l3) fun σ1 => some σ1) else ((zdvq l3 10).bind fun v2 => zlet (su σ 75 4 v2) fun σ3 => (zrmq l3 10).bind fun v4 => zlet (su σ3 75 5 v4) fun σ5 => some σ5)) else ((zst σ 78 l2 l3).bind fun σ7 => some σ7)) else ((zst σ 77 l2 l3).bind fun σ9 => some σ9)) else ((zst σ 76 l2 l3).bind fun σ11 => (zrmq l2 9).bind fun v12 => (zdvq l2 9).bind fun v13 => (zst σ11 76 ((9 * v12) + v13) l3).bind fun σ14 => some σ14)
theorem M_lays_g {l1 : Int32} {l2 : Int32} {l3 : Int32} {σ : zSt} {r : zSt} (h : M_lays l1 l2 l3 σ = some r) : zGo zPT zmlc (zPT 154) (0, zent (zmlc 154) [.ref 75, .int l1, .int l2, .int l3], [], σ) (none, r) := by
  unfold M_lays at h
  show zGo zPT zmlc zP_154 (0, [some (.ref 75), some (.int l1), some (.int l2), some (.int l3)], [], σ) _
  refine zGo.sts 1 (cf' := (1, [some (.ref 75), some (.int l1), some (.int l2), some (.int l3)], [.int l1], σ)) rfl ?_
  by_cases hb15 : ¬ l1 = 0
  · replace h := zif_t hb15 h
    refine zI_ne_t rfl hb15 ?_
    refine zGo.sts 2 (cf' := (34, [some (.ref 75), some (.int l1), some (.int l2), some (.int l3)], [.int 1, .int l1], σ)) rfl ?_
    by_cases hb10 : ¬ l1 = 1
    · replace h := zif_t hb10 h
      refine zC_ne_t rfl hb10 ?_
      refine zGo.sts 2 (cf' := (49, [some (.ref 75), some (.int l1), some (.int l2), some (.int l3)], [.int 2, .int l1], σ)) rfl ?_
      by_cases hb8 : ¬ l1 = 2
      · replace h := zif_t hb8 h
        refine zC_ne_t rfl hb8 ?_
        refine zGo.sts 2 (cf' := (64, [some (.ref 75), some (.int l1), some (.int l2), some (.int l3)], [.int 3, .int l1], σ)) rfl ?_
        by_cases hb6 : ¬ l1 = 3
        · replace h := zif_t hb6 h
          refine zC_ne_t rfl hb6 ?_
          refine zGo.sts 3 (cf' := (91, [some (.ref 75), some (.int l1), some (.int l2), some (.int l3)], [], (su σ 75 6 l3))) rfl ?_
          replace h := zlet_of h
          generalize su σ 75 6 l3 = σ1 at h ⊢
          obtain rfl := Option.some.inj h
          exact zGo.ret rfl rfl
        · replace h := zif_f hb6 h
          refine zC_ne_f rfl hb6 ?_
          refine zGo.sts 3 (cf' := (71, [some (.ref 75), some (.int l1), some (.int l2), some (.int l3)], [.int 10, .int l3, .ref 75], σ)) rfl ?_
          obtain ⟨v2, hv, h⟩ := zbd h
          refine zG_div rfl hv ?_
          refine zGo.sts 1 (cf' := (75, [some (.ref 75), some (.int l1), some (.int l2), some (.int l3)], [], (su σ 75 4 v2))) rfl ?_
          replace h := zlet_of h
          generalize su σ 75 4 v2 = σ3 at h ⊢
          refine zGo.sts 3 (cf' := (79, [some (.ref 75), some (.int l1), some (.int l2), some (.int l3)], [.int 10, .int l3, .ref 75], σ3)) rfl ?_
          obtain ⟨v4, hv, h⟩ := zbd h
          refine zG_div rfl hv ?_
          refine zGo.sts 1 (cf' := (83, [some (.ref 75), some (.int l1), some (.int l2), some (.int l3)], [], (su σ3 75 5 v4))) rfl ?_
          replace h := zlet_of h
          generalize su σ3 75 5 v4 = σ5 at h ⊢
          refine zGo.sts 1 (cf' := (91, [some (.ref 75), some (.int l1), some (.int l2), some (.int l3)], [], σ5)) rfl ?_
          obtain rfl := Option.some.inj h
          exact zGo.ret rfl rfl
      · replace h := zif_f hb8 h
        refine zC_ne_f rfl hb8 ?_
        refine zGo.sts 4 (cf' := (58, [some (.ref 75), some (.int l1), some (.int l2), some (.int l3)], [.int l3, .int l2, .ref 78], σ)) rfl ?_
        obtain ⟨σ7, hv, h⟩ := zbd h
        refine zG_st rfl hv ?_
        refine zGo.sts 1 (cf' := (91, [some (.ref 75), some (.int l1), some (.int l2), some (.int l3)], [], σ7)) rfl ?_
        obtain rfl := Option.some.inj h
        exact zGo.ret rfl rfl
    · replace h := zif_f hb10 h
      refine zC_ne_f rfl hb10 ?_
      refine zGo.sts 4 (cf' := (43, [some (.ref 75), some (.int l1), some (.int l2), some (.int l3)], [.int l3, .int l2, .ref 77], σ)) rfl ?_
      obtain ⟨σ9, hv, h⟩ := zbd h
      refine zG_st rfl hv ?_
      refine zGo.sts 1 (cf' := (91, [some (.ref 75), some (.int l1), some (.int l2), some (.int l3)], [], σ9)) rfl ?_
      obtain rfl := Option.some.inj h
      exact zGo.ret rfl rfl
  · replace h := zif_f hb15 h
    refine zI_ne_f rfl hb15 ?_
    refine zGo.sts 4 (cf' := (10, [some (.ref 75), some (.int l1), some (.int l2), some (.int l3)], [.int l3, .int l2, .ref 76], σ)) rfl ?_
    obtain ⟨σ11, hv, h⟩ := zbd h
    refine zG_st rfl hv ?_
    refine zGo.sts 5 (cf' := (20, [some (.ref 75), some (.int l1), some (.int l2), some (.int l3)], [.int 9, .int l2, .int 9, .ref 76], σ11)) rfl ?_
    obtain ⟨v12, hv, h⟩ := zbd h
    refine zG_div rfl hv ?_
    refine zGo.sts 3 (cf' := (25, [some (.ref 75), some (.int l1), some (.int l2), some (.int l3)], [.int 9, .int l2, .int (9 * v12), .ref 76], σ11)) rfl ?_
    obtain ⟨v13, hv, h⟩ := zbd h
    refine zG_div rfl hv ?_
    refine zGo.sts 2 (cf' := (28, [some (.ref 75), some (.int l1), some (.int l2), some (.int l3)], [.int l3, .int ((9 * v12) + v13), .ref 76], σ11)) rfl ?_
    obtain ⟨σ14, hv, h⟩ := zbd h
    refine zG_st rfl hv ?_
    refine zGo.sts 1 (cf' := (91, [some (.ref 75), some (.int l1), some (.int l2), some (.int l3)], [], σ14)) rfl ?_
    obtain rfl := Option.some.inj h
    exact zGo.ret rfl rfl
def M_changes_c106 (l1 : Int32) (l2 : Int32) (l3 : Int32) (l4 : Int32) (σ : zSt) : Option (zSt) := (zst σ 79 (σ 75 11) l1).bind fun σ3 => (zst σ3 80 (σ3 75 11) l2).bind fun σ4 => (zst σ4 81 (σ4 75 11) l3).bind fun σ5 => (zst σ5 82 (σ5 75 11) l4).bind fun σ6 => zlet (su σ6 75 11 ((σ6 75 11) + 1)) fun σ7 => zlet (su σ7 75 12 0) fun σ8 => (M_lays l1 l2 l4 σ8).bind fun σ9 => some σ9
theorem M_changes_g106 {d5 : Option Value} {l1 : Int32} {l2 : Int32} {l3 : Int32} {l4 : Int32} {σ : zSt} {r : zSt} (h : M_changes_c106 l1 l2 l3 l4 σ = some r) : zGo zPT zmlc zP_155 (106, [some (.ref 75), some (.int l1), some (.int l2), some (.int l3), some (.int l4), d5], [], σ) (none, r) := by
  unfold M_changes_c106 at h
  refine zGo.sts 5 (cf' := (115, [some (.ref 75), some (.int l1), some (.int l2), some (.int l3), some (.int l4), d5], [.int l1, .int (σ 75 11), .ref 79], σ)) rfl ?_
  obtain ⟨σ3, hv, h⟩ := zbd h
  refine zG_st rfl hv ?_
  refine zGo.sts 5 (cf' := (125, [some (.ref 75), some (.int l1), some (.int l2), some (.int l3), some (.int l4), d5], [.int l2, .int (σ3 75 11), .ref 80], σ3)) rfl ?_
  obtain ⟨σ4, hv, h⟩ := zbd h
  refine zG_st rfl hv ?_
  refine zGo.sts 5 (cf' := (135, [some (.ref 75), some (.int l1), some (.int l2), some (.int l3), some (.int l4), d5], [.int l3, .int (σ4 75 11), .ref 81], σ4)) rfl ?_
  obtain ⟨σ5, hv, h⟩ := zbd h
  refine zG_st rfl hv ?_
  refine zGo.sts 5 (cf' := (146, [some (.ref 75), some (.int l1), some (.int l2), some (.int l3), some (.int l4), d5], [.int l4, .int (σ5 75 11), .ref 82], σ5)) rfl ?_
  obtain ⟨σ6, hv, h⟩ := zbd h
  refine zG_st rfl hv ?_
  refine zGo.sts 6 (cf' := (157, [some (.ref 75), some (.int l1), some (.int l2), some (.int l3), some (.int l4), d5], [], (su σ6 75 11 ((σ6 75 11) + 1)))) rfl ?_
  replace h := zlet_of h
  generalize su σ6 75 11 ((σ6 75 11) + 1) = σ7 at h ⊢
  refine zGo.sts 3 (cf' := (162, [some (.ref 75), some (.int l1), some (.int l2), some (.int l3), some (.int l4), d5], [], (su σ7 75 12 0))) rfl ?_
  replace h := zlet_of h
  generalize su σ7 75 12 0 = σ8 at h ⊢
  refine zGo.sts 4 (cf' := (167, [some (.ref 75), some (.int l1), some (.int l2), some (.int l3), some (.int l4), d5], [.int l4, .int l2, .int l1, .ref 75], σ8)) rfl ?_
  obtain ⟨σ9, hv, h⟩ := zbd h
  refine zGo.call rfl rfl (M_lays_g hv) ?_
  obtain rfl := Option.some.inj h
  exact zGo.ret rfl rfl
def M_changes_c19 : Nat → Int32 → Int32 → Int32 → Int32 → Int32 → zSt → Option (zSt)
  | 0, _, _, _, _, _, _ => none
  | n + 1, l1, l2, l3, l4, l5, σ => if 11 ≤ l5 then (zlet (su σ 75 11 ((σ 75 11) - 1)) fun σ10 => M_changes_c106 l1 l2 l3 l4 σ10) else ((zld σ 79 (l5 + 1)).bind fun v11 => (zst σ 79 l5 v11).bind fun σ12 => (zld σ12 80 (l5 + 1)).bind fun v13 => (zst σ12 80 l5 v13).bind fun σ14 => (zld σ14 81 (l5 + 1)).bind fun v15 => (zst σ14 81 l5 v15).bind fun σ16 => (zld σ16 82 (l5 + 1)).bind fun v17 => (zst σ16 82 l5 v17).bind fun σ18 => M_changes_c19 n l1 l2 l3 l4 (l5 + 1) σ18)
theorem M_changes_g19 : ∀ (n : Nat) {l1 : Int32} {l2 : Int32} {l3 : Int32} {l4 : Int32} {l5 : Int32} {σ : zSt} {r : zSt}, M_changes_c19 n l1 l2 l3 l4 l5 σ = some r → zGo zPT zmlc zP_155 (19, [some (.ref 75), some (.int l1), some (.int l2), some (.int l3), some (.int l4), some (.int l5)], [], σ) (none, r) := by
  intro n
  induction n with
  | zero => intro l1 l2 l3 l4 l5 σ r h; cases h
  | succ n ih =>
    intro l1 l2 l3 l4 l5 σ r h
    rw [M_changes_c19] at h
    refine zGo.sts 2 (cf' := (23, [some (.ref 75), some (.int l1), some (.int l2), some (.int l3), some (.int l4), some (.int l5)], [.int 11, .int l5], σ)) rfl ?_
    by_cases hb19 : 11 ≤ l5
    · replace h := zif_t hb19 h
      refine zC_ge_t rfl hb19 ?_
      refine zGo.sts 6 (cf' := (106, [some (.ref 75), some (.int l1), some (.int l2), some (.int l3), some (.int l4), some (.int l5)], [], (su σ 75 11 ((σ 75 11) - 1)))) rfl ?_
      replace h := zlet_of h
      generalize su σ 75 11 ((σ 75 11) - 1) = σ10 at h ⊢
      exact M_changes_g106 h
    · replace h := zif_f hb19 h
      refine zC_ge_f rfl hb19 ?_
      refine zGo.sts 8 (cf' := (40, [some (.ref 75), some (.int l1), some (.int l2), some (.int l3), some (.int l4), some (.int l5)], [.int (l5 + 1), .ref 79, .int l5, .ref 79], σ)) rfl ?_
      obtain ⟨v11, hv, h⟩ := zbd h
      refine zG_ld rfl hv ?_
      obtain ⟨σ12, hv, h⟩ := zbd h
      refine zG_st rfl hv ?_
      refine zGo.sts 8 (cf' := (56, [some (.ref 75), some (.int l1), some (.int l2), some (.int l3), some (.int l4), some (.int l5)], [.int (l5 + 1), .ref 80, .int l5, .ref 80], σ12)) rfl ?_
      obtain ⟨v13, hv, h⟩ := zbd h
      refine zG_ld rfl hv ?_
      obtain ⟨σ14, hv, h⟩ := zbd h
      refine zG_st rfl hv ?_
      refine zGo.sts 8 (cf' := (72, [some (.ref 75), some (.int l1), some (.int l2), some (.int l3), some (.int l4), some (.int l5)], [.int (l5 + 1), .ref 81, .int l5, .ref 81], σ14)) rfl ?_
      obtain ⟨v15, hv, h⟩ := zbd h
      refine zG_ld rfl hv ?_
      obtain ⟨σ16, hv, h⟩ := zbd h
      refine zG_st rfl hv ?_
      refine zGo.sts 8 (cf' := (88, [some (.ref 75), some (.int l1), some (.int l2), some (.int l3), some (.int l4), some (.int l5)], [.int (l5 + 1), .ref 82, .int l5, .ref 82], σ16)) rfl ?_
      obtain ⟨v17, hv, h⟩ := zbd h
      refine zG_ld rfl hv ?_
      obtain ⟨σ18, hv, h⟩ := zbd h
      refine zG_st rfl hv ?_
      refine zGo.sts 2 (cf' := (19, [some (.ref 75), some (.int l1), some (.int l2), some (.int l3), some (.int l4), some (.int (l5 + 1))], [], σ18)) rfl ?_
      exact ih h
def M_changes (l1 : Int32) (l2 : Int32) (l3 : Int32) (l4 : Int32) (σ : zSt) : Option (zSt) := if ¬ l3 = l4 then (if ¬ (σ 75 11) = 12 then (M_changes_c106 l1 l2 l3 l4 σ) else (M_changes_c19 zF l1 l2 l3 l4 0 σ)) else (some σ)
theorem M_changes_g {l1 : Int32} {l2 : Int32} {l3 : Int32} {l4 : Int32} {σ : zSt} {r : zSt} (h : M_changes l1 l2 l3 l4 σ = some r) : zGo zPT zmlc (zPT 155) (0, zent (zmlc 155) [.ref 75, .int l1, .int l2, .int l3, .int l4], [], σ) (none, r) := by
  unfold M_changes at h
  show zGo zPT zmlc zP_155 (0, [some (.ref 75), some (.int l1), some (.int l2), some (.int l3), some (.int l4), none], [], σ) _
  refine zGo.sts 2 (cf' := (3, [some (.ref 75), some (.int l1), some (.int l2), some (.int l3), some (.int l4), none], [.int l4, .int l3], σ)) rfl ?_
  by_cases hb2 : ¬ l3 = l4
  · replace h := zif_t hb2 h
    refine zC_ne_t rfl hb2 ?_
    refine zGo.sts 3 (cf' := (13, [some (.ref 75), some (.int l1), some (.int l2), some (.int l3), some (.int l4), none], [.int 12, .int (σ 75 11)], σ)) rfl ?_
    by_cases hb1 : ¬ (σ 75 11) = 12
    · replace h := zif_t hb1 h
      refine zC_ne_t rfl hb1 ?_
      exact M_changes_g106 h
    · replace h := zif_f hb1 h
      refine zC_ne_f rfl hb1 ?_
      refine zGo.sts 2 (cf' := (19, [some (.ref 75), some (.int l1), some (.int l2), some (.int l3), some (.int l4), some (.int 0)], [], σ)) rfl ?_
      exact M_changes_g19 zF h
  · replace h := zif_f hb2 h
    refine zC_ne_f rfl hb2 ?_
    obtain rfl := Option.some.inj h
    exact zGo.ret rfl rfl
def M_undo (σ : zSt) : Option (Int32 × zSt) := if ¬ (σ 75 11) = 0 then (zlet (su σ 75 11 ((σ 75 11) - 1)) fun σ1 => zlet (su σ1 75 12 ((σ1 75 12) + 1)) fun σ2 => (zld σ2 79 (σ2 75 11)).bind fun v3 => (zld σ2 80 (σ2 75 11)).bind fun v4 => (zld σ2 81 (σ2 75 11)).bind fun v5 => (M_lays v3 v4 v5 σ2).bind fun σ6 => some (σ6 75 11, σ6)) else (some ((-5), σ))
theorem M_undo_g {σ : zSt} {r : Int32 × zSt} (h : M_undo σ = some r) : zGo zPT zmlc (zPT 156) (0, zent (zmlc 156) [.ref 75], [], σ) (some (.int r.1), r.2) := by
  unfold M_undo at h
  show zGo zPT zmlc zP_156 (0, [some (.ref 75)], [], σ) _
  refine zGo.sts 2 (cf' := (4, [some (.ref 75)], [.int (σ 75 11)], σ)) rfl ?_
  by_cases hb7 : ¬ (σ 75 11) = 0
  · replace h := zif_t hb7 h
    refine zI_ne_t rfl hb7 ?_
    refine zGo.sts 6 (cf' := (20, [some (.ref 75)], [], (su σ 75 11 ((σ 75 11) - 1)))) rfl ?_
    replace h := zlet_of h
    generalize su σ 75 11 ((σ 75 11) - 1) = σ1 at h ⊢
    refine zGo.sts 6 (cf' := (30, [some (.ref 75)], [], (su σ1 75 12 ((σ1 75 12) + 1)))) rfl ?_
    replace h := zlet_of h
    generalize su σ1 75 12 ((σ1 75 12) + 1) = σ2 at h ⊢
    refine zGo.sts 5 (cf' := (39, [some (.ref 75)], [.int (σ2 75 11), .ref 79, .ref 75], σ2)) rfl ?_
    obtain ⟨v3, hv, h⟩ := zbd h
    refine zG_ld rfl hv ?_
    refine zGo.sts 4 (cf' := (48, [some (.ref 75)], [.int (σ2 75 11), .ref 80, .int v3, .ref 75], σ2)) rfl ?_
    obtain ⟨v4, hv, h⟩ := zbd h
    refine zG_ld rfl hv ?_
    refine zGo.sts 4 (cf' := (57, [some (.ref 75)], [.int (σ2 75 11), .ref 81, .int v4, .int v3, .ref 75], σ2)) rfl ?_
    obtain ⟨v5, hv, h⟩ := zbd h
    refine zG_ld rfl hv ?_
    obtain ⟨σ6, hv, h⟩ := zbd h
    refine zGo.call rfl rfl (M_lays_g hv) ?_
    refine zGo.sts 2 (cf' := (65, [some (.ref 75)], [.int (σ6 75 11)], σ6)) rfl ?_
    obtain rfl := Option.some.inj h
    exact zGo.ret rfl rfl
  · replace h := zif_f hb7 h
    refine zI_ne_f rfl hb7 ?_
    refine zGo.sts 1 (cf' := (9, [some (.ref 75)], [.int (-5)], σ)) rfl ?_
    obtain rfl := Option.some.inj h
    exact zGo.ret rfl rfl
def M_redo (σ : zSt) : Option (Int32 × zSt) := if ¬ (σ 75 12) = 0 then ((zld σ 79 (σ 75 11)).bind fun v1 => (zld σ 80 (σ 75 11)).bind fun v2 => (zld σ 82 (σ 75 11)).bind fun v3 => (M_lays v1 v2 v3 σ).bind fun σ4 => zlet (su σ4 75 11 ((σ4 75 11) + 1)) fun σ5 => zlet (su σ5 75 12 ((σ5 75 12) - 1)) fun σ6 => some (σ6 75 12, σ6)) else (some ((-5), σ))
theorem M_redo_g {σ : zSt} {r : Int32 × zSt} (h : M_redo σ = some r) : zGo zPT zmlc (zPT 157) (0, zent (zmlc 157) [.ref 75], [], σ) (some (.int r.1), r.2) := by
  unfold M_redo at h
  show zGo zPT zmlc zP_157 (0, [some (.ref 75)], [], σ) _
  refine zGo.sts 2 (cf' := (4, [some (.ref 75)], [.int (σ 75 12)], σ)) rfl ?_
  by_cases hb7 : ¬ (σ 75 12) = 0
  · replace h := zif_t hb7 h
    refine zI_ne_t rfl hb7 ?_
    refine zGo.sts 5 (cf' := (19, [some (.ref 75)], [.int (σ 75 11), .ref 79, .ref 75], σ)) rfl ?_
    obtain ⟨v1, hv, h⟩ := zbd h
    refine zG_ld rfl hv ?_
    refine zGo.sts 4 (cf' := (28, [some (.ref 75)], [.int (σ 75 11), .ref 80, .int v1, .ref 75], σ)) rfl ?_
    obtain ⟨v2, hv, h⟩ := zbd h
    refine zG_ld rfl hv ?_
    refine zGo.sts 4 (cf' := (37, [some (.ref 75)], [.int (σ 75 11), .ref 82, .int v2, .int v1, .ref 75], σ)) rfl ?_
    obtain ⟨v3, hv, h⟩ := zbd h
    refine zG_ld rfl hv ?_
    obtain ⟨σ4, hv, h⟩ := zbd h
    refine zGo.call rfl rfl (M_lays_g hv) ?_
    refine zGo.sts 6 (cf' := (51, [some (.ref 75)], [], (su σ4 75 11 ((σ4 75 11) + 1)))) rfl ?_
    replace h := zlet_of h
    generalize su σ4 75 11 ((σ4 75 11) + 1) = σ5 at h ⊢
    refine zGo.sts 6 (cf' := (61, [some (.ref 75)], [], (su σ5 75 12 ((σ5 75 12) - 1)))) rfl ?_
    replace h := zlet_of h
    generalize su σ5 75 12 ((σ5 75 12) - 1) = σ6 at h ⊢
    refine zGo.sts 2 (cf' := (65, [some (.ref 75)], [.int (σ6 75 12)], σ6)) rfl ?_
    obtain rfl := Option.some.inj h
    exact zGo.ret rfl rfl
  · replace h := zif_f hb7 h
    refine zI_ne_f rfl hb7 ?_
    refine zGo.sts 1 (cf' := (9, [some (.ref 75)], [.int (-5)], σ)) rfl ?_
    obtain rfl := Option.some.inj h
    exact zGo.ret rfl rfl
def M_forgets (σ : zSt) : Option (zSt) := zlet (su σ 75 11 0) fun σ1 => zlet (su σ1 75 12 0) fun σ2 => some σ2
theorem M_forgets_g {σ : zSt} {r : zSt} (h : M_forgets σ = some r) : zGo zPT zmlc (zPT 158) (0, zent (zmlc 158) [.ref 75], [], σ) (none, r) := by
  unfold M_forgets at h
  show zGo zPT zmlc zP_158 (0, [some (.ref 75)], [], σ) _
  refine zGo.sts 3 (cf' := (5, [some (.ref 75)], [], (su σ 75 11 0))) rfl ?_
  replace h := zlet_of h
  generalize su σ 75 11 0 = σ1 at h ⊢
  refine zGo.sts 3 (cf' := (10, [some (.ref 75)], [], (su σ1 75 12 0))) rfl ?_
  replace h := zlet_of h
  generalize su σ1 75 12 0 = σ2 at h ⊢
  obtain rfl := Option.some.inj h
  exact zGo.ret rfl rfl
def M_points_c45 : Nat → Int32 → Int32 → zSt → Option (Int32 × zSt)
  | 0, _, _, _ => none
  | n + 1, l2, l3, σ => if 9 ≤ l3 then ((M_forgets σ).bind fun σ6 => some (l2, σ6)) else ((zst σ 77 l3 0).bind fun σ7 => (zst σ7 78 l3 0).bind fun σ8 => M_points_c45 n l2 (l3 + 1) σ8)
theorem M_points_g45 : ∀ (n : Nat) {d1 : Option Value} {l2 : Int32} {l3 : Int32} {σ : zSt} {r : Int32 × zSt}, M_points_c45 n l2 l3 σ = some r → zGo zPT zmlc zP_159 (45, [some (.ref 75), d1, some (.int l2), some (.int l3)], [], σ) (some (.int r.1), r.2) := by
  intro n
  induction n with
  | zero => intro d1 l2 l3 σ r h; cases h
  | succ n ih =>
    intro d1 l2 l3 σ r h
    rw [M_points_c45] at h
    refine zGo.sts 2 (cf' := (48, [some (.ref 75), d1, some (.int l2), some (.int l3)], [.int 9, .int l3], σ)) rfl ?_
    by_cases hb9 : 9 ≤ l3
    · replace h := zif_t hb9 h
      refine zC_ge_t rfl hb9 ?_
      refine zGo.sts 1 (cf' := (72, [some (.ref 75), d1, some (.int l2), some (.int l3)], [.ref 75], σ)) rfl ?_
      obtain ⟨σ6, hv, h⟩ := zbd h
      refine zGo.call rfl rfl (M_forgets_g hv) ?_
      refine zGo.sts 1 (cf' := (76, [some (.ref 75), d1, some (.int l2), some (.int l3)], [.int l2], σ6)) rfl ?_
      obtain rfl := Option.some.inj h
      exact zGo.ret rfl rfl
    · replace h := zif_f hb9 h
      refine zC_ge_f rfl hb9 ?_
      refine zGo.sts 4 (cf' := (57, [some (.ref 75), d1, some (.int l2), some (.int l3)], [.int 0, .int l3, .ref 77], σ)) rfl ?_
      obtain ⟨σ7, hv, h⟩ := zbd h
      refine zG_st rfl hv ?_
      refine zGo.sts 4 (cf' := (64, [some (.ref 75), d1, some (.int l2), some (.int l3)], [.int 0, .int l3, .ref 78], σ7)) rfl ?_
      obtain ⟨σ8, hv, h⟩ := zbd h
      refine zG_st rfl hv ?_
      refine zGo.sts 2 (cf' := (45, [some (.ref 75), d1, some (.int l2), some (.int (l3 + 1))], [], σ8)) rfl ?_
      exact ih h
def M_points_c24 : Nat → Int32 → Int32 → zSt → Option (Int32 × zSt)
  | 0, _, _, _ => none
  | n + 1, l2, l3, σ => if 81 ≤ l3 then (M_points_c45 zF l2 0 σ) else ((zst σ 76 l3 0).bind fun σ4 => M_points_c24 n l2 (l3 + 1) σ4)
theorem M_points_g24 : ∀ (n : Nat) {d1 : Option Value} {l2 : Int32} {l3 : Int32} {σ : zSt} {r : Int32 × zSt}, M_points_c24 n l2 l3 σ = some r → zGo zPT zmlc zP_159 (24, [some (.ref 75), d1, some (.int l2), some (.int l3)], [], σ) (some (.int r.1), r.2) := by
  intro n
  induction n with
  | zero => intro d1 l2 l3 σ r h; cases h
  | succ n ih =>
    intro d1 l2 l3 σ r h
    rw [M_points_c24] at h
    refine zGo.sts 2 (cf' := (27, [some (.ref 75), d1, some (.int l2), some (.int l3)], [.int 81, .int l3], σ)) rfl ?_
    by_cases hb5 : 81 ≤ l3
    · replace h := zif_t hb5 h
      refine zC_ge_t rfl hb5 ?_
      refine zGo.sts 2 (cf' := (45, [some (.ref 75), d1, some (.int l2), some (.int 0)], [], σ)) rfl ?_
      exact M_points_g45 zF h
    · replace h := zif_f hb5 h
      refine zC_ge_f rfl hb5 ?_
      refine zGo.sts 4 (cf' := (36, [some (.ref 75), d1, some (.int l2), some (.int l3)], [.int 0, .int l3, .ref 76], σ)) rfl ?_
      obtain ⟨σ4, hv, h⟩ := zbd h
      refine zG_st rfl hv ?_
      refine zGo.sts 2 (cf' := (24, [some (.ref 75), d1, some (.int l2), some (.int (l3 + 1))], [], σ4)) rfl ?_
      exact ih h
def M_points (l1 : Int32) (σ : zSt) : Option (Int32 × zSt) := (M_in l1 1 9 σ).bind fun v1 => if ¬ v1 = 0 then (zlet (su σ 75 3 l1) fun σ2 => M_points_c24 zF (σ 75 3) 0 σ2) else (some ((-1), σ))
theorem M_points_g {l1 : Int32} {σ : zSt} {r : Int32 × zSt} (h : M_points l1 σ = some r) : zGo zPT zmlc (zPT 159) (0, zent (zmlc 159) [.ref 75, .int l1], [], σ) (some (.int r.1), r.2) := by
  unfold M_points at h
  show zGo zPT zmlc zP_159 (0, [some (.ref 75), some (.int l1), none, none], [], σ) _
  refine zGo.sts 3 (cf' := (4, [some (.ref 75), some (.int l1), none, none], [.int 9, .int 1, .int l1], σ)) rfl ?_
  obtain ⟨v1, hv, h⟩ := zbd h
  refine zGo.call rfl rfl (M_in_g hv) ?_
  by_cases hb3 : ¬ v1 = 0
  · replace h := zif_t hb3 h
    refine zI_ne_t rfl hb3 ?_
    refine zGo.sts 6 (cf' := (22, [some (.ref 75), some (.int l1), some (.int (σ 75 3)), none], [], (su σ 75 3 l1))) rfl ?_
    replace h := zlet_of h
    generalize su σ 75 3 l1 = σ2 at h ⊢
    refine zGo.sts 2 (cf' := (24, [some (.ref 75), some (.int l1), some (.int (σ 75 3)), some (.int 0)], [], σ2)) rfl ?_
    exact M_points_g24 zF h
  · replace h := zif_f hb3 h
    refine zI_ne_f rfl hb3 ?_
    refine zGo.sts 1 (cf' := (11, [some (.ref 75), some (.int l1), none, none], [.int (-1)], σ)) rfl ?_
    obtain rfl := Option.some.inj h
    exact zGo.ret rfl rfl
def M_areTwo (l1 : Int32) (l2 : Int32) (σ : zSt) : Option (Int32) := (M_isPoint l1 σ).bind fun v1 => if v1 = 0 then (some 0) else ((M_isPoint l2 σ).bind fun v2 => if v2 = 0 then (some 0) else (if l1 = l2 then (some 0) else (some 1)))
theorem M_areTwo_g {l1 : Int32} {l2 : Int32} {σ : zSt} {r : Int32} (h : M_areTwo l1 l2 σ = some r) : zGo zPT zmlc (zPT 160) (0, zent (zmlc 160) [.ref 75, .int l1, .int l2], [], σ) (some (.int r), σ) := by
  unfold M_areTwo at h
  show zGo zPT zmlc zP_160 (0, [some (.ref 75), some (.int l1), some (.int l2)], [], σ) _
  refine zGo.sts 2 (cf' := (2, [some (.ref 75), some (.int l1), some (.int l2)], [.int l1, .ref 75], σ)) rfl ?_
  obtain ⟨v1, hv, h⟩ := zbd h
  refine zGo.call rfl rfl (M_isPoint_g hv) ?_
  by_cases hb5 : v1 = 0
  · replace h := zif_t hb5 h
    refine zI_eq_t rfl hb5 ?_
    refine zGo.sts 1 (cf' := (26, [some (.ref 75), some (.int l1), some (.int l2)], [.int 0], σ)) rfl ?_
    obtain rfl := Option.some.inj h
    exact zGo.ret rfl rfl
  · replace h := zif_f hb5 h
    refine zI_eq_f rfl hb5 ?_
    refine zGo.sts 2 (cf' := (10, [some (.ref 75), some (.int l1), some (.int l2)], [.int l2, .ref 75], σ)) rfl ?_
    obtain ⟨v2, hv, h⟩ := zbd h
    refine zGo.call rfl rfl (M_isPoint_g hv) ?_
    by_cases hb4 : v2 = 0
    · replace h := zif_t hb4 h
      refine zI_eq_t rfl hb4 ?_
      refine zGo.sts 1 (cf' := (26, [some (.ref 75), some (.int l1), some (.int l2)], [.int 0], σ)) rfl ?_
      obtain rfl := Option.some.inj h
      exact zGo.ret rfl rfl
    · replace h := zif_f hb4 h
      refine zI_eq_f rfl hb4 ?_
      refine zGo.sts 2 (cf' := (18, [some (.ref 75), some (.int l1), some (.int l2)], [.int l2, .int l1], σ)) rfl ?_
      by_cases hb3 : l1 = l2
      · replace h := zif_t hb3 h
        refine zC_eq_t rfl hb3 ?_
        refine zGo.sts 1 (cf' := (26, [some (.ref 75), some (.int l1), some (.int l2)], [.int 0], σ)) rfl ?_
        obtain rfl := Option.some.inj h
        exact zGo.ret rfl rfl
      · replace h := zif_f hb3 h
        refine zC_eq_f rfl hb3 ?_
        refine zGo.sts 2 (cf' := (26, [some (.ref 75), some (.int l1), some (.int l2)], [.int 1], σ)) rfl ?_
        obtain rfl := Option.some.inj h
        exact zGo.ret rfl rfl
def M_line_c34 (l1 : Int32) (l2 : Int32) (l3 : Int32) (t0 : Int32) (σ : zSt) : Option (Int32 × zSt) := if t0 = l3 then (some (t0, σ)) else ((zld σ 76 ((9 * l1) + l2)).bind fun v7 => (M_changes 0 ((9 * l1) + l2) v7 l3 σ).bind fun σ8 => some (t0, σ8))
theorem M_line_g34 {d4 : Option Value} {l1 : Int32} {l2 : Int32} {l3 : Int32} {t0 : Int32} {σ : zSt} {r : Int32 × zSt} (h : M_line_c34 l1 l2 l3 t0 σ = some r) : zGo zPT zmlc zP_161 (34, [some (.ref 75), some (.int l1), some (.int l2), some (.int l3), d4], [.int t0], σ) (some (.int r.1), r.2) := by
  unfold M_line_c34 at h
  refine zGo.sts 3 (cf' := (39, [some (.ref 75), some (.int l1), some (.int l2), some (.int l3), some (.int t0)], [.int l3, .int t0], σ)) rfl ?_
  by_cases hb9 : t0 = l3
  · replace h := zif_t hb9 h
    refine zC_eq_t rfl hb9 ?_
    refine zGo.sts 1 (cf' := (67, [some (.ref 75), some (.int l1), some (.int l2), some (.int l3), some (.int t0)], [.int t0], σ)) rfl ?_
    obtain rfl := Option.some.inj h
    exact zGo.ret rfl rfl
  · replace h := zif_f hb9 h
    refine zC_eq_f rfl hb9 ?_
    refine zGo.sts 14 (cf' := (60, [some (.ref 75), some (.int l1), some (.int l2), some (.int l3), some (.int t0)], [.int ((9 * l1) + l2), .ref 76, .int ((9 * l1) + l2), .int 0, .ref 75], σ)) rfl ?_
    obtain ⟨v7, hv, h⟩ := zbd h
    refine zG_ld rfl hv ?_
    refine zGo.sts 1 (cf' := (62, [some (.ref 75), some (.int l1), some (.int l2), some (.int l3), some (.int t0)], [.int l3, .int v7, .int ((9 * l1) + l2), .int 0, .ref 75], σ)) rfl ?_
    obtain ⟨σ8, hv, h⟩ := zbd h
    refine zGo.call rfl rfl (M_changes_g hv) ?_
    refine zGo.sts 1 (cf' := (67, [some (.ref 75), some (.int l1), some (.int l2), some (.int l3), some (.int t0)], [.int t0], σ8)) rfl ?_
    obtain rfl := Option.some.inj h
    exact zGo.ret rfl rfl
def M_line (l1 : Int32) (l2 : Int32) (l3 : Int32) (σ : zSt) : Option (Int32 × zSt) := (M_areTwo l1 l2 σ).bind fun v1 => if v1 = 0 then (some ((-1), σ)) else ((M_in l3 0 1 σ).bind fun v2 => if ¬ v2 = 0 then ((M_isLine l1 l2 σ).bind fun v3 => if v3 = 0 then (M_line_c34 l1 l2 l3 0 σ) else (M_line_c34 l1 l2 l3 1 σ)) else (some ((-1), σ)))
theorem M_line_g {l1 : Int32} {l2 : Int32} {l3 : Int32} {σ : zSt} {r : Int32 × zSt} (h : M_line l1 l2 l3 σ = some r) : zGo zPT zmlc (zPT 161) (0, zent (zmlc 161) [.ref 75, .int l1, .int l2, .int l3], [], σ) (some (.int r.1), r.2) := by
  unfold M_line at h
  show zGo zPT zmlc zP_161 (0, [some (.ref 75), some (.int l1), some (.int l2), some (.int l3), none], [], σ) _
  refine zGo.sts 3 (cf' := (3, [some (.ref 75), some (.int l1), some (.int l2), some (.int l3), none], [.int l2, .int l1, .ref 75], σ)) rfl ?_
  obtain ⟨v1, hv, h⟩ := zbd h
  refine zGo.call rfl rfl (M_areTwo_g hv) ?_
  by_cases hb6 : v1 = 0
  · replace h := zif_t hb6 h
    refine zI_eq_t rfl hb6 ?_
    refine zGo.sts 1 (cf' := (19, [some (.ref 75), some (.int l1), some (.int l2), some (.int l3), none], [.int (-1)], σ)) rfl ?_
    obtain rfl := Option.some.inj h
    exact zGo.ret rfl rfl
  · replace h := zif_f hb6 h
    refine zI_eq_f rfl hb6 ?_
    refine zGo.sts 3 (cf' := (12, [some (.ref 75), some (.int l1), some (.int l2), some (.int l3), none], [.int 1, .int 0, .int l3], σ)) rfl ?_
    obtain ⟨v2, hv, h⟩ := zbd h
    refine zGo.call rfl rfl (M_in_g hv) ?_
    by_cases hb5 : ¬ v2 = 0
    · replace h := zif_t hb5 h
      refine zI_ne_t rfl hb5 ?_
      refine zGo.sts 3 (cf' := (23, [some (.ref 75), some (.int l1), some (.int l2), some (.int l3), none], [.int l2, .int l1, .ref 75], σ)) rfl ?_
      obtain ⟨v3, hv, h⟩ := zbd h
      refine zGo.call rfl rfl (M_isLine_g hv) ?_
      by_cases hb4 : v3 = 0
      · replace h := zif_t hb4 h
        refine zI_eq_t rfl hb4 ?_
        refine zGo.sts 1 (cf' := (34, [some (.ref 75), some (.int l1), some (.int l2), some (.int l3), none], [.int 0], σ)) rfl ?_
        exact M_line_g34 h
      · replace h := zif_f hb4 h
        refine zI_eq_f rfl hb4 ?_
        refine zGo.sts 2 (cf' := (34, [some (.ref 75), some (.int l1), some (.int l2), some (.int l3), none], [.int 1], σ)) rfl ?_
        exact M_line_g34 h
    · replace h := zif_f hb5 h
      refine zI_ne_f rfl hb5 ?_
      refine zGo.sts 1 (cf' := (19, [some (.ref 75), some (.int l1), some (.int l2), some (.int l3), none], [.int (-1)], σ)) rfl ?_
      obtain rfl := Option.some.inj h
      exact zGo.ret rfl rfl
def M_kind (l1 : Int32) (l2 : Int32) (σ : zSt) : Option (Int32 × zSt) := (M_isPoint l1 σ).bind fun v1 => if v1 = 0 then (some ((-1), σ)) else ((M_in l2 0 4 σ).bind fun v2 => if ¬ v2 = 0 then ((zld σ 77 l1).bind fun v3 => (M_changes 1 l1 v3 l2 σ).bind fun σ4 => some (v3, σ4)) else (some ((-1), σ)))
theorem M_kind_g {l1 : Int32} {l2 : Int32} {σ : zSt} {r : Int32 × zSt} (h : M_kind l1 l2 σ = some r) : zGo zPT zmlc (zPT 162) (0, zent (zmlc 162) [.ref 75, .int l1, .int l2], [], σ) (some (.int r.1), r.2) := by
  unfold M_kind at h
  show zGo zPT zmlc zP_162 (0, [some (.ref 75), some (.int l1), some (.int l2), none], [], σ) _
  refine zGo.sts 2 (cf' := (2, [some (.ref 75), some (.int l1), some (.int l2), none], [.int l1, .ref 75], σ)) rfl ?_
  obtain ⟨v1, hv, h⟩ := zbd h
  refine zGo.call rfl rfl (M_isPoint_g hv) ?_
  by_cases hb6 : v1 = 0
  · replace h := zif_t hb6 h
    refine zI_eq_t rfl hb6 ?_
    refine zGo.sts 1 (cf' := (18, [some (.ref 75), some (.int l1), some (.int l2), none], [.int (-1)], σ)) rfl ?_
    obtain rfl := Option.some.inj h
    exact zGo.ret rfl rfl
  · replace h := zif_f hb6 h
    refine zI_eq_f rfl hb6 ?_
    refine zGo.sts 3 (cf' := (11, [some (.ref 75), some (.int l1), some (.int l2), none], [.int 4, .int 0, .int l2], σ)) rfl ?_
    obtain ⟨v2, hv, h⟩ := zbd h
    refine zGo.call rfl rfl (M_in_g hv) ?_
    by_cases hb5 : ¬ v2 = 0
    · replace h := zif_t hb5 h
      refine zI_ne_t rfl hb5 ?_
      refine zGo.sts 3 (cf' := (24, [some (.ref 75), some (.int l1), some (.int l2), none], [.int l1, .ref 77], σ)) rfl ?_
      obtain ⟨v3, hv, h⟩ := zbd h
      refine zG_ld rfl hv ?_
      refine zGo.sts 6 (cf' := (31, [some (.ref 75), some (.int l1), some (.int l2), some (.int v3)], [.int l2, .int v3, .int l1, .int 1, .ref 75], σ)) rfl ?_
      obtain ⟨σ4, hv, h⟩ := zbd h
      refine zGo.call rfl rfl (M_changes_g hv) ?_
      refine zGo.sts 1 (cf' := (35, [some (.ref 75), some (.int l1), some (.int l2), some (.int v3)], [.int v3], σ4)) rfl ?_
      obtain rfl := Option.some.inj h
      exact zGo.ret rfl rfl
    · replace h := zif_f hb5 h
      refine zI_ne_f rfl hb5 ?_
      refine zGo.sts 1 (cf' := (18, [some (.ref 75), some (.int l1), some (.int l2), none], [.int (-1)], σ)) rfl ?_
      obtain rfl := Option.some.inj h
      exact zGo.ret rfl rfl
def M_cost (l1 : Int32) (l2 : Int32) (σ : zSt) : Option (Int32 × zSt) := (M_isPoint l1 σ).bind fun v1 => if v1 = 0 then (some ((-1), σ)) else ((M_in l2 0 9 σ).bind fun v2 => if ¬ v2 = 0 then ((zld σ 78 l1).bind fun v3 => (M_changes 2 l1 v3 l2 σ).bind fun σ4 => some (v3, σ4)) else (some ((-1), σ)))
theorem M_cost_g {l1 : Int32} {l2 : Int32} {σ : zSt} {r : Int32 × zSt} (h : M_cost l1 l2 σ = some r) : zGo zPT zmlc (zPT 163) (0, zent (zmlc 163) [.ref 75, .int l1, .int l2], [], σ) (some (.int r.1), r.2) := by
  unfold M_cost at h
  show zGo zPT zmlc zP_163 (0, [some (.ref 75), some (.int l1), some (.int l2), none], [], σ) _
  refine zGo.sts 2 (cf' := (2, [some (.ref 75), some (.int l1), some (.int l2), none], [.int l1, .ref 75], σ)) rfl ?_
  obtain ⟨v1, hv, h⟩ := zbd h
  refine zGo.call rfl rfl (M_isPoint_g hv) ?_
  by_cases hb6 : v1 = 0
  · replace h := zif_t hb6 h
    refine zI_eq_t rfl hb6 ?_
    refine zGo.sts 1 (cf' := (19, [some (.ref 75), some (.int l1), some (.int l2), none], [.int (-1)], σ)) rfl ?_
    obtain rfl := Option.some.inj h
    exact zGo.ret rfl rfl
  · replace h := zif_f hb6 h
    refine zI_eq_f rfl hb6 ?_
    refine zGo.sts 3 (cf' := (12, [some (.ref 75), some (.int l1), some (.int l2), none], [.int 9, .int 0, .int l2], σ)) rfl ?_
    obtain ⟨v2, hv, h⟩ := zbd h
    refine zGo.call rfl rfl (M_in_g hv) ?_
    by_cases hb5 : ¬ v2 = 0
    · replace h := zif_t hb5 h
      refine zI_ne_t rfl hb5 ?_
      refine zGo.sts 3 (cf' := (25, [some (.ref 75), some (.int l1), some (.int l2), none], [.int l1, .ref 78], σ)) rfl ?_
      obtain ⟨v3, hv, h⟩ := zbd h
      refine zG_ld rfl hv ?_
      refine zGo.sts 6 (cf' := (32, [some (.ref 75), some (.int l1), some (.int l2), some (.int v3)], [.int l2, .int v3, .int l1, .int 2, .ref 75], σ)) rfl ?_
      obtain ⟨σ4, hv, h⟩ := zbd h
      refine zGo.call rfl rfl (M_changes_g hv) ?_
      refine zGo.sts 1 (cf' := (36, [some (.ref 75), some (.int l1), some (.int l2), some (.int v3)], [.int v3], σ4)) rfl ?_
      obtain rfl := Option.some.inj h
      exact zGo.ret rfl rfl
    · replace h := zif_f hb5 h
      refine zI_ne_f rfl hb5 ?_
      refine zGo.sts 1 (cf' := (19, [some (.ref 75), some (.int l1), some (.int l2), none], [.int (-1)], σ)) rfl ?_
      obtain rfl := Option.some.inj h
      exact zGo.ret rfl rfl

/-! the methods as functions, by program -/
def Jdk_fill_c5 : Nat → Nat → Int32 → Int32 → Int32 → zSt → Option (zSt)
  | 0, _, _, _, _, _ => none
  | n + 1, l0, l1, l2, l3, σ => if l3 ≤ l2 then (some σ) else ((zst σ l0 l2 l1).bind fun σ1 => Jdk_fill_c5 n l0 l1 (l2 + 1) l3 σ1)
theorem Jdk_fill_g5 : ∀ (n : Nat) {l0 : Nat} {l1 : Int32} {l2 : Int32} {l3 : Int32} {σ : zSt} {r : zSt}, Jdk_fill_c5 n l0 l1 l2 l3 σ = some r → zGo zPT zmlc zP_1 (5, [some (.ref l0), some (.int l1), some (.int l2), some (.int l3)], [], σ) (none, r) := by
  intro n
  induction n with
  | zero => intro l0 l1 l2 l3 σ r h; cases h
  | succ n ih =>
    intro l0 l1 l2 l3 σ r h
    rw [Jdk_fill_c5] at h
    refine zGo.sts 2 (cf' := (7, [some (.ref l0), some (.int l1), some (.int l2), some (.int l3)], [.int l3, .int l2], σ)) rfl ?_
    by_cases hb2 : l3 ≤ l2
    · replace h := zif_t hb2 h
      refine zC_ge_t rfl hb2 ?_
      obtain rfl := Option.some.inj h
      exact zGo.ret rfl rfl
    · replace h := zif_f hb2 h
      refine zC_ge_f rfl hb2 ?_
      refine zGo.sts 3 (cf' := (13, [some (.ref l0), some (.int l1), some (.int l2), some (.int l3)], [.int l1, .int l2, .ref l0], σ)) rfl ?_
      obtain ⟨σ1, hv, h⟩ := zbd h
      refine zG_st rfl hv ?_
      refine zGo.sts 2 (cf' := (5, [some (.ref l0), some (.int l1), some (.int (l2 + 1)), some (.int l3)], [], σ1)) rfl ?_
      exact ih h
def Jdk_fill (l0 : Nat) (l1 : Int32) (σ : zSt) : Option (zSt) := bif Nat.beq (zkd l0) 100 || Nat.beq (zkd l0) 105 then (Jdk_fill_c5 zF l0 l1 0 (Int32.ofNat (zln l0)) σ) else none
theorem Jdk_fill_g {l0 : Nat} {l1 : Int32} {σ : zSt} {r : zSt} (h : Jdk_fill l0 l1 σ = some r) : zGo zPT zmlc (zPT 1) (0, zent (zmlc 1) [.ref l0, .int l1], [], σ) (none, r) := by
  unfold Jdk_fill at h
  show zGo zPT zmlc zP_1 (0, [some (.ref l0), some (.int l1), none, none], [], σ) _
  refine zGo.sts 3 (cf' := (3, [some (.ref l0), some (.int l1), some (.int 0), none], [.ref l0], σ)) rfl ?_
  obtain ⟨hc, h⟩ := zbif h
  refine zG_len rfl hc ?_
  refine zGo.sts 1 (cf' := (5, [some (.ref l0), some (.int l1), some (.int 0), some (.int (Int32.ofNat (zln l0)))], [], σ)) rfl ?_
  exact Jdk_fill_g5 zF h
def Net_begin_c31 : Nat → Int32 → zSt → Option (zSt)
  | 0, _, _ => none
  | n + 1, l2, σ => if 9 ≤ l2 then (some σ) else ((zlr σ 5 l2).bind fun v5 => (Jdk_fill v5 0 σ).bind fun σ6 => Net_begin_c31 n (l2 + 1) σ6)
theorem Net_begin_g31 : ∀ (n : Nat) {d1 : Option Value} {l2 : Int32} {σ : zSt} {r : zSt}, Net_begin_c31 n l2 σ = some r → zGo zPT zmlc zP_22 (31, [some (.ref 1), d1, some (.int l2)], [], σ) (none, r) := by
  intro n
  induction n with
  | zero => intro d1 l2 σ r h; cases h
  | succ n ih =>
    intro d1 l2 σ r h
    rw [Net_begin_c31] at h
    refine zGo.sts 2 (cf' := (34, [some (.ref 1), d1, some (.int l2)], [.int 9, .int l2], σ)) rfl ?_
    by_cases hb7 : 9 ≤ l2
    · replace h := zif_t hb7 h
      refine zC_ge_t rfl hb7 ?_
      obtain rfl := Option.some.inj h
      exact zGo.ret rfl rfl
    · replace h := zif_f hb7 h
      refine zC_ge_f rfl hb7 ?_
      refine zGo.sts 3 (cf' := (42, [some (.ref 1), d1, some (.int l2)], [.int l2, .ref 5], σ)) rfl ?_
      obtain ⟨v5, hv, h⟩ := zbd h
      refine zG_lr rfl hv ?_
      refine zGo.sts 1 (cf' := (44, [some (.ref 1), d1, some (.int l2)], [.int 0, .ref v5], σ)) rfl ?_
      obtain ⟨σ6, hv, h⟩ := zbd h
      refine zGo.call rfl rfl (Jdk_fill_g hv) ?_
      refine zGo.sts 2 (cf' := (31, [some (.ref 1), d1, some (.int (l2 + 1))], [], σ6)) rfl ?_
      exact ih h
def Net_begin (l1 : Int32) (σ : zSt) : Option (zSt) := zlet (su σ 1 0 l1) fun σ1 => (Jdk_fill 2 0 σ1).bind fun σ2 => (Jdk_fill 3 0 σ2).bind fun σ3 => (Jdk_fill 4 0 σ3).bind fun σ4 => Net_begin_c31 zF 0 σ4
theorem Net_begin_g {l1 : Int32} {σ : zSt} {r : zSt} (h : Net_begin l1 σ = some r) : zGo zPT zmlc (zPT 22) (0, zent (zmlc 22) [.ref 1, .int l1], [], σ) (none, r) := by
  unfold Net_begin at h
  show zGo zPT zmlc zP_22 (0, [some (.ref 1), some (.int l1), none], [], σ) _
  refine zGo.sts 3 (cf' := (5, [some (.ref 1), some (.int l1), none], [], (su σ 1 0 l1))) rfl ?_
  replace h := zlet_of h
  generalize su σ 1 0 l1 = σ1 at h ⊢
  refine zGo.sts 3 (cf' := (10, [some (.ref 1), some (.int l1), none], [.int 0, .ref 2], σ1)) rfl ?_
  obtain ⟨σ2, hv, h⟩ := zbd h
  refine zGo.call rfl rfl (Jdk_fill_g hv) ?_
  refine zGo.sts 3 (cf' := (18, [some (.ref 1), some (.int l1), none], [.int 0, .ref 3], σ2)) rfl ?_
  obtain ⟨σ3, hv, h⟩ := zbd h
  refine zGo.call rfl rfl (Jdk_fill_g hv) ?_
  refine zGo.sts 3 (cf' := (26, [some (.ref 1), some (.int l1), none], [.int 0, .ref 4], σ3)) rfl ?_
  obtain ⟨σ4, hv, h⟩ := zbd h
  refine zGo.call rfl rfl (Jdk_fill_g hv) ?_
  refine zGo.sts 2 (cf' := (31, [some (.ref 1), some (.int l1), some (.int 0)], [], σ4)) rfl ?_
  exact Net_begin_g31 zF h
def His_forget (σ : zSt) : Option (zSt) := zlet (su σ 29 1 0) fun σ1 => zlet (su σ1 29 2 0) fun σ2 => some σ2
theorem His_forget_g {σ : zSt} {r : zSt} (h : His_forget σ = some r) : zGo zPT zmlc (zPT 85) (0, zent (zmlc 85) [.ref 29], [], σ) (none, r) := by
  unfold His_forget at h
  show zGo zPT zmlc zP_85 (0, [some (.ref 29)], [], σ) _
  refine zGo.sts 3 (cf' := (5, [some (.ref 29)], [], (su σ 29 1 0))) rfl ?_
  replace h := zlet_of h
  generalize su σ 29 1 0 = σ1 at h ⊢
  refine zGo.sts 3 (cf' := (10, [some (.ref 29)], [], (su σ1 29 2 0))) rfl ?_
  replace h := zlet_of h
  generalize su σ1 29 2 0 = σ2 at h ⊢
  obtain rfl := Option.some.inj h
  exact zGo.ret rfl rfl
def X_points (l1 : Int32) (σ : zSt) : Option (Int32 × zSt) := if l1 < 1 then (some ((-1), σ)) else (if l1 ≤ 9 then ((Net_begin l1 σ).bind fun σ1 => (His_forget σ1).bind fun σ2 => some (σ 1 0, σ2)) else (some ((-1), σ)))
theorem X_points_g {l1 : Int32} {σ : zSt} {r : Int32 × zSt} (h : X_points l1 σ = some r) : zGo zPT zmlc (zPT 90) (0, zent (zmlc 90) [.ref 0, .int l1], [], σ) (some (.int r.1), r.2) := by
  unfold X_points at h
  show zGo zPT zmlc zP_90 (0, [some (.ref 0), some (.int l1), none], [], σ) _
  refine zGo.sts 2 (cf' := (2, [some (.ref 0), some (.int l1), none], [.int 1, .int l1], σ)) rfl ?_
  by_cases hb4 : l1 < 1
  · replace h := zif_t hb4 h
    refine zC_lt_t rfl hb4 ?_
    refine zGo.sts 1 (cf' := (12, [some (.ref 0), some (.int l1), none], [.int (-1)], σ)) rfl ?_
    obtain rfl := Option.some.inj h
    exact zGo.ret rfl rfl
  · replace h := zif_f hb4 h
    refine zC_lt_f rfl hb4 ?_
    refine zGo.sts 2 (cf' := (8, [some (.ref 0), some (.int l1), none], [.int 9, .int l1], σ)) rfl ?_
    by_cases hb3 : l1 ≤ 9
    · replace h := zif_t hb3 h
      refine zC_le_t rfl hb3 ?_
      refine zGo.sts 7 (cf' := (26, [some (.ref 0), some (.int l1), some (.int (σ 1 0))], [.int l1, .ref 1], σ)) rfl ?_
      obtain ⟨σ1, hv, h⟩ := zbd h
      refine zGo.call rfl rfl (Net_begin_g hv) ?_
      refine zGo.sts 2 (cf' := (33, [some (.ref 0), some (.int l1), some (.int (σ 1 0))], [.ref 29], σ1)) rfl ?_
      obtain ⟨σ2, hv, h⟩ := zbd h
      refine zGo.call rfl rfl (His_forget_g hv) ?_
      refine zGo.sts 1 (cf' := (37, [some (.ref 0), some (.int l1), some (.int (σ 1 0))], [.int (σ 1 0)], σ2)) rfl ?_
      obtain rfl := Option.some.inj h
      exact zGo.ret rfl rfl
    · replace h := zif_f hb3 h
      refine zC_le_f rfl hb3 ?_
      refine zGo.sts 1 (cf' := (12, [some (.ref 0), some (.int l1), none], [.int (-1)], σ)) rfl ?_
      obtain rfl := Option.some.inj h
      exact zGo.ret rfl rfl
def Net_hasPoint (l1 : Int32) (σ : zSt) : Option (Int32) := if l1 < 0 then (some 0) else (if (σ 1 0) ≤ l1 then (some 0) else (some 1))
theorem Net_hasPoint_g {l1 : Int32} {σ : zSt} {r : Int32} (h : Net_hasPoint l1 σ = some r) : zGo zPT zmlc (zPT 24) (0, zent (zmlc 24) [.ref 1, .int l1], [], σ) (some (.int r), σ) := by
  unfold Net_hasPoint at h
  show zGo zPT zmlc zP_24 (0, [some (.ref 1), some (.int l1)], [], σ) _
  refine zGo.sts 1 (cf' := (1, [some (.ref 1), some (.int l1)], [.int l1], σ)) rfl ?_
  by_cases hb2 : l1 < 0
  · replace h := zif_t hb2 h
    refine zI_lt_t rfl hb2 ?_
    refine zGo.sts 1 (cf' := (17, [some (.ref 1), some (.int l1)], [.int 0], σ)) rfl ?_
    obtain rfl := Option.some.inj h
    exact zGo.ret rfl rfl
  · replace h := zif_f hb2 h
    refine zI_lt_f rfl hb2 ?_
    refine zGo.sts 3 (cf' := (9, [some (.ref 1), some (.int l1)], [.int (σ 1 0), .int l1], σ)) rfl ?_
    by_cases hb1 : (σ 1 0) ≤ l1
    · replace h := zif_t hb1 h
      refine zC_ge_t rfl hb1 ?_
      refine zGo.sts 1 (cf' := (17, [some (.ref 1), some (.int l1)], [.int 0], σ)) rfl ?_
      obtain rfl := Option.some.inj h
      exact zGo.ret rfl rfl
    · replace h := zif_f hb1 h
      refine zC_ge_f rfl hb1 ?_
      refine zGo.sts 2 (cf' := (17, [some (.ref 1), some (.int l1)], [.int 1], σ)) rfl ?_
      obtain rfl := Option.some.inj h
      exact zGo.ret rfl rfl
def X_areTwo (l1 : Int32) (l2 : Int32) (σ : zSt) : Option (Int32) := (Net_hasPoint l1 σ).bind fun v1 => if v1 = 0 then (some 0) else ((Net_hasPoint l2 σ).bind fun v2 => if v2 = 0 then (some 0) else (if l1 = l2 then (some 0) else (some 1)))
theorem X_areTwo_g {l1 : Int32} {l2 : Int32} {σ : zSt} {r : Int32} (h : X_areTwo l1 l2 σ = some r) : zGo zPT zmlc (zPT 136) (0, zent (zmlc 136) [.ref 0, .int l1, .int l2], [], σ) (some (.int r), σ) := by
  unfold X_areTwo at h
  show zGo zPT zmlc zP_136 (0, [some (.ref 0), some (.int l1), some (.int l2)], [], σ) _
  refine zGo.sts 3 (cf' := (5, [some (.ref 0), some (.int l1), some (.int l2)], [.int l1, .ref 1], σ)) rfl ?_
  obtain ⟨v1, hv, h⟩ := zbd h
  refine zGo.call rfl rfl (Net_hasPoint_g hv) ?_
  by_cases hb5 : v1 = 0
  · replace h := zif_t hb5 h
    refine zI_eq_t rfl hb5 ?_
    refine zGo.sts 1 (cf' := (32, [some (.ref 0), some (.int l1), some (.int l2)], [.int 0], σ)) rfl ?_
    obtain rfl := Option.some.inj h
    exact zGo.ret rfl rfl
  · replace h := zif_f hb5 h
    refine zI_eq_f rfl hb5 ?_
    refine zGo.sts 3 (cf' := (16, [some (.ref 0), some (.int l1), some (.int l2)], [.int l2, .ref 1], σ)) rfl ?_
    obtain ⟨v2, hv, h⟩ := zbd h
    refine zGo.call rfl rfl (Net_hasPoint_g hv) ?_
    by_cases hb4 : v2 = 0
    · replace h := zif_t hb4 h
      refine zI_eq_t rfl hb4 ?_
      refine zGo.sts 1 (cf' := (32, [some (.ref 0), some (.int l1), some (.int l2)], [.int 0], σ)) rfl ?_
      obtain rfl := Option.some.inj h
      exact zGo.ret rfl rfl
    · replace h := zif_f hb4 h
      refine zI_eq_f rfl hb4 ?_
      refine zGo.sts 2 (cf' := (24, [some (.ref 0), some (.int l1), some (.int l2)], [.int l2, .int l1], σ)) rfl ?_
      by_cases hb3 : l1 = l2
      · replace h := zif_t hb3 h
        refine zC_eq_t rfl hb3 ?_
        refine zGo.sts 1 (cf' := (32, [some (.ref 0), some (.int l1), some (.int l2)], [.int 0], σ)) rfl ?_
        obtain rfl := Option.some.inj h
        exact zGo.ret rfl rfl
      · replace h := zif_f hb3 h
        refine zC_eq_f rfl hb3 ?_
        refine zGo.sts 2 (cf' := (32, [some (.ref 0), some (.int l1), some (.int l2)], [.int 1], σ)) rfl ?_
        obtain rfl := Option.some.inj h
        exact zGo.ret rfl rfl
def Net_hasLine (l1 : Int32) (l2 : Int32) (σ : zSt) : Option (Int32) := (zld σ 2 l1).bind fun v1 => if ¬ ((v1 >>> (l2 &&& 31)) &&& 1) = 1 then (some 0) else (some 1)
theorem Net_hasLine_g {l1 : Int32} {l2 : Int32} {σ : zSt} {r : Int32} (h : Net_hasLine l1 l2 σ = some r) : zGo zPT zmlc (zPT 27) (0, zent (zmlc 27) [.ref 1, .int l1, .int l2], [], σ) (some (.int r), σ) := by
  unfold Net_hasLine at h
  show zGo zPT zmlc zP_27 (0, [some (.ref 1), some (.int l1), some (.int l2)], [], σ) _
  refine zGo.sts 3 (cf' := (5, [some (.ref 1), some (.int l1), some (.int l2)], [.int l1, .ref 2], σ)) rfl ?_
  obtain ⟨v1, hv, h⟩ := zbd h
  refine zG_ld rfl hv ?_
  refine zGo.sts 5 (cf' := (11, [some (.ref 1), some (.int l1), some (.int l2)], [.int 1, .int ((v1 >>> (l2 &&& 31)) &&& 1)], σ)) rfl ?_
  by_cases hb2 : ¬ ((v1 >>> (l2 &&& 31)) &&& 1) = 1
  · replace h := zif_t hb2 h
    refine zC_ne_t rfl hb2 ?_
    refine zGo.sts 1 (cf' := (19, [some (.ref 1), some (.int l1), some (.int l2)], [.int 0], σ)) rfl ?_
    obtain rfl := Option.some.inj h
    exact zGo.ret rfl rfl
  · replace h := zif_f hb2 h
    refine zC_ne_f rfl hb2 ?_
    refine zGo.sts 2 (cf' := (19, [some (.ref 1), some (.int l1), some (.int l2)], [.int 1], σ)) rfl ?_
    obtain rfl := Option.some.inj h
    exact zGo.ret rfl rfl
def Net_valueOf (l1 : Int32) (l2 : Int32) (l3 : Int32) (σ : zSt) : Option (Int32) := if l1 = 0 then ((zlr σ 5 l2).bind fun v2 => (zld σ v2 l3).bind fun v3 => some v3) else (if l1 = 1 then ((zld σ 3 l2).bind fun v5 => some v5) else (if l1 = 2 then ((zld σ 4 l2).bind fun v7 => some v7) else (if l1 = 3 then (some ((10 * (σ 1 1)) + (σ 1 2))) else (some (σ 1 3)))))
theorem Net_valueOf_g {l1 : Int32} {l2 : Int32} {l3 : Int32} {σ : zSt} {r : Int32} (h : Net_valueOf l1 l2 l3 σ = some r) : zGo zPT zmlc (zPT 28) (0, zent (zmlc 28) [.ref 1, .int l1, .int l2, .int l3], [], σ) (some (.int r), σ) := by
  unfold Net_valueOf at h
  show zGo zPT zmlc zP_28 (0, [some (.ref 1), some (.int l1), some (.int l2), some (.int l3)], [], σ) _
  refine zGo.sts 1 (cf' := (1, [some (.ref 1), some (.int l1), some (.int l2), some (.int l3)], [.int l1], σ)) rfl ?_
  by_cases hb1 : l1 = 0
  · replace h := zif_t hb1 h
    refine zG_sw rfl (zsw_t hb1) ?_
    refine zGo.sts 3 (cf' := (37, [some (.ref 1), some (.int l1), some (.int l2), some (.int l3)], [.int l2, .ref 5], σ)) rfl ?_
    obtain ⟨v2, hv, h⟩ := zbd h
    refine zG_lr rfl hv ?_
    refine zGo.sts 1 (cf' := (39, [some (.ref 1), some (.int l1), some (.int l2), some (.int l3)], [.int l3, .ref v2], σ)) rfl ?_
    obtain ⟨v3, hv, h⟩ := zbd h
    refine zG_ld rfl hv ?_
    obtain rfl := Option.some.inj h
    exact zGo.ret rfl rfl
  · replace h := zif_f hb1 h
    by_cases hb4 : l1 = 1
    · replace h := zif_t hb4 h
      refine zG_sw rfl ((zsw_f hb1).trans (zsw_t hb4)) ?_
      refine zGo.sts 3 (cf' := (46, [some (.ref 1), some (.int l1), some (.int l2), some (.int l3)], [.int l2, .ref 3], σ)) rfl ?_
      obtain ⟨v5, hv, h⟩ := zbd h
      refine zG_ld rfl hv ?_
      obtain rfl := Option.some.inj h
      exact zGo.ret rfl rfl
    · replace h := zif_f hb4 h
      by_cases hb6 : l1 = 2
      · replace h := zif_t hb6 h
        refine zG_sw rfl ((zsw_f hb1).trans ((zsw_f hb4).trans (zsw_t hb6))) ?_
        refine zGo.sts 3 (cf' := (53, [some (.ref 1), some (.int l1), some (.int l2), some (.int l3)], [.int l2, .ref 4], σ)) rfl ?_
        obtain ⟨v7, hv, h⟩ := zbd h
        refine zG_ld rfl hv ?_
        obtain rfl := Option.some.inj h
        exact zGo.ret rfl rfl
      · replace h := zif_f hb6 h
        by_cases hb8 : l1 = 3
        · replace h := zif_t hb8 h
          refine zG_sw rfl ((zsw_f hb1).trans ((zsw_f hb4).trans ((zsw_f hb6).trans (zsw_t hb8)))) ?_
          refine zGo.sts 7 (cf' := (67, [some (.ref 1), some (.int l1), some (.int l2), some (.int l3)], [.int ((10 * (σ 1 1)) + (σ 1 2))], σ)) rfl ?_
          obtain rfl := Option.some.inj h
          exact zGo.ret rfl rfl
        · replace h := zif_f hb8 h
          refine zG_sw rfl ((zsw_f hb1).trans ((zsw_f hb4).trans ((zsw_f hb6).trans ((zsw_f hb8).trans rfl)))) ?_
          refine zGo.sts 2 (cf' := (72, [some (.ref 1), some (.int l1), some (.int l2), some (.int l3)], [.int (σ 1 3)], σ)) rfl ?_
          obtain rfl := Option.some.inj h
          exact zGo.ret rfl rfl
def His_dropEldest_c9 : Nat → Nat → Int32 → zSt → Option (zSt)
  | 0, _, _, _ => none
  | n + 1, l1, l2, σ => if 12 ≤ l2 then ((zsR σ 30 11 l1).bind fun σ2 => zlet (su σ2 29 1 11) fun σ3 => some σ3) else ((zlr σ 30 l2).bind fun v4 => (zsR σ 30 (l2 - 1) v4).bind fun σ5 => His_dropEldest_c9 n l1 (l2 + 1) σ5)
theorem His_dropEldest_g9 : ∀ (n : Nat) {l1 : Nat} {l2 : Int32} {σ : zSt} {r : zSt}, His_dropEldest_c9 n l1 l2 σ = some r → zGo zPT zmlc zP_87 (9, [some (.ref 29), some (.ref l1), some (.int l2)], [], σ) (none, r) := by
  intro n
  induction n with
  | zero => intro l1 l2 σ r h; cases h
  | succ n ih =>
    intro l1 l2 σ r h
    rw [His_dropEldest_c9] at h
    refine zGo.sts 2 (cf' := (12, [some (.ref 29), some (.ref l1), some (.int l2)], [.int 12, .int l2], σ)) rfl ?_
    by_cases hb6 : 12 ≤ l2
    · replace h := zif_t hb6 h
      refine zC_ge_t rfl hb6 ?_
      refine zGo.sts 4 (cf' := (42, [some (.ref 29), some (.ref l1), some (.int l2)], [.ref l1, .int 11, .ref 30], σ)) rfl ?_
      obtain ⟨σ2, hv, h⟩ := zbd h
      refine zG_sR rfl hv ?_
      refine zGo.sts 3 (cf' := (49, [some (.ref 29), some (.ref l1), some (.int l2)], [], (su σ2 29 1 11))) rfl ?_
      replace h := zlet_of h
      generalize su σ2 29 1 11 = σ3 at h ⊢
      obtain rfl := Option.some.inj h
      exact zGo.ret rfl rfl
    · replace h := zif_f hb6 h
      refine zC_ge_f rfl hb6 ?_
      refine zGo.sts 8 (cf' := (27, [some (.ref 29), some (.ref l1), some (.int l2)], [.int l2, .ref 30, .int (l2 - 1), .ref 30], σ)) rfl ?_
      obtain ⟨v4, hv, h⟩ := zbd h
      refine zG_lr rfl hv ?_
      obtain ⟨σ5, hv, h⟩ := zbd h
      refine zG_sR rfl hv ?_
      refine zGo.sts 2 (cf' := (9, [some (.ref 29), some (.ref l1), some (.int (l2 + 1))], [], σ5)) rfl ?_
      exact ih h
def His_dropEldest (σ : zSt) : Option (zSt) := (zlr σ 30 0).bind fun v1 => His_dropEldest_c9 zF v1 1 σ
theorem His_dropEldest_g {σ : zSt} {r : zSt} (h : His_dropEldest σ = some r) : zGo zPT zmlc (zPT 87) (0, zent (zmlc 87) [.ref 29], [], σ) (none, r) := by
  unfold His_dropEldest at h
  show zGo zPT zmlc zP_87 (0, [some (.ref 29), none, none], [], σ) _
  refine zGo.sts 3 (cf' := (5, [some (.ref 29), none, none], [.int 0, .ref 30], σ)) rfl ?_
  obtain ⟨v1, hv, h⟩ := zbd h
  refine zG_lr rfl hv ?_
  refine zGo.sts 3 (cf' := (9, [some (.ref 29), some (.ref v1), some (.int 1)], [], σ)) rfl ?_
  exact His_dropEldest_g9 zF h
def Net_setNumber (l1 : Int32) (l2 : Int32) (l3 : Int32) (σ : zSt) : Option (zSt) := (zlr σ 5 l1).bind fun v1 => (zst σ v1 l2 l3).bind fun σ2 => (zlr σ2 5 l2).bind fun v3 => (zst σ2 v3 l1 l3).bind fun σ4 => if ¬ l1 = l2 then (if l3 = 0 then ((zld σ4 2 l1).bind fun v5 => (zst σ4 2 l1 (v5 &&& ((1 <<< (l2 &&& 31)) ^^^ (-1)))).bind fun σ6 => (zld σ6 2 l2).bind fun v7 => (zst σ6 2 l2 (v7 &&& ((1 <<< (l1 &&& 31)) ^^^ (-1)))).bind fun σ8 => some σ8) else ((zld σ4 2 l1).bind fun v9 => (zst σ4 2 l1 (v9 ||| (1 <<< (l2 &&& 31)))).bind fun σ10 => (zld σ10 2 l2).bind fun v11 => (zst σ10 2 l2 (v11 ||| (1 <<< (l1 &&& 31)))).bind fun σ12 => some σ12)) else (some σ4)
theorem Net_setNumber_g {l1 : Int32} {l2 : Int32} {l3 : Int32} {σ : zSt} {r : zSt} (h : Net_setNumber l1 l2 l3 σ = some r) : zGo zPT zmlc (zPT 30) (0, zent (zmlc 30) [.ref 1, .int l1, .int l2, .int l3], [], σ) (none, r) := by
  unfold Net_setNumber at h
  show zGo zPT zmlc zP_30 (0, [some (.ref 1), some (.int l1), some (.int l2), some (.int l3)], [], σ) _
  refine zGo.sts 3 (cf' := (5, [some (.ref 1), some (.int l1), some (.int l2), some (.int l3)], [.int l1, .ref 5], σ)) rfl ?_
  obtain ⟨v1, hv, h⟩ := zbd h
  refine zG_lr rfl hv ?_
  refine zGo.sts 2 (cf' := (8, [some (.ref 1), some (.int l1), some (.int l2), some (.int l3)], [.int l3, .int l2, .ref v1], σ)) rfl ?_
  obtain ⟨σ2, hv, h⟩ := zbd h
  refine zG_st rfl hv ?_
  refine zGo.sts 3 (cf' := (14, [some (.ref 1), some (.int l1), some (.int l2), some (.int l3)], [.int l2, .ref 5], σ2)) rfl ?_
  obtain ⟨v3, hv, h⟩ := zbd h
  refine zG_lr rfl hv ?_
  refine zGo.sts 2 (cf' := (17, [some (.ref 1), some (.int l1), some (.int l2), some (.int l3)], [.int l3, .int l1, .ref v3], σ2)) rfl ?_
  obtain ⟨σ4, hv, h⟩ := zbd h
  refine zG_st rfl hv ?_
  refine zGo.sts 2 (cf' := (20, [some (.ref 1), some (.int l1), some (.int l2), some (.int l3)], [.int l2, .int l1], σ4)) rfl ?_
  by_cases hb14 : ¬ l1 = l2
  · replace h := zif_t hb14 h
    refine zC_ne_t rfl hb14 ?_
    refine zGo.sts 1 (cf' := (25, [some (.ref 1), some (.int l1), some (.int l2), some (.int l3)], [.int l3], σ4)) rfl ?_
    by_cases hb13 : l3 = 0
    · replace h := zif_t hb13 h
      refine zI_eq_t rfl hb13 ?_
      refine zGo.sts 4 (cf' := (61, [some (.ref 1), some (.int l1), some (.int l2), some (.int l3)], [.int l1, .ref 2, .int l1, .ref 2], σ4)) rfl ?_
      obtain ⟨v5, hv, h⟩ := zbd h
      refine zG_ld rfl hv ?_
      refine zGo.sts 6 (cf' := (68, [some (.ref 1), some (.int l1), some (.int l2), some (.int l3)], [.int (v5 &&& ((1 <<< (l2 &&& 31)) ^^^ (-1))), .int l1, .ref 2], σ4)) rfl ?_
      obtain ⟨σ6, hv, h⟩ := zbd h
      refine zG_st rfl hv ?_
      refine zGo.sts 4 (cf' := (75, [some (.ref 1), some (.int l1), some (.int l2), some (.int l3)], [.int l2, .ref 2, .int l2, .ref 2], σ6)) rfl ?_
      obtain ⟨v7, hv, h⟩ := zbd h
      refine zG_ld rfl hv ?_
      refine zGo.sts 6 (cf' := (82, [some (.ref 1), some (.int l1), some (.int l2), some (.int l3)], [.int (v7 &&& ((1 <<< (l1 &&& 31)) ^^^ (-1))), .int l2, .ref 2], σ6)) rfl ?_
      obtain ⟨σ8, hv, h⟩ := zbd h
      refine zG_st rfl hv ?_
      obtain rfl := Option.some.inj h
      exact zGo.ret rfl rfl
    · replace h := zif_f hb13 h
      refine zI_eq_f rfl hb13 ?_
      refine zGo.sts 4 (cf' := (34, [some (.ref 1), some (.int l1), some (.int l2), some (.int l3)], [.int l1, .ref 2, .int l1, .ref 2], σ4)) rfl ?_
      obtain ⟨v9, hv, h⟩ := zbd h
      refine zG_ld rfl hv ?_
      refine zGo.sts 4 (cf' := (39, [some (.ref 1), some (.int l1), some (.int l2), some (.int l3)], [.int (v9 ||| (1 <<< (l2 &&& 31))), .int l1, .ref 2], σ4)) rfl ?_
      obtain ⟨σ10, hv, h⟩ := zbd h
      refine zG_st rfl hv ?_
      refine zGo.sts 4 (cf' := (46, [some (.ref 1), some (.int l1), some (.int l2), some (.int l3)], [.int l2, .ref 2, .int l2, .ref 2], σ10)) rfl ?_
      obtain ⟨v11, hv, h⟩ := zbd h
      refine zG_ld rfl hv ?_
      refine zGo.sts 4 (cf' := (51, [some (.ref 1), some (.int l1), some (.int l2), some (.int l3)], [.int (v11 ||| (1 <<< (l1 &&& 31))), .int l2, .ref 2], σ10)) rfl ?_
      obtain ⟨σ12, hv, h⟩ := zbd h
      refine zG_st rfl hv ?_
      refine zGo.sts 1 (cf' := (83, [some (.ref 1), some (.int l1), some (.int l2), some (.int l3)], [], σ12)) rfl ?_
      obtain rfl := Option.some.inj h
      exact zGo.ret rfl rfl
  · replace h := zif_f hb14 h
    refine zC_ne_f rfl hb14 ?_
    obtain rfl := Option.some.inj h
    exact zGo.ret rfl rfl
def Net_setValue (l1 : Int32) (l2 : Int32) (l3 : Int32) (l4 : Int32) (σ : zSt) : Option (zSt) := if l1 = 0 then ((Net_setNumber l2 l3 l4 σ).bind fun σ2 => some σ2) else (if l1 = 1 then ((zst σ 3 l2 l4).bind fun σ4 => some σ4) else (if l1 = 2 then ((zst σ 4 l2 l4).bind fun σ6 => some σ6) else (if l1 = 3 then ((zdvq l4 10).bind fun v8 => zlet (su σ 1 1 v8) fun σ9 => (zrmq l4 10).bind fun v10 => zlet (su σ9 1 2 v10) fun σ11 => some σ11) else (zlet (su σ 1 3 l4) fun σ12 => some σ12))))
theorem Net_setValue_g {l1 : Int32} {l2 : Int32} {l3 : Int32} {l4 : Int32} {σ : zSt} {r : zSt} (h : Net_setValue l1 l2 l3 l4 σ = some r) : zGo zPT zmlc (zPT 29) (0, zent (zmlc 29) [.ref 1, .int l1, .int l2, .int l3, .int l4], [], σ) (none, r) := by
  unfold Net_setValue at h
  show zGo zPT zmlc zP_29 (0, [some (.ref 1), some (.int l1), some (.int l2), some (.int l3), some (.int l4)], [], σ) _
  refine zGo.sts 1 (cf' := (1, [some (.ref 1), some (.int l1), some (.int l2), some (.int l3), some (.int l4)], [.int l1], σ)) rfl ?_
  by_cases hb1 : l1 = 0
  · replace h := zif_t hb1 h
    refine zG_sw rfl (zsw_t hb1) ?_
    refine zGo.sts 4 (cf' := (37, [some (.ref 1), some (.int l1), some (.int l2), some (.int l3), some (.int l4)], [.int l4, .int l3, .int l2, .ref 1], σ)) rfl ?_
    obtain ⟨σ2, hv, h⟩ := zbd h
    refine zGo.call rfl rfl (Net_setNumber_g hv) ?_
    refine zGo.sts 1 (cf' := (92, [some (.ref 1), some (.int l1), some (.int l2), some (.int l3), some (.int l4)], [], σ2)) rfl ?_
    obtain rfl := Option.some.inj h
    exact zGo.ret rfl rfl
  · replace h := zif_f hb1 h
    by_cases hb3 : l1 = 1
    · replace h := zif_t hb3 h
      refine zG_sw rfl ((zsw_f hb1).trans (zsw_t hb3)) ?_
      refine zGo.sts 4 (cf' := (50, [some (.ref 1), some (.int l1), some (.int l2), some (.int l3), some (.int l4)], [.int l4, .int l2, .ref 3], σ)) rfl ?_
      obtain ⟨σ4, hv, h⟩ := zbd h
      refine zG_st rfl hv ?_
      refine zGo.sts 1 (cf' := (92, [some (.ref 1), some (.int l1), some (.int l2), some (.int l3), some (.int l4)], [], σ4)) rfl ?_
      obtain rfl := Option.some.inj h
      exact zGo.ret rfl rfl
    · replace h := zif_f hb3 h
      by_cases hb5 : l1 = 2
      · replace h := zif_t hb5 h
        refine zG_sw rfl ((zsw_f hb1).trans ((zsw_f hb3).trans (zsw_t hb5))) ?_
        refine zGo.sts 4 (cf' := (61, [some (.ref 1), some (.int l1), some (.int l2), some (.int l3), some (.int l4)], [.int l4, .int l2, .ref 4], σ)) rfl ?_
        obtain ⟨σ6, hv, h⟩ := zbd h
        refine zG_st rfl hv ?_
        refine zGo.sts 1 (cf' := (92, [some (.ref 1), some (.int l1), some (.int l2), some (.int l3), some (.int l4)], [], σ6)) rfl ?_
        obtain rfl := Option.some.inj h
        exact zGo.ret rfl rfl
      · replace h := zif_f hb5 h
        by_cases hb7 : l1 = 3
        · replace h := zif_t hb7 h
          refine zG_sw rfl ((zsw_f hb1).trans ((zsw_f hb3).trans ((zsw_f hb5).trans (zsw_t hb7)))) ?_
          refine zGo.sts 3 (cf' := (70, [some (.ref 1), some (.int l1), some (.int l2), some (.int l3), some (.int l4)], [.int 10, .int l4, .ref 1], σ)) rfl ?_
          obtain ⟨v8, hv, h⟩ := zbd h
          refine zG_div rfl hv ?_
          refine zGo.sts 1 (cf' := (74, [some (.ref 1), some (.int l1), some (.int l2), some (.int l3), some (.int l4)], [], (su σ 1 1 v8))) rfl ?_
          replace h := zlet_of h
          generalize su σ 1 1 v8 = σ9 at h ⊢
          refine zGo.sts 3 (cf' := (79, [some (.ref 1), some (.int l1), some (.int l2), some (.int l3), some (.int l4)], [.int 10, .int l4, .ref 1], σ9)) rfl ?_
          obtain ⟨v10, hv, h⟩ := zbd h
          refine zG_div rfl hv ?_
          refine zGo.sts 1 (cf' := (83, [some (.ref 1), some (.int l1), some (.int l2), some (.int l3), some (.int l4)], [], (su σ9 1 2 v10))) rfl ?_
          replace h := zlet_of h
          generalize su σ9 1 2 v10 = σ11 at h ⊢
          refine zGo.sts 1 (cf' := (92, [some (.ref 1), some (.int l1), some (.int l2), some (.int l3), some (.int l4)], [], σ11)) rfl ?_
          obtain rfl := Option.some.inj h
          exact zGo.ret rfl rfl
        · replace h := zif_f hb7 h
          refine zG_sw rfl ((zsw_f hb1).trans ((zsw_f hb3).trans ((zsw_f hb5).trans ((zsw_f hb7).trans rfl)))) ?_
          refine zGo.sts 3 (cf' := (92, [some (.ref 1), some (.int l1), some (.int l2), some (.int l3), some (.int l4)], [], (su σ 1 3 l4))) rfl ?_
          replace h := zlet_of h
          generalize su σ 1 3 l4 = σ12 at h ⊢
          obtain rfl := Option.some.inj h
          exact zGo.ret rfl rfl
def His_tell_c33 (l2 : Int32) (l3 : Int32) (l4 : Int32) (l5 : Int32) (l6 : Int32) (σ : zSt) : Option (Int32 × zSt) := (zlr σ 30 (σ 29 1)).bind fun v5 => bif Nat.beq (zkd v5) 2 then zlet (su σ v5 0 l2) fun σ6 => bif Nat.beq (zkd v5) 2 then zlet (su σ6 v5 1 l3) fun σ7 => bif Nat.beq (zkd v5) 2 then zlet (su σ7 v5 2 l4) fun σ8 => bif Nat.beq (zkd v5) 2 then zlet (su σ8 v5 3 l6) fun σ9 => bif Nat.beq (zkd v5) 2 then zlet (su σ9 v5 4 l5) fun σ10 => zlet (su σ10 29 1 ((σ10 29 1) + 1)) fun σ11 => zlet (su σ11 29 2 (σ11 29 1)) fun σ12 => (Net_setValue l2 l3 l4 l5 σ12).bind fun σ13 => some (l6, σ13) else none else none else none else none else none
theorem His_tell_g33 {d7 : Option Value} {l2 : Int32} {l3 : Int32} {l4 : Int32} {l5 : Int32} {l6 : Int32} {σ : zSt} {r : Int32 × zSt} (h : His_tell_c33 l2 l3 l4 l5 l6 σ = some r) : zGo zPT zmlc zP_86 (33, [some (.ref 29), some (.ref 1), some (.int l2), some (.int l3), some (.int l4), some (.int l5), some (.int l6), d7], [], σ) (some (.int r.1), r.2) := by
  unfold His_tell_c33 at h
  refine zGo.sts 4 (cf' := (41, [some (.ref 29), some (.ref 1), some (.int l2), some (.int l3), some (.int l4), some (.int l5), some (.int l6), d7], [.int (σ 29 1), .ref 30], σ)) rfl ?_
  obtain ⟨v5, hv, h⟩ := zbd h
  refine zG_lr rfl hv ?_
  refine zGo.sts 3 (cf' := (47, [some (.ref 29), some (.ref 1), some (.int l2), some (.int l3), some (.int l4), some (.int l5), some (.int l6), some (.ref v5)], [.int l2, .ref v5], σ)) rfl ?_
  obtain ⟨hc, h⟩ := zbif h
  refine zG_pI rfl hc ?_
  replace h := zlet_of h
  generalize su σ v5 0 l2 = σ6 at h ⊢
  refine zGo.sts 2 (cf' := (53, [some (.ref 29), some (.ref 1), some (.int l2), some (.int l3), some (.int l4), some (.int l5), some (.int l6), some (.ref v5)], [.int l3, .ref v5], σ6)) rfl ?_
  obtain ⟨hc, h⟩ := zbif h
  refine zG_pI rfl hc ?_
  replace h := zlet_of h
  generalize su σ6 v5 1 l3 = σ7 at h ⊢
  refine zGo.sts 2 (cf' := (60, [some (.ref 29), some (.ref 1), some (.int l2), some (.int l3), some (.int l4), some (.int l5), some (.int l6), some (.ref v5)], [.int l4, .ref v5], σ7)) rfl ?_
  obtain ⟨hc, h⟩ := zbif h
  refine zG_pI rfl hc ?_
  replace h := zlet_of h
  generalize su σ7 v5 2 l4 = σ8 at h ⊢
  refine zGo.sts 2 (cf' := (67, [some (.ref 29), some (.ref 1), some (.int l2), some (.int l3), some (.int l4), some (.int l5), some (.int l6), some (.ref v5)], [.int l6, .ref v5], σ8)) rfl ?_
  obtain ⟨hc, h⟩ := zbif h
  refine zG_pI rfl hc ?_
  replace h := zlet_of h
  generalize su σ8 v5 3 l6 = σ9 at h ⊢
  refine zGo.sts 2 (cf' := (74, [some (.ref 29), some (.ref 1), some (.int l2), some (.int l3), some (.int l4), some (.int l5), some (.int l6), some (.ref v5)], [.int l5, .ref v5], σ9)) rfl ?_
  obtain ⟨hc, h⟩ := zbif h
  refine zG_pI rfl hc ?_
  replace h := zlet_of h
  generalize su σ9 v5 4 l5 = σ10 at h ⊢
  refine zGo.sts 6 (cf' := (87, [some (.ref 29), some (.ref 1), some (.int l2), some (.int l3), some (.int l4), some (.int l5), some (.int l6), some (.ref v5)], [], (su σ10 29 1 ((σ10 29 1) + 1)))) rfl ?_
  replace h := zlet_of h
  generalize su σ10 29 1 ((σ10 29 1) + 1) = σ11 at h ⊢
  refine zGo.sts 4 (cf' := (95, [some (.ref 29), some (.ref 1), some (.int l2), some (.int l3), some (.int l4), some (.int l5), some (.int l6), some (.ref v5)], [], (su σ11 29 2 (σ11 29 1)))) rfl ?_
  replace h := zlet_of h
  generalize su σ11 29 2 (σ11 29 1) = σ12 at h ⊢
  refine zGo.sts 5 (cf' := (102, [some (.ref 29), some (.ref 1), some (.int l2), some (.int l3), some (.int l4), some (.int l5), some (.int l6), some (.ref v5)], [.int l5, .int l4, .int l3, .int l2, .ref 1], σ12)) rfl ?_
  obtain ⟨σ13, hv, h⟩ := zbd h
  refine zGo.call rfl rfl (Net_setValue_g hv) ?_
  refine zGo.sts 1 (cf' := (107, [some (.ref 29), some (.ref 1), some (.int l2), some (.int l3), some (.int l4), some (.int l5), some (.int l6), some (.ref v5)], [.int l6], σ13)) rfl ?_
  obtain rfl := Option.some.inj h
  exact zGo.ret rfl rfl
def His_tell (l2 : Int32) (l3 : Int32) (l4 : Int32) (l5 : Int32) (σ : zSt) : Option (Int32 × zSt) := (Net_valueOf l2 l3 l4 σ).bind fun v1 => if ¬ v1 = l5 then (if (σ 29 1) < 12 then (His_tell_c33 l2 l3 l4 l5 v1 σ) else ((His_dropEldest σ).bind fun σ2 => His_tell_c33 l2 l3 l4 l5 v1 σ2)) else (some (v1, σ))
theorem His_tell_g {l2 : Int32} {l3 : Int32} {l4 : Int32} {l5 : Int32} {σ : zSt} {r : Int32 × zSt} (h : His_tell l2 l3 l4 l5 σ = some r) : zGo zPT zmlc (zPT 86) (0, zent (zmlc 86) [.ref 29, .ref 1, .int l2, .int l3, .int l4, .int l5], [], σ) (some (.int r.1), r.2) := by
  unfold His_tell at h
  show zGo zPT zmlc zP_86 (0, [some (.ref 29), some (.ref 1), some (.int l2), some (.int l3), some (.int l4), some (.int l5), none, none], [], σ) _
  refine zGo.sts 4 (cf' := (5, [some (.ref 29), some (.ref 1), some (.int l2), some (.int l3), some (.int l4), some (.int l5), none, none], [.int l4, .int l3, .int l2, .ref 1], σ)) rfl ?_
  obtain ⟨v1, hv, h⟩ := zbd h
  refine zGo.call rfl rfl (Net_valueOf_g hv) ?_
  refine zGo.sts 3 (cf' := (14, [some (.ref 29), some (.ref 1), some (.int l2), some (.int l3), some (.int l4), some (.int l5), some (.int v1), none], [.int l5, .int v1], σ)) rfl ?_
  by_cases hb4 : ¬ v1 = l5
  · replace h := zif_t hb4 h
    refine zC_ne_t rfl hb4 ?_
    refine zGo.sts 3 (cf' := (26, [some (.ref 29), some (.ref 1), some (.int l2), some (.int l3), some (.int l4), some (.int l5), some (.int v1), none], [.int 12, .int (σ 29 1)], σ)) rfl ?_
    by_cases hb3 : (σ 29 1) < 12
    · replace h := zif_t hb3 h
      refine zC_lt_t rfl hb3 ?_
      exact His_tell_g33 h
    · replace h := zif_f hb3 h
      refine zC_lt_f rfl hb3 ?_
      refine zGo.sts 1 (cf' := (30, [some (.ref 29), some (.ref 1), some (.int l2), some (.int l3), some (.int l4), some (.int l5), some (.int v1), none], [.ref 29], σ)) rfl ?_
      obtain ⟨σ2, hv, h⟩ := zbd h
      refine zGo.call rfl rfl (His_dropEldest_g hv) ?_
      exact His_tell_g33 h
  · replace h := zif_f hb4 h
    refine zC_ne_f rfl hb4 ?_
    refine zGo.sts 1 (cf' := (19, [some (.ref 29), some (.ref 1), some (.int l2), some (.int l3), some (.int l4), some (.int l5), some (.int v1), none], [.int v1], σ)) rfl ?_
    obtain rfl := Option.some.inj h
    exact zGo.ret rfl rfl
def X_tellLine_c17 (l1 : Int32) (l2 : Int32) (l3 : Int32) (t0 : Int32) (σ : zSt) : Option (Int32 × zSt) := if t0 = l3 then (some (t0, σ)) else (zb2 (His_tell 0 l1 l2 l3 σ) fun v3 σ4 => some (t0, σ4))
theorem X_tellLine_g17 {d4 : Option Value} {l1 : Int32} {l2 : Int32} {l3 : Int32} {t0 : Int32} {σ : zSt} {r : Int32 × zSt} (h : X_tellLine_c17 l1 l2 l3 t0 σ = some r) : zGo zPT zmlc zP_139 (17, [some (.ref 0), some (.int l1), some (.int l2), some (.int l3), d4], [.int t0], σ) (some (.int r.1), r.2) := by
  unfold X_tellLine_c17 at h
  refine zGo.sts 3 (cf' := (22, [some (.ref 0), some (.int l1), some (.int l2), some (.int l3), some (.int t0)], [.int l3, .int t0], σ)) rfl ?_
  by_cases hb5 : t0 = l3
  · replace h := zif_t hb5 h
    refine zC_eq_t rfl hb5 ?_
    refine zGo.sts 1 (cf' := (43, [some (.ref 0), some (.int l1), some (.int l2), some (.int l3), some (.int t0)], [.int t0], σ)) rfl ?_
    obtain rfl := Option.some.inj h
    exact zGo.ret rfl rfl
  · replace h := zif_f hb5 h
    refine zC_eq_f rfl hb5 ?_
    refine zGo.sts 8 (cf' := (37, [some (.ref 0), some (.int l1), some (.int l2), some (.int l3), some (.int t0)], [.int l3, .int l2, .int l1, .int 0, .ref 1, .ref 29], σ)) rfl ?_
    obtain ⟨v3, σ4, hv, h⟩ := zbd2 h
    refine zGo.call rfl rfl (His_tell_g hv) ?_
    refine zGo.sts 2 (cf' := (43, [some (.ref 0), some (.int l1), some (.int l2), some (.int l3), some (.int t0)], [.int t0], σ4)) rfl ?_
    obtain rfl := Option.some.inj h
    exact zGo.ret rfl rfl
def X_tellLine (l1 : Int32) (l2 : Int32) (l3 : Int32) (σ : zSt) : Option (Int32 × zSt) := (Net_hasLine l1 l2 σ).bind fun v1 => if v1 = 0 then (X_tellLine_c17 l1 l2 l3 0 σ) else (X_tellLine_c17 l1 l2 l3 1 σ)
theorem X_tellLine_g {l1 : Int32} {l2 : Int32} {l3 : Int32} {σ : zSt} {r : Int32 × zSt} (h : X_tellLine l1 l2 l3 σ = some r) : zGo zPT zmlc (zPT 139) (0, zent (zmlc 139) [.ref 0, .int l1, .int l2, .int l3], [], σ) (some (.int r.1), r.2) := by
  unfold X_tellLine at h
  show zGo zPT zmlc zP_139 (0, [some (.ref 0), some (.int l1), some (.int l2), some (.int l3), none], [], σ) _
  refine zGo.sts 4 (cf' := (6, [some (.ref 0), some (.int l1), some (.int l2), some (.int l3), none], [.int l2, .int l1, .ref 1], σ)) rfl ?_
  obtain ⟨v1, hv, h⟩ := zbd h
  refine zGo.call rfl rfl (Net_hasLine_g hv) ?_
  by_cases hb2 : v1 = 0
  · replace h := zif_t hb2 h
    refine zI_eq_t rfl hb2 ?_
    refine zGo.sts 1 (cf' := (17, [some (.ref 0), some (.int l1), some (.int l2), some (.int l3), none], [.int 0], σ)) rfl ?_
    exact X_tellLine_g17 h
  · replace h := zif_f hb2 h
    refine zI_eq_f rfl hb2 ?_
    refine zGo.sts 2 (cf' := (17, [some (.ref 0), some (.int l1), some (.int l2), some (.int l3), none], [.int 1], σ)) rfl ?_
    exact X_tellLine_g17 h
def X_line (l1 : Int32) (l2 : Int32) (l3 : Int32) (σ : zSt) : Option (Int32 × zSt) := (X_areTwo l1 l2 σ).bind fun v1 => if v1 = 0 then (some ((-1), σ)) else (if l3 < 0 then (some ((-1), σ)) else (if l3 ≤ 1 then (zb2 (X_tellLine l1 l2 l3 σ) fun v2 σ3 => some (v2, σ3)) else (some ((-1), σ))))
theorem X_line_g {l1 : Int32} {l2 : Int32} {l3 : Int32} {σ : zSt} {r : Int32 × zSt} (h : X_line l1 l2 l3 σ = some r) : zGo zPT zmlc (zPT 91) (0, zent (zmlc 91) [.ref 0, .int l1, .int l2, .int l3], [], σ) (some (.int r.1), r.2) := by
  unfold X_line at h
  show zGo zPT zmlc zP_91 (0, [some (.ref 0), some (.int l1), some (.int l2), some (.int l3)], [], σ) _
  refine zGo.sts 3 (cf' := (3, [some (.ref 0), some (.int l1), some (.int l2), some (.int l3)], [.int l2, .int l1, .ref 0], σ)) rfl ?_
  obtain ⟨v1, hv, h⟩ := zbd h
  refine zGo.call rfl rfl (X_areTwo_g hv) ?_
  by_cases hb6 : v1 = 0
  · replace h := zif_t hb6 h
    refine zI_eq_t rfl hb6 ?_
    refine zGo.sts 1 (cf' := (19, [some (.ref 0), some (.int l1), some (.int l2), some (.int l3)], [.int (-1)], σ)) rfl ?_
    obtain rfl := Option.some.inj h
    exact zGo.ret rfl rfl
  · replace h := zif_f hb6 h
    refine zI_eq_f rfl hb6 ?_
    refine zGo.sts 1 (cf' := (10, [some (.ref 0), some (.int l1), some (.int l2), some (.int l3)], [.int l3], σ)) rfl ?_
    by_cases hb5 : l3 < 0
    · replace h := zif_t hb5 h
      refine zI_lt_t rfl hb5 ?_
      refine zGo.sts 1 (cf' := (19, [some (.ref 0), some (.int l1), some (.int l2), some (.int l3)], [.int (-1)], σ)) rfl ?_
      obtain rfl := Option.some.inj h
      exact zGo.ret rfl rfl
    · replace h := zif_f hb5 h
      refine zI_lt_f rfl hb5 ?_
      refine zGo.sts 2 (cf' := (15, [some (.ref 0), some (.int l1), some (.int l2), some (.int l3)], [.int 1, .int l3], σ)) rfl ?_
      by_cases hb4 : l3 ≤ 1
      · replace h := zif_t hb4 h
        refine zC_le_t rfl hb4 ?_
        refine zGo.sts 4 (cf' := (24, [some (.ref 0), some (.int l1), some (.int l2), some (.int l3)], [.int l3, .int l2, .int l1, .ref 0], σ)) rfl ?_
        obtain ⟨v2, σ3, hv, h⟩ := zbd2 h
        refine zGo.call rfl rfl (X_tellLine_g hv) ?_
        obtain rfl := Option.some.inj h
        exact zGo.ret rfl rfl
      · replace h := zif_f hb4 h
        refine zC_le_f rfl hb4 ?_
        refine zGo.sts 1 (cf' := (19, [some (.ref 0), some (.int l1), some (.int l2), some (.int l3)], [.int (-1)], σ)) rfl ?_
        obtain rfl := Option.some.inj h
        exact zGo.ret rfl rfl
def X_kind (l1 : Int32) (l2 : Int32) (σ : zSt) : Option (Int32 × zSt) := (Net_hasPoint l1 σ).bind fun v1 => if v1 = 0 then (some ((-1), σ)) else (if l2 < 0 then (some ((-1), σ)) else (if l2 < 5 then (zb2 (His_tell 1 l1 0 l2 σ) fun v2 σ3 => some (v2, σ3)) else (some ((-1), σ))))
theorem X_kind_g {l1 : Int32} {l2 : Int32} {σ : zSt} {r : Int32 × zSt} (h : X_kind l1 l2 σ = some r) : zGo zPT zmlc (zPT 92) (0, zent (zmlc 92) [.ref 0, .int l1, .int l2], [], σ) (some (.int r.1), r.2) := by
  unfold X_kind at h
  show zGo zPT zmlc zP_92 (0, [some (.ref 0), some (.int l1), some (.int l2)], [], σ) _
  refine zGo.sts 3 (cf' := (5, [some (.ref 0), some (.int l1), some (.int l2)], [.int l1, .ref 1], σ)) rfl ?_
  obtain ⟨v1, hv, h⟩ := zbd h
  refine zGo.call rfl rfl (Net_hasPoint_g hv) ?_
  by_cases hb6 : v1 = 0
  · replace h := zif_t hb6 h
    refine zI_eq_t rfl hb6 ?_
    refine zGo.sts 1 (cf' := (21, [some (.ref 0), some (.int l1), some (.int l2)], [.int (-1)], σ)) rfl ?_
    obtain rfl := Option.some.inj h
    exact zGo.ret rfl rfl
  · replace h := zif_f hb6 h
    refine zI_eq_f rfl hb6 ?_
    refine zGo.sts 1 (cf' := (12, [some (.ref 0), some (.int l1), some (.int l2)], [.int l2], σ)) rfl ?_
    by_cases hb5 : l2 < 0
    · replace h := zif_t hb5 h
      refine zI_lt_t rfl hb5 ?_
      refine zGo.sts 1 (cf' := (21, [some (.ref 0), some (.int l1), some (.int l2)], [.int (-1)], σ)) rfl ?_
      obtain rfl := Option.some.inj h
      exact zGo.ret rfl rfl
    · replace h := zif_f hb5 h
      refine zI_lt_f rfl hb5 ?_
      refine zGo.sts 2 (cf' := (17, [some (.ref 0), some (.int l1), some (.int l2)], [.int 5, .int l2], σ)) rfl ?_
      by_cases hb4 : l2 < 5
      · replace h := zif_t hb4 h
        refine zC_lt_t rfl hb4 ?_
        refine zGo.sts 8 (cf' := (34, [some (.ref 0), some (.int l1), some (.int l2)], [.int l2, .int 0, .int l1, .int 1, .ref 1, .ref 29], σ)) rfl ?_
        obtain ⟨v2, σ3, hv, h⟩ := zbd2 h
        refine zGo.call rfl rfl (His_tell_g hv) ?_
        obtain rfl := Option.some.inj h
        exact zGo.ret rfl rfl
      · replace h := zif_f hb4 h
        refine zC_lt_f rfl hb4 ?_
        refine zGo.sts 1 (cf' := (21, [some (.ref 0), some (.int l1), some (.int l2)], [.int (-1)], σ)) rfl ?_
        obtain rfl := Option.some.inj h
        exact zGo.ret rfl rfl
def X_cost (l1 : Int32) (l2 : Int32) (σ : zSt) : Option (Int32 × zSt) := (Net_hasPoint l1 σ).bind fun v1 => if v1 = 0 then (some ((-1), σ)) else (if l2 < 0 then (some ((-1), σ)) else (if l2 ≤ 9 then (zb2 (His_tell 2 l1 0 l2 σ) fun v2 σ3 => some (v2, σ3)) else (some ((-1), σ))))
theorem X_cost_g {l1 : Int32} {l2 : Int32} {σ : zSt} {r : Int32 × zSt} (h : X_cost l1 l2 σ = some r) : zGo zPT zmlc (zPT 93) (0, zent (zmlc 93) [.ref 0, .int l1, .int l2], [], σ) (some (.int r.1), r.2) := by
  unfold X_cost at h
  show zGo zPT zmlc zP_93 (0, [some (.ref 0), some (.int l1), some (.int l2)], [], σ) _
  refine zGo.sts 3 (cf' := (5, [some (.ref 0), some (.int l1), some (.int l2)], [.int l1, .ref 1], σ)) rfl ?_
  obtain ⟨v1, hv, h⟩ := zbd h
  refine zGo.call rfl rfl (Net_hasPoint_g hv) ?_
  by_cases hb6 : v1 = 0
  · replace h := zif_t hb6 h
    refine zI_eq_t rfl hb6 ?_
    refine zGo.sts 1 (cf' := (22, [some (.ref 0), some (.int l1), some (.int l2)], [.int (-1)], σ)) rfl ?_
    obtain rfl := Option.some.inj h
    exact zGo.ret rfl rfl
  · replace h := zif_f hb6 h
    refine zI_eq_f rfl hb6 ?_
    refine zGo.sts 1 (cf' := (12, [some (.ref 0), some (.int l1), some (.int l2)], [.int l2], σ)) rfl ?_
    by_cases hb5 : l2 < 0
    · replace h := zif_t hb5 h
      refine zI_lt_t rfl hb5 ?_
      refine zGo.sts 1 (cf' := (22, [some (.ref 0), some (.int l1), some (.int l2)], [.int (-1)], σ)) rfl ?_
      obtain rfl := Option.some.inj h
      exact zGo.ret rfl rfl
    · replace h := zif_f hb5 h
      refine zI_lt_f rfl hb5 ?_
      refine zGo.sts 2 (cf' := (18, [some (.ref 0), some (.int l1), some (.int l2)], [.int 9, .int l2], σ)) rfl ?_
      by_cases hb4 : l2 ≤ 9
      · replace h := zif_t hb4 h
        refine zC_le_t rfl hb4 ?_
        refine zGo.sts 8 (cf' := (35, [some (.ref 0), some (.int l1), some (.int l2)], [.int l2, .int 0, .int l1, .int 2, .ref 1, .ref 29], σ)) rfl ?_
        obtain ⟨v2, σ3, hv, h⟩ := zbd2 h
        refine zGo.call rfl rfl (His_tell_g hv) ?_
        obtain rfl := Option.some.inj h
        exact zGo.ret rfl rfl
      · replace h := zif_f hb4 h
        refine zC_le_f rfl hb4 ?_
        refine zGo.sts 1 (cf' := (22, [some (.ref 0), some (.int l1), some (.int l2)], [.int (-1)], σ)) rfl ?_
        obtain rfl := Option.some.inj h
        exact zGo.ret rfl rfl
def X_rule (l1 : Int32) (l2 : Int32) (σ : zSt) : Option (Int32 × zSt) := if l1 < 0 then (some ((-1), σ)) else (if 5 ≤ l1 then (some ((-1), σ)) else (if l2 < 1 then (some ((-1), σ)) else (if l2 ≤ 4 then (zb2 (His_tell 3 0 0 ((10 * l1) + l2) σ) fun v1 σ2 => some (v1, σ2)) else (some ((-1), σ)))))
theorem X_rule_g {l1 : Int32} {l2 : Int32} {σ : zSt} {r : Int32 × zSt} (h : X_rule l1 l2 σ = some r) : zGo zPT zmlc (zPT 94) (0, zent (zmlc 94) [.ref 0, .int l1, .int l2], [], σ) (some (.int r.1), r.2) := by
  unfold X_rule at h
  show zGo zPT zmlc zP_94 (0, [some (.ref 0), some (.int l1), some (.int l2)], [], σ) _
  refine zGo.sts 1 (cf' := (1, [some (.ref 0), some (.int l1), some (.int l2)], [.int l1], σ)) rfl ?_
  by_cases hb6 : l1 < 0
  · replace h := zif_t hb6 h
    refine zI_lt_t rfl hb6 ?_
    refine zGo.sts 1 (cf' := (20, [some (.ref 0), some (.int l1), some (.int l2)], [.int (-1)], σ)) rfl ?_
    obtain rfl := Option.some.inj h
    exact zGo.ret rfl rfl
  · replace h := zif_f hb6 h
    refine zI_lt_f rfl hb6 ?_
    refine zGo.sts 2 (cf' := (6, [some (.ref 0), some (.int l1), some (.int l2)], [.int 5, .int l1], σ)) rfl ?_
    by_cases hb5 : 5 ≤ l1
    · replace h := zif_t hb5 h
      refine zC_ge_t rfl hb5 ?_
      refine zGo.sts 1 (cf' := (20, [some (.ref 0), some (.int l1), some (.int l2)], [.int (-1)], σ)) rfl ?_
      obtain rfl := Option.some.inj h
      exact zGo.ret rfl rfl
    · replace h := zif_f hb5 h
      refine zC_ge_f rfl hb5 ?_
      refine zGo.sts 2 (cf' := (11, [some (.ref 0), some (.int l1), some (.int l2)], [.int 1, .int l2], σ)) rfl ?_
      by_cases hb4 : l2 < 1
      · replace h := zif_t hb4 h
        refine zC_lt_t rfl hb4 ?_
        refine zGo.sts 1 (cf' := (20, [some (.ref 0), some (.int l1), some (.int l2)], [.int (-1)], σ)) rfl ?_
        obtain rfl := Option.some.inj h
        exact zGo.ret rfl rfl
      · replace h := zif_f hb4 h
        refine zC_lt_f rfl hb4 ?_
        refine zGo.sts 2 (cf' := (16, [some (.ref 0), some (.int l1), some (.int l2)], [.int 4, .int l2], σ)) rfl ?_
        by_cases hb3 : l2 ≤ 4
        · replace h := zif_t hb3 h
          refine zC_le_t rfl hb3 ?_
          refine zGo.sts 12 (cf' := (38, [some (.ref 0), some (.int l1), some (.int l2)], [.int ((10 * l1) + l2), .int 0, .int 0, .int 3, .ref 1, .ref 29], σ)) rfl ?_
          obtain ⟨v1, σ2, hv, h⟩ := zbd2 h
          refine zGo.call rfl rfl (His_tell_g hv) ?_
          obtain rfl := Option.some.inj h
          exact zGo.ret rfl rfl
        · replace h := zif_f hb3 h
          refine zC_le_f rfl hb3 ?_
          refine zGo.sts 1 (cf' := (20, [some (.ref 0), some (.int l1), some (.int l2)], [.int (-1)], σ)) rfl ?_
          obtain rfl := Option.some.inj h
          exact zGo.ret rfl rfl
def Net_countsOf (l1 : Int32) (σ : zSt) : Option (Int32) := (zld σ 4 l1).bind fun v1 => (zld σ 3 l1).bind fun v2 => if v2 = 2 then (some ((2 * (v1 + 1)) - 1)) else (if v2 = 3 then ((zdvq ((v1 + 1) + 1) 2).bind fun v5 => some v5) else (if v2 = 4 then (some ((2 * (v1 + 1)) + 2)) else (some (v1 + 1))))
theorem Net_countsOf_g {l1 : Int32} {σ : zSt} {r : Int32} (h : Net_countsOf l1 σ = some r) : zGo zPT zmlc (zPT 31) (0, zent (zmlc 31) [.ref 1, .int l1], [], σ) (some (.int r), σ) := by
  unfold Net_countsOf at h
  show zGo zPT zmlc zP_31 (0, [some (.ref 1), some (.int l1), none], [], σ) _
  refine zGo.sts 3 (cf' := (5, [some (.ref 1), some (.int l1), none], [.int l1, .ref 4], σ)) rfl ?_
  obtain ⟨v1, hv, h⟩ := zbd h
  refine zG_ld rfl hv ?_
  refine zGo.sts 6 (cf' := (14, [some (.ref 1), some (.int l1), some (.int (v1 + 1))], [.int l1, .ref 3], σ)) rfl ?_
  obtain ⟨v2, hv, h⟩ := zbd h
  refine zG_ld rfl hv ?_
  by_cases hb3 : v2 = 2
  · replace h := zif_t hb3 h
    refine zG_sw rfl (zsw_t hb3) ?_
    refine zGo.sts 5 (cf' := (45, [some (.ref 1), some (.int l1), some (.int (v1 + 1))], [.int ((2 * (v1 + 1)) - 1)], σ)) rfl ?_
    obtain rfl := Option.some.inj h
    exact zGo.ret rfl rfl
  · replace h := zif_f hb3 h
    by_cases hb4 : v2 = 3
    · replace h := zif_t hb4 h
      refine zG_sw rfl ((zsw_f hb3).trans (zsw_t hb4)) ?_
      refine zGo.sts 4 (cf' := (50, [some (.ref 1), some (.int l1), some (.int (v1 + 1))], [.int 2, .int ((v1 + 1) + 1)], σ)) rfl ?_
      obtain ⟨v5, hv, h⟩ := zbd h
      refine zG_div rfl hv ?_
      obtain rfl := Option.some.inj h
      exact zGo.ret rfl rfl
    · replace h := zif_f hb4 h
      by_cases hb6 : v2 = 4
      · replace h := zif_t hb6 h
        refine zG_sw rfl ((zsw_f hb3).trans ((zsw_f hb4).trans (zsw_t hb6))) ?_
        refine zGo.sts 5 (cf' := (57, [some (.ref 1), some (.int l1), some (.int (v1 + 1))], [.int ((2 * (v1 + 1)) + 2)], σ)) rfl ?_
        obtain rfl := Option.some.inj h
        exact zGo.ret rfl rfl
      · replace h := zif_f hb6 h
        refine zG_sw rfl ((zsw_f hb3).trans ((zsw_f hb4).trans ((zsw_f hb6).trans rfl))) ?_
        refine zGo.sts 1 (cf' := (59, [some (.ref 1), some (.int l1), some (.int (v1 + 1))], [.int (v1 + 1)], σ)) rfl ?_
        obtain rfl := Option.some.inj h
        exact zGo.ret rfl rfl
def Jdk_bitCount (l0 : Int32) (σ : zSt) : Option (Int32) := zlet (l0 - (((l0.toUInt32 >>> ((1 : Int32).toUInt32 &&& Int32.toUInt32 31)).toInt32) &&& 1431655765)) fun v1 => zlet ((v1 &&& 858993459) + (((v1.toUInt32 >>> ((2 : Int32).toUInt32 &&& Int32.toUInt32 31)).toInt32) &&& 858993459)) fun v2 => zlet ((v2 + ((v2.toUInt32 >>> ((4 : Int32).toUInt32 &&& Int32.toUInt32 31)).toInt32)) &&& 252645135) fun v3 => zlet (v3 + ((v3.toUInt32 >>> ((8 : Int32).toUInt32 &&& Int32.toUInt32 31)).toInt32)) fun v4 => zlet (v4 + ((v4.toUInt32 >>> ((16 : Int32).toUInt32 &&& Int32.toUInt32 31)).toInt32)) fun v5 => some (v5 &&& 63)
theorem Jdk_bitCount_g {l0 : Int32} {σ : zSt} {r : Int32} (h : Jdk_bitCount l0 σ = some r) : zGo zPT zmlc (zPT 0) (0, zent (zmlc 0) [.int l0], [], σ) (some (.int r), σ) := by
  unfold Jdk_bitCount at h
  show zGo zPT zmlc zP_0 (0, [some (.int l0)], [], σ) _
  refine zGo.sts 8 (cf' := (10, [some (.int (l0 - (((l0.toUInt32 >>> ((1 : Int32).toUInt32 &&& Int32.toUInt32 31)).toInt32) &&& 1431655765)))], [], σ)) rfl ?_
  replace h := zlet_of h
  generalize l0 - (((l0.toUInt32 >>> ((1 : Int32).toUInt32 &&& Int32.toUInt32 31)).toInt32) &&& 1431655765) = v1 at h ⊢
  refine zGo.sts 10 (cf' := (24, [some (.int ((v1 &&& 858993459) + (((v1.toUInt32 >>> ((2 : Int32).toUInt32 &&& Int32.toUInt32 31)).toInt32) &&& 858993459)))], [], σ)) rfl ?_
  replace h := zlet_of h
  generalize (v1 &&& 858993459) + (((v1.toUInt32 >>> ((2 : Int32).toUInt32 &&& Int32.toUInt32 31)).toInt32) &&& 858993459) = v2 at h ⊢
  refine zGo.sts 8 (cf' := (34, [some (.int ((v2 + ((v2.toUInt32 >>> ((4 : Int32).toUInt32 &&& Int32.toUInt32 31)).toInt32)) &&& 252645135))], [], σ)) rfl ?_
  replace h := zlet_of h
  generalize (v2 + ((v2.toUInt32 >>> ((4 : Int32).toUInt32 &&& Int32.toUInt32 31)).toInt32)) &&& 252645135 = v3 at h ⊢
  refine zGo.sts 6 (cf' := (41, [some (.int (v3 + ((v3.toUInt32 >>> ((8 : Int32).toUInt32 &&& Int32.toUInt32 31)).toInt32)))], [], σ)) rfl ?_
  replace h := zlet_of h
  generalize v3 + ((v3.toUInt32 >>> ((8 : Int32).toUInt32 &&& Int32.toUInt32 31)).toInt32) = v4 at h ⊢
  refine zGo.sts 6 (cf' := (48, [some (.int (v4 + ((v4.toUInt32 >>> ((16 : Int32).toUInt32 &&& Int32.toUInt32 31)).toInt32)))], [], σ)) rfl ?_
  replace h := zlet_of h
  generalize v4 + ((v4.toUInt32 >>> ((16 : Int32).toUInt32 &&& Int32.toUInt32 31)).toInt32) = v5 at h ⊢
  refine zGo.sts 3 (cf' := (52, [some (.int v5)], [.int (v5 &&& 63)], σ)) rfl ?_
  obtain rfl := Option.some.inj h
  exact zGo.ret rfl rfl
def X_of (l1 : Int32) (l2 : Int32) (σ : zSt) : Option (Int32) := (Net_hasPoint l1 σ).bind fun v1 => if ¬ v1 = 0 then (if l2 = 0 then ((zld σ 3 l1).bind fun v3 => some v3) else (if l2 = 1 then ((zld σ 4 l1).bind fun v5 => some v5) else (if l2 = 2 then ((Net_countsOf l1 σ).bind fun v7 => some v7) else (if l2 = 3 then ((zld σ 2 l1).bind fun v9 => (Jdk_bitCount v9 σ).bind fun v10 => some v10) else (if l2 = 4 then ((zld σ 2 l1).bind fun v12 => some v12) else (some (-1))))))) else (some (-1))
theorem X_of_g {l1 : Int32} {l2 : Int32} {σ : zSt} {r : Int32} (h : X_of l1 l2 σ = some r) : zGo zPT zmlc (zPT 95) (0, zent (zmlc 95) [.ref 0, .int l1, .int l2], [], σ) (some (.int r), σ) := by
  unfold X_of at h
  show zGo zPT zmlc zP_95 (0, [some (.ref 0), some (.int l1), some (.int l2)], [], σ) _
  refine zGo.sts 3 (cf' := (5, [some (.ref 0), some (.int l1), some (.int l2)], [.int l1, .ref 1], σ)) rfl ?_
  obtain ⟨v1, hv, h⟩ := zbd h
  refine zGo.call rfl rfl (Net_hasPoint_g hv) ?_
  by_cases hb13 : ¬ v1 = 0
  · replace h := zif_t hb13 h
    refine zI_ne_t rfl hb13 ?_
    refine zGo.sts 1 (cf' := (14, [some (.ref 0), some (.int l1), some (.int l2)], [.int l2], σ)) rfl ?_
    by_cases hb2 : l2 = 0
    · replace h := zif_t hb2 h
      refine zG_sw rfl (zsw_t hb2) ?_
      refine zGo.sts 4 (cf' := (56, [some (.ref 0), some (.int l1), some (.int l2)], [.int l1, .ref 3], σ)) rfl ?_
      obtain ⟨v3, hv, h⟩ := zbd h
      refine zG_ld rfl hv ?_
      obtain rfl := Option.some.inj h
      exact zGo.ret rfl rfl
    · replace h := zif_f hb2 h
      by_cases hb4 : l2 = 1
      · replace h := zif_t hb4 h
        refine zG_sw rfl ((zsw_f hb2).trans (zsw_t hb4)) ?_
        refine zGo.sts 4 (cf' := (66, [some (.ref 0), some (.int l1), some (.int l2)], [.int l1, .ref 4], σ)) rfl ?_
        obtain ⟨v5, hv, h⟩ := zbd h
        refine zG_ld rfl hv ?_
        obtain rfl := Option.some.inj h
        exact zGo.ret rfl rfl
      · replace h := zif_f hb4 h
        by_cases hb6 : l2 = 2
        · replace h := zif_t hb6 h
          refine zG_sw rfl ((zsw_f hb2).trans ((zsw_f hb4).trans (zsw_t hb6))) ?_
          refine zGo.sts 3 (cf' := (73, [some (.ref 0), some (.int l1), some (.int l2)], [.int l1, .ref 1], σ)) rfl ?_
          obtain ⟨v7, hv, h⟩ := zbd h
          refine zGo.call rfl rfl (Net_countsOf_g hv) ?_
          obtain rfl := Option.some.inj h
          exact zGo.ret rfl rfl
        · replace h := zif_f hb6 h
          by_cases hb8 : l2 = 3
          · replace h := zif_t hb8 h
            refine zG_sw rfl ((zsw_f hb2).trans ((zsw_f hb4).trans ((zsw_f hb6).trans (zsw_t hb8)))) ?_
            refine zGo.sts 4 (cf' := (85, [some (.ref 0), some (.int l1), some (.int l2)], [.int l1, .ref 2], σ)) rfl ?_
            obtain ⟨v9, hv, h⟩ := zbd h
            refine zG_ld rfl hv ?_
            obtain ⟨v10, hv, h⟩ := zbd h
            refine zGo.call rfl rfl (Jdk_bitCount_g hv) ?_
            obtain rfl := Option.some.inj h
            exact zGo.ret rfl rfl
          · replace h := zif_f hb8 h
            by_cases hb11 : l2 = 4
            · replace h := zif_t hb11 h
              refine zG_sw rfl ((zsw_f hb2).trans ((zsw_f hb4).trans ((zsw_f hb6).trans ((zsw_f hb8).trans (zsw_t hb11))))) ?_
              refine zGo.sts 4 (cf' := (98, [some (.ref 0), some (.int l1), some (.int l2)], [.int l1, .ref 2], σ)) rfl ?_
              obtain ⟨v12, hv, h⟩ := zbd h
              refine zG_ld rfl hv ?_
              obtain rfl := Option.some.inj h
              exact zGo.ret rfl rfl
            · replace h := zif_f hb11 h
              refine zG_sw rfl ((zsw_f hb2).trans ((zsw_f hb4).trans ((zsw_f hb6).trans ((zsw_f hb8).trans ((zsw_f hb11).trans rfl))))) ?_
              refine zGo.sts 1 (cf' := (101, [some (.ref 0), some (.int l1), some (.int l2)], [.int (-1)], σ)) rfl ?_
              obtain rfl := Option.some.inj h
              exact zGo.ret rfl rfl
  · replace h := zif_f hb13 h
    refine zI_ne_f rfl hb13 ?_
    refine zGo.sts 1 (cf' := (12, [some (.ref 0), some (.int l1), some (.int l2)], [.int (-1)], σ)) rfl ?_
    obtain rfl := Option.some.inj h
    exact zGo.ret rfl rfl
def Net_all (σ : zSt) : Option (Int32) := some ((1 <<< ((σ 1 0) &&& 31)) - 1)
theorem Net_all_g {σ : zSt} {r : Int32} (h : Net_all σ = some r) : zGo zPT zmlc (zPT 25) (0, zent (zmlc 25) [.ref 1], [], σ) (some (.int r), σ) := by
  unfold Net_all at h
  show zGo zPT zmlc zP_25 (0, [some (.ref 1)], [], σ) _
  refine zGo.sts 6 (cf' := (8, [some (.ref 1)], [.int ((1 <<< ((σ 1 0) &&& 31)) - 1)], σ)) rfl ?_
  obtain rfl := Option.some.inj h
  exact zGo.ret rfl rfl
def Net_hasSet (l1 : Int32) (σ : zSt) : Option (Int32) := if l1 < 0 then (some 0) else ((Net_all σ).bind fun v1 => if v1 < l1 then (some 0) else (some 1))
theorem Net_hasSet_g {l1 : Int32} {σ : zSt} {r : Int32} (h : Net_hasSet l1 σ = some r) : zGo zPT zmlc (zPT 26) (0, zent (zmlc 26) [.ref 1, .int l1], [], σ) (some (.int r), σ) := by
  unfold Net_hasSet at h
  show zGo zPT zmlc zP_26 (0, [some (.ref 1), some (.int l1)], [], σ) _
  refine zGo.sts 1 (cf' := (1, [some (.ref 1), some (.int l1)], [.int l1], σ)) rfl ?_
  by_cases hb3 : l1 < 0
  · replace h := zif_t hb3 h
    refine zI_lt_t rfl hb3 ?_
    refine zGo.sts 1 (cf' := (17, [some (.ref 1), some (.int l1)], [.int 0], σ)) rfl ?_
    obtain rfl := Option.some.inj h
    exact zGo.ret rfl rfl
  · replace h := zif_f hb3 h
    refine zI_lt_f rfl hb3 ?_
    refine zGo.sts 2 (cf' := (6, [some (.ref 1), some (.int l1)], [.ref 1, .int l1], σ)) rfl ?_
    obtain ⟨v1, hv, h⟩ := zbd h
    refine zGo.call rfl rfl (Net_all_g hv) ?_
    by_cases hb2 : v1 < l1
    · replace h := zif_t hb2 h
      refine zC_gt_t rfl hb2 ?_
      refine zGo.sts 1 (cf' := (17, [some (.ref 1), some (.int l1)], [.int 0], σ)) rfl ?_
      obtain rfl := Option.some.inj h
      exact zGo.ret rfl rfl
    · replace h := zif_f hb2 h
      refine zC_gt_f rfl hb2 ?_
      refine zGo.sts 2 (cf' := (17, [some (.ref 1), some (.int l1)], [.int 1], σ)) rfl ?_
      obtain rfl := Option.some.inj h
      exact zGo.ret rfl rfl
def Fcg_copy (σ : zSt) : Option (zSt) := (Net_all σ).bind fun v1 => zlet (su σ 43 0 v1) fun σ2 => zlet (su σ2 43 1 (σ2 1 1)) fun σ3 => zlet (su σ3 43 2 (σ3 1 2)) fun σ4 => (zcpy σ4 2 0 44 0 9).bind fun σ5 => some σ5
theorem Fcg_copy_g {σ : zSt} {r : zSt} (h : Fcg_copy σ = some r) : zGo zPT zmlc (zPT 63) (0, zent (zmlc 63) [.ref 43, .ref 1], [], σ) (none, r) := by
  unfold Fcg_copy at h
  show zGo zPT zmlc zP_63 (0, [some (.ref 43), some (.ref 1)], [], σ) _
  refine zGo.sts 2 (cf' := (2, [some (.ref 43), some (.ref 1)], [.ref 1, .ref 43], σ)) rfl ?_
  obtain ⟨v1, hv, h⟩ := zbd h
  refine zGo.call rfl rfl (Net_all_g hv) ?_
  refine zGo.sts 1 (cf' := (8, [some (.ref 43), some (.ref 1)], [], (su σ 43 0 v1))) rfl ?_
  replace h := zlet_of h
  generalize su σ 43 0 v1 = σ2 at h ⊢
  refine zGo.sts 4 (cf' := (16, [some (.ref 43), some (.ref 1)], [], (su σ2 43 1 (σ2 1 1)))) rfl ?_
  replace h := zlet_of h
  generalize su σ2 43 1 (σ2 1 1) = σ3 at h ⊢
  refine zGo.sts 4 (cf' := (24, [some (.ref 43), some (.ref 1)], [], (su σ3 43 2 (σ3 1 2)))) rfl ?_
  replace h := zlet_of h
  generalize su σ3 43 2 (σ3 1 2) = σ4 at h ⊢
  refine zGo.sts 7 (cf' := (36, [some (.ref 43), some (.ref 1)], [.int 9, .int 0, .ref 44, .int 0, .ref 2], σ4)) rfl ?_
  obtain ⟨σ5, hv, h⟩ := zbd h
  refine zG_cp rfl rfl hv ?_
  obtain rfl := Option.some.inj h
  exact zGo.ret rfl rfl
def Fcg_fillAround_c31 (c9 : Int32 → zSt → Option (zSt)) : Nat → Int32 → Int32 → Int32 → zSt → Option (zSt)
  | 0, _, _, _, _ => none
  | n + 1, l1, l2, l3, σ => if l2 ≤ l3 then (c9 (l1 + 1) σ) else ((zld σ 44 l1).bind fun v4 => (zld σ 45 l3).bind fun v5 => (zst σ 45 (l2 + l3) (v4 ||| v5)).bind fun σ6 => Fcg_fillAround_c31 c9 n l1 l2 (l3 + 1) σ6)
theorem Fcg_fillAround_g31 {c9 : Int32 → zSt → Option (zSt)} (hc9 : ∀ {d2 : Option Value} {d3 : Option Value} {l1 : Int32} {σ : zSt} {r : zSt}, c9 l1 σ = some r → zGo zPT zmlc zP_64 (9, [some (.ref 43), some (.int l1), d2, d3], [], σ) (none, r)) : ∀ (n : Nat) {l1 : Int32} {l2 : Int32} {l3 : Int32} {σ : zSt} {r : zSt}, Fcg_fillAround_c31 c9 n l1 l2 l3 σ = some r → zGo zPT zmlc zP_64 (31, [some (.ref 43), some (.int l1), some (.int l2), some (.int l3)], [], σ) (none, r) := by
  intro n
  induction n with
  | zero => intro l1 l2 l3 σ r h; cases h
  | succ n ih =>
    intro l1 l2 l3 σ r h
    rw [Fcg_fillAround_c31] at h
    refine zGo.sts 2 (cf' := (33, [some (.ref 43), some (.int l1), some (.int l2), some (.int l3)], [.int l2, .int l3], σ)) rfl ?_
    by_cases hb7 : l2 ≤ l3
    · replace h := zif_t hb7 h
      refine zC_ge_t rfl hb7 ?_
      refine zGo.sts 2 (cf' := (9, [some (.ref 43), some (.int (l1 + 1)), some (.int l2), some (.int l3)], [], σ)) rfl ?_
      exact hc9 h
    · replace h := zif_f hb7 h
      refine zC_ge_f rfl hb7 ?_
      refine zGo.sts 8 (cf' := (48, [some (.ref 43), some (.int l1), some (.int l2), some (.int l3)], [.int l1, .ref 44, .int (l2 + l3), .ref 45], σ)) rfl ?_
      obtain ⟨v4, hv, h⟩ := zbd h
      refine zG_ld rfl hv ?_
      refine zGo.sts 3 (cf' := (54, [some (.ref 43), some (.int l1), some (.int l2), some (.int l3)], [.int l3, .ref 45, .int v4, .int (l2 + l3), .ref 45], σ)) rfl ?_
      obtain ⟨v5, hv, h⟩ := zbd h
      refine zG_ld rfl hv ?_
      refine zGo.sts 1 (cf' := (56, [some (.ref 43), some (.int l1), some (.int l2), some (.int l3)], [.int (v4 ||| v5), .int (l2 + l3), .ref 45], σ)) rfl ?_
      obtain ⟨σ6, hv, h⟩ := zbd h
      refine zG_st rfl hv ?_
      refine zGo.sts 2 (cf' := (31, [some (.ref 43), some (.int l1), some (.int l2), some (.int (l3 + 1))], [], σ6)) rfl ?_
      exact ih h
def Fcg_fillAround_c9 : Nat → Int32 → zSt → Option (zSt)
  | 0, _, _ => none
  | n + 1, l1, σ => if 9 ≤ l1 then (some σ) else (if (σ 43 0) < (1 <<< (l1 &&& 31)) then (some σ) else (Fcg_fillAround_c31 (Fcg_fillAround_c9 n) zF l1 (1 <<< (l1 &&& 31)) 0 σ))
theorem Fcg_fillAround_g9 : ∀ (n : Nat) {d2 : Option Value} {d3 : Option Value} {l1 : Int32} {σ : zSt} {r : zSt}, Fcg_fillAround_c9 n l1 σ = some r → zGo zPT zmlc zP_64 (9, [some (.ref 43), some (.int l1), d2, d3], [], σ) (none, r) := by
  intro n
  induction n with
  | zero => intro d2 d3 l1 σ r h; cases h
  | succ n ih =>
    intro d2 d3 l1 σ r h
    rw [Fcg_fillAround_c9] at h
    refine zGo.sts 2 (cf' := (12, [some (.ref 43), some (.int l1), d2, d3], [.int 9, .int l1], σ)) rfl ?_
    by_cases hb3 : 9 ≤ l1
    · replace h := zif_t hb3 h
      refine zC_ge_t rfl hb3 ?_
      obtain rfl := Option.some.inj h
      exact zGo.ret rfl rfl
    · replace h := zif_f hb3 h
      refine zC_ge_f rfl hb3 ?_
      refine zGo.sts 5 (cf' := (22, [some (.ref 43), some (.int l1), d2, d3], [.int (σ 43 0), .int (1 <<< (l1 &&& 31))], σ)) rfl ?_
      by_cases hb2 : (σ 43 0) < (1 <<< (l1 &&& 31))
      · replace h := zif_t hb2 h
        refine zC_gt_t rfl hb2 ?_
        obtain rfl := Option.some.inj h
        exact zGo.ret rfl rfl
      · replace h := zif_f hb2 h
        refine zC_gt_f rfl hb2 ?_
        refine zGo.sts 6 (cf' := (31, [some (.ref 43), some (.int l1), some (.int (1 <<< (l1 &&& 31))), some (.int 0)], [], σ)) rfl ?_
        exact Fcg_fillAround_g31 ih zF h
def Fcg_fillAround (σ : zSt) : Option (zSt) := (zst σ 45 0 0).bind fun σ1 => Fcg_fillAround_c9 zF 0 σ1
theorem Fcg_fillAround_g {σ : zSt} {r : zSt} (h : Fcg_fillAround σ = some r) : zGo zPT zmlc (zPT 64) (0, zent (zmlc 64) [.ref 43], [], σ) (none, r) := by
  unfold Fcg_fillAround at h
  show zGo zPT zmlc zP_64 (0, [some (.ref 43), none, none, none], [], σ) _
  refine zGo.sts 4 (cf' := (6, [some (.ref 43), none, none, none], [.int 0, .int 0, .ref 45], σ)) rfl ?_
  obtain ⟨σ1, hv, h⟩ := zbd h
  refine zG_st rfl hv ?_
  refine zGo.sts 2 (cf' := (9, [some (.ref 43), some (.int 0), none, none], [], σ1)) rfl ?_
  exact Fcg_fillAround_g9 zF h
def Fcg_take (σ : zSt) : Option (zSt) := (Fcg_copy σ).bind fun σ1 => (Fcg_fillAround σ1).bind fun σ2 => some σ2
theorem Fcg_take_g {σ : zSt} {r : zSt} (h : Fcg_take σ = some r) : zGo zPT zmlc (zPT 60) (0, zent (zmlc 60) [.ref 43, .ref 1], [], σ) (none, r) := by
  unfold Fcg_take at h
  show zGo zPT zmlc zP_60 (0, [some (.ref 43), some (.ref 1)], [], σ) _
  refine zGo.sts 2 (cf' := (2, [some (.ref 43), some (.ref 1)], [.ref 1, .ref 43], σ)) rfl ?_
  obtain ⟨σ1, hv, h⟩ := zbd h
  refine zGo.call rfl rfl (Fcg_copy_g hv) ?_
  refine zGo.sts 1 (cf' := (6, [some (.ref 43), some (.ref 1)], [.ref 43], σ1)) rfl ?_
  obtain ⟨σ2, hv, h⟩ := zbd h
  refine zGo.call rfl rfl (Fcg_fillAround_g hv) ?_
  obtain rfl := Option.some.inj h
  exact zGo.ret rfl rfl
def Fcg_forcedBy_c5 (σ : zSt) : Nat → Int32 → Int32 → Int32 → Int32 → Option (Int32)
  | 0, _, _, _, _ => none
  | n + 1, l1, l2, l3, l4 => if 9 ≤ l4 then (some l3) else ((zld σ 44 l4).bind fun v1 => if ¬ ((l1 >>> (l4 &&& 31)) &&& 1) = 1 then (Fcg_forcedBy_c5 σ n l1 l2 l3 (l4 + 1)) else (if ¬ ((v1 &&& l2) &&& ((v1 &&& l2) - 1)) = 0 then (Fcg_forcedBy_c5 σ n l1 l2 l3 (l4 + 1)) else (Fcg_forcedBy_c5 σ n l1 l2 (l3 ||| (v1 &&& l2)) (l4 + 1))))
theorem Fcg_forcedBy_g5 {σ : zSt} : ∀ (n : Nat) {d5 : Option Value} {l1 : Int32} {l2 : Int32} {l3 : Int32} {l4 : Int32} {r : Int32}, Fcg_forcedBy_c5 σ n l1 l2 l3 l4 = some r → zGo zPT zmlc zP_66 (5, [some (.ref 43), some (.int l1), some (.int l2), some (.int l3), some (.int l4), d5], [], σ) (some (.int r), σ) := by
  intro n
  induction n with
  | zero => intro d5 l1 l2 l3 l4 r h; cases h
  | succ n ih =>
    intro d5 l1 l2 l3 l4 r h
    rw [Fcg_forcedBy_c5] at h
    refine zGo.sts 2 (cf' := (9, [some (.ref 43), some (.int l1), some (.int l2), some (.int l3), some (.int l4), d5], [.int 9, .int l4], σ)) rfl ?_
    by_cases hb4 : 9 ≤ l4
    · replace h := zif_t hb4 h
      refine zC_ge_t rfl hb4 ?_
      refine zGo.sts 1 (cf' := (55, [some (.ref 43), some (.int l1), some (.int l2), some (.int l3), some (.int l4), d5], [.int l3], σ)) rfl ?_
      obtain rfl := Option.some.inj h
      exact zGo.ret rfl rfl
    · replace h := zif_f hb4 h
      refine zC_ge_f rfl hb4 ?_
      refine zGo.sts 3 (cf' := (18, [some (.ref 43), some (.int l1), some (.int l2), some (.int l3), some (.int l4), d5], [.int l4, .ref 44], σ)) rfl ?_
      obtain ⟨v1, hv, h⟩ := zbd h
      refine zG_ld rfl hv ?_
      refine zGo.sts 9 (cf' := (30, [some (.ref 43), some (.int l1), some (.int l2), some (.int l3), some (.int l4), some (.int (v1 &&& l2))], [.int 1, .int ((l1 >>> (l4 &&& 31)) &&& 1)], σ)) rfl ?_
      by_cases hb3 : ¬ ((l1 >>> (l4 &&& 31)) &&& 1) = 1
      · replace h := zif_t hb3 h
        refine zC_ne_t rfl hb3 ?_
        refine zGo.sts 2 (cf' := (5, [some (.ref 43), some (.int l1), some (.int l2), some (.int l3), some (.int (l4 + 1)), some (.int (v1 &&& l2))], [], σ)) rfl ?_
        exact ih h
      · replace h := zif_f hb3 h
        refine zC_ne_f rfl hb3 ?_
        refine zGo.sts 5 (cf' := (40, [some (.ref 43), some (.int l1), some (.int l2), some (.int l3), some (.int l4), some (.int (v1 &&& l2))], [.int ((v1 &&& l2) &&& ((v1 &&& l2) - 1))], σ)) rfl ?_
        by_cases hb2 : ¬ ((v1 &&& l2) &&& ((v1 &&& l2) - 1)) = 0
        · replace h := zif_t hb2 h
          refine zI_ne_t rfl hb2 ?_
          refine zGo.sts 2 (cf' := (5, [some (.ref 43), some (.int l1), some (.int l2), some (.int l3), some (.int (l4 + 1)), some (.int (v1 &&& l2))], [], σ)) rfl ?_
          exact ih h
        · replace h := zif_f hb2 h
          refine zI_ne_f rfl hb2 ?_
          refine zGo.sts 6 (cf' := (5, [some (.ref 43), some (.int l1), some (.int l2), some (.int (l3 ||| (v1 &&& l2))), some (.int (l4 + 1)), some (.int (v1 &&& l2))], [], σ)) rfl ?_
          exact ih h
def Fcg_forcedBy (l1 : Int32) (l2 : Int32) (σ : zSt) : Option (Int32) := Fcg_forcedBy_c5 σ zF l1 l2 0 0
theorem Fcg_forcedBy_g {l1 : Int32} {l2 : Int32} {σ : zSt} {r : Int32} (h : Fcg_forcedBy l1 l2 σ = some r) : zGo zPT zmlc (zPT 66) (0, zent (zmlc 66) [.ref 43, .int l1, .int l2], [], σ) (some (.int r), σ) := by
  unfold Fcg_forcedBy at h
  show zGo zPT zmlc zP_66 (0, [some (.ref 43), some (.int l1), some (.int l2), none, none, none], [], σ) _
  refine zGo.sts 4 (cf' := (5, [some (.ref 43), some (.int l1), some (.int l2), some (.int 0), some (.int 0), none], [], σ)) rfl ?_
  exact Fcg_forcedBy_g5 zF h
def Fcg_partOf_c5 (σ : zSt) : Nat → Int32 → Int32 → Int32 → Option (Int32)
  | 0, _, _, _ => none
  | n + 1, l2, l3, l4 => if 9 ≤ l4 then (some l3) else ((zld σ 45 l3).bind fun v1 => if ¬ (l3 ||| (v1 &&& l2)) = l3 then (Fcg_partOf_c5 σ n l2 (l3 ||| (v1 &&& l2)) (l4 + 1)) else (some l3))
theorem Fcg_partOf_g5 {σ : zSt} : ∀ (n : Nat) {d1 : Option Value} {d5 : Option Value} {l2 : Int32} {l3 : Int32} {l4 : Int32} {r : Int32}, Fcg_partOf_c5 σ n l2 l3 l4 = some r → zGo zPT zmlc zP_68 (5, [some (.ref 43), d1, some (.int l2), some (.int l3), some (.int l4), d5], [], σ) (some (.int r), σ) := by
  intro n
  induction n with
  | zero => intro d1 d5 l2 l3 l4 r h; cases h
  | succ n ih =>
    intro d1 d5 l2 l3 l4 r h
    rw [Fcg_partOf_c5] at h
    refine zGo.sts 2 (cf' := (9, [some (.ref 43), d1, some (.int l2), some (.int l3), some (.int l4), d5], [.int 9, .int l4], σ)) rfl ?_
    by_cases hb3 : 9 ≤ l4
    · replace h := zif_t hb3 h
      refine zC_ge_t rfl hb3 ?_
      refine zGo.sts 1 (cf' := (42, [some (.ref 43), d1, some (.int l2), some (.int l3), some (.int l4), d5], [.int l3], σ)) rfl ?_
      obtain rfl := Option.some.inj h
      exact zGo.ret rfl rfl
    · replace h := zif_f hb3 h
      refine zC_ge_f rfl hb3 ?_
      refine zGo.sts 4 (cf' := (18, [some (.ref 43), d1, some (.int l2), some (.int l3), some (.int l4), d5], [.int l3, .ref 45, .int l3], σ)) rfl ?_
      obtain ⟨v1, hv, h⟩ := zbd h
      refine zG_ld rfl hv ?_
      refine zGo.sts 6 (cf' := (27, [some (.ref 43), d1, some (.int l2), some (.int l3), some (.int l4), some (.int (l3 ||| (v1 &&& l2)))], [.int l3, .int (l3 ||| (v1 &&& l2))], σ)) rfl ?_
      by_cases hb2 : ¬ (l3 ||| (v1 &&& l2)) = l3
      · replace h := zif_t hb2 h
        refine zC_ne_t rfl hb2 ?_
        refine zGo.sts 4 (cf' := (5, [some (.ref 43), d1, some (.int l2), some (.int (l3 ||| (v1 &&& l2))), some (.int (l4 + 1)), some (.int (l3 ||| (v1 &&& l2)))], [], σ)) rfl ?_
        exact ih h
      · replace h := zif_f hb2 h
        refine zC_ne_f rfl hb2 ?_
        refine zGo.sts 1 (cf' := (31, [some (.ref 43), d1, some (.int l2), some (.int l3), some (.int l4), some (.int (l3 ||| (v1 &&& l2)))], [.int l3], σ)) rfl ?_
        obtain rfl := Option.some.inj h
        exact zGo.ret rfl rfl
def Fcg_partOf (l1 : Int32) (l2 : Int32) (σ : zSt) : Option (Int32) := Fcg_partOf_c5 σ zF l2 l1 0
theorem Fcg_partOf_g {l1 : Int32} {l2 : Int32} {σ : zSt} {r : Int32} (h : Fcg_partOf l1 l2 σ = some r) : zGo zPT zmlc (zPT 68) (0, zent (zmlc 68) [.ref 43, .int l1, .int l2], [], σ) (some (.int r), σ) := by
  unfold Fcg_partOf at h
  show zGo zPT zmlc zP_68 (0, [some (.ref 43), some (.int l1), some (.int l2), none, none, none], [], σ) _
  refine zGo.sts 4 (cf' := (5, [some (.ref 43), some (.int l1), some (.int l2), some (.int l1), some (.int 0), none], [], σ)) rfl ?_
  exact Fcg_partOf_g5 zF h
def Fcg_forcedInParts_c17 (σ : zSt) : Nat → Int32 → Int32 → Int32 → Int32 → Int32 → Option (Int32)
  | 0, _, _, _, _, _ => none
  | n + 1, l1, l2, l3, l4, l5 => if 9 ≤ l5 then (some l4) else (if l3 = 0 then (some l4) else ((Fcg_partOf (l3 &&& (-l3)) l2 σ).bind fun v2 => (Fcg_forcedBy l1 v2 σ).bind fun v3 => Fcg_forcedInParts_c17 σ n l1 l2 (l3 &&& (v2 ^^^ (-1))) (l4 ||| v3) (l5 + 1)))
theorem Fcg_forcedInParts_g17 {σ : zSt} : ∀ (n : Nat) {d6 : Option Value} {l1 : Int32} {l2 : Int32} {l3 : Int32} {l4 : Int32} {l5 : Int32} {r : Int32}, Fcg_forcedInParts_c17 σ n l1 l2 l3 l4 l5 = some r → zGo zPT zmlc zP_67 (17, [some (.ref 43), some (.int l1), some (.int l2), some (.int l3), some (.int l4), some (.int l5), d6], [], σ) (some (.int r), σ) := by
  intro n
  induction n with
  | zero => intro d6 l1 l2 l3 l4 l5 r h; cases h
  | succ n ih =>
    intro d6 l1 l2 l3 l4 l5 r h
    rw [Fcg_forcedInParts_c17] at h
    refine zGo.sts 2 (cf' := (21, [some (.ref 43), some (.int l1), some (.int l2), some (.int l3), some (.int l4), some (.int l5), d6], [.int 9, .int l5], σ)) rfl ?_
    by_cases hb5 : 9 ≤ l5
    · replace h := zif_t hb5 h
      refine zC_ge_t rfl hb5 ?_
      refine zGo.sts 1 (cf' := (66, [some (.ref 43), some (.int l1), some (.int l2), some (.int l3), some (.int l4), some (.int l5), d6], [.int l4], σ)) rfl ?_
      obtain rfl := Option.some.inj h
      exact zGo.ret rfl rfl
    · replace h := zif_f hb5 h
      refine zC_ge_f rfl hb5 ?_
      refine zGo.sts 1 (cf' := (25, [some (.ref 43), some (.int l1), some (.int l2), some (.int l3), some (.int l4), some (.int l5), d6], [.int l3], σ)) rfl ?_
      by_cases hb4 : l3 = 0
      · replace h := zif_t hb4 h
        refine zI_eq_t rfl hb4 ?_
        refine zGo.sts 1 (cf' := (66, [some (.ref 43), some (.int l1), some (.int l2), some (.int l3), some (.int l4), some (.int l5), d6], [.int l4], σ)) rfl ?_
        obtain rfl := Option.some.inj h
        exact zGo.ret rfl rfl
      · replace h := zif_f hb4 h
        refine zI_eq_f rfl hb4 ?_
        refine zGo.sts 6 (cf' := (34, [some (.ref 43), some (.int l1), some (.int l2), some (.int l3), some (.int l4), some (.int l5), d6], [.int l2, .int (l3 &&& (-l3)), .ref 43], σ)) rfl ?_
        obtain ⟨v2, hv, h⟩ := zbd h
        refine zGo.call rfl rfl (Fcg_partOf_g hv) ?_
        refine zGo.sts 5 (cf' := (45, [some (.ref 43), some (.int l1), some (.int l2), some (.int l3), some (.int l4), some (.int l5), some (.int v2)], [.int v2, .int l1, .ref 43, .int l4], σ)) rfl ?_
        obtain ⟨v3, hv, h⟩ := zbd h
        refine zGo.call rfl rfl (Fcg_forcedBy_g hv) ?_
        refine zGo.sts 10 (cf' := (17, [some (.ref 43), some (.int l1), some (.int l2), some (.int (l3 &&& (v2 ^^^ (-1)))), some (.int (l4 ||| v3)), some (.int (l5 + 1)), some (.int v2)], [], σ)) rfl ?_
        exact ih h
def Fcg_forcedInParts (l1 : Int32) (σ : zSt) : Option (Int32) := zlet ((σ 43 0) &&& (l1 ^^^ (-1))) fun v1 => Fcg_forcedInParts_c17 σ zF l1 v1 v1 0 0
theorem Fcg_forcedInParts_g {l1 : Int32} {σ : zSt} {r : Int32} (h : Fcg_forcedInParts l1 σ = some r) : zGo zPT zmlc (zPT 67) (0, zent (zmlc 67) [.ref 43, .int l1], [], σ) (some (.int r), σ) := by
  unfold Fcg_forcedInParts at h
  show zGo zPT zmlc zP_67 (0, [some (.ref 43), some (.int l1), none, none, none, none, none], [], σ) _
  refine zGo.sts 7 (cf' := (9, [some (.ref 43), some (.int l1), some (.int ((σ 43 0) &&& (l1 ^^^ (-1)))), none, none, none, none], [], σ)) rfl ?_
  replace h := zlet_of h
  generalize (σ 43 0) &&& (l1 ^^^ (-1)) = v1 at h ⊢
  refine zGo.sts 6 (cf' := (17, [some (.ref 43), some (.int l1), some (.int v1), some (.int v1), some (.int 0), some (.int 0), none], [], σ)) rfl ?_
  exact Fcg_forcedInParts_g17 zF h
def Fcg_forcedByMany_c4 (σ : zSt) : Nat → Int32 → Int32 → Int32 → Option (Int32)
  | 0, _, _, _ => none
  | n + 1, l1, l2, l3 => if 9 ≤ l3 then (some l2) else ((zld σ 44 l3).bind fun v1 => if ¬ ((l1 >>> (l3 &&& 31)) &&& 1) = 1 then (Fcg_forcedByMany_c4 σ n l1 l2 (l3 + 1)) else ((Jdk_bitCount (v1 &&& (l1 ^^^ (-1))) σ).bind fun v2 => if (σ 43 2) < v2 then (Fcg_forcedByMany_c4 σ n l1 l2 (l3 + 1)) else (zlet (l2 ||| (v1 &&& (l1 ^^^ (-1)))) fun v3 => Fcg_forcedByMany_c4 σ n l1 v3 (l3 + 1))))
theorem Fcg_forcedByMany_g4 {σ : zSt} : ∀ (n : Nat) {d4 : Option Value} {l1 : Int32} {l2 : Int32} {l3 : Int32} {r : Int32}, Fcg_forcedByMany_c4 σ n l1 l2 l3 = some r → zGo zPT zmlc zP_69 (4, [some (.ref 43), some (.int l1), some (.int l2), some (.int l3), d4], [], σ) (some (.int r), σ) := by
  intro n
  induction n with
  | zero => intro d4 l1 l2 l3 r h; cases h
  | succ n ih =>
    intro d4 l1 l2 l3 r h
    rw [Fcg_forcedByMany_c4] at h
    refine zGo.sts 2 (cf' := (7, [some (.ref 43), some (.int l1), some (.int l2), some (.int l3), d4], [.int 9, .int l3], σ)) rfl ?_
    by_cases hb6 : 9 ≤ l3
    · replace h := zif_t hb6 h
      refine zC_ge_t rfl hb6 ?_
      refine zGo.sts 1 (cf' := (55, [some (.ref 43), some (.int l1), some (.int l2), some (.int l3), d4], [.int l2], σ)) rfl ?_
      obtain rfl := Option.some.inj h
      exact zGo.ret rfl rfl
    · replace h := zif_f hb6 h
      refine zC_ge_f rfl hb6 ?_
      refine zGo.sts 3 (cf' := (15, [some (.ref 43), some (.int l1), some (.int l2), some (.int l3), d4], [.int l3, .ref 44], σ)) rfl ?_
      obtain ⟨v1, hv, h⟩ := zbd h
      refine zG_ld rfl hv ?_
      refine zGo.sts 11 (cf' := (28, [some (.ref 43), some (.int l1), some (.int l2), some (.int l3), some (.int (v1 &&& (l1 ^^^ (-1))))], [.int 1, .int ((l1 >>> (l3 &&& 31)) &&& 1)], σ)) rfl ?_
      by_cases hb5 : ¬ ((l1 >>> (l3 &&& 31)) &&& 1) = 1
      · replace h := zif_t hb5 h
        refine zC_ne_t rfl hb5 ?_
        refine zGo.sts 2 (cf' := (4, [some (.ref 43), some (.int l1), some (.int l2), some (.int (l3 + 1)), some (.int (v1 &&& (l1 ^^^ (-1))))], [], σ)) rfl ?_
        exact ih h
      · replace h := zif_f hb5 h
        refine zC_ne_f rfl hb5 ?_
        refine zGo.sts 1 (cf' := (33, [some (.ref 43), some (.int l1), some (.int l2), some (.int l3), some (.int (v1 &&& (l1 ^^^ (-1))))], [.int (v1 &&& (l1 ^^^ (-1)))], σ)) rfl ?_
        obtain ⟨v2, hv, h⟩ := zbd h
        refine zGo.call rfl rfl (Jdk_bitCount_g hv) ?_
        refine zGo.sts 2 (cf' := (40, [some (.ref 43), some (.int l1), some (.int l2), some (.int l3), some (.int (v1 &&& (l1 ^^^ (-1))))], [.int (σ 43 2), .int v2], σ)) rfl ?_
        by_cases hb4 : (σ 43 2) < v2
        · replace h := zif_t hb4 h
          refine zC_gt_t rfl hb4 ?_
          refine zGo.sts 2 (cf' := (4, [some (.ref 43), some (.int l1), some (.int l2), some (.int (l3 + 1)), some (.int (v1 &&& (l1 ^^^ (-1))))], [], σ)) rfl ?_
          exact ih h
        · replace h := zif_f hb4 h
          refine zC_gt_f rfl hb4 ?_
          refine zGo.sts 4 (cf' := (48, [some (.ref 43), some (.int l1), some (.int (l2 ||| (v1 &&& (l1 ^^^ (-1))))), some (.int l3), some (.int (v1 &&& (l1 ^^^ (-1))))], [], σ)) rfl ?_
          replace h := zlet_of h
          generalize l2 ||| (v1 &&& (l1 ^^^ (-1))) = v3 at h ⊢
          refine zGo.sts 2 (cf' := (4, [some (.ref 43), some (.int l1), some (.int v3), some (.int (l3 + 1)), some (.int (v1 &&& (l1 ^^^ (-1))))], [], σ)) rfl ?_
          exact ih h
def Fcg_forcedByMany (l1 : Int32) (σ : zSt) : Option (Int32) := Fcg_forcedByMany_c4 σ zF l1 0 0
theorem Fcg_forcedByMany_g {l1 : Int32} {σ : zSt} {r : Int32} (h : Fcg_forcedByMany l1 σ = some r) : zGo zPT zmlc (zPT 69) (0, zent (zmlc 69) [.ref 43, .int l1], [], σ) (some (.int r), σ) := by
  unfold Fcg_forcedByMany at h
  show zGo zPT zmlc zP_69 (0, [some (.ref 43), some (.int l1), none, none, none], [], σ) _
  refine zGo.sts 4 (cf' := (4, [some (.ref 43), some (.int l1), some (.int 0), some (.int 0), none], [], σ)) rfl ?_
  exact Fcg_forcedByMany_g4 zF h
def Fcg_next (l1 : Int32) (l2 : Int32) (σ : zSt) : Option (Int32) := if (σ 43 1) = 1 then ((Fcg_forcedBy (σ 43 0) ((σ 43 0) &&& (l1 ^^^ (-1))) σ).bind fun v2 => some (l1 ||| v2)) else (if (σ 43 1) = 2 then ((Fcg_forcedInParts l1 σ).bind fun v4 => some (l1 ||| v4)) else (if (σ 43 1) = 3 then (if l2 = 0 then ((Fcg_forcedBy l1 ((σ 43 0) &&& (l1 ^^^ (-1))) σ).bind fun v6 => some (l1 ||| v6)) else ((zld σ 45 l1).bind fun v7 => some (l1 ||| v7))) else (if (σ 43 1) = 4 then ((Fcg_forcedByMany l1 σ).bind fun v10 => some (l1 ||| v10)) else ((Fcg_forcedBy l1 ((σ 43 0) &&& (l1 ^^^ (-1))) σ).bind fun v11 => some (l1 ||| v11)))))
theorem Fcg_next_g {l1 : Int32} {l2 : Int32} {σ : zSt} {r : Int32} (h : Fcg_next l1 l2 σ = some r) : zGo zPT zmlc (zPT 65) (0, zent (zmlc 65) [.ref 43, .int l1, .int l2], [], σ) (some (.int r), σ) := by
  unfold Fcg_next at h
  show zGo zPT zmlc zP_65 (0, [some (.ref 43), some (.int l1), some (.int l2)], [], σ) _
  refine zGo.sts 2 (cf' := (4, [some (.ref 43), some (.int l1), some (.int l2)], [.int (σ 43 1)], σ)) rfl ?_
  by_cases hb1 : (σ 43 1) = 1
  · replace h := zif_t hb1 h
    refine zG_sw rfl (zsw_t hb1) ?_
    refine zGo.sts 10 (cf' := (50, [some (.ref 43), some (.int l1), some (.int l2)], [.int ((σ 43 0) &&& (l1 ^^^ (-1))), .int (σ 43 0), .ref 43, .int l1], σ)) rfl ?_
    obtain ⟨v2, hv, h⟩ := zbd h
    refine zGo.call rfl rfl (Fcg_forcedBy_g hv) ?_
    refine zGo.sts 1 (cf' := (54, [some (.ref 43), some (.int l1), some (.int l2)], [.int (l1 ||| v2)], σ)) rfl ?_
    obtain rfl := Option.some.inj h
    exact zGo.ret rfl rfl
  · replace h := zif_f hb1 h
    by_cases hb3 : (σ 43 1) = 2
    · replace h := zif_t hb3 h
      refine zG_sw rfl ((zsw_f hb1).trans (zsw_t hb3)) ?_
      refine zGo.sts 3 (cf' := (58, [some (.ref 43), some (.int l1), some (.int l2)], [.int l1, .ref 43, .int l1], σ)) rfl ?_
      obtain ⟨v4, hv, h⟩ := zbd h
      refine zGo.call rfl rfl (Fcg_forcedInParts_g hv) ?_
      refine zGo.sts 1 (cf' := (62, [some (.ref 43), some (.int l1), some (.int l2)], [.int (l1 ||| v4)], σ)) rfl ?_
      obtain rfl := Option.some.inj h
      exact zGo.ret rfl rfl
    · replace h := zif_f hb3 h
      by_cases hb5 : (σ 43 1) = 3
      · replace h := zif_t hb5 h
        refine zG_sw rfl ((zsw_f hb1).trans ((zsw_f hb3).trans (zsw_t hb5))) ?_
        refine zGo.sts 2 (cf' := (65, [some (.ref 43), some (.int l1), some (.int l2)], [.int l2, .int l1], σ)) rfl ?_
        by_cases hb8 : l2 = 0
        · replace h := zif_t hb8 h
          refine zI_eq_t rfl hb8 ?_
          refine zGo.sts 8 (cf' := (87, [some (.ref 43), some (.int l1), some (.int l2)], [.int ((σ 43 0) &&& (l1 ^^^ (-1))), .int l1, .ref 43, .int l1], σ)) rfl ?_
          obtain ⟨v6, hv, h⟩ := zbd h
          refine zGo.call rfl rfl (Fcg_forcedBy_g hv) ?_
          refine zGo.sts 1 (cf' := (91, [some (.ref 43), some (.int l1), some (.int l2)], [.int (l1 ||| v6)], σ)) rfl ?_
          obtain rfl := Option.some.inj h
          exact zGo.ret rfl rfl
        · replace h := zif_f hb8 h
          refine zI_eq_f rfl hb8 ?_
          refine zGo.sts 3 (cf' := (73, [some (.ref 43), some (.int l1), some (.int l2)], [.int l1, .ref 45, .int l1], σ)) rfl ?_
          obtain ⟨v7, hv, h⟩ := zbd h
          refine zG_ld rfl hv ?_
          refine zGo.sts 2 (cf' := (91, [some (.ref 43), some (.int l1), some (.int l2)], [.int (l1 ||| v7)], σ)) rfl ?_
          obtain rfl := Option.some.inj h
          exact zGo.ret rfl rfl
      · replace h := zif_f hb5 h
        by_cases hb9 : (σ 43 1) = 4
        · replace h := zif_t hb9 h
          refine zG_sw rfl ((zsw_f hb1).trans ((zsw_f hb3).trans ((zsw_f hb5).trans (zsw_t hb9)))) ?_
          refine zGo.sts 3 (cf' := (95, [some (.ref 43), some (.int l1), some (.int l2)], [.int l1, .ref 43, .int l1], σ)) rfl ?_
          obtain ⟨v10, hv, h⟩ := zbd h
          refine zGo.call rfl rfl (Fcg_forcedByMany_g hv) ?_
          refine zGo.sts 1 (cf' := (99, [some (.ref 43), some (.int l1), some (.int l2)], [.int (l1 ||| v10)], σ)) rfl ?_
          obtain rfl := Option.some.inj h
          exact zGo.ret rfl rfl
        · replace h := zif_f hb9 h
          refine zG_sw rfl ((zsw_f hb1).trans ((zsw_f hb3).trans ((zsw_f hb5).trans ((zsw_f hb9).trans rfl)))) ?_
          refine zGo.sts 9 (cf' := (111, [some (.ref 43), some (.int l1), some (.int l2)], [.int ((σ 43 0) &&& (l1 ^^^ (-1))), .int l1, .ref 43, .int l1], σ)) rfl ?_
          obtain ⟨v11, hv, h⟩ := zbd h
          refine zGo.call rfl rfl (Fcg_forcedBy_g hv) ?_
          refine zGo.sts 1 (cf' := (115, [some (.ref 43), some (.int l1), some (.int l2)], [.int (l1 ||| v11)], σ)) rfl ?_
          obtain rfl := Option.some.inj h
          exact zGo.ret rfl rfl
def X_round (l1 : Int32) (σ : zSt) : Option (Int32 × zSt) := (Net_hasSet l1 σ).bind fun v1 => if ¬ v1 = 0 then ((Fcg_take σ).bind fun σ2 => (Fcg_next l1 1 σ2).bind fun v3 => some (v3, σ2)) else (some ((-1), σ))
theorem X_round_g {l1 : Int32} {σ : zSt} {r : Int32 × zSt} (h : X_round l1 σ = some r) : zGo zPT zmlc (zPT 96) (0, zent (zmlc 96) [.ref 0, .int l1], [], σ) (some (.int r.1), r.2) := by
  unfold X_round at h
  show zGo zPT zmlc zP_96 (0, [some (.ref 0), some (.int l1)], [], σ) _
  refine zGo.sts 3 (cf' := (5, [some (.ref 0), some (.int l1)], [.int l1, .ref 1], σ)) rfl ?_
  obtain ⟨v1, hv, h⟩ := zbd h
  refine zGo.call rfl rfl (Net_hasSet_g hv) ?_
  by_cases hb4 : ¬ v1 = 0
  · replace h := zif_t hb4 h
    refine zI_ne_t rfl hb4 ?_
    refine zGo.sts 4 (cf' := (21, [some (.ref 0), some (.int l1)], [.ref 1, .ref 43], σ)) rfl ?_
    obtain ⟨σ2, hv, h⟩ := zbd h
    refine zGo.call rfl rfl (Fcg_take_g hv) ?_
    refine zGo.sts 4 (cf' := (30, [some (.ref 0), some (.int l1)], [.int 1, .int l1, .ref 43], σ2)) rfl ?_
    obtain ⟨v3, hv, h⟩ := zbd h
    refine zGo.call rfl rfl (Fcg_next_g hv) ?_
    obtain rfl := Option.some.inj h
    exact zGo.ret rfl rfl
  · replace h := zif_f hb4 h
    refine zI_ne_f rfl hb4 ?_
    refine zGo.sts 1 (cf' := (12, [some (.ref 0), some (.int l1)], [.int (-1)], σ)) rfl ?_
    obtain rfl := Option.some.inj h
    exact zGo.ret rfl rfl
def Fcg_lastOf_c21 (σ : zSt) (c4 : Int32 → Int32 → Option (Int32)) (l2 : Int32) (l3 : Int32) (t0 : Int32) (t1 : Int32) : Option (Int32) := (Fcg_next t1 t0 σ).bind fun v3 => if ¬ v3 = l2 then (c4 v3 (l3 + 1)) else (some l2)
theorem Fcg_lastOf_g21 {σ : zSt} {c4 : Int32 → Int32 → Option (Int32)} (hc4 : ∀ {d1 : Option Value} {d4 : Option Value} {l2 : Int32} {l3 : Int32} {r : Int32}, c4 l2 l3 = some r → zGo zPT zmlc zP_70 (4, [some (.ref 43), d1, some (.int l2), some (.int l3), d4], [], σ) (some (.int r), σ)) {d1 : Option Value} {d4 : Option Value} {l2 : Int32} {l3 : Int32} {t0 : Int32} {t1 : Int32} {r : Int32} (h : Fcg_lastOf_c21 σ c4 l2 l3 t0 t1 = some r) : zGo zPT zmlc zP_70 (21, [some (.ref 43), d1, some (.int l2), some (.int l3), d4], [.int t0, .int t1, .ref 43], σ) (some (.int r), σ) := by
  unfold Fcg_lastOf_c21 at h
  obtain ⟨v3, hv, h⟩ := zbd h
  refine zGo.call rfl rfl (Fcg_next_g hv) ?_
  refine zGo.sts 3 (cf' := (29, [some (.ref 43), d1, some (.int l2), some (.int l3), some (.int v3)], [.int l2, .int v3], σ)) rfl ?_
  by_cases hb4 : ¬ v3 = l2
  · replace h := zif_t hb4 h
    refine zC_ne_t rfl hb4 ?_
    refine zGo.sts 4 (cf' := (4, [some (.ref 43), d1, some (.int v3), some (.int (l3 + 1)), some (.int v3)], [], σ)) rfl ?_
    exact hc4 h
  · replace h := zif_f hb4 h
    refine zC_ne_f rfl hb4 ?_
    refine zGo.sts 1 (cf' := (33, [some (.ref 43), d1, some (.int l2), some (.int l3), some (.int v3)], [.int l2], σ)) rfl ?_
    obtain rfl := Option.some.inj h
    exact zGo.ret rfl rfl
def Fcg_lastOf_c4 (σ : zSt) : Nat → Int32 → Int32 → Option (Int32)
  | 0, _, _ => none
  | n + 1, l2, l3 => if 9 < l3 then (some l2) else (if ¬ l3 = 0 then (Fcg_lastOf_c21 σ (Fcg_lastOf_c4 σ n) l2 l3 0 l2) else (Fcg_lastOf_c21 σ (Fcg_lastOf_c4 σ n) l2 l3 1 l2))
theorem Fcg_lastOf_g4 {σ : zSt} : ∀ (n : Nat) {d1 : Option Value} {d4 : Option Value} {l2 : Int32} {l3 : Int32} {r : Int32}, Fcg_lastOf_c4 σ n l2 l3 = some r → zGo zPT zmlc zP_70 (4, [some (.ref 43), d1, some (.int l2), some (.int l3), d4], [], σ) (some (.int r), σ) := by
  intro n
  induction n with
  | zero => intro d1 d4 l2 l3 r h; cases h
  | succ n ih =>
    intro d1 d4 l2 l3 r h
    rw [Fcg_lastOf_c4] at h
    refine zGo.sts 2 (cf' := (7, [some (.ref 43), d1, some (.int l2), some (.int l3), d4], [.int 9, .int l3], σ)) rfl ?_
    by_cases hb2 : 9 < l3
    · replace h := zif_t hb2 h
      refine zC_gt_t rfl hb2 ?_
      refine zGo.sts 1 (cf' := (44, [some (.ref 43), d1, some (.int l2), some (.int l3), d4], [.int l2], σ)) rfl ?_
      obtain rfl := Option.some.inj h
      exact zGo.ret rfl rfl
    · replace h := zif_f hb2 h
      refine zC_gt_f rfl hb2 ?_
      refine zGo.sts 3 (cf' := (13, [some (.ref 43), d1, some (.int l2), some (.int l3), d4], [.int l3, .int l2, .ref 43], σ)) rfl ?_
      by_cases hb1 : ¬ l3 = 0
      · replace h := zif_t hb1 h
        refine zI_ne_t rfl hb1 ?_
        refine zGo.sts 1 (cf' := (21, [some (.ref 43), d1, some (.int l2), some (.int l3), d4], [.int 0, .int l2, .ref 43], σ)) rfl ?_
        exact Fcg_lastOf_g21 ih h
      · replace h := zif_f hb1 h
        refine zI_ne_f rfl hb1 ?_
        refine zGo.sts 2 (cf' := (21, [some (.ref 43), d1, some (.int l2), some (.int l3), d4], [.int 1, .int l2, .ref 43], σ)) rfl ?_
        exact Fcg_lastOf_g21 ih h
def Fcg_lastOf (l1 : Int32) (σ : zSt) : Option (Int32) := Fcg_lastOf_c4 σ zF l1 0
theorem Fcg_lastOf_g {l1 : Int32} {σ : zSt} {r : Int32} (h : Fcg_lastOf l1 σ = some r) : zGo zPT zmlc (zPT 70) (0, zent (zmlc 70) [.ref 43, .int l1], [], σ) (some (.int r), σ) := by
  unfold Fcg_lastOf at h
  show zGo zPT zmlc zP_70 (0, [some (.ref 43), some (.int l1), none, none, none], [], σ) _
  refine zGo.sts 4 (cf' := (4, [some (.ref 43), some (.int l1), some (.int l1), some (.int 0), none], [], σ)) rfl ?_
  exact Fcg_lastOf_g4 zF h
def X_closure (l1 : Int32) (σ : zSt) : Option (Int32 × zSt) := (Net_hasSet l1 σ).bind fun v1 => if ¬ v1 = 0 then ((Fcg_take σ).bind fun σ2 => (Fcg_lastOf l1 σ2).bind fun v3 => some (v3, σ2)) else (some ((-1), σ))
theorem X_closure_g {l1 : Int32} {σ : zSt} {r : Int32 × zSt} (h : X_closure l1 σ = some r) : zGo zPT zmlc (zPT 97) (0, zent (zmlc 97) [.ref 0, .int l1], [], σ) (some (.int r.1), r.2) := by
  unfold X_closure at h
  show zGo zPT zmlc zP_97 (0, [some (.ref 0), some (.int l1)], [], σ) _
  refine zGo.sts 3 (cf' := (5, [some (.ref 0), some (.int l1)], [.int l1, .ref 1], σ)) rfl ?_
  obtain ⟨v1, hv, h⟩ := zbd h
  refine zGo.call rfl rfl (Net_hasSet_g hv) ?_
  by_cases hb4 : ¬ v1 = 0
  · replace h := zif_t hb4 h
    refine zI_ne_t rfl hb4 ?_
    refine zGo.sts 4 (cf' := (21, [some (.ref 0), some (.int l1)], [.ref 1, .ref 43], σ)) rfl ?_
    obtain ⟨σ2, hv, h⟩ := zbd h
    refine zGo.call rfl rfl (Fcg_take_g hv) ?_
    refine zGo.sts 3 (cf' := (29, [some (.ref 0), some (.int l1)], [.int l1, .ref 43], σ2)) rfl ?_
    obtain ⟨v3, hv, h⟩ := zbd h
    refine zGo.call rfl rfl (Fcg_lastOf_g hv) ?_
    obtain rfl := Option.some.inj h
    exact zGo.ret rfl rfl
  · replace h := zif_f hb4 h
    refine zI_ne_f rfl hb4 ?_
    refine zGo.sts 1 (cf' := (12, [some (.ref 0), some (.int l1)], [.int (-1)], σ)) rfl ?_
    obtain rfl := Option.some.inj h
    exact zGo.ret rfl rfl

/-! the methods as functions, by program -/
def X_fort (l1 : Int32) (σ : zSt) : Option (Int32 × zSt) := (Net_hasSet l1 σ).bind fun v1 => if ¬ v1 = 0 then ((Frt_fillMarks σ).bind fun σ2 => (zld σ2 50 l1).bind fun v3 => if v3 = 2 then (some (1, σ2)) else (if v3 = 3 then (some (2, σ2)) else (some (0, σ2)))) else (some ((-1), σ))
theorem X_fort_g {l1 : Int32} {σ : zSt} {r : Int32 × zSt} (h : X_fort l1 σ = some r) : zGo zPT zmlc (zPT 108) (0, zent (zmlc 108) [.ref 0, .int l1], [], σ) (some (.int r.1), r.2) := by
  unfold X_fort at h
  show zGo zPT zmlc zP_108 (0, [some (.ref 0), some (.int l1)], [], σ) _
  refine zGo.sts 3 (cf' := (5, [some (.ref 0), some (.int l1)], [.int l1, .ref 1], σ)) rfl ?_
  obtain ⟨v1, hv, h⟩ := zbd h
  refine zGo.call rfl rfl (Net_hasSet_g hv) ?_
  by_cases hb6 : ¬ v1 = 0
  · replace h := zif_t hb6 h
    refine zI_ne_t rfl hb6 ?_
    refine zGo.sts 4 (cf' := (21, [some (.ref 0), some (.int l1)], [.ref 1, .ref 49], σ)) rfl ?_
    obtain ⟨σ2, hv, h⟩ := zbd h
    refine zGo.call rfl rfl (Frt_fillMarks_g hv) ?_
    refine zGo.sts 4 (cf' := (32, [some (.ref 0), some (.int l1)], [.int l1, .ref 50], σ2)) rfl ?_
    obtain ⟨v3, hv, h⟩ := zbd h
    refine zG_ld rfl hv ?_
    by_cases hb4 : v3 = 2
    · replace h := zif_t hb4 h
      refine zG_sw rfl (zsw_t hb4) ?_
      refine zGo.sts 1 (cf' := (63, [some (.ref 0), some (.int l1)], [.int 1], σ2)) rfl ?_
      obtain rfl := Option.some.inj h
      exact zGo.ret rfl rfl
    · replace h := zif_f hb4 h
      by_cases hb5 : v3 = 3
      · replace h := zif_t hb5 h
        refine zG_sw rfl ((zsw_f hb4).trans (zsw_t hb5)) ?_
        refine zGo.sts 1 (cf' := (61, [some (.ref 0), some (.int l1)], [.int 2], σ2)) rfl ?_
        obtain rfl := Option.some.inj h
        exact zGo.ret rfl rfl
      · replace h := zif_f hb5 h
        refine zG_sw rfl ((zsw_f hb4).trans ((zsw_f hb5).trans rfl)) ?_
        refine zGo.sts 1 (cf' := (65, [some (.ref 0), some (.int l1)], [.int 0], σ2)) rfl ?_
        obtain rfl := Option.some.inj h
        exact zGo.ret rfl rfl
  · replace h := zif_f hb6 h
    refine zI_ne_f rfl hb6 ?_
    refine zGo.sts 1 (cf' := (12, [some (.ref 0), some (.int l1)], [.int (-1)], σ)) rfl ?_
    obtain rfl := Option.some.inj h
    exact zGo.ret rfl rfl
def Frt_howMany_c6 (σ : zSt) : Nat → Int32 → Int32 → Int32 → Int32 → Int32 → Option (Int32)
  | 0, _, _, _, _, _ => none
  | n + 1, l1, l2, l3, l4, l5 => if l1 < l5 then (some l4) else ((zld σ 50 l5).bind fun v1 => if v1 < l3 then (Frt_howMany_c6 σ n l1 l2 l3 l4 (l5 + 1)) else ((Jdk_bitCount l5 σ).bind fun v2 => if ¬ v2 = l2 then (Frt_howMany_c6 σ n l1 l2 l3 l4 (l5 + 1)) else (Frt_howMany_c6 σ n l1 l2 l3 (l4 + 1) (l5 + 1))))
theorem Frt_howMany_g6 {σ : zSt} : ∀ (n : Nat) {l1 : Int32} {l2 : Int32} {l3 : Int32} {l4 : Int32} {l5 : Int32} {r : Int32}, Frt_howMany_c6 σ n l1 l2 l3 l4 l5 = some r → zGo zPT zmlc zP_45 (6, [some (.ref 49), some (.int l1), some (.int l2), some (.int l3), some (.int l4), some (.int l5)], [], σ) (some (.int r), σ) := by
  intro n
  induction n with
  | zero => intro l1 l2 l3 l4 l5 r h; cases h
  | succ n ih =>
    intro l1 l2 l3 l4 l5 r h
    rw [Frt_howMany_c6] at h
    refine zGo.sts 2 (cf' := (9, [some (.ref 49), some (.int l1), some (.int l2), some (.int l3), some (.int l4), some (.int l5)], [.int l1, .int l5], σ)) rfl ?_
    by_cases hb5 : l1 < l5
    · replace h := zif_t hb5 h
      refine zC_gt_t rfl hb5 ?_
      refine zGo.sts 1 (cf' := (43, [some (.ref 49), some (.int l1), some (.int l2), some (.int l3), some (.int l4), some (.int l5)], [.int l4], σ)) rfl ?_
      obtain rfl := Option.some.inj h
      exact zGo.ret rfl rfl
    · replace h := zif_f hb5 h
      refine zC_gt_f rfl hb5 ?_
      refine zGo.sts 3 (cf' := (18, [some (.ref 49), some (.int l1), some (.int l2), some (.int l3), some (.int l4), some (.int l5)], [.int l5, .ref 50], σ)) rfl ?_
      obtain ⟨v1, hv, h⟩ := zbd h
      refine zG_ld rfl hv ?_
      refine zGo.sts 1 (cf' := (20, [some (.ref 49), some (.int l1), some (.int l2), some (.int l3), some (.int l4), some (.int l5)], [.int l3, .int v1], σ)) rfl ?_
      by_cases hb4 : v1 < l3
      · replace h := zif_t hb4 h
        refine zC_lt_t rfl hb4 ?_
        refine zGo.sts 2 (cf' := (6, [some (.ref 49), some (.int l1), some (.int l2), some (.int l3), some (.int l4), some (.int (l5 + 1))], [], σ)) rfl ?_
        exact ih h
      · replace h := zif_f hb4 h
        refine zC_lt_f rfl hb4 ?_
        refine zGo.sts 1 (cf' := (25, [some (.ref 49), some (.int l1), some (.int l2), some (.int l3), some (.int l4), some (.int l5)], [.int l5], σ)) rfl ?_
        obtain ⟨v2, hv, h⟩ := zbd h
        refine zGo.call rfl rfl (Jdk_bitCount_g hv) ?_
        refine zGo.sts 1 (cf' := (29, [some (.ref 49), some (.int l1), some (.int l2), some (.int l3), some (.int l4), some (.int l5)], [.int l2, .int v2], σ)) rfl ?_
        by_cases hb3 : ¬ v2 = l2
        · replace h := zif_t hb3 h
          refine zC_ne_t rfl hb3 ?_
          refine zGo.sts 2 (cf' := (6, [some (.ref 49), some (.int l1), some (.int l2), some (.int l3), some (.int l4), some (.int (l5 + 1))], [], σ)) rfl ?_
          exact ih h
        · replace h := zif_f hb3 h
          refine zC_ne_f rfl hb3 ?_
          refine zGo.sts 3 (cf' := (6, [some (.ref 49), some (.int l1), some (.int l2), some (.int l3), some (.int (l4 + 1)), some (.int (l5 + 1))], [], σ)) rfl ?_
          exact ih h
def Frt_howMany (l1 : Int32) (l2 : Int32) (l3 : Int32) (σ : zSt) : Option (Int32) := Frt_howMany_c6 σ zF l1 l2 l3 0 0
theorem Frt_howMany_g {l1 : Int32} {l2 : Int32} {l3 : Int32} {σ : zSt} {r : Int32} (h : Frt_howMany l1 l2 l3 σ = some r) : zGo zPT zmlc (zPT 45) (0, zent (zmlc 45) [.ref 49, .int l1, .int l2, .int l3], [], σ) (some (.int r), σ) := by
  unfold Frt_howMany at h
  show zGo zPT zmlc zP_45 (0, [some (.ref 49), some (.int l1), some (.int l2), some (.int l3), none, none], [], σ) _
  refine zGo.sts 4 (cf' := (6, [some (.ref 49), some (.int l1), some (.int l2), some (.int l3), some (.int 0), some (.int 0)], [], σ)) rfl ?_
  exact Frt_howMany_g6 zF h
def X_forts_c59 (t0 : Int32) (t1 : Int32) (t2 : Int32) (σ : zSt) : Option (Int32 × zSt) := (Frt_howMany t2 t1 t0 σ).bind fun v8 => some (v8, σ)
theorem X_forts_g59 {d0 : Option Value} {d1 : Option Value} {d2 : Option Value} {t0 : Int32} {t1 : Int32} {t2 : Int32} {σ : zSt} {r : Int32 × zSt} (h : X_forts_c59 t0 t1 t2 σ = some r) : zGo zPT zmlc zP_109 (59, [d0, d1, d2], [.int t0, .int t1, .int t2, .ref 49], σ) (some (.int r.1), r.2) := by
  unfold X_forts_c59 at h
  obtain ⟨v8, hv, h⟩ := zbd h
  refine zGo.call rfl rfl (Frt_howMany_g hv) ?_
  obtain rfl := Option.some.inj h
  exact zGo.ret rfl rfl
def X_forts (l1 : Int32) (l2 : Int32) (σ : zSt) : Option (Int32 × zSt) := if l1 < 0 then (some ((-1), σ)) else (if (σ 1 0) < l1 then (some ((-1), σ)) else (if l2 < 0 then (some ((-1), σ)) else (if l2 ≤ 1 then ((Frt_fillMarks σ).bind fun σ1 => (Net_all σ1).bind fun v2 => if ¬ l2 = 1 then (X_forts_c59 2 l1 v2 σ1) else (X_forts_c59 3 l1 v2 σ1)) else (some ((-1), σ)))))
theorem X_forts_g {l1 : Int32} {l2 : Int32} {σ : zSt} {r : Int32 × zSt} (h : X_forts l1 l2 σ = some r) : zGo zPT zmlc (zPT 109) (0, zent (zmlc 109) [.ref 0, .int l1, .int l2], [], σ) (some (.int r.1), r.2) := by
  unfold X_forts at h
  show zGo zPT zmlc zP_109 (0, [some (.ref 0), some (.int l1), some (.int l2)], [], σ) _
  refine zGo.sts 1 (cf' := (1, [some (.ref 0), some (.int l1), some (.int l2)], [.int l1], σ)) rfl ?_
  by_cases hb7 : l1 < 0
  · replace h := zif_t hb7 h
    refine zI_lt_t rfl hb7 ?_
    refine zGo.sts 1 (cf' := (25, [some (.ref 0), some (.int l1), some (.int l2)], [.int (-1)], σ)) rfl ?_
    obtain rfl := Option.some.inj h
    exact zGo.ret rfl rfl
  · replace h := zif_f hb7 h
    refine zI_lt_f rfl hb7 ?_
    refine zGo.sts 4 (cf' := (12, [some (.ref 0), some (.int l1), some (.int l2)], [.int (σ 1 0), .int l1], σ)) rfl ?_
    by_cases hb6 : (σ 1 0) < l1
    · replace h := zif_t hb6 h
      refine zC_gt_t rfl hb6 ?_
      refine zGo.sts 1 (cf' := (25, [some (.ref 0), some (.int l1), some (.int l2)], [.int (-1)], σ)) rfl ?_
      obtain rfl := Option.some.inj h
      exact zGo.ret rfl rfl
    · replace h := zif_f hb6 h
      refine zC_gt_f rfl hb6 ?_
      refine zGo.sts 1 (cf' := (16, [some (.ref 0), some (.int l1), some (.int l2)], [.int l2], σ)) rfl ?_
      by_cases hb5 : l2 < 0
      · replace h := zif_t hb5 h
        refine zI_lt_t rfl hb5 ?_
        refine zGo.sts 1 (cf' := (25, [some (.ref 0), some (.int l1), some (.int l2)], [.int (-1)], σ)) rfl ?_
        obtain rfl := Option.some.inj h
        exact zGo.ret rfl rfl
      · replace h := zif_f hb5 h
        refine zI_lt_f rfl hb5 ?_
        refine zGo.sts 2 (cf' := (21, [some (.ref 0), some (.int l1), some (.int l2)], [.int 1, .int l2], σ)) rfl ?_
        by_cases hb4 : l2 ≤ 1
        · replace h := zif_t hb4 h
          refine zC_le_t rfl hb4 ?_
          refine zGo.sts 4 (cf' := (34, [some (.ref 0), some (.int l1), some (.int l2)], [.ref 1, .ref 49], σ)) rfl ?_
          obtain ⟨σ1, hv, h⟩ := zbd h
          refine zGo.call rfl rfl (Frt_fillMarks_g hv) ?_
          refine zGo.sts 4 (cf' := (45, [some (.ref 0), some (.int l1), some (.int l2)], [.ref 1, .ref 49], σ1)) rfl ?_
          obtain ⟨v2, hv, h⟩ := zbd h
          refine zGo.call rfl rfl (Net_all_g hv) ?_
          refine zGo.sts 3 (cf' := (51, [some (.ref 0), some (.int l1), some (.int l2)], [.int 1, .int l2, .int l1, .int v2, .ref 49], σ1)) rfl ?_
          by_cases hb3 : ¬ l2 = 1
          · replace h := zif_t hb3 h
            refine zC_ne_t rfl hb3 ?_
            refine zGo.sts 1 (cf' := (59, [some (.ref 0), some (.int l1), some (.int l2)], [.int 2, .int l1, .int v2, .ref 49], σ1)) rfl ?_
            exact X_forts_g59 h
          · replace h := zif_f hb3 h
            refine zC_ne_f rfl hb3 ?_
            refine zGo.sts 2 (cf' := (59, [some (.ref 0), some (.int l1), some (.int l2)], [.int 3, .int l1, .int v2, .ref 49], σ1)) rfl ?_
            exact X_forts_g59 h
        · replace h := zif_f hb4 h
          refine zC_le_f rfl hb4 ?_
          refine zGo.sts 1 (cf' := (25, [some (.ref 0), some (.int l1), some (.int l2)], [.int (-1)], σ)) rfl ?_
          obtain rfl := Option.some.inj h
          exact zGo.ret rfl rfl
def Frt_innerAt_c5 (σ : zSt) : Nat → Int32 → Int32 → Int32 → Int32 → Option (Int32)
  | 0, _, _, _, _ => none
  | n + 1, l1, l2, l3, l4 => if l1 < l4 then (some (-1)) else ((zld σ 50 l4).bind fun v1 => if ¬ v1 = 3 then (Frt_innerAt_c5 σ n l1 l2 l3 (l4 + 1)) else (if ¬ l3 = l2 then (Frt_innerAt_c5 σ n l1 l2 (l3 + 1) (l4 + 1)) else (some l4)))
theorem Frt_innerAt_g5 {σ : zSt} : ∀ (n : Nat) {l1 : Int32} {l2 : Int32} {l3 : Int32} {l4 : Int32} {r : Int32}, Frt_innerAt_c5 σ n l1 l2 l3 l4 = some r → zGo zPT zmlc zP_46 (5, [some (.ref 49), some (.int l1), some (.int l2), some (.int l3), some (.int l4)], [], σ) (some (.int r), σ) := by
  intro n
  induction n with
  | zero => intro l1 l2 l3 l4 r h; cases h
  | succ n ih =>
    intro l1 l2 l3 l4 r h
    rw [Frt_innerAt_c5] at h
    refine zGo.sts 2 (cf' := (8, [some (.ref 49), some (.int l1), some (.int l2), some (.int l3), some (.int l4)], [.int l1, .int l4], σ)) rfl ?_
    by_cases hb4 : l1 < l4
    · replace h := zif_t hb4 h
      refine zC_gt_t rfl hb4 ?_
      refine zGo.sts 1 (cf' := (40, [some (.ref 49), some (.int l1), some (.int l2), some (.int l3), some (.int l4)], [.int (-1)], σ)) rfl ?_
      obtain rfl := Option.some.inj h
      exact zGo.ret rfl rfl
    · replace h := zif_f hb4 h
      refine zC_gt_f rfl hb4 ?_
      refine zGo.sts 3 (cf' := (17, [some (.ref 49), some (.int l1), some (.int l2), some (.int l3), some (.int l4)], [.int l4, .ref 50], σ)) rfl ?_
      obtain ⟨v1, hv, h⟩ := zbd h
      refine zG_ld rfl hv ?_
      refine zGo.sts 1 (cf' := (19, [some (.ref 49), some (.int l1), some (.int l2), some (.int l3), some (.int l4)], [.int 3, .int v1], σ)) rfl ?_
      by_cases hb3 : ¬ v1 = 3
      · replace h := zif_t hb3 h
        refine zC_ne_t rfl hb3 ?_
        refine zGo.sts 2 (cf' := (5, [some (.ref 49), some (.int l1), some (.int l2), some (.int l3), some (.int (l4 + 1))], [], σ)) rfl ?_
        exact ih h
      · replace h := zif_f hb3 h
        refine zC_ne_f rfl hb3 ?_
        refine zGo.sts 2 (cf' := (24, [some (.ref 49), some (.int l1), some (.int l2), some (.int l3), some (.int l4)], [.int l2, .int l3], σ)) rfl ?_
        by_cases hb2 : ¬ l3 = l2
        · replace h := zif_t hb2 h
          refine zC_ne_t rfl hb2 ?_
          refine zGo.sts 3 (cf' := (5, [some (.ref 49), some (.int l1), some (.int l2), some (.int (l3 + 1)), some (.int (l4 + 1))], [], σ)) rfl ?_
          exact ih h
        · replace h := zif_f hb2 h
          refine zC_ne_f rfl hb2 ?_
          refine zGo.sts 1 (cf' := (29, [some (.ref 49), some (.int l1), some (.int l2), some (.int l3), some (.int l4)], [.int l4], σ)) rfl ?_
          obtain rfl := Option.some.inj h
          exact zGo.ret rfl rfl
def Frt_innerAt (l1 : Int32) (l2 : Int32) (σ : zSt) : Option (Int32) := Frt_innerAt_c5 σ zF l1 l2 0 0
theorem Frt_innerAt_g {l1 : Int32} {l2 : Int32} {σ : zSt} {r : Int32} (h : Frt_innerAt l1 l2 σ = some r) : zGo zPT zmlc (zPT 46) (0, zent (zmlc 46) [.ref 49, .int l1, .int l2], [], σ) (some (.int r), σ) := by
  unfold Frt_innerAt at h
  show zGo zPT zmlc zP_46 (0, [some (.ref 49), some (.int l1), some (.int l2), none, none], [], σ) _
  refine zGo.sts 4 (cf' := (5, [some (.ref 49), some (.int l1), some (.int l2), some (.int 0), some (.int 0)], [], σ)) rfl ?_
  exact Frt_innerAt_g5 zF h
def X_innerFort (l1 : Int32) (σ : zSt) : Option (Int32 × zSt) := if 0 ≤ l1 then ((Frt_fillMarks σ).bind fun σ1 => (Net_all σ1).bind fun v2 => (Frt_innerAt v2 l1 σ1).bind fun v3 => if 0 ≤ v3 then (some (v3, σ1)) else (some ((-2), σ1))) else (some ((-1), σ))
theorem X_innerFort_g {l1 : Int32} {σ : zSt} {r : Int32 × zSt} (h : X_innerFort l1 σ = some r) : zGo zPT zmlc (zPT 110) (0, zent (zmlc 110) [.ref 0, .int l1], [], σ) (some (.int r.1), r.2) := by
  unfold X_innerFort at h
  show zGo zPT zmlc zP_110 (0, [some (.ref 0), some (.int l1), none], [], σ) _
  refine zGo.sts 1 (cf' := (1, [some (.ref 0), some (.int l1), none], [.int l1], σ)) rfl ?_
  by_cases hb5 : 0 ≤ l1
  · replace h := zif_t hb5 h
    refine zI_ge_t rfl hb5 ?_
    refine zGo.sts 4 (cf' := (14, [some (.ref 0), some (.int l1), none], [.ref 1, .ref 49], σ)) rfl ?_
    obtain ⟨σ1, hv, h⟩ := zbd h
    refine zGo.call rfl rfl (Frt_fillMarks_g hv) ?_
    refine zGo.sts 4 (cf' := (25, [some (.ref 0), some (.int l1), none], [.ref 1, .ref 49], σ1)) rfl ?_
    obtain ⟨v2, hv, h⟩ := zbd h
    refine zGo.call rfl rfl (Net_all_g hv) ?_
    refine zGo.sts 1 (cf' := (29, [some (.ref 0), some (.int l1), none], [.int l1, .int v2, .ref 49], σ1)) rfl ?_
    obtain ⟨v3, hv, h⟩ := zbd h
    refine zGo.call rfl rfl (Frt_innerAt_g hv) ?_
    refine zGo.sts 2 (cf' := (34, [some (.ref 0), some (.int l1), some (.int v3)], [.int v3], σ1)) rfl ?_
    by_cases hb4 : 0 ≤ v3
    · replace h := zif_t hb4 h
      refine zI_ge_t rfl hb4 ?_
      refine zGo.sts 1 (cf' := (43, [some (.ref 0), some (.int l1), some (.int v3)], [.int v3], σ1)) rfl ?_
      obtain rfl := Option.some.inj h
      exact zGo.ret rfl rfl
    · replace h := zif_f hb4 h
      refine zI_ge_f rfl hb4 ?_
      refine zGo.sts 2 (cf' := (43, [some (.ref 0), some (.int l1), some (.int v3)], [.int (-2)], σ1)) rfl ?_
      obtain rfl := Option.some.inj h
      exact zGo.ret rfl rfl
  · replace h := zif_f hb5 h
    refine zI_ge_f rfl hb5 ?_
    refine zGo.sts 1 (cf' := (5, [some (.ref 0), some (.int l1), none], [.int (-1)], σ)) rfl ?_
    obtain rfl := Option.some.inj h
    exact zGo.ret rfl rfl
def X_meets (l1 : Int32) (σ : zSt) : Option (Int32 × zSt) := (Net_hasSet l1 σ).bind fun v1 => if ¬ v1 = 0 then ((Frt_fillMarks σ).bind fun σ2 => (Net_all σ2).bind fun v3 => (zld σ2 50 (v3 &&& (l1 ^^^ (-1)))).bind fun v4 => if ¬ v4 = 0 then (some (0, σ2)) else (some (1, σ2))) else (some ((-1), σ))
theorem X_meets_g {l1 : Int32} {σ : zSt} {r : Int32 × zSt} (h : X_meets l1 σ = some r) : zGo zPT zmlc (zPT 111) (0, zent (zmlc 111) [.ref 0, .int l1], [], σ) (some (.int r.1), r.2) := by
  unfold X_meets at h
  show zGo zPT zmlc zP_111 (0, [some (.ref 0), some (.int l1)], [], σ) _
  refine zGo.sts 3 (cf' := (5, [some (.ref 0), some (.int l1)], [.int l1, .ref 1], σ)) rfl ?_
  obtain ⟨v1, hv, h⟩ := zbd h
  refine zGo.call rfl rfl (Net_hasSet_g hv) ?_
  by_cases hb6 : ¬ v1 = 0
  · replace h := zif_t hb6 h
    refine zI_ne_t rfl hb6 ?_
    refine zGo.sts 4 (cf' := (21, [some (.ref 0), some (.int l1)], [.ref 1, .ref 49], σ)) rfl ?_
    obtain ⟨σ2, hv, h⟩ := zbd h
    refine zGo.call rfl rfl (Frt_fillMarks_g hv) ?_
    refine zGo.sts 5 (cf' := (35, [some (.ref 0), some (.int l1)], [.ref 1, .ref 50], σ2)) rfl ?_
    obtain ⟨v3, hv, h⟩ := zbd h
    refine zGo.call rfl rfl (Net_all_g hv) ?_
    refine zGo.sts 4 (cf' := (42, [some (.ref 0), some (.int l1)], [.int (v3 &&& (l1 ^^^ (-1))), .ref 50], σ2)) rfl ?_
    obtain ⟨v4, hv, h⟩ := zbd h
    refine zG_ld rfl hv ?_
    by_cases hb5 : ¬ v4 = 0
    · replace h := zif_t hb5 h
      refine zI_ne_t rfl hb5 ?_
      refine zGo.sts 1 (cf' := (51, [some (.ref 0), some (.int l1)], [.int 0], σ2)) rfl ?_
      obtain rfl := Option.some.inj h
      exact zGo.ret rfl rfl
    · replace h := zif_f hb5 h
      refine zI_ne_f rfl hb5 ?_
      refine zGo.sts 2 (cf' := (51, [some (.ref 0), some (.int l1)], [.int 1], σ2)) rfl ?_
      obtain rfl := Option.some.inj h
      exact zGo.ret rfl rfl
  · replace h := zif_f hb6 h
    refine zI_ne_f rfl hb6 ?_
    refine zGo.sts 1 (cf' := (12, [some (.ref 0), some (.int l1)], [.int (-1)], σ)) rfl ?_
    obtain rfl := Option.some.inj h
    exact zGo.ret rfl rfl
def X_table_c66 (l1 : Int32) (l2 : Int32) (l3 : Int32) (σ : zSt) : Option (Int32 × zSt) := zb2 (His_tell 0 l1 l2 l3 σ) fun v9 σ10 => some (v9, σ10)
theorem X_table_g66 {l1 : Int32} {l2 : Int32} {l3 : Int32} {σ : zSt} {r : Int32 × zSt} (h : X_table_c66 l1 l2 l3 σ = some r) : zGo zPT zmlc zP_112 (66, [some (.ref 0), some (.int l1), some (.int l2), some (.int l3)], [], σ) (some (.int r.1), r.2) := by
  unfold X_table_c66 at h
  refine zGo.sts 8 (cf' := (78, [some (.ref 0), some (.int l1), some (.int l2), some (.int l3)], [.int l3, .int l2, .int l1, .int 0, .ref 1, .ref 29], σ)) rfl ?_
  obtain ⟨v9, σ10, hv, h⟩ := zbd2 h
  refine zGo.call rfl rfl (His_tell_g hv) ?_
  obtain rfl := Option.some.inj h
  exact zGo.ret rfl rfl
def X_table_c51 (l1 : Int32) (l2 : Int32) (l3 : Int32) (t0 : Int32) (σ : zSt) : Option (Int32 × zSt) := (Net_hasLine l1 l2 σ).bind fun v11 => if t0 = v11 then (X_table_c66 l1 l2 l3 σ) else (some ((-100), σ))
theorem X_table_g51 {l1 : Int32} {l2 : Int32} {l3 : Int32} {t0 : Int32} {σ : zSt} {r : Int32 × zSt} (h : X_table_c51 l1 l2 l3 t0 σ = some r) : zGo zPT zmlc zP_112 (51, [some (.ref 0), some (.int l1), some (.int l2), some (.int l3)], [.int t0], σ) (some (.int r.1), r.2) := by
  unfold X_table_c51 at h
  refine zGo.sts 4 (cf' := (57, [some (.ref 0), some (.int l1), some (.int l2), some (.int l3)], [.int l2, .int l1, .ref 1, .int t0], σ)) rfl ?_
  obtain ⟨v11, hv, h⟩ := zbd h
  refine zGo.call rfl rfl (Net_hasLine_g hv) ?_
  by_cases hb12 : t0 = v11
  · replace h := zif_t hb12 h
    refine zC_eq_t rfl hb12 ?_
    exact X_table_g66 h
  · replace h := zif_f hb12 h
    refine zC_eq_f rfl hb12 ?_
    refine zGo.sts 1 (cf' := (65, [some (.ref 0), some (.int l1), some (.int l2), some (.int l3)], [.int (-100)], σ)) rfl ?_
    obtain rfl := Option.some.inj h
    exact zGo.ret rfl rfl
def X_table (l1 : Int32) (l2 : Int32) (l3 : Int32) (σ : zSt) : Option (Int32 × zSt) := (Net_hasPoint l1 σ).bind fun v1 => if v1 = 0 then (some ((-2147483648), σ)) else ((Net_hasPoint l2 σ).bind fun v2 => if v2 = 0 then (some ((-2147483648), σ)) else (if l3 < (-9) then (some ((-2147483648), σ)) else (if l3 ≤ 9 then (if l1 = l2 then (X_table_c66 l1 l2 l3 σ) else (if l3 = 0 then (X_table_c51 l1 l2 l3 0 σ) else (X_table_c51 l1 l2 l3 1 σ))) else (some ((-2147483648), σ)))))
theorem X_table_g {l1 : Int32} {l2 : Int32} {l3 : Int32} {σ : zSt} {r : Int32 × zSt} (h : X_table l1 l2 l3 σ = some r) : zGo zPT zmlc (zPT 112) (0, zent (zmlc 112) [.ref 0, .int l1, .int l2, .int l3], [], σ) (some (.int r.1), r.2) := by
  unfold X_table at h
  show zGo zPT zmlc zP_112 (0, [some (.ref 0), some (.int l1), some (.int l2), some (.int l3)], [], σ) _
  refine zGo.sts 3 (cf' := (5, [some (.ref 0), some (.int l1), some (.int l2), some (.int l3)], [.int l1, .ref 1], σ)) rfl ?_
  obtain ⟨v1, hv, h⟩ := zbd h
  refine zGo.call rfl rfl (Net_hasPoint_g hv) ?_
  by_cases hb8 : v1 = 0
  · replace h := zif_t hb8 h
    refine zI_eq_t rfl hb8 ?_
    refine zGo.sts 1 (cf' := (36, [some (.ref 0), some (.int l1), some (.int l2), some (.int l3)], [.int (-2147483648)], σ)) rfl ?_
    obtain rfl := Option.some.inj h
    exact zGo.ret rfl rfl
  · replace h := zif_f hb8 h
    refine zI_eq_f rfl hb8 ?_
    refine zGo.sts 3 (cf' := (16, [some (.ref 0), some (.int l1), some (.int l2), some (.int l3)], [.int l2, .ref 1], σ)) rfl ?_
    obtain ⟨v2, hv, h⟩ := zbd h
    refine zGo.call rfl rfl (Net_hasPoint_g hv) ?_
    by_cases hb7 : v2 = 0
    · replace h := zif_t hb7 h
      refine zI_eq_t rfl hb7 ?_
      refine zGo.sts 1 (cf' := (36, [some (.ref 0), some (.int l1), some (.int l2), some (.int l3)], [.int (-2147483648)], σ)) rfl ?_
      obtain rfl := Option.some.inj h
      exact zGo.ret rfl rfl
    · replace h := zif_f hb7 h
      refine zI_eq_f rfl hb7 ?_
      refine zGo.sts 2 (cf' := (25, [some (.ref 0), some (.int l1), some (.int l2), some (.int l3)], [.int (-9), .int l3], σ)) rfl ?_
      by_cases hb6 : l3 < (-9)
      · replace h := zif_t hb6 h
        refine zC_lt_t rfl hb6 ?_
        refine zGo.sts 1 (cf' := (36, [some (.ref 0), some (.int l1), some (.int l2), some (.int l3)], [.int (-2147483648)], σ)) rfl ?_
        obtain rfl := Option.some.inj h
        exact zGo.ret rfl rfl
      · replace h := zif_f hb6 h
        refine zC_lt_f rfl hb6 ?_
        refine zGo.sts 2 (cf' := (31, [some (.ref 0), some (.int l1), some (.int l2), some (.int l3)], [.int 9, .int l3], σ)) rfl ?_
        by_cases hb5 : l3 ≤ 9
        · replace h := zif_t hb5 h
          refine zC_le_t rfl hb5 ?_
          refine zGo.sts 2 (cf' := (39, [some (.ref 0), some (.int l1), some (.int l2), some (.int l3)], [.int l2, .int l1], σ)) rfl ?_
          by_cases hb4 : l1 = l2
          · replace h := zif_t hb4 h
            refine zC_eq_t rfl hb4 ?_
            exact X_table_g66 h
          · replace h := zif_f hb4 h
            refine zC_eq_f rfl hb4 ?_
            refine zGo.sts 1 (cf' := (43, [some (.ref 0), some (.int l1), some (.int l2), some (.int l3)], [.int l3], σ)) rfl ?_
            by_cases hb3 : l3 = 0
            · replace h := zif_t hb3 h
              refine zI_eq_t rfl hb3 ?_
              refine zGo.sts 1 (cf' := (51, [some (.ref 0), some (.int l1), some (.int l2), some (.int l3)], [.int 0], σ)) rfl ?_
              exact X_table_g51 h
            · replace h := zif_f hb3 h
              refine zI_eq_f rfl hb3 ?_
              refine zGo.sts 2 (cf' := (51, [some (.ref 0), some (.int l1), some (.int l2), some (.int l3)], [.int 1], σ)) rfl ?_
              exact X_table_g51 h
        · replace h := zif_f hb5 h
          refine zC_le_f rfl hb5 ?_
          refine zGo.sts 1 (cf' := (36, [some (.ref 0), some (.int l1), some (.int l2), some (.int l3)], [.int (-2147483648)], σ)) rfl ?_
          obtain rfl := Option.some.inj h
          exact zGo.ret rfl rfl
def X_entry (l1 : Int32) (l2 : Int32) (σ : zSt) : Option (Int32) := (Net_hasPoint l1 σ).bind fun v1 => if v1 = 0 then (some (-2147483648)) else ((Net_hasPoint l2 σ).bind fun v2 => if ¬ v2 = 0 then ((zlr σ 5 l1).bind fun v3 => (zld σ v3 l2).bind fun v4 => some v4) else (some (-2147483648)))
theorem X_entry_g {l1 : Int32} {l2 : Int32} {σ : zSt} {r : Int32} (h : X_entry l1 l2 σ = some r) : zGo zPT zmlc (zPT 113) (0, zent (zmlc 113) [.ref 0, .int l1, .int l2], [], σ) (some (.int r), σ) := by
  unfold X_entry at h
  show zGo zPT zmlc zP_113 (0, [some (.ref 0), some (.int l1), some (.int l2)], [], σ) _
  refine zGo.sts 3 (cf' := (5, [some (.ref 0), some (.int l1), some (.int l2)], [.int l1, .ref 1], σ)) rfl ?_
  obtain ⟨v1, hv, h⟩ := zbd h
  refine zGo.call rfl rfl (Net_hasPoint_g hv) ?_
  by_cases hb6 : v1 = 0
  · replace h := zif_t hb6 h
    refine zI_eq_t rfl hb6 ?_
    refine zGo.sts 1 (cf' := (24, [some (.ref 0), some (.int l1), some (.int l2)], [.int (-2147483648)], σ)) rfl ?_
    obtain rfl := Option.some.inj h
    exact zGo.ret rfl rfl
  · replace h := zif_f hb6 h
    refine zI_eq_f rfl hb6 ?_
    refine zGo.sts 3 (cf' := (16, [some (.ref 0), some (.int l1), some (.int l2)], [.int l2, .ref 1], σ)) rfl ?_
    obtain ⟨v2, hv, h⟩ := zbd h
    refine zGo.call rfl rfl (Net_hasPoint_g hv) ?_
    by_cases hb5 : ¬ v2 = 0
    · replace h := zif_t hb5 h
      refine zI_ne_t rfl hb5 ?_
      refine zGo.sts 4 (cf' := (33, [some (.ref 0), some (.int l1), some (.int l2)], [.int l1, .ref 5], σ)) rfl ?_
      obtain ⟨v3, hv, h⟩ := zbd h
      refine zG_lr rfl hv ?_
      refine zGo.sts 1 (cf' := (35, [some (.ref 0), some (.int l1), some (.int l2)], [.int l2, .ref v3], σ)) rfl ?_
      obtain ⟨v4, hv, h⟩ := zbd h
      refine zG_ld rfl hv ?_
      obtain rfl := Option.some.inj h
      exact zGo.ret rfl rfl
    · replace h := zif_f hb5 h
      refine zI_ne_f rfl hb5 ?_
      refine zGo.sts 1 (cf' := (24, [some (.ref 0), some (.int l1), some (.int l2)], [.int (-2147483648)], σ)) rfl ?_
      obtain rfl := Option.some.inj h
      exact zGo.ret rfl rfl
def X_isPrime_c9 (σ : zSt) : Nat → Int32 → Int32 → Int32 → Option (Int32)
  | 0, _, _, _ => none
  | n + 1, l0, l2, l3 => if l2 ≤ l3 then (some 0) else ((zld σ 200 l3).bind fun v1 => if ¬ v1 = l0 then (X_isPrime_c9 σ n l0 l2 (l3 + 1)) else (some 1))
theorem X_isPrime_g9 {σ : zSt} : ∀ (n : Nat) {d4 : Option Value} {l0 : Int32} {l2 : Int32} {l3 : Int32} {r : Int32}, X_isPrime_c9 σ n l0 l2 l3 = some r → zGo zPT zmlc zP_138 (9, [some (.int l0), some (.ref 200), some (.int l2), some (.int l3), d4], [], σ) (some (.int r), σ) := by
  intro n
  induction n with
  | zero => intro d4 l0 l2 l3 r h; cases h
  | succ n ih =>
    intro d4 l0 l2 l3 r h
    rw [X_isPrime_c9] at h
    refine zGo.sts 2 (cf' := (11, [some (.int l0), some (.ref 200), some (.int l2), some (.int l3), d4], [.int l2, .int l3], σ)) rfl ?_
    by_cases hb3 : l2 ≤ l3
    · replace h := zif_t hb3 h
      refine zC_ge_t rfl hb3 ?_
      refine zGo.sts 1 (cf' := (34, [some (.int l0), some (.ref 200), some (.int l2), some (.int l3), d4], [.int 0], σ)) rfl ?_
      obtain rfl := Option.some.inj h
      exact zGo.ret rfl rfl
    · replace h := zif_f hb3 h
      refine zC_ge_f rfl hb3 ?_
      refine zGo.sts 2 (cf' := (16, [some (.int l0), some (.ref 200), some (.int l2), some (.int l3), d4], [.int l3, .ref 200], σ)) rfl ?_
      obtain ⟨v1, hv, h⟩ := zbd h
      refine zG_ld rfl hv ?_
      refine zGo.sts 3 (cf' := (22, [some (.int l0), some (.ref 200), some (.int l2), some (.int l3), some (.int v1)], [.int l0, .int v1], σ)) rfl ?_
      by_cases hb2 : ¬ v1 = l0
      · replace h := zif_t hb2 h
        refine zC_ne_t rfl hb2 ?_
        refine zGo.sts 2 (cf' := (9, [some (.int l0), some (.ref 200), some (.int l2), some (.int (l3 + 1)), some (.int v1)], [], σ)) rfl ?_
        exact ih h
      · replace h := zif_f hb2 h
        refine zC_ne_f rfl hb2 ?_
        refine zGo.sts 1 (cf' := (26, [some (.int l0), some (.ref 200), some (.int l2), some (.int l3), some (.int v1)], [.int 1], σ)) rfl ?_
        obtain rfl := Option.some.inj h
        exact zGo.ret rfl rfl
def X_isPrime (l0 : Int32) (σ : zSt) : Option (Int32) := X_isPrime_c9 σ zF l0 7 0
theorem X_isPrime_g {l0 : Int32} {σ : zSt} {r : Int32} (h : X_isPrime l0 σ = some r) : zGo zPT zmlc (zPT 138) (0, zent (zmlc 138) [.int l0], [], σ) (some (.int r), σ) := by
  unfold X_isPrime at h
  show zGo zPT zmlc zP_138 (0, [some (.int l0), none, none, none, none], [], σ) _
  refine zGo.sts 7 (cf' := (9, [some (.int l0), some (.ref 200), some (.int 7), some (.int 0), none], [], σ)) rfl ?_
  exact X_isPrime_g9 zF h
def X_prime (l1 : Int32) (σ : zSt) : Option (Int32 × zSt) := (X_isPrime l1 σ).bind fun v1 => if ¬ v1 = 0 then (zb2 (His_tell 4 0 0 l1 σ) fun v2 σ3 => some (v2, σ3)) else (some ((-1), σ))
theorem X_prime_g {l1 : Int32} {σ : zSt} {r : Int32 × zSt} (h : X_prime l1 σ = some r) : zGo zPT zmlc (zPT 114) (0, zent (zmlc 114) [.ref 0, .int l1], [], σ) (some (.int r.1), r.2) := by
  unfold X_prime at h
  show zGo zPT zmlc zP_114 (0, [some (.ref 0), some (.int l1)], [], σ) _
  refine zGo.sts 1 (cf' := (1, [some (.ref 0), some (.int l1)], [.int l1], σ)) rfl ?_
  obtain ⟨v1, hv, h⟩ := zbd h
  refine zGo.call rfl rfl (X_isPrime_g hv) ?_
  by_cases hb4 : ¬ v1 = 0
  · replace h := zif_t hb4 h
    refine zI_ne_t rfl hb4 ?_
    refine zGo.sts 8 (cf' := (21, [some (.ref 0), some (.int l1)], [.int l1, .int 0, .int 0, .int 4, .ref 1, .ref 29], σ)) rfl ?_
    obtain ⟨v2, σ3, hv, h⟩ := zbd2 h
    refine zGo.call rfl rfl (His_tell_g hv) ?_
    obtain rfl := Option.some.inj h
    exact zGo.ret rfl rfl
  · replace h := zif_f hb4 h
    refine zI_ne_f rfl hb4 ?_
    refine zGo.sts 1 (cf' := (8, [some (.ref 0), some (.int l1)], [.int (-1)], σ)) rfl ?_
    obtain rfl := Option.some.inj h
    exact zGo.ret rfl rfl
def Grd_modulo (l1 : Int32) (σ : zSt) : Option (Int32) := if 1 ≤ (σ 51 1) then ((zrmq l1 (σ 51 1)).bind fun v1 => if 0 ≤ v1 then (some v1) else (some (v1 + (σ 51 1)))) else (some 0)
theorem Grd_modulo_g {l1 : Int32} {σ : zSt} {r : Int32} (h : Grd_modulo l1 σ = some r) : zGo zPT zmlc (zPT 48) (0, zent (zmlc 48) [.ref 51, .int l1], [], σ) (some (.int r), σ) := by
  unfold Grd_modulo at h
  show zGo zPT zmlc zP_48 (0, [some (.ref 51), some (.int l1), none], [], σ) _
  refine zGo.sts 3 (cf' := (5, [some (.ref 51), some (.int l1), none], [.int 1, .int (σ 51 1)], σ)) rfl ?_
  by_cases hb3 : 1 ≤ (σ 51 1)
  · replace h := zif_t hb3 h
    refine zC_ge_t rfl hb3 ?_
    refine zGo.sts 3 (cf' := (15, [some (.ref 51), some (.int l1), none], [.int (σ 51 1), .int l1], σ)) rfl ?_
    obtain ⟨v1, hv, h⟩ := zbd h
    refine zG_div rfl hv ?_
    refine zGo.sts 2 (cf' := (18, [some (.ref 51), some (.int l1), some (.int v1)], [.int v1], σ)) rfl ?_
    by_cases hb2 : 0 ≤ v1
    · replace h := zif_t hb2 h
      refine zI_ge_t rfl hb2 ?_
      refine zGo.sts 1 (cf' := (31, [some (.ref 51), some (.int l1), some (.int v1)], [.int v1], σ)) rfl ?_
      obtain rfl := Option.some.inj h
      exact zGo.ret rfl rfl
    · replace h := zif_f hb2 h
      refine zI_ge_f rfl hb2 ?_
      refine zGo.sts 5 (cf' := (31, [some (.ref 51), some (.int l1), some (.int v1)], [.int (v1 + (σ 51 1))], σ)) rfl ?_
      obtain rfl := Option.some.inj h
      exact zGo.ret rfl rfl
  · replace h := zif_f hb3 h
    refine zC_ge_f rfl hb3 ?_
    refine zGo.sts 1 (cf' := (9, [some (.ref 51), some (.int l1), none], [.int 0], σ)) rfl ?_
    obtain rfl := Option.some.inj h
    exact zGo.ret rfl rfl
def Grd_take_c28 (c18 : Int32 → zSt → Option (zSt)) : Nat → Int32 → Int32 → zSt → Option (zSt)
  | 0, _, _, _ => none
  | n + 1, l2, l3, σ => if (σ 51 0) ≤ l3 then (c18 (l2 + 1) σ) else ((zlr σ 52 l2).bind fun v4 => (zlr σ 5 l2).bind fun v5 => (zld σ v5 l3).bind fun v6 => (Grd_modulo v6 σ).bind fun v7 => (zst σ v4 l3 v7).bind fun σ8 => Grd_take_c28 c18 n l2 (l3 + 1) σ8)
theorem Grd_take_g28 {c18 : Int32 → zSt → Option (zSt)} (hc18 : ∀ {d3 : Option Value} {l2 : Int32} {σ : zSt} {r : zSt}, c18 l2 σ = some r → zGo zPT zmlc zP_47 (18, [some (.ref 51), some (.ref 1), some (.int l2), d3], [], σ) (none, r)) : ∀ (n : Nat) {l2 : Int32} {l3 : Int32} {σ : zSt} {r : zSt}, Grd_take_c28 c18 n l2 l3 σ = some r → zGo zPT zmlc zP_47 (28, [some (.ref 51), some (.ref 1), some (.int l2), some (.int l3)], [], σ) (none, r) := by
  intro n
  induction n with
  | zero => intro l2 l3 σ r h; cases h
  | succ n ih =>
    intro l2 l3 σ r h
    rw [Grd_take_c28] at h
    refine zGo.sts 3 (cf' := (33, [some (.ref 51), some (.ref 1), some (.int l2), some (.int l3)], [.int (σ 51 0), .int l3], σ)) rfl ?_
    by_cases hb9 : (σ 51 0) ≤ l3
    · replace h := zif_t hb9 h
      refine zC_ge_t rfl hb9 ?_
      refine zGo.sts 2 (cf' := (18, [some (.ref 51), some (.ref 1), some (.int (l2 + 1)), some (.int l3)], [], σ)) rfl ?_
      exact hc18 h
    · replace h := zif_f hb9 h
      refine zC_ge_f rfl hb9 ?_
      refine zGo.sts 3 (cf' := (41, [some (.ref 51), some (.ref 1), some (.int l2), some (.int l3)], [.int l2, .ref 52], σ)) rfl ?_
      obtain ⟨v4, hv, h⟩ := zbd h
      refine zG_lr rfl hv ?_
      refine zGo.sts 5 (cf' := (49, [some (.ref 51), some (.ref 1), some (.int l2), some (.int l3)], [.int l2, .ref 5, .ref 51, .int l3, .ref v4], σ)) rfl ?_
      obtain ⟨v5, hv, h⟩ := zbd h
      refine zG_lr rfl hv ?_
      refine zGo.sts 1 (cf' := (51, [some (.ref 51), some (.ref 1), some (.int l2), some (.int l3)], [.int l3, .ref v5, .ref 51, .int l3, .ref v4], σ)) rfl ?_
      obtain ⟨v6, hv, h⟩ := zbd h
      refine zG_ld rfl hv ?_
      obtain ⟨v7, hv, h⟩ := zbd h
      refine zGo.call rfl rfl (Grd_modulo_g hv) ?_
      obtain ⟨σ8, hv, h⟩ := zbd h
      refine zG_st rfl hv ?_
      refine zGo.sts 2 (cf' := (28, [some (.ref 51), some (.ref 1), some (.int l2), some (.int (l3 + 1))], [], σ8)) rfl ?_
      exact ih h
def Grd_take_c18 : Nat → Int32 → zSt → Option (zSt)
  | 0, _, _ => none
  | n + 1, l2, σ => if (σ 51 0) ≤ l2 then (some σ) else (Grd_take_c28 (Grd_take_c18 n) zF l2 0 σ)
theorem Grd_take_g18 : ∀ (n : Nat) {d3 : Option Value} {l2 : Int32} {σ : zSt} {r : zSt}, Grd_take_c18 n l2 σ = some r → zGo zPT zmlc zP_47 (18, [some (.ref 51), some (.ref 1), some (.int l2), d3], [], σ) (none, r) := by
  intro n
  induction n with
  | zero => intro d3 l2 σ r h; cases h
  | succ n ih =>
    intro d3 l2 σ r h
    rw [Grd_take_c18] at h
    refine zGo.sts 3 (cf' := (23, [some (.ref 51), some (.ref 1), some (.int l2), d3], [.int (σ 51 0), .int l2], σ)) rfl ?_
    by_cases hb3 : (σ 51 0) ≤ l2
    · replace h := zif_t hb3 h
      refine zC_ge_t rfl hb3 ?_
      obtain rfl := Option.some.inj h
      exact zGo.ret rfl rfl
    · replace h := zif_f hb3 h
      refine zC_ge_f rfl hb3 ?_
      refine zGo.sts 2 (cf' := (28, [some (.ref 51), some (.ref 1), some (.int l2), some (.int 0)], [], σ)) rfl ?_
      exact Grd_take_g28 ih zF h
def Grd_take (σ : zSt) : Option (zSt) := zlet (su σ 51 0 (σ 1 0)) fun σ1 => zlet (su σ1 51 1 (σ1 1 3)) fun σ2 => Grd_take_c18 zF 0 σ2
theorem Grd_take_g {σ : zSt} {r : zSt} (h : Grd_take σ = some r) : zGo zPT zmlc (zPT 47) (0, zent (zmlc 47) [.ref 51, .ref 1], [], σ) (none, r) := by
  unfold Grd_take at h
  show zGo zPT zmlc zP_47 (0, [some (.ref 51), some (.ref 1), none, none], [], σ) _
  refine zGo.sts 4 (cf' := (8, [some (.ref 51), some (.ref 1), none, none], [], (su σ 51 0 (σ 1 0)))) rfl ?_
  replace h := zlet_of h
  generalize su σ 51 0 (σ 1 0) = σ1 at h ⊢
  refine zGo.sts 4 (cf' := (16, [some (.ref 51), some (.ref 1), none, none], [], (su σ1 51 1 (σ1 1 3)))) rfl ?_
  replace h := zlet_of h
  generalize su σ1 51 1 (σ1 1 3) = σ2 at h ⊢
  refine zGo.sts 2 (cf' := (18, [some (.ref 51), some (.ref 1), some (.int 0), none], [], σ2)) rfl ?_
  exact Grd_take_g18 zF h
def Grd_firstWith_c3 (σ : zSt) : Nat → Int32 → Int32 → Int32 → Option (Int32)
  | 0, _, _, _ => none
  | n + 1, l1, l3, l4 => if l3 ≤ l4 then (some (-1)) else ((zlr σ 52 l4).bind fun v1 => (zld σ v1 l1).bind fun v2 => if v2 = 0 then (Grd_firstWith_c3 σ n l1 l3 (l4 + 1)) else (some l4))
theorem Grd_firstWith_g3 {σ : zSt} : ∀ (n : Nat) {d2 : Option Value} {l1 : Int32} {l3 : Int32} {l4 : Int32} {r : Int32}, Grd_firstWith_c3 σ n l1 l3 l4 = some r → zGo zPT zmlc zP_50 (3, [some (.ref 51), some (.int l1), d2, some (.int l3), some (.int l4)], [], σ) (some (.int r), σ) := by
  intro n
  induction n with
  | zero => intro d2 l1 l3 l4 r h; cases h
  | succ n ih =>
    intro d2 l1 l3 l4 r h
    rw [Grd_firstWith_c3] at h
    refine zGo.sts 2 (cf' := (6, [some (.ref 51), some (.int l1), d2, some (.int l3), some (.int l4)], [.int l3, .int l4], σ)) rfl ?_
    by_cases hb4 : l3 ≤ l4
    · replace h := zif_t hb4 h
      refine zC_ge_t rfl hb4 ?_
      refine zGo.sts 1 (cf' := (31, [some (.ref 51), some (.int l1), d2, some (.int l3), some (.int l4)], [.int (-1)], σ)) rfl ?_
      obtain rfl := Option.some.inj h
      exact zGo.ret rfl rfl
    · replace h := zif_f hb4 h
      refine zC_ge_f rfl hb4 ?_
      refine zGo.sts 3 (cf' := (15, [some (.ref 51), some (.int l1), d2, some (.int l3), some (.int l4)], [.int l4, .ref 52], σ)) rfl ?_
      obtain ⟨v1, hv, h⟩ := zbd h
      refine zG_lr rfl hv ?_
      refine zGo.sts 1 (cf' := (17, [some (.ref 51), some (.int l1), d2, some (.int l3), some (.int l4)], [.int l1, .ref v1], σ)) rfl ?_
      obtain ⟨v2, hv, h⟩ := zbd h
      refine zG_ld rfl hv ?_
      by_cases hb3 : v2 = 0
      · replace h := zif_t hb3 h
        refine zI_eq_t rfl hb3 ?_
        refine zGo.sts 2 (cf' := (3, [some (.ref 51), some (.int l1), d2, some (.int l3), some (.int (l4 + 1))], [], σ)) rfl ?_
        exact ih h
      · replace h := zif_f hb3 h
        refine zI_eq_f rfl hb3 ?_
        refine zGo.sts 1 (cf' := (23, [some (.ref 51), some (.int l1), d2, some (.int l3), some (.int l4)], [.int l4], σ)) rfl ?_
        obtain rfl := Option.some.inj h
        exact zGo.ret rfl rfl
def Grd_firstWith (l1 : Int32) (l2 : Int32) (l3 : Int32) (σ : zSt) : Option (Int32) := Grd_firstWith_c3 σ zF l1 l3 l2
theorem Grd_firstWith_g {l1 : Int32} {l2 : Int32} {l3 : Int32} {σ : zSt} {r : Int32} (h : Grd_firstWith l1 l2 l3 σ = some r) : zGo zPT zmlc (zPT 50) (0, zent (zmlc 50) [.ref 51, .int l1, .int l2, .int l3], [], σ) (some (.int r), σ) := by
  unfold Grd_firstWith at h
  show zGo zPT zmlc zP_50 (0, [some (.ref 51), some (.int l1), some (.int l2), some (.int l3), none], [], σ) _
  refine zGo.sts 2 (cf' := (3, [some (.ref 51), some (.int l1), some (.int l2), some (.int l3), some (.int l2)], [], σ)) rfl ?_
  exact Grd_firstWith_g3 zF h
def Grd_swapRows (l1 : Int32) (l2 : Int32) (σ : zSt) : Option (zSt) := (zlr σ 52 l1).bind fun v1 => (zlr σ 52 l2).bind fun v2 => (zsR σ 52 l1 v2).bind fun σ3 => (zsR σ3 52 l2 v1).bind fun σ4 => some σ4
theorem Grd_swapRows_g {l1 : Int32} {l2 : Int32} {σ : zSt} {r : zSt} (h : Grd_swapRows l1 l2 σ = some r) : zGo zPT zmlc (zPT 51) (0, zent (zmlc 51) [.ref 51, .int l1, .int l2], [], σ) (none, r) := by
  unfold Grd_swapRows at h
  show zGo zPT zmlc zP_51 (0, [some (.ref 51), some (.int l1), some (.int l2), none], [], σ) _
  refine zGo.sts 3 (cf' := (5, [some (.ref 51), some (.int l1), some (.int l2), none], [.int l1, .ref 52], σ)) rfl ?_
  obtain ⟨v1, hv, h⟩ := zbd h
  refine zG_lr rfl hv ?_
  refine zGo.sts 7 (cf' := (17, [some (.ref 51), some (.int l1), some (.int l2), some (.ref v1)], [.int l2, .ref 52, .int l1, .ref 52], σ)) rfl ?_
  obtain ⟨v2, hv, h⟩ := zbd h
  refine zG_lr rfl hv ?_
  obtain ⟨σ3, hv, h⟩ := zbd h
  refine zG_sR rfl hv ?_
  refine zGo.sts 4 (cf' := (25, [some (.ref 51), some (.int l1), some (.int l2), some (.ref v1)], [.ref v1, .int l2, .ref 52], σ3)) rfl ?_
  obtain ⟨σ4, hv, h⟩ := zbd h
  refine zG_sR rfl hv ?_
  obtain rfl := Option.some.inj h
  exact zGo.ret rfl rfl
def Grd_inverseOf_c2 (σ : zSt) : Nat → Int32 → Int32 → Option (Int32)
  | 0, _, _ => none
  | n + 1, l1, l2 => if (σ 51 1) ≤ l2 then (some 1) else ((Grd_modulo (l1 * l2) σ).bind fun v1 => if ¬ v1 = 1 then (Grd_inverseOf_c2 σ n l1 (l2 + 1)) else (some l2))
theorem Grd_inverseOf_g2 {σ : zSt} : ∀ (n : Nat) {l1 : Int32} {l2 : Int32} {r : Int32}, Grd_inverseOf_c2 σ n l1 l2 = some r → zGo zPT zmlc zP_53 (2, [some (.ref 51), some (.int l1), some (.int l2)], [], σ) (some (.int r), σ) := by
  intro n
  induction n with
  | zero => intro l1 l2 r h; cases h
  | succ n ih =>
    intro l1 l2 r h
    rw [Grd_inverseOf_c2] at h
    refine zGo.sts 3 (cf' := (7, [some (.ref 51), some (.int l1), some (.int l2)], [.int (σ 51 1), .int l2], σ)) rfl ?_
    by_cases hb3 : (σ 51 1) ≤ l2
    · replace h := zif_t hb3 h
      refine zC_ge_t rfl hb3 ?_
      refine zGo.sts 1 (cf' := (30, [some (.ref 51), some (.int l1), some (.int l2)], [.int 1], σ)) rfl ?_
      obtain rfl := Option.some.inj h
      exact zGo.ret rfl rfl
    · replace h := zif_f hb3 h
      refine zC_ge_f rfl hb3 ?_
      refine zGo.sts 4 (cf' := (14, [some (.ref 51), some (.int l1), some (.int l2)], [.int (l1 * l2), .ref 51], σ)) rfl ?_
      obtain ⟨v1, hv, h⟩ := zbd h
      refine zGo.call rfl rfl (Grd_modulo_g hv) ?_
      refine zGo.sts 1 (cf' := (18, [some (.ref 51), some (.int l1), some (.int l2)], [.int 1, .int v1], σ)) rfl ?_
      by_cases hb2 : ¬ v1 = 1
      · replace h := zif_t hb2 h
        refine zC_ne_t rfl hb2 ?_
        refine zGo.sts 2 (cf' := (2, [some (.ref 51), some (.int l1), some (.int (l2 + 1))], [], σ)) rfl ?_
        exact ih h
      · replace h := zif_f hb2 h
        refine zC_ne_f rfl hb2 ?_
        refine zGo.sts 1 (cf' := (22, [some (.ref 51), some (.int l1), some (.int l2)], [.int l2], σ)) rfl ?_
        obtain rfl := Option.some.inj h
        exact zGo.ret rfl rfl
def Grd_inverseOf (l1 : Int32) (σ : zSt) : Option (Int32) := Grd_inverseOf_c2 σ zF l1 1
theorem Grd_inverseOf_g {l1 : Int32} {σ : zSt} {r : Int32} (h : Grd_inverseOf l1 σ = some r) : zGo zPT zmlc (zPT 53) (0, zent (zmlc 53) [.ref 51, .int l1], [], σ) (some (.int r), σ) := by
  unfold Grd_inverseOf at h
  show zGo zPT zmlc zP_53 (0, [some (.ref 51), some (.int l1), none], [], σ) _
  refine zGo.sts 2 (cf' := (2, [some (.ref 51), some (.int l1), some (.int 1)], [], σ)) rfl ?_
  exact Grd_inverseOf_g2 zF h
def Grd_leadWithOne_c11 : Nat → Nat → Int32 → Int32 → zSt → Option (zSt)
  | 0, _, _, _, _ => none
  | n + 1, l1, l3, l4, σ => if (σ 51 0) ≤ l4 then (some σ) else ((zld σ l1 l4).bind fun v3 => (Grd_modulo (v3 * l3) σ).bind fun v4 => (zst σ l1 l4 v4).bind fun σ5 => Grd_leadWithOne_c11 n l1 l3 (l4 + 1) σ5)
theorem Grd_leadWithOne_g11 : ∀ (n : Nat) {d2 : Option Value} {l1 : Nat} {l3 : Int32} {l4 : Int32} {σ : zSt} {r : zSt}, Grd_leadWithOne_c11 n l1 l3 l4 σ = some r → zGo zPT zmlc zP_52 (11, [some (.ref 51), some (.ref l1), d2, some (.int l3), some (.int l4)], [], σ) (none, r) := by
  intro n
  induction n with
  | zero => intro d2 l1 l3 l4 σ r h; cases h
  | succ n ih =>
    intro d2 l1 l3 l4 σ r h
    rw [Grd_leadWithOne_c11] at h
    refine zGo.sts 3 (cf' := (17, [some (.ref 51), some (.ref l1), d2, some (.int l3), some (.int l4)], [.int (σ 51 0), .int l4], σ)) rfl ?_
    by_cases hb6 : (σ 51 0) ≤ l4
    · replace h := zif_t hb6 h
      refine zC_ge_t rfl hb6 ?_
      obtain rfl := Option.some.inj h
      exact zGo.ret rfl rfl
    · replace h := zif_f hb6 h
      refine zC_ge_f rfl hb6 ?_
      refine zGo.sts 5 (cf' := (27, [some (.ref 51), some (.ref l1), d2, some (.int l3), some (.int l4)], [.int l4, .ref l1, .ref 51, .int l4, .ref l1], σ)) rfl ?_
      obtain ⟨v3, hv, h⟩ := zbd h
      refine zG_ld rfl hv ?_
      refine zGo.sts 2 (cf' := (30, [some (.ref 51), some (.ref l1), d2, some (.int l3), some (.int l4)], [.int (v3 * l3), .ref 51, .int l4, .ref l1], σ)) rfl ?_
      obtain ⟨v4, hv, h⟩ := zbd h
      refine zGo.call rfl rfl (Grd_modulo_g hv) ?_
      obtain ⟨σ5, hv, h⟩ := zbd h
      refine zG_st rfl hv ?_
      refine zGo.sts 2 (cf' := (11, [some (.ref 51), some (.ref l1), d2, some (.int l3), some (.int (l4 + 1))], [], σ5)) rfl ?_
      exact ih h
def Grd_leadWithOne (l1 : Nat) (l2 : Int32) (σ : zSt) : Option (zSt) := (zld σ l1 l2).bind fun v1 => (Grd_inverseOf v1 σ).bind fun v2 => Grd_leadWithOne_c11 zF l1 v2 0 σ
theorem Grd_leadWithOne_g {l1 : Nat} {l2 : Int32} {σ : zSt} {r : zSt} (h : Grd_leadWithOne l1 l2 σ = some r) : zGo zPT zmlc (zPT 52) (0, zent (zmlc 52) [.ref 51, .ref l1, .int l2], [], σ) (none, r) := by
  unfold Grd_leadWithOne at h
  show zGo zPT zmlc zP_52 (0, [some (.ref 51), some (.ref l1), some (.int l2), none, none], [], σ) _
  refine zGo.sts 3 (cf' := (3, [some (.ref 51), some (.ref l1), some (.int l2), none, none], [.int l2, .ref l1, .ref 51], σ)) rfl ?_
  obtain ⟨v1, hv, h⟩ := zbd h
  refine zG_ld rfl hv ?_
  obtain ⟨v2, hv, h⟩ := zbd h
  refine zGo.call rfl rfl (Grd_inverseOf_g hv) ?_
  refine zGo.sts 3 (cf' := (11, [some (.ref 51), some (.ref l1), some (.int l2), some (.int v2), some (.int 0)], [], σ)) rfl ?_
  exact Grd_leadWithOne_g11 zF h
def Grd_clear_c14 : Nat → Nat → Nat → Int32 → Int32 → zSt → Option (zSt)
  | 0, _, _, _, _, _ => none
  | n + 1, l1, l2, l4, l5, σ => if (σ 51 0) ≤ l5 then (some σ) else ((zld σ l1 l5).bind fun v3 => (zld σ l2 l5).bind fun v4 => (Grd_modulo (v3 - (l4 * v4)) σ).bind fun v5 => (zst σ l1 l5 v5).bind fun σ6 => Grd_clear_c14 n l1 l2 l4 (l5 + 1) σ6)
theorem Grd_clear_g14 : ∀ (n : Nat) {d3 : Option Value} {l1 : Nat} {l2 : Nat} {l4 : Int32} {l5 : Int32} {σ : zSt} {r : zSt}, Grd_clear_c14 n l1 l2 l4 l5 σ = some r → zGo zPT zmlc zP_54 (14, [some (.ref 51), some (.ref l1), some (.ref l2), d3, some (.int l4), some (.int l5)], [], σ) (none, r) := by
  intro n
  induction n with
  | zero => intro d3 l1 l2 l4 l5 σ r h; cases h
  | succ n ih =>
    intro d3 l1 l2 l4 l5 σ r h
    rw [Grd_clear_c14] at h
    refine zGo.sts 3 (cf' := (20, [some (.ref 51), some (.ref l1), some (.ref l2), d3, some (.int l4), some (.int l5)], [.int (σ 51 0), .int l5], σ)) rfl ?_
    by_cases hb7 : (σ 51 0) ≤ l5
    · replace h := zif_t hb7 h
      refine zC_ge_t rfl hb7 ?_
      obtain rfl := Option.some.inj h
      exact zGo.ret rfl rfl
    · replace h := zif_f hb7 h
      refine zC_ge_f rfl hb7 ?_
      refine zGo.sts 5 (cf' := (30, [some (.ref 51), some (.ref l1), some (.ref l2), d3, some (.int l4), some (.int l5)], [.int l5, .ref l1, .ref 51, .int l5, .ref l1], σ)) rfl ?_
      obtain ⟨v3, hv, h⟩ := zbd h
      refine zG_ld rfl hv ?_
      refine zGo.sts 3 (cf' := (36, [some (.ref 51), some (.ref l1), some (.ref l2), d3, some (.int l4), some (.int l5)], [.int l5, .ref l2, .int l4, .int v3, .ref 51, .int l5, .ref l1], σ)) rfl ?_
      obtain ⟨v4, hv, h⟩ := zbd h
      refine zG_ld rfl hv ?_
      refine zGo.sts 2 (cf' := (39, [some (.ref 51), some (.ref l1), some (.ref l2), d3, some (.int l4), some (.int l5)], [.int (v3 - (l4 * v4)), .ref 51, .int l5, .ref l1], σ)) rfl ?_
      obtain ⟨v5, hv, h⟩ := zbd h
      refine zGo.call rfl rfl (Grd_modulo_g hv) ?_
      obtain ⟨σ6, hv, h⟩ := zbd h
      refine zG_st rfl hv ?_
      refine zGo.sts 2 (cf' := (14, [some (.ref 51), some (.ref l1), some (.ref l2), d3, some (.int l4), some (.int (l5 + 1))], [], σ6)) rfl ?_
      exact ih h
def Grd_clear (l1 : Nat) (l2 : Nat) (l3 : Int32) (σ : zSt) : Option (zSt) := (zld σ l1 l3).bind fun v1 => if ¬ v1 = 0 then (Grd_clear_c14 zF l1 l2 v1 0 σ) else (some σ)
theorem Grd_clear_g {l1 : Nat} {l2 : Nat} {l3 : Int32} {σ : zSt} {r : zSt} (h : Grd_clear l1 l2 l3 σ = some r) : zGo zPT zmlc (zPT 54) (0, zent (zmlc 54) [.ref 51, .ref l1, .ref l2, .int l3], [], σ) (none, r) := by
  unfold Grd_clear at h
  show zGo zPT zmlc zP_54 (0, [some (.ref 51), some (.ref l1), some (.ref l2), some (.int l3), none, none], [], σ) _
  refine zGo.sts 2 (cf' := (2, [some (.ref 51), some (.ref l1), some (.ref l2), some (.int l3), none, none], [.int l3, .ref l1], σ)) rfl ?_
  obtain ⟨v1, hv, h⟩ := zbd h
  refine zG_ld rfl hv ?_
  refine zGo.sts 2 (cf' := (7, [some (.ref 51), some (.ref l1), some (.ref l2), some (.int l3), some (.int v1), none], [.int v1], σ)) rfl ?_
  by_cases hb2 : ¬ v1 = 0
  · replace h := zif_t hb2 h
    refine zI_ne_t rfl hb2 ?_
    refine zGo.sts 2 (cf' := (14, [some (.ref 51), some (.ref l1), some (.ref l2), some (.int l3), some (.int v1), some (.int 0)], [], σ)) rfl ?_
    exact Grd_clear_g14 zF h
  · replace h := zif_f hb2 h
    refine zI_ne_f rfl hb2 ?_
    obtain rfl := Option.some.inj h
    exact zGo.ret rfl rfl
def Grd_reduce_c54 (c4 : Int32 → Int32 → Int32 → zSt → Option (Int32 × zSt)) : Nat → Int32 → Int32 → Int32 → Int32 → zSt → Option (Int32 × zSt)
  | 0, _, _, _, _, _ => none
  | n + 1, l1, l2, l3, l5, σ => if l1 ≤ l5 then ((zst σ 62 l3 l2).bind fun σ8 => c4 l1 (l2 + 1) (l3 + 1) σ8) else (if l5 = l2 then (Grd_reduce_c54 c4 n l1 l2 l3 (l5 + 1) σ) else ((zlr σ 52 l5).bind fun v9 => (zlr σ 52 l2).bind fun v10 => (Grd_clear v9 v10 l3 σ).bind fun σ11 => Grd_reduce_c54 c4 n l1 l2 l3 (l5 + 1) σ11))
theorem Grd_reduce_g54 {c4 : Int32 → Int32 → Int32 → zSt → Option (Int32 × zSt)} (hc4 : ∀ {d4 : Option Value} {d5 : Option Value} {l1 : Int32} {l2 : Int32} {l3 : Int32} {σ : zSt} {r : Int32 × zSt}, c4 l1 l2 l3 σ = some r → zGo zPT zmlc zP_49 (4, [some (.ref 51), some (.int l1), some (.int l2), some (.int l3), d4, d5], [], σ) (some (.int r.1), r.2)) : ∀ (n : Nat) {d4 : Option Value} {l1 : Int32} {l2 : Int32} {l3 : Int32} {l5 : Int32} {σ : zSt} {r : Int32 × zSt}, Grd_reduce_c54 c4 n l1 l2 l3 l5 σ = some r → zGo zPT zmlc zP_49 (54, [some (.ref 51), some (.int l1), some (.int l2), some (.int l3), d4, some (.int l5)], [], σ) (some (.int r.1), r.2) := by
  intro n
  induction n with
  | zero => intro d4 l1 l2 l3 l5 σ r h; cases h
  | succ n ih =>
    intro d4 l1 l2 l3 l5 σ r h
    rw [Grd_reduce_c54] at h
    refine zGo.sts 2 (cf' := (57, [some (.ref 51), some (.int l1), some (.int l2), some (.int l3), d4, some (.int l5)], [.int l1, .int l5], σ)) rfl ?_
    by_cases hb13 : l1 ≤ l5
    · replace h := zif_t hb13 h
      refine zC_ge_t rfl hb13 ?_
      refine zGo.sts 4 (cf' := (96, [some (.ref 51), some (.int l1), some (.int l2), some (.int l3), d4, some (.int l5)], [.int l2, .int l3, .ref 62], σ)) rfl ?_
      obtain ⟨σ8, hv, h⟩ := zbd h
      refine zG_st rfl hv ?_
      refine zGo.sts 3 (cf' := (4, [some (.ref 51), some (.int l1), some (.int (l2 + 1)), some (.int (l3 + 1)), d4, some (.int l5)], [], σ8)) rfl ?_
      exact hc4 h
    · replace h := zif_f hb13 h
      refine zC_ge_f rfl hb13 ?_
      refine zGo.sts 2 (cf' := (63, [some (.ref 51), some (.int l1), some (.int l2), some (.int l3), d4, some (.int l5)], [.int l2, .int l5], σ)) rfl ?_
      by_cases hb12 : l5 = l2
      · replace h := zif_t hb12 h
        refine zC_eq_t rfl hb12 ?_
        refine zGo.sts 2 (cf' := (54, [some (.ref 51), some (.int l1), some (.int l2), some (.int l3), d4, some (.int (l5 + 1))], [], σ)) rfl ?_
        exact ih h
      · replace h := zif_f hb12 h
        refine zC_eq_f rfl hb12 ?_
        refine zGo.sts 4 (cf' := (73, [some (.ref 51), some (.int l1), some (.int l2), some (.int l3), d4, some (.int l5)], [.int l5, .ref 52, .ref 51], σ)) rfl ?_
        obtain ⟨v9, hv, h⟩ := zbd h
        refine zG_lr rfl hv ?_
        refine zGo.sts 3 (cf' := (79, [some (.ref 51), some (.int l1), some (.int l2), some (.int l3), d4, some (.int l5)], [.int l2, .ref 52, .ref v9, .ref 51], σ)) rfl ?_
        obtain ⟨v10, hv, h⟩ := zbd h
        refine zG_lr rfl hv ?_
        refine zGo.sts 1 (cf' := (81, [some (.ref 51), some (.int l1), some (.int l2), some (.int l3), d4, some (.int l5)], [.int l3, .ref v10, .ref v9, .ref 51], σ)) rfl ?_
        obtain ⟨σ11, hv, h⟩ := zbd h
        refine zGo.call rfl rfl (Grd_clear_g hv) ?_
        refine zGo.sts 2 (cf' := (54, [some (.ref 51), some (.int l1), some (.int l2), some (.int l3), d4, some (.int (l5 + 1))], [], σ11)) rfl ?_
        exact ih h
def Grd_reduce_c4 : Nat → Int32 → Int32 → Int32 → zSt → Option (Int32 × zSt)
  | 0, _, _, _, _ => none
  | n + 1, l1, l2, l3, σ => if (σ 51 0) ≤ l3 then (some (l2, σ)) else ((zst σ 62 l3 (-1)).bind fun σ1 => (Grd_firstWith l3 l2 l1 σ1).bind fun v2 => if v2 < 0 then (Grd_reduce_c4 n l1 l2 (l3 + 1) σ1) else ((Grd_swapRows v2 l2 σ1).bind fun σ3 => (zlr σ3 52 l2).bind fun v4 => (Grd_leadWithOne v4 l3 σ3).bind fun σ5 => Grd_reduce_c54 (Grd_reduce_c4 n) zF l1 l2 l3 0 σ5))
theorem Grd_reduce_g4 : ∀ (n : Nat) {d4 : Option Value} {d5 : Option Value} {l1 : Int32} {l2 : Int32} {l3 : Int32} {σ : zSt} {r : Int32 × zSt}, Grd_reduce_c4 n l1 l2 l3 σ = some r → zGo zPT zmlc zP_49 (4, [some (.ref 51), some (.int l1), some (.int l2), some (.int l3), d4, d5], [], σ) (some (.int r.1), r.2) := by
  intro n
  induction n with
  | zero => intro d4 d5 l1 l2 l3 σ r h; cases h
  | succ n ih =>
    intro d4 d5 l1 l2 l3 σ r h
    rw [Grd_reduce_c4] at h
    refine zGo.sts 3 (cf' := (9, [some (.ref 51), some (.int l1), some (.int l2), some (.int l3), d4, d5], [.int (σ 51 0), .int l3], σ)) rfl ?_
    by_cases hb7 : (σ 51 0) ≤ l3
    · replace h := zif_t hb7 h
      refine zC_ge_t rfl hb7 ?_
      refine zGo.sts 1 (cf' := (107, [some (.ref 51), some (.int l1), some (.int l2), some (.int l3), d4, d5], [.int l2], σ)) rfl ?_
      obtain rfl := Option.some.inj h
      exact zGo.ret rfl rfl
    · replace h := zif_f hb7 h
      refine zC_ge_f rfl hb7 ?_
      refine zGo.sts 4 (cf' := (18, [some (.ref 51), some (.int l1), some (.int l2), some (.int l3), d4, d5], [.int (-1), .int l3, .ref 62], σ)) rfl ?_
      obtain ⟨σ1, hv, h⟩ := zbd h
      refine zG_st rfl hv ?_
      refine zGo.sts 4 (cf' := (23, [some (.ref 51), some (.int l1), some (.int l2), some (.int l3), d4, d5], [.int l1, .int l2, .int l3, .ref 51], σ1)) rfl ?_
      obtain ⟨v2, hv, h⟩ := zbd h
      refine zGo.call rfl rfl (Grd_firstWith_g hv) ?_
      refine zGo.sts 2 (cf' := (30, [some (.ref 51), some (.int l1), some (.int l2), some (.int l3), some (.int v2), d5], [.int v2], σ1)) rfl ?_
      by_cases hb6 : v2 < 0
      · replace h := zif_t hb6 h
        refine zI_lt_t rfl hb6 ?_
        refine zGo.sts 2 (cf' := (4, [some (.ref 51), some (.int l1), some (.int l2), some (.int (l3 + 1)), some (.int v2), d5], [], σ1)) rfl ?_
        exact ih h
      · replace h := zif_f hb6 h
        refine zI_lt_f rfl hb6 ?_
        refine zGo.sts 3 (cf' := (37, [some (.ref 51), some (.int l1), some (.int l2), some (.int l3), some (.int v2), d5], [.int l2, .int v2, .ref 51], σ1)) rfl ?_
        obtain ⟨σ3, hv, h⟩ := zbd h
        refine zGo.call rfl rfl (Grd_swapRows_g hv) ?_
        refine zGo.sts 4 (cf' := (46, [some (.ref 51), some (.int l1), some (.int l2), some (.int l3), some (.int v2), d5], [.int l2, .ref 52, .ref 51], σ3)) rfl ?_
        obtain ⟨v4, hv, h⟩ := zbd h
        refine zG_lr rfl hv ?_
        refine zGo.sts 1 (cf' := (48, [some (.ref 51), some (.int l1), some (.int l2), some (.int l3), some (.int v2), d5], [.int l3, .ref v4, .ref 51], σ3)) rfl ?_
        obtain ⟨σ5, hv, h⟩ := zbd h
        refine zGo.call rfl rfl (Grd_leadWithOne_g hv) ?_
        refine zGo.sts 2 (cf' := (54, [some (.ref 51), some (.int l1), some (.int l2), some (.int l3), some (.int v2), some (.int 0)], [], σ5)) rfl ?_
        exact Grd_reduce_g54 ih zF h
def Grd_reduce (l1 : Int32) (σ : zSt) : Option (Int32 × zSt) := Grd_reduce_c4 zF l1 0 0 σ
theorem Grd_reduce_g {l1 : Int32} {σ : zSt} {r : Int32 × zSt} (h : Grd_reduce l1 σ = some r) : zGo zPT zmlc (zPT 49) (0, zent (zmlc 49) [.ref 51, .int l1], [], σ) (some (.int r.1), r.2) := by
  unfold Grd_reduce at h
  show zGo zPT zmlc zP_49 (0, [some (.ref 51), some (.int l1), none, none, none, none], [], σ) _
  refine zGo.sts 4 (cf' := (4, [some (.ref 51), some (.int l1), some (.int 0), some (.int 0), none, none], [], σ)) rfl ?_
  exact Grd_reduce_g4 zF h
def X_rank (l1 : Int32) (σ : zSt) : Option (Int32 × zSt) := if l1 < 0 then (some ((-1), σ)) else (if l1 ≤ 1 then ((Grd_take σ).bind fun σ1 => zb2 (Grd_reduce (σ1 1 0) σ1) fun v2 σ3 => if ¬ l1 = 0 then (some ((σ3 1 0) - v2, σ3)) else (some (v2, σ3))) else (some ((-1), σ)))
theorem X_rank_g {l1 : Int32} {σ : zSt} {r : Int32 × zSt} (h : X_rank l1 σ = some r) : zGo zPT zmlc (zPT 115) (0, zent (zmlc 115) [.ref 0, .int l1], [], σ) (some (.int r.1), r.2) := by
  unfold X_rank at h
  show zGo zPT zmlc zP_115 (0, [some (.ref 0), some (.int l1), none], [], σ) _
  refine zGo.sts 1 (cf' := (1, [some (.ref 0), some (.int l1), none], [.int l1], σ)) rfl ?_
  by_cases hb6 : l1 < 0
  · replace h := zif_t hb6 h
    refine zI_lt_t rfl hb6 ?_
    refine zGo.sts 1 (cf' := (10, [some (.ref 0), some (.int l1), none], [.int (-1)], σ)) rfl ?_
    obtain rfl := Option.some.inj h
    exact zGo.ret rfl rfl
  · replace h := zif_f hb6 h
    refine zI_lt_f rfl hb6 ?_
    refine zGo.sts 2 (cf' := (6, [some (.ref 0), some (.int l1), none], [.int 1, .int l1], σ)) rfl ?_
    by_cases hb5 : l1 ≤ 1
    · replace h := zif_t hb5 h
      refine zC_le_t rfl hb5 ?_
      refine zGo.sts 4 (cf' := (19, [some (.ref 0), some (.int l1), none], [.ref 1, .ref 51], σ)) rfl ?_
      obtain ⟨σ1, hv, h⟩ := zbd h
      refine zGo.call rfl rfl (Grd_take_g hv) ?_
      refine zGo.sts 5 (cf' := (33, [some (.ref 0), some (.int l1), none], [.int (σ1 1 0), .ref 51], σ1)) rfl ?_
      obtain ⟨v2, σ3, hv, h⟩ := zbd2 h
      refine zGo.call rfl rfl (Grd_reduce_g hv) ?_
      refine zGo.sts 2 (cf' := (38, [some (.ref 0), some (.int l1), some (.int v2)], [.int l1], σ3)) rfl ?_
      by_cases hb4 : ¬ l1 = 0
      · replace h := zif_t hb4 h
        refine zI_ne_t rfl hb4 ?_
        refine zGo.sts 5 (cf' := (54, [some (.ref 0), some (.int l1), some (.int v2)], [.int ((σ3 1 0) - v2)], σ3)) rfl ?_
        obtain rfl := Option.some.inj h
        exact zGo.ret rfl rfl
      · replace h := zif_f hb4 h
        refine zI_ne_f rfl hb4 ?_
        refine zGo.sts 2 (cf' := (54, [some (.ref 0), some (.int l1), some (.int v2)], [.int v2], σ3)) rfl ?_
        obtain rfl := Option.some.inj h
        exact zGo.ret rfl rfl
    · replace h := zif_f hb5 h
      refine zC_le_f rfl hb5 ?_
      refine zGo.sts 1 (cf' := (10, [some (.ref 0), some (.int l1), none], [.int (-1)], σ)) rfl ?_
      obtain rfl := Option.some.inj h
      exact zGo.ret rfl rfl
def Grd_freeColumn_c4 (σ : zSt) : Nat → Int32 → Int32 → Int32 → Option (Int32)
  | 0, _, _, _ => none
  | n + 1, l1, l2, l3 => if (σ 51 0) ≤ l3 then (some (-1)) else ((zld σ 62 l3).bind fun v1 => if 0 ≤ v1 then (Grd_freeColumn_c4 σ n l1 l2 (l3 + 1)) else (if ¬ l2 = l1 then (Grd_freeColumn_c4 σ n l1 (l2 + 1) (l3 + 1)) else (some l3)))
theorem Grd_freeColumn_g4 {σ : zSt} : ∀ (n : Nat) {l1 : Int32} {l2 : Int32} {l3 : Int32} {r : Int32}, Grd_freeColumn_c4 σ n l1 l2 l3 = some r → zGo zPT zmlc zP_55 (4, [some (.ref 51), some (.int l1), some (.int l2), some (.int l3)], [], σ) (some (.int r), σ) := by
  intro n
  induction n with
  | zero => intro l1 l2 l3 r h; cases h
  | succ n ih =>
    intro l1 l2 l3 r h
    rw [Grd_freeColumn_c4] at h
    refine zGo.sts 3 (cf' := (9, [some (.ref 51), some (.int l1), some (.int l2), some (.int l3)], [.int (σ 51 0), .int l3], σ)) rfl ?_
    by_cases hb4 : (σ 51 0) ≤ l3
    · replace h := zif_t hb4 h
      refine zC_ge_t rfl hb4 ?_
      refine zGo.sts 1 (cf' := (38, [some (.ref 51), some (.int l1), some (.int l2), some (.int l3)], [.int (-1)], σ)) rfl ?_
      obtain rfl := Option.some.inj h
      exact zGo.ret rfl rfl
    · replace h := zif_f hb4 h
      refine zC_ge_f rfl hb4 ?_
      refine zGo.sts 3 (cf' := (17, [some (.ref 51), some (.int l1), some (.int l2), some (.int l3)], [.int l3, .ref 62], σ)) rfl ?_
      obtain ⟨v1, hv, h⟩ := zbd h
      refine zG_ld rfl hv ?_
      by_cases hb3 : 0 ≤ v1
      · replace h := zif_t hb3 h
        refine zI_ge_t rfl hb3 ?_
        refine zGo.sts 2 (cf' := (4, [some (.ref 51), some (.int l1), some (.int l2), some (.int (l3 + 1))], [], σ)) rfl ?_
        exact ih h
      · replace h := zif_f hb3 h
        refine zI_ge_f rfl hb3 ?_
        refine zGo.sts 2 (cf' := (23, [some (.ref 51), some (.int l1), some (.int l2), some (.int l3)], [.int l1, .int l2], σ)) rfl ?_
        by_cases hb2 : ¬ l2 = l1
        · replace h := zif_t hb2 h
          refine zC_ne_t rfl hb2 ?_
          refine zGo.sts 3 (cf' := (4, [some (.ref 51), some (.int l1), some (.int (l2 + 1)), some (.int (l3 + 1))], [], σ)) rfl ?_
          exact ih h
        · replace h := zif_f hb2 h
          refine zC_ne_f rfl hb2 ?_
          refine zGo.sts 1 (cf' := (27, [some (.ref 51), some (.int l1), some (.int l2), some (.int l3)], [.int l3], σ)) rfl ?_
          obtain rfl := Option.some.inj h
          exact zGo.ret rfl rfl
def Grd_freeColumn (l1 : Int32) (σ : zSt) : Option (Int32) := Grd_freeColumn_c4 σ zF l1 0 0
theorem Grd_freeColumn_g {l1 : Int32} {σ : zSt} {r : Int32} (h : Grd_freeColumn l1 σ = some r) : zGo zPT zmlc (zPT 55) (0, zent (zmlc 55) [.ref 51, .int l1], [], σ) (some (.int r), σ) := by
  unfold Grd_freeColumn at h
  show zGo zPT zmlc zP_55 (0, [some (.ref 51), some (.int l1), none, none], [], σ) _
  refine zGo.sts 4 (cf' := (4, [some (.ref 51), some (.int l1), some (.int 0), some (.int 0)], [], σ)) rfl ?_
  exact Grd_freeColumn_g4 zF h
def Grd_noughtAt (l1 : Int32) (l2 : Int32) (σ : zSt) : Option (Int32) := (zld σ 62 l2).bind fun v1 => if 0 ≤ v1 then ((zld σ 62 l2).bind fun v2 => (zlr σ 52 v2).bind fun v3 => (zld σ v3 l1).bind fun v4 => (Grd_modulo (-v4) σ).bind fun v5 => some v5) else (if ¬ l2 = l1 then (some 0) else (some 1))
theorem Grd_noughtAt_g {l1 : Int32} {l2 : Int32} {σ : zSt} {r : Int32} (h : Grd_noughtAt l1 l2 σ = some r) : zGo zPT zmlc (zPT 56) (0, zent (zmlc 56) [.ref 51, .int l1, .int l2], [], σ) (some (.int r), σ) := by
  unfold Grd_noughtAt at h
  show zGo zPT zmlc zP_56 (0, [some (.ref 51), some (.int l1), some (.int l2)], [], σ) _
  refine zGo.sts 3 (cf' := (5, [some (.ref 51), some (.int l1), some (.int l2)], [.int l2, .ref 62], σ)) rfl ?_
  obtain ⟨v1, hv, h⟩ := zbd h
  refine zG_ld rfl hv ?_
  by_cases hb7 : 0 ≤ v1
  · replace h := zif_t hb7 h
    refine zI_ge_t rfl hb7 ?_
    refine zGo.sts 6 (cf' := (30, [some (.ref 51), some (.int l1), some (.int l2)], [.int l2, .ref 62, .ref 52, .ref 51], σ)) rfl ?_
    obtain ⟨v2, hv, h⟩ := zbd h
    refine zG_ld rfl hv ?_
    obtain ⟨v3, hv, h⟩ := zbd h
    refine zG_lr rfl hv ?_
    refine zGo.sts 1 (cf' := (33, [some (.ref 51), some (.int l1), some (.int l2)], [.int l1, .ref v3, .ref 51], σ)) rfl ?_
    obtain ⟨v4, hv, h⟩ := zbd h
    refine zG_ld rfl hv ?_
    refine zGo.sts 1 (cf' := (35, [some (.ref 51), some (.int l1), some (.int l2)], [.int (-v4), .ref 51], σ)) rfl ?_
    obtain ⟨v5, hv, h⟩ := zbd h
    refine zGo.call rfl rfl (Grd_modulo_g hv) ?_
    obtain rfl := Option.some.inj h
    exact zGo.ret rfl rfl
  · replace h := zif_f hb7 h
    refine zI_ge_f rfl hb7 ?_
    refine zGo.sts 2 (cf' := (11, [some (.ref 51), some (.int l1), some (.int l2)], [.int l1, .int l2], σ)) rfl ?_
    by_cases hb6 : ¬ l2 = l1
    · replace h := zif_t hb6 h
      refine zC_ne_t rfl hb6 ?_
      refine zGo.sts 1 (cf' := (19, [some (.ref 51), some (.int l1), some (.int l2)], [.int 0], σ)) rfl ?_
      obtain rfl := Option.some.inj h
      exact zGo.ret rfl rfl
    · replace h := zif_f hb6 h
      refine zC_ne_f rfl hb6 ?_
      refine zGo.sts 2 (cf' := (19, [some (.ref 51), some (.int l1), some (.int l2)], [.int 1], σ)) rfl ?_
      obtain rfl := Option.some.inj h
      exact zGo.ret rfl rfl
def X_kernel (l1 : Int32) (l2 : Int32) (σ : zSt) : Option (Int32 × zSt) := (Net_hasPoint l2 σ).bind fun v1 => if v1 = 0 then (some ((-1), σ)) else (if 0 ≤ l1 then ((Grd_take σ).bind fun σ2 => zb2 (Grd_reduce (σ2 1 0) σ2) fun v3 σ4 => (Grd_freeColumn l1 σ4).bind fun v5 => if 0 ≤ v5 then ((Grd_noughtAt v5 l2 σ4).bind fun v6 => some (v6, σ4)) else (some ((-2), σ4))) else (some ((-1), σ)))
theorem X_kernel_g {l1 : Int32} {l2 : Int32} {σ : zSt} {r : Int32 × zSt} (h : X_kernel l1 l2 σ = some r) : zGo zPT zmlc (zPT 116) (0, zent (zmlc 116) [.ref 0, .int l1, .int l2], [], σ) (some (.int r.1), r.2) := by
  unfold X_kernel at h
  show zGo zPT zmlc zP_116 (0, [some (.ref 0), some (.int l1), some (.int l2), none], [], σ) _
  refine zGo.sts 3 (cf' := (5, [some (.ref 0), some (.int l1), some (.int l2), none], [.int l2, .ref 1], σ)) rfl ?_
  obtain ⟨v1, hv, h⟩ := zbd h
  refine zGo.call rfl rfl (Net_hasPoint_g hv) ?_
  by_cases hb9 : v1 = 0
  · replace h := zif_t hb9 h
    refine zI_eq_t rfl hb9 ?_
    refine zGo.sts 1 (cf' := (16, [some (.ref 0), some (.int l1), some (.int l2), none], [.int (-1)], σ)) rfl ?_
    obtain rfl := Option.some.inj h
    exact zGo.ret rfl rfl
  · replace h := zif_f hb9 h
    refine zI_eq_f rfl hb9 ?_
    refine zGo.sts 1 (cf' := (12, [some (.ref 0), some (.int l1), some (.int l2), none], [.int l1], σ)) rfl ?_
    by_cases hb8 : 0 ≤ l1
    · replace h := zif_t hb8 h
      refine zI_ge_t rfl hb8 ?_
      refine zGo.sts 4 (cf' := (25, [some (.ref 0), some (.int l1), some (.int l2), none], [.ref 1, .ref 51], σ)) rfl ?_
      obtain ⟨σ2, hv, h⟩ := zbd h
      refine zGo.call rfl rfl (Grd_take_g hv) ?_
      refine zGo.sts 5 (cf' := (39, [some (.ref 0), some (.int l1), some (.int l2), none], [.int (σ2 1 0), .ref 51], σ2)) rfl ?_
      obtain ⟨v3, σ4, hv, h⟩ := zbd2 h
      refine zGo.call rfl rfl (Grd_reduce_g hv) ?_
      refine zGo.sts 4 (cf' := (48, [some (.ref 0), some (.int l1), some (.int l2), none], [.int l1, .ref 51], σ4)) rfl ?_
      obtain ⟨v5, hv, h⟩ := zbd h
      refine zGo.call rfl rfl (Grd_freeColumn_g hv) ?_
      refine zGo.sts 2 (cf' := (53, [some (.ref 0), some (.int l1), some (.int l2), some (.int v5)], [.int v5], σ4)) rfl ?_
      by_cases hb7 : 0 ≤ v5
      · replace h := zif_t hb7 h
        refine zI_ge_t rfl hb7 ?_
        refine zGo.sts 4 (cf' := (67, [some (.ref 0), some (.int l1), some (.int l2), some (.int v5)], [.int l2, .int v5, .ref 51], σ4)) rfl ?_
        obtain ⟨v6, hv, h⟩ := zbd h
        refine zGo.call rfl rfl (Grd_noughtAt_g hv) ?_
        obtain rfl := Option.some.inj h
        exact zGo.ret rfl rfl
      · replace h := zif_f hb7 h
        refine zI_ge_f rfl hb7 ?_
        refine zGo.sts 2 (cf' := (70, [some (.ref 0), some (.int l1), some (.int l2), some (.int v5)], [.int (-2)], σ4)) rfl ?_
        obtain rfl := Option.some.inj h
        exact zGo.ret rfl rfl
    · replace h := zif_f hb8 h
      refine zI_ge_f rfl hb8 ?_
      refine zGo.sts 1 (cf' := (16, [some (.ref 0), some (.int l1), some (.int l2), none], [.int (-1)], σ)) rfl ?_
      obtain rfl := Option.some.inj h
      exact zGo.ret rfl rfl
def Grd_clearAll_c2 : Nat → Nat → Int32 → zSt → Option (zSt)
  | 0, _, _, _ => none
  | n + 1, l1, l2, σ => if (σ 51 0) ≤ l2 then (some σ) else ((zld σ 62 l2).bind fun v1 => if v1 < 0 then (Grd_clearAll_c2 n l1 (l2 + 1) σ) else ((zld σ 62 l2).bind fun v2 => (zlr σ 52 v2).bind fun v3 => (Grd_clear l1 v3 l2 σ).bind fun σ4 => Grd_clearAll_c2 n l1 (l2 + 1) σ4))
theorem Grd_clearAll_g2 : ∀ (n : Nat) {l1 : Nat} {l2 : Int32} {σ : zSt} {r : zSt}, Grd_clearAll_c2 n l1 l2 σ = some r → zGo zPT zmlc zP_58 (2, [some (.ref 51), some (.ref l1), some (.int l2)], [], σ) (none, r) := by
  intro n
  induction n with
  | zero => intro l1 l2 σ r h; cases h
  | succ n ih =>
    intro l1 l2 σ r h
    rw [Grd_clearAll_c2] at h
    refine zGo.sts 3 (cf' := (7, [some (.ref 51), some (.ref l1), some (.int l2)], [.int (σ 51 0), .int l2], σ)) rfl ?_
    by_cases hb6 : (σ 51 0) ≤ l2
    · replace h := zif_t hb6 h
      refine zC_ge_t rfl hb6 ?_
      obtain rfl := Option.some.inj h
      exact zGo.ret rfl rfl
    · replace h := zif_f hb6 h
      refine zC_ge_f rfl hb6 ?_
      refine zGo.sts 3 (cf' := (15, [some (.ref 51), some (.ref l1), some (.int l2)], [.int l2, .ref 62], σ)) rfl ?_
      obtain ⟨v1, hv, h⟩ := zbd h
      refine zG_ld rfl hv ?_
      by_cases hb5 : v1 < 0
      · replace h := zif_t hb5 h
        refine zI_lt_t rfl hb5 ?_
        refine zGo.sts 2 (cf' := (2, [some (.ref 51), some (.ref l1), some (.int (l2 + 1))], [], σ)) rfl ?_
        exact ih h
      · replace h := zif_f hb5 h
        refine zI_lt_f rfl hb5 ?_
        refine zGo.sts 7 (cf' := (30, [some (.ref 51), some (.ref l1), some (.int l2)], [.int l2, .ref 62, .ref 52, .ref l1, .ref 51], σ)) rfl ?_
        obtain ⟨v2, hv, h⟩ := zbd h
        refine zG_ld rfl hv ?_
        obtain ⟨v3, hv, h⟩ := zbd h
        refine zG_lr rfl hv ?_
        refine zGo.sts 1 (cf' := (33, [some (.ref 51), some (.ref l1), some (.int l2)], [.int l2, .ref v3, .ref l1, .ref 51], σ)) rfl ?_
        obtain ⟨σ4, hv, h⟩ := zbd h
        refine zGo.call rfl rfl (Grd_clear_g hv) ?_
        refine zGo.sts 2 (cf' := (2, [some (.ref 51), some (.ref l1), some (.int (l2 + 1))], [], σ4)) rfl ?_
        exact ih h
def Grd_clearAll (l1 : Nat) (σ : zSt) : Option (zSt) := Grd_clearAll_c2 zF l1 0 σ
theorem Grd_clearAll_g {l1 : Nat} {σ : zSt} {r : zSt} (h : Grd_clearAll l1 σ = some r) : zGo zPT zmlc (zPT 58) (0, zent (zmlc 58) [.ref 51, .ref l1], [], σ) (none, r) := by
  unfold Grd_clearAll at h
  show zGo zPT zmlc zP_58 (0, [some (.ref 51), some (.ref l1), none], [], σ) _
  refine zGo.sts 2 (cf' := (2, [some (.ref 51), some (.ref l1), some (.int 0)], [], σ)) rfl ?_
  exact Grd_clearAll_g2 zF h
def Grd_isNought_c2 (σ : zSt) : Nat → Nat → Int32 → Int32 → Option (Int32)
  | 0, _, _, _ => none
  | n + 1, l1, l2, l3 => if (σ 51 0) ≤ l3 then (some 1) else ((zld σ l1 l3).bind fun v1 => (zld σ 63 l3).bind fun v2 => (Grd_modulo (v1 + (l2 * v2)) σ).bind fun v3 => if v3 = 0 then (Grd_isNought_c2 σ n l1 l2 (l3 + 1)) else (some 0))
theorem Grd_isNought_g2 {σ : zSt} : ∀ (n : Nat) {l1 : Nat} {l2 : Int32} {l3 : Int32} {r : Int32}, Grd_isNought_c2 σ n l1 l2 l3 = some r → zGo zPT zmlc zP_59 (2, [some (.ref 51), some (.ref l1), some (.int l2), some (.int l3)], [], σ) (some (.int r), σ) := by
  intro n
  induction n with
  | zero => intro l1 l2 l3 r h; cases h
  | succ n ih =>
    intro l1 l2 l3 r h
    rw [Grd_isNought_c2] at h
    refine zGo.sts 3 (cf' := (7, [some (.ref 51), some (.ref l1), some (.int l2), some (.int l3)], [.int (σ 51 0), .int l3], σ)) rfl ?_
    by_cases hb5 : (σ 51 0) ≤ l3
    · replace h := zif_t hb5 h
      refine zC_ge_t rfl hb5 ?_
      refine zGo.sts 1 (cf' := (38, [some (.ref 51), some (.ref l1), some (.int l2), some (.int l3)], [.int 1], σ)) rfl ?_
      obtain rfl := Option.some.inj h
      exact zGo.ret rfl rfl
    · replace h := zif_f hb5 h
      refine zC_ge_f rfl hb5 ?_
      refine zGo.sts 3 (cf' := (13, [some (.ref 51), some (.ref l1), some (.int l2), some (.int l3)], [.int l3, .ref l1, .ref 51], σ)) rfl ?_
      obtain ⟨v1, hv, h⟩ := zbd h
      refine zG_ld rfl hv ?_
      refine zGo.sts 4 (cf' := (20, [some (.ref 51), some (.ref l1), some (.int l2), some (.int l3)], [.int l3, .ref 63, .int l2, .int v1, .ref 51], σ)) rfl ?_
      obtain ⟨v2, hv, h⟩ := zbd h
      refine zG_ld rfl hv ?_
      refine zGo.sts 2 (cf' := (23, [some (.ref 51), some (.ref l1), some (.int l2), some (.int l3)], [.int (v1 + (l2 * v2)), .ref 51], σ)) rfl ?_
      obtain ⟨v3, hv, h⟩ := zbd h
      refine zGo.call rfl rfl (Grd_modulo_g hv) ?_
      by_cases hb4 : v3 = 0
      · replace h := zif_t hb4 h
        refine zI_eq_t rfl hb4 ?_
        refine zGo.sts 2 (cf' := (2, [some (.ref 51), some (.ref l1), some (.int l2), some (.int (l3 + 1))], [], σ)) rfl ?_
        exact ih h
      · replace h := zif_f hb4 h
        refine zI_eq_f rfl hb4 ?_
        refine zGo.sts 1 (cf' := (30, [some (.ref 51), some (.ref l1), some (.int l2), some (.int l3)], [.int 0], σ)) rfl ?_
        obtain rfl := Option.some.inj h
        exact zGo.ret rfl rfl
def Grd_isNought (l1 : Nat) (l2 : Int32) (σ : zSt) : Option (Int32) := Grd_isNought_c2 σ zF l1 l2 0
theorem Grd_isNought_g {l1 : Nat} {l2 : Int32} {σ : zSt} {r : Int32} (h : Grd_isNought l1 l2 σ = some r) : zGo zPT zmlc (zPT 59) (0, zent (zmlc 59) [.ref 51, .ref l1, .int l2], [], σ) (some (.int r), σ) := by
  unfold Grd_isNought at h
  show zGo zPT zmlc zP_59 (0, [some (.ref 51), some (.ref l1), some (.int l2), none], [], σ) _
  refine zGo.sts 2 (cf' := (2, [some (.ref 51), some (.ref l1), some (.int l2), some (.int 0)], [], σ)) rfl ?_
  exact Grd_isNought_g2 zF h
def Grd_mendAt_c62 : Nat → Nat → Int32 → Int32 → zSt → Option (Int32 × zSt)
  | 0, _, _, _, _ => none
  | n + 1, l3, l4, l5, σ => if (σ 51 1) ≤ l5 then (zlet (su σ 51 2 (l4 + 1)) fun σ10 => some (0, σ10)) else ((Grd_isNought l3 l5 σ).bind fun v11 => if v11 = 0 then (Grd_mendAt_c62 n l3 l4 (l5 + 1) σ) else (zlet (su σ 51 2 l4) fun σ12 => some (l5, σ12)))
theorem Grd_mendAt_g62 : ∀ (n : Nat) {d1 : Option Value} {d2 : Option Value} {l3 : Nat} {l4 : Int32} {l5 : Int32} {σ : zSt} {r : Int32 × zSt}, Grd_mendAt_c62 n l3 l4 l5 σ = some r → zGo zPT zmlc zP_57 (62, [some (.ref 51), d1, d2, some (.ref l3), some (.int l4), some (.int l5)], [], σ) (some (.int r.1), r.2) := by
  intro n
  induction n with
  | zero => intro d1 d2 l3 l4 l5 σ r h; cases h
  | succ n ih =>
    intro d1 d2 l3 l4 l5 σ r h
    rw [Grd_mendAt_c62] at h
    refine zGo.sts 3 (cf' := (68, [some (.ref 51), d1, d2, some (.ref l3), some (.int l4), some (.int l5)], [.int (σ 51 1), .int l5], σ)) rfl ?_
    by_cases hb14 : (σ 51 1) ≤ l5
    · replace h := zif_t hb14 h
      refine zC_ge_t rfl hb14 ?_
      refine zGo.sts 5 (cf' := (104, [some (.ref 51), d1, d2, some (.ref l3), some (.int l4), some (.int l5)], [], (su σ 51 2 (l4 + 1)))) rfl ?_
      replace h := zlet_of h
      generalize su σ 51 2 (l4 + 1) = σ10 at h ⊢
      refine zGo.sts 1 (cf' := (105, [some (.ref 51), d1, d2, some (.ref l3), some (.int l4), some (.int l5)], [.int 0], σ10)) rfl ?_
      obtain rfl := Option.some.inj h
      exact zGo.ret rfl rfl
    · replace h := zif_f hb14 h
      refine zC_ge_f rfl hb14 ?_
      refine zGo.sts 3 (cf' := (75, [some (.ref 51), d1, d2, some (.ref l3), some (.int l4), some (.int l5)], [.int l5, .ref l3, .ref 51], σ)) rfl ?_
      obtain ⟨v11, hv, h⟩ := zbd h
      refine zGo.call rfl rfl (Grd_isNought_g hv) ?_
      by_cases hb13 : v11 = 0
      · replace h := zif_t hb13 h
        refine zI_eq_t rfl hb13 ?_
        refine zGo.sts 2 (cf' := (62, [some (.ref 51), d1, d2, some (.ref l3), some (.int l4), some (.int (l5 + 1))], [], σ)) rfl ?_
        exact ih h
      · replace h := zif_f hb13 h
        refine zI_eq_f rfl hb13 ?_
        refine zGo.sts 3 (cf' := (87, [some (.ref 51), d1, d2, some (.ref l3), some (.int l4), some (.int l5)], [], (su σ 51 2 l4))) rfl ?_
        replace h := zlet_of h
        generalize su σ 51 2 l4 = σ12 at h ⊢
        refine zGo.sts 1 (cf' := (89, [some (.ref 51), d1, d2, some (.ref l3), some (.int l4), some (.int l5)], [.int l5], σ12)) rfl ?_
        obtain rfl := Option.some.inj h
        exact zGo.ret rfl rfl
def Grd_mendAt (l1 : Int32) (σ : zSt) : Option (Int32 × zSt) := (Grd_swapRows l1 ((σ 51 0) - 1) σ).bind fun σ1 => (zlr σ1 52 ((σ 51 0) - 1)).bind fun v2 => (zst σ1 v2 l1 0).bind fun σ3 => (Jdk_fill 63 0 σ3).bind fun σ4 => (zst σ4 63 l1 1).bind fun σ5 => zb2 (Grd_reduce ((σ 51 0) - 1) σ5) fun v6 σ7 => (Grd_clearAll v2 σ7).bind fun σ8 => (Grd_clearAll 63 σ8).bind fun σ9 => Grd_mendAt_c62 zF v2 v6 0 σ9
theorem Grd_mendAt_g {l1 : Int32} {σ : zSt} {r : Int32 × zSt} (h : Grd_mendAt l1 σ = some r) : zGo zPT zmlc (zPT 57) (0, zent (zmlc 57) [.ref 51, .int l1], [], σ) (some (.int r.1), r.2) := by
  unfold Grd_mendAt at h
  show zGo zPT zmlc zP_57 (0, [some (.ref 51), some (.int l1), none, none, none, none], [], σ) _
  refine zGo.sts 8 (cf' := (10, [some (.ref 51), some (.int l1), some (.int ((σ 51 0) - 1)), none, none, none], [.int ((σ 51 0) - 1), .int l1, .ref 51], σ)) rfl ?_
  obtain ⟨σ1, hv, h⟩ := zbd h
  refine zGo.call rfl rfl (Grd_swapRows_g hv) ?_
  refine zGo.sts 3 (cf' := (18, [some (.ref 51), some (.int l1), some (.int ((σ 51 0) - 1)), none, none, none], [.int ((σ 51 0) - 1), .ref 52], σ1)) rfl ?_
  obtain ⟨v2, hv, h⟩ := zbd h
  refine zG_lr rfl hv ?_
  refine zGo.sts 4 (cf' := (23, [some (.ref 51), some (.int l1), some (.int ((σ 51 0) - 1)), some (.ref v2), none, none], [.int 0, .int l1, .ref v2], σ1)) rfl ?_
  obtain ⟨σ3, hv, h⟩ := zbd h
  refine zG_st rfl hv ?_
  refine zGo.sts 3 (cf' := (29, [some (.ref 51), some (.int l1), some (.int ((σ 51 0) - 1)), some (.ref v2), none, none], [.int 0, .ref 63], σ3)) rfl ?_
  obtain ⟨σ4, hv, h⟩ := zbd h
  refine zGo.call rfl rfl (Jdk_fill_g hv) ?_
  refine zGo.sts 4 (cf' := (38, [some (.ref 51), some (.int l1), some (.int ((σ 51 0) - 1)), some (.ref v2), none, none], [.int 1, .int l1, .ref 63], σ4)) rfl ?_
  obtain ⟨σ5, hv, h⟩ := zbd h
  refine zG_st rfl hv ?_
  refine zGo.sts 2 (cf' := (41, [some (.ref 51), some (.int l1), some (.int ((σ 51 0) - 1)), some (.ref v2), none, none], [.int ((σ 51 0) - 1), .ref 51], σ5)) rfl ?_
  obtain ⟨v6, σ7, hv, h⟩ := zbd2 h
  refine zGo.call rfl rfl (Grd_reduce_g hv) ?_
  refine zGo.sts 3 (cf' := (48, [some (.ref 51), some (.int l1), some (.int ((σ 51 0) - 1)), some (.ref v2), some (.int v6), none], [.ref v2, .ref 51], σ7)) rfl ?_
  obtain ⟨σ8, hv, h⟩ := zbd h
  refine zGo.call rfl rfl (Grd_clearAll_g hv) ?_
  refine zGo.sts 3 (cf' := (56, [some (.ref 51), some (.int l1), some (.int ((σ 51 0) - 1)), some (.ref v2), some (.int v6), none], [.ref 63, .ref 51], σ8)) rfl ?_
  obtain ⟨σ9, hv, h⟩ := zbd h
  refine zGo.call rfl rfl (Grd_clearAll_g hv) ?_
  refine zGo.sts 2 (cf' := (62, [some (.ref 51), some (.int l1), some (.int ((σ 51 0) - 1)), some (.ref v2), some (.int v6), some (.int 0)], [], σ9)) rfl ?_
  exact Grd_mendAt_g62 zF h
def X_mend (l1 : Int32) (l2 : Int32) (σ : zSt) : Option (Int32 × zSt) := (Net_hasPoint l1 σ).bind fun v1 => if v1 = 0 then (some ((-1), σ)) else (if l2 < 0 then (some ((-1), σ)) else (if l2 ≤ 1 then ((Grd_take σ).bind fun σ2 => zb2 (Grd_mendAt l1 σ2) fun v3 σ4 => if ¬ l2 = 0 then (some (σ4 51 2, σ4)) else (some (v3, σ4))) else (some ((-1), σ))))
theorem X_mend_g {l1 : Int32} {l2 : Int32} {σ : zSt} {r : Int32 × zSt} (h : X_mend l1 l2 σ = some r) : zGo zPT zmlc (zPT 117) (0, zent (zmlc 117) [.ref 0, .int l1, .int l2], [], σ) (some (.int r.1), r.2) := by
  unfold X_mend at h
  show zGo zPT zmlc zP_117 (0, [some (.ref 0), some (.int l1), some (.int l2), none], [], σ) _
  refine zGo.sts 3 (cf' := (5, [some (.ref 0), some (.int l1), some (.int l2), none], [.int l1, .ref 1], σ)) rfl ?_
  obtain ⟨v1, hv, h⟩ := zbd h
  refine zGo.call rfl rfl (Net_hasPoint_g hv) ?_
  by_cases hb8 : v1 = 0
  · replace h := zif_t hb8 h
    refine zI_eq_t rfl hb8 ?_
    refine zGo.sts 1 (cf' := (21, [some (.ref 0), some (.int l1), some (.int l2), none], [.int (-1)], σ)) rfl ?_
    obtain rfl := Option.some.inj h
    exact zGo.ret rfl rfl
  · replace h := zif_f hb8 h
    refine zI_eq_f rfl hb8 ?_
    refine zGo.sts 1 (cf' := (12, [some (.ref 0), some (.int l1), some (.int l2), none], [.int l2], σ)) rfl ?_
    by_cases hb7 : l2 < 0
    · replace h := zif_t hb7 h
      refine zI_lt_t rfl hb7 ?_
      refine zGo.sts 1 (cf' := (21, [some (.ref 0), some (.int l1), some (.int l2), none], [.int (-1)], σ)) rfl ?_
      obtain rfl := Option.some.inj h
      exact zGo.ret rfl rfl
    · replace h := zif_f hb7 h
      refine zI_lt_f rfl hb7 ?_
      refine zGo.sts 2 (cf' := (17, [some (.ref 0), some (.int l1), some (.int l2), none], [.int 1, .int l2], σ)) rfl ?_
      by_cases hb6 : l2 ≤ 1
      · replace h := zif_t hb6 h
        refine zC_le_t rfl hb6 ?_
        refine zGo.sts 4 (cf' := (30, [some (.ref 0), some (.int l1), some (.int l2), none], [.ref 1, .ref 51], σ)) rfl ?_
        obtain ⟨σ2, hv, h⟩ := zbd h
        refine zGo.call rfl rfl (Grd_take_g hv) ?_
        refine zGo.sts 3 (cf' := (38, [some (.ref 0), some (.int l1), some (.int l2), none], [.int l1, .ref 51], σ2)) rfl ?_
        obtain ⟨v3, σ4, hv, h⟩ := zbd2 h
        refine zGo.call rfl rfl (Grd_mendAt_g hv) ?_
        refine zGo.sts 2 (cf' := (43, [some (.ref 0), some (.int l1), some (.int l2), some (.int v3)], [.int l2], σ4)) rfl ?_
        by_cases hb5 : ¬ l2 = 0
        · replace h := zif_t hb5 h
          refine zI_ne_t rfl hb5 ?_
          refine zGo.sts 3 (cf' := (57, [some (.ref 0), some (.int l1), some (.int l2), some (.int v3)], [.int (σ4 51 2)], σ4)) rfl ?_
          obtain rfl := Option.some.inj h
          exact zGo.ret rfl rfl
        · replace h := zif_f hb5 h
          refine zI_ne_f rfl hb5 ?_
          refine zGo.sts 2 (cf' := (57, [some (.ref 0), some (.int l1), some (.int l2), some (.int v3)], [.int v3], σ4)) rfl ?_
          obtain rfl := Option.some.inj h
          exact zGo.ret rfl rfl
      · replace h := zif_f hb6 h
        refine zC_le_f rfl hb6 ?_
        refine zGo.sts 1 (cf' := (21, [some (.ref 0), some (.int l1), some (.int l2), none], [.int (-1)], σ)) rfl ?_
        obtain rfl := Option.some.inj h
        exact zGo.ret rfl rfl
def X_mendTwo_c44 : Nat → Int32 → Int32 → Int32 → Int32 → Int32 → Int32 → zSt → Option (Int32 × zSt)
  | 0, _, _, _, _, _, _, _ => none
  | n + 1, l3, l4, l5, l6, l7, l8, σ => if (σ 1 3) ≤ l8 then (if ¬ l3 = 0 then (some (l7, σ)) else (some (l6, σ))) else ((Grd_take σ).bind fun σ8 => (zlr σ8 52 l4).bind fun v9 => (zst σ8 v9 l4 l8).bind fun σ10 => zb2 (Grd_mendAt l5 σ10) fun v11 σ12 => if l7 ≤ (σ12 51 2) then (X_mendTwo_c44 n l3 l4 l5 l6 l7 (l8 + 1) σ12) else (X_mendTwo_c44 n l3 l4 l5 (((σ12 1 3) * l8) + v11) (σ12 51 2) (l8 + 1) σ12))
theorem X_mendTwo_g44 : ∀ (n : Nat) {d1 : Option Value} {d2 : Option Value} {d9 : Option Value} {l3 : Int32} {l4 : Int32} {l5 : Int32} {l6 : Int32} {l7 : Int32} {l8 : Int32} {σ : zSt} {r : Int32 × zSt}, X_mendTwo_c44 n l3 l4 l5 l6 l7 l8 σ = some r → zGo zPT zmlc zP_118 (44, [some (.ref 0), d1, d2, some (.int l3), some (.int l4), some (.int l5), some (.int l6), some (.int l7), some (.int l8), d9], [], σ) (some (.int r.1), r.2) := by
  intro n
  induction n with
  | zero => intro d1 d2 d9 l3 l4 l5 l6 l7 l8 σ r h; cases h
  | succ n ih =>
    intro d1 d2 d9 l3 l4 l5 l6 l7 l8 σ r h
    rw [X_mendTwo_c44] at h
    refine zGo.sts 4 (cf' := (53, [some (.ref 0), d1, d2, some (.int l3), some (.int l4), some (.int l5), some (.int l6), some (.int l7), some (.int l8), d9], [.int (σ 1 3), .int l8], σ)) rfl ?_
    by_cases hb14 : (σ 1 3) ≤ l8
    · replace h := zif_t hb14 h
      refine zC_ge_t rfl hb14 ?_
      refine zGo.sts 1 (cf' := (136, [some (.ref 0), d1, d2, some (.int l3), some (.int l4), some (.int l5), some (.int l6), some (.int l7), some (.int l8), d9], [.int l3], σ)) rfl ?_
      by_cases hb7 : ¬ l3 = 0
      · replace h := zif_t hb7 h
        refine zI_ne_t rfl hb7 ?_
        refine zGo.sts 1 (cf' := (146, [some (.ref 0), d1, d2, some (.int l3), some (.int l4), some (.int l5), some (.int l6), some (.int l7), some (.int l8), d9], [.int l7], σ)) rfl ?_
        obtain rfl := Option.some.inj h
        exact zGo.ret rfl rfl
      · replace h := zif_f hb7 h
        refine zI_ne_f rfl hb7 ?_
        refine zGo.sts 2 (cf' := (146, [some (.ref 0), d1, d2, some (.int l3), some (.int l4), some (.int l5), some (.int l6), some (.int l7), some (.int l8), d9], [.int l6], σ)) rfl ?_
        obtain rfl := Option.some.inj h
        exact zGo.ret rfl rfl
    · replace h := zif_f hb14 h
      refine zC_ge_f rfl hb14 ?_
      refine zGo.sts 4 (cf' := (64, [some (.ref 0), d1, d2, some (.int l3), some (.int l4), some (.int l5), some (.int l6), some (.int l7), some (.int l8), d9], [.ref 1, .ref 51], σ)) rfl ?_
      obtain ⟨σ8, hv, h⟩ := zbd h
      refine zGo.call rfl rfl (Grd_take_g hv) ?_
      refine zGo.sts 4 (cf' := (76, [some (.ref 0), d1, d2, some (.int l3), some (.int l4), some (.int l5), some (.int l6), some (.int l7), some (.int l8), d9], [.int l4, .ref 52], σ8)) rfl ?_
      obtain ⟨v9, hv, h⟩ := zbd h
      refine zG_lr rfl hv ?_
      refine zGo.sts 2 (cf' := (81, [some (.ref 0), d1, d2, some (.int l3), some (.int l4), some (.int l5), some (.int l6), some (.int l7), some (.int l8), d9], [.int l8, .int l4, .ref v9], σ8)) rfl ?_
      obtain ⟨σ10, hv, h⟩ := zbd h
      refine zG_st rfl hv ?_
      refine zGo.sts 3 (cf' := (88, [some (.ref 0), d1, d2, some (.int l3), some (.int l4), some (.int l5), some (.int l6), some (.int l7), some (.int l8), d9], [.int l5, .ref 51], σ10)) rfl ?_
      obtain ⟨v11, σ12, hv, h⟩ := zbd2 h
      refine zGo.call rfl rfl (Grd_mendAt_g hv) ?_
      refine zGo.sts 5 (cf' := (102, [some (.ref 0), d1, d2, some (.int l3), some (.int l4), some (.int l5), some (.int l6), some (.int l7), some (.int l8), some (.int v11)], [.int l7, .int (σ12 51 2)], σ12)) rfl ?_
      by_cases hb13 : l7 ≤ (σ12 51 2)
      · replace h := zif_t hb13 h
        refine zC_ge_t rfl hb13 ?_
        refine zGo.sts 2 (cf' := (44, [some (.ref 0), d1, d2, some (.int l3), some (.int l4), some (.int l5), some (.int l6), some (.int l7), some (.int (l8 + 1)), some (.int v11)], [], σ12)) rfl ?_
        exact ih h
      · replace h := zif_f hb13 h
        refine zC_ge_f rfl hb13 ?_
        refine zGo.sts 14 (cf' := (44, [some (.ref 0), d1, d2, some (.int l3), some (.int l4), some (.int l5), some (.int (((σ12 1 3) * l8) + v11)), some (.int (σ12 51 2)), some (.int (l8 + 1)), some (.int v11)], [], σ12)) rfl ?_
        exact ih h
def X_mendTwo (l1 : Int32) (l2 : Int32) (l3 : Int32) (σ : zSt) : Option (Int32 × zSt) := (X_areTwo l1 l2 σ).bind fun v1 => if v1 = 0 then (some ((-1), σ)) else (if l3 < 0 then (some ((-1), σ)) else (if l3 ≤ 1 then (zlet (if l2 < l1 then l2 else l1) fun v2 => zlet (if l1 < l2 then l2 else l1) fun v3 => X_mendTwo_c44 zF l3 v2 v3 0 10 0 σ) else (some ((-1), σ))))
theorem X_mendTwo_g {l1 : Int32} {l2 : Int32} {l3 : Int32} {σ : zSt} {r : Int32 × zSt} (h : X_mendTwo l1 l2 l3 σ = some r) : zGo zPT zmlc (zPT 118) (0, zent (zmlc 118) [.ref 0, .int l1, .int l2, .int l3], [], σ) (some (.int r.1), r.2) := by
  unfold X_mendTwo at h
  show zGo zPT zmlc zP_118 (0, [some (.ref 0), some (.int l1), some (.int l2), some (.int l3), none, none, none, none, none, none], [], σ) _
  refine zGo.sts 3 (cf' := (3, [some (.ref 0), some (.int l1), some (.int l2), some (.int l3), none, none, none, none, none, none], [.int l2, .int l1, .ref 0], σ)) rfl ?_
  obtain ⟨v1, hv, h⟩ := zbd h
  refine zGo.call rfl rfl (X_areTwo_g hv) ?_
  by_cases hb6 : v1 = 0
  · replace h := zif_t hb6 h
    refine zI_eq_t rfl hb6 ?_
    refine zGo.sts 1 (cf' := (19, [some (.ref 0), some (.int l1), some (.int l2), some (.int l3), none, none, none, none, none, none], [.int (-1)], σ)) rfl ?_
    obtain rfl := Option.some.inj h
    exact zGo.ret rfl rfl
  · replace h := zif_f hb6 h
    refine zI_eq_f rfl hb6 ?_
    refine zGo.sts 1 (cf' := (10, [some (.ref 0), some (.int l1), some (.int l2), some (.int l3), none, none, none, none, none, none], [.int l3], σ)) rfl ?_
    by_cases hb5 : l3 < 0
    · replace h := zif_t hb5 h
      refine zI_lt_t rfl hb5 ?_
      refine zGo.sts 1 (cf' := (19, [some (.ref 0), some (.int l1), some (.int l2), some (.int l3), none, none, none, none, none, none], [.int (-1)], σ)) rfl ?_
      obtain rfl := Option.some.inj h
      exact zGo.ret rfl rfl
    · replace h := zif_f hb5 h
      refine zI_lt_f rfl hb5 ?_
      refine zGo.sts 2 (cf' := (15, [some (.ref 0), some (.int l1), some (.int l2), some (.int l3), none, none, none, none, none, none], [.int 1, .int l3], σ)) rfl ?_
      by_cases hb4 : l3 ≤ 1
      · replace h := zif_t hb4 h
        refine zC_le_t rfl hb4 ?_
        refine zGo.sts 4 (cf' := (27, [some (.ref 0), some (.int l1), some (.int l2), some (.int l3), some (.int (if l2 < l1 then l2 else l1)), none, none, none, none, none], [], σ)) rfl ?_
        replace h := zlet_of h
        generalize (if l2 < l1 then l2 else l1) = v2 at h ⊢
        refine zGo.sts 4 (cf' := (34, [some (.ref 0), some (.int l1), some (.int l2), some (.int l3), some (.int v2), some (.int (if l1 < l2 then l2 else l1)), none, none, none, none], [], σ)) rfl ?_
        replace h := zlet_of h
        generalize (if l1 < l2 then l2 else l1) = v3 at h ⊢
        refine zGo.sts 6 (cf' := (44, [some (.ref 0), some (.int l1), some (.int l2), some (.int l3), some (.int v2), some (.int v3), some (.int 0), some (.int 10), some (.int 0), none], [], σ)) rfl ?_
        exact X_mendTwo_g44 zF h
      · replace h := zif_f hb4 h
        refine zC_le_f rfl hb4 ?_
        refine zGo.sts 1 (cf' := (19, [some (.ref 0), some (.int l1), some (.int l2), some (.int l3), none, none, none, none, none, none], [.int (-1)], σ)) rfl ?_
        obtain rfl := Option.some.inj h
        exact zGo.ret rfl rfl
def X_rowAt_c9 (σ : zSt) : Option (Option Nat) := some none
theorem X_rowAt_g9 {σ : zSt} {d0 : Option Value} {d1 : Option Value} {r : Option Nat} (h : X_rowAt_c9 σ = some r) : zGo zPT zmlc zP_137 (9, [d0, d1], [], σ) (some (zov r), σ) := by
  unfold X_rowAt_c9 at h
  refine zGo.sts 2 (cf' := (19, [d0, d1], [.null], σ)) rfl ?_
  obtain rfl := Option.some.inj h
  exact zGo.ret rfl rfl
def X_rowAt (l1 : Int32) (σ : zSt) : Option (Option Nat) := if l1 < 0 then (X_rowAt_c9 σ ) else (if l1 < 3 then ((zlr σ 64 l1).bind fun v1 => some (some v1)) else (X_rowAt_c9 σ ))
theorem X_rowAt_g {l1 : Int32} {σ : zSt} {r : Option Nat} (h : X_rowAt l1 σ = some r) : zGo zPT zmlc (zPT 137) (0, zent (zmlc 137) [.ref 0, .int l1], [], σ) (some (zov r), σ) := by
  unfold X_rowAt at h
  show zGo zPT zmlc zP_137 (0, [some (.ref 0), some (.int l1)], [], σ) _
  refine zGo.sts 1 (cf' := (1, [some (.ref 0), some (.int l1)], [.int l1], σ)) rfl ?_
  by_cases hb3 : l1 < 0
  · replace h := zif_t hb3 h
    refine zI_lt_t rfl hb3 ?_
    exact X_rowAt_g9 h
  · replace h := zif_f hb3 h
    refine zI_lt_f rfl hb3 ?_
    refine zGo.sts 2 (cf' := (6, [some (.ref 0), some (.int l1)], [.int 3, .int l1], σ)) rfl ?_
    by_cases hb2 : l1 < 3
    · replace h := zif_t hb2 h
      refine zC_lt_t rfl hb2 ?_
      refine zGo.sts 3 (cf' := (18, [some (.ref 0), some (.int l1)], [.int l1, .ref 64], σ)) rfl ?_
      obtain ⟨v1, hv, h⟩ := zbd h
      refine zG_lr rfl hv ?_
      obtain rfl := Option.some.inj h
      exact zGo.ret rfl rfl
    · replace h := zif_f hb2 h
      refine zC_lt_f rfl hb2 ?_
      exact X_rowAt_g9 h
def Fcg_goesAs_c40 (σ : zSt) (c21 : Nat → Int32 → Int32 → Int32 → Option (Int32)) (l1 : Nat) (l2 : Int32) (l4 : Int32) (t0 : Int32) (t1 : Int32) : Option (Int32) := (Fcg_next t1 t0 σ).bind fun v6 => (zld σ l1 l4).bind fun v7 => if v7 = v6 then (c21 l1 l2 v6 (l4 + 1)) else (some 0)
theorem Fcg_goesAs_g40 {σ : zSt} {c21 : Nat → Int32 → Int32 → Int32 → Option (Int32)} (hc21 : ∀ {l1 : Nat} {l2 : Int32} {l3 : Int32} {l4 : Int32} {r : Int32}, c21 l1 l2 l3 l4 = some r → zGo zPT zmlc zP_84 (21, [some (.ref 43), some (.ref l1), some (.int l2), some (.int l3), some (.int l4)], [], σ) (some (.int r), σ)) {d3 : Option Value} {l1 : Nat} {l2 : Int32} {l4 : Int32} {t0 : Int32} {t1 : Int32} {r : Int32} (h : Fcg_goesAs_c40 σ c21 l1 l2 l4 t0 t1 = some r) : zGo zPT zmlc zP_84 (40, [some (.ref 43), some (.ref l1), some (.int l2), d3, some (.int l4)], [.int t0, .int t1, .ref 43], σ) (some (.int r), σ) := by
  unfold Fcg_goesAs_c40 at h
  obtain ⟨v6, hv, h⟩ := zbd h
  refine zGo.call rfl rfl (Fcg_next_g hv) ?_
  refine zGo.sts 3 (cf' := (47, [some (.ref 43), some (.ref l1), some (.int l2), some (.int v6), some (.int l4)], [.int l4, .ref l1], σ)) rfl ?_
  obtain ⟨v7, hv, h⟩ := zbd h
  refine zG_ld rfl hv ?_
  refine zGo.sts 1 (cf' := (49, [some (.ref 43), some (.ref l1), some (.int l2), some (.int v6), some (.int l4)], [.int v6, .int v7], σ)) rfl ?_
  by_cases hb8 : v7 = v6
  · replace h := zif_t hb8 h
    refine zC_eq_t rfl hb8 ?_
    refine zGo.sts 2 (cf' := (21, [some (.ref 43), some (.ref l1), some (.int l2), some (.int v6), some (.int (l4 + 1))], [], σ)) rfl ?_
    exact hc21 h
  · replace h := zif_f hb8 h
    refine zC_eq_f rfl hb8 ?_
    refine zGo.sts 1 (cf' := (53, [some (.ref 43), some (.ref l1), some (.int l2), some (.int v6), some (.int l4)], [.int 0], σ)) rfl ?_
    obtain rfl := Option.some.inj h
    exact zGo.ret rfl rfl
def Fcg_goesAs_c21 (σ : zSt) : Nat → Nat → Int32 → Int32 → Int32 → Option (Int32)
  | 0, _, _, _, _ => none
  | n + 1, l1, l2, l3, l4 => if l2 ≤ l4 then (some 1) else (if ¬ l4 = 1 then (Fcg_goesAs_c40 σ (Fcg_goesAs_c21 σ n) l1 l2 l4 0 l3) else (Fcg_goesAs_c40 σ (Fcg_goesAs_c21 σ n) l1 l2 l4 1 l3))
theorem Fcg_goesAs_g21 {σ : zSt} : ∀ (n : Nat) {l1 : Nat} {l2 : Int32} {l3 : Int32} {l4 : Int32} {r : Int32}, Fcg_goesAs_c21 σ n l1 l2 l3 l4 = some r → zGo zPT zmlc zP_84 (21, [some (.ref 43), some (.ref l1), some (.int l2), some (.int l3), some (.int l4)], [], σ) (some (.int r), σ) := by
  intro n
  induction n with
  | zero => intro l1 l2 l3 l4 r h; cases h
  | succ n ih =>
    intro l1 l2 l3 l4 r h
    rw [Fcg_goesAs_c21] at h
    refine zGo.sts 2 (cf' := (24, [some (.ref 43), some (.ref l1), some (.int l2), some (.int l3), some (.int l4)], [.int l2, .int l4], σ)) rfl ?_
    by_cases hb5 : l2 ≤ l4
    · replace h := zif_t hb5 h
      refine zC_ge_t rfl hb5 ?_
      refine zGo.sts 1 (cf' := (61, [some (.ref 43), some (.ref l1), some (.int l2), some (.int l3), some (.int l4)], [.int 1], σ)) rfl ?_
      obtain rfl := Option.some.inj h
      exact zGo.ret rfl rfl
    · replace h := zif_f hb5 h
      refine zC_ge_f rfl hb5 ?_
      refine zGo.sts 4 (cf' := (32, [some (.ref 43), some (.ref l1), some (.int l2), some (.int l3), some (.int l4)], [.int 1, .int l4, .int l3, .ref 43], σ)) rfl ?_
      by_cases hb4 : ¬ l4 = 1
      · replace h := zif_t hb4 h
        refine zC_ne_t rfl hb4 ?_
        refine zGo.sts 1 (cf' := (40, [some (.ref 43), some (.ref l1), some (.int l2), some (.int l3), some (.int l4)], [.int 0, .int l3, .ref 43], σ)) rfl ?_
        exact Fcg_goesAs_g40 ih h
      · replace h := zif_f hb4 h
        refine zC_ne_f rfl hb4 ?_
        refine zGo.sts 2 (cf' := (40, [some (.ref 43), some (.ref l1), some (.int l2), some (.int l3), some (.int l4)], [.int 1, .int l3, .ref 43], σ)) rfl ?_
        exact Fcg_goesAs_g40 ih h
def Fcg_goesAs (l1 : Nat) (l2 : Int32) (σ : zSt) : Option (Int32) := (zld σ l1 0).bind fun v1 => if v1 < 0 then (some 0) else (if v1 ≤ (σ 43 0) then (Fcg_goesAs_c21 σ zF l1 l2 v1 1) else (some 0))
theorem Fcg_goesAs_g {l1 : Nat} {l2 : Int32} {σ : zSt} {r : Int32} (h : Fcg_goesAs l1 l2 σ = some r) : zGo zPT zmlc (zPT 84) (0, zent (zmlc 84) [.ref 43, .ref l1, .int l2], [], σ) (some (.int r), σ) := by
  unfold Fcg_goesAs at h
  show zGo zPT zmlc zP_84 (0, [some (.ref 43), some (.ref l1), some (.int l2), none, none], [], σ) _
  refine zGo.sts 2 (cf' := (2, [some (.ref 43), some (.ref l1), some (.int l2), none, none], [.int 0, .ref l1], σ)) rfl ?_
  obtain ⟨v1, hv, h⟩ := zbd h
  refine zG_ld rfl hv ?_
  refine zGo.sts 2 (cf' := (5, [some (.ref 43), some (.ref l1), some (.int l2), some (.int v1), none], [.int v1], σ)) rfl ?_
  by_cases hb3 : v1 < 0
  · replace h := zif_t hb3 h
    refine zI_lt_t rfl hb3 ?_
    refine zGo.sts 1 (cf' := (17, [some (.ref 43), some (.ref l1), some (.int l2), some (.int v1), none], [.int 0], σ)) rfl ?_
    obtain rfl := Option.some.inj h
    exact zGo.ret rfl rfl
  · replace h := zif_f hb3 h
    refine zI_lt_f rfl hb3 ?_
    refine zGo.sts 3 (cf' := (13, [some (.ref 43), some (.ref l1), some (.int l2), some (.int v1), none], [.int (σ 43 0), .int v1], σ)) rfl ?_
    by_cases hb2 : v1 ≤ (σ 43 0)
    · replace h := zif_t hb2 h
      refine zC_le_t rfl hb2 ?_
      refine zGo.sts 2 (cf' := (21, [some (.ref 43), some (.ref l1), some (.int l2), some (.int v1), some (.int 1)], [], σ)) rfl ?_
      exact Fcg_goesAs_g21 zF h
    · replace h := zif_f hb2 h
      refine zC_le_f rfl hb2 ?_
      refine zGo.sts 1 (cf' := (17, [some (.ref 43), some (.ref l1), some (.int l2), some (.int v1), none], [.int 0], σ)) rfl ?_
      obtain rfl := Option.some.inj h
      exact zGo.ret rfl rfl
def X_leastFittingK_c10 : Nat → Nat → Int32 → Int32 → zSt → Option (Int32 × zSt)
  | 0, _, _, _, _ => none
  | n + 1, l1, l2, l3, σ => if 4 < l3 then (some ((-2), σ)) else (zlet (su σ 43 2 l3) fun σ2 => bif Nat.beq (zkd l1) 8 then ((Fcg_goesAs (ztg l1 1) l2 σ2).bind fun v3 => if v3 = 0 then (X_leastFittingK_c10 n l1 l2 (l3 + 1) σ2) else (some (l3, σ2))) else none)
theorem X_leastFittingK_g10 : ∀ (n : Nat) {l1 : Nat} {l2 : Int32} {l3 : Int32} {σ : zSt} {r : Int32 × zSt}, X_leastFittingK_c10 n l1 l2 l3 σ = some r → zGo zPT zmlc zP_144 (10, [some (.ref 0), some (.ref l1), some (.int l2), some (.int l3)], [], σ) (some (.int r.1), r.2) := by
  intro n
  induction n with
  | zero => intro l1 l2 l3 σ r h; cases h
  | succ n ih =>
    intro l1 l2 l3 σ r h
    rw [X_leastFittingK_c10] at h
    refine zGo.sts 2 (cf' := (12, [some (.ref 0), some (.ref l1), some (.int l2), some (.int l3)], [.int 4, .int l3], σ)) rfl ?_
    by_cases hb5 : 4 < l3
    · replace h := zif_t hb5 h
      refine zC_gt_t rfl hb5 ?_
      refine zGo.sts 1 (cf' := (48, [some (.ref 0), some (.ref l1), some (.int l2), some (.int l3)], [.int (-2)], σ)) rfl ?_
      obtain rfl := Option.some.inj h
      exact zGo.ret rfl rfl
    · replace h := zif_f hb5 h
      refine zC_gt_f rfl hb5 ?_
      refine zGo.sts 4 (cf' := (23, [some (.ref 0), some (.ref l1), some (.int l2), some (.int l3)], [], (su σ 43 2 l3))) rfl ?_
      replace h := zlet_of h
      generalize su σ 43 2 l3 = σ2 at h ⊢
      refine zGo.sts 3 (cf' := (28, [some (.ref 0), some (.ref l1), some (.int l2), some (.int l3)], [.ref l1, .ref 43], σ2)) rfl ?_
      obtain ⟨hc, h⟩ := zbif h
      refine zG_gR rfl hc ?_
      refine zGo.sts 1 (cf' := (32, [some (.ref 0), some (.ref l1), some (.int l2), some (.int l3)], [.int l2, .ref (ztg l1 1), .ref 43], σ2)) rfl ?_
      obtain ⟨v3, hv, h⟩ := zbd h
      refine zGo.call rfl rfl (Fcg_goesAs_g hv) ?_
      by_cases hb4 : v3 = 0
      · replace h := zif_t hb4 h
        refine zI_eq_t rfl hb4 ?_
        refine zGo.sts 2 (cf' := (10, [some (.ref 0), some (.ref l1), some (.int l2), some (.int (l3 + 1))], [], σ2)) rfl ?_
        exact ih h
      · replace h := zif_f hb4 h
        refine zI_eq_f rfl hb4 ?_
        refine zGo.sts 1 (cf' := (39, [some (.ref 0), some (.ref l1), some (.int l2), some (.int l3)], [.int l3], σ2)) rfl ?_
        obtain rfl := Option.some.inj h
        exact zGo.ret rfl rfl
def X_leastFittingK (l1 : Nat) (l2 : Int32) (σ : zSt) : Option (Int32 × zSt) := zlet (su σ 43 1 4) fun σ1 => X_leastFittingK_c10 zF l1 l2 1 σ1
theorem X_leastFittingK_g {l1 : Nat} {l2 : Int32} {σ : zSt} {r : Int32 × zSt} (h : X_leastFittingK l1 l2 σ = some r) : zGo zPT zmlc (zPT 144) (0, zent (zmlc 144) [.ref 0, .ref l1, .int l2], [], σ) (some (.int r.1), r.2) := by
  unfold X_leastFittingK at h
  show zGo zPT zmlc zP_144 (0, [some (.ref 0), some (.ref l1), some (.int l2), none], [], σ) _
  refine zGo.sts 4 (cf' := (8, [some (.ref 0), some (.ref l1), some (.int l2), none], [], (su σ 43 1 4))) rfl ?_
  replace h := zlet_of h
  generalize su σ 43 1 4 = σ1 at h ⊢
  refine zGo.sts 2 (cf' := (10, [some (.ref 0), some (.ref l1), some (.int l2), some (.int 1)], [], σ1)) rfl ?_
  exact X_leastFittingK_g10 zF h
def X_fittingRules_c5 : Nat → Nat → Int32 → Int32 → Int32 → zSt → Option (Int32 × zSt)
  | 0, _, _, _, _, _ => none
  | n + 1, l1, l2, l3, l4, σ => if 5 ≤ l4 then (some (l3, σ)) else (zlet (su σ 43 1 l4) fun σ1 => bif Nat.beq (zkd l1) 8 then ((Fcg_goesAs (ztg l1 1) l2 σ1).bind fun v2 => if v2 = 0 then (X_fittingRules_c5 n l1 l2 l3 (l4 + 1) σ1) else (zlet (l3 ||| (1 <<< (l4 &&& 31))) fun v3 => X_fittingRules_c5 n l1 l2 v3 (l4 + 1) σ1)) else none)
theorem X_fittingRules_g5 : ∀ (n : Nat) {l1 : Nat} {l2 : Int32} {l3 : Int32} {l4 : Int32} {σ : zSt} {r : Int32 × zSt}, X_fittingRules_c5 n l1 l2 l3 l4 σ = some r → zGo zPT zmlc zP_143 (5, [some (.ref 0), some (.ref l1), some (.int l2), some (.int l3), some (.int l4)], [], σ) (some (.int r.1), r.2) := by
  intro n
  induction n with
  | zero => intro l1 l2 l3 l4 σ r h; cases h
  | succ n ih =>
    intro l1 l2 l3 l4 σ r h
    rw [X_fittingRules_c5] at h
    refine zGo.sts 2 (cf' := (8, [some (.ref 0), some (.ref l1), some (.int l2), some (.int l3), some (.int l4)], [.int 5, .int l4], σ)) rfl ?_
    by_cases hb5 : 5 ≤ l4
    · replace h := zif_t hb5 h
      refine zC_ge_t rfl hb5 ?_
      refine zGo.sts 1 (cf' := (49, [some (.ref 0), some (.ref l1), some (.int l2), some (.int l3), some (.int l4)], [.int l3], σ)) rfl ?_
      obtain rfl := Option.some.inj h
      exact zGo.ret rfl rfl
    · replace h := zif_f hb5 h
      refine zC_ge_f rfl hb5 ?_
      refine zGo.sts 4 (cf' := (20, [some (.ref 0), some (.ref l1), some (.int l2), some (.int l3), some (.int l4)], [], (su σ 43 1 l4))) rfl ?_
      replace h := zlet_of h
      generalize su σ 43 1 l4 = σ1 at h ⊢
      refine zGo.sts 3 (cf' := (25, [some (.ref 0), some (.ref l1), some (.int l2), some (.int l3), some (.int l4)], [.ref l1, .ref 43], σ1)) rfl ?_
      obtain ⟨hc, h⟩ := zbif h
      refine zG_gR rfl hc ?_
      refine zGo.sts 1 (cf' := (29, [some (.ref 0), some (.ref l1), some (.int l2), some (.int l3), some (.int l4)], [.int l2, .ref (ztg l1 1), .ref 43], σ1)) rfl ?_
      obtain ⟨v2, hv, h⟩ := zbd h
      refine zGo.call rfl rfl (Fcg_goesAs_g hv) ?_
      by_cases hb4 : v2 = 0
      · replace h := zif_t hb4 h
        refine zI_eq_t rfl hb4 ?_
        refine zGo.sts 2 (cf' := (5, [some (.ref 0), some (.ref l1), some (.int l2), some (.int l3), some (.int (l4 + 1))], [], σ1)) rfl ?_
        exact ih h
      · replace h := zif_f hb4 h
        refine zI_eq_f rfl hb4 ?_
        refine zGo.sts 6 (cf' := (42, [some (.ref 0), some (.ref l1), some (.int l2), some (.int (l3 ||| (1 <<< (l4 &&& 31)))), some (.int l4)], [], σ1)) rfl ?_
        replace h := zlet_of h
        generalize l3 ||| (1 <<< (l4 &&& 31)) = v3 at h ⊢
        refine zGo.sts 2 (cf' := (5, [some (.ref 0), some (.ref l1), some (.int l2), some (.int v3), some (.int (l4 + 1))], [], σ1)) rfl ?_
        exact ih h
def X_fittingRules (l1 : Nat) (l2 : Int32) (σ : zSt) : Option (Int32 × zSt) := X_fittingRules_c5 zF l1 l2 0 0 σ
theorem X_fittingRules_g {l1 : Nat} {l2 : Int32} {σ : zSt} {r : Int32 × zSt} (h : X_fittingRules l1 l2 σ = some r) : zGo zPT zmlc (zPT 143) (0, zent (zmlc 143) [.ref 0, .ref l1, .int l2], [], σ) (some (.int r.1), r.2) := by
  unfold X_fittingRules at h
  show zGo zPT zmlc zP_143 (0, [some (.ref 0), some (.ref l1), some (.int l2), none, none], [], σ) _
  refine zGo.sts 4 (cf' := (5, [some (.ref 0), some (.ref l1), some (.int l2), some (.int 0), some (.int 0)], [], σ)) rfl ?_
  exact X_fittingRules_g5 zF h

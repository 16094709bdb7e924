/-! the methods as functions, by program -/
def Fcg_roundsOf_c31 (σ : zSt) (c4 : Int32 → Int32 → Option (Int32)) (l2 : Int32) (l3 : Int32) (t0 : Int32) (t1 : Int32) : Option (Int32) := (Fcg_next t1 t0 σ).bind fun v4 => if ¬ v4 = l2 then (c4 v4 (l3 + 1)) else (some (-1))
theorem Fcg_roundsOf_g31 {σ : zSt} {c4 : Int32 → Int32 → Option (Int32)} (hc4 : ∀ {d1 : Option Value} {d4 : Option Value} {l2 : Int32} {l3 : Int32} {r : Int32}, c4 l2 l3 = some r → zGo zPT zmlc zP_71 (4, [some (.ref 43), d1, some (.int l2), some (.int l3), d4], [], σ) (some (.int r), σ)) {d1 : Option Value} {d4 : Option Value} {l2 : Int32} {l3 : Int32} {t0 : Int32} {t1 : Int32} {r : Int32} (h : Fcg_roundsOf_c31 σ c4 l2 l3 t0 t1 = some r) : zGo zPT zmlc zP_71 (31, [some (.ref 43), d1, some (.int l2), some (.int l3), d4], [.int t0, .int t1, .ref 43], σ) (some (.int r), σ) := by
  unfold Fcg_roundsOf_c31 at h
  obtain ⟨v4, hv, h⟩ := zbd h
  refine zGo.call rfl rfl (Fcg_next_g hv) ?_
  refine zGo.sts 3 (cf' := (39, [some (.ref 43), d1, some (.int l2), some (.int l3), some (.int v4)], [.int l2, .int v4], σ)) rfl ?_
  by_cases hb5 : ¬ v4 = l2
  · replace h := zif_t hb5 h
    refine zC_ne_t rfl hb5 ?_
    refine zGo.sts 4 (cf' := (4, [some (.ref 43), d1, some (.int v4), some (.int (l3 + 1)), some (.int v4)], [], σ)) rfl ?_
    exact hc4 h
  · replace h := zif_f hb5 h
    refine zC_ne_f rfl hb5 ?_
    refine zGo.sts 1 (cf' := (43, [some (.ref 43), d1, some (.int l2), some (.int l3), some (.int v4)], [.int (-1)], σ)) rfl ?_
    obtain rfl := Option.some.inj h
    exact zGo.ret rfl rfl
def Fcg_roundsOf_c4 (σ : zSt) : Nat → Int32 → Int32 → Option (Int32)
  | 0, _, _ => none
  | n + 1, l2, l3 => if 9 < l3 then (some (-1)) else (if ¬ l2 = (σ 43 0) then (if ¬ l3 = 0 then (Fcg_roundsOf_c31 σ (Fcg_roundsOf_c4 σ n) l2 l3 0 l2) else (Fcg_roundsOf_c31 σ (Fcg_roundsOf_c4 σ n) l2 l3 1 l2)) else (some l3))
theorem Fcg_roundsOf_g4 {σ : zSt} : ∀ (n : Nat) {d1 : Option Value} {d4 : Option Value} {l2 : Int32} {l3 : Int32} {r : Int32}, Fcg_roundsOf_c4 σ n l2 l3 = some r → zGo zPT zmlc zP_71 (4, [some (.ref 43), d1, some (.int l2), some (.int l3), d4], [], σ) (some (.int r), σ) := by
  intro n
  induction n with
  | zero => intro d1 d4 l2 l3 r h; cases h
  | succ n ih =>
    intro d1 d4 l2 l3 r h
    rw [Fcg_roundsOf_c4] at h
    refine zGo.sts 2 (cf' := (7, [some (.ref 43), d1, some (.int l2), some (.int l3), d4], [.int 9, .int l3], σ)) rfl ?_
    by_cases hb3 : 9 < l3
    · replace h := zif_t hb3 h
      refine zC_gt_t rfl hb3 ?_
      refine zGo.sts 1 (cf' := (54, [some (.ref 43), d1, some (.int l2), some (.int l3), d4], [.int (-1)], σ)) rfl ?_
      obtain rfl := Option.some.inj h
      exact zGo.ret rfl rfl
    · replace h := zif_f hb3 h
      refine zC_gt_f rfl hb3 ?_
      refine zGo.sts 3 (cf' := (15, [some (.ref 43), d1, some (.int l2), some (.int l3), d4], [.int (σ 43 0), .int l2], σ)) rfl ?_
      by_cases hb2 : ¬ l2 = (σ 43 0)
      · replace h := zif_t hb2 h
        refine zC_ne_t rfl hb2 ?_
        refine zGo.sts 3 (cf' := (23, [some (.ref 43), d1, some (.int l2), some (.int l3), d4], [.int l3, .int l2, .ref 43], σ)) rfl ?_
        by_cases hb1 : ¬ l3 = 0
        · replace h := zif_t hb1 h
          refine zI_ne_t rfl hb1 ?_
          refine zGo.sts 1 (cf' := (31, [some (.ref 43), d1, some (.int l2), some (.int l3), d4], [.int 0, .int l2, .ref 43], σ)) rfl ?_
          exact Fcg_roundsOf_g31 ih h
        · replace h := zif_f hb1 h
          refine zI_ne_f rfl hb1 ?_
          refine zGo.sts 2 (cf' := (31, [some (.ref 43), d1, some (.int l2), some (.int l3), d4], [.int 1, .int l2, .ref 43], σ)) rfl ?_
          exact Fcg_roundsOf_g31 ih h
      · replace h := zif_f hb2 h
        refine zC_ne_f rfl hb2 ?_
        refine zGo.sts 1 (cf' := (19, [some (.ref 43), d1, some (.int l2), some (.int l3), d4], [.int l3], σ)) rfl ?_
        obtain rfl := Option.some.inj h
        exact zGo.ret rfl rfl
def Fcg_roundsOf (l1 : Int32) (σ : zSt) : Option (Int32) := Fcg_roundsOf_c4 σ zF l1 0
theorem Fcg_roundsOf_g {l1 : Int32} {σ : zSt} {r : Int32} (h : Fcg_roundsOf l1 σ = some r) : zGo zPT zmlc (zPT 71) (0, zent (zmlc 71) [.ref 43, .int l1], [], σ) (some (.int r), σ) := by
  unfold Fcg_roundsOf at h
  show zGo zPT zmlc zP_71 (0, [some (.ref 43), some (.int l1), none, none, none], [], σ) _
  refine zGo.sts 4 (cf' := (4, [some (.ref 43), some (.int l1), some (.int l1), some (.int 0), none], [], σ)) rfl ?_
  exact Fcg_roundsOf_g4 zF h
def X_time (l1 : Int32) (σ : zSt) : Option (Int32 × zSt) := (Net_hasSet l1 σ).bind fun v1 => if ¬ v1 = 0 then ((Fcg_take σ).bind fun σ2 => (Fcg_roundsOf l1 σ2).bind fun v3 => if 0 ≤ v3 then (some (v3, σ2)) else (some ((-2), σ2))) else (some ((-1), σ))
theorem X_time_g {l1 : Int32} {σ : zSt} {r : Int32 × zSt} (h : X_time l1 σ = some r) : zGo zPT zmlc (zPT 98) (0, zent (zmlc 98) [.ref 0, .int l1], [], σ) (some (.int r.1), r.2) := by
  unfold X_time at h
  show zGo zPT zmlc zP_98 (0, [some (.ref 0), some (.int l1), none], [], σ) _
  refine zGo.sts 3 (cf' := (5, [some (.ref 0), some (.int l1), none], [.int l1, .ref 1], σ)) rfl ?_
  obtain ⟨v1, hv, h⟩ := zbd h
  refine zGo.call rfl rfl (Net_hasSet_g hv) ?_
  by_cases hb5 : ¬ v1 = 0
  · replace h := zif_t hb5 h
    refine zI_ne_t rfl hb5 ?_
    refine zGo.sts 4 (cf' := (21, [some (.ref 0), some (.int l1), none], [.ref 1, .ref 43], σ)) rfl ?_
    obtain ⟨σ2, hv, h⟩ := zbd h
    refine zGo.call rfl rfl (Fcg_take_g hv) ?_
    refine zGo.sts 3 (cf' := (29, [some (.ref 0), some (.int l1), none], [.int l1, .ref 43], σ2)) rfl ?_
    obtain ⟨v3, hv, h⟩ := zbd h
    refine zGo.call rfl rfl (Fcg_roundsOf_g hv) ?_
    refine zGo.sts 2 (cf' := (34, [some (.ref 0), some (.int l1), some (.int v3)], [.int v3], σ2)) rfl ?_
    by_cases hb4 : 0 ≤ v3
    · replace h := zif_t hb4 h
      refine zI_ge_t rfl hb4 ?_
      refine zGo.sts 1 (cf' := (43, [some (.ref 0), some (.int l1), some (.int v3)], [.int v3], σ2)) rfl ?_
      obtain rfl := Option.some.inj h
      exact zGo.ret rfl rfl
    · replace h := zif_f hb4 h
      refine zI_ge_f rfl hb4 ?_
      refine zGo.sts 2 (cf' := (43, [some (.ref 0), some (.int l1), some (.int v3)], [.int (-2)], σ2)) rfl ?_
      obtain rfl := Option.some.inj h
      exact zGo.ret rfl rfl
  · replace h := zif_f hb5 h
    refine zI_ne_f rfl hb5 ?_
    refine zGo.sts 1 (cf' := (12, [some (.ref 0), some (.int l1), none], [.int (-1)], σ)) rfl ?_
    obtain rfl := Option.some.inj h
    exact zGo.ret rfl rfl
def Fcg_isWithin (l1 : Int32) (σ : zSt) : Option (Int32) := if ¬ (l1 &&& ((σ 43 0) ^^^ (-1))) = 0 then (some 0) else (some 1)
theorem Fcg_isWithin_g {l1 : Int32} {σ : zSt} {r : Int32} (h : Fcg_isWithin l1 σ = some r) : zGo zPT zmlc (zPT 74) (0, zent (zmlc 74) [.ref 43, .int l1], [], σ) (some (.int r), σ) := by
  unfold Fcg_isWithin at h
  show zGo zPT zmlc zP_74 (0, [some (.ref 43), some (.int l1)], [], σ) _
  refine zGo.sts 6 (cf' := (8, [some (.ref 43), some (.int l1)], [.int (l1 &&& ((σ 43 0) ^^^ (-1)))], σ)) rfl ?_
  by_cases hb1 : ¬ (l1 &&& ((σ 43 0) ^^^ (-1))) = 0
  · replace h := zif_t hb1 h
    refine zI_ne_t rfl hb1 ?_
    refine zGo.sts 1 (cf' := (16, [some (.ref 43), some (.int l1)], [.int 0], σ)) rfl ?_
    obtain rfl := Option.some.inj h
    exact zGo.ret rfl rfl
  · replace h := zif_f hb1 h
    refine zI_ne_f rfl hb1 ?_
    refine zGo.sts 2 (cf' := (16, [some (.ref 43), some (.int l1)], [.int 1], σ)) rfl ?_
    obtain rfl := Option.some.inj h
    exact zGo.ret rfl rfl
def Fcg_takeTimeFrom_c32 (t0 : Int32) (t1 : Int32) (σ : zSt) : Option (zSt) := (zst σ 46 t1 t0).bind fun σ5 => some σ5
theorem Fcg_takeTimeFrom_g32 {d0 : Option Value} {d1 : Option Value} {d2 : Option Value} {t0 : Int32} {t1 : Int32} {σ : zSt} {r : zSt} (h : Fcg_takeTimeFrom_c32 t0 t1 σ = some r) : zGo zPT zmlc zP_75 (32, [d0, d1, d2], [.int t0, .int t1, .ref 46], σ) (none, r) := by
  unfold Fcg_takeTimeFrom_c32 at h
  obtain ⟨σ5, hv, h⟩ := zbd h
  refine zG_st rfl hv ?_
  obtain rfl := Option.some.inj h
  exact zGo.ret rfl rfl
def Fcg_takeTimeFrom (l1 : Int32) (l2 : Int32) (σ : zSt) : Option (zSt) := if l2 = l1 then (some σ) else ((zld σ 46 l2).bind fun v1 => if ¬ v1 = (-1) then ((zld σ 46 l2).bind fun v2 => Fcg_takeTimeFrom_c32 (v2 + 1) l1 σ) else (Fcg_takeTimeFrom_c32 (-1) l1 σ))
theorem Fcg_takeTimeFrom_g {l1 : Int32} {l2 : Int32} {σ : zSt} {r : zSt} (h : Fcg_takeTimeFrom l1 l2 σ = some r) : zGo zPT zmlc (zPT 75) (0, zent (zmlc 75) [.ref 43, .int l1, .int l2], [], σ) (none, r) := by
  unfold Fcg_takeTimeFrom at h
  show zGo zPT zmlc zP_75 (0, [some (.ref 43), some (.int l1), some (.int l2)], [], σ) _
  refine zGo.sts 2 (cf' := (2, [some (.ref 43), some (.int l1), some (.int l2)], [.int l1, .int l2], σ)) rfl ?_
  by_cases hb4 : l2 = l1
  · replace h := zif_t hb4 h
    refine zC_eq_t rfl hb4 ?_
    obtain rfl := Option.some.inj h
    exact zGo.ret rfl rfl
  · replace h := zif_f hb4 h
    refine zC_eq_f rfl hb4 ?_
    refine zGo.sts 6 (cf' := (15, [some (.ref 43), some (.int l1), some (.int l2)], [.int l2, .ref 46, .int l1, .ref 46], σ)) rfl ?_
    obtain ⟨v1, hv, h⟩ := zbd h
    refine zG_ld rfl hv ?_
    refine zGo.sts 1 (cf' := (17, [some (.ref 43), some (.int l1), some (.int l2)], [.int (-1), .int v1, .int l1, .ref 46], σ)) rfl ?_
    by_cases hb3 : ¬ v1 = (-1)
    · replace h := zif_t hb3 h
      refine zC_ne_t rfl hb3 ?_
      refine zGo.sts 3 (cf' := (29, [some (.ref 43), some (.int l1), some (.int l2)], [.int l2, .ref 46, .int l1, .ref 46], σ)) rfl ?_
      obtain ⟨v2, hv, h⟩ := zbd h
      refine zG_ld rfl hv ?_
      refine zGo.sts 2 (cf' := (32, [some (.ref 43), some (.int l1), some (.int l2)], [.int (v2 + 1), .int l1, .ref 46], σ)) rfl ?_
      exact Fcg_takeTimeFrom_g32 h
    · replace h := zif_f hb3 h
      refine zC_ne_f rfl hb3 ?_
      refine zGo.sts 2 (cf' := (32, [some (.ref 43), some (.int l1), some (.int l2)], [.int (-1), .int l1, .ref 46], σ)) rfl ?_
      exact Fcg_takeTimeFrom_g32 h
def Fcg_takeFirstRounds_c2 : Nat → Int32 → zSt → Option (zSt)
  | 0, _, _ => none
  | n + 1, l1, σ => if (σ 43 0) < l1 then (some σ) else ((Fcg_isWithin l1 σ).bind fun v1 => if v1 = 0 then (Fcg_takeFirstRounds_c2 n (l1 + 1) σ) else ((Fcg_next l1 1 σ).bind fun v2 => (Fcg_takeTimeFrom l1 v2 σ).bind fun σ3 => Fcg_takeFirstRounds_c2 n (l1 + 1) σ3))
theorem Fcg_takeFirstRounds_g2 : ∀ (n : Nat) {l1 : Int32} {σ : zSt} {r : zSt}, Fcg_takeFirstRounds_c2 n l1 σ = some r → zGo zPT zmlc zP_73 (2, [some (.ref 43), some (.int l1)], [], σ) (none, r) := by
  intro n
  induction n with
  | zero => intro l1 σ r h; cases h
  | succ n ih =>
    intro l1 σ r h
    rw [Fcg_takeFirstRounds_c2] at h
    refine zGo.sts 3 (cf' := (7, [some (.ref 43), some (.int l1)], [.int (σ 43 0), .int l1], σ)) rfl ?_
    by_cases hb5 : (σ 43 0) < l1
    · replace h := zif_t hb5 h
      refine zC_gt_t rfl hb5 ?_
      obtain rfl := Option.some.inj h
      exact zGo.ret rfl rfl
    · replace h := zif_f hb5 h
      refine zC_gt_f rfl hb5 ?_
      refine zGo.sts 2 (cf' := (12, [some (.ref 43), some (.int l1)], [.int l1, .ref 43], σ)) rfl ?_
      obtain ⟨v1, hv, h⟩ := zbd h
      refine zGo.call rfl rfl (Fcg_isWithin_g hv) ?_
      by_cases hb4 : v1 = 0
      · replace h := zif_t hb4 h
        refine zI_eq_t rfl hb4 ?_
        refine zGo.sts 2 (cf' := (2, [some (.ref 43), some (.int (l1 + 1))], [], σ)) rfl ?_
        exact ih h
      · replace h := zif_f hb4 h
        refine zI_eq_f rfl hb4 ?_
        refine zGo.sts 5 (cf' := (23, [some (.ref 43), some (.int l1)], [.int 1, .int l1, .ref 43, .int l1, .ref 43], σ)) rfl ?_
        obtain ⟨v2, hv, h⟩ := zbd h
        refine zGo.call rfl rfl (Fcg_next_g hv) ?_
        obtain ⟨σ3, hv, h⟩ := zbd h
        refine zGo.call rfl rfl (Fcg_takeTimeFrom_g hv) ?_
        refine zGo.sts 2 (cf' := (2, [some (.ref 43), some (.int (l1 + 1))], [], σ3)) rfl ?_
        exact ih h
def Fcg_takeFirstRounds (σ : zSt) : Option (zSt) := Fcg_takeFirstRounds_c2 zF 0 σ
theorem Fcg_takeFirstRounds_g {σ : zSt} {r : zSt} (h : Fcg_takeFirstRounds σ = some r) : zGo zPT zmlc (zPT 73) (0, zent (zmlc 73) [.ref 43], [], σ) (none, r) := by
  unfold Fcg_takeFirstRounds at h
  show zGo zPT zmlc zP_73 (0, [some (.ref 43), none], [], σ) _
  refine zGo.sts 2 (cf' := (2, [some (.ref 43), some (.int 0)], [], σ)) rfl ?_
  exact Fcg_takeFirstRounds_g2 zF h
def Fcg_fillTimes_c27 (c5 : Int32 → zSt → Option (zSt)) (l1 : Int32) (t0 : Int32) (t1 : Int32) (σ : zSt) : Option (zSt) := (zst σ 46 t1 t0).bind fun σ5 => (Fcg_isWithin l1 σ5).bind fun v6 => if v6 = 0 then (c5 (l1 + (-1)) σ5) else ((Fcg_next l1 0 σ5).bind fun v7 => (Fcg_takeTimeFrom l1 v7 σ5).bind fun σ8 => c5 (l1 + (-1)) σ8)
theorem Fcg_fillTimes_g27 {c5 : Int32 → zSt → Option (zSt)} (hc5 : ∀ {l1 : Int32} {σ : zSt} {r : zSt}, c5 l1 σ = some r → zGo zPT zmlc zP_72 (5, [some (.ref 43), some (.int l1)], [], σ) (none, r)) {l1 : Int32} {t0 : Int32} {t1 : Int32} {σ : zSt} {r : zSt} (h : Fcg_fillTimes_c27 c5 l1 t0 t1 σ = some r) : zGo zPT zmlc zP_72 (27, [some (.ref 43), some (.int l1)], [.int t0, .int t1, .ref 46], σ) (none, r) := by
  unfold Fcg_fillTimes_c27 at h
  obtain ⟨σ5, hv, h⟩ := zbd h
  refine zG_st rfl hv ?_
  refine zGo.sts 2 (cf' := (30, [some (.ref 43), some (.int l1)], [.int l1, .ref 43], σ5)) rfl ?_
  obtain ⟨v6, hv, h⟩ := zbd h
  refine zGo.call rfl rfl (Fcg_isWithin_g hv) ?_
  by_cases hb9 : v6 = 0
  · replace h := zif_t hb9 h
    refine zI_eq_t rfl hb9 ?_
    refine zGo.sts 2 (cf' := (5, [some (.ref 43), some (.int (l1 + (-1)))], [], σ5)) rfl ?_
    exact hc5 h
  · replace h := zif_f hb9 h
    refine zI_eq_f rfl hb9 ?_
    refine zGo.sts 5 (cf' := (41, [some (.ref 43), some (.int l1)], [.int 0, .int l1, .ref 43, .int l1, .ref 43], σ5)) rfl ?_
    obtain ⟨v7, hv, h⟩ := zbd h
    refine zGo.call rfl rfl (Fcg_next_g hv) ?_
    obtain ⟨σ8, hv, h⟩ := zbd h
    refine zGo.call rfl rfl (Fcg_takeTimeFrom_g hv) ?_
    refine zGo.sts 2 (cf' := (5, [some (.ref 43), some (.int (l1 + (-1)))], [], σ8)) rfl ?_
    exact hc5 h
def Fcg_fillTimes_c5 : Nat → Int32 → zSt → Option (zSt)
  | 0, _, _ => none
  | n + 1, l1, σ => if l1 < 0 then (if ¬ (σ 43 1) = 3 then (some σ) else ((Fcg_takeFirstRounds σ).bind fun σ1 => some σ1)) else (if ¬ l1 = (σ 43 0) then (Fcg_fillTimes_c27 (Fcg_fillTimes_c5 n) l1 (-1) l1 σ) else (Fcg_fillTimes_c27 (Fcg_fillTimes_c5 n) l1 0 l1 σ))
theorem Fcg_fillTimes_g5 : ∀ (n : Nat) {l1 : Int32} {σ : zSt} {r : zSt}, Fcg_fillTimes_c5 n l1 σ = some r → zGo zPT zmlc zP_72 (5, [some (.ref 43), some (.int l1)], [], σ) (none, r) := by
  intro n
  induction n with
  | zero => intro l1 σ r h; cases h
  | succ n ih =>
    intro l1 σ r h
    rw [Fcg_fillTimes_c5] at h
    refine zGo.sts 1 (cf' := (6, [some (.ref 43), some (.int l1)], [.int l1], σ)) rfl ?_
    by_cases hb4 : l1 < 0
    · replace h := zif_t hb4 h
      refine zI_lt_t rfl hb4 ?_
      refine zGo.sts 3 (cf' := (58, [some (.ref 43), some (.int l1)], [.int 3, .int (σ 43 1)], σ)) rfl ?_
      by_cases hb2 : ¬ (σ 43 1) = 3
      · replace h := zif_t hb2 h
        refine zC_ne_t rfl hb2 ?_
        obtain rfl := Option.some.inj h
        exact zGo.ret rfl rfl
      · replace h := zif_f hb2 h
        refine zC_ne_f rfl hb2 ?_
        refine zGo.sts 1 (cf' := (62, [some (.ref 43), some (.int l1)], [.ref 43], σ)) rfl ?_
        obtain ⟨σ1, hv, h⟩ := zbd h
        refine zGo.call rfl rfl (Fcg_takeFirstRounds_g hv) ?_
        obtain rfl := Option.some.inj h
        exact zGo.ret rfl rfl
    · replace h := zif_f hb4 h
      refine zI_lt_f rfl hb4 ?_
      refine zGo.sts 6 (cf' := (19, [some (.ref 43), some (.int l1)], [.int (σ 43 0), .int l1, .int l1, .ref 46], σ)) rfl ?_
      by_cases hb3 : ¬ l1 = (σ 43 0)
      · replace h := zif_t hb3 h
        refine zC_ne_t rfl hb3 ?_
        refine zGo.sts 1 (cf' := (27, [some (.ref 43), some (.int l1)], [.int (-1), .int l1, .ref 46], σ)) rfl ?_
        exact Fcg_fillTimes_g27 ih h
      · replace h := zif_f hb3 h
        refine zC_ne_f rfl hb3 ?_
        refine zGo.sts 2 (cf' := (27, [some (.ref 43), some (.int l1)], [.int 0, .int l1, .ref 46], σ)) rfl ?_
        exact Fcg_fillTimes_g27 ih h
def Fcg_fillTimes (σ : zSt) : Option (zSt) := Fcg_fillTimes_c5 zF (σ 43 0) σ
theorem Fcg_fillTimes_g {σ : zSt} {r : zSt} (h : Fcg_fillTimes σ = some r) : zGo zPT zmlc (zPT 72) (0, zent (zmlc 72) [.ref 43], [], σ) (none, r) := by
  unfold Fcg_fillTimes at h
  show zGo zPT zmlc zP_72 (0, [some (.ref 43), none], [], σ) _
  refine zGo.sts 3 (cf' := (5, [some (.ref 43), some (.int (σ 43 0))], [], σ)) rfl ?_
  exact Fcg_fillTimes_g5 zF h
def Fcg_leastSize_c5 (σ : zSt) : Nat → Int32 → Int32 → Option (Int32)
  | 0, _, _ => none
  | n + 1, l1, l2 => if (σ 43 0) < l2 then (some l1) else ((zld σ 46 l2).bind fun v1 => if v1 < 0 then (Fcg_leastSize_c5 σ n l1 (l2 + 1)) else ((Jdk_bitCount l2 σ).bind fun v2 => zlet (if v2 < l1 then v2 else l1) fun v3 => Fcg_leastSize_c5 σ n v3 (l2 + 1)))
theorem Fcg_leastSize_g5 {σ : zSt} : ∀ (n : Nat) {l1 : Int32} {l2 : Int32} {r : Int32}, Fcg_leastSize_c5 σ n l1 l2 = some r → zGo zPT zmlc zP_76 (5, [some (.ref 43), some (.int l1), some (.int l2)], [], σ) (some (.int r), σ) := by
  intro n
  induction n with
  | zero => intro l1 l2 r h; cases h
  | succ n ih =>
    intro l1 l2 r h
    rw [Fcg_leastSize_c5] at h
    refine zGo.sts 3 (cf' := (10, [some (.ref 43), some (.int l1), some (.int l2)], [.int (σ 43 0), .int l2], σ)) rfl ?_
    by_cases hb5 : (σ 43 0) < l2
    · replace h := zif_t hb5 h
      refine zC_gt_t rfl hb5 ?_
      refine zGo.sts 1 (cf' := (38, [some (.ref 43), some (.int l1), some (.int l2)], [.int l1], σ)) rfl ?_
      obtain rfl := Option.some.inj h
      exact zGo.ret rfl rfl
    · replace h := zif_f hb5 h
      refine zC_gt_f rfl hb5 ?_
      refine zGo.sts 3 (cf' := (18, [some (.ref 43), some (.int l1), some (.int l2)], [.int l2, .ref 46], σ)) rfl ?_
      obtain ⟨v1, hv, h⟩ := zbd h
      refine zG_ld rfl hv ?_
      by_cases hb4 : v1 < 0
      · replace h := zif_t hb4 h
        refine zI_lt_t rfl hb4 ?_
        refine zGo.sts 2 (cf' := (5, [some (.ref 43), some (.int l1), some (.int (l2 + 1))], [], σ)) rfl ?_
        exact ih h
      · replace h := zif_f hb4 h
        refine zI_lt_f rfl hb4 ?_
        refine zGo.sts 2 (cf' := (24, [some (.ref 43), some (.int l1), some (.int l2)], [.int l2, .int l1], σ)) rfl ?_
        obtain ⟨v2, hv, h⟩ := zbd h
        refine zGo.call rfl rfl (Jdk_bitCount_g hv) ?_
        refine zGo.sts 2 (cf' := (31, [some (.ref 43), some (.int (if v2 < l1 then v2 else l1)), some (.int l2)], [], σ)) rfl ?_
        replace h := zlet_of h
        generalize (if v2 < l1 then v2 else l1) = v3 at h ⊢
        refine zGo.sts 2 (cf' := (5, [some (.ref 43), some (.int v3), some (.int (l2 + 1))], [], σ)) rfl ?_
        exact ih h
def Fcg_leastSize (σ : zSt) : Option (Int32) := Fcg_leastSize_c5 σ zF 9 0
theorem Fcg_leastSize_g {σ : zSt} {r : Int32} (h : Fcg_leastSize σ = some r) : zGo zPT zmlc (zPT 76) (0, zent (zmlc 76) [.ref 43], [], σ) (some (.int r), σ) := by
  unfold Fcg_leastSize at h
  show zGo zPT zmlc zP_76 (0, [some (.ref 43), none, none], [], σ) _
  refine zGo.sts 4 (cf' := (5, [some (.ref 43), some (.int 9), some (.int 0)], [], σ)) rfl ?_
  exact Fcg_leastSize_g5 zF h
def Fcg_forcesWith (l1 : Int32) (l2 : Int32) (σ : zSt) : Option (Int32) := (zld σ 46 l1).bind fun v1 => if v1 < 0 then (some 0) else ((Jdk_bitCount l1 σ).bind fun v2 => if ¬ v2 = l2 then (some 0) else (some 1))
theorem Fcg_forcesWith_g {l1 : Int32} {l2 : Int32} {σ : zSt} {r : Int32} (h : Fcg_forcesWith l1 l2 σ = some r) : zGo zPT zmlc (zPT 77) (0, zent (zmlc 77) [.ref 43, .int l1, .int l2], [], σ) (some (.int r), σ) := by
  unfold Fcg_forcesWith at h
  show zGo zPT zmlc zP_77 (0, [some (.ref 43), some (.int l1), some (.int l2)], [], σ) _
  refine zGo.sts 3 (cf' := (5, [some (.ref 43), some (.int l1), some (.int l2)], [.int l1, .ref 46], σ)) rfl ?_
  obtain ⟨v1, hv, h⟩ := zbd h
  refine zG_ld rfl hv ?_
  by_cases hb4 : v1 < 0
  · replace h := zif_t hb4 h
    refine zI_lt_t rfl hb4 ?_
    refine zGo.sts 1 (cf' := (22, [some (.ref 43), some (.int l1), some (.int l2)], [.int 0], σ)) rfl ?_
    obtain rfl := Option.some.inj h
    exact zGo.ret rfl rfl
  · replace h := zif_f hb4 h
    refine zI_lt_f rfl hb4 ?_
    refine zGo.sts 1 (cf' := (10, [some (.ref 43), some (.int l1), some (.int l2)], [.int l1], σ)) rfl ?_
    obtain ⟨v2, hv, h⟩ := zbd h
    refine zGo.call rfl rfl (Jdk_bitCount_g hv) ?_
    refine zGo.sts 1 (cf' := (14, [some (.ref 43), some (.int l1), some (.int l2)], [.int l2, .int v2], σ)) rfl ?_
    by_cases hb3 : ¬ v2 = l2
    · replace h := zif_t hb3 h
      refine zC_ne_t rfl hb3 ?_
      refine zGo.sts 1 (cf' := (22, [some (.ref 43), some (.int l1), some (.int l2)], [.int 0], σ)) rfl ?_
      obtain rfl := Option.some.inj h
      exact zGo.ret rfl rfl
    · replace h := zif_f hb3 h
      refine zC_ne_f rfl hb3 ?_
      refine zGo.sts 2 (cf' := (22, [some (.ref 43), some (.int l1), some (.int l2)], [.int 1], σ)) rfl ?_
      obtain rfl := Option.some.inj h
      exact zGo.ret rfl rfl
def Fcg_firstOf_c2 (σ : zSt) : Nat → Int32 → Int32 → Option (Int32)
  | 0, _, _ => none
  | n + 1, l1, l2 => if (σ 43 0) < l2 then (some (σ 43 0)) else ((Fcg_forcesWith l2 l1 σ).bind fun v1 => if v1 = 0 then (Fcg_firstOf_c2 σ n l1 (l2 + 1)) else (some l2))
theorem Fcg_firstOf_g2 {σ : zSt} : ∀ (n : Nat) {l1 : Int32} {l2 : Int32} {r : Int32}, Fcg_firstOf_c2 σ n l1 l2 = some r → zGo zPT zmlc zP_78 (2, [some (.ref 43), some (.int l1), some (.int l2)], [], σ) (some (.int r), σ) := by
  intro n
  induction n with
  | zero => intro l1 l2 r h; cases h
  | succ n ih =>
    intro l1 l2 r h
    rw [Fcg_firstOf_c2] at h
    refine zGo.sts 3 (cf' := (7, [some (.ref 43), some (.int l1), some (.int l2)], [.int (σ 43 0), .int l2], σ)) rfl ?_
    by_cases hb3 : (σ 43 0) < l2
    · replace h := zif_t hb3 h
      refine zC_gt_t rfl hb3 ?_
      refine zGo.sts 2 (cf' := (31, [some (.ref 43), some (.int l1), some (.int l2)], [.int (σ 43 0)], σ)) rfl ?_
      obtain rfl := Option.some.inj h
      exact zGo.ret rfl rfl
    · replace h := zif_f hb3 h
      refine zC_gt_f rfl hb3 ?_
      refine zGo.sts 3 (cf' := (13, [some (.ref 43), some (.int l1), some (.int l2)], [.int l1, .int l2, .ref 43], σ)) rfl ?_
      obtain ⟨v1, hv, h⟩ := zbd h
      refine zGo.call rfl rfl (Fcg_forcesWith_g hv) ?_
      by_cases hb2 : v1 = 0
      · replace h := zif_t hb2 h
        refine zI_eq_t rfl hb2 ?_
        refine zGo.sts 2 (cf' := (2, [some (.ref 43), some (.int l1), some (.int (l2 + 1))], [], σ)) rfl ?_
        exact ih h
      · replace h := zif_f hb2 h
        refine zI_eq_f rfl hb2 ?_
        refine zGo.sts 1 (cf' := (20, [some (.ref 43), some (.int l1), some (.int l2)], [.int l2], σ)) rfl ?_
        obtain rfl := Option.some.inj h
        exact zGo.ret rfl rfl
def Fcg_firstOf (l1 : Int32) (σ : zSt) : Option (Int32) := Fcg_firstOf_c2 σ zF l1 0
theorem Fcg_firstOf_g {l1 : Int32} {σ : zSt} {r : Int32} (h : Fcg_firstOf l1 σ = some r) : zGo zPT zmlc (zPT 78) (0, zent (zmlc 78) [.ref 43, .int l1], [], σ) (some (.int r), σ) := by
  unfold Fcg_firstOf at h
  show zGo zPT zmlc zP_78 (0, [some (.ref 43), some (.int l1), none], [], σ) _
  refine zGo.sts 2 (cf' := (2, [some (.ref 43), some (.int l1), some (.int 0)], [], σ)) rfl ?_
  exact Fcg_firstOf_g2 zF h
def Fcg_howMany_c4 (σ : zSt) : Nat → Int32 → Int32 → Int32 → Option (Int32)
  | 0, _, _, _ => none
  | n + 1, l1, l2, l3 => if (σ 43 0) < l3 then (some l2) else ((Fcg_forcesWith l3 l1 σ).bind fun v1 => if v1 = 0 then (Fcg_howMany_c4 σ n l1 l2 (l3 + 1)) else (Fcg_howMany_c4 σ n l1 (l2 + 1) (l3 + 1)))
theorem Fcg_howMany_g4 {σ : zSt} : ∀ (n : Nat) {l1 : Int32} {l2 : Int32} {l3 : Int32} {r : Int32}, Fcg_howMany_c4 σ n l1 l2 l3 = some r → zGo zPT zmlc zP_79 (4, [some (.ref 43), some (.int l1), some (.int l2), some (.int l3)], [], σ) (some (.int r), σ) := by
  intro n
  induction n with
  | zero => intro l1 l2 l3 r h; cases h
  | succ n ih =>
    intro l1 l2 l3 r h
    rw [Fcg_howMany_c4] at h
    refine zGo.sts 3 (cf' := (9, [some (.ref 43), some (.int l1), some (.int l2), some (.int l3)], [.int (σ 43 0), .int l3], σ)) rfl ?_
    by_cases hb3 : (σ 43 0) < l3
    · replace h := zif_t hb3 h
      refine zC_gt_t rfl hb3 ?_
      refine zGo.sts 1 (cf' := (31, [some (.ref 43), some (.int l1), some (.int l2), some (.int l3)], [.int l2], σ)) rfl ?_
      obtain rfl := Option.some.inj h
      exact zGo.ret rfl rfl
    · replace h := zif_f hb3 h
      refine zC_gt_f rfl hb3 ?_
      refine zGo.sts 3 (cf' := (15, [some (.ref 43), some (.int l1), some (.int l2), some (.int l3)], [.int l1, .int l3, .ref 43], σ)) rfl ?_
      obtain ⟨v1, hv, h⟩ := zbd h
      refine zGo.call rfl rfl (Fcg_forcesWith_g hv) ?_
      by_cases hb2 : v1 = 0
      · replace h := zif_t hb2 h
        refine zI_eq_t rfl hb2 ?_
        refine zGo.sts 2 (cf' := (4, [some (.ref 43), some (.int l1), some (.int l2), some (.int (l3 + 1))], [], σ)) rfl ?_
        exact ih h
      · replace h := zif_f hb2 h
        refine zI_eq_f rfl hb2 ?_
        refine zGo.sts 3 (cf' := (4, [some (.ref 43), some (.int l1), some (.int (l2 + 1)), some (.int (l3 + 1))], [], σ)) rfl ?_
        exact ih h
def Fcg_howMany (l1 : Int32) (σ : zSt) : Option (Int32) := Fcg_howMany_c4 σ zF l1 0 0
theorem Fcg_howMany_g {l1 : Int32} {σ : zSt} {r : Int32} (h : Fcg_howMany l1 σ = some r) : zGo zPT zmlc (zPT 79) (0, zent (zmlc 79) [.ref 43, .int l1], [], σ) (some (.int r), σ) := by
  unfold Fcg_howMany at h
  show zGo zPT zmlc zP_79 (0, [some (.ref 43), some (.int l1), none, none], [], σ) _
  refine zGo.sts 4 (cf' := (4, [some (.ref 43), some (.int l1), some (.int 0), some (.int 0)], [], σ)) rfl ?_
  exact Fcg_howMany_g4 zF h
def Fcg_leastTime_c5 (σ : zSt) : Nat → Int32 → Int32 → Int32 → Option (Int32)
  | 0, _, _, _ => none
  | n + 1, l1, l2, l3 => if (σ 43 0) < l3 then (some l2) else ((Fcg_forcesWith l3 l1 σ).bind fun v1 => if v1 = 0 then (Fcg_leastTime_c5 σ n l1 l2 (l3 + 1)) else ((zld σ 46 l3).bind fun v2 => zlet (if v2 < l2 then v2 else l2) fun v3 => Fcg_leastTime_c5 σ n l1 v3 (l3 + 1)))
theorem Fcg_leastTime_g5 {σ : zSt} : ∀ (n : Nat) {l1 : Int32} {l2 : Int32} {l3 : Int32} {r : Int32}, Fcg_leastTime_c5 σ n l1 l2 l3 = some r → zGo zPT zmlc zP_80 (5, [some (.ref 43), some (.int l1), some (.int l2), some (.int l3)], [], σ) (some (.int r), σ) := by
  intro n
  induction n with
  | zero => intro l1 l2 l3 r h; cases h
  | succ n ih =>
    intro l1 l2 l3 r h
    rw [Fcg_leastTime_c5] at h
    refine zGo.sts 3 (cf' := (10, [some (.ref 43), some (.int l1), some (.int l2), some (.int l3)], [.int (σ 43 0), .int l3], σ)) rfl ?_
    by_cases hb5 : (σ 43 0) < l3
    · replace h := zif_t hb5 h
      refine zC_gt_t rfl hb5 ?_
      refine zGo.sts 1 (cf' := (40, [some (.ref 43), some (.int l1), some (.int l2), some (.int l3)], [.int l2], σ)) rfl ?_
      obtain rfl := Option.some.inj h
      exact zGo.ret rfl rfl
    · replace h := zif_f hb5 h
      refine zC_gt_f rfl hb5 ?_
      refine zGo.sts 3 (cf' := (16, [some (.ref 43), some (.int l1), some (.int l2), some (.int l3)], [.int l1, .int l3, .ref 43], σ)) rfl ?_
      obtain ⟨v1, hv, h⟩ := zbd h
      refine zGo.call rfl rfl (Fcg_forcesWith_g hv) ?_
      by_cases hb4 : v1 = 0
      · replace h := zif_t hb4 h
        refine zI_eq_t rfl hb4 ?_
        refine zGo.sts 2 (cf' := (5, [some (.ref 43), some (.int l1), some (.int l2), some (.int (l3 + 1))], [], σ)) rfl ?_
        exact ih h
      · replace h := zif_f hb4 h
        refine zI_eq_f rfl hb4 ?_
        refine zGo.sts 4 (cf' := (28, [some (.ref 43), some (.int l1), some (.int l2), some (.int l3)], [.int l3, .ref 46, .int l2], σ)) rfl ?_
        obtain ⟨v2, hv, h⟩ := zbd h
        refine zG_ld rfl hv ?_
        refine zGo.sts 2 (cf' := (33, [some (.ref 43), some (.int l1), some (.int (if v2 < l2 then v2 else l2)), some (.int l3)], [], σ)) rfl ?_
        replace h := zlet_of h
        generalize (if v2 < l2 then v2 else l2) = v3 at h ⊢
        refine zGo.sts 2 (cf' := (5, [some (.ref 43), some (.int l1), some (.int v3), some (.int (l3 + 1))], [], σ)) rfl ?_
        exact ih h
def Fcg_leastTime (l1 : Int32) (σ : zSt) : Option (Int32) := Fcg_leastTime_c5 σ zF l1 9 0
theorem Fcg_leastTime_g {l1 : Int32} {σ : zSt} {r : Int32} (h : Fcg_leastTime l1 σ = some r) : zGo zPT zmlc (zPT 80) (0, zent (zmlc 80) [.ref 43, .int l1], [], σ) (some (.int r), σ) := by
  unfold Fcg_leastTime at h
  show zGo zPT zmlc zP_80 (0, [some (.ref 43), some (.int l1), none, none], [], σ) _
  refine zGo.sts 4 (cf' := (5, [some (.ref 43), some (.int l1), some (.int 9), some (.int 0)], [], σ)) rfl ?_
  exact Fcg_leastTime_g5 zF h
def X_least (l1 : Int32) (σ : zSt) : Option (Int32 × zSt) := if l1 < 0 then (some ((-1), σ)) else (if l1 ≤ 3 then ((Fcg_take σ).bind fun σ1 => (Fcg_fillTimes σ1).bind fun σ2 => (Fcg_leastSize σ2).bind fun v3 => if l1 = 0 then (some (v3, σ2)) else (if l1 = 1 then ((Fcg_firstOf v3 σ2).bind fun v6 => some (v6, σ2)) else (if l1 = 2 then ((Fcg_howMany v3 σ2).bind fun v8 => some (v8, σ2)) else ((Fcg_leastTime v3 σ2).bind fun v9 => some (v9, σ2))))) else (some ((-1), σ)))
theorem X_least_g {l1 : Int32} {σ : zSt} {r : Int32 × zSt} (h : X_least l1 σ = some r) : zGo zPT zmlc (zPT 99) (0, zent (zmlc 99) [.ref 0, .int l1], [], σ) (some (.int r.1), r.2) := by
  unfold X_least at h
  show zGo zPT zmlc zP_99 (0, [some (.ref 0), some (.int l1), none], [], σ) _
  refine zGo.sts 1 (cf' := (1, [some (.ref 0), some (.int l1), none], [.int l1], σ)) rfl ?_
  by_cases hb11 : l1 < 0
  · replace h := zif_t hb11 h
    refine zI_lt_t rfl hb11 ?_
    refine zGo.sts 1 (cf' := (10, [some (.ref 0), some (.int l1), none], [.int (-1)], σ)) rfl ?_
    obtain rfl := Option.some.inj h
    exact zGo.ret rfl rfl
  · replace h := zif_f hb11 h
    refine zI_lt_f rfl hb11 ?_
    refine zGo.sts 2 (cf' := (6, [some (.ref 0), some (.int l1), none], [.int 3, .int l1], σ)) rfl ?_
    by_cases hb10 : l1 ≤ 3
    · replace h := zif_t hb10 h
      refine zC_le_t rfl hb10 ?_
      refine zGo.sts 4 (cf' := (19, [some (.ref 0), some (.int l1), none], [.ref 1, .ref 43], σ)) rfl ?_
      obtain ⟨σ1, hv, h⟩ := zbd h
      refine zGo.call rfl rfl (Fcg_take_g hv) ?_
      refine zGo.sts 2 (cf' := (26, [some (.ref 0), some (.int l1), none], [.ref 43], σ1)) rfl ?_
      obtain ⟨σ2, hv, h⟩ := zbd h
      refine zGo.call rfl rfl (Fcg_fillTimes_g hv) ?_
      refine zGo.sts 2 (cf' := (33, [some (.ref 0), some (.int l1), none], [.ref 43], σ2)) rfl ?_
      obtain ⟨v3, hv, h⟩ := zbd h
      refine zGo.call rfl rfl (Fcg_leastSize_g hv) ?_
      refine zGo.sts 2 (cf' := (38, [some (.ref 0), some (.int l1), some (.int v3)], [.int l1], σ2)) rfl ?_
      by_cases hb4 : l1 = 0
      · replace h := zif_t hb4 h
        refine zG_sw rfl (zsw_t hb4) ?_
        refine zGo.sts 1 (cf' := (65, [some (.ref 0), some (.int l1), some (.int v3)], [.int v3], σ2)) rfl ?_
        obtain rfl := Option.some.inj h
        exact zGo.ret rfl rfl
      · replace h := zif_f hb4 h
        by_cases hb5 : l1 = 1
        · replace h := zif_t hb5 h
          refine zG_sw rfl ((zsw_f hb4).trans (zsw_t hb5)) ?_
          refine zGo.sts 3 (cf' := (71, [some (.ref 0), some (.int l1), some (.int v3)], [.int v3, .ref 43], σ2)) rfl ?_
          obtain ⟨v6, hv, h⟩ := zbd h
          refine zGo.call rfl rfl (Fcg_firstOf_g hv) ?_
          obtain rfl := Option.some.inj h
          exact zGo.ret rfl rfl
        · replace h := zif_f hb5 h
          by_cases hb7 : l1 = 2
          · replace h := zif_t hb7 h
            refine zG_sw rfl ((zsw_f hb4).trans ((zsw_f hb5).trans (zsw_t hb7))) ?_
            refine zGo.sts 3 (cf' := (80, [some (.ref 0), some (.int l1), some (.int v3)], [.int v3, .ref 43], σ2)) rfl ?_
            obtain ⟨v8, hv, h⟩ := zbd h
            refine zGo.call rfl rfl (Fcg_howMany_g hv) ?_
            obtain rfl := Option.some.inj h
            exact zGo.ret rfl rfl
          · replace h := zif_f hb7 h
            refine zG_sw rfl ((zsw_f hb4).trans ((zsw_f hb5).trans ((zsw_f hb7).trans rfl))) ?_
            refine zGo.sts 3 (cf' := (89, [some (.ref 0), some (.int l1), some (.int v3)], [.int v3, .ref 43], σ2)) rfl ?_
            obtain ⟨v9, hv, h⟩ := zbd h
            refine zGo.call rfl rfl (Fcg_leastTime_g hv) ?_
            obtain rfl := Option.some.inj h
            exact zGo.ret rfl rfl
    · replace h := zif_f hb10 h
      refine zC_le_f rfl hb10 ?_
      refine zGo.sts 1 (cf' := (10, [some (.ref 0), some (.int l1), none], [.int (-1)], σ)) rfl ?_
      obtain rfl := Option.some.inj h
      exact zGo.ret rfl rfl
def Net_sumOf_c4 (σ : zSt) : Nat → Int32 → Int32 → Int32 → Option (Int32)
  | 0, _, _, _ => none
  | n + 1, l1, l2, l3 => if (σ 1 0) ≤ l3 then (some l2) else (if ¬ ((l1 >>> (l3 &&& 31)) &&& 1) = 1 then (Net_sumOf_c4 σ n l1 l2 (l3 + 1)) else ((Net_countsOf l3 σ).bind fun v1 => Net_sumOf_c4 σ n l1 (l2 + v1) (l3 + 1)))
theorem Net_sumOf_g4 {σ : zSt} : ∀ (n : Nat) {l1 : Int32} {l2 : Int32} {l3 : Int32} {r : Int32}, Net_sumOf_c4 σ n l1 l2 l3 = some r → zGo zPT zmlc zP_32 (4, [some (.ref 1), some (.int l1), some (.int l2), some (.int l3)], [], σ) (some (.int r), σ) := by
  intro n
  induction n with
  | zero => intro l1 l2 l3 r h; cases h
  | succ n ih =>
    intro l1 l2 l3 r h
    rw [Net_sumOf_c4] at h
    refine zGo.sts 3 (cf' := (9, [some (.ref 1), some (.int l1), some (.int l2), some (.int l3)], [.int (σ 1 0), .int l3], σ)) rfl ?_
    by_cases hb3 : (σ 1 0) ≤ l3
    · replace h := zif_t hb3 h
      refine zC_ge_t rfl hb3 ?_
      refine zGo.sts 1 (cf' := (36, [some (.ref 1), some (.int l1), some (.int l2), some (.int l3)], [.int l2], σ)) rfl ?_
      obtain rfl := Option.some.inj h
      exact zGo.ret rfl rfl
    · replace h := zif_f hb3 h
      refine zC_ge_f rfl hb3 ?_
      refine zGo.sts 6 (cf' := (18, [some (.ref 1), some (.int l1), some (.int l2), some (.int l3)], [.int 1, .int ((l1 >>> (l3 &&& 31)) &&& 1)], σ)) rfl ?_
      by_cases hb2 : ¬ ((l1 >>> (l3 &&& 31)) &&& 1) = 1
      · replace h := zif_t hb2 h
        refine zC_ne_t rfl hb2 ?_
        refine zGo.sts 2 (cf' := (4, [some (.ref 1), some (.int l1), some (.int l2), some (.int (l3 + 1))], [], σ)) rfl ?_
        exact ih h
      · replace h := zif_f hb2 h
        refine zC_ne_f rfl hb2 ?_
        refine zGo.sts 3 (cf' := (24, [some (.ref 1), some (.int l1), some (.int l2), some (.int l3)], [.int l3, .ref 1, .int l2], σ)) rfl ?_
        obtain ⟨v1, hv, h⟩ := zbd h
        refine zGo.call rfl rfl (Net_countsOf_g hv) ?_
        refine zGo.sts 4 (cf' := (4, [some (.ref 1), some (.int l1), some (.int (l2 + v1)), some (.int (l3 + 1))], [], σ)) rfl ?_
        exact ih h
def Net_sumOf (l1 : Int32) (σ : zSt) : Option (Int32) := Net_sumOf_c4 σ zF l1 0 0
theorem Net_sumOf_g {l1 : Int32} {σ : zSt} {r : Int32} (h : Net_sumOf l1 σ = some r) : zGo zPT zmlc (zPT 32) (0, zent (zmlc 32) [.ref 1, .int l1], [], σ) (some (.int r), σ) := by
  unfold Net_sumOf at h
  show zGo zPT zmlc zP_32 (0, [some (.ref 1), some (.int l1), none, none], [], σ) _
  refine zGo.sts 4 (cf' := (4, [some (.ref 1), some (.int l1), some (.int 0), some (.int 0)], [], σ)) rfl ?_
  exact Net_sumOf_g4 zF h
def Fcg_cheapestSet_c20 (σ : zSt) : Nat → Int32 → Int32 → Int32 → Option (Int32)
  | 0, _, _, _ => none
  | n + 1, l2, l3, l4 => if l4 < 0 then (some l2) else ((zld σ 46 l4).bind fun v2 => if v2 < 0 then (Fcg_cheapestSet_c20 σ n l2 l3 (l4 + (-1))) else ((Net_sumOf l4 σ).bind fun v3 => if l3 < v3 then (Fcg_cheapestSet_c20 σ n l2 l3 (l4 + (-1))) else (Fcg_cheapestSet_c20 σ n l4 v3 (l4 + (-1)))))
theorem Fcg_cheapestSet_g20 {σ : zSt} : ∀ (n : Nat) {d5 : Option Value} {l2 : Int32} {l3 : Int32} {l4 : Int32} {r : Int32}, Fcg_cheapestSet_c20 σ n l2 l3 l4 = some r → zGo zPT zmlc zP_83 (20, [some (.ref 43), some (.ref 1), some (.int l2), some (.int l3), some (.int l4), d5], [], σ) (some (.int r), σ) := by
  intro n
  induction n with
  | zero => intro d5 l2 l3 l4 r h; cases h
  | succ n ih =>
    intro d5 l2 l3 l4 r h
    rw [Fcg_cheapestSet_c20] at h
    refine zGo.sts 1 (cf' := (22, [some (.ref 43), some (.ref 1), some (.int l2), some (.int l3), some (.int l4), d5], [.int l4], σ)) rfl ?_
    by_cases hb6 : l4 < 0
    · replace h := zif_t hb6 h
      refine zI_lt_t rfl hb6 ?_
      refine zGo.sts 1 (cf' := (62, [some (.ref 43), some (.ref 1), some (.int l2), some (.int l3), some (.int l4), d5], [.int l2], σ)) rfl ?_
      obtain rfl := Option.some.inj h
      exact zGo.ret rfl rfl
    · replace h := zif_f hb6 h
      refine zI_lt_f rfl hb6 ?_
      refine zGo.sts 3 (cf' := (31, [some (.ref 43), some (.ref 1), some (.int l2), some (.int l3), some (.int l4), d5], [.int l4, .ref 46], σ)) rfl ?_
      obtain ⟨v2, hv, h⟩ := zbd h
      refine zG_ld rfl hv ?_
      by_cases hb5 : v2 < 0
      · replace h := zif_t hb5 h
        refine zI_lt_t rfl hb5 ?_
        refine zGo.sts 2 (cf' := (20, [some (.ref 43), some (.ref 1), some (.int l2), some (.int l3), some (.int (l4 + (-1))), d5], [], σ)) rfl ?_
        exact ih h
      · replace h := zif_f hb5 h
        refine zI_lt_f rfl hb5 ?_
        refine zGo.sts 2 (cf' := (38, [some (.ref 43), some (.ref 1), some (.int l2), some (.int l3), some (.int l4), d5], [.int l4, .ref 1], σ)) rfl ?_
        obtain ⟨v3, hv, h⟩ := zbd h
        refine zGo.call rfl rfl (Net_sumOf_g hv) ?_
        refine zGo.sts 3 (cf' := (46, [some (.ref 43), some (.ref 1), some (.int l2), some (.int l3), some (.int l4), some (.int v3)], [.int l3, .int v3], σ)) rfl ?_
        by_cases hb4 : l3 < v3
        · replace h := zif_t hb4 h
          refine zC_gt_t rfl hb4 ?_
          refine zGo.sts 2 (cf' := (20, [some (.ref 43), some (.ref 1), some (.int l2), some (.int l3), some (.int (l4 + (-1))), some (.int v3)], [], σ)) rfl ?_
          exact ih h
        · replace h := zif_f hb4 h
          refine zC_gt_f rfl hb4 ?_
          refine zGo.sts 6 (cf' := (20, [some (.ref 43), some (.ref 1), some (.int l4), some (.int v3), some (.int (l4 + (-1))), some (.int v3)], [], σ)) rfl ?_
          exact ih h
def Fcg_cheapestSet (σ : zSt) : Option (Int32) := (Net_sumOf (σ 43 0) σ).bind fun v1 => Fcg_cheapestSet_c20 σ zF (σ 43 0) v1 (σ 43 0)
theorem Fcg_cheapestSet_g {σ : zSt} {r : Int32} (h : Fcg_cheapestSet σ = some r) : zGo zPT zmlc (zPT 83) (0, zent (zmlc 83) [.ref 43, .ref 1], [], σ) (some (.int r), σ) := by
  unfold Fcg_cheapestSet at h
  show zGo zPT zmlc zP_83 (0, [some (.ref 43), some (.ref 1), none, none, none, none], [], σ) _
  refine zGo.sts 6 (cf' := (10, [some (.ref 43), some (.ref 1), some (.int (σ 43 0)), none, none, none], [.int (σ 43 0), .ref 1], σ)) rfl ?_
  obtain ⟨v1, hv, h⟩ := zbd h
  refine zGo.call rfl rfl (Net_sumOf_g hv) ?_
  refine zGo.sts 4 (cf' := (20, [some (.ref 43), some (.ref 1), some (.int (σ 43 0)), some (.int v1), some (.int (σ 43 0)), none], [], σ)) rfl ?_
  exact Fcg_cheapestSet_g20 zF h
def X_cheapest (l1 : Int32) (σ : zSt) : Option (Int32 × zSt) := if l1 < 0 then (some ((-1), σ)) else (if l1 ≤ 1 then ((Fcg_take σ).bind fun σ1 => (Fcg_fillTimes σ1).bind fun σ2 => (Fcg_cheapestSet σ2).bind fun v3 => if ¬ l1 = 0 then ((Net_sumOf v3 σ2).bind fun v4 => some (v4, σ2)) else (some (v3, σ2))) else (some ((-1), σ)))
theorem X_cheapest_g {l1 : Int32} {σ : zSt} {r : Int32 × zSt} (h : X_cheapest l1 σ = some r) : zGo zPT zmlc (zPT 100) (0, zent (zmlc 100) [.ref 0, .int l1], [], σ) (some (.int r.1), r.2) := by
  unfold X_cheapest at h
  show zGo zPT zmlc zP_100 (0, [some (.ref 0), some (.int l1), none], [], σ) _
  refine zGo.sts 1 (cf' := (1, [some (.ref 0), some (.int l1), none], [.int l1], σ)) rfl ?_
  by_cases hb7 : l1 < 0
  · replace h := zif_t hb7 h
    refine zI_lt_t rfl hb7 ?_
    refine zGo.sts 1 (cf' := (10, [some (.ref 0), some (.int l1), none], [.int (-1)], σ)) rfl ?_
    obtain rfl := Option.some.inj h
    exact zGo.ret rfl rfl
  · replace h := zif_f hb7 h
    refine zI_lt_f rfl hb7 ?_
    refine zGo.sts 2 (cf' := (6, [some (.ref 0), some (.int l1), none], [.int 1, .int l1], σ)) rfl ?_
    by_cases hb6 : l1 ≤ 1
    · replace h := zif_t hb6 h
      refine zC_le_t rfl hb6 ?_
      refine zGo.sts 4 (cf' := (19, [some (.ref 0), some (.int l1), none], [.ref 1, .ref 43], σ)) rfl ?_
      obtain ⟨σ1, hv, h⟩ := zbd h
      refine zGo.call rfl rfl (Fcg_take_g hv) ?_
      refine zGo.sts 2 (cf' := (26, [some (.ref 0), some (.int l1), none], [.ref 43], σ1)) rfl ?_
      obtain ⟨σ2, hv, h⟩ := zbd h
      refine zGo.call rfl rfl (Fcg_fillTimes_g hv) ?_
      refine zGo.sts 4 (cf' := (37, [some (.ref 0), some (.int l1), none], [.ref 1, .ref 43], σ2)) rfl ?_
      obtain ⟨v3, hv, h⟩ := zbd h
      refine zGo.call rfl rfl (Fcg_cheapestSet_g hv) ?_
      refine zGo.sts 2 (cf' := (42, [some (.ref 0), some (.int l1), some (.int v3)], [.int l1], σ2)) rfl ?_
      by_cases hb5 : ¬ l1 = 0
      · replace h := zif_t hb5 h
        refine zI_ne_t rfl hb5 ?_
        refine zGo.sts 3 (cf' := (54, [some (.ref 0), some (.int l1), some (.int v3)], [.int v3, .ref 1], σ2)) rfl ?_
        obtain ⟨v4, hv, h⟩ := zbd h
        refine zGo.call rfl rfl (Net_sumOf_g hv) ?_
        obtain rfl := Option.some.inj h
        exact zGo.ret rfl rfl
      · replace h := zif_f hb5 h
        refine zI_ne_f rfl hb5 ?_
        refine zGo.sts 2 (cf' := (57, [some (.ref 0), some (.int l1), some (.int v3)], [.int v3], σ2)) rfl ?_
        obtain rfl := Option.some.inj h
        exact zGo.ret rfl rfl
    · replace h := zif_f hb6 h
      refine zC_le_f rfl hb6 ?_
      refine zGo.sts 1 (cf' := (10, [some (.ref 0), some (.int l1), none], [.int (-1)], σ)) rfl ?_
      obtain rfl := Option.some.inj h
      exact zGo.ret rfl rfl
def X_many (l1 : Int32) (σ : zSt) : Option (Int32 × zSt) := if l1 < 0 then (some ((-1), σ)) else (if l1 ≤ (σ 1 0) then ((Fcg_take σ).bind fun σ1 => (Fcg_fillTimes σ1).bind fun σ2 => (Fcg_howMany l1 σ2).bind fun v3 => some (v3, σ2)) else (some ((-1), σ)))
theorem X_many_g {l1 : Int32} {σ : zSt} {r : Int32 × zSt} (h : X_many l1 σ = some r) : zGo zPT zmlc (zPT 101) (0, zent (zmlc 101) [.ref 0, .int l1], [], σ) (some (.int r.1), r.2) := by
  unfold X_many at h
  show zGo zPT zmlc zP_101 (0, [some (.ref 0), some (.int l1)], [], σ) _
  refine zGo.sts 1 (cf' := (1, [some (.ref 0), some (.int l1)], [.int l1], σ)) rfl ?_
  by_cases hb5 : l1 < 0
  · replace h := zif_t hb5 h
    refine zI_lt_t rfl hb5 ?_
    refine zGo.sts 1 (cf' := (16, [some (.ref 0), some (.int l1)], [.int (-1)], σ)) rfl ?_
    obtain rfl := Option.some.inj h
    exact zGo.ret rfl rfl
  · replace h := zif_f hb5 h
    refine zI_lt_f rfl hb5 ?_
    refine zGo.sts 4 (cf' := (12, [some (.ref 0), some (.int l1)], [.int (σ 1 0), .int l1], σ)) rfl ?_
    by_cases hb4 : l1 ≤ (σ 1 0)
    · replace h := zif_t hb4 h
      refine zC_le_t rfl hb4 ?_
      refine zGo.sts 4 (cf' := (25, [some (.ref 0), some (.int l1)], [.ref 1, .ref 43], σ)) rfl ?_
      obtain ⟨σ1, hv, h⟩ := zbd h
      refine zGo.call rfl rfl (Fcg_take_g hv) ?_
      refine zGo.sts 2 (cf' := (32, [some (.ref 0), some (.int l1)], [.ref 43], σ1)) rfl ?_
      obtain ⟨σ2, hv, h⟩ := zbd h
      refine zGo.call rfl rfl (Fcg_fillTimes_g hv) ?_
      refine zGo.sts 3 (cf' := (40, [some (.ref 0), some (.int l1)], [.int l1, .ref 43], σ2)) rfl ?_
      obtain ⟨v3, hv, h⟩ := zbd h
      refine zGo.call rfl rfl (Fcg_howMany_g hv) ?_
      obtain rfl := Option.some.inj h
      exact zGo.ret rfl rfl
    · replace h := zif_f hb4 h
      refine zC_le_f rfl hb4 ?_
      refine zGo.sts 1 (cf' := (16, [some (.ref 0), some (.int l1)], [.int (-1)], σ)) rfl ?_
      obtain rfl := Option.some.inj h
      exact zGo.ret rfl rfl
def Fcg_sizeAndTime (l1 : Int32) (σ : zSt) : Option (Int32) := (Jdk_bitCount l1 σ).bind fun v1 => (zld σ 46 l1).bind fun v2 => some (v1 + v2)
theorem Fcg_sizeAndTime_g {l1 : Int32} {σ : zSt} {r : Int32} (h : Fcg_sizeAndTime l1 σ = some r) : zGo zPT zmlc (zPT 81) (0, zent (zmlc 81) [.ref 43, .int l1], [], σ) (some (.int r), σ) := by
  unfold Fcg_sizeAndTime at h
  show zGo zPT zmlc zP_81 (0, [some (.ref 43), some (.int l1)], [], σ) _
  refine zGo.sts 1 (cf' := (1, [some (.ref 43), some (.int l1)], [.int l1], σ)) rfl ?_
  obtain ⟨v1, hv, h⟩ := zbd h
  refine zGo.call rfl rfl (Jdk_bitCount_g hv) ?_
  refine zGo.sts 3 (cf' := (9, [some (.ref 43), some (.int l1)], [.int l1, .ref 46, .int v1], σ)) rfl ?_
  obtain ⟨v2, hv, h⟩ := zbd h
  refine zG_ld rfl hv ?_
  refine zGo.sts 1 (cf' := (11, [some (.ref 43), some (.int l1)], [.int (v1 + v2)], σ)) rfl ?_
  obtain rfl := Option.some.inj h
  exact zGo.ret rfl rfl
def Fcg_throttleSet_c10 (σ : zSt) : Nat → Int32 → Int32 → Option (Int32)
  | 0, _, _ => none
  | n + 1, l1, l2 => if l2 < 0 then (some l1) else ((zld σ 46 l2).bind fun v1 => if v1 < 0 then (Fcg_throttleSet_c10 σ n l1 (l2 + (-1))) else ((Fcg_sizeAndTime l2 σ).bind fun v2 => (Fcg_sizeAndTime l1 σ).bind fun v3 => if v3 < v2 then (Fcg_throttleSet_c10 σ n l1 (l2 + (-1))) else (Fcg_throttleSet_c10 σ n l2 (l2 + (-1)))))
theorem Fcg_throttleSet_g10 {σ : zSt} : ∀ (n : Nat) {l1 : Int32} {l2 : Int32} {r : Int32}, Fcg_throttleSet_c10 σ n l1 l2 = some r → zGo zPT zmlc zP_82 (10, [some (.ref 43), some (.int l1), some (.int l2)], [], σ) (some (.int r), σ) := by
  intro n
  induction n with
  | zero => intro l1 l2 r h; cases h
  | succ n ih =>
    intro l1 l2 r h
    rw [Fcg_throttleSet_c10] at h
    refine zGo.sts 1 (cf' := (11, [some (.ref 43), some (.int l1), some (.int l2)], [.int l2], σ)) rfl ?_
    by_cases hb6 : l2 < 0
    · replace h := zif_t hb6 h
      refine zI_lt_t rfl hb6 ?_
      refine zGo.sts 1 (cf' := (45, [some (.ref 43), some (.int l1), some (.int l2)], [.int l1], σ)) rfl ?_
      obtain rfl := Option.some.inj h
      exact zGo.ret rfl rfl
    · replace h := zif_f hb6 h
      refine zI_lt_f rfl hb6 ?_
      refine zGo.sts 3 (cf' := (19, [some (.ref 43), some (.int l1), some (.int l2)], [.int l2, .ref 46], σ)) rfl ?_
      obtain ⟨v1, hv, h⟩ := zbd h
      refine zG_ld rfl hv ?_
      by_cases hb5 : v1 < 0
      · replace h := zif_t hb5 h
        refine zI_lt_t rfl hb5 ?_
        refine zGo.sts 2 (cf' := (10, [some (.ref 43), some (.int l1), some (.int (l2 + (-1)))], [], σ)) rfl ?_
        exact ih h
      · replace h := zif_f hb5 h
        refine zI_lt_f rfl hb5 ?_
        refine zGo.sts 2 (cf' := (25, [some (.ref 43), some (.int l1), some (.int l2)], [.int l2, .ref 43], σ)) rfl ?_
        obtain ⟨v2, hv, h⟩ := zbd h
        refine zGo.call rfl rfl (Fcg_sizeAndTime_g hv) ?_
        refine zGo.sts 2 (cf' := (30, [some (.ref 43), some (.int l1), some (.int l2)], [.int l1, .ref 43, .int v2], σ)) rfl ?_
        obtain ⟨v3, hv, h⟩ := zbd h
        refine zGo.call rfl rfl (Fcg_sizeAndTime_g hv) ?_
        by_cases hb4 : v3 < v2
        · replace h := zif_t hb4 h
          refine zC_gt_t rfl hb4 ?_
          refine zGo.sts 2 (cf' := (10, [some (.ref 43), some (.int l1), some (.int (l2 + (-1)))], [], σ)) rfl ?_
          exact ih h
        · replace h := zif_f hb4 h
          refine zC_gt_f rfl hb4 ?_
          refine zGo.sts 4 (cf' := (10, [some (.ref 43), some (.int l2), some (.int (l2 + (-1)))], [], σ)) rfl ?_
          exact ih h
def Fcg_throttleSet (σ : zSt) : Option (Int32) := Fcg_throttleSet_c10 σ zF (σ 43 0) (σ 43 0)
theorem Fcg_throttleSet_g {σ : zSt} {r : Int32} (h : Fcg_throttleSet σ = some r) : zGo zPT zmlc (zPT 82) (0, zent (zmlc 82) [.ref 43], [], σ) (some (.int r), σ) := by
  unfold Fcg_throttleSet at h
  show zGo zPT zmlc zP_82 (0, [some (.ref 43), none, none], [], σ) _
  refine zGo.sts 6 (cf' := (10, [some (.ref 43), some (.int (σ 43 0)), some (.int (σ 43 0))], [], σ)) rfl ?_
  exact Fcg_throttleSet_g10 zF h
def X_throttle (l1 : Int32) (σ : zSt) : Option (Int32 × zSt) := if l1 < 0 then (some ((-1), σ)) else (if l1 ≤ 1 then ((Fcg_take σ).bind fun σ1 => (Fcg_fillTimes σ1).bind fun σ2 => (Fcg_throttleSet σ2).bind fun v3 => if ¬ l1 = 1 then ((Fcg_sizeAndTime v3 σ2).bind fun v4 => some (v4, σ2)) else (some (v3, σ2))) else (some ((-1), σ)))
theorem X_throttle_g {l1 : Int32} {σ : zSt} {r : Int32 × zSt} (h : X_throttle l1 σ = some r) : zGo zPT zmlc (zPT 102) (0, zent (zmlc 102) [.ref 0, .int l1], [], σ) (some (.int r.1), r.2) := by
  unfold X_throttle at h
  show zGo zPT zmlc zP_102 (0, [some (.ref 0), some (.int l1), none], [], σ) _
  refine zGo.sts 1 (cf' := (1, [some (.ref 0), some (.int l1), none], [.int l1], σ)) rfl ?_
  by_cases hb7 : l1 < 0
  · replace h := zif_t hb7 h
    refine zI_lt_t rfl hb7 ?_
    refine zGo.sts 1 (cf' := (10, [some (.ref 0), some (.int l1), none], [.int (-1)], σ)) rfl ?_
    obtain rfl := Option.some.inj h
    exact zGo.ret rfl rfl
  · replace h := zif_f hb7 h
    refine zI_lt_f rfl hb7 ?_
    refine zGo.sts 2 (cf' := (6, [some (.ref 0), some (.int l1), none], [.int 1, .int l1], σ)) rfl ?_
    by_cases hb6 : l1 ≤ 1
    · replace h := zif_t hb6 h
      refine zC_le_t rfl hb6 ?_
      refine zGo.sts 4 (cf' := (19, [some (.ref 0), some (.int l1), none], [.ref 1, .ref 43], σ)) rfl ?_
      obtain ⟨σ1, hv, h⟩ := zbd h
      refine zGo.call rfl rfl (Fcg_take_g hv) ?_
      refine zGo.sts 2 (cf' := (26, [some (.ref 0), some (.int l1), none], [.ref 43], σ1)) rfl ?_
      obtain ⟨σ2, hv, h⟩ := zbd h
      refine zGo.call rfl rfl (Fcg_fillTimes_g hv) ?_
      refine zGo.sts 2 (cf' := (33, [some (.ref 0), some (.int l1), none], [.ref 43], σ2)) rfl ?_
      obtain ⟨v3, hv, h⟩ := zbd h
      refine zGo.call rfl rfl (Fcg_throttleSet_g hv) ?_
      refine zGo.sts 3 (cf' := (39, [some (.ref 0), some (.int l1), some (.int v3)], [.int 1, .int l1], σ2)) rfl ?_
      by_cases hb5 : ¬ l1 = 1
      · replace h := zif_t hb5 h
        refine zC_ne_t rfl hb5 ?_
        refine zGo.sts 3 (cf' := (51, [some (.ref 0), some (.int l1), some (.int v3)], [.int v3, .ref 43], σ2)) rfl ?_
        obtain ⟨v4, hv, h⟩ := zbd h
        refine zGo.call rfl rfl (Fcg_sizeAndTime_g hv) ?_
        obtain rfl := Option.some.inj h
        exact zGo.ret rfl rfl
      · replace h := zif_f hb5 h
        refine zC_ne_f rfl hb5 ?_
        refine zGo.sts 2 (cf' := (54, [some (.ref 0), some (.int l1), some (.int v3)], [.int v3], σ2)) rfl ?_
        obtain rfl := Option.some.inj h
        exact zGo.ret rfl rfl
    · replace h := zif_f hb6 h
      refine zC_le_f rfl hb6 ?_
      refine zGo.sts 1 (cf' := (10, [some (.ref 0), some (.int l1), none], [.int (-1)], σ)) rfl ?_
      obtain rfl := Option.some.inj h
      exact zGo.ret rfl rfl
def X_leastOfAll (σ : zSt) : Option (Int32 × zSt) := (Fcg_take σ).bind fun σ1 => (Fcg_fillTimes σ1).bind fun σ2 => (Fcg_leastSize σ2).bind fun v3 => some (v3, σ2)
theorem X_leastOfAll_g {σ : zSt} {r : Int32 × zSt} (h : X_leastOfAll σ = some r) : zGo zPT zmlc (zPT 140) (0, zent (zmlc 140) [.ref 0], [], σ) (some (.int r.1), r.2) := by
  unfold X_leastOfAll at h
  show zGo zPT zmlc zP_140 (0, [some (.ref 0)], [], σ) _
  refine zGo.sts 4 (cf' := (8, [some (.ref 0)], [.ref 1, .ref 43], σ)) rfl ?_
  obtain ⟨σ1, hv, h⟩ := zbd h
  refine zGo.call rfl rfl (Fcg_take_g hv) ?_
  refine zGo.sts 2 (cf' := (15, [some (.ref 0)], [.ref 43], σ1)) rfl ?_
  obtain ⟨σ2, hv, h⟩ := zbd h
  refine zGo.call rfl rfl (Fcg_fillTimes_g hv) ?_
  refine zGo.sts 2 (cf' := (22, [some (.ref 0)], [.ref 43], σ2)) rfl ?_
  obtain ⟨v3, hv, h⟩ := zbd h
  refine zGo.call rfl rfl (Fcg_leastSize_g hv) ?_
  obtain rfl := Option.some.inj h
  exact zGo.ret rfl rfl
def Fcg_takeWithout_c24 : Nat → Int32 → Int32 → Int32 → zSt → Option (zSt)
  | 0, _, _, _, _ => none
  | n + 1, l2, l3, l4, σ => if 9 ≤ l4 then ((zst σ 44 l2 0).bind fun σ4 => (Fcg_fillAround σ4).bind fun σ5 => some σ5) else ((zld σ 44 l4).bind fun v6 => (zst σ 44 l4 (v6 &&& l3)).bind fun σ7 => Fcg_takeWithout_c24 n l2 l3 (l4 + 1) σ7)
theorem Fcg_takeWithout_g24 : ∀ (n : Nat) {d1 : Option Value} {l2 : Int32} {l3 : Int32} {l4 : Int32} {σ : zSt} {r : zSt}, Fcg_takeWithout_c24 n l2 l3 l4 σ = some r → zGo zPT zmlc zP_61 (24, [some (.ref 43), d1, some (.int l2), some (.int l3), some (.int l4)], [], σ) (none, r) := by
  intro n
  induction n with
  | zero => intro d1 l2 l3 l4 σ r h; cases h
  | succ n ih =>
    intro d1 l2 l3 l4 σ r h
    rw [Fcg_takeWithout_c24] at h
    refine zGo.sts 2 (cf' := (28, [some (.ref 43), d1, some (.int l2), some (.int l3), some (.int l4)], [.int 9, .int l4], σ)) rfl ?_
    by_cases hb8 : 9 ≤ l4
    · replace h := zif_t hb8 h
      refine zC_ge_t rfl hb8 ?_
      refine zGo.sts 4 (cf' := (54, [some (.ref 43), d1, some (.int l2), some (.int l3), some (.int l4)], [.int 0, .int l2, .ref 44], σ)) rfl ?_
      obtain ⟨σ4, hv, h⟩ := zbd h
      refine zG_st rfl hv ?_
      refine zGo.sts 1 (cf' := (56, [some (.ref 43), d1, some (.int l2), some (.int l3), some (.int l4)], [.ref 43], σ4)) rfl ?_
      obtain ⟨σ5, hv, h⟩ := zbd h
      refine zGo.call rfl rfl (Fcg_fillAround_g hv) ?_
      obtain rfl := Option.some.inj h
      exact zGo.ret rfl rfl
    · replace h := zif_f hb8 h
      refine zC_ge_f rfl hb8 ?_
      refine zGo.sts 4 (cf' := (38, [some (.ref 43), d1, some (.int l2), some (.int l3), some (.int l4)], [.int l4, .ref 44, .int l4, .ref 44], σ)) rfl ?_
      obtain ⟨v6, hv, h⟩ := zbd h
      refine zG_ld rfl hv ?_
      refine zGo.sts 2 (cf' := (41, [some (.ref 43), d1, some (.int l2), some (.int l3), some (.int l4)], [.int (v6 &&& l3), .int l4, .ref 44], σ)) rfl ?_
      obtain ⟨σ7, hv, h⟩ := zbd h
      refine zG_st rfl hv ?_
      refine zGo.sts 2 (cf' := (24, [some (.ref 43), d1, some (.int l2), some (.int l3), some (.int (l4 + 1))], [], σ7)) rfl ?_
      exact ih h
def Fcg_takeWithout (l2 : Int32) (σ : zSt) : Option (zSt) := (Fcg_copy σ).bind fun σ1 => zlet ((1 <<< (l2 &&& 31)) ^^^ (-1)) fun v2 => zlet (su σ1 43 0 ((σ1 43 0) &&& v2)) fun σ3 => Fcg_takeWithout_c24 zF l2 v2 0 σ3
theorem Fcg_takeWithout_g {l2 : Int32} {σ : zSt} {r : zSt} (h : Fcg_takeWithout l2 σ = some r) : zGo zPT zmlc (zPT 61) (0, zent (zmlc 61) [.ref 43, .ref 1, .int l2], [], σ) (none, r) := by
  unfold Fcg_takeWithout at h
  show zGo zPT zmlc zP_61 (0, [some (.ref 43), some (.ref 1), some (.int l2), none, none], [], σ) _
  refine zGo.sts 2 (cf' := (2, [some (.ref 43), some (.ref 1), some (.int l2), none, none], [.ref 1, .ref 43], σ)) rfl ?_
  obtain ⟨σ1, hv, h⟩ := zbd h
  refine zGo.call rfl rfl (Fcg_copy_g hv) ?_
  refine zGo.sts 6 (cf' := (11, [some (.ref 43), some (.ref 1), some (.int l2), some (.int ((1 <<< (l2 &&& 31)) ^^^ (-1))), none], [], σ1)) rfl ?_
  replace h := zlet_of h
  generalize (1 <<< (l2 &&& 31)) ^^^ (-1) = v2 at h ⊢
  refine zGo.sts 6 (cf' := (21, [some (.ref 43), some (.ref 1), some (.int l2), some (.int v2), none], [], (su σ1 43 0 ((σ1 43 0) &&& v2)))) rfl ?_
  replace h := zlet_of h
  generalize su σ1 43 0 ((σ1 43 0) &&& v2) = σ3 at h ⊢
  refine zGo.sts 2 (cf' := (24, [some (.ref 43), some (.ref 1), some (.int l2), some (.int v2), some (.int 0)], [], σ3)) rfl ?_
  exact Fcg_takeWithout_g24 zF h
def X_spread (l1 : Int32) (σ : zSt) : Option (Int32 × zSt) := (Net_hasPoint l1 σ).bind fun v1 => if ¬ v1 = 0 then (zb2 (X_leastOfAll σ) fun v2 σ3 => (Fcg_takeWithout l1 σ3).bind fun σ4 => (Fcg_fillTimes σ4).bind fun σ5 => (Fcg_leastSize σ5).bind fun v6 => some (v2 - v6, σ5)) else (some ((-2147483648), σ))
theorem X_spread_g {l1 : Int32} {σ : zSt} {r : Int32 × zSt} (h : X_spread l1 σ = some r) : zGo zPT zmlc (zPT 103) (0, zent (zmlc 103) [.ref 0, .int l1], [], σ) (some (.int r.1), r.2) := by
  unfold X_spread at h
  show zGo zPT zmlc zP_103 (0, [some (.ref 0), some (.int l1), none], [], σ) _
  refine zGo.sts 3 (cf' := (5, [some (.ref 0), some (.int l1), none], [.int l1, .ref 1], σ)) rfl ?_
  obtain ⟨v1, hv, h⟩ := zbd h
  refine zGo.call rfl rfl (Net_hasPoint_g hv) ?_
  by_cases hb7 : ¬ v1 = 0
  · replace h := zif_t hb7 h
    refine zI_ne_t rfl hb7 ?_
    refine zGo.sts 1 (cf' := (15, [some (.ref 0), some (.int l1), none], [.ref 0], σ)) rfl ?_
    obtain ⟨v2, σ3, hv, h⟩ := zbd2 h
    refine zGo.call rfl rfl (X_leastOfAll_g hv) ?_
    refine zGo.sts 6 (cf' := (28, [some (.ref 0), some (.int l1), some (.int v2)], [.int l1, .ref 1, .ref 43], σ3)) rfl ?_
    obtain ⟨σ4, hv, h⟩ := zbd h
    refine zGo.call rfl rfl (Fcg_takeWithout_g hv) ?_
    refine zGo.sts 2 (cf' := (35, [some (.ref 0), some (.int l1), some (.int v2)], [.ref 43], σ4)) rfl ?_
    obtain ⟨σ5, hv, h⟩ := zbd h
    refine zGo.call rfl rfl (Fcg_fillTimes_g hv) ?_
    refine zGo.sts 3 (cf' := (43, [some (.ref 0), some (.int l1), some (.int v2)], [.ref 43, .int v2], σ5)) rfl ?_
    obtain ⟨v6, hv, h⟩ := zbd h
    refine zGo.call rfl rfl (Fcg_leastSize_g hv) ?_
    refine zGo.sts 1 (cf' := (47, [some (.ref 0), some (.int l1), some (.int v2)], [.int (v2 - v6)], σ5)) rfl ?_
    obtain rfl := Option.some.inj h
    exact zGo.ret rfl rfl
  · replace h := zif_f hb7 h
    refine zI_ne_f rfl hb7 ?_
    refine zGo.sts 1 (cf' := (13, [some (.ref 0), some (.int l1), none], [.int (-2147483648)], σ)) rfl ?_
    obtain rfl := Option.some.inj h
    exact zGo.ret rfl rfl
def Fcg_takeFlipped (l2 : Int32) (l3 : Int32) (σ : zSt) : Option (zSt) := (Fcg_copy σ).bind fun σ1 => (zld σ1 44 l2).bind fun v2 => (zst σ1 44 l2 (v2 ^^^ (1 <<< (l3 &&& 31)))).bind fun σ3 => (zld σ3 44 l3).bind fun v4 => (zst σ3 44 l3 (v4 ^^^ (1 <<< (l2 &&& 31)))).bind fun σ5 => (Fcg_fillAround σ5).bind fun σ6 => some σ6
theorem Fcg_takeFlipped_g {l2 : Int32} {l3 : Int32} {σ : zSt} {r : zSt} (h : Fcg_takeFlipped l2 l3 σ = some r) : zGo zPT zmlc (zPT 62) (0, zent (zmlc 62) [.ref 43, .ref 1, .int l2, .int l3], [], σ) (none, r) := by
  unfold Fcg_takeFlipped at h
  show zGo zPT zmlc zP_62 (0, [some (.ref 43), some (.ref 1), some (.int l2), some (.int l3)], [], σ) _
  refine zGo.sts 2 (cf' := (2, [some (.ref 43), some (.ref 1), some (.int l2), some (.int l3)], [.ref 1, .ref 43], σ)) rfl ?_
  obtain ⟨σ1, hv, h⟩ := zbd h
  refine zGo.call rfl rfl (Fcg_copy_g hv) ?_
  refine zGo.sts 4 (cf' := (11, [some (.ref 43), some (.ref 1), some (.int l2), some (.int l3)], [.int l2, .ref 44, .int l2, .ref 44], σ1)) rfl ?_
  obtain ⟨v2, hv, h⟩ := zbd h
  refine zG_ld rfl hv ?_
  refine zGo.sts 4 (cf' := (16, [some (.ref 43), some (.ref 1), some (.int l2), some (.int l3)], [.int (v2 ^^^ (1 <<< (l3 &&& 31))), .int l2, .ref 44], σ1)) rfl ?_
  obtain ⟨σ3, hv, h⟩ := zbd h
  refine zG_st rfl hv ?_
  refine zGo.sts 4 (cf' := (23, [some (.ref 43), some (.ref 1), some (.int l2), some (.int l3)], [.int l3, .ref 44, .int l3, .ref 44], σ3)) rfl ?_
  obtain ⟨v4, hv, h⟩ := zbd h
  refine zG_ld rfl hv ?_
  refine zGo.sts 4 (cf' := (28, [some (.ref 43), some (.ref 1), some (.int l2), some (.int l3)], [.int (v4 ^^^ (1 <<< (l2 &&& 31))), .int l3, .ref 44], σ3)) rfl ?_
  obtain ⟨σ5, hv, h⟩ := zbd h
  refine zG_st rfl hv ?_
  refine zGo.sts 1 (cf' := (30, [some (.ref 43), some (.ref 1), some (.int l2), some (.int l3)], [.ref 43], σ5)) rfl ?_
  obtain ⟨σ6, hv, h⟩ := zbd h
  refine zGo.call rfl rfl (Fcg_fillAround_g hv) ?_
  obtain rfl := Option.some.inj h
  exact zGo.ret rfl rfl
def X_leastWithFlipped (l1 : Int32) (l2 : Int32) (σ : zSt) : Option (Int32 × zSt) := (Fcg_takeFlipped l1 l2 σ).bind fun σ1 => (Fcg_fillTimes σ1).bind fun σ2 => (Fcg_leastSize σ2).bind fun v3 => some (v3, σ2)
theorem X_leastWithFlipped_g {l1 : Int32} {l2 : Int32} {σ : zSt} {r : Int32 × zSt} (h : X_leastWithFlipped l1 l2 σ = some r) : zGo zPT zmlc (zPT 141) (0, zent (zmlc 141) [.ref 0, .int l1, .int l2], [], σ) (some (.int r.1), r.2) := by
  unfold X_leastWithFlipped at h
  show zGo zPT zmlc zP_141 (0, [some (.ref 0), some (.int l1), some (.int l2)], [], σ) _
  refine zGo.sts 6 (cf' := (10, [some (.ref 0), some (.int l1), some (.int l2)], [.int l2, .int l1, .ref 1, .ref 43], σ)) rfl ?_
  obtain ⟨σ1, hv, h⟩ := zbd h
  refine zGo.call rfl rfl (Fcg_takeFlipped_g hv) ?_
  refine zGo.sts 2 (cf' := (17, [some (.ref 0), some (.int l1), some (.int l2)], [.ref 43], σ1)) rfl ?_
  obtain ⟨σ2, hv, h⟩ := zbd h
  refine zGo.call rfl rfl (Fcg_fillTimes_g hv) ?_
  refine zGo.sts 2 (cf' := (24, [some (.ref 0), some (.int l1), some (.int l2)], [.ref 43], σ2)) rfl ?_
  obtain ⟨v3, hv, h⟩ := zbd h
  refine zGo.call rfl rfl (Fcg_leastSize_g hv) ?_
  obtain rfl := Option.some.inj h
  exact zGo.ret rfl rfl
def X_lineSpread (l1 : Int32) (l2 : Int32) (σ : zSt) : Option (Int32 × zSt) := (X_areTwo l1 l2 σ).bind fun v1 => if ¬ v1 = 0 then (zb2 (X_leastOfAll σ) fun v2 σ3 => zb2 (X_leastWithFlipped l1 l2 σ3) fun v4 σ5 => some (v2 - v4, σ5)) else (some ((-2147483648), σ))
theorem X_lineSpread_g {l1 : Int32} {l2 : Int32} {σ : zSt} {r : Int32 × zSt} (h : X_lineSpread l1 l2 σ = some r) : zGo zPT zmlc (zPT 104) (0, zent (zmlc 104) [.ref 0, .int l1, .int l2], [], σ) (some (.int r.1), r.2) := by
  unfold X_lineSpread at h
  show zGo zPT zmlc zP_104 (0, [some (.ref 0), some (.int l1), some (.int l2)], [], σ) _
  refine zGo.sts 3 (cf' := (3, [some (.ref 0), some (.int l1), some (.int l2)], [.int l2, .int l1, .ref 0], σ)) rfl ?_
  obtain ⟨v1, hv, h⟩ := zbd h
  refine zGo.call rfl rfl (X_areTwo_g hv) ?_
  by_cases hb6 : ¬ v1 = 0
  · replace h := zif_t hb6 h
    refine zI_ne_t rfl hb6 ?_
    refine zGo.sts 1 (cf' := (13, [some (.ref 0), some (.int l1), some (.int l2)], [.ref 0], σ)) rfl ?_
    obtain ⟨v2, σ3, hv, h⟩ := zbd2 h
    refine zGo.call rfl rfl (X_leastOfAll_g hv) ?_
    refine zGo.sts 3 (cf' := (19, [some (.ref 0), some (.int l1), some (.int l2)], [.int l2, .int l1, .ref 0, .int v2], σ3)) rfl ?_
    obtain ⟨v4, σ5, hv, h⟩ := zbd2 h
    refine zGo.call rfl rfl (X_leastWithFlipped_g hv) ?_
    refine zGo.sts 1 (cf' := (23, [some (.ref 0), some (.int l1), some (.int l2)], [.int (v2 - v4)], σ5)) rfl ?_
    obtain rfl := Option.some.inj h
    exact zGo.ret rfl rfl
  · replace h := zif_f hb6 h
    refine zI_ne_f rfl hb6 ?_
    refine zGo.sts 1 (cf' := (11, [some (.ref 0), some (.int l1), some (.int l2)], [.int (-2147483648)], σ)) rfl ?_
    obtain rfl := Option.some.inj h
    exact zGo.ret rfl rfl
def X_best_c55 (c37 : Int32 → Int32 → Int32 → Int32 → Int32 → zSt → Option (Int32 × zSt)) : Nat → Int32 → Int32 → Int32 → Int32 → Int32 → Int32 → zSt → Option (Int32 × zSt)
  | 0, _, _, _, _, _, _, _ => none
  | n + 1, l1, l2, l3, l4, l5, l6, σ => if (σ 1 0) ≤ l6 then (c37 l1 l2 l3 l4 (l5 + 1) σ) else (zb2 (X_leastWithFlipped l5 l6 σ) fun v8 σ9 => if (l2 - v8) ≤ l4 then (X_best_c55 c37 n l1 l2 l3 l4 l5 (l6 + 1) σ9) else (X_best_c55 c37 n l1 l2 ((10 * l5) + l6) (l2 - v8) l5 (l6 + 1) σ9))
theorem X_best_g55 {c37 : Int32 → Int32 → Int32 → Int32 → Int32 → zSt → Option (Int32 × zSt)} (hc37 : ∀ {d6 : Option Value} {d7 : Option Value} {l1 : Int32} {l2 : Int32} {l3 : Int32} {l4 : Int32} {l5 : Int32} {σ : zSt} {r : Int32 × zSt}, c37 l1 l2 l3 l4 l5 σ = some r → zGo zPT zmlc zP_105 (37, [some (.ref 0), some (.int l1), some (.int l2), some (.int l3), some (.int l4), some (.int l5), d6, d7], [], σ) (some (.int r.1), r.2)) : ∀ (n : Nat) {d7 : Option Value} {l1 : Int32} {l2 : Int32} {l3 : Int32} {l4 : Int32} {l5 : Int32} {l6 : Int32} {σ : zSt} {r : Int32 × zSt}, X_best_c55 c37 n l1 l2 l3 l4 l5 l6 σ = some r → zGo zPT zmlc zP_105 (55, [some (.ref 0), some (.int l1), some (.int l2), some (.int l3), some (.int l4), some (.int l5), some (.int l6), d7], [], σ) (some (.int r.1), r.2) := by
  intro n
  induction n with
  | zero => intro d7 l1 l2 l3 l4 l5 l6 σ r h; cases h
  | succ n ih =>
    intro d7 l1 l2 l3 l4 l5 l6 σ r h
    rw [X_best_c55] at h
    refine zGo.sts 4 (cf' := (64, [some (.ref 0), some (.int l1), some (.int l2), some (.int l3), some (.int l4), some (.int l5), some (.int l6), d7], [.int (σ 1 0), .int l6], σ)) rfl ?_
    by_cases hb11 : (σ 1 0) ≤ l6
    · replace h := zif_t hb11 h
      refine zC_ge_t rfl hb11 ?_
      refine zGo.sts 2 (cf' := (37, [some (.ref 0), some (.int l1), some (.int l2), some (.int l3), some (.int l4), some (.int (l5 + 1)), some (.int l6), d7], [], σ)) rfl ?_
      exact hc37 h
    · replace h := zif_f hb11 h
      refine zC_ge_f rfl hb11 ?_
      refine zGo.sts 4 (cf' := (73, [some (.ref 0), some (.int l1), some (.int l2), some (.int l3), some (.int l4), some (.int l5), some (.int l6), d7], [.int l6, .int l5, .ref 0, .int l2], σ)) rfl ?_
      obtain ⟨v8, σ9, hv, h⟩ := zbd2 h
      refine zGo.call rfl rfl (X_leastWithFlipped_g hv) ?_
      refine zGo.sts 4 (cf' := (83, [some (.ref 0), some (.int l1), some (.int l2), some (.int l3), some (.int l4), some (.int l5), some (.int l6), some (.int (l2 - v8))], [.int l4, .int (l2 - v8)], σ9)) rfl ?_
      by_cases hb10 : (l2 - v8) ≤ l4
      · replace h := zif_t hb10 h
        refine zC_le_t rfl hb10 ?_
        refine zGo.sts 2 (cf' := (55, [some (.ref 0), some (.int l1), some (.int l2), some (.int l3), some (.int l4), some (.int l5), some (.int (l6 + 1)), some (.int (l2 - v8))], [], σ9)) rfl ?_
        exact ih h
      · replace h := zif_f hb10 h
        refine zC_le_f rfl hb10 ?_
        refine zGo.sts 10 (cf' := (55, [some (.ref 0), some (.int l1), some (.int l2), some (.int ((10 * l5) + l6)), some (.int (l2 - v8)), some (.int l5), some (.int (l6 + 1)), some (.int (l2 - v8))], [], σ9)) rfl ?_
        exact ih h
def X_best_c37 : Nat → Int32 → Int32 → Int32 → Int32 → Int32 → zSt → Option (Int32 × zSt)
  | 0, _, _, _, _, _, _ => none
  | n + 1, l1, l2, l3, l4, l5, σ => if (σ 1 0) ≤ l5 then (if ¬ l1 = 0 then (some (l4, σ)) else (some (l3, σ))) else (X_best_c55 (X_best_c37 n) zF l1 l2 l3 l4 l5 (l5 + 1) σ)
theorem X_best_g37 : ∀ (n : Nat) {d6 : Option Value} {d7 : Option Value} {l1 : Int32} {l2 : Int32} {l3 : Int32} {l4 : Int32} {l5 : Int32} {σ : zSt} {r : Int32 × zSt}, X_best_c37 n l1 l2 l3 l4 l5 σ = some r → zGo zPT zmlc zP_105 (37, [some (.ref 0), some (.int l1), some (.int l2), some (.int l3), some (.int l4), some (.int l5), d6, d7], [], σ) (some (.int r.1), r.2) := by
  intro n
  induction n with
  | zero => intro d6 d7 l1 l2 l3 l4 l5 σ r h; cases h
  | succ n ih =>
    intro d6 d7 l1 l2 l3 l4 l5 σ r h
    rw [X_best_c37] at h
    refine zGo.sts 4 (cf' := (46, [some (.ref 0), some (.int l1), some (.int l2), some (.int l3), some (.int l4), some (.int l5), d6, d7], [.int (σ 1 0), .int l5], σ)) rfl ?_
    by_cases hb7 : (σ 1 0) ≤ l5
    · replace h := zif_t hb7 h
      refine zC_ge_t rfl hb7 ?_
      refine zGo.sts 1 (cf' := (112, [some (.ref 0), some (.int l1), some (.int l2), some (.int l3), some (.int l4), some (.int l5), d6, d7], [.int l1], σ)) rfl ?_
      by_cases hb6 : ¬ l1 = 0
      · replace h := zif_t hb6 h
        refine zI_ne_t rfl hb6 ?_
        refine zGo.sts 1 (cf' := (121, [some (.ref 0), some (.int l1), some (.int l2), some (.int l3), some (.int l4), some (.int l5), d6, d7], [.int l4], σ)) rfl ?_
        obtain rfl := Option.some.inj h
        exact zGo.ret rfl rfl
      · replace h := zif_f hb6 h
        refine zI_ne_f rfl hb6 ?_
        refine zGo.sts 2 (cf' := (121, [some (.ref 0), some (.int l1), some (.int l2), some (.int l3), some (.int l4), some (.int l5), d6, d7], [.int l3], σ)) rfl ?_
        obtain rfl := Option.some.inj h
        exact zGo.ret rfl rfl
    · replace h := zif_f hb7 h
      refine zC_ge_f rfl hb7 ?_
      refine zGo.sts 4 (cf' := (55, [some (.ref 0), some (.int l1), some (.int l2), some (.int l3), some (.int l4), some (.int l5), some (.int (l5 + 1)), d7], [], σ)) rfl ?_
      exact X_best_g55 ih zF h
def X_best (l1 : Int32) (σ : zSt) : Option (Int32 × zSt) := if l1 < 0 then (some ((-2147483648), σ)) else (if 1 < l1 then (some ((-2147483648), σ)) else (if 2 ≤ (σ 1 0) then (zb2 (X_leastOfAll σ) fun v1 σ2 => X_best_c37 zF l1 v1 0 (-2147483648) 0 σ2) else (some ((-2147483648), σ))))
theorem X_best_g {l1 : Int32} {σ : zSt} {r : Int32 × zSt} (h : X_best l1 σ = some r) : zGo zPT zmlc (zPT 105) (0, zent (zmlc 105) [.ref 0, .int l1], [], σ) (some (.int r.1), r.2) := by
  unfold X_best at h
  show zGo zPT zmlc zP_105 (0, [some (.ref 0), some (.int l1), none, none, none, none, none, none], [], σ) _
  refine zGo.sts 1 (cf' := (1, [some (.ref 0), some (.int l1), none, none, none, none, none, none], [.int l1], σ)) rfl ?_
  by_cases hb5 : l1 < 0
  · replace h := zif_t hb5 h
    refine zI_lt_t rfl hb5 ?_
    refine zGo.sts 1 (cf' := (22, [some (.ref 0), some (.int l1), none, none, none, none, none, none], [.int (-2147483648)], σ)) rfl ?_
    obtain rfl := Option.some.inj h
    exact zGo.ret rfl rfl
  · replace h := zif_f hb5 h
    refine zI_lt_f rfl hb5 ?_
    refine zGo.sts 2 (cf' := (6, [some (.ref 0), some (.int l1), none, none, none, none, none, none], [.int 1, .int l1], σ)) rfl ?_
    by_cases hb4 : 1 < l1
    · replace h := zif_t hb4 h
      refine zC_gt_t rfl hb4 ?_
      refine zGo.sts 1 (cf' := (22, [some (.ref 0), some (.int l1), none, none, none, none, none, none], [.int (-2147483648)], σ)) rfl ?_
      obtain rfl := Option.some.inj h
      exact zGo.ret rfl rfl
    · replace h := zif_f hb4 h
      refine zC_gt_f rfl hb4 ?_
      refine zGo.sts 4 (cf' := (17, [some (.ref 0), some (.int l1), none, none, none, none, none, none], [.int 2, .int (σ 1 0)], σ)) rfl ?_
      by_cases hb3 : 2 ≤ (σ 1 0)
      · replace h := zif_t hb3 h
        refine zC_ge_t rfl hb3 ?_
        refine zGo.sts 1 (cf' := (24, [some (.ref 0), some (.int l1), none, none, none, none, none, none], [.ref 0], σ)) rfl ?_
        obtain ⟨v1, σ2, hv, h⟩ := zbd2 h
        refine zGo.call rfl rfl (X_leastOfAll_g hv) ?_
        refine zGo.sts 7 (cf' := (37, [some (.ref 0), some (.int l1), some (.int v1), some (.int 0), some (.int (-2147483648)), some (.int 0), none, none], [], σ2)) rfl ?_
        exact X_best_g37 zF h
      · replace h := zif_f hb3 h
        refine zC_ge_f rfl hb3 ?_
        refine zGo.sts 1 (cf' := (22, [some (.ref 0), some (.int l1), none, none, none, none, none, none], [.int (-2147483648)], σ)) rfl ?_
        obtain rfl := Option.some.inj h
        exact zGo.ret rfl rfl
def Chn_leastForcer_c2 (σ : zSt) : Nat → Int32 → Int32 → Option (Int32)
  | 0, _, _ => none
  | n + 1, l2, l3 => if (σ 1 0) ≤ l3 then (some (-1)) else (if ¬ ((l2 >>> (l3 &&& 31)) &&& 1) = 1 then (Chn_leastForcer_c2 σ n l2 (l3 + 1)) else ((zld σ 2 l3).bind fun v1 => (Jdk_bitCount (v1 &&& (l2 ^^^ (-1))) σ).bind fun v2 => if ¬ v2 = 1 then (Chn_leastForcer_c2 σ n l2 (l3 + 1)) else (some l3)))
theorem Chn_leastForcer_g2 {σ : zSt} : ∀ (n : Nat) {d0 : Option Value} {l2 : Int32} {l3 : Int32} {r : Int32}, Chn_leastForcer_c2 σ n l2 l3 = some r → zGo zPT zmlc zP_39 (2, [d0, some (.ref 1), some (.int l2), some (.int l3)], [], σ) (some (.int r), σ) := by
  intro n
  induction n with
  | zero => intro d0 l2 l3 r h; cases h
  | succ n ih =>
    intro d0 l2 l3 r h
    rw [Chn_leastForcer_c2] at h
    refine zGo.sts 3 (cf' := (7, [d0, some (.ref 1), some (.int l2), some (.int l3)], [.int (σ 1 0), .int l3], σ)) rfl ?_
    by_cases hb5 : (σ 1 0) ≤ l3
    · replace h := zif_t hb5 h
      refine zC_ge_t rfl hb5 ?_
      refine zGo.sts 1 (cf' := (45, [d0, some (.ref 1), some (.int l2), some (.int l3)], [.int (-1)], σ)) rfl ?_
      obtain rfl := Option.some.inj h
      exact zGo.ret rfl rfl
    · replace h := zif_f hb5 h
      refine zC_ge_f rfl hb5 ?_
      refine zGo.sts 6 (cf' := (16, [d0, some (.ref 1), some (.int l2), some (.int l3)], [.int 1, .int ((l2 >>> (l3 &&& 31)) &&& 1)], σ)) rfl ?_
      by_cases hb4 : ¬ ((l2 >>> (l3 &&& 31)) &&& 1) = 1
      · replace h := zif_t hb4 h
        refine zC_ne_t rfl hb4 ?_
        refine zGo.sts 2 (cf' := (2, [d0, some (.ref 1), some (.int l2), some (.int (l3 + 1))], [], σ)) rfl ?_
        exact ih h
      · replace h := zif_f hb4 h
        refine zC_ne_f rfl hb4 ?_
        refine zGo.sts 3 (cf' := (24, [d0, some (.ref 1), some (.int l2), some (.int l3)], [.int l3, .ref 2], σ)) rfl ?_
        obtain ⟨v1, hv, h⟩ := zbd h
        refine zG_ld rfl hv ?_
        refine zGo.sts 4 (cf' := (29, [d0, some (.ref 1), some (.int l2), some (.int l3)], [.int (v1 &&& (l2 ^^^ (-1)))], σ)) rfl ?_
        obtain ⟨v2, hv, h⟩ := zbd h
        refine zGo.call rfl rfl (Jdk_bitCount_g hv) ?_
        refine zGo.sts 1 (cf' := (33, [d0, some (.ref 1), some (.int l2), some (.int l3)], [.int 1, .int v2], σ)) rfl ?_
        by_cases hb3 : ¬ v2 = 1
        · replace h := zif_t hb3 h
          refine zC_ne_t rfl hb3 ?_
          refine zGo.sts 2 (cf' := (2, [d0, some (.ref 1), some (.int l2), some (.int (l3 + 1))], [], σ)) rfl ?_
          exact ih h
        · replace h := zif_f hb3 h
          refine zC_ne_f rfl hb3 ?_
          refine zGo.sts 1 (cf' := (37, [d0, some (.ref 1), some (.int l2), some (.int l3)], [.int l3], σ)) rfl ?_
          obtain rfl := Option.some.inj h
          exact zGo.ret rfl rfl
def Chn_leastForcer (l2 : Int32) (σ : zSt) : Option (Int32) := Chn_leastForcer_c2 σ zF l2 0
theorem Chn_leastForcer_g {l2 : Int32} {σ : zSt} {r : Int32} (h : Chn_leastForcer l2 σ = some r) : zGo zPT zmlc (zPT 39) (0, zent (zmlc 39) [.ref 47, .ref 1, .int l2], [], σ) (some (.int r), σ) := by
  unfold Chn_leastForcer at h
  show zGo zPT zmlc zP_39 (0, [some (.ref 47), some (.ref 1), some (.int l2), none], [], σ) _
  refine zGo.sts 2 (cf' := (2, [some (.ref 47), some (.ref 1), some (.int l2), some (.int 0)], [], σ)) rfl ?_
  exact Chn_leastForcer_g2 zF h
def Chn_force_c13 : Nat → Int32 → Int32 → zSt → Option (zSt)
  | 0, _, _, _ => none
  | n + 1, l3, l4, σ => if 9 ≤ l4 then (some σ) else ((Chn_leastForcer l3 σ).bind fun v2 => if ¬ v2 = (-1) then ((zld σ 2 v2).bind fun v3 => (Jdk_bitCount ((v3 &&& (l3 ^^^ (-1))) - 1) σ).bind fun v4 => (zst σ 48 v2 v4).bind fun σ5 => zlet (l3 ||| (v3 &&& (l3 ^^^ (-1)))) fun v6 => Chn_force_c13 n v6 (l4 + 1) σ5) else (some σ))
theorem Chn_force_g13 : ∀ (n : Nat) {d2 : Option Value} {d5 : Option Value} {d6 : Option Value} {l3 : Int32} {l4 : Int32} {σ : zSt} {r : zSt}, Chn_force_c13 n l3 l4 σ = some r → zGo zPT zmlc zP_38 (13, [some (.ref 47), some (.ref 1), d2, some (.int l3), some (.int l4), d5, d6], [], σ) (none, r) := by
  intro n
  induction n with
  | zero => intro d2 d5 d6 l3 l4 σ r h; cases h
  | succ n ih =>
    intro d2 d5 d6 l3 l4 σ r h
    rw [Chn_force_c13] at h
    refine zGo.sts 2 (cf' := (17, [some (.ref 47), some (.ref 1), d2, some (.int l3), some (.int l4), d5, d6], [.int 9, .int l4], σ)) rfl ?_
    by_cases hb8 : 9 ≤ l4
    · replace h := zif_t hb8 h
      refine zC_ge_t rfl hb8 ?_
      obtain rfl := Option.some.inj h
      exact zGo.ret rfl rfl
    · replace h := zif_f hb8 h
      refine zC_ge_f rfl hb8 ?_
      refine zGo.sts 3 (cf' := (23, [some (.ref 47), some (.ref 1), d2, some (.int l3), some (.int l4), d5, d6], [.int l3, .ref 1, .ref 47], σ)) rfl ?_
      obtain ⟨v2, hv, h⟩ := zbd h
      refine zGo.call rfl rfl (Chn_leastForcer_g hv) ?_
      refine zGo.sts 3 (cf' := (31, [some (.ref 47), some (.ref 1), d2, some (.int l3), some (.int l4), some (.int v2), d6], [.int (-1), .int v2], σ)) rfl ?_
      by_cases hb7 : ¬ v2 = (-1)
      · replace h := zif_t hb7 h
        refine zC_ne_t rfl hb7 ?_
        refine zGo.sts 3 (cf' := (41, [some (.ref 47), some (.ref 1), d2, some (.int l3), some (.int l4), some (.int v2), d6], [.int v2, .ref 2], σ)) rfl ?_
        obtain ⟨v3, hv, h⟩ := zbd h
        refine zG_ld rfl hv ?_
        refine zGo.sts 11 (cf' := (58, [some (.ref 47), some (.ref 1), d2, some (.int l3), some (.int l4), some (.int v2), some (.int (v3 &&& (l3 ^^^ (-1))))], [.int ((v3 &&& (l3 ^^^ (-1))) - 1), .int v2, .ref 48], σ)) rfl ?_
        obtain ⟨v4, hv, h⟩ := zbd h
        refine zGo.call rfl rfl (Jdk_bitCount_g hv) ?_
        obtain ⟨σ5, hv, h⟩ := zbd h
        refine zG_st rfl hv ?_
        refine zGo.sts 4 (cf' := (67, [some (.ref 47), some (.ref 1), d2, some (.int (l3 ||| (v3 &&& (l3 ^^^ (-1))))), some (.int l4), some (.int v2), some (.int (v3 &&& (l3 ^^^ (-1))))], [], σ5)) rfl ?_
        replace h := zlet_of h
        generalize l3 ||| (v3 &&& (l3 ^^^ (-1))) = v6 at h ⊢
        refine zGo.sts 2 (cf' := (13, [some (.ref 47), some (.ref 1), d2, some (.int v6), some (.int (l4 + 1)), some (.int v2), some (.int (v3 &&& (l3 ^^^ (-1))))], [], σ5)) rfl ?_
        exact ih h
      · replace h := zif_f hb7 h
        refine zC_ne_f rfl hb7 ?_
        obtain rfl := Option.some.inj h
        exact zGo.ret rfl rfl
def Chn_force (l2 : Int32) (σ : zSt) : Option (zSt) := (Jdk_fill 48 (-1) σ).bind fun σ1 => Chn_force_c13 zF l2 0 σ1
theorem Chn_force_g {l2 : Int32} {σ : zSt} {r : zSt} (h : Chn_force l2 σ = some r) : zGo zPT zmlc (zPT 38) (0, zent (zmlc 38) [.ref 47, .ref 1, .int l2], [], σ) (none, r) := by
  unfold Chn_force at h
  show zGo zPT zmlc zP_38 (0, [some (.ref 47), some (.ref 1), some (.int l2), none, none, none, none], [], σ) _
  refine zGo.sts 3 (cf' := (5, [some (.ref 47), some (.ref 1), some (.int l2), none, none, none, none], [.int (-1), .ref 48], σ)) rfl ?_
  obtain ⟨σ1, hv, h⟩ := zbd h
  refine zGo.call rfl rfl (Jdk_fill_g hv) ?_
  refine zGo.sts 4 (cf' := (13, [some (.ref 47), some (.ref 1), some (.int l2), some (.int l2), some (.int 0), none, none], [], σ1)) rfl ?_
  exact Chn_force_g13 zF h
def Chn_behind_c5 (σ : zSt) : Nat → Int32 → Int32 → Int32 → Option (Int32)
  | 0, _, _, _ => none
  | n + 1, l2, l3, l4 => if l2 ≤ l4 then (some l3) else (if l3 = (-1) then (some l3) else ((zld σ 48 l3).bind fun v1 => Chn_behind_c5 σ n l2 v1 (l4 + 1)))
theorem Chn_behind_g5 {σ : zSt} : ∀ (n : Nat) {d1 : Option Value} {l2 : Int32} {l3 : Int32} {l4 : Int32} {r : Int32}, Chn_behind_c5 σ n l2 l3 l4 = some r → zGo zPT zmlc zP_40 (5, [some (.ref 47), d1, some (.int l2), some (.int l3), some (.int l4)], [], σ) (some (.int r), σ) := by
  intro n
  induction n with
  | zero => intro d1 l2 l3 l4 r h; cases h
  | succ n ih =>
    intro d1 l2 l3 l4 r h
    rw [Chn_behind_c5] at h
    refine zGo.sts 2 (cf' := (8, [some (.ref 47), d1, some (.int l2), some (.int l3), some (.int l4)], [.int l2, .int l4], σ)) rfl ?_
    by_cases hb3 : l2 ≤ l4
    · replace h := zif_t hb3 h
      refine zC_ge_t rfl hb3 ?_
      refine zGo.sts 1 (cf' := (30, [some (.ref 47), d1, some (.int l2), some (.int l3), some (.int l4)], [.int l3], σ)) rfl ?_
      obtain rfl := Option.some.inj h
      exact zGo.ret rfl rfl
    · replace h := zif_f hb3 h
      refine zC_ge_f rfl hb3 ?_
      refine zGo.sts 2 (cf' := (13, [some (.ref 47), d1, some (.int l2), some (.int l3), some (.int l4)], [.int (-1), .int l3], σ)) rfl ?_
      by_cases hb2 : l3 = (-1)
      · replace h := zif_t hb2 h
        refine zC_eq_t rfl hb2 ?_
        refine zGo.sts 1 (cf' := (30, [some (.ref 47), d1, some (.int l2), some (.int l3), some (.int l4)], [.int l3], σ)) rfl ?_
        obtain rfl := Option.some.inj h
        exact zGo.ret rfl rfl
      · replace h := zif_f hb2 h
        refine zC_eq_f rfl hb2 ?_
        refine zGo.sts 3 (cf' := (21, [some (.ref 47), d1, some (.int l2), some (.int l3), some (.int l4)], [.int l3, .ref 48], σ)) rfl ?_
        obtain ⟨v1, hv, h⟩ := zbd h
        refine zG_ld rfl hv ?_
        refine zGo.sts 3 (cf' := (5, [some (.ref 47), d1, some (.int l2), some (.int v1), some (.int (l4 + 1))], [], σ)) rfl ?_
        exact ih h
def Chn_behind (l1 : Int32) (l2 : Int32) (σ : zSt) : Option (Int32) := Chn_behind_c5 σ zF l2 l1 0
theorem Chn_behind_g {l1 : Int32} {l2 : Int32} {σ : zSt} {r : Int32} (h : Chn_behind l1 l2 σ = some r) : zGo zPT zmlc (zPT 40) (0, zent (zmlc 40) [.ref 47, .int l1, .int l2], [], σ) (some (.int r), σ) := by
  unfold Chn_behind at h
  show zGo zPT zmlc zP_40 (0, [some (.ref 47), some (.int l1), some (.int l2), none, none], [], σ) _
  refine zGo.sts 4 (cf' := (5, [some (.ref 47), some (.int l1), some (.int l2), some (.int l1), some (.int 0)], [], σ)) rfl ?_
  exact Chn_behind_g5 zF h
def X_chain (l1 : Int32) (l2 : Int32) (l3 : Int32) (σ : zSt) : Option (Int32 × zSt) := (Net_hasSet l1 σ).bind fun v1 => if v1 = 0 then (some ((-1), σ)) else ((Net_hasPoint l2 σ).bind fun v2 => if v2 = 0 then (some ((-1), σ)) else (if ((l1 >>> (l2 &&& 31)) &&& 1) = 0 then (some ((-1), σ)) else (if 0 ≤ l3 then ((Chn_force l1 σ).bind fun σ3 => (Chn_behind l2 l3 σ3).bind fun v4 => if 0 ≤ v4 then (some (v4, σ3)) else (some ((-2), σ3))) else (some ((-1), σ)))))
theorem X_chain_g {l1 : Int32} {l2 : Int32} {l3 : Int32} {σ : zSt} {r : Int32 × zSt} (h : X_chain l1 l2 l3 σ = some r) : zGo zPT zmlc (zPT 106) (0, zent (zmlc 106) [.ref 0, .int l1, .int l2, .int l3], [], σ) (some (.int r.1), r.2) := by
  unfold X_chain at h
  show zGo zPT zmlc zP_106 (0, [some (.ref 0), some (.int l1), some (.int l2), some (.int l3), none], [], σ) _
  refine zGo.sts 3 (cf' := (5, [some (.ref 0), some (.int l1), some (.int l2), some (.int l3), none], [.int l1, .ref 1], σ)) rfl ?_
  obtain ⟨v1, hv, h⟩ := zbd h
  refine zGo.call rfl rfl (Net_hasSet_g hv) ?_
  by_cases hb9 : v1 = 0
  · replace h := zif_t hb9 h
    refine zI_eq_t rfl hb9 ?_
    refine zGo.sts 1 (cf' := (35, [some (.ref 0), some (.int l1), some (.int l2), some (.int l3), none], [.int (-1)], σ)) rfl ?_
    obtain rfl := Option.some.inj h
    exact zGo.ret rfl rfl
  · replace h := zif_f hb9 h
    refine zI_eq_f rfl hb9 ?_
    refine zGo.sts 3 (cf' := (16, [some (.ref 0), some (.int l1), some (.int l2), some (.int l3), none], [.int l2, .ref 1], σ)) rfl ?_
    obtain ⟨v2, hv, h⟩ := zbd h
    refine zGo.call rfl rfl (Net_hasPoint_g hv) ?_
    by_cases hb8 : v2 = 0
    · replace h := zif_t hb8 h
      refine zI_eq_t rfl hb8 ?_
      refine zGo.sts 1 (cf' := (35, [some (.ref 0), some (.int l1), some (.int l2), some (.int l3), none], [.int (-1)], σ)) rfl ?_
      obtain rfl := Option.some.inj h
      exact zGo.ret rfl rfl
    · replace h := zif_f hb8 h
      refine zI_eq_f rfl hb8 ?_
      refine zGo.sts 5 (cf' := (27, [some (.ref 0), some (.int l1), some (.int l2), some (.int l3), none], [.int ((l1 >>> (l2 &&& 31)) &&& 1)], σ)) rfl ?_
      by_cases hb7 : ((l1 >>> (l2 &&& 31)) &&& 1) = 0
      · replace h := zif_t hb7 h
        refine zI_eq_t rfl hb7 ?_
        refine zGo.sts 1 (cf' := (35, [some (.ref 0), some (.int l1), some (.int l2), some (.int l3), none], [.int (-1)], σ)) rfl ?_
        obtain rfl := Option.some.inj h
        exact zGo.ret rfl rfl
      · replace h := zif_f hb7 h
        refine zI_eq_f rfl hb7 ?_
        refine zGo.sts 1 (cf' := (31, [some (.ref 0), some (.int l1), some (.int l2), some (.int l3), none], [.int l3], σ)) rfl ?_
        by_cases hb6 : 0 ≤ l3
        · replace h := zif_t hb6 h
          refine zI_ge_t rfl hb6 ?_
          refine zGo.sts 5 (cf' := (45, [some (.ref 0), some (.int l1), some (.int l2), some (.int l3), none], [.int l1, .ref 1, .ref 47], σ)) rfl ?_
          obtain ⟨σ3, hv, h⟩ := zbd h
          refine zGo.call rfl rfl (Chn_force_g hv) ?_
          refine zGo.sts 4 (cf' := (54, [some (.ref 0), some (.int l1), some (.int l2), some (.int l3), none], [.int l3, .int l2, .ref 47], σ3)) rfl ?_
          obtain ⟨v4, hv, h⟩ := zbd h
          refine zGo.call rfl rfl (Chn_behind_g hv) ?_
          refine zGo.sts 2 (cf' := (61, [some (.ref 0), some (.int l1), some (.int l2), some (.int l3), some (.int v4)], [.int v4], σ3)) rfl ?_
          by_cases hb5 : 0 ≤ v4
          · replace h := zif_t hb5 h
            refine zI_ge_t rfl hb5 ?_
            refine zGo.sts 1 (cf' := (71, [some (.ref 0), some (.int l1), some (.int l2), some (.int l3), some (.int v4)], [.int v4], σ3)) rfl ?_
            obtain rfl := Option.some.inj h
            exact zGo.ret rfl rfl
          · replace h := zif_f hb5 h
            refine zI_ge_f rfl hb5 ?_
            refine zGo.sts 2 (cf' := (71, [some (.ref 0), some (.int l1), some (.int l2), some (.int l3), some (.int v4)], [.int (-2)], σ3)) rfl ?_
            obtain rfl := Option.some.inj h
            exact zGo.ret rfl rfl
        · replace h := zif_f hb6 h
          refine zI_ge_f rfl hb6 ?_
          refine zGo.sts 1 (cf' := (35, [some (.ref 0), some (.int l1), some (.int l2), some (.int l3), none], [.int (-1)], σ)) rfl ?_
          obtain rfl := Option.some.inj h
          exact zGo.ret rfl rfl
def Chn_lastFrom_c4 (σ : zSt) : Nat → Int32 → Int32 → Option (Int32)
  | 0, _, _ => none
  | n + 1, l2, l3 => if 9 ≤ l3 then (some l2) else ((zld σ 48 l2).bind fun v1 => if v1 = (-1) then (some l2) else ((zld σ 48 l2).bind fun v2 => Chn_lastFrom_c4 σ n v2 (l3 + 1)))
theorem Chn_lastFrom_g4 {σ : zSt} : ∀ (n : Nat) {d1 : Option Value} {l2 : Int32} {l3 : Int32} {r : Int32}, Chn_lastFrom_c4 σ n l2 l3 = some r → zGo zPT zmlc zP_41 (4, [some (.ref 47), d1, some (.int l2), some (.int l3)], [], σ) (some (.int r), σ) := by
  intro n
  induction n with
  | zero => intro d1 l2 l3 r h; cases h
  | succ n ih =>
    intro d1 l2 l3 r h
    rw [Chn_lastFrom_c4] at h
    refine zGo.sts 2 (cf' := (7, [some (.ref 47), d1, some (.int l2), some (.int l3)], [.int 9, .int l3], σ)) rfl ?_
    by_cases hb4 : 9 ≤ l3
    · replace h := zif_t hb4 h
      refine zC_ge_t rfl hb4 ?_
      refine zGo.sts 1 (cf' := (34, [some (.ref 47), d1, some (.int l2), some (.int l3)], [.int l2], σ)) rfl ?_
      obtain rfl := Option.some.inj h
      exact zGo.ret rfl rfl
    · replace h := zif_f hb4 h
      refine zC_ge_f rfl hb4 ?_
      refine zGo.sts 3 (cf' := (15, [some (.ref 47), d1, some (.int l2), some (.int l3)], [.int l2, .ref 48], σ)) rfl ?_
      obtain ⟨v1, hv, h⟩ := zbd h
      refine zG_ld rfl hv ?_
      refine zGo.sts 1 (cf' := (17, [some (.ref 47), d1, some (.int l2), some (.int l3)], [.int (-1), .int v1], σ)) rfl ?_
      by_cases hb3 : v1 = (-1)
      · replace h := zif_t hb3 h
        refine zC_eq_t rfl hb3 ?_
        refine zGo.sts 1 (cf' := (34, [some (.ref 47), d1, some (.int l2), some (.int l3)], [.int l2], σ)) rfl ?_
        obtain rfl := Option.some.inj h
        exact zGo.ret rfl rfl
      · replace h := zif_f hb3 h
        refine zC_eq_f rfl hb3 ?_
        refine zGo.sts 3 (cf' := (25, [some (.ref 47), d1, some (.int l2), some (.int l3)], [.int l2, .ref 48], σ)) rfl ?_
        obtain ⟨v2, hv, h⟩ := zbd h
        refine zG_ld rfl hv ?_
        refine zGo.sts 3 (cf' := (4, [some (.ref 47), d1, some (.int v2), some (.int (l3 + 1))], [], σ)) rfl ?_
        exact ih h
def Chn_lastFrom (l1 : Int32) (σ : zSt) : Option (Int32) := Chn_lastFrom_c4 σ zF l1 0
theorem Chn_lastFrom_g {l1 : Int32} {σ : zSt} {r : Int32} (h : Chn_lastFrom l1 σ = some r) : zGo zPT zmlc (zPT 41) (0, zent (zmlc 41) [.ref 47, .int l1], [], σ) (some (.int r), σ) := by
  unfold Chn_lastFrom at h
  show zGo zPT zmlc zP_41 (0, [some (.ref 47), some (.int l1), none, none], [], σ) _
  refine zGo.sts 4 (cf' := (4, [some (.ref 47), some (.int l1), some (.int l1), some (.int 0)], [], σ)) rfl ?_
  exact Chn_lastFrom_g4 zF h
def X_ends_c29 : Nat → Int32 → Int32 → Int32 → zSt → Option (Int32 × zSt)
  | 0, _, _, _, _ => none
  | n + 1, l1, l2, l3, σ => if (σ 1 0) ≤ l3 then (some (l2, σ)) else (if ¬ ((l1 >>> (l3 &&& 31)) &&& 1) = 1 then (X_ends_c29 n l1 l2 (l3 + 1) σ) else ((Chn_lastFrom l3 σ).bind fun v4 => zlet (l2 ||| (1 <<< (v4 &&& 31))) fun v5 => X_ends_c29 n l1 v5 (l3 + 1) σ))
theorem X_ends_g29 : ∀ (n : Nat) {l1 : Int32} {l2 : Int32} {l3 : Int32} {σ : zSt} {r : Int32 × zSt}, X_ends_c29 n l1 l2 l3 σ = some r → zGo zPT zmlc zP_107 (29, [some (.ref 0), some (.int l1), some (.int l2), some (.int l3)], [], σ) (some (.int r.1), r.2) := by
  intro n
  induction n with
  | zero => intro l1 l2 l3 σ r h; cases h
  | succ n ih =>
    intro l1 l2 l3 σ r h
    rw [X_ends_c29] at h
    refine zGo.sts 4 (cf' := (37, [some (.ref 0), some (.int l1), some (.int l2), some (.int l3)], [.int (σ 1 0), .int l3], σ)) rfl ?_
    by_cases hb7 : (σ 1 0) ≤ l3
    · replace h := zif_t hb7 h
      refine zC_ge_t rfl hb7 ?_
      refine zGo.sts 1 (cf' := (69, [some (.ref 0), some (.int l1), some (.int l2), some (.int l3)], [.int l2], σ)) rfl ?_
      obtain rfl := Option.some.inj h
      exact zGo.ret rfl rfl
    · replace h := zif_f hb7 h
      refine zC_ge_f rfl hb7 ?_
      refine zGo.sts 6 (cf' := (46, [some (.ref 0), some (.int l1), some (.int l2), some (.int l3)], [.int 1, .int ((l1 >>> (l3 &&& 31)) &&& 1)], σ)) rfl ?_
      by_cases hb6 : ¬ ((l1 >>> (l3 &&& 31)) &&& 1) = 1
      · replace h := zif_t hb6 h
        refine zC_ne_t rfl hb6 ?_
        refine zGo.sts 2 (cf' := (29, [some (.ref 0), some (.int l1), some (.int l2), some (.int (l3 + 1))], [], σ)) rfl ?_
        exact ih h
      · replace h := zif_f hb6 h
        refine zC_ne_f rfl hb6 ?_
        refine zGo.sts 5 (cf' := (56, [some (.ref 0), some (.int l1), some (.int l2), some (.int l3)], [.int l3, .ref 47, .int 1, .int l2], σ)) rfl ?_
        obtain ⟨v4, hv, h⟩ := zbd h
        refine zGo.call rfl rfl (Chn_lastFrom_g hv) ?_
        refine zGo.sts 3 (cf' := (62, [some (.ref 0), some (.int l1), some (.int (l2 ||| (1 <<< (v4 &&& 31)))), some (.int l3)], [], σ)) rfl ?_
        replace h := zlet_of h
        generalize l2 ||| (1 <<< (v4 &&& 31)) = v5 at h ⊢
        refine zGo.sts 2 (cf' := (29, [some (.ref 0), some (.int l1), some (.int v5), some (.int (l3 + 1))], [], σ)) rfl ?_
        exact ih h
def X_ends (l1 : Int32) (σ : zSt) : Option (Int32 × zSt) := (Net_hasSet l1 σ).bind fun v1 => if ¬ v1 = 0 then ((Chn_force l1 σ).bind fun σ2 => X_ends_c29 zF l1 0 0 σ2) else (some ((-1), σ))
theorem X_ends_g {l1 : Int32} {σ : zSt} {r : Int32 × zSt} (h : X_ends l1 σ = some r) : zGo zPT zmlc (zPT 107) (0, zent (zmlc 107) [.ref 0, .int l1], [], σ) (some (.int r.1), r.2) := by
  unfold X_ends at h
  show zGo zPT zmlc zP_107 (0, [some (.ref 0), some (.int l1), none, none], [], σ) _
  refine zGo.sts 3 (cf' := (5, [some (.ref 0), some (.int l1), none, none], [.int l1, .ref 1], σ)) rfl ?_
  obtain ⟨v1, hv, h⟩ := zbd h
  refine zGo.call rfl rfl (Net_hasSet_g hv) ?_
  by_cases hb3 : ¬ v1 = 0
  · replace h := zif_t hb3 h
    refine zI_ne_t rfl hb3 ?_
    refine zGo.sts 5 (cf' := (22, [some (.ref 0), some (.int l1), none, none], [.int l1, .ref 1, .ref 47], σ)) rfl ?_
    obtain ⟨σ2, hv, h⟩ := zbd h
    refine zGo.call rfl rfl (Chn_force_g hv) ?_
    refine zGo.sts 4 (cf' := (29, [some (.ref 0), some (.int l1), some (.int 0), some (.int 0)], [], σ2)) rfl ?_
    exact X_ends_g29 zF h
  · replace h := zif_f hb3 h
    refine zI_ne_f rfl hb3 ?_
    refine zGo.sts 1 (cf' := (12, [some (.ref 0), some (.int l1), none, none], [.int (-1)], σ)) rfl ?_
    obtain rfl := Option.some.inj h
    exact zGo.ret rfl rfl
def Frt_holdsLesser_c2 (σ : zSt) : Nat → Int32 → Int32 → Option (Int32)
  | 0, _, _ => none
  | n + 1, l1, l2 => if 9 ≤ l2 then (some 0) else (if ¬ ((l1 >>> (l2 &&& 31)) &&& 1) = 1 then (Frt_holdsLesser_c2 σ n l1 (l2 + 1)) else ((zld σ 50 (l1 &&& ((1 <<< (l2 &&& 31)) ^^^ (-1)))).bind fun v1 => if v1 = 0 then (Frt_holdsLesser_c2 σ n l1 (l2 + 1)) else (some 1)))
theorem Frt_holdsLesser_g2 {σ : zSt} : ∀ (n : Nat) {l1 : Int32} {l2 : Int32} {r : Int32}, Frt_holdsLesser_c2 σ n l1 l2 = some r → zGo zPT zmlc zP_43 (2, [some (.ref 49), some (.int l1), some (.int l2)], [], σ) (some (.int r), σ) := by
  intro n
  induction n with
  | zero => intro l1 l2 r h; cases h
  | succ n ih =>
    intro l1 l2 r h
    rw [Frt_holdsLesser_c2] at h
    refine zGo.sts 2 (cf' := (5, [some (.ref 49), some (.int l1), some (.int l2)], [.int 9, .int l2], σ)) rfl ?_
    by_cases hb4 : 9 ≤ l2
    · replace h := zif_t hb4 h
      refine zC_ge_t rfl hb4 ?_
      refine zGo.sts 1 (cf' := (41, [some (.ref 49), some (.int l1), some (.int l2)], [.int 0], σ)) rfl ?_
      obtain rfl := Option.some.inj h
      exact zGo.ret rfl rfl
    · replace h := zif_f hb4 h
      refine zC_ge_f rfl hb4 ?_
      refine zGo.sts 6 (cf' := (14, [some (.ref 49), some (.int l1), some (.int l2)], [.int 1, .int ((l1 >>> (l2 &&& 31)) &&& 1)], σ)) rfl ?_
      by_cases hb3 : ¬ ((l1 >>> (l2 &&& 31)) &&& 1) = 1
      · replace h := zif_t hb3 h
        refine zC_ne_t rfl hb3 ?_
        refine zGo.sts 2 (cf' := (2, [some (.ref 49), some (.int l1), some (.int (l2 + 1))], [], σ)) rfl ?_
        exact ih h
      · replace h := zif_f hb3 h
        refine zC_ne_f rfl hb3 ?_
        refine zGo.sts 9 (cf' := (28, [some (.ref 49), some (.int l1), some (.int l2)], [.int (l1 &&& ((1 <<< (l2 &&& 31)) ^^^ (-1))), .ref 50], σ)) rfl ?_
        obtain ⟨v1, hv, h⟩ := zbd h
        refine zG_ld rfl hv ?_
        by_cases hb2 : v1 = 0
        · replace h := zif_t hb2 h
          refine zI_eq_t rfl hb2 ?_
          refine zGo.sts 2 (cf' := (2, [some (.ref 49), some (.int l1), some (.int (l2 + 1))], [], σ)) rfl ?_
          exact ih h
        · replace h := zif_f hb2 h
          refine zI_eq_f rfl hb2 ?_
          refine zGo.sts 1 (cf' := (33, [some (.ref 49), some (.int l1), some (.int l2)], [.int 1], σ)) rfl ?_
          obtain rfl := Option.some.inj h
          exact zGo.ret rfl rfl
def Frt_holdsLesser (l1 : Int32) (σ : zSt) : Option (Int32) := Frt_holdsLesser_c2 σ zF l1 0
theorem Frt_holdsLesser_g {l1 : Int32} {σ : zSt} {r : Int32} (h : Frt_holdsLesser l1 σ = some r) : zGo zPT zmlc (zPT 43) (0, zent (zmlc 43) [.ref 49, .int l1], [], σ) (some (.int r), σ) := by
  unfold Frt_holdsLesser at h
  show zGo zPT zmlc zP_43 (0, [some (.ref 49), some (.int l1), none], [], σ) _
  refine zGo.sts 2 (cf' := (2, [some (.ref 49), some (.int l1), some (.int 0)], [], σ)) rfl ?_
  exact Frt_holdsLesser_g2 zF h
def Frt_isFort_c2 (σ : zSt) : Nat → Int32 → Int32 → Option (Int32)
  | 0, _, _ => none
  | n + 1, l2, l3 => if (σ 1 0) ≤ l3 then (some 1) else (if ¬ ((l2 >>> (l3 &&& 31)) &&& 1) = 0 then (Frt_isFort_c2 σ n l2 (l3 + 1)) else ((zld σ 2 l3).bind fun v1 => (Jdk_bitCount (v1 &&& l2) σ).bind fun v2 => if ¬ v2 = 1 then (Frt_isFort_c2 σ n l2 (l3 + 1)) else (some 0)))
theorem Frt_isFort_g2 {σ : zSt} : ∀ (n : Nat) {d0 : Option Value} {l2 : Int32} {l3 : Int32} {r : Int32}, Frt_isFort_c2 σ n l2 l3 = some r → zGo zPT zmlc zP_44 (2, [d0, some (.ref 1), some (.int l2), some (.int l3)], [], σ) (some (.int r), σ) := by
  intro n
  induction n with
  | zero => intro d0 l2 l3 r h; cases h
  | succ n ih =>
    intro d0 l2 l3 r h
    rw [Frt_isFort_c2] at h
    refine zGo.sts 3 (cf' := (7, [d0, some (.ref 1), some (.int l2), some (.int l3)], [.int (σ 1 0), .int l3], σ)) rfl ?_
    by_cases hb5 : (σ 1 0) ≤ l3
    · replace h := zif_t hb5 h
      refine zC_ge_t rfl hb5 ?_
      refine zGo.sts 1 (cf' := (42, [d0, some (.ref 1), some (.int l2), some (.int l3)], [.int 1], σ)) rfl ?_
      obtain rfl := Option.some.inj h
      exact zGo.ret rfl rfl
    · replace h := zif_f hb5 h
      refine zC_ge_f rfl hb5 ?_
      refine zGo.sts 5 (cf' := (15, [d0, some (.ref 1), some (.int l2), some (.int l3)], [.int ((l2 >>> (l3 &&& 31)) &&& 1)], σ)) rfl ?_
      by_cases hb4 : ¬ ((l2 >>> (l3 &&& 31)) &&& 1) = 0
      · replace h := zif_t hb4 h
        refine zI_ne_t rfl hb4 ?_
        refine zGo.sts 2 (cf' := (2, [d0, some (.ref 1), some (.int l2), some (.int (l3 + 1))], [], σ)) rfl ?_
        exact ih h
      · replace h := zif_f hb4 h
        refine zI_ne_f rfl hb4 ?_
        refine zGo.sts 3 (cf' := (23, [d0, some (.ref 1), some (.int l2), some (.int l3)], [.int l3, .ref 2], σ)) rfl ?_
        obtain ⟨v1, hv, h⟩ := zbd h
        refine zG_ld rfl hv ?_
        refine zGo.sts 2 (cf' := (26, [d0, some (.ref 1), some (.int l2), some (.int l3)], [.int (v1 &&& l2)], σ)) rfl ?_
        obtain ⟨v2, hv, h⟩ := zbd h
        refine zGo.call rfl rfl (Jdk_bitCount_g hv) ?_
        refine zGo.sts 1 (cf' := (30, [d0, some (.ref 1), some (.int l2), some (.int l3)], [.int 1, .int v2], σ)) rfl ?_
        by_cases hb3 : ¬ v2 = 1
        · replace h := zif_t hb3 h
          refine zC_ne_t rfl hb3 ?_
          refine zGo.sts 2 (cf' := (2, [d0, some (.ref 1), some (.int l2), some (.int (l3 + 1))], [], σ)) rfl ?_
          exact ih h
        · replace h := zif_f hb3 h
          refine zC_ne_f rfl hb3 ?_
          refine zGo.sts 1 (cf' := (34, [d0, some (.ref 1), some (.int l2), some (.int l3)], [.int 0], σ)) rfl ?_
          obtain rfl := Option.some.inj h
          exact zGo.ret rfl rfl
def Frt_isFort (l2 : Int32) (σ : zSt) : Option (Int32) := Frt_isFort_c2 σ zF l2 0
theorem Frt_isFort_g {l2 : Int32} {σ : zSt} {r : Int32} (h : Frt_isFort l2 σ = some r) : zGo zPT zmlc (zPT 44) (0, zent (zmlc 44) [.ref 49, .ref 1, .int l2], [], σ) (some (.int r), σ) := by
  unfold Frt_isFort at h
  show zGo zPT zmlc zP_44 (0, [some (.ref 49), some (.ref 1), some (.int l2), none], [], σ) _
  refine zGo.sts 2 (cf' := (2, [some (.ref 49), some (.ref 1), some (.int l2), some (.int 0)], [], σ)) rfl ?_
  exact Frt_isFort_g2 zF h
def Frt_fillMarks_c64 (c9 : Int32 → zSt → Option (zSt)) (l2 : Int32) (t0 : Int32) (t1 : Int32) (σ : zSt) : Option (zSt) := (zst σ 50 t1 t0).bind fun σ9 => c9 (l2 + 1) σ9
theorem Frt_fillMarks_g64 {c9 : Int32 → zSt → Option (zSt)} (hc9 : ∀ {d3 : Option Value} {l2 : Int32} {σ : zSt} {r : zSt}, c9 l2 σ = some r → zGo zPT zmlc zP_42 (9, [some (.ref 49), some (.ref 1), some (.int l2), d3], [], σ) (none, r)) {d3 : Option Value} {l2 : Int32} {t0 : Int32} {t1 : Int32} {σ : zSt} {r : zSt} (h : Frt_fillMarks_c64 c9 l2 t0 t1 σ = some r) : zGo zPT zmlc zP_42 (64, [some (.ref 49), some (.ref 1), some (.int l2), d3], [.int t0, .int t1, .ref 50], σ) (none, r) := by
  unfold Frt_fillMarks_c64 at h
  obtain ⟨σ9, hv, h⟩ := zbd h
  refine zG_st rfl hv ?_
  refine zGo.sts 2 (cf' := (9, [some (.ref 49), some (.ref 1), some (.int (l2 + 1)), d3], [], σ9)) rfl ?_
  exact hc9 h
def Frt_fillMarks_c46 (c9 : Int32 → zSt → Option (zSt)) (l2 : Int32) (t0 : Int32) (t1 : Int32) (σ : zSt) : Option (zSt) := (zst σ 50 t1 t0).bind fun σ10 => c9 (l2 + 1) σ10
theorem Frt_fillMarks_g46 {c9 : Int32 → zSt → Option (zSt)} (hc9 : ∀ {d3 : Option Value} {l2 : Int32} {σ : zSt} {r : zSt}, c9 l2 σ = some r → zGo zPT zmlc zP_42 (9, [some (.ref 49), some (.ref 1), some (.int l2), d3], [], σ) (none, r)) {d3 : Option Value} {l2 : Int32} {t0 : Int32} {t1 : Int32} {σ : zSt} {r : zSt} (h : Frt_fillMarks_c46 c9 l2 t0 t1 σ = some r) : zGo zPT zmlc zP_42 (46, [some (.ref 49), some (.ref 1), some (.int l2), d3], [.int t0, .int t1, .ref 50], σ) (none, r) := by
  unfold Frt_fillMarks_c46 at h
  obtain ⟨σ10, hv, h⟩ := zbd h
  refine zG_st rfl hv ?_
  refine zGo.sts 3 (cf' := (9, [some (.ref 49), some (.ref 1), some (.int (l2 + 1)), d3], [], σ10)) rfl ?_
  exact hc9 h
def Frt_fillMarks_c9 : Nat → Int32 → zSt → Option (zSt)
  | 0, _, _ => none
  | n + 1, l2, σ => (Net_all σ).bind fun v2 => if v2 < l2 then (some σ) else ((Frt_holdsLesser l2 σ).bind fun v3 => (Frt_isFort l2 σ).bind fun v4 => if v4 = 0 then (if v3 = 0 then (Frt_fillMarks_c64 (Frt_fillMarks_c9 n) l2 0 l2 σ) else (Frt_fillMarks_c64 (Frt_fillMarks_c9 n) l2 1 l2 σ)) else (if v3 = 0 then (Frt_fillMarks_c46 (Frt_fillMarks_c9 n) l2 3 l2 σ) else (Frt_fillMarks_c46 (Frt_fillMarks_c9 n) l2 2 l2 σ)))
theorem Frt_fillMarks_g9 : ∀ (n : Nat) {d3 : Option Value} {l2 : Int32} {σ : zSt} {r : zSt}, Frt_fillMarks_c9 n l2 σ = some r → zGo zPT zmlc zP_42 (9, [some (.ref 49), some (.ref 1), some (.int l2), d3], [], σ) (none, r) := by
  intro n
  induction n with
  | zero => intro d3 l2 σ r h; cases h
  | succ n ih =>
    intro d3 l2 σ r h
    rw [Frt_fillMarks_c9] at h
    refine zGo.sts 2 (cf' := (11, [some (.ref 49), some (.ref 1), some (.int l2), d3], [.ref 1, .int l2], σ)) rfl ?_
    obtain ⟨v2, hv, h⟩ := zbd h
    refine zGo.call rfl rfl (Net_all_g hv) ?_
    by_cases hb8 : v2 < l2
    · replace h := zif_t hb8 h
      refine zC_gt_t rfl hb8 ?_
      obtain rfl := Option.some.inj h
      exact zGo.ret rfl rfl
    · replace h := zif_f hb8 h
      refine zC_gt_f rfl hb8 ?_
      refine zGo.sts 2 (cf' := (19, [some (.ref 49), some (.ref 1), some (.int l2), d3], [.int l2, .ref 49], σ)) rfl ?_
      obtain ⟨v3, hv, h⟩ := zbd h
      refine zGo.call rfl rfl (Frt_holdsLesser_g hv) ?_
      refine zGo.sts 4 (cf' := (26, [some (.ref 49), some (.ref 1), some (.int l2), some (.int v3)], [.int l2, .ref 1, .ref 49], σ)) rfl ?_
      obtain ⟨v4, hv, h⟩ := zbd h
      refine zGo.call rfl rfl (Frt_isFort_g hv) ?_
      by_cases hb7 : v4 = 0
      · replace h := zif_t hb7 h
        refine zI_eq_t rfl hb7 ?_
        refine zGo.sts 4 (cf' := (56, [some (.ref 49), some (.ref 1), some (.int l2), some (.int v3)], [.int v3, .int l2, .ref 50], σ)) rfl ?_
        by_cases hb5 : v3 = 0
        · replace h := zif_t hb5 h
          refine zI_eq_t rfl hb5 ?_
          refine zGo.sts 1 (cf' := (64, [some (.ref 49), some (.ref 1), some (.int l2), some (.int v3)], [.int 0, .int l2, .ref 50], σ)) rfl ?_
          exact Frt_fillMarks_g64 ih h
        · replace h := zif_f hb5 h
          refine zI_eq_f rfl hb5 ?_
          refine zGo.sts 2 (cf' := (64, [some (.ref 49), some (.ref 1), some (.int l2), some (.int v3)], [.int 1, .int l2, .ref 50], σ)) rfl ?_
          exact Frt_fillMarks_g64 ih h
      · replace h := zif_f hb7 h
        refine zI_eq_f rfl hb7 ?_
        refine zGo.sts 4 (cf' := (38, [some (.ref 49), some (.ref 1), some (.int l2), some (.int v3)], [.int v3, .int l2, .ref 50], σ)) rfl ?_
        by_cases hb6 : v3 = 0
        · replace h := zif_t hb6 h
          refine zI_eq_t rfl hb6 ?_
          refine zGo.sts 1 (cf' := (46, [some (.ref 49), some (.ref 1), some (.int l2), some (.int v3)], [.int 3, .int l2, .ref 50], σ)) rfl ?_
          exact Frt_fillMarks_g46 ih h
        · replace h := zif_f hb6 h
          refine zI_eq_f rfl hb6 ?_
          refine zGo.sts 2 (cf' := (46, [some (.ref 49), some (.ref 1), some (.int l2), some (.int v3)], [.int 2, .int l2, .ref 50], σ)) rfl ?_
          exact Frt_fillMarks_g46 ih h
def Frt_fillMarks (σ : zSt) : Option (zSt) := (zst σ 50 0 0).bind fun σ1 => Frt_fillMarks_c9 zF 1 σ1
theorem Frt_fillMarks_g {σ : zSt} {r : zSt} (h : Frt_fillMarks σ = some r) : zGo zPT zmlc (zPT 42) (0, zent (zmlc 42) [.ref 49, .ref 1], [], σ) (none, r) := by
  unfold Frt_fillMarks at h
  show zGo zPT zmlc zP_42 (0, [some (.ref 49), some (.ref 1), none, none], [], σ) _
  refine zGo.sts 4 (cf' := (6, [some (.ref 49), some (.ref 1), none, none], [.int 0, .int 0, .ref 50], σ)) rfl ?_
  obtain ⟨σ1, hv, h⟩ := zbd h
  refine zG_st rfl hv ?_
  refine zGo.sts 2 (cf' := (9, [some (.ref 49), some (.ref 1), some (.int 1), none], [], σ1)) rfl ?_
  exact Frt_fillMarks_g9 zF h

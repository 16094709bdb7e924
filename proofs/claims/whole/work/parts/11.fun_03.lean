/-! the methods as functions, by program -/
def X_fits (l1 : Int32) (l2 : Int32) (l3 : Int32) (σ : zSt) : Option (Int32 × zSt) := (X_rowAt l1 σ).bind fun q1 => zmo q1 (some ((-1), σ)) fun v2 => if l2 < 1 then (some ((-1), σ)) else (if 40 < l2 then (some ((-1), σ)) else (if l3 < 0 then (some ((-1), σ)) else (if l3 ≤ 1 then (bif Nat.beq (zkd v2) 8 then (if 0 ≤ (σ v2 0) then (bif Nat.beq (zkd v2) 8 then (if l2 ≤ (σ v2 0) then ((Fcg_take σ).bind fun σ3 => if ¬ l3 = 0 then (zb2 (X_leastFittingK v2 l2 σ3) fun v4 σ5 => some (v4, σ5)) else (zb2 (X_fittingRules v2 l2 σ3) fun v6 σ7 => some (v6, σ7))) else (some ((-13), σ))) else none) else (some ((-11), σ))) else none) else (some ((-1), σ)))))
theorem X_fits_g {l1 : Int32} {l2 : Int32} {l3 : Int32} {σ : zSt} {r : Int32 × zSt} (h : X_fits l1 l2 l3 σ = some r) : zGo zPT zmlc (zPT 119) (0, zent (zmlc 119) [.ref 0, .int l1, .int l2, .int l3], [], σ) (some (.int r.1), r.2) := by
  unfold X_fits at h
  show zGo zPT zmlc zP_119 (0, [some (.ref 0), some (.int l1), some (.int l2), some (.int l3), none], [], σ) _
  refine zGo.sts 2 (cf' := (2, [some (.ref 0), some (.int l1), some (.int l2), some (.int l3), none], [.int l1, .ref 0], σ)) rfl ?_
  obtain ⟨q1, hv, h⟩ := zbd h
  cases q1 with
  | none =>
    replace h := zmo_n h
    refine zGo.call rfl rfl (X_rowAt_g hv) ?_
    refine zGo.sts 4 (cf' := (33, [some (.ref 0), some (.int l1), some (.int l2), some (.int l3), some (.null)], [.int (-1)], σ)) rfl ?_
    obtain rfl := Option.some.inj h
    exact zGo.ret rfl rfl
  | some v2 =>
    replace h := zmo_s h
    refine zGo.call rfl rfl (X_rowAt_g hv) ?_
    refine zGo.sts 5 (cf' := (14, [some (.ref 0), some (.int l1), some (.int l2), some (.int l3), some (.ref v2)], [.int 1, .int l2], σ)) rfl ?_
    by_cases hb14 : l2 < 1
    · replace h := zif_t hb14 h
      refine zC_lt_t rfl hb14 ?_
      refine zGo.sts 1 (cf' := (33, [some (.ref 0), some (.int l1), some (.int l2), some (.int l3), some (.ref v2)], [.int (-1)], σ)) rfl ?_
      obtain rfl := Option.some.inj h
      exact zGo.ret rfl rfl
    · replace h := zif_f hb14 h
      refine zC_lt_f rfl hb14 ?_
      refine zGo.sts 2 (cf' := (20, [some (.ref 0), some (.int l1), some (.int l2), some (.int l3), some (.ref v2)], [.int 40, .int l2], σ)) rfl ?_
      by_cases hb13 : 40 < l2
      · replace h := zif_t hb13 h
        refine zC_gt_t rfl hb13 ?_
        refine zGo.sts 1 (cf' := (33, [some (.ref 0), some (.int l1), some (.int l2), some (.int l3), some (.ref v2)], [.int (-1)], σ)) rfl ?_
        obtain rfl := Option.some.inj h
        exact zGo.ret rfl rfl
      · replace h := zif_f hb13 h
        refine zC_gt_f rfl hb13 ?_
        refine zGo.sts 1 (cf' := (24, [some (.ref 0), some (.int l1), some (.int l2), some (.int l3), some (.ref v2)], [.int l3], σ)) rfl ?_
        by_cases hb12 : l3 < 0
        · replace h := zif_t hb12 h
          refine zI_lt_t rfl hb12 ?_
          refine zGo.sts 1 (cf' := (33, [some (.ref 0), some (.int l1), some (.int l2), some (.int l3), some (.ref v2)], [.int (-1)], σ)) rfl ?_
          obtain rfl := Option.some.inj h
          exact zGo.ret rfl rfl
        · replace h := zif_f hb12 h
          refine zI_lt_f rfl hb12 ?_
          refine zGo.sts 2 (cf' := (29, [some (.ref 0), some (.int l1), some (.int l2), some (.int l3), some (.ref v2)], [.int 1, .int l3], σ)) rfl ?_
          by_cases hb11 : l3 ≤ 1
          · replace h := zif_t hb11 h
            refine zC_le_t rfl hb11 ?_
            refine zGo.sts 1 (cf' := (36, [some (.ref 0), some (.int l1), some (.int l2), some (.int l3), some (.ref v2)], [.ref v2], σ)) rfl ?_
            obtain ⟨hc, h⟩ := zbif h
            refine zG_gI rfl hc ?_
            by_cases hb10 : 0 ≤ (σ v2 0)
            · replace h := zif_t hb10 h
              refine zI_ge_t rfl hb10 ?_
              refine zGo.sts 2 (cf' := (48, [some (.ref 0), some (.int l1), some (.int l2), some (.int l3), some (.ref v2)], [.ref v2, .int l2], σ)) rfl ?_
              obtain ⟨hc, h⟩ := zbif h
              refine zG_gI rfl hc ?_
              by_cases hb9 : l2 ≤ (σ v2 0)
              · replace h := zif_t hb9 h
                refine zC_le_t rfl hb9 ?_
                refine zGo.sts 4 (cf' := (65, [some (.ref 0), some (.int l1), some (.int l2), some (.int l3), some (.ref v2)], [.ref 1, .ref 43], σ)) rfl ?_
                obtain ⟨σ3, hv, h⟩ := zbd h
                refine zGo.call rfl rfl (Fcg_take_g hv) ?_
                refine zGo.sts 1 (cf' := (69, [some (.ref 0), some (.int l1), some (.int l2), some (.int l3), some (.ref v2)], [.int l3], σ3)) rfl ?_
                by_cases hb8 : ¬ l3 = 0
                · replace h := zif_t hb8 h
                  refine zI_ne_t rfl hb8 ?_
                  refine zGo.sts 3 (cf' := (86, [some (.ref 0), some (.int l1), some (.int l2), some (.int l3), some (.ref v2)], [.int l2, .ref v2, .ref 0], σ3)) rfl ?_
                  obtain ⟨v4, σ5, hv, h⟩ := zbd2 h
                  refine zGo.call rfl rfl (X_leastFittingK_g hv) ?_
                  obtain rfl := Option.some.inj h
                  exact zGo.ret rfl rfl
                · replace h := zif_f hb8 h
                  refine zI_ne_f rfl hb8 ?_
                  refine zGo.sts 3 (cf' := (76, [some (.ref 0), some (.int l1), some (.int l2), some (.int l3), some (.ref v2)], [.int l2, .ref v2, .ref 0], σ3)) rfl ?_
                  obtain ⟨v6, σ7, hv, h⟩ := zbd2 h
                  refine zGo.call rfl rfl (X_fittingRules_g hv) ?_
                  refine zGo.sts 1 (cf' := (89, [some (.ref 0), some (.int l1), some (.int l2), some (.int l3), some (.ref v2)], [.int v6], σ7)) rfl ?_
                  obtain rfl := Option.some.inj h
                  exact zGo.ret rfl rfl
              · replace h := zif_f hb9 h
                refine zC_le_f rfl hb9 ?_
                refine zGo.sts 1 (cf' := (56, [some (.ref 0), some (.int l1), some (.int l2), some (.int l3), some (.ref v2)], [.int (-13)], σ)) rfl ?_
                obtain rfl := Option.some.inj h
                exact zGo.ret rfl rfl
            · replace h := zif_f hb10 h
              refine zI_ge_f rfl hb10 ?_
              refine zGo.sts 1 (cf' := (44, [some (.ref 0), some (.int l1), some (.int l2), some (.int l3), some (.ref v2)], [.int (-11)], σ)) rfl ?_
              obtain rfl := Option.some.inj h
              exact zGo.ret rfl rfl
          · replace h := zif_f hb11 h
            refine zC_le_f rfl hb11 ?_
            refine zGo.sts 1 (cf' := (33, [some (.ref 0), some (.int l1), some (.int l2), some (.int l3), some (.ref v2)], [.int (-1)], σ)) rfl ?_
            obtain rfl := Option.some.inj h
            exact zGo.ret rfl rfl
def X_canBeForced_c29 (σ : zSt) : Nat → Int32 → Int32 → Int32 → Option (Int32)
  | 0, _, _, _ => none
  | n + 1, l2, l3, l4 => if (σ 1 0) ≤ l4 then (some 0) else (if ¬ ((l2 >>> (l4 &&& 31)) &&& 1) = 1 then (X_canBeForced_c29 σ n l2 l3 (l4 + 1)) else ((zld σ 2 l4).bind fun v4 => if ¬ (v4 &&& (l2 ^^^ (-1))) = l3 then (X_canBeForced_c29 σ n l2 l3 (l4 + 1)) else (some 1)))
theorem X_canBeForced_g29 {σ : zSt} : ∀ (n : Nat) {d1 : Option Value} {l2 : Int32} {l3 : Int32} {l4 : Int32} {r : Int32}, X_canBeForced_c29 σ n l2 l3 l4 = some r → zGo zPT zmlc zP_142 (29, [some (.ref 0), d1, some (.int l2), some (.int l3), some (.int l4)], [], σ) (some (.int r), σ) := by
  intro n
  induction n with
  | zero => intro d1 l2 l3 l4 r h; cases h
  | succ n ih =>
    intro d1 l2 l3 l4 r h
    rw [X_canBeForced_c29] at h
    refine zGo.sts 4 (cf' := (38, [some (.ref 0), d1, some (.int l2), some (.int l3), some (.int l4)], [.int (σ 1 0), .int l4], σ)) rfl ?_
    by_cases hb7 : (σ 1 0) ≤ l4
    · replace h := zif_t hb7 h
      refine zC_ge_t rfl hb7 ?_
      refine zGo.sts 1 (cf' := (78, [some (.ref 0), d1, some (.int l2), some (.int l3), some (.int l4)], [.int 0], σ)) rfl ?_
      obtain rfl := Option.some.inj h
      exact zGo.ret rfl rfl
    · replace h := zif_f hb7 h
      refine zC_ge_f rfl hb7 ?_
      refine zGo.sts 6 (cf' := (48, [some (.ref 0), d1, some (.int l2), some (.int l3), some (.int l4)], [.int 1, .int ((l2 >>> (l4 &&& 31)) &&& 1)], σ)) rfl ?_
      by_cases hb6 : ¬ ((l2 >>> (l4 &&& 31)) &&& 1) = 1
      · replace h := zif_t hb6 h
        refine zC_ne_t rfl hb6 ?_
        refine zGo.sts 2 (cf' := (29, [some (.ref 0), d1, some (.int l2), some (.int l3), some (.int (l4 + 1))], [], σ)) rfl ?_
        exact ih h
      · replace h := zif_f hb6 h
        refine zC_ne_f rfl hb6 ?_
        refine zGo.sts 4 (cf' := (60, [some (.ref 0), d1, some (.int l2), some (.int l3), some (.int l4)], [.int l4, .ref 2], σ)) rfl ?_
        obtain ⟨v4, hv, h⟩ := zbd h
        refine zG_ld rfl hv ?_
        refine zGo.sts 5 (cf' := (66, [some (.ref 0), d1, some (.int l2), some (.int l3), some (.int l4)], [.int l3, .int (v4 &&& (l2 ^^^ (-1)))], σ)) rfl ?_
        by_cases hb5 : ¬ (v4 &&& (l2 ^^^ (-1))) = l3
        · replace h := zif_t hb5 h
          refine zC_ne_t rfl hb5 ?_
          refine zGo.sts 2 (cf' := (29, [some (.ref 0), d1, some (.int l2), some (.int l3), some (.int (l4 + 1))], [], σ)) rfl ?_
          exact ih h
        · replace h := zif_f hb5 h
          refine zC_ne_f rfl hb5 ?_
          refine zGo.sts 1 (cf' := (70, [some (.ref 0), d1, some (.int l2), some (.int l3), some (.int l4)], [.int 1], σ)) rfl ?_
          obtain rfl := Option.some.inj h
          exact zGo.ret rfl rfl
def X_canBeForced (l1 : Int32) (l2 : Int32) (σ : zSt) : Option (Int32) := (Net_hasPoint l1 σ).bind fun v1 => if v1 = 0 then (some 0) else (if ¬ ((l2 >>> (l1 &&& 31)) &&& 1) = 1 then (X_canBeForced_c29 σ zF l2 (1 <<< (l1 &&& 31)) 0) else (some 0))
theorem X_canBeForced_g {l1 : Int32} {l2 : Int32} {σ : zSt} {r : Int32} (h : X_canBeForced l1 l2 σ = some r) : zGo zPT zmlc (zPT 142) (0, zent (zmlc 142) [.ref 0, .int l1, .int l2], [], σ) (some (.int r), σ) := by
  unfold X_canBeForced at h
  show zGo zPT zmlc zP_142 (0, [some (.ref 0), some (.int l1), some (.int l2), none, none], [], σ) _
  refine zGo.sts 3 (cf' := (5, [some (.ref 0), some (.int l1), some (.int l2), none, none], [.int l1, .ref 1], σ)) rfl ?_
  obtain ⟨v1, hv, h⟩ := zbd h
  refine zGo.call rfl rfl (Net_hasPoint_g hv) ?_
  by_cases hb3 : v1 = 0
  · replace h := zif_t hb3 h
    refine zI_eq_t rfl hb3 ?_
    refine zGo.sts 1 (cf' := (21, [some (.ref 0), some (.int l1), some (.int l2), none, none], [.int 0], σ)) rfl ?_
    obtain rfl := Option.some.inj h
    exact zGo.ret rfl rfl
  · replace h := zif_f hb3 h
    refine zI_eq_f rfl hb3 ?_
    refine zGo.sts 6 (cf' := (17, [some (.ref 0), some (.int l1), some (.int l2), none, none], [.int 1, .int ((l2 >>> (l1 &&& 31)) &&& 1)], σ)) rfl ?_
    by_cases hb2 : ¬ ((l2 >>> (l1 &&& 31)) &&& 1) = 1
    · replace h := zif_t hb2 h
      refine zC_ne_t rfl hb2 ?_
      refine zGo.sts 6 (cf' := (29, [some (.ref 0), some (.int l1), some (.int l2), some (.int (1 <<< (l1 &&& 31))), some (.int 0)], [], σ)) rfl ?_
      exact X_canBeForced_g29 zF h
    · replace h := zif_f hb2 h
      refine zC_ne_f rfl hb2 ?_
      refine zGo.sts 1 (cf' := (21, [some (.ref 0), some (.int l1), some (.int l2), none, none], [.int 0], σ)) rfl ?_
      obtain rfl := Option.some.inj h
      exact zGo.ret rfl rfl
def X_judge_c60 (σ : zSt) : Nat → Nat → Int32 → Int32 → Option (Int32)
  | 0, _, _, _ => none
  | n + 1, l2, l3, l4 => bif Nat.beq (zkd l2) 8 then (if (σ l2 0) ≤ l4 then (some (-2)) else (bif Nat.beq (zkd l2) 8 then ((zld σ (ztg l2 1) l4).bind fun v9 => (X_canBeForced v9 l3 σ).bind fun v10 => if ¬ v10 = 0 then (zlet (l3 ||| (1 <<< (v9 &&& 31))) fun v11 => X_judge_c60 σ n l2 v11 (l4 + 1)) else (some l4)) else none)) else none
theorem X_judge_g60 {σ : zSt} : ∀ (n : Nat) {d1 : Option Value} {d5 : Option Value} {l2 : Nat} {l3 : Int32} {l4 : Int32} {r : Int32}, X_judge_c60 σ n l2 l3 l4 = some r → zGo zPT zmlc zP_120 (60, [some (.ref 0), d1, some (.ref l2), some (.int l3), some (.int l4), d5], [], σ) (some (.int r), σ) := by
  intro n
  induction n with
  | zero => intro d1 d5 l2 l3 l4 r h; cases h
  | succ n ih =>
    intro d1 d5 l2 l3 l4 r h
    rw [X_judge_c60] at h
    refine zGo.sts 2 (cf' := (63, [some (.ref 0), d1, some (.ref l2), some (.int l3), some (.int l4), d5], [.ref l2, .int l4], σ)) rfl ?_
    obtain ⟨hc, h⟩ := zbif h
    refine zG_gI rfl hc ?_
    by_cases hb13 : (σ l2 0) ≤ l4
    · replace h := zif_t hb13 h
      refine zC_ge_t rfl hb13 ?_
      refine zGo.sts 1 (cf' := (106, [some (.ref 0), d1, some (.ref l2), some (.int l3), some (.int l4), d5], [.int (-2)], σ)) rfl ?_
      obtain rfl := Option.some.inj h
      exact zGo.ret rfl rfl
    · replace h := zif_f hb13 h
      refine zC_ge_f rfl hb13 ?_
      refine zGo.sts 1 (cf' := (70, [some (.ref 0), d1, some (.ref l2), some (.int l3), some (.int l4), d5], [.ref l2], σ)) rfl ?_
      obtain ⟨hc, h⟩ := zbif h
      refine zG_gR rfl hc ?_
      refine zGo.sts 1 (cf' := (75, [some (.ref 0), d1, some (.ref l2), some (.int l3), some (.int l4), d5], [.int l4, .ref (ztg l2 1)], σ)) rfl ?_
      obtain ⟨v9, hv, h⟩ := zbd h
      refine zG_ld rfl hv ?_
      refine zGo.sts 4 (cf' := (82, [some (.ref 0), d1, some (.ref l2), some (.int l3), some (.int l4), some (.int v9)], [.int l3, .int v9, .ref 0], σ)) rfl ?_
      obtain ⟨v10, hv, h⟩ := zbd h
      refine zGo.call rfl rfl (X_canBeForced_g hv) ?_
      by_cases hb12 : ¬ v10 = 0
      · replace h := zif_t hb12 h
        refine zI_ne_t rfl hb12 ?_
        refine zGo.sts 6 (cf' := (98, [some (.ref 0), d1, some (.ref l2), some (.int (l3 ||| (1 <<< (v9 &&& 31)))), some (.int l4), some (.int v9)], [], σ)) rfl ?_
        replace h := zlet_of h
        generalize l3 ||| (1 <<< (v9 &&& 31)) = v11 at h ⊢
        refine zGo.sts 2 (cf' := (60, [some (.ref 0), d1, some (.ref l2), some (.int v11), some (.int (l4 + 1)), some (.int v9)], [], σ)) rfl ?_
        exact ih h
      · replace h := zif_f hb12 h
        refine zI_ne_f rfl hb12 ?_
        refine zGo.sts 1 (cf' := (90, [some (.ref 0), d1, some (.ref l2), some (.int l3), some (.int l4), some (.int v9)], [.int l4], σ)) rfl ?_
        obtain rfl := Option.some.inj h
        exact zGo.ret rfl rfl
def X_judge (l1 : Int32) (σ : zSt) : Option (Int32) := (X_rowAt l1 σ).bind fun q1 => zmo q1 (some (-1)) fun v2 => bif Nat.beq (zkd v2) 8 then (if 0 ≤ (σ v2 0) then (bif Nat.beq (zkd v2) 8 then (if ¬ (σ v2 0) = 0 then (bif Nat.beq (zkd v2) 8 then ((zld σ (ztg v2 1) 0).bind fun v3 => (Net_hasSet v3 σ).bind fun v4 => if ¬ v4 = 0 then (bif Nat.beq (zkd v2) 8 then ((zld σ (ztg v2 1) 0).bind fun v5 => X_judge_c60 σ zF v2 v5 1) else none) else (some 0)) else none) else (some (-5))) else none) else (some (-11))) else none
theorem X_judge_g {l1 : Int32} {σ : zSt} {r : Int32} (h : X_judge l1 σ = some r) : zGo zPT zmlc (zPT 120) (0, zent (zmlc 120) [.ref 0, .int l1], [], σ) (some (.int r), σ) := by
  unfold X_judge at h
  show zGo zPT zmlc zP_120 (0, [some (.ref 0), some (.int l1), none, none, none, none], [], σ) _
  refine zGo.sts 2 (cf' := (2, [some (.ref 0), some (.int l1), none, none, none, none], [.int l1, .ref 0], σ)) rfl ?_
  obtain ⟨q1, hv, h⟩ := zbd h
  cases q1 with
  | none =>
    replace h := zmo_n h
    refine zGo.call rfl rfl (X_rowAt_g hv) ?_
    refine zGo.sts 4 (cf' := (11, [some (.ref 0), some (.int l1), some (.null), none, none, none], [.int (-1)], σ)) rfl ?_
    obtain rfl := Option.some.inj h
    exact zGo.ret rfl rfl
  | some v2 =>
    replace h := zmo_s h
    refine zGo.call rfl rfl (X_rowAt_g hv) ?_
    refine zGo.sts 4 (cf' := (13, [some (.ref 0), some (.int l1), some (.ref v2), none, none, none], [.ref v2], σ)) rfl ?_
    obtain ⟨hc, h⟩ := zbif h
    refine zG_gI rfl hc ?_
    by_cases hb8 : 0 ≤ (σ v2 0)
    · replace h := zif_t hb8 h
      refine zI_ge_t rfl hb8 ?_
      refine zGo.sts 1 (cf' := (23, [some (.ref 0), some (.int l1), some (.ref v2), none, none, none], [.ref v2], σ)) rfl ?_
      obtain ⟨hc, h⟩ := zbif h
      refine zG_gI rfl hc ?_
      by_cases hb7 : ¬ (σ v2 0) = 0
      · replace h := zif_t hb7 h
        refine zI_ne_t rfl hb7 ?_
        refine zGo.sts 3 (cf' := (37, [some (.ref 0), some (.int l1), some (.ref v2), none, none, none], [.ref v2, .ref 1], σ)) rfl ?_
        obtain ⟨hc, h⟩ := zbif h
        refine zG_gR rfl hc ?_
        refine zGo.sts 1 (cf' := (41, [some (.ref 0), some (.int l1), some (.ref v2), none, none, none], [.int 0, .ref (ztg v2 1), .ref 1], σ)) rfl ?_
        obtain ⟨v3, hv, h⟩ := zbd h
        refine zG_ld rfl hv ?_
        obtain ⟨v4, hv, h⟩ := zbd h
        refine zGo.call rfl rfl (Net_hasSet_g hv) ?_
        by_cases hb6 : ¬ v4 = 0
        · replace h := zif_t hb6 h
          refine zI_ne_t rfl hb6 ?_
          refine zGo.sts 1 (cf' := (51, [some (.ref 0), some (.int l1), some (.ref v2), none, none, none], [.ref v2], σ)) rfl ?_
          obtain ⟨hc, h⟩ := zbif h
          refine zG_gR rfl hc ?_
          refine zGo.sts 1 (cf' := (55, [some (.ref 0), some (.int l1), some (.ref v2), none, none, none], [.int 0, .ref (ztg v2 1)], σ)) rfl ?_
          obtain ⟨v5, hv, h⟩ := zbd h
          refine zG_ld rfl hv ?_
          refine zGo.sts 3 (cf' := (60, [some (.ref 0), some (.int l1), some (.ref v2), some (.int v5), some (.int 1), none], [], σ)) rfl ?_
          exact X_judge_g60 zF h
        · replace h := zif_f hb6 h
          refine zI_ne_f rfl hb6 ?_
          refine zGo.sts 1 (cf' := (49, [some (.ref 0), some (.int l1), some (.ref v2), none, none, none], [.int 0], σ)) rfl ?_
          obtain rfl := Option.some.inj h
          exact zGo.ret rfl rfl
      · replace h := zif_f hb7 h
        refine zI_ne_f rfl hb7 ?_
        refine zGo.sts 1 (cf' := (31, [some (.ref 0), some (.int l1), some (.ref v2), none, none, none], [.int (-5)], σ)) rfl ?_
        obtain rfl := Option.some.inj h
        exact zGo.ret rfl rfl
    · replace h := zif_f hb8 h
      refine zI_ge_f rfl hb8 ?_
      refine zGo.sts 1 (cf' := (21, [some (.ref 0), some (.int l1), some (.ref v2), none, none, none], [.int (-11)], σ)) rfl ?_
      obtain rfl := Option.some.inj h
      exact zGo.ret rfl rfl
def His_stepBack (σ : zSt) : Option (Int32 × zSt) := if 0 < (σ 29 1) then (zlet (su σ 29 1 ((σ 29 1) - 1)) fun σ1 => (zlr σ1 30 (σ1 29 1)).bind fun v2 => bif Nat.beq (zkd v2) 2 then (bif Nat.beq (zkd v2) 2 then (bif Nat.beq (zkd v2) 2 then (bif Nat.beq (zkd v2) 2 then ((Net_setValue (σ1 v2 0) (σ1 v2 1) (σ1 v2 2) (σ1 v2 3) σ1).bind fun σ3 => some (1, σ3)) else none) else none) else none) else none) else (some (0, σ))
theorem His_stepBack_g {σ : zSt} {r : Int32 × zSt} (h : His_stepBack σ = some r) : zGo zPT zmlc (zPT 88) (0, zent (zmlc 88) [.ref 29, .ref 1], [], σ) (some (.int r.1), r.2) := by
  unfold His_stepBack at h
  show zGo zPT zmlc zP_88 (0, [some (.ref 29), some (.ref 1), none], [], σ) _
  refine zGo.sts 2 (cf' := (4, [some (.ref 29), some (.ref 1), none], [.int (σ 29 1)], σ)) rfl ?_
  by_cases hb4 : 0 < (σ 29 1)
  · replace h := zif_t hb4 h
    refine zI_gt_t rfl hb4 ?_
    refine zGo.sts 6 (cf' := (19, [some (.ref 29), some (.ref 1), none], [], (su σ 29 1 ((σ 29 1) - 1)))) rfl ?_
    replace h := zlet_of h
    generalize su σ 29 1 ((σ 29 1) - 1) = σ1 at h ⊢
    refine zGo.sts 4 (cf' := (27, [some (.ref 29), some (.ref 1), none], [.int (σ1 29 1), .ref 30], σ1)) rfl ?_
    obtain ⟨v2, hv, h⟩ := zbd h
    refine zG_lr rfl hv ?_
    refine zGo.sts 3 (cf' := (31, [some (.ref 29), some (.ref 1), some (.ref v2)], [.ref v2, .ref 1], σ1)) rfl ?_
    obtain ⟨hc, h⟩ := zbif h
    refine zG_gI rfl hc ?_
    refine zGo.sts 1 (cf' := (35, [some (.ref 29), some (.ref 1), some (.ref v2)], [.ref v2, .int (σ1 v2 0), .ref 1], σ1)) rfl ?_
    obtain ⟨hc, h⟩ := zbif h
    refine zG_gI rfl hc ?_
    refine zGo.sts 1 (cf' := (39, [some (.ref 29), some (.ref 1), some (.ref v2)], [.ref v2, .int (σ1 v2 1), .int (σ1 v2 0), .ref 1], σ1)) rfl ?_
    obtain ⟨hc, h⟩ := zbif h
    refine zG_gI rfl hc ?_
    refine zGo.sts 1 (cf' := (43, [some (.ref 29), some (.ref 1), some (.ref v2)], [.ref v2, .int (σ1 v2 2), .int (σ1 v2 1), .int (σ1 v2 0), .ref 1], σ1)) rfl ?_
    obtain ⟨hc, h⟩ := zbif h
    refine zG_gI rfl hc ?_
    obtain ⟨σ3, hv, h⟩ := zbd h
    refine zGo.call rfl rfl (Net_setValue_g hv) ?_
    refine zGo.sts 1 (cf' := (50, [some (.ref 29), some (.ref 1), some (.ref v2)], [.int 1], σ3)) rfl ?_
    obtain rfl := Option.some.inj h
    exact zGo.ret rfl rfl
  · replace h := zif_f hb4 h
    refine zI_gt_f rfl hb4 ?_
    refine zGo.sts 1 (cf' := (8, [some (.ref 29), some (.ref 1), none], [.int 0], σ)) rfl ?_
    obtain rfl := Option.some.inj h
    exact zGo.ret rfl rfl
def X_undo (σ : zSt) : Option (Int32 × zSt) := zb2 (His_stepBack σ) fun v1 σ2 => if v1 = 0 then (some ((-5), σ2)) else (some (σ2 29 1, σ2))
theorem X_undo_g {σ : zSt} {r : Int32 × zSt} (h : X_undo σ = some r) : zGo zPT zmlc (zPT 121) (0, zent (zmlc 121) [.ref 0], [], σ) (some (.int r.1), r.2) := by
  unfold X_undo at h
  show zGo zPT zmlc zP_121 (0, [some (.ref 0)], [], σ) _
  refine zGo.sts 4 (cf' := (8, [some (.ref 0)], [.ref 1, .ref 29], σ)) rfl ?_
  obtain ⟨v1, σ2, hv, h⟩ := zbd2 h
  refine zGo.call rfl rfl (His_stepBack_g hv) ?_
  by_cases hb3 : v1 = 0
  · replace h := zif_t hb3 h
    refine zI_eq_t rfl hb3 ?_
    refine zGo.sts 1 (cf' := (26, [some (.ref 0)], [.int (-5)], σ2)) rfl ?_
    obtain rfl := Option.some.inj h
    exact zGo.ret rfl rfl
  · replace h := zif_f hb3 h
    refine zI_eq_f rfl hb3 ?_
    refine zGo.sts 4 (cf' := (26, [some (.ref 0)], [.int (σ2 29 1)], σ2)) rfl ?_
    obtain rfl := Option.some.inj h
    exact zGo.ret rfl rfl
def His_stepOn (σ : zSt) : Option (Int32 × zSt) := if (σ 29 1) < (σ 29 2) then ((zlr σ 30 (σ 29 1)).bind fun v1 => bif Nat.beq (zkd v1) 2 then (bif Nat.beq (zkd v1) 2 then (bif Nat.beq (zkd v1) 2 then (bif Nat.beq (zkd v1) 2 then ((Net_setValue (σ v1 0) (σ v1 1) (σ v1 2) (σ v1 4) σ).bind fun σ2 => zlet (su σ2 29 1 ((σ2 29 1) + 1)) fun σ3 => some (1, σ3)) else none) else none) else none) else none) else (some (0, σ))
theorem His_stepOn_g {σ : zSt} {r : Int32 × zSt} (h : His_stepOn σ = some r) : zGo zPT zmlc (zPT 89) (0, zent (zmlc 89) [.ref 29, .ref 1], [], σ) (some (.int r.1), r.2) := by
  unfold His_stepOn at h
  show zGo zPT zmlc zP_89 (0, [some (.ref 29), some (.ref 1), none], [], σ) _
  refine zGo.sts 4 (cf' := (8, [some (.ref 29), some (.ref 1), none], [.int (σ 29 2), .int (σ 29 1)], σ)) rfl ?_
  by_cases hb4 : (σ 29 1) < (σ 29 2)
  · replace h := zif_t hb4 h
    refine zC_lt_t rfl hb4 ?_
    refine zGo.sts 4 (cf' := (21, [some (.ref 29), some (.ref 1), none], [.int (σ 29 1), .ref 30], σ)) rfl ?_
    obtain ⟨v1, hv, h⟩ := zbd h
    refine zG_lr rfl hv ?_
    refine zGo.sts 3 (cf' := (25, [some (.ref 29), some (.ref 1), some (.ref v1)], [.ref v1, .ref 1], σ)) rfl ?_
    obtain ⟨hc, h⟩ := zbif h
    refine zG_gI rfl hc ?_
    refine zGo.sts 1 (cf' := (29, [some (.ref 29), some (.ref 1), some (.ref v1)], [.ref v1, .int (σ v1 0), .ref 1], σ)) rfl ?_
    obtain ⟨hc, h⟩ := zbif h
    refine zG_gI rfl hc ?_
    refine zGo.sts 1 (cf' := (33, [some (.ref 29), some (.ref 1), some (.ref v1)], [.ref v1, .int (σ v1 1), .int (σ v1 0), .ref 1], σ)) rfl ?_
    obtain ⟨hc, h⟩ := zbif h
    refine zG_gI rfl hc ?_
    refine zGo.sts 1 (cf' := (37, [some (.ref 29), some (.ref 1), some (.ref v1)], [.ref v1, .int (σ v1 2), .int (σ v1 1), .int (σ v1 0), .ref 1], σ)) rfl ?_
    obtain ⟨hc, h⟩ := zbif h
    refine zG_gI rfl hc ?_
    obtain ⟨σ2, hv, h⟩ := zbd h
    refine zGo.call rfl rfl (Net_setValue_g hv) ?_
    refine zGo.sts 6 (cf' := (53, [some (.ref 29), some (.ref 1), some (.ref v1)], [], (su σ2 29 1 ((σ2 29 1) + 1)))) rfl ?_
    replace h := zlet_of h
    generalize su σ2 29 1 ((σ2 29 1) + 1) = σ3 at h ⊢
    refine zGo.sts 1 (cf' := (54, [some (.ref 29), some (.ref 1), some (.ref v1)], [.int 1], σ3)) rfl ?_
    obtain rfl := Option.some.inj h
    exact zGo.ret rfl rfl
  · replace h := zif_f hb4 h
    refine zC_lt_f rfl hb4 ?_
    refine zGo.sts 1 (cf' := (12, [some (.ref 29), some (.ref 1), none], [.int 0], σ)) rfl ?_
    obtain rfl := Option.some.inj h
    exact zGo.ret rfl rfl
def X_redo (σ : zSt) : Option (Int32 × zSt) := zb2 (His_stepOn σ) fun v1 σ2 => if v1 = 0 then (some ((-5), σ2)) else (some ((σ2 29 2) - (σ2 29 1), σ2))
theorem X_redo_g {σ : zSt} {r : Int32 × zSt} (h : X_redo σ = some r) : zGo zPT zmlc (zPT 122) (0, zent (zmlc 122) [.ref 0], [], σ) (some (.int r.1), r.2) := by
  unfold X_redo at h
  show zGo zPT zmlc zP_122 (0, [some (.ref 0)], [], σ) _
  refine zGo.sts 4 (cf' := (8, [some (.ref 0)], [.ref 1, .ref 29], σ)) rfl ?_
  obtain ⟨v1, σ2, hv, h⟩ := zbd2 h
  refine zGo.call rfl rfl (His_stepOn_g hv) ?_
  by_cases hb3 : v1 = 0
  · replace h := zif_t hb3 h
    refine zI_eq_t rfl hb3 ?_
    refine zGo.sts 1 (cf' := (34, [some (.ref 0)], [.int (-5)], σ2)) rfl ?_
    obtain rfl := Option.some.inj h
    exact zGo.ret rfl rfl
  · replace h := zif_f hb3 h
    refine zI_eq_f rfl hb3 ?_
    refine zGo.sts 8 (cf' := (34, [some (.ref 0)], [.int ((σ2 29 2) - (σ2 29 1))], σ2)) rfl ?_
    obtain rfl := Option.some.inj h
    exact zGo.ret rfl rfl
def Tape_append (l1 : Int32) (σ : zSt) : Option (Int32 × zSt) := if (σ 71 0) < 80 then ((zst σ 72 (σ 71 0) l1).bind fun σ1 => zlet (su σ1 71 0 ((σ1 71 0) + 1)) fun σ2 => some (1, σ2)) else (some (0, σ))
theorem Tape_append_g {l1 : Int32} {σ : zSt} {r : Int32 × zSt} (h : Tape_append l1 σ = some r) : zGo zPT zmlc (zPT 3) (0, zent (zmlc 3) [.ref 71, .int l1], [], σ) (some (.int r.1), r.2) := by
  unfold Tape_append at h
  show zGo zPT zmlc zP_3 (0, [some (.ref 71), some (.int l1)], [], σ) _
  refine zGo.sts 3 (cf' := (6, [some (.ref 71), some (.int l1)], [.int 80, .int (σ 71 0)], σ)) rfl ?_
  by_cases hb3 : (σ 71 0) < 80
  · replace h := zif_t hb3 h
    refine zC_lt_t rfl hb3 ?_
    refine zGo.sts 5 (cf' := (20, [some (.ref 71), some (.int l1)], [.int l1, .int (σ 71 0), .ref 72], σ)) rfl ?_
    obtain ⟨σ1, hv, h⟩ := zbd h
    refine zG_st rfl hv ?_
    refine zGo.sts 6 (cf' := (31, [some (.ref 71), some (.int l1)], [], (su σ1 71 0 ((σ1 71 0) + 1)))) rfl ?_
    replace h := zlet_of h
    generalize su σ1 71 0 ((σ1 71 0) + 1) = σ2 at h ⊢
    refine zGo.sts 1 (cf' := (32, [some (.ref 71), some (.int l1)], [.int 1], σ2)) rfl ?_
    obtain rfl := Option.some.inj h
    exact zGo.ret rfl rfl
  · replace h := zif_f hb3 h
    refine zC_lt_f rfl hb3 ?_
    refine zGo.sts 1 (cf' := (10, [some (.ref 71), some (.int l1)], [.int 0], σ)) rfl ?_
    obtain rfl := Option.some.inj h
    exact zGo.ret rfl rfl
def X_feed (l1 : Int32) (σ : zSt) : Option (Int32 × zSt) := if l1 < 32 then (some ((-1), σ)) else (if l1 ≤ 126 then (zb2 (Tape_append l1 σ) fun v1 σ2 => if v1 = 0 then (some ((-3), σ2)) else (some (σ2 71 0, σ2))) else (some ((-1), σ)))
theorem X_feed_g {l1 : Int32} {σ : zSt} {r : Int32 × zSt} (h : X_feed l1 σ = some r) : zGo zPT zmlc (zPT 123) (0, zent (zmlc 123) [.ref 0, .int l1], [], σ) (some (.int r.1), r.2) := by
  unfold X_feed at h
  show zGo zPT zmlc zP_123 (0, [some (.ref 0), some (.int l1)], [], σ) _
  refine zGo.sts 2 (cf' := (3, [some (.ref 0), some (.int l1)], [.int 32, .int l1], σ)) rfl ?_
  by_cases hb5 : l1 < 32
  · replace h := zif_t hb5 h
    refine zC_lt_t rfl hb5 ?_
    refine zGo.sts 1 (cf' := (13, [some (.ref 0), some (.int l1)], [.int (-1)], σ)) rfl ?_
    obtain rfl := Option.some.inj h
    exact zGo.ret rfl rfl
  · replace h := zif_f hb5 h
    refine zC_lt_f rfl hb5 ?_
    refine zGo.sts 2 (cf' := (9, [some (.ref 0), some (.int l1)], [.int 126, .int l1], σ)) rfl ?_
    by_cases hb4 : l1 ≤ 126
    · replace h := zif_t hb4 h
      refine zC_le_t rfl hb4 ?_
      refine zGo.sts 3 (cf' := (19, [some (.ref 0), some (.int l1)], [.int l1, .ref 71], σ)) rfl ?_
      obtain ⟨v1, σ2, hv, h⟩ := zbd2 h
      refine zGo.call rfl rfl (Tape_append_g hv) ?_
      by_cases hb3 : v1 = 0
      · replace h := zif_t hb3 h
        refine zI_eq_t rfl hb3 ?_
        refine zGo.sts 1 (cf' := (37, [some (.ref 0), some (.int l1)], [.int (-3)], σ2)) rfl ?_
        obtain rfl := Option.some.inj h
        exact zGo.ret rfl rfl
      · replace h := zif_f hb3 h
        refine zI_eq_f rfl hb3 ?_
        refine zGo.sts 4 (cf' := (37, [some (.ref 0), some (.int l1)], [.int (σ2 71 0)], σ2)) rfl ?_
        obtain rfl := Option.some.inj h
        exact zGo.ret rfl rfl
    · replace h := zif_f hb4 h
      refine zC_le_f rfl hb4 ?_
      refine zGo.sts 1 (cf' := (13, [some (.ref 0), some (.int l1)], [.int (-1)], σ)) rfl ?_
      obtain rfl := Option.some.inj h
      exact zGo.ret rfl rfl
def X_wipe (σ : zSt) : Option (Int32 × zSt) := zlet (su σ 71 0 0) fun σ1 => some (σ 71 0, σ1)
theorem X_wipe_g {σ : zSt} {r : Int32 × zSt} (h : X_wipe σ = some r) : zGo zPT zmlc (zPT 124) (0, zent (zmlc 124) [.ref 0], [], σ) (some (.int r.1), r.2) := by
  unfold X_wipe at h
  show zGo zPT zmlc zP_124 (0, [some (.ref 0), none], [], σ) _
  refine zGo.sts 8 (cf' := (16, [some (.ref 0), some (.int (σ 71 0))], [], (su σ 71 0 0))) rfl ?_
  replace h := zlet_of h
  generalize su σ 71 0 0 = σ1 at h ⊢
  refine zGo.sts 1 (cf' := (17, [some (.ref 0), some (.int (σ 71 0))], [.int (σ 71 0)], σ1)) rfl ?_
  obtain rfl := Option.some.inj h
  exact zGo.ret rfl rfl
def Tape_byteAt (l1 : Int32) (σ : zSt) : Option (Int32) := if l1 < 0 then (some (-1)) else (if l1 < (σ 71 0) then ((zld σ 72 l1).bind fun v1 => some v1) else (some (-1)))
theorem Tape_byteAt_g {l1 : Int32} {σ : zSt} {r : Int32} (h : Tape_byteAt l1 σ = some r) : zGo zPT zmlc (zPT 5) (0, zent (zmlc 5) [.ref 71, .int l1], [], σ) (some (.int r), σ) := by
  unfold Tape_byteAt at h
  show zGo zPT zmlc zP_5 (0, [some (.ref 71), some (.int l1)], [], σ) _
  refine zGo.sts 1 (cf' := (1, [some (.ref 71), some (.int l1)], [.int l1], σ)) rfl ?_
  by_cases hb3 : l1 < 0
  · replace h := zif_t hb3 h
    refine zI_lt_t rfl hb3 ?_
    refine zGo.sts 2 (cf' := (22, [some (.ref 71), some (.int l1)], [.int (-1)], σ)) rfl ?_
    obtain rfl := Option.some.inj h
    exact zGo.ret rfl rfl
  · replace h := zif_f hb3 h
    refine zI_lt_f rfl hb3 ?_
    refine zGo.sts 3 (cf' := (9, [some (.ref 71), some (.int l1)], [.int (σ 71 0), .int l1], σ)) rfl ?_
    by_cases hb2 : l1 < (σ 71 0)
    · replace h := zif_t hb2 h
      refine zC_lt_t rfl hb2 ?_
      refine zGo.sts 3 (cf' := (21, [some (.ref 71), some (.int l1)], [.int l1, .ref 72], σ)) rfl ?_
      obtain ⟨v1, hv, h⟩ := zbd h
      refine zG_ld rfl hv ?_
      obtain rfl := Option.some.inj h
      exact zGo.ret rfl rfl
    · replace h := zif_f hb2 h
      refine zC_lt_f rfl hb2 ?_
      refine zGo.sts 2 (cf' := (22, [some (.ref 71), some (.int l1)], [.int (-1)], σ)) rfl ?_
      obtain rfl := Option.some.inj h
      exact zGo.ret rfl rfl
def Tape_numbersOf (l0 : Int32) (σ : zSt) : Option (Int32) := if l0 = 67 then (some 2) else (if l0 = 80 then (some 2) else (if l0 = 99 then (some 2) else (if l0 = 107 then (some 2) else (if l0 = 108 then (some 2) else (if l0 = 109 then (some 1) else (if l0 = 110 then (some 1) else (if l0 = 114 then (some 2) else (if l0 = 117 then (some 2) else (some 0)))))))))
theorem Tape_numbersOf_g {l0 : Int32} {σ : zSt} {r : Int32} (h : Tape_numbersOf l0 σ = some r) : zGo zPT zmlc (zPT 4) (0, zent (zmlc 4) [.int l0], [], σ) (some (.int r), σ) := by
  unfold Tape_numbersOf at h
  show zGo zPT zmlc zP_4 (0, [some (.int l0)], [], σ) _
  refine zGo.sts 1 (cf' := (1, [some (.int l0)], [.int l0], σ)) rfl ?_
  by_cases hb1 : l0 = 67
  · replace h := zif_t hb1 h
    refine zG_sw rfl (zsw_t hb1) ?_
    refine zGo.sts 1 (cf' := (87, [some (.int l0)], [.int 2], σ)) rfl ?_
    obtain rfl := Option.some.inj h
    exact zGo.ret rfl rfl
  · replace h := zif_f hb1 h
    by_cases hb2 : l0 = 80
    · replace h := zif_t hb2 h
      refine zG_sw rfl ((zsw_f hb1).trans (zsw_t hb2)) ?_
      refine zGo.sts 1 (cf' := (87, [some (.int l0)], [.int 2], σ)) rfl ?_
      obtain rfl := Option.some.inj h
      exact zGo.ret rfl rfl
    · replace h := zif_f hb2 h
      by_cases hb3 : l0 = 99
      · replace h := zif_t hb3 h
        refine zG_sw rfl ((zsw_f hb1).trans ((zsw_f hb2).trans (zsw_t hb3))) ?_
        refine zGo.sts 1 (cf' := (87, [some (.int l0)], [.int 2], σ)) rfl ?_
        obtain rfl := Option.some.inj h
        exact zGo.ret rfl rfl
      · replace h := zif_f hb3 h
        by_cases hb4 : l0 = 107
        · replace h := zif_t hb4 h
          refine zG_sw rfl ((zsw_f hb1).trans ((zsw_f hb2).trans ((zsw_f hb3).trans (zsw_t hb4)))) ?_
          refine zGo.sts 1 (cf' := (87, [some (.int l0)], [.int 2], σ)) rfl ?_
          obtain rfl := Option.some.inj h
          exact zGo.ret rfl rfl
        · replace h := zif_f hb4 h
          by_cases hb5 : l0 = 108
          · replace h := zif_t hb5 h
            refine zG_sw rfl ((zsw_f hb1).trans ((zsw_f hb2).trans ((zsw_f hb3).trans ((zsw_f hb4).trans (zsw_t hb5))))) ?_
            refine zGo.sts 1 (cf' := (87, [some (.int l0)], [.int 2], σ)) rfl ?_
            obtain rfl := Option.some.inj h
            exact zGo.ret rfl rfl
          · replace h := zif_f hb5 h
            by_cases hb6 : l0 = 109
            · replace h := zif_t hb6 h
              refine zG_sw rfl ((zsw_f hb1).trans ((zsw_f hb2).trans ((zsw_f hb3).trans ((zsw_f hb4).trans ((zsw_f hb5).trans (zsw_t hb6)))))) ?_
              refine zGo.sts 1 (cf' := (85, [some (.int l0)], [.int 1], σ)) rfl ?_
              obtain rfl := Option.some.inj h
              exact zGo.ret rfl rfl
            · replace h := zif_f hb6 h
              by_cases hb7 : l0 = 110
              · replace h := zif_t hb7 h
                refine zG_sw rfl ((zsw_f hb1).trans ((zsw_f hb2).trans ((zsw_f hb3).trans ((zsw_f hb4).trans ((zsw_f hb5).trans ((zsw_f hb6).trans (zsw_t hb7))))))) ?_
                refine zGo.sts 1 (cf' := (85, [some (.int l0)], [.int 1], σ)) rfl ?_
                obtain rfl := Option.some.inj h
                exact zGo.ret rfl rfl
              · replace h := zif_f hb7 h
                by_cases hb8 : l0 = 114
                · replace h := zif_t hb8 h
                  refine zG_sw rfl ((zsw_f hb1).trans ((zsw_f hb2).trans ((zsw_f hb3).trans ((zsw_f hb4).trans ((zsw_f hb5).trans ((zsw_f hb6).trans ((zsw_f hb7).trans (zsw_t hb8)))))))) ?_
                  refine zGo.sts 1 (cf' := (87, [some (.int l0)], [.int 2], σ)) rfl ?_
                  obtain rfl := Option.some.inj h
                  exact zGo.ret rfl rfl
                · replace h := zif_f hb8 h
                  by_cases hb9 : l0 = 117
                  · replace h := zif_t hb9 h
                    refine zG_sw rfl ((zsw_f hb1).trans ((zsw_f hb2).trans ((zsw_f hb3).trans ((zsw_f hb4).trans ((zsw_f hb5).trans ((zsw_f hb6).trans ((zsw_f hb7).trans ((zsw_f hb8).trans (zsw_t hb9))))))))) ?_
                    refine zGo.sts 1 (cf' := (87, [some (.int l0)], [.int 2], σ)) rfl ?_
                    obtain rfl := Option.some.inj h
                    exact zGo.ret rfl rfl
                  · replace h := zif_f hb9 h
                    refine zG_sw rfl ((zsw_f hb1).trans ((zsw_f hb2).trans ((zsw_f hb3).trans ((zsw_f hb4).trans ((zsw_f hb5).trans ((zsw_f hb6).trans ((zsw_f hb7).trans ((zsw_f hb8).trans ((zsw_f hb9).trans rfl))))))))) ?_
                    refine zGo.sts 1 (cf' := (89, [some (.int l0)], [.int 0], σ)) rfl ?_
                    obtain rfl := Option.some.inj h
                    exact zGo.ret rfl rfl
def Tape_hasFigure (l1 : Int32) (σ : zSt) : Option (Int32) := (Tape_byteAt l1 σ).bind fun v1 => if v1 < 48 then (some 0) else ((Tape_byteAt l1 σ).bind fun v2 => if 57 < v2 then (some 0) else (some 1))
theorem Tape_hasFigure_g {l1 : Int32} {σ : zSt} {r : Int32} (h : Tape_hasFigure l1 σ = some r) : zGo zPT zmlc (zPT 6) (0, zent (zmlc 6) [.ref 71, .int l1], [], σ) (some (.int r), σ) := by
  unfold Tape_hasFigure at h
  show zGo zPT zmlc zP_6 (0, [some (.ref 71), some (.int l1)], [], σ) _
  refine zGo.sts 2 (cf' := (2, [some (.ref 71), some (.int l1)], [.int l1, .ref 71], σ)) rfl ?_
  obtain ⟨v1, hv, h⟩ := zbd h
  refine zGo.call rfl rfl (Tape_byteAt_g hv) ?_
  refine zGo.sts 1 (cf' := (7, [some (.ref 71), some (.int l1)], [.int 48, .int v1], σ)) rfl ?_
  by_cases hb4 : v1 < 48
  · replace h := zif_t hb4 h
    refine zC_lt_t rfl hb4 ?_
    refine zGo.sts 1 (cf' := (25, [some (.ref 71), some (.int l1)], [.int 0], σ)) rfl ?_
    obtain rfl := Option.some.inj h
    exact zGo.ret rfl rfl
  · replace h := zif_f hb4 h
    refine zC_lt_f rfl hb4 ?_
    refine zGo.sts 2 (cf' := (12, [some (.ref 71), some (.int l1)], [.int l1, .ref 71], σ)) rfl ?_
    obtain ⟨v2, hv, h⟩ := zbd h
    refine zGo.call rfl rfl (Tape_byteAt_g hv) ?_
    refine zGo.sts 1 (cf' := (17, [some (.ref 71), some (.int l1)], [.int 57, .int v2], σ)) rfl ?_
    by_cases hb3 : 57 < v2
    · replace h := zif_t hb3 h
      refine zC_gt_t rfl hb3 ?_
      refine zGo.sts 1 (cf' := (25, [some (.ref 71), some (.int l1)], [.int 0], σ)) rfl ?_
      obtain rfl := Option.some.inj h
      exact zGo.ret rfl rfl
    · replace h := zif_f hb3 h
      refine zC_gt_f rfl hb3 ?_
      refine zGo.sts 2 (cf' := (25, [some (.ref 71), some (.int l1)], [.int 1], σ)) rfl ?_
      obtain rfl := Option.some.inj h
      exact zGo.ret rfl rfl
def Tape_passNumber_c36 (t0 : Int32) (t1 : Int32) (σ : zSt) : Option (Int32 × zSt) := zlet (su σ 71 1 (t1 + t0)) fun σ5 => some (1, σ5)
theorem Tape_passNumber_g36 {d0 : Option Value} {t0 : Int32} {t1 : Int32} {σ : zSt} {r : Int32 × zSt} (h : Tape_passNumber_c36 t0 t1 σ = some r) : zGo zPT zmlc zP_9 (36, [d0], [.int t0, .int t1, .ref 71], σ) (some (.int r.1), r.2) := by
  unfold Tape_passNumber_c36 at h
  refine zGo.sts 2 (cf' := (40, [d0], [], (su σ 71 1 (t1 + t0)))) rfl ?_
  replace h := zlet_of h
  generalize su σ 71 1 (t1 + t0) = σ5 at h ⊢
  refine zGo.sts 1 (cf' := (41, [d0], [.int 1], σ5)) rfl ?_
  obtain rfl := Option.some.inj h
  exact zGo.ret rfl rfl
def Tape_passNumber (σ : zSt) : Option (Int32 × zSt) := (Tape_hasFigure (σ 71 1) σ).bind fun v1 => if ¬ v1 = 0 then ((Tape_hasFigure ((σ 71 1) + 1) σ).bind fun v2 => if v2 = 0 then (Tape_passNumber_c36 1 (σ 71 1) σ) else (Tape_passNumber_c36 2 (σ 71 1) σ)) else (some (0, σ))
theorem Tape_passNumber_g {σ : zSt} {r : Int32 × zSt} (h : Tape_passNumber σ = some r) : zGo zPT zmlc (zPT 9) (0, zent (zmlc 9) [.ref 71], [], σ) (some (.int r.1), r.2) := by
  unfold Tape_passNumber at h
  show zGo zPT zmlc zP_9 (0, [some (.ref 71)], [], σ) _
  refine zGo.sts 3 (cf' := (5, [some (.ref 71)], [.int (σ 71 1), .ref 71], σ)) rfl ?_
  obtain ⟨v1, hv, h⟩ := zbd h
  refine zGo.call rfl rfl (Tape_hasFigure_g hv) ?_
  by_cases hb4 : ¬ v1 = 0
  · replace h := zif_t hb4 h
    refine zI_ne_t rfl hb4 ?_
    refine zGo.sts 8 (cf' := (25, [some (.ref 71)], [.int ((σ 71 1) + 1), .ref 71, .int (σ 71 1), .ref 71], σ)) rfl ?_
    obtain ⟨v2, hv, h⟩ := zbd h
    refine zGo.call rfl rfl (Tape_hasFigure_g hv) ?_
    by_cases hb3 : v2 = 0
    · replace h := zif_t hb3 h
      refine zI_eq_t rfl hb3 ?_
      refine zGo.sts 1 (cf' := (36, [some (.ref 71)], [.int 1, .int (σ 71 1), .ref 71], σ)) rfl ?_
      exact Tape_passNumber_g36 h
    · replace h := zif_f hb3 h
      refine zI_eq_f rfl hb3 ?_
      refine zGo.sts 2 (cf' := (36, [some (.ref 71)], [.int 2, .int (σ 71 1), .ref 71], σ)) rfl ?_
      exact Tape_passNumber_g36 h
  · replace h := zif_f hb4 h
    refine zI_ne_f rfl hb4 ?_
    refine zGo.sts 1 (cf' := (12, [some (.ref 71)], [.int 0], σ)) rfl ?_
    obtain rfl := Option.some.inj h
    exact zGo.ret rfl rfl
def Tape_passAct (σ : zSt) : Option (Int32 × zSt) := (Tape_byteAt (σ 71 1) σ).bind fun v1 => (Tape_numbersOf v1 σ).bind fun v2 => if ¬ v2 = 0 then (zlet (su σ 71 1 ((σ 71 1) + 1)) fun σ3 => zb2 (Tape_passNumber σ3) fun v4 σ5 => if ¬ v4 = 0 then (if ¬ v2 = 1 then ((Tape_byteAt (σ5 71 1) σ5).bind fun v6 => if v6 = 44 then (zlet (su σ5 71 1 ((σ5 71 1) + 1)) fun σ7 => zb2 (Tape_passNumber σ7) fun v8 σ9 => bif zbo v8 then some (v8, σ9) else none) else (some (0, σ5))) else (some (1, σ5))) else (some (0, σ5))) else (some (0, σ))
theorem Tape_passAct_g {σ : zSt} {r : Int32 × zSt} (h : Tape_passAct σ = some r) : zGo zPT zmlc (zPT 8) (0, zent (zmlc 8) [.ref 71], [], σ) (some (.int r.1), r.2) := by
  unfold Tape_passAct at h
  show zGo zPT zmlc zP_8 (0, [some (.ref 71), none], [], σ) _
  refine zGo.sts 3 (cf' := (5, [some (.ref 71), none], [.int (σ 71 1), .ref 71], σ)) rfl ?_
  obtain ⟨v1, hv, h⟩ := zbd h
  refine zGo.call rfl rfl (Tape_byteAt_g hv) ?_
  obtain ⟨v2, hv, h⟩ := zbd h
  refine zGo.call rfl rfl (Tape_numbersOf_g hv) ?_
  refine zGo.sts 2 (cf' := (13, [some (.ref 71), some (.int v2)], [.int v2], σ)) rfl ?_
  by_cases hb13 : ¬ v2 = 0
  · replace h := zif_t hb13 h
    refine zI_ne_t rfl hb13 ?_
    refine zGo.sts 6 (cf' := (28, [some (.ref 71), some (.int v2)], [], (su σ 71 1 ((σ 71 1) + 1)))) rfl ?_
    replace h := zlet_of h
    generalize su σ 71 1 ((σ 71 1) + 1) = σ3 at h ⊢
    refine zGo.sts 1 (cf' := (29, [some (.ref 71), some (.int v2)], [.ref 71], σ3)) rfl ?_
    obtain ⟨v4, σ5, hv, h⟩ := zbd2 h
    refine zGo.call rfl rfl (Tape_passNumber_g hv) ?_
    by_cases hb12 : ¬ v4 = 0
    · replace h := zif_t hb12 h
      refine zI_ne_t rfl hb12 ?_
      refine zGo.sts 2 (cf' := (39, [some (.ref 71), some (.int v2)], [.int 1, .int v2], σ5)) rfl ?_
      by_cases hb11 : ¬ v2 = 1
      · replace h := zif_t hb11 h
        refine zC_ne_t rfl hb11 ?_
        refine zGo.sts 3 (cf' := (49, [some (.ref 71), some (.int v2)], [.int (σ5 71 1), .ref 71], σ5)) rfl ?_
        obtain ⟨v6, hv, h⟩ := zbd h
        refine zGo.call rfl rfl (Tape_byteAt_g hv) ?_
        refine zGo.sts 1 (cf' := (54, [some (.ref 71), some (.int v2)], [.int 44, .int v6], σ5)) rfl ?_
        by_cases hb10 : v6 = 44
        · replace h := zif_t hb10 h
          refine zC_eq_t rfl hb10 ?_
          refine zGo.sts 6 (cf' := (69, [some (.ref 71), some (.int v2)], [], (su σ5 71 1 ((σ5 71 1) + 1)))) rfl ?_
          replace h := zlet_of h
          generalize su σ5 71 1 ((σ5 71 1) + 1) = σ7 at h ⊢
          refine zGo.sts 1 (cf' := (70, [some (.ref 71), some (.int v2)], [.ref 71], σ7)) rfl ?_
          obtain ⟨v8, σ9, hv, h⟩ := zbd2 h
          refine zGo.call rfl rfl (Tape_passNumber_g hv) ?_
          obtain ⟨hc, h⟩ := zbif h
          obtain rfl := Option.some.inj h
          exact zGo.ret rfl (zrt_b hc)
        · replace h := zif_f hb10 h
          refine zC_eq_f rfl hb10 ?_
          refine zGo.sts 1 (cf' := (58, [some (.ref 71), some (.int v2)], [.int 0], σ5)) rfl ?_
          obtain rfl := Option.some.inj h
          exact zGo.ret rfl rfl
      · replace h := zif_f hb11 h
        refine zC_ne_f rfl hb11 ?_
        refine zGo.sts 1 (cf' := (43, [some (.ref 71), some (.int v2)], [.int 1], σ5)) rfl ?_
        obtain rfl := Option.some.inj h
        exact zGo.ret rfl rfl
    · replace h := zif_f hb12 h
      refine zI_ne_f rfl hb12 ?_
      refine zGo.sts 1 (cf' := (36, [some (.ref 71), some (.int v2)], [.int 0], σ5)) rfl ?_
      obtain rfl := Option.some.inj h
      exact zGo.ret rfl rfl
  · replace h := zif_f hb13 h
    refine zI_ne_f rfl hb13 ?_
    refine zGo.sts 1 (cf' := (17, [some (.ref 71), some (.int v2)], [.int 0], σ)) rfl ?_
    obtain rfl := Option.some.inj h
    exact zGo.ret rfl rfl
def Tape_findFault_c12 : Nat → Int32 → zSt → Option (Int32 × zSt)
  | 0, _, _ => none
  | n + 1, l1, σ => if 80 < l1 then (some (σ 71 1, σ)) else (zb2 (Tape_passAct σ) fun v3 σ4 => if ¬ v3 = 0 then (zlet (su σ4 71 2 ((σ4 71 2) + 1)) fun σ5 => if (σ5 71 1) < (σ5 71 0) then ((Tape_byteAt (σ5 71 1) σ5).bind fun v6 => if v6 = 59 then (zlet (su σ5 71 1 ((σ5 71 1) + 1)) fun σ7 => Tape_findFault_c12 n (l1 + 1) σ7) else (some (σ5 71 1, σ5))) else (some ((-1), σ5))) else (some (σ4 71 1, σ4)))
theorem Tape_findFault_g12 : ∀ (n : Nat) {l1 : Int32} {σ : zSt} {r : Int32 × zSt}, Tape_findFault_c12 n l1 σ = some r → zGo zPT zmlc zP_7 (12, [some (.ref 71), some (.int l1)], [], σ) (some (.int r.1), r.2) := by
  intro n
  induction n with
  | zero => intro l1 σ r h; cases h
  | succ n ih =>
    intro l1 σ r h
    rw [Tape_findFault_c12] at h
    refine zGo.sts 2 (cf' := (15, [some (.ref 71), some (.int l1)], [.int 80, .int l1], σ)) rfl ?_
    by_cases hb11 : 80 < l1
    · replace h := zif_t hb11 h
      refine zC_gt_t rfl hb11 ?_
      refine zGo.sts 2 (cf' := (91, [some (.ref 71), some (.int l1)], [.int (σ 71 1)], σ)) rfl ?_
      obtain rfl := Option.some.inj h
      exact zGo.ret rfl rfl
    · replace h := zif_f hb11 h
      refine zC_gt_f rfl hb11 ?_
      refine zGo.sts 1 (cf' := (19, [some (.ref 71), some (.int l1)], [.ref 71], σ)) rfl ?_
      obtain ⟨v3, σ4, hv, h⟩ := zbd2 h
      refine zGo.call rfl rfl (Tape_passAct_g hv) ?_
      by_cases hb10 : ¬ v3 = 0
      · replace h := zif_t hb10 h
        refine zI_ne_t rfl hb10 ?_
        refine zGo.sts 6 (cf' := (40, [some (.ref 71), some (.int l1)], [], (su σ4 71 2 ((σ4 71 2) + 1)))) rfl ?_
        replace h := zlet_of h
        generalize su σ4 71 2 ((σ4 71 2) + 1) = σ5 at h ⊢
        refine zGo.sts 4 (cf' := (48, [some (.ref 71), some (.int l1)], [.int (σ5 71 0), .int (σ5 71 1)], σ5)) rfl ?_
        by_cases hb9 : (σ5 71 1) < (σ5 71 0)
        · replace h := zif_t hb9 h
          refine zC_lt_t rfl hb9 ?_
          refine zGo.sts 3 (cf' := (58, [some (.ref 71), some (.int l1)], [.int (σ5 71 1), .ref 71], σ5)) rfl ?_
          obtain ⟨v6, hv, h⟩ := zbd h
          refine zGo.call rfl rfl (Tape_byteAt_g hv) ?_
          refine zGo.sts 1 (cf' := (63, [some (.ref 71), some (.int l1)], [.int 59, .int v6], σ5)) rfl ?_
          by_cases hb8 : v6 = 59
          · replace h := zif_t hb8 h
            refine zC_eq_t rfl hb8 ?_
            refine zGo.sts 6 (cf' := (81, [some (.ref 71), some (.int l1)], [], (su σ5 71 1 ((σ5 71 1) + 1)))) rfl ?_
            replace h := zlet_of h
            generalize su σ5 71 1 ((σ5 71 1) + 1) = σ7 at h ⊢
            refine zGo.sts 2 (cf' := (12, [some (.ref 71), some (.int (l1 + 1))], [], σ7)) rfl ?_
            exact ih h
          · replace h := zif_f hb8 h
            refine zC_eq_f rfl hb8 ?_
            refine zGo.sts 2 (cf' := (70, [some (.ref 71), some (.int l1)], [.int (σ5 71 1)], σ5)) rfl ?_
            obtain rfl := Option.some.inj h
            exact zGo.ret rfl rfl
        · replace h := zif_f hb9 h
          refine zC_lt_f rfl hb9 ?_
          refine zGo.sts 1 (cf' := (52, [some (.ref 71), some (.int l1)], [.int (-1)], σ5)) rfl ?_
          obtain rfl := Option.some.inj h
          exact zGo.ret rfl rfl
      · replace h := zif_f hb10 h
        refine zI_ne_f rfl hb10 ?_
        refine zGo.sts 2 (cf' := (29, [some (.ref 71), some (.int l1)], [.int (σ4 71 1)], σ4)) rfl ?_
        obtain rfl := Option.some.inj h
        exact zGo.ret rfl rfl
def Tape_findFault (σ : zSt) : Option (Int32 × zSt) := zlet (su σ 71 1 0) fun σ1 => zlet (su σ1 71 2 0) fun σ2 => Tape_findFault_c12 zF 0 σ2
theorem Tape_findFault_g {σ : zSt} {r : Int32 × zSt} (h : Tape_findFault σ = some r) : zGo zPT zmlc (zPT 7) (0, zent (zmlc 7) [.ref 71], [], σ) (some (.int r.1), r.2) := by
  unfold Tape_findFault at h
  show zGo zPT zmlc zP_7 (0, [some (.ref 71), none], [], σ) _
  refine zGo.sts 3 (cf' := (5, [some (.ref 71), none], [], (su σ 71 1 0))) rfl ?_
  replace h := zlet_of h
  generalize su σ 71 1 0 = σ1 at h ⊢
  refine zGo.sts 3 (cf' := (10, [some (.ref 71), none], [], (su σ1 71 2 0))) rfl ?_
  replace h := zlet_of h
  generalize su σ1 71 2 0 = σ2 at h ⊢
  refine zGo.sts 2 (cf' := (12, [some (.ref 71), some (.int 0)], [], σ2)) rfl ?_
  exact Tape_findFault_g12 zF h
def Tape_nextByte (σ : zSt) : Option (Int32 × zSt) := (Tape_byteAt (σ 71 1) σ).bind fun v1 => zlet (su σ 71 1 ((σ 71 1) + 1)) fun σ2 => some (v1, σ2)
theorem Tape_nextByte_g {σ : zSt} {r : Int32 × zSt} (h : Tape_nextByte σ = some r) : zGo zPT zmlc (zPT 10) (0, zent (zmlc 10) [.ref 71], [], σ) (some (.int r.1), r.2) := by
  unfold Tape_nextByte at h
  show zGo zPT zmlc zP_10 (0, [some (.ref 71), none], [], σ) _
  refine zGo.sts 3 (cf' := (5, [some (.ref 71), none], [.int (σ 71 1), .ref 71], σ)) rfl ?_
  obtain ⟨v1, hv, h⟩ := zbd h
  refine zGo.call rfl rfl (Tape_byteAt_g hv) ?_
  refine zGo.sts 7 (cf' := (19, [some (.ref 71), some (.int v1)], [], (su σ 71 1 ((σ 71 1) + 1)))) rfl ?_
  replace h := zlet_of h
  generalize su σ 71 1 ((σ 71 1) + 1) = σ2 at h ⊢
  refine zGo.sts 1 (cf' := (20, [some (.ref 71), some (.int v1)], [.int v1], σ2)) rfl ?_
  obtain rfl := Option.some.inj h
  exact zGo.ret rfl rfl
def Tape_nextNumber_c39 (l1 : Int32) (σ : zSt) : Option (Int32 × zSt) := zlet (su σ 71 1 ((σ 71 1) + 1)) fun σ6 => some (l1, σ6)
theorem Tape_nextNumber_g39 {d2 : Option Value} {l1 : Int32} {σ : zSt} {r : Int32 × zSt} (h : Tape_nextNumber_c39 l1 σ = some r) : zGo zPT zmlc zP_11 (39, [some (.ref 71), some (.int l1), d2], [], σ) (some (.int r.1), r.2) := by
  unfold Tape_nextNumber_c39 at h
  refine zGo.sts 6 (cf' := (49, [some (.ref 71), some (.int l1), d2], [], (su σ 71 1 ((σ 71 1) + 1)))) rfl ?_
  replace h := zlet_of h
  generalize su σ 71 1 ((σ 71 1) + 1) = σ6 at h ⊢
  refine zGo.sts 1 (cf' := (50, [some (.ref 71), some (.int l1), d2], [.int l1], σ6)) rfl ?_
  obtain rfl := Option.some.inj h
  exact zGo.ret rfl rfl
def Tape_nextNumber_c4 : Nat → Int32 → Int32 → zSt → Option (Int32 × zSt)
  | 0, _, _, _ => none
  | n + 1, l1, l2, σ => if 2 ≤ l2 then (Tape_nextNumber_c39 l1 σ) else ((Tape_hasFigure (σ 71 1) σ).bind fun v1 => if v1 = 0 then (Tape_nextNumber_c39 l1 σ) else (zb2 (Tape_nextByte σ) fun v2 σ3 => Tape_nextNumber_c4 n (((10 * l1) + v2) - 48) (l2 + 1) σ3))
theorem Tape_nextNumber_g4 : ∀ (n : Nat) {l1 : Int32} {l2 : Int32} {σ : zSt} {r : Int32 × zSt}, Tape_nextNumber_c4 n l1 l2 σ = some r → zGo zPT zmlc zP_11 (4, [some (.ref 71), some (.int l1), some (.int l2)], [], σ) (some (.int r.1), r.2) := by
  intro n
  induction n with
  | zero => intro l1 l2 σ r h; cases h
  | succ n ih =>
    intro l1 l2 σ r h
    rw [Tape_nextNumber_c4] at h
    refine zGo.sts 2 (cf' := (6, [some (.ref 71), some (.int l1), some (.int l2)], [.int 2, .int l2], σ)) rfl ?_
    by_cases hb5 : 2 ≤ l2
    · replace h := zif_t hb5 h
      refine zC_ge_t rfl hb5 ?_
      exact Tape_nextNumber_g39 h
    · replace h := zif_f hb5 h
      refine zC_ge_f rfl hb5 ?_
      refine zGo.sts 3 (cf' := (14, [some (.ref 71), some (.int l1), some (.int l2)], [.int (σ 71 1), .ref 71], σ)) rfl ?_
      obtain ⟨v1, hv, h⟩ := zbd h
      refine zGo.call rfl rfl (Tape_hasFigure_g hv) ?_
      by_cases hb4 : v1 = 0
      · replace h := zif_t hb4 h
        refine zI_eq_t rfl hb4 ?_
        exact Tape_nextNumber_g39 h
      · replace h := zif_f hb4 h
        refine zI_eq_f rfl hb4 ?_
        refine zGo.sts 4 (cf' := (25, [some (.ref 71), some (.int l1), some (.int l2)], [.ref 71, .int (10 * l1)], σ)) rfl ?_
        obtain ⟨v2, σ3, hv, h⟩ := zbd2 h
        refine zGo.call rfl rfl (Tape_nextByte_g hv) ?_
        refine zGo.sts 6 (cf' := (4, [some (.ref 71), some (.int (((10 * l1) + v2) - 48)), some (.int (l2 + 1))], [], σ3)) rfl ?_
        exact ih h
def Tape_nextNumber (σ : zSt) : Option (Int32 × zSt) := Tape_nextNumber_c4 zF 0 0 σ
theorem Tape_nextNumber_g {σ : zSt} {r : Int32 × zSt} (h : Tape_nextNumber σ = some r) : zGo zPT zmlc (zPT 11) (0, zent (zmlc 11) [.ref 71], [], σ) (some (.int r.1), r.2) := by
  unfold Tape_nextNumber at h
  show zGo zPT zmlc zP_11 (0, [some (.ref 71), none, none], [], σ) _
  refine zGo.sts 4 (cf' := (4, [some (.ref 71), some (.int 0), some (.int 0)], [], σ)) rfl ?_
  exact Tape_nextNumber_g4 zF h
def X_tellPath_c34 : Nat → Int32 → Int32 → Int32 → Int32 → zSt → Option (Int32 × zSt)
  | 0, _, _, _, _, _ => none
  | n + 1, l1, l2, l3, l4, σ => if l2 ≤ l4 then (if ¬ l3 = 2 then (some (1, σ)) else (zb2 (X_tellLine l2 l1 1 σ) fun v6 σ7 => some (1, σ7))) else (zb2 (X_tellLine l4 (l4 + 1) 1 σ) fun v9 σ10 => X_tellPath_c34 n l1 l2 l3 (l4 + 1) σ10)
theorem X_tellPath_g34 : ∀ (n : Nat) {l1 : Int32} {l2 : Int32} {l3 : Int32} {l4 : Int32} {σ : zSt} {r : Int32 × zSt}, X_tellPath_c34 n l1 l2 l3 l4 σ = some r → zGo zPT zmlc zP_146 (34, [some (.ref 0), some (.int l1), some (.int l2), some (.int l3), some (.int l4)], [], σ) (some (.int r.1), r.2) := by
  intro n
  induction n with
  | zero => intro l1 l2 l3 l4 σ r h; cases h
  | succ n ih =>
    intro l1 l2 l3 l4 σ r h
    rw [X_tellPath_c34] at h
    refine zGo.sts 2 (cf' := (37, [some (.ref 0), some (.int l1), some (.int l2), some (.int l3), some (.int l4)], [.int l2, .int l4], σ)) rfl ?_
    by_cases hb11 : l2 ≤ l4
    · replace h := zif_t hb11 h
      refine zC_ge_t rfl hb11 ?_
      refine zGo.sts 2 (cf' := (60, [some (.ref 0), some (.int l1), some (.int l2), some (.int l3), some (.int l4)], [.int 2, .int l3], σ)) rfl ?_
      by_cases hb8 : ¬ l3 = 2
      · replace h := zif_t hb8 h
        refine zC_ne_t rfl hb8 ?_
        refine zGo.sts 1 (cf' := (72, [some (.ref 0), some (.int l1), some (.int l2), some (.int l3), some (.int l4)], [.int 1], σ)) rfl ?_
        obtain rfl := Option.some.inj h
        exact zGo.ret rfl rfl
      · replace h := zif_f hb8 h
        refine zC_ne_f rfl hb8 ?_
        refine zGo.sts 4 (cf' := (67, [some (.ref 0), some (.int l1), some (.int l2), some (.int l3), some (.int l4)], [.int 1, .int l1, .int l2, .ref 0], σ)) rfl ?_
        obtain ⟨v6, σ7, hv, h⟩ := zbd2 h
        refine zGo.call rfl rfl (X_tellLine_g hv) ?_
        refine zGo.sts 2 (cf' := (72, [some (.ref 0), some (.int l1), some (.int l2), some (.int l3), some (.int l4)], [.int 1], σ7)) rfl ?_
        obtain rfl := Option.some.inj h
        exact zGo.ret rfl rfl
    · replace h := zif_f hb11 h
      refine zC_ge_f rfl hb11 ?_
      refine zGo.sts 6 (cf' := (48, [some (.ref 0), some (.int l1), some (.int l2), some (.int l3), some (.int l4)], [.int 1, .int (l4 + 1), .int l4, .ref 0], σ)) rfl ?_
      obtain ⟨v9, σ10, hv, h⟩ := zbd2 h
      refine zGo.call rfl rfl (X_tellLine_g hv) ?_
      refine zGo.sts 3 (cf' := (34, [some (.ref 0), some (.int l1), some (.int l2), some (.int l3), some (.int (l4 + 1))], [], σ10)) rfl ?_
      exact ih h
def X_tellPath (l1 : Int32) (l2 : Int32) (l3 : Int32) (σ : zSt) : Option (Int32 × zSt) := (Net_hasPoint l1 σ).bind fun v1 => if v1 = 0 then (some ((-1), σ)) else ((Net_hasPoint l2 σ).bind fun v2 => if v2 = 0 then (some ((-1), σ)) else (if (l1 + l3) ≤ l2 then (X_tellPath_c34 zF l1 l2 l3 l1 σ) else (some ((-1), σ))))
theorem X_tellPath_g {l1 : Int32} {l2 : Int32} {l3 : Int32} {σ : zSt} {r : Int32 × zSt} (h : X_tellPath l1 l2 l3 σ = some r) : zGo zPT zmlc (zPT 146) (0, zent (zmlc 146) [.ref 0, .int l1, .int l2, .int l3], [], σ) (some (.int r.1), r.2) := by
  unfold X_tellPath at h
  show zGo zPT zmlc zP_146 (0, [some (.ref 0), some (.int l1), some (.int l2), some (.int l3), none], [], σ) _
  refine zGo.sts 3 (cf' := (5, [some (.ref 0), some (.int l1), some (.int l2), some (.int l3), none], [.int l1, .ref 1], σ)) rfl ?_
  obtain ⟨v1, hv, h⟩ := zbd h
  refine zGo.call rfl rfl (Net_hasPoint_g hv) ?_
  by_cases hb5 : v1 = 0
  · replace h := zif_t hb5 h
    refine zI_eq_t rfl hb5 ?_
    refine zGo.sts 1 (cf' := (30, [some (.ref 0), some (.int l1), some (.int l2), some (.int l3), none], [.int (-1)], σ)) rfl ?_
    obtain rfl := Option.some.inj h
    exact zGo.ret rfl rfl
  · replace h := zif_f hb5 h
    refine zI_eq_f rfl hb5 ?_
    refine zGo.sts 3 (cf' := (16, [some (.ref 0), some (.int l1), some (.int l2), some (.int l3), none], [.int l2, .ref 1], σ)) rfl ?_
    obtain ⟨v2, hv, h⟩ := zbd h
    refine zGo.call rfl rfl (Net_hasPoint_g hv) ?_
    by_cases hb4 : v2 = 0
    · replace h := zif_t hb4 h
      refine zI_eq_t rfl hb4 ?_
      refine zGo.sts 1 (cf' := (30, [some (.ref 0), some (.int l1), some (.int l2), some (.int l3), none], [.int (-1)], σ)) rfl ?_
      obtain rfl := Option.some.inj h
      exact zGo.ret rfl rfl
    · replace h := zif_f hb4 h
      refine zI_eq_f rfl hb4 ?_
      refine zGo.sts 4 (cf' := (26, [some (.ref 0), some (.int l1), some (.int l2), some (.int l3), none], [.int (l1 + l3), .int l2], σ)) rfl ?_
      by_cases hb3 : (l1 + l3) ≤ l2
      · replace h := zif_t hb3 h
        refine zC_ge_t rfl hb3 ?_
        refine zGo.sts 2 (cf' := (34, [some (.ref 0), some (.int l1), some (.int l2), some (.int l3), some (.int l1)], [], σ)) rfl ?_
        exact X_tellPath_g34 zF h
      · replace h := zif_f hb3 h
        refine zC_ge_f rfl hb3 ?_
        refine zGo.sts 1 (cf' := (30, [some (.ref 0), some (.int l1), some (.int l2), some (.int l3), none], [.int (-1)], σ)) rfl ?_
        obtain rfl := Option.some.inj h
        exact zGo.ret rfl rfl
def X_doAct_c35 (l1 : Int32) (l2 : Int32) (t0 : Int32) (σ : zSt) : Option (Int32 × zSt) := if l1 = 67 then (zb2 (X_tellPath l2 t0 2 σ) fun v10 σ11 => some (v10, σ11)) else (if l1 = 80 then (zb2 (X_tellPath l2 t0 1 σ) fun v13 σ14 => some (v13, σ14)) else (if l1 = 99 then (zb2 (X_cost l2 t0 σ) fun v16 σ17 => some (v16, σ17)) else (if l1 = 107 then (zb2 (X_kind l2 t0 σ) fun v19 σ20 => some (v19, σ20)) else (if l1 = 108 then (zb2 (X_line l2 t0 1 σ) fun v22 σ23 => some (v22, σ23)) else (if l1 = 110 then (zb2 (X_points l2 σ) fun v25 σ26 => some (v25, σ26)) else (if l1 = 114 then (zb2 (X_rule l2 t0 σ) fun v28 σ29 => some (v28, σ29)) else (if l1 = 117 then (zb2 (X_line l2 t0 0 σ) fun v31 σ32 => some (v31, σ32)) else (zb2 (X_prime l2 σ) fun v33 σ34 => some (v33, σ34)))))))))
theorem X_doAct_g35 {d3 : Option Value} {l1 : Int32} {l2 : Int32} {t0 : Int32} {σ : zSt} {r : Int32 × zSt} (h : X_doAct_c35 l1 l2 t0 σ = some r) : zGo zPT zmlc zP_145 (35, [some (.ref 0), some (.int l1), some (.int l2), d3], [.int t0], σ) (some (.int r.1), r.2) := by
  unfold X_doAct_c35 at h
  refine zGo.sts 2 (cf' := (37, [some (.ref 0), some (.int l1), some (.int l2), some (.int t0)], [.int l1], σ)) rfl ?_
  by_cases hb9 : l1 = 67
  · replace h := zif_t hb9 h
    refine zG_sw rfl (zsw_t hb9) ?_
    refine zGo.sts 4 (cf' := (146, [some (.ref 0), some (.int l1), some (.int l2), some (.int t0)], [.int 2, .int t0, .int l2, .ref 0], σ)) rfl ?_
    obtain ⟨v10, σ11, hv, h⟩ := zbd2 h
    refine zGo.call rfl rfl (X_tellPath_g hv) ?_
    obtain rfl := Option.some.inj h
    exact zGo.ret rfl rfl
  · replace h := zif_f hb9 h
    by_cases hb12 : l1 = 80
    · replace h := zif_t hb12 h
      refine zG_sw rfl ((zsw_f hb9).trans (zsw_t hb12)) ?_
      refine zGo.sts 4 (cf' := (138, [some (.ref 0), some (.int l1), some (.int l2), some (.int t0)], [.int 1, .int t0, .int l2, .ref 0], σ)) rfl ?_
      obtain ⟨v13, σ14, hv, h⟩ := zbd2 h
      refine zGo.call rfl rfl (X_tellPath_g hv) ?_
      obtain rfl := Option.some.inj h
      exact zGo.ret rfl rfl
    · replace h := zif_f hb12 h
      by_cases hb15 : l1 = 99
      · replace h := zif_t hb15 h
        refine zG_sw rfl ((zsw_f hb9).trans ((zsw_f hb12).trans (zsw_t hb15))) ?_
        refine zGo.sts 3 (cf' := (160, [some (.ref 0), some (.int l1), some (.int l2), some (.int t0)], [.int t0, .int l2, .ref 0], σ)) rfl ?_
        obtain ⟨v16, σ17, hv, h⟩ := zbd2 h
        refine zGo.call rfl rfl (X_cost_g hv) ?_
        obtain rfl := Option.some.inj h
        exact zGo.ret rfl rfl
      · replace h := zif_f hb15 h
        by_cases hb18 : l1 = 107
        · replace h := zif_t hb18 h
          refine zG_sw rfl ((zsw_f hb9).trans ((zsw_f hb12).trans ((zsw_f hb15).trans (zsw_t hb18)))) ?_
          refine zGo.sts 3 (cf' := (153, [some (.ref 0), some (.int l1), some (.int l2), some (.int t0)], [.int t0, .int l2, .ref 0], σ)) rfl ?_
          obtain ⟨v19, σ20, hv, h⟩ := zbd2 h
          refine zGo.call rfl rfl (X_kind_g hv) ?_
          obtain rfl := Option.some.inj h
          exact zGo.ret rfl rfl
        · replace h := zif_f hb18 h
          by_cases hb21 : l1 = 108
          · replace h := zif_t hb21 h
            refine zG_sw rfl ((zsw_f hb9).trans ((zsw_f hb12).trans ((zsw_f hb15).trans ((zsw_f hb18).trans (zsw_t hb21))))) ?_
            refine zGo.sts 4 (cf' := (122, [some (.ref 0), some (.int l1), some (.int l2), some (.int t0)], [.int 1, .int t0, .int l2, .ref 0], σ)) rfl ?_
            obtain ⟨v22, σ23, hv, h⟩ := zbd2 h
            refine zGo.call rfl rfl (X_line_g hv) ?_
            obtain rfl := Option.some.inj h
            exact zGo.ret rfl rfl
          · replace h := zif_f hb21 h
            by_cases hb24 : l1 = 110
            · replace h := zif_t hb24 h
              refine zG_sw rfl ((zsw_f hb9).trans ((zsw_f hb12).trans ((zsw_f hb15).trans ((zsw_f hb18).trans ((zsw_f hb21).trans (zsw_t hb24)))))) ?_
              refine zGo.sts 2 (cf' := (114, [some (.ref 0), some (.int l1), some (.int l2), some (.int t0)], [.int l2, .ref 0], σ)) rfl ?_
              obtain ⟨v25, σ26, hv, h⟩ := zbd2 h
              refine zGo.call rfl rfl (X_points_g hv) ?_
              obtain rfl := Option.some.inj h
              exact zGo.ret rfl rfl
            · replace h := zif_f hb24 h
              by_cases hb27 : l1 = 114
              · replace h := zif_t hb27 h
                refine zG_sw rfl ((zsw_f hb9).trans ((zsw_f hb12).trans ((zsw_f hb15).trans ((zsw_f hb18).trans ((zsw_f hb21).trans ((zsw_f hb24).trans (zsw_t hb27))))))) ?_
                refine zGo.sts 3 (cf' := (167, [some (.ref 0), some (.int l1), some (.int l2), some (.int t0)], [.int t0, .int l2, .ref 0], σ)) rfl ?_
                obtain ⟨v28, σ29, hv, h⟩ := zbd2 h
                refine zGo.call rfl rfl (X_rule_g hv) ?_
                obtain rfl := Option.some.inj h
                exact zGo.ret rfl rfl
              · replace h := zif_f hb27 h
                by_cases hb30 : l1 = 117
                · replace h := zif_t hb30 h
                  refine zG_sw rfl ((zsw_f hb9).trans ((zsw_f hb12).trans ((zsw_f hb15).trans ((zsw_f hb18).trans ((zsw_f hb21).trans ((zsw_f hb24).trans ((zsw_f hb27).trans (zsw_t hb30)))))))) ?_
                  refine zGo.sts 4 (cf' := (130, [some (.ref 0), some (.int l1), some (.int l2), some (.int t0)], [.int 0, .int t0, .int l2, .ref 0], σ)) rfl ?_
                  obtain ⟨v31, σ32, hv, h⟩ := zbd2 h
                  refine zGo.call rfl rfl (X_line_g hv) ?_
                  obtain rfl := Option.some.inj h
                  exact zGo.ret rfl rfl
                · replace h := zif_f hb30 h
                  refine zG_sw rfl ((zsw_f hb9).trans ((zsw_f hb12).trans ((zsw_f hb15).trans ((zsw_f hb18).trans ((zsw_f hb21).trans ((zsw_f hb24).trans ((zsw_f hb27).trans ((zsw_f hb30).trans rfl)))))))) ?_
                  refine zGo.sts 2 (cf' := (173, [some (.ref 0), some (.int l1), some (.int l2), some (.int t0)], [.int l2, .ref 0], σ)) rfl ?_
                  obtain ⟨v33, σ34, hv, h⟩ := zbd2 h
                  refine zGo.call rfl rfl (X_prime_g hv) ?_
                  obtain rfl := Option.some.inj h
                  exact zGo.ret rfl rfl
def X_doAct (σ : zSt) : Option (Int32 × zSt) := zb2 (Tape_nextByte σ) fun v1 σ2 => zb2 (Tape_nextNumber σ2) fun v3 σ4 => (Tape_numbersOf v1 σ4).bind fun v5 => if ¬ v5 = 2 then (X_doAct_c35 v1 v3 0 σ4) else (zb2 (Tape_nextNumber σ4) fun v6 σ7 => X_doAct_c35 v1 v3 v6 σ7)
theorem X_doAct_g {σ : zSt} {r : Int32 × zSt} (h : X_doAct σ = some r) : zGo zPT zmlc (zPT 145) (0, zent (zmlc 145) [.ref 0], [], σ) (some (.int r.1), r.2) := by
  unfold X_doAct at h
  show zGo zPT zmlc zP_145 (0, [some (.ref 0), none, none, none], [], σ) _
  refine zGo.sts 2 (cf' := (4, [some (.ref 0), none, none, none], [.ref 71], σ)) rfl ?_
  obtain ⟨v1, σ2, hv, h⟩ := zbd2 h
  refine zGo.call rfl rfl (Tape_nextByte_g hv) ?_
  refine zGo.sts 3 (cf' := (12, [some (.ref 0), some (.int v1), none, none], [.ref 71], σ2)) rfl ?_
  obtain ⟨v3, σ4, hv, h⟩ := zbd2 h
  refine zGo.call rfl rfl (Tape_nextNumber_g hv) ?_
  refine zGo.sts 2 (cf' := (17, [some (.ref 0), some (.int v1), some (.int v3), none], [.int v1], σ4)) rfl ?_
  obtain ⟨v5, hv, h⟩ := zbd h
  refine zGo.call rfl rfl (Tape_numbersOf_g hv) ?_
  refine zGo.sts 1 (cf' := (21, [some (.ref 0), some (.int v1), some (.int v3), none], [.int 2, .int v5], σ4)) rfl ?_
  by_cases hb8 : ¬ v5 = 2
  · replace h := zif_t hb8 h
    refine zC_ne_t rfl hb8 ?_
    refine zGo.sts 1 (cf' := (35, [some (.ref 0), some (.int v1), some (.int v3), none], [.int 0], σ4)) rfl ?_
    exact X_doAct_g35 h
  · replace h := zif_f hb8 h
    refine zC_ne_f rfl hb8 ?_
    refine zGo.sts 2 (cf' := (28, [some (.ref 0), some (.int v1), some (.int v3), none], [.ref 71], σ4)) rfl ?_
    obtain ⟨v6, σ7, hv, h⟩ := zbd2 h
    refine zGo.call rfl rfl (Tape_nextNumber_g hv) ?_
    refine zGo.sts 1 (cf' := (35, [some (.ref 0), some (.int v1), some (.int v3), none], [.int v6], σ7)) rfl ?_
    exact X_doAct_g35 h
def X_read_c74 (l2 : Int32) (σ : zSt) : Option (Int32 × zSt) := zlet (su σ 71 0 0) fun σ10 => some (l2, σ10)
theorem X_read_g74 {d1 : Option Value} {d3 : Option Value} {l2 : Int32} {σ : zSt} {r : Int32 × zSt} (h : X_read_c74 l2 σ = some r) : zGo zPT zmlc zP_125 (74, [some (.ref 0), d1, some (.int l2), d3], [], σ) (some (.int r.1), r.2) := by
  unfold X_read_c74 at h
  refine zGo.sts 4 (cf' := (82, [some (.ref 0), d1, some (.int l2), d3], [], (su σ 71 0 0))) rfl ?_
  replace h := zlet_of h
  generalize su σ 71 0 0 = σ10 at h ⊢
  refine zGo.sts 1 (cf' := (83, [some (.ref 0), d1, some (.int l2), d3], [.int l2], σ10)) rfl ?_
  obtain rfl := Option.some.inj h
  exact zGo.ret rfl rfl
def X_read_c37 : Nat → Int32 → Int32 → Int32 → zSt → Option (Int32 × zSt)
  | 0, _, _, _, _ => none
  | n + 1, l1, l2, l3, σ => if 0 ≤ l1 then (X_read_c74 l2 σ) else (if (σ 71 2) ≤ l3 then (X_read_c74 l2 σ) else (zb2 (X_doAct σ) fun v5 σ6 => if 0 ≤ v5 then (X_read_c37 n l1 l2 (l3 + 1) σ6) else (X_read_c74 ((-200) - l3) σ6)))
theorem X_read_g37 : ∀ (n : Nat) {l1 : Int32} {l2 : Int32} {l3 : Int32} {σ : zSt} {r : Int32 × zSt}, X_read_c37 n l1 l2 l3 σ = some r → zGo zPT zmlc zP_125 (37, [some (.ref 0), some (.int l1), some (.int l2), some (.int l3)], [], σ) (some (.int r.1), r.2) := by
  intro n
  induction n with
  | zero => intro l1 l2 l3 σ r h; cases h
  | succ n ih =>
    intro l1 l2 l3 σ r h
    rw [X_read_c37] at h
    refine zGo.sts 1 (cf' := (38, [some (.ref 0), some (.int l1), some (.int l2), some (.int l3)], [.int l1], σ)) rfl ?_
    by_cases hb9 : 0 ≤ l1
    · replace h := zif_t hb9 h
      refine zI_ge_t rfl hb9 ?_
      exact X_read_g74 h
    · replace h := zif_f hb9 h
      refine zI_ge_f rfl hb9 ?_
      refine zGo.sts 4 (cf' := (49, [some (.ref 0), some (.int l1), some (.int l2), some (.int l3)], [.int (σ 71 2), .int l3], σ)) rfl ?_
      by_cases hb8 : (σ 71 2) ≤ l3
      · replace h := zif_t hb8 h
        refine zC_ge_t rfl hb8 ?_
        exact X_read_g74 h
      · replace h := zif_f hb8 h
        refine zC_ge_f rfl hb8 ?_
        refine zGo.sts 1 (cf' := (53, [some (.ref 0), some (.int l1), some (.int l2), some (.int l3)], [.ref 0], σ)) rfl ?_
        obtain ⟨v5, σ6, hv, h⟩ := zbd2 h
        refine zGo.call rfl rfl (X_doAct_g hv) ?_
        by_cases hb7 : 0 ≤ v5
        · replace h := zif_t hb7 h
          refine zI_ge_t rfl hb7 ?_
          refine zGo.sts 2 (cf' := (37, [some (.ref 0), some (.int l1), some (.int l2), some (.int (l3 + 1))], [], σ6)) rfl ?_
          exact ih h
        · replace h := zif_f hb7 h
          refine zI_ge_f rfl hb7 ?_
          refine zGo.sts 5 (cf' := (74, [some (.ref 0), some (.int l1), some (.int ((-200) - l3)), some (.int l3)], [], σ6)) rfl ?_
          exact X_read_g74 h
def X_read_c26 (l1 : Int32) (t0 : Int32) (σ : zSt) : Option (Int32 × zSt) := zlet (su σ 71 1 0) fun σ4 => X_read_c37 zF l1 t0 0 σ4
theorem X_read_g26 {d2 : Option Value} {d3 : Option Value} {l1 : Int32} {t0 : Int32} {σ : zSt} {r : Int32 × zSt} (h : X_read_c26 l1 t0 σ = some r) : zGo zPT zmlc zP_125 (26, [some (.ref 0), some (.int l1), d2, d3], [.int t0], σ) (some (.int r.1), r.2) := by
  unfold X_read_c26 at h
  refine zGo.sts 5 (cf' := (35, [some (.ref 0), some (.int l1), some (.int t0), d3], [], (su σ 71 1 0))) rfl ?_
  replace h := zlet_of h
  generalize su σ 71 1 0 = σ4 at h ⊢
  refine zGo.sts 2 (cf' := (37, [some (.ref 0), some (.int l1), some (.int t0), some (.int 0)], [], σ4)) rfl ?_
  exact X_read_g37 zF h
def X_read (σ : zSt) : Option (Int32 × zSt) := zb2 (Tape_findFault σ) fun v1 σ2 => if 0 ≤ v1 then (X_read_c26 v1 ((-100) - v1) σ2) else (X_read_c26 v1 (σ2 71 2) σ2)
theorem X_read_g {σ : zSt} {r : Int32 × zSt} (h : X_read σ = some r) : zGo zPT zmlc (zPT 125) (0, zent (zmlc 125) [.ref 0], [], σ) (some (.int r.1), r.2) := by
  unfold X_read at h
  show zGo zPT zmlc zP_125 (0, [some (.ref 0), none, none, none], [], σ) _
  refine zGo.sts 2 (cf' := (4, [some (.ref 0), none, none, none], [.ref 71], σ)) rfl ?_
  obtain ⟨v1, σ2, hv, h⟩ := zbd2 h
  refine zGo.call rfl rfl (Tape_findFault_g hv) ?_
  refine zGo.sts 2 (cf' := (9, [some (.ref 0), some (.int v1), none, none], [.int v1], σ2)) rfl ?_
  by_cases hb3 : 0 ≤ v1
  · replace h := zif_t hb3 h
    refine zI_ge_t rfl hb3 ?_
    refine zGo.sts 3 (cf' := (26, [some (.ref 0), some (.int v1), none, none], [.int ((-100) - v1)], σ2)) rfl ?_
    exact X_read_g26 h
  · replace h := zif_f hb3 h
    refine zI_ge_f rfl hb3 ?_
    refine zGo.sts 4 (cf' := (26, [some (.ref 0), some (.int v1), none, none], [.int (σ2 71 2)], σ2)) rfl ?_
    exact X_read_g26 h
def X_row (l1 : Int32) (l2 : Int32) (σ : zSt) : Option (Int32 × zSt) := (X_rowAt l1 σ).bind fun q1 => zmo q1 (some ((-1), σ)) fun v2 => if l2 ≤ 40 then (if (-1) ≤ l2 then (bif Nat.beq (zkd v2) 8 then zlet (su σ v2 0 l2) fun σ3 => bif Nat.beq (zkd v2) 8 then ((Jdk_fill (ztg v2 1) 0 σ3).bind fun σ4 => some (1, σ4)) else none else none) else (some ((-14), σ))) else (some ((-1), σ))
theorem X_row_g {l1 : Int32} {l2 : Int32} {σ : zSt} {r : Int32 × zSt} (h : X_row l1 l2 σ = some r) : zGo zPT zmlc (zPT 126) (0, zent (zmlc 126) [.ref 0, .int l1, .int l2], [], σ) (some (.int r.1), r.2) := by
  unfold X_row at h
  show zGo zPT zmlc zP_126 (0, [some (.ref 0), some (.int l1), some (.int l2), none], [], σ) _
  refine zGo.sts 2 (cf' := (2, [some (.ref 0), some (.int l1), some (.int l2), none], [.int l1, .ref 0], σ)) rfl ?_
  obtain ⟨q1, hv, h⟩ := zbd h
  cases q1 with
  | none =>
    replace h := zmo_n h
    refine zGo.call rfl rfl (X_rowAt_g hv) ?_
    refine zGo.sts 4 (cf' := (17, [some (.ref 0), some (.int l1), some (.int l2), some (.null)], [.int (-1)], σ)) rfl ?_
    obtain rfl := Option.some.inj h
    exact zGo.ret rfl rfl
  | some v2 =>
    replace h := zmo_s h
    refine zGo.call rfl rfl (X_rowAt_g hv) ?_
    refine zGo.sts 5 (cf' := (13, [some (.ref 0), some (.int l1), some (.int l2), some (.ref v2)], [.int 40, .int l2], σ)) rfl ?_
    by_cases hb6 : l2 ≤ 40
    · replace h := zif_t hb6 h
      refine zC_le_t rfl hb6 ?_
      refine zGo.sts 2 (cf' := (20, [some (.ref 0), some (.int l1), some (.int l2), some (.ref v2)], [.int (-1), .int l2], σ)) rfl ?_
      by_cases hb5 : (-1) ≤ l2
      · replace h := zif_t hb5 h
        refine zC_ge_t rfl hb5 ?_
        refine zGo.sts 2 (cf' := (28, [some (.ref 0), some (.int l1), some (.int l2), some (.ref v2)], [.int l2, .ref v2], σ)) rfl ?_
        obtain ⟨hc, h⟩ := zbif h
        refine zG_pI rfl hc ?_
        replace h := zlet_of h
        generalize su σ v2 0 l2 = σ3 at h ⊢
        refine zGo.sts 1 (cf' := (32, [some (.ref 0), some (.int l1), some (.int l2), some (.ref v2)], [.ref v2], σ3)) rfl ?_
        obtain ⟨hc, h⟩ := zbif h
        refine zG_gR rfl hc ?_
        refine zGo.sts 1 (cf' := (36, [some (.ref 0), some (.int l1), some (.int l2), some (.ref v2)], [.int 0, .ref (ztg v2 1)], σ3)) rfl ?_
        obtain ⟨σ4, hv, h⟩ := zbd h
        refine zGo.call rfl rfl (Jdk_fill_g hv) ?_
        refine zGo.sts 1 (cf' := (40, [some (.ref 0), some (.int l1), some (.int l2), some (.ref v2)], [.int 1], σ4)) rfl ?_
        obtain rfl := Option.some.inj h
        exact zGo.ret rfl rfl
      · replace h := zif_f hb5 h
        refine zC_ge_f rfl hb5 ?_
        refine zGo.sts 1 (cf' := (25, [some (.ref 0), some (.int l1), some (.int l2), some (.ref v2)], [.int (-14)], σ)) rfl ?_
        obtain rfl := Option.some.inj h
        exact zGo.ret rfl rfl
    · replace h := zif_f hb6 h
      refine zC_le_f rfl hb6 ?_
      refine zGo.sts 1 (cf' := (17, [some (.ref 0), some (.int l1), some (.int l2), some (.ref v2)], [.int (-1)], σ)) rfl ?_
      obtain rfl := Option.some.inj h
      exact zGo.ret rfl rfl
def Row_hasPlace (l0 : Nat) (l1 : Int32) (σ : zSt) : Option (Int32) := if l1 < 0 then (some 0) else (bif Nat.beq (zkd l0) 8 then (if (σ l0 0) ≤ l1 then (some 0) else (some 1)) else none)
theorem Row_hasPlace_g {l0 : Nat} {l1 : Int32} {σ : zSt} {r : Int32} (h : Row_hasPlace l0 l1 σ = some r) : zGo zPT zmlc (zPT 2) (0, zent (zmlc 2) [.ref l0, .int l1], [], σ) (some (.int r), σ) := by
  unfold Row_hasPlace at h
  show zGo zPT zmlc zP_2 (0, [some (.ref l0), some (.int l1)], [], σ) _
  refine zGo.sts 1 (cf' := (1, [some (.ref l0), some (.int l1)], [.int l1], σ)) rfl ?_
  by_cases hb2 : l1 < 0
  · replace h := zif_t hb2 h
    refine zI_lt_t rfl hb2 ?_
    refine zGo.sts 1 (cf' := (17, [some (.ref l0), some (.int l1)], [.int 0], σ)) rfl ?_
    obtain rfl := Option.some.inj h
    exact zGo.ret rfl rfl
  · replace h := zif_f hb2 h
    refine zI_lt_f rfl hb2 ?_
    refine zGo.sts 2 (cf' := (6, [some (.ref l0), some (.int l1)], [.ref l0, .int l1], σ)) rfl ?_
    obtain ⟨hc, h⟩ := zbif h
    refine zG_gI rfl hc ?_
    by_cases hb1 : (σ l0 0) ≤ l1
    · replace h := zif_t hb1 h
      refine zC_ge_t rfl hb1 ?_
      refine zGo.sts 1 (cf' := (17, [some (.ref l0), some (.int l1)], [.int 0], σ)) rfl ?_
      obtain rfl := Option.some.inj h
      exact zGo.ret rfl rfl
    · replace h := zif_f hb1 h
      refine zC_ge_f rfl hb1 ?_
      refine zGo.sts 2 (cf' := (17, [some (.ref l0), some (.int l1)], [.int 1], σ)) rfl ?_
      obtain rfl := Option.some.inj h
      exact zGo.ret rfl rfl
def X_put (l1 : Int32) (l2 : Int32) (l3 : Int32) (σ : zSt) : Option (Int32 × zSt) := (X_rowAt l1 σ).bind fun q1 => zmo q1 (some ((-1), σ)) fun v2 => bif Nat.beq (zkd v2) 8 then (if 0 ≤ (σ v2 0) then (bif Nat.beq (zkd v2) 8 then (Row_hasPlace v2 l2 σ).bind fun v3 => if ¬ v3 = 0 then (bif Nat.beq (zkd v2) 8 then ((zst σ (ztg v2 1) l2 l3).bind fun σ4 => some (1, σ4)) else none) else (some ((-13), σ)) else none) else (some ((-11), σ))) else none
theorem X_put_g {l1 : Int32} {l2 : Int32} {l3 : Int32} {σ : zSt} {r : Int32 × zSt} (h : X_put l1 l2 l3 σ = some r) : zGo zPT zmlc (zPT 127) (0, zent (zmlc 127) [.ref 0, .int l1, .int l2, .int l3], [], σ) (some (.int r.1), r.2) := by
  unfold X_put at h
  show zGo zPT zmlc zP_127 (0, [some (.ref 0), some (.int l1), some (.int l2), some (.int l3), none], [], σ) _
  refine zGo.sts 2 (cf' := (2, [some (.ref 0), some (.int l1), some (.int l2), some (.int l3), none], [.int l1, .ref 0], σ)) rfl ?_
  obtain ⟨q1, hv, h⟩ := zbd h
  cases q1 with
  | none =>
    replace h := zmo_n h
    refine zGo.call rfl rfl (X_rowAt_g hv) ?_
    refine zGo.sts 4 (cf' := (13, [some (.ref 0), some (.int l1), some (.int l2), some (.int l3), some (.null)], [.int (-1)], σ)) rfl ?_
    obtain rfl := Option.some.inj h
    exact zGo.ret rfl rfl
  | some v2 =>
    replace h := zmo_s h
    refine zGo.call rfl rfl (X_rowAt_g hv) ?_
    refine zGo.sts 4 (cf' := (16, [some (.ref 0), some (.int l1), some (.int l2), some (.int l3), some (.ref v2)], [.ref v2], σ)) rfl ?_
    obtain ⟨hc, h⟩ := zbif h
    refine zG_gI rfl hc ?_
    by_cases hb6 : 0 ≤ (σ v2 0)
    · replace h := zif_t hb6 h
      refine zI_ge_t rfl hb6 ?_
      refine zGo.sts 2 (cf' := (28, [some (.ref 0), some (.int l1), some (.int l2), some (.int l3), some (.ref v2)], [.int l2, .ref v2], σ)) rfl ?_
      obtain ⟨hc, h⟩ := zbif h
      obtain ⟨v3, hv, h⟩ := zbd h
      refine zGo.call rfl (zca_r rfl rfl rfl hc) (Row_hasPlace_g hv) ?_
      by_cases hb5 : ¬ v3 = 0
      · replace h := zif_t hb5 h
        refine zI_ne_t rfl hb5 ?_
        refine zGo.sts 1 (cf' := (39, [some (.ref 0), some (.int l1), some (.int l2), some (.int l3), some (.ref v2)], [.ref v2], σ)) rfl ?_
        obtain ⟨hc, h⟩ := zbif h
        refine zG_gR rfl hc ?_
        refine zGo.sts 2 (cf' := (44, [some (.ref 0), some (.int l1), some (.int l2), some (.int l3), some (.ref v2)], [.int l3, .int l2, .ref (ztg v2 1)], σ)) rfl ?_
        obtain ⟨σ4, hv, h⟩ := zbd h
        refine zG_st rfl hv ?_
        refine zGo.sts 1 (cf' := (46, [some (.ref 0), some (.int l1), some (.int l2), some (.int l3), some (.ref v2)], [.int 1], σ4)) rfl ?_
        obtain rfl := Option.some.inj h
        exact zGo.ret rfl rfl
      · replace h := zif_f hb5 h
        refine zI_ne_f rfl hb5 ?_
        refine zGo.sts 1 (cf' := (36, [some (.ref 0), some (.int l1), some (.int l2), some (.int l3), some (.ref v2)], [.int (-13)], σ)) rfl ?_
        obtain rfl := Option.some.inj h
        exact zGo.ret rfl rfl
    · replace h := zif_f hb6 h
      refine zI_ge_f rfl hb6 ?_
      refine zGo.sts 1 (cf' := (24, [some (.ref 0), some (.int l1), some (.int l2), some (.int l3), some (.ref v2)], [.int (-11)], σ)) rfl ?_
      obtain rfl := Option.some.inj h
      exact zGo.ret rfl rfl
def X_get (l1 : Int32) (l2 : Int32) (σ : zSt) : Option (Int32) := (X_rowAt l1 σ).bind fun q1 => zmo q1 (some (-2147483648)) fun v2 => bif Nat.beq (zkd v2) 8 then (Row_hasPlace v2 l2 σ).bind fun v3 => if ¬ v3 = 0 then (bif Nat.beq (zkd v2) 8 then ((zld σ (ztg v2 1) l2).bind fun v4 => some v4) else none) else (some (-2147483648)) else none
theorem X_get_g {l1 : Int32} {l2 : Int32} {σ : zSt} {r : Int32} (h : X_get l1 l2 σ = some r) : zGo zPT zmlc (zPT 128) (0, zent (zmlc 128) [.ref 0, .int l1, .int l2], [], σ) (some (.int r), σ) := by
  unfold X_get at h
  show zGo zPT zmlc zP_128 (0, [some (.ref 0), some (.int l1), some (.int l2), none], [], σ) _
  refine zGo.sts 2 (cf' := (2, [some (.ref 0), some (.int l1), some (.int l2), none], [.int l1, .ref 0], σ)) rfl ?_
  obtain ⟨q1, hv, h⟩ := zbd h
  cases q1 with
  | none =>
    replace h := zmo_n h
    refine zGo.call rfl rfl (X_rowAt_g hv) ?_
    refine zGo.sts 4 (cf' := (20, [some (.ref 0), some (.int l1), some (.int l2), some (.null)], [.int (-2147483648)], σ)) rfl ?_
    obtain rfl := Option.some.inj h
    exact zGo.ret rfl rfl
  | some v2 =>
    replace h := zmo_s h
    refine zGo.call rfl rfl (X_rowAt_g hv) ?_
    refine zGo.sts 5 (cf' := (12, [some (.ref 0), some (.int l1), some (.int l2), some (.ref v2)], [.int l2, .ref v2], σ)) rfl ?_
    obtain ⟨hc, h⟩ := zbif h
    obtain ⟨v3, hv, h⟩ := zbd h
    refine zGo.call rfl (zca_r rfl rfl rfl hc) (Row_hasPlace_g hv) ?_
    by_cases hb5 : ¬ v3 = 0
    · replace h := zif_t hb5 h
      refine zI_ne_t rfl hb5 ?_
      refine zGo.sts 1 (cf' := (22, [some (.ref 0), some (.int l1), some (.int l2), some (.ref v2)], [.ref v2], σ)) rfl ?_
      obtain ⟨hc, h⟩ := zbif h
      refine zG_gR rfl hc ?_
      refine zGo.sts 1 (cf' := (26, [some (.ref 0), some (.int l1), some (.int l2), some (.ref v2)], [.int l2, .ref (ztg v2 1)], σ)) rfl ?_
      obtain ⟨v4, hv, h⟩ := zbd h
      refine zG_ld rfl hv ?_
      obtain rfl := Option.some.inj h
      exact zGo.ret rfl rfl
    · replace h := zif_f hb5 h
      refine zI_ne_f rfl hb5 ?_
      refine zGo.sts 1 (cf' := (20, [some (.ref 0), some (.int l1), some (.int l2), some (.ref v2)], [.int (-2147483648)], σ)) rfl ?_
      obtain rfl := Option.some.inj h
      exact zGo.ret rfl rfl
def X_film_c83 (c60 : Int32 → Nat → Int32 → Int32 → zSt → Option (Int32 × zSt)) (l3 : Int32) (l4 : Nat) (l6 : Int32) (t0 : Int32) (t1 : Int32) (σ : zSt) : Option (Int32 × zSt) := (Fcg_next t1 t0 σ).bind fun v12 => bif Nat.beq (zkd l4) 8 then ((zst σ (ztg l4 1) l6 v12).bind fun σ13 => c60 l3 l4 v12 (l6 + 1) σ13) else none
theorem X_film_g83 {c60 : Int32 → Nat → Int32 → Int32 → zSt → Option (Int32 × zSt)} (hc60 : ∀ {d1 : Option Value} {d2 : Option Value} {l3 : Int32} {l4 : Nat} {l5 : Int32} {l6 : Int32} {σ : zSt} {r : Int32 × zSt}, c60 l3 l4 l5 l6 σ = some r → zGo zPT zmlc zP_129 (60, [some (.ref 0), d1, d2, some (.int l3), some (.ref l4), some (.int l5), some (.int l6)], [], σ) (some (.int r.1), r.2)) {d1 : Option Value} {d2 : Option Value} {d5 : Option Value} {l3 : Int32} {l4 : Nat} {l6 : Int32} {t0 : Int32} {t1 : Int32} {σ : zSt} {r : Int32 × zSt} (h : X_film_c83 c60 l3 l4 l6 t0 t1 σ = some r) : zGo zPT zmlc zP_129 (83, [some (.ref 0), d1, d2, some (.int l3), some (.ref l4), d5, some (.int l6)], [.int t0, .int t1, .ref 43], σ) (some (.int r.1), r.2) := by
  unfold X_film_c83 at h
  obtain ⟨v12, hv, h⟩ := zbd h
  refine zGo.call rfl rfl (Fcg_next_g hv) ?_
  refine zGo.sts 2 (cf' := (90, [some (.ref 0), d1, d2, some (.int l3), some (.ref l4), some (.int v12), some (.int l6)], [.ref l4], σ)) rfl ?_
  obtain ⟨hc, h⟩ := zbif h
  refine zG_gR rfl hc ?_
  refine zGo.sts 2 (cf' := (97, [some (.ref 0), d1, d2, some (.int l3), some (.ref l4), some (.int v12), some (.int l6)], [.int v12, .int l6, .ref (ztg l4 1)], σ)) rfl ?_
  obtain ⟨σ13, hv, h⟩ := zbd h
  refine zG_st rfl hv ?_
  refine zGo.sts 2 (cf' := (60, [some (.ref 0), d1, d2, some (.int l3), some (.ref l4), some (.int v12), some (.int (l6 + 1))], [], σ13)) rfl ?_
  exact hc60 h
def X_film_c60 : Nat → Int32 → Nat → Int32 → Int32 → zSt → Option (Int32 × zSt)
  | 0, _, _, _, _, _ => none
  | n + 1, l3, l4, l5, l6, σ => if l3 < l6 then (bif Nat.beq (zkd l4) 8 then zlet (su σ l4 0 (l3 + 1)) fun σ9 => some (l3 + 1, σ9) else none) else (if ¬ l6 = 1 then (X_film_c83 (X_film_c60 n) l3 l4 l6 0 l5 σ) else (X_film_c83 (X_film_c60 n) l3 l4 l6 1 l5 σ))
theorem X_film_g60 : ∀ (n : Nat) {d1 : Option Value} {d2 : Option Value} {l3 : Int32} {l4 : Nat} {l5 : Int32} {l6 : Int32} {σ : zSt} {r : Int32 × zSt}, X_film_c60 n l3 l4 l5 l6 σ = some r → zGo zPT zmlc zP_129 (60, [some (.ref 0), d1, d2, some (.int l3), some (.ref l4), some (.int l5), some (.int l6)], [], σ) (some (.int r.1), r.2) := by
  intro n
  induction n with
  | zero => intro d1 d2 l3 l4 l5 l6 σ r h; cases h
  | succ n ih =>
    intro d1 d2 l3 l4 l5 l6 σ r h
    rw [X_film_c60] at h
    refine zGo.sts 2 (cf' := (63, [some (.ref 0), d1, d2, some (.int l3), some (.ref l4), some (.int l5), some (.int l6)], [.int l3, .int l6], σ)) rfl ?_
    by_cases hb11 : l3 < l6
    · replace h := zif_t hb11 h
      refine zC_gt_t rfl hb11 ?_
      refine zGo.sts 4 (cf' := (109, [some (.ref 0), d1, d2, some (.int l3), some (.ref l4), some (.int l5), some (.int l6)], [.int (l3 + 1), .ref l4], σ)) rfl ?_
      obtain ⟨hc, h⟩ := zbif h
      refine zG_pI rfl hc ?_
      replace h := zlet_of h
      generalize su σ l4 0 (l3 + 1) = σ9 at h ⊢
      refine zGo.sts 3 (cf' := (115, [some (.ref 0), d1, d2, some (.int l3), some (.ref l4), some (.int l5), some (.int l6)], [.int (l3 + 1)], σ9)) rfl ?_
      obtain rfl := Option.some.inj h
      exact zGo.ret rfl rfl
    · replace h := zif_f hb11 h
      refine zC_gt_f rfl hb11 ?_
      refine zGo.sts 5 (cf' := (75, [some (.ref 0), d1, d2, some (.int l3), some (.ref l4), some (.int l5), some (.int l6)], [.int 1, .int l6, .int l5, .ref 43], σ)) rfl ?_
      by_cases hb10 : ¬ l6 = 1
      · replace h := zif_t hb10 h
        refine zC_ne_t rfl hb10 ?_
        refine zGo.sts 1 (cf' := (83, [some (.ref 0), d1, d2, some (.int l3), some (.ref l4), some (.int l5), some (.int l6)], [.int 0, .int l5, .ref 43], σ)) rfl ?_
        exact X_film_g83 ih h
      · replace h := zif_f hb10 h
        refine zC_ne_f rfl hb10 ?_
        refine zGo.sts 2 (cf' := (83, [some (.ref 0), d1, d2, some (.int l3), some (.ref l4), some (.int l5), some (.int l6)], [.int 1, .int l5, .ref 43], σ)) rfl ?_
        exact X_film_g83 ih h
def X_film (l1 : Int32) (l2 : Int32) (l3 : Int32) (σ : zSt) : Option (Int32 × zSt) := (X_rowAt l1 σ).bind fun q1 => zmo q1 (some ((-1), σ)) fun v2 => (Net_hasSet l2 σ).bind fun v3 => if v3 = 0 then (some ((-1), σ)) else (if l3 < 0 then (some ((-1), σ)) else (if l3 < 40 then ((Fcg_take σ).bind fun σ4 => bif Nat.beq (zkd v2) 8 then ((zst σ4 (ztg v2 1) 0 l2).bind fun σ5 => X_film_c60 zF l3 v2 l2 1 σ5) else none) else (some ((-1), σ))))
theorem X_film_g {l1 : Int32} {l2 : Int32} {l3 : Int32} {σ : zSt} {r : Int32 × zSt} (h : X_film l1 l2 l3 σ = some r) : zGo zPT zmlc (zPT 129) (0, zent (zmlc 129) [.ref 0, .int l1, .int l2, .int l3], [], σ) (some (.int r.1), r.2) := by
  unfold X_film at h
  show zGo zPT zmlc zP_129 (0, [some (.ref 0), some (.int l1), some (.int l2), some (.int l3), none, none, none], [], σ) _
  refine zGo.sts 2 (cf' := (2, [some (.ref 0), some (.int l1), some (.int l2), some (.int l3), none, none, none], [.int l1, .ref 0], σ)) rfl ?_
  obtain ⟨q1, hv, h⟩ := zbd h
  cases q1 with
  | none =>
    replace h := zmo_n h
    refine zGo.call rfl rfl (X_rowAt_g hv) ?_
    refine zGo.sts 4 (cf' := (34, [some (.ref 0), some (.int l1), some (.int l2), some (.int l3), some (.null), none, none], [.int (-1)], σ)) rfl ?_
    obtain rfl := Option.some.inj h
    exact zGo.ret rfl rfl
  | some v2 =>
    replace h := zmo_s h
    refine zGo.call rfl rfl (X_rowAt_g hv) ?_
    refine zGo.sts 6 (cf' := (17, [some (.ref 0), some (.int l1), some (.int l2), some (.int l3), some (.ref v2), none, none], [.int l2, .ref 1], σ)) rfl ?_
    obtain ⟨v3, hv, h⟩ := zbd h
    refine zGo.call rfl rfl (Net_hasSet_g hv) ?_
    by_cases hb8 : v3 = 0
    · replace h := zif_t hb8 h
      refine zI_eq_t rfl hb8 ?_
      refine zGo.sts 1 (cf' := (34, [some (.ref 0), some (.int l1), some (.int l2), some (.int l3), some (.ref v2), none, none], [.int (-1)], σ)) rfl ?_
      obtain rfl := Option.some.inj h
      exact zGo.ret rfl rfl
    · replace h := zif_f hb8 h
      refine zI_eq_f rfl hb8 ?_
      refine zGo.sts 1 (cf' := (24, [some (.ref 0), some (.int l1), some (.int l2), some (.int l3), some (.ref v2), none, none], [.int l3], σ)) rfl ?_
      by_cases hb7 : l3 < 0
      · replace h := zif_t hb7 h
        refine zI_lt_t rfl hb7 ?_
        refine zGo.sts 1 (cf' := (34, [some (.ref 0), some (.int l1), some (.int l2), some (.int l3), some (.ref v2), none, none], [.int (-1)], σ)) rfl ?_
        obtain rfl := Option.some.inj h
        exact zGo.ret rfl rfl
      · replace h := zif_f hb7 h
        refine zI_lt_f rfl hb7 ?_
        refine zGo.sts 2 (cf' := (30, [some (.ref 0), some (.int l1), some (.int l2), some (.int l3), some (.ref v2), none, none], [.int 40, .int l3], σ)) rfl ?_
        by_cases hb6 : l3 < 40
        · replace h := zif_t hb6 h
          refine zC_lt_t rfl hb6 ?_
          refine zGo.sts 4 (cf' := (43, [some (.ref 0), some (.int l1), some (.int l2), some (.int l3), some (.ref v2), none, none], [.ref 1, .ref 43], σ)) rfl ?_
          obtain ⟨σ4, hv, h⟩ := zbd h
          refine zGo.call rfl rfl (Fcg_take_g hv) ?_
          refine zGo.sts 3 (cf' := (51, [some (.ref 0), some (.int l1), some (.int l2), some (.int l3), some (.ref v2), some (.int l2), none], [.ref v2], σ4)) rfl ?_
          obtain ⟨hc, h⟩ := zbif h
          refine zG_gR rfl hc ?_
          refine zGo.sts 2 (cf' := (56, [some (.ref 0), some (.int l1), some (.int l2), some (.int l3), some (.ref v2), some (.int l2), none], [.int l2, .int 0, .ref (ztg v2 1)], σ4)) rfl ?_
          obtain ⟨σ5, hv, h⟩ := zbd h
          refine zG_st rfl hv ?_
          refine zGo.sts 2 (cf' := (60, [some (.ref 0), some (.int l1), some (.int l2), some (.int l3), some (.ref v2), some (.int l2), some (.int 1)], [], σ5)) rfl ?_
          exact X_film_g60 zF h
        · replace h := zif_f hb6 h
          refine zC_lt_f rfl hb6 ?_
          refine zGo.sts 1 (cf' := (34, [some (.ref 0), some (.int l1), some (.int l2), some (.int l3), some (.ref v2), none, none], [.int (-1)], σ)) rfl ?_
          obtain rfl := Option.some.inj h
          exact zGo.ret rfl rfl
def Bod_begin (l1 : Int32) (l2 : Int32) (l3 : Int32) (σ : zSt) : Option (zSt) := zlet (su σ 73 0 l1) fun σ1 => zlet (su σ1 73 1 l2) fun σ2 => zlet (su σ2 73 2 l3) fun σ3 => zlet (su σ3 73 3 0) fun σ4 => some σ4
theorem Bod_begin_g {l1 : Int32} {l2 : Int32} {l3 : Int32} {σ : zSt} {r : zSt} (h : Bod_begin l1 l2 l3 σ = some r) : zGo zPT zmlc (zPT 12) (0, zent (zmlc 12) [.ref 73, .int l1, .int l2, .int l3], [], σ) (none, r) := by
  unfold Bod_begin at h
  show zGo zPT zmlc zP_12 (0, [some (.ref 73), some (.int l1), some (.int l2), some (.int l3)], [], σ) _
  refine zGo.sts 3 (cf' := (5, [some (.ref 73), some (.int l1), some (.int l2), some (.int l3)], [], (su σ 73 0 l1))) rfl ?_
  replace h := zlet_of h
  generalize su σ 73 0 l1 = σ1 at h ⊢
  refine zGo.sts 3 (cf' := (10, [some (.ref 73), some (.int l1), some (.int l2), some (.int l3)], [], (su σ1 73 1 l2))) rfl ?_
  replace h := zlet_of h
  generalize su σ1 73 1 l2 = σ2 at h ⊢
  refine zGo.sts 3 (cf' := (15, [some (.ref 73), some (.int l1), some (.int l2), some (.int l3)], [], (su σ2 73 2 l3))) rfl ?_
  replace h := zlet_of h
  generalize su σ2 73 2 l3 = σ3 at h ⊢
  refine zGo.sts 3 (cf' := (20, [some (.ref 73), some (.int l1), some (.int l2), some (.int l3)], [], (su σ3 73 3 0))) rfl ?_
  replace h := zlet_of h
  generalize su σ3 73 3 0 = σ4 at h ⊢
  obtain rfl := Option.some.inj h
  exact zGo.ret rfl rfl
def Bod_isUnder_c4 (σ : zSt) : Nat → Int32 → Int32 → Int32 → Option (Int32)
  | 0, _, _, _ => none
  | n + 1, l1, l2, l3 => if 5 ≤ l3 then (some 0) else (if l2 < 0 then (some 0) else (if 5 ≤ l2 then (some 0) else (if ¬ l2 = l1 then ((zld σ 201 l2).bind fun v1 => Bod_isUnder_c4 σ n l1 v1 (l3 + 1)) else (some 1))))
theorem Bod_isUnder_g4 {σ : zSt} : ∀ (n : Nat) {d0 : Option Value} {l1 : Int32} {l2 : Int32} {l3 : Int32} {r : Int32}, Bod_isUnder_c4 σ n l1 l2 l3 = some r → zGo zPT zmlc zP_13 (4, [d0, some (.int l1), some (.int l2), some (.int l3)], [], σ) (some (.int r), σ) := by
  intro n
  induction n with
  | zero => intro d0 l1 l2 l3 r h; cases h
  | succ n ih =>
    intro d0 l1 l2 l3 r h
    rw [Bod_isUnder_c4] at h
    refine zGo.sts 2 (cf' := (6, [d0, some (.int l1), some (.int l2), some (.int l3)], [.int 5, .int l3], σ)) rfl ?_
    by_cases hb5 : 5 ≤ l3
    · replace h := zif_t hb5 h
      refine zC_ge_t rfl hb5 ?_
      refine zGo.sts 1 (cf' := (38, [d0, some (.int l1), some (.int l2), some (.int l3)], [.int 0], σ)) rfl ?_
      obtain rfl := Option.some.inj h
      exact zGo.ret rfl rfl
    · replace h := zif_f hb5 h
      refine zC_ge_f rfl hb5 ?_
      refine zGo.sts 1 (cf' := (10, [d0, some (.int l1), some (.int l2), some (.int l3)], [.int l2], σ)) rfl ?_
      by_cases hb4 : l2 < 0
      · replace h := zif_t hb4 h
        refine zI_lt_t rfl hb4 ?_
        refine zGo.sts 1 (cf' := (38, [d0, some (.int l1), some (.int l2), some (.int l3)], [.int 0], σ)) rfl ?_
        obtain rfl := Option.some.inj h
        exact zGo.ret rfl rfl
      · replace h := zif_f hb4 h
        refine zI_lt_f rfl hb4 ?_
        refine zGo.sts 2 (cf' := (15, [d0, some (.int l1), some (.int l2), some (.int l3)], [.int 5, .int l2], σ)) rfl ?_
        by_cases hb3 : 5 ≤ l2
        · replace h := zif_t hb3 h
          refine zC_ge_t rfl hb3 ?_
          refine zGo.sts 1 (cf' := (38, [d0, some (.int l1), some (.int l2), some (.int l3)], [.int 0], σ)) rfl ?_
          obtain rfl := Option.some.inj h
          exact zGo.ret rfl rfl
        · replace h := zif_f hb3 h
          refine zC_ge_f rfl hb3 ?_
          refine zGo.sts 2 (cf' := (20, [d0, some (.int l1), some (.int l2), some (.int l3)], [.int l1, .int l2], σ)) rfl ?_
          by_cases hb2 : ¬ l2 = l1
          · replace h := zif_t hb2 h
            refine zC_ne_t rfl hb2 ?_
            refine zGo.sts 2 (cf' := (29, [d0, some (.int l1), some (.int l2), some (.int l3)], [.int l2, .ref 201], σ)) rfl ?_
            obtain ⟨v1, hv, h⟩ := zbd h
            refine zG_ld rfl hv ?_
            refine zGo.sts 3 (cf' := (4, [d0, some (.int l1), some (.int v1), some (.int (l3 + 1))], [], σ)) rfl ?_
            exact ih h
          · replace h := zif_f hb2 h
            refine zC_ne_f rfl hb2 ?_
            refine zGo.sts 1 (cf' := (24, [d0, some (.int l1), some (.int l2), some (.int l3)], [.int 1], σ)) rfl ?_
            obtain rfl := Option.some.inj h
            exact zGo.ret rfl rfl
def Bod_isUnder (l0 : Int32) (l1 : Int32) (σ : zSt) : Option (Int32) := Bod_isUnder_c4 σ zF l1 l0 0
theorem Bod_isUnder_g {l0 : Int32} {l1 : Int32} {σ : zSt} {r : Int32} (h : Bod_isUnder l0 l1 σ = some r) : zGo zPT zmlc (zPT 13) (0, zent (zmlc 13) [.int l0, .int l1], [], σ) (some (.int r), σ) := by
  unfold Bod_isUnder at h
  show zGo zPT zmlc zP_13 (0, [some (.int l0), some (.int l1), none, none], [], σ) _
  refine zGo.sts 4 (cf' := (4, [some (.int l0), some (.int l1), some (.int l0), some (.int 0)], [], σ)) rfl ?_
  exact Bod_isUnder_g4 zF h
def Bod_note (l1 : Int32) (σ : zSt) : Option (zSt) := if 24 ≤ (σ 73 3) then (some σ) else ((zst σ 74 (σ 73 3) l1).bind fun σ1 => zlet (su σ1 73 3 ((σ1 73 3) + 1)) fun σ2 => some σ2)
theorem Bod_note_g {l1 : Int32} {σ : zSt} {r : zSt} (h : Bod_note l1 σ = some r) : zGo zPT zmlc (zPT 14) (0, zent (zmlc 14) [.ref 73, .int l1], [], σ) (none, r) := by
  unfold Bod_note at h
  show zGo zPT zmlc zP_14 (0, [some (.ref 73), some (.int l1)], [], σ) _
  refine zGo.sts 3 (cf' := (6, [some (.ref 73), some (.int l1)], [.int 24, .int (σ 73 3)], σ)) rfl ?_
  by_cases hb3 : 24 ≤ (σ 73 3)
  · replace h := zif_t hb3 h
    refine zC_ge_t rfl hb3 ?_
    obtain rfl := Option.some.inj h
    exact zGo.ret rfl rfl
  · replace h := zif_f hb3 h
    refine zC_ge_f rfl hb3 ?_
    refine zGo.sts 5 (cf' := (18, [some (.ref 73), some (.int l1)], [.int l1, .int (σ 73 3), .ref 74], σ)) rfl ?_
    obtain ⟨σ1, hv, h⟩ := zbd h
    refine zG_st rfl hv ?_
    refine zGo.sts 6 (cf' := (29, [some (.ref 73), some (.int l1)], [], (su σ1 73 3 ((σ1 73 3) + 1)))) rfl ?_
    replace h := zlet_of h
    generalize su σ1 73 3 ((σ1 73 3) + 1) = σ2 at h ⊢
    obtain rfl := Option.some.inj h
    exact zGo.ret rfl rfl
def Bod_pointAsks (l1 : Int32) (σ : zSt) : Option (Int32 × zSt) := (Bod_note 10 σ).bind fun σ1 => some (l1 + (σ1 73 1), σ1)
theorem Bod_pointAsks_g {l1 : Int32} {σ : zSt} {r : Int32 × zSt} (h : Bod_pointAsks l1 σ = some r) : zGo zPT zmlc (zPT 18) (0, zent (zmlc 18) [.ref 73, .int l1], [], σ) (some (.int r.1), r.2) := by
  unfold Bod_pointAsks at h
  show zGo zPT zmlc zP_18 (0, [some (.ref 73), some (.int l1)], [], σ) _
  refine zGo.sts 2 (cf' := (3, [some (.ref 73), some (.int l1)], [.int 10, .ref 73], σ)) rfl ?_
  obtain ⟨σ1, hv, h⟩ := zbd h
  refine zGo.call rfl rfl (Bod_note_g hv) ?_
  refine zGo.sts 4 (cf' := (12, [some (.ref 73), some (.int l1)], [.int (l1 + (σ1 73 1))], σ1)) rfl ?_
  obtain rfl := Option.some.inj h
  exact zGo.ret rfl rfl
def Bod_asks (l1 : Int32) (σ : zSt) : Option (Int32 × zSt) := (Bod_isUnder (σ 73 0) 1 σ).bind fun v1 => if v1 = 0 then (zb2 (Bod_pointAsks l1 σ) fun v2 σ3 => some (v2, σ3)) else ((Bod_note 20 σ).bind fun σ4 => zb2 (Bod_pointAsks l1 σ4) fun v5 σ6 => some (-v5, σ6))
theorem Bod_asks_g {l1 : Int32} {σ : zSt} {r : Int32 × zSt} (h : Bod_asks l1 σ = some r) : zGo zPT zmlc (zPT 15) (0, zent (zmlc 15) [.ref 73, .int l1], [], σ) (some (.int r.1), r.2) := by
  unfold Bod_asks at h
  show zGo zPT zmlc zP_15 (0, [some (.ref 73), some (.int l1)], [], σ) _
  refine zGo.sts 3 (cf' := (5, [some (.ref 73), some (.int l1)], [.int 1, .int (σ 73 0)], σ)) rfl ?_
  obtain ⟨v1, hv, h⟩ := zbd h
  refine zGo.call rfl rfl (Bod_isUnder_g hv) ?_
  by_cases hb7 : v1 = 0
  · replace h := zif_t hb7 h
    refine zI_eq_t rfl hb7 ?_
    refine zGo.sts 2 (cf' := (26, [some (.ref 73), some (.int l1)], [.int l1, .ref 73], σ)) rfl ?_
    obtain ⟨v2, σ3, hv, h⟩ := zbd2 h
    refine zGo.call rfl rfl (Bod_pointAsks_g hv) ?_
    obtain rfl := Option.some.inj h
    exact zGo.ret rfl rfl
  · replace h := zif_f hb7 h
    refine zI_eq_f rfl hb7 ?_
    refine zGo.sts 2 (cf' := (14, [some (.ref 73), some (.int l1)], [.int 20, .ref 73], σ)) rfl ?_
    obtain ⟨σ4, hv, h⟩ := zbd h
    refine zGo.call rfl rfl (Bod_note_g hv) ?_
    refine zGo.sts 2 (cf' := (19, [some (.ref 73), some (.int l1)], [.int l1, .ref 73], σ4)) rfl ?_
    obtain ⟨v5, σ6, hv, h⟩ := zbd2 h
    refine zGo.call rfl rfl (Bod_pointAsks_g hv) ?_
    refine zGo.sts 1 (cf' := (23, [some (.ref 73), some (.int l1)], [.int (-v5)], σ6)) rfl ?_
    obtain rfl := Option.some.inj h
    exact zGo.ret rfl rfl
def Bod_countedTells (l1 : Int32) (σ : zSt) : Option (Int32 × zSt) := (Bod_note 1 σ).bind fun σ1 => some (l1 + 2, σ1)
theorem Bod_countedTells_g {l1 : Int32} {σ : zSt} {r : Int32 × zSt} (h : Bod_countedTells l1 σ = some r) : zGo zPT zmlc (zPT 21) (0, zent (zmlc 21) [.ref 73, .int l1], [], σ) (some (.int r.1), r.2) := by
  unfold Bod_countedTells at h
  show zGo zPT zmlc zP_21 (0, [some (.ref 73), some (.int l1)], [], σ) _
  refine zGo.sts 2 (cf' := (2, [some (.ref 73), some (.int l1)], [.int 1, .ref 73], σ)) rfl ?_
  obtain ⟨σ1, hv, h⟩ := zbd h
  refine zGo.call rfl rfl (Bod_note_g hv) ?_
  refine zGo.sts 3 (cf' := (8, [some (.ref 73), some (.int l1)], [.int (l1 + 2)], σ1)) rfl ?_
  obtain rfl := Option.some.inj h
  exact zGo.ret rfl rfl
def Bod_hubTells (l1 : Int32) (σ : zSt) : Option (Int32 × zSt) := (Bod_note 30 σ).bind fun σ1 => zb2 (Bod_countedTells l1 σ1) fun v2 σ3 => some (v2 * 3, σ3)
theorem Bod_hubTells_g {l1 : Int32} {σ : zSt} {r : Int32 × zSt} (h : Bod_hubTells l1 σ = some r) : zGo zPT zmlc (zPT 20) (0, zent (zmlc 20) [.ref 73, .int l1], [], σ) (some (.int r.1), r.2) := by
  unfold Bod_hubTells at h
  show zGo zPT zmlc zP_20 (0, [some (.ref 73), some (.int l1)], [], σ) _
  refine zGo.sts 2 (cf' := (3, [some (.ref 73), some (.int l1)], [.int 30, .ref 73], σ)) rfl ?_
  obtain ⟨σ1, hv, h⟩ := zbd h
  refine zGo.call rfl rfl (Bod_note_g hv) ?_
  refine zGo.sts 2 (cf' := (8, [some (.ref 73), some (.int l1)], [.int l1, .ref 73], σ1)) rfl ?_
  obtain ⟨v2, σ3, hv, h⟩ := zbd2 h
  refine zGo.call rfl rfl (Bod_countedTells_g hv) ?_
  refine zGo.sts 2 (cf' := (13, [some (.ref 73), some (.int l1)], [.int (v2 * 3)], σ3)) rfl ?_
  obtain rfl := Option.some.inj h
  exact zGo.ret rfl rfl
def Bod_tells (l1 : Int32) (σ : zSt) : Option (Int32 × zSt) := (Bod_isUnder (σ 73 0) 4 σ).bind fun v1 => if v1 = 0 then ((Bod_isUnder (σ 73 0) 2 σ).bind fun v2 => if v2 = 0 then (zb2 (Bod_countedTells l1 σ) fun v3 σ4 => some (v3, σ4)) else (zb2 (Bod_hubTells l1 σ) fun v5 σ6 => some (v5, σ6))) else ((Bod_note 50 σ).bind fun σ8 => zb2 (Bod_hubTells (l1 - 1) σ8) fun v9 σ10 => some (v9 + (σ10 73 2), σ10))
theorem Bod_tells_g {l1 : Int32} {σ : zSt} {r : Int32 × zSt} (h : Bod_tells l1 σ = some r) : zGo zPT zmlc (zPT 17) (0, zent (zmlc 17) [.ref 73, .int l1], [], σ) (some (.int r.1), r.2) := by
  unfold Bod_tells at h
  show zGo zPT zmlc zP_17 (0, [some (.ref 73), some (.int l1)], [], σ) _
  refine zGo.sts 3 (cf' := (5, [some (.ref 73), some (.int l1)], [.int 4, .int (σ 73 0)], σ)) rfl ?_
  obtain ⟨v1, hv, h⟩ := zbd h
  refine zGo.call rfl rfl (Bod_isUnder_g hv) ?_
  by_cases hb11 : v1 = 0
  · replace h := zif_t hb11 h
    refine zI_eq_t rfl hb11 ?_
    refine zGo.sts 3 (cf' := (35, [some (.ref 73), some (.int l1)], [.int 2, .int (σ 73 0)], σ)) rfl ?_
    obtain ⟨v2, hv, h⟩ := zbd h
    refine zGo.call rfl rfl (Bod_isUnder_g hv) ?_
    by_cases hb7 : v2 = 0
    · replace h := zif_t hb7 h
      refine zI_eq_t rfl hb7 ?_
      refine zGo.sts 2 (cf' := (51, [some (.ref 73), some (.int l1)], [.int l1, .ref 73], σ)) rfl ?_
      obtain ⟨v3, σ4, hv, h⟩ := zbd2 h
      refine zGo.call rfl rfl (Bod_countedTells_g hv) ?_
      obtain rfl := Option.some.inj h
      exact zGo.ret rfl rfl
    · replace h := zif_f hb7 h
      refine zI_eq_f rfl hb7 ?_
      refine zGo.sts 2 (cf' := (43, [some (.ref 73), some (.int l1)], [.int l1, .ref 73], σ)) rfl ?_
      obtain ⟨v5, σ6, hv, h⟩ := zbd2 h
      refine zGo.call rfl rfl (Bod_hubTells_g hv) ?_
      refine zGo.sts 1 (cf' := (54, [some (.ref 73), some (.int l1)], [.int v5], σ6)) rfl ?_
      obtain rfl := Option.some.inj h
      exact zGo.ret rfl rfl
  · replace h := zif_f hb11 h
    refine zI_eq_f rfl hb11 ?_
    refine zGo.sts 2 (cf' := (14, [some (.ref 73), some (.int l1)], [.int 50, .ref 73], σ)) rfl ?_
    obtain ⟨σ8, hv, h⟩ := zbd h
    refine zGo.call rfl rfl (Bod_note_g hv) ?_
    refine zGo.sts 4 (cf' := (21, [some (.ref 73), some (.int l1)], [.int (l1 - 1), .ref 73], σ8)) rfl ?_
    obtain ⟨v9, σ10, hv, h⟩ := zbd2 h
    refine zGo.call rfl rfl (Bod_hubTells_g hv) ?_
    refine zGo.sts 3 (cf' := (29, [some (.ref 73), some (.int l1)], [.int (v9 + (σ10 73 2))], σ10)) rfl ?_
    obtain rfl := Option.some.inj h
    exact zGo.ret rfl rfl

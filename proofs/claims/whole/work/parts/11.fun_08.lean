/-! the methods as functions, by program -/
def M_says_c26 (l1 : Int32) (l2 : Int32) (l3 : Int32) (σ : zSt) : Option (Int32 × zSt) := (M_runs_ 11 σ).bind fun σ5 => zb2 (M_asks l1 l2 σ5) fun v6 σ7 => zb2 (M_tells l1 1 σ7) fun v8 σ9 => if l3 = 0 then (some ((v6 * 2) + v8, σ9)) else (some (((v6 * 2) + v8) ^^^ 5, σ9))
theorem M_says_g26 {d4 : Option Value} {d5 : Option Value} {l1 : Int32} {l2 : Int32} {l3 : Int32} {σ : zSt} {r : Int32 × zSt} (h : M_says_c26 l1 l2 l3 σ = some r) : zGo zPT zmlc zP_239 (26, [some (.ref 75), some (.int l1), some (.int l2), some (.int l3), d4, d5], [], σ) (some (.int r.1), r.2) := by
  unfold M_says_c26 at h
  refine zGo.sts 2 (cf' := (29, [some (.ref 75), some (.int l1), some (.int l2), some (.int l3), d4, d5], [.int 11, .ref 75], σ)) rfl ?_
  obtain ⟨σ5, hv, h⟩ := zbd h
  refine zGo.call rfl rfl (M_runs__g hv) ?_
  refine zGo.sts 3 (cf' := (35, [some (.ref 75), some (.int l1), some (.int l2), some (.int l3), d4, d5], [.int l2, .int l1, .ref 75], σ5)) rfl ?_
  obtain ⟨v6, σ7, hv, h⟩ := zbd2 h
  refine zGo.call rfl rfl (M_asks_g hv) ?_
  refine zGo.sts 7 (cf' := (47, [some (.ref 75), some (.int l1), some (.int l2), some (.int l3), some (.int (v6 * 2)), d5], [.int 1, .int l1, .ref 75, .int (v6 * 2)], σ7)) rfl ?_
  obtain ⟨v8, σ9, hv, h⟩ := zbd2 h
  refine zGo.call rfl rfl (M_tells_g hv) ?_
  refine zGo.sts 3 (cf' := (54, [some (.ref 75), some (.int l1), some (.int l2), some (.int l3), some (.int (v6 * 2)), some (.int ((v6 * 2) + v8))], [.int l3], σ9)) rfl ?_
  by_cases hb10 : l3 = 0
  · replace h := zif_t hb10 h
    refine zI_eq_t rfl hb10 ?_
    refine zGo.sts 1 (cf' := (66, [some (.ref 75), some (.int l1), some (.int l2), some (.int l3), some (.int (v6 * 2)), some (.int ((v6 * 2) + v8))], [.int ((v6 * 2) + v8)], σ9)) rfl ?_
    obtain rfl := Option.some.inj h
    exact zGo.ret rfl rfl
  · replace h := zif_f hb10 h
    refine zI_eq_f rfl hb10 ?_
    refine zGo.sts 4 (cf' := (66, [some (.ref 75), some (.int l1), some (.int l2), some (.int l3), some (.int (v6 * 2)), some (.int ((v6 * 2) + v8))], [.int (((v6 * 2) + v8) ^^^ 5)], σ9)) rfl ?_
    obtain rfl := Option.some.inj h
    exact zGo.ret rfl rfl
def M_says_c15 (l1 : Int32) (l2 : Int32) (t0 : Int32) (σ : zSt) : Option (Int32 × zSt) := if t0 = 0 then (M_says_c26 l1 l2 t0 σ) else ((M_runs_ 40 σ).bind fun σ3 => M_says_c26 l1 l2 t0 σ3)
theorem M_says_g15 {d3 : Option Value} {d4 : Option Value} {d5 : Option Value} {l1 : Int32} {l2 : Int32} {t0 : Int32} {σ : zSt} {r : Int32 × zSt} (h : M_says_c15 l1 l2 t0 σ = some r) : zGo zPT zmlc zP_239 (15, [some (.ref 75), some (.int l1), some (.int l2), d3, d4, d5], [.int t0], σ) (some (.int r.1), r.2) := by
  unfold M_says_c15 at h
  refine zGo.sts 2 (cf' := (17, [some (.ref 75), some (.int l1), some (.int l2), some (.int t0), d4, d5], [.int t0], σ)) rfl ?_
  by_cases hb4 : t0 = 0
  · replace h := zif_t hb4 h
    refine zI_eq_t rfl hb4 ?_
    exact M_says_g26 h
  · replace h := zif_f hb4 h
    refine zI_eq_f rfl hb4 ?_
    refine zGo.sts 2 (cf' := (23, [some (.ref 75), some (.int l1), some (.int l2), some (.int t0), d4, d5], [.int 40, .ref 75], σ)) rfl ?_
    obtain ⟨σ3, hv, h⟩ := zbd h
    refine zGo.call rfl rfl (M_runs__g hv) ?_
    exact M_says_g26 h
def M_says (l1 : Int32) (l2 : Int32) (σ : zSt) : Option (Int32 × zSt) := (zld σ 77 l1).bind fun v1 => if ¬ v1 = 3 then (M_says_c15 l1 l2 0 σ) else (M_says_c15 l1 l2 1 σ)
theorem M_says_g {l1 : Int32} {l2 : Int32} {σ : zSt} {r : Int32 × zSt} (h : M_says l1 l2 σ = some r) : zGo zPT zmlc (zPT 239) (0, zent (zmlc 239) [.ref 75, .int l1, .int l2], [], σ) (some (.int r.1), r.2) := by
  unfold M_says at h
  show zGo zPT zmlc zP_239 (0, [some (.ref 75), some (.int l1), some (.int l2), none, none, none], [], σ) _
  refine zGo.sts 3 (cf' := (5, [some (.ref 75), some (.int l1), some (.int l2), none, none, none], [.int l1, .ref 77], σ)) rfl ?_
  obtain ⟨v1, hv, h⟩ := zbd h
  refine zG_ld rfl hv ?_
  refine zGo.sts 1 (cf' := (7, [some (.ref 75), some (.int l1), some (.int l2), none, none, none], [.int 3, .int v1], σ)) rfl ?_
  by_cases hb2 : ¬ v1 = 3
  · replace h := zif_t hb2 h
    refine zC_ne_t rfl hb2 ?_
    refine zGo.sts 1 (cf' := (15, [some (.ref 75), some (.int l1), some (.int l2), none, none, none], [.int 0], σ)) rfl ?_
    exact M_says_g15 h
  · replace h := zif_f hb2 h
    refine zC_ne_f rfl hb2 ?_
    refine zGo.sts 2 (cf' := (15, [some (.ref 75), some (.int l1), some (.int l2), none, none, none], [.int 1], σ)) rfl ?_
    exact M_says_g15 h
def M_act_ (l1 : Int32) (l2 : Int32) (l3 : Int32) (σ : zSt) : Option (Int32 × zSt) := (M_isPoint l1 σ).bind fun v1 => if v1 = 0 then (some (0, σ)) else ((M_in l2 0 2 σ).bind fun v2 => if ¬ v2 = 0 then (zlet (su σ 75 36 0) fun σ3 => if ¬ l2 = 0 then (if ¬ l2 = 1 then (zb2 (M_tells l1 l3 σ3) fun v4 σ5 => some (v4, σ5)) else (zb2 (M_says l1 l3 σ3) fun v6 σ7 => some (v6, σ7))) else (zb2 (M_asks l1 l3 σ3) fun v9 σ10 => some (v9, σ10))) else (some (0, σ)))
theorem M_act__g {l1 : Int32} {l2 : Int32} {l3 : Int32} {σ : zSt} {r : Int32 × zSt} (h : M_act_ l1 l2 l3 σ = some r) : zGo zPT zmlc (zPT 240) (0, zent (zmlc 240) [.ref 75, .int l1, .int l2, .int l3], [], σ) (some (.int r.1), r.2) := by
  unfold M_act_ at h
  show zGo zPT zmlc zP_240 (0, [some (.ref 75), some (.int l1), some (.int l2), some (.int l3)], [], σ) _
  refine zGo.sts 2 (cf' := (2, [some (.ref 75), some (.int l1), some (.int l2), some (.int l3)], [.int l1, .ref 75], σ)) rfl ?_
  obtain ⟨v1, hv, h⟩ := zbd h
  refine zGo.call rfl rfl (M_isPoint_g hv) ?_
  by_cases hb13 : v1 = 0
  · replace h := zif_t hb13 h
    refine zI_eq_t rfl hb13 ?_
    refine zGo.sts 1 (cf' := (18, [some (.ref 75), some (.int l1), some (.int l2), some (.int l3)], [.int 0], σ)) rfl ?_
    obtain rfl := Option.some.inj h
    exact zGo.ret rfl rfl
  · replace h := zif_f hb13 h
    refine zI_eq_f rfl hb13 ?_
    refine zGo.sts 3 (cf' := (11, [some (.ref 75), some (.int l1), some (.int l2), some (.int l3)], [.int 2, .int 0, .int l2], σ)) rfl ?_
    obtain ⟨v2, hv, h⟩ := zbd h
    refine zGo.call rfl rfl (M_in_g hv) ?_
    by_cases hb12 : ¬ v2 = 0
    · replace h := zif_t hb12 h
      refine zI_ne_t rfl hb12 ?_
      refine zGo.sts 3 (cf' := (24, [some (.ref 75), some (.int l1), some (.int l2), some (.int l3)], [], (su σ 75 36 0))) rfl ?_
      replace h := zlet_of h
      generalize su σ 75 36 0 = σ3 at h ⊢
      refine zGo.sts 1 (cf' := (25, [some (.ref 75), some (.int l1), some (.int l2), some (.int l3)], [.int l2], σ3)) rfl ?_
      by_cases hb11 : ¬ l2 = 0
      · replace h := zif_t hb11 h
        refine zI_ne_t rfl hb11 ?_
        refine zGo.sts 2 (cf' := (39, [some (.ref 75), some (.int l1), some (.int l2), some (.int l3)], [.int 1, .int l2], σ3)) rfl ?_
        by_cases hb8 : ¬ l2 = 1
        · replace h := zif_t hb8 h
          refine zC_ne_t rfl hb8 ?_
          refine zGo.sts 3 (cf' := (54, [some (.ref 75), some (.int l1), some (.int l2), some (.int l3)], [.int l3, .int l1, .ref 75], σ3)) rfl ?_
          obtain ⟨v4, σ5, hv, h⟩ := zbd2 h
          refine zGo.call rfl rfl (M_tells_g hv) ?_
          obtain rfl := Option.some.inj h
          exact zGo.ret rfl rfl
        · replace h := zif_f hb8 h
          refine zC_ne_f rfl hb8 ?_
          refine zGo.sts 3 (cf' := (45, [some (.ref 75), some (.int l1), some (.int l2), some (.int l3)], [.int l3, .int l1, .ref 75], σ3)) rfl ?_
          obtain ⟨v6, σ7, hv, h⟩ := zbd2 h
          refine zGo.call rfl rfl (M_says_g hv) ?_
          refine zGo.sts 1 (cf' := (57, [some (.ref 75), some (.int l1), some (.int l2), some (.int l3)], [.int v6], σ7)) rfl ?_
          obtain rfl := Option.some.inj h
          exact zGo.ret rfl rfl
      · replace h := zif_f hb11 h
        refine zI_ne_f rfl hb11 ?_
        refine zGo.sts 3 (cf' := (31, [some (.ref 75), some (.int l1), some (.int l2), some (.int l3)], [.int l3, .int l1, .ref 75], σ3)) rfl ?_
        obtain ⟨v9, σ10, hv, h⟩ := zbd2 h
        refine zGo.call rfl rfl (M_asks_g hv) ?_
        refine zGo.sts 1 (cf' := (57, [some (.ref 75), some (.int l1), some (.int l2), some (.int l3)], [.int v9], σ10)) rfl ?_
        obtain rfl := Option.some.inj h
        exact zGo.ret rfl rfl
    · replace h := zif_f hb12 h
      refine zI_ne_f rfl hb12 ?_
      refine zGo.sts 1 (cf' := (18, [some (.ref 75), some (.int l1), some (.int l2), some (.int l3)], [.int 0], σ)) rfl ?_
      obtain rfl := Option.some.inj h
      exact zGo.ret rfl rfl
def M_trace_c20 (σ : zSt) (l1 : Int32) (t0 : Int32) (t1 : Int32) (t2 : Int32) : Option (Int32) := (M_in t2 t1 (t0 - 1) σ).bind fun v2 => if v2 = 0 then (some (-2)) else ((zld σ 95 l1).bind fun v3 => some v3)
theorem M_trace_g20 {σ : zSt} {l1 : Int32} {t0 : Int32} {t1 : Int32} {t2 : Int32} {r : Int32} (h : M_trace_c20 σ l1 t0 t1 t2 = some r) : zGo zPT zmlc zP_241 (20, [some (.ref 75), some (.int l1)], [.int t0, .int t1, .int t2], σ) (some (.int r), σ) := by
  unfold M_trace_c20 at h
  refine zGo.sts 2 (cf' := (22, [some (.ref 75), some (.int l1)], [.int (t0 - 1), .int t1, .int t2], σ)) rfl ?_
  obtain ⟨v2, hv, h⟩ := zbd h
  refine zGo.call rfl rfl (M_in_g hv) ?_
  by_cases hb4 : v2 = 0
  · replace h := zif_t hb4 h
    refine zI_eq_t rfl hb4 ?_
    refine zGo.sts 1 (cf' := (39, [some (.ref 75), some (.int l1)], [.int (-2)], σ)) rfl ?_
    obtain rfl := Option.some.inj h
    exact zGo.ret rfl rfl
  · replace h := zif_f hb4 h
    refine zI_eq_f rfl hb4 ?_
    refine zGo.sts 3 (cf' := (33, [some (.ref 75), some (.int l1)], [.int l1, .ref 95], σ)) rfl ?_
    obtain ⟨v3, hv, h⟩ := zbd h
    refine zG_ld rfl hv ?_
    refine zGo.sts 1 (cf' := (39, [some (.ref 75), some (.int l1)], [.int v3], σ)) rfl ?_
    obtain rfl := Option.some.inj h
    exact zGo.ret rfl rfl
def M_trace (l1 : Int32) (σ : zSt) : Option (Int32) := if 24 ≤ (σ 75 36) then (M_trace_c20 σ l1 24 0 l1) else (M_trace_c20 σ l1 (σ 75 36) 0 l1)
theorem M_trace_g {l1 : Int32} {σ : zSt} {r : Int32} (h : M_trace l1 σ = some r) : zGo zPT zmlc (zPT 241) (0, zent (zmlc 241) [.ref 75, .int l1], [], σ) (some (.int r), σ) := by
  unfold M_trace at h
  show zGo zPT zmlc zP_241 (0, [some (.ref 75), some (.int l1)], [], σ) _
  refine zGo.sts 5 (cf' := (8, [some (.ref 75), some (.int l1)], [.int 24, .int (σ 75 36), .int 0, .int l1], σ)) rfl ?_
  by_cases hb1 : 24 ≤ (σ 75 36)
  · replace h := zif_t hb1 h
    refine zC_ge_t rfl hb1 ?_
    refine zGo.sts 1 (cf' := (20, [some (.ref 75), some (.int l1)], [.int 24, .int 0, .int l1], σ)) rfl ?_
    exact M_trace_g20 h
  · replace h := zif_f hb1 h
    refine zC_ge_f rfl hb1 ?_
    refine zGo.sts 3 (cf' := (20, [some (.ref 75), some (.int l1)], [.int (σ 75 36), .int 0, .int l1], σ)) rfl ?_
    exact M_trace_g20 h
def M_taken (l1 : Int32) (l2 : Int32) (σ : zSt) : Option (Int32) := (M_isPoint l1 σ).bind fun v1 => if v1 = 0 then (some (-1)) else ((M_in l2 0 4 σ).bind fun v2 => if ¬ v2 = 0 then ((zld σ 77 l1).bind fun v3 => (M_isUnder v3 l2 σ).bind fun v4 => if v4 = 0 then (some (-5)) else ((zld σ 78 l1).bind fun v5 => some v5)) else (some (-1)))
theorem M_taken_g {l1 : Int32} {l2 : Int32} {σ : zSt} {r : Int32} (h : M_taken l1 l2 σ = some r) : zGo zPT zmlc (zPT 242) (0, zent (zmlc 242) [.ref 75, .int l1, .int l2], [], σ) (some (.int r), σ) := by
  unfold M_taken at h
  show zGo zPT zmlc zP_242 (0, [some (.ref 75), some (.int l1), some (.int l2)], [], σ) _
  refine zGo.sts 2 (cf' := (2, [some (.ref 75), some (.int l1), some (.int l2)], [.int l1, .ref 75], σ)) rfl ?_
  obtain ⟨v1, hv, h⟩ := zbd h
  refine zGo.call rfl rfl (M_isPoint_g hv) ?_
  by_cases hb8 : v1 = 0
  · replace h := zif_t hb8 h
    refine zI_eq_t rfl hb8 ?_
    refine zGo.sts 1 (cf' := (18, [some (.ref 75), some (.int l1), some (.int l2)], [.int (-1)], σ)) rfl ?_
    obtain rfl := Option.some.inj h
    exact zGo.ret rfl rfl
  · replace h := zif_f hb8 h
    refine zI_eq_f rfl hb8 ?_
    refine zGo.sts 3 (cf' := (11, [some (.ref 75), some (.int l1), some (.int l2)], [.int 4, .int 0, .int l2], σ)) rfl ?_
    obtain ⟨v2, hv, h⟩ := zbd h
    refine zGo.call rfl rfl (M_in_g hv) ?_
    by_cases hb7 : ¬ v2 = 0
    · replace h := zif_t hb7 h
      refine zI_ne_t rfl hb7 ?_
      refine zGo.sts 4 (cf' := (25, [some (.ref 75), some (.int l1), some (.int l2)], [.int l1, .ref 77, .ref 75], σ)) rfl ?_
      obtain ⟨v3, hv, h⟩ := zbd h
      refine zG_ld rfl hv ?_
      refine zGo.sts 1 (cf' := (27, [some (.ref 75), some (.int l1), some (.int l2)], [.int l2, .int v3, .ref 75], σ)) rfl ?_
      obtain ⟨v4, hv, h⟩ := zbd h
      refine zGo.call rfl rfl (M_isUnder_g hv) ?_
      by_cases hb6 : v4 = 0
      · replace h := zif_t hb6 h
        refine zI_eq_t rfl hb6 ?_
        refine zGo.sts 1 (cf' := (44, [some (.ref 75), some (.int l1), some (.int l2)], [.int (-5)], σ)) rfl ?_
        obtain rfl := Option.some.inj h
        exact zGo.ret rfl rfl
      · replace h := zif_f hb6 h
        refine zI_eq_f rfl hb6 ?_
        refine zGo.sts 3 (cf' := (38, [some (.ref 75), some (.int l1), some (.int l2)], [.int l1, .ref 78], σ)) rfl ?_
        obtain ⟨v5, hv, h⟩ := zbd h
        refine zG_ld rfl hv ?_
        refine zGo.sts 1 (cf' := (44, [some (.ref 75), some (.int l1), some (.int l2)], [.int v5], σ)) rfl ?_
        obtain rfl := Option.some.inj h
        exact zGo.ret rfl rfl
    · replace h := zif_f hb7 h
      refine zI_ne_f rfl hb7 ?_
      refine zGo.sts 1 (cf' := (18, [some (.ref 75), some (.int l1), some (.int l2)], [.int (-1)], σ)) rfl ?_
      obtain rfl := Option.some.inj h
      exact zGo.ret rfl rfl
def M_lines_c16 (σ : zSt) (c4 : Int32 → Int32 → Option (Int32)) : Nat → Int32 → Int32 → Int32 → Option (Int32)
  | 0, _, _, _ => none
  | n + 1, l1, l2, l3 => if (σ 75 3) ≤ l3 then (c4 l1 (l2 + 1)) else ((M_isLine l2 l3 σ).bind fun v2 => if v2 = 0 then (M_lines_c16 σ c4 n (l1 + 0) l2 (l3 + 1)) else (M_lines_c16 σ c4 n (l1 + 1) l2 (l3 + 1)))
theorem M_lines_g16 {σ : zSt} {c4 : Int32 → Int32 → Option (Int32)} (hc4 : ∀ {d3 : Option Value} {l1 : Int32} {l2 : Int32} {r : Int32}, c4 l1 l2 = some r → zGo zPT zmlc zP_243 (4, [some (.ref 75), some (.int l1), some (.int l2), d3], [], σ) (some (.int r), σ)) : ∀ (n : Nat) {l1 : Int32} {l2 : Int32} {l3 : Int32} {r : Int32}, M_lines_c16 σ c4 n l1 l2 l3 = some r → zGo zPT zmlc zP_243 (16, [some (.ref 75), some (.int l1), some (.int l2), some (.int l3)], [], σ) (some (.int r), σ) := by
  intro n
  induction n with
  | zero => intro l1 l2 l3 r h; cases h
  | succ n ih =>
    intro l1 l2 l3 r h
    rw [M_lines_c16] at h
    refine zGo.sts 3 (cf' := (21, [some (.ref 75), some (.int l1), some (.int l2), some (.int l3)], [.int (σ 75 3), .int l3], σ)) rfl ?_
    by_cases hb4 : (σ 75 3) ≤ l3
    · replace h := zif_t hb4 h
      refine zC_ge_t rfl hb4 ?_
      refine zGo.sts 2 (cf' := (4, [some (.ref 75), some (.int l1), some (.int (l2 + 1)), some (.int l3)], [], σ)) rfl ?_
      exact hc4 h
    · replace h := zif_f hb4 h
      refine zC_ge_f rfl hb4 ?_
      refine zGo.sts 4 (cf' := (28, [some (.ref 75), some (.int l1), some (.int l2), some (.int l3)], [.int l3, .int l2, .ref 75, .int l1], σ)) rfl ?_
      obtain ⟨v2, hv, h⟩ := zbd h
      refine zGo.call rfl rfl (M_isLine_g hv) ?_
      by_cases hb3 : v2 = 0
      · replace h := zif_t hb3 h
        refine zI_eq_t rfl hb3 ?_
        refine zGo.sts 5 (cf' := (16, [some (.ref 75), some (.int (l1 + 0)), some (.int l2), some (.int (l3 + 1))], [], σ)) rfl ?_
        exact ih h
      · replace h := zif_f hb3 h
        refine zI_eq_f rfl hb3 ?_
        refine zGo.sts 6 (cf' := (16, [some (.ref 75), some (.int (l1 + 1)), some (.int l2), some (.int (l3 + 1))], [], σ)) rfl ?_
        exact ih h
def M_lines_c4 (σ : zSt) : Nat → Int32 → Int32 → Option (Int32)
  | 0, _, _ => none
  | n + 1, l1, l2 => if (σ 75 3) ≤ l2 then (some l1) else (M_lines_c16 σ (M_lines_c4 σ n) zF l1 l2 (l2 + 1))
theorem M_lines_g4 {σ : zSt} : ∀ (n : Nat) {d3 : Option Value} {l1 : Int32} {l2 : Int32} {r : Int32}, M_lines_c4 σ n l1 l2 = some r → zGo zPT zmlc zP_243 (4, [some (.ref 75), some (.int l1), some (.int l2), d3], [], σ) (some (.int r), σ) := by
  intro n
  induction n with
  | zero => intro d3 l1 l2 r h; cases h
  | succ n ih =>
    intro d3 l1 l2 r h
    rw [M_lines_c4] at h
    refine zGo.sts 3 (cf' := (9, [some (.ref 75), some (.int l1), some (.int l2), d3], [.int (σ 75 3), .int l2], σ)) rfl ?_
    by_cases hb1 : (σ 75 3) ≤ l2
    · replace h := zif_t hb1 h
      refine zC_ge_t rfl hb1 ?_
      refine zGo.sts 1 (cf' := (54, [some (.ref 75), some (.int l1), some (.int l2), d3], [.int l1], σ)) rfl ?_
      obtain rfl := Option.some.inj h
      exact zGo.ret rfl rfl
    · replace h := zif_f hb1 h
      refine zC_ge_f rfl hb1 ?_
      refine zGo.sts 4 (cf' := (16, [some (.ref 75), some (.int l1), some (.int l2), some (.int (l2 + 1))], [], σ)) rfl ?_
      exact M_lines_g16 ih zF h
def M_lines (σ : zSt) : Option (Int32) := M_lines_c4 σ zF 0 0
theorem M_lines_g {σ : zSt} {r : Int32} (h : M_lines σ = some r) : zGo zPT zmlc (zPT 243) (0, zent (zmlc 243) [.ref 75], [], σ) (some (.int r), σ) := by
  unfold M_lines at h
  show zGo zPT zmlc zP_243 (0, [some (.ref 75), none, none, none], [], σ) _
  refine zGo.sts 4 (cf' := (4, [some (.ref 75), some (.int 0), some (.int 0), none], [], σ)) rfl ?_
  exact M_lines_g4 zF h
def M_image_c28 : Nat → Int32 → zSt → Option (Int32 × zSt)
  | 0, _, _ => none
  | n + 1, l1, σ => if 9 ≤ l1 then (zlet (su σ 75 40 (σ 75 3)) fun σ4 => zlet (su σ4 75 41 (σ4 75 4)) fun σ5 => zlet (su σ5 75 42 (σ5 75 5)) fun σ6 => zlet (su σ6 75 43 (σ6 75 6)) fun σ7 => (M_lines σ7).bind fun v8 => some (v8, σ7)) else ((zld σ 77 l1).bind fun v9 => (zst σ 97 l1 v9).bind fun σ10 => (zld σ10 78 l1).bind fun v11 => (zst σ10 98 l1 v11).bind fun σ12 => M_image_c28 n (l1 + 1) σ12)
theorem M_image_g28 : ∀ (n : Nat) {l1 : Int32} {σ : zSt} {r : Int32 × zSt}, M_image_c28 n l1 σ = some r → zGo zPT zmlc zP_244 (28, [some (.ref 75), some (.int l1)], [], σ) (some (.int r.1), r.2) := by
  intro n
  induction n with
  | zero => intro l1 σ r h; cases h
  | succ n ih =>
    intro l1 σ r h
    rw [M_image_c28] at h
    refine zGo.sts 2 (cf' := (31, [some (.ref 75), some (.int l1)], [.int 9, .int l1], σ)) rfl ?_
    by_cases hb13 : 9 ≤ l1
    · replace h := zif_t hb13 h
      refine zC_ge_t rfl hb13 ?_
      refine zGo.sts 4 (cf' := (72, [some (.ref 75), some (.int l1)], [], (su σ 75 40 (σ 75 3)))) rfl ?_
      replace h := zlet_of h
      generalize su σ 75 40 (σ 75 3) = σ4 at h ⊢
      refine zGo.sts 4 (cf' := (80, [some (.ref 75), some (.int l1)], [], (su σ4 75 41 (σ4 75 4)))) rfl ?_
      replace h := zlet_of h
      generalize su σ4 75 41 (σ4 75 4) = σ5 at h ⊢
      refine zGo.sts 4 (cf' := (88, [some (.ref 75), some (.int l1)], [], (su σ5 75 42 (σ5 75 5)))) rfl ?_
      replace h := zlet_of h
      generalize su σ5 75 42 (σ5 75 5) = σ6 at h ⊢
      refine zGo.sts 4 (cf' := (96, [some (.ref 75), some (.int l1)], [], (su σ6 75 43 (σ6 75 6)))) rfl ?_
      replace h := zlet_of h
      generalize su σ6 75 43 (σ6 75 6) = σ7 at h ⊢
      refine zGo.sts 1 (cf' := (97, [some (.ref 75), some (.int l1)], [.ref 75], σ7)) rfl ?_
      obtain ⟨v8, hv, h⟩ := zbd h
      refine zGo.call rfl rfl (M_lines_g hv) ?_
      obtain rfl := Option.some.inj h
      exact zGo.ret rfl rfl
    · replace h := zif_f hb13 h
      refine zC_ge_f rfl hb13 ?_
      refine zGo.sts 6 (cf' := (44, [some (.ref 75), some (.int l1)], [.int l1, .ref 77, .int l1, .ref 97], σ)) rfl ?_
      obtain ⟨v9, hv, h⟩ := zbd h
      refine zG_ld rfl hv ?_
      obtain ⟨σ10, hv, h⟩ := zbd h
      refine zG_st rfl hv ?_
      refine zGo.sts 6 (cf' := (56, [some (.ref 75), some (.int l1)], [.int l1, .ref 78, .int l1, .ref 98], σ10)) rfl ?_
      obtain ⟨v11, hv, h⟩ := zbd h
      refine zG_ld rfl hv ?_
      obtain ⟨σ12, hv, h⟩ := zbd h
      refine zG_st rfl hv ?_
      refine zGo.sts 2 (cf' := (28, [some (.ref 75), some (.int (l1 + 1))], [], σ12)) rfl ?_
      exact ih h
def M_image_c2 : Nat → Int32 → zSt → Option (Int32 × zSt)
  | 0, _, _ => none
  | n + 1, l1, σ => if 81 ≤ l1 then (M_image_c28 zF 0 σ) else ((zld σ 76 l1).bind fun v1 => (zst σ 96 l1 v1).bind fun σ2 => M_image_c2 n (l1 + 1) σ2)
theorem M_image_g2 : ∀ (n : Nat) {l1 : Int32} {σ : zSt} {r : Int32 × zSt}, M_image_c2 n l1 σ = some r → zGo zPT zmlc zP_244 (2, [some (.ref 75), some (.int l1)], [], σ) (some (.int r.1), r.2) := by
  intro n
  induction n with
  | zero => intro l1 σ r h; cases h
  | succ n ih =>
    intro l1 σ r h
    rw [M_image_c2] at h
    refine zGo.sts 2 (cf' := (5, [some (.ref 75), some (.int l1)], [.int 81, .int l1], σ)) rfl ?_
    by_cases hb3 : 81 ≤ l1
    · replace h := zif_t hb3 h
      refine zC_ge_t rfl hb3 ?_
      refine zGo.sts 2 (cf' := (28, [some (.ref 75), some (.int 0)], [], σ)) rfl ?_
      exact M_image_g28 zF h
    · replace h := zif_f hb3 h
      refine zC_ge_f rfl hb3 ?_
      refine zGo.sts 6 (cf' := (18, [some (.ref 75), some (.int l1)], [.int l1, .ref 76, .int l1, .ref 96], σ)) rfl ?_
      obtain ⟨v1, hv, h⟩ := zbd h
      refine zG_ld rfl hv ?_
      obtain ⟨σ2, hv, h⟩ := zbd h
      refine zG_st rfl hv ?_
      refine zGo.sts 2 (cf' := (2, [some (.ref 75), some (.int (l1 + 1))], [], σ2)) rfl ?_
      exact ih h
def M_image (σ : zSt) : Option (Int32 × zSt) := M_image_c2 zF 0 σ
theorem M_image_g {σ : zSt} {r : Int32 × zSt} (h : M_image σ = some r) : zGo zPT zmlc (zPT 244) (0, zent (zmlc 244) [.ref 75], [], σ) (some (.int r.1), r.2) := by
  unfold M_image at h
  show zGo zPT zmlc zP_244 (0, [some (.ref 75), none], [], σ) _
  refine zGo.sts 2 (cf' := (2, [some (.ref 75), some (.int 0)], [], σ)) rfl ?_
  exact M_image_g2 zF h
def M_back_c38 : Nat → Int32 → zSt → Option (Int32 × zSt)
  | 0, _, _ => none
  | n + 1, l1, σ => if 9 ≤ l1 then (zlet (su σ 75 3 (σ 75 40)) fun σ5 => zlet (su σ5 75 4 (σ5 75 41)) fun σ6 => zlet (su σ6 75 5 (σ6 75 42)) fun σ7 => zlet (su σ7 75 6 (σ7 75 43)) fun σ8 => (M_forgets σ8).bind fun σ9 => (M_lines σ9).bind fun v10 => some (v10, σ9)) else ((zld σ 97 l1).bind fun v11 => (zst σ 77 l1 v11).bind fun σ12 => (zld σ12 98 l1).bind fun v13 => (zst σ12 78 l1 v13).bind fun σ14 => M_back_c38 n (l1 + 1) σ14)
theorem M_back_g38 : ∀ (n : Nat) {l1 : Int32} {σ : zSt} {r : Int32 × zSt}, M_back_c38 n l1 σ = some r → zGo zPT zmlc zP_245 (38, [some (.ref 75), some (.int l1)], [], σ) (some (.int r.1), r.2) := by
  intro n
  induction n with
  | zero => intro l1 σ r h; cases h
  | succ n ih =>
    intro l1 σ r h
    rw [M_back_c38] at h
    refine zGo.sts 2 (cf' := (41, [some (.ref 75), some (.int l1)], [.int 9, .int l1], σ)) rfl ?_
    by_cases hb15 : 9 ≤ l1
    · replace h := zif_t hb15 h
      refine zC_ge_t rfl hb15 ?_
      refine zGo.sts 4 (cf' := (82, [some (.ref 75), some (.int l1)], [], (su σ 75 3 (σ 75 40)))) rfl ?_
      replace h := zlet_of h
      generalize su σ 75 3 (σ 75 40) = σ5 at h ⊢
      refine zGo.sts 4 (cf' := (90, [some (.ref 75), some (.int l1)], [], (su σ5 75 4 (σ5 75 41)))) rfl ?_
      replace h := zlet_of h
      generalize su σ5 75 4 (σ5 75 41) = σ6 at h ⊢
      refine zGo.sts 4 (cf' := (98, [some (.ref 75), some (.int l1)], [], (su σ6 75 5 (σ6 75 42)))) rfl ?_
      replace h := zlet_of h
      generalize su σ6 75 5 (σ6 75 42) = σ7 at h ⊢
      refine zGo.sts 4 (cf' := (106, [some (.ref 75), some (.int l1)], [], (su σ7 75 6 (σ7 75 43)))) rfl ?_
      replace h := zlet_of h
      generalize su σ7 75 6 (σ7 75 43) = σ8 at h ⊢
      refine zGo.sts 1 (cf' := (107, [some (.ref 75), some (.int l1)], [.ref 75], σ8)) rfl ?_
      obtain ⟨σ9, hv, h⟩ := zbd h
      refine zGo.call rfl rfl (M_forgets_g hv) ?_
      refine zGo.sts 1 (cf' := (111, [some (.ref 75), some (.int l1)], [.ref 75], σ9)) rfl ?_
      obtain ⟨v10, hv, h⟩ := zbd h
      refine zGo.call rfl rfl (M_lines_g hv) ?_
      obtain rfl := Option.some.inj h
      exact zGo.ret rfl rfl
    · replace h := zif_f hb15 h
      refine zC_ge_f rfl hb15 ?_
      refine zGo.sts 6 (cf' := (54, [some (.ref 75), some (.int l1)], [.int l1, .ref 97, .int l1, .ref 77], σ)) rfl ?_
      obtain ⟨v11, hv, h⟩ := zbd h
      refine zG_ld rfl hv ?_
      obtain ⟨σ12, hv, h⟩ := zbd h
      refine zG_st rfl hv ?_
      refine zGo.sts 6 (cf' := (66, [some (.ref 75), some (.int l1)], [.int l1, .ref 98, .int l1, .ref 78], σ12)) rfl ?_
      obtain ⟨v13, hv, h⟩ := zbd h
      refine zG_ld rfl hv ?_
      obtain ⟨σ14, hv, h⟩ := zbd h
      refine zG_st rfl hv ?_
      refine zGo.sts 2 (cf' := (38, [some (.ref 75), some (.int (l1 + 1))], [], σ14)) rfl ?_
      exact ih h
def M_back_c12 : Nat → Int32 → zSt → Option (Int32 × zSt)
  | 0, _, _ => none
  | n + 1, l1, σ => if 81 ≤ l1 then (M_back_c38 zF 0 σ) else ((zld σ 96 l1).bind fun v2 => (zst σ 76 l1 v2).bind fun σ3 => M_back_c12 n (l1 + 1) σ3)
theorem M_back_g12 : ∀ (n : Nat) {l1 : Int32} {σ : zSt} {r : Int32 × zSt}, M_back_c12 n l1 σ = some r → zGo zPT zmlc zP_245 (12, [some (.ref 75), some (.int l1)], [], σ) (some (.int r.1), r.2) := by
  intro n
  induction n with
  | zero => intro l1 σ r h; cases h
  | succ n ih =>
    intro l1 σ r h
    rw [M_back_c12] at h
    refine zGo.sts 2 (cf' := (15, [some (.ref 75), some (.int l1)], [.int 81, .int l1], σ)) rfl ?_
    by_cases hb4 : 81 ≤ l1
    · replace h := zif_t hb4 h
      refine zC_ge_t rfl hb4 ?_
      refine zGo.sts 2 (cf' := (38, [some (.ref 75), some (.int 0)], [], σ)) rfl ?_
      exact M_back_g38 zF h
    · replace h := zif_f hb4 h
      refine zC_ge_f rfl hb4 ?_
      refine zGo.sts 6 (cf' := (28, [some (.ref 75), some (.int l1)], [.int l1, .ref 96, .int l1, .ref 76], σ)) rfl ?_
      obtain ⟨v2, hv, h⟩ := zbd h
      refine zG_ld rfl hv ?_
      obtain ⟨σ3, hv, h⟩ := zbd h
      refine zG_st rfl hv ?_
      refine zGo.sts 2 (cf' := (12, [some (.ref 75), some (.int (l1 + 1))], [], σ3)) rfl ?_
      exact ih h
def M_back (σ : zSt) : Option (Int32 × zSt) := if ¬ (σ 75 40) = 0 then (M_back_c12 zF 0 σ) else (some ((-5), σ))
theorem M_back_g {σ : zSt} {r : Int32 × zSt} (h : M_back σ = some r) : zGo zPT zmlc (zPT 245) (0, zent (zmlc 245) [.ref 75], [], σ) (some (.int r.1), r.2) := by
  unfold M_back at h
  show zGo zPT zmlc zP_245 (0, [some (.ref 75), none], [], σ) _
  refine zGo.sts 2 (cf' := (4, [some (.ref 75), none], [.int (σ 75 40)], σ)) rfl ?_
  by_cases hb1 : ¬ (σ 75 40) = 0
  · replace h := zif_t hb1 h
    refine zI_ne_t rfl hb1 ?_
    refine zGo.sts 2 (cf' := (12, [some (.ref 75), some (.int 0)], [], σ)) rfl ?_
    exact M_back_g12 zF h
  · replace h := zif_f hb1 h
    refine zI_ne_f rfl hb1 ?_
    refine zGo.sts 1 (cf' := (9, [some (.ref 75), none], [.int (-5)], σ)) rfl ?_
    obtain rfl := Option.some.inj h
    exact zGo.ret rfl rfl
def M_degree_c13 (σ : zSt) : Nat → Int32 → Int32 → Int32 → Option (Int32)
  | 0, _, _, _ => none
  | n + 1, l1, l2, l3 => if (σ 75 3) ≤ l3 then (some (l1 * l2)) else ((M_neighbours l3 σ).bind fun v3 => (M_bits v3 σ).bind fun v4 => if (l1 * v4) ≤ l2 then (M_degree_c13 σ n l1 l2 (l3 + 1)) else ((M_neighbours l3 σ).bind fun v5 => (M_bits v5 σ).bind fun v6 => M_degree_c13 σ n l1 (l1 * v6) (l3 + 1)))
theorem M_degree_g13 {σ : zSt} : ∀ (n : Nat) {l1 : Int32} {l2 : Int32} {l3 : Int32} {r : Int32}, M_degree_c13 σ n l1 l2 l3 = some r → zGo zPT zmlc zP_246 (13, [some (.ref 75), some (.int l1), some (.int l2), some (.int l3)], [], σ) (some (.int r), σ) := by
  intro n
  induction n with
  | zero => intro l1 l2 l3 r h; cases h
  | succ n ih =>
    intro l1 l2 l3 r h
    rw [M_degree_c13] at h
    refine zGo.sts 3 (cf' := (18, [some (.ref 75), some (.int l1), some (.int l2), some (.int l3)], [.int (σ 75 3), .int l3], σ)) rfl ?_
    by_cases hb8 : (σ 75 3) ≤ l3
    · replace h := zif_t hb8 h
      refine zC_ge_t rfl hb8 ?_
      refine zGo.sts 3 (cf' := (59, [some (.ref 75), some (.int l1), some (.int l2), some (.int l3)], [.int (l1 * l2)], σ)) rfl ?_
      obtain rfl := Option.some.inj h
      exact zGo.ret rfl rfl
    · replace h := zif_f hb8 h
      refine zC_ge_f rfl hb8 ?_
      refine zGo.sts 3 (cf' := (24, [some (.ref 75), some (.int l1), some (.int l2), some (.int l3)], [.int l3, .ref 75, .int l1], σ)) rfl ?_
      obtain ⟨v3, hv, h⟩ := zbd h
      refine zGo.call rfl rfl (M_neighbours_g hv) ?_
      obtain ⟨v4, hv, h⟩ := zbd h
      refine zGo.call rfl rfl (M_bits_g hv) ?_
      refine zGo.sts 2 (cf' := (32, [some (.ref 75), some (.int l1), some (.int l2), some (.int l3)], [.int l2, .int (l1 * v4)], σ)) rfl ?_
      by_cases hb7 : (l1 * v4) ≤ l2
      · replace h := zif_t hb7 h
        refine zC_le_t rfl hb7 ?_
        refine zGo.sts 4 (cf' := (13, [some (.ref 75), some (.int l1), some (.int l2), some (.int (l3 + 1))], [], σ)) rfl ?_
        exact ih h
      · replace h := zif_f hb7 h
        refine zC_le_f rfl hb7 ?_
        refine zGo.sts 3 (cf' := (38, [some (.ref 75), some (.int l1), some (.int l2), some (.int l3)], [.int l3, .ref 75, .int l1], σ)) rfl ?_
        obtain ⟨v5, hv, h⟩ := zbd h
        refine zGo.call rfl rfl (M_neighbours_g hv) ?_
        obtain ⟨v6, hv, h⟩ := zbd h
        refine zGo.call rfl rfl (M_bits_g hv) ?_
        refine zGo.sts 5 (cf' := (13, [some (.ref 75), some (.int l1), some (.int (l1 * v6)), some (.int (l3 + 1))], [], σ)) rfl ?_
        exact ih h
def M_degree (l1 : Int32) (σ : zSt) : Option (Int32) := (M_neighbours 0 σ).bind fun v1 => (M_bits v1 σ).bind fun v2 => M_degree_c13 σ zF l1 (l1 * v2) 1
theorem M_degree_g {l1 : Int32} {σ : zSt} {r : Int32} (h : M_degree l1 σ = some r) : zGo zPT zmlc (zPT 246) (0, zent (zmlc 246) [.ref 75, .int l1], [], σ) (some (.int r), σ) := by
  unfold M_degree at h
  show zGo zPT zmlc zP_246 (0, [some (.ref 75), some (.int l1), none, none], [], σ) _
  refine zGo.sts 3 (cf' := (3, [some (.ref 75), some (.int l1), none, none], [.int 0, .ref 75, .int l1], σ)) rfl ?_
  obtain ⟨v1, hv, h⟩ := zbd h
  refine zGo.call rfl rfl (M_neighbours_g hv) ?_
  obtain ⟨v2, hv, h⟩ := zbd h
  refine zGo.call rfl rfl (M_bits_g hv) ?_
  refine zGo.sts 4 (cf' := (13, [some (.ref 75), some (.int l1), some (.int (l1 * v2)), some (.int 1)], [], σ)) rfl ?_
  exact M_degree_g13 zF h
def M_parts_c13 : Nat → Int32 → Int32 → Int32 → zSt → Option (Int32 × zSt)
  | 0, _, _, _, _ => none
  | n + 1, l1, l2, l3, σ => if (σ 75 3) ≤ l3 then (some (l2, σ)) else ((M_has l1 l3 σ).bind fun v2 => if ¬ v2 = 0 then ((M_partOf l3 (σ 75 14) σ).bind fun v3 => M_parts_c13 n (l1 &&& (v3 ^^^ (-1))) (l2 + 1) (l3 + 1) σ) else (M_parts_c13 n l1 l2 (l3 + 1) σ))
theorem M_parts_g13 : ∀ (n : Nat) {l1 : Int32} {l2 : Int32} {l3 : Int32} {σ : zSt} {r : Int32 × zSt}, M_parts_c13 n l1 l2 l3 σ = some r → zGo zPT zmlc zP_247 (13, [some (.ref 75), some (.int l1), some (.int l2), some (.int l3)], [], σ) (some (.int r.1), r.2) := by
  intro n
  induction n with
  | zero => intro l1 l2 l3 σ r h; cases h
  | succ n ih =>
    intro l1 l2 l3 σ r h
    rw [M_parts_c13] at h
    refine zGo.sts 3 (cf' := (18, [some (.ref 75), some (.int l1), some (.int l2), some (.int l3)], [.int (σ 75 3), .int l3], σ)) rfl ?_
    by_cases hb5 : (σ 75 3) ≤ l3
    · replace h := zif_t hb5 h
      refine zC_ge_t rfl hb5 ?_
      refine zGo.sts 1 (cf' := (56, [some (.ref 75), some (.int l1), some (.int l2), some (.int l3)], [.int l2], σ)) rfl ?_
      obtain rfl := Option.some.inj h
      exact zGo.ret rfl rfl
    · replace h := zif_f hb5 h
      refine zC_ge_f rfl hb5 ?_
      refine zGo.sts 2 (cf' := (23, [some (.ref 75), some (.int l1), some (.int l2), some (.int l3)], [.int l3, .int l1], σ)) rfl ?_
      obtain ⟨v2, hv, h⟩ := zbd h
      refine zGo.call rfl rfl (M_has_g hv) ?_
      by_cases hb4 : ¬ v2 = 0
      · replace h := zif_t hb4 h
        refine zI_ne_t rfl hb4 ?_
        refine zGo.sts 5 (cf' := (39, [some (.ref 75), some (.int l1), some (.int l2), some (.int l3)], [.int (σ 75 14), .int l3, .ref 75, .int l1], σ)) rfl ?_
        obtain ⟨v3, hv, h⟩ := zbd h
        refine zGo.call rfl rfl (M_partOf_g hv) ?_
        refine zGo.sts 7 (cf' := (13, [some (.ref 75), some (.int (l1 &&& (v3 ^^^ (-1)))), some (.int (l2 + 1)), some (.int (l3 + 1))], [], σ)) rfl ?_
        exact ih h
      · replace h := zif_f hb4 h
        refine zI_ne_f rfl hb4 ?_
        refine zGo.sts 3 (cf' := (13, [some (.ref 75), some (.int l1), some (.int l2), some (.int (l3 + 1))], [], σ)) rfl ?_
        exact ih h
def M_parts (σ : zSt) : Option (Int32 × zSt) := (M_takes σ).bind fun σ1 => M_parts_c13 zF (σ1 75 14) 0 0 σ1
theorem M_parts_g {σ : zSt} {r : Int32 × zSt} (h : M_parts σ = some r) : zGo zPT zmlc (zPT 247) (0, zent (zmlc 247) [.ref 75], [], σ) (some (.int r.1), r.2) := by
  unfold M_parts at h
  show zGo zPT zmlc zP_247 (0, [some (.ref 75), none, none, none], [], σ) _
  refine zGo.sts 1 (cf' := (1, [some (.ref 75), none, none, none], [.ref 75], σ)) rfl ?_
  obtain ⟨σ1, hv, h⟩ := zbd h
  refine zGo.call rfl rfl (M_takes_g hv) ?_
  refine zGo.sts 7 (cf' := (13, [some (.ref 75), some (.int (σ1 75 14)), some (.int 0), some (.int 0)], [], σ1)) rfl ?_
  exact M_parts_g13 zF h
def M_count (l1 : Int32) (σ : zSt) : Option (Int32 × zSt) := if l1 = 0 then (some (σ 75 3, σ)) else (if l1 = 1 then ((M_lines σ).bind fun v3 => some (v3, σ)) else (if l1 = 2 then (some (σ 75 4, σ)) else (if l1 = 3 then (some (σ 75 5, σ)) else (if l1 = 4 then (some (σ 75 6, σ)) else (if l1 = 5 then ((M_degree (-1) σ).bind fun v8 => some (v8, σ)) else (if l1 = 6 then ((M_degree 1 σ).bind fun v10 => some (v10, σ)) else (if l1 = 7 then (zb2 (M_parts σ) fun v12 σ13 => some (v12, σ13)) else (if l1 = 8 then (some (σ 75 11, σ)) else (if l1 = 9 then (some (σ 75 12, σ)) else (if l1 = 10 then (some (σ 75 28, σ)) else (some ((-1), σ))))))))))))
theorem M_count_g {l1 : Int32} {σ : zSt} {r : Int32 × zSt} (h : M_count l1 σ = some r) : zGo zPT zmlc (zPT 248) (0, zent (zmlc 248) [.ref 75, .int l1], [], σ) (some (.int r.1), r.2) := by
  unfold M_count at h
  show zGo zPT zmlc zP_248 (0, [some (.ref 75), some (.int l1)], [], σ) _
  refine zGo.sts 1 (cf' := (1, [some (.ref 75), some (.int l1)], [.int l1], σ)) rfl ?_
  by_cases hb1 : l1 = 0
  · replace h := zif_t hb1 h
    refine zG_sw rfl (zsw_t hb1) ?_
    refine zGo.sts 2 (cf' := (64, [some (.ref 75), some (.int l1)], [.int (σ 75 3)], σ)) rfl ?_
    obtain rfl := Option.some.inj h
    exact zGo.ret rfl rfl
  · replace h := zif_f hb1 h
    by_cases hb2 : l1 = 1
    · replace h := zif_t hb2 h
      refine zG_sw rfl ((zsw_f hb1).trans (zsw_t hb2)) ?_
      refine zGo.sts 1 (cf' := (66, [some (.ref 75), some (.int l1)], [.ref 75], σ)) rfl ?_
      obtain ⟨v3, hv, h⟩ := zbd h
      refine zGo.call rfl rfl (M_lines_g hv) ?_
      obtain rfl := Option.some.inj h
      exact zGo.ret rfl rfl
    · replace h := zif_f hb2 h
      by_cases hb4 : l1 = 2
      · replace h := zif_t hb4 h
        refine zG_sw rfl ((zsw_f hb1).trans ((zsw_f hb2).trans (zsw_t hb4))) ?_
        refine zGo.sts 2 (cf' := (74, [some (.ref 75), some (.int l1)], [.int (σ 75 4)], σ)) rfl ?_
        obtain rfl := Option.some.inj h
        exact zGo.ret rfl rfl
      · replace h := zif_f hb4 h
        by_cases hb5 : l1 = 3
        · replace h := zif_t hb5 h
          refine zG_sw rfl ((zsw_f hb1).trans ((zsw_f hb2).trans ((zsw_f hb4).trans (zsw_t hb5)))) ?_
          refine zGo.sts 2 (cf' := (79, [some (.ref 75), some (.int l1)], [.int (σ 75 5)], σ)) rfl ?_
          obtain rfl := Option.some.inj h
          exact zGo.ret rfl rfl
        · replace h := zif_f hb5 h
          by_cases hb6 : l1 = 4
          · replace h := zif_t hb6 h
            refine zG_sw rfl ((zsw_f hb1).trans ((zsw_f hb2).trans ((zsw_f hb4).trans ((zsw_f hb5).trans (zsw_t hb6))))) ?_
            refine zGo.sts 2 (cf' := (84, [some (.ref 75), some (.int l1)], [.int (σ 75 6)], σ)) rfl ?_
            obtain rfl := Option.some.inj h
            exact zGo.ret rfl rfl
          · replace h := zif_f hb6 h
            by_cases hb7 : l1 = 5
            · replace h := zif_t hb7 h
              refine zG_sw rfl ((zsw_f hb1).trans ((zsw_f hb2).trans ((zsw_f hb4).trans ((zsw_f hb5).trans ((zsw_f hb6).trans (zsw_t hb7)))))) ?_
              refine zGo.sts 2 (cf' := (87, [some (.ref 75), some (.int l1)], [.int (-1), .ref 75], σ)) rfl ?_
              obtain ⟨v8, hv, h⟩ := zbd h
              refine zGo.call rfl rfl (M_degree_g hv) ?_
              obtain rfl := Option.some.inj h
              exact zGo.ret rfl rfl
            · replace h := zif_f hb7 h
              by_cases hb9 : l1 = 6
              · replace h := zif_t hb9 h
                refine zG_sw rfl ((zsw_f hb1).trans ((zsw_f hb2).trans ((zsw_f hb4).trans ((zsw_f hb5).trans ((zsw_f hb6).trans ((zsw_f hb7).trans (zsw_t hb9))))))) ?_
                refine zGo.sts 2 (cf' := (93, [some (.ref 75), some (.int l1)], [.int 1, .ref 75], σ)) rfl ?_
                obtain ⟨v10, hv, h⟩ := zbd h
                refine zGo.call rfl rfl (M_degree_g hv) ?_
                obtain rfl := Option.some.inj h
                exact zGo.ret rfl rfl
              · replace h := zif_f hb9 h
                by_cases hb11 : l1 = 7
                · replace h := zif_t hb11 h
                  refine zG_sw rfl ((zsw_f hb1).trans ((zsw_f hb2).trans ((zsw_f hb4).trans ((zsw_f hb5).trans ((zsw_f hb6).trans ((zsw_f hb7).trans ((zsw_f hb9).trans (zsw_t hb11)))))))) ?_
                  refine zGo.sts 1 (cf' := (98, [some (.ref 75), some (.int l1)], [.ref 75], σ)) rfl ?_
                  obtain ⟨v12, σ13, hv, h⟩ := zbd2 h
                  refine zGo.call rfl rfl (M_parts_g hv) ?_
                  obtain rfl := Option.some.inj h
                  exact zGo.ret rfl rfl
                · replace h := zif_f hb11 h
                  by_cases hb14 : l1 = 8
                  · replace h := zif_t hb14 h
                    refine zG_sw rfl ((zsw_f hb1).trans ((zsw_f hb2).trans ((zsw_f hb4).trans ((zsw_f hb5).trans ((zsw_f hb6).trans ((zsw_f hb7).trans ((zsw_f hb9).trans ((zsw_f hb11).trans (zsw_t hb14))))))))) ?_
                    refine zGo.sts 2 (cf' := (106, [some (.ref 75), some (.int l1)], [.int (σ 75 11)], σ)) rfl ?_
                    obtain rfl := Option.some.inj h
                    exact zGo.ret rfl rfl
                  · replace h := zif_f hb14 h
                    by_cases hb15 : l1 = 9
                    · replace h := zif_t hb15 h
                      refine zG_sw rfl ((zsw_f hb1).trans ((zsw_f hb2).trans ((zsw_f hb4).trans ((zsw_f hb5).trans ((zsw_f hb6).trans ((zsw_f hb7).trans ((zsw_f hb9).trans ((zsw_f hb11).trans ((zsw_f hb14).trans (zsw_t hb15)))))))))) ?_
                      refine zGo.sts 2 (cf' := (111, [some (.ref 75), some (.int l1)], [.int (σ 75 12)], σ)) rfl ?_
                      obtain rfl := Option.some.inj h
                      exact zGo.ret rfl rfl
                    · replace h := zif_f hb15 h
                      by_cases hb16 : l1 = 10
                      · replace h := zif_t hb16 h
                        refine zG_sw rfl ((zsw_f hb1).trans ((zsw_f hb2).trans ((zsw_f hb4).trans ((zsw_f hb5).trans ((zsw_f hb6).trans ((zsw_f hb7).trans ((zsw_f hb9).trans ((zsw_f hb11).trans ((zsw_f hb14).trans ((zsw_f hb15).trans (zsw_t hb16))))))))))) ?_
                        refine zGo.sts 2 (cf' := (116, [some (.ref 75), some (.int l1)], [.int (σ 75 28)], σ)) rfl ?_
                        obtain rfl := Option.some.inj h
                        exact zGo.ret rfl rfl
                      · replace h := zif_f hb16 h
                        refine zG_sw rfl ((zsw_f hb1).trans ((zsw_f hb2).trans ((zsw_f hb4).trans ((zsw_f hb5).trans ((zsw_f hb6).trans ((zsw_f hb7).trans ((zsw_f hb9).trans ((zsw_f hb11).trans ((zsw_f hb14).trans ((zsw_f hb15).trans ((zsw_f hb16).trans rfl))))))))))) ?_
                        refine zGo.sts 1 (cf' := (118, [some (.ref 75), some (.int l1)], [.int (-1)], σ)) rfl ?_
                        obtain rfl := Option.some.inj h
                        exact zGo.ret rfl rfl

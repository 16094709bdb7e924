/-! THE ABSTRACT MACHINE AGAINST THE MACHINE -/
def zALL : List Cond := lw_tbl.filter goodWord
theorem zALL_of {w : Cond} (h1 : w ∈ lw_tbl) (h2 : goodWord w = true) : w ∈ zALL := List.mem_filter.mpr ⟨h1, h2⟩
theorem zALL_good {w : Cond} (h : w ∈ zALL) : (w.onTables && w.keeps) = true ∨ ∃ ty, w = .arrayClass ty := good_of_word (List.mem_filter.mp h).2
theorem zALL_in {w : Cond} (h : w ∈ zALL) : w ∈ lw_tbl := (List.mem_filter.mp h).1
def zvm (loc : Nat → Nat) : Value → Value
  | .ref a => .ref (loc a)
  | v => v
theorem zvm_cat (loc : Nat → Nat) (v : Value) : (zvm loc v).category = v.category := by cases v <;> rfl
def zlv (loc : Nat → Nat) : List (Option Value) → Nat → List (Nat × Value)
  | [], _ => []
  | none :: t, i => zlv loc t (i + 1)
  | some v :: t, i => (i, zvm loc v) :: zlv loc t (i + 1)
theorem zlv_mem {loc : Nat → Nat} : ∀ {L : List (Option Value)} {i n : Nat} {v : Value}, zget L n = some v → (i + n, zvm loc v) ∈ zlv loc L i
  | [], _, n, _, h => by simp [zget] at h
  | none :: t, i, 0, v, h => by simp [zget] at h
  | some w :: t, i, 0, v, h => by
    simp only [zget, Option.some.injEq] at h
    subst h
    exact List.mem_cons_self
  | none :: t, i, n + 1, v, h => by
    have h2 := zlv_mem (loc := loc) (i := i + 1) (show zget t n = some v from h)
    rw [show i + (n + 1) = i + 1 + n by omega]
    exact h2
  | some w :: t, i, n + 1, v, h => by
    have h2 := zlv_mem (loc := loc) (i := i + 1) (show zget t n = some v from h)
    rw [show i + (n + 1) = i + 1 + n by omega]
    exact List.mem_cons_of_mem _ h2
theorem zlv_set {loc : Nat → Nat} {v : Value} : ∀ {L : List (Option Value)} {i n : Nat} {q : Nat × Value}, q ∈ zlv loc (zset L n v) i → q = (i + n, zvm loc v) ∨ (q ∈ zlv loc L i ∧ q.1 ≠ i + n)
  | [], _, _, q, h => by simp [zset, zlv] at h
  | a :: t, i, 0, q, h => by
    have h2 : q ∈ (i, zvm loc v) :: zlv loc t (i + 1) := h
    rcases List.mem_cons.mp h2 with h3 | h3
    · exact Or.inl (by rw [h3, Nat.add_zero])
    · refine Or.inr ⟨?_, ?_⟩
      · cases a with
        | none => exact h3
        | some w => exact List.mem_cons_of_mem _ h3
      · have key : ∀ (t : List (Option Value)) (j : Nat) (q : Nat × Value), q ∈ zlv loc t j → j ≤ q.1 := by
          intro t
          induction t with
          | nil => intro j q h; simp [zlv] at h
          | cons a t ih =>
            intro j q h
            cases a with
            | none => have := ih (j + 1) q h; omega
            | some w =>
              rcases List.mem_cons.mp (show q ∈ (j, zvm loc w) :: zlv loc t (j + 1) from h) with h | h
              · rw [h]; exact Nat.le_refl j
              · have := ih (j + 1) q h; omega
        have := key t (i + 1) q h3
        omega
  | none :: t, i, n + 1, q, h => by
    have h2 : q ∈ zlv loc (zset t n v) (i + 1) := h
    rcases zlv_set h2 with h3 | ⟨h3, h4⟩
    · exact Or.inl (by rw [h3]; congr 1; omega)
    · exact Or.inr ⟨h3, by omega⟩
  | some w :: t, i, n + 1, q, h => by
    have h2 : q ∈ (i, zvm loc w) :: zlv loc (zset t n v) (i + 1) := h
    rcases List.mem_cons.mp h2 with h3 | h3
    · exact Or.inr ⟨List.mem_cons.mpr (Or.inl h3), by rw [h3]; show i ≠ _; omega⟩
    · rcases zlv_set h3 with h3 | ⟨h3, h4⟩
      · exact Or.inl (by rw [h3]; congr 1; omega)
      · exact Or.inr ⟨List.mem_cons_of_mem _ h3, by omega⟩
theorem zset_len {v : Value} : ∀ {L : List (Option Value)} {n : Nat}, (zset L n v).length = L.length
  | [], _ => rfl
  | _ :: t, 0 => rfl
  | _ :: t, n + 1 => congrArg (· + 1) (zset_len (L := t) (n := n))
def zLR (loc : Nat → Nat) (ls : Array Slot) (nL : Nat) (L : List (Option Value)) : Prop := lv_has ls nL (zlv loc L 0) ∧ ∀ q ∈ zlv loc L 0, q.2.category = 1
theorem zLR.get {loc : Nat → Nat} {ls : Array Slot} {nL n : Nat} {L : List (Option Value)} {v : Value} (h : zLR loc ls nL L) (hg : zget L n = some v) : ls[n]? = some (.val (zvm loc v)) := by
  have h1 := h.1.2.2 _ (zlv_mem (loc := loc) (i := 0) hg)
  rw [show 0 + n = n by omega] at h1
  exact h1
theorem zLR.set {loc : Nat → Nat} {ls ls' : Array Slot} {nL n : Nat} {L : List (Option Value)} {v : Value} (h : zLR loc ls nL L) (hc : (zvm loc v).category = 1) (h' : lv_has ls' nL ((n, zvm loc v) :: (zlv loc L 0).filter (fun q => !(q.1 == n) && !(q.1 + 1 == n && q.2.category == 2)))) : zLR loc ls' nL (zset L n v) := by
  refine ⟨⟨h'.1, h'.2.1, fun q hq => ?_⟩, fun q hq => ?_⟩
  · rcases zlv_set hq with h3 | ⟨h3, h4⟩
    · rw [Nat.zero_add] at h3
      exact h'.2.2 q (by rw [h3]; exact List.mem_cons_self)
    · rw [Nat.zero_add] at h4
      refine h'.2.2 q (List.mem_cons_of_mem _ (List.mem_filter.mpr ⟨h3, ?_⟩))
      have h5 := h.2 q h3
      simp [h4, h5]
  · rcases zlv_set hq with h3 | ⟨h3, h4⟩
    · rw [h3]; exact hc
    · exact h.2 q h3
-- the worlds
def ztys (cA : Nat → ClassId) : List (ClassId × FieldType) := [(cA 0, .int), (cA 1, .boolean), (cA 2, .array .int), (cA 3, .object "ZeroForcer$Change"), (cA 4, .object "ZeroForcer$Row")]
def zent0 (loc : Nat → Nat) (cA : Nat → ClassId) (b : Nat) (f : Nat → Int32) (k : Nat) : va_E :=
  if k = 100 then .inl (cA 0, zln b, .inl f)
  else if k = 101 then .inl (cA 1, zln b, .inl f)
  else if k = 102 then .inl (cA 2, zln b, .inr (.inr (.inr (.inr (fun i => some (loc (ztr b f i)))))))
  else if k = 103 then .inl (cA 3, zln b, .inr (.inr (.inr (.inr (fun i => some (loc (ztr b f i)))))))
  else if k = 104 then .inl (cA 4, zln b, .inr (.inr (.inr (.inr (fun i => some (loc (ztr b f i)))))))
  else .inr (k, (List.range (znf k)).map fun j => bif zrf k j then .ref (loc (ztg b j)) else .int (f j))
def zws (loc : Nat → Nat) (cA : Nat → ClassId) (σ : zSt) : va_W := (List.range zNL).map fun b => (loc b, zent0 loc cA b (σ b) (zkd b))
theorem zws_get {loc : Nat → Nat} {cA : Nat → ClassId} {σ : zSt} {b : Nat} (h : b < zNL) : (zws loc cA σ)[b]? = some (loc b, zent0 loc cA b (σ b) (zkd b)) := by
  unfold zws
  rw [List.getElem?_map, List.getElem?_range h]
  rfl
theorem zws_set {loc : Nat → Nat} {cA : Nat → ClassId} {σ σ' : zSt} {b : Nat} {e : va_E} (he : e = zent0 loc cA b (σ' b) (zkd b)) (hk : ∀ q, q ≠ b → σ' q = σ q) : (zws loc cA σ).set b (loc b, e) = zws loc cA σ' := by
  subst he
  refine List.ext_getElem? (fun i => ?_)
  by_cases hi : i < zNL
  · rw [zws_get hi]
    by_cases e : i = b
    · subst e
      rw [List.getElem?_set_self (by unfold zws; simpa using hi)]
    · rw [List.getElem?_set_ne (Ne.symm e), zws_get hi, hk i e]
  · have h1 : zNL ≤ i := Nat.not_lt.mp hi
    rw [List.getElem?_eq_none (by simpa [zws] using h1), List.getElem?_eq_none (by simpa [zws] using h1)]
theorem zbq (a b : Nat) : Nat.beq a b = decide (a = b) := by
  cases h : Nat.beq a b with
  | true => rw [Nat.eq_of_beq_eq_true h]; simp
  | false =>
    have := Nat.ne_of_beq_eq_false h
    simp [this]
theorem zbl (a b : Nat) : Nat.ble a b = decide (a ≤ b) := by
  cases h : Nat.ble a b with
  | true => have := Nat.le_of_ble_eq_true h; simp [this]
  | false =>
    have : ¬ a ≤ b := fun q => by rw [Nat.ble_eq_true_of_le q] at h; cases h
    simp [this]
theorem zblt (a b : Nat) : Nat.blt a b = decide (a < b) := zbl (a + 1) b
theorem su_ne {σ : zSt} {a i : Nat} {v : Int32} : ∀ q, q ≠ a → su σ a i v q = σ q := by
  intro q hq
  funext j
  simp [su, zbq, hq]
theorem su_at {σ : zSt} {a i : Nat} {v : Int32} : su σ a i v a = upd (σ a) i v := by
  funext j
  simp [su, zbq, upd, Bool.cond_eq_ite]
theorem sw_ne {σ : zSt} {a : Nat} {f : Nat → Int32} : ∀ q, q ≠ a → sw σ a f q = σ q := by
  intro q hq
  simp [sw, zbq, hq]
theorem sw_at {σ : zSt} {a : Nat} {f : Nat → Int32} : sw σ a f a = f := by simp [sw, zbq]
theorem zkd_lt {b k : Nat} (h : zkd b = k) (h1 : k ≠ 99) (h2 : k ≠ 105) (h3 : k ≠ 106) : b < zNL := by
  refine Nat.not_le.mp fun q => ?_
  have h9 : 99 ≤ b := q
  have h0 : ∀ m, m ≤ 99 → Nat.ble m b = true := fun m hm => Nat.ble_eq_true_of_le (Nat.le_trans hm h9)
  unfold zkd znd at h
  simp (discharger := decide) only [h0, cond_true] at h
  cases e1 : Nat.ble 200 b <;> cases e2 : Nat.ble 202 b <;> cases e3 : Nat.ble 203 b <;> simp only [e1, e2, e3, cond_true, cond_false] at h <;> first | exact h1 h.symm | exact h2 h.symm | exact h3 h.symm
theorem zbif {α : Type} {c : Bool} {x : Option α} {y : α} (h : (bif c then x else none) = some y) : c = true ∧ x = some y := by
  cases c with
  | true => exact ⟨rfl, h⟩
  | false => cases h
theorem zbin_ {α : Type} {c : Bool} {x : Option α} {y : α} (h : (bif c then none else x) = some y) : c = false ∧ x = some y := by
  cases c with
  | true => cases h
  | false => exact ⟨rfl, h⟩
theorem zob_in {i : Int32} {n : Nat} (h : zob i n = false) : vp_in i n := by
  unfold zob at h
  rw [zbl] at h
  simp only [Bool.or_eq_false_iff, decide_eq_false_iff_not] at h
  exact fun q => q.elim h.1 h.2
theorem zld_of {σ : zSt} {a : Nat} {i v : Int32} (h : zld σ a i = some v) : (zkd a = 100 ∧ vp_in i (zln a) ∧ v = σ a i.toNatClampNeg) ∨ (zkd a = 105 ∧ vp_in i (zln a) ∧ v = zcon a i.toNatClampNeg) := by
  unfold zld at h
  cases h1 : Nat.beq (zkd a) 100 with
  | true =>
    rw [h1, cond_true] at h
    cases h2 : zob i (zln a) with
    | true => rw [h2] at h; cases h
    | false =>
      rw [h2] at h
      exact Or.inl ⟨Nat.eq_of_beq_eq_true h1, zob_in h2, (Option.some.inj h).symm⟩
  | false =>
    rw [h1, cond_false] at h
    cases h3 : Nat.beq (zkd a) 105 with
    | false => rw [h3] at h; cases h
    | true =>
      rw [h3, cond_true] at h
      cases h2 : zob i (zln a) with
      | true => rw [h2] at h; cases h
      | false =>
        rw [h2] at h
        exact Or.inr ⟨Nat.eq_of_beq_eq_true h3, zob_in h2, (Option.some.inj h).symm⟩
theorem zst_of {σ σ' : zSt} {a : Nat} {i v : Int32} (h : zst σ a i v = some σ') : zkd a = 100 ∧ vp_in i (zln a) ∧ σ' = su σ a i.toNatClampNeg v := by
  unfold zst at h
  cases h1 : Nat.beq (zkd a) 100 with
  | false => rw [h1] at h; cases h
  | true =>
    rw [h1, cond_true] at h
    cases h2 : zob i (zln a) with
    | true => rw [h2] at h; cases h
    | false =>
      rw [h2] at h
      exact ⟨Nat.eq_of_beq_eq_true h1, zob_in h2, (Option.some.inj h).symm⟩
theorem zzld_of {σ : zSt} {a : Nat} {i v : Int32} (h : zzld σ a i = some v) : zkd a = 101 ∧ vp_in i (zln a) ∧ v = σ a i.toNatClampNeg := by
  unfold zzld at h
  cases h1 : Nat.beq (zkd a) 101 with
  | false => rw [h1] at h; cases h
  | true =>
    rw [h1, cond_true] at h
    cases h2 : zob i (zln a) with
    | true => rw [h2] at h; cases h
    | false =>
      rw [h2] at h
      exact ⟨Nat.eq_of_beq_eq_true h1, zob_in h2, (Option.some.inj h).symm⟩
theorem zbo_of {v : Int32} (h : zbo v = true) : v = 0 ∨ v = 1 := by
  unfold zbo at h
  simpa using h
theorem zzst_of {σ σ' : zSt} {a : Nat} {i v : Int32} (h : zzst σ a i v = some σ') : zkd a = 101 ∧ vp_in i (zln a) ∧ (v = 0 ∨ v = 1) ∧ σ' = su σ a i.toNatClampNeg v := by
  unfold zzst at h
  cases h1 : Nat.beq (zkd a) 101 with
  | false => rw [h1] at h; cases h
  | true =>
    rw [h1, cond_true] at h
    cases h2 : zob i (zln a) with
    | true => rw [h2] at h; cases h
    | false =>
      cases h3 : zbo v with
      | false => rw [h2, h3] at h; cases h
      | true =>
        rw [h2, h3] at h
        exact ⟨Nat.eq_of_beq_eq_true h1, zob_in h2, zbo_of h3, (Option.some.inj h).symm⟩
theorem zlr_of {σ : zSt} {a v : Nat} {i : Int32} (h : zlr σ a i = some v) : (zkd a = 102 ∨ zkd a = 103 ∨ zkd a = 104) ∧ vp_in i (zln a) ∧ v = ztr a (σ a) i.toNatClampNeg := by
  unfold zlr at h
  cases h1 : zre (zkd a) with
  | false => rw [h1] at h; cases h
  | true =>
    rw [h1, cond_true] at h
    cases h2 : zob i (zln a) with
    | true => rw [h2] at h; cases h
    | false =>
      rw [h2] at h
      refine ⟨?_, zob_in h2, (Option.some.inj h).symm⟩
      unfold zre at h1
      simpa [zbq, or_assoc] using h1
theorem zsR_of {σ σ' : zSt} {a v : Nat} {i : Int32} (h : zsR σ a i v = some σ') : ((zkd a = 102 ∧ zkd v = 100) ∨ (zkd a = 103 ∧ zkd v = 2)) ∧ v < zNL ∧ zsr a = false ∧ vp_in i (zln a) ∧ σ' = su σ a i.toNatClampNeg (Int32.ofNat v) := by
  unfold zsR at h
  obtain ⟨h1, h2⟩ := zbif h
  obtain ⟨h3, h4⟩ := zbin_ h2
  simp only [Bool.and_eq_true, Bool.or_eq_true, zbq, zblt, decide_eq_true_eq, Bool.not_eq_true'] at h1
  exact ⟨h1.1.1, h1.1.2, h1.2, zob_in h3, (Option.some.inj h4).symm⟩
-- the point: what holds of the machine where the abstract one stands
def zSF (loc : Nat → Nat) (A : Nat → Prop) (xs : Nat → Int32) (L0 : Nat) (s : State) : Prop :=
  va_Z "ZeroForcer" "PRIMES" "[I" (.ref (loc 200)) A s s.heap ∧ va_T .int (loc 200) 7 (fun j => .int (zcon 200 j)) A s s.heap ∧ va_Z "ZeroForcer$Bodies" "ABOVE" "[I" (.ref (loc 201)) A s s.heap ∧ va_T .int (loc 201) 5 (fun j => .int (zcon 201 j)) A s s.heap ∧ va_T .int (loc 202) L0 (fun j => .int (xs j)) A s s.heap
def zWd (D : va_G) (loc : Nat → Nat) (cA : Nat → ClassId) (A : Nat → Prop) (xs : Nat → Int32) (L0 : Nat) (s : State) : Prop :=
  va_K D vwCl (ztys cA) s ∧ (∀ q, s.heap.size ≤ q → A q) ∧ (∀ k, k < zNL → A (loc k)) ∧ (∀ i j, i < zNL → j < zNL → loc i = loc j → i = j) ∧ zSF loc A xs L0 s ∧ (∃ k : Class, s.vm.classes[cA 2]? = some k ∧ k.kind = .array (cA 0) (.array .int))
def zCtx (p : Program) (s : State) (m : MethodId) (args : Array Value) (c : Code) (cc : ByteArray) (own : String) (nL : Nat) (D : va_G) (loc : Nat → Nat) (cA : Nat → ClassId) (A : Nat → Prop) (xs : Nat → Int32) (L0 : Nat) : Prop :=
  p.tables.exec = Jvm.exec ∧ c.code = cc ∧ c.maxLocals = nL ∧ s.vm.findClass own = some m.cls ∧ (∀ w ∈ zALL, w.before args s = true) ∧ zWd D loc cA A xs L0 s
def zWk (p : Program) (l : Launch) (e : Env) (R : Room) (s : State) (m : MethodId) (args : Array Value) (below : List Frame) (meth : Method) (c : Code) (cells slots : Nat) (Q : State → Prop) (D : va_G) (loc : Nat → Nat) (cA : Nat → ClassId) (A : Nat → Prop) (nL : Nat) (cf : zCfg) : Prop :=
  ∀ (ls : Array Slot) (H : Heap) (locs : List Loc), zLR loc ls nL cf.2.1 → va_P D vwCl (zws loc cA cf.2.2.2) H → va_S A s.heap H locs → W p l e R s m args below meth c H locs cells slots Q (F0 m cf.1 ls (cf.2.2.1.map (zvm loc)))
def zSim (own : String) (cc : ByteArray) (nL pc : Nat) (f : zCfg → Option zCfg) : Prop :=
  ∀ (p : Program) (l : Launch) (e : Env) (R : Room) (s : State) (m : MethodId) (args : Array Value) (below : List Frame) (meth : Method) (c : Code) (cells slots : Nat) (Q : State → Prop) (D : va_G) (loc : Nat → Nat) (cA : Nat → ClassId) (A : Nat → Prop) (xs : Nat → Int32) (L0 : Nat),
    zCtx p s m args c cc own nL D loc cA A xs L0 → 1 ≤ R.frames → 64 ≤ R.locals → cells ≤ R.cells → slots ≤ R.slots → ∀ (L : List (Option Value)) (S : List Value) (σ : zSt) (cf' : zCfg), f (pc, L, S, σ) = some cf' →
    zWk p l e R s m args below meth c cells slots Q D loc cA A nL cf' → zWk p l e R s m args below meth c cells slots Q D loc cA A nL (pc, L, S, σ)
def zSimX (xs : Nat → Int32) (L0 : Nat) (own : String) (cc : ByteArray) (nL pc : Nat) (f : zCfg → Option zCfg) : Prop :=
  ∀ (p : Program) (l : Launch) (e : Env) (R : Room) (s : State) (m : MethodId) (args : Array Value) (below : List Frame) (meth : Method) (c : Code) (cells slots : Nat) (Q : State → Prop) (D : va_G) (loc : Nat → Nat) (cA : Nat → ClassId) (A : Nat → Prop),
    zCtx p s m args c cc own nL D loc cA A xs L0 → 1 ≤ R.frames → 64 ≤ R.locals → cells ≤ R.cells → slots ≤ R.slots → ∀ (L : List (Option Value)) (S : List Value) (σ : zSt) (cf' : zCfg), f (pc, L, S, σ) = some cf' →
    zWk p l e R s m args below meth c cells slots Q D loc cA A nL cf' → zWk p l e R s m args below meth c cells slots Q D loc cA A nL (pc, L, S, σ)
theorem zSim.X {own : String} {cc : ByteArray} {nL pc : Nat} {f : zCfg → Option zCfg} (h : zSim own cc nL pc f) (xs : Nat → Int32) (L0 : Nat) : zSimX xs L0 own cc nL pc f := fun p l e R s m args below meth c cells slots Q D loc cA A => h p l e R s m args below meth c cells slots Q D loc cA A xs L0
theorem zD {D : va_G} {loc : Nat → Nat} {cA : Nat → ClassId} {A : Nat → Prop} {xs : Nat → Int32} {L0 : Nat} {s : State} (h : zWd D loc cA A xs L0 s) (σ : zSt) : va_D A (zws loc cA σ) := by
  obtain ⟨-, -, h3, h4, -⟩ := h
  have key : ∀ (k : Nat) (q : Nat × va_E), (zws loc cA σ)[k]? = some q → k < zNL ∧ q.1 = loc k := by
    intro k q hk
    have hl : k < zNL := by
      have := (List.getElem?_eq_some_iff.mp hk).1
      simpa [zws] using this
    rw [zws_get hl] at hk
    exact ⟨hl, (congrArg Prod.fst (Option.some.inj hk)).symm⟩
  refine ⟨fun i j p q hi hj e => ?_, fun k q hk => ?_⟩
  · obtain ⟨a1, a2⟩ := key i p hi
    obtain ⟨b1, b2⟩ := key j q hj
    exact h4 i j a1 b1 (a2.symm.trans (e.trans b2))
  · obtain ⟨a1, a2⟩ := key k q hk
    rw [a2]
    exact h3 k a1

theorem zs_iconst {own : String} {cc : ByteArray} {nL pc : Nat} {n : Int} {v : Int32} (hd : decode cc pc = .ok (.iconst n, 1)) (hv : Int32.ofInt n = v) : zSim own cc nL pc (zpush 1 v) := by
  intro p l e R s m args below meth c cells slots Q D loc cA A xs L0 C hR1 hR2 hRc hRs L S σ cf' h K ls H locs hl hP hS
  obtain ⟨hx, hb, hml, hown, hts, hW⟩ := C
  cases h
  exact lv_iconst hx hb hd hv (K ls H locs hl hP hS)
theorem zs_bipush {own : String} {cc : ByteArray} {nL pc : Nat} {n : Int} {v : Int32} (hd : decode cc pc = .ok (.bipush n, 2)) (hv : (Int8.ofInt n).toInt32 = v) : zSim own cc nL pc (zpush 2 v) := by
  intro p l e R s m args below meth c cells slots Q D loc cA A xs L0 C hR1 hR2 hRc hRs L S σ cf' h K ls H locs hl hP hS
  obtain ⟨hx, hb, hml, hown, hts, hW⟩ := C
  cases h
  exact lv_bipush hx hb hd hv (K ls H locs hl hP hS)
theorem zs_sipush {own : String} {cc : ByteArray} {nL pc : Nat} {n : Int} {v : Int32} (hd : decode cc pc = .ok (.sipush n, 3)) (hv : (Int16.ofInt n).toInt32 = v) : zSim own cc nL pc (zpush 3 v) := by
  intro p l e R s m args below meth c cells slots Q D loc cA A xs L0 C hR1 hR2 hRc hRs L S σ cf' h K ls H locs hl hP hS
  obtain ⟨hx, hb, hml, hown, hts, hW⟩ := C
  cases h
  exact lv_sipush hx hb hd hv (K ls H locs hl hP hS)
theorem zs_ldc {own : String} {cc : ByteArray} {nL pc : Nat} {index : Nat} {v : Int32} (hd : decode cc pc = .ok (.ldc index, 2)) (hc : Cond.constant own index v ∈ zALL) : zSim own cc nL pc (zpush 2 v) := by
  intro p l e R s m args below meth c cells slots Q D loc cA A xs L0 C hR1 hR2 hRc hRs L S σ cf' h K ls H locs hl hP hS
  obtain ⟨hx, hb, hml, hown, hts, hW⟩ := C
  cases h
  exact lv_ldc hx hb hown (hts _ hc) hd (K ls H locs hl hP hS)
theorem zs_ldcw {own : String} {cc : ByteArray} {nL pc : Nat} {index : Nat} {v : Int32} (hd : decode cc pc = .ok (.ldc_w index, 3)) (hc : Cond.constant own index v ∈ zALL) : zSim own cc nL pc (zpush 3 v) := by
  intro p l e R s m args below meth c cells slots Q D loc cA A xs L0 C hR1 hR2 hRc hRs L S σ cf' h K ls H locs hl hP hS
  obtain ⟨hx, hb, hml, hown, hts, hW⟩ := C
  cases h
  exact lv_ldcw hx hb hown (hts _ hc) hd (K ls H locs hl hP hS)
theorem zs_iload_n {own : String} {cc : ByteArray} {nL pc : Nat} {k : Fin 4} {i : Nat} (hd : decode cc pc = .ok (.iload_n k, 1)) (hi : (k : Nat) = i) : zSim own cc nL pc (zil 1 i) := by
  intro p l e R s m args below meth c cells slots Q D loc cA A xs L0 C hR1 hR2 hRc hRs L S σ cf' h K ls H locs hl hP hS
  obtain ⟨hx, hb, hml, hown, hts, hW⟩ := C
  unfold zil at h
  dsimp only at h
  split at h
  next x hg =>
    cases h
    exact lv_iload_n hx hb hd hi (hl.get hg) (K ls H locs hl hP hS)
  next => cases h
theorem zs_iload {own : String} {cc : ByteArray} {nL pc : Nat} {i : Nat} (hd : decode cc pc = .ok (.iload i, 2)) : zSim own cc nL pc (zil 2 i) := by
  intro p l e R s m args below meth c cells slots Q D loc cA A xs L0 C hR1 hR2 hRc hRs L S σ cf' h K ls H locs hl hP hS
  obtain ⟨hx, hb, hml, hown, hts, hW⟩ := C
  unfold zil at h
  dsimp only at h
  split at h
  next x hg =>
    cases h
    exact lv_iload hx hb hd (hl.get hg) (K ls H locs hl hP hS)
  next => cases h
theorem zs_aload_n {own : String} {cc : ByteArray} {nL pc : Nat} {k : Fin 4} {i : Nat} (hd : decode cc pc = .ok (.aload_n k, 1)) (hi : (k : Nat) = i) : zSim own cc nL pc (zal 1 i) := by
  intro p l e R s m args below meth c cells slots Q D loc cA A xs L0 C hR1 hR2 hRc hRs L S σ cf' h K ls H locs hl hP hS
  obtain ⟨hx, hb, hml, hown, hts, hW⟩ := C
  unfold zal at h
  dsimp only at h
  split at h
  next x hg =>
    cases h
    exact lv_aload_n hx hb hd hi (hl.get hg) (K ls H locs hl hP hS)
  next hg =>
    cases h
    exact lv_aload_nN hx hb hd hi (hl.get hg) (K ls H locs hl hP hS)
  next => cases h
theorem zs_aload {own : String} {cc : ByteArray} {nL pc : Nat} {i : Nat} (hd : decode cc pc = .ok (.aload i, 2)) : zSim own cc nL pc (zal 2 i) := by
  intro p l e R s m args below meth c cells slots Q D loc cA A xs L0 C hR1 hR2 hRc hRs L S σ cf' h K ls H locs hl hP hS
  obtain ⟨hx, hb, hml, hown, hts, hW⟩ := C
  unfold zal at h
  dsimp only at h
  split at h
  next x hg =>
    cases h
    exact lv_aload hx hb hd (hl.get hg) (K ls H locs hl hP hS)
  next hg =>
    cases h
    exact lv_aloadN hx hb hd (hl.get hg) (K ls H locs hl hP hS)
  next => cases h
theorem zs_istore_n {own : String} {cc : ByteArray} {nL pc : Nat} {k : Fin 4} {i : Nat} (hd : decode cc pc = .ok (.istore_n k, 1)) (hi : (k : Nat) = i) (hn : i < nL) : zSim own cc nL pc (zis 1 i) := by
  intro p l e R s m args below meth c cells slots Q D loc cA A xs L0 C hR1 hR2 hRc hRs L S σ cf' h K ls H locs hl hP hS
  obtain ⟨hx, hb, hml, hown, hts, hW⟩ := C
  unfold zis at h
  dsimp only at h
  split at h
  next x S =>
    cases h
    exact lv_istore_n hx hb hd hi hl.1 hn rfl (fun ls' h' => K ls' H locs (hl.set (v := .int x) rfl h') hP hS)
  next => cases h
theorem zs_istore {own : String} {cc : ByteArray} {nL pc : Nat} {i : Nat} (hd : decode cc pc = .ok (.istore i, 2)) (hn : i < nL) : zSim own cc nL pc (zis 2 i) := by
  intro p l e R s m args below meth c cells slots Q D loc cA A xs L0 C hR1 hR2 hRc hRs L S σ cf' h K ls H locs hl hP hS
  obtain ⟨hx, hb, hml, hown, hts, hW⟩ := C
  unfold zis at h
  dsimp only at h
  split at h
  next x S =>
    cases h
    exact lv_istore hx hb hd hl.1 hn rfl (fun ls' h' => K ls' H locs (hl.set (v := .int x) rfl h') hP hS)
  next => cases h
theorem zs_astore_n {own : String} {cc : ByteArray} {nL pc : Nat} {k : Fin 4} {i : Nat} (hd : decode cc pc = .ok (.astore_n k, 1)) (hi : (k : Nat) = i) (hn : i < nL) : zSim own cc nL pc (zas 1 i) := by
  intro p l e R s m args below meth c cells slots Q D loc cA A xs L0 C hR1 hR2 hRc hRs L S σ cf' h K ls H locs hl hP hS
  obtain ⟨hx, hb, hml, hown, hts, hW⟩ := C
  unfold zas at h
  dsimp only at h
  split at h
  next x S =>
    cases h
    exact lv_astore_n hx hb hd hi hl.1 hn rfl (fun ls' h' => K ls' H locs (hl.set (v := .ref x) rfl h') hP hS)
  next S =>
    cases h
    exact lv_astore_nN hx hb hd hi hl.1 hn rfl (fun ls' h' => K ls' H locs (hl.set (v := .null) rfl h') hP hS)
  next => cases h
theorem zs_astore {own : String} {cc : ByteArray} {nL pc : Nat} {i : Nat} (hd : decode cc pc = .ok (.astore i, 2)) (hn : i < nL) : zSim own cc nL pc (zas 2 i) := by
  intro p l e R s m args below meth c cells slots Q D loc cA A xs L0 C hR1 hR2 hRc hRs L S σ cf' h K ls H locs hl hP hS
  obtain ⟨hx, hb, hml, hown, hts, hW⟩ := C
  unfold zas at h
  dsimp only at h
  split at h
  next x S =>
    cases h
    exact lv_astore hx hb hd hl.1 hn rfl (fun ls' h' => K ls' H locs (hl.set (v := .ref x) rfl h') hP hS)
  next S =>
    cases h
    exact lv_astoreN hx hb hd hl.1 hn rfl (fun ls' h' => K ls' H locs (hl.set (v := .null) rfl h') hP hS)
  next => cases h
theorem zs_iinc {own : String} {cc : ByteArray} {nL pc : Nat} {i : Nat} {n : Int} {v : Int32} (hd : decode cc pc = .ok (.iinc i n, 3)) (hv : Int32.ofInt n = v) (hn : i < nL) : zSim own cc nL pc (zinc i v) := by
  intro p l e R s m args below meth c cells slots Q D loc cA A xs L0 C hR1 hR2 hRc hRs L S σ cf' h K ls H locs hl hP hS
  obtain ⟨hx, hb, hml, hown, hts, hW⟩ := C
  unfold zinc at h
  dsimp only at h
  split at h
  next x hg =>
    cases h
    have hm := zlv_mem (loc := loc) (i := 0) hg
    rw [Nat.zero_add] at hm
    obtain ⟨k, hk⟩ := List.getElem?_of_mem hm
    exact lv_iinc hx hb hd hl.1 hk (by rw [hv]) hn rfl (fun ls' h' => K ls' H locs (hl.set (v := .int (x + v)) rfl h') hP hS)
  next => cases h
theorem zs_iadd {own : String} {cc : ByteArray} {nL pc : Nat} (hd : decode cc pc = .ok (.iadd, 1)) : zSim own cc nL pc (zbin (fun x y => x + y)) := by
  intro p l e R s m args below meth c cells slots Q D loc cA A xs L0 C hR1 hR2 hRc hRs L S σ cf' h K ls H locs hl hP hS
  obtain ⟨hx, hb, hml, hown, hts, hW⟩ := C
  unfold zbin at h
  dsimp only at h
  split at h
  next y x S =>
    cases h
    exact lv_iadd hx hb hd (K ls H locs hl hP hS)
  next => cases h
theorem zs_isub {own : String} {cc : ByteArray} {nL pc : Nat} (hd : decode cc pc = .ok (.isub, 1)) : zSim own cc nL pc (zbin (fun x y => x - y)) := by
  intro p l e R s m args below meth c cells slots Q D loc cA A xs L0 C hR1 hR2 hRc hRs L S σ cf' h K ls H locs hl hP hS
  obtain ⟨hx, hb, hml, hown, hts, hW⟩ := C
  unfold zbin at h
  dsimp only at h
  split at h
  next y x S =>
    cases h
    exact lv_isub hx hb hd (K ls H locs hl hP hS)
  next => cases h
theorem zs_imul {own : String} {cc : ByteArray} {nL pc : Nat} (hd : decode cc pc = .ok (.imul, 1)) : zSim own cc nL pc (zbin (fun x y => x * y)) := by
  intro p l e R s m args below meth c cells slots Q D loc cA A xs L0 C hR1 hR2 hRc hRs L S σ cf' h K ls H locs hl hP hS
  obtain ⟨hx, hb, hml, hown, hts, hW⟩ := C
  unfold zbin at h
  dsimp only at h
  split at h
  next y x S =>
    cases h
    exact lv_imul hx hb hd (K ls H locs hl hP hS)
  next => cases h
theorem zs_iand {own : String} {cc : ByteArray} {nL pc : Nat} (hd : decode cc pc = .ok (.iand, 1)) : zSim own cc nL pc (zbin (fun x y => x &&& y)) := by
  intro p l e R s m args below meth c cells slots Q D loc cA A xs L0 C hR1 hR2 hRc hRs L S σ cf' h K ls H locs hl hP hS
  obtain ⟨hx, hb, hml, hown, hts, hW⟩ := C
  unfold zbin at h
  dsimp only at h
  split at h
  next y x S =>
    cases h
    exact lv_iand hx hb hd (K ls H locs hl hP hS)
  next => cases h
theorem zs_ior {own : String} {cc : ByteArray} {nL pc : Nat} (hd : decode cc pc = .ok (.ior, 1)) : zSim own cc nL pc (zbin (fun x y => x ||| y)) := by
  intro p l e R s m args below meth c cells slots Q D loc cA A xs L0 C hR1 hR2 hRc hRs L S σ cf' h K ls H locs hl hP hS
  obtain ⟨hx, hb, hml, hown, hts, hW⟩ := C
  unfold zbin at h
  dsimp only at h
  split at h
  next y x S =>
    cases h
    exact lv_ior hx hb hd (K ls H locs hl hP hS)
  next => cases h
theorem zs_ixor {own : String} {cc : ByteArray} {nL pc : Nat} (hd : decode cc pc = .ok (.ixor, 1)) : zSim own cc nL pc (zbin (fun x y => x ^^^ y)) := by
  intro p l e R s m args below meth c cells slots Q D loc cA A xs L0 C hR1 hR2 hRc hRs L S σ cf' h K ls H locs hl hP hS
  obtain ⟨hx, hb, hml, hown, hts, hW⟩ := C
  unfold zbin at h
  dsimp only at h
  split at h
  next y x S =>
    cases h
    exact lv_ixor hx hb hd (K ls H locs hl hP hS)
  next => cases h
theorem zs_ishl {own : String} {cc : ByteArray} {nL pc : Nat} (hd : decode cc pc = .ok (.ishl, 1)) : zSim own cc nL pc (zbin (fun x y => x <<< (y &&& 31))) := by
  intro p l e R s m args below meth c cells slots Q D loc cA A xs L0 C hR1 hR2 hRc hRs L S σ cf' h K ls H locs hl hP hS
  obtain ⟨hx, hb, hml, hown, hts, hW⟩ := C
  unfold zbin at h
  dsimp only at h
  split at h
  next y x S =>
    cases h
    exact lv_ishl hx hb hd (K ls H locs hl hP hS)
  next => cases h
theorem zs_ishr {own : String} {cc : ByteArray} {nL pc : Nat} (hd : decode cc pc = .ok (.ishr, 1)) : zSim own cc nL pc (zbin (fun x y => x >>> (y &&& 31))) := by
  intro p l e R s m args below meth c cells slots Q D loc cA A xs L0 C hR1 hR2 hRc hRs L S σ cf' h K ls H locs hl hP hS
  obtain ⟨hx, hb, hml, hown, hts, hW⟩ := C
  unfold zbin at h
  dsimp only at h
  split at h
  next y x S =>
    cases h
    exact lv_ishr hx hb hd (K ls H locs hl hP hS)
  next => cases h
theorem zs_iushr {own : String} {cc : ByteArray} {nL pc : Nat} (hd : decode cc pc = .ok (.iushr, 1)) : zSim own cc nL pc (zbin (fun x y => (x.toUInt32 >>> (y.toUInt32 &&& Int32.toUInt32 31)).toInt32)) := by
  intro p l e R s m args below meth c cells slots Q D loc cA A xs L0 C hR1 hR2 hRc hRs L S σ cf' h K ls H locs hl hP hS
  obtain ⟨hx, hb, hml, hown, hts, hW⟩ := C
  unfold zbin at h
  dsimp only at h
  split at h
  next y x S =>
    cases h
    exact lv_iushr hx hb hd rfl (K ls H locs hl hP hS)
  next => cases h
theorem zs_idiv {own : String} {cc : ByteArray} {nL pc : Nat} (hd : decode cc pc = .ok (.idiv, 1)) : zSim own cc nL pc (zdiv zdvq) := by
  intro p l e R s m args below meth c cells slots Q D loc cA A xs L0 C hR1 hR2 hRc hRs L S σ cf' h K ls H locs hl hP hS
  obtain ⟨hx, hb, hml, hown, hts, hW⟩ := C
  unfold zdiv at h
  dsimp only at h
  split at h
  next y x S =>
    split at h
    next z hz =>
      cases h
      unfold zdvq at hz
      split at hz
      next => cases hz
      next hne =>
        cases hz
        exact lv_idiv hx hb hd hne (K ls H locs hl hP hS)
    next => cases h
  next => cases h
theorem zs_irem {own : String} {cc : ByteArray} {nL pc : Nat} (hd : decode cc pc = .ok (.irem, 1)) : zSim own cc nL pc (zdiv zrmq) := by
  intro p l e R s m args below meth c cells slots Q D loc cA A xs L0 C hR1 hR2 hRc hRs L S σ cf' h K ls H locs hl hP hS
  obtain ⟨hx, hb, hml, hown, hts, hW⟩ := C
  unfold zdiv at h
  dsimp only at h
  split at h
  next y x S =>
    split at h
    next z hz =>
      cases h
      unfold zrmq at hz
      split at hz
      next => cases hz
      next hne =>
        cases hz
        exact lv_irem hx hb hd hne (K ls H locs hl hP hS)
    next => cases h
  next => cases h
theorem zs_ineg {own : String} {cc : ByteArray} {nL pc : Nat} (hd : decode cc pc = .ok (.ineg, 1)) : zSim own cc nL pc (zneg) := by
  intro p l e R s m args below meth c cells slots Q D loc cA A xs L0 C hR1 hR2 hRc hRs L S σ cf' h K ls H locs hl hP hS
  obtain ⟨hx, hb, hml, hown, hts, hW⟩ := C
  unfold zneg at h
  dsimp only at h
  split at h
  next x S =>
    cases h
    exact lv_ineg hx hb hd (K ls H locs hl hP hS)
  next => cases h
theorem zs_dup {own : String} {cc : ByteArray} {nL pc : Nat} (hd : decode cc pc = .ok (.dup, 1)) : zSim own cc nL pc (zdup) := by
  intro p l e R s m args below meth c cells slots Q D loc cA A xs L0 C hR1 hR2 hRc hRs L S σ cf' h K ls H locs hl hP hS
  obtain ⟨hx, hb, hml, hown, hts, hW⟩ := C
  unfold zdup at h
  dsimp only at h
  split at h
  next v S =>
    obtain ⟨h1, h2⟩ := zbif h
    cases h2
    exact lv_dup hx hb hd ((zvm_cat loc v).trans (Nat.eq_of_beq_eq_true h1)) (K ls H locs hl hP hS)
  next => cases h
theorem zs_dup2 {own : String} {cc : ByteArray} {nL pc : Nat} (hd : decode cc pc = .ok (.dup2, 1)) : zSim own cc nL pc (zdup2) := by
  intro p l e R s m args below meth c cells slots Q D loc cA A xs L0 C hR1 hR2 hRc hRs L S σ cf' h K ls H locs hl hP hS
  obtain ⟨hx, hb, hml, hown, hts, hW⟩ := C
  unfold zdup2 at h
  dsimp only at h
  split at h
  next v w S =>
    obtain ⟨h1, h2⟩ := zbif h
    cases h2
    rw [Bool.and_eq_true] at h1
    exact lv_dup2_11 hx hb hd ((zvm_cat loc v).trans (Nat.eq_of_beq_eq_true h1.1)) ((zvm_cat loc w).trans (Nat.eq_of_beq_eq_true h1.2)) (K ls H locs hl hP hS)
  next => cases h
theorem zs_pop {own : String} {cc : ByteArray} {nL pc : Nat} (hd : decode cc pc = .ok (.pop, 1)) : zSim own cc nL pc (zpop) := by
  intro p l e R s m args below meth c cells slots Q D loc cA A xs L0 C hR1 hR2 hRc hRs L S σ cf' h K ls H locs hl hP hS
  obtain ⟨hx, hb, hml, hown, hts, hW⟩ := C
  unfold zpop at h
  dsimp only at h
  split at h
  next v S =>
    obtain ⟨h1, h2⟩ := zbif h
    cases h2
    exact lv_pop hx hb hd ((zvm_cat loc v).trans (Nat.eq_of_beq_eq_true h1)) (K ls H locs hl hP hS)
  next => cases h
theorem zs_goto {own : String} {cc : ByteArray} {nL pc : Nat} {off : Int} {t : Nat} (hd : decode cc pc = .ok (.goto off, 3)) (ht : (pc : Int) + off = (t : Int)) : zSim own cc nL pc (zgoto t) := by
  intro p l e R s m args below meth c cells slots Q D loc cA A xs L0 C hR1 hR2 hRc hRs L S σ cf' h K ls H locs hl hP hS
  obtain ⟨hx, hb, hml, hown, hts, hW⟩ := C
  cases h
  exact lv_goto hx hb hd ht (K ls H locs hl hP hS)
theorem zs_null {own : String} {cc : ByteArray} {nL pc : Nat} (hd : decode cc pc = .ok (.aconst_null, 1)) : zSim own cc nL pc (znul) := by
  intro p l e R s m args below meth c cells slots Q D loc cA A xs L0 C hR1 hR2 hRc hRs L S σ cf' h K ls H locs hl hP hS
  obtain ⟨hx, hb, hml, hown, hts, hW⟩ := C
  cases h
  exact lv_null hx hb hd (K ls H locs hl hP hS)
theorem zs_ifnull {own : String} {cc : ByteArray} {nL pc : Nat} {off : Int} {t : Nat} (hd : decode cc pc = .ok (.ifnull off, 3)) (ht : (pc : Int) + off = (t : Int)) : zSim own cc nL pc (zifn t) := by
  intro p l e R s m args below meth c cells slots Q D loc cA A xs L0 C hR1 hR2 hRc hRs L S σ cf' h K ls H locs hl hP hS
  obtain ⟨hx, hb, hml, hown, hts, hW⟩ := C
  unfold zifn at h
  dsimp only at h
  split at h
  next S =>
    cases h
    exact lv_ifnullN hx hb hd ht (K ls H locs hl hP hS)
  next x S =>
    cases h
    exact lv_ifnull hx hb hd (K ls H locs hl hP hS)
  next => cases h
theorem zs_ifnonnull {own : String} {cc : ByteArray} {nL pc : Nat} {off : Int} {t : Nat} (hd : decode cc pc = .ok (.ifnonnull off, 3)) (ht : (pc : Int) + off = (t : Int)) : zSim own cc nL pc (zifnn t) := by
  intro p l e R s m args below meth c cells slots Q D loc cA A xs L0 C hR1 hR2 hRc hRs L S σ cf' h K ls H locs hl hP hS
  obtain ⟨hx, hb, hml, hown, hts, hW⟩ := C
  unfold zifnn at h
  dsimp only at h
  split at h
  next S =>
    cases h
    exact lv_ifnonnullN hx hb hd (K ls H locs hl hP hS)
  next x S =>
    cases h
    exact lv_ifnonnull hx hb hd ht (K ls H locs hl hP hS)
  next => cases h
theorem zs_ifeq {own : String} {cc : ByteArray} {nL pc : Nat} {off : Int} {t : Nat} (hd : decode cc pc = .ok (.ifCond .eq off, 3)) (ht : (pc : Int) + off = (t : Int)) : zSim own cc nL pc (zi_eq t) := by
  intro p l e R s m args below meth c cells slots Q D loc cA A xs L0 C hR1 hR2 hRc hRs L S σ cf' h K ls H locs hl hP hS
  obtain ⟨hx, hb, hml, hown, hts, hW⟩ := C
  unfold zi_eq at h
  dsimp only at h
  split at h
  next x S =>
    cases h
    refine lv_if_eq hx hb hd ht (fun q => ?_) (fun q => ?_)
    · have K2 := K ls H locs hl hP hS
      rw [if_pos q] at K2
      exact K2
    · have K2 := K ls H locs hl hP hS
      rw [if_neg q] at K2
      exact K2
  next => cases h
theorem zs_icmp_eq {own : String} {cc : ByteArray} {nL pc : Nat} {off : Int} {t : Nat} (hd : decode cc pc = .ok (.if_icmp .eq off, 3)) (ht : (pc : Int) + off = (t : Int)) : zSim own cc nL pc (zc_eq t) := by
  intro p l e R s m args below meth c cells slots Q D loc cA A xs L0 C hR1 hR2 hRc hRs L S σ cf' h K ls H locs hl hP hS
  obtain ⟨hx, hb, hml, hown, hts, hW⟩ := C
  unfold zc_eq at h
  dsimp only at h
  split at h
  next y x S =>
    cases h
    refine lv_icmp_eq hx hb hd ht (fun q => ?_) (fun q => ?_)
    · have K2 := K ls H locs hl hP hS
      rw [if_pos q] at K2
      exact K2
    · have K2 := K ls H locs hl hP hS
      rw [if_neg q] at K2
      exact K2
  next => cases h
theorem zs_ifne {own : String} {cc : ByteArray} {nL pc : Nat} {off : Int} {t : Nat} (hd : decode cc pc = .ok (.ifCond .ne off, 3)) (ht : (pc : Int) + off = (t : Int)) : zSim own cc nL pc (zi_ne t) := by
  intro p l e R s m args below meth c cells slots Q D loc cA A xs L0 C hR1 hR2 hRc hRs L S σ cf' h K ls H locs hl hP hS
  obtain ⟨hx, hb, hml, hown, hts, hW⟩ := C
  unfold zi_ne at h
  dsimp only at h
  split at h
  next x S =>
    cases h
    refine lv_if_ne hx hb hd ht (fun q => ?_) (fun q => ?_)
    · have K2 := K ls H locs hl hP hS
      rw [if_pos q] at K2
      exact K2
    · have K2 := K ls H locs hl hP hS
      rw [if_neg (fun z => z q)] at K2
      exact K2
  next => cases h
theorem zs_icmp_ne {own : String} {cc : ByteArray} {nL pc : Nat} {off : Int} {t : Nat} (hd : decode cc pc = .ok (.if_icmp .ne off, 3)) (ht : (pc : Int) + off = (t : Int)) : zSim own cc nL pc (zc_ne t) := by
  intro p l e R s m args below meth c cells slots Q D loc cA A xs L0 C hR1 hR2 hRc hRs L S σ cf' h K ls H locs hl hP hS
  obtain ⟨hx, hb, hml, hown, hts, hW⟩ := C
  unfold zc_ne at h
  dsimp only at h
  split at h
  next y x S =>
    cases h
    refine lv_icmp_ne hx hb hd ht (fun q => ?_) (fun q => ?_)
    · have K2 := K ls H locs hl hP hS
      rw [if_pos q] at K2
      exact K2
    · have K2 := K ls H locs hl hP hS
      rw [if_neg (fun z => z q)] at K2
      exact K2
  next => cases h
theorem zs_iflt {own : String} {cc : ByteArray} {nL pc : Nat} {off : Int} {t : Nat} (hd : decode cc pc = .ok (.ifCond .lt off, 3)) (ht : (pc : Int) + off = (t : Int)) : zSim own cc nL pc (zi_lt t) := by
  intro p l e R s m args below meth c cells slots Q D loc cA A xs L0 C hR1 hR2 hRc hRs L S σ cf' h K ls H locs hl hP hS
  obtain ⟨hx, hb, hml, hown, hts, hW⟩ := C
  unfold zi_lt at h
  dsimp only at h
  split at h
  next x S =>
    cases h
    refine lv_if_lt hx hb hd ht (fun q => ?_) (fun q => ?_)
    · have K2 := K ls H locs hl hP hS
      rw [if_pos q] at K2
      exact K2
    · have K2 := K ls H locs hl hP hS
      rw [if_neg q] at K2
      exact K2
  next => cases h
theorem zs_icmp_lt {own : String} {cc : ByteArray} {nL pc : Nat} {off : Int} {t : Nat} (hd : decode cc pc = .ok (.if_icmp .lt off, 3)) (ht : (pc : Int) + off = (t : Int)) : zSim own cc nL pc (zc_lt t) := by
  intro p l e R s m args below meth c cells slots Q D loc cA A xs L0 C hR1 hR2 hRc hRs L S σ cf' h K ls H locs hl hP hS
  obtain ⟨hx, hb, hml, hown, hts, hW⟩ := C
  unfold zc_lt at h
  dsimp only at h
  split at h
  next y x S =>
    cases h
    refine lv_icmp_lt hx hb hd ht (fun q => ?_) (fun q => ?_)
    · have K2 := K ls H locs hl hP hS
      rw [if_pos q] at K2
      exact K2
    · have K2 := K ls H locs hl hP hS
      rw [if_neg q] at K2
      exact K2
  next => cases h
theorem zs_ifge {own : String} {cc : ByteArray} {nL pc : Nat} {off : Int} {t : Nat} (hd : decode cc pc = .ok (.ifCond .ge off, 3)) (ht : (pc : Int) + off = (t : Int)) : zSim own cc nL pc (zi_ge t) := by
  intro p l e R s m args below meth c cells slots Q D loc cA A xs L0 C hR1 hR2 hRc hRs L S σ cf' h K ls H locs hl hP hS
  obtain ⟨hx, hb, hml, hown, hts, hW⟩ := C
  unfold zi_ge at h
  dsimp only at h
  split at h
  next x S =>
    cases h
    refine lv_if_ge hx hb hd ht (fun q => ?_) (fun q => ?_)
    · have K2 := K ls H locs hl hP hS
      rw [if_pos q] at K2
      exact K2
    · have K2 := K ls H locs hl hP hS
      rw [if_neg q] at K2
      exact K2
  next => cases h
theorem zs_icmp_ge {own : String} {cc : ByteArray} {nL pc : Nat} {off : Int} {t : Nat} (hd : decode cc pc = .ok (.if_icmp .ge off, 3)) (ht : (pc : Int) + off = (t : Int)) : zSim own cc nL pc (zc_ge t) := by
  intro p l e R s m args below meth c cells slots Q D loc cA A xs L0 C hR1 hR2 hRc hRs L S σ cf' h K ls H locs hl hP hS
  obtain ⟨hx, hb, hml, hown, hts, hW⟩ := C
  unfold zc_ge at h
  dsimp only at h
  split at h
  next y x S =>
    cases h
    refine lv_icmp_ge hx hb hd ht (fun q => ?_) (fun q => ?_)
    · have K2 := K ls H locs hl hP hS
      rw [if_pos q] at K2
      exact K2
    · have K2 := K ls H locs hl hP hS
      rw [if_neg q] at K2
      exact K2
  next => cases h
theorem zs_ifgt {own : String} {cc : ByteArray} {nL pc : Nat} {off : Int} {t : Nat} (hd : decode cc pc = .ok (.ifCond .gt off, 3)) (ht : (pc : Int) + off = (t : Int)) : zSim own cc nL pc (zi_gt t) := by
  intro p l e R s m args below meth c cells slots Q D loc cA A xs L0 C hR1 hR2 hRc hRs L S σ cf' h K ls H locs hl hP hS
  obtain ⟨hx, hb, hml, hown, hts, hW⟩ := C
  unfold zi_gt at h
  dsimp only at h
  split at h
  next x S =>
    cases h
    refine lv_if_gt hx hb hd ht (fun q => ?_) (fun q => ?_)
    · have K2 := K ls H locs hl hP hS
      rw [if_pos q] at K2
      exact K2
    · have K2 := K ls H locs hl hP hS
      rw [if_neg q] at K2
      exact K2
  next => cases h
theorem zs_icmp_gt {own : String} {cc : ByteArray} {nL pc : Nat} {off : Int} {t : Nat} (hd : decode cc pc = .ok (.if_icmp .gt off, 3)) (ht : (pc : Int) + off = (t : Int)) : zSim own cc nL pc (zc_gt t) := by
  intro p l e R s m args below meth c cells slots Q D loc cA A xs L0 C hR1 hR2 hRc hRs L S σ cf' h K ls H locs hl hP hS
  obtain ⟨hx, hb, hml, hown, hts, hW⟩ := C
  unfold zc_gt at h
  dsimp only at h
  split at h
  next y x S =>
    cases h
    refine lv_icmp_gt hx hb hd ht (fun q => ?_) (fun q => ?_)
    · have K2 := K ls H locs hl hP hS
      rw [if_pos q] at K2
      exact K2
    · have K2 := K ls H locs hl hP hS
      rw [if_neg q] at K2
      exact K2
  next => cases h
theorem zs_ifle {own : String} {cc : ByteArray} {nL pc : Nat} {off : Int} {t : Nat} (hd : decode cc pc = .ok (.ifCond .le off, 3)) (ht : (pc : Int) + off = (t : Int)) : zSim own cc nL pc (zi_le t) := by
  intro p l e R s m args below meth c cells slots Q D loc cA A xs L0 C hR1 hR2 hRc hRs L S σ cf' h K ls H locs hl hP hS
  obtain ⟨hx, hb, hml, hown, hts, hW⟩ := C
  unfold zi_le at h
  dsimp only at h
  split at h
  next x S =>
    cases h
    refine lv_if_le hx hb hd ht (fun q => ?_) (fun q => ?_)
    · have K2 := K ls H locs hl hP hS
      rw [if_pos q] at K2
      exact K2
    · have K2 := K ls H locs hl hP hS
      rw [if_neg q] at K2
      exact K2
  next => cases h
theorem zs_icmp_le {own : String} {cc : ByteArray} {nL pc : Nat} {off : Int} {t : Nat} (hd : decode cc pc = .ok (.if_icmp .le off, 3)) (ht : (pc : Int) + off = (t : Int)) : zSim own cc nL pc (zc_le t) := by
  intro p l e R s m args below meth c cells slots Q D loc cA A xs L0 C hR1 hR2 hRc hRs L S σ cf' h K ls H locs hl hP hS
  obtain ⟨hx, hb, hml, hown, hts, hW⟩ := C
  unfold zc_le at h
  dsimp only at h
  split at h
  next y x S =>
    cases h
    refine lv_icmp_le hx hb hd ht (fun q => ?_) (fun q => ?_)
    · have K2 := K ls H locs hl hP hS
      rw [if_pos q] at K2
      exact K2
    · have K2 := K ls H locs hl hP hS
      rw [if_neg q] at K2
      exact K2
  next => cases h

def va_AOA (ty : FieldType) (U : State) : Prop := (Cond.arrayOver (.array ty)).before #[] U = true
theorem va_AOA.use {ty : FieldType} {A : Array Value} {U : State} (h : va_AOA ty U) : (Cond.arrayOver (.array ty)).before A U = true := h
/-! ===== BEGIN new T[n][m]: the outer array a place, the inner ones among the pooled ===== -/
/-- f, but v at every address of l -/
def vr_up {α : Type} (f : Nat → α) (l : List Nat) (v : α) : Nat → α := fun a => if a ∈ l then v else f a
theorem vr_up_in {α : Type} {f : Nat → α} {l : List Nat} {v : α} {a : Nat} (h : a ∈ l) : vr_up f l v a = v := if_pos h
theorem vr_up_ne {α : Type} {f : Nat → α} {l : List Nat} {v : α} {a : Nat} (h : a ∉ l) : vr_up f l v a = f a := if_neg h
theorem vr_rows {L l : List Nat} {f : Nat → va_E} {e : va_E} (h : ∀ a, a ∈ l → a ∉ L) : va_pl L f ++ l.map (fun a => (a, e)) = va_pl (L ++ l) (vr_up f l e) := by
  unfold va_pl
  rw [List.map_append]
  congr 1
  · apply List.map_congr_left
    intro a ha
    rw [vr_up_ne (fun q => h a q ha)]
  · apply List.map_congr_left
    intro a ha
    rw [vr_up_in ha]
theorem vr_lay {X rows : va_W} {x : Nat × va_E} {pl : va_W} {D : va_G} {cl : List vw_C} {H : Heap} (hP : va_P D cl (((X ++ pl) ++ [x]) ++ rows) H) : va_P D cl ((X ++ [x]) ++ (pl ++ rows)) H := by
  rw [List.append_assoc (X ++ pl)] at hP
  have h := va_P.swap hP
  rw [← List.append_assoc X] at h
  have h2 := va_P.swap h
  rw [List.append_assoc (X ++ [x])] at h2
  exact h2
theorem vr_layD {X rows : va_W} {x : Nat × va_E} {pl : va_W} {A : Nat → Prop} (hD : va_D A (((X ++ pl) ++ [x]) ++ rows)) : va_D A ((X ++ [x]) ++ (pl ++ rows)) := by
  rw [List.append_assoc (X ++ pl)] at hD
  have h := va_D.swap hD
  rw [← List.append_assoc X] at h
  have h2 := va_D.swap h
  rw [List.append_assoc (X ++ [x])] at h2
  exact h2
theorem vr_outer (c : ClassId) (N h0 : Nat) : ∀ i : Nat, Jvm.Free.Multi.outerC c N h0 i = arrV c N (fun j => va_rf (if j < i then some (h0 + 1 + j) else none))
  | 0 => by
    show ({ cls := c, slots := Array.replicate N .null, vm := .none } : Cell) = _
    rw [arrV_new]
    refine congrArg (arrV c N) (funext fun j => ?_)
    simp [va_rf]
  | i + 1 => by
    show (Jvm.Free.Multi.outerC c N h0 i).setSlot i (.ref (h0 + 1 + i)) = _
    rw [vr_outer c N h0 i, arrV_store]
    refine congrArg (arrV c N) (funext fun j => ?_)
    by_cases e : j = i
    · subst e
      simp [updV, va_rf]
    · by_cases h : j < i
      · simp [updV, e, h, Nat.lt_succ_of_lt h]
      · simp [updV, e, h, show ¬ j < i + 1 by omega]
section VGM
variable {p : Program} {l : Launch} {e : Env} {R : Room} {s : State} {m : MethodId} {args : Array Value} {below : List Frame} {meth : Method} {c : Code} {H : Heap} {locs : List Loc} {cells slots : Nat} {Q : State → Prop}
variable {cc : ByteArray} {pc : Nat} {ls : Array Slot} {rest : List Value} {D : va_G} {cl : List vw_C} {A : Nat → Prop} {a : Nat} {tys : List (ClassId × FieldType)} {ws : va_W} {H0 : Heap}
theorem va_mna {X : va_W} {L : List Nat} {f : Nat → va_E} {cc : ByteArray} (hexec : p.tables.exec = Jvm.exec) (hb : c.code = cc) {own : String} {index : Nat} {ty : FieldType} {cy : ClassId} (hown : s.vm.findClass own = some m.cls) (hclink : (Cond.classLink own index ("[" ++ (FieldType.array ty).toString)).before args s = true) (hover : va_AOA ty s) (harr : (Cond.arrayClass ty).before args s = true) (hcy : s.vm.findClass (FieldType.array ty).toString = some cy)
    (hK : va_K D cl tys s) (hP : va_P D cl (X ++ va_pl L f) H) (hD : va_D A (X ++ va_pl L f)) (hS : va_S A H0 H locs) (hA : ∀ q, H0.size ≤ q → A q) {n k : Int32} {N' K' : Nat} {z : vp_A} (hn : ¬ n < 0) (hk : ¬ k < 0) (hN : n.toNatClampNeg = N') (hM : k.toNatClampNeg = K')
    (hb1 : N' * 4 ≤ 536870912) (hb2 : K' * componentBytes ty ≤ 536870912) (hb3 : K' ≤ 536870912) (hdf : fits ty (defaultValue ty) = true) (hdd : (defaultValue ty).isDefault = true) (hcells : cells + (1 + N') ≤ R.cells) (hslots : slots + (N' + N' * K') ≤ R.slots) (hz : ∀ c : ClassId, Jvm.Free.Multi.innerC c K' (defaultValue ty) = vp_cell c z) (hdg : decode cc pc = .ok (.multianewarray index 2, 4))
    (kk : ∀ (q : Nat) (r : Nat → Nat) (cA : ClassId) (H1 : Heap), (∀ i j : Nat, i < N' → j < N' → r i = r j → i = j) → (∀ i : Nat, i < N' → r i ∉ L) → va_K D cl (tys ++ [(cA, .array ty)]) s →
      va_P D cl ((X ++ [(q, .inl (cA, N', .inr (.inr (.inr (.inr (fun i => if i < N' then some (r i) else none))))))]) ++ va_pl (L ++ (List.range N').map r) (vr_up f ((List.range N').map r) (.inl (cy, z)))) H1 → va_D A ((X ++ [(q, .inl (cA, N', .inr (.inr (.inr (.inr (fun i => if i < N' then some (r i) else none))))))]) ++ va_pl (L ++ (List.range N').map r) (vr_up f ((List.range N').map r) (.inl (cy, z)))) → va_S A H0 H1 locs →
      W p l e R s m args below meth c H1 locs (cells + 1 + N') (slots + N' + N' * K') Q (F0 m (pc + 4) ls (.ref q :: rest))) : W p l e R s m args below meth c H locs cells slots Q (F0 m pc ls (.int k :: .int n :: rest)) := by
  subst hN
  subst hM
  intro T hT Xs
  obtain ⟨vm₁, cA, comp, -, fA, fC, hO, -, X', step⟩ := Xs.multianewarray2F hexec hown hclink (va_AOA.use hover) harr (g := F0 m pc ls (.int k :: .int n :: rest)) rfl (by rw [hb]; exact hdg) rfl hn hk hb1 hb2 hb3 hdf hdd hcells hslots
  have ec : some cy = some comp := hcy.symm.trans fC
  cases ec
  generalize hF : Jvm.Free.Multi.fill (T.setVm vm₁) cA cy n.toNatClampNeg k.toNatClampNeg (defaultValue ty) n.toNatClampNeg = F at X' step
  have hTh : (T.setVm vm₁).heap = H := hT
  obtain ⟨f1, f2, -, -⟩ := Jvm.Free.Multi.fill_facts (T.setVm vm₁) cA cy n.toNatClampNeg k.toNatClampNeg (defaultValue ty) n.toNatClampNeg
  rw [hF, hTh] at f1 f2
  have hold : ∀ x : Nat, x < H.size → F.heap[x]? = H[x]? := fun x hx => by
    have := Jvm.Free.Multi.fill_old (T.setVm vm₁) cA cy n.toNatClampNeg k.toNatClampNeg (defaultValue ty) (a := x) (by rw [hTh]; exact hx) n.toNatClampNeg
    rw [hF, hTh] at this
    exact this
  have hrow : ∀ j : Nat, j < n.toNatClampNeg → F.heap[H.size + 1 + j]? = some (vp_cell cy z) := fun j hj => by
    have := Jvm.Free.Multi.fill_inner (T.setVm vm₁) cA cy n.toNatClampNeg k.toNatClampNeg (defaultValue ty) n.toNatClampNeg j hj
    rw [hF, hTh, hz] at this
    exact this
  have hout : Jvm.Free.Multi.outerC cA n.toNatClampNeg H.size n.toNatClampNeg = vp_cell cA (n.toNatClampNeg, .inr (.inr (.inr (.inr (fun i => if i < n.toNatClampNeg then some (H.size + 1 + i) else none))))) := by
    rw [vp_cell_q]
    exact vr_outer cA n.toNatClampNeg H.size n.toNatClampNeg
  rw [hout] at f2
  have hlt : ∀ a, a ∈ L → a < H.size := fun a ha => by
    obtain ⟨k9, hk9⟩ := va_pl_get (X := X) (f := f) ha
    exact (hP k9 _ hk9).lt
  have hnl : ∀ i : Nat, i < n.toNatClampNeg → H.size + 1 + i ∉ L := fun i _ h => by
    have := hlt _ h
    omega
  have hnm : ∀ a, a ∈ (List.range n.toNatClampNeg).map (fun i => H.size + 1 + i) → a ∉ L := fun a ha h => by
    obtain ⟨i, -, rfl⟩ := List.mem_map.mp ha
    have := hlt _ h
    omega
  have hP0 : va_P D cl (X ++ va_pl L f) F.heap := hP.kept (fun k9 x hx => hold x.1 ((hP k9 x hx).lt))
  have hP1 : va_P D cl ((X ++ va_pl L f) ++ [(H.size, .inl (cA, n.toNatClampNeg, .inr (.inr (.inr (.inr (fun i => if i < n.toNatClampNeg then some (H.size + 1 + i) else none))))))]) F.heap := hP0.app (fun k9 x hx => by
    have h0 : k9 < 1 := (List.getElem?_eq_some_iff.mp hx).1
    rw [show k9 = 0 by omega] at hx
    cases hx
    exact f2)
  have hP2 : va_P D cl (((X ++ va_pl L f) ++ [(H.size, .inl (cA, n.toNatClampNeg, .inr (.inr (.inr (.inr (fun i => if i < n.toNatClampNeg then some (H.size + 1 + i) else none))))))]) ++ ((List.range n.toNatClampNeg).map (fun i => H.size + 1 + i)).map (fun a => (a, .inl (cy, z)))) F.heap := hP1.app (fun k9 x hx => by
    obtain ⟨a, ha, rfl⟩ := List.mem_map.mp (List.mem_of_getElem? hx)
    obtain ⟨i, hi, rfl⟩ := List.mem_map.mp ha
    exact hrow i (List.mem_range.mp hi))
  have hD2 : va_D A (((X ++ va_pl L f) ++ [(H.size, .inl (cA, n.toNatClampNeg, .inr (.inr (.inr (.inr (fun i => if i < n.toNatClampNeg then some (H.size + 1 + i) else none))))))]) ++ ((List.range n.toNatClampNeg).map (fun i => H.size + 1 + i)).map (fun a => (a, .inl (cy, z)))) := by
    have hD1 := hD.push (e := .inl (cA, n.toNatClampNeg, .inr (.inr (.inr (.inr (fun i => if i < n.toNatClampNeg then some (H.size + 1 + i) else none)))))) hP rfl (hA _ hS.1)
    generalize hW1 : (X ++ va_pl L f) ++ [(H.size, .inl (cA, n.toNatClampNeg, .inr (.inr (.inr (.inr (fun i => if i < n.toNatClampNeg then some (H.size + 1 + i) else none))))))] = W1 at hD1 hP1 ⊢
    have hle : ∀ (k9 : Nat) (x : Nat × va_E), W1[k9]? = some x → x.1 ≤ H.size := fun k9 x hx => by
      rw [← hW1] at hx
      by_cases hl : k9 < (X ++ va_pl L f).length
      · rw [List.getElem?_append_left hl] at hx
        exact Nat.le_of_lt ((hP k9 x hx).lt)
      · rw [List.getElem?_append_right (by omega)] at hx
        have h0 : k9 - (X ++ va_pl L f).length < 1 := (List.getElem?_eq_some_iff.mp hx).1
        rw [show k9 - (X ++ va_pl L f).length = 0 by omega] at hx
        cases hx
        exact Nat.le_refl _
    have hr : ∀ (k9 : Nat) (x : Nat × va_E), (((List.range n.toNatClampNeg).map (fun i => H.size + 1 + i)).map (fun a => ((a, .inl (cy, z)) : Nat × va_E)))[k9]? = some x → x.1 = H.size + 1 + k9 := fun k9 x hx => by
      rw [List.getElem?_map, List.getElem?_map] at hx
      by_cases h9 : k9 < n.toNatClampNeg
      · rw [List.getElem?_range h9] at hx
        cases hx
        rfl
      · have hn0 : (List.range n.toNatClampNeg)[k9]? = none := List.getElem?_eq_none (by rw [List.length_range]; omega)
        rw [hn0] at hx
        cases hx
    refine ⟨fun i j x y hi hj hxy => ?_, fun k9 x hx => ?_⟩
    · by_cases h1 : i < W1.length <;> by_cases h2 : j < W1.length
      · rw [List.getElem?_append_left h1] at hi
        rw [List.getElem?_append_left h2] at hj
        exact hD1.1 i j x y hi hj hxy
      · rw [List.getElem?_append_left h1] at hi
        rw [List.getElem?_append_right (by omega)] at hj
        have := hle _ _ hi
        have := hr _ _ hj
        omega
      · rw [List.getElem?_append_right (by omega)] at hi
        rw [List.getElem?_append_left h2] at hj
        have := hle _ _ hj
        have := hr _ _ hi
        omega
      · rw [List.getElem?_append_right (by omega)] at hi hj
        have := hr _ _ hi
        have := hr _ _ hj
        omega
    · by_cases h1 : k9 < W1.length
      · rw [List.getElem?_append_left h1] at hx
        exact hD1.2 k9 x hx
      · rw [List.getElem?_append_right (by omega)] at hx
        have := hr _ _ hx
        exact hA _ (by have := hS.1; omega)
  have hAr : ArrOfT s cA (.array ty) := fun N9 z9 => by
    obtain ⟨-, k9, hk9, cm9, hkk9⟩ := (hO 0 0 0).1
    exact ⟨(fun q hq => by cases hq), k9, hk9, cm9, hkk9⟩
  have hK2 : va_K D cl (tys ++ [(cA, .array ty)]) s := ⟨hK.1, fun k9 x hx => by
    by_cases hl : k9 < tys.length
    · rw [List.getElem?_append_left hl] at hx
      exact hK.2 k9 x hx
    · rw [List.getElem?_append_right (by omega)] at hx
      have h0 : k9 - tys.length < 1 := (List.getElem?_eq_some_iff.mp hx).1
      rw [show k9 - tys.length = 0 by omega] at hx
      cases hx
      exact ⟨hAr, fA⟩⟩
  obtain ⟨t, a1, b1⟩ := kk H.size (fun i => H.size + 1 + i) cA F.heap (fun i j _ _ h => by have h9 : H.size + 1 + i = H.size + 1 + j := h; omega) hnl hK2 (by rw [← vr_rows hnm]; exact vr_lay hP2) (by rw [← vr_rows hnm]; exact vr_layD hD2) ⟨by rw [f1]; have := hS.1; omega, fun x h1 h2 => (hold x (Nat.lt_of_lt_of_le h1 hS.1)).trans (hS.2.1 x h1 h2), hS.2.2⟩ F rfl X'
  refine ⟨t, step t ?_, b1⟩
  have e : T.heap.size = H.size := by rw [hT]
  rw [e]
  exact a1
end VGM
/-! ===== END ===== -/

def RX0 : String := "ZeroForcer$Bodies"
def TX0 : u_T := fun k => match k with
  | 0 => ("ZeroForcer$Bodies", "kind", "I", false)
  | 1 => ("ZeroForcer$Bodies", "number", "I", false)
  | 2 => ("ZeroForcer$Bodies", "cost", "I", false)
  | 3 => ("ZeroForcer$Bodies", "size", "I", false)
  | _ => ("ZeroForcer$Bodies", "ran", "[I", true)
def tyX0 : Nat → FieldType := fun k => match k with
  | 0 => .int
  | 1 => .int
  | 2 => .int
  | 3 => .int
  | _ => .array .int
abbrev wsX00 : List Cond := u_ws RX0 TX0 5
theorem nmX0 : ∀ a, a < 5 → ∀ b, b < 5 → a ≠ b → (TX0 a).2.1 ≠ (TX0 b).2.1 := by decide +kernel
theorem tyX0_ok : ∀ k, k < 5 → parseFieldDescriptor (TX0 k).2.2.1 = some (tyX0 k) := by decide +kernel
abbrev cX0_init : ByteArray := prog_2_method_1_code
def yX0_init : MethodName := ⟨RX0, "<init>", "()V"⟩
abbrev cX0_begin : ByteArray := prog_2_method_2_code
def yX0_begin : MethodName := ⟨RX0, "begin", "(III)V"⟩
abbrev cX0_isUnder : ByteArray := prog_2_method_3_code
def yX0_isUnder : MethodName := ⟨RX0, "isUnder", "(II)Z"⟩
abbrev cX0_note : ByteArray := prog_2_method_4_code
def yX0_note : MethodName := ⟨RX0, "note", "(I)V"⟩
abbrev cX0_asks : ByteArray := prog_2_method_5_code
def yX0_asks : MethodName := ⟨RX0, "asks", "(I)I"⟩
abbrev cX0_says : ByteArray := prog_2_method_6_code
def yX0_says : MethodName := ⟨RX0, "says", "(I)I"⟩
abbrev cX0_tells : ByteArray := prog_2_method_7_code
def yX0_tells : MethodName := ⟨RX0, "tells", "(I)I"⟩
abbrev cX0_pointAsks : ByteArray := prog_2_method_8_code
def yX0_pointAsks : MethodName := ⟨RX0, "pointAsks", "(I)I"⟩
abbrev cX0_pointSays : ByteArray := prog_2_method_9_code
def yX0_pointSays : MethodName := ⟨RX0, "pointSays", "(I)I"⟩
abbrev cX0_hubTells : ByteArray := prog_2_method_10_code
def yX0_hubTells : MethodName := ⟨RX0, "hubTells", "(I)I"⟩
abbrev cX0_countedTells : ByteArray := prog_2_method_11_code
def yX0_countedTells : MethodName := ⟨RX0, "countedTells", "(I)I"⟩
def RX1 : String := "ZeroForcer$Chains"
def TX1 : u_T := fun k => match k with
  | _ => ("ZeroForcer$Chains", "whom", "[I", true)
def tyX1 : Nat → FieldType := fun k => match k with
  | _ => .array .int
abbrev wsX10 : List Cond := u_ws RX1 TX1 1
theorem nmX1 : ∀ a, a < 1 → ∀ b, b < 1 → a ≠ b → (TX1 a).2.1 ≠ (TX1 b).2.1 := by decide +kernel
theorem tyX1_ok : ∀ k, k < 1 → parseFieldDescriptor (TX1 k).2.2.1 = some (tyX1 k) := by decide +kernel
abbrev cX1_init : ByteArray := prog_3_method_1_code
def yX1_init : MethodName := ⟨RX1, "<init>", "()V"⟩
abbrev cX1_force : ByteArray := prog_3_method_2_code
def yX1_force : MethodName := ⟨RX1, "force", "(LZeroForcer$Network;I)V"⟩
abbrev cX1_leastForcer : ByteArray := prog_3_method_3_code
def yX1_leastForcer : MethodName := ⟨RX1, "leastForcer", "(LZeroForcer$Network;I)I"⟩
abbrev cX1_behind : ByteArray := prog_3_method_4_code
def yX1_behind : MethodName := ⟨RX1, "behind", "(II)I"⟩
abbrev cX1_lastFrom : ByteArray := prog_3_method_5_code
def yX1_lastFrom : MethodName := ⟨RX1, "lastFrom", "(I)I"⟩
def RX2 : String := "ZeroForcer$Change"
def TX2 : u_T := fun k => match k with
  | 0 => ("ZeroForcer$Change", "what", "I", false)
  | 1 => ("ZeroForcer$Change", "i", "I", false)
  | 2 => ("ZeroForcer$Change", "j", "I", false)
  | 3 => ("ZeroForcer$Change", "before", "I", false)
  | _ => ("ZeroForcer$Change", "after", "I", false)
def tyX2 : Nat → FieldType := fun k => match k with
  | 0 => .int
  | 1 => .int
  | 2 => .int
  | 3 => .int
  | _ => .int
abbrev wsX20 : List Cond := u_ws RX2 TX2 5
theorem nmX2 : ∀ a, a < 5 → ∀ b, b < 5 → a ≠ b → (TX2 a).2.1 ≠ (TX2 b).2.1 := by decide +kernel
theorem tyX2_ok : ∀ k, k < 5 → parseFieldDescriptor (TX2 k).2.2.1 = some (tyX2 k) := by decide +kernel
abbrev cX2_init : ByteArray := prog_4_method_1_code
def yX2_init : MethodName := ⟨RX2, "<init>", "()V"⟩
def RX3 : String := "ZeroForcer$Forcing"
def TX3 : u_T := fun k => match k with
  | 0 => ("ZeroForcer$Forcing", "all", "I", false)
  | 1 => ("ZeroForcer$Forcing", "rule", "I", false)
  | 2 => ("ZeroForcer$Forcing", "k", "I", false)
  | 3 => ("ZeroForcer$Forcing", "near", "[I", true)
  | 4 => ("ZeroForcer$Forcing", "around", "[I", true)
  | _ => ("ZeroForcer$Forcing", "times", "[I", true)
def tyX3 : Nat → FieldType := fun k => match k with
  | 0 => .int
  | 1 => .int
  | 2 => .int
  | 3 => .array .int
  | 4 => .array .int
  | _ => .array .int
abbrev wsX30 : List Cond := u_ws RX3 TX3 6
theorem nmX3 : ∀ a, a < 6 → ∀ b, b < 6 → a ≠ b → (TX3 a).2.1 ≠ (TX3 b).2.1 := by decide +kernel
theorem tyX3_ok : ∀ k, k < 6 → parseFieldDescriptor (TX3 k).2.2.1 = some (tyX3 k) := by decide +kernel
abbrev cX3_init : ByteArray := prog_5_method_1_code
def yX3_init : MethodName := ⟨RX3, "<init>", "()V"⟩
abbrev cX3_take : ByteArray := prog_5_method_2_code
def yX3_take : MethodName := ⟨RX3, "take", "(LZeroForcer$Network;)V"⟩
abbrev cX3_takeWithout : ByteArray := prog_5_method_3_code
def yX3_takeWithout : MethodName := ⟨RX3, "takeWithout", "(LZeroForcer$Network;I)V"⟩
abbrev cX3_takeFlipped : ByteArray := prog_5_method_4_code
def yX3_takeFlipped : MethodName := ⟨RX3, "takeFlipped", "(LZeroForcer$Network;II)V"⟩
abbrev cX3_copy : ByteArray := prog_5_method_5_code
def yX3_copy : MethodName := ⟨RX3, "copy", "(LZeroForcer$Network;)V"⟩
abbrev cX3_fillAround : ByteArray := prog_5_method_6_code
def yX3_fillAround : MethodName := ⟨RX3, "fillAround", "()V"⟩
abbrev cX3_next : ByteArray := prog_5_method_7_code
def yX3_next : MethodName := ⟨RX3, "next", "(IZ)I"⟩
abbrev cX3_forcedBy : ByteArray := prog_5_method_8_code
def yX3_forcedBy : MethodName := ⟨RX3, "forcedBy", "(II)I"⟩
abbrev cX3_forcedInParts : ByteArray := prog_5_method_9_code
def yX3_forcedInParts : MethodName := ⟨RX3, "forcedInParts", "(I)I"⟩
abbrev cX3_partOf : ByteArray := prog_5_method_10_code
def yX3_partOf : MethodName := ⟨RX3, "partOf", "(II)I"⟩
abbrev cX3_forcedByMany : ByteArray := prog_5_method_11_code
def yX3_forcedByMany : MethodName := ⟨RX3, "forcedByMany", "(I)I"⟩
abbrev cX3_lastOf : ByteArray := prog_5_method_12_code
def yX3_lastOf : MethodName := ⟨RX3, "lastOf", "(I)I"⟩
abbrev cX3_roundsOf : ByteArray := prog_5_method_13_code
def yX3_roundsOf : MethodName := ⟨RX3, "roundsOf", "(I)I"⟩
abbrev cX3_fillTimes : ByteArray := prog_5_method_14_code
def yX3_fillTimes : MethodName := ⟨RX3, "fillTimes", "()V"⟩
abbrev cX3_takeFirstRounds : ByteArray := prog_5_method_15_code
def yX3_takeFirstRounds : MethodName := ⟨RX3, "takeFirstRounds", "()V"⟩
abbrev cX3_isWithin : ByteArray := prog_5_method_16_code
def yX3_isWithin : MethodName := ⟨RX3, "isWithin", "(I)Z"⟩
abbrev cX3_takeTimeFrom : ByteArray := prog_5_method_17_code
def yX3_takeTimeFrom : MethodName := ⟨RX3, "takeTimeFrom", "(II)V"⟩
abbrev cX3_leastSize : ByteArray := prog_5_method_18_code
def yX3_leastSize : MethodName := ⟨RX3, "leastSize", "()I"⟩
abbrev cX3_forcesWith : ByteArray := prog_5_method_19_code
def yX3_forcesWith : MethodName := ⟨RX3, "forcesWith", "(II)Z"⟩
abbrev cX3_firstOf : ByteArray := prog_5_method_20_code
def yX3_firstOf : MethodName := ⟨RX3, "firstOf", "(I)I"⟩
abbrev cX3_howMany : ByteArray := prog_5_method_21_code
def yX3_howMany : MethodName := ⟨RX3, "howMany", "(I)I"⟩
abbrev cX3_leastTime : ByteArray := prog_5_method_22_code
def yX3_leastTime : MethodName := ⟨RX3, "leastTime", "(I)I"⟩
abbrev cX3_sizeAndTime : ByteArray := prog_5_method_23_code
def yX3_sizeAndTime : MethodName := ⟨RX3, "sizeAndTime", "(I)I"⟩
abbrev cX3_throttleSet : ByteArray := prog_5_method_24_code
def yX3_throttleSet : MethodName := ⟨RX3, "throttleSet", "()I"⟩
abbrev cX3_cheapestSet : ByteArray := prog_5_method_25_code
def yX3_cheapestSet : MethodName := ⟨RX3, "cheapestSet", "(LZeroForcer$Network;)I"⟩
abbrev cX3_goesAs : ByteArray := prog_5_method_26_code
def yX3_goesAs : MethodName := ⟨RX3, "goesAs", "([II)Z"⟩
def RX4 : String := "ZeroForcer$FortMarks"
def TX4 : u_T := fun k => match k with
  | _ => ("ZeroForcer$FortMarks", "marks", "[I", true)
def tyX4 : Nat → FieldType := fun k => match k with
  | _ => .array .int
abbrev wsX40 : List Cond := u_ws RX4 TX4 1
theorem nmX4 : ∀ a, a < 1 → ∀ b, b < 1 → a ≠ b → (TX4 a).2.1 ≠ (TX4 b).2.1 := by decide +kernel
theorem tyX4_ok : ∀ k, k < 1 → parseFieldDescriptor (TX4 k).2.2.1 = some (tyX4 k) := by decide +kernel
abbrev cX4_init : ByteArray := prog_6_method_1_code
def yX4_init : MethodName := ⟨RX4, "<init>", "()V"⟩
abbrev cX4_fillMarks : ByteArray := prog_6_method_2_code
def yX4_fillMarks : MethodName := ⟨RX4, "fillMarks", "(LZeroForcer$Network;)V"⟩
abbrev cX4_holdsLesser : ByteArray := prog_6_method_3_code
def yX4_holdsLesser : MethodName := ⟨RX4, "holdsLesser", "(I)Z"⟩
abbrev cX4_isFort : ByteArray := prog_6_method_4_code
def yX4_isFort : MethodName := ⟨RX4, "isFort", "(LZeroForcer$Network;I)Z"⟩
abbrev cX4_howMany : ByteArray := prog_6_method_5_code
def yX4_howMany : MethodName := ⟨RX4, "howMany", "(III)I"⟩
abbrev cX4_innerAt : ByteArray := prog_6_method_6_code
def yX4_innerAt : MethodName := ⟨RX4, "innerAt", "(II)I"⟩
def RX5 : String := "ZeroForcer$Grid"
def TX5 : u_T := fun k => match k with
  | 0 => ("ZeroForcer$Grid", "size", "I", false)
  | 1 => ("ZeroForcer$Grid", "prime", "I", false)
  | 2 => ("ZeroForcer$Grid", "mendedRank", "I", false)
  | 3 => ("ZeroForcer$Grid", "cells", "[[I", true)
  | 4 => ("ZeroForcer$Grid", "leader", "[I", true)
  | _ => ("ZeroForcer$Grid", "unit", "[I", true)
def tyX5 : Nat → FieldType := fun k => match k with
  | 0 => .int
  | 1 => .int
  | 2 => .int
  | 3 => .array (.array .int)
  | 4 => .array .int
  | _ => .array .int
abbrev wsX50 : List Cond := u_ws RX5 TX5 6
theorem nmX5 : ∀ a, a < 6 → ∀ b, b < 6 → a ≠ b → (TX5 a).2.1 ≠ (TX5 b).2.1 := by decide +kernel
theorem tyX5_ok : ∀ k, k < 6 → parseFieldDescriptor (TX5 k).2.2.1 = some (tyX5 k) := by decide +kernel
abbrev cX5_init : ByteArray := prog_7_method_1_code
def yX5_init : MethodName := ⟨RX5, "<init>", "()V"⟩
abbrev cX5_take : ByteArray := prog_7_method_2_code
def yX5_take : MethodName := ⟨RX5, "take", "(LZeroForcer$Network;)V"⟩
abbrev cX5_modulo : ByteArray := prog_7_method_3_code
def yX5_modulo : MethodName := ⟨RX5, "modulo", "(I)I"⟩
abbrev cX5_reduce : ByteArray := prog_7_method_4_code
def yX5_reduce : MethodName := ⟨RX5, "reduce", "(I)I"⟩
abbrev cX5_firstWith : ByteArray := prog_7_method_5_code
def yX5_firstWith : MethodName := ⟨RX5, "firstWith", "(III)I"⟩
abbrev cX5_swapRows : ByteArray := prog_7_method_6_code
def yX5_swapRows : MethodName := ⟨RX5, "swapRows", "(II)V"⟩
abbrev cX5_leadWithOne : ByteArray := prog_7_method_7_code
def yX5_leadWithOne : MethodName := ⟨RX5, "leadWithOne", "([II)V"⟩
abbrev cX5_inverseOf : ByteArray := prog_7_method_8_code
def yX5_inverseOf : MethodName := ⟨RX5, "inverseOf", "(I)I"⟩
abbrev cX5_clear : ByteArray := prog_7_method_9_code
def yX5_clear : MethodName := ⟨RX5, "clear", "([I[II)V"⟩
abbrev cX5_freeColumn : ByteArray := prog_7_method_10_code
def yX5_freeColumn : MethodName := ⟨RX5, "freeColumn", "(I)I"⟩
abbrev cX5_noughtAt : ByteArray := prog_7_method_11_code
def yX5_noughtAt : MethodName := ⟨RX5, "noughtAt", "(II)I"⟩
abbrev cX5_mendAt : ByteArray := prog_7_method_12_code
def yX5_mendAt : MethodName := ⟨RX5, "mendAt", "(I)I"⟩
abbrev cX5_clearAll : ByteArray := prog_7_method_13_code
def yX5_clearAll : MethodName := ⟨RX5, "clearAll", "([I)V"⟩
abbrev cX5_isNought : ByteArray := prog_7_method_14_code
def yX5_isNought : MethodName := ⟨RX5, "isNought", "([II)Z"⟩
def RX6 : String := "ZeroForcer$History"
def TX6 : u_T := fun k => match k with
  | 0 => ("ZeroForcer$History", "changes", "[LZeroForcer$Change;", true)
  | 1 => ("ZeroForcer$History", "done", "I", false)
  | _ => ("ZeroForcer$History", "told", "I", false)
def tyX6 : Nat → FieldType := fun k => match k with
  | 0 => .array (.object "ZeroForcer$Change")
  | 1 => .int
  | _ => .int
abbrev wsX60 : List Cond := u_ws RX6 TX6 3
theorem nmX6 : ∀ a, a < 3 → ∀ b, b < 3 → a ≠ b → (TX6 a).2.1 ≠ (TX6 b).2.1 := by decide +kernel
theorem tyX6_ok : ∀ k, k < 3 → parseFieldDescriptor (TX6 k).2.2.1 = some (tyX6 k) := by decide +kernel
abbrev cX6_init : ByteArray := prog_8_method_1_code
def yX6_init : MethodName := ⟨RX6, "<init>", "()V"⟩
abbrev cX6_forget : ByteArray := prog_8_method_2_code
def yX6_forget : MethodName := ⟨RX6, "forget", "()V"⟩
abbrev cX6_tell : ByteArray := prog_8_method_3_code
def yX6_tell : MethodName := ⟨RX6, "tell", "(LZeroForcer$Network;IIII)I"⟩
abbrev cX6_dropEldest : ByteArray := prog_8_method_4_code
def yX6_dropEldest : MethodName := ⟨RX6, "dropEldest", "()V"⟩
abbrev cX6_stepBack : ByteArray := prog_8_method_5_code
def yX6_stepBack : MethodName := ⟨RX6, "stepBack", "(LZeroForcer$Network;)Z"⟩
abbrev cX6_stepOn : ByteArray := prog_8_method_6_code
def yX6_stepOn : MethodName := ⟨RX6, "stepOn", "(LZeroForcer$Network;)Z"⟩
def RX7 : String := "ZeroForcer$Network"
def TX7 : u_T := fun k => match k with
  | 0 => ("ZeroForcer$Network", "points", "I", false)
  | 1 => ("ZeroForcer$Network", "rule", "I", false)
  | 2 => ("ZeroForcer$Network", "k", "I", false)
  | 3 => ("ZeroForcer$Network", "prime", "I", false)
  | 4 => ("ZeroForcer$Network", "near", "[I", true)
  | 5 => ("ZeroForcer$Network", "kinds", "[I", true)
  | 6 => ("ZeroForcer$Network", "costs", "[I", true)
  | _ => ("ZeroForcer$Network", "numbers", "[[I", true)
def tyX7 : Nat → FieldType := fun k => match k with
  | 0 => .int
  | 1 => .int
  | 2 => .int
  | 3 => .int
  | 4 => .array .int
  | 5 => .array .int
  | 6 => .array .int
  | _ => .array (.array .int)
abbrev wsX70 : List Cond := u_ws RX7 TX7 8
theorem nmX7 : ∀ a, a < 8 → ∀ b, b < 8 → a ≠ b → (TX7 a).2.1 ≠ (TX7 b).2.1 := by decide +kernel
theorem tyX7_ok : ∀ k, k < 8 → parseFieldDescriptor (TX7 k).2.2.1 = some (tyX7 k) := by decide +kernel
abbrev cX7_init : ByteArray := prog_9_method_1_code
def yX7_init : MethodName := ⟨RX7, "<init>", "()V"⟩
abbrev cX7_begin : ByteArray := prog_9_method_2_code
def yX7_begin : MethodName := ⟨RX7, "begin", "(I)V"⟩
abbrev cX7_become : ByteArray := prog_9_method_3_code
def yX7_become : MethodName := ⟨RX7, "become", "(LZeroForcer$Network;)V"⟩
abbrev cX7_hasPoint : ByteArray := prog_9_method_4_code
def yX7_hasPoint : MethodName := ⟨RX7, "hasPoint", "(I)Z"⟩
abbrev cX7_all : ByteArray := prog_9_method_5_code
def yX7_all : MethodName := ⟨RX7, "all", "()I"⟩
abbrev cX7_hasSet : ByteArray := prog_9_method_6_code
def yX7_hasSet : MethodName := ⟨RX7, "hasSet", "(I)Z"⟩
abbrev cX7_hasLine : ByteArray := prog_9_method_7_code
def yX7_hasLine : MethodName := ⟨RX7, "hasLine", "(II)Z"⟩
abbrev cX7_valueOf : ByteArray := prog_9_method_8_code
def yX7_valueOf : MethodName := ⟨RX7, "valueOf", "(III)I"⟩
abbrev cX7_setValue : ByteArray := prog_9_method_9_code
def yX7_setValue : MethodName := ⟨RX7, "setValue", "(IIII)V"⟩
abbrev cX7_setNumber : ByteArray := prog_9_method_10_code
def yX7_setNumber : MethodName := ⟨RX7, "setNumber", "(III)V"⟩
abbrev cX7_countsOf : ByteArray := prog_9_method_11_code
def yX7_countsOf : MethodName := ⟨RX7, "countsOf", "(I)I"⟩
abbrev cX7_sumOf : ByteArray := prog_9_method_12_code
def yX7_sumOf : MethodName := ⟨RX7, "sumOf", "(I)I"⟩
abbrev cX7_lines : ByteArray := prog_9_method_13_code
def yX7_lines : MethodName := ⟨RX7, "lines", "()I"⟩
abbrev cX7_leastDegree : ByteArray := prog_9_method_14_code
def yX7_leastDegree : MethodName := ⟨RX7, "leastDegree", "()I"⟩
abbrev cX7_greatestDegree : ByteArray := prog_9_method_15_code
def yX7_greatestDegree : MethodName := ⟨RX7, "greatestDegree", "()I"⟩
abbrev cX7_parts : ByteArray := prog_9_method_16_code
def yX7_parts : MethodName := ⟨RX7, "parts", "()I"⟩
abbrev cX7_partOf : ByteArray := prog_9_method_17_code
def yX7_partOf : MethodName := ⟨RX7, "partOf", "(I)I"⟩
def RX8 : String := "ZeroForcer$Row"
def TX8 : u_T := fun k => match k with
  | 0 => ("ZeroForcer$Row", "size", "I", false)
  | _ => ("ZeroForcer$Row", "places", "[I", true)
def tyX8 : Nat → FieldType := fun k => match k with
  | 0 => .int
  | _ => .array .int
abbrev wsX80 : List Cond := u_ws RX8 TX8 2
theorem nmX8 : ∀ a, a < 2 → ∀ b, b < 2 → a ≠ b → (TX8 a).2.1 ≠ (TX8 b).2.1 := by decide +kernel
theorem tyX8_ok : ∀ k, k < 2 → parseFieldDescriptor (TX8 k).2.2.1 = some (tyX8 k) := by decide +kernel
abbrev cX8_init : ByteArray := prog_10_method_1_code
def yX8_init : MethodName := ⟨RX8, "<init>", "()V"⟩
abbrev cX8_hasPlace : ByteArray := prog_10_method_2_code
def yX8_hasPlace : MethodName := ⟨RX8, "hasPlace", "(I)Z"⟩
def RX9 : String := "ZeroForcer$Tape"
def TX9 : u_T := fun k => match k with
  | 0 => ("ZeroForcer$Tape", "size", "I", false)
  | 1 => ("ZeroForcer$Tape", "at", "I", false)
  | 2 => ("ZeroForcer$Tape", "acts", "I", false)
  | _ => ("ZeroForcer$Tape", "bytes", "[I", true)
def tyX9 : Nat → FieldType := fun k => match k with
  | 0 => .int
  | 1 => .int
  | 2 => .int
  | _ => .array .int
abbrev wsX90 : List Cond := u_ws RX9 TX9 4
theorem nmX9 : ∀ a, a < 4 → ∀ b, b < 4 → a ≠ b → (TX9 a).2.1 ≠ (TX9 b).2.1 := by decide +kernel
theorem tyX9_ok : ∀ k, k < 4 → parseFieldDescriptor (TX9 k).2.2.1 = some (tyX9 k) := by decide +kernel
abbrev cX9_init : ByteArray := prog_11_method_1_code
def yX9_init : MethodName := ⟨RX9, "<init>", "()V"⟩
abbrev cX9_append : ByteArray := prog_11_method_2_code
def yX9_append : MethodName := ⟨RX9, "append", "(I)Z"⟩
abbrev cX9_numbersOf : ByteArray := prog_11_method_3_code
def yX9_numbersOf : MethodName := ⟨RX9, "numbersOf", "(I)I"⟩
abbrev cX9_byteAt : ByteArray := prog_11_method_4_code
def yX9_byteAt : MethodName := ⟨RX9, "byteAt", "(I)I"⟩
abbrev cX9_hasFigure : ByteArray := prog_11_method_5_code
def yX9_hasFigure : MethodName := ⟨RX9, "hasFigure", "(I)Z"⟩
abbrev cX9_findFault : ByteArray := prog_11_method_6_code
def yX9_findFault : MethodName := ⟨RX9, "findFault", "()I"⟩
abbrev cX9_passAct : ByteArray := prog_11_method_7_code
def yX9_passAct : MethodName := ⟨RX9, "passAct", "()Z"⟩
abbrev cX9_passNumber : ByteArray := prog_11_method_8_code
def yX9_passNumber : MethodName := ⟨RX9, "passNumber", "()Z"⟩
abbrev cX9_nextByte : ByteArray := prog_11_method_9_code
def yX9_nextByte : MethodName := ⟨RX9, "nextByte", "()I"⟩
abbrev cX9_nextNumber : ByteArray := prog_11_method_10_code
def yX9_nextNumber : MethodName := ⟨RX9, "nextNumber", "()I"⟩
def RX10 : String := "ZeroForcer"
def TX10 : u_T := fun k => match k with
  | 0 => ("ZeroForcer", "net", "LZeroForcer$Network;", true)
  | 1 => ("ZeroForcer", "kept", "LZeroForcer$Network;", true)
  | 2 => ("ZeroForcer", "hasImage", "Z", false)
  | 3 => ("ZeroForcer", "history", "LZeroForcer$History;", true)
  | 4 => ("ZeroForcer", "forcing", "LZeroForcer$Forcing;", true)
  | 5 => ("ZeroForcer", "chains", "LZeroForcer$Chains;", true)
  | 6 => ("ZeroForcer", "fortMarks", "LZeroForcer$FortMarks;", true)
  | 7 => ("ZeroForcer", "grid", "LZeroForcer$Grid;", true)
  | 8 => ("ZeroForcer", "rows", "[LZeroForcer$Row;", true)
  | 9 => ("ZeroForcer", "tape", "LZeroForcer$Tape;", true)
  | _ => ("ZeroForcer", "bodies", "LZeroForcer$Bodies;", true)
def tyX10 : Nat → FieldType := fun k => match k with
  | 0 => .object "ZeroForcer$Network"
  | 1 => .object "ZeroForcer$Network"
  | 2 => .boolean
  | 3 => .object "ZeroForcer$History"
  | 4 => .object "ZeroForcer$Forcing"
  | 5 => .object "ZeroForcer$Chains"
  | 6 => .object "ZeroForcer$FortMarks"
  | 7 => .object "ZeroForcer$Grid"
  | 8 => .array (.object "ZeroForcer$Row")
  | 9 => .object "ZeroForcer$Tape"
  | _ => .object "ZeroForcer$Bodies"
abbrev wsX100 : List Cond := u_ws RX10 TX10 11
theorem nmX10 : ∀ a, a < 11 → ∀ b, b < 11 → a ≠ b → (TX10 a).2.1 ≠ (TX10 b).2.1 := by decide +kernel
theorem tyX10_ok : ∀ k, k < 11 → parseFieldDescriptor (TX10 k).2.2.1 = some (tyX10 k) := by decide +kernel
abbrev cX10_init : ByteArray := prog_1_method_1_code
def yX10_init : MethodName := ⟨RX10, "<init>", "()V"⟩
abbrev cX10_points : ByteArray := prog_1_method_2_code
def yX10_points : MethodName := ⟨RX10, "points", "(I)I"⟩
abbrev cX10_line : ByteArray := prog_1_method_3_code
def yX10_line : MethodName := ⟨RX10, "line", "(III)I"⟩
abbrev cX10_kind : ByteArray := prog_1_method_4_code
def yX10_kind : MethodName := ⟨RX10, "kind", "(II)I"⟩
abbrev cX10_cost : ByteArray := prog_1_method_5_code
def yX10_cost : MethodName := ⟨RX10, "cost", "(II)I"⟩
abbrev cX10_rule : ByteArray := prog_1_method_6_code
def yX10_rule : MethodName := ⟨RX10, "rule", "(II)I"⟩
abbrev cX10_of : ByteArray := prog_1_method_7_code
def yX10_of : MethodName := ⟨RX10, "of", "(II)I"⟩
abbrev cX10_round : ByteArray := prog_1_method_8_code
def yX10_round : MethodName := ⟨RX10, "round", "(I)I"⟩
abbrev cX10_closure : ByteArray := prog_1_method_9_code
def yX10_closure : MethodName := ⟨RX10, "closure", "(I)I"⟩
abbrev cX10_time : ByteArray := prog_1_method_10_code
def yX10_time : MethodName := ⟨RX10, "time", "(I)I"⟩
abbrev cX10_least : ByteArray := prog_1_method_11_code
def yX10_least : MethodName := ⟨RX10, "least", "(I)I"⟩
abbrev cX10_cheapest : ByteArray := prog_1_method_12_code
def yX10_cheapest : MethodName := ⟨RX10, "cheapest", "(I)I"⟩
abbrev cX10_many : ByteArray := prog_1_method_13_code
def yX10_many : MethodName := ⟨RX10, "many", "(I)I"⟩
abbrev cX10_throttle : ByteArray := prog_1_method_14_code
def yX10_throttle : MethodName := ⟨RX10, "throttle", "(I)I"⟩
abbrev cX10_spread : ByteArray := prog_1_method_15_code
def yX10_spread : MethodName := ⟨RX10, "spread", "(I)I"⟩
abbrev cX10_lineSpread : ByteArray := prog_1_method_16_code
def yX10_lineSpread : MethodName := ⟨RX10, "lineSpread", "(II)I"⟩
abbrev cX10_best : ByteArray := prog_1_method_17_code
def yX10_best : MethodName := ⟨RX10, "best", "(I)I"⟩
abbrev cX10_chain : ByteArray := prog_1_method_18_code
def yX10_chain : MethodName := ⟨RX10, "chain", "(III)I"⟩
abbrev cX10_ends : ByteArray := prog_1_method_19_code
def yX10_ends : MethodName := ⟨RX10, "ends", "(I)I"⟩
abbrev cX10_fort : ByteArray := prog_1_method_20_code
def yX10_fort : MethodName := ⟨RX10, "fort", "(I)I"⟩
abbrev cX10_forts : ByteArray := prog_1_method_21_code
def yX10_forts : MethodName := ⟨RX10, "forts", "(II)I"⟩
abbrev cX10_innerFort : ByteArray := prog_1_method_22_code
def yX10_innerFort : MethodName := ⟨RX10, "innerFort", "(I)I"⟩
abbrev cX10_meets : ByteArray := prog_1_method_23_code
def yX10_meets : MethodName := ⟨RX10, "meets", "(I)I"⟩
abbrev cX10_table : ByteArray := prog_1_method_24_code
def yX10_table : MethodName := ⟨RX10, "table", "(III)I"⟩
abbrev cX10_entry : ByteArray := prog_1_method_25_code
def yX10_entry : MethodName := ⟨RX10, "entry", "(II)I"⟩
abbrev cX10_prime : ByteArray := prog_1_method_26_code
def yX10_prime : MethodName := ⟨RX10, "prime", "(I)I"⟩
abbrev cX10_rank : ByteArray := prog_1_method_27_code
def yX10_rank : MethodName := ⟨RX10, "rank", "(I)I"⟩
abbrev cX10_kernel : ByteArray := prog_1_method_28_code
def yX10_kernel : MethodName := ⟨RX10, "kernel", "(II)I"⟩
abbrev cX10_mend : ByteArray := prog_1_method_29_code
def yX10_mend : MethodName := ⟨RX10, "mend", "(II)I"⟩
abbrev cX10_mendTwo : ByteArray := prog_1_method_30_code
def yX10_mendTwo : MethodName := ⟨RX10, "mendTwo", "(III)I"⟩
abbrev cX10_fits : ByteArray := prog_1_method_31_code
def yX10_fits : MethodName := ⟨RX10, "fits", "(III)I"⟩
abbrev cX10_judge : ByteArray := prog_1_method_32_code
def yX10_judge : MethodName := ⟨RX10, "judge", "(I)I"⟩
abbrev cX10_undo : ByteArray := prog_1_method_33_code
def yX10_undo : MethodName := ⟨RX10, "undo", "()I"⟩
abbrev cX10_redo : ByteArray := prog_1_method_34_code
def yX10_redo : MethodName := ⟨RX10, "redo", "()I"⟩
abbrev cX10_feed : ByteArray := prog_1_method_35_code
def yX10_feed : MethodName := ⟨RX10, "feed", "(I)I"⟩
abbrev cX10_wipe : ByteArray := prog_1_method_36_code
def yX10_wipe : MethodName := ⟨RX10, "wipe", "()I"⟩
abbrev cX10_read : ByteArray := prog_1_method_37_code
def yX10_read : MethodName := ⟨RX10, "read", "()I"⟩
abbrev cX10_row : ByteArray := prog_1_method_38_code
def yX10_row : MethodName := ⟨RX10, "row", "(II)I"⟩
abbrev cX10_put : ByteArray := prog_1_method_39_code
def yX10_put : MethodName := ⟨RX10, "put", "(III)I"⟩
abbrev cX10_get : ByteArray := prog_1_method_40_code
def yX10_get : MethodName := ⟨RX10, "get", "(II)I"⟩
abbrev cX10_film : ByteArray := prog_1_method_41_code
def yX10_film : MethodName := ⟨RX10, "film", "(III)I"⟩
abbrev cX10_act : ByteArray := prog_1_method_42_code
def yX10_act : MethodName := ⟨RX10, "act", "(III)I"⟩
abbrev cX10_trace : ByteArray := prog_1_method_43_code
def yX10_trace : MethodName := ⟨RX10, "trace", "(I)I"⟩
abbrev cX10_taken : ByteArray := prog_1_method_44_code
def yX10_taken : MethodName := ⟨RX10, "taken", "(II)I"⟩
abbrev cX10_image : ByteArray := prog_1_method_45_code
def yX10_image : MethodName := ⟨RX10, "image", "()I"⟩
abbrev cX10_back : ByteArray := prog_1_method_46_code
def yX10_back : MethodName := ⟨RX10, "back", "()I"⟩
abbrev cX10_count : ByteArray := prog_1_method_47_code
def yX10_count : MethodName := ⟨RX10, "count", "(I)I"⟩
abbrev cX10_areTwo : ByteArray := prog_1_method_48_code
def yX10_areTwo : MethodName := ⟨RX10, "areTwo", "(II)Z"⟩
abbrev cX10_rowAt : ByteArray := prog_1_method_49_code
def yX10_rowAt : MethodName := ⟨RX10, "rowAt", "(I)LZeroForcer$Row;"⟩
abbrev cX10_isPrime : ByteArray := prog_1_method_50_code
def yX10_isPrime : MethodName := ⟨RX10, "isPrime", "(I)Z"⟩
abbrev cX10_tellLine : ByteArray := prog_1_method_51_code
def yX10_tellLine : MethodName := ⟨RX10, "tellLine", "(III)I"⟩
abbrev cX10_leastOfAll : ByteArray := prog_1_method_52_code
def yX10_leastOfAll : MethodName := ⟨RX10, "leastOfAll", "()I"⟩
abbrev cX10_leastWithFlipped : ByteArray := prog_1_method_53_code
def yX10_leastWithFlipped : MethodName := ⟨RX10, "leastWithFlipped", "(II)I"⟩
abbrev cX10_canBeForced : ByteArray := prog_1_method_54_code
def yX10_canBeForced : MethodName := ⟨RX10, "canBeForced", "(II)Z"⟩
abbrev cX10_fittingRules : ByteArray := prog_1_method_55_code
def yX10_fittingRules : MethodName := ⟨RX10, "fittingRules", "(LZeroForcer$Row;I)I"⟩
abbrev cX10_leastFittingK : ByteArray := prog_1_method_56_code
def yX10_leastFittingK : MethodName := ⟨RX10, "leastFittingK", "(LZeroForcer$Row;I)I"⟩
abbrev cX10_doAct : ByteArray := prog_1_method_57_code
def yX10_doAct : MethodName := ⟨RX10, "doAct", "()I"⟩
abbrev cX10_tellPath : ByteArray := prog_1_method_58_code
def yX10_tellPath : MethodName := ⟨RX10, "tellPath", "(III)I"⟩
def RX11 : String := "ZeroForcerModel"
def TX11 : u_T := fun k => match k with
  | 0 => ("ZeroForcerModel", "table", "[I", true)
  | 1 => ("ZeroForcerModel", "kinds", "[I", true)
  | 2 => ("ZeroForcerModel", "costs", "[I", true)
  | 3 => ("ZeroForcerModel", "points", "I", false)
  | 4 => ("ZeroForcerModel", "rule", "I", false)
  | 5 => ("ZeroForcerModel", "most", "I", false)
  | 6 => ("ZeroForcerModel", "prime", "I", false)
  | 7 => ("ZeroForcerModel", "sort", "[I", true)
  | 8 => ("ZeroForcerModel", "place", "[I", true)
  | 9 => ("ZeroForcerModel", "was", "[I", true)
  | 10 => ("ZeroForcerModel", "becomes", "[I", true)
  | 11 => ("ZeroForcerModel", "done", "I", false)
  | 12 => ("ZeroForcerModel", "undone", "I", false)
  | 13 => ("ZeroForcerModel", "near", "[I", true)
  | 14 => ("ZeroForcerModel", "there", "I", false)
  | 15 => ("ZeroForcerModel", "time", "I", false)
  | 16 => ("ZeroForcerModel", "size", "I", false)
  | 17 => ("ZeroForcerModel", "first", "I", false)
  | 18 => ("ZeroForcerModel", "howMany", "I", false)
  | 19 => ("ZeroForcerModel", "soonest", "I", false)
  | 20 => ("ZeroForcerModel", "forced", "[I", true)
  | 21 => ("ZeroForcerModel", "isFort", "[Z", true)
  | 22 => ("ZeroForcerModel", "grid", "[I", true)
  | 23 => ("ZeroForcerModel", "pivot", "[I", true)
  | 24 => ("ZeroForcerModel", "isThere", "[Z", true)
  | 25 => ("ZeroForcerModel", "sizes", "[I", true)
  | 26 => ("ZeroForcerModel", "items", "[I", true)
  | 27 => ("ZeroForcerModel", "tape", "[I", true)
  | 28 => ("ZeroForcerModel", "taped", "I", false)
  | 29 => ("ZeroForcerModel", "at", "I", false)
  | 30 => ("ZeroForcerModel", "isWrong", "Z", false)
  | 31 => ("ZeroForcerModel", "acts", "[I", true)
  | 32 => ("ZeroForcerModel", "ones", "[I", true)
  | 33 => ("ZeroForcerModel", "others", "[I", true)
  | 34 => ("ZeroForcerModel", "acting", "I", false)
  | 35 => ("ZeroForcerModel", "trace", "[I", true)
  | 36 => ("ZeroForcerModel", "ran", "I", false)
  | 37 => ("ZeroForcerModel", "keptTable", "[I", true)
  | 38 => ("ZeroForcerModel", "keptKinds", "[I", true)
  | 39 => ("ZeroForcerModel", "keptCosts", "[I", true)
  | 40 => ("ZeroForcerModel", "keptPoints", "I", false)
  | 41 => ("ZeroForcerModel", "keptRule", "I", false)
  | 42 => ("ZeroForcerModel", "keptMost", "I", false)
  | _ => ("ZeroForcerModel", "keptPrime", "I", false)
def tyX11 : Nat → FieldType := fun k => match k with
  | 0 => .array .int
  | 1 => .array .int
  | 2 => .array .int
  | 3 => .int
  | 4 => .int
  | 5 => .int
  | 6 => .int
  | 7 => .array .int
  | 8 => .array .int
  | 9 => .array .int
  | 10 => .array .int
  | 11 => .int
  | 12 => .int
  | 13 => .array .int
  | 14 => .int
  | 15 => .int
  | 16 => .int
  | 17 => .int
  | 18 => .int
  | 19 => .int
  | 20 => .array .int
  | 21 => .array .boolean
  | 22 => .array .int
  | 23 => .array .int
  | 24 => .array .boolean
  | 25 => .array .int
  | 26 => .array .int
  | 27 => .array .int
  | 28 => .int
  | 29 => .int
  | 30 => .boolean
  | 31 => .array .int
  | 32 => .array .int
  | 33 => .array .int
  | 34 => .int
  | 35 => .array .int
  | 36 => .int
  | 37 => .array .int
  | 38 => .array .int
  | 39 => .array .int
  | 40 => .int
  | 41 => .int
  | 42 => .int
  | _ => .int
abbrev wsX110 : List Cond := u_ws RX11 TX11 44
theorem nmX11 : ∀ a, a < 44 → ∀ b, b < 44 → a ≠ b → (TX11 a).2.1 ≠ (TX11 b).2.1 := by decide +kernel
theorem tyX11_ok : ∀ k, k < 44 → parseFieldDescriptor (TX11 k).2.2.1 = some (tyX11 k) := by decide +kernel
abbrev cX11_init : ByteArray := prog_13_method_1_code
def yX11_init : MethodName := ⟨RX11, "<init>", "()V"⟩
abbrev cX11_in : ByteArray := prog_13_method_2_code
def yX11_in : MethodName := ⟨RX11, "in", "(III)Z"⟩
abbrev cX11_has : ByteArray := prog_13_method_3_code
def yX11_has : MethodName := ⟨RX11, "has", "(II)Z"⟩
abbrev cX11_bits : ByteArray := prog_13_method_4_code
def yX11_bits : MethodName := ⟨RX11, "bits", "(I)I"⟩
abbrev cX11_isPoint : ByteArray := prog_13_method_5_code
def yX11_isPoint : MethodName := ⟨RX11, "isPoint", "(I)Z"⟩
abbrev cX11_whole : ByteArray := prog_13_method_6_code
def yX11_whole : MethodName := ⟨RX11, "whole", "()I"⟩
abbrev cX11_isSet : ByteArray := prog_13_method_7_code
def yX11_isSet : MethodName := ⟨RX11, "isSet", "(I)Z"⟩
abbrev cX11_isLine : ByteArray := prog_13_method_8_code
def yX11_isLine : MethodName := ⟨RX11, "isLine", "(II)Z"⟩
abbrev cX11_lays : ByteArray := prog_13_method_9_code
def yX11_lays : MethodName := ⟨RX11, "lays", "(III)V"⟩
abbrev cX11_changes : ByteArray := prog_13_method_10_code
def yX11_changes : MethodName := ⟨RX11, "changes", "(IIII)V"⟩
abbrev cX11_undo : ByteArray := prog_13_method_11_code
def yX11_undo : MethodName := ⟨RX11, "undo", "()I"⟩
abbrev cX11_redo : ByteArray := prog_13_method_12_code
def yX11_redo : MethodName := ⟨RX11, "redo", "()I"⟩
abbrev cX11_forgets : ByteArray := prog_13_method_13_code
def yX11_forgets : MethodName := ⟨RX11, "forgets", "()V"⟩
abbrev cX11_points : ByteArray := prog_13_method_14_code
def yX11_points : MethodName := ⟨RX11, "points", "(I)I"⟩
abbrev cX11_areTwo : ByteArray := prog_13_method_15_code
def yX11_areTwo : MethodName := ⟨RX11, "areTwo", "(II)Z"⟩
abbrev cX11_line : ByteArray := prog_13_method_16_code
def yX11_line : MethodName := ⟨RX11, "line", "(III)I"⟩
abbrev cX11_kind : ByteArray := prog_13_method_17_code
def yX11_kind : MethodName := ⟨RX11, "kind", "(II)I"⟩
abbrev cX11_cost : ByteArray := prog_13_method_18_code
def yX11_cost : MethodName := ⟨RX11, "cost", "(II)I"⟩
abbrev cX11_rule : ByteArray := prog_13_method_19_code
def yX11_rule : MethodName := ⟨RX11, "rule", "(II)I"⟩
abbrev cX11_table : ByteArray := prog_13_method_20_code
def yX11_table : MethodName := ⟨RX11, "table", "(III)I"⟩
abbrev cX11_entry : ByteArray := prog_13_method_21_code
def yX11_entry : MethodName := ⟨RX11, "entry", "(II)I"⟩
abbrev cX11_prime : ByteArray := prog_13_method_22_code
def yX11_prime : MethodName := ⟨RX11, "prime", "(I)I"⟩
abbrev cX11_neighbours : ByteArray := prog_13_method_23_code
def yX11_neighbours : MethodName := ⟨RX11, "neighbours", "(I)I"⟩
abbrev cX11_counts : ByteArray := prog_13_method_24_code
def yX11_counts : MethodName := ⟨RX11, "counts", "(I)I"⟩
abbrev cX11_of : ByteArray := prog_13_method_25_code
def yX11_of : MethodName := ⟨RX11, "of", "(II)I"⟩
abbrev cX11_takes : ByteArray := prog_13_method_26_code
def yX11_takes : MethodName := ⟨RX11, "takes", "()V"⟩
abbrev cX11_drops : ByteArray := prog_13_method_27_code
def yX11_drops : MethodName := ⟨RX11, "drops", "(I)V"⟩
abbrev cX11_turns : ByteArray := prog_13_method_28_code
def yX11_turns : MethodName := ⟨RX11, "turns", "(II)V"⟩
abbrev cX11_partOf : ByteArray := prog_13_method_29_code
def yX11_partOf : MethodName := ⟨RX11, "partOf", "(II)I"⟩
abbrev cX11_partly : ByteArray := prog_13_method_30_code
def yX11_partly : MethodName := ⟨RX11, "partly", "(II)I"⟩
abbrev cX11_forces : ByteArray := prog_13_method_31_code
def yX11_forces : MethodName := ⟨RX11, "forces", "(IIII)I"⟩
abbrev cX11_goes : ByteArray := prog_13_method_32_code
def yX11_goes : MethodName := ⟨RX11, "goes", "(III)I"⟩
abbrev cX11_round : ByteArray := prog_13_method_33_code
def yX11_round : MethodName := ⟨RX11, "round", "(IIII)I"⟩
abbrev cX11_closes : ByteArray := prog_13_method_34_code
def yX11_closes : MethodName := ⟨RX11, "closes", "(I)I"⟩
abbrev cX11_isForcing : ByteArray := prog_13_method_35_code
def yX11_isForcing : MethodName := ⟨RX11, "isForcing", "(I)Z"⟩
abbrev cX11_round_ : ByteArray := prog_13_method_36_code
def yX11_round_ : MethodName := ⟨RX11, "round", "(I)I"⟩
abbrev cX11_closure : ByteArray := prog_13_method_37_code
def yX11_closure : MethodName := ⟨RX11, "closure", "(I)I"⟩
abbrev cX11_time : ByteArray := prog_13_method_38_code
def yX11_time : MethodName := ⟨RX11, "time", "(I)I"⟩
abbrev cX11_least : ByteArray := prog_13_method_39_code
def yX11_least : MethodName := ⟨RX11, "least", "()V"⟩
abbrev cX11_least_ : ByteArray := prog_13_method_40_code
def yX11_least_ : MethodName := ⟨RX11, "least", "(I)I"⟩
abbrev cX11_sumOf : ByteArray := prog_13_method_41_code
def yX11_sumOf : MethodName := ⟨RX11, "sumOf", "(I)I"⟩
abbrev cX11_cheapest : ByteArray := prog_13_method_42_code
def yX11_cheapest : MethodName := ⟨RX11, "cheapest", "(I)I"⟩
abbrev cX11_many : ByteArray := prog_13_method_43_code
def yX11_many : MethodName := ⟨RX11, "many", "(I)I"⟩
abbrev cX11_throttle : ByteArray := prog_13_method_44_code
def yX11_throttle : MethodName := ⟨RX11, "throttle", "(I)I"⟩
abbrev cX11_leastNow : ByteArray := prog_13_method_45_code
def yX11_leastNow : MethodName := ⟨RX11, "leastNow", "()I"⟩
abbrev cX11_spread : ByteArray := prog_13_method_46_code
def yX11_spread : MethodName := ⟨RX11, "spread", "(I)I"⟩
abbrev cX11_turned : ByteArray := prog_13_method_47_code
def yX11_turned : MethodName := ⟨RX11, "turned", "(II)I"⟩
abbrev cX11_lineSpread : ByteArray := prog_13_method_48_code
def yX11_lineSpread : MethodName := ⟨RX11, "lineSpread", "(II)I"⟩
abbrev cX11_best : ByteArray := prog_13_method_49_code
def yX11_best : MethodName := ⟨RX11, "best", "(I)I"⟩
abbrev cX11_chains : ByteArray := prog_13_method_50_code
def yX11_chains : MethodName := ⟨RX11, "chains", "(I)V"⟩
abbrev cX11_chain : ByteArray := prog_13_method_51_code
def yX11_chain : MethodName := ⟨RX11, "chain", "(III)I"⟩
abbrev cX11_ends : ByteArray := prog_13_method_52_code
def yX11_ends : MethodName := ⟨RX11, "ends", "(I)I"⟩
abbrev cX11_forts : ByteArray := prog_13_method_53_code
def yX11_forts : MethodName := ⟨RX11, "forts", "()V"⟩
abbrev cX11_isInner : ByteArray := prog_13_method_54_code
def yX11_isInner : MethodName := ⟨RX11, "isInner", "(I)Z"⟩
abbrev cX11_fort : ByteArray := prog_13_method_55_code
def yX11_fort : MethodName := ⟨RX11, "fort", "(I)I"⟩
abbrev cX11_forts_ : ByteArray := prog_13_method_56_code
def yX11_forts_ : MethodName := ⟨RX11, "forts", "(II)I"⟩
abbrev cX11_innerFort : ByteArray := prog_13_method_57_code
def yX11_innerFort : MethodName := ⟨RX11, "innerFort", "(I)I"⟩
abbrev cX11_meets : ByteArray := prog_13_method_58_code
def yX11_meets : MethodName := ⟨RX11, "meets", "(I)I"⟩
abbrev cX11_cell : ByteArray := prog_13_method_59_code
def yX11_cell : MethodName := ⟨RX11, "cell", "(II)I"⟩
abbrev cX11_copies : ByteArray := prog_13_method_60_code
def yX11_copies : MethodName := ⟨RX11, "copies", "()V"⟩
abbrev cX11_inverse : ByteArray := prog_13_method_61_code
def yX11_inverse : MethodName := ⟨RX11, "inverse", "(I)I"⟩
abbrev cX11_takesOff : ByteArray := prog_13_method_62_code
def yX11_takesOff : MethodName := ⟨RX11, "takesOff", "(III)V"⟩
abbrev cX11_steps : ByteArray := prog_13_method_63_code
def yX11_steps : MethodName := ⟨RX11, "steps", "()I"⟩
abbrev cX11_rank : ByteArray := prog_13_method_64_code
def yX11_rank : MethodName := ⟨RX11, "rank", "(I)I"⟩
abbrev cX11_stepOf : ByteArray := prog_13_method_65_code
def yX11_stepOf : MethodName := ⟨RX11, "stepOf", "(II)I"⟩
abbrev cX11_kernel : ByteArray := prog_13_method_66_code
def yX11_kernel : MethodName := ⟨RX11, "kernel", "(II)I"⟩
abbrev cX11_mend : ByteArray := prog_13_method_67_code
def yX11_mend : MethodName := ⟨RX11, "mend", "(II)I"⟩
abbrev cX11_mendTwo : ByteArray := prog_13_method_68_code
def yX11_mendTwo : MethodName := ⟨RX11, "mendTwo", "(III)I"⟩
abbrev cX11_isRow : ByteArray := prog_13_method_69_code
def yX11_isRow : MethodName := ⟨RX11, "isRow", "(I)Z"⟩
abbrev cX11_row : ByteArray := prog_13_method_70_code
def yX11_row : MethodName := ⟨RX11, "row", "(II)I"⟩
abbrev cX11_put : ByteArray := prog_13_method_71_code
def yX11_put : MethodName := ⟨RX11, "put", "(III)I"⟩
abbrev cX11_get : ByteArray := prog_13_method_72_code
def yX11_get : MethodName := ⟨RX11, "get", "(II)I"⟩
abbrev cX11_film : ByteArray := prog_13_method_73_code
def yX11_film : MethodName := ⟨RX11, "film", "(III)I"⟩
abbrev cX11_isSo : ByteArray := prog_13_method_74_code
def yX11_isSo : MethodName := ⟨RX11, "isSo", "(IIII)Z"⟩
abbrev cX11_fits : ByteArray := prog_13_method_75_code
def yX11_fits : MethodName := ⟨RX11, "fits", "(III)I"⟩
abbrev cX11_isForced : ByteArray := prog_13_method_76_code
def yX11_isForced : MethodName := ⟨RX11, "isForced", "(II)Z"⟩
abbrev cX11_judge : ByteArray := prog_13_method_77_code
def yX11_judge : MethodName := ⟨RX11, "judge", "(I)I"⟩
abbrev cX11_feed : ByteArray := prog_13_method_78_code
def yX11_feed : MethodName := ⟨RX11, "feed", "(I)I"⟩
abbrev cX11_wipe : ByteArray := prog_13_method_79_code
def yX11_wipe : MethodName := ⟨RX11, "wipe", "()I"⟩
abbrev cX11_here : ByteArray := prog_13_method_80_code
def yX11_here : MethodName := ⟨RX11, "here", "()I"⟩
abbrev cX11_isFigure : ByteArray := prog_13_method_81_code
def yX11_isFigure : MethodName := ⟨RX11, "isFigure", "()Z"⟩
abbrev cX11_number : ByteArray := prog_13_method_82_code
def yX11_number : MethodName := ⟨RX11, "number", "()I"⟩
abbrev cX11_isOne : ByteArray := prog_13_method_83_code
def yX11_isOne : MethodName := ⟨RX11, "isOne", "(I)Z"⟩
abbrev cX11_isTwo : ByteArray := prog_13_method_84_code
def yX11_isTwo : MethodName := ⟨RX11, "isTwo", "(I)Z"⟩
abbrev cX11_act : ByteArray := prog_13_method_85_code
def yX11_act : MethodName := ⟨RX11, "act", "()V"⟩
abbrev cX11_isRun : ByteArray := prog_13_method_86_code
def yX11_isRun : MethodName := ⟨RX11, "isRun", "(III)Z"⟩
abbrev cX11_runs : ByteArray := prog_13_method_87_code
def yX11_runs : MethodName := ⟨RX11, "runs", "(II)V"⟩
abbrev cX11_isDone : ByteArray := prog_13_method_88_code
def yX11_isDone : MethodName := ⟨RX11, "isDone", "(I)Z"⟩
abbrev cX11_read : ByteArray := prog_13_method_89_code
def yX11_read : MethodName := ⟨RX11, "read", "()I"⟩
abbrev cX11_runs_ : ByteArray := prog_13_method_90_code
def yX11_runs_ : MethodName := ⟨RX11, "runs", "(I)V"⟩
abbrev cX11_isUnder : ByteArray := prog_13_method_91_code
def yX11_isUnder : MethodName := ⟨RX11, "isUnder", "(II)Z"⟩
abbrev cX11_asks : ByteArray := prog_13_method_92_code
def yX11_asks : MethodName := ⟨RX11, "asks", "(II)I"⟩
abbrev cX11_tells : ByteArray := prog_13_method_93_code
def yX11_tells : MethodName := ⟨RX11, "tells", "(II)I"⟩
abbrev cX11_says : ByteArray := prog_13_method_94_code
def yX11_says : MethodName := ⟨RX11, "says", "(II)I"⟩
abbrev cX11_act_ : ByteArray := prog_13_method_95_code
def yX11_act_ : MethodName := ⟨RX11, "act", "(III)I"⟩
abbrev cX11_trace : ByteArray := prog_13_method_96_code
def yX11_trace : MethodName := ⟨RX11, "trace", "(I)I"⟩
abbrev cX11_taken : ByteArray := prog_13_method_97_code
def yX11_taken : MethodName := ⟨RX11, "taken", "(II)I"⟩
abbrev cX11_lines : ByteArray := prog_13_method_98_code
def yX11_lines : MethodName := ⟨RX11, "lines", "()I"⟩
abbrev cX11_image : ByteArray := prog_13_method_99_code
def yX11_image : MethodName := ⟨RX11, "image", "()I"⟩
abbrev cX11_back : ByteArray := prog_13_method_100_code
def yX11_back : MethodName := ⟨RX11, "back", "()I"⟩
abbrev cX11_degree : ByteArray := prog_13_method_101_code
def yX11_degree : MethodName := ⟨RX11, "degree", "(I)I"⟩
abbrev cX11_parts : ByteArray := prog_13_method_102_code
def yX11_parts : MethodName := ⟨RX11, "parts", "()I"⟩
abbrev cX11_count : ByteArray := prog_13_method_103_code
def yX11_count : MethodName := ⟨RX11, "count", "(I)I"⟩
def RJ6 : String := "java/lang/Integer"
def TJ6 : u_T := fun k => match k with
  | _ => ("", "", "", false)
def tyJ6 : Nat → FieldType := fun k => match k with
  | _ => .int
theorem nmJ6 : ∀ a, a < 0 → ∀ b, b < 0 → a ≠ b → (TJ6 a).2.1 ≠ (TJ6 b).2.1 := by decide +kernel
theorem tyJ6_ok : ∀ k, k < 0 → parseFieldDescriptor (TJ6 k).2.2.1 = some (tyJ6 k) := by decide +kernel
abbrev cJ6_bitCount_0f7a4 : ByteArray := prog_14_method_49_code
def yJ6_bitCount_0f7a4 : MethodName := ⟨RJ6, "bitCount", "(I)I"⟩
def RJ9 : String := "java/lang/Math"
def TJ9 : u_T := fun k => match k with
  | _ => ("", "", "", false)
def tyJ9 : Nat → FieldType := fun k => match k with
  | _ => .int
theorem nmJ9 : ∀ a, a < 0 → ∀ b, b < 0 → a ≠ b → (TJ9 a).2.1 ≠ (TJ9 b).2.1 := by decide +kernel
theorem tyJ9_ok : ∀ k, k < 0 → parseFieldDescriptor (TJ9 k).2.2.1 = some (tyJ9 k) := by decide +kernel
abbrev cJ9_max_7cf53 : ByteArray := prog_15_method_65_code
def yJ9_max_7cf53 : MethodName := ⟨RJ9, "max", "(II)I"⟩
abbrev cJ9_min_7cf53 : ByteArray := prog_15_method_69_code
def yJ9_min_7cf53 : MethodName := ⟨RJ9, "min", "(II)I"⟩
def RJ10 : String := "java/lang/System"
def TJ10 : u_T := fun k => match k with
  | _ => ("", "", "", false)
def tyJ10 : Nat → FieldType := fun k => match k with
  | _ => .int
theorem nmJ10 : ∀ a, a < 0 → ∀ b, b < 0 → a ≠ b → (TJ10 a).2.1 ≠ (TJ10 b).2.1 := by decide +kernel
theorem tyJ10_ok : ∀ k, k < 0 → parseFieldDescriptor (TJ10 k).2.2.1 = some (tyJ10 k) := by decide +kernel
def RJ7 : String := "java/util/Arrays"
def TJ7 : u_T := fun k => match k with
  | _ => ("", "", "", false)
def tyJ7 : Nat → FieldType := fun k => match k with
  | _ => .int
theorem nmJ7 : ∀ a, a < 0 → ∀ b, b < 0 → a ≠ b → (TJ7 a).2.1 ≠ (TJ7 b).2.1 := by decide +kernel
theorem tyJ7_ok : ∀ k, k < 0 → parseFieldDescriptor (TJ7 k).2.2.1 = some (tyJ7 k) := by decide +kernel
abbrev cJ7_fill_53178 : ByteArray := prog_17_method_103_code
def yJ7_fill_53178 : MethodName := ⟨RJ7, "fill", "([II)V"⟩
def RL : String := "ZeroForcerLaw"
abbrev cL_law : ByteArray := code
def yL_law : MethodName := ⟨RL, "law", "([I)Z"⟩
abbrev vwCl : List vw_C := [(RX0, TX0, 5), (RX1, TX1, 1), (RX2, TX2, 5), (RX3, TX3, 6), (RX4, TX4, 1), (RX5, TX5, 6), (RX6, TX6, 3), (RX7, TX7, 8), (RX8, TX8, 2), (RX9, TX9, 4), (RX10, TX10, 11), (RX11, TX11, 44)]

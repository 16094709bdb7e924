/-! CONSTRUCTORS: the cells that are made, one behind another, from an address on -/
abbrev zcc : Type := Nat × Nat × List Value
def zcs (n : Nat) : Value → Value
  | .ref a => .ref (a + n)
  | v => v
def zcS (n : Nat) (c : zcc) : zcc := (c.1, c.2.1, c.2.2.map (zcs n))
def zco (b : Nat) : Value → Option Nat
  | .ref a => some (b + a)
  | _ => none
def zcE (b : Nat) (cA : Nat → ClassId) (c : zcc) : va_E :=
  if c.1 = 100 then .inl (cA 0, c.2.1, .inl (fun _ => 0))
  else if c.1 = 101 then .inl (cA 1, c.2.1, .inl (fun _ => 0))
  else if c.1 = 102 then .inl (cA 2, c.2.1, .inr (.inr (.inr (.inr (fun i => zco b (c.2.2.getD i .null))))))
  else if c.1 = 103 then .inl (cA 3, c.2.1, .inr (.inr (.inr (.inr (fun i => zco b (c.2.2.getD i .null))))))
  else if c.1 = 104 then .inl (cA 4, c.2.1, .inr (.inr (.inr (.inr (fun i => zco b (c.2.2.getD i .null))))))
  else .inr (c.1, c.2.2.map (zvm (fun k => b + k)))
theorem zco_s (b n : Nat) (v : Value) : zco b (zcs n v) = zco (b + n) v := by
  cases v with
  | ref a => exact congrArg some (by show b + (a + n) = b + n + a; omega)
  | _ => rfl
theorem zvm_s (b n : Nat) (v : Value) : zvm (fun k => b + k) (zcs n v) = zvm (fun k => b + n + k) v := by
  cases v with
  | ref a => exact congrArg Value.ref (by show b + (a + n) = b + n + a; omega)
  | _ => rfl
theorem zcE_s (b n : Nat) (cA : Nat → ClassId) (c : zcc) : zcE b cA (zcS n c) = zcE (b + n) cA c := by
  have e : ∀ i : Nat, zco b ((c.2.2.map (zcs n)).getD i .null) = zco (b + n) (c.2.2.getD i .null) := by
    intro i
    rw [List.getD_eq_getElem?_getD, List.getD_eq_getElem?_getD, List.getElem?_map]
    cases c.2.2[i]? with
    | none => rfl
    | some v => exact zco_s b n v
  unfold zcE zcS
  simp only [e, List.map_map]
  have e2 : ((zvm fun k => b + k) ∘ zcs n) = zvm (fun k => b + n + k) := funext fun v => zvm_s b n v
  rw [e2]
def zR (D : va_G) (b : Nat) (cA : Nat → ClassId) (L : List zcc) (H : Heap) : Prop := H.size = b + L.length ∧ ∀ (k : Nat) (c : zcc), L[k]? = some c → va_at D vwCl (b + k, zcE b cA c) H
def zN7 : List Cond := [.methodLinkNest RX10 34 yX3_init RX10, .methodLinkNest RX10 41 yX1_init RX10, .methodLinkNest RX10 48 yX4_init RX10, .methodLinkNest RX10 55 yX5_init RX10, .methodLinkNest RX10 69 yX9_init RX10, .methodLinkNest RX10 76 yX0_init RX10, .methodLinkNest RX6 17 yX2_init RX10]
def zCW (D : va_G) (cA : Nat → ClassId) (U : State) : Prop := va_K D vwCl (ztys cA) U ∧ (∃ k : Class, U.vm.classes[cA 2]? = some k ∧ k.kind = .array (cA 0) (.array .int)) ∧ va_AO "ZeroForcer$Change" U ∧ va_AO "ZeroForcer$Row" U ∧ va_AOA .int U ∧ ∀ w ∈ zN7, va_Nw w U
theorem zAOA_spec {args : Array Value} {s : State} {t : FieldType} (h : (Cond.arrayOver (.array t)).before args s = true) :
    ∃ comp c k, s.vm.findClass (FieldType.array t).toString = some comp ∧ (s.vm.classes.findIdx? fun (x : Class) => match x.kind with | .array component _ => component == comp | _ => false) = some c ∧ s.vm.classes[c]? = some k ∧ k.kind = .array comp (.array t) ∧ s.vm.findClass ("[" ++ (FieldType.array t).toString) = some c := by
  simp only [Cond.before, Cond.holds, Cond.value, beq_iff_eq] at h
  cases hc : s.vm.findClass (FieldType.array t).toString with
  | none => simp [hc] at h
  | some comp =>
    simp only [hc, Option.bind_some, Option.bind_eq_some_iff, Option.map_eq_some_iff] at h
    obtain ⟨c, hi, k, hk, hb⟩ := h
    obtain ⟨hlt, hp, -⟩ := Array.findIdx?_eq_some_iff_getElem.mp hi
    have hkk : s.vm.classes[c] = k := (Array.getElem?_eq_some_iff.mp hk).2
    rw [hkk] at hp
    cases hkind : k.kind with
    | array component ty =>
      rw [hkind] at hb hp
      simp at hb hp
      exact ⟨comp, c, k, rfl, hi, hk, by rw [hkind, hp, hb.1], hb.2⟩
    | _ => rw [hkind] at hb; simp at hb
theorem zAOA_moved {t : FieldType} {u U : State} (hvm : u.vm.Alike U.vm) (h : va_AOA t u) : va_AOA t U := by
  obtain ⟨comp, c, k, h1, h2, h3, h4, h5⟩ := zAOA_spec h
  obtain ⟨k', hk', he⟩ := hvm.2.2 _ _ h3
  have hi : (U.vm.classes.findIdx? fun (x : Class) => match x.kind with | .array component _ => component == comp | _ => false) = some c := by
    have e1 := va_idx_bare U.vm comp
    have e2 := va_idx_bare u.vm comp
    rw [hvm.bare_eq] at e1
    exact e1.symm.trans (e2.trans h2)
  have hkind : k'.kind = .array comp (.array t) := by rw [he]; exact h4
  have f1 : U.vm.findClass (FieldType.array t).toString = some comp := by rw [hvm.findClass]; exact h1
  have f2 : U.vm.findClass ("[" ++ (FieldType.array t).toString) = some c := by rw [hvm.findClass]; exact h5
  unfold va_AOA Cond.before Cond.holds
  simp only [Cond.value]
  rw [f1, Option.bind_some]
  refine (congrArg (fun o : Option Nat => (o.bind (fun c => (U.vm.classes[c]?).map fun (k : Class) => match k.kind with | .array _ ty => decide (ty = FieldType.array t) && decide (U.vm.findClass ("[" ++ (FieldType.array t).toString) = some c) | _ => false) == some true)) hi).trans ?_
  simp [hk', hkind, f2]
theorem zCW.warm {D : va_G} {cA : Nat → ClassId} {s U : State} (hW : s.WarmedH U.vm) (h : zCW D cA s) : zCW D cA U := by
  obtain ⟨h1, ⟨k, hk1, hk2⟩, h2, h3, h4, h5⟩ := h
  have hvm := hW.alike
  obtain ⟨k', hk', he⟩ := hvm.2.2 _ _ hk1
  refine ⟨h1.moved hvm, ⟨k', hk', by rw [he]; exact hk2⟩, h2.moved hvm, h3.moved hvm, zAOA_moved hvm h4, fun w hw => ?_⟩
  have hz := h5 w hw
  simp only [zN7, List.mem_cons, List.not_mem_nil, or_false] at hw
  rcases hw with rfl | rfl | rfl | rfl | rfl | rfl | rfl <;> exact va_Nw.warmM hW hz
theorem zCW.vm {D : va_G} {cA : Nat → ClassId} {s U : State} (hvm : s.vm = U.vm) (h : zCW D cA s) : zCW D cA U := by
  obtain ⟨h1, ⟨k, hk1, hk2⟩, h2, h3, h4, h5⟩ := h
  have hal : s.vm.Alike U.vm := by rw [hvm]; exact Vm.Alike.refl _
  refine ⟨h1.moved hal, ⟨k, by rw [← hvm]; exact hk1, hk2⟩, h2.moved hal, h3.moved hal, zAOA_moved hal h4, fun w hw => ?_⟩
  have hz := h5 w hw
  simp only [zN7, List.mem_cons, List.not_mem_nil, or_false] at hw
  rcases hw with rfl | rfl | rfl | rfl | rfl | rfl | rfl <;> exact va_Nw.same rfl hvm hz
section ZC
variable {p : Program} {l0 : Launch} {e : Env} {R : Room} {s : State} {m : MethodId} {args : Array Value} {below : List Frame} {meth : Method} {c : Code} {H : Heap} {locs : List Loc} {cells slots : Nat} {Q : State → Prop}
variable {cc : ByteArray} {pc b : Nat} {ls : Array Slot} {rest : List Value} {D : va_G} {cA : Nat → ClassId} {A : Nat → Prop} {own : String} {L : List zcc}
theorem zR_push {H1 : Heap} {x : zcc} (hR : zR D b cA L H) (hz : H1.size = H.size + 1) (ho : ∀ q, q < H.size → H1[q]? = H[q]?) (hx : va_at D vwCl (b + L.length, zcE b cA x) H1) : zR D b cA (L ++ [x]) H1 := by
  refine ⟨by rw [hz, hR.1, List.length_append]; rfl, fun k y hk => ?_⟩
  by_cases hl : k < L.length
  · rw [List.getElem?_append_left hl] at hk
    exact (hR.2 k y hk).kept (ho _ (by rw [hR.1]; show b + k < _; omega))
  · rw [List.getElem?_append_right (by omega)] at hk
    have h0 : k - L.length < 1 := (List.getElem?_eq_some_iff.mp hk).1
    have hk2 : k = L.length := by omega
    subst hk2
    rw [Nat.sub_self] at hk
    cases hk
    exact hx
theorem zR_set {H1 : Heap} {x y : zcc} {j : Nat} (hR : zR D b cA L H) (hj : L[j]? = some x) (hz : H1.size = H.size) (ho : ∀ q, q ≠ b + j → H1[q]? = H[q]?) (hx : va_at D vwCl (b + j, zcE b cA y) H1) : zR D b cA (L.set j y) H1 := by
  have hl : j < L.length := (List.getElem?_eq_some_iff.mp hj).1
  refine ⟨by rw [hz, hR.1, List.length_set], fun k w hk => ?_⟩
  by_cases e : k = j
  · subst e
    rw [List.getElem?_set_self hl] at hk
    cases hk
    exact hx
  · rw [List.getElem?_set_ne (Ne.symm e)] at hk
    exact (hR.2 k w hk).kept (ho _ (by show b + k ≠ b + j; omega))
theorem zcE_o {b k : Nat} {cA : Nat → ClassId} {n : Nat} {fs : List Value} (h : k < 100) : zcE b cA (k, n, fs) = .inr (k, fs.map (zvm (fun j => b + j))) := by
  unfold zcE
  rw [if_neg (by show ¬ k = 100; omega), if_neg (by show ¬ k = 101; omega), if_neg (by show ¬ k = 102; omega), if_neg (by show ¬ k = 103; omega), if_neg (by show ¬ k = 104; omega)]
theorem zc_S {H1 : Heap} (hS : va_S A s.heap H locs) (hz : H.size ≤ H1.size) (ho : ∀ q, q < H.size → H1[q]? = H[q]?) : va_S A s.heap H1 locs := ⟨Nat.le_trans hS.1 hz, fun q h1 h2 => (ho q (Nat.lt_of_lt_of_le h1 hS.1)).trans (hS.2.1 q h1 h2), hS.2.2⟩
theorem zc_new {C : String} {T : u_T} {N ci index : Nat} {fs : List Value} (hx : p.tables.exec = Jvm.exec) (hb : c.code = cc) (hts : ∀ w ∈ zALL, w.before args s = true) (hin : ∀ w ∈ u_ws C T N, w ∈ zALL) (ty : Nat → FieldType) (hty : ∀ k, k < N → parseFieldDescriptor (T k).2.2.1 = some (ty k)) (hown : s.vm.findClass own = some m.cls) (hcl : Cond.classLink own index C ∈ zALL) (hinst : Cond.instantiable C N ∈ zALL) (hini : Cond.initialized C ∈ zALL)
    (hK : va_K D vwCl (ztys cA) s) (hR : zR D b cA L H) (hS : va_S A s.heap H locs) (hc : vwCl[ci]? = some (C, T, N)) (hci : ci < 100) (hfs : ∀ j, j < N → defaultValue (ty j) = vp_V (fs.map (zvm (fun k => b + k))) j) (hcells : cells + 1 ≤ R.cells) (hslots : slots + N ≤ R.slots) (hdg : decode cc pc = .ok (.new index, 3))
    (kk : ∀ H1 : Heap, zR D b cA (L ++ [(ci, 0, fs)]) H1 → va_S A s.heap H1 locs → W p l0 e R s m args below meth c H1 locs (cells + 1) (slots + N) Q (F0 m (pc + 3) ls (.ref (b + L.length) :: rest))) : W p l0 e R s m args below meth c H locs cells slots Q (F0 m pc ls rest) := by
  have hKn := hK.1 ci _ hc
  refine W.newcK hx hb hown (hts _ hcl) (hts _ hinst) (hts _ hini) rfl hdg hcells hslots hKn.2.1 hR.1 fun H1 kC hkC e1 z1 o1 => ?_
  have o2 : ∀ q, q < H.size → H1[q]? = H[q]? := fun q hq => o1 q (by rw [← hR.1]; exact hq)
  refine kk H1 (zR_push hR (by rw [z1, hR.1]) o2 ?_) (zc_S hS (by rw [z1, hR.1]; omega) o2)
  rw [zcE_o hci]
  exact ⟨_, hc, (u_born ty hts hin hKn hkC e1 hty).to hfs⟩
theorem zc_newa {atype : ArrayType} {k n : Nat} {v : Int32} (t0 : Nat) (hk : (k = 100 ∧ t0 = 0 ∧ newarray.typeOf atype = .int) ∨ (k = 101 ∧ t0 = 1 ∧ newarray.typeOf atype = .boolean)) (hx : p.tables.exec = Jvm.exec) (hb : c.code = cc) (hts : ∀ w ∈ zALL, w.before args s = true) (harr : Cond.arrayClass (newarray.typeOf atype) ∈ zALL)
    (hK : va_K D vwCl (ztys cA) s) (hR : zR D b cA L H) (hS : va_S A s.heap H locs) (hn : ¬ v < 0) (hN : v.toNatClampNeg = n) (hbytes : n * componentBytes (newarray.typeOf atype) ≤ 536870912) (hcells : cells + 1 ≤ R.cells) (hslots : slots + n ≤ R.slots) (hdg : decode cc pc = .ok (.newarray atype, 2))
    (kk : ∀ H1 : Heap, zR D b cA (L ++ [(k, n, [])]) H1 → va_S A s.heap H1 locs → W p l0 e R s m args below meth c H1 locs (cells + 1) (slots + n) Q (F0 m (pc + 2) ls (.ref (b + L.length) :: rest))) : W p l0 e R s m args below meth c H locs cells slots Q (F0 m pc ls (.int v :: rest)) := by
  refine va_newaK hx hb (hts _ harr) rfl hdg rfl hn hN hbytes hcells hslots hR.1 fun H1 cB e1 z1 o1 hAr hNm => ?_
  have o2 : ∀ q, q < H.size → H1[q]? = H[q]? := fun q hq => o1 q (by rw [← hR.1]; exact hq)
  refine kk H1 (zR_push hR (by rw [z1, hR.1]) o2 ?_) (zc_S hS (by rw [z1, hR.1]; omega) o2)
  rcases hk with ⟨rfl, rfl, hty⟩ | ⟨rfl, rfl, hty⟩
  · rw [hty] at hNm e1
    have ec : cB = cA 0 := Option.some.inj (hNm.symm.trans (hK.2 0 (cA 0, .int) rfl).2)
    subst ec
    exact e1
  · rw [hty] at hNm e1
    have ec : cB = cA 1 := Option.some.inj (hNm.symm.trans (hK.2 1 (cA 1, .boolean) rfl).2)
    subst ec
    exact e1
theorem zc_newq {C : String} {index k n : Nat} {v : Int32} (t0 : Nat) (hk : (k = 103 ∧ t0 = 3 ∧ C = "ZeroForcer$Change") ∨ (k = 104 ∧ t0 = 4 ∧ C = "ZeroForcer$Row")) (hx : p.tables.exec = Jvm.exec) (hb : c.code = cc) (hts : ∀ w ∈ zALL, w.before args s = true) (hown : s.vm.findClass own = some m.cls) (hcl : Cond.classLink own index C ∈ zALL) (hover : va_AO C s)
    (hK : va_K D vwCl (ztys cA) s) (hR : zR D b cA L H) (hS : va_S A s.heap H locs) (hn : ¬ v < 0) (hN : v.toNatClampNeg = n) (hbytes : n * 4 ≤ 536870912) (hcells : cells + 1 ≤ R.cells) (hslots : slots + n ≤ R.slots) (hdg : decode cc pc = .ok (.anewarray index, 3))
    (kk : ∀ H1 : Heap, zR D b cA (L ++ [(k, n, List.replicate n .null)]) H1 → va_S A s.heap H1 locs → W p l0 e R s m args below meth c H1 locs (cells + 1) (slots + n) Q (F0 m (pc + 3) ls (.ref (b + L.length) :: rest))) : W p l0 e R s m args below meth c H locs cells slots Q (F0 m pc ls (.int v :: rest)) := by
  subst hN
  refine W.anew hx hb hown (hts _ hcl) (va_AO.use hover) rfl hdg rfl hn hbytes hcells hslots fun cB kA comp f1 f2 f3 f4 => ?_
  generalize hH1 : H.push ({ cls := cB, slots := Array.replicate v.toNatClampNeg .null, vm := .none } : Cell) = H1
  have z1 : H1.size = H.size + 1 := by rw [← hH1, Array.size_push]
  have e1 : H1[H.size]? = some (arrV cB v.toNatClampNeg (fun _ => .null)) := by rw [← hH1, Array.getElem?_push_size, ← arrV_new]
  have o1 : ∀ q : Nat, q < H.size → H1[q]? = H[q]? := fun q hq => by rw [← hH1, Array.getElem?_push, if_neg (Nat.ne_of_lt hq)]
  have hnull : (fun i => zco b ((List.replicate v.toNatClampNeg Value.null).getD i .null)) = fun _ => none := by
    funext i
    rw [List.getD_eq_getElem?_getD, List.getElem?_replicate]
    split <;> rfl
  rw [hR.1] at e1 ⊢
  refine kk H1 (zR_push hR z1 o1 ?_) (zc_S hS (by omega) o1)
  rcases hk with ⟨rfl, rfl, rfl⟩ | ⟨rfl, rfl, rfl⟩
  · obtain ⟨-, kB, cm, q1, q2, q3, q4⟩ := hK.2 3 (cA 3, .object "ZeroForcer$Change") rfl
    have ec : cB = cA 3 := Option.some.inj (f1.symm.trans q4)
    subst ec
    show H1[b + L.length]? = some (vp_cell (cA 3) (_, .inr (.inr (.inr (.inr (fun i => zco b ((List.replicate v.toNatClampNeg Value.null).getD i .null)))))))
    rw [hnull, e1, vp_cell_q]
    rfl
  · obtain ⟨-, kB, cm, q1, q2, q3, q4⟩ := hK.2 4 (cA 4, .object "ZeroForcer$Row") rfl
    have ec : cB = cA 4 := Option.some.inj (f1.symm.trans q4)
    subst ec
    show H1[b + L.length]? = some (vp_cell (cA 4) (_, .inr (.inr (.inr (.inr (fun i => zco b ((List.replicate v.toNatClampNeg Value.null).getD i .null)))))))
    rw [hnull, e1, vp_cell_q]
    rfl
theorem zc_put {C : String} {T : u_T} {N ci index : Nat} {fs : List Value} {v : Value} {ty1 : FieldType} (j k : Nat) (hx : p.tables.exec = Jvm.exec) (hb : c.code = cc) (hts : ∀ w ∈ zALL, w.before args s = true) (hin : ∀ w ∈ u_ws C T N, w ∈ zALL) (ty : Nat → FieldType) (hty : ∀ k, k < N → parseFieldDescriptor (T k).2.2.1 = some (ty k)) (hnm : ∀ a, a < N → ∀ b, b < N → a ≠ b → (T a).2.1 ≠ (T b).2.1) (hown : s.vm.findClass own = some m.cls) (hK : va_K D vwCl (ztys cA) s) (hR : zR D b cA L H) (hS : va_S A s.heap H locs) (hA : A (b + j)) (hj : L[j]? = some (ci, 0, fs)) (hc : vwCl[ci]? = some (C, T, N)) (hci : ci < 100) (hkN : k < N) (hlink : Cond.fieldLink own index (T k).1 (T k).2.1 (T k).2.2.1 ∈ zALL)
    (hfin : (T k).2.2.2 = false ∨ ((T k).2.2.2 = true ∧ meth.name = "<init>" ∧ (T k).1 = own)) (hd : parseFieldDescriptor (T k).2.2.1 = some ty1) (hn : narrow ty1 (zvm (fun q => b + q) v) = zvm (fun q => b + q) v) (hfit : fits ty1 (zvm (fun q => b + q) v) = true) (hl : k < fs.length) (hdg : decode cc pc = .ok (.putfield index, 3))
    (kk : ∀ (H1 : Heap) (locs1 : List Loc), zR D b cA (L.set j (ci, 0, fs.set k v)) H1 → va_S A s.heap H1 locs1 → W p l0 e R s m args below meth c H1 locs1 cells slots Q (F0 m (pc + 3) ls rest)) : W p l0 e R s m args below meth c H locs cells slots Q (F0 m pc ls (zvm (fun q => b + q) v :: .ref (b + j) :: rest)) := by
  have hP : va_P D vwCl [(b + j, .inr (ci, fs.map (zvm (fun q => b + q))))] H := by
    intro i q hq
    have h0 : i < 1 := (List.getElem?_eq_some_iff.mp hq).1
    rw [show i = 0 by omega] at hq
    cases hq
    have := hR.2 j _ hj
    rw [zcE_o hci] at this
    exact this
  have hD : va_D A [(b + j, .inr (ci, fs.map (zvm (fun q => b + q))))] := by
    refine ⟨fun i i2 p1 p2 h1 h2 _ => ?_, fun i q hq => ?_⟩
    · have := (List.getElem?_eq_some_iff.mp h1).1
      have := (List.getElem?_eq_some_iff.mp h2).1
      simp only [List.length_cons, List.length_nil] at *
      omega
    · have h0 : i < 1 := (List.getElem?_eq_some_iff.mp hq).1
      rw [show i = 0 by omega] at hq
      cases hq
      exact hA
  have key : ∀ (H1 : Heap) (locs1 : List Loc), va_P D vwCl ([(b + j, .inr (ci, fs.map (zvm (fun q => b + q))))].set 0 (b + j, .inr (ci, (fs.map (zvm (fun q => b + q))).set k (zvm (fun q => b + q) v)))) H1 → H1.size = H.size → (∀ q, q ≠ b + j → H1[q]? = H[q]?) → va_S A s.heap H1 locs1 → W p l0 e R s m args below meth c H1 locs1 cells slots Q (F0 m (pc + 3) ls rest) := by
    intro H1 locs1 hP1 hz ho hS1
    refine kk H1 locs1 (zR_set hR hj hz ho ?_) hS1
    rw [zcE_o hci, List.map_set]
    exact hP1 0 _ rfl
  have hap := va_apart (own := own) hts hin ty hty hnm hK hc
  obtain ⟨r, h1, cell, q1, q2, q3, q4⟩ := hP 0 _ rfl
  have hr : r = (C, T, N) := Option.some.inj (h1.symm.trans hc)
  subst hr
  obtain ⟨hSl, hfc, kC, hkC, hkind⟩ := hK.1 ci _ hc
  obtain ⟨cf, kf, fi, f, hi, hsl⟩ := hSl k hkN
  have hlay := hts _ (hin _ (u_in_lay hkN))
  unfold u_lay at hlay
  have hst := (u_facts hfc hkC (u_lays hts hin hkN) hi).1
  have hl2 : k < (fs.map (zvm (fun q => b + q))).length := by rw [List.length_map]; exact hl
  rcases hfin with hfin | ⟨hfin, hin2, hdecl⟩
  · rw [if_neg (by rw [hfin]; decide)] at hlay
    have h6 := u_store hfc hkC hkind hlay hi hd hn hfit
    refine W.putK hx hb (f := f) ⟨hown, hts _ hlink, ⟨_, _, _, hi⟩, hst⟩ (by rw [q2]; exact h6) q1 q3 (by rw [hsl]; exact k2_hasslot (q4 k hkN)) rfl rfl hdg fun H' e1 e2 e3 => ?_
    rw [hsl] at e1 ⊢
    exact key H' _ (hP.set hD rfl ⟨_, hc, t_OB.to (V := updV (vp_V (fs.map (zvm (fun q => b + q)))) k (zvm (fun q => b + q) v)) ⟨_, e1, q2, q3, t_set q4 hap hkN _⟩ (fun j _ => vp_updV_set hl2 _ j)⟩ e3) e2 e3 (hS.put e2 e3 hA)
  · rw [if_pos hfin] at hlay
    have hcf : m.cls = cf := by
      obtain ⟨_, _, c', _, _, _, -, -, hf', -, -, -, hown2, -⟩ := Cond.laysFinal_spec hlay
      have e1 : c' = cf := by have := hi.symm.trans hf'; simp at this; exact this.1.symm
      rw [hdecl] at hown2
      rw [← e1]; exact Option.some.inj (hown.symm.trans hown2)
    have h6 := u_fits hfc hkC hkind (Or.inr hlay) hi hd hn hfit
    refine W.putFinK hx hb hown (hts _ hlink) hi hst hcf hin2 (by rw [q2]; exact h6) q1 q3 (by rw [hsl]; exact k2_hasslot (q4 k hkN)) rfl rfl hdg fun H' e1 e2 e3 => ?_
    rw [hsl] at e1 ⊢
    exact key H' _ (hP.set hD rfl ⟨_, hc, t_OB.to (V := updV (vp_V (fs.map (zvm (fun q => b + q)))) k (zvm (fun q => b + q) v)) ⟨_, e1, q2, q3, t_set q4 hap hkN _⟩ (fun j _ => vp_updV_set hl2 _ j)⟩ e3) e2 e3 (hS.put e2 e3 hA)
theorem zc_get {C : String} {T : u_T} {N ci index : Nat} {fs : List Value} {v : Value} (j k : Nat) (hx : p.tables.exec = Jvm.exec) (hb : c.code = cc) (hts : ∀ w ∈ zALL, w.before args s = true) (hin : ∀ w ∈ u_ws C T N, w ∈ zALL) (hown : s.vm.findClass own = some m.cls) (hK : va_K D vwCl (ztys cA) s) (hR : zR D b cA L H) (hj : L[j]? = some (ci, 0, fs)) (hc : vwCl[ci]? = some (C, T, N)) (hci : ci < 100) (hkN : k < N) (hlink : Cond.fieldLink own index (T k).1 (T k).2.1 (T k).2.2.1 ∈ zALL) (hv : fs[k]? = some v) (hdg : decode cc pc = .ok (.getfield index, 3))
    (kk : W p l0 e R s m args below meth c H locs cells slots Q (F0 m (pc + 3) ls (zvm (fun q => b + q) v :: rest))) : W p l0 e R s m args below meth c H locs cells slots Q (F0 m pc ls (.ref (b + j) :: rest)) := by
  have hP : va_P D vwCl [(b + j, .inr (ci, fs.map (zvm (fun q => b + q))))] H := by
    intro i q hq
    have h0 : i < 1 := (List.getElem?_eq_some_iff.mp hq).1
    rw [show i = 0 by omega] at hq
    cases hq
    have := hR.2 j _ hj
    rw [zcE_o hci] at this
    exact this
  exact va_get hx hb hts hin hown hK hP 0 rfl hc k hkN (hts _ hlink) (fun _ h => h) (v := zvm (fun q => b + q) v) (by rw [List.getElem?_map, hv]; rfl) hdg kk
theorem zc_aast {k n ci t0 : Nat} {l fs : List Value} {i : Int32} {C : String} {T : u_T} {N : Nat} (j jv : Nat) (hk : (k = 103 ∧ t0 = 3 ∧ C = "ZeroForcer$Change") ∨ (k = 104 ∧ t0 = 4 ∧ C = "ZeroForcer$Row")) (hx : p.tables.exec = Jvm.exec) (hb : c.code = cc) (hK : va_K D vwCl (ztys cA) s) (hR : zR D b cA L H) (hS : va_S A s.heap H locs) (hA : A (b + j)) (hj : L[j]? = some (k, n, l)) (hjv : L[jv]? = some (ci, 0, fs)) (hc : vwCl[ci]? = some (C, T, N)) (hci : ci < 100) (hin : vp_in i n) (hll : l.length = n) (hdg : decode cc pc = .ok (.aastore, 1))
    (kk : ∀ (H1 : Heap) (locs1 : List Loc), zR D b cA (L.set j (k, n, l.set i.toNatClampNeg (.ref jv))) H1 → va_S A s.heap H1 locs1 → W p l0 e R s m args below meth c H1 locs1 cells slots Q (F0 m (pc + 1) ls rest)) : W p l0 e R s m args below meth c H locs cells slots Q (F0 m pc ls (.ref (b + jv) :: .int i :: .ref (b + j) :: rest)) := by
  have hlt : i.toNatClampNeg < n := Nat.not_le.mp fun q => hin (Or.inr q)
  have hcell := hR.2 j _ hj
  have hval := hR.2 jv _ hjv
  rw [zcE_o hci] at hval
  obtain ⟨r', hr', cellV, g1, g2, g3, -⟩ := hval
  have hcls := (hK.1 ci _ hc).2
  obtain ⟨kC, hkC, -⟩ := hcls.2
  have hmap : (fun i2 => zco b ((l.set i.toNatClampNeg (.ref jv)).getD i2 .null)) = va_up (fun i2 => zco b (l.getD i2 .null)) i.toNatClampNeg (some (b + jv)) := by
    funext i2
    unfold va_up
    dsimp only
    rw [List.getD_eq_getElem?_getD, List.getD_eq_getElem?_getD]
    by_cases e : i2 = i.toNatClampNeg
    · subst e
      rw [List.getElem?_set_self (by omega), if_pos rfl]
      rfl
    · rw [List.getElem?_set_ne (Ne.symm e), if_neg e]
  have go : ∀ (t1 : Nat) (cT : ClassId), (ztys cA)[t1]? = some (cT, .object C) → H[b + j]? = some (vp_cell cT (n, .inr (.inr (.inr (.inr (fun i2 => zco b (l.getD i2 .null))))))) → (∀ H1 : Heap, H1[b + j]? = some (vp_cell cT (n, .inr (.inr (.inr (.inr (fun i2 => zco b ((l.set i.toNatClampNeg (.ref jv)).getD i2 .null))))))) → va_at D vwCl (b + j, zcE b cA (k, n, l.set i.toNatClampNeg (.ref jv))) H1) → W p l0 e R s m args below meth c H locs cells slots Q (F0 m pc ls (.ref (b + jv) :: .int i :: .ref (b + j) :: rest)) := by
    intro t1 cT ht hcT hto
    obtain ⟨kA, comp, k1, k2, k3, -⟩ := (hK.2 t1 _ ht).2
    have hcomp : comp = D.1 ci := Option.some.inj (k3.symm.trans hcls.1)
    subst hcomp
    refine W.aast hx hb hcT (fun q h => by cases h) (fun h => by cases h) k1 k2 rfl hkC ⟨fun q => hin (Or.inl q), by show _ < (arrV _ _ _).slots.size; rw [arrV_size]; exact hlt⟩ g1 (fun q h => by rw [g3] at h; cases h) (by rw [g2]; exact hkC) (by rw [g2]; exact va_assign hcls) rfl rfl hdg fun H1 e1 z1 oq => ?_
    refine kk H1 _ (zR_set hR hj z1 oq (hto H1 ?_)) (hS.put z1 oq hA)
    rw [e1, hmap, vp_cell_q, vp_cell_q, arrV_store]
    congr 2
    funext q
    by_cases hq : q = i.toNatClampNeg
    · subst hq
      simp [updV, va_up, va_rf]
    · simp [updV, va_up, hq]
  rcases hk with ⟨rfl, rfl, rfl⟩ | ⟨rfl, rfl, rfl⟩
  · exact go 3 (cA 3) rfl hcell (fun H1 h => h)
  · exact go 4 (cA 4) rfl hcell (fun H1 h => h)
theorem zc_multi {index : Nat} (hx : p.tables.exec = Jvm.exec) (hb : c.code = cc) (hts : ∀ w ∈ zALL, w.before args s = true) (hown : s.vm.findClass own = some m.cls) (hcl : Cond.classLink own index "[[I" ∈ zALL) (harr : Cond.arrayClass .int ∈ zALL) (hover : va_AOA .int s)
    (hK : va_K D vwCl (ztys cA) s) (hR : zR D b cA L H) (hS : va_S A s.heap H locs) (hcells : cells + (1 + 9) ≤ R.cells) (hslots : slots + (9 + 9 * 9) ≤ R.slots) (hdg : decode cc pc = .ok (.multianewarray index 2, 4))
    (kk : ∀ H1 : Heap, zR D b cA (L ++ ((102, 9, (List.range 9).map (fun i => .ref (L.length + 1 + i))) :: List.replicate 9 (100, 9, []))) H1 → va_S A s.heap H1 locs → W p l0 e R s m args below meth c H1 locs (cells + 1 + 9) (slots + 9 + 9 * 9) Q (F0 m (pc + 4) ls (.ref (b + L.length) :: rest))) : W p l0 e R s m args below meth c H locs cells slots Q (F0 m pc ls (.int 9 :: .int 9 :: rest)) := by
  intro T hT Xs
  have h99 : (9 : Int32).toNatClampNeg = 9 := by decide +kernel
  obtain ⟨vm₁, cB, comp, -, fA, fC, hO, -, X', step⟩ := Xs.multianewarray2F hx hown (ty := .int) (hts _ hcl) (va_AOA.use hover) (hts _ harr) (g := F0 m pc ls (.int 9 :: .int 9 :: rest)) rfl (by rw [hb]; exact hdg) rfl (by decide) (by decide) (by rw [h99]; decide) (by rw [h99]; decide) (by rw [h99]; decide) rfl rfl (by rw [h99]; exact hcells) (by rw [h99]; exact hslots)
  rw [h99] at X' step
  have e0 : comp = cA 0 := Option.some.inj (fC.symm.trans (hK.2 0 (cA 0, .int) rfl).2)
  have e2 : cB = cA 2 := Option.some.inj (fA.symm.trans (hK.2 2 (cA 2, .array .int) rfl).2)
  subst e0
  subst e2
  generalize hF : Jvm.Free.Multi.fill (T.setVm vm₁) (cA 2) (cA 0) 9 9 (defaultValue .int) 9 = F at X' step
  have hTh : (T.setVm vm₁).heap = H := hT
  obtain ⟨f1, f2, -, -⟩ := Jvm.Free.Multi.fill_facts (T.setVm vm₁) (cA 2) (cA 0) 9 9 (defaultValue .int) 9
  rw [hF, hTh] at f1 f2
  have hold : ∀ x : Nat, x < H.size → F.heap[x]? = H[x]? := fun x hx2 => by
    have := Jvm.Free.Multi.fill_old (T.setVm vm₁) (cA 2) (cA 0) 9 9 (defaultValue .int) (a := x) (by rw [hTh]; exact hx2) 9
    rw [hF, hTh] at this
    exact this
  have hrow : ∀ j : Nat, j < 9 → F.heap[H.size + 1 + j]? = some (vp_cell (cA 0) (9, .inl (fun _ => 0))) := fun j hj => by
    have := Jvm.Free.Multi.fill_inner (T.setVm vm₁) (cA 2) (cA 0) 9 9 (defaultValue .int) 9 j hj
    rw [hF, hTh] at this
    rw [this, vp_cell_i]
    rw [← arrV_new]
    rfl
  rw [vr_outer] at f2
  rw [hR.1] at f1 f2 hrow hold
  have hRF : zR D b cA (L ++ ((102, 9, (List.range 9).map (fun i => .ref (L.length + 1 + i))) :: List.replicate 9 (100, 9, []))) F.heap := by
    refine ⟨by rw [f1]; simp; omega, fun k y hk => ?_⟩
    by_cases hl : k < L.length
    · rw [List.getElem?_append_left hl] at hk
      exact (hR.2 k y hk).kept (hold _ (by show b + k < _; omega))
    · rw [List.getElem?_append_right (by omega)] at hk
      obtain ⟨d, hd⟩ : ∃ d, k = L.length + d := ⟨k - L.length, by omega⟩
      subst hd
      rw [show L.length + d - L.length = d by omega] at hk
      cases d with
      | zero =>
        cases hk
        show F.heap[b + L.length]? = some (vp_cell (cA 2) (9, .inr (.inr (.inr (.inr (fun i => zco b (((List.range 9).map (fun i => Value.ref (L.length + 1 + i))).getD i .null)))))))
        rw [f2, vp_cell_q]
        congr 2
        funext i
        congr 1
        rw [List.getD_eq_getElem?_getD, List.getElem?_map]
        by_cases hi : i < 9
        · rw [List.getElem?_range hi, if_pos hi]
          simp [zco]
          omega
        · rw [List.getElem?_eq_none (by simpa using hi), if_neg hi]
          rfl
      | succ d =>
        rw [List.getElem?_cons_succ, List.getElem?_replicate] at hk
        split at hk
        next hd9 =>
          cases hk
          show F.heap[b + (L.length + (d + 1))]? = some (vp_cell (cA 0) (9, .inl (fun _ => 0)))
          rw [← hrow d hd9]
          congr 1
          omega
        next => cases hk
  obtain ⟨t, a1, b1⟩ := kk F.heap hRF (zc_S hS (by rw [hR.1, f1]; omega) (by rw [hR.1]; exact hold)) F rfl X'
  refine ⟨t, step t ?_, b1⟩
  have e9 : T.heap.size = b + L.length := by rw [hT]; exact hR.1
  rw [e9]
  exact a1
end ZC
def zCP (D : va_G) (b : Nat) (cA : Nat → ClassId) (x : zcc) : Array Value → State → Prop := va_Pc [.ref b] (fun U => zR D b cA [x] U.heap ∧ zCW D cA U)
def zCQ (D : va_G) (b : Nat) (cA : Nat → ClassId) (L : List zcc) : Array Value → State → Outcome → State → Prop := fun _ st oc t => oc = .returned none ∧ zR D b cA L t.heap ∧ va_F (fun q => b ≤ q) st t
def zCt (y : MethodName) (cy : ByteArray) (ml : Nat) (x : zcc) (L : List zcc) (F N mc ms : Nat) : Prop := ∀ (l : Launch) (D : va_G) (b : Nat) (cA : Nat → ClassId), Met l y (Cond.code y cy ml none :: zALL) ({ frames := F, cells := mc, slots := ms, locals := N } : Room) (zCP D b cA x) (zCQ D b cA L) mc ms (fun q => b ≤ q)
theorem zCP_blind {D : va_G} {b : Nat} {cA : Nat → ClassId} {x : zcc} : FrameBlind (zCP D b cA x) := by
  intro a U g mk h
  obtain ⟨h1, h2, h3⟩ := h
  exact ⟨h1, h2, h3.vm (s := U) (U := U.calling g mk a) rfl⟩
section ZCC
variable {p : Program} {l : Launch} {e : Env} {R : Room} {s : State} {m : MethodId} {args : Array Value} {below : List Frame} {meth : Method} {c : Code} {H : Heap} {locs : List Loc} {cells slots : Nat} {Q : State → Prop}
variable {cc : ByteArray} {pc b : Nat} {ls : Array Slot} {rest : List Value} {D : va_G} {cA : Nat → ClassId} {A : Nat → Prop} {own : String} {L : List zcc}
theorem zc_call {y : MethodName} {cy : ByteArray} {ml F N mc ms index nL : Nat} {x : zcc} {Lr Lp : List zcc} (hM : zCt y cy ml x Lr F N mc ms) (hblank : zcS Lp.length x = x) (hx : p.tables.exec = Jvm.exec) (hb : c.code = cc) (hml : c.maxLocals = nL) (hts : ∀ w ∈ zALL, w.before args s = true) (hown : s.vm.findClass own = some m.cls) (hW : zCW D cA s) (hcode : Cond.code y cy ml none ∈ zALL) (hini : Cond.initialized y.cls ∈ zALL) (hinst : Cond.instanceMethod y ∈ zALL) (hlk : Cond.methodLink own index y ∈ zALL ∨ Cond.methodLinkNest own index y RX10 ∈ zN7)
    (hd : y.cls ≠ "java/lang/invoke/MethodHandle" ∧ y.cls ≠ "java/lang/invoke/VarHandle" ∧ (parseMethodDescriptor y.desc).map (fun d => d.parameters.length) = some 0) (hy : y.name = "<init>") (hF : F + 1 ≤ R.frames) (hN : 8 + (ml + 11) + N ≤ R.locals) (hR : zR D b cA L H) (hL : L = Lp ++ [x]) (hS : va_S A s.heap H locs) (hA : ∀ q, b ≤ q → A q) (hsz : ls.size = nL) (hrest : (rest.map fun v => v.category).sum ≤ 8) (hc : cells + mc ≤ R.cells) (hs : slots + ms ≤ R.slots) (hdg : decode cc pc = .ok (.invokespecial index, 3))
    (kk : ∀ (H1 : Heap) (locs1 : List Loc), zR D b cA (Lp ++ Lr.map (zcS Lp.length)) H1 → va_S A s.heap H1 locs1 → W p l e R s m args below meth c H1 locs1 (cells + mc) (slots + ms) Q (F0 m (pc + 3) ls rest)) : W p l e R s m args below meth c H locs cells slots Q (F0 m pc ls (.ref (b + Lp.length) :: rest)) := by
  subst hL
  have hR1 : zR D (b + Lp.length) cA [x] H := by
    refine ⟨by rw [hR.1]; simp; omega, fun k y2 hk => ?_⟩
    have h0 : k < 1 := (List.getElem?_eq_some_iff.mp hk).1
    rw [show k = 0 by omega] at hk ⊢
    cases hk
    have h9 := hR.2 Lp.length x (by rw [List.getElem?_append_right (Nat.le_refl _), Nat.sub_self]; rfl)
    have e9 := zcE_s b Lp.length cA x
    rw [hblank] at e9
    rw [← e9]
    exact h9
  have hPc : PreS s H (zCP D (b + Lp.length) cA x) [.ref (b + Lp.length)] := ⟨zCP_blind, fun U hU hWU => ⟨rfl, by rw [hU]; exact hR1, hW.warm hWU⟩⟩
  have hws : ∀ w ∈ Cond.code y cy ml none :: zALL, ∀ (a' : Array Value) (U : State), s.WarmedH U.vm → w.before a' U = true := by
    intro w hw a' U hU
    rcases List.mem_cons.mp hw with h | h
    · rw [h]; exact word_at hU (zALL_good hcode) (hts _ hcode)
    · exact word_at hU (zALL_good h) (hts _ h)
  have hpar : ∀ sig, parseMethodDescriptor y.desc = some sig → 0 = sig.parameters.length := by
    intro sig hsig
    have h2 := hd.2.2
    rw [hsig] at h2
    exact (Option.some.inj h2).symm
  have hrun : va_Run p l e R s m args below meth c H locs cells slots mc ms (F0 m pc ls (.ref (b + Lp.length) :: rest)) rest (zCQ D (b + Lp.length) cA Lr (Value.ref (b + Lp.length) :: []).toArray) (fun q => b + Lp.length ≤ q) := by
    rcases hlk with hlk | hlk
    · exact va_runI (As := []) (rest := rest) ⟨hx, hb, hml, hown, hts⟩ (hM l D (b + Lp.length) cA) ⟨⟨rfl, rfl, hF, hN, hws, List.mem_cons_self, hts _ hcode, hts _ hini, ⟨hd.1, hd.2.1⟩, hpar, hts _ hlk⟩, hy, hts _ hinst⟩ hPc rfl rfl hsz rfl (by show 2 * 0 + _ ≤ 8; omega) hdg ⟨hc, hs⟩
    · exact va_runIN (As := []) (rest := rest) ⟨hx, hb, hml, hown, hts⟩ (hM l D (b + Lp.length) cA) ⟨⟨⟨rfl, rfl, hF, hN, hws, List.mem_cons_self⟩, hts _ hcode, hts _ hini, ⟨hd.1, hd.2.1⟩, hpar, va_Nw.use rfl (hW.2.2.2.2.2 _ hlk)⟩, hy, hts _ hinst⟩ hPc rfl rfl hsz rfl (by show 2 * 0 + _ ≤ 8; omega) hdg ⟨hc, hs⟩
  intro T hT X
  obtain ⟨v, st₀, t, T', L9, h0, X', hL9, e1, e2, ⟨hv, hp, hz, hk⟩, st⟩ := hrun T hT X
  cases hv
  rw [h0] at hz hk
  rw [hR1.1] at hk hz
  have hRn : zR D b cA (Lp ++ Lr.map (zcS Lp.length)) T'.heap := by
    rw [e1]
    refine ⟨by rw [hp.1]; simp; omega, fun k y2 hk2 => ?_⟩
    by_cases hl : k < Lp.length
    · rw [List.getElem?_append_left hl] at hk2
      refine (hR.2 k y2 (by rw [List.getElem?_append_left hl]; exact hk2)).kept (hk (b + k) ?_ ?_)
      · simp only [List.length_cons, List.length_nil]; omega
      · omega
    · rw [List.getElem?_append_right (by omega), List.getElem?_map] at hk2
      cases hq : Lr[k - Lp.length]? with
      | none => rw [hq] at hk2; cases hk2
      | some z =>
        rw [hq] at hk2
        cases hk2
        have h8 := hp.2 _ z hq
        rw [zcE_s]
        rw [show b + Lp.length + (k - Lp.length) = b + k by omega] at h8
        exact h8
  obtain ⟨t2, a1, b1⟩ := kk T'.heap (locs ++ L9) hRn
    ⟨Nat.le_trans hS.1 (by rw [e1, hR.1]; simp only [List.length_append, List.length_cons, List.length_nil] at hz ⊢; omega), fun q h1 h2 => by
      rw [e1, hk q (by have := Nat.lt_of_lt_of_le h1 hS.1; rw [hR.1] at this; simp only [List.length_append, List.length_cons, List.length_nil] at this ⊢; omega) (fun z => h2 (hA q (by omega)))]
      exact hS.2.1 q h1 h2, fun q hq => by
      rcases List.mem_append.mp hq with h | h
      · exact hS.2.2 q h
      · exact hA _ (by have := hL9 q h; omega)⟩ T' rfl X'
  exact ⟨t2, st t2 a1, b1⟩
end ZCC

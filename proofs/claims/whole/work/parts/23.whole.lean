/-! THE CLAIM OUT OF ONE WALK OF THE LAW'S BODY. Your part is whole_start (and what it stands on); all else here is the same for every law, but numbers. -/
def R_law : String := "ZeroForcerLaw"
def lw_P (b : Addr) (xs : List Int32) (args : Array Value) (s : State) : Prop := args = #[.ref b] ∧ s.IntsAt b xs ∧ xs.length ≤ 2048 ∧ (Jvm.Cond.and given_1 narrow_1).before args s = true
def lw_Q (_ : Array Value) (s : State) (o : Outcome) (t : State) : Prop := o = .returned (some (.int 1)) ∧ Framed s o t [] 600000 7302249
def lw_Z (below : List Frame) (a : Array Value) (s : State) : State → Prop := fun t => ∃ o, t.status = .running ∧ Ended t below o ∧ lw_Q a s o t
/-- the law's own end, with 1 on the stack, nothing written that was there before, its room as the claim has it -/
theorem lw_ret {p : Program} {l : Launch} {e : Env} {s : State} {m : MethodId} {below : List Frame} {meth : Method} {c : Code} {b : Nat} (hx : p.tables.exec = Jvm.exec) (hb : c.code = code) (hr : meth.sig.returnType = ret) (hlocks : meth.locks = false) {pc : Nat} {H : Heap} {ls : Array Slot} (hdg : decode code pc = .ok (.ireturn, 1)) : W p l e room_1 s m #[Value.ref b] below meth c H [] 600000 7302249 (lw_Z below #[Value.ref b] s) (F0 m pc ls [.int 1]) := by
  intro T hT X
  obtain ⟨fs, hret, hrun, hended, hW, hframe⟩ := X.leave (v := some (.int 1)) (hlocks := hlocks) (fun h => by rw [hr] at h; cases h)
  have hmeth' : T.vm.method? m = some meth := X.method'
  refine ⟨T.setFrames fs, ?_, .returned (some (.int 1)), hrun, hended, rfl, ⟨_, rfl⟩, hW, hframe⟩
  jvm_step X.here [X.here.top, hx, hb, hdg, hmeth', hr, ret, narrow_b1]
  (try refine ⟨rfl, ?_⟩); (try refine ⟨rfl, ?_⟩)
  first | (intro acts; rw [hret _ acts rfl rfl rfl]) | rw [hret _ _ rfl rfl rfl]
  exact Steps.refl _
/-- what holds at the law's entry: the machine, the code, the tables' words (any of lw_tbl by 'hts w (by decide +kernel)'), the script of L ints xs at the cell b, what the Statement gives of the start (any of its parts by flat_of_before) -/
def lw_At (p : Program) (s : State) (m : MethodId) (meth : Method) (c : Code) (b L : Nat) (xs : Nat → Int32) : Prop :=
  p.tables.exec = Jvm.exec ∧ c.code = code ∧ meth.sig.returnType = ret ∧ c.maxLocals = 4 ∧ s.vm.findClass R_law = some m.cls ∧ (∀ w ∈ lw_tbl, w.before #[Value.ref b] s = true) ∧ va_X b L xs s s.heap ∧ b < s.heap.size ∧ meth.locks = false ∧ (Jvm.Cond.and given_1 narrow_1).before #[Value.ref b] s = true
/-- what the pure part owes -/
def zPure : Prop := ∀ (xs : Nat → Int32) (L0 : Nat), L0 ≤ 2048 → ∃ (n : Nat) (σ' : zSt), Law_c18 xs L0 n 0 zs0 = some (1, σ')
theorem zAr_of {s : State} {c : ClassId} {k : Class} {comp : ClassId} {ty : FieldType} (h1 : s.vm.classes[c]? = some k) (h2 : k.kind = .array comp ty) : ArrOfT s c ty := fun N z => ⟨(fun q hq => by cases hq), k, h1, comp, h2⟩
theorem zprimes {args : Array Value} {s : State} {A : Nat → Prop} (hgv : (Jvm.Cond.and given_1 narrow_1).before args s = true) (hl : (Cond.laysStatic "ZeroForcer" "PRIMES" "[I").before args s = true) (hi : (Cond.initialized "ZeroForcer").before args s = true) (hA : ∀ a : Nat, a < s.heap.size → ¬ A a) : ∃ t, va_Z "ZeroForcer" "PRIMES" "[I" (.ref t) A s s.heap ∧ va_T .int t 7 (fun j => .int (zcon 200 j)) A s s.heap := by
  have hs := flat_of_before _ hgv
  obtain ⟨t, h1, h2⟩ := va_Tof (tm := .static "ZeroForcer" "PRIMES" "[I") (ty := .int) (N := 7) (f := fun j => .int (zcon 200 j)) (A := A) (by decide) (hs _ (by decide +kernel)) (va_eqt (hs (Cond.eq (.length (.static "ZeroForcer" "PRIMES" "[I")) (.int 7)) (by decide +kernel))) (fun j hj => match j, hj with | 0, _ => va_eqt (hs (Cond.eq (.elem (.static "ZeroForcer" "PRIMES" "[I") (.int 0)) (.int 11)) (by decide +kernel)) | 1, _ => va_eqt (hs (Cond.eq (.elem (.static "ZeroForcer" "PRIMES" "[I") (.int 1)) (.int 13)) (by decide +kernel)) | 2, _ => va_eqt (hs (Cond.eq (.elem (.static "ZeroForcer" "PRIMES" "[I") (.int 2)) (.int 17)) (by decide +kernel)) | 3, _ => va_eqt (hs (Cond.eq (.elem (.static "ZeroForcer" "PRIMES" "[I") (.int 3)) (.int 19)) (by decide +kernel)) | 4, _ => va_eqt (hs (Cond.eq (.elem (.static "ZeroForcer" "PRIMES" "[I") (.int 4)) (.int 23)) (by decide +kernel)) | 5, _ => va_eqt (hs (Cond.eq (.elem (.static "ZeroForcer" "PRIMES" "[I") (.int 5)) (.int 29)) (by decide +kernel)) | 6, _ => va_eqt (hs (Cond.eq (.elem (.static "ZeroForcer" "PRIMES" "[I") (.int 6)) (.int 31)) (by decide +kernel))) hA
  exact ⟨t, va_Zof hl hi h1 hA, h2⟩
theorem zabove {args : Array Value} {s : State} {A : Nat → Prop} (hgv : (Jvm.Cond.and given_1 narrow_1).before args s = true) (hl : (Cond.laysStatic "ZeroForcer$Bodies" "ABOVE" "[I").before args s = true) (hi : (Cond.initialized "ZeroForcer$Bodies").before args s = true) (hA : ∀ a : Nat, a < s.heap.size → ¬ A a) : ∃ t, va_Z "ZeroForcer$Bodies" "ABOVE" "[I" (.ref t) A s s.heap ∧ va_T .int t 5 (fun j => .int (zcon 201 j)) A s s.heap := by
  have hs := flat_of_before _ hgv
  obtain ⟨t, h1, h2⟩ := va_Tof (tm := .static "ZeroForcer$Bodies" "ABOVE" "[I") (ty := .int) (N := 5) (f := fun j => .int (zcon 201 j)) (A := A) (by decide) (hs _ (by decide +kernel)) (va_eqt (hs (Cond.eq (.length (.static "ZeroForcer$Bodies" "ABOVE" "[I")) (.int 5)) (by decide +kernel))) (fun j hj => match j, hj with | 0, _ => va_eqt (hs (Cond.eq (.elem (.static "ZeroForcer$Bodies" "ABOVE" "[I") (.int 0)) (.int (-1))) (by decide +kernel)) | 1, _ => va_eqt (hs (Cond.eq (.elem (.static "ZeroForcer$Bodies" "ABOVE" "[I") (.int 1)) (.int (0))) (by decide +kernel)) | 2, _ => va_eqt (hs (Cond.eq (.elem (.static "ZeroForcer$Bodies" "ABOVE" "[I") (.int 2)) (.int (1))) (by decide +kernel)) | 3, _ => va_eqt (hs (Cond.eq (.elem (.static "ZeroForcer$Bodies" "ABOVE" "[I") (.int 3)) (.int (0))) (by decide +kernel)) | 4, _ => va_eqt (hs (Cond.eq (.elem (.static "ZeroForcer$Bodies" "ABOVE" "[I") (.int 4)) (.int (2))) (by decide +kernel))) hA
  exact ⟨t, va_Zof hl hi h1 hA, h2⟩
theorem zcw_of {s : State} {args : Array Value} (hts0 : ∀ w ∈ lw_tbl, w.before args s = true) : ∃ (D : va_G) (cA : Nat → ClassId), zCW D cA s := by
  have hts : ∀ w ∈ zALL, w.before args s = true := fun w h => hts0 w (zALL_in h)
  obtain ⟨c0, iS0, hKn0⟩ := u_known (C := RX0) (T := TX0) (N := 5) (n := 5) hts zinX0 (hts0 _ (zin_1 (List.mem_of_getElem? (i := 233) (by decide +kernel))))
  obtain ⟨c1, iS1, hKn1⟩ := u_known (C := RX1) (T := TX1) (N := 1) (n := 1) hts zinX1 (hts0 _ (zin_1 (List.mem_of_getElem? (i := 146) (by decide +kernel))))
  obtain ⟨c2, iS2, hKn2⟩ := u_known (C := RX2) (T := TX2) (N := 5) (n := 5) hts zinX2 (hts0 _ (zin_1 (List.mem_of_getElem? (i := 85) (by decide +kernel))))
  obtain ⟨c3, iS3, hKn3⟩ := u_known (C := RX3) (T := TX3) (N := 6) (n := 6) hts zinX3 (hts0 _ (zin_1 (List.mem_of_getElem? (i := 119) (by decide +kernel))))
  obtain ⟨c4, iS4, hKn4⟩ := u_known (C := RX4) (T := TX4) (N := 1) (n := 1) hts zinX4 (hts0 _ (zin_1 (List.mem_of_getElem? (i := 156) (by decide +kernel))))
  obtain ⟨c5, iS5, hKn5⟩ := u_known (C := RX5) (T := TX5) (N := 6) (n := 6) hts zinX5 (hts0 _ (zin_1 (List.mem_of_getElem? (i := 167) (by decide +kernel))))
  obtain ⟨c6, iS6, hKn6⟩ := u_known (C := RX6) (T := TX6) (N := 3) (n := 3) hts zinX6 (hts0 _ (zin_1 (List.mem_of_getElem? (i := 78) (by decide +kernel))))
  obtain ⟨c7, iS7, hKn7⟩ := u_known (C := RX7) (T := TX7) (N := 8) (n := 8) hts zinX7 (hts0 _ (zin_1 (List.mem_of_getElem? (i := 26) (by decide +kernel))))
  obtain ⟨c8, iS8, hKn8⟩ := u_known (C := RX8) (T := TX8) (N := 2) (n := 2) hts zinX8 (hts0 _ (zin_1 (List.mem_of_getElem? (i := 196) (by decide +kernel))))
  obtain ⟨c9, iS9, hKn9⟩ := u_known (C := RX9) (T := TX9) (N := 4) (n := 4) hts zinX9 (hts0 _ (zin_1 (List.mem_of_getElem? (i := 211) (by decide +kernel))))
  obtain ⟨c10, iS10, hKn10⟩ := u_known (C := RX10) (T := TX10) (N := 11) (n := 11) hts zinX10 (hts0 _ (zin_1 (List.mem_of_getElem? (i := 18) (by decide +kernel))))
  obtain ⟨c11, iS11, hKn11⟩ := u_known (C := RX11) (T := TX11) (N := 44) (n := 44) hts zinX11 (hts0 _ (zin_4 (List.mem_of_getElem? (i := 201) (by decide +kernel))))
  obtain ⟨dC, dI, hKc⟩ : ∃ (dC : Nat → ClassId) (dI : Nat → Nat → Nat), ∀ (k : Nat) (q : vw_C), vwCl[k]? = some q → u_Kn s q.1 q.2.1 q.2.2 (dC k) (dI k) := by
    refine ⟨fun k => [c0, c1, c2, c3, c4, c5, c6, c7, c8, c9, c10, c11].getD k 0, fun k => if k = 0 then iS0 else if k = 1 then iS1 else if k = 2 then iS2 else if k = 3 then iS3 else if k = 4 then iS4 else if k = 5 then iS5 else if k = 6 then iS6 else if k = 7 then iS7 else if k = 8 then iS8 else if k = 9 then iS9 else if k = 10 then iS10 else iS11, ?_⟩
    intro k q hq
    match k, hq with
    | 0, hq => cases hq; exact hKn0
    | 1, hq => cases hq; exact hKn1
    | 2, hq => cases hq; exact hKn2
    | 3, hq => cases hq; exact hKn3
    | 4, hq => cases hq; exact hKn4
    | 5, hq => cases hq; exact hKn5
    | 6, hq => cases hq; exact hKn6
    | 7, hq => cases hq; exact hKn7
    | 8, hq => cases hq; exact hKn8
    | 9, hq => cases hq; exact hKn9
    | 10, hq => cases hq; exact hKn10
    | 11, hq => cases hq; exact hKn11
    | k + 12, hq => simp [vwCl] at hq
  obtain ⟨a0, k0, m0, f0, g0, h0⟩ := Cond.arrayClass_spec (type := .int) (hts0 _ (zin_1 (List.mem_of_getElem? (i := 76) (by decide +kernel))))
  obtain ⟨a1, k1, m1, f1, g1, h1⟩ := Cond.arrayClass_spec (type := .boolean) (hts0 _ (zin_5 (List.mem_of_getElem? (i := 99) (by decide +kernel))))
  have hov2 : (Cond.arrayOver (.array .int)).before args s = true := (hts0 _ (zin_1 (List.mem_of_getElem? (i := 32) (by decide +kernel))))
  obtain ⟨m2, a2, k2, e2, i2, g2, h2, f2⟩ := zAOA_spec hov2
  have hov3 : (Cond.arrayOver (.object "ZeroForcer$Change")).before args s = true := (hts0 _ (zin_1 (List.mem_of_getElem? (i := 84) (by decide +kernel))))
  obtain ⟨m3, a3, k3, e3, i3, g3, h3, f3⟩ := Cond.arrayOver_spec hov3
  have hov4 : (Cond.arrayOver (.object "ZeroForcer$Row")).before args s = true := (hts0 _ (zin_1 (List.mem_of_getElem? (i := 195) (by decide +kernel))))
  obtain ⟨m4, a4, k4, e4, i4, g4, h4, f4⟩ := Cond.arrayOver_spec hov4
  have em : m2 = a0 := Option.some.inj (e2.symm.trans f0)
  subst em
  refine ⟨(dC, dI), fun k => [m2, a1, a2, a3, a4].getD k 0, ⟨hKc, fun k q hq => ?_⟩, ⟨k2, g2, h2⟩, va_AO.of hov3, va_AO.of hov4, hov2, fun w hw => ?_⟩
  · match k, hq with
    | 0, hq => cases hq; exact ⟨zAr_of g0 h0, f0⟩
    | 1, hq => cases hq; exact ⟨zAr_of g1 h1, f1⟩
    | 2, hq => cases hq; exact ⟨zAr_of g2 h2, f2⟩
    | 3, hq => cases hq; exact ⟨zAr_of g3 h3, k3, m3, g3, h3, e3, f3⟩
    | 4, hq => cases hq; exact ⟨zAr_of g4 h4, k4, m4, g4, h4, e4, f4⟩
    | k + 5, hq => simp [ztys] at hq
  · simp only [zN7, List.mem_cons, List.not_mem_nil, or_false] at hw
    rcases hw with rfl | rfl | rfl | rfl | rfl | rfl | rfl
    · exact va_Nw.of rfl (hts0 _ (zin_1 (List.mem_of_getElem? (i := 120) (by decide +kernel))))
    · exact va_Nw.of rfl (hts0 _ (zin_1 (List.mem_of_getElem? (i := 147) (by decide +kernel))))
    · exact va_Nw.of rfl (hts0 _ (zin_1 (List.mem_of_getElem? (i := 157) (by decide +kernel))))
    · exact va_Nw.of rfl (hts0 _ (zin_1 (List.mem_of_getElem? (i := 168) (by decide +kernel))))
    · exact va_Nw.of rfl (hts0 _ (zin_1 (List.mem_of_getElem? (i := 212) (by decide +kernel))))
    · exact va_Nw.of rfl (hts0 _ (zin_1 (List.mem_of_getElem? (i := 234) (by decide +kernel))))
    · exact va_Nw.of rfl (hts0 _ (zin_1 (List.mem_of_getElem? (i := 86) (by decide +kernel))))
theorem whole_open (hpure : zPure) {p : Program} {e : Env} {s : State} {m : MethodId} {below : List Frame} {meth : Method} {c : Code} (l : Launch) (hflags : l.flags = flags0) {b L : Nat} {xs : Nat → Int32} (hL : L ≤ 2048) (C0 : lw_At p s m meth c b L xs) : W p l e room_1 s m #[Value.ref b] below meth c s.heap [] 0 0 (lw_Z below #[Value.ref b] s) (entryFrame m ([Value.ref b] : List Value).toArray 4) := by
  obtain ⟨hx, hb, hr, hml, hown, hts0, hX, hbl, hlocks, hgv⟩ := C0
  have hts : ∀ w ∈ zALL, w.before #[Value.ref b] s = true := fun w h => hts0 w (zALL_in h)
  obtain ⟨D, cA, hCW⟩ := zcw_of hts0
  have hnA : ∀ a : Nat, a < s.heap.size → ¬ (fun q : Nat => s.heap.size ≤ q) a := fun a ha => Nat.not_le.mpr ha
  obtain ⟨tP, hZ0, hT0⟩ := zprimes hgv (hts0 _ (zin_3 (List.mem_of_getElem? (i := 141) (by decide +kernel)))) (hts _ zw_1020) hnA
  obtain ⟨tA, hZ1, hT1⟩ := zabove hgv (hts0 _ (zin_4 (List.mem_of_getElem? (i := 120) (by decide +kernel)))) (hts _ zw_935) hnA
  have hTX : va_T .int b L (fun j => .int (xs j)) (fun q : Nat => s.heap.size ≤ q) s s.heap := by
    obtain ⟨scr, h1, h2, h3, h4, h5⟩ := hX
    exact ⟨scr, h1, h2, h3, by omega, by rw [h4], h5, Nat.not_le.mpr hbl⟩
  obtain ⟨n, σ', hrun⟩ := hpure xs L hL
  obtain ⟨n2, hgo⟩ := Law_g18 (xs := xs) (L0 := L) n hrun
  refine z_start hx hb hml hown hts hCW rfl (fun ls H locs hl hR hS => ?_)
  refine W.widen (k := 600000) (n := 7302249) (Nat.le_of_ble_eq_true rfl) (Nat.le_of_ble_eq_true rfl) ?_
  have hP := z0_at (tP := tP) (tA := tA) (bs := b) hR
  have hWd : zWd D (zloc s.heap.size tP tA b) cA (fun q : Nat => s.heap.size ≤ q) xs L s := by
    refine ⟨hCW.1, fun q hq => hq, fun k hk => ?_, fun i j hi hj hij => ?_, ⟨hZ0, hT0, hZ1, hT1, hTX⟩, hCW.2.1⟩
    · show s.heap.size ≤ (bif Nat.blt k 99 then _ else _)
      rw [zblt, decide_eq_true (show k < 99 from hk)]
      exact Nat.le_add_right _ _
    · have e9 : ∀ k, k < zNL → zloc s.heap.size tP tA b k = s.heap.size + k := fun k hk => by
        unfold zloc
        rw [zblt, decide_eq_true (show k < 99 from hk)]
        rfl
      rw [e9 i hi, e9 j hj] at hij
      omega
  have hLR : zLR (zloc s.heap.size tP tA b) ls 4 [some (.ref 202), some (.ref 0), some (.ref 75), some (.int 0)] := by
    refine ⟨⟨hl.1, hl.2.1, fun q hq => ?_⟩, fun q hq => ?_⟩
    · simp only [zlv, List.mem_cons, List.not_mem_nil, or_false] at hq
      rcases hq with rfl | rfl | rfl | rfl
      · exact hl.2.2 (0, .ref b) (by simp)
      · exact hl.2.2 (1, .ref s.heap.size) (by simp)
      · exact hl.2.2 (2, .ref (s.heap.size + 75)) (by simp)
      · exact hl.2.2 (3, .int 0) (by simp)
    · simp only [zlv, List.mem_cons, List.not_mem_nil, or_false] at hq
      rcases hq with rfl | rfl | rfl | rfl <;> rfl
  have hfin := zsound n2 (fun a b => a = xs ∧ b = L) (zP_law xs L) RL cL_law 4 13 347 (some .boolean) (zok_law xs L) p l e room_1 s m #[Value.ref b] below meth c 600000 7302249 (lw_Z below #[Value.ref b] s) D (zloc s.heap.size tP tA b) cA (fun q : Nat => s.heap.size ≤ q) xs L ⟨rfl, rfl⟩ ⟨hx, hb, hml, hown, hts, hWd⟩ (Nat.le_of_ble_eq_true rfl) (Nat.le_of_ble_eq_true rfl) (Nat.le_of_ble_eq_true rfl) (Nat.le_of_ble_eq_true rfl) (Nat.le_refl _) (Nat.le_refl _) _ _ _ hgo ?_
  · exact hfin ls H locs hLR hP hS
  · intro pc rk S ls2 H2 locs2 hd hrk hrt hP2 hS2
    rcases hrk with ⟨-, h0⟩ | ⟨-, h0⟩ | ⟨rfl, h0⟩ | ⟨-, nm, h0⟩
    · cases h0
    · cases h0
    · match S, hrt with
      | [.int v], hrt =>
        obtain ⟨-, h2⟩ := zbif hrt
        cases h2
        refine va_forget (fun q hq => hS2.2.2 q hq) ?_
        exact lw_ret hx hb hr hlocks hd
    · cases h0

/-! RUNS OF THE ABSTRACT MACHINE ARE RUNS OF THE MACHINE -/
theorem zWd.go {D : va_G} {loc : Nat → Nat} {cA : Nat → ClassId} {A A' : Nat → Prop} {xs : Nat → Int32} {L0 : Nat} {s U : State} {H : Heap} {locs : List Loc} (h : zWd D loc cA A xs L0 s) (hS : va_S A s.heap H locs) (hU : U.heap = H) (hvm : s.vm.Alike U.vm) (h1 : ∀ q, H.size ≤ q → A' q) (h2 : ∀ k, k < zNL → A' (loc k)) (h3 : ∀ q, A' q → A q) : zWd D loc cA A' xs L0 U := by
  obtain ⟨hK, hA, hAl, hinj, ⟨hZ0, hT0, hZ1, hT1, hTX⟩, k, hk1, hk2⟩ := h
  subst hU
  obtain ⟨k', hk', he⟩ := hvm.2.2 _ _ hk1
  exact ⟨hK.moved hvm, h1, h2, hinj, ⟨((hZ0.kept hS.2.1).moved hvm).narrow h3, ((hT0.kept hS.2.1).moved hvm).narrow h3, ((hZ1.kept hS.2.1).moved hvm).narrow h3, ((hT1.kept hS.2.1).moved hvm).narrow h3, ((hTX.kept hS.2.1).moved hvm).narrow h3⟩, k', hk', by rw [he]; exact hk2⟩
def zAo (loc : Nat → Nat) (sz : Nat) : Nat → Prop := fun q => (∃ k, k < zNL ∧ loc k = q) ∨ sz ≤ q
def zQc (D : va_G) (loc : Nat → Nat) (cA : Nat → ClassId) (sz : Nat) (r : Option Value) (σ' : zSt) : Array Value → State → Outcome → State → Prop := fun _ st oc t => oc = .returned (r.map (zvm loc)) ∧ va_P D vwCl (zws loc cA σ') t.heap ∧ va_F (zAo loc sz) st t
def zPc (D : va_G) (loc : Nat → Nat) (cA : Nat → ClassId) (xs : Nat → Int32) (L0 sz : Nat) (σ : zSt) (As : List Value) : Array Value → State → Prop := va_Pc (As.map (zvm loc)) (fun U => U.heap.size = sz ∧ va_P D vwCl (zws loc cA σ) U.heap ∧ zWd D loc cA (zAo loc sz) xs L0 U)
theorem zPc_blind {D : va_G} {loc : Nat → Nat} {cA : Nat → ClassId} {xs : Nat → Int32} {L0 sz : Nat} {σ : zSt} {As : List Value} : FrameBlind (zPc D loc cA xs L0 sz σ As) := by
  intro a U g mk h
  obtain ⟨h1, h2, h3, h4⟩ := h
  exact ⟨h1, h2, h3, h4.go (U := U.calling g mk a) va_S.rf rfl (Vm.Alike.refl U.vm) (fun q hq => Or.inr (by omega)) (fun k hk => Or.inl ⟨k, hk, rfl⟩) (fun q hq => hq)⟩
section ZS
variable (mn : Nat → MethodName) (bc : Nat → ByteArray) (ml : Nat → Nat) (rt : Nat → Option FieldType) (nf nl : Nat → Nat) (PT : Nat → Nat → Option zAI) (V : Nat → Prop)
def zCl (own : String) (cc : ByteArray) (pc k t rc : Nat) : Prop :=
  (rc = 0 ∧ ∃ idx, decode cc pc = .ok (.invokestatic idx, 3) ∧ Cond.methodLink own idx (mn k) ∈ zALL ∧ Cond.static (mn k) ∈ zALL ∧ (parseMethodDescriptor (mn k).desc).map (fun d => d.parameters.length) = some t) ∨
  (∃ (ci idx : Nat) (T : u_T) (N n : Nat), rc = ci + 1 ∧ decode cc pc = .ok (.invokevirtual idx, 3) ∧ Cond.methodLink own idx (mn k) ∈ zALL ∧ Cond.instanceMethod (mn k) ∈ zALL ∧ Cond.selects (mn k).cls (mn k) (mn k) ∈ zALL ∧ vwCl[ci]? = some ((mn k).cls, T, N) ∧ ci < 99 ∧ (parseMethodDescriptor (mn k).desc).map (fun d => d.parameters.length) = some n ∧ t = n + 1)
def zRd (cc : ByteArray) (pc rk : Nat) : Prop := decode cc pc = .ok (match rk with | 0 => .return_ | 3 => .areturn | _ => .ireturn, 1)
def zRk (rk : Nat) (rret : Option FieldType) : Prop := (rk = 0 ∧ rret = none) ∨ (rk = 1 ∧ rret = some .int) ∨ (rk = 2 ∧ rret = some .boolean) ∨ (rk = 3 ∧ ∃ n, rret = some (.object n))
def zAt (G : (Nat → Int32) → Nat → Prop) (own : String) (cc : ByteArray) (nL F N : Nat) (rret : Option FieldType) (pc : Nat) (ai : zAI) : Prop := match ai with
  | .inl f => ∀ xs L0, G xs L0 → zSimX xs L0 own cc nL pc f
  | .inr (.inl (k, t, rc)) => zCl mn own cc pc k t rc ∧ V k ∧ nf k + 1 ≤ F ∧ 19 + ml k + nl k ≤ N ∧ t ≤ ml k
  | .inr (.inr rk) => zRd cc pc rk ∧ zRk rk rret
def zOk (G : (Nat → Int32) → Nat → Prop) (own : String) (cc : ByteArray) (nL F N : Nat) (rret : Option FieldType) (P : Nat → Option zAI) : Prop := ∀ pc ai, P pc = some ai → zAt mn ml nf nl V G own cc nL F N rret pc ai
def zMf (k : Nat) : Prop := plainName (mn k).cls = true ∧ ((mn k).cls ≠ "java/lang/invoke/MethodHandle" ∧ (mn k).cls ≠ "java/lang/invoke/VarHandle") ∧ Cond.code (mn k) (bc k) (ml k) (rt k) ∈ zALL ∧ Cond.initialized (mn k).cls ∈ zALL ∧ 1 ≤ nf k ∧ 64 ≤ nl k ∧ zOk mn ml nf nl V (fun _ _ => True) (mn k).cls (bc k) (ml k) (nf k) (nl k) (rt k) (PT k)
def zWs (k : Nat) : List Cond := Cond.code (mn k) (bc k) (ml k) (rt k) :: zALL
def zRm (k : Nat) : Room := { frames := nf k, cells := 0, slots := 0, locals := nl k }
def zCT (n k : Nat) : Prop := ∀ (l : Launch) (D : va_G) (loc : Nat → Nat) (cA : Nat → ClassId) (xs : Nat → Int32) (L0 sz : Nat) (σ : zSt) (As : List Value) (r : Option Value) (σ' : zSt), zrun PT ml n (PT k) (0, zent (ml k) As, [], σ) = some (r, σ') → As.all zc1 = true → As.length ≤ ml k →
  Met l (mn k) (zWs mn bc ml rt k) (zRm nf nl k) (zPc D loc cA xs L0 sz σ As) (zQc D loc cA sz r σ') 0 0 (zAo loc sz)
def zKr (p : Program) (l : Launch) (e : Env) (R : Room) (s : State) (m : MethodId) (args : Array Value) (below : List Frame) (meth : Method) (c : Code) (cells slots : Nat) (Q : State → Prop) (D : va_G) (loc : Nat → Nat) (cA : Nat → ClassId) (A : Nat → Prop) (cc : ByteArray) (rret : Option FieldType) (r : Option Value) (σ' : zSt) : Prop :=
  ∀ (pc rk : Nat) (S : List Value) (ls : Array Slot) (H : Heap) (locs : List Loc), zRd cc pc rk → zRk rk rret → zrt rk S = some r → va_P D vwCl (zws loc cA σ') H → va_S A s.heap H locs → W p l e R s m args below meth c H locs cells slots Q (F0 m pc ls (S.map (zvm loc)))
def zSA (n : Nat) : Prop := ∀ (G : (Nat → Int32) → Nat → Prop) (P : Nat → Option zAI) (own : String) (cc : ByteArray) (nL F N : Nat) (rret : Option FieldType), zOk mn ml nf nl V G own cc nL F N rret P →
  ∀ (p : Program) (l : Launch) (e : Env) (R : Room) (s : State) (m : MethodId) (args : Array Value) (below : List Frame) (meth : Method) (c : Code) (cells slots : Nat) (Q : State → Prop) (D : va_G) (loc : Nat → Nat) (cA : Nat → ClassId) (A : Nat → Prop) (xs : Nat → Int32) (L0 : Nat), G xs L0 →
    zCtx p s m args c cc own nL D loc cA A xs L0 → F ≤ R.frames → N ≤ R.locals → 1 ≤ R.frames → 64 ≤ R.locals → cells ≤ R.cells → slots ≤ R.slots → ∀ (cf : zCfg) (r : Option Value) (σ' : zSt), zrun PT ml n P cf = some (r, σ') →
    zKr p l e R s m args below meth c cells slots Q D loc cA A cc rret r σ' → zWk p l e R s m args below meth c cells slots Q D loc cA A nL cf
variable {mn bc ml rt nf nl PT V}
theorem zlg_len {vs : List Value} (h : ∀ v ∈ vs, v.category = 1) : (lg_sl vs).length = vs.length := by
  induction vs with
  | nil => rfl
  | cons v t ih =>
    have h1 : v.category = 1 := h v List.mem_cons_self
    have e : lg_sl (v :: t) = .val v :: lg_sl t := by simp [lg_sl, h1]
    rw [e, List.length_cons, List.length_cons, ih (fun w hw => h w (List.mem_cons_of_mem _ hw))]
theorem zlv_nones (loc : Nat → Nat) : ∀ (n i : Nat), zlv loc (List.replicate n none) i = []
  | 0, _ => rfl
  | n + 1, i => zlv_nones loc n (i + 1)
theorem zlv_args {loc : Nat → Nat} {n : Nat} : ∀ {As : List Value} {i : Nat}, (∀ v ∈ As, v.category = 1) → zlv loc (As.map some ++ List.replicate n none) i = lv_args i (As.map (zvm loc))
  | [], i, _ => zlv_nones loc n i
  | v :: t, i, h => by
    have h1 : v.category = 1 := h v List.mem_cons_self
    have h2 : (zvm loc v).category = 1 := (zvm_cat loc v).trans h1
    show (i, zvm loc v) :: zlv loc (t.map some ++ List.replicate n none) (i + 1) = _
    rw [zlv_args (fun w hw => h w (List.mem_cons_of_mem _ hw)), List.map_cons, lv_args]
    simp [h2]
theorem zlv_cat {loc : Nat → Nat} : ∀ {L : List (Option Value)} {i : Nat}, (∀ v, some v ∈ L → v.category = 1) → ∀ q ∈ zlv loc L i, q.2.category = 1
  | [], _, _, q, hq => by simp [zlv] at hq
  | none :: t, i, h, q, hq => zlv_cat (L := t) (i := i + 1) (fun v hv => h v (List.mem_cons_of_mem _ hv)) q hq
  | some w :: t, i, h, q, hq => by
    rcases List.mem_cons.mp (show q ∈ (i, zvm loc w) :: zlv loc t (i + 1) from hq) with h1 | h1
    · rw [h1]; exact (zvm_cat loc w).trans (h w List.mem_cons_self)
    · exact zlv_cat (L := t) (i := i + 1) (fun v hv => h v (List.mem_cons_of_mem _ hv)) q h1
theorem zent_LR {loc : Nat → Nat} {nL : Nat} {As : List Value} (h : ∀ v ∈ As, v.category = 1) (hn : As.length ≤ nL) : zLR loc ((lg_sl (As.map (zvm loc)) ++ List.replicate (nL - (lg_sl (As.map (zvm loc))).length) Slot.unset).toArray) nL (zent nL As) := by
  have h2 : ∀ v ∈ As.map (zvm loc), v.category = 1 := fun v hv => by
    obtain ⟨w, hw, rfl⟩ := List.mem_map.mp hv
    exact (zvm_cat loc w).trans (h w hw)
  refine ⟨?_, ?_⟩
  · unfold zent
    rw [zlv_args h]
    exact lv_entry _ (by rw [zlg_len h2, List.length_map]; exact hn)
  · refine zlv_cat (fun v hv => ?_)
    unfold zent at hv
    rcases List.mem_append.mp hv with h3 | h3
    · obtain ⟨w, hw, e⟩ := List.mem_map.mp h3
      cases e
      exact h v hw
    · have := List.eq_of_mem_replicate h3
      cases this
theorem zall1 {S : List Value} (h : S.all zc1 = true) : ∀ v ∈ S, v.category = 1 := fun v hv => Nat.eq_of_beq_eq_true (List.all_eq_true.mp h v hv)
theorem zca_of {t rc : Nat} {S as rest : List Value} (h : zca t rc S = some (as, rest)) : S = as.reverse ++ rest ∧ as.length = t ∧ rest.all zc1 = true ∧ rest.length ≤ 8 ∧ as.all zc1 = true ∧ zrc rc as = true := by
  unfold zca at h
  obtain ⟨h1, h2⟩ := zbif h
  simp only [Bool.and_eq_true, zbl, decide_eq_true_eq] at h1
  obtain ⟨⟨⟨⟨h3, h4⟩, h5⟩, h6⟩, h7⟩ := h1
  have e := Option.some.inj h2
  have e1 : (S.take t).reverse = as := congrArg Prod.fst e
  have e2 : S.drop t = rest := congrArg Prod.snd e
  subst e1; subst e2
  refine ⟨by rw [List.reverse_reverse, List.take_append_drop], by rw [List.length_reverse, List.length_take]; omega, h4, h5, by rw [List.all_reverse]; exact h6, h7⟩
theorem zB_of_A {n k : Nat} (hM : zMf mn bc ml rt nf nl PT V k) (hA : zSA mn ml nf nl PT V n) : zCT mn bc ml rt nf nl PT n k := by
  obtain ⟨hpl, hnm, hcode, hini, hf1, hl1, hok⟩ := hM
  intro l D loc cA xs L0 sz σ As r σ' hrun hcat hlen
  refine Met.ofW (cc := bc k) (maxL := ml k) (ret := rt k) hpl rfl ?_
  intro p e s m args below meth c s₁ B hml hv
  obtain ⟨rfl, hsz, hP, hW⟩ := hv
  have hx := B.exec
  have hb := B.bytes
  have hr := B.returns
  have hts := atoms_spec (ws := zWs mn bc ml rt k) B.pre
  have hown : s.vm.findClass (mn k).cls = some m.cls := findClass_of_methodNamed B.named
  have hlocks := B.notSynchronized
  rw [lg_entry_eq]
  have hLR := zent_LR (loc := loc) (nL := ml k) (zall1 hcat) hlen
  refine hA (fun _ _ => True) (PT k) (mn k).cls (bc k) (ml k) (nf k) (nl k) (rt k) hok p l e _ s m _ below meth c 0 0 _ D loc cA (zAo loc sz) xs L0 trivial ⟨hx, hb, hml, hown, fun w hw => hts w (List.mem_cons_of_mem _ hw), hW⟩ (Nat.le_refl _) (Nat.le_refl _) hf1 hl1 (Nat.le_refl _) (Nat.le_refl _) _ r σ' hrun ?_ _ s.heap [] hLR hP va_S.rf
  intro pc rk S ls H locs hd hrk hrt hP2 hS2
  have hq : ∀ (o : Option Value), r.map (zvm loc) = o → ∀ t : State, t.heap = H → s.WarmedH t.vm → zQc D loc cA sz r σ' (As.map (zvm loc)).toArray s (.returned o) t := fun o ho t ht hWm => ⟨by rw [ho], by rw [ht]; exact hP2, hS2.F ht⟩
  rcases hrk with ⟨rfl, h0⟩ | ⟨rfl, h0⟩ | ⟨rfl, h0⟩ | ⟨rfl, nm, h0⟩
  · match S, hrt with
    | [], hrt =>
      cases hrt
      exact W.vret hx hb (hr.trans h0) (hq none rfl) hS2.2.2 hd
  · match S, hrt with
    | [.int v], hrt =>
      cases hrt
      exact W.iret hx hb (hr.trans h0) (hq _ rfl) hS2.2.2 hd
  · match S, hrt with
    | [.int v], hrt =>
      obtain ⟨h1, h2⟩ := zbif hrt
      cases h2
      exact W.zret hx hb (hr.trans h0) (by rcases zbo_of h1 with q | q <;> rw [q] <;> rfl) (hq _ rfl) hS2.2.2 hd
  · match S, hrt with
    | [.ref a], hrt =>
      cases hrt
      exact W.aret hx hb (hr.trans h0) (Or.inl ⟨nm, rfl⟩) (Or.inr ⟨_, rfl⟩) (hq _ rfl) hS2.2.2 hd
    | [.null], hrt =>
      cases hrt
      exact W.aret hx hb (hr.trans h0) (Or.inl ⟨nm, rfl⟩) (Or.inl rfl) (hq _ rfl) hS2.2.2 hd
theorem zB_call {p : Program} {l : Launch} {e : Env} {R : Room} {s : State} {m : MethodId} {args : Array Value} {below : List Frame} {meth : Method} {c : Code} {cells slots : Nat} {Q : State → Prop} {D : va_G} {loc : Nat → Nat} {cA : Nat → ClassId} {A : Nat → Prop} {H : Heap} {locs : List Loc} {pc : Nat} {ls : Array Slot} {st0 rest : List Value} {r : Option Value} {σ' : zSt} {sz : Nat} {a : Array Value} (hsz : sz = H.size)
    (hr : va_Run p l e R s m args below meth c H locs cells slots 0 0 (F0 m pc ls st0) rest (zQc D loc cA sz r σ' a) (zAo loc sz)) (hS : va_S A s.heap H locs) (hA : ∀ q, zAo loc sz q → A q)
    (kk : ∀ (H1 : Heap) (locs1 : List Loc), va_P D vwCl (zws loc cA σ') H1 → va_S A s.heap H1 locs1 → W p l e R s m args below meth c H1 locs1 cells slots Q (F0 m (pc + 3) ls ((r.map (zvm loc)).toList ++ rest))) : W p l e R s m args below meth c H locs cells slots Q (F0 m pc ls st0) := by
  intro T hT X
  obtain ⟨v, st₀, t, T', L, h0, X', hL, e1, e2, ⟨hv, hp, hz, hk⟩, st⟩ := hr T hT X
  cases hv
  rw [h0] at hz hk
  obtain ⟨t2, a1, b1⟩ := kk T'.heap (locs ++ L) (by rw [e1]; exact hp)
    ⟨Nat.le_trans hS.1 (by rw [e1]; exact hz), fun q h1 h2 => by rw [e1, hk q (Nat.lt_of_lt_of_le h1 hS.1) (fun z => h2 (hA q z))]; exact hS.2.1 q h1 h2, fun q hq => by
      rcases List.mem_append.mp hq with h | h
      · exact hS.2.2 q h
      · exact hA _ (hL q h)⟩ T' rfl X'
  exact ⟨t2, st t2 a1, b1⟩
theorem zA_step {n : Nat} (hV : ∀ k, V k → zMf mn bc ml rt nf nl PT V k) (hA : zSA mn ml nf nl PT V n) : zSA mn ml nf nl PT V (n + 1) := by
  intro G P own cc nL F N rret hok p l e R s m args below meth c cells slots Q D loc cA A xs L0 hG C hF hN hR1 hR2 hc hs cf r σ' hrun hK
  obtain ⟨pc, L, S, σ⟩ := cf
  rw [zrun] at hrun
  dsimp only at hrun
  cases hp : P pc with
  | none => rw [hp] at hrun; cases hrun
  | some ai =>
    rw [hp] at hrun
    have hat := hok pc ai hp
    rcases ai with f | ⟨k, t, rc⟩ | rk
    · dsimp only at hrun
      cases hf : f (pc, L, S, σ) with
      | none => rw [hf] at hrun; cases hrun
      | some cf' =>
        rw [hf] at hrun
        exact hat xs L0 hG p l e R s m args below meth c cells slots Q D loc cA A C hR1 hR2 hc hs L S σ cf' hf (hA G P own cc nL F N rret hok p l e R s m args below meth c cells slots Q D loc cA A xs L0 hG C hF hN hR1 hR2 hc hs cf' r σ' hrun hK)
    · dsimp only at hrun
      cases hca : zca t rc S with
      | none => rw [hca] at hrun; cases hrun
      | some q =>
        obtain ⟨as, rest⟩ := q
        rw [hca] at hrun
        dsimp only at hrun
        cases hcr : zrun PT ml n (PT k) (0, zent (ml k) as, [], σ) with
        | none => rw [hcr] at hrun; cases hrun
        | some q2 =>
          obtain ⟨r2, σ2⟩ := q2
          rw [hcr] at hrun
          dsimp only at hrun
          have hnext := hA G P own cc nL F N rret hok p l e R s m args below meth c cells slots Q D loc cA A xs L0 hG C hF hN hR1 hR2 hc hs _ r σ' hrun hK
          obtain ⟨e1, e2, e3, e4, e5, e6⟩ := zca_of hca
          obtain ⟨hcl, hVk, hfr, hlo, html⟩ := hat
          have hMk := hV k hVk
          obtain ⟨hx, hb, hml, hown, hts, hW⟩ := C
          intro ls H locs hl hP hS
          have hcat := zall1 e5
          have hM := zB_of_A hMk hA l D loc cA xs L0 H.size σ as r2 σ2 hcr e5 (by omega)
          obtain ⟨hpl, hnm, hcode, hini, hf1, hl1, -⟩ := hMk
          have hA3 : ∀ q, zAo loc H.size q → A q := by
            intro q hq
            rcases hq with ⟨j, hj, rfl⟩ | hq
            · exact hW.2.2.1 j hj
            · exact hW.2.1 q (Nat.le_trans hS.1 hq)
          have hPc : ∀ U : State, U.heap = H → s.WarmedH U.vm → zPc D loc cA xs L0 H.size σ as (as.map (zvm loc)).toArray U := fun U hU hWU => ⟨rfl, by rw [hU], by rw [hU]; exact hP, hW.go hS hU hWU.alike (fun q hq => Or.inr hq) (fun j hj => Or.inl ⟨j, hj, rfl⟩) hA3⟩
          have hCB : ∀ (idx n9 : Nat), Cond.methodLink own idx (mn k) ∈ zALL → (parseMethodDescriptor (mn k).desc).map (fun d => d.parameters.length) = some n9 → CallB R s args own idx (mn k) (bc k) (ml k) (rt k) (zWs mn bc ml rt k) (zRm nf nl k) 0 0 n9 := by
            intro idx n9 hlk hpar
            refine ⟨rfl, rfl, Nat.le_trans hfr hF, ?_, ?_, List.mem_cons_self, hts _ hcode, hts _ hini, hnm, ?_, hts _ hlk⟩
            · show 8 + (ml k + 11) + nl k ≤ R.locals
              omega
            · intro w hw a' U hU
              rcases List.mem_cons.mp hw with h | h
              · rw [h]; exact word_at hU (zALL_good hcode) (hts _ hcode)
              · exact word_at hU (zALL_good h) (hts _ h)
            · intro sig hsig
              rw [hsig] at hpar
              exact (Option.some.inj hpar).symm
          have hrest : 2 * (F0 m pc ls (S.map (zvm loc))).monitorRoom + ((rest.map (zvm loc)).map fun v => v.category).sum ≤ 8 := by
            rw [zsum1 e3]
            show 2 * 0 + _ ≤ 8
            omega
          have hkk : ∀ (H1 : Heap) (locs1 : List Loc), va_P D vwCl (zws loc cA σ2) H1 → va_S A s.heap H1 locs1 → W p l e R s m args below meth c H1 locs1 cells slots Q (F0 m (pc + 3) ls ((r2.map (zvm loc)).toList ++ rest.map (zvm loc))) := by
            intro H1 locs1 hP1 hS1
            have h9 := hnext ls H1 locs1 hl hP1 hS1
            rw [List.map_append] at h9
            cases r2 with
            | none => exact h9
            | some v => exact h9
          subst e1
          rw [List.map_append, List.map_reverse] at hrest ⊢
          rcases hcl with ⟨hrc, idx, hd, hlk, hst, hpar⟩ | ⟨ci, idx, T, N9, n9, hrc, hd, hlk, hin, hse, hvw, hci, hpar, ht9⟩
          · subst hrc
            refine zB_call rfl (va_runS (As := as.map (zvm loc)) (rest := rest.map (zvm loc)) ⟨hx, hb, hml, hown, hts⟩ hM ⟨hCB idx t hlk hpar, hts _ hst⟩ ⟨zPc_blind, hPc⟩ rfl (by rw [List.length_map]; exact e2) hl.1.1 rfl hrest hd ⟨by omega, by omega⟩) hS hA3 hkk
          · subst hrc
            match as, e2, e6, hM, hPc, hcat with
            | .ref a :: as2, e2, e6, hM, hPc, hcat =>
              have hkd : zkd a = ci := Nat.eq_of_beq_eq_true e6
              have hlt := zkd_lt hkd (by omega) (by omega) (by omega)
              have he := zws_get (loc := loc) (cA := cA) (σ := σ) hlt
              rw [hkd, zent_obj (by omega)] at he
              have hl2 : as2.length = n9 := by simp only [List.length_cons] at e2; omega
              have hstk : (List.map (zvm loc) (Value.ref a :: as2)).reverse ++ rest.map (zvm loc) = (as2.map (zvm loc)).reverse ++ Value.ref (loc a) :: rest.map (zvm loc) := by
                simp [zvm]
              rw [hstk] at hrest ⊢
              refine zB_call rfl (va_runV (C := (mn k).cls) (b := loc a) (As := as2.map (zvm loc)) (rest := rest.map (zvm loc)) ⟨hx, hb, hml, hown, hts⟩ hM ⟨hCB idx n9 hlk hpar, hts _ hin, hts _ hse⟩ ⟨zPc_blind, va_recv hW.1 hP hvw he, hPc⟩ rfl (by rw [List.length_map]; exact hl2) hl.1.1 rfl hrest hd ⟨by omega, by omega⟩) hS hA3 hkk
            | [], e2, e6, hM, hPc, hcat => cases e6
            | .null :: _, e2, e6, hM, hPc, hcat => cases e6
            | .int _ :: _, e2, e6, hM, hPc, hcat => cases e6
            | .long _ :: _, e2, e6, hM, hPc, hcat => cases e6
            | .float _ :: _, e2, e6, hM, hPc, hcat => cases e6
            | .double _ :: _, e2, e6, hM, hPc, hcat => cases e6
            | .retAddr _ :: _, e2, e6, hM, hPc, hcat => cases e6
    · dsimp only at hrun
      cases hrt : zrt rk S with
      | none => rw [hrt] at hrun; cases hrun
      | some r9 =>
        rw [hrt] at hrun
        cases hrun
        intro ls H locs hl hP hS
        exact hK pc rk S ls H locs hat.1 hat.2 hrt hP hS
theorem zA_all (hV : ∀ k, V k → zMf mn bc ml rt nf nl PT V k) : ∀ n, zSA mn ml nf nl PT V n
  | 0 => by
    intro G P own cc nL F N rret hok p l e R s m args below meth c cells slots Q D loc cA A xs L0 hG C hF hN hR1 hR2 hc hs cf r σ' hrun hK
    cases hrun
  | n + 1 => zA_step hV (zA_all hV n)
theorem zqs {G : (Nat → Int32) → Nat → Prop} {own : String} {cc : ByteArray} {nL F N : Nat} {rret : Option FieldType} {pc : Nat} {f : zCfg → Option zCfg} (h : zSim own cc nL pc f) : zAt mn ml nf nl V G own cc nL F N rret pc (.inl f) := fun xs L0 _ => h.X xs L0
end ZS

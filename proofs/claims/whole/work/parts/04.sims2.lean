/-! THE SAME: switches, fields, arrays, statics -/
def zmk (pc : Nat) : Int → List Int → List (Int32 × Nat)
  | _, [] => []
  | lo, o :: r => (Int32.ofInt lo, ((pc : Int) + o).toNat) :: zmk pc (lo + 1) r
theorem zI_of {x : Int32} {z : Int} (h1 : -2147483648 ≤ z) (h2 : z < 2147483648) : x = Int32.ofInt z ↔ x.toInt = z := by
  have e : (Int32.ofInt z).toInt = z := Int32.toInt_ofInt_of_le (by simpa using h1) (by simpa using h2)
  constructor
  · intro h; rw [h, e]
  · intro h; exact Int32.toInt_inj.mp (by rw [h, e])
theorem zmk_in {pc d : Nat} {x : Int32} : ∀ {offs : List Int} {lo : Int} {j : Nat} {o : Int}, -2147483648 ≤ lo → lo + offs.length ≤ 2147483648 → x.toInt = lo + j → offs[j]? = some o → zsw d (zmk pc lo offs) x = ((pc : Int) + o).toNat
  | [], _, _, _, _, _, _, h => by simp at h
  | a :: r, lo, 0, o, h1, h2, h3, h => by
    simp only [List.length_cons] at h2
    simp only [List.getElem?_cons_zero, Option.some.injEq] at h
    subst h
    unfold zmk zsw
    rw [if_pos ((zI_of h1 (by omega)).mpr (by omega))]
  | a :: r, lo, j + 1, o, h1, h2, h3, h => by
    simp only [List.length_cons] at h2
    have hl : j < r.length := by
      have := (List.getElem?_eq_some_iff.mp h).1
      simpa using this
    unfold zmk zsw
    rw [if_neg (fun q => by have := (zI_of h1 (by omega)).mp q; omega)]
    exact zmk_in (lo := lo + 1) (j := j) (by omega) (by omega) (by omega) (by simpa using h)
theorem zmk_out {pc d : Nat} {x : Int32} : ∀ {offs : List Int} {lo : Int}, -2147483648 ≤ lo → lo + offs.length ≤ 2147483648 → (x.toInt < lo ∨ lo + offs.length ≤ x.toInt) → zsw d (zmk pc lo offs) x = d
  | [], _, _, _, _ => rfl
  | a :: r, lo, h1, h2, h3 => by
    simp only [List.length_cons] at h2 h3
    unfold zmk zsw
    rw [if_neg (fun q => by have := (zI_of h1 (by omega)).mp q; omega)]
    exact zmk_out (by omega) (by omega) (by omega)
def zml (pc : Nat) : List (Int × Int) → List (Int32 × Nat)
  | [] => []
  | (k, o) :: r => (Int32.ofInt k, ((pc : Int) + o).toNat) :: zml pc r
theorem zml_at {pc : Nat} {d : Int} {x : Int32} : ∀ {ps : List (Int × Int)}, ps.all (fun q => decide (-2147483648 ≤ q.1) && decide (q.1 < 2147483648)) = true → zsw ((pc : Int) + d).toNat (zml pc ps) x = ((pc : Int) + Op.lookupswitch.offset ps d x.toInt).toNat
  | [], _ => rfl
  | (k, o) :: r, h => by
    rw [List.all_cons, Bool.and_eq_true, Bool.and_eq_true, decide_eq_true_eq, decide_eq_true_eq] at h
    unfold zml zsw
    rw [Op.lookupswitch.offset_cons]
    by_cases e : x.toInt = k
    · rw [if_pos ((zI_of h.1.1 h.1.2).mpr e), if_pos e.symm]
    · rw [if_neg (fun q => e ((zI_of h.1.1 h.1.2).mp q)), if_neg (fun q => e q.symm)]
      exact zml_at h.2
theorem zml_nn {pc : Nat} {d x : Int} : ∀ {ps : List (Int × Int)}, 0 ≤ (pc : Int) + d → ps.all (fun q => decide (0 ≤ (pc : Int) + q.2)) = true → 0 ≤ (pc : Int) + Op.lookupswitch.offset ps d x
  | [], h, _ => h
  | (k, o) :: r, h, h2 => by
    rw [List.all_cons, Bool.and_eq_true, decide_eq_true_eq] at h2
    rw [Op.lookupswitch.offset_cons]
    split
    · exact h2.1
    · exact zml_nn h h2.2
theorem zs_tsw {own : String} {cc : ByteArray} {nL pc : Nat} {dflt lo hi : Int} {offs : Array Int} {len d : Nat} {cs : List (Int32 × Nat)} (hd : decode cc pc = .ok (.tableswitch dflt lo hi offs, len)) (hcs : zmk pc lo offs.toList = cs) (hdf : (pc : Int) + dflt = (d : Int)) (hb1 : -2147483648 ≤ lo) (hb2 : lo + offs.toList.length ≤ 2147483648) (hhi : hi + 1 = lo + offs.toList.length) (hnn : offs.toList.all (fun o => decide (0 ≤ (pc : Int) + o)) = true) : zSim own cc nL pc (zswi d cs) := by
  intro p l e R s m args below meth c cells slots Q D loc cA A xs L0 C hR1 hR2 hRc hRs L S σ cf' h K ls H locs hl hP hS
  obtain ⟨hx, hb, hml, hown, hts, hW⟩ := C
  obtain ⟨hK, hA, hAl, hinj, ⟨hZ0, hT0, hZ1, hT1, hTX⟩, hAr⟩ := id hW
  unfold zswi at h
  dsimp only at h
  split at h
  next x S =>
    cases h
    have K2 := K ls H locs hl hP hS
    subst hcs
    by_cases h1 : x.toInt < lo
    · refine lv_tableOut (tgt := d) hx hb hd (Or.inl h1) hdf ?_
      rw [zmk_out hb1 hb2 (Or.inl h1)] at K2
      exact K2
    · by_cases h2 : hi < x.toInt
      · refine lv_tableOut (tgt := d) hx hb hd (Or.inr h2) hdf ?_
        rw [zmk_out hb1 hb2 (Or.inr (by omega))] at K2
        exact K2
      · have hlt : (x.toInt - lo).toNat < offs.toList.length := by omega
        obtain ⟨o, ho⟩ : ∃ o, offs.toList[(x.toInt - lo).toNat]? = some o := ⟨_, List.getElem?_eq_getElem hlt⟩
        have hz := List.all_eq_true.mp hnn o (List.mem_of_getElem? ho)
        rw [decide_eq_true_eq] at hz
        rw [zmk_in hb1 hb2 (show x.toInt = lo + ((x.toInt - lo).toNat : Nat) by omega) ho] at K2
        exact lv_tableIn hx hb hd h1 h2 (by rw [← Array.getElem?_toList]; exact ho) (Int.toNat_of_nonneg hz).symm K2
  next => cases h
theorem zs_lsw {own : String} {cc : ByteArray} {nL pc : Nat} {dflt : Int} {ps : Array (Int × Int)} {len d : Nat} {cs : List (Int32 × Nat)} (hd : decode cc pc = .ok (.lookupswitch dflt ps, len)) (hcs : zml pc ps.toList = cs) (hdf : (pc : Int) + dflt = (d : Int)) (hp : (ps.toList.zip (ps.toList.drop 1)).all (fun (a, next) => a.1 < next.1) = true) (hk : ps.toList.all (fun q => decide (-2147483648 ≤ q.1) && decide (q.1 < 2147483648)) = true) (hnn : ps.toList.all (fun q => decide (0 ≤ (pc : Int) + q.2)) = true) : zSim own cc nL pc (zswi d cs) := by
  intro p l e R s m args below meth c cells slots Q D loc cA A xs L0 C hR1 hR2 hRc hRs L S σ cf' h K ls H locs hl hP hS
  obtain ⟨hx, hb, hml, hown, hts, hW⟩ := C
  obtain ⟨hK, hA, hAl, hinj, ⟨hZ0, hT0, hZ1, hT1, hTX⟩, hAr⟩ := id hW
  unfold zswi at h
  dsimp only at h
  split at h
  next x S =>
    cases h
    have K2 := K ls H locs hl hP hS
    subst hcs
    have hdn : ((pc : Int) + dflt).toNat = d := by omega
    rw [← hdn, zml_at hk] at K2
    exact lv_lookup hx hb hd hp rfl (Int.toNat_of_nonneg (zml_nn (by omega) hnn)).symm K2
  next => cases h
theorem zent_obj {loc : Nat → Nat} {cA : Nat → ClassId} {b c : Nat} {f : Nat → Int32} (hc : c < 100) : zent0 loc cA b f c = .inr (c, (List.range (znf c)).map fun j => bif zrf c j then .ref (loc (ztg b j)) else .int (f j)) := by
  unfold zent0
  rw [if_neg (by omega), if_neg (by omega), if_neg (by omega), if_neg (by omega), if_neg (by omega)]
theorem zfs_at {N k : Nat} {g : Nat → Value} (h : k < N) : ((List.range N).map g)[k]? = some (g k) := by
  rw [List.getElem?_map, List.getElem?_range h]; rfl
theorem zfs_set {N k : Nat} {g g' : Nat → Value} {v : Value} (h : k < N) (hv : g' k = v) (ho : ∀ j, j ≠ k → g' j = g j) : ((List.range N).map g).set k v = (List.range N).map g' := by
  refine List.ext_getElem? (fun i => ?_)
  by_cases hi : i < N
  · rw [zfs_at hi]
    by_cases e : i = k
    · subst e
      rw [List.getElem?_set_self (by simpa using hi), hv]
    · rw [List.getElem?_set_ne (Ne.symm e), zfs_at hi, ho i e]
  · have h1 : N ≤ i := Nat.not_lt.mp hi
    rw [List.getElem?_eq_none (by simpa using h1), List.getElem?_eq_none (by simpa using h1)]
theorem zs_getI {own : String} {cc : ByteArray} {nL pc : Nat} {ci k N index : Nat} {C : String} {T : u_T} (hc : vwCl[ci]? = some (C, T, N)) (hin : ∀ w ∈ u_ws C T N, w ∈ zALL) (hN : znf ci = N) (hc1 : ci < 99) (hk : k < N) (hlink : Cond.fieldLink own index (T k).1 (T k).2.1 (T k).2.2.1 ∈ zALL) (hz : zrf ci k = false) (hd : decode cc pc = .ok (.getfield index, 3)) : zSim own cc nL pc (zgI ci k) := by
  intro p l e R s m args below meth c cells slots Q D loc cA A xs L0 C hR1 hR2 hRc hRs L S σ cf' h K ls H locs hl hP hS
  obtain ⟨hx, hb, hml, hown, hts, hW⟩ := C
  obtain ⟨hK, hA, hAl, hinj, ⟨hZ0, hT0, hZ1, hT1, hTX⟩, hAr⟩ := id hW
  unfold zgI at h
  dsimp only at h
  split at h
  next a S =>
    obtain ⟨h1, h2⟩ := zbif h
    cases h2
    have h3 := Nat.eq_of_beq_eq_true h1
    have he := zws_get (loc := loc) (cA := cA) (σ := σ) (zkd_lt h3 (by omega) (by omega) (by omega))
    rw [h3, zent_obj (Nat.lt_succ_of_lt hc1), hN] at he
    refine va_get hx hb hts hin hown hK hP a he hc k hk (hts _ hlink) (fun _ q => q) ((zfs_at hk).trans ?_) hd (K ls H locs hl hP hS)
    rw [hz]
    rfl
  next => cases h
theorem zs_getR {own : String} {cc : ByteArray} {nL pc : Nat} {ci k N index : Nat} {C : String} {T : u_T} (hc : vwCl[ci]? = some (C, T, N)) (hin : ∀ w ∈ u_ws C T N, w ∈ zALL) (hN : znf ci = N) (hc1 : ci < 99) (hk : k < N) (hlink : Cond.fieldLink own index (T k).1 (T k).2.1 (T k).2.2.1 ∈ zALL) (hz : zrf ci k = true) (hd : decode cc pc = .ok (.getfield index, 3)) : zSim own cc nL pc (zgR ci k) := by
  intro p l e R s m args below meth c cells slots Q D loc cA A xs L0 C hR1 hR2 hRc hRs L S σ cf' h K ls H locs hl hP hS
  obtain ⟨hx, hb, hml, hown, hts, hW⟩ := C
  obtain ⟨hK, hA, hAl, hinj, ⟨hZ0, hT0, hZ1, hT1, hTX⟩, hAr⟩ := id hW
  unfold zgR at h
  dsimp only at h
  split at h
  next a S =>
    obtain ⟨h1, h2⟩ := zbif h
    cases h2
    have h3 := Nat.eq_of_beq_eq_true h1
    have he := zws_get (loc := loc) (cA := cA) (σ := σ) (zkd_lt h3 (by omega) (by omega) (by omega))
    rw [h3, zent_obj (Nat.lt_succ_of_lt hc1), hN] at he
    refine va_get hx hb hts hin hown hK hP a he hc k hk (hts _ hlink) (fun _ q => q) ((zfs_at hk).trans ?_) hd (K ls H locs hl hP hS)
    rw [hz]
    rfl
  next => cases h
theorem zs_putI {own : String} {cc : ByteArray} {nL pc : Nat} {ci k N index : Nat} {C : String} {T : u_T} (hc : vwCl[ci]? = some (C, T, N)) (hin : ∀ w ∈ u_ws C T N, w ∈ zALL) (hN : znf ci = N) (hc1 : ci < 99) (hk : k < N) (hlink : Cond.fieldLink own index (T k).1 (T k).2.1 (T k).2.2.1 ∈ zALL) (hz : zrf ci k = false) (ty0 : Nat → FieldType) (hty : ∀ k, k < N → parseFieldDescriptor (T k).2.2.1 = some (ty0 k)) (hnm : ∀ a, a < N → ∀ b, b < N → a ≠ b → (T a).2.1 ≠ (T b).2.1) (hfin : (T k).2.2.2 = false) (hdty : parseFieldDescriptor (T k).2.2.1 = some .int) (hd : decode cc pc = .ok (.putfield index, 3)) : zSim own cc nL pc (zpI ci k) := by
  intro p l e R s m args below meth c cells slots Q D loc cA A xs L0 C hR1 hR2 hRc hRs L S σ cf' h K ls H locs hl hP hS
  obtain ⟨hx, hb, hml, hown, hts, hW⟩ := C
  obtain ⟨hK, hA, hAl, hinj, ⟨hZ0, hT0, hZ1, hT1, hTX⟩, hAr⟩ := id hW
  unfold zpI at h
  dsimp only at h
  split at h
  next v a S =>
    obtain ⟨h1, h2⟩ := zbif h
    cases h2
    have h3 := Nat.eq_of_beq_eq_true h1
    have hlt := zkd_lt h3 (by omega) (by omega) (by omega)
    have he := zws_get (loc := loc) (cA := cA) (σ := σ) hlt
    rw [h3, zent_obj (Nat.lt_succ_of_lt hc1), hN] at he
    refine va_put hx hb hts hin ty0 hty hnm hown hK hP (zD hW σ) hS a he hc k hk (hts _ hlink) (fun _ q => q) hfin (v := .int v) hdty rfl rfl (by simpa using hk) hd (fun H1 locs1 hP1 _ hS1 => K ls H1 locs1 hl ?_ hS1)
    rw [zws_set (σ' := su σ a k v) ?_ su_ne] at hP1
    · exact hP1
    · rw [h3, zent_obj (Nat.lt_succ_of_lt hc1), hN]
      congr 2
      refine zfs_set hk ?_ (fun j hj => ?_)
      · rw [hz]
        show Value.int (su σ a k v a k) = _
        simp [su, zbq]
      · have e : su σ a k v a j = σ a j := by simp [su, zbq, hj]
        rw [e]
  next => cases h
theorem zs_putZ {own : String} {cc : ByteArray} {nL pc : Nat} {ci k N index : Nat} {C : String} {T : u_T} (hc : vwCl[ci]? = some (C, T, N)) (hin : ∀ w ∈ u_ws C T N, w ∈ zALL) (hN : znf ci = N) (hc1 : ci < 99) (hk : k < N) (hlink : Cond.fieldLink own index (T k).1 (T k).2.1 (T k).2.2.1 ∈ zALL) (hz : zrf ci k = false) (ty0 : Nat → FieldType) (hty : ∀ k, k < N → parseFieldDescriptor (T k).2.2.1 = some (ty0 k)) (hnm : ∀ a, a < N → ∀ b, b < N → a ≠ b → (T a).2.1 ≠ (T b).2.1) (hfin : (T k).2.2.2 = false) (hdty : parseFieldDescriptor (T k).2.2.1 = some .boolean) (hd : decode cc pc = .ok (.putfield index, 3)) : zSim own cc nL pc (zpZ ci k) := by
  intro p l e R s m args below meth c cells slots Q D loc cA A xs L0 C hR1 hR2 hRc hRs L S σ cf' h K ls H locs hl hP hS
  obtain ⟨hx, hb, hml, hown, hts, hW⟩ := C
  obtain ⟨hK, hA, hAl, hinj, ⟨hZ0, hT0, hZ1, hT1, hTX⟩, hAr⟩ := id hW
  unfold zpZ at h
  dsimp only at h
  split at h
  next v a S =>
    obtain ⟨h1, h2⟩ := zbif h
    cases h2
    rw [Bool.and_eq_true] at h1
    have hbo := zbo_of h1.2
    have h1 := h1.1
    have h3 := Nat.eq_of_beq_eq_true h1
    have hlt := zkd_lt h3 (by omega) (by omega) (by omega)
    have he := zws_get (loc := loc) (cA := cA) (σ := σ) hlt
    rw [h3, zent_obj (Nat.lt_succ_of_lt hc1), hN] at he
    refine va_put hx hb hts hin ty0 hty hnm hown hK hP (zD hW σ) hS a he hc k hk (hts _ hlink) (fun _ q => q) hfin (v := .int v) hdty (by rcases hbo with q | q <;> rw [q] <;> rfl) (by rcases hbo with q | q <;> rw [q] <;> rfl) (by simpa using hk) hd (fun H1 locs1 hP1 _ hS1 => K ls H1 locs1 hl ?_ hS1)
    rw [zws_set (σ' := su σ a k v) ?_ su_ne] at hP1
    · exact hP1
    · rw [h3, zent_obj (Nat.lt_succ_of_lt hc1), hN]
      congr 2
      refine zfs_set hk ?_ (fun j hj => ?_)
      · rw [hz]
        show Value.int (su σ a k v a k) = _
        simp [su, zbq]
      · have e : su σ a k v a j = σ a j := by simp [su, zbq, hj]
        rw [e]
  next => cases h
theorem zent_I {loc : Nat → Nat} {cA : Nat → ClassId} {b : Nat} {f : Nat → Int32} : zent0 loc cA b f 100 = .inl (cA 0, zln b, .inl f) := rfl
theorem zent_Z {loc : Nat → Nat} {cA : Nat → ClassId} {b : Nat} {f : Nat → Int32} : zent0 loc cA b f 101 = .inl (cA 1, zln b, .inl f) := rfl
theorem zent_II {loc : Nat → Nat} {cA : Nat → ClassId} {b : Nat} {f : Nat → Int32} : zent0 loc cA b f 102 = .inl (cA 2, zln b, .inr (.inr (.inr (.inr (fun i => some (loc (ztr b f i))))))) := rfl
theorem zent_C {loc : Nat → Nat} {cA : Nat → ClassId} {b : Nat} {f : Nat → Int32} : zent0 loc cA b f 103 = .inl (cA 3, zln b, .inr (.inr (.inr (.inr (fun i => some (loc (ztr b f i))))))) := rfl
theorem zent_R {loc : Nat → Nat} {cA : Nat → ClassId} {b : Nat} {f : Nat → Int32} : zent0 loc cA b f 104 = .inl (cA 4, zln b, .inr (.inr (.inr (.inr (fun i => some (loc (ztr b f i))))))) := rfl
theorem zcon_kd {a : Nat} (h : zkd a = 105) : a = 200 ∨ a = 201 := by
  have hlt : 99 ≤ a := Nat.not_lt.mp fun q => by
    have key : ∀ b, b < 99 → zkd b ≠ 105 := by decide +kernel
    exact key a q h
  have h0 : ∀ m, m ≤ 99 → Nat.ble m a = true := fun m hm => Nat.ble_eq_true_of_le (Nat.le_trans hm hlt)
  unfold zkd znd at h
  simp (discharger := decide) only [h0, cond_true] at h
  rw [zbl, zbl, zbl] at h
  by_cases e1 : 200 ≤ a
  · by_cases e2 : 202 ≤ a
    · by_cases e3 : 203 ≤ a
      · simp [e1, e2, e3] at h
      · simp [e1, e2, e3] at h
    · omega
  · simp [e1] at h
theorem zcon_ld {cc : ByteArray} {p : Program} {l : Launch} {e : Env} {R : Room} {s : State} {m : MethodId} {args : Array Value} {below : List Frame} {meth : Method} {c : Code} {cells slots : Nat} {Q : State → Prop} {loc : Nat → Nat} {A : Nat → Prop} {H : Heap} {locs : List Loc} {pc a : Nat} {i : Int32} {ls : Array Slot} {rest : List Value} (h105 : zkd a = 105) (hx : p.tables.exec = Jvm.exec) (hb : c.code = cc) (hT0 : va_T .int (loc 200) 7 (fun j => .int (zcon 200 j)) A s s.heap) (hT1 : va_T .int (loc 201) 5 (fun j => .int (zcon 201 j)) A s s.heap) (hS : va_S A s.heap H locs) (hin : vp_in i (zln a)) (hd : decode cc pc = .ok (.iaload, 1))
    (k : W p l e R s m args below meth c H locs cells slots Q (F0 m (pc + 1) ls (.int (zcon a i.toNatClampNeg) :: rest))) : W p l e R s m args below meth c H locs cells slots Q (F0 m pc ls (.int i :: .ref (loc a) :: rest)) := by
  rcases zcon_kd h105 with rfl | rfl
  · exact va_ti hx hb hT0 hS (i := i) hin rfl hd k
  · exact va_ti hx hb hT1 hS (i := i) hin rfl hd k
theorem zs_iaload {own : String} {cc : ByteArray} {nL pc : Nat} (hd : decode cc pc = .ok (.iaload, 1)) : zSim own cc nL pc (zia) := by
  intro p l e R s m args below meth c cells slots Q D loc cA A xs L0 C hR1 hR2 hRc hRs L S σ cf' h K ls H locs hl hP hS
  obtain ⟨hx, hb, hml, hown, hts, hW⟩ := C
  obtain ⟨hK, hA, hAl, hinj, ⟨hZ0, hT0, hZ1, hT1, hTX⟩, hAr⟩ := id hW
  unfold zia at h
  dsimp only at h
  split at h
  next i a S =>
    split at h
    next v hv =>
      cases h
      rcases zld_of hv with ⟨h1, h2, h3⟩ | ⟨h1, h2, h3⟩
      · subst h3
        have he := zws_get (loc := loc) (cA := cA) (σ := σ) (zkd_lt h1 (by omega) (by omega) (by omega))
        rw [h1, zent_I] at he
        exact va_iald hx hb hK hP a 0 he rfl h2 hd (K ls H locs hl hP hS)
      · subst h3
        exact zcon_ld h1 hx hb hT0 hT1 hS h2 hd (K ls H locs hl hP hS)
    next => cases h
  next => cases h
theorem zs_iastore {own : String} {cc : ByteArray} {nL pc : Nat} (hd : decode cc pc = .ok (.iastore, 1)) : zSim own cc nL pc (zia') := by
  intro p l e R s m args below meth c cells slots Q D loc cA A xs L0 C hR1 hR2 hRc hRs L S σ cf' h K ls H locs hl hP hS
  obtain ⟨hx, hb, hml, hown, hts, hW⟩ := C
  obtain ⟨hK, hA, hAl, hinj, ⟨hZ0, hT0, hZ1, hT1, hTX⟩, hAr⟩ := id hW
  unfold zia' at h
  dsimp only at h
  split at h
  next v i a S =>
    split at h
    next σ2 hv =>
      cases h
      obtain ⟨h1, h2, h3⟩ := zst_of hv
      subst h3
      have he := zws_get (loc := loc) (cA := cA) (σ := σ) (zkd_lt h1 (by omega) (by omega) (by omega))
      rw [h1, zent_I] at he
      refine va_iast hx hb hK hP (zD hW σ) hS a 0 he rfl h2 hd (fun H1 locs1 hP1 _ hS1 => K ls H1 locs1 hl ?_ hS1)
      rw [zws_set (σ' := su σ a i.toNatClampNeg v) (by rw [h1, zent_I, su_at]) su_ne] at hP1
      exact hP1
    next => cases h
  next => cases h
theorem zs_baload {own : String} {cc : ByteArray} {nL pc : Nat} (hd : decode cc pc = .ok (.baload, 1)) : zSim own cc nL pc (zba) := by
  intro p l e R s m args below meth c cells slots Q D loc cA A xs L0 C hR1 hR2 hRc hRs L S σ cf' h K ls H locs hl hP hS
  obtain ⟨hx, hb, hml, hown, hts, hW⟩ := C
  obtain ⟨hK, hA, hAl, hinj, ⟨hZ0, hT0, hZ1, hT1, hTX⟩, hAr⟩ := id hW
  unfold zba at h
  dsimp only at h
  split at h
  next i a S =>
    split at h
    next v hv =>
      cases h
      obtain ⟨h1, h2, h3⟩ := zzld_of hv
      subst h3
      have he := zws_get (loc := loc) (cA := cA) (σ := σ) (zkd_lt h1 (by omega) (by omega) (by omega))
      rw [h1, zent_Z] at he
      exact va_zald hx hb hK hP a 1 he rfl h2 hd (K ls H locs hl hP hS)
    next => cases h
  next => cases h
theorem zs_bastore {own : String} {cc : ByteArray} {nL pc : Nat} (hd : decode cc pc = .ok (.bastore, 1)) : zSim own cc nL pc (zba') := by
  intro p l e R s m args below meth c cells slots Q D loc cA A xs L0 C hR1 hR2 hRc hRs L S σ cf' h K ls H locs hl hP hS
  obtain ⟨hx, hb, hml, hown, hts, hW⟩ := C
  obtain ⟨hK, hA, hAl, hinj, ⟨hZ0, hT0, hZ1, hT1, hTX⟩, hAr⟩ := id hW
  unfold zba' at h
  dsimp only at h
  split at h
  next v i a S =>
    split at h
    next σ2 hv =>
      cases h
      obtain ⟨h1, h2, h4, h3⟩ := zzst_of hv
      subst h3
      have he := zws_get (loc := loc) (cA := cA) (σ := σ) (zkd_lt h1 (by omega) (by omega) (by omega))
      rw [h1, zent_Z] at he
      refine va_zast hx hb hK hP (zD hW σ) hS a 1 he rfl h2 hd (fun H1 locs1 hP1 _ hS1 => K ls H1 locs1 hl ?_ hS1)
      have e9 : vp_nar .boolean v = v := by rcases h4 with q | q <;> rw [q] <;> rfl
      rw [e9] at hP1
      rw [zws_set (σ' := su σ a i.toNatClampNeg v) (by rw [h1, zent_Z, su_at]) su_ne] at hP1
      exact hP1
    next => cases h
  next => cases h
theorem zs_aaload {own : String} {cc : ByteArray} {nL pc : Nat} (hd : decode cc pc = .ok (.aaload, 1)) : zSim own cc nL pc (zaa) := by
  intro p l e R s m args below meth c cells slots Q D loc cA A xs L0 C hR1 hR2 hRc hRs L S σ cf' h K ls H locs hl hP hS
  obtain ⟨hx, hb, hml, hown, hts, hW⟩ := C
  obtain ⟨hK, hA, hAl, hinj, ⟨hZ0, hT0, hZ1, hT1, hTX⟩, hAr⟩ := id hW
  unfold zaa at h
  dsimp only at h
  split at h
  next i a S =>
    split at h
    next v hv =>
      cases h
      obtain ⟨h1, h2, h3⟩ := zlr_of hv
      subst h3
      have hlt : i.toNatClampNeg < zln a := Nat.not_le.mp fun q => h2 (Or.inr q)
      rcases h1 with h1 | h1 | h1
      · have he := zws_get (loc := loc) (cA := cA) (σ := σ) (zkd_lt h1 (by omega) (by omega) (by omega))
        rw [h1, zent_II] at he
        exact W.aald (v := va_rf (some (loc (ztr a (σ a) i.toNatClampNeg)))) (ty := .array .int) hx hb (hP a _ he) ((hK.2 2 _ rfl).1 (zln a) (fun j => va_rf (some (loc (ztr a (σ a) j))))) rfl (fun q => by cases q) (by show ¬ (i < 0 ∨ (arrV _ _ _).slots.size ≤ _); rw [arrV_size]; exact h2) (by show (arrV _ _ _).slots[_]? = _; rw [arrV_read _ _ hlt]) rfl rfl hd (K ls H locs hl hP hS)
      · have he := zws_get (loc := loc) (cA := cA) (σ := σ) (zkd_lt h1 (by omega) (by omega) (by omega))
        rw [h1, zent_C] at he
        exact va_aldq hx hb hK hP a 3 he rfl h2 hd (K ls H locs hl hP hS)
      · have he := zws_get (loc := loc) (cA := cA) (σ := σ) (zkd_lt h1 (by omega) (by omega) (by omega))
        rw [h1, zent_R] at he
        exact va_aldq hx hb hK hP a 4 he rfl h2 hd (K ls H locs hl hP hS)
    next => cases h
  next => cases h
theorem zs_aastore {own : String} {cc : ByteArray} {nL pc : Nat} (hd : decode cc pc = .ok (.aastore, 1)) : zSim own cc nL pc (zaa') := by
  intro p l e R s m args below meth c cells slots Q D loc cA A xs L0 C hR1 hR2 hRc hRs L S σ cf' h K ls H locs hl hP hS
  obtain ⟨hx, hb, hml, hown, hts, hW⟩ := C
  obtain ⟨hK, hA, hAl, hinj, ⟨hZ0, hT0, hZ1, hT1, hTX⟩, hAr⟩ := id hW
  unfold zaa' at h
  dsimp only at h
  split at h
  next v i a S =>
    split at h
    next σ2 hv =>
      cases h
      obtain ⟨h1, h4, h5, h2, h3⟩ := zsR_of hv
      subst h3
      have hlt : i.toNatClampNeg < zln a := Nat.not_le.mp fun q => h2 (Or.inr q)
      have hvn : (Int32.ofNat v).toNatClampNeg = v := Int32.toNatClampNeg_ofNat_of_lt (by have : zNL = 99 := rfl; omega)
      have hrow : (fun j => some (loc (ztr a (su σ a i.toNatClampNeg (Int32.ofNat v) a) j))) = va_up (fun j => some (loc (ztr a (σ a) j))) i.toNatClampNeg (some (loc v)) := by
        funext j
        rw [su_at]
        unfold ztr va_up upd
        rw [h5]
        by_cases e : j = i.toNatClampNeg
        · subst e; simp [hvn]
        · simp [e]
      rcases h1 with ⟨h1, hv9⟩ | ⟨h1, hv9⟩
      · have he := zws_get (loc := loc) (cA := cA) (σ := σ) (zkd_lt h1 (by omega) (by omega) (by omega))
        rw [h1, zent_II] at he
        have hev := zws_get (loc := loc) (cA := cA) (σ := σ) h4
        rw [hv9, zent_I] at hev
        obtain ⟨kA, k1, k2⟩ := hAr
        obtain ⟨-, kI, kI1, cmI, kI2⟩ := (hK.2 0 _ rfl).1 0 (fun _ => .null)
        refine W.aast hx hb (hP a _ he) (fun q h => by cases h) (fun h => by cases h) k1 k2 rfl kI1 ⟨fun q => h2 (Or.inl q), by show _ < (arrV _ _ _).slots.size; rw [arrV_size]; exact hlt⟩ (hP v _ hev) (fun q h => by cases h) kI1 (by show ((cA 0 == cA 0) || _) = true; rw [beq_self_eq_true, Bool.true_or]) rfl rfl hd fun H1 e1 z1 oq => ?_
        have hP1 : va_P D vwCl ((zws loc cA σ).set a (loc a, .inl (cA 2, zln a, .inr (.inr (.inr (.inr (va_up (fun j => some (loc (ztr a (σ a) j))) i.toNatClampNeg (some (loc v))))))))) H1 := by
          refine hP.set (zD hW σ) he ?_ oq
          show H1[loc a]? = some (vp_cell _ _)
          rw [e1, vp_cell_q, vp_cell_q, arrV_store]
          congr 2
          funext q
          by_cases hq : q = i.toNatClampNeg
          · subst hq
            simp [updV, va_up, va_rf]
          · simp [updV, va_up, hq]
        rw [zws_set (σ' := su σ a i.toNatClampNeg (Int32.ofNat v)) (by rw [h1, zent_II, hrow]) su_ne] at hP1
        exact K ls H1 _ hl hP1 (hS.put z1 oq (hAl a (zkd_lt h1 (by omega) (by omega) (by omega))))
      · have he := zws_get (loc := loc) (cA := cA) (σ := σ) (zkd_lt h1 (by omega) (by omega) (by omega))
        rw [h1, zent_C] at he
        have hev := zws_get (loc := loc) (cA := cA) (σ := σ) h4
        rw [hv9, zent_obj (by omega)] at hev
        refine va_astq hx hb hK hP (zD hW σ) hS a 3 v 2 (r := (RX2, TX2, 5)) he rfl hev rfl h2 hd (fun H1 locs1 hP1 _ hS1 => K ls H1 locs1 hl ?_ hS1)
        rw [zws_set (σ' := su σ a i.toNatClampNeg (Int32.ofNat v)) (by rw [h1, zent_C, hrow]) su_ne] at hP1
        exact hP1
    next => cases h
  next => cases h
theorem zs_alen {own : String} {cc : ByteArray} {nL pc : Nat} (hd : decode cc pc = .ok (.arraylength, 1)) : zSim own cc nL pc (zle) := by
  intro p l e R s m args below meth c cells slots Q D loc cA A xs L0 C hR1 hR2 hRc hRs L S σ cf' h K ls H locs hl hP hS
  obtain ⟨hx, hb, hml, hown, hts, hW⟩ := C
  obtain ⟨hK, hA, hAl, hinj, ⟨hZ0, hT0, hZ1, hT1, hTX⟩, hAr⟩ := id hW
  unfold zle at h
  dsimp only at h
  split at h
  next a S =>
    obtain ⟨h1, h2⟩ := zbif h
    cases h2
    rw [Bool.or_eq_true] at h1
    rcases h1 with h1 | h1
    · have h3 := Nat.eq_of_beq_eq_true h1
      have he := zws_get (loc := loc) (cA := cA) (σ := σ) (zkd_lt h3 (by omega) (by omega) (by omega))
      rw [h3, zent_I] at he
      exact va_alen hx hb hK hP a 0 he rfl rfl hd (K ls H locs hl hP hS)
    · have h3 := Nat.eq_of_beq_eq_true h1
      rcases zcon_kd h3 with rfl | rfl
      · exact va_tlen hx hb hT0 hS rfl hd (K ls H locs hl hP hS)
      · exact va_tlen hx hb hT1 hS rfl hd (K ls H locs hl hP hS)
  next => cases h
theorem zs_primes {own : String} {cc : ByteArray} {nL pc : Nat} {index : Nat} (hlink : Cond.fieldLink own index "ZeroForcer" "PRIMES" "[I" ∈ zALL) (hd : decode cc pc = .ok (.getstatic index, 3)) : zSim own cc nL pc (zgs 200) := by
  intro p l e R s m args below meth c cells slots Q D loc cA A xs L0 C hR1 hR2 hRc hRs L S σ cf' h K ls H locs hl hP hS
  obtain ⟨hx, hb, hml, hown, hts, hW⟩ := C
  obtain ⟨hK, hA, hAl, hinj, ⟨hZ0, hT0, hZ1, hT1, hTX⟩, hAr⟩ := id hW
  cases h
  exact va_gets hx hb hZ0 hS hown (hts _ hlink) (fun _ q => q) hd (K ls H locs hl hP hS)
theorem zs_above {own : String} {cc : ByteArray} {nL pc : Nat} {index : Nat} (hlink : Cond.fieldLink own index "ZeroForcer$Bodies" "ABOVE" "[I" ∈ zALL) (hd : decode cc pc = .ok (.getstatic index, 3)) : zSim own cc nL pc (zgs 201) := by
  intro p l e R s m args below meth c cells slots Q D loc cA A xs L0 C hR1 hR2 hRc hRs L S σ cf' h K ls H locs hl hP hS
  obtain ⟨hx, hb, hml, hown, hts, hW⟩ := C
  obtain ⟨hK, hA, hAl, hinj, ⟨hZ0, hT0, hZ1, hT1, hTX⟩, hAr⟩ := id hW
  cases h
  exact va_gets hx hb hZ1 hS hown (hts _ hlink) (fun _ q => q) hd (K ls H locs hl hP hS)
theorem zs_copy {own : String} {cc : ByteArray} {nL pc : Nat} {index : Nat} (hlink : Cond.methodLink own index arraycopyName ∈ zALL) (hnat : Cond.native arraycopyName ∈ zALL) (hstat : Cond.static arraycopyName ∈ zALL) (hini : Cond.initialized "java/lang/System" ∈ zALL) (hd : decode cc pc = .ok (.invokestatic index, 3)) : zSim own cc nL pc (zcp) := by
  intro p l e R s m args below meth c cells slots Q D loc cA A xs L0 C hR1 hR2 hRc hRs L S σ cf' h K ls H locs hl hP hS
  obtain ⟨hx, hb, hml, hown, hts, hW⟩ := C
  obtain ⟨hK, hA, hAl, hinj, ⟨hZ0, hT0, hZ1, hT1, hTX⟩, hAr⟩ := id hW
  unfold zcp at h
  dsimp only at h
  split at h
  next n dp a sp a0 S =>
    obtain ⟨h1, h2⟩ := zbif h
    split at h2
    next σ2 hv =>
      cases h2
      unfold zcpy at hv
      obtain ⟨h3, h4⟩ := zbif hv
      cases h4
      simp only [Bool.and_eq_true, zbq, zbl, decide_eq_true_eq, Bool.not_eq_true', decide_eq_false_iff_not] at h3 h1
      obtain ⟨⟨⟨k0, k1⟩, ⟨n1, n2⟩, n3⟩, r1, r2⟩ := h3
      have he0 := zws_get (loc := loc) (cA := cA) (σ := σ) (zkd_lt k0 (by omega) (by omega) (by omega))
      rw [k0, zent_I] at he0
      have he1 := zws_get (loc := loc) (cA := cA) (σ := σ) (zkd_lt k1 (by omega) (by omega) (by omega))
      rw [k1, zent_I] at he1
      have hsum : ((S.map (zvm loc)).map fun v => v.category).sum ≤ 8 := by
        have key : ∀ S : List Value, S.all zc1 = true → ((S.map (zvm loc)).map fun v => v.category).sum = S.length := by
          intro S
          induction S with
          | nil => intro _; rfl
          | cons v S ih =>
            intro h
            rw [List.all_cons, Bool.and_eq_true] at h
            have hv1 : v.category = 1 := Nat.eq_of_beq_eq_true h.1
            simp only [List.map_cons, List.sum_cons, List.length_cons]
            rw [ih h.2, zvm_cat, hv1]
            omega
        rw [key S h1.1]
        exact h1.2
      have hnf : nativeFrameWords "java/lang/System" "arraycopy" 5 = 7 := by decide +kernel
      refine va_copyi hx hb (hml.trans hl.1.1.symm) hown (hts _ hlink) (hts _ hnat) (hts _ hstat) (hts _ hini) hK hP (zD hW σ) hS a0 a 0 0 he0 he1 rfl rfl rfl n1 n2 n3 r1 r2 (fun i _ => rfl) hR1 (by rw [hnf]; omega) hd (fun H1 locs1 hP1 _ hS1 => K ls H1 locs1 hl ?_ hS1)
      rw [zws_set (σ' := sw σ a (va_cpy (σ a0) (σ a) sp.toNatClampNeg dp.toNatClampNeg n.toNatClampNeg)) (by rw [k1, zent_I, sw_at]) sw_ne] at hP1
      exact hP1
    next => cases h2
  next => cases h
theorem zsum1 {loc : Nat → Nat} {S : List Value} (h : S.all zc1 = true) : ((S.map (zvm loc)).map fun v => v.category).sum = S.length := by
  induction S with
  | nil => rfl
  | cons v S ih =>
    rw [List.all_cons, Bool.and_eq_true] at h
    have hv1 : v.category = 1 := Nat.eq_of_beq_eq_true h.1
    simp only [List.map_cons, List.sum_cons, List.length_cons]
    rw [ih h.2, zvm_cat, hv1]
    omega
theorem zs_mmax {own : String} {cc : ByteArray} {nL pc : Nat} {index : Nat} (hlink : Cond.methodLink own index Lib.Math.max.name ∈ zALL) (hstat : Cond.static Lib.Math.max.name ∈ zALL) (hini : Cond.initialized "java/lang/Math" ∈ zALL) (hcode : Cond.code Lib.Math.max.name Lib.Math.max.code 2 (some .int) ∈ zALL) (hd : decode cc pc = .ok (.invokestatic index, 3)) : zSim own cc nL pc (zmm (fun x y => if x < y then y else x)) := by
  intro p l e R s m args below meth c cells slots Q D loc cA A xs L0 C hR1 hR2 hRc hRs L S σ cf' h K ls H locs hl hP hS
  obtain ⟨hx, hb, hml, hown, hts, hW⟩ := C
  unfold zmm at h
  dsimp only at h
  split at h
  next y x S =>
    obtain ⟨h1, h2⟩ := zbif h
    cases h2
    simp only [Bool.and_eq_true, zbl, decide_eq_true_eq] at h1
    have hsum : ((S.map (zvm loc)).map fun v => v.category).sum ≤ 8 := by
      rw [zsum1 h1.1]
      exact h1.2
    exact va_mmax hx hb (hml.trans hl.1.1.symm) hown (hts _ hlink) (hts _ hstat) (hts _ hini) (hts _ hcode) hR1 (by omega) hRc hRs hd (K ls H locs hl hP hS)
  next => cases h
theorem zs_mmin {own : String} {cc : ByteArray} {nL pc : Nat} {index : Nat} (hlink : Cond.methodLink own index Lib.Math.min.name ∈ zALL) (hstat : Cond.static Lib.Math.min.name ∈ zALL) (hini : Cond.initialized "java/lang/Math" ∈ zALL) (hcode : Cond.code Lib.Math.min.name Lib.Math.min.code 2 (some .int) ∈ zALL) (hd : decode cc pc = .ok (.invokestatic index, 3)) : zSim own cc nL pc (zmm (fun x y => if y < x then y else x)) := by
  intro p l e R s m args below meth c cells slots Q D loc cA A xs L0 C hR1 hR2 hRc hRs L S σ cf' h K ls H locs hl hP hS
  obtain ⟨hx, hb, hml, hown, hts, hW⟩ := C
  unfold zmm at h
  dsimp only at h
  split at h
  next y x S =>
    obtain ⟨h1, h2⟩ := zbif h
    cases h2
    simp only [Bool.and_eq_true, zbl, decide_eq_true_eq] at h1
    have hsum : ((S.map (zvm loc)).map fun v => v.category).sum ≤ 8 := by
      rw [zsum1 h1.1]
      exact h1.2
    exact va_mmin hx hb (hml.trans hl.1.1.symm) hown (hts _ hlink) (hts _ hstat) (hts _ hini) (hts _ hcode) hR1 (by omega) hRc hRs hd (K ls H locs hl hP hS)
  next => cases h
theorem zs_slen {xs : Nat → Int32} {L0 : Nat} {own : String} {cc : ByteArray} {nL pc : Nat} (hd : decode cc pc = .ok (.arraylength, 1)) : zSimX xs L0 own cc nL pc (zsl L0) := by
  intro p l e R s m args below meth c cells slots Q D loc cA A C hR1 hR2 hRc hRs L S σ cf' h K ls H locs hl hP hS
  obtain ⟨hx, hb, hml, hown, hts, hW⟩ := C
  obtain ⟨hK, hA, hAl, hinj, ⟨hZ0, hT0, hZ1, hT1, hTX⟩, hAr⟩ := id hW
  unfold zsl at h
  dsimp only at h
  split at h
  next a S =>
    obtain ⟨h1, h2⟩ := zbif h
    cases h2
    have h3 := Nat.eq_of_beq_eq_true h1
    subst h3
    exact va_tlen hx hb hTX hS rfl hd (K ls H locs hl hP hS)
  next => cases h
theorem zs_sld {xs : Nat → Int32} {L0 : Nat} {own : String} {cc : ByteArray} {nL pc : Nat} (hd : decode cc pc = .ok (.iaload, 1)) : zSimX xs L0 own cc nL pc (zsd xs L0) := by
  intro p l e R s m args below meth c cells slots Q D loc cA A C hR1 hR2 hRc hRs L S σ cf' h K ls H locs hl hP hS
  obtain ⟨hx, hb, hml, hown, hts, hW⟩ := C
  obtain ⟨hK, hA, hAl, hinj, ⟨hZ0, hT0, hZ1, hT1, hTX⟩, hAr⟩ := id hW
  unfold zsd at h
  dsimp only at h
  split at h
  next i a S =>
    split at h
    next v hv =>
      cases h
      unfold zsdq at hv
      obtain ⟨h1, h2⟩ := zbin_ hv
      cases h2
      rw [Bool.or_eq_false_iff, Bool.not_eq_false'] at h1
      have h3 := Nat.eq_of_beq_eq_true h1.2
      subst h3
      exact va_ti hx hb hTX hS (zob_in h1.1) rfl hd (K ls H locs hl hP hS)
    next => cases h
  next => cases h

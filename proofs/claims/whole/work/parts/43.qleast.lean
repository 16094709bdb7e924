/-! PURE: least, many, spread, lineSpread -/
section QL
variable {nb : Nat → Nat} {al r k : Nat}
theorem TT_tok : tok (TT nb al r k) := fun x => TT_cases x
theorem TT_out {x : Nat} (h : al < x) : TT nb al r k x = mI := by
  unfold TT
  rw [if_neg]
  intro q
  have := sub_le (sd_zero.mp q)
  omega
theorem TT_al : fo (TT nb al r k) (pc al) al := by
  refine ⟨?_, rfl⟩
  rw [TT_in (fun _ h => h), show tim nb al r k al = nI 0 from if_pos rfl]
  decide
/-- the least forcing size -/
def lmin (nb : Nat → Nat) (al r k : Nat) : Nat := lsz (TT nb al r k) (al + 1)
theorem lmin_9 : lmin nb al r k ≤ 9 := lsz_9 _
theorem lmin_at : ∃ f, f ≤ al ∧ fo (TT nb al r k) (lmin nb al r k) f ∧ ∀ y, y < f → ¬ fo (TT nb al r k) (lmin nb al r k) y := by
  have h : ∃ x, fo (TT nb al r k) (lmin nb al r k) x := by
    rcases lsz_at (t := TT nb al r k) (al + 1) with h | ⟨x, _, h⟩
    · refine ⟨al, TT_al.1, ?_⟩
      have h1 := lsz_le (t := TT nb al r k) TT_al.1 (al + 1) (Nat.lt_succ_self _)
      have := pc_le al
      unfold lmin
      omega
    · exact ⟨x, h⟩
  obtain ⟨f, h1, h2⟩ := pk_least _ h
  refine ⟨f, ?_, h1, h2⟩
  refine Nat.not_lt.mp fun q => h1.1 (TT_out q)
theorem mlst_ok {σ : zSt} (M : Ms σ nb al r k) (G : Gr nb al) (hr : r ≤ 4) (hk : k < 100) : ∃ h f, M_least σ = some (sw σ 75 h) ∧ Ws σ h ∧ h 16 = nI (lmin nb al r k) ∧ h 17 = nI f ∧ (f ≤ al ∧ fo (TT nb al r k) (lmin nb al r k) f ∧ ∀ y, y < f → ¬ fo (TT nb al r k) (lmin nb al r k) y) ∧ h 18 = nI (cnt (TT nb al r k) (lmin nb al r k) (al + 1)) ∧ h 19 = nI (tmn (TT nb al r k) (lmin nb al r k) (al + 1)) := by
  have hal := G.1
  have W0 : Ws σ (upd (σ 75) 16 (nI 10)) := Ws_upd (fun _ _ => rfl) (by omega) (by omega)
  obtain ⟨h2, e, W, P⟩ := ml_loop M G hr hk 512 zF 0 (upd (σ 75) 16 (nI 10)) rfl (zF_big (by decide)) W0 (Or.inl ⟨pk_us, fun y hy => absurd hy (Nat.not_lt_zero _)⟩)
  have e0 : M_least σ = some (sw σ 75 h2) := by
    unfold M_least
    rw [su_sw0, zlet_ap]
    exact e
  have out : ∀ x, al + 1 ≤ x → TT nb al r k x = mI := fun x hx => TT_out (by omega)
  rcases P with ⟨_, g⟩ | ⟨L, f, g1, g2, g3, g4, g5, g6, g7, g8, g9⟩
  · exact absurd (g al hal) TT_al.1
  · have hf : f ≤ al := Nat.not_lt.mp fun q => g4.1 (TT_out q)
    have hL : lmin nb al r k = L := lsz_is (x := f) (by omega) g4 (fun y hy hy2 => g6 y (by omega) hy2)
    have c1 := cnt_out (L := L) out (512 - (al + 1))
    have c2 := tmn_out (L := L) out (512 - (al + 1))
    rw [show al + 1 + (512 - (al + 1)) = 512 by omega] at c1 c2
    rw [c1] at g8
    rw [c2] at g9
    rw [hL]
    exact ⟨h2, f, e0, W, g1, g3, ⟨hf, g4, g7⟩, g8, g9⟩
/-- the class with its table of times -/
def Lt (σ σ2 : zSt) (nb : Nat → Nat) (al r k : Nat) : Prop := Sm per σ σ2 ∧ σ2 43 0 = nI al ∧ ∀ x, x ≤ al → σ2 46 x = TT nb al r k x
theorem flt_of {σ σ2 : zSt} (L : Ld σ σ2 nb al r k) (G : Gr nb al) (hr : r ≤ 4) (hk : k < 100) : ∃ σ3, Fcg_fillTimes σ2 = some σ3 ∧ Lt σ σ3 nb al r k := by
  obtain ⟨g, e, h⟩ := fft_ok L.2 G hr hk
  refine ⟨_, e, Sm_tr L.1 (Sm_sw (fun _ => rfl)), ?_, fun x hx => ?_⟩
  · rw [sw_ap, if_neg (by decide)]; exact L.2.1
  · rw [sw_ap, if_pos rfl]; exact h x hx
theorem mln_ok {σ : zSt} (M : Ms σ nb al r k) (G : Gr nb al) (hr : r ≤ 4) (hk : k < 100) : ∃ h, M_leastNow σ = some (nI (lmin nb al r k), sw σ 75 h) ∧ Ws σ h := by
  obtain ⟨h, f, e, W, h16, _⟩ := mlst_ok M G hr hk
  refine ⟨h, ?_, W⟩
  unfold M_leastNow
  rw [e, ob_some, r75, h16]
end QL
/-- the least size of the graph as it is, without p, with i j turned -/
def lm0 (D : yD) : Nat := lmin (nbm (dT D)) (alm (dn D)) (dr D) (dk D)
def lmd (D : yD) (p : Nat) : Nat := lmin (nbd (nbm (dT D)) p) (sd (alm (dn D)) (2 ^ p)) (dr D) (dk D)
def lmt (D : yD) (i j : Nat) : Nat := lmin (nbt (nbm (dT D)) i j) (alm (dn D)) (dr D) (dk D)
theorem xl_all {σ : zSt} {D : yD} (I : In D σ) : ∃ σ2, X_leastOfAll σ = some (nI (lm0 D), σ2) ∧ Sm per σ σ2 := by
  have V := I.1
  obtain ⟨σ2, e, L⟩ := ftk_ok I
  obtain ⟨σ3, e3, T⟩ := flt_of L (nbm_Gr V) V.2.1.1 (dk_lt V)
  refine ⟨σ3, ?_, T.1⟩
  unfold X_leastOfAll
  rw [e, ob_some, e3, ob_some, fls_ok T.2.1 (alm_lt V.1.2) T.2.2 TT_tok, ob_some]
  rfl
theorem xl_flip {σ : zSt} {D : yD} {i j : Nat} (I : In D σ) (hi : i < dn D) (hj : j < dn D) (hij : i ≠ j) : ∃ σ2, X_leastWithFlipped (nI i) (nI j) σ = some (nI (lmt D i j), σ2) ∧ Sm per σ σ2 := by
  have V := I.1
  obtain ⟨σ2, e, L⟩ := ftf_ok I hi hj hij
  obtain ⟨σ3, e3, T⟩ := flt_of L (nbt_Gr V.1.2 (nbm_Gr V) hi hj) V.2.1.1 (dk_lt V)
  refine ⟨σ3, ?_, T.1⟩
  unfold X_leastWithFlipped
  rw [e, ob_some, e3, ob_some, fls_ok T.2.1 (alm_lt V.1.2) T.2.2 TT_tok, ob_some]
  rfl
theorem ml_all {σ : zSt} {D : yD} (I : In D σ) : ∃ σ2 σ3, M_takes σ = some σ2 ∧ M_leastNow σ2 = some (nI (lm0 D), σ3) ∧ Sm per σ σ3 ∧ σ3 75 14 = nI (alm (dn D)) ∧ ∀ i, i < 9 → σ3 83 i = nI (nbm (dT D) i) := by
  have V := I.1
  obtain ⟨g, e, L⟩ := mtk_ok I
  have M := Mst_Ms (al := alm (dn D)) I L
  obtain ⟨h, e2, W⟩ := mln_ok M (nbm_Gr V) V.2.1.1 (dk_lt V)
  have M2 := Ws_Ms W M
  exact ⟨_, _, e, e2, Sm_tr Mst_per (Ws_per W), M2.1, M2.2.1⟩
theorem ml_turn {σ : zSt} {D : yD} {i j : Nat} (I : In D σ) (hi : i < dn D) (hj : j < dn D) (hij : i ≠ j) : ∃ σ2, M_turned (nI i) (nI j) σ = some (nI (lmt D i j), σ2) ∧ Sm per σ σ2 := by
  have V := I.1
  have hn := V.1.2
  obtain ⟨g, e, L⟩ := mtk_ok I
  obtain ⟨g2, e2, L2⟩ := mtu_ok (σ := σ) (al := alm (dn D)) (by omega : i < 9) (by omega : j < 9) hij L
  obtain ⟨h, e3, W⟩ := mln_ok (Mst_Ms (al := alm (dn D)) I L2) (nbt_Gr V.1.2 (nbm_Gr V) hi hj) V.2.1.1 (dk_lt V)
  refine ⟨_, ?_, Sm_tr Mst_per (Ws_per W)⟩
  unfold M_turned
  rw [e, ob_some, e2, ob_some, e3, zb2_sm]
  rfl
theorem Mst_self {σ : zSt} {al : Nat} (h : σ 75 14 = nI al) : Mst σ al (σ 83) = σ := by
  have e : su σ 75 14 (nI al) = σ := by
    funext b j
    rw [su_ap]
    by_cases q : b = 75 ∧ j = 14
    · rw [if_pos q, q.1, q.2, h]
    · rw [if_neg q]
  unfold Mst
  rw [e, sw_self]
theorem ml_drop {σ : zSt} {D : yD} {p : Nat} (I : In D σ) (hp : p < dn D) (h14 : σ 75 14 = nI (alm (dn D))) (h83 : ∀ i, i < 9 → σ 83 i = nI (nbm (dT D) i)) : ∃ σ2 σ3, M_drops (nI p) σ = some σ2 ∧ M_leastNow σ2 = some (nI (lmd D p), σ3) ∧ Sm per σ σ3 := by
  have V := I.1
  have hn := V.1.2
  obtain ⟨g, e, L⟩ := mdr_ok (σ := σ) (alm_lt hn) (by omega : p < 9) h83
  rw [Mst_self h14] at e
  obtain ⟨h, e3, W⟩ := mln_ok (Mst_Ms (al := sd (alm (dn D)) (2 ^ p)) I L) (nbd_Gr (nbm_Gr V)) V.2.1.1 (dk_lt V)
  exact ⟨_, _, e, e3, Sm_tr Mst_per (Ws_per W)⟩
theorem q_spread (x : Int32) : Qs (X_spread x) (M_spread x) := by
  intro D V
  rcases pt_cases D V x with h | ⟨p, rfl, hp, h⟩
  · refine ⟨-2147483648, As_of fun σ I => ?_, As_of fun σ I => ?_⟩
    · unfold X_spread
      rw [(h σ I).1, ob_some, if_neg (fun q => q rfl)]
    · unfold M_spread
      rw [(h σ I).2, ob_some, if_neg (fun q => q rfl)]
  · refine ⟨nI (lm0 D) - nI (lmd D p), fun σ I => ?_, fun σ I => ?_⟩
    · obtain ⟨σ2, e2, S2⟩ := xl_all I
      obtain ⟨σ3, e3, L⟩ := ftw_ok (In_sm S2 I) hp
      obtain ⟨σ4, e4, T⟩ := flt_of L (nbd_Gr (nbm_Gr V)) V.2.1.1 (dk_lt V)
      refine ⟨σ4, ?_, Sm_tr S2 T.1⟩
      unfold X_spread
      rw [(h σ I).1, ob_some, if_pos i10, e2, zb2_sm, e3, ob_some, e4, ob_some, fls_ok T.2.1 (sd512 (alm_lt V.1.2)) T.2.2 TT_tok, ob_some]
      rfl
    · obtain ⟨σ2, σ3, e2, e3, S3, h14, h83⟩ := ml_all I
      obtain ⟨σ4, σ5, e4, e5, S5⟩ := ml_drop (In_sm S3 I) hp h14 h83
      refine ⟨σ5, ?_, Sm_tr S3 S5⟩
      unfold M_spread
      rw [(h σ I).2, ob_some, if_pos i10, e2, ob_some, e3, zb2_sm, e4, ob_some, e5, zb2_sm]
theorem two_cases (D : yD) (V : Vd D) (x y : Int32) : (∀ σ, In D σ → X_areTwo x y σ = some 0 ∧ M_areTwo x y σ = some 0) ∨ ∃ i j, x = nI i ∧ y = nI j ∧ i < dn D ∧ j < dn D ∧ i ≠ j ∧ ∀ σ, In D σ → X_areTwo x y σ = some 1 ∧ M_areTwo x y σ = some 1 := by
  have hn := V.1.2
  unfold X_areTwo M_areTwo
  rcases pt_cases D V x with h | ⟨i, rfl, hi, h⟩
  · refine Or.inl fun σ I => ⟨?_, ?_⟩
    · rw [(h σ I).1, ob_some, if_pos rfl]
    · rw [(h σ I).2, ob_some, if_pos rfl]
  rcases pt_cases D V y with h2 | ⟨j, rfl, hj, h2⟩
  · refine Or.inl fun σ I => ⟨?_, ?_⟩
    · rw [(h σ I).1, ob_some, if_neg i10, (h2 σ I).1, ob_some, if_pos rfl]
    · rw [(h σ I).2, ob_some, if_neg i10, (h2 σ I).2, ob_some, if_pos rfl]
  by_cases e : i = j
  · refine Or.inl fun σ I => ⟨?_, ?_⟩
    · rw [(h σ I).1, ob_some, if_neg i10, (h2 σ I).1, ob_some, if_neg i10, if_pos (by rw [e])]
    · rw [(h σ I).2, ob_some, if_neg i10, (h2 σ I).2, ob_some, if_neg i10, if_pos (by rw [e])]
  · have e2 : ¬ nI i = nI j := fun q => e ((nI_inj (by omega) (by omega)).mp q)
    refine Or.inr ⟨i, j, rfl, rfl, hi, hj, e, fun σ I => ⟨?_, ?_⟩⟩
    · rw [(h σ I).1, ob_some, if_neg i10, (h2 σ I).1, ob_some, if_neg i10, if_neg e2]
    · rw [(h σ I).2, ob_some, if_neg i10, (h2 σ I).2, ob_some, if_neg i10, if_neg e2]
theorem q_lineSpread (x y : Int32) : Qs (X_lineSpread x y) (M_lineSpread x y) := by
  intro D V
  rcases two_cases D V x y with h | ⟨i, j, rfl, rfl, hi, hj, hij, h⟩
  · refine ⟨-2147483648, As_of fun σ I => ?_, As_of fun σ I => ?_⟩
    · unfold X_lineSpread
      rw [(h σ I).1, ob_some, if_neg (fun q => q rfl)]
    · unfold M_lineSpread
      rw [(h σ I).2, ob_some, if_neg (fun q => q rfl)]
  · refine ⟨nI (lm0 D) - nI (lmt D i j), fun σ I => ?_, fun σ I => ?_⟩
    · obtain ⟨σ2, e2, S2⟩ := xl_all I
      obtain ⟨σ3, e3, S3⟩ := xl_flip (In_sm S2 I) hi hj hij
      refine ⟨σ3, ?_, Sm_tr S2 S3⟩
      unfold X_lineSpread
      rw [(h σ I).1, ob_some, if_pos i10, e2, zb2_sm, e3, zb2_sm]
    · obtain ⟨σ2, σ3, e2, e3, S3, _⟩ := ml_all I
      obtain ⟨σ4, e4, S4⟩ := ml_turn (In_sm S3 I) hi hj hij
      refine ⟨σ4, ?_, Sm_tr S3 S4⟩
      unfold M_lineSpread
      rw [(h σ I).2, ob_some, if_pos i10, e2, ob_some, e3, zb2_sm, e4, zb2_sm]

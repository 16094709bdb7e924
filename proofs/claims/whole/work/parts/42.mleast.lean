/-! PURE: the reference's least -/
def Ws (σ : zSt) (h : Nat → Int32) : Prop := ∀ i, (i < 15 ∨ 19 < i) → h i = σ 75 i
theorem Ws_upd {σ : zSt} {h : Nat → Int32} {i : Nat} {v : Int32} (W : Ws σ h) (h1 : 15 ≤ i) (h2 : i ≤ 19) : Ws σ (upd h i v) := fun j hj => by
  rw [pk_un (by omega)]
  exact W j hj
theorem Ws_per {σ : zSt} {h : Nat → Int32} (W : Ws σ h) : Sm per σ (sw σ 75 h) := fun a i q => by
  rw [sw_ap]
  by_cases e : a = 75
  · subst e
    rw [if_pos rfl]
    refine W i ?_
    refine Classical.byContradiction fun w => ?_
    have hi : i = 15 ∨ i = 16 ∨ i = 17 ∨ i = 18 ∨ i = 19 := by omega
    have : per 75 i = false := by rcases hi with rfl | rfl | rfl | rfl | rfl <;> rfl
    rw [this] at q
    cases q
  · rw [if_neg e]
theorem Ws_Ms {σ : zSt} {h : Nat → Int32} {nb : Nat → Nat} {al r k : Nat} (W : Ws σ h) (M : Ms σ nb al r k) : Ms (sw σ 75 h) nb al r k := by
  obtain ⟨h1, h2, h3, h4⟩ := M
  refine ⟨?_, fun i hi => ?_, ?_, ?_⟩
  · rw [sw_ap, if_pos rfl, W 14 (by omega)]; exact h1
  · rw [sw_ap, if_neg (by decide)]; exact h2 i hi
  · rw [sw_ap, if_pos rfl, W 4 (by omega)]; exact h3
  · rw [sw_ap, if_pos rfl, W 5 (by omega)]; exact h4
theorem r75 {σ : zSt} {h : Nat → Int32} {i : Nat} : sw σ 75 h 75 i = h i := by rw [sw_ap, if_pos rfl]
def Pl (t : Nat → Int32) (x : Nat) (h : Nat → Int32) : Prop := (h 16 = nI 10 ∧ ∀ y, y < x → t y = mI) ∨ ∃ L f, h 16 = nI L ∧ L ≤ 9 ∧ h 17 = nI f ∧ fo t L f ∧ f < x ∧ (∀ y, y < x → ¬ t y = mI → L ≤ pc y) ∧ (∀ y, y < f → ¬ fo t L y) ∧ h 18 = nI (cnt t L x) ∧ h 19 = nI (tmn t L x)
theorem Pl_skip {t : Nat → Int32} {x : Nat} {h : Nat → Int32} (P : Pl t x h) (hs : t x = mI ∨ ∃ L, h 16 = nI L ∧ L < pc x) : Pl t (x + 1) h := by
  rcases P with ⟨h1, h2⟩ | ⟨L, f, h1, h2, h3, h4, h5, h6, h7, h8, h9⟩
  · refine Or.inl ⟨h1, fun y hy => ?_⟩
    by_cases e : y = x
    · subst e
      rcases hs with hs | ⟨L, g1, g2⟩
      · exact hs
      · have := pc_le y
        rw [h1] at g1
        have := (nI_inj (by omega) (by omega)).mp g1
        omega
    · exact h2 y (by omega)
  · have hne : ¬ (¬ t x = mI ∧ pc x = L) := by
      rintro ⟨g1, g2⟩
      rcases hs with hs | ⟨L2, g3, g4⟩
      · exact g1 hs
      · have := pc_le x
        rw [h1] at g3
        have := (nI_inj (by omega) (by omega)).mp g3
        omega
    refine Or.inr ⟨L, f, h1, h2, h3, h4, by omega, fun y hy hy2 => ?_, h7, ?_, ?_⟩
    · by_cases e : y = x
      · subst e
        rcases hs with hs | ⟨L2, g3, g4⟩
        · exact absurd hs hy2
        · have := pc_le y
          rw [h1] at g3
          have := (nI_inj (by omega) (by omega)).mp g3
          omega
      · exact h6 y (by omega) hy2
    · rw [h8, cnt, if_neg hne]
    · rw [h9, tmn, if_neg hne]
theorem Pl_15 {t : Nat → Int32} {x : Nat} {h : Nat → Int32} {v : Int32} (P : Pl t x h) : Pl t x (upd h 15 v) := by
  unfold Pl
  rw [pk_un (by decide), pk_un (by decide), pk_un (by decide), pk_un (by decide)]
  exact P
section ML
variable {σ : zSt} {nb : Nat → Nat} {al r k : Nat}
theorem ml_loop (M : Ms σ nb al r k) (G : Gr nb al) (hr : r ≤ 4) (hk : k < 100) : ∀ (d n x : Nat) (h : Nat → Int32), x + d = 512 → d < n → Ws σ h → Pl (TT nb al r k) x h → ∃ h2, M_least_c8 n (nI x) (sw σ 75 h) = some (sw σ 75 h2) ∧ Ws σ h2 ∧ Pl (TT nb al r k) 512 h2
  | d, 0, x, h, _, hn, _, _ => absurd hn (Nat.not_lt_zero _)
  | 0, n + 1, x, h, hx, _, W, P => by
    obtain rfl : x = 512 := by omega
    exact ⟨h, rfl, W, P⟩
  | d + 1, n + 1, x, h, hx, hn, W, P => by
    have hal := G.1
    have hp := pc_le x
    have hx5 : x < 512 := by omega
    have go : ∀ h2, Ws σ h2 → Pl (TT nb al r k) (x + 1) h2 → ∃ h3, M_least_c8 n (nI x + 1) (sw σ 75 h2) = some (sw σ 75 h3) ∧ Ws σ h3 ∧ Pl (TT nb al r k) 512 h3 := fun h2 W2 P2 => by
      rw [nI_1]
      exact ml_loop M G hr hk d n (x + 1) h2 (by omega) (by omega) W2 P2
    have e14 : sw σ 75 h 75 14 = nI al := (Ws_Ms W M).1
    rw [M_least_c8, if_neg (show ¬ (512 : Int32) ≤ nI x from nI_ge (b := 512) (by omega) (by decide)), e14, pb_sd]
    by_cases hw : sd x al = 0
    · rw [if_neg (fun q => q (by rw [hw]; rfl)), mbits_ok hx5, ob_some, r75]
      have hsub := sd_zero.mp hw
      have et : TT nb al r k x = tim nb al r k x := TT_in hsub
      have hL : ∃ L, h 16 = nI L ∧ L ≤ 10 := by
        rcases P with ⟨h1, _⟩ | ⟨L, f, h1, h2, _⟩
        · exact ⟨10, h1, by omega⟩
        · exact ⟨L, h1, by omega⟩
      obtain ⟨L, eL, hL⟩ := hL
      rw [eL]
      by_cases h1 : L < pc x
      · rw [if_pos (nI_lt h1 (by omega))]
        exact go h W (Pl_skip P (Or.inr ⟨L, eL, h1⟩))
      · rw [if_neg (nI_nlt (by omega) (by omega)), misf_ok (Ws_Ms W M) G hr hk hsub, zb2_sm, su_sw]
        have W1 := Ws_upd (v := tim nb al r k x) W (i := 15) (by omega) (by omega)
        by_cases h2 : tim nb al r k x = mI
        · rw [if_pos h2, if_neg (show ¬ ¬ (0 : Int32) = 0 from fun q => q rfl)]
          exact go _ W1 (Pl_skip (Pl_15 P) (Or.inl (et.trans h2)))
        · rw [if_neg h2, if_pos i10, mbits_ok hx5, ob_some, r75, pk_un (by decide), eL]
          obtain ⟨q, hq, eq⟩ : ∃ q, q ≤ 9 ∧ tim nb al r k x = nI q := by
            rcases tim_cases (nb := nb) (al := al) (r := r) (k := k) x with w | w
            · exact absurd w h2
            · exact w
          have hne : ¬ TT nb al r k x = mI := et ▸ h2
          have eq2 : (TT nb al r k x).toNatClampNeg = q := by rw [et, eq, nI_clamp (by omega)]
          have c85 : ∀ (h2 : Nat → Int32) (L2 c m : Nat), L2 ≤ 9 → c < 600 → m ≤ 9 → Ws σ h2 → h2 18 = nI c → h2 19 = nI m → h2 15 = nI q → (∀ h3, h3 16 = h2 16 → h3 17 = h2 17 → h3 18 = nI (c + 1) → h3 19 = nI (min q m) → Pl (TT nb al r k) (x + 1) h3) → ∃ h3, M_least_c85 (M_least_c8 n) (nI x) (sw σ 75 h2) = some (sw σ 75 h3) ∧ Ws σ h3 ∧ Pl (TT nb al r k) 512 h3 := by
            intro h2 L2 c m _ hc hm W2 e18 e19 e15 hP
            unfold M_least_c85 M_least_c118
            rw [r75, e18, nI_1, su_sw, zlet_ap, r75, r75, pk_un (by decide), pk_un (by decide), e19, e15]
            have W3 := Ws_upd (v := nI (c + 1)) W2 (i := 18) (by omega) (by omega)
            by_cases h4 : m ≤ q
            · rw [if_pos (nI_le h4 (by omega)), su_sw, zlet_ap]
              refine go _ (Ws_upd W3 (by omega) (by omega)) (hP _ ?_ ?_ ?_ ?_)
              · rw [pk_un (by decide), pk_un (by decide)]
              · rw [pk_un (by decide), pk_un (by decide)]
              · rw [pk_un (by decide), pk_us]
              · rw [pk_us, Nat.min_eq_right h4]
            · rw [if_neg (nI_ge (by omega) (by omega)), su_sw, zlet_ap]
              refine go _ (Ws_upd W3 (by omega) (by omega)) (hP _ ?_ ?_ ?_ ?_)
              · rw [pk_un (by decide), pk_un (by decide)]
              · rw [pk_un (by decide), pk_un (by decide)]
              · rw [pk_un (by decide), pk_us]
              · rw [pk_us, Nat.min_eq_left (by omega)]
          by_cases h3 : L ≤ pc x
          · rw [if_pos (nI_le h3 (by omega))]
            have eLx : pc x = L := by omega
            rcases P with ⟨g1, _⟩ | ⟨L2, f, g1, g2, g3, g4, g5, g6, g7, g8, g9⟩
            · rw [eL] at g1
              have := (nI_inj (by omega) (by omega)).mp g1
              omega
            · have e2 := (nI_inj (a := L) (b := L2) (by omega) (by omega)).mp (eL.symm.trans g1)
              subst e2
              have hc := cnt_le (t := TT nb al r k) (L := L) x
              refine c85 _ L (cnt (TT nb al r k) L x) (tmn (TT nb al r k) L x) g2 (by omega) (tmn_le _) W1 (by rw [pk_un (by decide)]; exact g8) (by rw [pk_un (by decide)]; exact g9) (by rw [pk_us]; exact eq) (fun h3 e16 e17 e18 e19 => ?_)
              rw [pk_un (by decide)] at e16 e17
              refine Or.inr ⟨L, f, e16.trans g1, g2, e17.trans g3, g4, by omega, fun y hy hy2 => ?_, g7, ?_, ?_⟩
              · by_cases e : y = x
                · subst e; omega
                · exact g6 y (by omega) hy2
              · rw [e18, cnt, if_pos ⟨hne, eLx⟩]
              · rw [e19, tmn, if_pos ⟨hne, eLx⟩, eq2]
          · rw [if_neg (nI_ge (by omega) (by omega)), ob_some, su_sw, zlet_ap, su_sw, zlet_ap, show (0 : Int32) = nI 0 from rfl, su_sw, zlet_ap, r75, su_sw, zlet_ap]
            rw [show upd (upd (upd (upd h 15 (tim nb al r k x)) 16 (nI (pc x))) 17 (nI x)) 18 (nI 0) 15 = tim nb al r k x by rw [pk_un (by decide), pk_un (by decide), pk_un (by decide), pk_us]]
            have W2 := Ws_upd (v := tim nb al r k x) (Ws_upd (v := nI 0) (Ws_upd (v := nI x) (Ws_upd (v := nI (pc x)) W1 (i := 16) (by omega) (by omega)) (i := 17) (by omega) (by omega)) (i := 18) (by omega) (by omega)) (i := 19) (by omega) (by omega)
            have hno : ∀ y, y < x → ¬ fo (TT nb al r k) (pc x) y := fun y hy w => by
              rcases P with ⟨_, g2⟩ | ⟨L2, f, g1, g2, g3, g4, g5, g6, g7, g8, g9⟩
              · exact w.1 (g2 y hy)
              · have e2 := (nI_inj (a := L) (b := L2) (by omega) (by omega)).mp (eL.symm.trans g1)
                have := g6 y hy w.1
                have := w.2
                omega
            obtain ⟨c0, t9⟩ := cnt_0 (t := TT nb al r k) (L := pc x) x hno
            refine c85 _ (pc x) 0 q hp (by omega) hq W2 (by rw [pk_un (by decide), pk_us]) (by rw [pk_us]; exact eq) (by rw [pk_un (by decide), pk_un (by decide), pk_un (by decide), pk_un (by decide), pk_us]; exact eq) (fun h3 e16 e17 e18 e19 => ?_)
            rw [pk_un (by decide), pk_un (by decide), pk_un (by decide), pk_us] at e16
            rw [pk_un (by decide), pk_un (by decide), pk_us] at e17
            refine Or.inr ⟨pc x, x, e16, hp, e17, ⟨hne, rfl⟩, by omega, fun y hy hy2 => ?_, hno, ?_, ?_⟩
            · by_cases e : y = x
              · rw [e]; exact Nat.le_refl _
              · rcases P with ⟨_, g2⟩ | ⟨L2, f, g1, g2, g3, g4, g5, g6, g7, g8, g9⟩
                · exact absurd (g2 y (by omega)) hy2
                · have e2 := (nI_inj (a := L) (b := L2) (by omega) (by omega)).mp (eL.symm.trans g1)
                  have := g6 y (by omega) hy2
                  omega
            · rw [e18, cnt, if_pos ⟨hne, rfl⟩, c0]
            · rw [e19, tmn, if_pos ⟨hne, rfl⟩, t9, eq2, Nat.min_self, Nat.min_eq_left hq]
    · have hw2 := sd512 (b := al) hx5
      rw [if_pos (show ¬ nI (sd x al) = 0 from fun q => hw ((nI_inj (b := 0) (by omega) (by omega)).mp q))]
      exact go h W (Pl_skip P (Or.inl (if_neg hw)))
end ML

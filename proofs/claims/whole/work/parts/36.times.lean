/-! PURE: the class's table of times -/
theorem sw_ap (σ : zSt) (a : Nat) (f : Nat → Int32) (b j : Nat) : sw σ a f b j = if b = a then f j else σ b j := by
  unfold sw
  rw [zbq]
  by_cases h : b = a <;> simp [h]
theorem su_sw (σ : zSt) (a i : Nat) (f : Nat → Int32) (v : Int32) : su (sw σ a f) a i v = sw σ a (upd f i v) := by
  funext b j
  rw [su_ap, sw_ap, sw_ap]
  by_cases h : b = a
  · by_cases h2 : j = i <;> simp [h, h2, upd]
  · simp [h]
theorem sw_self (σ : zSt) (a : Nat) : sw σ a (σ a) = σ := by
  funext b j
  rw [sw_ap]
  by_cases h : b = a
  · rw [if_pos h, h]
  · rw [if_neg h]
theorem sd_zero {s al : Nat} : sd s al = 0 ↔ sub s al := by
  constructor
  · intro h i hi
    refine Classical.byContradiction fun q => ?_
    have := sd_bit'.mpr ⟨hi, q⟩
    rw [h, Nat.zero_testBit] at this
    cases this
  · intro h
    refine Nat.eq_of_testBit_eq fun i => ?_
    rw [Nat.zero_testBit, sd_bit]
    cases e : s.testBit i
    · rfl
    · rw [h i e]; rfl
def rz (r : Nat) : Nat := if r = 3 then 0 else r
theorem rz_le {r : Nat} (h : r ≤ 4) : rz r ≤ 4 := by
  unfold rz
  split <;> omega
theorem xnx_rz {nb : Nat → Nat} {al r k s : Nat} (b : Bool) : xnx nb al (rz r) k s b = xnx nb al r k s false := by
  unfold rz
  by_cases h : r = 3
  · rw [if_pos h, h]; rfl
  · rw [if_neg h]
    unfold xnx
    simp only [h, ↓reduceIte, not_true_eq_false, not_false_eq_true, and_true, true_and, and_false, false_and, and_self, Bool.not_eq_true, Nat.or_zero, reduceCtorEq, eq_self, Bool.false_eq_true, Bool.true_eq_false, Bool.toNat_true, Bool.toNat_false, Nat.reduceEqDiff, Nat.reduceLeDiff, Nat.reduceLT]
theorem rz_rz (r : Nat) : rz (rz r) = rz r := by
  unfold rz
  by_cases h : r = 3
  · rw [if_pos h]; rfl
  · rw [if_neg h, if_neg h]
def tsu (v : Int32) : Int32 := if v = mI then mI else v + 1
section TM
variable {nb : Nat → Nat} {al r k s : Nat}
theorem rsq_sh (i : Nat) : rsq nb al r k s (i + 1) = rsq nb al (rz r) k (xnx nb al r k s true) i := by
  induction i with
  | zero => rfl
  | succ i ih =>
    show xnx nb al r k (rsq nb al r k s (i + 1)) (decide (i + 1 = 0)) = xnx nb al (rz r) k (rsq nb al (rz r) k (xnx nb al r k s true) i) (decide (i = 0))
    rw [ih, xnx_rz]
    rfl
theorem tms_sh : ∀ d i, i + d < 100 → tms nb al r k s d (i + 1) = tsu (tms nb al (rz r) k (xnx nb al r k s true) d i)
  | 0, i, hi => by
    rw [tms, tms, rsq_sh]
    by_cases h : rsq nb al (rz r) k (xnx nb al r k s true) i = al
    · rw [if_pos h, if_pos h, tsu, if_neg, nI_1]
      intro q
      exact mI_neg (q ▸ nI_pos' (by omega))
    · rw [if_neg h, if_neg h]
      rfl
  | d + 1, i, hi => by
    rw [tms, tms, rsq_sh]
    by_cases h : rsq nb al (rz r) k (xnx nb al r k s true) i = al
    · rw [if_pos h, if_pos h, tsu, if_neg, nI_1]
      intro q
      exact mI_neg (q ▸ nI_pos' (by omega))
    · rw [if_neg h, if_neg h]
      exact tms_sh d (i + 1) (by omega)
theorem tim_rec (G : Gr nb al) (hs : sub s al) : tim nb al r k s = if xnx nb al r k s true = s then (if s = al then nI 0 else mI) else tsu (tim nb al (rz r) k (xnx nb al r k s true)) := by
  by_cases h : xnx nb al r k s true = s
  · rw [if_pos h]
    have e : ∀ j, rsq nb al r k s (0 + j) = s := fun j => (rsq_fix (i := 0) (r := r) (k := k) (s := s) G h j).2
    by_cases h2 : s = al
    · rw [if_pos h2]
      exact if_pos h2
    · rw [if_neg h2]
      exact tms_none (fun j => by have := e j; rw [Nat.zero_add] at this; rw [this]; exact h2) 9 0
  · rw [if_neg h]
    have h2 : ¬ s = al := fun q => h (bits_ext fun j => ⟨fun g => by rw [q] at g ⊢; exact xnx_in G (fun _ x => x) j g, fun g => xnx_up G j g⟩)
    have e1 : tim nb al r k s = tms nb al r k s 8 (0 + 1) := if_neg h2
    rw [e1, tms_sh 8 0 (by omega)]
    congr 1
    unfold tim
    rw [tms_snoc 8 0 (by omega)]
    have e9 : rsq nb al (rz r) k (xnx nb al r k s true) 9 = rsq nb al (rz r) k (xnx nb al r k s true) 8 := by
      rw [← rsq_sh, ← rsq_sh]
      exact rsq_ge9 G hs (by omega)
    rcases tms_cases (nb := nb) (al := al) (r := rz r) (k := k) (s := xnx nb al r k s true) 8 0 with ⟨g1, g2⟩ | ⟨x, _, _, g3, _⟩
    · rw [g1, if_neg mI_neg, if_neg]
      rw [show 0 + 8 + 1 = 9 from rfl, e9]
      exact g2 8 (by omega) (by omega)
    · rw [g3, if_pos]
      exact nI_pos' (by omega)
theorem tim_cases (x : Nat) : tim nb al r k x = mI ∨ ∃ t, t ≤ 9 ∧ tim nb al r k x = nI t := by
  rcases tms_cases (nb := nb) (al := al) (r := r) (k := k) (s := x) 9 0 with ⟨h, _⟩ | ⟨t, _, h2, h3, _⟩
  · exact Or.inl h
  · exact Or.inr ⟨t, by omega, h3⟩
end TM
def TT (nb : Nat → Nat) (al r k x : Nat) : Int32 := if sd x al = 0 then tim nb al r k x else mI
theorem Fs_sw {σ : zSt} {nb : Nat → Nat} {al r k : Nat} (F : Fs σ nb al r k) (g : Nat → Int32) : Fs (sw σ 46 g) nb al r k := by
  obtain ⟨h0, h1, h2, h44, h45⟩ := F
  refine ⟨?_, ?_, ?_, fun i hi => ?_, fun x hx => ?_⟩ <;> rw [sw_ap, if_neg (by decide)]
  · exact h0
  · exact h1
  · exact h2
  · exact h44 i hi
  · exact h45 x hx
theorem fw_ok {σ : zSt} {al x : Nat} (h0 : σ 43 0 = nI al) (hx : x < 512) : Fcg_isWithin (nI x) σ = some (if sd x al = 0 then nI 1 else nI 0) := by
  have hd : sd x al < 512 := sd512 hx
  unfold Fcg_isWithin
  by_cases h : sd x al = 0 <;> simp (disch := omega) only [h0, pb_sdm, pb_and, pb_or, ↓bt1, ↓bt0, ↓sh1, ↓z_m1, z_0, z_1, z_2, z_3, z_4, z_5, z_6, z_7, z_9, z_10, z_11, z_12, z_24, z_31, z_39, z_40, z_41, z_48, z_80, z_81, z_126, z_512, nI_add, pk_mul, nI_leI, nI_ltI, nI_eq, ↓reduceIte, not_true_eq_false, not_false_eq_true, and_true, true_and, and_false, false_and, and_self, Bool.not_eq_true, Nat.or_zero, reduceCtorEq, eq_self, Bool.false_eq_true, Bool.true_eq_false, Bool.toNat_true, Bool.toNat_false, Nat.reduceEqDiff, Nat.reduceLeDiff, Nat.reduceLT, h]
theorem ftt_ok {σ : zSt} {g : Nat → Int32} {s s2 : Nat} (hs : s < 512) (hs2 : s2 < 512) (hg : g s2 = mI ∨ ∃ t, t ≤ 9 ∧ g s2 = nI t) : Fcg_takeTimeFrom (nI s) (nI s2) (sw σ 46 g) = some (sw σ 46 (if s2 = s then g else upd g s (tsu (g s2)))) := by
  unfold Fcg_takeTimeFrom Fcg_takeTimeFrom_c32
  by_cases h : s2 = s
  · rw [h, if_pos rfl, if_pos rfl]
  · have e46 : sw σ 46 g 46 s2 = g s2 := by rw [sw_ap, if_pos rfl]
    rw [if_neg (fun q => h ((nI_inj (by omega) (by omega)).mp q)), if_neg h, ld46 hs2, e46, ob_some, st46 hs]
    rcases hg with hg | ⟨t, ht, hg⟩
    · rw [hg, if_neg (fun q => q rfl), ob_some, su_sw]
      rfl
    · have hne : ¬ nI t = mI := fun q => mI_neg (q ▸ nI_pos' (by omega))
      rw [hg, if_pos (show ¬ nI t = -1 from hne), ob_some, st46 hs, ob_some, su_sw, tsu, if_neg hne]
def ix : Nat → Int32
  | 0 => mI
  | d + 1 => nI d
theorem ix_s (d : Nat) : nI d + (-1) = ix d := by
  match d with
  | 0 => decide
  | d + 1 => exact pk_m1 d
theorem TT_cases {nb : Nat → Nat} {al r k : Nat} (x : Nat) : TT nb al r k x = mI ∨ ∃ t, t ≤ 9 ∧ TT nb al r k x = nI t := by
  unfold TT
  by_cases h : sd x al = 0
  · rw [if_pos h]; exact tim_cases x
  · rw [if_neg h]; exact Or.inl rfl
theorem lt_sup {a b : Nat} (h : sub a b) (hne : ¬ b = a) : a < b := Nat.lt_of_le_of_ne (sub_le h) (fun q => hne q.symm)
theorem TT_in {nb : Nat → Nat} {al r k x : Nat} (h : sub x al) : TT nb al r k x = tim nb al r k x := if_pos (sd_zero.mpr h)
theorem ffr_loop {σ : zSt} {nb : Nat → Nat} {al r k : Nat} (F : Fs σ nb al r k) (G : Gr nb al) (hr : r ≤ 4) (hk : k < 100) : ∀ (d n s : Nat) (g : Nat → Int32), s + d = al + 1 → d < n → (∀ x, x < s → x ≤ al → g x = TT nb al r k x) → (∀ x, s ≤ x → x ≤ al → g x = TT nb al (rz r) k x) → ∃ g', Fcg_takeFirstRounds_c2 n (nI s) (sw σ 46 g) = some (sw σ 46 g') ∧ ∀ x, x ≤ al → g' x = TT nb al r k x
  | d, 0, s, g, _, hn, _, _ => absurd hn (Nat.not_lt_zero _)
  | 0, n + 1, s, g, hs, hn, h1, h2 => by
    have hal := G.1
    have e43 : sw σ 46 g 43 0 = nI al := (Fs_sw F g).1
    rw [Fcg_takeFirstRounds_c2, e43, if_pos (nI_lt (by omega) (by omega))]
    exact ⟨g, rfl, fun x hx => h1 x (by omega) hx⟩
  | d + 1, n + 1, s, g, hs, hn, h1, h2 => by
    have hal := G.1
    have e43 : sw σ 46 g 43 0 = nI al := (Fs_sw F g).1
    have hs5 : s < 512 := by omega
    rw [Fcg_takeFirstRounds_c2, e43, if_neg (nI_nlt (by omega) (by omega)), fw_ok e43 hs5, ob_some]
    by_cases hw : sd s al = 0
    · have hsub := sd_zero.mp hw
      have e1 := fnx_ok (Fs_sw F g) G hr hk hsub true
      have hin : sub (xnx nb al r k s true) al := xnx_in G hsub
      have hup : sub s (xnx nb al r k s true) := xnx_up G
      have l1 := sub_le hin
      have l2 := sub_le hup
      have hgs : g (xnx nb al r k s true) = TT nb al (rz r) k (xnx nb al r k s true) := h2 _ l2 l1
      rw [if_pos hw, if_neg (show ¬ nI 1 = 0 by decide), show (1 : Int32) = nI true.toNat from rfl, e1, ob_some, ftt_ok hs5 (by omega) (by rw [hgs]; exact TT_cases _), ob_some, show nI true.toNat = 1 from rfl, nI_1]
      refine ffr_loop F G hr hk d n (s + 1) _ (by omega) (by omega) (fun x hx hx2 => ?_) (fun x hx hx2 => ?_)
      · by_cases he : xnx nb al r k s true = s
        · rw [if_pos he]
          by_cases hxs : x = s
          · subst hxs
            rw [h2 x (Nat.le_refl _) hx2, TT_in hsub, TT_in hsub, tim_rec G hsub, tim_rec G hsub, if_pos he, if_pos]
            rw [xnx_rz]
            exact xnx_first G he
          · exact h1 x (by omega) hx2
        · rw [if_neg he]
          by_cases hxs : x = s
          · subst hxs
            rw [pk_us, hgs, TT_in hin, TT_in hsub, tim_rec (s := x) G hsub, if_neg he]
          · rw [pk_un hxs]
            exact h1 x (by omega) hx2
      · have hxs : x ≠ s := by omega
        by_cases he : xnx nb al r k s true = s
        · rw [if_pos he]; exact h2 x (by omega) hx2
        · rw [if_neg he, pk_un hxs]; exact h2 x (by omega) hx2
    · rw [if_neg hw, if_pos (show nI 0 = 0 from rfl), nI_1]
      refine ffr_loop F G hr hk d n (s + 1) g (by omega) (by omega) (fun x hx hx2 => ?_) (fun x hx hx2 => h2 x (by omega) hx2)
      by_cases hxs : x = s
      · subst hxs
        rw [h2 x (Nat.le_refl _) hx2]
        unfold TT
        rw [if_neg hw, if_neg hw]
      · exact h1 x (by omega) hx2
theorem fft_loop {σ : zSt} {nb : Nat → Nat} {al r k : Nat} (F : Fs σ nb al r k) (G : Gr nb al) (hr : r ≤ 4) (hk : k < 100) : ∀ (d n : Nat) (g : Nat → Int32), d ≤ al + 1 → d < n → (∀ x, d ≤ x → x ≤ al → g x = TT nb al (rz r) k x) → ∃ g', Fcg_fillTimes_c5 n (ix d) (sw σ 46 g) = some (sw σ 46 g') ∧ ∀ x, x ≤ al → g' x = TT nb al r k x
  | d, 0, g, _, hn, _ => absurd hn (Nat.not_lt_zero _)
  | 0, n + 1, g, hd, hn, hg => by
    have e43 : sw σ 46 g 43 1 = nI r := (Fs_sw F g).2.1
    rw [Fcg_fillTimes_c5, if_pos (show ix 0 < 0 by decide), e43]
    by_cases h3 : r = 3
    · rw [if_neg (fun q => q (by rw [h3]; rfl))]
      unfold Fcg_takeFirstRounds
      have hal := G.1
      obtain ⟨g', h1, h2⟩ := ffr_loop F G hr hk (al + 1) zF 0 g (by omega) (zF_big (by omega)) (fun x hx => absurd hx (Nat.not_lt_zero _)) (fun x hx hx2 => hg x hx hx2)
      rw [show (0 : Int32) = nI 0 from rfl, h1]
      exact ⟨g', rfl, h2⟩
    · rw [if_pos (show ¬ nI r = 3 from fun q => h3 ((nI_inj (a := r) (b := 3) (by omega) (by omega)).mp q))]
      refine ⟨g, rfl, fun x hx => ?_⟩
      rw [hg x (Nat.zero_le _) hx, rz, if_neg h3]
  | s + 1, n + 1, g, hd, hn, hg => by
    have hal := G.1
    have hs5 : s < 512 := by omega
    have key : ∀ t, t = (if s = al then nI 0 else mI) → ∃ g', Fcg_fillTimes_c27 (Fcg_fillTimes_c5 n) (nI s) t (nI s) (sw σ 46 g) = some (sw σ 46 g') ∧ ∀ x, x ≤ al → g' x = TT nb al r k x := by
      intro t ht
      unfold Fcg_fillTimes_c27
      rw [st46 hs5, ob_some, su_sw, fw_ok (Fs_sw F _).1 hs5, ob_some]
      by_cases hw : sd s al = 0
      · have hsub := sd_zero.mp hw
        have e1 := fnx_ok (Fs_sw F (upd g s t)) G hr hk hsub false
        have hin : sub (xnx nb al r k s false) al := xnx_in G hsub
        have hup : sub s (xnx nb al r k s false) := xnx_up G
        have l1 := sub_le hin
        have l2 := sub_le hup
        have hgs : ¬ xnx nb al r k s false = s → upd g s t (xnx nb al r k s false) = TT nb al (rz r) k (xnx nb al r k s false) := fun he => by
          rw [pk_un he]
          exact hg _ (by omega) l1
        have hgc : upd g s t (xnx nb al r k s false) = mI ∨ ∃ t2, t2 ≤ 9 ∧ upd g s t (xnx nb al r k s false) = nI t2 := by
          by_cases he : xnx nb al r k s false = s
          · rw [he, pk_us, ht]
            by_cases h : s = al
            · rw [if_pos h]; exact Or.inr ⟨0, by omega, rfl⟩
            · rw [if_neg h]; exact Or.inl rfl
          · rw [hgs he]; exact TT_cases _
        rw [if_pos hw, if_neg (show ¬ nI 1 = 0 by decide), show (0 : Int32) = nI false.toNat from rfl, e1, ob_some, ftt_ok hs5 (by omega) hgc, ob_some, ix_s]
        refine fft_loop F G hr hk s n _ (by omega) (by omega) (fun x hx hx2 => ?_)
        have hrec := tim_rec (r := rz r) (k := k) (s := s) G hsub
        rw [xnx_rz, rz_rz] at hrec
        by_cases he : xnx nb al r k s false = s
        · rw [if_pos he]
          rw [if_pos he] at hrec
          by_cases hxs : x = s
          · subst hxs
            rw [pk_us, TT_in hsub, hrec, ht]
          · rw [pk_un hxs]
            exact hg x (by omega) hx2
        · rw [if_neg he, hgs he]
          rw [if_neg he] at hrec
          by_cases hxs : x = s
          · subst hxs
            rw [pk_us, TT_in hin, TT_in hsub, hrec]
          · rw [pk_un hxs, pk_un hxs]
            exact hg x (by omega) hx2
      · have hne : ¬ s = al := fun q => hw (q ▸ sd_zero.mpr (fun _ h => h))
        rw [if_neg hne] at ht
        rw [if_neg hw, if_pos (show nI 0 = 0 from rfl), ix_s]
        refine fft_loop F G hr hk s n _ (by omega) (by omega) (fun x hx hx2 => ?_)
        by_cases hxs : x = s
        · subst hxs
          rw [pk_us, ht]
          unfold TT
          rw [if_neg hw]
        · rw [pk_un hxs]
          exact hg x (by omega) hx2
    have e43 : sw σ 46 g 43 0 = nI al := (Fs_sw F g).1
    show ∃ g', Fcg_fillTimes_c5 (n + 1) (nI s) (sw σ 46 g) = some (sw σ 46 g') ∧ _
    rw [Fcg_fillTimes_c5, if_neg (nI_pos (by omega)), e43]
    by_cases h : s = al
    · rw [if_neg (fun q => q (by rw [h]))]
      exact key 0 (by rw [if_pos h]; rfl)
    · rw [if_pos (fun q => h ((nI_inj (by omega) (by omega)).mp q))]
      exact key (-1) (by rw [if_neg h]; rfl)
theorem fft_ok {σ : zSt} {nb : Nat → Nat} {al r k : Nat} (F : Fs σ nb al r k) (G : Gr nb al) (hr : r ≤ 4) (hk : k < 100) : ∃ g, Fcg_fillTimes σ = some (sw σ 46 g) ∧ ∀ x, x ≤ al → g x = TT nb al r k x := by
  have hal := G.1
  unfold Fcg_fillTimes
  rw [F.1]
  have := fft_loop F G hr hk (al + 1) zF (σ 46) (Nat.le_refl _) (zF_big (by omega)) (fun x hx hx2 => by omega)
  rw [sw_self] at this
  exact this

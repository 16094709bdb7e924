/-! PURE: answers that change nothing: of, entry -/
def Qg (x m : zSt → Option Int32) : Prop := ∀ σ D, In D σ → ∃ r, x σ = some r ∧ m σ = some r
theorem g_entry (x y : Int32) : Qg (X_entry x y) (M_entry x y) := by
  intro σ D I
  have V := I.1
  have hn := V.1.2
  unfold X_entry M_entry
  rcases pt_cases D V x with h | ⟨i, rfl, hi, h⟩
  · rw [(h σ I).1, (h σ I).2, ob_some, ob_some, if_pos rfl, if_pos rfl]
    exact ⟨_, rfl, rfl⟩
  rcases pt_cases D V y with h2 | ⟨j, rfl, hj, h2⟩
  · rw [(h σ I).1, (h σ I).2, ob_some, ob_some, if_neg i10, if_neg i10, (h2 σ I).1, (h2 σ I).2, ob_some, ob_some, if_neg (fun q => q rfl), if_pos rfl]
    exact ⟨_, rfl, rfl⟩
  · have h9 : (9 : Int32) * nI i + nI j = nI (9 * i + j) := by rw [z_9, pk_mul, nI_add]
    rw [(h σ I).1, (h σ I).2, ob_some, ob_some, if_neg i10, if_neg i10, (h2 σ I).1, (h2 σ I).2, ob_some, ob_some, if_pos i10, if_neg i10, lr6 (by omega), ob_some, ldr6 (by omega) (by omega), ob_some, h9, ld76 (by omega), ob_some]
    exact ⟨dT D i j, by rw [I.2.1.2.2.2.2 i (by omega) j (by omega)], by rw [I.2.2.1.2.1 i (by omega) j (by omega)]⟩
theorem g_of (x y : Int32) : Qg (X_of x y) (M_of x y) := by
  intro σ D I
  have V := I.1
  have hn := V.1.2
  unfold X_of M_of
  rcases pt_cases D V x with h | ⟨i, rfl, hi, h⟩
  · rw [(h σ I).1, (h σ I).2, ob_some, ob_some, if_neg (fun q => q rfl), if_pos rfl]
    exact ⟨_, rfl, rfl⟩
  have hnb := nbm_lt (T := dT D) (i := i)
  rw [(h σ I).1, (h σ I).2, ob_some, ob_some, if_pos i10, if_neg i10]
  rw [cof_ok I.2.1 V (by omega), mcof_ok I.2.2.1 V (by omega), mnb_ok I.2.2.1 V (by omega), ld3 (by omega), ld4 (by omega), ld2 (by omega), ld77 (by omega), ld78 (by omega), I.2.1.2.1 i (by omega), I.2.1.2.2.1 i (by omega), I.2.1.2.2.2.1 i (by omega), I.2.2.1.2.2.1 i (by omega), I.2.2.1.2.2.2 i (by omega)]
  simp only [ob_some, Jdk_bitCount_ok hnb, mbits_ok hnb]
  rcases rng y 0 4 (by decide) (by decide) with h1 | ⟨h1, h2, h3⟩ | ⟨j, _, hj, rfl⟩
  · rw [show M_in y 0 4 σ = some 0 from min_lo h1, ob_some, if_neg (show ¬ ¬ (0 : Int32) = 0 from fun q => q rfl)]
    refine ⟨-1, ?_, rfl⟩
    rw [if_neg (fun q => by rw [q] at h1; exact absurd h1 (by decide)), if_neg (fun q => by rw [q] at h1; exact absurd h1 (by decide)), if_neg (fun q => by rw [q] at h1; exact absurd h1 (by decide)), if_neg (fun q => by rw [q] at h1; exact absurd h1 (by decide)), if_neg (fun q => by rw [q] at h1; exact absurd h1 (by decide))]
  · rw [show M_in y 0 4 σ = some 0 from min_hi h1 h2, ob_some, if_neg (show ¬ ¬ (0 : Int32) = 0 from fun q => q rfl)]
    refine ⟨-1, ?_, rfl⟩
    rw [if_neg (fun q => by rw [q] at h2; exact absurd h2 (by decide)), if_neg (fun q => by rw [q] at h2; exact absurd h2 (by decide)), if_neg (fun q => by rw [q] at h2; exact absurd h2 (by decide)), if_neg (fun q => by rw [q] at h2; exact absurd h2 (by decide)), if_neg (fun q => by rw [q] at h2; exact absurd h2 (by decide))]
  · rw [show M_in (nI j) 0 4 σ = some 1 from min_ok (Nat.zero_le _) hj (by decide), ob_some, if_pos i10]
    rcases (by omega : j = 0 ∨ j = 1 ∨ j = 2 ∨ j = 3 ∨ j = 4) with rfl | rfl | rfl | rfl | rfl
    all_goals exact ⟨_, rfl, rfl⟩

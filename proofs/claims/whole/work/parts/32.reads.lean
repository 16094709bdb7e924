/-! PURE: numerals, reads and writes -/
def mI : Int32 := -1
theorem z_m1 : (-1 : Int32) = mI := Eq.trans rfl rfl
theorem z_0 : (0 : Int32) = nI 0 := Eq.trans rfl rfl
theorem z_1 : (1 : Int32) = nI 1 := Eq.trans rfl rfl
theorem z_2 : (2 : Int32) = nI 2 := Eq.trans rfl rfl
theorem z_3 : (3 : Int32) = nI 3 := Eq.trans rfl rfl
theorem z_4 : (4 : Int32) = nI 4 := Eq.trans rfl rfl
theorem z_5 : (5 : Int32) = nI 5 := Eq.trans rfl rfl
theorem z_6 : (6 : Int32) = nI 6 := Eq.trans rfl rfl
theorem z_7 : (7 : Int32) = nI 7 := Eq.trans rfl rfl
theorem z_9 : (9 : Int32) = nI 9 := Eq.trans rfl rfl
theorem z_10 : (10 : Int32) = nI 10 := Eq.trans rfl rfl
theorem z_11 : (11 : Int32) = nI 11 := Eq.trans rfl rfl
theorem z_12 : (12 : Int32) = nI 12 := Eq.trans rfl rfl
theorem z_24 : (24 : Int32) = nI 24 := Eq.trans rfl rfl
theorem z_31 : (31 : Int32) = nI 31 := Eq.trans rfl rfl
theorem z_39 : (39 : Int32) = nI 39 := Eq.trans rfl rfl
theorem z_40 : (40 : Int32) = nI 40 := Eq.trans rfl rfl
theorem z_41 : (41 : Int32) = nI 41 := Eq.trans rfl rfl
theorem z_48 : (48 : Int32) = nI 48 := Eq.trans rfl rfl
theorem z_80 : (80 : Int32) = nI 80 := Eq.trans rfl rfl
theorem z_81 : (81 : Int32) = nI 81 := Eq.trans rfl rfl
theorem z_126 : (126 : Int32) = nI 126 := Eq.trans rfl rfl
theorem z_512 : (512 : Int32) = nI 512 := Eq.trans rfl rfl
theorem zlet_ap {α β : Type} (a : α) (f : α → β) : zlet a f = f a := Eq.trans rfl rfl
theorem ob_some {α β : Type} (a : α) (f : α → Option β) : (some a).bind f = f a := Eq.trans rfl rfl
theorem zb2_sm {α β γ : Type} {a : α} {b : β} {f : α → β → Option γ} : zb2 (some (a, b)) f = f a b := Eq.trans rfl rfl
theorem su_ap (σ : zSt) (a i : Nat) (v : Int32) (b j : Nat) : su σ a i v b j = if b = a ∧ j = i then v else σ b j := by
  unfold su
  rw [zbq, zbq]
  by_cases h1 : b = a <;> by_cases h2 : j = i <;> simp [h1, h2]
theorem zob_ok {i n : Nat} (h : i < n) (hn : n < 2 ^ 31) : zob (nI i) n = false := by
  have h1 : ¬ nI i < 0 := nI_pos (by omega)
  unfold zob
  rw [nI_clamp (by omega), zbl]
  simp [h1, h]
theorem zld_at {σ : zSt} {a i N : Nat} (hk : Nat.beq (zkd a) 100 = true) (hl : zln a = N) (h : i < N) (hN : N < 2 ^ 31) : zld σ a (nI i) = some (σ a i) := by
  unfold zld
  rw [hk, hl, zob_ok h hN, nI_clamp (by omega)]
  rfl
theorem zst_at {σ : zSt} {a i N : Nat} {v : Int32} (hk : Nat.beq (zkd a) 100 = true) (hl : zln a = N) (h : i < N) (hN : N < 2 ^ 31) : zst σ a (nI i) v = some (su σ a i v) := by
  unfold zst
  rw [hk, hl, zob_ok h hN, nI_clamp (by omega)]
  rfl
theorem zzld_at {σ : zSt} {a i N : Nat} (hk : Nat.beq (zkd a) 101 = true) (hl : zln a = N) (h : i < N) (hN : N < 2 ^ 31) : zzld σ a (nI i) = some (σ a i) := by
  unfold zzld
  rw [hk, hl, zob_ok h hN, nI_clamp (by omega)]
  rfl
theorem zzst_at {σ : zSt} {a i N : Nat} {v : Int32} (hk : Nat.beq (zkd a) 101 = true) (hl : zln a = N) (h : i < N) (hN : N < 2 ^ 31) (hv : zbo v = true) : zzst σ a (nI i) v = some (su σ a i v) := by
  unfold zzst
  rw [hk, hl, zob_ok h hN, nI_clamp (by omega), hv]
  rfl
theorem ld2 {σ : zSt} {i : Nat} (h : i < 9) : zld σ 2 (nI i) = some (σ 2 i) := zld_at (N := 9) rfl rfl h (by decide)
theorem st2 {σ : zSt} {i : Nat} {v : Int32} (h : i < 9) : zst σ 2 (nI i) v = some (su σ 2 i v) := zst_at (N := 9) rfl rfl h (by decide)
theorem ld3 {σ : zSt} {i : Nat} (h : i < 9) : zld σ 3 (nI i) = some (σ 3 i) := zld_at (N := 9) rfl rfl h (by decide)
theorem st3 {σ : zSt} {i : Nat} {v : Int32} (h : i < 9) : zst σ 3 (nI i) v = some (su σ 3 i v) := zst_at (N := 9) rfl rfl h (by decide)
theorem ld4 {σ : zSt} {i : Nat} (h : i < 9) : zld σ 4 (nI i) = some (σ 4 i) := zld_at (N := 9) rfl rfl h (by decide)
theorem st4 {σ : zSt} {i : Nat} {v : Int32} (h : i < 9) : zst σ 4 (nI i) v = some (su σ 4 i v) := zst_at (N := 9) rfl rfl h (by decide)
theorem ld16 {σ : zSt} {i : Nat} (h : i < 9) : zld σ 16 (nI i) = some (σ 16 i) := zld_at (N := 9) rfl rfl h (by decide)
theorem st16 {σ : zSt} {i : Nat} {v : Int32} (h : i < 9) : zst σ 16 (nI i) v = some (su σ 16 i v) := zst_at (N := 9) rfl rfl h (by decide)
theorem ld17 {σ : zSt} {i : Nat} (h : i < 9) : zld σ 17 (nI i) = some (σ 17 i) := zld_at (N := 9) rfl rfl h (by decide)
theorem st17 {σ : zSt} {i : Nat} {v : Int32} (h : i < 9) : zst σ 17 (nI i) v = some (su σ 17 i v) := zst_at (N := 9) rfl rfl h (by decide)
theorem ld18 {σ : zSt} {i : Nat} (h : i < 9) : zld σ 18 (nI i) = some (σ 18 i) := zld_at (N := 9) rfl rfl h (by decide)
theorem st18 {σ : zSt} {i : Nat} {v : Int32} (h : i < 9) : zst σ 18 (nI i) v = some (su σ 18 i v) := zst_at (N := 9) rfl rfl h (by decide)
theorem ld44 {σ : zSt} {i : Nat} (h : i < 9) : zld σ 44 (nI i) = some (σ 44 i) := zld_at (N := 9) rfl rfl h (by decide)
theorem st44 {σ : zSt} {i : Nat} {v : Int32} (h : i < 9) : zst σ 44 (nI i) v = some (su σ 44 i v) := zst_at (N := 9) rfl rfl h (by decide)
theorem ld45 {σ : zSt} {i : Nat} (h : i < 512) : zld σ 45 (nI i) = some (σ 45 i) := zld_at (N := 512) rfl rfl h (by decide)
theorem st45 {σ : zSt} {i : Nat} {v : Int32} (h : i < 512) : zst σ 45 (nI i) v = some (su σ 45 i v) := zst_at (N := 512) rfl rfl h (by decide)
theorem ld46 {σ : zSt} {i : Nat} (h : i < 512) : zld σ 46 (nI i) = some (σ 46 i) := zld_at (N := 512) rfl rfl h (by decide)
theorem st46 {σ : zSt} {i : Nat} {v : Int32} (h : i < 512) : zst σ 46 (nI i) v = some (su σ 46 i v) := zst_at (N := 512) rfl rfl h (by decide)
theorem ld48 {σ : zSt} {i : Nat} (h : i < 9) : zld σ 48 (nI i) = some (σ 48 i) := zld_at (N := 9) rfl rfl h (by decide)
theorem st48 {σ : zSt} {i : Nat} {v : Int32} (h : i < 9) : zst σ 48 (nI i) v = some (su σ 48 i v) := zst_at (N := 9) rfl rfl h (by decide)
theorem ld50 {σ : zSt} {i : Nat} (h : i < 512) : zld σ 50 (nI i) = some (σ 50 i) := zld_at (N := 512) rfl rfl h (by decide)
theorem st50 {σ : zSt} {i : Nat} {v : Int32} (h : i < 512) : zst σ 50 (nI i) v = some (su σ 50 i v) := zst_at (N := 512) rfl rfl h (by decide)
theorem ld62 {σ : zSt} {i : Nat} (h : i < 9) : zld σ 62 (nI i) = some (σ 62 i) := zld_at (N := 9) rfl rfl h (by decide)
theorem st62 {σ : zSt} {i : Nat} {v : Int32} (h : i < 9) : zst σ 62 (nI i) v = some (su σ 62 i v) := zst_at (N := 9) rfl rfl h (by decide)
theorem ld63 {σ : zSt} {i : Nat} (h : i < 9) : zld σ 63 (nI i) = some (σ 63 i) := zld_at (N := 9) rfl rfl h (by decide)
theorem st63 {σ : zSt} {i : Nat} {v : Int32} (h : i < 9) : zst σ 63 (nI i) v = some (su σ 63 i v) := zst_at (N := 9) rfl rfl h (by decide)
theorem ld66 {σ : zSt} {i : Nat} (h : i < 40) : zld σ 66 (nI i) = some (σ 66 i) := zld_at (N := 40) rfl rfl h (by decide)
theorem st66 {σ : zSt} {i : Nat} {v : Int32} (h : i < 40) : zst σ 66 (nI i) v = some (su σ 66 i v) := zst_at (N := 40) rfl rfl h (by decide)
theorem ld68 {σ : zSt} {i : Nat} (h : i < 40) : zld σ 68 (nI i) = some (σ 68 i) := zld_at (N := 40) rfl rfl h (by decide)
theorem st68 {σ : zSt} {i : Nat} {v : Int32} (h : i < 40) : zst σ 68 (nI i) v = some (su σ 68 i v) := zst_at (N := 40) rfl rfl h (by decide)
theorem ld70 {σ : zSt} {i : Nat} (h : i < 40) : zld σ 70 (nI i) = some (σ 70 i) := zld_at (N := 40) rfl rfl h (by decide)
theorem st70 {σ : zSt} {i : Nat} {v : Int32} (h : i < 40) : zst σ 70 (nI i) v = some (su σ 70 i v) := zst_at (N := 40) rfl rfl h (by decide)
theorem ld72 {σ : zSt} {i : Nat} (h : i < 80) : zld σ 72 (nI i) = some (σ 72 i) := zld_at (N := 80) rfl rfl h (by decide)
theorem st72 {σ : zSt} {i : Nat} {v : Int32} (h : i < 80) : zst σ 72 (nI i) v = some (su σ 72 i v) := zst_at (N := 80) rfl rfl h (by decide)
theorem ld74 {σ : zSt} {i : Nat} (h : i < 24) : zld σ 74 (nI i) = some (σ 74 i) := zld_at (N := 24) rfl rfl h (by decide)
theorem st74 {σ : zSt} {i : Nat} {v : Int32} (h : i < 24) : zst σ 74 (nI i) v = some (su σ 74 i v) := zst_at (N := 24) rfl rfl h (by decide)
theorem ld76 {σ : zSt} {i : Nat} (h : i < 81) : zld σ 76 (nI i) = some (σ 76 i) := zld_at (N := 81) rfl rfl h (by decide)
theorem st76 {σ : zSt} {i : Nat} {v : Int32} (h : i < 81) : zst σ 76 (nI i) v = some (su σ 76 i v) := zst_at (N := 81) rfl rfl h (by decide)
theorem ld77 {σ : zSt} {i : Nat} (h : i < 9) : zld σ 77 (nI i) = some (σ 77 i) := zld_at (N := 9) rfl rfl h (by decide)
theorem st77 {σ : zSt} {i : Nat} {v : Int32} (h : i < 9) : zst σ 77 (nI i) v = some (su σ 77 i v) := zst_at (N := 9) rfl rfl h (by decide)
theorem ld78 {σ : zSt} {i : Nat} (h : i < 9) : zld σ 78 (nI i) = some (σ 78 i) := zld_at (N := 9) rfl rfl h (by decide)
theorem st78 {σ : zSt} {i : Nat} {v : Int32} (h : i < 9) : zst σ 78 (nI i) v = some (su σ 78 i v) := zst_at (N := 9) rfl rfl h (by decide)
theorem ld79 {σ : zSt} {i : Nat} (h : i < 12) : zld σ 79 (nI i) = some (σ 79 i) := zld_at (N := 12) rfl rfl h (by decide)
theorem st79 {σ : zSt} {i : Nat} {v : Int32} (h : i < 12) : zst σ 79 (nI i) v = some (su σ 79 i v) := zst_at (N := 12) rfl rfl h (by decide)
theorem ld80 {σ : zSt} {i : Nat} (h : i < 12) : zld σ 80 (nI i) = some (σ 80 i) := zld_at (N := 12) rfl rfl h (by decide)
theorem st80 {σ : zSt} {i : Nat} {v : Int32} (h : i < 12) : zst σ 80 (nI i) v = some (su σ 80 i v) := zst_at (N := 12) rfl rfl h (by decide)
theorem ld81 {σ : zSt} {i : Nat} (h : i < 12) : zld σ 81 (nI i) = some (σ 81 i) := zld_at (N := 12) rfl rfl h (by decide)
theorem st81 {σ : zSt} {i : Nat} {v : Int32} (h : i < 12) : zst σ 81 (nI i) v = some (su σ 81 i v) := zst_at (N := 12) rfl rfl h (by decide)
theorem ld82 {σ : zSt} {i : Nat} (h : i < 12) : zld σ 82 (nI i) = some (σ 82 i) := zld_at (N := 12) rfl rfl h (by decide)
theorem st82 {σ : zSt} {i : Nat} {v : Int32} (h : i < 12) : zst σ 82 (nI i) v = some (su σ 82 i v) := zst_at (N := 12) rfl rfl h (by decide)
theorem ld83 {σ : zSt} {i : Nat} (h : i < 9) : zld σ 83 (nI i) = some (σ 83 i) := zld_at (N := 9) rfl rfl h (by decide)
theorem st83 {σ : zSt} {i : Nat} {v : Int32} (h : i < 9) : zst σ 83 (nI i) v = some (su σ 83 i v) := zst_at (N := 9) rfl rfl h (by decide)
theorem ld84 {σ : zSt} {i : Nat} (h : i < 9) : zld σ 84 (nI i) = some (σ 84 i) := zld_at (N := 9) rfl rfl h (by decide)
theorem st84 {σ : zSt} {i : Nat} {v : Int32} (h : i < 9) : zst σ 84 (nI i) v = some (su σ 84 i v) := zst_at (N := 9) rfl rfl h (by decide)
theorem ld86 {σ : zSt} {i : Nat} (h : i < 81) : zld σ 86 (nI i) = some (σ 86 i) := zld_at (N := 81) rfl rfl h (by decide)
theorem st86 {σ : zSt} {i : Nat} {v : Int32} (h : i < 81) : zst σ 86 (nI i) v = some (su σ 86 i v) := zst_at (N := 81) rfl rfl h (by decide)
theorem ld87 {σ : zSt} {i : Nat} (h : i < 9) : zld σ 87 (nI i) = some (σ 87 i) := zld_at (N := 9) rfl rfl h (by decide)
theorem st87 {σ : zSt} {i : Nat} {v : Int32} (h : i < 9) : zst σ 87 (nI i) v = some (su σ 87 i v) := zst_at (N := 9) rfl rfl h (by decide)
theorem ld89 {σ : zSt} {i : Nat} (h : i < 3) : zld σ 89 (nI i) = some (σ 89 i) := zld_at (N := 3) rfl rfl h (by decide)
theorem st89 {σ : zSt} {i : Nat} {v : Int32} (h : i < 3) : zst σ 89 (nI i) v = some (su σ 89 i v) := zst_at (N := 3) rfl rfl h (by decide)
theorem ld90 {σ : zSt} {i : Nat} (h : i < 120) : zld σ 90 (nI i) = some (σ 90 i) := zld_at (N := 120) rfl rfl h (by decide)
theorem st90 {σ : zSt} {i : Nat} {v : Int32} (h : i < 120) : zst σ 90 (nI i) v = some (su σ 90 i v) := zst_at (N := 120) rfl rfl h (by decide)
theorem ld91 {σ : zSt} {i : Nat} (h : i < 80) : zld σ 91 (nI i) = some (σ 91 i) := zld_at (N := 80) rfl rfl h (by decide)
theorem st91 {σ : zSt} {i : Nat} {v : Int32} (h : i < 80) : zst σ 91 (nI i) v = some (su σ 91 i v) := zst_at (N := 80) rfl rfl h (by decide)
theorem ld92 {σ : zSt} {i : Nat} (h : i < 80) : zld σ 92 (nI i) = some (σ 92 i) := zld_at (N := 80) rfl rfl h (by decide)
theorem st92 {σ : zSt} {i : Nat} {v : Int32} (h : i < 80) : zst σ 92 (nI i) v = some (su σ 92 i v) := zst_at (N := 80) rfl rfl h (by decide)
theorem ld93 {σ : zSt} {i : Nat} (h : i < 80) : zld σ 93 (nI i) = some (σ 93 i) := zld_at (N := 80) rfl rfl h (by decide)
theorem st93 {σ : zSt} {i : Nat} {v : Int32} (h : i < 80) : zst σ 93 (nI i) v = some (su σ 93 i v) := zst_at (N := 80) rfl rfl h (by decide)
theorem ld94 {σ : zSt} {i : Nat} (h : i < 80) : zld σ 94 (nI i) = some (σ 94 i) := zld_at (N := 80) rfl rfl h (by decide)
theorem st94 {σ : zSt} {i : Nat} {v : Int32} (h : i < 80) : zst σ 94 (nI i) v = some (su σ 94 i v) := zst_at (N := 80) rfl rfl h (by decide)
theorem ld95 {σ : zSt} {i : Nat} (h : i < 24) : zld σ 95 (nI i) = some (σ 95 i) := zld_at (N := 24) rfl rfl h (by decide)
theorem st95 {σ : zSt} {i : Nat} {v : Int32} (h : i < 24) : zst σ 95 (nI i) v = some (su σ 95 i v) := zst_at (N := 24) rfl rfl h (by decide)
theorem ld96 {σ : zSt} {i : Nat} (h : i < 81) : zld σ 96 (nI i) = some (σ 96 i) := zld_at (N := 81) rfl rfl h (by decide)
theorem st96 {σ : zSt} {i : Nat} {v : Int32} (h : i < 81) : zst σ 96 (nI i) v = some (su σ 96 i v) := zst_at (N := 81) rfl rfl h (by decide)
theorem ld97 {σ : zSt} {i : Nat} (h : i < 9) : zld σ 97 (nI i) = some (σ 97 i) := zld_at (N := 9) rfl rfl h (by decide)
theorem st97 {σ : zSt} {i : Nat} {v : Int32} (h : i < 9) : zst σ 97 (nI i) v = some (su σ 97 i v) := zst_at (N := 9) rfl rfl h (by decide)
theorem ld98 {σ : zSt} {i : Nat} (h : i < 9) : zld σ 98 (nI i) = some (σ 98 i) := zld_at (N := 9) rfl rfl h (by decide)
theorem st98 {σ : zSt} {i : Nat} {v : Int32} (h : i < 9) : zst σ 98 (nI i) v = some (su σ 98 i v) := zst_at (N := 9) rfl rfl h (by decide)
theorem zl85 {σ : zSt} {i : Nat} (h : i < 512) : zzld σ 85 (nI i) = some (σ 85 i) := zzld_at (N := 512) rfl rfl h (by decide)
theorem zs85 {σ : zSt} {i : Nat} {v : Int32} (h : i < 512) (hv : zbo v = true) : zzst σ 85 (nI i) v = some (su σ 85 i v) := zzst_at (N := 512) rfl rfl h (by decide) hv
theorem zl88 {σ : zSt} {i : Nat} (h : i < 3) : zzld σ 88 (nI i) = some (σ 88 i) := zzld_at (N := 3) rfl rfl h (by decide)
theorem zs88 {σ : zSt} {i : Nat} {v : Int32} (h : i < 3) (hv : zbo v = true) : zzst σ 88 (nI i) v = some (su σ 88 i v) := zzst_at (N := 3) rfl rfl h (by decide) hv
theorem kd_r6 : ∀ i, i < 9 → Nat.beq (zkd (6 + i)) 100 = true ∧ zln (6 + i) = 9 := by decide +kernel
theorem ldr6 {σ : zSt} {i j : Nat} (hi : i < 9) (h : j < 9) : zld σ (6 + i) (nI j) = some (σ (6 + i) j) := zld_at (N := 9) (kd_r6 i hi).1 (kd_r6 i hi).2 h (by decide)
theorem str6 {σ : zSt} {i j : Nat} {v : Int32} (hi : i < 9) (h : j < 9) : zst σ (6 + i) (nI j) v = some (su σ (6 + i) j v) := zst_at (N := 9) (kd_r6 i hi).1 (kd_r6 i hi).2 h (by decide)
theorem lr6 {σ : zSt} {i : Nat} (hi : i < 9) : zlr σ 5 (nI i) = some (6 + i) := by
  have key : ∀ i, i < 9 → ztg 5 i = 6 + i := by decide +kernel
  unfold zlr
  have e : (zre (zkd 5)) = true := rfl
  have e2 : zln 5 = 9 := rfl
  rw [e, e2, zob_ok hi (by decide), nI_clamp (by omega)]
  show some (ztr 5 (σ 5) i) = _
  have e3 : ztr 5 (σ 5) i = ztg 5 i := rfl
  rw [e3, key i hi]
theorem kd_r20 : ∀ i, i < 9 → Nat.beq (zkd (20 + i)) 100 = true ∧ zln (20 + i) = 9 := by decide +kernel
theorem ldr20 {σ : zSt} {i j : Nat} (hi : i < 9) (h : j < 9) : zld σ (20 + i) (nI j) = some (σ (20 + i) j) := zld_at (N := 9) (kd_r20 i hi).1 (kd_r20 i hi).2 h (by decide)
theorem str20 {σ : zSt} {i j : Nat} {v : Int32} (hi : i < 9) (h : j < 9) : zst σ (20 + i) (nI j) v = some (su σ (20 + i) j v) := zst_at (N := 9) (kd_r20 i hi).1 (kd_r20 i hi).2 h (by decide)
theorem lr20 {σ : zSt} {i : Nat} (hi : i < 9) : zlr σ 19 (nI i) = some (20 + i) := by
  have key : ∀ i, i < 9 → ztg 19 i = 20 + i := by decide +kernel
  unfold zlr
  have e : (zre (zkd 19)) = true := rfl
  have e2 : zln 19 = 9 := rfl
  rw [e, e2, zob_ok hi (by decide), nI_clamp (by omega)]
  show some (ztr 19 (σ 19) i) = _
  have e3 : ztr 19 (σ 19) i = ztg 19 i := rfl
  rw [e3, key i hi]

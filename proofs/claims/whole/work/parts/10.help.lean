/-! the methods as functions: words that all of them use -/
def zF : Nat := 4096
def zlet {α β : Type} (a : α) (f : α → β) : β := f a
theorem zlet_of {α β : Type} {a : α} {f : α → Option β} {r : β} (h : zlet a f = some r) : f a = some r := h
def zb2 {α β γ : Type} (o : Option (α × β)) (f : α → β → Option γ) : Option γ := o.bind (fun q => f q.1 q.2)
theorem zbd2 {α β γ : Type} {o : Option (α × β)} {f : α → β → Option γ} {r : γ} (h : zb2 o f = some r) : ∃ a b, o = some (a, b) ∧ f a b = some r := by
  obtain ⟨q, h1, h2⟩ := Option.bind_eq_some_iff.mp h
  exact ⟨q.1, q.2, h1, h2⟩
theorem zb2_some {α β γ : Type} {a : α} {b : β} {f : α → β → Option γ} : zb2 (some (a, b)) f = f a b := rfl
theorem zbd {α β : Type} {o : Option α} {f : α → Option β} {r : β} (h : o.bind f = some r) : ∃ a, o = some a ∧ f a = some r := Option.bind_eq_some_iff.mp h
def zmo {α β : Type} (q : Option α) (a : β) (f : α → β) : β := match q with
  | none => a
  | some v => f v
theorem zmo_n {α β : Type} {a : Option β} {f : α → Option β} {r : β} (h : zmo (none : Option α) a f = some r) : a = some r := h
theorem zmo_s {α β : Type} {v : α} {a : Option β} {f : α → Option β} {r : β} (h : zmo (some v) a f = some r) : f v = some r := h
def zov : Option Nat → Value
  | none => .null
  | some a => .ref a
theorem zif_t {α : Type} {c : Prop} [Decidable c] {a b : Option α} {r : α} (hc : c) (h : (if c then a else b) = some r) : a = some r := by rw [if_pos hc] at h; exact h
theorem zif_f {α : Type} {c : Prop} [Decidable c] {a b : Option α} {r : α} (hc : ¬ c) (h : (if c then a else b) = some r) : b = some r := by rw [if_neg hc] at h; exact h
theorem zrt_b {v : Int32} (h : zbo v = true) : zrt 2 [.int v] = some (some (.int v)) := by show (bif zbo v then _ else _) = _; rw [h]; rfl
theorem zsw_t {d : Nat} {k x : Int32} {t : Nat} {r : List (Int32 × Nat)} (h : x = k) : zsw d ((k, t) :: r) x = t := by unfold zsw; exact if_pos h
theorem zsw_f {d : Nat} {k x : Int32} {t : Nat} {r : List (Int32 × Nat)} (h : ¬ x = k) : zsw d ((k, t) :: r) x = zsw d r x := by rw [zsw]; exact if_neg h
theorem zca_r {t rc : Nat} {S as rest : List Value} (h1 : (Nat.ble t S.length && (S.drop t).all zc1 && Nat.ble (S.drop t).length 8 && (S.take t).all zc1) = true) (h2 : (S.take t).reverse = as) (h3 : S.drop t = rest) (hc : zrc rc as = true) : zca t rc S = some (as, rest) := by
  unfold zca
  subst h2
  subst h3
  rw [h1, hc]
  rfl
section ZG
variable {PT : Nat → Nat → Option zAI} {ml : Nat → Nat} {P : Nat → Option zAI} {pc : Nat} {L : List (Option Value)} {S : List Value} {σ σ2 : zSt} {R : Option Value × zSt}
theorem zI_eq_t {t : Nat} {x : Int32} (hp : P pc = some (.inl (zi_eq t))) (hc : x = 0) (h : zGo PT ml P (t, L, S, σ) R) : zGo PT ml P (pc, L, .int x :: S, σ) R := zGo.st hp (congrArg (fun z => some (z, L, S, σ)) (if_pos hc)) h
theorem zI_eq_f {t : Nat} {x : Int32} (hp : P pc = some (.inl (zi_eq t))) (hc : ¬ (x = 0)) (h : zGo PT ml P (pc + 3, L, S, σ) R) : zGo PT ml P (pc, L, .int x :: S, σ) R := zGo.st hp (congrArg (fun z => some (z, L, S, σ)) (if_neg hc)) h
theorem zI_ne_t {t : Nat} {x : Int32} (hp : P pc = some (.inl (zi_ne t))) (hc : ¬ x = 0) (h : zGo PT ml P (t, L, S, σ) R) : zGo PT ml P (pc, L, .int x :: S, σ) R := zGo.st hp (congrArg (fun z => some (z, L, S, σ)) (if_pos hc)) h
theorem zI_ne_f {t : Nat} {x : Int32} (hp : P pc = some (.inl (zi_ne t))) (hc : ¬ (¬ x = 0)) (h : zGo PT ml P (pc + 3, L, S, σ) R) : zGo PT ml P (pc, L, .int x :: S, σ) R := zGo.st hp (congrArg (fun z => some (z, L, S, σ)) (if_neg hc)) h
theorem zI_lt_t {t : Nat} {x : Int32} (hp : P pc = some (.inl (zi_lt t))) (hc : x < 0) (h : zGo PT ml P (t, L, S, σ) R) : zGo PT ml P (pc, L, .int x :: S, σ) R := zGo.st hp (congrArg (fun z => some (z, L, S, σ)) (if_pos hc)) h
theorem zI_lt_f {t : Nat} {x : Int32} (hp : P pc = some (.inl (zi_lt t))) (hc : ¬ (x < 0)) (h : zGo PT ml P (pc + 3, L, S, σ) R) : zGo PT ml P (pc, L, .int x :: S, σ) R := zGo.st hp (congrArg (fun z => some (z, L, S, σ)) (if_neg hc)) h
theorem zI_ge_t {t : Nat} {x : Int32} (hp : P pc = some (.inl (zi_ge t))) (hc : 0 ≤ x) (h : zGo PT ml P (t, L, S, σ) R) : zGo PT ml P (pc, L, .int x :: S, σ) R := zGo.st hp (congrArg (fun z => some (z, L, S, σ)) (if_pos hc)) h
theorem zI_ge_f {t : Nat} {x : Int32} (hp : P pc = some (.inl (zi_ge t))) (hc : ¬ (0 ≤ x)) (h : zGo PT ml P (pc + 3, L, S, σ) R) : zGo PT ml P (pc, L, .int x :: S, σ) R := zGo.st hp (congrArg (fun z => some (z, L, S, σ)) (if_neg hc)) h
theorem zI_gt_t {t : Nat} {x : Int32} (hp : P pc = some (.inl (zi_gt t))) (hc : 0 < x) (h : zGo PT ml P (t, L, S, σ) R) : zGo PT ml P (pc, L, .int x :: S, σ) R := zGo.st hp (congrArg (fun z => some (z, L, S, σ)) (if_pos hc)) h
theorem zI_gt_f {t : Nat} {x : Int32} (hp : P pc = some (.inl (zi_gt t))) (hc : ¬ (0 < x)) (h : zGo PT ml P (pc + 3, L, S, σ) R) : zGo PT ml P (pc, L, .int x :: S, σ) R := zGo.st hp (congrArg (fun z => some (z, L, S, σ)) (if_neg hc)) h
theorem zI_le_t {t : Nat} {x : Int32} (hp : P pc = some (.inl (zi_le t))) (hc : x ≤ 0) (h : zGo PT ml P (t, L, S, σ) R) : zGo PT ml P (pc, L, .int x :: S, σ) R := zGo.st hp (congrArg (fun z => some (z, L, S, σ)) (if_pos hc)) h
theorem zI_le_f {t : Nat} {x : Int32} (hp : P pc = some (.inl (zi_le t))) (hc : ¬ (x ≤ 0)) (h : zGo PT ml P (pc + 3, L, S, σ) R) : zGo PT ml P (pc, L, .int x :: S, σ) R := zGo.st hp (congrArg (fun z => some (z, L, S, σ)) (if_neg hc)) h
theorem zC_eq_t {t : Nat} {x y : Int32} (hp : P pc = some (.inl (zc_eq t))) (hc : x = y) (h : zGo PT ml P (t, L, S, σ) R) : zGo PT ml P (pc, L, .int y :: .int x :: S, σ) R := zGo.st hp (congrArg (fun z => some (z, L, S, σ)) (if_pos hc)) h
theorem zC_eq_f {t : Nat} {x y : Int32} (hp : P pc = some (.inl (zc_eq t))) (hc : ¬ (x = y)) (h : zGo PT ml P (pc + 3, L, S, σ) R) : zGo PT ml P (pc, L, .int y :: .int x :: S, σ) R := zGo.st hp (congrArg (fun z => some (z, L, S, σ)) (if_neg hc)) h
theorem zC_ne_t {t : Nat} {x y : Int32} (hp : P pc = some (.inl (zc_ne t))) (hc : ¬ x = y) (h : zGo PT ml P (t, L, S, σ) R) : zGo PT ml P (pc, L, .int y :: .int x :: S, σ) R := zGo.st hp (congrArg (fun z => some (z, L, S, σ)) (if_pos hc)) h
theorem zC_ne_f {t : Nat} {x y : Int32} (hp : P pc = some (.inl (zc_ne t))) (hc : ¬ (¬ x = y)) (h : zGo PT ml P (pc + 3, L, S, σ) R) : zGo PT ml P (pc, L, .int y :: .int x :: S, σ) R := zGo.st hp (congrArg (fun z => some (z, L, S, σ)) (if_neg hc)) h
theorem zC_lt_t {t : Nat} {x y : Int32} (hp : P pc = some (.inl (zc_lt t))) (hc : x < y) (h : zGo PT ml P (t, L, S, σ) R) : zGo PT ml P (pc, L, .int y :: .int x :: S, σ) R := zGo.st hp (congrArg (fun z => some (z, L, S, σ)) (if_pos hc)) h
theorem zC_lt_f {t : Nat} {x y : Int32} (hp : P pc = some (.inl (zc_lt t))) (hc : ¬ (x < y)) (h : zGo PT ml P (pc + 3, L, S, σ) R) : zGo PT ml P (pc, L, .int y :: .int x :: S, σ) R := zGo.st hp (congrArg (fun z => some (z, L, S, σ)) (if_neg hc)) h
theorem zC_ge_t {t : Nat} {x y : Int32} (hp : P pc = some (.inl (zc_ge t))) (hc : y ≤ x) (h : zGo PT ml P (t, L, S, σ) R) : zGo PT ml P (pc, L, .int y :: .int x :: S, σ) R := zGo.st hp (congrArg (fun z => some (z, L, S, σ)) (if_pos hc)) h
theorem zC_ge_f {t : Nat} {x y : Int32} (hp : P pc = some (.inl (zc_ge t))) (hc : ¬ (y ≤ x)) (h : zGo PT ml P (pc + 3, L, S, σ) R) : zGo PT ml P (pc, L, .int y :: .int x :: S, σ) R := zGo.st hp (congrArg (fun z => some (z, L, S, σ)) (if_neg hc)) h
theorem zC_gt_t {t : Nat} {x y : Int32} (hp : P pc = some (.inl (zc_gt t))) (hc : y < x) (h : zGo PT ml P (t, L, S, σ) R) : zGo PT ml P (pc, L, .int y :: .int x :: S, σ) R := zGo.st hp (congrArg (fun z => some (z, L, S, σ)) (if_pos hc)) h
theorem zC_gt_f {t : Nat} {x y : Int32} (hp : P pc = some (.inl (zc_gt t))) (hc : ¬ (y < x)) (h : zGo PT ml P (pc + 3, L, S, σ) R) : zGo PT ml P (pc, L, .int y :: .int x :: S, σ) R := zGo.st hp (congrArg (fun z => some (z, L, S, σ)) (if_neg hc)) h
theorem zC_le_t {t : Nat} {x y : Int32} (hp : P pc = some (.inl (zc_le t))) (hc : x ≤ y) (h : zGo PT ml P (t, L, S, σ) R) : zGo PT ml P (pc, L, .int y :: .int x :: S, σ) R := zGo.st hp (congrArg (fun z => some (z, L, S, σ)) (if_pos hc)) h
theorem zC_le_f {t : Nat} {x y : Int32} (hp : P pc = some (.inl (zc_le t))) (hc : ¬ (x ≤ y)) (h : zGo PT ml P (pc + 3, L, S, σ) R) : zGo PT ml P (pc, L, .int y :: .int x :: S, σ) R := zGo.st hp (congrArg (fun z => some (z, L, S, σ)) (if_neg hc)) h
theorem zG_ld {a : Nat} {i v : Int32} (hp : P pc = some (.inl zia)) (hv : zld σ a i = some v) (h : zGo PT ml P (pc + 1, L, .int v :: S, σ) R) : zGo PT ml P (pc, L, .int i :: .ref a :: S, σ) R := zGo.st hp (by show zia (pc, L, .int i :: .ref a :: S, σ) = _; unfold zia; dsimp only; rw [hv]) h
theorem zG_zld {a : Nat} {i v : Int32} (hp : P pc = some (.inl zba)) (hv : zzld σ a i = some v) (h : zGo PT ml P (pc + 1, L, .int v :: S, σ) R) : zGo PT ml P (pc, L, .int i :: .ref a :: S, σ) R := zGo.st hp (by show zba (pc, L, .int i :: .ref a :: S, σ) = _; unfold zba; dsimp only; rw [hv]) h
theorem zG_lr {a v : Nat} {i : Int32} (hp : P pc = some (.inl zaa)) (hv : zlr σ a i = some v) (h : zGo PT ml P (pc + 1, L, .ref v :: S, σ) R) : zGo PT ml P (pc, L, .int i :: .ref a :: S, σ) R := zGo.st hp (by show zaa (pc, L, .int i :: .ref a :: S, σ) = _; unfold zaa; dsimp only; rw [hv]) h
theorem zG_st {a : Nat} {i v : Int32} (hp : P pc = some (.inl zia')) (hv : zst σ a i v = some σ2) (h : zGo PT ml P (pc + 1, L, S, σ2) R) : zGo PT ml P (pc, L, .int v :: .int i :: .ref a :: S, σ) R := zGo.st hp (by show zia' (pc, L, .int v :: .int i :: .ref a :: S, σ) = _; unfold zia'; dsimp only; rw [hv]) h
theorem zG_zst {a : Nat} {i v : Int32} (hp : P pc = some (.inl zba')) (hv : zzst σ a i v = some σ2) (h : zGo PT ml P (pc + 1, L, S, σ2) R) : zGo PT ml P (pc, L, .int v :: .int i :: .ref a :: S, σ) R := zGo.st hp (by show zba' (pc, L, .int v :: .int i :: .ref a :: S, σ) = _; unfold zba'; dsimp only; rw [hv]) h
theorem zG_sR {a v : Nat} {i : Int32} (hp : P pc = some (.inl zaa')) (hv : zsR σ a i v = some σ2) (h : zGo PT ml P (pc + 1, L, S, σ2) R) : zGo PT ml P (pc, L, .ref v :: .int i :: .ref a :: S, σ) R := zGo.st hp (by show zaa' (pc, L, .ref v :: .int i :: .ref a :: S, σ) = _; unfold zaa'; dsimp only; rw [hv]) h
theorem zG_div {q : Int32 → Int32 → Option Int32} {x y v : Int32} (hp : P pc = some (.inl (zdiv q))) (hv : q x y = some v) (h : zGo PT ml P (pc + 1, L, .int v :: S, σ) R) : zGo PT ml P (pc, L, .int y :: .int x :: S, σ) R := zGo.st hp (by show (zdiv q) (pc, L, .int y :: .int x :: S, σ) = _; unfold zdiv; dsimp only; rw [hv]) h
theorem zG_sd {xs : Nat → Int32} {L0 a : Nat} {i v : Int32} (hp : P pc = some (.inl (zsd xs L0))) (hv : zsdq xs L0 a i = some v) (h : zGo PT ml P (pc + 1, L, .int v :: S, σ) R) : zGo PT ml P (pc, L, .int i :: .ref a :: S, σ) R := zGo.st hp (by show (zsd xs L0) (pc, L, .int i :: .ref a :: S, σ) = _; unfold zsd; dsimp only; rw [hv]) h
theorem zG_cp {n dp sp : Int32} {a a0 : Nat} (hp : P pc = some (.inl zcp)) (hs : (S.all zc1 && Nat.ble S.length 8) = true) (hv : zcpy σ a0 sp a dp n = some σ2) (h : zGo PT ml P (pc + 3, L, S, σ2) R) : zGo PT ml P (pc, L, .int n :: .int dp :: .ref a :: .int sp :: .ref a0 :: S, σ) R := zGo.st hp (by show zcp (pc, L, .int n :: .int dp :: .ref a :: .int sp :: .ref a0 :: S, σ) = _; unfold zcp; dsimp only; rw [hs, hv]; rfl) h
theorem zG_len {a : Nat} (hp : P pc = some (.inl zle)) (hc : (Nat.beq (zkd a) 100 || Nat.beq (zkd a) 105) = true) (h : zGo PT ml P (pc + 1, L, .int (Int32.ofNat (zln a)) :: S, σ) R) : zGo PT ml P (pc, L, .ref a :: S, σ) R := zGo.st hp (by show zle (pc, L, .ref a :: S, σ) = _; unfold zle; dsimp only; rw [hc]; rfl) h
theorem zG_gI {a c k : Nat} (hp : P pc = some (.inl (zgI c k))) (hc : Nat.beq (zkd a) c = true) (h : zGo PT ml P (pc + 3, L, .int (σ a k) :: S, σ) R) : zGo PT ml P (pc, L, .ref a :: S, σ) R := zGo.st hp (by show zgI c k (pc, L, .ref a :: S, σ) = _; unfold zgI; dsimp only; rw [hc]; rfl) h
theorem zG_gR {a c k : Nat} (hp : P pc = some (.inl (zgR c k))) (hc : Nat.beq (zkd a) c = true) (h : zGo PT ml P (pc + 3, L, .ref (ztg a k) :: S, σ) R) : zGo PT ml P (pc, L, .ref a :: S, σ) R := zGo.st hp (by show zgR c k (pc, L, .ref a :: S, σ) = _; unfold zgR; dsimp only; rw [hc]; rfl) h
theorem zG_pI {a c k : Nat} {v : Int32} (hp : P pc = some (.inl (zpI c k))) (hc : Nat.beq (zkd a) c = true) (h : zGo PT ml P (pc + 3, L, S, su σ a k v) R) : zGo PT ml P (pc, L, .int v :: .ref a :: S, σ) R := zGo.st hp (by show zpI c k (pc, L, .int v :: .ref a :: S, σ) = _; unfold zpI; dsimp only; rw [hc]; rfl) h
theorem zG_pZ {a c k : Nat} {v : Int32} (hp : P pc = some (.inl (zpZ c k))) (hc : (Nat.beq (zkd a) c && zbo v) = true) (h : zGo PT ml P (pc + 3, L, S, su σ a k v) R) : zGo PT ml P (pc, L, .int v :: .ref a :: S, σ) R := zGo.st hp (by show zpZ c k (pc, L, .int v :: .ref a :: S, σ) = _; unfold zpZ; dsimp only; rw [hc]; rfl) h
theorem zG_sw {d : Nat} {cs : List (Int32 × Nat)} {x : Int32} {t : Nat} (hp : P pc = some (.inl (zswi d cs))) (e : zsw d cs x = t) (h : zGo PT ml P (t, L, S, σ) R) : zGo PT ml P (pc, L, .int x :: S, σ) R := zGo.st hp (by show zswi d cs (pc, L, .int x :: S, σ) = _; unfold zswi; dsimp only; rw [e]) h
end ZG

/-! THE ABSTRACT MACHINE: the heap as a table of whole numbers by label and place; references are labels -/
abbrev zSt : Type := Nat → Nat → Int32
abbrev zCfg : Type := Nat × List (Option Value) × List Value × zSt
abbrev zAI : Type := (zCfg → Option zCfg) ⊕ ((Nat × Nat × Nat) ⊕ Nat)
def znd {α : Type} (m : Nat) (lo hi : Nat → α) : Nat → α := fun a => bif Nat.ble m a then hi a else lo a
def zNL : Nat := 99
def zkd : Nat → Nat := (znd 64 (znd 30 (znd 15 (znd 2 (znd 1 (fun _ => 10) (fun _ => 7)) (znd 5 (fun _ => 100) (znd 6 (fun _ => 102) (fun _ => 100)))) (znd 19 (znd 16 (fun _ => 7) (fun _ => 100)) (znd 20 (fun _ => 102) (znd 29 (fun _ => 100) (fun _ => 6))))) (znd 48 (znd 43 (znd 31 (fun _ => 103) (fun _ => 2)) (znd 44 (fun _ => 3) (znd 47 (fun _ => 100) (fun _ => 1)))) (znd 51 (znd 49 (fun _ => 100) (znd 50 (fun _ => 4) (fun _ => 100))) (znd 52 (fun _ => 5) (znd 53 (fun _ => 102) (fun _ => 100)))))) (znd 74 (znd 69 (znd 66 (znd 65 (fun _ => 104) (fun _ => 8)) (znd 67 (fun _ => 100) (znd 68 (fun _ => 8) (fun _ => 100)))) (znd 71 (znd 70 (fun _ => 8) (fun _ => 100)) (znd 72 (fun _ => 9) (znd 73 (fun _ => 100) (fun _ => 0))))) (znd 88 (znd 76 (znd 75 (fun _ => 100) (fun _ => 11)) (znd 85 (fun _ => 100) (znd 86 (fun _ => 101) (fun _ => 100)))) (znd 200 (znd 89 (fun _ => 101) (znd 99 (fun _ => 100) (fun _ => 99))) (znd 202 (fun _ => 105) (znd 203 (fun _ => 106) (fun _ => 99)))))))
def zln : Nat → Nat := (znd 71 (znd 49 (znd 30 (znd 15 (znd 2 (fun _ => 0) (fun _ => 9)) (znd 16 (fun _ => 0) (znd 29 (fun _ => 9) (fun _ => 0)))) (znd 45 (znd 31 (fun _ => 12) (znd 44 (fun _ => 0) (fun _ => 9))) (znd 47 (fun _ => 512) (znd 48 (fun _ => 0) (fun _ => 9))))) (znd 65 (znd 51 (znd 50 (fun _ => 0) (fun _ => 512)) (znd 52 (fun _ => 0) (znd 64 (fun _ => 9) (fun _ => 3)))) (znd 68 (znd 66 (fun _ => 0) (znd 67 (fun _ => 40) (fun _ => 0))) (znd 69 (fun _ => 40) (znd 70 (fun _ => 0) (fun _ => 40)))))) (znd 87 (znd 76 (znd 73 (znd 72 (fun _ => 0) (fun _ => 80)) (znd 74 (fun _ => 0) (znd 75 (fun _ => 24) (fun _ => 0)))) (znd 83 (znd 77 (fun _ => 81) (znd 79 (fun _ => 9) (fun _ => 12))) (znd 85 (fun _ => 9) (znd 86 (fun _ => 512) (fun _ => 81))))) (znd 96 (znd 90 (znd 88 (fun _ => 9) (fun _ => 3)) (znd 91 (fun _ => 120) (znd 95 (fun _ => 80) (fun _ => 24)))) (znd 200 (znd 97 (fun _ => 81) (znd 99 (fun _ => 9) (fun _ => 0))) (znd 201 (fun _ => 7) (znd 202 (fun _ => 5) (fun _ => 0)))))))
def ztg : Nat → Nat → Nat := (znd 50 (znd 20 (znd 6 (znd 2 (znd 1 (fun _ => (znd 6 (znd 3 (znd 1 (fun _ => 1) (fun _ => 15)) (znd 4 (fun _ => 29) (znd 5 (fun _ => 43) (fun _ => 47)))) (znd 8 (znd 7 (fun _ => 49) (fun _ => 51)) (znd 9 (fun _ => 64) (znd 10 (fun _ => 71) (fun _ => 73)))))) (fun _ => (znd 6 (znd 5 (fun _ => 2) (fun _ => 3)) (znd 7 (fun _ => 4) (fun _ => 5))))) (znd 5 (fun _ => fun _ => 0) (fun _ => (znd 4 (znd 2 (znd 1 (fun _ => 6) (fun _ => 7)) (znd 3 (fun _ => 8) (fun _ => 9))) (znd 6 (znd 5 (fun _ => 10) (fun _ => 11)) (znd 7 (fun _ => 12) (znd 8 (fun _ => 13) (fun _ => 14)))))))) (znd 16 (znd 15 (fun _ => fun _ => 0) (fun _ => (znd 6 (znd 5 (fun _ => 16) (fun _ => 17)) (znd 7 (fun _ => 18) (fun _ => 19))))) (znd 19 (fun _ => fun _ => 0) (fun _ => (znd 4 (znd 2 (znd 1 (fun _ => 20) (fun _ => 21)) (znd 3 (fun _ => 22) (fun _ => 23))) (znd 6 (znd 5 (fun _ => 24) (fun _ => 25)) (znd 7 (fun _ => 26) (znd 8 (fun _ => 27) (fun _ => 28))))))))) (znd 44 (znd 30 (znd 29 (fun _ => fun _ => 0) (fun _ => (fun _ => 30))) (znd 43 (fun _ => fun _ => 0) (fun _ => (znd 4 (fun _ => 44) (znd 5 (fun _ => 45) (fun _ => 46)))))) (znd 48 (znd 47 (fun _ => fun _ => 0) (fun _ => (fun _ => 48))) (znd 49 (fun _ => fun _ => 0) (fun _ => (fun _ => 50)))))) (znd 69 (znd 65 (znd 52 (znd 51 (fun _ => fun _ => 0) (fun _ => (znd 4 (fun _ => 52) (znd 5 (fun _ => 62) (fun _ => 63))))) (znd 64 (fun _ => fun _ => 0) (fun _ => (znd 1 (fun _ => 65) (znd 2 (fun _ => 67) (fun _ => 69)))))) (znd 67 (znd 66 (fun _ => (fun _ => 66)) (fun _ => fun _ => 0)) (znd 68 (fun _ => (fun _ => 68)) (fun _ => fun _ => 0)))) (znd 73 (znd 71 (znd 70 (fun _ => (fun _ => 70)) (fun _ => fun _ => 0)) (znd 72 (fun _ => (fun _ => 72)) (fun _ => fun _ => 0))) (znd 75 (znd 74 (fun _ => (fun _ => 74)) (fun _ => fun _ => 0)) (znd 76 (fun _ => (znd 23 (znd 9 (znd 2 (znd 1 (fun _ => 76) (fun _ => 77)) (znd 7 (fun _ => 78) (znd 8 (fun _ => 79) (fun _ => 80)))) (znd 20 (znd 10 (fun _ => 81) (znd 13 (fun _ => 82) (fun _ => 83))) (znd 21 (fun _ => 84) (znd 22 (fun _ => 85) (fun _ => 86))))) (znd 32 (znd 26 (znd 24 (fun _ => 87) (znd 25 (fun _ => 88) (fun _ => 89))) (znd 27 (fun _ => 90) (znd 31 (fun _ => 91) (fun _ => 92)))) (znd 37 (znd 33 (fun _ => 93) (znd 35 (fun _ => 94) (fun _ => 95))) (znd 38 (fun _ => 96) (znd 39 (fun _ => 97) (fun _ => 98))))))) (fun _ => fun _ => 0))))))
def zcon (a i : Nat) : Int32 := bif Nat.beq a 200 then [11, 13, 17, 19, 23, 29, 31].getD i 0 else [(-1), (0), (1), (0), (2)].getD i 0
def znf : Nat → Nat := (znd 6 (znd 3 (znd 1 (fun _ => 5) (znd 2 (fun _ => 1) (fun _ => 5))) (znd 4 (fun _ => 6) (znd 5 (fun _ => 1) (fun _ => 6)))) (znd 9 (znd 7 (fun _ => 3) (znd 8 (fun _ => 8) (fun _ => 2))) (znd 10 (fun _ => 4) (znd 11 (fun _ => 11) (fun _ => 44)))))
def zrf : Nat → Nat → Bool := (znd 6 (znd 3 (znd 1 (fun _ => (znd 2 (znd 1 (fun _ => false) (fun _ => false)) (znd 3 (fun _ => false) (znd 4 (fun _ => false) (fun _ => true))))) (znd 2 (fun _ => (fun _ => true)) (fun _ => (znd 2 (znd 1 (fun _ => false) (fun _ => false)) (znd 3 (fun _ => false) (znd 4 (fun _ => false) (fun _ => false))))))) (znd 4 (fun _ => (znd 3 (znd 1 (fun _ => false) (znd 2 (fun _ => false) (fun _ => false))) (znd 4 (fun _ => true) (znd 5 (fun _ => true) (fun _ => true))))) (znd 5 (fun _ => (fun _ => true)) (fun _ => (znd 3 (znd 1 (fun _ => false) (znd 2 (fun _ => false) (fun _ => false))) (znd 4 (fun _ => true) (znd 5 (fun _ => true) (fun _ => true)))))))) (znd 9 (znd 7 (fun _ => (znd 1 (fun _ => true) (znd 2 (fun _ => false) (fun _ => false)))) (znd 8 (fun _ => (znd 4 (znd 2 (znd 1 (fun _ => false) (fun _ => false)) (znd 3 (fun _ => false) (fun _ => false))) (znd 6 (znd 5 (fun _ => true) (fun _ => true)) (znd 7 (fun _ => true) (fun _ => true))))) (fun _ => (znd 1 (fun _ => false) (fun _ => true))))) (znd 10 (fun _ => (znd 2 (znd 1 (fun _ => false) (fun _ => false)) (znd 3 (fun _ => false) (fun _ => true)))) (znd 11 (fun _ => (znd 5 (znd 2 (znd 1 (fun _ => true) (fun _ => true)) (znd 3 (fun _ => false) (znd 4 (fun _ => true) (fun _ => true)))) (znd 8 (znd 6 (fun _ => true) (znd 7 (fun _ => true) (fun _ => true))) (znd 9 (fun _ => true) (znd 10 (fun _ => true) (fun _ => true)))))) (fun _ => (znd 22 (znd 11 (znd 5 (znd 2 (znd 1 (fun _ => true) (fun _ => true)) (znd 3 (fun _ => true) (znd 4 (fun _ => false) (fun _ => false)))) (znd 8 (znd 6 (fun _ => false) (znd 7 (fun _ => false) (fun _ => true))) (znd 9 (fun _ => true) (znd 10 (fun _ => true) (fun _ => true))))) (znd 16 (znd 13 (znd 12 (fun _ => false) (fun _ => false)) (znd 14 (fun _ => true) (znd 15 (fun _ => false) (fun _ => false)))) (znd 19 (znd 17 (fun _ => false) (znd 18 (fun _ => false) (fun _ => false))) (znd 20 (fun _ => false) (znd 21 (fun _ => true) (fun _ => true)))))) (znd 33 (znd 27 (znd 24 (znd 23 (fun _ => true) (fun _ => true)) (znd 25 (fun _ => true) (znd 26 (fun _ => true) (fun _ => true)))) (znd 30 (znd 28 (fun _ => true) (znd 29 (fun _ => false) (fun _ => false))) (znd 31 (fun _ => false) (znd 32 (fun _ => true) (fun _ => true))))) (znd 38 (znd 35 (znd 34 (fun _ => true) (fun _ => false)) (znd 36 (fun _ => true) (znd 37 (fun _ => false) (fun _ => true)))) (znd 41 (znd 39 (fun _ => true) (znd 40 (fun _ => true) (fun _ => false))) (znd 42 (fun _ => false) (znd 43 (fun _ => false) (fun _ => false))))))))))))
def zsr (a : Nat) : Bool := Nat.beq a 5 || Nat.beq a 19 || Nat.beq a 64
def ztr (a : Nat) (f : Nat → Int32) (i : Nat) : Nat := bif zsr a then ztg a i else (f i).toNatClampNeg
def su (σ : zSt) (a i : Nat) (v : Int32) : zSt := fun b j => bif Nat.beq b a && Nat.beq j i then v else σ b j
def sw (σ : zSt) (a : Nat) (f : Nat → Int32) : zSt := fun b => bif Nat.beq b a then f else σ b
def zget : List (Option Value) → Nat → Option Value
  | [], _ => none
  | h :: _, 0 => h
  | _ :: t, n + 1 => zget t n
def zset : List (Option Value) → Nat → Value → List (Option Value)
  | [], _, _ => []
  | _ :: t, 0, v => some v :: t
  | h :: t, n + 1, v => h :: zset t n v
def zob (i : Int32) (n : Nat) : Bool := decide (i < 0) || Nat.ble n i.toNatClampNeg
def zld (σ : zSt) (a : Nat) (i : Int32) : Option Int32 := bif Nat.beq (zkd a) 100 then (bif zob i (zln a) then none else some (σ a i.toNatClampNeg)) else bif Nat.beq (zkd a) 105 then (bif zob i (zln a) then none else some (zcon a i.toNatClampNeg)) else none
def zst (σ : zSt) (a : Nat) (i v : Int32) : Option zSt := bif Nat.beq (zkd a) 100 then (bif zob i (zln a) then none else some (su σ a i.toNatClampNeg v)) else none
def zzld (σ : zSt) (a : Nat) (i : Int32) : Option Int32 := bif Nat.beq (zkd a) 101 then (bif zob i (zln a) then none else some (σ a i.toNatClampNeg)) else none
def zbo (v : Int32) : Bool := decide (v = 0) || decide (v = 1)
def zzst (σ : zSt) (a : Nat) (i v : Int32) : Option zSt := bif Nat.beq (zkd a) 101 then (bif zob i (zln a) || !zbo v then none else some (su σ a i.toNatClampNeg v)) else none
def zre (k : Nat) : Bool := Nat.beq k 102 || Nat.beq k 103 || Nat.beq k 104
def zlr (σ : zSt) (a : Nat) (i : Int32) : Option Nat := bif zre (zkd a) then (bif zob i (zln a) then none else some (ztr a (σ a) i.toNatClampNeg)) else none
def zsR (σ : zSt) (a : Nat) (i : Int32) (v : Nat) : Option zSt := bif ((Nat.beq (zkd a) 102 && Nat.beq (zkd v) 100) || (Nat.beq (zkd a) 103 && Nat.beq (zkd v) 2)) && Nat.blt v zNL && !zsr a then (bif zob i (zln a) then none else some (su σ a i.toNatClampNeg (Int32.ofNat v))) else none
def zcpy (σ : zSt) (a0 : Nat) (sp : Int32) (a : Nat) (dp n : Int32) : Option zSt := bif (Nat.beq (zkd a0) 100 && Nat.beq (zkd a) 100) && (!decide (sp < 0) && !decide (dp < 0) && !decide (n < 0)) && (Nat.ble (sp.toNatClampNeg + n.toNatClampNeg) (zln a0) && Nat.ble (dp.toNatClampNeg + n.toNatClampNeg) (zln a)) then some (sw σ a (va_cpy (σ a0) (σ a) sp.toNatClampNeg dp.toNatClampNeg n.toNatClampNeg)) else none
def zc1 (v : Value) : Bool := Nat.beq v.category 1
-- instructions
def zpush (n : Nat) (v : Int32) : zCfg → Option zCfg := fun (pc, L, S, σ) => some (pc + n, L, .int v :: S, σ)
def zil (n i : Nat) : zCfg → Option zCfg := fun (pc, L, S, σ) => match zget L i with
  | some (.int x) => some (pc + n, L, .int x :: S, σ)
  | _ => none
def zal (n i : Nat) : zCfg → Option zCfg := fun (pc, L, S, σ) => match zget L i with
  | some (.ref x) => some (pc + n, L, .ref x :: S, σ)
  | some .null => some (pc + n, L, .null :: S, σ)
  | _ => none
def zis (n i : Nat) : zCfg → Option zCfg := fun (pc, L, S, σ) => match S with
  | .int x :: S => some (pc + n, zset L i (.int x), S, σ)
  | _ => none
def zas (n i : Nat) : zCfg → Option zCfg := fun (pc, L, S, σ) => match S with
  | .ref x :: S => some (pc + n, zset L i (.ref x), S, σ)
  | .null :: S => some (pc + n, zset L i .null, S, σ)
  | _ => none
def zinc (i : Nat) (v : Int32) : zCfg → Option zCfg := fun (pc, L, S, σ) => match zget L i with
  | some (.int x) => some (pc + 3, zset L i (.int (x + v)), S, σ)
  | _ => none
def zbin (op : Int32 → Int32 → Int32) : zCfg → Option zCfg := fun (pc, L, S, σ) => match S with
  | .int y :: .int x :: S => some (pc + 1, L, .int (op x y) :: S, σ)
  | _ => none
def zdvq (x y : Int32) : Option Int32 := if y = 0 then none else some (x / y)
def zrmq (x y : Int32) : Option Int32 := if y = 0 then none else some (x - x / y * y)
def zdiv (q : Int32 → Int32 → Option Int32) : zCfg → Option zCfg := fun (pc, L, S, σ) => match S with
  | .int y :: .int x :: S => match q x y with
    | some z => some (pc + 1, L, .int z :: S, σ)
    | none => none
  | _ => none
def zmm (op : Int32 → Int32 → Int32) : zCfg → Option zCfg := fun (pc, L, S, σ) => match S with
  | .int y :: .int x :: S => bif S.all zc1 && Nat.ble S.length 8 then some (pc + 3, L, .int (op x y) :: S, σ) else none
  | _ => none
def zneg : zCfg → Option zCfg := fun (pc, L, S, σ) => match S with
  | .int x :: S => some (pc + 1, L, .int (-x) :: S, σ)
  | _ => none
def zdup : zCfg → Option zCfg := fun (pc, L, S, σ) => match S with
  | v :: S => bif zc1 v then some (pc + 1, L, v :: v :: S, σ) else none
  | _ => none
def zdup2 : zCfg → Option zCfg := fun (pc, L, S, σ) => match S with
  | v :: w :: S => bif zc1 v && zc1 w then some (pc + 1, L, v :: w :: v :: w :: S, σ) else none
  | _ => none
def zpop : zCfg → Option zCfg := fun (pc, L, S, σ) => match S with
  | v :: S => bif zc1 v then some (pc + 1, L, S, σ) else none
  | _ => none
def zgoto (t : Nat) : zCfg → Option zCfg := fun (_, L, S, σ) => some (t, L, S, σ)
def znul : zCfg → Option zCfg := fun (pc, L, S, σ) => some (pc + 1, L, .null :: S, σ)
def zifn (t : Nat) : zCfg → Option zCfg := fun (pc, L, S, σ) => match S with
  | .null :: S => some (t, L, S, σ)
  | .ref _ :: S => some (pc + 3, L, S, σ)
  | _ => none
def zifnn (t : Nat) : zCfg → Option zCfg := fun (pc, L, S, σ) => match S with
  | .null :: S => some (pc + 3, L, S, σ)
  | .ref _ :: S => some (t, L, S, σ)
  | _ => none
def zsw (d : Nat) : List (Int32 × Nat) → Int32 → Nat
  | [], _ => d
  | (k, t) :: r, x => if x = k then t else zsw d r x
def zswi (d : Nat) (cs : List (Int32 × Nat)) : zCfg → Option zCfg := fun (_, L, S, σ) => match S with
  | .int x :: S => some (zsw d cs x, L, S, σ)
  | _ => none
def zgI (c k : Nat) : zCfg → Option zCfg := fun (pc, L, S, σ) => match S with
  | .ref a :: S => bif Nat.beq (zkd a) c then some (pc + 3, L, .int (σ a k) :: S, σ) else none
  | _ => none
def zgR (c k : Nat) : zCfg → Option zCfg := fun (pc, L, S, σ) => match S with
  | .ref a :: S => bif Nat.beq (zkd a) c then some (pc + 3, L, .ref (ztg a k) :: S, σ) else none
  | _ => none
def zpI (c k : Nat) : zCfg → Option zCfg := fun (pc, L, S, σ) => match S with
  | .int v :: .ref a :: S => bif Nat.beq (zkd a) c then some (pc + 3, L, S, su σ a k v) else none
  | _ => none
def zpZ (c k : Nat) : zCfg → Option zCfg := fun (pc, L, S, σ) => match S with
  | .int v :: .ref a :: S => bif Nat.beq (zkd a) c && zbo v then some (pc + 3, L, S, su σ a k v) else none
  | _ => none
def zia : zCfg → Option zCfg := fun (pc, L, S, σ) => match S with
  | .int i :: .ref a :: S => match zld σ a i with
    | some v => some (pc + 1, L, .int v :: S, σ)
    | none => none
  | _ => none
def zia' : zCfg → Option zCfg := fun (pc, L, S, σ) => match S with
  | .int v :: .int i :: .ref a :: S => match zst σ a i v with
    | some σ => some (pc + 1, L, S, σ)
    | none => none
  | _ => none
def zba : zCfg → Option zCfg := fun (pc, L, S, σ) => match S with
  | .int i :: .ref a :: S => match zzld σ a i with
    | some v => some (pc + 1, L, .int v :: S, σ)
    | none => none
  | _ => none
def zba' : zCfg → Option zCfg := fun (pc, L, S, σ) => match S with
  | .int v :: .int i :: .ref a :: S => match zzst σ a i v with
    | some σ => some (pc + 1, L, S, σ)
    | none => none
  | _ => none
def zaa : zCfg → Option zCfg := fun (pc, L, S, σ) => match S with
  | .int i :: .ref a :: S => match zlr σ a i with
    | some v => some (pc + 1, L, .ref v :: S, σ)
    | none => none
  | _ => none
def zaa' : zCfg → Option zCfg := fun (pc, L, S, σ) => match S with
  | .ref v :: .int i :: .ref a :: S => match zsR σ a i v with
    | some σ => some (pc + 1, L, S, σ)
    | none => none
  | _ => none
def zle : zCfg → Option zCfg := fun (pc, L, S, σ) => match S with
  | .ref a :: S => bif Nat.beq (zkd a) 100 || Nat.beq (zkd a) 105 then some (pc + 1, L, .int (Int32.ofNat (zln a)) :: S, σ) else none
  | _ => none
def zgs (b : Nat) : zCfg → Option zCfg := fun (pc, L, S, σ) => some (pc + 3, L, .ref b :: S, σ)
def zsl (L0 : Nat) : zCfg → Option zCfg := fun (pc, L, S, σ) => match S with
  | .ref a :: S => bif Nat.beq a 202 then some (pc + 1, L, .int (Int32.ofNat L0) :: S, σ) else none
  | _ => none
def zsdq (xs : Nat → Int32) (L0 a : Nat) (i : Int32) : Option Int32 := bif zob i L0 || !Nat.beq a 202 then none else some (xs i.toNatClampNeg)
def zsd (xs : Nat → Int32) (L0 : Nat) : zCfg → Option zCfg := fun (pc, L, S, σ) => match S with
  | .int i :: .ref a :: S => match zsdq xs L0 a i with
    | some v => some (pc + 1, L, .int v :: S, σ)
    | none => none
  | _ => none
def zcp : zCfg → Option zCfg := fun (pc, L, S, σ) => match S with
  | .int n :: .int dp :: .ref a :: .int sp :: .ref a0 :: S => bif S.all zc1 && Nat.ble S.length 8 then (match zcpy σ a0 sp a dp n with
    | some σ => some (pc + 3, L, S, σ)
    | none => none) else none
  | _ => none
def zi_eq (t : Nat) : zCfg → Option zCfg := fun (pc, L, S, σ) => match S with
  | .int x :: S => some (if x = 0 then t else pc + 3, L, S, σ)
  | _ => none
def zi_ne (t : Nat) : zCfg → Option zCfg := fun (pc, L, S, σ) => match S with
  | .int x :: S => some (if ¬ x = 0 then t else pc + 3, L, S, σ)
  | _ => none
def zi_lt (t : Nat) : zCfg → Option zCfg := fun (pc, L, S, σ) => match S with
  | .int x :: S => some (if x < 0 then t else pc + 3, L, S, σ)
  | _ => none
def zi_ge (t : Nat) : zCfg → Option zCfg := fun (pc, L, S, σ) => match S with
  | .int x :: S => some (if 0 ≤ x then t else pc + 3, L, S, σ)
  | _ => none
def zi_gt (t : Nat) : zCfg → Option zCfg := fun (pc, L, S, σ) => match S with
  | .int x :: S => some (if 0 < x then t else pc + 3, L, S, σ)
  | _ => none
def zi_le (t : Nat) : zCfg → Option zCfg := fun (pc, L, S, σ) => match S with
  | .int x :: S => some (if x ≤ 0 then t else pc + 3, L, S, σ)
  | _ => none
def zc_eq (t : Nat) : zCfg → Option zCfg := fun (pc, L, S, σ) => match S with
  | .int y :: .int x :: S => some (if x = y then t else pc + 3, L, S, σ)
  | _ => none
def zc_ne (t : Nat) : zCfg → Option zCfg := fun (pc, L, S, σ) => match S with
  | .int y :: .int x :: S => some (if ¬ x = y then t else pc + 3, L, S, σ)
  | _ => none
def zc_lt (t : Nat) : zCfg → Option zCfg := fun (pc, L, S, σ) => match S with
  | .int y :: .int x :: S => some (if x < y then t else pc + 3, L, S, σ)
  | _ => none
def zc_ge (t : Nat) : zCfg → Option zCfg := fun (pc, L, S, σ) => match S with
  | .int y :: .int x :: S => some (if y ≤ x then t else pc + 3, L, S, σ)
  | _ => none
def zc_gt (t : Nat) : zCfg → Option zCfg := fun (pc, L, S, σ) => match S with
  | .int y :: .int x :: S => some (if y < x then t else pc + 3, L, S, σ)
  | _ => none
def zc_le (t : Nat) : zCfg → Option zCfg := fun (pc, L, S, σ) => match S with
  | .int y :: .int x :: S => some (if x ≤ y then t else pc + 3, L, S, σ)
  | _ => none
-- runs
def zrt (rk : Nat) (S : List Value) : Option (Option Value) := match rk, S with
  | 0, [] => some none
  | 1, [.int v] => some (some (.int v))
  | 2, [.int v] => bif zbo v then some (some (.int v)) else none
  | 3, [.ref a] => some (some (.ref a))
  | 3, [.null] => some (some .null)
  | _, _ => none
def zent (nL : Nat) (as : List Value) : List (Option Value) := as.map some ++ List.replicate (nL - as.length) none
def zrc (rc : Nat) (as : List Value) : Bool := match rc, as with
  | 0, _ => true
  | c + 1, .ref a :: _ => Nat.beq (zkd a) c
  | _, _ => false
def zlf {α : Type} (n : Nat) (a : α) : Nat → Option α := fun pc => bif Nat.beq pc n then some a else none
def zca (t rc : Nat) (S : List Value) : Option (List Value × List Value) := bif Nat.ble t S.length && (S.drop t).all zc1 && Nat.ble (S.drop t).length 8 && (S.take t).all zc1 && zrc rc (S.take t).reverse then some ((S.take t).reverse, S.drop t) else none
def zrun (PT : Nat → Nat → Option zAI) (ml : Nat → Nat) : Nat → (Nat → Option zAI) → zCfg → Option (Option Value × zSt)
  | 0, _, _ => none
  | n + 1, P, cf => match P cf.1 with
    | none => none
    | some (.inl f) => match f cf with
      | none => none
      | some cf' => zrun PT ml n P cf'
    | some (.inr (.inl (k, t, rc))) => match zca t rc cf.2.2.1 with
      | none => none
      | some (as, rest) => match zrun PT ml n (PT k) (0, zent (ml k) as, [], cf.2.2.2) with
        | none => none
        | some (r, σ') => zrun PT ml n P (cf.1 + 3, cf.2.1, r.toList ++ rest, σ')
    | some (.inr (.inr rk)) => match zrt rk cf.2.2.1 with
      | none => none
      | some r => some (r, cf.2.2.2)
theorem zrun_mono {PT : Nat → Nat → Option zAI} {ml : Nat → Nat} : ∀ (n : Nat) (P : Nat → Option zAI) (cf : zCfg) (R : Option Value × zSt), zrun PT ml n P cf = some R → zrun PT ml (n + 1) P cf = some R := by
  intro n
  induction n with
  | zero => intro P cf R h; cases h
  | succ n ih =>
    intro P cf R h
    rw [zrun] at h
    rw [zrun]
    cases hp : P cf.1 with
    | none => rw [hp] at h; cases h
    | some a =>
      rw [hp] at h
      rcases a with f | ⟨k, t, rc⟩ | rk
      · dsimp only at h ⊢
        cases hf : f cf with
        | none => rw [hf] at h; cases h
        | some cf' => rw [hf] at h; exact ih _ _ _ h
      · dsimp only at h ⊢
        cases hc : zca t rc cf.2.2.1 with
        | none => rw [hc] at h; cases h
        | some q =>
          obtain ⟨as, rest⟩ := q
          rw [hc] at h
          dsimp only at h ⊢
          cases hr : zrun PT ml n (PT k) (0, zent (ml k) as, [], cf.2.2.2) with
          | none => rw [hr] at h; cases h
          | some q2 =>
            obtain ⟨r, σ'⟩ := q2
            rw [hr] at h
            rw [ih _ _ _ hr]
            exact ih _ _ _ h
      · exact h
theorem zrun_le {PT : Nat → Nat → Option zAI} {ml : Nat → Nat} {n k : Nat} {P : Nat → Option zAI} {cf : zCfg} {R : Option Value × zSt} (hk : n ≤ k) (h : zrun PT ml n P cf = some R) : zrun PT ml k P cf = some R := by
  obtain ⟨d, rfl⟩ := Nat.le.dest hk
  induction d with
  | zero => exact h
  | succ d ih => exact zrun_mono _ _ _ _ (ih (Nat.le_add_right _ _))
def zGo (PT : Nat → Nat → Option zAI) (ml : Nat → Nat) (P : Nat → Option zAI) (cf : zCfg) (R : Option Value × zSt) : Prop := ∃ n, zrun PT ml n P cf = some R
theorem zGo.st {PT : Nat → Nat → Option zAI} {ml : Nat → Nat} {P : Nat → Option zAI} {cf cf' : zCfg} {R : Option Value × zSt} {f : zCfg → Option zCfg} (hp : P cf.1 = some (.inl f)) (hf : f cf = some cf') (h : zGo PT ml P cf' R) : zGo PT ml P cf R := by
  obtain ⟨n, h⟩ := h
  exact ⟨n + 1, by rw [zrun, hp]; dsimp only; rw [hf]; exact h⟩
theorem zGo.call {PT : Nat → Nat → Option zAI} {ml : Nat → Nat} {P : Nat → Option zAI} {pc : Nat} {L : List (Option Value)} {S : List Value} {σ σ' : zSt} {R : Option Value × zSt} {k t rc : Nat} {as rest : List Value} {r : Option Value} (hp : P pc = some (.inr (.inl (k, t, rc)))) (hc : zca t rc S = some (as, rest)) (hg : zGo PT ml (PT k) (0, zent (ml k) as, [], σ) (r, σ')) (h : zGo PT ml P (pc + 3, L, r.toList ++ rest, σ') R) : zGo PT ml P (pc, L, S, σ) R := by
  obtain ⟨n, h⟩ := h
  obtain ⟨k2, hg⟩ := hg
  refine ⟨max n k2 + 1, ?_⟩
  rw [zrun]
  dsimp only
  rw [hp]
  dsimp only
  rw [hc]
  dsimp only
  rw [zrun_le (Nat.le_max_right n k2) hg]
  exact zrun_le (Nat.le_max_left n k2) h
theorem zGo.ret {PT : Nat → Nat → Option zAI} {ml : Nat → Nat} {P : Nat → Option zAI} {pc : Nat} {L : List (Option Value)} {S : List Value} {σ : zSt} {rk : Nat} {r : Option Value} (hp : P pc = some (.inr (.inr rk))) (hr : zrt rk S = some r) : zGo PT ml P (pc, L, S, σ) (r, σ) := ⟨1, by rw [zrun]; dsimp only; rw [hp]; dsimp only; rw [hr]⟩
/-- straight stretches: so many instructions without a call -/
def zsts (P : Nat → Option zAI) : Nat → zCfg → Option zCfg
  | 0, cf => some cf
  | n + 1, cf => match P cf.1 with
    | some (.inl f) => match f cf with
      | some cf' => zsts P n cf'
      | none => none
    | _ => none
theorem zGo.sts {PT : Nat → Nat → Option zAI} {ml : Nat → Nat} {P : Nat → Option zAI} (n : Nat) : ∀ {cf cf' : zCfg} {R : Option Value × zSt}, zsts P n cf = some cf' → zGo PT ml P cf' R → zGo PT ml P cf R := by
  induction n with
  | zero => intro cf cf' R h g; cases h; exact g
  | succ n ih =>
    intro cf cf' R h g
    rw [zsts] at h
    split at h
    · next f hp =>
      split at h
      · next cf2 hf => exact zGo.st hp hf (ih h g)
      · cases h
    · cases h

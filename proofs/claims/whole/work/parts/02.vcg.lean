/-! A SMALL VERIFIED GENERATOR OF CONDITIONS: methods that make no cell, over a world of fixed cells.
A value is an int, a cell (by its place), or a row of a square of 12 by 12 (by the square's place and the row's number).
A cell is an object (its class in vwCl, its fields), an int array, or a square. -/
abbrev zV : Type := Int32 ⊕ (Nat ⊕ (Nat × Nat))
abbrev zC : Type := (Nat × List zV) ⊕ ((Nat × (Nat → Int32)) ⊕ (Nat → Nat → Int32))
abbrev zS : Type := List zC
abbrev zI : Type := Nat × Instr × Nat × Nat × Int32
/-- what is known of a state: store, place, locals, stack -/
abbrev zH : Type := zS → Nat → List (Option zV) → List zV → Prop
abbrev zP : Type := Option zV → zS → Prop
abbrev zK : Type := List zV → zS → zP → Prop
abbrev zA : Type := (Nat → Nat) × (Nat → Nat → Nat) × ClassId × ClassId
/-- a field: pool number, class, slot, kind (0: only read, 1: int, 2: boolean) -/
abbrev zF : Type := Nat × Nat × Nat × Nat
/-- a call: pool number, how many arguments, the receiver's class (100: static, 101: static of a nest mate), the callee's contract -/
abbrev zL : Type := Nat × Nat × Nat × zK
/-- a method: instructions, fields, constants, calls, calls of the library (0 System.arraycopy, 1 Math.max, 2 Math.min), what it answers (0 nothing, 1 an int, 2 a boolean) -/
abbrev zM : Type := List zI × List zF × List (Nat × Int32) × List zL × List (Nat × Nat) × Nat
def zq_f {β : Type} (k : Nat) : List (Nat × β) → Option β
  | [] => none
  | q :: l => cond (Nat.beq k q.1) (some q.2) (zq_f k l)
def zq_in (k : Nat) : List Nat → Bool
  | [] => false
  | q :: l => cond (Nat.beq k q) true (zq_in k l)
def imax (a b : Int32) : Int32 := if a < b then b else a
def imin (a b : Int32) : Int32 := if b < a then b else a
def zup (f : Nat → Nat → Int32) (j : Nat) (g : Nat → Int32) : Nat → Nat → Int32 := fun q => if q = j then g else f q
def zcd (o : Jvm.ClassFile.Cond) (x y : Int32) (A B : Prop) : Prop :=
  match o with
  | .eq => (x = y → A) ∧ (¬ x = y → B)
  | .ne => (¬ x = y → A) ∧ (x = y → B)
  | .lt => (x < y → A) ∧ (¬ x < y → B)
  | .ge => (y ≤ x → A) ∧ (¬ y ≤ x → B)
  | .gt => (y < x → A) ∧ (¬ y < x → B)
  | .le => (x ≤ y → A) ∧ (¬ x ≤ y → B)
def zpt (kd : Nat) (x : Int32) (A : Prop) : Prop :=
  match kd with
  | 1 => A
  | 2 => (x = 0 ∨ x = 1) ∧ A
  | _ => False
/-- what must hold ahead of an instruction, so that K holds behind it (Q: behind the method) -/
def zex (M : zM) (Q : zP) (pc : Nat) (i : Instr) (nx tg : Nat) (iv : Int32) (σ : zS) (lv : List (Option zV)) (st : List zV) (K : zH) : Prop :=
  match i with
  | .iload_n k => match lv[k.val]? with
    | some (some (.inl x)) => K σ nx lv (.inl x :: st)
    | _ => False
  | .iload k => match lv[k]? with
    | some (some (.inl x)) => K σ nx lv (.inl x :: st)
    | _ => False
  | .aload_n k => match lv[k.val]? with
    | some (some (.inr x)) => K σ nx lv (.inr x :: st)
    | _ => False
  | .iconst _ => K σ nx lv (.inl iv :: st)
  | .bipush _ => K σ nx lv (.inl iv :: st)
  | .sipush _ => K σ nx lv (.inl iv :: st)
  | .ldc n => match zq_f n M.2.2.1 with
    | some v => K σ nx lv (.inl v :: st)
    | none => False
  | .ldc_w n => match zq_f n M.2.2.1 with
    | some v => K σ nx lv (.inl v :: st)
    | none => False
  | .istore_n k => match st, lv[k.val]? with
    | .inl x :: r, some _ => K σ nx (lv.set k.val (some (.inl x))) r
    | _, _ => False
  | .istore k => match st, lv[k]? with
    | .inl x :: r, some _ => K σ nx (lv.set k (some (.inl x))) r
    | _, _ => False
  | .iinc k _ => match lv[k]? with
    | some (some (.inl x)) => K σ nx (lv.set k (some (.inl (x + iv)))) st
    | _ => False
  | .iadd => match st with
    | .inl y :: .inl x :: r => K σ nx lv (.inl (x + y) :: r)
    | _ => False
  | .isub => match st with
    | .inl y :: .inl x :: r => K σ nx lv (.inl (x - y) :: r)
    | _ => False
  | .imul => match st with
    | .inl y :: .inl x :: r => K σ nx lv (.inl (x * y) :: r)
    | _ => False
  | .iand => match st with
    | .inl y :: .inl x :: r => K σ nx lv (.inl (x &&& y) :: r)
    | _ => False
  | .ior => match st with
    | .inl y :: .inl x :: r => K σ nx lv (.inl (x ||| y) :: r)
    | _ => False
  | .ixor => match st with
    | .inl y :: .inl x :: r => K σ nx lv (.inl (x ^^^ y) :: r)
    | _ => False
  | .ishl => match st with
    | .inl y :: .inl x :: r => K σ nx lv (.inl (x <<< (y &&& 31)) :: r)
    | _ => False
  | .ishr => match st with
    | .inl y :: .inl x :: r => K σ nx lv (.inl (x >>> (y &&& 31)) :: r)
    | _ => False
  | .iushr => match st with
    | .inl y :: .inl x :: r => K σ nx lv (.inl (x.toUInt32 >>> (y.toUInt32 &&& Int32.toUInt32 31)).toInt32 :: r)
    | _ => False
  | .ineg => match st with
    | .inl x :: r => K σ nx lv (.inl (-x) :: r)
    | _ => False
  | .dup => match st with
    | v :: r => K σ nx lv (v :: v :: r)
    | _ => False
  | .dup2 => match st with
    | v :: w :: r => K σ nx lv (v :: w :: v :: w :: r)
    | _ => False
  | .goto _ => K σ tg lv st
  | .ifCond o _ => match st with
    | .inl x :: r => zcd o x 0 (K σ tg lv r) (K σ nx lv r)
    | _ => False
  | .if_icmp o _ => match st with
    | .inl y :: .inl x :: r => zcd o x y (K σ tg lv r) (K σ nx lv r)
    | _ => False
  | .getfield n => match st, zq_f n M.2.1 with
    | .inr (.inl k) :: r, some (ci, j, _) => (match σ[k]? with
      | some (.inl (c', fs)) => cond (Nat.beq c' ci) (match fs[j]? with
        | some v => K σ nx lv (v :: r)
        | none => False) False
      | _ => False)
    | _, _ => False
  | .putfield n => match st, zq_f n M.2.1 with
    | .inl x :: .inr (.inl k) :: r, some (ci, j, kd) => (match σ[k]? with
      | some (.inl (c', fs)) => cond (Nat.beq c' ci) (match fs[j]? with
        | some _ => zpt kd x (K (σ.set k (.inl (c', fs.set j (.inl x)))) nx lv r)
        | none => False) False
      | _ => False)
    | _, _ => False
  | .iaload => match st with
    | .inl j :: .inr (.inl k) :: r => (match σ[k]? with
      | some (.inr (.inl (n, f))) => vp_in j n ∧ K σ nx lv (.inl (f j.toNatClampNeg) :: r)
      | _ => False)
    | .inl j :: .inr (.inr (k, i)) :: r => (match σ[k]? with
      | some (.inr (.inr f)) => (i < 12 ∧ vp_in j 12) ∧ K σ nx lv (.inl (f i j.toNatClampNeg) :: r)
      | _ => False)
    | _ => False
  | .iastore => match st with
    | .inl x :: .inl j :: .inr (.inl k) :: r => (match σ[k]? with
      | some (.inr (.inl (n, f))) => vp_in j n ∧ K (σ.set k (.inr (.inl (n, upd f j.toNatClampNeg x)))) nx lv r
      | _ => False)
    | .inl x :: .inl j :: .inr (.inr (k, i)) :: r => (match σ[k]? with
      | some (.inr (.inr f)) => (i < 12 ∧ vp_in j 12) ∧ K (σ.set k (.inr (.inr (zup f i (upd (f i) j.toNatClampNeg x))))) nx lv r
      | _ => False)
    | _ => False
  | .aaload => match st with
    | .inl j :: .inr (.inl k) :: r => (match σ[k]? with
      | some (.inr (.inr _)) => vp_in j 12 ∧ K σ nx lv (.inr (.inr (k, j.toNatClampNeg)) :: r)
      | _ => False)
    | _ => False
  | .arraylength => match st with
    | .inr (.inl k) :: r => (match σ[k]? with
      | some (.inr (.inl (n, _))) => K σ nx lv (.inl (Int32.ofNat n) :: r)
      | _ => False)
    | .inr (.inr (k, i)) :: r => (match σ[k]? with
      | some (.inr (.inr _)) => i < 12 ∧ K σ nx lv (.inl (Int32.ofNat 12) :: r)
      | _ => False)
    | _ => False
  | .ireturn => match st with
    | [.inl x] => zpt M.2.2.2.2.2 x (Q (some (.inl x)) σ)
    | _ => False
  | .return_ => match M.2.2.2.2.2, st with
    | 0, [] => Q none σ
    | _, _ => False
  | .tableswitch d lo hi offs => match st with
    | .inl x :: r => (x.toInt < lo ∨ hi < x.toInt → K σ (((pc : Int) + d).toNat) lv r) ∧ ∀ off, ¬ x.toInt < lo → ¬ hi < x.toInt → offs[(x.toInt - lo).toNat]? = some off → K σ (((pc : Int) + off).toNat) lv r
    | _ => False
  | .invokevirtual n => match zq_f n M.2.2.2.1 with
    | some (na, ci, C) => (match (st.take (na + 1)).reverse with
      | .inr (.inl k) :: as => (match σ[k]? with
        | some (.inl (c', _)) => cond (Nat.beq c' ci && (Nat.ble (st.drop (na + 1)).length 8 && Nat.beq as.length na)) (C (.inr (.inl k) :: as) σ (fun r σ' => K σ' nx lv (r.toList ++ st.drop (na + 1)))) False
        | _ => False)
      | _ => False)
    | none => False
  | .invokestatic n => match zq_f n M.2.2.2.2.1 with
    | some 0 => (match st with
      | .inl c :: .inl dp :: .inr (.inr (kd, jd)) :: .inl sp :: .inr (.inr (ks, js)) :: r => (match σ[kd]?, σ[ks]? with
        | some (.inr (.inr g)), some (.inr (.inr f)) => cond (Nat.ble r.length 8) ((jd < 12 ∧ js < 12 ∧ sp = 0 ∧ dp = 0 ∧ c = 12) ∧ K (σ.set kd (.inr (.inr (zup g jd (va_cpy (f js) (g jd) 0 0 12))))) nx lv r) False
        | _, _ => False)
      | _ => False)
    | some 1 => (match st with
      | .inl y :: .inl x :: r => cond (Nat.ble r.length 8) (K σ nx lv (.inl (imax x y) :: r)) False
      | _ => False)
    | some _ => (match st with
      | .inl y :: .inl x :: r => cond (Nat.ble r.length 8) (K σ nx lv (.inl (imin x y) :: r)) False
      | _ => False)
    | none => (match zq_f n M.2.2.2.1 with
      | some (na, ci, C) => cond (Nat.ble 100 ci && (Nat.ble (st.drop na).length 8 && Nat.beq (st.take na).length na)) (C (st.take na).reverse σ (fun r σ' => K σ' nx lv (r.toList ++ st.drop na))) False
      | none => False)
  | _ => False
def zst (M : zM) (Q : zP) (σ : zS) (pc : Nat) (lv : List (Option zV)) (st : List zV) (K : zH) : Prop :=
  match zq_f pc M.1 with
  | some (i, nx, tg, iv) => zex M Q pc i nx tg iv σ lv st K
  | none => False
/-- from here up to the first place of S that is come to -/
def zwp (M : zM) (Q : zP) (S : List Nat) : Nat → zS → Nat → List (Option zV) → List zV → zH → Prop
  | 0, _, _, _, _, _ => False
  | n + 1, σ, pc, lv, st, K => zst M Q σ pc lv st (fun σ' pc' lv' st' => cond (zq_in pc' S) (K σ' pc' lv' st') (zwp M Q S n σ' pc' lv' st' K))
/-- a predicate of states that every good end of a walk is in -/
def zcl (M : zM) (Q : zP) (Z : zH) : Prop := ∀ (S : List Nat) (n : Nat) (σ : zS) (pc : Nat) (lv : List (Option zV)) (st : List zV), zwp M Q S n σ pc lv st Z → Z σ pc lv st

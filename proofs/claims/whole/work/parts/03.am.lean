/-! AN ABSTRACT MACHINE: ints are Int (with their range asked), references are numbers of cells, the heap is a state of a type S behind a dictionary; steps in continuation form -/
abbrev AV : Type := Int ⊕ (Int ⊕ (Nat ⊕ (UInt32 ⊕ UInt64)))
abbrev aI (x : Int) : AV := .inl x
abbrev aJ (x : Int) : AV := .inr (.inl x)
abbrev aR (k : Nat) : AV := .inr (.inr (.inl k))
abbrev aF (b : UInt32) : AV := .inr (.inr (.inr (.inl b)))
abbrev aD (b : UInt64) : AV := .inr (.inr (.inr (.inr b)))
def acat : AV → Nat
  | .inl _ => 1
  | .inr (.inl _) => 2
  | .inr (.inr (.inl _)) => 1
  | .inr (.inr (.inr (.inl _))) => 1
  | .inr (.inr (.inr (.inr _))) => 2
abbrev AL : Type := List (Nat × AV)
abbrev AS : Type := List AV
/-- a result: returned (with a value or none), or thrown (a kind of exception) -/
abbrev AO : Type := Option AV ⊕ Nat
def gd {α : Type} (c : Prop) [Decidable c] (k : Option α) : Option α := if c then k else none
def bnd {α γ : Type} (x : Option α) (k : α → Option γ) : Option γ := match x with
  | some a => k a
  | none => none
theorem gd_t {α : Type} {c : Prop} [Decidable c] {k : Option α} (h : c) : gd c k = k := if_pos h
theorem gd_some {α : Type} {c : Prop} [Decidable c] {k : Option α} {b : α} (h : gd c k = some b) : c ∧ k = some b := by
  unfold gd at h
  split at h
  · exact ⟨by assumption, h⟩
  · cases h
theorem bnd_some {α γ : Type} (a : α) (k : α → Option γ) : bnd (some a) k = k a := rfl
theorem bnd_of {α γ : Type} {x : Option α} {k : α → Option γ} {b : γ} (h : bnd x k = some b) : ∃ a, x = some a ∧ k a = some b := by
  cases x with
  | none => cases h
  | some a => exact ⟨a, rfl, h⟩
abbrev R32 (x : Int) : Prop := -2147483648 ≤ x ∧ x ≤ 2147483647
abbrev n32 (r : UInt32) : Prop := r &&& 0x7fffffff ≤ 0x7f800000
abbrev n64 (r : UInt64) : Prop := r &&& 0x7fffffffffffffff ≤ 0x7ff0000000000000
abbrev R64 (x : Int) : Prop := -9223372036854775808 ≤ x ∧ x ≤ 9223372036854775807
def setL1 (i : Nat) (v : AV) (l : AL) : AL := (i, v) :: l.filter (fun q => !(q.1 == i) && !(q.1 + 1 == i && acat q.2 == 2))
def setL2 (i : Nat) (v : AV) (l : AL) : AL := (i, v) :: l.filter (fun q => !(q.1 == i) && (!(q.1 == i + 1) && !(q.1 + 1 == i && acat q.2 == 2)))
def delL (i : Nat) (l : AL) : AL := l.filter (fun q => !(q.1 == i) && !(q.1 + 1 == i && acat q.2 == 2))
def getL (i : Nat) : AL → Option AV
  | [] => none
  | q :: l => bif Nat.beq q.1 i then some q.2 else getL i l
def sumc : AS → Nat
  | [] => 0
  | v :: l => acat v + sumc l
def andI (x y : Int) : Int := (Int32.ofInt x &&& Int32.ofInt y).toInt
def orI (x y : Int) : Int := (Int32.ofInt x ||| Int32.ofInt y).toInt
def xorI (x y : Int) : Int := (Int32.ofInt x ^^^ Int32.ofInt y).toInt
def shlI (x y : Int) : Int := (Int32.ofInt x <<< (Int32.ofInt y &&& 31)).toInt
def shrI (x y : Int) : Int := (Int32.ofInt x >>> (Int32.ofInt y &&& 31)).toInt
def ushrI (x y : Int) : Int := ((Int32.ofInt x).toUInt32 >>> ((Int32.ofInt y).toUInt32 &&& Int32.toUInt32 31)).toInt32.toInt
def cmpI (x y : Int) : Int := if x > y then 1 else if x = y then 0 else -1
/-- a row of a method's code: its length, the instruction, three numbers that were resolved ahead -/
abbrev ARow : Type := Nat × Instr × Nat × Nat × Nat
section AM
variable {S β : Type} (rI rJ : S → Nat → Int → Int) (rD : S → Nat → Int → UInt64) (rR : S → Nat → Int → Nat) (wI wJ : S → Nat → Int → Int → Option S) (wD : S → Nat → Int → UInt64 → Option S) (wR : S → Nat → Int → Nat → Option S) (wC : S → Nat → (Int → Int) → Option S) (ok : S → Nat → Nat → Bool) (ln : Nat → Int) (nO : S → Nat → Option (Nat × S)) (nA : S → Nat → Int → Option (Nat × S)) (nM : S → Int → Int → Option (Nat × S))
variable (hd : Nat → Nat → Option (Nat × Nat)) (kr : Option AV → S → Option β) (kx : Nat → S → Option β) (cl : Nat → AS → S → (AO → S → Option β) → Option β)
/-- branch on a condition of one int -/
def ifz (c : Jvm.ClassFile.Cond) (x : Int) (a b : Option β) : Option β := match c with
  | .eq => if x = 0 then a else b
  | .ne => if x = 0 then b else a
  | .lt => if x < 0 then a else b
  | .ge => if x < 0 then b else a
  | .gt => if 0 < x then a else b
  | .le => if 0 < x then b else a
def ifi (c : Jvm.ClassFile.Cond) (x y : Int) (a b : Option β) : Option β := match c with
  | .eq => if x = y then a else b
  | .ne => if x = y then b else a
  | .lt => if x < y then a else b
  | .ge => if x < y then b else a
  | .gt => if y < x then a else b
  | .le => if y < x then b else a
def swt (x : Int) (d : Option β) (k : Nat → Option β) (pc : Nat) : Int → List Int → Option β
  | _, [] => d
  | lo, o :: os => if x = lo then k ((pc : Int) + o).toNat else swt x d k pc (lo + 1) os
def stp (r : ARow) (pc : Nat) (l : AL) (st : AS) (s : S) (k : Nat → AL → AS → S → Option β) : Option β :=
  match r.2.1 with
  | .iload_n i => match getL i.val l with | some (.inl x) => k (pc + 1) l (aI x :: st) s | _ => none
  | .iload i => match getL i l with | some (.inl x) => k (pc + 2) l (aI x :: st) s | _ => none
  | .lload_n i => match getL i.val l with | some (.inr (.inl x)) => k (pc + 1) l (aJ x :: st) s | _ => none
  | .lload i => match getL i l with | some (.inr (.inl x)) => k (pc + 2) l (aJ x :: st) s | _ => none
  | .aload_n i => match getL i.val l with | some (.inr (.inr (.inl x))) => k (pc + 1) l (aR x :: st) s | _ => none
  | .aload i => match getL i l with | some (.inr (.inr (.inl x))) => k (pc + 2) l (aR x :: st) s | _ => none
  | .fload i => match getL i l with | some (.inr (.inr (.inr (.inl x)))) => k (pc + 2) l (aF x :: st) s | _ => none
  | .dload i => match getL i l with | some (.inr (.inr (.inr (.inr x)))) => k (pc + 2) l (aD x :: st) s | _ => none
  | .istore_n i => match st with | .inl x :: t => k (pc + 1) (setL1 i.val (aI x) l) t s | _ => none
  | .istore i => match st with | .inl x :: t => k (pc + 2) (setL1 i (aI x) l) t s | _ => none
  | .lstore_n i => match st with | .inr (.inl x) :: t => k (pc + 1) (setL2 i.val (aJ x) l) t s | _ => none
  | .lstore i => match st with | .inr (.inl x) :: t => k (pc + 2) (setL2 i (aJ x) l) t s | _ => none
  | .astore_n i => match st with | .inr (.inr (.inl x)) :: t => k (pc + 1) (setL1 i.val (aR x) l) t s | _ => none
  | .astore i => match st with | .inr (.inr (.inl x)) :: t => k (pc + 2) (setL1 i (aR x) l) t s | _ => none
  | .fstore i => match st with | .inr (.inr (.inr (.inl x))) :: t => k (pc + 2) (setL1 i (aF x) l) t s | _ => none
  | .dstore i => match st with | .inr (.inr (.inr (.inr x))) :: t => k (pc + 2) (setL2 i (aD x) l) t s | _ => none
  | .iconst i => k (pc + 1) l (aI i :: st) s
  | .bipush i => k (pc + 2) l (aI i :: st) s
  | .sipush i => k (pc + 3) l (aI i :: st) s
  | .ldc _ => k (pc + 2) l (aI (r.2.2.1 : Int) :: st) s
  | .ldc_w _ => k (pc + 3) l (aI (r.2.2.1 : Int) :: st) s
  | .ldc2_w _ => k (pc + 3) l (aJ (r.2.2.1 : Int) :: st) s
  | .lconst i => k (pc + 1) l (aJ (i.val : Int) :: st) s
  | .fconst _ => k (pc + 1) l (aF 0 :: st) s
  | .dconst _ => k (pc + 1) l (aD 0 :: st) s
  | .iadd => match st with | .inl y :: .inl x :: t => gd (R32 (x + y)) (k (pc + 1) l (aI (x + y) :: t) s) | _ => none
  | .isub => match st with | .inl y :: .inl x :: t => gd (R32 (x - y)) (k (pc + 1) l (aI (x - y) :: t) s) | _ => none
  | .imul => match st with | .inl y :: .inl x :: t => gd (R32 (x * y)) (k (pc + 1) l (aI (x * y) :: t) s) | _ => none
  | .idiv => match st with | .inl y :: .inl x :: t => gd (0 ≤ x ∧ 0 < y) (k (pc + 1) l (aI (x / y) :: t) s) | _ => none
  | .irem => match st with | .inl y :: .inl x :: t => gd (0 ≤ x ∧ 0 < y) (k (pc + 1) l (aI (x % y) :: t) s) | _ => none
  | .iand => match st with | .inl y :: .inl x :: t => k (pc + 1) l (aI (andI x y) :: t) s | _ => none
  | .ior => match st with | .inl y :: .inl x :: t => k (pc + 1) l (aI (orI x y) :: t) s | _ => none
  | .ixor => match st with | .inl y :: .inl x :: t => k (pc + 1) l (aI (xorI x y) :: t) s | _ => none
  | .ishl => match st with | .inl y :: .inl x :: t => k (pc + 1) l (aI (shlI x y) :: t) s | _ => none
  | .ishr => match st with | .inl y :: .inl x :: t => k (pc + 1) l (aI (shrI x y) :: t) s | _ => none
  | .iushr => match st with | .inl y :: .inl x :: t => k (pc + 1) l (aI (ushrI x y) :: t) s | _ => none
  | .ladd => match st with | .inr (.inl y) :: .inr (.inl x) :: t => gd (R64 (x + y)) (k (pc + 1) l (aJ (x + y) :: t) s) | _ => none
  | .lmul => match st with | .inr (.inl y) :: .inr (.inl x) :: t => gd (R64 (x * y)) (k (pc + 1) l (aJ (x * y) :: t) s) | _ => none
  | .ldiv => match st with | .inr (.inl y) :: .inr (.inl x) :: t => gd (0 ≤ x ∧ 0 < y) (k (pc + 1) l (aJ (x / y) :: t) s) | _ => none
  | .lcmp => match st with | .inr (.inl y) :: .inr (.inl x) :: t => k (pc + 1) l (aI (cmpI x y) :: t) s | _ => none
  | .i2l => match st with | .inl x :: t => k (pc + 1) l (aJ x :: t) s | _ => none
  | .i2f => match st with | .inl x :: t => k (pc + 1) l (aF (FP.i2f (Int32.ofInt x)) :: t) s | _ => none
  | .i2d => match st with | .inl x :: t => k (pc + 1) l (aD (FP.i2d (Int32.ofInt x)) :: t) s | _ => none
  | .l2d => match st with | .inr (.inl x) :: t => k (pc + 1) l (aD (FP.l2d (Int64.ofInt x)) :: t) s | _ => none
  | .f2d => match st with | .inr (.inr (.inr (.inl x))) :: t => gd (n64 (FP.f2d x)) (k (pc + 1) l (aD (FP.f2d x) :: t) s) | _ => none
  | .fdiv => match st with | .inr (.inr (.inr (.inl y))) :: .inr (.inr (.inr (.inl x))) :: t => gd (n32 (FP.fdiv x y)) (k (pc + 1) l (aF (FP.fdiv x y) :: t) s) | _ => none
  | .ddiv => match st with | .inr (.inr (.inr (.inr y))) :: .inr (.inr (.inr (.inr x))) :: t => gd (n64 (FP.ddiv x y)) (k (pc + 1) l (aD (FP.ddiv x y) :: t) s) | _ => none
  | .fcmp o => match st with | .inr (.inr (.inr (.inl y))) :: .inr (.inr (.inr (.inl x))) :: t => k (pc + 1) l (aI (Op.cmpValue (FP.fcmp x y) o).toInt :: t) s | _ => none
  | .dcmp o => match st with | .inr (.inr (.inr (.inr y))) :: .inr (.inr (.inr (.inr x))) :: t => k (pc + 1) l (aI (Op.cmpValue (FP.dcmp x y) o).toInt :: t) s | _ => none
  | .dup => match st with | v :: t => bif Nat.beq (acat v) 1 then k (pc + 1) l (v :: v :: t) s else none | _ => none
  | .pop => match st with | v :: t => bif Nat.beq (acat v) 1 then k (pc + 1) l t s else none | _ => none
  | .dup2 => match st with | v :: w :: t => bif Nat.beq (acat v) 1 && Nat.beq (acat w) 1 then k (pc + 1) l (v :: w :: v :: w :: t) s else none | _ => none
  | .iinc i n => match getL i l with | some (.inl x) => gd (R32 (x + n)) (k (pc + 3) (setL1 i (aI (x + n)) l) st s) | _ => none
  | .goto _ => k r.2.2.1 l st s
  | .ifCond c _ => match st with | .inl x :: t => ifz c x (k r.2.2.1 l t s) (k (pc + 3) l t s) | _ => none
  | .if_icmp c _ => match st with | .inl y :: .inl x :: t => ifi c x y (k r.2.2.1 l t s) (k (pc + 3) l t s) | _ => none
  | .tableswitch d lo _ os => match st with | .inl x :: t => swt x (k ((pc : Int) + d).toNat l t s) (fun q => k q l t s) pc lo os.toList | _ => none
  | .getfield _ => match st with
    | .inr (.inr (.inl a)) :: t => bif ok s a (16 + r.2.2.1) then (match r.2.2.2.2 with
      | 0 => k (pc + 3) l (aI (rI s a (r.2.2.2.1 : Int)) :: t) s
      | 1 => k (pc + 3) l (aJ (rJ s a (r.2.2.2.1 : Int)) :: t) s
      | 2 => bif Nat.beq (rR s a (r.2.2.2.1 : Int)) 0 then none else k (pc + 3) l (aR (rR s a (r.2.2.2.1 : Int)) :: t) s
      | _ => k (pc + 3) l (aI (rI s a (r.2.2.2.1 : Int)) :: t) s) else none
    | _ => none
  | .putfield _ => match r.2.2.2.2, st with
    | 0, .inl x :: .inr (.inr (.inl a)) :: t => bif ok s a (16 + r.2.2.1) then bnd (wI s a (r.2.2.2.1 : Int) x) (fun s => k (pc + 3) l t s) else none
    | 1, .inr (.inl x) :: .inr (.inr (.inl a)) :: t => bif ok s a (16 + r.2.2.1) then bnd (wJ s a (r.2.2.2.1 : Int) x) (fun s => k (pc + 3) l t s) else none
    | 2, .inr (.inr (.inl x)) :: .inr (.inr (.inl a)) :: t => bif ok s a (16 + r.2.2.1) && !(Nat.beq x 0) then bnd (wR s a (r.2.2.2.1 : Int) x) (fun s => k (pc + 3) l t s) else none
    | 3, .inl x :: .inr (.inr (.inl a)) :: t => bif ok s a (16 + r.2.2.1) then gd (0 ≤ x ∧ x ≤ 1) (bnd (wI s a (r.2.2.2.1 : Int) x) (fun s => k (pc + 3) l t s)) else none
    | _, _ => none
  | .iaload => match st with
    | .inl i :: .inr (.inr (.inl a)) :: t => bif ok s a 0 || ok s a 9 then gd (0 ≤ i ∧ i < ln a) (k (pc + 1) l (aI (rI s a i) :: t) s) else none
    | _ => none
  | .laload => match st with
    | .inl i :: .inr (.inr (.inl a)) :: t => bif ok s a 1 then gd (0 ≤ i ∧ i < ln a) (k (pc + 1) l (aJ (rJ s a i) :: t) s) else none
    | _ => none
  | .baload => match st with
    | .inl i :: .inr (.inr (.inl a)) :: t => bif ok s a 2 then gd (0 ≤ i ∧ i < ln a) (k (pc + 1) l (aI (rI s a i) :: t) s) else none
    | _ => none
  | .aaload => match st with
    | .inl i :: .inr (.inr (.inl a)) :: t => bif ok s a 3 then gd (0 ≤ i ∧ i < ln a) (bif Nat.beq (rR s a i) 0 then none else k (pc + 1) l (aR (rR s a i) :: t) s) else none
    | _ => none
  | .daload => match st with
    | .inl i :: .inr (.inr (.inl a)) :: t => bif ok s a 4 then gd (0 ≤ i ∧ i < ln a) (k (pc + 1) l (aD (rD s a i) :: t) s) else none
    | _ => none
  | .iastore => match st with
    | .inl x :: .inl i :: .inr (.inr (.inl a)) :: t => bif ok s a 0 then gd (0 ≤ i ∧ i < ln a) (bnd (wI s a i x) (fun s => k (pc + 1) l t s)) else none
    | _ => none
  | .lastore => match st with
    | .inr (.inl x) :: .inl i :: .inr (.inr (.inl a)) :: t => bif ok s a 1 then gd (0 ≤ i ∧ i < ln a) (bnd (wJ s a i x) (fun s => k (pc + 1) l t s)) else none
    | _ => none
  | .bastore => match st with
    | .inl x :: .inl i :: .inr (.inr (.inl a)) :: t => bif ok s a 2 then gd (0 ≤ i ∧ i < ln a) (gd (0 ≤ x ∧ x ≤ 1) (bnd (wI s a i x) (fun s => k (pc + 1) l t s))) else none
    | _ => none
  | .dastore => match st with
    | .inr (.inr (.inr (.inr x))) :: .inl i :: .inr (.inr (.inl a)) :: t => bif ok s a 4 then gd (0 ≤ i ∧ i < ln a) (bnd (wD s a i x) (fun s => k (pc + 1) l t s)) else none
    | _ => none
  | .arraylength => match st with
    | .inr (.inr (.inl a)) :: t => bif ok s a 0 || ok s a 9 then k (pc + 1) l (aI (ln a) :: t) s else none
    | _ => none
  | .invokevirtual _ => match st.drop (r.2.2.2.1 - 1) with
    | .inr (.inr (.inl x)) :: _ => bif ok s x (16 + r.2.2.2.2) then call r pc l st s k else none
    | _ => none
  | .invokespecial _ => match r.2.2.1 with
    | 1002 => match st with | .inr (.inr (.inl _)) :: t => bif Nat.ble (sumc t) 8 then k (pc + 3) l t s else none | _ => none
    | _ => match st.drop (r.2.2.2.1 - 1) with
      | .inr (.inr (.inl x)) :: _ => bif ok s x (16 + r.2.2.2.2) then call r pc l st s k else none
      | _ => none
  | .invokestatic _ => match r.2.2.1 with
    | 1000 => match st with | .inl y :: .inl x :: t => bif Nat.ble (sumc t) 8 then k (pc + 3) l (aI (max x y) :: t) s else none | _ => none
    | 1001 => match st with | .inl y :: .inl x :: t => bif Nat.ble (sumc t) 8 then k (pc + 3) l (aI (min x y) :: t) s else none | _ => none
    | 1003 => match st with
      | .inl n :: .inl dp :: .inr (.inr (.inl b)) :: .inl sp :: .inr (.inr (.inl a)) :: t => bif ok s a 0 && ok s b 0 && Nat.ble (sumc t) 8 then gd (0 ≤ n ∧ 0 ≤ sp ∧ 0 ≤ dp ∧ sp + n ≤ ln a ∧ dp + n ≤ ln b) (bnd (wC s b (fun j => if dp ≤ j ∧ j < dp + n then rI s a (sp + (j - dp)) else rI s b j)) (fun s => k (pc + 3) l t s)) else none
      | _ => none
    | _ => call r pc l st s k
  | .new _ => bif Nat.ble 100 r.2.2.1 then (bif Nat.ble (sumc st) 8 then kx (r.2.2.1 - 100) s else none) else bnd (nO s r.2.2.1) (fun q => k (pc + 3) l (aR q.1 :: st) q.2)
  | .newarray _ => match st with | .inl n :: t => bnd (nA s r.2.2.1 n) (fun q => k (pc + 2) l (aR q.1 :: t) q.2) | _ => none
  | .multianewarray _ _ => match st with | .inl m :: .inl n :: t => bnd (nM s n m) (fun q => k (pc + 4) l (aR q.1 :: t) q.2) | _ => none
  | .ireturn => match st with
    | [.inl x] => bif Nat.beq r.2.2.1 1 then gd (0 ≤ x ∧ x ≤ 1) (kr (some (aI x)) s) else kr (some (aI x)) s
    | _ => none
  | .lreturn => match st with | [.inr (.inl x)] => kr (some (aJ x)) s | _ => none
  | .freturn => match st with | [.inr (.inr (.inr (.inl x)))] => kr (some (aF x)) s | _ => none
  | .dreturn => match st with | [.inr (.inr (.inr (.inr x)))] => kr (some (aD x)) s | _ => none
  | .return_ => match st with | [] => kr none s | _ => none
  | _ => none
where
  call (r : ARow) (pc : Nat) (l : AL) (st : AS) (s : S) (k : Nat → AL → AS → S → Option β) : Option β :=
    bif Nat.ble (sumc (st.drop r.2.2.2.1)) 8 && Nat.beq (st.take r.2.2.2.1).length r.2.2.2.1 then
      cl r.2.2.1 (st.take r.2.2.2.1).reverse s (fun o s => match o with
        | .inl (some v) => k (pc + 3) l (v :: st.drop r.2.2.2.1) s
        | .inl none => k (pc + 3) l (st.drop r.2.2.2.1) s
        | .inr e => match hd pc e with
          | some q => k q.1 (delL q.2 l) [] s
          | none => kx e s)
    else none
/-- from a point on, until a point that 'cut' takes -/
def seg (code : Nat → Option ARow) (cut : Nat → Option (AL → AS → S → Option β)) : Nat → Nat → AL → AS → S → Option β
  | 0, _, _, _, _ => none
  | N + 1, pc, l, st, s => match code pc with
    | none => none
    | some r => stp rI rJ rD rR wI wJ wD wR wC ok ln nO nA nM hd kr kx cl r pc l st s (fun pc l st s => match cut pc with
      | some f => f l st s
      | none => seg code cut N pc l st s)
end AM

abbrev HC : Type := (Nat → Int → Int) × (Nat → Int → Int)
def tgT (k : Nat) : Nat := bif Nat.blt k 4 then (bif Nat.blt k 2 then 99 else (bif Nat.beq k 2 then 18 else 25)) else (bif Nat.beq k 4 then 0 else (bif Nat.beq k 5 then 0 else 0))
def lnT (k : Nat) : Int := bif Nat.beq k 5 then 256 else 9
def rRT (k : Nat) (i : Int) : Nat := bif Nat.beq k 2 then (bif i == 0 then 3 else (bif i == 1 then 4 else 6)) else 5
def cdT (pc : Nat) : Option ARow := match pc with
  | 0 => some (1, .aload_n 0, 0, 0, 0)
  | 1 => some (3, .getfield 48, 2, 0, 2)
  | 4 => some (1, .iload_n 2, 0, 0, 0)
  | 5 => some (1, .aload_n 0, 0, 0, 0)
  | 6 => some (3, .getfield 9, 2, 1, 2)
  | 9 => some (1, .iload_n 1, 0, 0, 0)
  | 10 => some (1, .iaload, 0, 0, 0)
  | 11 => some (3, .invokevirtual 52, 7, 3, 0)
  | 14 => some (2, .istore 4, 0, 0, 0)
  | 16 => some (2, .iload 4, 0, 0, 0)
  | 18 => some (1, .iconst (-1), 0, 0, 0)
  | 19 => some (3, .if_icmp .ne 5, 24, 0, 0)
  | 22 => some (1, .iconst (-1), 0, 0, 0)
  | 23 => some (1, .ireturn, 0, 0, 0)
  | 24 => some (1, .iload_n 3, 0, 0, 0)
  | 25 => some (2, .iload 4, 0, 0, 0)
  | 27 => some (1, .iadd, 0, 0, 0)
  | 28 => some (1, .ireturn, 0, 0, 0)
  | _ => none
def minutesT (a b : Int) (h : HC) : Option Int := gd (0 ≤ a ∧ a < 16) (some (h.1 5 (a + b)))
def niceT (p1 p2 p3 : Int) (h : HC) : Option Int :=
  gd (0 ≤ p1 ∧ p1 < 9) (bnd (minutesT p2 (h.1 4 p1) h) (fun r => if r = -1 then some (-1) else gd (R32 (p3 + r)) (some (p3 + r))))
theorem tryT (p1 p2 p3 : Int) (h : HC) : niceT p1 p2 p3 h = seg (S := Unit) (β := Int) (fun _ k i => h.1 k i) (fun _ k i => h.2 k i) (fun _ _ _ => 0) (fun _ k i => rRT k i) (fun _ _ _ _ => none) (fun _ _ _ _ => none) (fun _ _ _ _ => none) (fun _ _ _ _ => none) (fun _ _ _ => none) (fun _ k t => Nat.beq (tgT k) t) lnT (fun _ _ => none) (fun _ _ _ => none) (fun _ _ _ => none) (fun _ _ => none) (fun v _ => match v with | some (.inl x) => some x | _ => none) (fun _ _ => none)
   (fun mid as s k => match mid, as with | 7, [_, .inl a, .inl b] => bnd (minutesT a b h) (fun r => k (.inl (some (aI r))) s) | _, _ => none) cdT (fun _ => none) 60 0 [(0, aR 2), (1, aI p1), (2, aI p2), (3, aI p3)] [] () := by rfl

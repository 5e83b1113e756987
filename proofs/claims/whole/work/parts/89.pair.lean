/-! PAIRINGS: sets of ten, least pairings by sets -/
section PAIR
variable {h h' m : HH} {n : Int} {w : Int → Int → Int} {o o' : List Int}
theorem i32N {x : Int32} {k : Nat} (h : x.toBitVec.toNat = k) (hk : k < 2147483648) : x.toInt = k := by
  rw [← Int32.toInt_toBitVec, BitVec.toInt_eq_toNat_of_lt (by omega), h]
theorem bvN {a : Nat} (ha : a < 2147483648) : (BitVec.ofInt 32 (a : Int)).toNat = a := by
  rw [BitVec.ofInt_natCast, BitVec.toNat_ofNat, Nat.mod_eq_of_lt (by omega)]
theorem orN {a b : Nat} (ha : a < 2147483648) (hb : b < 2147483648) : orI (a : Int) (b : Int) = ((a ||| b : Nat) : Int) := by
  have h1 : a ||| b < 2 ^ 31 := Nat.or_lt_two_pow ha hb
  refine i32N ?_ h1
  show (BitVec.ofInt 32 (a : Int) ||| BitVec.ofInt 32 (b : Int)).toNat = _
  rw [BitVec.toNat_or, bvN ha, bvN hb]
theorem xorN {a b : Nat} (ha : a < 2147483648) (hb : b < 2147483648) : xorI (a : Int) (b : Int) = ((a ^^^ b : Nat) : Int) := by
  have h1 : a ^^^ b < 2 ^ 31 := Nat.xor_lt_two_pow ha hb
  refine i32N ?_ h1
  show (BitVec.ofInt 32 (a : Int) ^^^ BitVec.ofInt 32 (b : Int)).toNat = _
  rw [BitVec.toNat_xor, bvN ha, bvN hb]
theorem clrN {a b : Nat} (ha : a < 2147483648) (hb : b < 2147483648) : andI (a : Int) (xorI (b : Int) (-1)) = ((a &&& (b ^^^ 4294967295) : Nat) : Int) := by
  have h1 : a &&& (b ^^^ 4294967295) ≤ a := Nat.and_le_left
  refine i32N ?_ (by omega)
  have e : Int32.ofInt (xorI (b : Int) (-1)) = Int32.ofInt (b : Int) ^^^ Int32.ofInt (-1) := Int32.ofInt_toInt _
  show (Int32.ofInt (a : Int) &&& Int32.ofInt (xorI (b : Int) (-1))).toBitVec.toNat = _
  rw [e]
  show (BitVec.ofInt 32 (a : Int) &&& (BitVec.ofInt 32 (b : Int) ^^^ BitVec.ofInt 32 (-1))).toNat = _
  rw [BitVec.toNat_and, BitVec.toNat_xor, bvN ha, bvN hb]
  rfl
theorem bitA_0 : ∀ (s : Fin 1024) (i : Fin 10), andI (shrI (s.val : Int) (i.val : Int)) 1 = if Nat.testBit s.val i.val then 1 else 0 := by decide +kernel
theorem bitA {s i : Nat} (hs : s < 1024) (hi : i < 10) : andI (shrI (s : Int) (i : Int)) 1 = if Nat.testBit s i = true then 1 else 0 := bitA_0 ⟨s, hs⟩ ⟨i, hi⟩
theorem shlN_0 : ∀ (i : Fin 11), shlI 1 (i.val : Int) = ((2 ^ i.val : Nat) : Int) := by decide +kernel
theorem shlN {i : Nat} (hi : i < 11) : shlI 1 (i : Int) = ((2 ^ i : Nat) : Int) := shlN_0 ⟨i, hi⟩
theorem shl0_0 : ∀ (i : Fin 10), shlI 0 (i.val : Int) = 0 := by decide +kernel
theorem pow10 {i : Nat} (hi : i < 11) : 1 ≤ 2 ^ i ∧ 2 ^ i ≤ 1024 := by
  have h1 : 2 ^ i ≤ 2 ^ 10 := Nat.pow_le_pow_right (by omega) (by omega)
  have h2 : 0 < 2 ^ i := Nat.pow_pos (by omega)
  omega
/-- the members of a set -/
def mem10 (S : Nat) : List Int := canS (S : Int) 10
theorem mem10_m {S : Nat} {i : Int} : i ∈ mem10 S ↔ (0 ≤ i ∧ i < 10) ∧ Nat.testBit S i.toNat = true := by
  unfold mem10
  rw [canS_m]
  unfold bt
  rw [Int.toNat_natCast]
  exact Iff.rfl
theorem mem10_nd {S : Nat} : (mem10 S).Nodup := canS_nd
theorem canS_cn {S : Nat} : ∀ k : Nat, (canS (S : Int) k).length = cnN S k
  | 0 => rfl
  | k + 1 => by
    rw [canS, cnN, ← canS_cn k]
    have e : bt (S : Int) (k : Int) = Nat.testBit S k := by unfold bt; rw [Int.toNat_natCast, Int.toNat_natCast]
    rw [e]
    by_cases c : Nat.testBit S k = true
    · rw [if_pos c, if_pos c, List.length_append]; rfl
    · rw [if_neg c, if_neg c]; rfl
theorem mem10_cn {S : Nat} : (mem10 S).length = cnN S 10 := canS_cn 10
/-- a set without two of its own -/
def rm2 (S i j : Nat) : Nat := S &&& ((2 ^ i ||| 2 ^ j) ^^^ 4294967295)
theorem rm2_bt {S i j k : Nat} (hk : k < 10) : Nat.testBit (rm2 S i j) k = true ↔ Nat.testBit S k = true ∧ k ≠ i ∧ k ≠ j := by
  have h1 : Nat.testBit 4294967295 k = true := by
    have : ∀ i : Fin 10, Nat.testBit 4294967295 i.val = true := by decide
    exact this ⟨k, hk⟩
  unfold rm2
  rw [Nat.testBit_and, Nat.testBit_xor, Nat.testBit_or, Nat.testBit_two_pow, Nat.testBit_two_pow, h1]
  by_cases c1 : k = i
  · rw [c1]; simp
  · rw [decide_eq_false (fun z => c1 z.symm)]
    by_cases c2 : k = j
    · rw [c2]; simp
    · rw [decide_eq_false (fun z => c2 z.symm)]
      simp [c1, c2]
theorem rm2_le {S i j : Nat} : rm2 S i j ≤ S := Nat.and_le_left
theorem rm2_lt {S i j : Nat} (hi : i < 10) (hb : Nat.testBit S i = true) : rm2 S i j < S := by
  rcases Nat.lt_or_eq_of_le (rm2_le (S := S) (i := i) (j := j)) with z | z
  · exact z
  · have := (rm2_bt (S := S) (i := i) (j := j) hi).mp (by rw [z]; exact hb)
    exact absurd rfl this.2.1
theorem xor2 {S i j : Nat} (hS : S < 1024) (hi : i < 10) (hj : j < 10) (hne : i ≠ j) (bi : Nat.testBit S i = true) (bj : Nat.testBit S j = true) : xorI (xorI (S : Int) (shlI 1 (i : Int))) (shlI 1 (j : Int)) = ((rm2 S i j : Nat) : Int) := by
  have p1 := pow10 (show i < 11 by omega)
  have p2 := pow10 (show j < 11 by omega)
  have h1 : S ^^^ 2 ^ i < 2 ^ 30 := Nat.xor_lt_two_pow (by omega) (by omega)
  rw [shlN (show i < 11 by omega), shlN (show j < 11 by omega), xorN (by omega) (by omega), xorN (by omega) (by omega)]
  congr 1
  refine Nat.eq_of_testBit_eq (fun k => ?_)
  unfold rm2
  rw [Nat.testBit_xor, Nat.testBit_xor, Nat.testBit_and, Nat.testBit_xor, Nat.testBit_or, Nat.testBit_two_pow, Nat.testBit_two_pow]
  by_cases c1 : i = k
  · rw [decide_eq_true c1, ← c1, bi, decide_eq_false (fun z => hne z.symm)]
    have : Nat.testBit 4294967295 i = true := by
      have : ∀ i : Fin 10, Nat.testBit 4294967295 i.val = true := by decide
      exact this ⟨i, hi⟩
    rw [this]
    rfl
  · rw [decide_eq_false c1]
    by_cases c2 : j = k
    · rw [decide_eq_true c2, ← c2, bj]
      have : Nat.testBit 4294967295 j = true := by
        have : ∀ i : Fin 10, Nat.testBit 4294967295 i.val = true := by decide
        exact this ⟨j, hj⟩
      rw [this]
      rfl
    · rw [decide_eq_false c2]
      by_cases ck : k < 10
      · have : Nat.testBit 4294967295 k = true := by
          have : ∀ i : Fin 10, Nat.testBit 4294967295 i.val = true := by decide
          exact this ⟨k, ck⟩
        rw [this]
        simp
      · have : Nat.testBit S k = false := Nat.testBit_lt_two_pow (Nat.lt_of_lt_of_le (show S < 2 ^ 10 by omega) (Nat.pow_le_pow_right (by omega) (by omega)))
        rw [this]
        rfl
theorem clr2 {S i j : Nat} (hS : S < 1024) (hi : i < 10) (hj : j < 10) : andI (S : Int) (xorI (orI (shlI 1 (i : Int)) (shlI 1 (j : Int))) (-1)) = ((rm2 S i j : Nat) : Int) := by
  have p1 := pow10 (show i < 11 by omega)
  have p2 := pow10 (show j < 11 by omega)
  have h1 : 2 ^ i ||| 2 ^ j < 2 ^ 30 := Nat.or_lt_two_pow (by omega) (by omega)
  rw [shlN (show i < 11 by omega), shlN (show j < 11 by omega), orN (by omega) (by omega), clrN (by omega) (by omega)]
  rfl
/-- members of a set without two -/
theorem mem10_2 {S i j : Nat} (hi : i < 10) (hj : j < 10) (hne : i ≠ j) (bi : Nat.testBit S i = true) (bj : Nat.testBit S j = true) : (mem10 S).Perm ((i : Int) :: (j : Int) :: mem10 (rm2 S i j)) := by
  refine perm_nd mem10_nd ?_ (fun x => ?_)
  · refine List.nodup_cons.mpr ⟨fun z => ?_, List.nodup_cons.mpr ⟨fun z => ?_, mem10_nd⟩⟩
    · rcases List.mem_cons.mp z with z | z
      · omega
      · have := (mem10_m.mp z).2
        rw [Int.toNat_natCast] at this
        exact ((rm2_bt hi).mp this).2.1 rfl
    · have := (mem10_m.mp z).2
      rw [Int.toNat_natCast] at this
      exact ((rm2_bt hj).mp this).2.2 rfl
  · rw [List.mem_cons, List.mem_cons, mem10_m, mem10_m]
    constructor
    · rintro ⟨a, b⟩
      by_cases c1 : x = i
      · exact Or.inl c1
      · by_cases c2 : x = j
        · exact Or.inr (Or.inl c2)
        · exact Or.inr (Or.inr ⟨a, (rm2_bt (by omega)).mpr ⟨b, by omega, by omega⟩⟩)
    · rintro (c | c | ⟨a, b⟩)
      · rw [c, Int.toNat_natCast]; exact ⟨by omega, bi⟩
      · rw [c, Int.toNat_natCast]; exact ⟨by omega, bj⟩
      · exact ⟨a, ((rm2_bt (by omega)).mp b).1⟩
/-! least pairings -/
theorem flatP_perm {M M' : List (Int × Int)} (p : M.Perm M') : (flatP M).Perm (flatP M') := by
  induction p with
  | nil => exact List.Perm.refl _
  | cons x _ ih => exact List.Perm.cons _ (List.Perm.cons _ ih)
  | swap x y l =>
    show (y.1 :: y.2 :: x.1 :: x.2 :: flatP l).Perm (x.1 :: x.2 :: y.1 :: y.2 :: flatP l)
    have : ([y.1, y.2] ++ ([x.1, x.2] ++ flatP l)).Perm ([x.1, x.2] ++ ([y.1, y.2] ++ flatP l)) := by
      rw [← List.append_assoc, ← List.append_assoc]
      exact List.Perm.append_right _ List.perm_append_comm
    exact this
  | trans _ _ a b => exact a.trans b
theorem lp_nil : isLP w [] 0 := by
  refine ⟨⟨[], List.Perm.refl _, rfl⟩, fun M hM => ?_⟩
  cases M with
  | nil => exact Int.le_refl _
  | cons e M => exact absurd (List.Perm.eq_nil hM) (by simp [flatP])
theorem lp_perm {x : Int} (p : o.Perm o') (h : isLP w o x) : isLP w o' x := by
  obtain ⟨⟨M, a, b⟩, c⟩ := h
  exact ⟨⟨M, a.trans p, b⟩, fun M hM => c M (hM.trans p.symm)⟩
theorem lp_u {x y : Int} (a : isLP w o x) (b : isLP w o y) : x = y := by
  obtain ⟨⟨M, a1, a2⟩, a3⟩ := a
  obtain ⟨⟨M', b1, b2⟩, b3⟩ := b
  have := a3 M' b1
  have := b3 M a1
  omega
theorem flatP_split {a : Int} : ∀ {M : List (Int × Int)}, a ∈ flatP M → ∃ e M', M.Perm (e :: M') ∧ (e.1 = a ∨ e.2 = a)
  | [], h => absurd h List.not_mem_nil
  | e :: M, h => by
    rcases List.mem_cons.mp h with z | z
    · exact ⟨e, M, List.Perm.refl _, Or.inl z.symm⟩
    · rcases List.mem_cons.mp z with z | z
      · exact ⟨e, M, List.Perm.refl _, Or.inr z.symm⟩
      · obtain ⟨f, M', p, q⟩ := flatP_split z
        exact ⟨f, e :: M', (List.Perm.cons e p).trans (List.Perm.swap _ _ _), q⟩
/-- the best partner of a so far -/
def lpQ (w : Int → Int → Int) (a : Int) (l : List Int) (D : Int → Prop) : Option Int → Prop
  | none => ∀ b ∈ l, ¬ D b
  | some x => (∃ b y l', l.Perm (b :: l') ∧ isLP w l' y ∧ x = w a b + y) ∧ ∀ b ∈ l, D b → ∀ y l', l.Perm (b :: l') → isLP w l' y → x ≤ w a b + y
theorem lpQ_cg {a : Int} {l : List Int} {D D' : Int → Prop} (e : ∀ b ∈ l, D b ↔ D' b) : ∀ {s : Option Int}, lpQ w a l D s → lpQ w a l D' s
  | none, q => fun b hb d => q b hb ((e b hb).mpr d)
  | some x, q => ⟨q.1, fun b hb d => q.2 b hb ((e b hb).mpr d)⟩
theorem perm_tail {b : Int} {l l' l'' : List Int} (p : l.Perm (b :: l')) (q : l.Perm (b :: l'')) : l'.Perm l'' := (List.perm_cons b).mp (p.symm.trans q)
theorem lpQ_s {a b y : Int} {l l' : List Int} {D : Int → Prop} (p : l.Perm (b :: l')) (hy : isLP w l' y) : ∀ {s : Option Int}, lpQ w a l D s → lpQ w a l (fun z => D z ∨ z = b) (some (match s with | none => w a b + y | some x => min x (w a b + y)))
  | none, q => ⟨⟨b, y, l', p, hy, rfl⟩, fun c hc d z l2 p2 hz => by
    rcases d with d | d
    · exact absurd d (q c hc)
    · subst d
      have := lp_u (lp_perm (perm_tail p2 p) hz) hy
      show w a c + y ≤ w a c + z
      omega⟩
  | some x, q => by
    show lpQ w a l (fun z => D z ∨ z = b) (some (min x (w a b + y)))
    refine ⟨?_, fun c hc d z l2 p2 hz => ?_⟩
    · by_cases c : x ≤ w a b + y
      · rw [show min x (w a b + y) = x by omega]; exact q.1
      · rw [show min x (w a b + y) = w a b + y by omega]; exact ⟨b, y, l', p, hy, rfl⟩
    · rcases d with d | d
      · have := q.2 c hc d z l2 p2 hz
        omega
      · subst d
        have := lp_u (lp_perm (perm_tail p2 p) hz) hy
        omega
theorem lpQ_end (hs : ∀ x y, w x y = w y x) {a x : Int} {l : List Int} (hy : ∀ b ∈ l, ∃ y l', l.Perm (b :: l') ∧ isLP w l' y) (q : lpQ w a l (fun _ => True) (some x)) : isLP w (a :: l) x := by
  obtain ⟨⟨b, y, l', p, hyy, e⟩, q2⟩ := q
  obtain ⟨⟨M, m1, m2⟩, m3⟩ := hyy
  refine ⟨⟨(a, b) :: M, ?_, ?_⟩, fun M' hM' => ?_⟩
  · show (a :: b :: flatP M).Perm (a :: l)
    exact List.Perm.cons a ((List.Perm.cons b m1).trans p.symm)
  · show w a b + wsum w M = x
    omega
  · have ha : a ∈ flatP M' := hM'.mem_iff.mpr List.mem_cons_self
    obtain ⟨f, M2, p2, hf⟩ := flatP_split ha
    have p3 := (flatP_perm p2).symm.trans hM'
    have ws := wsum_perm (w := w) p2
    have fin : ∀ c, (flatP M2).Perm (flatP M2) → w f.1 f.2 = w a c → (a :: c :: flatP M2).Perm (a :: l) → x ≤ wsum w M' := fun c _ hw hp => by
      have hp2 : (c :: flatP M2).Perm l := (List.perm_cons a).mp hp
      have hc : c ∈ l := hp2.mem_iff.mp List.mem_cons_self
      obtain ⟨z, l2, pz, hz⟩ := hy c hc
      have h1 := q2 c hc True.intro z l2 pz hz
      have h2 := hz.2 M2 ((List.perm_cons c).mp (hp2.trans pz))
      have h3 : wsum w (f :: M2) = w f.1 f.2 + wsum w M2 := rfl
      omega
    rcases hf with hf | hf
    · refine fin f.2 (List.Perm.refl _) (by rw [hf]) ?_
      have z : (f.1 :: f.2 :: flatP M2).Perm (a :: l) := p3
      rw [hf] at z
      exact z
    · refine fin f.1 (List.Perm.refl _) (by rw [hs, hf]) ?_
      have : (f.2 :: f.1 :: flatP M2).Perm (a :: l) := (List.Perm.swap _ _ _).trans p3
      rw [hf] at this
      exact this
theorem wsum_map {f : Int → Int} : ∀ {M : List (Int × Int)}, wsum w (M.map (fun e => (f e.1, f e.2))) = wsum (fun i j => w (f i) (f j)) M
  | [] => rfl
  | e :: M => by rw [List.map_cons, wsum, wsum, wsum_map]
theorem flatP_map {f : Int → Int} : ∀ {M : List (Int × Int)}, flatP (M.map (fun e => (f e.1, f e.2))) = (flatP M).map f
  | [] => rfl
  | e :: M => by rw [List.map_cons, flatP, flatP, flatP_map]; rfl
theorem prL_fl : ∀ {M : List (Int × Int)}, prL (flatP M) = M
  | [] => rfl
  | e :: M => by rw [flatP, prL, prL_fl]
theorem prL_map {f : Int → Int} : ∀ (l : List Int), prL (l.map f) = (prL l).map (fun e => (f e.1, f e.2))
  | [] => rfl
  | [x] => rfl
  | x :: y :: l => by
    show (f x, f y) :: prL (l.map f) = (f x, f y) :: (prL l).map _
    rw [prL_map l]
theorem flatP_len : ∀ {M : List (Int × Int)}, (flatP M).length % 2 = 0
  | [] => rfl
  | e :: M => by
    have := flatP_len (M := M)
    rw [flatP, List.length_cons, List.length_cons]
    omega
theorem lp_map {f : Int → Int} {x : Int} (h : isLP (fun i j => w (f i) (f j)) o x) : isLP w (o.map f) x := by
  obtain ⟨⟨M, a, b⟩, c⟩ := h
  refine ⟨⟨M.map (fun e => (f e.1, f e.2)), by rw [flatP_map]; exact List.Perm.map f a, by rw [wsum_map]; exact b⟩, fun M' hM' => ?_⟩
  obtain ⟨l2, p, e⟩ := perm_map hM'
  have hl : l2.length % 2 = 0 := by
    have := flatP_len (M := M')
    rw [e, List.length_map] at this
    exact this
  have e2 : M' = (prL l2).map (fun e => (f e.1, f e.2)) := by rw [← prL_map, ← e, prL_fl]
  have := c (prL l2) (by rw [prL_flat l2 hl]; exact p)
  rw [e2, wsum_map]
  exact this
/-- the table of least pairings -/
def tpP (w : Int → Int → Int) (T : Int → Int) (S : Nat) : Prop := isLP w (mem10 S) (T (S : Int)) ∧ 0 ≤ T (S : Int) ∧ T (S : Int) ≤ 1800 * (S : Int)
theorem tp_0 {T : Int → Int} (h : T 0 = 0) : tpP w T 0 := by
  have e : mem10 0 = [] := by
    refine List.eq_nil_iff_forall_not_mem.mpr (fun x hx => ?_)
    have := (mem10_m.mp hx).2
    rw [Nat.zero_testBit] at this
    cases this
  unfold tpP
  rw [e]
  show isLP w [] (T 0) ∧ 0 ≤ T 0 ∧ T 0 ≤ 1800 * 0
  rw [h]
  exact ⟨lp_nil, by omega, by omega⟩
/-- the least of a set, and its others -/
theorem mem10_f {S f : Nat} (hf : f < 10) (bf : Nat.testBit S f = true) : ∃ l, (mem10 S).Perm ((f : Int) :: l) ∧ (∀ x ∈ l, (0 ≤ x ∧ x < 10) ∧ Nat.testBit S x.toNat = true ∧ x ≠ f) ∧ ∀ j : Nat, j < 10 → j ≠ f → Nat.testBit S j = true → l.Perm ((j : Int) :: mem10 (rm2 S f j)) := by
  have hm : (f : Int) ∈ mem10 S := mem10_m.mpr ⟨by omega, by rw [Int.toNat_natCast]; exact bf⟩
  have p := List.perm_cons_erase hm
  refine ⟨(mem10 S).erase f, p, fun x hx => ?_, fun j hj hne bj => ?_⟩
  · have nd := p.nodup_iff.mp (mem10_nd (S := S))
    have hx2 : x ∈ mem10 S := p.mem_iff.mpr (List.mem_cons_of_mem _ hx)
    have := mem10_m.mp hx2
    exact ⟨this.1, this.2, fun z => (List.nodup_cons.mp nd).1 (z ▸ hx)⟩
  · exact (List.perm_cons (f : Int)).mp (p.symm.trans (mem10_2 hf hj (fun z => hne z.symm) bf bj))
theorem cn_rm2 {S i j : Nat} (hi : i < 10) (hj : j < 10) (hne : i ≠ j) (bi : Nat.testBit S i = true) (bj : Nat.testBit S j = true) : cnN S 10 = cnN (rm2 S i j) 10 + 2 := by
  rw [← mem10_cn, ← mem10_cn, (mem10_2 hi hj hne bi bj).length_eq]
  rfl
end PAIR

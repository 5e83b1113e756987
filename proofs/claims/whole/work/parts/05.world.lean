/-! WORLDS: what the heap holds, seen from the abstract machine's states -/
/-- cells made; references; ints; longs; doubles -/
abbrev SG : Type := Nat × (Nat → Int → Nat) × (Nat → Int → Int) × (Nat → Int → Int) × (Nat → Int → UInt64)
def up2 {α : Type} (f : Nat → Int → α) (k : Nat) (i : Int) (x : α) : Nat → Int → α := fun a b => if a = k ∧ b = i then x else f a b
def upC {α : Type} (f : Nat → Int → α) (k : Nat) (g : Int → α) : Nat → Int → α := fun a b => if a = k then g b else f a b
theorem up2_ne {α : Type} {f : Nat → Int → α} {k a : Nat} {i b : Int} {x : α} (h : a ≠ k) : up2 f k i x a b = f a b := if_neg (fun q => h q.1)
theorem up2_same {α : Type} {f : Nat → Int → α} {k : Nat} {i : Int} {x : α} : up2 f k i x k i = x := if_pos ⟨rfl, rfl⟩
theorem up2_at {α : Type} {f : Nat → Int → α} {k : Nat} {i b : Int} {x : α} : up2 f k i x k b = if b = i then x else f k b := by
  unfold up2
  by_cases h : b = i
  · rw [if_pos ⟨rfl, h⟩, if_pos h]
  · rw [if_neg (fun q => h q.2), if_neg h]
theorem upC_ne {α : Type} {f : Nat → Int → α} {k a : Nat} {g : Int → α} {b : Int} (h : a ≠ k) : upC f k g a b = f a b := if_neg h
theorem upC_same {α : Type} {f : Nat → Int → α} {k : Nat} {g : Int → α} {b : Int} : upC f k g k b = g b := if_pos rfl
def uI (σ : SG) (k : Nat) (i x : Int) : SG := (σ.1, σ.2.1, up2 σ.2.2.1 k i x, σ.2.2.2.1, σ.2.2.2.2)
def uJ (σ : SG) (k : Nat) (i x : Int) : SG := (σ.1, σ.2.1, σ.2.2.1, up2 σ.2.2.2.1 k i x, σ.2.2.2.2)
def uD (σ : SG) (k : Nat) (i : Int) (x : UInt64) : SG := (σ.1, σ.2.1, σ.2.2.1, σ.2.2.2.1, up2 σ.2.2.2.2 k i x)
def uR (σ : SG) (k : Nat) (i : Int) (x : Nat) : SG := (σ.1, up2 σ.2.1 k i x, σ.2.2.1, σ.2.2.2.1, σ.2.2.2.2)
def uC (σ : SG) (k : Nat) (g : Int → Int) : SG := (σ.1, σ.2.1, upC σ.2.2.1 k g, σ.2.2.2.1, σ.2.2.2.2)
/-- one more cell, all zero -/
def uN (σ : SG) : SG := (σ.1 + 1, upC σ.2.1 (σ.1 + 1) (fun _ => 0), upC σ.2.2.1 (σ.1 + 1) (fun _ => 0), upC σ.2.2.2.1 (σ.1 + 1) (fun _ => 0), upC σ.2.2.2.2 (σ.1 + 1) (fun _ => 0))
def rfO (ad : Nat → Nat) (r : Nat) : Option Nat := if r = 0 then none else some (ad r)
def cv (ad : Nat → Nat) : AV → Value
  | .inl x => .int (Int32.ofInt x)
  | .inr (.inl x) => .long (Int64.ofInt x)
  | .inr (.inr (.inl k)) => .ref (ad k)
  | .inr (.inr (.inr (.inl b))) => .float b
  | .inr (.inr (.inr (.inr b))) => .double b
def cvl (ad : Nat → Nat) (l : AL) : List (Nat × Value) := l.map (fun q => (q.1, cv ad q.2))
def cvs (ad : Nat → Nat) (l : AS) : List Value := l.map (cv ad)
def fval (ad : Nat → Nat) (σ : SG) (k t j : Nat) : Value := if t = 1 then .long (Int64.ofInt (σ.2.2.2.1 k (j : Int))) else if t = 2 then va_rf (rfO ad (σ.2.1 k (j : Int))) else .int (Int32.ofInt (σ.2.2.1 k (j : Int)))
def ent (cy : Nat → ClassId) (ad : Nat → Nat) (σ : SG) (k : Nat) : va_E :=
  if tgK k = 0 then .inl (cy 0, (lnK k).toNat, .inl (fun j => Int32.ofInt (σ.2.2.1 k (j : Int))))
  else if tgK k = 1 then .inl (cy 1, (lnK k).toNat, .inr (.inl (fun j => Int64.ofInt (σ.2.2.2.1 k (j : Int)))))
  else if tgK k = 2 then .inl (cy 2, (lnK k).toNat, .inl (fun j => Int32.ofInt (σ.2.2.1 k (j : Int))))
  else if tgK k = 3 then .inl (cy 3, (lnK k).toNat, .inr (.inr (.inr (.inr (fun j => rfO ad (σ.2.1 k (j : Int)))))))
  else if tgK k = 4 then .inl (cy 4, (lnK k).toNat, .inr (.inr (.inr (.inl (fun j => σ.2.2.2.2 k (j : Int))))))
  else .inr (tgK k - 16, (List.range (nFK (tgK k - 16))).map (fun j => fval ad σ k (ftK (tgK k - 16) j) j))
section ENT
variable {cy : Nat → ClassId} {ad : Nat → Nat} {σ : SG} {k : Nat}
theorem ent0 (h : tgK k = 0) : ent cy ad σ k = .inl (cy 0, (lnK k).toNat, .inl (fun j => Int32.ofInt (σ.2.2.1 k (j : Int)))) := by unfold ent; rw [if_pos h]
theorem ent1 (h : tgK k = 1) : ent cy ad σ k = .inl (cy 1, (lnK k).toNat, .inr (.inl (fun j => Int64.ofInt (σ.2.2.2.1 k (j : Int))))) := by unfold ent; rw [if_neg (by omega), if_pos h]
theorem ent2 (h : tgK k = 2) : ent cy ad σ k = .inl (cy 2, (lnK k).toNat, .inl (fun j => Int32.ofInt (σ.2.2.1 k (j : Int)))) := by unfold ent; rw [if_neg (by omega), if_neg (by omega), if_pos h]
theorem ent3 (h : tgK k = 3) : ent cy ad σ k = .inl (cy 3, (lnK k).toNat, .inr (.inr (.inr (.inr (fun j => rfO ad (σ.2.1 k (j : Int))))))) := by unfold ent; rw [if_neg (by omega), if_neg (by omega), if_neg (by omega), if_pos h]
theorem ent4 (h : tgK k = 4) : ent cy ad σ k = .inl (cy 4, (lnK k).toNat, .inr (.inr (.inr (.inl (fun j => σ.2.2.2.2 k (j : Int)))))) := by unfold ent; rw [if_neg (by omega), if_neg (by omega), if_neg (by omega), if_neg (by omega), if_pos h]
theorem entO {c : Nat} (h : tgK k = 16 + c) : ent cy ad σ k = .inr (c, (List.range (nFK c)).map (fun j => fval ad σ k (ftK c j) j)) := by
  unfold ent
  rw [if_neg (by omega), if_neg (by omega), if_neg (by omega), if_neg (by omega), if_neg (by omega), show tgK k - 16 = c by omega]
/-- a cell's entry looks at that cell alone -/
theorem ent_congr {σ' : SG} {ad' : Nat → Nat} (h1 : ∀ i, rfO ad' (σ'.2.1 k i) = rfO ad (σ.2.1 k i)) (h2 : ∀ i, σ'.2.2.1 k i = σ.2.2.1 k i) (h3 : ∀ i, σ'.2.2.2.1 k i = σ.2.2.2.1 k i) (h4 : ∀ i, σ'.2.2.2.2 k i = σ.2.2.2.2 k i) : ent cy ad' σ' k = ent cy ad σ k := by
  unfold ent fval
  simp only [h1, h2, h3, h4]
end ENT
/-- the world: cells 2 .. K at their addresses -/
def WS (cy : Nat → ClassId) (ad : Nat → Nat) (σ : SG) : va_W := (List.range (σ.1 - 1)).map (fun i => (ad (i + 2), ent cy ad σ (i + 2)))
section WSS
variable {cy : Nat → ClassId} {ad : Nat → Nat} {σ : SG} {k : Nat}
theorem WS_get (h2 : 2 ≤ k) (hK : k ≤ σ.1) : (WS cy ad σ)[k - 2]? = some (ad k, ent cy ad σ k) := by
  unfold WS
  rw [List.getElem?_map, List.getElem?_range (by omega), Option.map_some]
  rw [show k - 2 + 2 = k by omega]
theorem WS_set {σ' : SG} {e : va_E} (h2 : 2 ≤ k) (hK : k ≤ σ.1) (h1 : σ'.1 = σ.1) (he : ent cy ad σ' k = e) (ho : ∀ j, j ≠ k → ent cy ad σ' j = ent cy ad σ j) : (WS cy ad σ).set (k - 2) (ad k, e) = WS cy ad σ' := by
  apply List.ext_getElem?
  intro i
  by_cases hi : i = k - 2
  · subst hi
    rw [List.getElem?_set_self (by unfold WS; simp; omega), WS_get h2 (by omega), he]
  · rw [List.getElem?_set_ne (Ne.symm hi)]
    unfold WS
    rw [h1, List.getElem?_map, List.getElem?_map]
    cases hr : (List.range (σ.1 - 1))[i]? with
    | none => rfl
    | some v =>
      have hv : v = i := by
        obtain ⟨hlt, hv⟩ := List.getElem?_eq_some_iff.mp hr
        simpa using hv.symm
      subst hv
      simp only [Option.map_some]
      rw [ho _ (by omega)]
/-- one more cell behind the others -/
theorem WS_push {σ' : SG} {ad' : Nat → Nat} {e : va_E} (h1 : σ'.1 = σ.1 + 1) (hK : 1 ≤ σ.1) (ha : ∀ j, j ≤ σ.1 → ad' j = ad j) (he : ent cy ad' σ' (σ.1 + 1) = e) (ho : ∀ j, j ≤ σ.1 → ent cy ad' σ' j = ent cy ad σ j) : WS cy ad σ ++ [(ad' (σ.1 + 1), e)] = WS cy ad' σ' := by
  unfold WS
  rw [h1, show σ.1 + 1 - 1 = (σ.1 - 1) + 1 by omega, List.range_succ, List.map_append]
  congr 1
  · apply List.map_congr_left
    intro i hi
    rw [List.mem_range] at hi
    rw [ha _ (by omega), ho _ (by omega)]
  · simp only [List.map_cons, List.map_nil]
    rw [show σ.1 - 1 + 2 = σ.1 + 1 by omega, he]
end WSS
def WF (σ : SG) : Prop := 1 ≤ σ.1 ∧ ∀ k i, R32 (σ.2.2.1 k i) ∧ R64 (σ.2.2.2.1 k i) ∧ σ.2.1 k i ≤ σ.1
def wfv (K : Nat) : AV → Prop
  | .inl x => R32 x
  | .inr (.inl x) => R64 x
  | .inr (.inr (.inl k)) => k ≤ K
  | _ => True
def wfS (K : Nat) (l : AS) : Prop := ∀ v ∈ l, wfv K v
def wfL (K : Nat) (l : AL) : Prop := ∀ q ∈ l, wfv K q.2
theorem wfv_mono {K K' : Nat} (h : K ≤ K') {v : AV} (hv : wfv K v) : wfv K' v := by
  match v, hv with
  | .inl x, hv => exact hv
  | .inr (.inl x), hv => exact hv
  | .inr (.inr (.inl k)), hv => exact Nat.le_trans hv h
  | .inr (.inr (.inr (.inl b))), hv => exact hv
  | .inr (.inr (.inr (.inr b))), hv => exact hv
theorem wfS_mono {K K' : Nat} (h : K ≤ K') {l : AS} (hv : wfS K l) : wfS K' l := fun v q => wfv_mono h (hv v q)
theorem wfL_mono {K K' : Nat} (h : K ≤ K') {l : AL} (hv : wfL K l) : wfL K' l := fun v q => wfv_mono h (hv v q)
theorem wfS_cons {K : Nat} {v : AV} {l : AS} (h : wfv K v) (hl : wfS K l) : wfS K (v :: l) := fun x hx => (List.mem_cons.mp hx).elim (fun e => by rw [e]; exact h) (hl x)
theorem wfS_hd {K : Nat} {v : AV} {l : AS} (h : wfS K (v :: l)) : wfv K v := h v List.mem_cons_self
theorem wfS_tl {K : Nat} {v : AV} {l : AS} (h : wfS K (v :: l)) : wfS K l := fun x hx => h x (List.mem_cons_of_mem _ hx)
theorem cv_eq {ad ad' : Nat → Nat} {K : Nat} (h : ∀ j, j ≤ K → ad' j = ad j) {v : AV} (hv : wfv K v) : cv ad' v = cv ad v := by
  match v, hv with
  | .inl x, hv => rfl
  | .inr (.inl x), hv => rfl
  | .inr (.inr (.inl k)), hv => exact congrArg Value.ref (h k hv)
  | .inr (.inr (.inr (.inl b))), hv => rfl
  | .inr (.inr (.inr (.inr b))), hv => rfl
theorem cvs_eq {ad ad' : Nat → Nat} {K : Nat} (h : ∀ j, j ≤ K → ad' j = ad j) {l : AS} (hv : wfS K l) : cvs ad' l = cvs ad l := List.map_congr_left (fun v q => cv_eq h (hv v q))
theorem cvl_eq {ad ad' : Nat → Nat} {K : Nat} (h : ∀ j, j ≤ K → ad' j = ad j) {l : AL} (hv : wfL K l) : cvl ad' l = cvl ad l := List.map_congr_left (fun v q => by rw [cv_eq h (hv v q)])
theorem cv_cat (ad : Nat → Nat) (v : AV) : (cv ad v).category = acat v := by
  match v with
  | .inl x => rfl
  | .inr (.inl x) => rfl
  | .inr (.inr (.inl k)) => rfl
  | .inr (.inr (.inr (.inl b))) => rfl
  | .inr (.inr (.inr (.inr b))) => rfl
theorem cvs_sum (ad : Nat → Nat) (l : AS) : ((cvs ad l).map fun v => v.category).sum = sumc l := by
  induction l with
  | nil => rfl
  | cons v t ih =>
    show (cv ad v).category + ((cvs ad t).map fun v => v.category).sum = acat v + sumc t
    rw [ih, cv_cat]
theorem cvl_filter (ad : Nat → Nat) (P : Nat → Nat → Bool) (l : AL) : (cvl ad l).filter (fun q => P q.1 q.2.category) = cvl ad (l.filter (fun q => P q.1 (acat q.2))) := by
  unfold cvl
  rw [List.filter_map]
  congr 1
  apply List.filter_congr
  intro q _
  show P q.1 (cv ad q.2).category = P q.1 (acat q.2)
  rw [cv_cat]
theorem cvl_set1 (ad : Nat → Nat) (i : Nat) (v : AV) (l : AL) : (i, cv ad v) :: (cvl ad l).filter (fun q => !(q.1 == i) && !(q.1 + 1 == i && q.2.category == 2)) = cvl ad (setL1 i v l) := by
  have h := cvl_filter ad (fun a b => !(a == i) && !(a + 1 == i && b == 2)) l
  rw [h]
  rfl
theorem cvl_set2 (ad : Nat → Nat) (i : Nat) (v : AV) (l : AL) : (i, cv ad v) :: (cvl ad l).filter (fun q => !(q.1 == i) && (!(q.1 == i + 1) && !(q.1 + 1 == i && q.2.category == 2))) = cvl ad (setL2 i v l) := by
  have h := cvl_filter ad (fun a b => !(a == i) && (!(a == i + 1) && !(a + 1 == i && b == 2))) l
  rw [h]
  rfl
theorem getL_mem {i : Nat} {l : AL} {v : AV} (h : getL i l = some v) : (i, v) ∈ l := by
  induction l with
  | nil => cases h
  | cons q t ih =>
    unfold getL at h
    cases hb : Nat.beq q.1 i with
    | true =>
      rw [hb] at h
      cases h
      have e : q.1 = i := Nat.eq_of_beq_eq_true hb
      rw [← e]
      exact List.mem_cons_self
    | false =>
      rw [hb] at h
      exact List.mem_cons_of_mem _ (ih h)
theorem lv_get {ls : Array Slot} {nL : Nat} {ad : Nat → Nat} {l : AL} (h : lv_has ls nL (cvl ad l)) {i : Nat} {v : AV} (hg : getL i l = some v) : ls[i]? = some (.val (cv ad v)) := h.2.2 (i, cv ad v) (List.mem_map.mpr ⟨(i, v), getL_mem hg, rfl⟩)
theorem lv_less {ls : Array Slot} {nL : Nat} {l l' : List (Nat × Value)} (h : lv_has ls nL l) (hs : ∀ q ∈ l', q ∈ l) : lv_has ls nL l' := ⟨h.1, h.2.1, fun q hq => h.2.2 q (hs q hq)⟩
theorem wfL_get {K i : Nat} {l : AL} {v : AV} (h : wfL K l) (hg : getL i l = some v) : wfv K v := h (i, v) (getL_mem hg)
theorem wfL_set1 {K i : Nat} {l : AL} {v : AV} (h : wfL K l) (hv : wfv K v) : wfL K (setL1 i v l) := fun q hq => (List.mem_cons.mp hq).elim (fun e => by rw [e]; exact hv) (fun hq => h q (List.mem_filter.mp hq).1)
theorem wfL_set2 {K i : Nat} {l : AL} {v : AV} (h : wfL K l) (hv : wfv K v) : wfL K (setL2 i v l) := fun q hq => (List.mem_cons.mp hq).elim (fun e => by rw [e]; exact hv) (fun hq => h q (List.mem_filter.mp hq).1)
-- numbers
theorem fb_rng (x : Int32) : -2147483648 ≤ x.toInt ∧ x.toInt < 2147483648 := by
  have h1 := Int32.le_toInt x
  have h2 := Int32.toInt_lt x
  omega
theorem fb_bmod {z : Int} (h1 : -2147483648 ≤ z) (h2 : z < 2147483648) : z.bmod (2 ^ 32) = z := by
  rw [Int.bmod_eq_of_le (by omega) (by omega)]
theorem fb_bmodL {z : Int} (h1 : -9223372036854775808 ≤ z) (h2 : z < 9223372036854775808) : z.bmod (2 ^ 64) = z := by
  rw [Int.bmod_eq_of_le (by omega) (by omega)]
theorem fb_ofI {z : Int} (h1 : -2147483648 ≤ z) (h2 : z < 2147483648) : (Int32.ofInt z).toInt = z := by
  rw [Int32.toInt_ofInt, fb_bmod h1 h2]
theorem o_toInt {x : Int} (h : R32 x) : (Int32.ofInt x).toInt = x := fb_ofI h.1 (by have := h.2; omega)
theorem o_nat {x : Int} (h : R32 x) : (Int32.ofInt x).toNatClampNeg = x.toNat := by
  have e := o_toInt h
  show (Int32.ofInt x).toInt.toNat = x.toNat
  rw [e]
theorem o_asI (x : Int32) : Int32.ofInt x.toInt = x := Int32.ofInt_toInt x
theorem o_rng (x : Int32) : R32 x.toInt := ⟨(fb_rng x).1, by have := (fb_rng x).2; omega⟩
theorem o_inj {x y : Int} (hx : R32 x) (hy : R32 y) : Int32.ofInt x = Int32.ofInt y ↔ x = y := ⟨fun h => by rw [← o_toInt hx, ← o_toInt hy, h], fun h => by rw [h]⟩
theorem o_lt {x y : Int} (hx : R32 x) (hy : R32 y) : Int32.ofInt x < Int32.ofInt y ↔ x < y := by rw [Int32.lt_iff_toInt_lt, o_toInt hx, o_toInt hy]
theorem o_le {x y : Int} (hx : R32 x) (hy : R32 y) : Int32.ofInt x ≤ Int32.ofInt y ↔ x ≤ y := by rw [Int32.le_iff_toInt_le, o_toInt hx, o_toInt hy]
theorem o_add (x y : Int) : Int32.ofInt x + Int32.ofInt y = Int32.ofInt (x + y) := (Int32.ofInt_add ..).symm
theorem o_sub (x y : Int) : Int32.ofInt x - Int32.ofInt y = Int32.ofInt (x - y) := (Int32.ofInt_sub ..).symm
theorem o_mul (x y : Int) : Int32.ofInt x * Int32.ofInt y = Int32.ofInt (x * y) := (Int32.ofInt_mul ..).symm
theorem o_natI {x : Int} (h : 0 ≤ x) : Int32.ofInt x = nI x.toNat := by
  obtain ⟨n, rfl⟩ := Int.eq_ofNat_of_zero_le h
  rfl
theorem o_div {x y : Int} (hx : R32 x) (hy : R32 y) (h0 : 0 ≤ x) (h1 : 0 < y) : Int32.ofInt x / Int32.ofInt y = Int32.ofInt (x / y) := by
  obtain ⟨n, rfl⟩ := Int.eq_ofNat_of_zero_le h0
  obtain ⟨d, rfl⟩ := Int.eq_ofNat_of_zero_le (Int.le_of_lt h1)
  have := hx.2
  have := hy.2
  exact pk_div (a := n) (d := d) (by omega) (by omega) (by omega)
theorem o_rem {x y : Int} (hx : R32 x) (hy : R32 y) (h0 : 0 ≤ x) (h1 : 0 < y) : Int32.ofInt x - Int32.ofInt x / Int32.ofInt y * Int32.ofInt y = Int32.ofInt (x % y) := by
  obtain ⟨n, rfl⟩ := Int.eq_ofNat_of_zero_le h0
  obtain ⟨d, rfl⟩ := Int.eq_ofNat_of_zero_le (Int.le_of_lt h1)
  have := hx.2
  have := hy.2
  exact pk_rem (a := n) (d := d) (by omega) (by omega) (by omega)
theorem o_in {i n : Int} (hi : R32 i) (h : 0 ≤ i ∧ i < n) : vp_in (Int32.ofInt i) n.toNat := by
  rw [vp_in_iff, o_toInt hi]
  omega
theorem r32_div {x y : Int} (hx : R32 x) (h0 : 0 ≤ x) (h1 : 0 < y) : R32 (x / y) := by
  have a := Int.ediv_nonneg h0 (Int.le_of_lt h1)
  have b := Int.ediv_le_self y h0
  have := hx.2
  exact ⟨by omega, by omega⟩
theorem r32_mod {x y : Int} (hy : R32 y) (h1 : 0 < y) : R32 (x % y) := by
  have a := Int.emod_nonneg x (Int.ne_of_gt h1)
  have b := Int.emod_lt_of_pos x h1
  have := hy.2
  exact ⟨by omega, by omega⟩
theorem l_toInt {x : Int} (h : R64 x) : (Int64.ofInt x).toInt = x := by
  have := h.1
  have := h.2
  rw [Int64.toInt_ofInt]
  exact fb_bmodL (by omega) (by omega)
theorem l_lt {x y : Int} (hx : R64 x) (hy : R64 y) : Int64.ofInt x < Int64.ofInt y ↔ x < y := by rw [Int64.lt_iff_toInt_lt, l_toInt hx, l_toInt hy]
theorem l_inj {x y : Int} (hx : R64 x) (hy : R64 y) : Int64.ofInt x = Int64.ofInt y ↔ x = y := ⟨fun h => by rw [← l_toInt hx, ← l_toInt hy, h], fun h => by rw [h]⟩
theorem l_add (x y : Int) : Int64.ofInt x + Int64.ofInt y = Int64.ofInt (x + y) := (Int64.ofInt_add ..).symm
theorem l_mul (x y : Int) : Int64.ofInt x * Int64.ofInt y = Int64.ofInt (x * y) := (Int64.ofInt_mul ..).symm
theorem l_div {x y : Int} (hx : R64 x) (hy : R64 y) (h0 : 0 ≤ x) (h1 : 0 < y) : Int64.ofInt x / Int64.ofInt y = Int64.ofInt (x / y) := by
  obtain ⟨n, rfl⟩ := Int.eq_ofNat_of_zero_le h0
  obtain ⟨d, rfl⟩ := Int.eq_ofNat_of_zero_le (Int.le_of_lt h1)
  have := hx.2
  have := hy.2
  exact pk_lDiv (a := n) (b := d) (by omega) (by omega) (by omega)
theorem l_i2l {x : Int} (h : R32 x) : (Int32.ofInt x).toInt64 = Int64.ofInt x := by
  apply Int64.toInt_inj.mp
  rw [Int32.toInt_toInt64, o_toInt h, l_toInt ⟨by have := h.1; omega, by have := h.2; omega⟩]
theorem l_cmp {x y : Int} (hx : R64 x) (hy : R64 y) : lg_cmp (Int64.ofInt x) (Int64.ofInt y) = Int32.ofInt (cmpI x y) := by
  unfold lg_cmp cmpI
  by_cases h : x > y
  · rw [if_pos h, if_pos ((l_lt hy hx).mpr h)]; rfl
  · rw [if_neg h, if_neg (fun q => h ((l_lt hy hx).mp q))]
    by_cases h2 : x = y
    · rw [if_pos h2, if_pos ((l_inj hx hy).mpr h2)]; rfl
    · rw [if_neg h2, if_neg (fun q => h2 ((l_inj hx hy).mp q))]; rfl

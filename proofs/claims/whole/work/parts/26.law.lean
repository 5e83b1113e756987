/-! THE LAW'S BODY: its end, the script -/
section LAW
variable {p : Program} {l : Launch} {e : Env} {s : State} {m : MethodId} {below : List Frame} {meth : Method} {c : Code} {D : va_G} {cy : Nat → ClassId} {b L : Nat} {xs : Nat → Int32} {pc : Nat} {lc : AL} {st : AS} {σ : SG} {cells slots : Nat}
/-- a point of the law's body -/
def LG (p : Program) (l : Launch) (e : Env) (s : State) (m : MethodId) (b : Nat) (below : List Frame) (meth : Method) (c : Code) (D : va_G) (cy : Nat → ClassId) (pc : Nat) (lc : AL) (st : AS) (σ : SG) (cells slots : Nat) : Prop := GW p l e room_1 s m #[Value.ref b] below meth c (fun q => s.heap.size ≤ q) 10 D cy (lw_Z below #[Value.ref b] s) (fun _ => b) 1 pc lc st σ cells slots
theorem g_lawret (hx : p.tables.exec = Jvm.exec) (hb : c.code = code) (hr : meth.sig.returnType = ret) (hlocks : meth.locks = false) (hd : decode code pc = .ok (.ireturn, 1)) (h : cells ≤ 601024 ∧ slots ≤ 7293034) : LG p l e s m b below meth c D cy pc lc [aI 1] σ cells slots := by
  intro ad H locs ls hW hP hD hS hl hwl hws hr9
  refine va_forget (fun q hq => hS.2.2 q hq) ?_
  refine W.widen h.1 h.2 ?_
  exact lw_ret (d0 := s.drawn) (Drawn.sameBut.refl _ _) hx hb hr hlocks hd
theorem g_sld (hx : p.tables.exec = Jvm.exec) (hb : c.code = code) (hX : va_X b L xs s s.heap) (hbl : b < s.heap.size) (hI : ∀ j, σ.2.2.1 1 j = (xs j.toNat).toInt) {i : Int} (hi : 0 ≤ i ∧ i < (L : Int)) (hd : decode code pc = .ok (.iaload, 1)) (kk : LG p l e s m b below meth c D cy (pc + 1) lc (aI (σ.2.2.1 1 i) :: st) σ cells slots) : LG p l e s m b below meth c D cy pc lc (aI i :: aR 1 :: st) σ cells slots := by
  intro ad H locs ls hW hP hD hS hl hwl hws hr
  have hir : R32 i := wfS_hd hws
  have h1 : ad 1 = b := hW.2.2.1 1 (Nat.le_refl 1)
  show W p l e room_1 s m #[Value.ref b] below meth c H locs cells slots _ (F0 m pc ls (.int (Int32.ofInt i) :: .ref (ad 1) :: cvs ad st))
  rw [h1]
  have hin := o_in (n := (L : Int)) hir hi
  rw [Int.toNat_natCast] at hin
  refine va_sld hx hb hX hbl (Nat.not_le.mpr hbl) hS hin hd ?_
  have h9 := kk ad H locs ls hW hP hD hS hl hwl (wfS_cons (hW.1.2 1 i).1 (wfS_tl (wfS_tl hws))) hr
  have e9 : cvs ad (aI (σ.2.2.1 1 i) :: st) = .int (xs (Int32.ofInt i).toNatClampNeg) :: cvs ad st := by
    rw [o_nat hir]
    show Value.int (Int32.ofInt (σ.2.2.1 1 i)) :: cvs ad st = _
    rw [hI i, Int32.ofInt_toInt]
  rw [e9] at h9
  exact h9
theorem g_slen (hx : p.tables.exec = Jvm.exec) (hb : c.code = code) (hX : va_X b L xs s s.heap) (hbl : b < s.heap.size) (hL : L ≤ 3072) (hd : decode code pc = .ok (.arraylength, 1)) (kk : LG p l e s m b below meth c D cy (pc + 1) lc (aI (L : Int) :: st) σ cells slots) : LG p l e s m b below meth c D cy pc lc (aR 1 :: st) σ cells slots := by
  intro ad H locs ls hW hP hD hS hl hwl hws hr
  have h1 : ad 1 = b := hW.2.2.1 1 (Nat.le_refl 1)
  show W p l e room_1 s m #[Value.ref b] below meth c H locs cells slots _ (F0 m pc ls (.ref (ad 1) :: cvs ad st))
  rw [h1]
  refine va_slen hx hb hX hbl (Nat.not_le.mpr hbl) hS hd ?_
  have h9 := kk ad H locs ls hW hP hD hS hl hwl (wfS_cons (show R32 (L : Int) from ⟨by omega, by omega⟩) (wfS_tl hws)) hr
  exact h9
/-- the world at the law's entry -/
def σE (xs : Nat → Int32) : SG := (1, fun _ _ => 0, fun k i => if k = 1 then (xs i.toNat).toInt else 0, fun _ _ => 0, fun _ _ => 0)
theorem WF_E (xs : Nat → Int32) : WF (σE xs) := ⟨Nat.le_refl 1, fun k i => ⟨by
  show R32 (if k = 1 then (xs i.toNat).toInt else 0)
  split
  · exact ⟨Int32.le_toInt _, by have := Int32.toInt_lt (xs i.toNat); omega⟩
  · exact ⟨by omega, by omega⟩, ⟨by show (-9223372036854775808 : Int) ≤ 0; omega, by show (0 : Int) ≤ 9223372036854775807; omega⟩, Nat.zero_le _⟩⟩
/-- from a walk of the law's body in the abstract machine to what is owed -/
theorem law_start (hfl : l.flags = flags0) (hL : L ≤ 3072) (C0 : lw_At p s m meth c b L xs) (kk : ∀ D cy, CX p l room_1 s m #[Value.ref b] meth c (fun q => s.heap.size ≤ q) code 13 10 false 10 191 D cy → LG p l e s m b below meth c D cy 0 [(0, aR 1)] [] (σE xs) 0 0) : W p l e room_1 s m #[Value.ref b] below meth c s.heap [] 0 0 (lw_Z below #[Value.ref b] s) (entryFrame m ([Value.ref b] : List Value).toArray 10) := by
  obtain ⟨D, cy, hC⟩ := law_CX hfl C0
  have hl := lv_entry ([.ref b]) (n := 10) (Nat.le_of_ble_eq_true rfl)
  rw [lg_entry_eq]
  generalize (lg_sl ([.ref b]) ++ List.replicate (10 - (lg_sl ([.ref b])).length) Slot.unset).toArray = ls at hl ⊢
  have hP : va_P D vwCl (WS cy (fun _ => b) (σE xs)) s.heap := fun k q h => by
    have h : ([] : va_W)[k]? = some q := h
    simp at h
  have hD : va_D (fun q => s.heap.size ≤ q) (WS cy (fun _ => b) (σE xs)) := ⟨fun i j p q h => by
    have h : ([] : va_W)[i]? = some p := h
    simp at h, fun k q h => by
    have h : ([] : va_W)[k]? = some q := h
    simp at h⟩
  exact kk D cy hC (fun _ => b) s.heap [] ls ⟨WF_E xs, Nat.le_refl 1, fun _ _ => rfl, fun _ => rfl⟩ hP hD va_S.rf hl (fun q hq => by
    rw [List.mem_singleton.mp hq]
    exact (show 1 ≤ 1 from Nat.le_refl 1)) (fun v hv => absurd hv List.not_mem_nil) ⟨Nat.zero_le _, Nat.zero_le _⟩
end LAW

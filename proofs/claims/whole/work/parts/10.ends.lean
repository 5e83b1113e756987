/-! ENDS of a method: returns, throws, what passes through; new cells -/
section ENDS
variable {p : Program} {l : Launch} {e : Env} {R : Room} {s : State} {m : MethodId} {args : Array Value} {below : List Frame} {meth : Method} {c : Code} {A : Nat → Prop} {cc : ByteArray} {own nL : Nat} {ini : Bool} {fr lo : Nat} {D : va_G} {cy : Nat → ClassId} {Q : State → Prop} {ad0 : Nat → Nat} {K0 pc : Nat} {lc : AL} {st : AS} {σ σ0 : SG} {cells slots mc ms : Nat}
/-- the instruction that returns this -/
def retI : Option AV → Instr
  | none => .return_
  | some (.inl _) => .ireturn
  | some (.inr (.inl _)) => .lreturn
  | some (.inr (.inr (.inl _))) => .areturn
  | some (.inr (.inr (.inr (.inl _)))) => .freturn
  | some (.inr (.inr (.inr (.inr _)))) => .dreturn
/-- this may be returned by a method of this type -/
def retOk : Option AV → Option FieldType → Prop
  | none, t => t = none
  | some (.inl x), t => t = some .int ∨ (t = some .boolean ∧ 0 ≤ x ∧ x ≤ 1)
  | some (.inr (.inl _)), t => t = some .long
  | some (.inr (.inr (.inl _))), _ => False
  | some (.inr (.inr (.inr (.inl _)))), t => t = some .float
  | some (.inr (.inr (.inr (.inr _)))), t => t = some .double
theorem wfO_of {K : Nat} {v : Option AV} (h : wfS K v.toList) : wfO K (.inl v) := by
  cases v with
  | none => trivial
  | some w => exact wfS_hd h
theorem g_ret (hC : CX p l R s m args meth c A cc own nL ini fr lo D cy) {rt : Option FieldType} (hr : meth.sig.returnType = rt) {v : Option AV} (hrt : retOk v rt) {XC : String → State → State → Prop} (hd : decode cc pc = .ok (retI v, 1)) (hQ : Q = vx_MQ below (QcR D cy ad0 σ0 σ A (.inl v)) XC args s mc ms A) (hK0 : K0 = σ0.1) (hc : cells ≤ mc ∧ slots ≤ ms) : GW p l e R s m args below meth c A nL D cy Q ad0 K0 pc lc v.toList σ cells slots := by
  intro ad H locs ls hW hP hD hS hl hwl hws hr9
  subst hK0
  subst hQ
  obtain ⟨hx, hb, -, -, -, hlocks, -⟩ := hC
  refine W.widen (k := mc) (n := ms) hc.1 hc.2 ?_
  have fin : ∀ t : State, t.heap = H → s.WarmedH t.vm → QcR D cy ad0 σ0 σ A (.inl v) args s (.returned (v.map (cv ad))) t := fun t ht _ => ⟨⟨ad, v, rfl, rfl, ⟨hW.1, hW.2.1, wfO_of hws⟩, hW.2.2.1, hW.2.2.2, by rw [ht]; exact hP, hD⟩, hS.F ht⟩
  match v, hrt, hd, fin with
  | none, hrt, hd, fin => exact vx_ret (W.vret hx hb (hr.trans hrt) fin hS.2.2 hd hlocks)
  | some (.inl x), hrt, hd, fin =>
    rcases hrt with h | ⟨h, h01⟩
    · exact vx_ret (W.iret (v := Int32.ofInt x) hx hb (hr.trans h) fin hS.2.2 hd hlocks)
    · exact vx_ret (W.zret (v := Int32.ofInt x) (ty := .boolean) hx hb (hr.trans h) (nar_bool h01) fin hS.2.2 hd hlocks)
  | some (.inr (.inl x)), hrt, hd, fin => exact vx_ret (W.lret (v := Int64.ofInt x) hx hb (hr.trans hrt) fin hS.2.2 hd hlocks)
  | some (.inr (.inr (.inl x))), hrt, hd, fin => exact hrt.elim
  | some (.inr (.inr (.inr (.inl x)))), hrt, hd, fin => exact vx_ret (W.fret (v := x) hx hb (hr.trans hrt) fin hS.2.2 hd hlocks)
  | some (.inr (.inr (.inr (.inr x)))), hrt, hd, fin => exact vx_ret (W.dret (v := x) hx hb (hr.trans hrt) fin hS.2.2 hd hlocks)
/-- not caught here -/
theorem g_xout (hC : CX p l R s m args meth c A cc own nL ini fr lo D cy) (hout : ∀ x ∈ c.exceptionTable.toList, False) {Qc : Array Value → State → Outcome → State → Prop} {x : Nat} (hQ : Q = vx_MQ below Qc (XcR D cy ad0 σ0 σ A (.inr x)) args s mc ms A) (hK0 : K0 = σ0.1) (hc : cells ≤ mc ∧ slots ≤ ms) : XW p l e R s m args below meth c A nL D cy Q ad0 K0 x pc lc st σ cells slots := by
  intro ad H locs ls ce q9 hx4 hW hP hD hS hl hwl h1 h2 h3
  subst hK0
  subst hQ
  obtain ⟨hx, hb, -, -, -, hlocks, -⟩ := hC
  exact vx_out (fun z hz => (hout z hz).elim) hlocks h1 h2 h3 (fun t ht _ => ⟨⟨ad, x, hx4, rfl, rfl, ⟨hW.1, hW.2.1, trivial⟩, hW.2.2.1, hW.2.2.2, by rw [ht]; exact hP, hD⟩, hS.F ht⟩) hS.2.2 hc.1 hc.2
/-- throw new E() -/
theorem th_words (hV : VB s) (hts : ∀ w ∈ WG, w.before args s = true) {x : Nat} (hx : x < 4) {w : Cond} (h : thP x w) (hn : vx_no w = true) : w.before args s = true := by
  rcases h hn with h | h | ⟨y, hy, h⟩
  · exact hts w h
  · rw [h]; exact va_Nw.use rfl (hV.1 x hx)
  · rw [h]; exact va_Nw.use rfl (hV.2.2.2.1 y hy)
theorem th_ot {x : Nat} {w : Cond} (h : thP x w) (hn : vx_no w = true) : vx_ot w = true := by
  rcases h hn with h | h | ⟨y, hy, h⟩
  · unfold vx_ot
    rw [(List.mem_filter.mp h).2, Bool.or_true]
  · rw [h]; rfl
  · rw [h]; rfl
theorem thWN : ∀ x, x < 4 → (∀ w ∈ Bundle.ownAtoms0 (oN 11) (thI x).2 (exN x) ["java/lang/RuntimeException", "java/lang/Exception"], thP x w) ∧ Cond.classLink (oN 11) (thI x).1 (exN x) ∈ WG ∧ Cond.initialized (exN x) ∈ WG ∧ Bundle.fit (exN x) = true := fun x hx => match x, hx with
  | 0, _ => ⟨thW0, thL0.1, thL0.2, by decide⟩
  | 1, _ => ⟨thW1, thL1.1, thL1.2, by decide⟩
  | 2, _ => ⟨thW2, thL2.1, thL2.2, by decide⟩
  | 3, _ => ⟨thW3, thL3.1, thL3.2, by decide⟩
  | n + 4, h => absurd h (by omega)
theorem g_throw (hC : CX p l R s m args meth c A cc own nL ini fr lo D cy) (h11 : own = 11) (hout : ∀ x ∈ c.exceptionTable.toList, False) {Qc : Array Value → State → Outcome → State → Prop} {x : Nat} (hx4 : x < 4) (hQ : Q = vx_MQ below Qc (XcR D cy ad0 σ0 σ A (.inr x)) args s mc ms A) (hK0 : K0 = σ0.1) (hc : cells + 1 ≤ mc ∧ slots + 6 ≤ ms) (hRc : cells + 1 ≤ R.cells ∧ slots + 6 ≤ R.slots) (hfr : 6 ≤ fr) (hlo : 89 ≤ lo) (hst : sumc st ≤ 8)
    (d0 : decode cc pc = .ok (.new (thI x).1, 3)) (d3 : decode cc (pc + 3) = .ok (.dup, 1)) (d4 : decode cc (pc + 4) = .ok (.invokespecial (thI x).2, 3)) (d7 : decode cc (pc + 7) = .ok (.athrow, 1)) : GW p l e R s m args below meth c A nL D cy Q ad0 K0 pc lc st σ cells slots := by
  intro ad H locs ls hW hP hD hS hl hwl hws hr9
  subst hK0
  subst hQ
  subst h11
  obtain ⟨hx, hb, hml, hown, hts, hlocks, hst9, hA, hK, hV, hu, hn, -, hf9, hl9⟩ := hC
  obtain ⟨t1, t2, t3, t4⟩ := thWN x hx4
  refine vx_throw0 (names := ["java/lang/RuntimeException", "java/lang/Exception"]) (cls := exN x) hx hb hst9 hown t4 (by decide) (hts _ t2) (hts _ t3) (fun w hw => th_words hV hts hx4 (t1 w (List.mem_filter.mp hw).1) (List.mem_filter.mp hw).2) (fun w hw => ?_) hu hn hS (hl.1.trans hml.symm) d0 d3 d4 d7 (fun z hz => (hout z hz).elim) (by show 5 < R.frames; omega) (by
    rw [cvs_sum]
    show sumc st + 81 ≤ R.locals
    omega) hRc.1 hRc.2 hlocks ?_ hS.2.2 hc.1 hc.2
  · rcases List.mem_cons.mp hw with h | hw
    · rw [h]; rfl
    · rcases List.mem_cons.mp hw with h | hw
      · rw [h]; rfl
      · exact th_ot (t1 w (List.mem_filter.mp hw).1) (List.mem_filter.mp hw).2
  · intro t hvm hz hk
    refine ⟨⟨ad, x, hx4, rfl, rfl, ⟨hW.1, hW.2.1, trivial⟩, hW.2.2.1, hW.2.2.2, hP.kept (fun k q hq => hk q.1 ((hP k q hq).lt)), hD⟩, Nat.le_trans hS.1 hz, fun q hq hA9 => ?_⟩
    rw [hk q (Nat.lt_of_lt_of_le hq hS.1)]
    exact hS.2.1 q hq hA9
-- new cells
theorem WF_uN {σ : SG} (h : WF σ) : WF (uN σ) := ⟨by show 1 ≤ σ.1 + 1; omega, fun a b => by
  obtain ⟨h1, h2, h3⟩ := h.2 a b
  refine ⟨?_, ?_, ?_⟩
  · show R32 (upC σ.2.2.1 (σ.1 + 1) (fun _ => 0) a b)
    unfold upC
    split
    · exact (show R32 0 from ⟨by omega, by omega⟩)
    · exact h1
  · show R64 (upC σ.2.2.2.1 (σ.1 + 1) (fun _ => 0) a b)
    unfold upC
    split
    · exact (show R64 0 from ⟨by omega, by omega⟩)
    · exact h2
  · show upC σ.2.1 (σ.1 + 1) (fun _ => 0) a b ≤ σ.1 + 1
    unfold upC
    split
    · exact Nat.zero_le _
    · omega⟩
def adN (ad : Nat → Nat) (K : Nat) (q : Nat) : Nat → Nat := fun j => if j = K then q else ad j
theorem adN_ne {ad : Nat → Nat} {K q j : Nat} (h : j ≠ K) : adN ad K q j = ad j := if_neg h
theorem adN_same {ad : Nat → Nat} {K q : Nat} : adN ad K q K = q := if_pos rfl
theorem ent_uN {ad : Nat → Nat} {q j : Nat} (hw : WF σ) (h : j ≤ σ.1) : ent cy (adN ad (σ.1 + 1) q) (uN σ) j = ent cy ad σ j := by
  have hne : j ≠ σ.1 + 1 := by omega
  refine ent_congr (fun i => ?_) (fun i => (upC_ne hne : upC σ.2.2.1 (σ.1 + 1) (fun _ => 0) j i = σ.2.2.1 j i)) (fun i => (upC_ne hne : upC σ.2.2.2.1 (σ.1 + 1) (fun _ => 0) j i = σ.2.2.2.1 j i)) (fun i => (upC_ne hne : upC σ.2.2.2.2 (σ.1 + 1) (fun _ => 0) j i = σ.2.2.2.2 j i))
  show rfO (adN ad (σ.1 + 1) q) (upC σ.2.1 (σ.1 + 1) (fun _ => 0) j i) = _
  rw [upC_ne (by omega)]
  unfold rfO
  have := (hw.2 j i).2.2
  rw [adN_ne (by omega)]
theorem WS_uN {ad : Nat → Nat} {q : Nat} {en : va_E} (hw : WF σ) (he : ent cy (adN ad (σ.1 + 1) q) (uN σ) (σ.1 + 1) = en) : WS cy ad σ ++ [(q, en)] = WS cy (adN ad (σ.1 + 1) q) (uN σ) := by
  have h := WS_push (cy := cy) (ad := ad) (σ := σ) (σ' := uN σ) (ad' := adN ad (σ.1 + 1) q) rfl hw.1 (fun j hj => adN_ne (by omega)) he (fun j hj => ent_uN hw hj)
  rw [adN_same] at h
  exact h
theorem WD_uN {ad : Nat → Nat} {q : Nat} (h : WD ad0 K0 ad σ) : WD ad0 K0 (adN ad (σ.1 + 1) q) (uN σ) := ⟨WF_uN h.1, Nat.le_succ_of_le h.2.1, fun j hj => by
  have := h.2.1
  rw [adN_ne (by omega)]
  exact h.2.2.1 j hj, fun e => by
  have e9 : σ.1 + 1 = K0 := e
  have := h.2.1
  omega⟩
theorem g_new (hC : CX p l R s m args meth c A cc own nL ini fr lo D cy) {idx ci : Nat} (hd : decode cc pc = .ok (.new idx, 3)) (hw : Cond.classLink (oN own) idx (oN ci) ∈ WG) (hci : ci < 13) (ht : tgK (σ.1 + 1) = 16 + ci) (hr2 : cells + 1 ≤ R.cells ∧ slots + nFK ci ≤ R.slots) (k : GW p l e R s m args below meth c A nL D cy Q ad0 K0 (pc + 3) lc (aR (σ.1 + 1) :: st) (uN σ) (cells + 1) (slots + nFK ci)) : GW p l e R s m args below meth c A nL D cy Q ad0 K0 pc lc st σ cells slots := by
  intro ad H locs ls hW hP hD hS hl hwl hws hr9
  obtain ⟨hx, hb, -, hown, hts, -, -, hA, hK, -⟩ := hC
  obtain ⟨hc, hN, hnm⟩ := vcN_at ci hci
  obtain ⟨i1, i2⟩ := insN ci hci
  have hent : ∀ q : Nat, ent cy (adN ad (σ.1 + 1) q) (uN σ) (σ.1 + 1) = .inr (ci, (List.range (nFK ci)).map (fun j => if ftK ci j = 1 then Value.long 0 else if ftK ci j = 2 then .null else .int 0)) := by
    intro q
    rw [entO ht]
    congr 2
    apply List.map_congr_left
    intro j _
    unfold fval
    show (if ftK ci j = 1 then Value.long (Int64.ofInt (upC σ.2.2.2.1 (σ.1 + 1) (fun _ => 0) (σ.1 + 1) (j : Int))) else if ftK ci j = 2 then va_rf (rfO _ (upC σ.2.1 (σ.1 + 1) (fun _ => 0) (σ.1 + 1) (j : Int))) else .int (Int32.ofInt (upC σ.2.2.1 (σ.1 + 1) (fun _ => 0) (σ.1 + 1) (j : Int)))) = _
    rw [upC_same, upC_same, upC_same]
    rfl
  refine va_new (D := D) (C := (vcN ci).1) (T := (vcN ci).2.1) (N := (vcN ci).2.2) (ci := ci) (fs := (List.range (nFK ci)).map (fun j => if ftK ci j = 1 then Value.long 0 else if ftK ci j = 2 then .null else .int 0)) hx hb hts (uwN ci hci) (tyN ci) (by rw [hN]; exact tyN_ok ci hci) hown (by rw [hnm]; exact hts _ hw) (by rw [hnm, hN]; exact hts _ i1) (by rw [hnm]; exact hts _ i2) hK hP hD hS hA hc (fun j hj => ?_) hr2.1 (by rw [hN]; exact hr2.2) hd (fun q H1 hP1 hD1 hS1 => ?_)
  · rw [hN] at hj
    obtain ⟨a1, a2, a3, a4, a5⟩ := tyN_ft ci hci j hj
    unfold vp_V
    rw [List.getD_eq_getElem?_getD, range_get _ hj, Option.getD_some]
    rcases (show ftK ci j = 0 ∨ ftK ci j = 1 ∨ ftK ci j = 2 ∨ ftK ci j = 3 by omega) with h | h | h | h
    · rw [a1 h, h]; rfl
    · rw [a2 h, h]; rfl
    · have h9 := a4 h
      rw [h]
      cases hty : tyN ci j <;> rw [hty] at h9 <;> first | rfl | (exact absurd h9 (by decide))
    · rw [a3 h, h]; rfl
  · rw [WS_uN hW.1 (hent q)] at hP1 hD1
    have h9 := k (adN ad (σ.1 + 1) q) H1 locs ls (WD_uN hW) hP1 hD1 hS1 (by
      rw [cvl_eq (K := σ.1) (fun j hj => adN_ne (by omega)) hwl]; exact hl) (wfL_mono (Nat.le_succ _) hwl) (wfS_cons (Nat.le_refl _) (wfS_mono (Nat.le_succ _) hws)) ⟨hr2.1, hr2.2⟩
    have e9 : cvs (adN ad (σ.1 + 1) q) (aR (σ.1 + 1) :: st) = .ref q :: cvs ad st := by
      rw [← cvs_eq (K := σ.1) (ad' := adN ad (σ.1 + 1) q) (fun j hj => adN_ne (by omega)) hws]
      show Value.ref (adN ad (σ.1 + 1) q (σ.1 + 1)) :: _ = _
      rw [adN_same]
      rfl
    rw [e9] at h9
    rw [hN]
    exact h9
end ENDS

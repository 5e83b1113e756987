/-! STEPS that look at the heap -/
theorem range_get {α : Type} {N k : Nat} (g : Nat → α) (h : k < N) : ((List.range N).map g)[k]? = some (g k) := by
  rw [List.getElem?_map, List.getElem?_range h]; rfl
theorem range_set {α : Type} {N k : Nat} (g g' : Nat → α) (h : ∀ j, j ≠ k → g' j = g j) : ((List.range N).map g).set k (g' k) = (List.range N).map g' := by
  apply List.ext_getElem?
  intro i
  by_cases hi : i = k
  · subst hi
    by_cases hN : i < N
    · rw [List.getElem?_set_self (by simpa using hN), range_get _ hN]
    · rw [List.getElem?_eq_none (by simpa using Nat.not_lt.mp hN), List.getElem?_eq_none (by simpa using Nat.not_lt.mp hN)]
  · rw [List.getElem?_set_ne (Ne.symm hi)]
    by_cases hN : i < N
    · rw [range_get _ hN, range_get _ hN, h i hi]
    · rw [List.getElem?_eq_none (by simpa using Nat.not_lt.mp hN), List.getElem?_eq_none (by simpa using Nat.not_lt.mp hN)]
theorem WD_same {ad0 ad : Nat → Nat} {K0 : Nat} {σ σ' : SG} (h : WD ad0 K0 ad σ) (h1 : σ'.1 = σ.1) (hw : WF σ') : WD ad0 K0 ad σ' := ⟨hw, by rw [h1]; exact h.2.1, h.2.2.1, fun q => h.2.2.2 (h1.symm.trans q)⟩
theorem WF_uI {σ : SG} (h : WF σ) {k : Nat} {i x : Int} (hx : R32 x) : WF (uI σ k i x) := ⟨h.1, fun a b => ⟨by
  show R32 (up2 σ.2.2.1 k i x a b)
  unfold up2
  split
  · exact hx
  · exact (h.2 a b).1, (h.2 a b).2⟩⟩
theorem WF_uJ {σ : SG} (h : WF σ) {k : Nat} {i x : Int} (hx : R64 x) : WF (uJ σ k i x) := ⟨h.1, fun a b => ⟨(h.2 a b).1, by
  show R64 (up2 σ.2.2.2.1 k i x a b)
  unfold up2
  split
  · exact hx
  · exact (h.2 a b).2.1, (h.2 a b).2.2⟩⟩
theorem WF_uR {σ : SG} (h : WF σ) {k : Nat} {i : Int} {x : Nat} (hx : x ≤ σ.1) : WF (uR σ k i x) := ⟨h.1, fun a b => ⟨(h.2 a b).1, (h.2 a b).2.1, by
  show up2 σ.2.1 k i x a b ≤ σ.1
  unfold up2
  split
  · exact hx
  · exact (h.2 a b).2.2⟩⟩
theorem WF_uD {σ : SG} (h : WF σ) {k : Nat} {i : Int} {x : UInt64} : WF (uD σ k i x) := h
theorem WF_uC {σ : SG} (h : WF σ) {k : Nat} {g : Int → Int} (hg : ∀ j, R32 (g j)) : WF (uC σ k g) := ⟨h.1, fun a b => ⟨by
  show R32 (upC σ.2.2.1 k g a b)
  unfold upC
  split
  · exact hg b
  · exact (h.2 a b).1, (h.2 a b).2⟩⟩
section ENTU
variable {cy : Nat → ClassId} {ad : Nat → Nat} {σ : SG} {k j : Nat} {i : Int}
theorem ent_uI {x : Int} (h : j ≠ k) : ent cy ad (uI σ k i x) j = ent cy ad σ j := ent_congr (fun _ => rfl) (fun _ => up2_ne h) (fun _ => rfl) (fun _ => rfl)
theorem ent_uJ {x : Int} (h : j ≠ k) : ent cy ad (uJ σ k i x) j = ent cy ad σ j := ent_congr (fun _ => rfl) (fun _ => rfl) (fun _ => up2_ne h) (fun _ => rfl)
theorem ent_uD {x : UInt64} (h : j ≠ k) : ent cy ad (uD σ k i x) j = ent cy ad σ j := ent_congr (fun _ => rfl) (fun _ => rfl) (fun _ => rfl) (fun _ => up2_ne h)
theorem ent_uR {x : Nat} (h : j ≠ k) : ent cy ad (uR σ k i x) j = ent cy ad σ j := ent_congr (fun _ => congrArg (rfO ad) (up2_ne h)) (fun _ => rfl) (fun _ => rfl) (fun _ => rfl)
theorem ent_uC {g : Int → Int} (h : j ≠ k) : ent cy ad (uC σ k g) j = ent cy ad σ j := ent_congr (fun _ => rfl) (fun _ => upC_ne h) (fun _ => rfl) (fun _ => rfl)
theorem nat_eq {a : Nat} (h : 0 ≤ i) : ((a : Int) = i) ↔ a = i.toNat := by omega
theorem fI_up {x : Int} (hi : R32 i) (h0 : 0 ≤ i) : (fun a : Nat => Int32.ofInt (up2 σ.2.2.1 k i x k (a : Int))) = upd (fun a : Nat => Int32.ofInt (σ.2.2.1 k (a : Int))) (Int32.ofInt i).toNatClampNeg (Int32.ofInt x) := by
  funext a
  rw [up2_at, o_nat hi]
  unfold upd
  by_cases h : a = i.toNat
  · rw [if_pos ((nat_eq h0).mpr h), if_pos h]
  · rw [if_neg (fun q => h ((nat_eq h0).mp q)), if_neg h]
theorem fJ_up {x : Int} (hi : R32 i) (h0 : 0 ≤ i) : (fun a : Nat => Int64.ofInt (up2 σ.2.2.2.1 k i x k (a : Int))) = vp_updL (fun a : Nat => Int64.ofInt (σ.2.2.2.1 k (a : Int))) (Int32.ofInt i).toNatClampNeg (Int64.ofInt x) := by
  funext a
  rw [up2_at, o_nat hi]
  unfold vp_updL
  by_cases h : a = i.toNat
  · rw [if_pos ((nat_eq h0).mpr h), if_pos h]
  · rw [if_neg (fun q => h ((nat_eq h0).mp q)), if_neg h]
theorem fD_up {x : UInt64} (hi : R32 i) (h0 : 0 ≤ i) : (fun a : Nat => up2 σ.2.2.2.2 k i x k (a : Int)) = vf_upd (fun a : Nat => σ.2.2.2.2 k (a : Int)) (Int32.ofInt i).toNatClampNeg x := by
  funext a
  rw [up2_at, o_nat hi]
  unfold vf_upd
  by_cases h : a = i.toNat
  · rw [if_pos ((nat_eq h0).mpr h), if_pos h]
  · rw [if_neg (fun q => h ((nat_eq h0).mp q)), if_neg h]
end ENTU
theorem nar_bool {x : Int} (h : 0 ≤ x ∧ x ≤ 1) : narrow .boolean (.int (Int32.ofInt x)) = .int (Int32.ofInt x) := by
  rcases (show x = 0 ∨ x = 1 by omega) with rfl | rfl <;> rfl
theorem fit_bool {x : Int} (h : 0 ≤ x ∧ x ≤ 1) : fits .boolean (.int (Int32.ofInt x)) = true := by
  rcases (show x = 0 ∨ x = 1 by omega) with rfl | rfl <;> rfl
theorem vp_bool {x : Int} (h : 0 ≤ x ∧ x ≤ 1) : vp_nar .boolean (Int32.ofInt x) = Int32.ofInt x := by
  rcases (show x = 0 ∨ x = 1 by omega) with rfl | rfl <;> rfl
section HEAP
variable {p : Program} {l : Launch} {e : Env} {R : Room} {s : State} {m : MethodId} {args : Array Value} {below : List Frame} {meth : Method} {c : Code} {A : Nat → Prop} {cc : ByteArray} {own nL : Nat} {ini : Bool} {fr lo : Nat} {D : va_G} {cy : Nat → ClassId} {Q : State → Prop} {ad0 : Nat → Nat} {K0 pc : Nat} {lc : AL} {st : AS} {σ : SG} {cells slots : Nat}
theorem g_getfield (hC : CX p l R s m args meth c A cc own nL ini fr lo D cy) {idx ci f a : Nat} {v : AV} (hd : decode cc pc = .ok (.getfield idx, 3)) (hw : Cond.fieldLink (oN own) idx (fN ci f).1 (fN ci f).2.1 (fN ci f).2.2.1 ∈ WG) (hci : ci < 13) (hf : f < nFK ci) (h2 : 2 ≤ a ∧ a ≤ σ.1) (ht : tgK a = 16 + ci)
    (hv : ∀ ad : Nat → Nat, fval ad σ a (ftK ci f) f = cv ad v) (hwv : WF σ → wfv σ.1 v) (k : GW p l e R s m args below meth c A nL D cy Q ad0 K0 (pc + 3) lc (v :: st) σ cells slots) : GW p l e R s m args below meth c A nL D cy Q ad0 K0 pc lc (aR a :: st) σ cells slots := by
  intro ad H locs ls hW hP hD hS hl hwl hws hr
  obtain ⟨hx, hb, -, hown, hts, -, -, -, hK, -⟩ := hC
  obtain ⟨hc, hN, hnm⟩ := vcN_at ci hci
  refine va_get (D := D) (C := (vcN ci).1) (T := (vcN ci).2.1) (N := (vcN ci).2.2) (ci := ci) (a := ad a) (v := cv ad v) (ref := (fN ci f).1) hx hb hts (uwN ci hci) hown hK hP (a - 2) (WS_get (ad := ad) h2.1 h2.2 |>.trans (by rw [entO ht])) hc f (by rw [hN]; exact hf) (hts _ hw) (fun _ h => h) ?_ hd ?_
  · rw [range_get _ hf, hv ad]
  · exact k ad H locs ls hW hP hD hS hl hwl (wfS_cons (hwv hW.1) (wfS_tl hws)) hr
theorem g_putfield (hC : CX p l R s m args meth c A cc own nL ini fr lo D cy) {idx ci f a : Nat} {v : AV} {σ' : SG} (hd : decode cc pc = .ok (.putfield idx, 3)) (hw : Cond.fieldLink (oN own) idx (fN ci f).1 (fN ci f).2.1 (fN ci f).2.2.1 ∈ WG) (hci : ci < 13) (hf : f < nFK ci) (h2 : 2 ≤ a ∧ a ≤ σ.1) (ht : tgK a = 16 + ci)
    (hfin : (fN ci f).2.2.2 = false ∨ (ini = true ∧ own = ci)) (hnar : ∀ ad : Nat → Nat, narrow (tyN ci f) (cv ad v) = cv ad v) (hfit : ∀ ad : Nat → Nat, fits (tyN ci f) (cv ad v) = true)
    (h1 : σ'.1 = σ.1) (hwf : WF σ → WF σ') (he : ∀ ad : Nat → Nat, ∀ j, fval ad σ' a (ftK ci j) j = if j = f then cv ad v else fval ad σ a (ftK ci j) j) (ho : ∀ (ad : Nat → Nat) (j : Nat), j ≠ a → ent cy ad σ' j = ent cy ad σ j)
    (k : GW p l e R s m args below meth c A nL D cy Q ad0 K0 (pc + 3) lc st σ' cells slots) : GW p l e R s m args below meth c A nL D cy Q ad0 K0 pc lc (v :: aR a :: st) σ cells slots := by
  intro ad H locs ls hW hP hD hS hl hwl hws hr
  obtain ⟨hx, hb, -, hown, hts, -, -, -, hK, -, -, -, hin, -⟩ := hC
  obtain ⟨hc, hN, hnm⟩ := vcN_at ci hci
  have hg := WS_get (cy := cy) (ad := ad) h2.1 h2.2 |>.trans (show some (ad a, ent cy ad σ a) = some (ad a, .inr (ci, (List.range (nFK ci)).map (fun j => fval ad σ a (ftK ci j) j))) by rw [entO ht])
  have hset : (WS cy ad σ).set (a - 2) (ad a, .inr (ci, ((List.range (nFK ci)).map (fun j => fval ad σ a (ftK ci j) j)).set f (cv ad v))) = WS cy ad σ' := by
    refine WS_set h2.1 h2.2 h1 ?_ (ho ad)
    rw [entO ht]
    congr 2
    rw [← range_set (k := f) (fun j => fval ad σ a (ftK ci j) j) (fun j => fval ad σ' a (ftK ci j) j) (fun j hj => by rw [he ad j, if_neg hj])]
    rw [he ad f, if_pos rfl]
  have fin : ∀ (H1 : Heap) (locs1 : List Loc), va_P D vwCl ((WS cy ad σ).set (a - 2) (ad a, .inr (ci, ((List.range (nFK ci)).map (fun j => fval ad σ a (ftK ci j) j)).set f (cv ad v)))) H1 → va_D A ((WS cy ad σ).set (a - 2) (ad a, .inr (ci, ((List.range (nFK ci)).map (fun j => fval ad σ a (ftK ci j) j)).set f (cv ad v)))) → va_S A s.heap H1 locs1 → W p l e R s m args below meth c H1 locs1 cells slots Q (F0 m (pc + 3) ls (cvs ad st)) := by
    intro H1 locs1 hP1 hD1 hS1
    rw [hset] at hP1 hD1
    exact k ad H1 locs1 ls (WD_same hW h1 (hwf hW.1)) hP1 hD1 hS1 hl (by rw [h1]; exact hwl) (by rw [h1]; exact wfS_tl (wfS_tl hws)) hr
  by_cases hfi : (fN ci f).2.2.2 = false
  · exact va_put (D := D) (C := (vcN ci).1) (T := (vcN ci).2.1) (N := (vcN ci).2.2) (ci := ci) (a := ad a) (v := cv ad v) (ref := (fN ci f).1) (ty := tyN ci f) hx hb hts (uwN ci hci) (tyN ci) (by rw [hN]; exact tyN_ok ci hci) (by rw [hN]; exact nmN ci hci) hown hK hP hD hS (a - 2) hg hc f (by rw [hN]; exact hf) (hts _ hw) (fun _ h => h) hfi (tyN_ok ci hci f hf) (hnar ad) (hfit ad) (by simpa using hf) hd fin
  · obtain ⟨hi, ho9⟩ := hfin.resolve_left hfi
    subst ho9
    exact va_putF (D := D) (C := (vcN own).1) (T := (vcN own).2.1) (N := (vcN own).2.2) (ci := own) (a := ad a) (v := cv ad v) (ref := (fN own f).1) (ty := tyN own f) hx hb hts (uwN own hci) (tyN own) (by rw [hN]; exact tyN_ok own hci) (by rw [hN]; exact nmN own hci) hown hK hP hD hS (a - 2) hg hc f (by rw [hN]; exact hf) (hts _ hw) (fun _ h => h) (by cases hq : (fN own f).2.2.2 with | true => exact hq | false => exact absurd hq hfi) (hin hi) (fN_own own hci f) (tyN_ok own hci f hf) (hnar ad) (hfit ad) (by simpa using hf) hd fin
-- arrays
theorem g_iaload (hC : CX p l R s m args meth c A cc own nL ini fr lo D cy) {a : Nat} {i : Int} (hd : decode cc pc = .ok (.iaload, 1)) (h2 : 2 ≤ a ∧ a ≤ σ.1) (ht : tgK a = 0) (hi : 0 ≤ i ∧ i < lnK a) (k : GW p l e R s m args below meth c A nL D cy Q ad0 K0 (pc + 1) lc (aI (σ.2.2.1 a i) :: st) σ cells slots) : GW p l e R s m args below meth c A nL D cy Q ad0 K0 pc lc (aI i :: aR a :: st) σ cells slots := by
  intro ad H locs ls hW hP hD hS hl hwl hws hr
  obtain ⟨hx, hb, -, hown, hts, -, -, -, hK, -⟩ := hC
  have hir : R32 i := wfS_hd hws
  refine va_iald (D := D) hx hb hK hP (a - 2) 0 (WS_get (cy := cy) (ad := ad) h2.1 h2.2 |>.trans (by rw [ent0 ht])) rfl (o_in hir hi) hd ?_
  rw [o_nat hir, show ((i.toNat : Nat) : Int) = i from Int.toNat_of_nonneg hi.1]
  exact k ad H locs ls hW hP hD hS hl hwl (wfS_cons (hW.1.2 a i).1 (wfS_tl (wfS_tl hws))) hr
theorem g_baload (hC : CX p l R s m args meth c A cc own nL ini fr lo D cy) {a : Nat} {i : Int} (hd : decode cc pc = .ok (.baload, 1)) (h2 : 2 ≤ a ∧ a ≤ σ.1) (ht : tgK a = 2) (hi : 0 ≤ i ∧ i < lnK a) (k : GW p l e R s m args below meth c A nL D cy Q ad0 K0 (pc + 1) lc (aI (σ.2.2.1 a i) :: st) σ cells slots) : GW p l e R s m args below meth c A nL D cy Q ad0 K0 pc lc (aI i :: aR a :: st) σ cells slots := by
  intro ad H locs ls hW hP hD hS hl hwl hws hr
  obtain ⟨hx, hb, -, hown, hts, -, -, -, hK, -⟩ := hC
  have hir : R32 i := wfS_hd hws
  refine va_zald (D := D) hx hb hK hP (a - 2) 2 (WS_get (cy := cy) (ad := ad) h2.1 h2.2 |>.trans (by rw [ent2 ht])) rfl (o_in hir hi) hd ?_
  rw [o_nat hir, show ((i.toNat : Nat) : Int) = i from Int.toNat_of_nonneg hi.1]
  exact k ad H locs ls hW hP hD hS hl hwl (wfS_cons (hW.1.2 a i).1 (wfS_tl (wfS_tl hws))) hr
theorem g_laload (hC : CX p l R s m args meth c A cc own nL ini fr lo D cy) {a : Nat} {i : Int} (hd : decode cc pc = .ok (.laload, 1)) (h2 : 2 ≤ a ∧ a ≤ σ.1) (ht : tgK a = 1) (hi : 0 ≤ i ∧ i < lnK a) (k : GW p l e R s m args below meth c A nL D cy Q ad0 K0 (pc + 1) lc (aJ (σ.2.2.2.1 a i) :: st) σ cells slots) : GW p l e R s m args below meth c A nL D cy Q ad0 K0 pc lc (aI i :: aR a :: st) σ cells slots := by
  intro ad H locs ls hW hP hD hS hl hwl hws hr
  obtain ⟨hx, hb, -, hown, hts, -, -, -, hK, -⟩ := hC
  have hir : R32 i := wfS_hd hws
  refine va_lald (D := D) hx hb hK hP (a - 2) 1 (WS_get (cy := cy) (ad := ad) h2.1 h2.2 |>.trans (by rw [ent1 ht])) rfl (o_in hir hi) hd ?_
  rw [o_nat hir, show ((i.toNat : Nat) : Int) = i from Int.toNat_of_nonneg hi.1]
  exact k ad H locs ls hW hP hD hS hl hwl (wfS_cons (hW.1.2 a i).2.1 (wfS_tl (wfS_tl hws))) hr
theorem g_daload (hC : CX p l R s m args meth c A cc own nL ini fr lo D cy) {a : Nat} {i : Int} (hd : decode cc pc = .ok (.daload, 1)) (h2 : 2 ≤ a ∧ a ≤ σ.1) (ht : tgK a = 4) (hi : 0 ≤ i ∧ i < lnK a) (k : GW p l e R s m args below meth c A nL D cy Q ad0 K0 (pc + 1) lc (aD (σ.2.2.2.2 a i) :: st) σ cells slots) : GW p l e R s m args below meth c A nL D cy Q ad0 K0 pc lc (aI i :: aR a :: st) σ cells slots := by
  intro ad H locs ls hW hP hD hS hl hwl hws hr
  obtain ⟨hx, hb, -, hown, hts, -, -, -, hK, -⟩ := hC
  have hir : R32 i := wfS_hd hws
  refine va_dald (D := D) hx hb hK hP (a - 2) 4 (WS_get (cy := cy) (ad := ad) h2.1 h2.2 |>.trans (by rw [ent4 ht])) rfl (o_in hir hi) hd ?_
  rw [o_nat hir, show ((i.toNat : Nat) : Int) = i from Int.toNat_of_nonneg hi.1]
  exact k ad H locs ls hW hP hD hS hl hwl (wfS_cons trivial (wfS_tl (wfS_tl hws))) hr
theorem g_aaload (hC : CX p l R s m args meth c A cc own nL ini fr lo D cy) {a : Nat} {i : Int} (hd : decode cc pc = .ok (.aaload, 1)) (h2 : 2 ≤ a ∧ a ≤ σ.1) (ht : tgK a = 3) (hi : 0 ≤ i ∧ i < lnK a) (hne : σ.2.1 a i ≠ 0) (k : GW p l e R s m args below meth c A nL D cy Q ad0 K0 (pc + 1) lc (aR (σ.2.1 a i) :: st) σ cells slots) : GW p l e R s m args below meth c A nL D cy Q ad0 K0 pc lc (aI i :: aR a :: st) σ cells slots := by
  intro ad H locs ls hW hP hD hS hl hwl hws hr
  obtain ⟨hx, hb, -, hown, hts, -, -, -, hK, -⟩ := hC
  have hir : R32 i := wfS_hd hws
  have hin := o_in hir hi
  have hlt : (Int32.ofInt i).toNatClampNeg < (lnK a).toNat := Nat.not_le.mp fun q => hin (Or.inr q)
  have hg := WS_get (cy := cy) (ad := ad) h2.1 h2.2 |>.trans (show some (ad a, ent cy ad σ a) = some (ad a, .inl (cy 3, (lnK a).toNat, .inr (.inr (.inr (.inr (fun j => rfO ad (σ.2.1 a (j : Int)))))))) by rw [ent3 ht])
  refine W.aald (v := va_rf (rfO ad (σ.2.1 a i))) (ty := .array .int) hx hb (hP (a - 2) _ hg) ((hK.2 3 _ rfl).1 (lnK a).toNat (fun j => va_rf (rfO ad (σ.2.1 a (j : Int))))) rfl (fun q => by cases q) (by show ¬ (Int32.ofInt i < 0 ∨ (arrV _ _ _).slots.size ≤ _); rw [arrV_size]; exact hin) (by
    show (arrV _ _ _).slots[_]? = _
    rw [arrV_read _ _ hlt, o_nat hir]
    show some (va_rf (rfO ad (σ.2.1 a ((i.toNat : Nat) : Int)))) = _
    rw [show ((i.toNat : Nat) : Int) = i from Int.toNat_of_nonneg hi.1]) rfl rfl hd ?_
  have e : va_rf (rfO ad (σ.2.1 a i)) = cv ad (aR (σ.2.1 a i)) := by unfold rfO; rw [if_neg hne]; rfl
  rw [e]
  exact k ad H locs ls hW hP hD hS hl hwl (wfS_cons (hW.1.2 a i).2.2 (wfS_tl (wfS_tl hws))) hr
theorem g_iastore (hC : CX p l R s m args meth c A cc own nL ini fr lo D cy) {a : Nat} {i x : Int} (hd : decode cc pc = .ok (.iastore, 1)) (h2 : 2 ≤ a ∧ a ≤ σ.1) (ht : tgK a = 0) (hi : 0 ≤ i ∧ i < lnK a) (k : GW p l e R s m args below meth c A nL D cy Q ad0 K0 (pc + 1) lc st (uI σ a i x) cells slots) : GW p l e R s m args below meth c A nL D cy Q ad0 K0 pc lc (aI x :: aI i :: aR a :: st) σ cells slots := by
  intro ad H locs ls hW hP hD hS hl hwl hws hr
  obtain ⟨hx, hb, -, hown, hts, -, -, -, hK, -⟩ := hC
  have hxr : R32 x := wfS_hd hws
  have hir : R32 i := wfS_hd (wfS_tl hws)
  refine va_iast (D := D) hx hb hK hP hD hS (a - 2) 0 (WS_get (cy := cy) (ad := ad) h2.1 h2.2 |>.trans (by rw [ent0 ht])) rfl (o_in hir hi) hd (fun H1 locs1 hP1 hD1 hS1 => ?_)
  have hset := WS_set (cy := cy) (ad := ad) (σ := σ) (σ' := uI σ a i x) (k := a) h2.1 h2.2 rfl (ent0 ht) (fun j hj => ent_uI hj)
  have hf : (fun j : Nat => Int32.ofInt ((uI σ a i x).2.2.1 a (j : Int))) = _ := fI_up (σ := σ) (k := a) (x := x) hir hi.1
  rw [hf] at hset
  rw [hset] at hP1 hD1
  exact k ad H1 locs1 ls (WD_same hW rfl (WF_uI hW.1 hxr)) hP1 hD1 hS1 hl hwl (wfS_tl (wfS_tl (wfS_tl hws))) hr
theorem g_bastore (hC : CX p l R s m args meth c A cc own nL ini fr lo D cy) {a : Nat} {i x : Int} (hd : decode cc pc = .ok (.bastore, 1)) (h2 : 2 ≤ a ∧ a ≤ σ.1) (ht : tgK a = 2) (hi : 0 ≤ i ∧ i < lnK a) (hb01 : 0 ≤ x ∧ x ≤ 1) (k : GW p l e R s m args below meth c A nL D cy Q ad0 K0 (pc + 1) lc st (uI σ a i x) cells slots) : GW p l e R s m args below meth c A nL D cy Q ad0 K0 pc lc (aI x :: aI i :: aR a :: st) σ cells slots := by
  intro ad H locs ls hW hP hD hS hl hwl hws hr
  obtain ⟨hx, hb, -, hown, hts, -, -, -, hK, -⟩ := hC
  have hxr : R32 x := wfS_hd hws
  have hir : R32 i := wfS_hd (wfS_tl hws)
  refine va_zast (D := D) hx hb hK hP hD hS (a - 2) 2 (WS_get (cy := cy) (ad := ad) h2.1 h2.2 |>.trans (by rw [ent2 ht])) rfl (o_in hir hi) hd (fun H1 locs1 hP1 hD1 hS1 => ?_)
  rw [vp_bool hb01] at hP1 hD1
  have hset := WS_set (cy := cy) (ad := ad) (σ := σ) (σ' := uI σ a i x) (k := a) h2.1 h2.2 rfl (ent2 ht) (fun j hj => ent_uI hj)
  have hf : (fun j : Nat => Int32.ofInt ((uI σ a i x).2.2.1 a (j : Int))) = _ := fI_up (σ := σ) (k := a) (x := x) hir hi.1
  rw [hf] at hset
  rw [hset] at hP1 hD1
  exact k ad H1 locs1 ls (WD_same hW rfl (WF_uI hW.1 hxr)) hP1 hD1 hS1 hl hwl (wfS_tl (wfS_tl (wfS_tl hws))) hr
theorem g_lastore (hC : CX p l R s m args meth c A cc own nL ini fr lo D cy) {a : Nat} {i x : Int} (hd : decode cc pc = .ok (.lastore, 1)) (h2 : 2 ≤ a ∧ a ≤ σ.1) (ht : tgK a = 1) (hi : 0 ≤ i ∧ i < lnK a) (k : GW p l e R s m args below meth c A nL D cy Q ad0 K0 (pc + 1) lc st (uJ σ a i x) cells slots) : GW p l e R s m args below meth c A nL D cy Q ad0 K0 pc lc (aJ x :: aI i :: aR a :: st) σ cells slots := by
  intro ad H locs ls hW hP hD hS hl hwl hws hr
  obtain ⟨hx, hb, -, hown, hts, -, -, -, hK, -⟩ := hC
  have hxr : R64 x := wfS_hd hws
  have hir : R32 i := wfS_hd (wfS_tl hws)
  refine va_last (D := D) hx hb hK hP hD hS (a - 2) 1 (WS_get (cy := cy) (ad := ad) h2.1 h2.2 |>.trans (by rw [ent1 ht])) rfl (o_in hir hi) hd (fun H1 locs1 hP1 hD1 hS1 => ?_)
  have hset := WS_set (cy := cy) (ad := ad) (σ := σ) (σ' := uJ σ a i x) (k := a) h2.1 h2.2 rfl (ent1 ht) (fun j hj => ent_uJ hj)
  have hf : (fun j : Nat => Int64.ofInt ((uJ σ a i x).2.2.2.1 a (j : Int))) = _ := fJ_up (σ := σ) (k := a) (x := x) hir hi.1
  rw [hf] at hset
  rw [hset] at hP1 hD1
  exact k ad H1 locs1 ls (WD_same hW rfl (WF_uJ hW.1 hxr)) hP1 hD1 hS1 hl hwl (wfS_tl (wfS_tl (wfS_tl hws))) hr
theorem g_dastore (hC : CX p l R s m args meth c A cc own nL ini fr lo D cy) {a : Nat} {i : Int} {x : UInt64} (hd : decode cc pc = .ok (.dastore, 1)) (h2 : 2 ≤ a ∧ a ≤ σ.1) (ht : tgK a = 4) (hi : 0 ≤ i ∧ i < lnK a) (k : GW p l e R s m args below meth c A nL D cy Q ad0 K0 (pc + 1) lc st (uD σ a i x) cells slots) : GW p l e R s m args below meth c A nL D cy Q ad0 K0 pc lc (aD x :: aI i :: aR a :: st) σ cells slots := by
  intro ad H locs ls hW hP hD hS hl hwl hws hr
  obtain ⟨hx, hb, -, hown, hts, -, -, -, hK, -⟩ := hC
  have hir : R32 i := wfS_hd (wfS_tl hws)
  refine va_dast (D := D) hx hb hK hP hD hS (a - 2) 4 (WS_get (cy := cy) (ad := ad) h2.1 h2.2 |>.trans (by rw [ent4 ht])) rfl (o_in hir hi) hd (fun H1 locs1 hP1 hD1 hS1 => ?_)
  have hset := WS_set (cy := cy) (ad := ad) (σ := σ) (σ' := uD σ a i x) (k := a) h2.1 h2.2 rfl (ent4 ht) (fun j hj => ent_uD hj)
  have hf : (fun j : Nat => (uD σ a i x).2.2.2.2 a (j : Int)) = _ := fD_up (σ := σ) (k := a) (x := x) hir hi.1
  rw [hf] at hset
  rw [hset] at hP1 hD1
  exact k ad H1 locs1 ls (WD_same hW rfl (WF_uD hW.1)) hP1 hD1 hS1 hl hwl (wfS_tl (wfS_tl (wfS_tl hws))) hr
theorem g_alen (hC : CX p l R s m args meth c A cc own nL ini fr lo D cy) {a : Nat} (hd : decode cc pc = .ok (.arraylength, 1)) (h2 : 2 ≤ a ∧ a ≤ σ.1) (ht : tgK a = 0) (hr32 : 0 ≤ lnK a ∧ lnK a ≤ 100000) (k : GW p l e R s m args below meth c A nL D cy Q ad0 K0 (pc + 1) lc (aI (lnK a) :: st) σ cells slots) : GW p l e R s m args below meth c A nL D cy Q ad0 K0 pc lc (aR a :: st) σ cells slots := by
  intro ad H locs ls hW hP hD hS hl hwl hws hr
  obtain ⟨hx, hb, -, hown, hts, -, -, -, hK, -⟩ := hC
  exact va_alen (D := D) (v := Int32.ofInt (lnK a)) hx hb hK hP (a - 2) 0 (x := ((lnK a).toNat, .inl (fun j => Int32.ofInt (σ.2.2.1 a (j : Int))))) (WS_get (cy := cy) (ad := ad) h2.1 h2.2 |>.trans (by rw [ent0 ht])) rfl (o_natI hr32.1).symm hd (k ad H locs ls hW hP hD hS hl hwl (wfS_cons ⟨by omega, by omega⟩ (wfS_tl hws)) hr)
-- the JDK's max, min, arraycopy; Object's constructor
theorem g_max (hC : CX p l R s m args meth c A cc own nL ini fr lo D cy) {idx : Nat} {x y : Int} (hd : decode cc pc = .ok (.invokestatic idx, 3)) (hw : Cond.methodLink (oN own) idx Lib.Math.max.name ∈ WG) (hM : Cond.static Lib.Math.max.name ∈ WG ∧ Cond.initialized "java/lang/Math" ∈ WG ∧ Cond.code Lib.Math.max.name Lib.Math.max.code 2 (some .int) ∈ WG) (hfr : 1 ≤ fr) (hlo : 21 ≤ lo) (hst : sumc st ≤ 8) (k : GW p l e R s m args below meth c A nL D cy Q ad0 K0 (pc + 3) lc (aI (max x y) :: st) σ cells slots) : GW p l e R s m args below meth c A nL D cy Q ad0 K0 pc lc (aI y :: aI x :: st) σ cells slots := by
  intro ad H locs ls hW hP hD hS hl hwl hws hr
  obtain ⟨hx, hb, hml, hown, hts, -, -, -, hK, -, -, -, -, hf9, hl9⟩ := hC
  have hyr : R32 y := wfS_hd hws
  have hxr : R32 x := wfS_hd (wfS_tl hws)
  refine va_mmax hx hb (hml.trans hl.1.symm) hown (hts _ hw) (hts _ hM.1) (hts _ hM.2.1) (hts _ hM.2.2) (by omega) (by have h9 := cvs_sum ad st; unfold cvs at h9; rw [h9]; omega) hr.1 hr.2 hd ?_
  have e : (if Int32.ofInt x < Int32.ofInt y then Int32.ofInt y else Int32.ofInt x) = Int32.ofInt (max x y) := by
    by_cases h : x < y
    · rw [if_pos ((o_lt hxr hyr).mpr h), show max x y = y by omega]
    · rw [if_neg (fun q => h ((o_lt hxr hyr).mp q)), show max x y = x by omega]
  rw [e]
  exact k ad H locs ls hW hP hD hS hl hwl (wfS_cons (show wfv σ.1 (aI (max x y)) from ⟨by have := hxr.1; have := hyr.1; omega, by have := hxr.2; have := hyr.2; omega⟩) (wfS_tl (wfS_tl hws))) hr
theorem g_min (hC : CX p l R s m args meth c A cc own nL ini fr lo D cy) {idx : Nat} {x y : Int} (hd : decode cc pc = .ok (.invokestatic idx, 3)) (hw : Cond.methodLink (oN own) idx Lib.Math.min.name ∈ WG) (hM : Cond.static Lib.Math.min.name ∈ WG ∧ Cond.initialized "java/lang/Math" ∈ WG ∧ Cond.code Lib.Math.min.name Lib.Math.min.code 2 (some .int) ∈ WG) (hfr : 1 ≤ fr) (hlo : 21 ≤ lo) (hst : sumc st ≤ 8) (k : GW p l e R s m args below meth c A nL D cy Q ad0 K0 (pc + 3) lc (aI (min x y) :: st) σ cells slots) : GW p l e R s m args below meth c A nL D cy Q ad0 K0 pc lc (aI y :: aI x :: st) σ cells slots := by
  intro ad H locs ls hW hP hD hS hl hwl hws hr
  obtain ⟨hx, hb, hml, hown, hts, -, -, -, hK, -, -, -, -, hf9, hl9⟩ := hC
  have hyr : R32 y := wfS_hd hws
  have hxr : R32 x := wfS_hd (wfS_tl hws)
  refine va_mmin hx hb (hml.trans hl.1.symm) hown (hts _ hw) (hts _ hM.1) (hts _ hM.2.1) (hts _ hM.2.2) (by omega) (by have h9 := cvs_sum ad st; unfold cvs at h9; rw [h9]; omega) hr.1 hr.2 hd ?_
  have e : (if Int32.ofInt y < Int32.ofInt x then Int32.ofInt y else Int32.ofInt x) = Int32.ofInt (min x y) := by
    by_cases h : y < x
    · rw [if_pos ((o_lt hyr hxr).mpr h), show min x y = y by omega]
    · rw [if_neg (fun q => h ((o_lt hyr hxr).mp q)), show min x y = x by omega]
  rw [e]
  exact k ad H locs ls hW hP hD hS hl hwl (wfS_cons (show wfv σ.1 (aI (min x y)) from ⟨by have := hxr.1; have := hyr.1; omega, by have := hxr.2; have := hyr.2; omega⟩) (wfS_tl (wfS_tl hws))) hr
theorem g_copy (hC : CX p l R s m args meth c A cc own nL ini fr lo D cy) {idx a b : Nat} {sp dp n : Int} (hd : decode cc pc = .ok (.invokestatic idx, 3)) (hw : Cond.methodLink (oN own) idx arraycopyName ∈ WG) (hM : Cond.native arraycopyName ∈ WG ∧ Cond.static arraycopyName ∈ WG ∧ Cond.initialized "java/lang/System" ∈ WG) (ha : 2 ≤ a ∧ a ≤ σ.1) (hta : tgK a = 0) (hb2 : 2 ≤ b ∧ b ≤ σ.1) (htb : tgK b = 0)
    (h : 0 ≤ n ∧ 0 ≤ sp ∧ 0 ≤ dp ∧ sp + n ≤ lnK a ∧ dp + n ≤ lnK b) (hfr : 1 ≤ fr) (hlo : 40 ≤ lo) (hst : sumc st ≤ 8) (k : GW p l e R s m args below meth c A nL D cy Q ad0 K0 (pc + 3) lc st (uC σ b (fun j => if dp ≤ j ∧ j < dp + n then σ.2.2.1 a (sp + (j - dp)) else σ.2.2.1 b j)) cells slots) : GW p l e R s m args below meth c A nL D cy Q ad0 K0 pc lc (aI n :: aI dp :: aR b :: aI sp :: aR a :: st) σ cells slots := by
  intro ad H locs ls hW hP hD hS hl hwl hws hr
  obtain ⟨hx, hb, hml, hown, hts, -, -, -, hK, -, -, -, -, hf9, hl9⟩ := hC
  have hn : R32 n := wfS_hd hws
  have hdp : R32 dp := wfS_hd (wfS_tl hws)
  have hsp : R32 sp := wfS_hd (wfS_tl (wfS_tl (wfS_tl hws)))
  have z : ∀ q : Int, R32 q → 0 ≤ q → ¬ Int32.ofInt q < 0 := fun q hq h0 w => by
    have := (o_lt hq r0).mp w
    omega
  have nf : nativeFrameWords "java/lang/System" "arraycopy" 5 = 7 := by decide
  refine va_copyi (D := D) hx hb (hml.trans hl.1.symm) hown (hts _ hw) (hts _ hM.1) (hts _ hM.2.1) (hts _ hM.2.2) hK hP hD hS (a - 2) (b - 2) 0 0 (WS_get (cy := cy) (ad := ad) ha.1 ha.2 |>.trans (by rw [ent0 hta])) (WS_get (cy := cy) (ad := ad) hb2.1 hb2.2 |>.trans (by rw [ent0 htb])) rfl rfl rfl
    (z _ hsp h.2.1) (z _ hdp h.2.2.1) (z _ hn h.1) (by rw [o_nat hsp, o_nat hn]; omega) (by rw [o_nat hdp, o_nat hn]; omega) (fun _ _ => rfl) (by omega) (by have h9 := cvs_sum ad st; unfold cvs at h9; rw [h9, nf]; omega) hd (fun H1 locs1 hP1 hD1 hS1 => ?_)
  have hset := WS_set (cy := cy) (ad := ad) (σ := σ) (σ' := uC σ b (fun j => if dp ≤ j ∧ j < dp + n then σ.2.2.1 a (sp + (j - dp)) else σ.2.2.1 b j)) (k := b) hb2.1 hb2.2 rfl (ent0 htb) (fun j hj => ent_uC hj)
  have hf : (fun j : Nat => Int32.ofInt ((uC σ b (fun j => if dp ≤ j ∧ j < dp + n then σ.2.2.1 a (sp + (j - dp)) else σ.2.2.1 b j)).2.2.1 b (j : Int))) = va_cpy (fun j : Nat => Int32.ofInt (σ.2.2.1 a (j : Int))) (fun j : Nat => Int32.ofInt (σ.2.2.1 b (j : Int))) (Int32.ofInt sp).toNatClampNeg (Int32.ofInt dp).toNatClampNeg (Int32.ofInt n).toNatClampNeg := by
    funext j
    have e9 : (uC σ b (fun j => if dp ≤ j ∧ j < dp + n then σ.2.2.1 a (sp + (j - dp)) else σ.2.2.1 b j)).2.2.1 b (j : Int) = (if dp ≤ (j : Int) ∧ (j : Int) < dp + n then σ.2.2.1 a (sp + ((j : Int) - dp)) else σ.2.2.1 b (j : Int)) := by
      show (upC σ.2.2.1 b (fun j => if dp ≤ j ∧ j < dp + n then σ.2.2.1 a (sp + (j - dp)) else σ.2.2.1 b j)) b (j : Int) = _
      exact upC_same
    rw [e9, o_nat hsp, o_nat hdp, o_nat hn]
    unfold va_cpy
    by_cases q : dp ≤ (j : Int) ∧ (j : Int) < dp + n
    · rw [if_pos q, if_pos (by omega)]
      show _ = Int32.ofInt (σ.2.2.1 a ((sp.toNat + (j - dp.toNat) : Nat) : Int))
      rw [show ((sp.toNat + (j - dp.toNat) : Nat) : Int) = sp + ((j : Int) - dp) by omega]
    · rw [if_neg q, if_neg (by omega)]
  rw [hf] at hset
  rw [hset] at hP1 hD1
  exact k ad H1 locs1 ls (WD_same hW rfl (WF_uC hW.1 (fun j => by split; exact (hW.1.2 _ _).1; exact (hW.1.2 _ _).1))) hP1 hD1 hS1 hl hwl (wfS_tl (wfS_tl (wfS_tl (wfS_tl (wfS_tl hws))))) hr
theorem g_objInit (hC : CX p l R s m args meth c A cc own nL ini fr lo D cy) {idx a : Nat} (hd : decode cc pc = .ok (.invokespecial idx, 3)) (hw : Cond.methodLink (oN own) idx objectInit ∈ WG) (hM : Cond.instanceMethod objectInit ∈ WG ∧ Cond.code objectInit ⟨#[0xb1]⟩ 1 none ∈ WG) (hfr : 1 ≤ fr) (hlo : 20 ≤ lo) (hst : sumc st ≤ 8) (k : GW p l e R s m args below meth c A nL D cy Q ad0 K0 (pc + 3) lc st σ cells slots) : GW p l e R s m args below meth c A nL D cy Q ad0 K0 pc lc (aR a :: st) σ cells slots := by
  intro ad H locs ls hW hP hD hS hl hwl hws hr
  obtain ⟨hx, hb, hml, hown, hts, -, -, -, hK, -, -, -, -, hf9, hl9⟩ := hC
  exact W.objInit hx hb hown (hts _ hw) (hts _ hM.1) (hts _ hM.2) rfl (hl.1.trans hml.symm) rfl hd (by omega) (by
    show 2 * 0 + ((cvs ad st).map fun v => v.category).sum + 12 ≤ R.locals
    rw [cvs_sum]; omega) (k ad H locs ls hW hP hD hS hl hwl (wfS_tl hws) hr)
theorem swt_cases {β : Type} {x : Int} {d : Option β} {k : Nat → Option β} {pc : Nat} {o : β} : ∀ {lo : Int} {os : List Int}, swt x d k pc lo os = some o → (∃ off, lo ≤ x ∧ os[(x - lo).toNat]? = some off ∧ k ((pc : Int) + off).toNat = some o) ∨ ((x < lo ∨ lo + os.length ≤ x) ∧ d = some o) := by
  intro lo os
  induction os generalizing lo with
  | nil => intro h; exact Or.inr ⟨by simp only [List.length_nil]; omega, h⟩
  | cons a t ih =>
    intro h
    unfold swt at h
    by_cases e : x = lo
    · rw [if_pos e] at h
      exact Or.inl ⟨a, by omega, by rw [e, Int.sub_self]; rfl, h⟩
    · rw [if_neg e] at h
      rcases ih h with ⟨off, h1, h2, h3⟩ | ⟨h1, h2⟩
      · refine Or.inl ⟨off, by omega, ?_, h3⟩
        rw [show (x - lo).toNat = (x - (lo + 1)).toNat + 1 by omega]
        exact h2
      · exact Or.inr ⟨by simp only [List.length_cons]; omega, h2⟩
theorem g_tsw (hC : CX p l R s m args meth c A cc own nL ini fr lo D cy) {df lw hi : Int} {os : Array Int} {len : Nat} (hd : decode cc pc = .ok (.tableswitch df lw hi os, len)) (hos : lw + os.toList.length = hi + 1) (htg : 0 ≤ (pc : Int) + df ∧ ∀ off ∈ os.toList, 0 ≤ (pc : Int) + off) {β : Type} {dk : Option β} {kk : Nat → Option β} {o : β} {x : Int} (h : swt x dk kk pc lw os.toList = some o)
    (kd : dk = some o → GW p l e R s m args below meth c A nL D cy Q ad0 K0 ((pc : Int) + df).toNat lc st σ cells slots) (kt : ∀ t, kk t = some o → GW p l e R s m args below meth c A nL D cy Q ad0 K0 t lc st σ cells slots) : GW p l e R s m args below meth c A nL D cy Q ad0 K0 pc lc (aI x :: st) σ cells slots := by
  intro ad H locs ls hW hP hD hS hl hwl hws hr
  have hx : R32 x := wfS_hd hws
  rcases swt_cases h with ⟨off, h1, h2, h3⟩ | ⟨h1, h2⟩
  · have hm := List.mem_of_getElem? h2
    have hlt := (List.getElem?_eq_some_iff.mp h2).1
    refine lv_tableIn (off := off) hC.1 hC.2.1 hd (by rw [o_toInt hx]; omega) (by rw [o_toInt hx]; omega) (by rw [o_toInt hx, ← Array.getElem?_toList]; exact h2) (tgt := ((pc : Int) + off).toNat) (by have := htg.2 off hm; omega) ?_
    exact kt _ h3 ad H locs ls hW hP hD hS hl hwl (wfS_tl hws) hr
  · refine lv_tableOut hC.1 hC.2.1 hd (by rw [o_toInt hx]; omega) (tgt := ((pc : Int) + df).toNat) (by have := htg.1; omega) ?_
    exact kd h2 ad H locs ls hW hP hD hS hl hwl (wfS_tl hws) hr
end HEAP

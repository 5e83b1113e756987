/-! CALLS as steps; ends; a whole step; a whole segment -/
theorem met_of_vx {l : Launch} {y : MethodName} {ws : List Cond} {rm : Room} {Pc : Array Value → State → Prop} {Qc : Array Value → State → Outcome → State → Prop} {XC : String → State → State → Prop} {mc ms : Nat} {free : Addr → Prop} (h : vx_Met l y ws rm Pc Qc XC mc ms free) (hX : ∀ E st t, ¬ XC E st t) : Met l y ws rm Pc Qc mc ms free := by
  intro p e h1 h2 h3 s m args below h4 h5 h6 h7
  obtain ⟨n, o, g1, g2, g3, g4⟩ := h p e h1 h2 h3 s m args below h4 h5 h6 h7
  refine ⟨n, o, g1, g2, g3, g4.resolve_right ?_⟩
  rintro ⟨q, -, E, ce, L, hx, -⟩
  exact hX E _ _ hx
theorem vx_of_va {p : Program} {l : Launch} {e : Env} {R : Room} {s : State} {m : MethodId} {args : Array Value} {below : List Frame} {meth : Method} {c : Code} {H : Heap} {locs : List Loc} {cells slots mc ms : Nat} {g : JFrame} {rest : List Value} {Qa : State → Outcome → State → Prop} {XC : String → State → State → Prop} {free : Addr → Prop} (h : va_Run p l e R s m args below meth c H locs cells slots mc ms g rest Qa free) : vx_Run p l e R s m args below meth c H locs cells slots mc ms g rest Qa XC free := fun T hT X => Or.inl (h T hT X)
def XW (p : Program) (l : Launch) (e : Env) (R : Room) (s : State) (m : MethodId) (args : Array Value) (below : List Frame) (meth : Method) (c : Code) (A : Nat → Prop) (nL : Nat) (D : va_G) (cy : Nat → ClassId) (Q : State → Prop) (ad0 : Nat → Nat) (K0 : Nat) (x pc : Nat) (lc : AL) (rest : AS) (σ : SG) (cells slots : Nat) : Prop :=
  ∀ (ad : Nat → Nat) (H : Heap) (locs : List Loc) (ls : Array Slot) (ce : Cell) (q9 : Addr), x < 4 → WD ad0 K0 ad σ → va_P D vwCl (WS cy ad σ) H → va_D A (WS cy ad σ) → va_S A s.heap H locs → lv_has ls nL (cvl ad lc) → wfL σ.1 lc → H[q9]? = some ce → ce.vm = .none → s.vm.findClass (exN x) = some ce.cls → vx_W p l e R s m args below meth c H locs cells slots Q (F0 m pc ls (cvs ad rest)) q9
section RUNS
variable {p : Program} {l : Launch} {e : Env} {R : Room} {s : State} {m : MethodId} {args : Array Value} {below : List Frame} {meth : Method} {c : Code} {A : Nat → Prop} {cc : ByteArray} {own nL : Nat} {ini : Bool} {fr lo : Nat} {D : va_G} {cy : Nat → ClassId} {Q : State → Prop} {ad0 : Nat → Nat} {K0 pc : Nat} {lc : AL} {st : AS} {σ : SG} {cells slots : Nat}
theorem wfS_app {K : Nat} {a b : AS} (h : wfS K (a ++ b)) : wfS K a ∧ wfS K b := ⟨fun v q => h v (List.mem_append_left _ q), fun v q => h v (List.mem_append_right _ q)⟩
theorem wfS_rev {K : Nat} {a : AS} (h : wfS K a.reverse) : wfS K a := fun v q => h v (List.mem_reverse.mpr q)
/-- behind any call -/
theorem call_end (hC : CX p l R s m args meth c A cc own nL ini fr lo D cy) {n : Nat} {ad : Nat → Nat} {H : Heap} {locs : List Loc} {ls : Array Slot} {st0 : List Value} {σ' : SG} {o : AO} {a : Array Value} {rest : AS}
    (hP : va_P D vwCl (WS cy ad σ) H) (hD : va_D A (WS cy ad σ)) (hS : va_S A s.heap H locs) (hW : WD ad0 K0 ad σ) (hl : lv_has ls nL (cvl ad lc)) (hwl : wfL σ.1 lc) (hws : wfS σ.1 rest) (hr2 : cells + mC n ≤ R.cells ∧ slots + mS n ≤ R.slots)
    (hr : vx_Run p l e R s m args below meth c H locs cells slots (mC n) (mS n) (F0 m pc ls st0) (cvs ad rest) (QcR D cy ad σ σ' (va_A (WS cy ad σ) H.size) o a) (XcR D cy ad σ σ' (va_A (WS cy ad σ) H.size) o) (va_A (WS cy ad σ) H.size))
    (kx : ∀ x, o = .inr x → XW p l e R s m args below meth c A nL D cy Q ad0 K0 x pc lc rest σ' (cells + mC n) (slots + mS n)) (kk : ∀ v, o = .inl v → GW p l e R s m args below meth c A nL D cy Q ad0 K0 (pc + 3) lc (v.toList ++ rest) σ' (cells + mC n) (slots + mS n)) : W p l e R s m args below meth c H locs cells slots Q (F0 m pc ls st0) := by
  refine run_on hC hP hD hS hW hr ?_ ?_
  · intro ad' x H1 locs1 ce q9 hx4 ho hwf1 hW' hag hP' hD' hS' h1 h2 h3
    rw [← cvs_eq hag hws]
    exact kx x ho ad' H1 locs1 ls ce q9 hx4 hW' hP' hD' hS' (by rw [cvl_eq hag hwl]; exact hl) (wfL_mono hwf1 hwl) h1 h2 h3
  · intro ad' v H1 locs1 ho hwf hW' hag hP' hD' hS'
    have h9 := kk v ho ad' H1 locs1 ls hW' hP' hD' hS' (by rw [cvl_eq hag hwl]; exact hl) (wfL_mono hwf.1 hwl) (by
      subst ho
      intro z hz
      rcases List.mem_append.mp hz with hz | hz
      · cases v with
        | none => cases hz
        | some w => cases List.mem_singleton.mp hz; exact hwf.2
      · exact wfv_mono hwf.1 (hws z hz)) hr2
    have e9 : cvs ad' (v.toList ++ rest) = (v.map (cv ad')).toList ++ cvs ad rest := by
      rw [← cvs_eq hag hws]
      cases v <;> rfl
    rw [e9] at h9
    exact h9
theorem g_callV (hC : CX p l R s m args meth c A cc own nL ini fr lo D cy) {idx n a : Nat} {as rest : AS} {o : AO} {σ' : SG} (hk : mK n = 1) (hd : decode cc pc = .ok (.invokevirtual idx, 3)) (ho : CallOk own idx n fr lo) (hnum : as.length = mN n) (h2 : 2 ≤ a ∧ a ≤ σ.1) (ht : tgK a = 16 + mO n) (h13 : mO n < 13) (hrest : sumc rest ≤ 8) (hct : MCT n [] (aR a :: as) σ o σ') (hr2 : cells + mC n ≤ R.cells ∧ slots + mS n ≤ R.slots)
    (kx : ∀ x, o = .inr x → XW p l e R s m args below meth c A nL D cy Q ad0 K0 x pc lc rest σ' (cells + mC n) (slots + mS n)) (kk : ∀ v, o = .inl v → GW p l e R s m args below meth c A nL D cy Q ad0 K0 (pc + 3) lc (v.toList ++ rest) σ' (cells + mC n) (slots + mS n)) : GW p l e R s m args below meth c A nL D cy Q ad0 K0 pc lc (as.reverse ++ aR a :: rest) σ cells slots := by
  intro ad H locs ls hW hP hD hS hl hwl hws hr
  obtain ⟨hx, hb, hml, hown, hts, -, hst9, hA, hK, hV, hu, hn, -, hf9, hl9⟩ := id hC
  obtain ⟨hwa, hwr⟩ := wfS_app hws
  have hwas : wfS σ.1 (aR a :: as) := wfS_cons (wfS_hd hwr) (wfS_rev hwa)
  have hmet := hct hW.1 hwas
  have hM := hmet l hst9 D cy ad H.size
  obtain ⟨f1, f2, f3, f4, f5, f6, f7, f8, f9, f10⟩ := ho.1
  obtain ⟨hc, hN, hnm⟩ := vcN_at (mO n) h13
  have hg := WS_get (cy := cy) (ad := ad) h2.1 h2.2 |>.trans (show some (ad a, ent cy ad σ a) = some (ad a, .inr (mO n, (List.range (nFK (mO n))).map (fun j => fval ad σ a (ftK (mO n) j) j))) by rw [entO ht])
  have hrc := va_recv hK hP hc hg
  rw [hnm, ← f6] at hrc
  have est : cvs ad (as.reverse ++ aR a :: rest) = (cvs ad as).reverse ++ Value.ref (ad a) :: cvs ad rest := by
    unfold cvs
    rw [List.map_append, List.map_reverse]
    rfl
  rw [est]
  exact call_end hC hP hD hS hW hl hwl (wfS_tl hwr) hr2 (vx_runV (n := mN n) (As := cvs ad as) (rest := cvs ad rest) (b := ad a) ⟨hx, hb, hml, hown, hts⟩ hM ⟨callB_at hC (by omega) ho, hts _ (f4 (Or.inl hk)), hts _ (f5 hk)⟩ ⟨PREs_blind, hrc, fun U hU hW9 => ⟨rfl, pre_at hC hP hD hS hU hW9⟩⟩ rfl (by unfold cvs; rw [List.length_map]; exact hnum) hl.1 rfl (lv_room (by rw [cvs_sum]; exact hrest)) hd hr2) kx kk
theorem g_callS (hC : CX p l R s m args meth c A cc own nL ini fr lo D cy) {idx n : Nat} {as rest : AS} {o : AO} {σ' : SG} (hk : mK n = 0) (hd : decode cc pc = .ok (.invokestatic idx, 3)) (ho : CallOk own idx n fr lo) (hnum : as.length = mN n) (hrest : sumc rest ≤ 8) (hct : MCT n [] as σ o σ') (hr2 : cells + mC n ≤ R.cells ∧ slots + mS n ≤ R.slots)
    (kx : ∀ x, o = .inr x → XW p l e R s m args below meth c A nL D cy Q ad0 K0 x pc lc rest σ' (cells + mC n) (slots + mS n)) (kk : ∀ v, o = .inl v → GW p l e R s m args below meth c A nL D cy Q ad0 K0 (pc + 3) lc (v.toList ++ rest) σ' (cells + mC n) (slots + mS n)) : GW p l e R s m args below meth c A nL D cy Q ad0 K0 pc lc (as.reverse ++ rest) σ cells slots := by
  intro ad H locs ls hW hP hD hS hl hwl hws hr
  obtain ⟨hx, hb, hml, hown, hts, -, hst9, hA, hK, hV, hu, hn, -, hf9, hl9⟩ := id hC
  obtain ⟨hwa, hwr⟩ := wfS_app hws
  have hmet := hct hW.1 (wfS_rev hwa)
  have hM := hmet l hst9 D cy ad H.size
  obtain ⟨f1, f2, f3, f4, f5, f6, f7, f8, f9, f10⟩ := ho.1
  have est : cvs ad (as.reverse ++ rest) = (cvs ad as).reverse ++ cvs ad rest := by
    unfold cvs
    rw [List.map_append, List.map_reverse]
  rw [est]
  exact call_end hC hP hD hS hW hl hwl hwr hr2 (vx_runS (n := mN n) (As := cvs ad as) (rest := cvs ad rest) ⟨hx, hb, hml, hown, hts⟩ hM ⟨callB_at hC (by omega) ho, hts _ (f3 (Or.inl hk))⟩ ⟨PREs_blind, fun U hU hW9 => ⟨rfl, pre_at hC hP hD hS hU hW9⟩⟩ rfl (by unfold cvs; rw [List.length_map]; exact hnum) hl.1 rfl (lv_room (by rw [cvs_sum]; exact hrest)) hd hr2) kx kk
/-- a helper with handlers, from the law's entry -/
theorem g_callH (hC : CX p l R s m args meth c A cc own nL ini fr lo D cy) {idx n : Nat} {hh : List (Nat × Nat × Nat × Nat)} {as rest : AS} {o : AO} {σ' : SG} (hk : mK n = 4) (hd : decode cc pc = .ok (.invokestatic idx, 3)) (ho : CallOk own idx n fr lo) (hcw : Cond.codeWith (mY n) (mB n) (mX n) (mT n) hh ∈ WG) (hnum : as.length = mN n) (hrest : sumc rest ≤ 8) (hct : MCT n hh as σ o σ') (hr2 : cells + mC n ≤ R.cells ∧ slots + mS n ≤ R.slots)
    (kx : ∀ x, o = .inr x → XW p l e R s m args below meth c A nL D cy Q ad0 K0 x pc lc rest σ' (cells + mC n) (slots + mS n)) (kk : ∀ v, o = .inl v → GW p l e R s m args below meth c A nL D cy Q ad0 K0 (pc + 3) lc (v.toList ++ rest) σ' (cells + mC n) (slots + mS n)) : GW p l e R s m args below meth c A nL D cy Q ad0 K0 pc lc (as.reverse ++ rest) σ cells slots := by
  intro ad H locs ls hW hP hD hS hl hwl hws hr
  obtain ⟨hx, hb, hml, hown, hts, -, hst9, hA, hK, hV, hu, hn, -, hf9, hl9⟩ := id hC
  obtain ⟨hwa, hwr⟩ := wfS_app hws
  have hmet := hct hW.1 (wfS_rev hwa)
  have hM := hmet l hst9 D cy ad H.size
  obtain ⟨⟨f1, f2, f3, f4, f5, f6, f7, f8, f9, f10⟩, hlk, hfr, hlo⟩ := ho
  have est : cvs ad (as.reverse ++ rest) = (cvs ad as).reverse ++ cvs ad rest := by
    unfold cvs
    rw [List.map_append, List.map_reverse]
  rw [est]
  have hws9 : ∀ w ∈ WSM n hh, w ∈ WG := fun w hw => (List.mem_cons.mp hw).elim (fun e => by rw [e, if_pos hk]; exact hcw) id
  have hcs : vx_CSW R s args (oN own) idx (mY n) (mB n) (mX n) (mT n) hh (WSM n hh) (rmM n) (mC n) (mS n) (mN n) :=
    ⟨⟨rfl, rfl, Nat.le_trans hfr hf9, Nat.le_trans hlo hl9, fun w hw => pay_WG hC (hws9 w hw), by unfold WSM; rw [if_pos hk]; exact List.mem_cons_self⟩, hts _ hcw, hts _ f2, f10, fun sig h => by
      rw [h] at f9
      exact (Option.some.inj f9).symm, hts _ hlk, hts _ (f3 (Or.inr hk))⟩
  exact call_end hC hP hD hS hW hl hwl hwr hr2 (vx_runSX (n := mN n) (As := cvs ad as) (rest := cvs ad rest) ⟨hx, hb, hml, hown, hts⟩ hM hcs ⟨PREs_blind, fun U hU hW9 => ⟨rfl, pre_at hC hP hD hS hU hW9⟩⟩ rfl (by unfold cvs; rw [List.length_map]; exact hnum) hl.1 rfl (lv_room (by rw [cvs_sum]; exact hrest)) hd hr2) kx kk
theorem xcr_none {D : va_G} {cy : Nat → ClassId} {ad : Nat → Nat} {σ σ' : SG} {A : Nat → Prop} {v : Option AV} : ∀ E st t, ¬ XcR D cy ad σ σ' A (.inl v) E st t := by
  rintro E st t ⟨⟨ad', x, -, h, -⟩, -⟩
  cases h
theorem g_callI (hC : CX p l R s m args meth c A cc own nL ini fr lo D cy) {idx n a : Nat} {as rest : AS} {σ' : SG} (hk : mK n = 2 ∧ CallOk own idx n fr lo ∨ mK n = 3 ∧ own = 11 ∧ (idx, n) ∈ nestL ∧ mFacts n ∧ mFr n + 1 ≤ fr ∧ 8 + (mX n + 11) + mLo n ≤ lo) (hT : mT n = none) (hd : decode cc pc = .ok (.invokespecial idx, 3)) (hnum : as.length = mN n) (hrest : sumc rest ≤ 8) (hct : MCT n [] (aR a :: as) σ (.inl none) σ') (hr2 : cells + mC n ≤ R.cells ∧ slots + mS n ≤ R.slots)
    (kk : GW p l e R s m args below meth c A nL D cy Q ad0 K0 (pc + 3) lc rest σ' (cells + mC n) (slots + mS n)) : GW p l e R s m args below meth c A nL D cy Q ad0 K0 pc lc (as.reverse ++ aR a :: rest) σ cells slots := by
  intro ad H locs ls hW hP hD hS hl hwl hws hr
  obtain ⟨hx, hb, hml, hown, hts, -, hst9, hA, hK, hV, hu, hn, -, hf9, hl9⟩ := id hC
  obtain ⟨hwa, hwr⟩ := wfS_app hws
  have hwas : wfS σ.1 (aR a :: as) := wfS_cons (wfS_hd hwr) (wfS_rev hwa)
  have hmet := hct hW.1 hwas
  have hM := met_of_vx (hmet l hst9 D cy ad H.size) xcr_none
  have est : cvs ad (as.reverse ++ aR a :: rest) = (cvs ad as).reverse ++ Value.ref (ad a) :: cvs ad rest := by
    unfold cvs
    rw [List.map_append, List.map_reverse]
    rfl
  rw [est]
  rcases hk with ⟨hk, ho⟩ | ⟨hk, h11, hne, hmf, hfr, hlo⟩
  · obtain ⟨f1, f2, f3, f4, f5, f6, f7, f8, f9, f10⟩ := ho.1
    have cb := callB_at hC (n := n) (by omega) ho
    rw [hT] at cb
    exact call_end hC hP hD hS hW hl hwl (wfS_tl hwr) hr2 (vx_of_va (va_runI (n := mN n) (As := cvs ad as) (rest := cvs ad rest) (b := ad a) ⟨hx, hb, hml, hown, hts⟩ hM ⟨cb, f8 (Or.inl hk), hts _ (f4 (Or.inr (Or.inl hk)))⟩ ⟨PREs_blind, fun U hU hW9 => ⟨rfl, pre_at hC hP hD hS hU hW9⟩⟩ rfl (by unfold cvs; rw [List.length_map]; exact hnum) hl.1 rfl (lv_room (by rw [cvs_sum]; exact hrest)) hd hr2)) (fun x h => by cases h) (fun v h => by cases h; exact kk)
  · obtain ⟨f1, f2, f3, f4, f5, f6, f7, f8, f9, f10⟩ := hmf
    subst h11
    have hcode : Cond.code (mY n) (mB n) (mX n) (mT n) ∈ WG := f1.resolve_left (by omega)
    have hws9 : ∀ w ∈ WSM n [], w ∈ WG := fun w hw => (List.mem_cons.mp hw).elim (fun e => by rw [e, if_neg (by omega)]; exact hcode) id
    have cn : va_CN R s args (oN 11) idx (mY n) (oN 11) (mB n) (mX n) none (WSM n []) (rmM n) (mC n) (mS n) (mN n) := by
      rw [hT] at hcode
      exact ⟨⟨rfl, rfl, Nat.le_trans hfr hf9, Nat.le_trans hlo hl9, fun w hw => pay_WG hC (hws9 w hw), by unfold WSM; rw [if_neg (by omega), hT]; exact List.mem_cons_self⟩, hts _ hcode, hts _ f2, f10, fun sig h => by
        rw [h] at f9
        exact (Option.some.inj f9).symm, va_Nw.use rfl (hV.2.2.2.2 _ hne)⟩
    exact call_end hC hP hD hS hW hl hwl (wfS_tl hwr) hr2 (vx_of_va (va_runIN (n := mN n) (As := cvs ad as) (rest := cvs ad rest) (b := ad a) ⟨hx, hb, hml, hown, hts⟩ hM ⟨cn, f8 (Or.inr hk), hts _ (f4 (Or.inr (Or.inr hk)))⟩ ⟨PREs_blind, fun U hU hW9 => ⟨rfl, pre_at hC hP hD hS hU hW9⟩⟩ rfl (by unfold cvs; rw [List.length_map]; exact hnum) hl.1 rfl (lv_room (by rw [cvs_sum]; exact hrest)) hd hr2)) (fun x h => by cases h) (fun v h => by cases h; exact kk)
end RUNS

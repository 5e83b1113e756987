/-! CALLS: a method's contract in the abstract machine's words -/
def aargs : Nat → AS → AL
  | _, [] => []
  | i, v :: t => (i, v) :: aargs (if acat v = 2 then i + 2 else i + 1) t
theorem cvl_aargs (ad : Nat → Nat) : ∀ (as : AS) (i : Nat), cvl ad (aargs i as) = lv_args i (cvs ad as)
  | [], _ => rfl
  | v :: t, i => by
    show (i, cv ad v) :: cvl ad (aargs (if acat v = 2 then i + 2 else i + 1) t) = (i, cv ad v) :: lv_args (if (cv ad v).category = 2 then i + 2 else i + 1) (cvs ad t)
    rw [cv_cat, cvl_aargs ad t]
theorem wfL_aargs {K : Nat} : ∀ (as : AS) (i : Nat), wfS K as → wfL K (aargs i as)
  | [], _, _ => fun q hq => by cases hq
  | v :: t, i, h => fun q hq => (List.mem_cons.mp hq).elim (fun e => by rw [e]; exact wfS_hd h) (wfL_aargs t _ (wfS_tl h) q)
/-- handlers of the law's helpers -/
def WSM (n : Nat) (hh : List (Nat × Nat × Nat × Nat)) : List Cond := (if mK n = 4 then Cond.codeWith (mY n) (mB n) (mX n) (mT n) hh else Cond.code (mY n) (mB n) (mX n) (mT n)) :: WG
def rmM (n : Nat) : Room := { frames := mFr n, cells := mC n, slots := mS n, locals := mLo n }
def PREs (D : va_G) (cy : Nat → ClassId) (ad : Nat → Nat) (σ : SG) (U : State) : Prop := va_P D vwCl (WS cy ad σ) U.heap ∧ va_K D vwCl (tysL cy) U ∧ va_D (fun _ => True) (WS cy ad σ) ∧ VB U ∧ vx_Zq Bundle.tN "UNASSIGNED_STACK" Bundle.steD (va_A (WS cy ad σ) U.heap.size) U U.heap ∧ vx_Zq Bundle.tN "SUPPRESSED_SENTINEL" Bundle.listD (va_A (WS cy ad σ) U.heap.size) U U.heap
def wfO (K : Nat) : AO → Prop
  | .inl (some v) => wfv K v
  | _ => True
def PSTs (D : va_G) (cy : Nat → ClassId) (ad : Nat → Nat) (σ σ' : SG) (o : AO) (A : Nat → Prop) (ad' : Nat → Nat) (H : Heap) : Prop := (WF σ' ∧ σ.1 ≤ σ'.1 ∧ wfO σ'.1 o) ∧ (∀ j, j ≤ σ.1 → ad' j = ad j) ∧ (σ'.1 = σ.1 → ad' = ad) ∧ va_P D vwCl (WS cy ad' σ') H ∧ va_D A (WS cy ad' σ')
def QcR (D : va_G) (cy : Nat → ClassId) (ad : Nat → Nat) (σ σ' : SG) (A : Nat → Prop) (o : AO) : Array Value → State → Outcome → State → Prop := fun _ st oc t => (∃ (ad' : Nat → Nat) (v : Option AV), o = .inl v ∧ oc = .returned (v.map (cv ad')) ∧ PSTs D cy ad σ σ' o A ad' t.heap) ∧ va_F A st t
def XcR (D : va_G) (cy : Nat → ClassId) (ad : Nat → Nat) (σ σ' : SG) (A : Nat → Prop) (o : AO) : String → State → State → Prop := fun E st t => (∃ (ad' : Nat → Nat) (e : Nat), e < 4 ∧ o = .inr e ∧ E = exN e ∧ PSTs D cy ad σ σ' o A ad' t.heap) ∧ va_F A st t
/-- method n, called with these arguments in this state, comes to this result and state -/
def MCT (n : Nat) (hh : List (Nat × Nat × Nat × Nat)) (as : AS) (σ : SG) (o : AO) (σ' : SG) : Prop := WF σ → wfS σ.1 as → ∀ (l : Launch), l.stackTraces = false → ∀ (D : va_G) (cy : Nat → ClassId) (ad : Nat → Nat) (sz : Nat),
    vx_Met l (mY n) (WSM n hh) (rmM n) (va_Pc (cvs ad as) (fun U => U.heap.size = sz ∧ PREs D cy ad σ U)) (QcR D cy ad σ σ' (va_A (WS cy ad σ) sz) o) (XcR D cy ad σ σ' (va_A (WS cy ad σ) sz) o) (mC n) (mS n) (va_A (WS cy ad σ) sz)
theorem PREs_blind {D : va_G} {cy : Nat → ClassId} {ad : Nat → Nat} {σ : SG} {sz : Nat} {av : List Value} : FrameBlind (va_Pc av (fun U => U.heap.size = sz ∧ PREs D cy ad σ U)) := by
  intro a U g mk h
  obtain ⟨h1, h2, hP, hK, hD, hV, hu, hn⟩ := h
  exact ⟨h1, h2, hP, va_K.moved (u := U) (U := U.calling g mk a) (Vm.Alike.refl U.vm) hK, hD, VB_same (u := U) (U := U.calling g mk a) rfl hV, vx_Zq.moved (u := U) (U := U.calling g mk a) (Vm.Alike.refl U.vm) hu, vx_Zq.moved (u := U) (U := U.calling g mk a) (Vm.Alike.refl U.vm) hn⟩
section CALLS
variable {p : Program} {l : Launch} {e : Env} {R : Room} {s : State} {m : MethodId} {args : Array Value} {below : List Frame} {meth : Method} {c : Code} {A : Nat → Prop} {cc : ByteArray} {own nL : Nat} {ini : Bool} {fr lo : Nat} {D : va_G} {cy : Nat → ClassId} {Q : State → Prop} {ad0 : Nat → Nat} {K0 pc : Nat} {lc : AL} {st : AS} {σ : SG} {cells slots : Nat}
/-- what a callee asks of the state holds at the call -/
theorem pre_at (hC : CX p l R s m args meth c A cc own nL ini fr lo D cy) {ad : Nat → Nat} {H : Heap} {locs : List Loc} (hP : va_P D vwCl (WS cy ad σ) H) (hD : va_D A (WS cy ad σ)) (hS : va_S A s.heap H locs) {U : State} (hU : U.heap = H) (hW : s.WarmedH U.vm) : U.heap.size = H.size ∧ PREs D cy ad σ U := by
  obtain ⟨-, -, -, -, -, -, -, hA, hK, hV, hu, hn, -⟩ := hC
  have hsub : ∀ q, va_A (WS cy ad σ) H.size q → A q := fun q h => h.elim (fun ⟨k, e, hk⟩ => hD.2 k _ hk) (fun h => hA q (Nat.le_trans hS.1 h))
  refine ⟨by rw [hU], by rw [hU]; exact hP, va_K.moved hW.alike hK, hD.weaken (fun _ _ _ _ => trivial), VB_warm hW hV, ?_, ?_⟩
  · rw [hU]
    exact vx_Zq.moved hW.alike (vx_Zq.narrow (vx_Zq.kept hu hS.2.1) hsub)
  · rw [hU]
    exact vx_Zq.moved hW.alike (vx_Zq.narrow (vx_Zq.kept hn hS.2.1) hsub)
/-- the words of a callee are paid -/
theorem pay_WG (hC : CX p l R s m args meth c A cc own nL ini fr lo D cy) {w : Cond} (hw : w ∈ WG) : ∀ (a' : Array Value) (U : State), s.WarmedH U.vm → w.before a' U = true := fun a' U hW => word_at hW (good_of_word (List.mem_filter.mp hw).2) (hC.2.2.2.2.1 w hw)
def CallOk (own idx n fr lo : Nat) : Prop := mFacts n ∧ Cond.methodLink (oN own) idx (mY n) ∈ WG ∧ mFr n + 1 ≤ fr ∧ 8 + (mX n + 11) + mLo n ≤ lo
theorem callB_at (hC : CX p l R s m args meth c A cc own nL ini fr lo D cy) {idx n : Nat} (hk : mK n ≠ 4) (ho : CallOk own idx n fr lo) : CallB R s args (oN own) idx (mY n) (mB n) (mX n) (mT n) (WSM n []) (rmM n) (mC n) (mS n) (mN n) := by
  obtain ⟨hx, hb, -, hown, hts, -, -, hA, hK, hV, hu, hn, -, hf9, hl9⟩ := id hC
  obtain ⟨⟨f1, f2, f3, f4, f5, f6, f7, f8, f9, f10⟩, hl, hfr, hlo⟩ := ho
  have hcode : Cond.code (mY n) (mB n) (mX n) (mT n) ∈ WG := f1.resolve_left hk
  have hws : ∀ w ∈ WSM n [], w ∈ WG := fun w hw => (List.mem_cons.mp hw).elim (fun e => by rw [e, if_neg hk]; exact hcode) id
  refine ⟨rfl, rfl, Nat.le_trans hfr hf9, Nat.le_trans hlo hl9, fun w hw => pay_WG hC (hws w hw), ?_, hts _ hcode, hts _ f2, f10, fun sig h => ?_, hts _ hl⟩
  · unfold WSM
    rw [if_neg hk]
    exact List.mem_cons_self
  · rw [h] at f9
    exact (Option.some.inj f9).symm
/-- on behind a call that returns or throws -/
theorem run_on (hC : CX p l R s m args meth c A cc own nL ini fr lo D cy) {mc ms : Nat} {ad : Nat → Nat} {H : Heap} {locs : List Loc} {ls : Array Slot} {st0 : List Value} {σ' : SG} {o : AO} {a : Array Value} {rest : AS}
    (hP : va_P D vwCl (WS cy ad σ) H) (hD : va_D A (WS cy ad σ)) (hS : va_S A s.heap H locs) (hW : WD ad0 K0 ad σ)
    (hr : vx_Run p l e R s m args below meth c H locs cells slots mc ms (F0 m pc ls st0) (cvs ad rest) (QcR D cy ad σ σ' (va_A (WS cy ad σ) H.size) o a) (XcR D cy ad σ σ' (va_A (WS cy ad σ) H.size) o) (va_A (WS cy ad σ) H.size))
    (kx : ∀ (ad' : Nat → Nat) (x : Nat) (H1 : Heap) (locs1 : List Loc) (ce : Cell) (q9 : Addr), x < 4 → o = .inr x → σ.1 ≤ σ'.1 → WD ad0 K0 ad' σ' → (∀ j, j ≤ σ.1 → ad' j = ad j) → va_P D vwCl (WS cy ad' σ') H1 → va_D A (WS cy ad' σ') → va_S A s.heap H1 locs1 → H1[q9]? = some ce → ce.vm = .none → s.vm.findClass (exN x) = some ce.cls → vx_W p l e R s m args below meth c H1 locs1 (cells + mc) (slots + ms) Q (F0 m pc ls (cvs ad rest)) q9)
    (kk : ∀ (ad' : Nat → Nat) (v : Option AV) (H1 : Heap) (locs1 : List Loc), o = .inl v → σ.1 ≤ σ'.1 ∧ wfO σ'.1 o → WD ad0 K0 ad' σ' → (∀ j, j ≤ σ.1 → ad' j = ad j) → va_P D vwCl (WS cy ad' σ') H1 → va_D A (WS cy ad' σ') → va_S A s.heap H1 locs1 → W p l e R s m args below meth c H1 locs1 (cells + mc) (slots + ms) Q (F0 m (pc + 3) ls ((v.map (cv ad')).toList ++ cvs ad rest))) : W p l e R s m args below meth c H locs cells slots Q (F0 m pc ls st0) := by
  obtain ⟨-, -, -, -, -, -, -, hA, -⟩ := hC
  have hsub : ∀ q, va_A (WS cy ad σ) H.size q → A q := fun q h => h.elim (fun ⟨k, e, hk⟩ => hD.2 k _ hk) (fun h => hA q (Nat.le_trans hS.1 h))
  have ext : (WF σ' ∧ σ.1 ≤ σ'.1 ∧ wfO σ'.1 o) → ∀ ad' : Nat → Nat, (∀ j, j ≤ σ.1 → ad' j = ad j) → (σ'.1 = σ.1 → ad' = ad) → WD ad0 K0 ad' σ' := fun hwf ad' h1 h2 => ⟨hwf.1, Nat.le_trans hW.2.1 hwf.2.1, fun j hj => by rw [h1 j (Nat.le_trans hj hW.2.1)]; exact hW.2.2.1 j hj, fun q => by
    have e1 : σ.1 = K0 := Nat.le_antisymm (by rw [← q]; exact hwf.2.1) hW.2.1
    rw [h2 (q.trans e1.symm)]
    exact hW.2.2.2 e1⟩
  intro T hT X
  rcases hr T hT X with ⟨v, st₀, t, T', L, h0, X', hL, e1, e2, ⟨⟨ad', w, ho, hv, hwf, p1, p2, p3, p4⟩, hF⟩, stp⟩ | ⟨q, st₀, t, T', L, E, ce, h0, X', hL, e1, e2, ⟨⟨ad', x, hx4, ho, hE, hwf, p1, p2, p3, p4⟩, hF⟩, hce, hcv, hcl, stp⟩
  · obtain rfl : v = w.map (cv ad') := by cases hv; rfl
    obtain ⟨k1, k2, k3⟩ := vx_keep h0 e1 hS (fun q _ h => hsub q h) hsub hL hF
    obtain ⟨t2, a1, b1⟩ := kk ad' w T'.heap (locs ++ L) ho hwf.2 (ext hwf ad' p1 p2) p1 (by rw [e1]; exact p3) (p4.weaken (fun k q hq hz => hsub _ hz)) k3 T' rfl X'
    exact ⟨t2, stp t2 a1, b1⟩
  · obtain ⟨k1, k2, k3⟩ := vx_keep h0 e1 hS (fun q _ h => hsub q h) hsub hL hF
    subst hE
    obtain ⟨t2, a1, b1⟩ := kx ad' x T'.heap (locs ++ L) ce q hx4 ho hwf.2.1 (ext hwf ad' p1 p2) p1 (by rw [e1]; exact p3) (p4.weaken (fun k q hq hz => hsub _ hz)) k3 (by rw [e1]; exact hce) hcv hcl T' rfl X'
    exact ⟨t2, stp.trans a1, b1⟩
end CALLS

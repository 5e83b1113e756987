/-! STEPS: each instruction of the abstract machine is the machine's own -/
def tysL (cy : Nat → ClassId) : List (ClassId × FieldType) := [(cy 0, .int), (cy 1, .long), (cy 2, .boolean), (cy 3, .array .int), (cy 4, .double)]
def exN (e : Nat) : String := match e with
  | 0 => "java/lang/IndexOutOfBoundsException"
  | 1 => "java/lang/IllegalArgumentException"
  | 2 => "java/lang/IllegalStateException"
  | _ => "java/util/NoSuchElementException"
/-- what the tables say beyond the good words -/
def nestL : List (Nat × Nat) := [(36, 30), (66, 34), (89, 43)]
def VB (U : State) : Prop := (∀ e, e < 4 → va_Nw (.castable (exN e) (exN e)) U) ∧ (∀ e f, e < 4 → f < 4 → e ≠ f → va_Nc (exN e) (exN f) U) ∧ va_AOA .int U ∧ (∀ y ∈ ["java/lang/RuntimeException", "java/lang/Exception", Bundle.tN], va_Nw (.declares (Bundle.init0 y)) U) ∧ ∀ q ∈ nestL, va_Nw (.methodLinkNest (oN 11) q.1 (mY q.2) (oN 11)) U
theorem VB_warm {u U : State} (hW : u.WarmedH U.vm) (h : VB u) : VB U := ⟨fun e he => va_Nw.warmC hW (h.1 e he), fun e f he hf n => va_Nc.moved hW.alike (h.2.1 e f he hf n), va_AOA.moved hW.alike h.2.2.1, fun y hy => va_Nw.warmD hW (h.2.2.2.1 y hy), fun q hq => va_Nw.warmM hW (h.2.2.2.2 q hq)⟩
theorem VB_same {u U : State} (hv : u.vm = U.vm) (h : VB u) : VB U := ⟨fun e he => va_Nw.same rfl hv (h.1 e he), fun e f he hf n => va_Nc.moved (by rw [hv]; exact Vm.Alike.refl _) (h.2.1 e f he hf n), va_AOA.moved (by rw [hv]; exact Vm.Alike.refl _) h.2.2.1, fun y hy => va_Nw.same rfl hv (h.2.2.2.1 y hy), fun q hq => va_Nw.same rfl hv (h.2.2.2.2 q hq)⟩
def CX (p : Program) (l : Launch) (R : Room) (s : State) (m : MethodId) (args : Array Value) (meth : Method) (c : Code) (A : Nat → Prop) (cc : ByteArray) (own nL : Nat) (ini : Bool) (fr lo : Nat) (D : va_G) (cy : Nat → ClassId) : Prop :=
  p.tables.exec = Jvm.exec ∧ c.code = cc ∧ c.maxLocals = nL ∧ s.vm.findClass (oN own) = some m.cls ∧ (∀ w ∈ WG, w.before args s = true) ∧ meth.locks = false ∧ l.stackTraces = false ∧ (∀ q, s.heap.size ≤ q → A q) ∧ va_K D vwCl (tysL cy) s ∧ VB s ∧ vx_Zq Bundle.tN "UNASSIGNED_STACK" Bundle.steD A s s.heap ∧ vx_Zq Bundle.tN "SUPPRESSED_SENTINEL" Bundle.listD A s s.heap ∧ (ini = true → meth.name = "<init>") ∧ fr ≤ R.frames ∧ lo ≤ R.locals
def WD (ad0 : Nat → Nat) (K0 : Nat) (ad : Nat → Nat) (σ : SG) : Prop := WF σ ∧ K0 ≤ σ.1 ∧ (∀ j, j ≤ K0 → ad j = ad0 j) ∧ (σ.1 = K0 → ad = ad0)
def GW (p : Program) (l : Launch) (e : Env) (R : Room) (s : State) (m : MethodId) (args : Array Value) (below : List Frame) (meth : Method) (c : Code) (A : Nat → Prop) (nL : Nat) (D : va_G) (cy : Nat → ClassId) (Q : State → Prop) (ad0 : Nat → Nat) (K0 : Nat) (pc : Nat) (lc : AL) (st : AS) (σ : SG) (cells slots : Nat) : Prop :=
  ∀ (ad : Nat → Nat) (H : Heap) (locs : List Loc) (ls : Array Slot), WD ad0 K0 ad σ → va_P D vwCl (WS cy ad σ) H → va_D A (WS cy ad σ) → va_S A s.heap H locs → lv_has ls nL (cvl ad lc) → wfL σ.1 lc → wfS σ.1 st → cells ≤ R.cells ∧ slots ≤ R.slots → W p l e R s m args below meth c H locs cells slots Q (F0 m pc ls (cvs ad st))
section STEPS
variable {p : Program} {l : Launch} {e : Env} {R : Room} {s : State} {m : MethodId} {args : Array Value} {below : List Frame} {meth : Method} {c : Code} {A : Nat → Prop} {cc : ByteArray} {own nL : Nat} {ini : Bool} {fr lo : Nat} {D : va_G} {cy : Nat → ClassId} {Q : State → Prop} {ad0 : Nat → Nat} {K0 pc : Nat} {lc : AL} {st : AS} {σ : SG} {cells slots : Nat}
-- loads and stores of the frame
theorem g_iload_n (hC : CX p l R s m args meth c A cc own nL ini fr lo D cy) {i : Fin 4} (hd : decode cc pc = .ok (.iload_n i, 1)) {x : Int} (hg : getL i.val lc = some (aI x)) (k : GW p l e R s m args below meth c A nL D cy Q ad0 K0 (pc + 1) lc (aI x :: st) σ cells slots) : GW p l e R s m args below meth c A nL D cy Q ad0 K0 pc lc st σ cells slots :=
  fun ad H locs ls hW hP hD hS hl hwl hws hr => lv_iload_n hC.1 hC.2.1 hd rfl (lv_get hl hg) (k ad H locs ls hW hP hD hS hl hwl (wfS_cons (wfL_get hwl hg) hws) hr)
theorem g_iload (hC : CX p l R s m args meth c A cc own nL ini fr lo D cy) {i : Nat} (hd : decode cc pc = .ok (.iload i, 2)) {x : Int} (hg : getL i lc = some (aI x)) (k : GW p l e R s m args below meth c A nL D cy Q ad0 K0 (pc + 2) lc (aI x :: st) σ cells slots) : GW p l e R s m args below meth c A nL D cy Q ad0 K0 pc lc st σ cells slots :=
  fun ad H locs ls hW hP hD hS hl hwl hws hr => lv_iload hC.1 hC.2.1 hd (lv_get hl hg) (k ad H locs ls hW hP hD hS hl hwl (wfS_cons (wfL_get hwl hg) hws) hr)
theorem g_lload_n (hC : CX p l R s m args meth c A cc own nL ini fr lo D cy) {i : Fin 4} (hd : decode cc pc = .ok (.lload_n i, 1)) {x : Int} (hg : getL i.val lc = some (aJ x)) (k : GW p l e R s m args below meth c A nL D cy Q ad0 K0 (pc + 1) lc (aJ x :: st) σ cells slots) : GW p l e R s m args below meth c A nL D cy Q ad0 K0 pc lc st σ cells slots :=
  fun ad H locs ls hW hP hD hS hl hwl hws hr => lv_lload_n hC.1 hC.2.1 hd rfl (lv_get hl hg) (k ad H locs ls hW hP hD hS hl hwl (wfS_cons (wfL_get hwl hg) hws) hr)
theorem g_lload (hC : CX p l R s m args meth c A cc own nL ini fr lo D cy) {i : Nat} (hd : decode cc pc = .ok (.lload i, 2)) {x : Int} (hg : getL i lc = some (aJ x)) (k : GW p l e R s m args below meth c A nL D cy Q ad0 K0 (pc + 2) lc (aJ x :: st) σ cells slots) : GW p l e R s m args below meth c A nL D cy Q ad0 K0 pc lc st σ cells slots :=
  fun ad H locs ls hW hP hD hS hl hwl hws hr => lv_lload hC.1 hC.2.1 hd (lv_get hl hg) (k ad H locs ls hW hP hD hS hl hwl (wfS_cons (wfL_get hwl hg) hws) hr)
theorem g_aload_n (hC : CX p l R s m args meth c A cc own nL ini fr lo D cy) {i : Fin 4} (hd : decode cc pc = .ok (.aload_n i, 1)) {x : Nat} (hg : getL i.val lc = some (aR x)) (k : GW p l e R s m args below meth c A nL D cy Q ad0 K0 (pc + 1) lc (aR x :: st) σ cells slots) : GW p l e R s m args below meth c A nL D cy Q ad0 K0 pc lc st σ cells slots :=
  fun ad H locs ls hW hP hD hS hl hwl hws hr => lv_aload_n hC.1 hC.2.1 hd rfl (lv_get hl hg) (k ad H locs ls hW hP hD hS hl hwl (wfS_cons (wfL_get hwl hg) hws) hr)
theorem g_aload (hC : CX p l R s m args meth c A cc own nL ini fr lo D cy) {i : Nat} (hd : decode cc pc = .ok (.aload i, 2)) {x : Nat} (hg : getL i lc = some (aR x)) (k : GW p l e R s m args below meth c A nL D cy Q ad0 K0 (pc + 2) lc (aR x :: st) σ cells slots) : GW p l e R s m args below meth c A nL D cy Q ad0 K0 pc lc st σ cells slots :=
  fun ad H locs ls hW hP hD hS hl hwl hws hr => lv_aload hC.1 hC.2.1 hd (lv_get hl hg) (k ad H locs ls hW hP hD hS hl hwl (wfS_cons (wfL_get hwl hg) hws) hr)
theorem g_fload (hC : CX p l R s m args meth c A cc own nL ini fr lo D cy) {i : Nat} (hd : decode cc pc = .ok (.fload i, 2)) {x : UInt32} (hg : getL i lc = some (aF x)) (k : GW p l e R s m args below meth c A nL D cy Q ad0 K0 (pc + 2) lc (aF x :: st) σ cells slots) : GW p l e R s m args below meth c A nL D cy Q ad0 K0 pc lc st σ cells slots :=
  fun ad H locs ls hW hP hD hS hl hwl hws hr => lv_fload hC.1 hC.2.1 hd (lv_get hl hg) (k ad H locs ls hW hP hD hS hl hwl (wfS_cons (wfL_get hwl hg) hws) hr)
theorem g_dload (hC : CX p l R s m args meth c A cc own nL ini fr lo D cy) {i : Nat} (hd : decode cc pc = .ok (.dload i, 2)) {x : UInt64} (hg : getL i lc = some (aD x)) (k : GW p l e R s m args below meth c A nL D cy Q ad0 K0 (pc + 2) lc (aD x :: st) σ cells slots) : GW p l e R s m args below meth c A nL D cy Q ad0 K0 pc lc st σ cells slots :=
  fun ad H locs ls hW hP hD hS hl hwl hws hr => lv_dload hC.1 hC.2.1 hd (lv_get hl hg) (k ad H locs ls hW hP hD hS hl hwl (wfS_cons (wfL_get hwl hg) hws) hr)
theorem g_istore_n (hC : CX p l R s m args meth c A cc own nL ini fr lo D cy) {i : Fin 4} (hd : decode cc pc = .ok (.istore_n i, 1)) (hn : i.val < nL) {x : Int} (k : GW p l e R s m args below meth c A nL D cy Q ad0 K0 (pc + 1) (setL1 i.val (aI x) lc) st σ cells slots) : GW p l e R s m args below meth c A nL D cy Q ad0 K0 pc lc (aI x :: st) σ cells slots :=
  fun ad H locs ls hW hP hD hS hl hwl hws hr => lv_istore_n hC.1 hC.2.1 hd rfl hl hn (cvl_set1 ad i.val (aI x) lc) (fun ls' hl' => k ad H locs ls' hW hP hD hS hl' (wfL_set1 hwl (wfS_hd hws)) (wfS_tl hws) hr)
theorem g_istore (hC : CX p l R s m args meth c A cc own nL ini fr lo D cy) {i : Nat} (hd : decode cc pc = .ok (.istore i, 2)) (hn : i < nL) {x : Int} (k : GW p l e R s m args below meth c A nL D cy Q ad0 K0 (pc + 2) (setL1 i (aI x) lc) st σ cells slots) : GW p l e R s m args below meth c A nL D cy Q ad0 K0 pc lc (aI x :: st) σ cells slots :=
  fun ad H locs ls hW hP hD hS hl hwl hws hr => lv_istore hC.1 hC.2.1 hd hl hn (cvl_set1 ad i (aI x) lc) (fun ls' hl' => k ad H locs ls' hW hP hD hS hl' (wfL_set1 hwl (wfS_hd hws)) (wfS_tl hws) hr)
theorem g_lstore_n (hC : CX p l R s m args meth c A cc own nL ini fr lo D cy) {i : Fin 4} (hd : decode cc pc = .ok (.lstore_n i, 1)) (hn : i.val + 1 < nL) {x : Int} (k : GW p l e R s m args below meth c A nL D cy Q ad0 K0 (pc + 1) (setL2 i.val (aJ x) lc) st σ cells slots) : GW p l e R s m args below meth c A nL D cy Q ad0 K0 pc lc (aJ x :: st) σ cells slots :=
  fun ad H locs ls hW hP hD hS hl hwl hws hr => lv_lstore_n hC.1 hC.2.1 hd rfl hl hn (cvl_set2 ad i.val (aJ x) lc) (fun ls' hl' => k ad H locs ls' hW hP hD hS hl' (wfL_set2 hwl (wfS_hd hws)) (wfS_tl hws) hr)
theorem g_lstore (hC : CX p l R s m args meth c A cc own nL ini fr lo D cy) {i : Nat} (hd : decode cc pc = .ok (.lstore i, 2)) (hn : i + 1 < nL) {x : Int} (k : GW p l e R s m args below meth c A nL D cy Q ad0 K0 (pc + 2) (setL2 i (aJ x) lc) st σ cells slots) : GW p l e R s m args below meth c A nL D cy Q ad0 K0 pc lc (aJ x :: st) σ cells slots :=
  fun ad H locs ls hW hP hD hS hl hwl hws hr => lv_lstore hC.1 hC.2.1 hd hl hn (cvl_set2 ad i (aJ x) lc) (fun ls' hl' => k ad H locs ls' hW hP hD hS hl' (wfL_set2 hwl (wfS_hd hws)) (wfS_tl hws) hr)
theorem g_astore_n (hC : CX p l R s m args meth c A cc own nL ini fr lo D cy) {i : Fin 4} (hd : decode cc pc = .ok (.astore_n i, 1)) (hn : i.val < nL) {x : Nat} (k : GW p l e R s m args below meth c A nL D cy Q ad0 K0 (pc + 1) (setL1 i.val (aR x) lc) st σ cells slots) : GW p l e R s m args below meth c A nL D cy Q ad0 K0 pc lc (aR x :: st) σ cells slots :=
  fun ad H locs ls hW hP hD hS hl hwl hws hr => lv_astore_n hC.1 hC.2.1 hd rfl hl hn (cvl_set1 ad i.val (aR x) lc) (fun ls' hl' => k ad H locs ls' hW hP hD hS hl' (wfL_set1 hwl (wfS_hd hws)) (wfS_tl hws) hr)
theorem g_astore (hC : CX p l R s m args meth c A cc own nL ini fr lo D cy) {i : Nat} (hd : decode cc pc = .ok (.astore i, 2)) (hn : i < nL) {x : Nat} (k : GW p l e R s m args below meth c A nL D cy Q ad0 K0 (pc + 2) (setL1 i (aR x) lc) st σ cells slots) : GW p l e R s m args below meth c A nL D cy Q ad0 K0 pc lc (aR x :: st) σ cells slots :=
  fun ad H locs ls hW hP hD hS hl hwl hws hr => lv_astore hC.1 hC.2.1 hd hl hn (cvl_set1 ad i (aR x) lc) (fun ls' hl' => k ad H locs ls' hW hP hD hS hl' (wfL_set1 hwl (wfS_hd hws)) (wfS_tl hws) hr)
theorem g_fstore (hC : CX p l R s m args meth c A cc own nL ini fr lo D cy) {i : Nat} (hd : decode cc pc = .ok (.fstore i, 2)) (hn : i < nL) {x : UInt32} (k : GW p l e R s m args below meth c A nL D cy Q ad0 K0 (pc + 2) (setL1 i (aF x) lc) st σ cells slots) : GW p l e R s m args below meth c A nL D cy Q ad0 K0 pc lc (aF x :: st) σ cells slots :=
  fun ad H locs ls hW hP hD hS hl hwl hws hr => lv_fstore hC.1 hC.2.1 hd hl hn (cvl_set1 ad i (aF x) lc) (fun ls' hl' => k ad H locs ls' hW hP hD hS hl' (wfL_set1 hwl (wfS_hd hws)) (wfS_tl hws) hr)
theorem g_dstore (hC : CX p l R s m args meth c A cc own nL ini fr lo D cy) {i : Nat} (hd : decode cc pc = .ok (.dstore i, 2)) (hn : i + 1 < nL) {x : UInt64} (k : GW p l e R s m args below meth c A nL D cy Q ad0 K0 (pc + 2) (setL2 i (aD x) lc) st σ cells slots) : GW p l e R s m args below meth c A nL D cy Q ad0 K0 pc lc (aD x :: st) σ cells slots :=
  fun ad H locs ls hW hP hD hS hl hwl hws hr => lv_dstore hC.1 hC.2.1 hd hl hn (cvl_set2 ad i (aD x) lc) (fun ls' hl' => k ad H locs ls' hW hP hD hS hl' (wfL_set2 hwl (wfS_hd hws)) (wfS_tl hws) hr)
-- constants
theorem g_iconst (hC : CX p l R s m args meth c A cc own nL ini fr lo D cy) {i : Int} (hd : decode cc pc = .ok (.iconst i, 1)) (hr0 : R32 i) (k : GW p l e R s m args below meth c A nL D cy Q ad0 K0 (pc + 1) lc (aI i :: st) σ cells slots) : GW p l e R s m args below meth c A nL D cy Q ad0 K0 pc lc st σ cells slots :=
  fun ad H locs ls hW hP hD hS hl hwl hws hr => lv_iconst (v := Int32.ofInt i) hC.1 hC.2.1 hd rfl (k ad H locs ls hW hP hD hS hl hwl (wfS_cons hr0 hws) hr)
theorem g_bipush (hC : CX p l R s m args meth c A cc own nL ini fr lo D cy) {i : Int} (hd : decode cc pc = .ok (.bipush i, 2)) (hr0 : -128 ≤ i ∧ i ≤ 127) (k : GW p l e R s m args below meth c A nL D cy Q ad0 K0 (pc + 2) lc (aI i :: st) σ cells slots) : GW p l e R s m args below meth c A nL D cy Q ad0 K0 pc lc st σ cells slots :=
  fun ad H locs ls hW hP hD hS hl hwl hws hr => lv_bipush (v := Int32.ofInt i) hC.1 hC.2.1 hd (by
    apply Int32.toInt_inj.mp
    rw [o_toInt ⟨by omega, by omega⟩, Int8.toInt_toInt32, Int8.toInt_ofInt]
    exact Int.bmod_eq_of_le (m := 256) (by omega) (by omega)) (k ad H locs ls hW hP hD hS hl hwl (wfS_cons ⟨by omega, by omega⟩ hws) hr)
theorem g_sipush (hC : CX p l R s m args meth c A cc own nL ini fr lo D cy) {i : Int} (hd : decode cc pc = .ok (.sipush i, 3)) (hr0 : -32768 ≤ i ∧ i ≤ 32767) (k : GW p l e R s m args below meth c A nL D cy Q ad0 K0 (pc + 3) lc (aI i :: st) σ cells slots) : GW p l e R s m args below meth c A nL D cy Q ad0 K0 pc lc st σ cells slots :=
  fun ad H locs ls hW hP hD hS hl hwl hws hr => lv_sipush (v := Int32.ofInt i) hC.1 hC.2.1 hd (by
    apply Int32.toInt_inj.mp
    rw [o_toInt ⟨by omega, by omega⟩, Int16.toInt_toInt32, Int16.toInt_ofInt]
    exact Int.bmod_eq_of_le (m := 65536) (by omega) (by omega)) (k ad H locs ls hW hP hD hS hl hwl (wfS_cons ⟨by omega, by omega⟩ hws) hr)
theorem g_ldc (hC : CX p l R s m args meth c A cc own nL ini fr lo D cy) {i v : Nat} (hd : decode cc pc = .ok (.ldc i, 2)) (hw : Cond.constant (oN own) i (Int32.ofNat v) ∈ WG) (hr0 : v ≤ 2147483647) (k : GW p l e R s m args below meth c A nL D cy Q ad0 K0 (pc + 2) lc (aI (v : Int) :: st) σ cells slots) : GW p l e R s m args below meth c A nL D cy Q ad0 K0 pc lc st σ cells slots :=
  fun ad H locs ls hW hP hD hS hl hwl hws hr => lv_ldc (v := Int32.ofNat v) hC.1 hC.2.1 hC.2.2.2.1 (hC.2.2.2.2.1 _ hw) hd (k ad H locs ls hW hP hD hS hl hwl (wfS_cons ⟨by omega, by omega⟩ hws) hr)
theorem g_ldc2 (hC : CX p l R s m args meth c A cc own nL ini fr lo D cy) {i v : Nat} (hd : decode cc pc = .ok (.ldc2_w i, 3)) (hw : Cond.constantLong (oN own) i (Int64.ofNat v) ∈ WG) (hr0 : v ≤ 2147483647) (k : GW p l e R s m args below meth c A nL D cy Q ad0 K0 (pc + 3) lc (aJ (v : Int) :: st) σ cells slots) : GW p l e R s m args below meth c A nL D cy Q ad0 K0 pc lc st σ cells slots :=
  fun ad H locs ls hW hP hD hS hl hwl hws hr => lv_ldc2 (v := Int64.ofNat v) hC.1 hC.2.1 hC.2.2.2.1 (hC.2.2.2.2.1 _ hw) hd (k ad H locs ls hW hP hD hS hl hwl (wfS_cons ⟨by omega, by omega⟩ hws) hr)
theorem g_lconst (hC : CX p l R s m args meth c A cc own nL ini fr lo D cy) {i : Fin 2} (hd : decode cc pc = .ok (.lconst i, 1)) (k : GW p l e R s m args below meth c A nL D cy Q ad0 K0 (pc + 1) lc (aJ (i.val : Int) :: st) σ cells slots) : GW p l e R s m args below meth c A nL D cy Q ad0 K0 pc lc st σ cells slots :=
  fun ad H locs ls hW hP hD hS hl hwl hws hr => lv_lconst (v := Int64.ofInt (i.val : Int)) hC.1 hC.2.1 hd rfl (k ad H locs ls hW hP hD hS hl hwl (wfS_cons ⟨by have := i.isLt; omega, by have := i.isLt; omega⟩ hws) hr)
theorem g_fconst0 (hC : CX p l R s m args meth c A cc own nL ini fr lo D cy) (hd : decode cc pc = .ok (.fconst 0, 1)) (k : GW p l e R s m args below meth c A nL D cy Q ad0 K0 (pc + 1) lc (aF 0 :: st) σ cells slots) : GW p l e R s m args below meth c A nL D cy Q ad0 K0 pc lc st σ cells slots :=
  fun ad H locs ls hW hP hD hS hl hwl hws hr => lv_fconst0 hC.1 hC.2.1 hd (k ad H locs ls hW hP hD hS hl hwl (wfS_cons trivial hws) hr)
theorem g_dconst0 (hC : CX p l R s m args meth c A cc own nL ini fr lo D cy) (hd : decode cc pc = .ok (.dconst 0, 1)) (k : GW p l e R s m args below meth c A nL D cy Q ad0 K0 (pc + 1) lc (aD 0 :: st) σ cells slots) : GW p l e R s m args below meth c A nL D cy Q ad0 K0 pc lc st σ cells slots :=
  fun ad H locs ls hW hP hD hS hl hwl hws hr => lv_dconst0 hC.1 hC.2.1 hd (k ad H locs ls hW hP hD hS hl hwl (wfS_cons trivial hws) hr)
-- arithmetic
theorem g_iadd (hC : CX p l R s m args meth c A cc own nL ini fr lo D cy) (hd : decode cc pc = .ok (.iadd, 1)) {x y : Int} (h : R32 (x + y)) (k : GW p l e R s m args below meth c A nL D cy Q ad0 K0 (pc + 1) lc (aI (x + y) :: st) σ cells slots) : GW p l e R s m args below meth c A nL D cy Q ad0 K0 pc lc (aI y :: aI x :: st) σ cells slots :=
  fun ad H locs ls hW hP hD hS hl hwl hws hr => lv_iadd hC.1 hC.2.1 hd (by rw [o_add]; exact k ad H locs ls hW hP hD hS hl hwl (wfS_cons h (wfS_tl (wfS_tl hws))) hr)
theorem g_isub (hC : CX p l R s m args meth c A cc own nL ini fr lo D cy) (hd : decode cc pc = .ok (.isub, 1)) {x y : Int} (h : R32 (x - y)) (k : GW p l e R s m args below meth c A nL D cy Q ad0 K0 (pc + 1) lc (aI (x - y) :: st) σ cells slots) : GW p l e R s m args below meth c A nL D cy Q ad0 K0 pc lc (aI y :: aI x :: st) σ cells slots :=
  fun ad H locs ls hW hP hD hS hl hwl hws hr => lv_isub hC.1 hC.2.1 hd (by rw [o_sub]; exact k ad H locs ls hW hP hD hS hl hwl (wfS_cons h (wfS_tl (wfS_tl hws))) hr)
theorem g_imul (hC : CX p l R s m args meth c A cc own nL ini fr lo D cy) (hd : decode cc pc = .ok (.imul, 1)) {x y : Int} (h : R32 (x * y)) (k : GW p l e R s m args below meth c A nL D cy Q ad0 K0 (pc + 1) lc (aI (x * y) :: st) σ cells slots) : GW p l e R s m args below meth c A nL D cy Q ad0 K0 pc lc (aI y :: aI x :: st) σ cells slots :=
  fun ad H locs ls hW hP hD hS hl hwl hws hr => lv_imul hC.1 hC.2.1 hd (by rw [o_mul]; exact k ad H locs ls hW hP hD hS hl hwl (wfS_cons h (wfS_tl (wfS_tl hws))) hr)
theorem o_ne0 {y : Int} (hy : R32 y) (h : 0 < y) : ¬ Int32.ofInt y = 0 := fun q => by
  have e : Int32.ofInt y = Int32.ofInt 0 := q
  have := (o_inj hy ⟨by omega, by omega⟩).mp e
  omega
theorem l_ne0 {y : Int} (hy : R64 y) (h : 0 < y) : ¬ Int64.ofInt y = 0 := fun q => by
  have e : Int64.ofInt y = Int64.ofInt 0 := q
  have := (l_inj hy ⟨by omega, by omega⟩).mp e
  omega
theorem g_idiv (hC : CX p l R s m args meth c A cc own nL ini fr lo D cy) (hd : decode cc pc = .ok (.idiv, 1)) {x y : Int} (h : 0 ≤ x ∧ 0 < y) (k : GW p l e R s m args below meth c A nL D cy Q ad0 K0 (pc + 1) lc (aI (x / y) :: st) σ cells slots) : GW p l e R s m args below meth c A nL D cy Q ad0 K0 pc lc (aI y :: aI x :: st) σ cells slots :=
  fun ad H locs ls hW hP hD hS hl hwl hws hr => by
    have hy : R32 y := wfS_hd hws
    have hx : R32 x := wfS_hd (wfS_tl hws)
    refine lv_idiv hC.1 hC.2.1 hd (o_ne0 hy h.2) ?_
    rw [o_div hx hy h.1 h.2]
    exact k ad H locs ls hW hP hD hS hl hwl (wfS_cons (r32_div hx h.1 h.2) (wfS_tl (wfS_tl hws))) hr
theorem g_irem (hC : CX p l R s m args meth c A cc own nL ini fr lo D cy) (hd : decode cc pc = .ok (.irem, 1)) {x y : Int} (h : 0 ≤ x ∧ 0 < y) (k : GW p l e R s m args below meth c A nL D cy Q ad0 K0 (pc + 1) lc (aI (x % y) :: st) σ cells slots) : GW p l e R s m args below meth c A nL D cy Q ad0 K0 pc lc (aI y :: aI x :: st) σ cells slots :=
  fun ad H locs ls hW hP hD hS hl hwl hws hr => by
    have hy : R32 y := wfS_hd hws
    have hx : R32 x := wfS_hd (wfS_tl hws)
    refine lv_irem hC.1 hC.2.1 hd (o_ne0 hy h.2) ?_
    rw [o_rem hx hy h.1 h.2]
    exact k ad H locs ls hW hP hD hS hl hwl (wfS_cons (r32_mod hy h.2) (wfS_tl (wfS_tl hws))) hr
theorem g_iand (hC : CX p l R s m args meth c A cc own nL ini fr lo D cy) (hd : decode cc pc = .ok (.iand, 1)) {x y : Int} (k : GW p l e R s m args below meth c A nL D cy Q ad0 K0 (pc + 1) lc (aI (andI x y) :: st) σ cells slots) : GW p l e R s m args below meth c A nL D cy Q ad0 K0 pc lc (aI y :: aI x :: st) σ cells slots :=
  fun ad H locs ls hW hP hD hS hl hwl hws hr => lv_iand hC.1 hC.2.1 hd (by rw [← o_asI (Int32.ofInt x &&& Int32.ofInt y)]; exact k ad H locs ls hW hP hD hS hl hwl (wfS_cons (o_rng _) (wfS_tl (wfS_tl hws))) hr)
theorem g_ior (hC : CX p l R s m args meth c A cc own nL ini fr lo D cy) (hd : decode cc pc = .ok (.ior, 1)) {x y : Int} (k : GW p l e R s m args below meth c A nL D cy Q ad0 K0 (pc + 1) lc (aI (orI x y) :: st) σ cells slots) : GW p l e R s m args below meth c A nL D cy Q ad0 K0 pc lc (aI y :: aI x :: st) σ cells slots :=
  fun ad H locs ls hW hP hD hS hl hwl hws hr => lv_ior hC.1 hC.2.1 hd (by rw [← o_asI (Int32.ofInt x ||| Int32.ofInt y)]; exact k ad H locs ls hW hP hD hS hl hwl (wfS_cons (o_rng _) (wfS_tl (wfS_tl hws))) hr)
theorem g_ixor (hC : CX p l R s m args meth c A cc own nL ini fr lo D cy) (hd : decode cc pc = .ok (.ixor, 1)) {x y : Int} (k : GW p l e R s m args below meth c A nL D cy Q ad0 K0 (pc + 1) lc (aI (xorI x y) :: st) σ cells slots) : GW p l e R s m args below meth c A nL D cy Q ad0 K0 pc lc (aI y :: aI x :: st) σ cells slots :=
  fun ad H locs ls hW hP hD hS hl hwl hws hr => lv_ixor hC.1 hC.2.1 hd (by rw [← o_asI (Int32.ofInt x ^^^ Int32.ofInt y)]; exact k ad H locs ls hW hP hD hS hl hwl (wfS_cons (o_rng _) (wfS_tl (wfS_tl hws))) hr)
theorem g_ishl (hC : CX p l R s m args meth c A cc own nL ini fr lo D cy) (hd : decode cc pc = .ok (.ishl, 1)) {x y : Int} (k : GW p l e R s m args below meth c A nL D cy Q ad0 K0 (pc + 1) lc (aI (shlI x y) :: st) σ cells slots) : GW p l e R s m args below meth c A nL D cy Q ad0 K0 pc lc (aI y :: aI x :: st) σ cells slots :=
  fun ad H locs ls hW hP hD hS hl hwl hws hr => lv_ishl hC.1 hC.2.1 hd (by rw [← o_asI (Int32.ofInt x <<< (Int32.ofInt y &&& 31))]; exact k ad H locs ls hW hP hD hS hl hwl (wfS_cons (o_rng _) (wfS_tl (wfS_tl hws))) hr)
theorem g_ishr (hC : CX p l R s m args meth c A cc own nL ini fr lo D cy) (hd : decode cc pc = .ok (.ishr, 1)) {x y : Int} (k : GW p l e R s m args below meth c A nL D cy Q ad0 K0 (pc + 1) lc (aI (shrI x y) :: st) σ cells slots) : GW p l e R s m args below meth c A nL D cy Q ad0 K0 pc lc (aI y :: aI x :: st) σ cells slots :=
  fun ad H locs ls hW hP hD hS hl hwl hws hr => lv_ishr hC.1 hC.2.1 hd (by rw [← o_asI (Int32.ofInt x >>> (Int32.ofInt y &&& 31))]; exact k ad H locs ls hW hP hD hS hl hwl (wfS_cons (o_rng _) (wfS_tl (wfS_tl hws))) hr)
theorem g_iushr (hC : CX p l R s m args meth c A cc own nL ini fr lo D cy) (hd : decode cc pc = .ok (.iushr, 1)) {x y : Int} (k : GW p l e R s m args below meth c A nL D cy Q ad0 K0 (pc + 1) lc (aI (ushrI x y) :: st) σ cells slots) : GW p l e R s m args below meth c A nL D cy Q ad0 K0 pc lc (aI y :: aI x :: st) σ cells slots :=
  fun ad H locs ls hW hP hD hS hl hwl hws hr => lv_iushr (v := Int32.ofInt (ushrI x y)) hC.1 hC.2.1 hd (o_asI _).symm (k ad H locs ls hW hP hD hS hl hwl (wfS_cons (o_rng _) (wfS_tl (wfS_tl hws))) hr)
theorem g_ladd (hC : CX p l R s m args meth c A cc own nL ini fr lo D cy) (hd : decode cc pc = .ok (.ladd, 1)) {x y : Int} (h : R64 (x + y)) (k : GW p l e R s m args below meth c A nL D cy Q ad0 K0 (pc + 1) lc (aJ (x + y) :: st) σ cells slots) : GW p l e R s m args below meth c A nL D cy Q ad0 K0 pc lc (aJ y :: aJ x :: st) σ cells slots :=
  fun ad H locs ls hW hP hD hS hl hwl hws hr => lv_ladd hC.1 hC.2.1 hd (by rw [l_add]; exact k ad H locs ls hW hP hD hS hl hwl (wfS_cons h (wfS_tl (wfS_tl hws))) hr)
theorem g_lmul (hC : CX p l R s m args meth c A cc own nL ini fr lo D cy) (hd : decode cc pc = .ok (.lmul, 1)) {x y : Int} (h : R64 (x * y)) (k : GW p l e R s m args below meth c A nL D cy Q ad0 K0 (pc + 1) lc (aJ (x * y) :: st) σ cells slots) : GW p l e R s m args below meth c A nL D cy Q ad0 K0 pc lc (aJ y :: aJ x :: st) σ cells slots :=
  fun ad H locs ls hW hP hD hS hl hwl hws hr => lv_lmul hC.1 hC.2.1 hd (by rw [l_mul]; exact k ad H locs ls hW hP hD hS hl hwl (wfS_cons h (wfS_tl (wfS_tl hws))) hr)
theorem g_ldiv (hC : CX p l R s m args meth c A cc own nL ini fr lo D cy) (hd : decode cc pc = .ok (.ldiv, 1)) {x y : Int} (h : 0 ≤ x ∧ 0 < y) (k : GW p l e R s m args below meth c A nL D cy Q ad0 K0 (pc + 1) lc (aJ (x / y) :: st) σ cells slots) : GW p l e R s m args below meth c A nL D cy Q ad0 K0 pc lc (aJ y :: aJ x :: st) σ cells slots :=
  fun ad H locs ls hW hP hD hS hl hwl hws hr => by
    have hy : R64 y := wfS_hd hws
    have hx : R64 x := wfS_hd (wfS_tl hws)
    refine lv_ldiv hC.1 hC.2.1 hd (l_ne0 hy h.2) ?_
    rw [l_div hx hy h.1 h.2]
    have a := Int.ediv_nonneg h.1 (Int.le_of_lt h.2)
    have b := Int.ediv_le_self y h.1
    have := hx.2
    exact k ad H locs ls hW hP hD hS hl hwl (wfS_cons ⟨by omega, by omega⟩ (wfS_tl (wfS_tl hws))) hr
theorem g_lcmp (hC : CX p l R s m args meth c A cc own nL ini fr lo D cy) (hd : decode cc pc = .ok (.lcmp, 1)) {x y : Int} (k : GW p l e R s m args below meth c A nL D cy Q ad0 K0 (pc + 1) lc (aI (cmpI x y) :: st) σ cells slots) : GW p l e R s m args below meth c A nL D cy Q ad0 K0 pc lc (aJ y :: aJ x :: st) σ cells slots :=
  fun ad H locs ls hW hP hD hS hl hwl hws hr => W.lcmp hC.1 hC.2.1 hd (by
    rw [l_cmp (wfS_hd (wfS_tl hws)) (wfS_hd hws)]
    exact k ad H locs ls hW hP hD hS hl hwl (wfS_cons (by unfold cmpI; split; exact ⟨by omega, by omega⟩; split <;> exact ⟨by omega, by omega⟩) (wfS_tl (wfS_tl hws))) hr)
theorem g_i2l (hC : CX p l R s m args meth c A cc own nL ini fr lo D cy) (hd : decode cc pc = .ok (.i2l, 1)) {x : Int} (k : GW p l e R s m args below meth c A nL D cy Q ad0 K0 (pc + 1) lc (aJ x :: st) σ cells slots) : GW p l e R s m args below meth c A nL D cy Q ad0 K0 pc lc (aI x :: st) σ cells slots :=
  fun ad H locs ls hW hP hD hS hl hwl hws hr => by
    have hx : R32 x := wfS_hd hws
    exact lv_i2l (v := Int64.ofInt x) hC.1 hC.2.1 hd (l_i2l hx) (k ad H locs ls hW hP hD hS hl hwl (wfS_cons ⟨by have := hx.1; omega, by have := hx.2; omega⟩ (wfS_tl hws)) hr)
theorem g_i2f (hC : CX p l R s m args meth c A cc own nL ini fr lo D cy) (hd : decode cc pc = .ok (.i2f, 1)) {x : Int} (k : GW p l e R s m args below meth c A nL D cy Q ad0 K0 (pc + 1) lc (aF (FP.i2f (Int32.ofInt x)) :: st) σ cells slots) : GW p l e R s m args below meth c A nL D cy Q ad0 K0 pc lc (aI x :: st) σ cells slots :=
  fun ad H locs ls hW hP hD hS hl hwl hws hr => lv_i2f hC.1 hC.2.1 hd (k ad H locs ls hW hP hD hS hl hwl (wfS_cons trivial (wfS_tl hws)) hr)
theorem g_i2d (hC : CX p l R s m args meth c A cc own nL ini fr lo D cy) (hd : decode cc pc = .ok (.i2d, 1)) {x : Int} (k : GW p l e R s m args below meth c A nL D cy Q ad0 K0 (pc + 1) lc (aD (FP.i2d (Int32.ofInt x)) :: st) σ cells slots) : GW p l e R s m args below meth c A nL D cy Q ad0 K0 pc lc (aI x :: st) σ cells slots :=
  fun ad H locs ls hW hP hD hS hl hwl hws hr => lv_i2d hC.1 hC.2.1 hd (k ad H locs ls hW hP hD hS hl hwl (wfS_cons trivial (wfS_tl hws)) hr)
theorem g_l2d (hC : CX p l R s m args meth c A cc own nL ini fr lo D cy) (hd : decode cc pc = .ok (.l2d, 1)) {x : Int} (k : GW p l e R s m args below meth c A nL D cy Q ad0 K0 (pc + 1) lc (aD (FP.l2d (Int64.ofInt x)) :: st) σ cells slots) : GW p l e R s m args below meth c A nL D cy Q ad0 K0 pc lc (aJ x :: st) σ cells slots :=
  fun ad H locs ls hW hP hD hS hl hwl hws hr => lv_l2d hC.1 hC.2.1 hd (k ad H locs ls hW hP hD hS hl hwl (wfS_cons trivial (wfS_tl hws)) hr)
theorem g_f2d (hC : CX p l R s m args meth c A cc own nL ini fr lo D cy) (hd : decode cc pc = .ok (.f2d, 1)) {x : UInt32} (h : n64 (FP.f2d x)) (k : GW p l e R s m args below meth c A nL D cy Q ad0 K0 (pc + 1) lc (aD (FP.f2d x) :: st) σ cells slots) : GW p l e R s m args below meth c A nL D cy Q ad0 K0 pc lc (aF x :: st) σ cells slots :=
  fun ad H locs ls hW hP hD hS hl hwl hws hr => lv_f2d hC.1 hC.2.1 hd h (k ad H locs ls hW hP hD hS hl hwl (wfS_cons trivial (wfS_tl hws)) hr)
theorem g_fdiv (hC : CX p l R s m args meth c A cc own nL ini fr lo D cy) (hd : decode cc pc = .ok (.fdiv, 1)) {x y : UInt32} (h : n32 (FP.fdiv x y)) (k : GW p l e R s m args below meth c A nL D cy Q ad0 K0 (pc + 1) lc (aF (FP.fdiv x y) :: st) σ cells slots) : GW p l e R s m args below meth c A nL D cy Q ad0 K0 pc lc (aF y :: aF x :: st) σ cells slots :=
  fun ad H locs ls hW hP hD hS hl hwl hws hr => lv_fdiv hC.1 hC.2.1 hd h (k ad H locs ls hW hP hD hS hl hwl (wfS_cons trivial (wfS_tl (wfS_tl hws))) hr)
theorem g_ddiv (hC : CX p l R s m args meth c A cc own nL ini fr lo D cy) (hd : decode cc pc = .ok (.ddiv, 1)) {x y : UInt64} (h : n64 (FP.ddiv x y)) (k : GW p l e R s m args below meth c A nL D cy Q ad0 K0 (pc + 1) lc (aD (FP.ddiv x y) :: st) σ cells slots) : GW p l e R s m args below meth c A nL D cy Q ad0 K0 pc lc (aD y :: aD x :: st) σ cells slots :=
  fun ad H locs ls hW hP hD hS hl hwl hws hr => lv_ddiv hC.1 hC.2.1 hd h (k ad H locs ls hW hP hD hS hl hwl (wfS_cons trivial (wfS_tl (wfS_tl hws))) hr)
theorem g_fcmp (hC : CX p l R s m args meth c A cc own nL ini fr lo D cy) {o : CmpOp} (hd : decode cc pc = .ok (.fcmp o, 1)) {x y : UInt32} (k : GW p l e R s m args below meth c A nL D cy Q ad0 K0 (pc + 1) lc (aI (Op.cmpValue (FP.fcmp x y) o).toInt :: st) σ cells slots) : GW p l e R s m args below meth c A nL D cy Q ad0 K0 pc lc (aF y :: aF x :: st) σ cells slots :=
  fun ad H locs ls hW hP hD hS hl hwl hws hr => lv_fcmp hC.1 hC.2.1 hd (by rw [← o_asI (Op.cmpValue (FP.fcmp x y) o)]; exact k ad H locs ls hW hP hD hS hl hwl (wfS_cons (o_rng _) (wfS_tl (wfS_tl hws))) hr)
theorem g_dcmp (hC : CX p l R s m args meth c A cc own nL ini fr lo D cy) {o : CmpOp} (hd : decode cc pc = .ok (.dcmp o, 1)) {x y : UInt64} (k : GW p l e R s m args below meth c A nL D cy Q ad0 K0 (pc + 1) lc (aI (Op.cmpValue (FP.dcmp x y) o).toInt :: st) σ cells slots) : GW p l e R s m args below meth c A nL D cy Q ad0 K0 pc lc (aD y :: aD x :: st) σ cells slots :=
  fun ad H locs ls hW hP hD hS hl hwl hws hr => lv_dcmp hC.1 hC.2.1 hd (by rw [← o_asI (Op.cmpValue (FP.dcmp x y) o)]; exact k ad H locs ls hW hP hD hS hl hwl (wfS_cons (o_rng _) (wfS_tl (wfS_tl hws))) hr)
-- the operand stack
theorem g_dup (hC : CX p l R s m args meth c A cc own nL ini fr lo D cy) (hd : decode cc pc = .ok (.dup, 1)) {v : AV} (h : acat v = 1) (k : GW p l e R s m args below meth c A nL D cy Q ad0 K0 (pc + 1) lc (v :: v :: st) σ cells slots) : GW p l e R s m args below meth c A nL D cy Q ad0 K0 pc lc (v :: st) σ cells slots :=
  fun ad H locs ls hW hP hD hS hl hwl hws hr => lv_dup hC.1 hC.2.1 hd ((cv_cat ad v).trans h) (k ad H locs ls hW hP hD hS hl hwl (wfS_cons (wfS_hd hws) hws) hr)
theorem g_pop (hC : CX p l R s m args meth c A cc own nL ini fr lo D cy) (hd : decode cc pc = .ok (.pop, 1)) {v : AV} (h : acat v = 1) (k : GW p l e R s m args below meth c A nL D cy Q ad0 K0 (pc + 1) lc st σ cells slots) : GW p l e R s m args below meth c A nL D cy Q ad0 K0 pc lc (v :: st) σ cells slots :=
  fun ad H locs ls hW hP hD hS hl hwl hws hr => lv_pop hC.1 hC.2.1 hd ((cv_cat ad v).trans h) (k ad H locs ls hW hP hD hS hl hwl (wfS_tl hws) hr)
theorem g_dup2 (hC : CX p l R s m args meth c A cc own nL ini fr lo D cy) (hd : decode cc pc = .ok (.dup2, 1)) {v w : AV} (h : acat v = 1) (h2 : acat w = 1) (k : GW p l e R s m args below meth c A nL D cy Q ad0 K0 (pc + 1) lc (v :: w :: v :: w :: st) σ cells slots) : GW p l e R s m args below meth c A nL D cy Q ad0 K0 pc lc (v :: w :: st) σ cells slots :=
  fun ad H locs ls hW hP hD hS hl hwl hws hr => lv_dup2_11 hC.1 hC.2.1 hd ((cv_cat ad v).trans h) ((cv_cat ad w).trans h2) (k ad H locs ls hW hP hD hS hl hwl (wfS_cons (wfS_hd hws) (wfS_cons (wfS_hd (wfS_tl hws)) hws)) hr)
theorem g_iinc (hC : CX p l R s m args meth c A cc own nL ini fr lo D cy) {i : Nat} {n : Int} (hd : decode cc pc = .ok (.iinc i n, 3)) (hn : i < nL) {x : Int} (hg : getL i lc = some (aI x)) (h : R32 (x + n)) (k : GW p l e R s m args below meth c A nL D cy Q ad0 K0 (pc + 3) (setL1 i (aI (x + n)) lc) st σ cells slots) : GW p l e R s m args below meth c A nL D cy Q ad0 K0 pc lc st σ cells slots :=
  fun ad H locs ls hW hP hD hS hl hwl hws hr => by
    obtain ⟨j, hj, hje⟩ := List.mem_iff_getElem.mp (List.mem_map.mpr ⟨(i, aI x), getL_mem hg, rfl⟩ : (i, cv ad (aI x)) ∈ cvl ad lc)
    have hk : (cvl ad lc)[j]? = some (i, Value.int (Int32.ofInt x)) := (List.getElem?_eq_getElem hj).trans (congrArg some hje)
    exact lv_iinc (v := Int32.ofInt (x + n)) hC.1 hC.2.1 hd hl hk (o_add x n) hn (cvl_set1 ad i (aI (x + n)) lc) (fun ls' hl' => k ad H locs ls' hW hP hD hS hl' (wfL_set1 hwl h) hws hr)
-- branches
theorem g_goto (hC : CX p l R s m args meth c A cc own nL ini fr lo D cy) {off : Int} {tgt : Nat} (hd : decode cc pc = .ok (.goto off, 3)) (ht : (pc : Int) + off = (tgt : Int)) (k : GW p l e R s m args below meth c A nL D cy Q ad0 K0 tgt lc st σ cells slots) : GW p l e R s m args below meth c A nL D cy Q ad0 K0 pc lc st σ cells slots :=
  fun ad H locs ls hW hP hD hS hl hwl hws hr => lv_goto hC.1 hC.2.1 hd ht (k ad H locs ls hW hP hD hS hl hwl hws hr)
theorem r0 : R32 0 := ⟨by omega, by omega⟩
theorem g_ifCond (hC : CX p l R s m args meth c A cc own nL ini fr lo D cy) {cd : Jvm.ClassFile.Cond} {off : Int} {tgt : Nat} (hd : decode cc pc = .ok (.ifCond cd off, 3)) (ht : (pc : Int) + off = (tgt : Int)) {β : Type} {a b : Option β} {o : β} {x : Int} (h : ifz cd x a b = some o) (ka : a = some o → GW p l e R s m args below meth c A nL D cy Q ad0 K0 tgt lc st σ cells slots) (kb : b = some o → GW p l e R s m args below meth c A nL D cy Q ad0 K0 (pc + 3) lc st σ cells slots) : GW p l e R s m args below meth c A nL D cy Q ad0 K0 pc lc (aI x :: st) σ cells slots := by
  intro ad H locs ls hW hP hD hS hl hwl hws hr
  have hx : R32 x := wfS_hd hws
  have ja := fun q => ka q ad H locs ls hW hP hD hS hl hwl (wfS_tl hws) hr
  have jb := fun q => kb q ad H locs ls hW hP hD hS hl hwl (wfS_tl hws) hr
  cases cd <;> simp only [ifz] at h
  · refine lv_if_eq hC.1 hC.2.1 hd ht (fun q => ?_) (fun q => ?_)
    · rw [if_pos ((o_inj hx r0).mp q)] at h; exact ja h
    · rw [if_neg (fun w => q ((o_inj hx r0).mpr w))] at h; exact jb h
  · refine lv_if_ne hC.1 hC.2.1 hd ht (fun q => ?_) (fun q => ?_)
    · rw [if_neg (fun w => q ((o_inj hx r0).mpr w))] at h; exact ja h
    · rw [if_pos ((o_inj hx r0).mp q)] at h; exact jb h
  · refine lv_if_lt hC.1 hC.2.1 hd ht (fun q => ?_) (fun q => ?_)
    · rw [if_pos ((o_lt hx r0).mp q)] at h; exact ja h
    · rw [if_neg (fun w => q ((o_lt hx r0).mpr w))] at h; exact jb h
  · refine lv_if_ge hC.1 hC.2.1 hd ht (fun q => ?_) (fun q => ?_)
    · rw [if_neg (Int.not_lt.mpr ((o_le r0 hx).mp q))] at h; exact ja h
    · rw [if_pos (Int.not_le.mp (fun w => q ((o_le r0 hx).mpr w)))] at h; exact jb h
  · refine lv_if_gt hC.1 hC.2.1 hd ht (fun q => ?_) (fun q => ?_)
    · rw [if_pos ((o_lt r0 hx).mp q)] at h; exact ja h
    · rw [if_neg (fun w => q ((o_lt r0 hx).mpr w))] at h; exact jb h
  · refine lv_if_le hC.1 hC.2.1 hd ht (fun q => ?_) (fun q => ?_)
    · rw [if_neg (Int.not_lt.mpr ((o_le hx r0).mp q))] at h; exact ja h
    · rw [if_pos (Int.not_le.mp (fun w => q ((o_le hx r0).mpr w)))] at h; exact jb h
theorem g_if_icmp (hC : CX p l R s m args meth c A cc own nL ini fr lo D cy) {cd : Jvm.ClassFile.Cond} {off : Int} {tgt : Nat} (hd : decode cc pc = .ok (.if_icmp cd off, 3)) (ht : (pc : Int) + off = (tgt : Int)) {β : Type} {a b : Option β} {o : β} {x y : Int} (h : ifi cd x y a b = some o) (ka : a = some o → GW p l e R s m args below meth c A nL D cy Q ad0 K0 tgt lc st σ cells slots) (kb : b = some o → GW p l e R s m args below meth c A nL D cy Q ad0 K0 (pc + 3) lc st σ cells slots) : GW p l e R s m args below meth c A nL D cy Q ad0 K0 pc lc (aI y :: aI x :: st) σ cells slots := by
  intro ad H locs ls hW hP hD hS hl hwl hws hr
  have hy : R32 y := wfS_hd hws
  have hx : R32 x := wfS_hd (wfS_tl hws)
  have ja := fun q => ka q ad H locs ls hW hP hD hS hl hwl (wfS_tl (wfS_tl hws)) hr
  have jb := fun q => kb q ad H locs ls hW hP hD hS hl hwl (wfS_tl (wfS_tl hws)) hr
  cases cd <;> simp only [ifi] at h
  · refine lv_icmp_eq hC.1 hC.2.1 hd ht (fun q => ?_) (fun q => ?_)
    · rw [if_pos ((o_inj hx hy).mp q)] at h; exact ja h
    · rw [if_neg (fun w => q ((o_inj hx hy).mpr w))] at h; exact jb h
  · refine lv_icmp_ne hC.1 hC.2.1 hd ht (fun q => ?_) (fun q => ?_)
    · rw [if_neg (fun w => q ((o_inj hx hy).mpr w))] at h; exact ja h
    · rw [if_pos ((o_inj hx hy).mp q)] at h; exact jb h
  · refine lv_icmp_lt hC.1 hC.2.1 hd ht (fun q => ?_) (fun q => ?_)
    · rw [if_pos ((o_lt hx hy).mp q)] at h; exact ja h
    · rw [if_neg (fun w => q ((o_lt hx hy).mpr w))] at h; exact jb h
  · refine lv_icmp_ge hC.1 hC.2.1 hd ht (fun q => ?_) (fun q => ?_)
    · rw [if_neg (Int.not_lt.mpr ((o_le hy hx).mp q))] at h; exact ja h
    · rw [if_pos (Int.not_le.mp (fun w => q ((o_le hy hx).mpr w)))] at h; exact jb h
  · refine lv_icmp_gt hC.1 hC.2.1 hd ht (fun q => ?_) (fun q => ?_)
    · rw [if_pos ((o_lt hy hx).mp q)] at h; exact ja h
    · rw [if_neg (fun w => q ((o_lt hy hx).mpr w))] at h; exact jb h
  · refine lv_icmp_le hC.1 hC.2.1 hd ht (fun q => ?_) (fun q => ?_)
    · rw [if_neg (Int.not_lt.mpr ((o_le hx hy).mp q))] at h; exact ja h
    · rw [if_pos (Int.not_le.mp (fun w => q ((o_le hx hy).mpr w)))] at h; exact jb h
end STEPS

/-! A DICTIONARY OF THE WHOLE WORLD, with counts of cells and slots; methods with handlers -/
abbrev SW : Type := SG × Nat × Nat
def okG (s : SW) (k t : Nat) : Bool := !(Nat.beq t 9) && (Nat.ble 2 k && (Nat.ble k s.1.1 && Nat.beq (tgK k) t))
theorem okG_in {s : SW} {k t : Nat} (h : okG s k t = true) : 2 ≤ k ∧ k ≤ s.1.1 ∧ tgK k = t := by
  unfold okG at h
  obtain ⟨-, b⟩ := Bool.and_eq_true_iff.mp h
  obtain ⟨b, c⟩ := Bool.and_eq_true_iff.mp b
  obtain ⟨c, d⟩ := Bool.and_eq_true_iff.mp c
  exact ⟨Nat.le_of_ble_eq_true b, Nat.le_of_ble_eq_true c, Nat.eq_of_beq_eq_true d⟩
def newG (rc rs : Nat) (t : Bool) (s : SW) (f : SG) (c n : Nat) : Option (Nat × SW) := bif t then gd (s.2.1 + c ≤ rc ∧ s.2.2 + n ≤ rs) (some (s.1.1 + 1, (f, s.2.1 + c, s.2.2 + n))) else none
section DICTG
variable {β : Type} (rc rs : Nat)
def segG (ok9 : Bool) (hd : Nat → Nat → Option (Nat × Nat)) (kr : Option AV → SW → Option β) (kx : Nat → SW → Option β) (cl : Nat → AS → SW → (AO → SW → Option β) → Option β) (cs : List (Nat × List (Nat × ARow))) (cut : Nat → Option (AL → AS → SW → Option β)) (N pc : Nat) (l : AL) (st : AS) (s : SW) : Option β :=
  seg (S := SW) (fun s k i => s.1.2.2.1 k i) (fun s k i => s.1.2.2.2.1 k i) (fun s k i => s.1.2.2.2.2 k i) (fun s k i => s.1.2.1 k i) (fun s k i x => some (uI s.1 k i x, s.2)) (fun s k i x => some (uJ s.1 k i x, s.2)) (fun s k i x => some (uD s.1 k i x, s.2)) (fun s k i x => some (uR s.1 k i x, s.2)) (fun s k g => some (uC s.1 k g, s.2))
    (fun s k t => okG s k t || (ok9 && (Nat.beq t 9 && Nat.beq k 1))) lnK (fun s c => newG rc rs (Nat.beq (tgK (s.1.1 + 1)) (16 + c)) s (uN s.1) 1 (nFK c)) (fun s t n => bif decide (n = lnK (s.1.1 + 1)) then newG rc rs (Nat.beq (tgK (s.1.1 + 1)) t) s (uN s.1) 1 n.toNat else none) (fun _ _ _ => none) hd kr kx cl (fnd2 cs) cut N pc l st s
end DICTG
section WKG
variable {β : Type} {rc rs : Nat}
theorem newG_of {t : Bool} {s s' : SW} {f : SG} {c n k : Nat} (h : newG rc rs t s f c n = some (k, s')) : t = true ∧ k = s.1.1 + 1 ∧ s'.1 = f ∧ s'.2 = (s.2.1 + c, s.2.2 + n) ∧ s.2.1 + c ≤ rc ∧ s.2.2 + n ≤ rs := by
  unfold newG at h
  cases t with
  | false => cases h
  | true =>
    obtain ⟨a, b⟩ := gd_some h
    cases b
    exact ⟨rfl, rfl, rfl, rfl, a.1, a.2⟩
theorem okG9 {ok9 : Bool} {s : SW} {k t : Nat} (h9 : t ≠ 9) (h : (okG s k t || (ok9 && (Nat.beq t 9 && Nat.beq k 1))) = true) : 2 ≤ k ∧ k ≤ s.1.1 ∧ tgK k = t := by
  rcases Bool.or_eq_true_iff.mp h with h | h
  · exact okG_in h
  · obtain ⟨-, b⟩ := Bool.and_eq_true_iff.mp h
    obtain ⟨b, -⟩ := Bool.and_eq_true_iff.mp b
    exact absurd (Nat.eq_of_beq_eq_true b) h9
theorem dokG (ok9 : Bool) : DOK (S := SW) (fun s k i => s.1.2.2.1 k i) (fun s k i => s.1.2.2.2.1 k i) (fun s k i => s.1.2.2.2.2 k i) (fun s k i => s.1.2.1 k i) (fun s k i x => some (uI s.1 k i x, s.2)) (fun s k i x => some (uJ s.1 k i x, s.2)) (fun s k i x => some (uD s.1 k i x, s.2)) (fun s k i x => some (uR s.1 k i x, s.2)) (fun s k g => some (uC s.1 k g, s.2))
    (fun s k t => okG s k t || (ok9 && (Nat.beq t 9 && Nat.beq k 1))) lnK (fun s c => newG rc rs (Nat.beq (tgK (s.1.1 + 1)) (16 + c)) s (uN s.1) 1 (nFK c)) (fun s t n => bif decide (n = lnK (s.1.1 + 1)) then newG rc rs (Nat.beq (tgK (s.1.1 + 1)) t) s (uN s.1) 1 n.toNat else none) (fun _ _ _ => none) (fun s => s.1) (fun s => s.2) rc rs := by
  refine ⟨fun s k t h9 h => ?_, fun s k i x s' q => ?_, fun s k i x s' q => ?_, fun s k i x s' q => ?_, fun s k i x s' q => ?_, fun s k z s' q => ?_, fun s c k s' q => ?_, fun s t n k s' q => ?_, (fun _ _ _ _ _ q => nos q)⟩
  · obtain ⟨a, b, d⟩ := okG9 h9 h
    exact ⟨a, b, d, rfl, fun _ => rfl, fun _ => rfl, fun _ => rfl, fun _ => rfl⟩
  · cases q; exact ⟨rfl, rfl⟩
  · cases q; exact ⟨rfl, rfl⟩
  · cases q; exact ⟨rfl, rfl⟩
  · cases q; exact ⟨rfl, rfl⟩
  · cases q; exact ⟨rfl, rfl⟩
  · obtain ⟨a, b, d, e, f⟩ := newG_of q
    refine ⟨b, ?_, d, e, f⟩
    rw [b]
    exact Nat.eq_of_beq_eq_true a
  · cases hb : decide (n = lnK (s.1.1 + 1)) with
    | false =>
      simp only [hb] at q
      cases q
    | true =>
      simp only [hb] at q
      obtain ⟨a, b, d, e, f⟩ := newG_of q
      have hn := of_decide_eq_true hb
      have hr := lnK_rng (s.1.1 + 1)
      refine ⟨b, ?_, by rw [b]; exact hn, by rw [hn]; exact hr.1, by rw [hn]; exact hr.2, d, e, f⟩
      rw [b]
      exact Nat.eq_of_beq_eq_true a
/-- one call, known ahead -/
noncomputable def clQ (m : Nat) (as0 : AS) (s1 : SW) (o0 : AO) (s0 : SW) : Nat → AS → SW → (AO → SW → Option β) → Option β := fun n as s f => @ite (Option β) (n = m ∧ as = as0 ∧ s = s1) (Classical.propDecidable _) (f o0 s0) none
theorem CLK_Q {m : Nat} {as0 : AS} {s1 s0 : SW} {o0 : AO} (hk : mK m ≠ 4) (hM : MCT m [] as0 s1.1 o0 s0.1) (hc : s0.2 = (s1.2.1 + mC m, s1.2.2 + mS m)) (h1 : s1.2.1 + mC m ≤ rc) (h2 : s1.2.2 + mS m ≤ rs) (hi : mK m = 2 ∨ mK m = 3 → o0 = .inl none) : CLK (β := β) (clQ m as0 s1 o0 s0) (fun s => s.1) (fun s => s.2) rc rs := fun n as s f b e => by
  unfold clQ at e
  split at e
  · rename_i h
    obtain ⟨rfl, rfl, rfl⟩ := h
    exact ⟨o0, s0, e, hk, hM, hc, h1, h2, hi⟩
  · cases e
/-- from this point on method n with handlers, begun in σ0, comes to the result o in σ' -/
def WKH (n : Nat) (hh : List (Nat × Nat × Nat × Nat)) (o : AO) (σ0 σ' : SG) (pc : Nat) (lc : AL) (st : AS) (σ : SG) (cells slots : Nat) : Prop :=
  ∀ (p : Program) (l : Launch) (e : Env) (R : Room) (s : State) (m : MethodId) (args : Array Value) (below : List Frame) (meth : Method) (c : Code) (A : Nat → Prop) (D : va_G) (cy : Nat → ClassId) (ad0 : Nat → Nat),
    CX p l R s m args meth c A (mB n) (mO n) (mX n) (mIni n) (mFr n) (mLo n) D cy → meth.sig.returnType = mT n → c.exceptionTable.toList = tableOf hh → R.cells = mC n ∧ R.slots = mS n →
    GW p l e R s m args below meth c A (mX n) D cy (vx_MQ below (QcR D cy ad0 σ0 σ' A o) (XcR D cy ad0 σ0 σ' A o) args s (mC n) (mS n) A) ad0 σ0.1 pc lc st σ cells slots
theorem mct_ofH {n : Nat} {hh : List (Nat × Nat × Nat × Nat)} (hk4 : mK n = 4) (hcw : Cond.codeWith (mY n) (mB n) (mX n) (mT n) hh ∈ WG) (hn : mFacts n) {as : AS} {σ σ' : SG} {o : AO} (hlen : ∀ ad : Nat → Nat, (lg_sl (cvs ad as)).length ≤ mX n) (h : WKH n hh o σ σ' 0 (aargs 0 as) [] σ 0 0) : MCT n hh as σ o σ' := by
  intro hWF hws l hst D cy ad sz
  obtain ⟨f1, f2, f3, f4, f5, f6, f7, f8, f9, f10⟩ := hn
  have hws9 : WSM n hh = Cond.codeWith (mY n) (mB n) (mX n) (mT n) hh :: WG := by unfold WSM; rw [if_pos hk4]
  refine vx_ofWH (cc := mB n) (maxL := mX n) (ret := mT n) f7 hws9 ?_
  intro p e s m args below meth c s₁ B hml hv
  obtain ⟨rfl, hsz, hP, hK, hD0, hV, hu, hn9⟩ := hv
  subst hsz
  have hD := hD0.self (sz := s.heap.size)
  have hts0 : ∀ w ∈ Cond.codeWith (mY n) (mB n) (mX n) (mT n) hh :: WG, w.before (cvs ad as).toArray s = true := atoms_spec (ws := WSM n hh) B.pre |> fun h w hw => h w (by rw [hws9]; exact hw)
  have hts : ∀ w ∈ WG, w.before (cvs ad as).toArray s = true := fun w hw => hts0 w (List.mem_cons_of_mem _ hw)
  have htab : c.exceptionTable.toList = tableOf hh := vx_table (x := mY n) B (hts0 _ List.mem_cons_self)
  have hown : s.vm.findClass (oN (mO n)) = some m.cls := by rw [← f6]; exact findClass_of_methodNamed B.named
  have hini : ¬ (mIni n = true) := by
    unfold mIni
    rw [hk4]
    decide
  have hC : CX p l (headSpec (WSM n hh) (rmM n)).room s m (cvs ad as).toArray meth c (va_A (WS cy ad σ) s.heap.size) (mB n) (mO n) (mX n) (mIni n) (mFr n) (mLo n) D cy :=
    ⟨B.exec, B.bytes, hml, hown, hts, B.notSynchronized, hst, fun q h => Or.inr h, hK, hV, hu, hn9, fun hi => absurd hi hini, Nat.le_refl _, Nat.le_refl _⟩
  have hl := lv_entry (cvs ad as) (n := mX n) (hlen ad)
  rw [lg_entry_eq]
  generalize (lg_sl (cvs ad as) ++ List.replicate (mX n - (lg_sl (cvs ad as)).length) Slot.unset).toArray = ls at hl ⊢
  exact h p l e (headSpec (WSM n hh) (rmM n)).room s m (cvs ad as).toArray below meth c (va_A (WS cy ad σ) s.heap.size) D cy ad hC B.returns htab ⟨rfl, rfl⟩ ad s.heap [] ls ⟨hWF, Nat.le_refl _, fun _ _ => rfl, fun _ => rfl⟩ hP hD va_S.rf (by rw [cvl_aargs]; exact hl) (wfL_aargs as 0 hws) (fun _ h => by cases h) ⟨Nat.zero_le _, Nat.zero_le _⟩
def krG : Option AV → SW → Option (Option AV × SW) := fun v s => some (v, s)
def kxN {β : Type} : Nat → SW → Option β := fun _ _ => none
/-- a segment of a helper, without calls -/
theorem segG_wkh {n : Nat} {hh : List (Nat × Nat × Nat × Nat)} {cs : List (Nat × List (Nat × ARow))} (hrows : rowsB (mB n) (mO n) (mX n) (mIni n) (mFr n) (mLo n) (mT n) cs = true) {b : Option AV × SW} {σ0 : SG} (hb : b.2.2.1 ≤ mC n ∧ b.2.2.2 ≤ mS n) {cut : Nat → Option (AL → AS → SW → Option (Option AV × SW))} (hcut : ∀ pc f, cut pc = some f → ∀ lc st s1, f lc st s1 = some b → WKH n hh (.inl b.1) σ0 b.2.1 pc lc st s1.1 s1.2.1 s1.2.2) :
    ∀ (N pc : Nat) (lc : AL) (st : AS) (s0 : SW), segG (mC n) (mS n) false noH krG kxN clN cs cut N pc lc st s0 = some b → WKH n hh (.inl b.1) σ0 b.2.1 pc lc st s0.1 s0.2.1 s0.2.2 := by
  intro N
  induction N with
  | zero => intro pc lc st s0 h; cases h
  | succ N ih =>
    intro pc lc st s0 h p l e R s m args below meth c A D cy ad0 hC hrt hnt hR
    unfold segG seg at h
    cases hc : fnd2 cs pc with
    | none => rw [hc] at h; cases h
    | some r =>
      rw [hc] at h
      obtain ⟨d1, d2, d3⟩ := rowsB_at hrows hc
      refine stp_sound (dokG false) hC ⟨Nat.le_of_eq hR.1.symm, Nat.le_of_eq hR.2.symm⟩ CLK_N ⟨?_, ?_, ?_, ?_, ?_⟩ d1 d2 d3 h ?_
      · intro v s1 hv hok pc lc hdec
        cases hv
        exact g_ret hC hrt hok hdec rfl rfl hb
      · intro x s1 hx; cases hx
      · intro x s1 hx; cases hx
      · intro pc x q hq; cases hq
      · intro s1 k hk
        have hk : (okG s1 k 9 || (false && (Nat.beq 9 9 && Nat.beq k 1))) = true := hk
        cases hk
      · intro pc lc st s1 hk
        cases hcp : cut pc with
        | none =>
          rw [hcp] at hk
          exact ih pc lc st s1 hk p l e R s m args below meth c A D cy ad0 hC hrt hnt hR
        | some f =>
          rw [hcp] at hk
          exact hcut pc f hcp lc st s1 hk p l e R s m args below meth c A D cy ad0 hC hrt hnt hR
/-- a point that is known ahead -/
noncomputable def cuQ {α : Type} (l0 : AL) (st0 : AS) (s0 : SW) (b : α) : AL → AS → SW → Option α := fun l st s => @ite (Option α) (l = l0 ∧ st = st0 ∧ s = s0) (Classical.propDecidable _) (some b) none
theorem cuQ_t {α : Type} {l0 : AL} {st0 : AS} {s0 : SW} {b : α} : cuQ l0 st0 s0 b l0 st0 s0 = some b := if_pos ⟨rfl, rfl, rfl⟩
theorem cuQ_of {α : Type} {l0 l : AL} {st0 st : AS} {s0 s : SW} {b b' : α} (h : cuQ l0 st0 s0 b l st s = some b') : l = l0 ∧ st = st0 ∧ s = s0 := by
  unfold cuQ at h
  split at h
  · assumption
  · cases h
theorem callV_wkh {n m a idx pc : Nat} {hh : List (Nat × Nat × Nat × Nat)} {o o1 : AO} {σ0 σ' σ σ1 : SG} {as rest : AS} {lc : AL} {cells slots : Nat} (h13 : mO n = 13) (hk : mK m = 1) (hd : decode (mB n) pc = .ok (.invokevirtual idx, 3)) (hcb : callB (mO n) idx m (mFr n) (mLo n) = true) (hnum : as.length = mN m) (h2 : 2 ≤ a ∧ a ≤ σ.1) (ht : tgK a = 16 + mO m) (hm13 : mO m < 13) (hrest : sumc rest ≤ 8) (hct : MCT m [] (aR a :: as) σ o1 σ1) (hr2 : cells + mC m ≤ mC n ∧ slots + mS m ≤ mS n)
    (kx : ∀ x, o1 = .inr x → ∃ q, HND (mB n) (mX n) hh pc x q ∧ WKH n hh o σ0 σ' q.1 (delL q.2 lc) [] σ1 (cells + mC m) (slots + mS m)) (kk : ∀ v, o1 = .inl v → WKH n hh o σ0 σ' (pc + 3) lc (v.toList ++ rest) σ1 (cells + mC m) (slots + mS m)) : WKH n hh o σ0 σ' pc lc (as.reverse ++ aR a :: rest) σ cells slots := by
  intro p l e R s m9 args below meth c A D cy ad0 hC hrt hnt hR
  have hr9 : cells + mC m ≤ R.cells ∧ slots + mS m ≤ R.slots := by rw [hR.1, hR.2]; exact hr2
  refine g_callV hC hk hd (callB_ok hcb) hnum h2 ht hm13 hrest hct hr9 (fun x hx => ?_) (fun v hv => ?_)
  · obtain ⟨q, h1, h2⟩ := kx x hx
    exact g_hand hC h13 hnt h1 (h2 p l e R s m9 args below meth c A D cy ad0 hC hrt hnt hR) hr9
  · exact kk v hv p l e R s m9 args below meth c A D cy ad0 hC hrt hnt hR
end WKG

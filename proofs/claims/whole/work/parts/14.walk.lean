/-! SEGMENTS, METHODS: from the abstract machine to contracts -/
def mIni (n : Nat) : Bool := Nat.beq (mK n) 2 || Nat.beq (mK n) 3
/-- from this point on method n, begun in σ0, comes to the result o in σ' -/
def WK (n : Nat) (o : AO) (σ0 σ' : SG) (pc : Nat) (lc : AL) (st : AS) (σ : SG) (cells slots : Nat) : Prop :=
  ∀ (p : Program) (l : Launch) (e : Env) (R : Room) (s : State) (m : MethodId) (args : Array Value) (below : List Frame) (meth : Method) (c : Code) (A : Nat → Prop) (D : va_G) (cy : Nat → ClassId) (ad0 : Nat → Nat),
    CX p l R s m args meth c A (mB n) (mO n) (mX n) (mIni n) (mFr n) (mLo n) D cy → meth.sig.returnType = mT n → (∀ x ∈ c.exceptionTable.toList, False) → R.cells = mC n ∧ R.slots = mS n →
    GW p l e R s m args below meth c A (mX n) D cy (vx_MQ below (QcR D cy ad0 σ0 σ' A o) (XcR D cy ad0 σ0 σ' A o) args s (mC n) (mS n) A) ad0 σ0.1 pc lc st σ cells slots
theorem WK_less {n : Nat} {o : AO} {σ0 σ' : SG} {pc : Nat} {lc lc' : AL} {st : AS} {σ : SG} {cells slots : Nat} (h : WK n o σ0 σ' pc lc' st σ cells slots) (hs : ∀ q ∈ lc', q ∈ lc) : WK n o σ0 σ' pc lc st σ cells slots := by
  intro p l e R s m args below meth c A D cy ad0 hC hr ht hR ad H locs ls hW hP hD hS hl hwl hws hr9
  exact h p l e R s m args below meth c A D cy ad0 hC hr ht hR ad H locs ls hW hP hD hS (lv_less hl (fun q hq => by
    obtain ⟨x, hx, rfl⟩ := List.mem_map.mp hq
    exact List.mem_map.mpr ⟨x, hs x hx, rfl⟩)) (fun q hq => hwl q (hs q hq)) hws hr9
theorem mct_of {n : Nat} (hk4 : mK n ≠ 4) (hn : mFacts n) {as : AS} {σ σ' : SG} {o : AO} (hlen : ∀ ad : Nat → Nat, (lg_sl (cvs ad as)).length ≤ mX n) (h : WK n o σ σ' 0 (aargs 0 as) [] σ 0 0) : MCT n [] as σ o σ' := by
  intro hWF hws l hst D cy ad sz
  obtain ⟨f1, f2, f3, f4, f5, f6, f7, f8, f9, f10⟩ := hn
  have hws9 : WSM n [] = Cond.code (mY n) (mB n) (mX n) (mT n) :: WG := by unfold WSM; rw [if_neg hk4]
  refine vx_ofW (cc := mB n) (maxL := mX n) (ret := mT n) f7 hws9 ?_
  intro p e s m args below meth c s₁ B hml hnt hv
  obtain ⟨rfl, hsz, hP, hK, hD0, hV, hu, hn9⟩ := hv
  subst hsz
  have hD := hD0.self (sz := s.heap.size)
  have hts : ∀ w ∈ WG, w.before (cvs ad as).toArray s = true := fun w hw => atoms_spec (ws := WSM n []) B.pre w (by rw [hws9]; exact List.mem_cons_of_mem _ hw)
  have hown : s.vm.findClass (oN (mO n)) = some m.cls := by rw [← f6]; exact findClass_of_methodNamed B.named
  have hC : CX p l (headSpec (WSM n []) (rmM n)).room s m (cvs ad as).toArray meth c (va_A (WS cy ad σ) s.heap.size) (mB n) (mO n) (mX n) (mIni n) (mFr n) (mLo n) D cy :=
    ⟨B.exec, B.bytes, hml, hown, hts, B.notSynchronized, hst, fun q h => Or.inr h, hK, hV, hu, hn9, fun hi => by
      rw [(name_of_methodNamed B.named B.method).1]
      refine f8 ?_
      unfold mIni at hi
      simp only [Bool.or_eq_true, Nat.beq_eq] at hi
      exact hi, Nat.le_refl _, Nat.le_refl _⟩
  have hl := lv_entry (cvs ad as) (n := mX n) (hlen ad)
  rw [lg_entry_eq]
  generalize (lg_sl (cvs ad as) ++ List.replicate (mX n - (lg_sl (cvs ad as)).length) Slot.unset).toArray = ls at hl ⊢
  have g := h p l e (headSpec (WSM n []) (rmM n)).room s m (cvs ad as).toArray below meth c (va_A (WS cy ad σ) s.heap.size) D cy ad hC B.returns hnt ⟨rfl, rfl⟩ ad s.heap [] ls ⟨hWF, Nat.le_refl _, fun _ _ => rfl, fun _ => rfl⟩ hP hD va_S.rf (by rw [cvl_aargs]; exact hl) (wfL_aargs as 0 hws) (fun _ h => by cases h) ⟨Nat.zero_le _, Nat.zero_le _⟩
  exact g
section SEG
variable {S β : Type} {rI rJ : S → Nat → Int → Int} {rD : S → Nat → Int → UInt64} {rR : S → Nat → Int → Nat} {wI wJ : S → Nat → Int → Int → Option S} {wD : S → Nat → Int → UInt64 → Option S} {wR : S → Nat → Int → Nat → Option S} {wC : S → Nat → (Int → Int) → Option S} {ok : S → Nat → Nat → Bool} {ln : Nat → Int} {nO : S → Nat → Option (Nat × S)} {nA : S → Nat → Int → Option (Nat × S)} {nM : S → Int → Int → Option (Nat × S)}
variable {kr : Option AV → S → Option β} {kx : Nat → S → Option β} {cl : Nat → AS → S → (AO → S → Option β) → Option β} {ab : S → SG} {cn : S → Nat × Nat}
def noH : Nat → Nat → Option (Nat × Nat) := fun _ _ => none
/-- a segment of a method without handlers -/
theorem seg_wk {n : Nat} (hDK : DOK rI rJ rD rR wI wJ wD wR wC ok ln nO nA nM ab cn (mC n) (mS n)) (h9 : ∀ s k, ok s k 9 = false) (hCL : CLK cl ab cn (mC n) (mS n)) {cs : List (Nat × List (Nat × ARow))} (hrows : rowsB (mB n) (mO n) (mX n) (mIni n) (mFr n) (mLo n) (mT n) cs = true) {b : β} {o : AO} {σ0 σ' : SG}
    (hkr : ∀ v s1, kr v s1 = some b → o = .inl v ∧ σ' = ab s1 ∧ (cn s1).1 ≤ mC n ∧ (cn s1).2 ≤ mS n) (hkx : ∀ x s1, kx x s1 = some b → o = .inr x ∧ σ' = ab s1 ∧ (cn s1).1 + 1 ≤ mC n ∧ (cn s1).2 + 6 ≤ mS n)
    {cut : Nat → Option (AL → AS → S → Option β)} (hcut : ∀ pc f, cut pc = some f → ∀ lc st s1, f lc st s1 = some b → WK n o σ0 σ' pc lc st (ab s1) (cn s1).1 (cn s1).2) :
    ∀ (N pc : Nat) (lc : AL) (st : AS) (s0 : S), seg rI rJ rD rR wI wJ wD wR wC ok ln nO nA nM noH kr kx cl (fnd2 cs) cut N pc lc st s0 = some b → WK n o σ0 σ' pc lc st (ab s0) (cn s0).1 (cn s0).2 := by
  intro N
  induction N with
  | zero => intro pc lc st s0 h; cases h
  | succ N ih =>
    intro pc lc st s0 h p l e R s m args below meth c A D cy ad0 hC hrt hnt hR
    unfold seg at h
    cases hc : fnd2 cs pc with
    | none => rw [hc] at h; cases h
    | some r =>
      rw [hc] at h
      obtain ⟨d1, d2, d3⟩ := rowsB_at hrows hc
      refine stp_sound hDK hC ⟨Nat.le_of_eq hR.1.symm, Nat.le_of_eq hR.2.symm⟩ hCL ⟨?_, ?_, ?_, ?_, ?_⟩ d1 d2 d3 h ?_
      · intro v s1 hv hok pc lc hdec
        obtain ⟨e1, e2, e3, e4⟩ := hkr v s1 hv
        subst e1
        subst e2
        exact g_ret hC hrt hok hdec rfl rfl ⟨e3, e4⟩
      · intro x s1 hx pc lc st
        obtain ⟨e1, e2, e3, e4⟩ := hkx x s1 hx
        subst e1
        subst e2
        exact g_xout hC hnt rfl rfl ⟨by omega, by omega⟩
      · intro x s1 hx h4 h11 hfr hlo pc lc st hst t0 t3 t4 t7
        obtain ⟨e1, e2, e3, e4⟩ := hkx x s1 hx
        subst e1
        subst e2
        exact g_throw hC h11 hnt h4 rfl rfl ⟨e3, e4⟩ ⟨by omega, by omega⟩ hfr hlo hst t0 t3 t4 t7
      · intro pc x q hq
        cases hq
      · intro s1 k hk
        rw [h9] at hk
        cases hk
      · intro pc lc st s1 hk
        cases hcp : cut pc with
        | none =>
          rw [hcp] at hk
          exact ih pc lc st s1 hk p l e R s m args below meth c A D cy ad0 hC hrt hnt hR
        | some f =>
          rw [hcp] at hk
          exact hcut pc f hcp lc st s1 hk p l e R s m args below meth c A D cy ad0 hC hrt hnt hR
end SEG
-- calls by a list
def clN {S β : Type} : Nat → AS → S → (AO → S → Option β) → Option β := fun _ _ _ _ => none
def clC {S β : Type} (m : Nat) (g : AS → S → (AO → S → Option β) → Option β) (r : Nat → AS → S → (AO → S → Option β) → Option β) : Nat → AS → S → (AO → S → Option β) → Option β := fun n as s f => bif Nat.beq n m then g as s f else r n as s f
def CLK1 {S β : Type} (m : Nat) (g : AS → S → (AO → S → Option β) → Option β) (ab : S → SG) (cn : S → Nat × Nat) (rc rs : Nat) : Prop := ∀ as s (f : AO → S → Option β) b, g as s f = some b → ∃ o s', f o s' = some b ∧ mK m ≠ 4 ∧ MCT m [] as (ab s) o (ab s') ∧ cn s' = ((cn s).1 + mC m, (cn s).2 + mS m) ∧ (cn s).1 + mC m ≤ rc ∧ (cn s).2 + mS m ≤ rs ∧ (mK m = 2 ∨ mK m = 3 → o = .inl none)
theorem CLK_N {S β : Type} {ab : S → SG} {cn : S → Nat × Nat} {rc rs : Nat} : CLK (β := β) clN ab cn rc rs := fun n as s f b h => by cases h
theorem CLK_C {S β : Type} {ab : S → SG} {cn : S → Nat × Nat} {rc rs m : Nat} {g : AS → S → (AO → S → Option β) → Option β} {r : Nat → AS → S → (AO → S → Option β) → Option β} (hg : CLK1 m g ab cn rc rs) (hr : CLK r ab cn rc rs) : CLK (clC m g r) ab cn rc rs := fun n as s f b h => by
  unfold clC at h
  cases hb : Nat.beq n m with
  | true =>
    rw [hb] at h
    have e := Nat.eq_of_beq_eq_true hb
    subst e
    exact hg as s f b h
  | false =>
    rw [hb] at h
    exact hr n as s f b h
-- cuts by a list
def cuN {S β : Type} : Nat → Option (AL → AS → S → Option β) := fun _ => none
def cuC {S β : Type} (m : Nat) (g : AL → AS → S → Option β) (r : Nat → Option (AL → AS → S → Option β)) : Nat → Option (AL → AS → S → Option β) := fun n => bif Nat.beq n m then some g else r n
theorem cut_N {S β : Type} {n : Nat} {o : AO} {σ0 σ' : SG} {ab : S → SG} {cn : S → Nat × Nat} {b : β} : ∀ pc f, (cuN : Nat → Option (AL → AS → S → Option β)) pc = some f → ∀ lc st s1, f lc st s1 = some b → WK n o σ0 σ' pc lc st (ab s1) (cn s1).1 (cn s1).2 := fun pc f h => by cases h
theorem cut_C {S β : Type} {n m : Nat} {o : AO} {σ0 σ' : SG} {ab : S → SG} {cn : S → Nat × Nat} {b : β} {g : AL → AS → S → Option β} {r : Nat → Option (AL → AS → S → Option β)} (hg : ∀ lc st s1, g lc st s1 = some b → WK n o σ0 σ' m lc st (ab s1) (cn s1).1 (cn s1).2) (hr : ∀ pc f, r pc = some f → ∀ lc st s1, f lc st s1 = some b → WK n o σ0 σ' pc lc st (ab s1) (cn s1).1 (cn s1).2) : ∀ pc f, cuC m g r pc = some f → ∀ lc st s1, f lc st s1 = some b → WK n o σ0 σ' pc lc st (ab s1) (cn s1).1 (cn s1).2 := fun pc f h => by
  unfold cuC at h
  cases hb : Nat.beq pc m with
  | true =>
    rw [hb] at h
    have e := Nat.eq_of_beq_eq_true hb
    subst e
    cases h
    exact hg
  | false =>
    rw [hb] at h
    exact hr pc f h
-- the class' store, the model's store, and none
/-- ints, longs of one side -/
abbrev HH : Type := (Nat → Int → Int) × (Nat → Int → Int)
def mrg (lo hi : Nat) (f g : Nat → Int → Int) : Nat → Int → Int := fun k i => if lo ≤ k ∧ k ≤ hi then f k i else g k i
/-- the rest of the world behind construction -/
def GOK (g : SG) : Prop := 119 ≤ g.1 ∧ g.2.1 = rRK
def abH (lo hi : Nat) (g : SG) (h : HH) : SG := (g.1, g.2.1, mrg lo hi h.1 g.2.2.1, mrg lo hi h.2 g.2.2.2.1, g.2.2.2.2)
def tgS (lo hi k : Nat) : Nat := bif Nat.ble lo k && Nat.ble k hi then tgK k else 99
theorem mrg_in {lo hi k : Nat} {f g : Nat → Int → Int} {i : Int} (h : lo ≤ k ∧ k ≤ hi) : mrg lo hi f g k i = f k i := if_pos h
theorem tgS_in {lo hi k t : Nat} (h : Nat.beq (tgS lo hi k) t = true) (ht : t ≠ 99) : (lo ≤ k ∧ k ≤ hi) ∧ tgK k = t := by
  have h := Nat.eq_of_beq_eq_true h
  unfold tgS at h
  cases hb : (Nat.ble lo k && Nat.ble k hi) with
  | true =>
    rw [hb] at h
    obtain ⟨a, b⟩ := Bool.and_eq_true_iff.mp hb
    exact ⟨⟨Nat.le_of_ble_eq_true a, Nat.le_of_ble_eq_true b⟩, h⟩
  | false => rw [hb] at h; exact absurd h.symm ht
theorem mrg_up {lo hi k : Nat} {f g : Nat → Int → Int} {i x : Int} (h : lo ≤ k ∧ k ≤ hi) : mrg lo hi (up2 f k i x) g = up2 (mrg lo hi f g) k i x := by
  funext a b
  unfold mrg up2
  by_cases e : a = k ∧ b = i
  · rw [if_pos e, if_pos (by rw [e.1]; exact h)]; simp [e]
  · rw [if_neg e, if_neg e]
theorem mrg_upC {lo hi k : Nat} {f g : Nat → Int → Int} {z : Int → Int} (h : lo ≤ k ∧ k ≤ hi) : mrg lo hi (upC f k z) g = upC (mrg lo hi f g) k z := by
  funext a b
  unfold mrg upC
  by_cases e : a = k
  · rw [if_pos e, if_pos (by rw [e]; exact h)]; simp [e]
  · rw [if_neg e, if_neg e]

/-! THE LAW'S BODY in segments -/
def lnL (L : Nat) (k : Nat) : Int := bif Nat.beq k 1 then (L : Int) else lnK k
def rIL (xs : Nat → Int32) (s : SW) (k : Nat) (i : Int) : Int := bif Nat.beq k 1 then (xs i.toNat).toInt else s.1.2.2.1 k i
def okL (s : SW) (k t : Nat) : Bool := okG s k t || (Nat.beq t 9 && Nat.beq k 1)
def naL (s : SW) (t : Nat) (n : Int) : Option (Nat × SW) := bif decide (n = lnK (s.1.1 + 1)) then newG 601024 7293034 (Nat.beq (tgK (s.1.1 + 1)) t) s (uN s.1) 1 n.toNat else none
def krL : Option AV → SW → Option Unit := fun v s => match v with | some (.inl x) => gd (x = 1 ∧ s.2.1 ≤ 601024 ∧ s.2.2 ≤ 7293034) (some ()) | _ => none
def segL (L : Nat) (xs : Nat → Int32) (cl : Nat → AS → SW → (AO → SW → Option Unit) → Option Unit) (cs : List (Nat × List (Nat × ARow))) (cut : Nat → Option (AL → AS → SW → Option Unit)) (N pc : Nat) (l : AL) (st : AS) (s : SW) : Option Unit :=
  seg (S := SW) (rIL xs) (fun s k i => s.1.2.2.2.1 k i) (fun s k i => s.1.2.2.2.2 k i) (fun s k i => s.1.2.1 k i) (fun s k i x => some (uI s.1 k i x, s.2)) (fun s k i x => some (uJ s.1 k i x, s.2)) (fun s k i x => some (uD s.1 k i x, s.2)) (fun s k i x => some (uR s.1 k i x, s.2)) (fun _ _ _ => none)
    okL (lnL L) (fun s c => newG 601024 7293034 (Nat.beq (tgK (s.1.1 + 1)) (16 + c)) s (uN s.1) 1 (nFK c)) naL (fun _ _ _ => none) noH krL kxN cl (fnd2 cs) cut N pc l st s
theorem okL_in {s : SW} {k t : Nat} (h9 : t ≠ 9) (h : okL s k t = true) : 2 ≤ k ∧ k ≤ s.1.1 ∧ tgK k = t := okG9 (ok9 := true) h9 h
theorem okL_9 {s : SW} {k : Nat} (h : okL s k 9 = true) : k = 1 := by
  unfold okL at h
  rcases Bool.or_eq_true_iff.mp h with h | h
  · cases h
  · exact Nat.eq_of_beq_eq_true (Bool.and_eq_true_iff.mp h).2
theorem beq_ne {a b : Nat} (h : a ≠ b) : Nat.beq a b = false := by
  cases hb : Nat.beq a b with
  | true => exact absurd (Nat.eq_of_beq_eq_true hb) h
  | false => rfl
theorem dokL (L : Nat) (xs : Nat → Int32) : DOK (S := SW) (rIL xs) (fun s k i => s.1.2.2.2.1 k i) (fun s k i => s.1.2.2.2.2 k i) (fun s k i => s.1.2.1 k i) (fun s k i x => some (uI s.1 k i x, s.2)) (fun s k i x => some (uJ s.1 k i x, s.2)) (fun s k i x => some (uD s.1 k i x, s.2)) (fun s k i x => some (uR s.1 k i x, s.2)) (fun _ _ _ => none)
    okL (lnL L) (fun s c => newG 601024 7293034 (Nat.beq (tgK (s.1.1 + 1)) (16 + c)) s (uN s.1) 1 (nFK c)) naL (fun _ _ _ => none) (fun s => s.1) (fun s => s.2) 601024 7293034 := by
  refine ⟨fun s k t h9 h => ?_, fun s k i x s' q => ?_, fun s k i x s' q => ?_, fun s k i x s' q => ?_, fun s k i x s' q => ?_, (fun _ _ _ _ q => nos q), fun s c k s' q => ?_, fun s t n k s' q => ?_, (fun _ _ _ _ _ q => nos q)⟩
  · obtain ⟨a, b, d⟩ := okL_in h9 h
    have e := beq_ne (a := k) (b := 1) (by omega)
    refine ⟨a, b, d, by unfold lnL; rw [e]; rfl, fun i => by unfold rIL; rw [e]; rfl, fun _ => rfl, fun _ => rfl, fun _ => rfl⟩
  · cases q; exact ⟨rfl, rfl⟩
  · cases q; exact ⟨rfl, rfl⟩
  · cases q; exact ⟨rfl, rfl⟩
  · cases q; exact ⟨rfl, rfl⟩
  · obtain ⟨a, b, d, e, f⟩ := newG_of q
    refine ⟨b, ?_, d, e, f⟩
    rw [b]
    exact Nat.eq_of_beq_eq_true a
  · unfold naL at q
    cases hb : decide (n = lnK (s.1.1 + 1)) with
    | false =>
      simp only [hb] at q
      cases q
    | true =>
      simp only [hb] at q
      obtain ⟨a, b, d, e, f⟩ := newG_of q
      have hn := of_decide_eq_true hb
      have hr := lnK_rng (s.1.1 + 1)
      refine ⟨b, ?_, by rw [b]; exact hn, by rw [hn]; exact hr.1, by rw [hn]; exact hr.2, d, e, f⟩
      rw [b]
      exact Nat.eq_of_beq_eq_true a
section LAW2
variable {p : Program} {l : Launch} {e : Env} {s : State} {m : MethodId} {below : List Frame} {meth : Method} {c : Code} {D : va_G} {cy : Nat → ClassId} {b L : Nat} {xs : Nat → Int32} {pc : Nat} {lc : AL} {st : AS} {σ : SG} {cells slots : Nat}
/-- what the law's walk knows of its place -/
def LC (p : Program) (l : Launch) (s : State) (m : MethodId) (b : Nat) (meth : Method) (c : Code) (D : va_G) (cy : Nat → ClassId) (L : Nat) (xs : Nat → Int32) : Prop := CX p l room_1 s m #[Value.ref b] meth c (fun q => s.heap.size ≤ q) code 13 10 false 10 191 D cy ∧ meth.sig.returnType = ret ∧ va_X b L xs s s.heap ∧ b < s.heap.size ∧ L ≤ 3072
theorem g_sld2 (hx : p.tables.exec = Jvm.exec) (hb : c.code = code) (hX : va_X b L xs s s.heap) (hbl : b < s.heap.size) {i : Int} (hi : 0 ≤ i ∧ i < (L : Int)) (hd : decode code pc = .ok (.iaload, 1)) (kk : LG p l e s m b below meth c D cy (pc + 1) lc (aI (xs i.toNat).toInt :: st) σ cells slots) : LG p l e s m b below meth c D cy pc lc (aI i :: aR 1 :: st) σ cells slots := by
  intro ad H locs ls hW hP hD hS hl hwl hws hr
  have hir : R32 i := wfS_hd hws
  have h1 : ad 1 = b := hW.2.2.1 1 (Nat.le_refl 1)
  show W p l e room_1 s m #[Value.ref b] below meth c H locs cells slots _ (F0 m pc ls (.int (Int32.ofInt i) :: .ref (ad 1) :: cvs ad st))
  rw [h1]
  have hin := o_in (n := (L : Int)) hir hi
  rw [Int.toNat_natCast] at hin
  refine va_sld hx hb hX hbl (Nat.not_le.mpr hbl) hS hin hd ?_
  have h9 := kk ad H locs ls hW hP hD hS hl hwl (wfS_cons (show R32 (xs i.toNat).toInt from ⟨Int32.le_toInt _, by have := Int32.toInt_lt (xs i.toNat); omega⟩) (wfS_tl (wfS_tl hws))) hr
  have e9 : cvs ad (aI (xs i.toNat).toInt :: st) = .int (xs (Int32.ofInt i).toNatClampNeg) :: cvs ad st := by
    rw [o_nat hir]
    show Value.int (Int32.ofInt (xs i.toNat).toInt) :: cvs ad st = _
    rw [Int32.ofInt_toInt]
  rw [e9] at h9
  exact h9
/-- a segment of the law's body -/
theorem seg_lg (hLC : LC p l s m b meth c D cy L xs) {cl : Nat → AS → SW → (AO → SW → Option Unit) → Option Unit} (hCL : CLK cl (fun s => s.1) (fun s => s.2) 601024 7293034) {cs : List (Nat × List (Nat × ARow))} (hrows : rowsB code 13 10 false 10 191 ret cs = true)
    {cut : Nat → Option (AL → AS → SW → Option Unit)} (hcut : ∀ pc f, cut pc = some f → ∀ lc st s1, f lc st s1 = some () → LG p l e s m b below meth c D cy pc lc st s1.1 s1.2.1 s1.2.2) :
    ∀ (N pc : Nat) (lc : AL) (st : AS) (s0 : SW), segL L xs cl cs cut N pc lc st s0 = some () → LG p l e s m b below meth c D cy pc lc st s0.1 s0.2.1 s0.2.2 := by
  intro N
  obtain ⟨hC, hr, hX, hbl, hL⟩ := hLC
  induction N with
  | zero => intro pc lc st s0 h; cases h
  | succ N ih =>
    intro pc lc st s0 h
    unfold segL seg at h
    cases hc : fnd2 cs pc with
    | none => rw [hc] at h; cases h
    | some r =>
      rw [hc] at h
      obtain ⟨d1, d2, d3⟩ := rowsB_at hrows hc
      refine stp_sound (dokL L xs) hC ⟨Nat.le_of_ble_eq_true rfl, Nat.le_of_ble_eq_true rfl⟩ hCL ⟨?_, ?_, ?_, ?_, ?_⟩ d1 d2 d3 h ?_
      · intro v s1 hv hok pc lc hdec
        unfold krL at hv
        split at hv
        · obtain ⟨⟨h1, h2, h3⟩, -⟩ := gd_some hv
          subst h1
          exact g_lawret hC.1 hC.2.1 hr hC.2.2.2.2.2.1 hdec ⟨h2, h3⟩
        · cases hv
      · intro x s1 hx; cases hx
      · intro x s1 hx; cases hx
      · intro pc x q hq; cases hq
      · intro s1 k hk
        have e1 := okL_9 hk
        subst e1
        exact ⟨fun pc lc st i hd hi kk => g_sld2 hC.1 hC.2.1 hX hbl hi hd kk, fun pc lc st hd kk => g_slen hC.1 hC.2.1 hX hbl hL hd kk⟩
      · intro pc lc st s1 hk
        cases hcp : cut pc with
        | none =>
          rw [hcp] at hk
          exact ih pc lc st s1 hk
        | some f =>
          rw [hcp] at hk
          exact hcut pc f hcp lc st s1 hk
/-- a call of a helper -/
theorem callH_lg (hLC : LC p l s m b meth c D cy L xs) {n idx : Nat} {hh : List (Nat × Nat × Nat × Nat)} {v : Option AV} {σ1 : SG} {as rest : AS} (hk : mK n = 4) (hd : decode code pc = .ok (.invokestatic idx, 3)) (hcb : callB 13 idx n 10 191 = true) (hcw : Cond.codeWith (mY n) (mB n) (mX n) (mT n) hh ∈ WG) (hnum : as.length = mN n) (hrest : sumc rest ≤ 8) (hct : MCT n hh as σ (.inl v) σ1) (hr2 : cells + mC n ≤ 601024 ∧ slots + mS n ≤ 7293034)
    (kk : LG p l e s m b below meth c D cy (pc + 3) lc (v.toList ++ rest) σ1 (cells + mC n) (slots + mS n)) : LG p l e s m b below meth c D cy pc lc (as.reverse ++ rest) σ cells slots :=
  g_callH hLC.1 hk hd (callB_ok hcb) hcw hnum hrest hct hr2 (fun x h => by cases h) (fun w h => by cases h; exact kk)
end LAW2

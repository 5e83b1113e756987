/-! CONSTRUCTORS: a dictionary of the whole world with arrays of arrays; calls that are known ahead -/
def newM (rc rs : Nat) (s : SW) (n q : Int) : Option (Nat × SW) := bif (Nat.beq (tgK (s.1.1 + 1)) 3 && Nat.beq (lnK (s.1.1 + 1)).toNat n.toNat) && (((List.range n.toNat).all (fun i => Nat.beq (tgK (s.1.1 + 2 + i)) 0 && Nat.beq (lnK (s.1.1 + 2 + i)).toNat q.toNat)) && decide (0 ≤ n ∧ 0 ≤ q ∧ n ≤ 1000 ∧ q ≤ 1000)) then gd (s.2.1 + 1 + n.toNat ≤ rc ∧ s.2.2 + n.toNat + n.toNat * q.toNat ≤ rs) (some (s.1.1 + 1, (uM s.1 n.toNat, s.2.1 + 1 + n.toNat, s.2.2 + n.toNat + n.toNat * q.toNat))) else none
section CTOR
variable {β : Type} {rc rs : Nat}
theorem newM_of {s s' : SW} {n q : Int} {k : Nat} (h : newM rc rs s n q = some (k, s')) : 0 ≤ n ∧ 0 ≤ q ∧ n ≤ 1000 ∧ q ≤ 1000 ∧ k = s.1.1 + 1 ∧ tgK k = 3 ∧ (lnK k).toNat = n.toNat ∧ (∀ i, i < n.toNat → tgK (s.1.1 + 2 + i) = 0 ∧ (lnK (s.1.1 + 2 + i)).toNat = q.toNat) ∧ s'.1 = uM s.1 n.toNat ∧ s'.2 = (s.2.1 + 1 + n.toNat, s.2.2 + n.toNat + n.toNat * q.toNat) ∧ s.2.1 + 1 + n.toNat ≤ rc ∧ s.2.2 + n.toNat + n.toNat * q.toNat ≤ rs := by
  unfold newM at h
  cases hb : ((Nat.beq (tgK (s.1.1 + 1)) 3 && Nat.beq (lnK (s.1.1 + 1)).toNat n.toNat) && (((List.range n.toNat).all (fun i => Nat.beq (tgK (s.1.1 + 2 + i)) 0 && Nat.beq (lnK (s.1.1 + 2 + i)).toNat q.toNat)) && decide (0 ≤ n ∧ 0 ≤ q ∧ n ≤ 1000 ∧ q ≤ 1000))) with
  | false => rw [hb] at h; cases h
  | true =>
    rw [hb] at h
    obtain ⟨⟨g1, g2⟩, e⟩ := gd_some (show gd _ _ = some _ from h)
    cases e
    obtain ⟨a, b⟩ := Bool.and_eq_true_iff.mp hb
    obtain ⟨a1, a2⟩ := Bool.and_eq_true_iff.mp a
    obtain ⟨b1, b2⟩ := Bool.and_eq_true_iff.mp b
    obtain ⟨c1, c2, c3, c4⟩ := of_decide_eq_true b2
    refine ⟨c1, c2, c3, c4, rfl, Nat.eq_of_beq_eq_true a1, Nat.eq_of_beq_eq_true a2, fun i hi => ?_, rfl, rfl, g1, g2⟩
    obtain ⟨d1, d2⟩ := Bool.and_eq_true_iff.mp (List.all_eq_true.mp b1 i (List.mem_range.mpr hi))
    exact ⟨Nat.eq_of_beq_eq_true d1, Nat.eq_of_beq_eq_true d2⟩
def segK (rc rs : Nat) (kr : Option AV → SW → Option β) (cl : Nat → AS → SW → (AO → SW → Option β) → Option β) (cs : List (Nat × List (Nat × ARow))) (cut : Nat → Option (AL → AS → SW → Option β)) (N pc : Nat) (l : AL) (st : AS) (s : SW) : Option β :=
  seg (S := SW) (fun s k i => s.1.2.2.1 k i) (fun s k i => s.1.2.2.2.1 k i) (fun s k i => s.1.2.2.2.2 k i) (fun s k i => s.1.2.1 k i) (fun s k i x => some (uI s.1 k i x, s.2)) (fun s k i x => some (uJ s.1 k i x, s.2)) (fun s k i x => some (uD s.1 k i x, s.2)) (fun s k i x => some (uR s.1 k i x, s.2)) (fun s k g => some (uC s.1 k g, s.2))
    okG lnK (fun s c => newG rc rs (Nat.beq (tgK (s.1.1 + 1)) (16 + c)) s (uN s.1) 1 (nFK c)) (fun s t n => bif decide (n = lnK (s.1.1 + 1)) then newG rc rs (Nat.beq (tgK (s.1.1 + 1)) t) s (uN s.1) 1 n.toNat else none) (newM rc rs) noH kr kxN cl (fnd2 cs) cut N pc l st s
theorem dokK : DOK (S := SW) (fun s k i => s.1.2.2.1 k i) (fun s k i => s.1.2.2.2.1 k i) (fun s k i => s.1.2.2.2.2 k i) (fun s k i => s.1.2.1 k i) (fun s k i x => some (uI s.1 k i x, s.2)) (fun s k i x => some (uJ s.1 k i x, s.2)) (fun s k i x => some (uD s.1 k i x, s.2)) (fun s k i x => some (uR s.1 k i x, s.2)) (fun s k g => some (uC s.1 k g, s.2))
    okG lnK (fun s c => newG rc rs (Nat.beq (tgK (s.1.1 + 1)) (16 + c)) s (uN s.1) 1 (nFK c)) (fun s t n => bif decide (n = lnK (s.1.1 + 1)) then newG rc rs (Nat.beq (tgK (s.1.1 + 1)) t) s (uN s.1) 1 n.toNat else none) (newM rc rs) (fun s => s.1) (fun s => s.2) rc rs := by
  obtain ⟨a1, a2, a3, a4, a5, a6, a7, a8, _⟩ := dokG (rc := rc) (rs := rs) false
  refine ⟨fun s k t h9 h => a1 s k t h9 ?_, a2, a3, a4, a5, a6, a7, a8, fun s n q k s' h => newM_of h⟩
  have h : okG s k t = true := h
  show (okG s k t || (false && (Nat.beq t 9 && Nat.beq k 1))) = true
  rw [h]
  rfl
def clI (rc rs m K : Nat) (as0 : AS) (F : SG → SG) : AS → SW → (AO → SW → Option β) → Option β := fun as s f => bif decide (as = as0) && Nat.beq s.1.1 K then gd (s.2.1 + mC m ≤ rc ∧ s.2.2 + mS m ≤ rs) (f (.inl none) (F s.1, s.2.1 + mC m, s.2.2 + mS m)) else none
theorem CLK1_I {m K : Nat} {as0 : AS} {F : SG → SG} (hk : mK m ≠ 4) (hM : ∀ σ : SG, σ.1 = K → MCT m [] as0 σ (.inl none) (F σ)) : CLK1 (β := β) m (clI rc rs m K as0 F) (fun s => s.1) (fun s => s.2) rc rs := fun as s f b h => by
  unfold clI at h
  cases hb : (decide (as = as0) && Nat.beq s.1.1 K) with
  | false => rw [hb] at h; cases h
  | true =>
    rw [hb] at h
    obtain ⟨⟨g1, g2⟩, e⟩ := gd_some (show gd _ _ = some _ from h)
    obtain ⟨b1, b2⟩ := Bool.and_eq_true_iff.mp hb
    have e1 := of_decide_eq_true b1
    rw [e1]
    exact ⟨_, _, e, hk, hM s.1 (Nat.eq_of_beq_eq_true b2), rfl, g1, g2, fun _ => rfl⟩
theorem okG_9 (s : SW) (k : Nat) : okG s k 9 = false := rfl
/-- a segment of a constructor -/
theorem segK_wk {n : Nat} {cs : List (Nat × List (Nat × ARow))} (hrows : rowsB (mB n) (mO n) (mX n) (mIni n) (mFr n) (mLo n) (mT n) cs = true) {b : Option AV × SW} (hb : b.2.2.1 ≤ mC n ∧ b.2.2.2 ≤ mS n) {σ0 : SG} {cl : Nat → AS → SW → (AO → SW → Option (Option AV × SW)) → Option (Option AV × SW)} (hCL : CLK cl (fun s => s.1) (fun s => s.2) (mC n) (mS n)) {cut : Nat → Option (AL → AS → SW → Option (Option AV × SW))} (hcut : ∀ pc f, cut pc = some f → ∀ lc st s1, f lc st s1 = some b → WK n (.inl b.1) σ0 b.2.1 pc lc st s1.1 s1.2.1 s1.2.2) {N pc : Nat} {lc : AL} {st : AS} {s0 : SW} (h : segK (mC n) (mS n) krG cl cs cut N pc lc st s0 = some b) : WK n (.inl b.1) σ0 b.2.1 pc lc st s0.1 s0.2.1 s0.2.2 :=
  seg_wk (ab := fun s : SW => s.1) (cn := fun s : SW => s.2) dokK okG_9 hCL hrows (fun v s1 q => by
    have e : (v, s1) = b := Option.some.inj q
    cases e
    exact ⟨rfl, rfl, hb⟩) (fun x s1 q => by cases q) hcut N pc lc st s0 h
/-- a piece of a constructor up to a point -/
theorem segK_to {n : Nat} {cs : List (Nat × List (Nat × ARow))} (hrows : rowsB (mB n) (mO n) (mX n) (mIni n) (mFr n) (mLo n) (mT n) cs = true) {b : Option AV × SW} (hb : b.2.2.1 ≤ mC n ∧ b.2.2.2 ≤ mS n) {σ0 : SG} {cl : Nat → AS → SW → (AO → SW → Option (Option AV × SW)) → Option (Option AV × SW)} (hCL : CLK cl (fun s => s.1) (fun s => s.2) (mC n) (mS n)) {pc2 N pc : Nat} {l0 lc : AL} {st0 st : AS} {s1 s0 : SW} (q : WK n (.inl b.1) σ0 b.2.1 pc2 l0 st0 s1.1 s1.2.1 s1.2.2) (h : ∀ f : AL → AS → SW → Option (Option AV × SW), segK (mC n) (mS n) krG cl cs (cuC pc2 f cuN) N pc lc st s0 = f l0 st0 s1) : WK n (.inl b.1) σ0 b.2.1 pc lc st s0.1 s0.2.1 s0.2.2 :=
  segK_wk hrows hb hCL (ct_C (g := cuQ l0 st0 s1 b) (fun lc st s1 z => by
    obtain ⟨rfl, rfl, rfl⟩ := cuQ_of z
    exact q) ct_N) ((h _).trans cuQ_t)
/-- a world without some -/
def fillW (k : Nat) (n x : Int) (σ : SG) : SG := uC σ k (fun i => if 0 ≤ i ∧ i < n then x else σ.2.2.1 k i)
end CTOR

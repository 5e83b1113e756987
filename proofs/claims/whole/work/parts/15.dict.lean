/-! THE DICTIONARIES: a side's store only read; read and written; the same with a count of calls that may throw -/
def inS (lo hi k : Nat) : Bool := Nat.ble lo k && Nat.ble k hi
def okS (lo hi k t : Nat) : Bool := !(Nat.beq t 9) && (inS lo hi k && Nat.beq (tgK k) t)
theorem okS_9 (lo hi k : Nat) : okS lo hi k 9 = false := rfl
theorem inS_of {lo hi k : Nat} (h : inS lo hi k = true) : lo ≤ k ∧ k ≤ hi := by
  unfold inS at h
  obtain ⟨a, b⟩ := Bool.and_eq_true_iff.mp h
  exact ⟨Nat.le_of_ble_eq_true a, Nat.le_of_ble_eq_true b⟩
theorem inS_t {lo hi k : Nat} (h : lo ≤ k) (h' : k ≤ hi) : inS lo hi k = true := by
  unfold inS
  rw [Nat.ble_eq_true_of_le h, Nat.ble_eq_true_of_le h']
  rfl
theorem okS_in {lo hi k t : Nat} (h : okS lo hi k t = true) : (lo ≤ k ∧ k ≤ hi) ∧ tgK k = t := by
  unfold okS at h
  obtain ⟨-, b⟩ := Bool.and_eq_true_iff.mp h
  obtain ⟨b, c⟩ := Bool.and_eq_true_iff.mp b
  exact ⟨inS_of b, Nat.eq_of_beq_eq_true c⟩
theorem okS_t {lo hi k t : Nat} (h : lo ≤ k) (h' : k ≤ hi) (h9 : t ≠ 9) (ht : tgK k = t) : okS lo hi k t = true := by
  unfold okS
  rw [inS_t h h', ht, Nat.beq_refl]
  cases hb : Nat.beq t 9 with
  | true => exact absurd (Nat.eq_of_beq_eq_true hb) h9
  | false => rfl
theorem nos {α : Type} {x : α} {P : Prop} (h : (none : Option α) = some x) : P := nomatch h
def hI (h : HH) (k : Nat) (i x : Int) : HH := (up2 h.1 k i x, h.2)
def hJ (h : HH) (k : Nat) (i x : Int) : HH := (h.1, up2 h.2 k i x)
def hC (h : HH) (k : Nat) (g : Int → Int) : HH := (upC h.1 k g, h.2)
/-- the store and a count -/
abbrev HU : Type := HH × Nat
section DICT
variable {β : Type} (lo hi : Nat) (dD : Nat → Int → UInt64)
/-- the store h is only read -/
def segP (h : HH) (kr : Option AV → Option β) (cl : Nat → AS → (AO → Option β) → Option β) (cs : List (Nat × List (Nat × ARow))) (cut : Nat → Option (AL → AS → Unit → Option β)) (N pc : Nat) (l : AL) (st : AS) : Option β :=
  seg (S := Unit) (fun _ k i => h.1 k i) (fun _ k i => h.2 k i) (fun _ k i => dD k i) (fun _ k i => rRK k i) (fun _ _ _ _ => none) (fun _ _ _ _ => none) (fun _ _ _ _ => none) (fun _ _ _ _ => none) (fun _ _ _ => none) (fun _ k t => okS lo hi k t) lnK (fun _ _ => none) (fun _ _ _ => none) (fun _ _ _ => none) noH (fun v _ => kr v) (fun _ _ => none) (fun n as _ f => cl n as (fun o => f o ())) (fnd2 cs) cut N pc l st ()
def segW (kr : Option AV → HH → Option β) (cl : Nat → AS → HH → (AO → HH → Option β) → Option β) (cs : List (Nat × List (Nat × ARow))) (cut : Nat → Option (AL → AS → HH → Option β)) (N pc : Nat) (l : AL) (st : AS) (h : HH) : Option β :=
  seg (S := HH) (fun s k i => s.1 k i) (fun s k i => s.2 k i) (fun _ k i => dD k i) (fun _ k i => rRK k i) (fun s k i x => bif inS lo hi k then some (hI s k i x) else none) (fun s k i x => bif inS lo hi k then some (hJ s k i x) else none) (fun _ _ _ _ => none) (fun _ _ _ _ => none) (fun s k g => bif inS lo hi k then some (hC s k g) else none) (fun _ k t => okS lo hi k t) lnK (fun _ _ => none) (fun _ _ _ => none) (fun _ _ _ => none) noH kr (fun _ _ => none) cl (fnd2 cs) cut N pc l st h
def segT (kr : Option AV → HU → Option β) (kx : Nat → HU → Option β) (cl : Nat → AS → HU → (AO → HU → Option β) → Option β) (cs : List (Nat × List (Nat × ARow))) (cut : Nat → Option (AL → AS → HU → Option β)) (N pc : Nat) (l : AL) (st : AS) (s : HU) : Option β :=
  seg (S := HU) (fun s k i => s.1.1 k i) (fun s k i => s.1.2 k i) (fun _ k i => dD k i) (fun _ k i => rRK k i) (fun s k i x => bif inS lo hi k then some (hI s.1 k i x, s.2) else none) (fun s k i x => bif inS lo hi k then some (hJ s.1 k i x, s.2) else none) (fun _ _ _ _ => none) (fun _ _ _ _ => none) (fun s k g => bif inS lo hi k then some (hC s.1 k g, s.2) else none) (fun _ k t => okS lo hi k t) lnK (fun _ _ => none) (fun _ _ _ => none) (fun _ _ _ => none) noH kr kx cl (fnd2 cs) cut N pc l st s
end DICT
section WKS
variable {β : Type} {lo hi : Nat} {g : SG}
theorem dok_ok (hl : 2 ≤ lo) (hh : hi ≤ 119) (hg : GOK g) (h : HH) : ∀ k t, t ≠ 9 → okS lo hi k t = true → 2 ≤ k ∧ k ≤ (abH lo hi g h).1 ∧ tgK k = t ∧ lnK k = lnK k ∧ (∀ i, h.1 k i = (abH lo hi g h).2.2.1 k i) ∧ (∀ i, h.2 k i = (abH lo hi g h).2.2.2.1 k i) ∧ (∀ i, g.2.2.2.2 k i = (abH lo hi g h).2.2.2.2 k i) ∧ (∀ i, rRK k i = (abH lo hi g h).2.1 k i) := by
  intro k t h9 ho
  obtain ⟨a, b⟩ := okS_in ho
  refine ⟨by omega, ?_, b, rfl, fun i => (mrg_in a).symm, fun i => (mrg_in a).symm, fun i => rfl, fun i => ?_⟩
  · show k ≤ g.1
    have := hg.1
    omega
  · show _ = g.2.1 k i
    rw [hg.2]
theorem abH_hI {h : HH} {k : Nat} {i x : Int} (a : inS lo hi k = true) : abH lo hi g (hI h k i x) = uI (abH lo hi g h) k i x := by
  unfold abH hI uI
  simp only [mrg_up (inS_of a)]
theorem abH_hJ {h : HH} {k : Nat} {i x : Int} (a : inS lo hi k = true) : abH lo hi g (hJ h k i x) = uJ (abH lo hi g h) k i x := by
  unfold abH hJ uJ
  simp only [mrg_up (inS_of a)]
theorem abH_hC {h : HH} {k : Nat} {z : Int → Int} (a : inS lo hi k = true) : abH lo hi g (hC h k z) = uC (abH lo hi g h) k z := by
  unfold abH hC uC
  simp only [mrg_upC (inS_of a)]
theorem bif_some {α : Type} {c : Bool} {x y : α} (h : (bif c then some x else none) = some y) : c = true ∧ x = y := by
  cases c with
  | true => exact ⟨rfl, Option.some.inj h⟩
  | false => cases h
/-- calls of a side's store only read -/
def CLKP (cl : Nat → AS → (AO → Option β) → Option β) (σ : SG) : Prop := ∀ n as (f : AO → Option β) b, cl n as f = some b → ∃ o, f o = some b ∧ mK n ≠ 4 ∧ MCT n [] as σ o σ ∧ mC n = 0 ∧ mS n = 0 ∧ (mK n = 2 ∨ mK n = 3 → o = .inl none)
theorem segP_wk (hl : 2 ≤ lo) (hh : hi ≤ 119) (hg : GOK g) {h : HH} {n : Nat} {cs : List (Nat × List (Nat × ARow))} (hrows : rowsB (mB n) (mO n) (mX n) (mIni n) (mFr n) (mLo n) (mT n) cs = true) {b : β} {o : AO} {σ0 : SG} {kr : Option AV → Option β} {cl : Nat → AS → (AO → Option β) → Option β} (hCL : CLKP cl (abH lo hi g h)) (hkr : ∀ v, kr v = some b → o = .inl v)
    {cut : Nat → Option (AL → AS → Unit → Option β)} (hcut : ∀ pc f, cut pc = some f → ∀ lc st s1, f lc st s1 = some b → WK n o σ0 (abH lo hi g h) pc lc st (abH lo hi g h) 0 0) :
    ∀ {N pc : Nat} {lc : AL} {st : AS}, segP lo hi g.2.2.2.2 h kr cl cs cut N pc lc st = some b → WK n o σ0 (abH lo hi g h) pc lc st (abH lo hi g h) 0 0 := by
  intro N pc lc st hs
  unfold segP at hs
  exact seg_wk (ab := fun _ => abH lo hi g h) (cn := fun _ => (0, 0)) ⟨fun _ => dok_ok hl hh hg h, (fun _ _ _ _ _ q => nos q), (fun _ _ _ _ _ q => nos q), (fun _ _ _ _ _ q => nos q), (fun _ _ _ _ _ q => nos q), (fun _ _ _ _ q => nos q), (fun _ _ _ _ q => nos q), (fun _ _ _ _ _ q => nos q), (fun _ _ _ _ _ q => nos q)⟩ (fun _ k => okS_9 lo hi k) (fun n as s f b q => by
    obtain ⟨o, h1, h2, h3, h4, h5, h6⟩ := hCL n as _ b q
    exact ⟨o, (), h1, h2, h3, by rw [h4, h5], by rw [h4]; exact Nat.zero_le _, by rw [h5]; exact Nat.zero_le _, h6⟩) hrows (fun v s1 q => ⟨hkr v q, rfl, Nat.zero_le _, Nat.zero_le _⟩) (fun x s1 q => nos q) hcut N pc lc st () hs
def CLKW (cl : Nat → AS → HH → (AO → HH → Option β) → Option β) (lo hi : Nat) (g : SG) : Prop := ∀ n as h (f : AO → HH → Option β) b, cl n as h f = some b → ∃ o h', f o h' = some b ∧ mK n ≠ 4 ∧ MCT n [] as (abH lo hi g h) o (abH lo hi g h') ∧ mC n = 0 ∧ mS n = 0 ∧ (mK n = 2 ∨ mK n = 3 → o = .inl none)
theorem segW_wk (hl : 2 ≤ lo) (hh : hi ≤ 119) (hg : GOK g) {n : Nat} {cs : List (Nat × List (Nat × ARow))} (hrows : rowsB (mB n) (mO n) (mX n) (mIni n) (mFr n) (mLo n) (mT n) cs = true) {b : β} {o : AO} {σ0 σ' : SG} {kr : Option AV → HH → Option β} {cl : Nat → AS → HH → (AO → HH → Option β) → Option β} (hCL : CLKW cl lo hi g) (hkr : ∀ v h, kr v h = some b → o = .inl v ∧ σ' = abH lo hi g h)
    {cut : Nat → Option (AL → AS → HH → Option β)} (hcut : ∀ pc f, cut pc = some f → ∀ lc st h, f lc st h = some b → WK n o σ0 σ' pc lc st (abH lo hi g h) 0 0) :
    ∀ {N pc : Nat} {lc : AL} {st : AS} {h : HH}, segW lo hi g.2.2.2.2 kr cl cs cut N pc lc st h = some b → WK n o σ0 σ' pc lc st (abH lo hi g h) 0 0 := by
  intro N pc lc st h hs
  unfold segW at hs
  refine seg_wk (ab := abH lo hi g) (cn := fun _ => (0, 0)) ⟨fun s => dok_ok hl hh hg s, fun s k i x s' q => ?_, fun s k i x s' q => ?_, (fun _ _ _ _ _ q => nos q), (fun _ _ _ _ _ q => nos q), fun s k z s' q => ?_, (fun _ _ _ _ q => nos q), (fun _ _ _ _ _ q => nos q), (fun _ _ _ _ _ q => nos q)⟩ (fun _ k => okS_9 lo hi k) (fun n as s f b q => by
    obtain ⟨o, h', h1, h2, h3, h4, h5, h6⟩ := hCL n as s f b q
    exact ⟨o, h', h1, h2, h3, by rw [h4, h5], by rw [h4]; exact Nat.zero_le _, by rw [h5]; exact Nat.zero_le _, h6⟩) hrows (fun v s1 q => ⟨(hkr v s1 q).1, (hkr v s1 q).2, Nat.zero_le _, Nat.zero_le _⟩) (fun x s1 q => nos q) hcut N pc lc st h hs
  · obtain ⟨a, rfl⟩ := bif_some q
    exact ⟨abH_hI a, rfl⟩
  · obtain ⟨a, rfl⟩ := bif_some q
    exact ⟨abH_hJ a, rfl⟩
  · obtain ⟨a, rfl⟩ := bif_some q
    exact ⟨abH_hC a, rfl⟩
abbrev cnU (s : HU) : Nat × Nat := (s.2, 6 * s.2)
abbrev abU (lo hi : Nat) (g : SG) (s : HU) : SG := abH lo hi g s.1
theorem segT_wk (hl : 2 ≤ lo) (hh : hi ≤ 119) (hg : GOK g) {n : Nat} {cs : List (Nat × List (Nat × ARow))} (hrows : rowsB (mB n) (mO n) (mX n) (mIni n) (mFr n) (mLo n) (mT n) cs = true) {b : β} {o : AO} {σ0 σ' : SG} {kr : Option AV → HU → Option β} {kx : Nat → HU → Option β} {cl : Nat → AS → HU → (AO → HU → Option β) → Option β} (hCL : CLK cl (abU lo hi g) cnU (mC n) (mS n)) (hsl : 6 * mC n ≤ mS n) (hkr : ∀ v s, kr v s = some b → o = .inl v ∧ σ' = abU lo hi g s ∧ s.2 ≤ mC n) (hkx : ∀ x s, kx x s = some b → o = .inr x ∧ σ' = abU lo hi g s ∧ s.2 + 1 ≤ mC n)
    {cut : Nat → Option (AL → AS → HU → Option β)} (hcut : ∀ pc f, cut pc = some f → ∀ lc st s, f lc st s = some b → WK n o σ0 σ' pc lc st (abU lo hi g s) (cnU s).1 (cnU s).2) :
    ∀ {N pc : Nat} {lc : AL} {st : AS} {s : HU}, segT lo hi g.2.2.2.2 kr kx cl cs cut N pc lc st s = some b → WK n o σ0 σ' pc lc st (abU lo hi g s) (cnU s).1 (cnU s).2 := by
  intro N pc lc st s hs
  unfold segT at hs
  refine seg_wk (ab := abU lo hi g) (cn := cnU) ⟨fun s => dok_ok hl hh hg s.1, fun s k i x s' q => ?_, fun s k i x s' q => ?_, (fun _ _ _ _ _ q => nos q), (fun _ _ _ _ _ q => nos q), fun s k z s' q => ?_, (fun _ _ _ _ q => nos q), (fun _ _ _ _ _ q => nos q), (fun _ _ _ _ _ q => nos q)⟩ (fun _ k => okS_9 lo hi k) hCL hrows (fun v s1 q => ?_) (fun x s1 q => ?_) hcut N pc lc st s hs
  · obtain ⟨a, rfl⟩ := bif_some q
    exact ⟨abH_hI a, rfl⟩
  · obtain ⟨a, rfl⟩ := bif_some q
    exact ⟨abH_hJ a, rfl⟩
  · obtain ⟨a, rfl⟩ := bif_some q
    exact ⟨abH_hC a, rfl⟩
  · obtain ⟨a, b, c⟩ := hkr v s1 q
    exact ⟨a, b, c, by show 6 * s1.2 ≤ _; omega⟩
  · obtain ⟨a, b, c⟩ := hkx x s1 q
    exact ⟨a, b, c, by show 6 * s1.2 + 6 ≤ _; omega⟩
end WKS

/-! TAKING VALUES from locals, stacks, arguments; results; lifts of calls from side to side -/
section TK
variable {β : Type}
def tkI (i : Nat) (l : AL) (k : Int → Option β) : Option β := match getL i l with | some (.inl x) => k x | _ => none
def tkJ (i : Nat) (l : AL) (k : Int → Option β) : Option β := match getL i l with | some (.inr (.inl x)) => k x | _ => none
def tkR (i : Nat) (l : AL) (k : Nat → Option β) : Option β := match getL i l with | some (.inr (.inr (.inl x))) => k x | _ => none
def tkC (i c : Nat) (l : AL) (k : Option β) : Option β := tkR i l (fun r => bif Nat.beq r c then k else none)
def skI (st : AS) (k : Int → AS → Option β) : Option β := match st with | .inl x :: t => k x t | _ => none
def skJ (st : AS) (k : Int → AS → Option β) : Option β := match st with | .inr (.inl x) :: t => k x t | _ => none
def skR (st : AS) (k : Nat → AS → Option β) : Option β := match st with | .inr (.inr (.inl x)) :: t => k x t | _ => none
def skC (c : Nat) (st : AS) (k : AS → Option β) : Option β := skR st (fun r t => bif Nat.beq r c then k t else none)
def skE (st : AS) (k : Option β) : Option β := match st with | [] => k | _ => none
theorem tkI_of {i : Nat} {l : AL} {k : Int → Option β} {b : β} (h : tkI i l k = some b) : ∃ x, (i, aI x) ∈ l ∧ k x = some b := by
  unfold tkI at h
  split at h
  · exact ⟨_, getL_mem (by assumption), h⟩
  · cases h
theorem tkJ_of {i : Nat} {l : AL} {k : Int → Option β} {b : β} (h : tkJ i l k = some b) : ∃ x, (i, aJ x) ∈ l ∧ k x = some b := by
  unfold tkJ at h
  split at h
  · exact ⟨_, getL_mem (by assumption), h⟩
  · cases h
theorem tkR_of {i : Nat} {l : AL} {k : Nat → Option β} {b : β} (h : tkR i l k = some b) : ∃ x, (i, aR x) ∈ l ∧ k x = some b := by
  unfold tkR at h
  split at h
  · exact ⟨_, getL_mem (by assumption), h⟩
  · cases h
theorem tkC_of {i c : Nat} {l : AL} {k : Option β} {b : β} (h : tkC i c l k = some b) : (i, aR c) ∈ l ∧ k = some b := by
  obtain ⟨x, m, q⟩ := tkR_of h
  cases hb : Nat.beq x c with
  | true =>
    rw [hb] at q
    rw [← Nat.eq_of_beq_eq_true hb]
    exact ⟨m, q⟩
  | false => rw [hb] at q; cases q
theorem skI_of {st : AS} {k : Int → AS → Option β} {b : β} (h : skI st k = some b) : ∃ x t, st = aI x :: t ∧ k x t = some b := by
  unfold skI at h
  split at h
  · exact ⟨_, _, rfl, h⟩
  · cases h
theorem skJ_of {st : AS} {k : Int → AS → Option β} {b : β} (h : skJ st k = some b) : ∃ x t, st = aJ x :: t ∧ k x t = some b := by
  unfold skJ at h
  split at h
  · exact ⟨_, _, rfl, h⟩
  · cases h
theorem skR_of {st : AS} {k : Nat → AS → Option β} {b : β} (h : skR st k = some b) : ∃ x t, st = aR x :: t ∧ k x t = some b := by
  unfold skR at h
  split at h
  · exact ⟨_, _, rfl, h⟩
  · cases h
theorem skC_of {c : Nat} {st : AS} {k : AS → Option β} {b : β} (h : skC c st k = some b) : ∃ t, st = aR c :: t ∧ k t = some b := by
  obtain ⟨x, t, m, q⟩ := skR_of h
  cases hb : Nat.beq x c with
  | true =>
    rw [hb] at q
    rw [← Nat.eq_of_beq_eq_true hb]
    exact ⟨t, m, q⟩
  | false => rw [hb] at q; cases q
theorem skE_of {st : AS} {k : Option β} {b : β} (h : skE st k = some b) : st = [] ∧ k = some b := by
  unfold skE at h
  split at h
  · exact ⟨rfl, h⟩
  · cases h
end TK
section KR
def krPI : Option AV → Option Int := fun v => match v with | some (.inl x) => some x | _ => none
def krPJ : Option AV → Option Int := fun v => match v with | some (.inr (.inl x)) => some x | _ => none
def krPF : Option AV → Option UInt32 := fun v => match v with | some (.inr (.inr (.inr (.inl x)))) => some x | _ => none
def krPD : Option AV → Option UInt64 := fun v => match v with | some (.inr (.inr (.inr (.inr x)))) => some x | _ => none
def krWI : Option AV → HH → Option (Int × HH) := fun v h => match v with | some (.inl x) => some (x, h) | _ => none
def krWJ : Option AV → HH → Option (Int × HH) := fun v h => match v with | some (.inr (.inl x)) => some (x, h) | _ => none
def krWV : Option AV → HH → Option HH := fun v h => match v with | none => some h | _ => none
def krTI (rc : Nat) : Option AV → HU → Option ((Int ⊕ Nat) × HU) := fun v s => match v with | some (.inl x) => gd (s.2 ≤ rc) (some (.inl x, s)) | _ => none
def krTJ (rc : Nat) : Option AV → HU → Option ((Int ⊕ Nat) × HU) := fun v s => match v with | some (.inr (.inl x)) => gd (s.2 ≤ rc) (some (.inl x, s)) | _ => none
def krTF (rc : Nat) : Option AV → HU → Option ((UInt32 ⊕ Nat) × HU) := fun v s => match v with | some (.inr (.inr (.inr (.inl x)))) => gd (s.2 ≤ rc) (some (.inl x, s)) | _ => none
def krTD (rc : Nat) : Option AV → HU → Option ((UInt64 ⊕ Nat) × HU) := fun v s => match v with | some (.inr (.inr (.inr (.inr x)))) => gd (s.2 ≤ rc) (some (.inl x, s)) | _ => none
def krTV (rc : Nat) : Option AV → HU → Option ((Unit ⊕ Nat) × HU) := fun v s => match v with | none => gd (s.2 ≤ rc) (some (.inl (), s)) | _ => none
def kxT {R : Type} (rc : Nat) : Nat → HU → Option ((R ⊕ Nat) × HU) := fun e s => gd (s.2 + 1 ≤ rc) (some (.inr e, s))
def oT {R : Type} (f : R → Option AV) : R ⊕ Nat → AO
  | .inl r => .inl (f r)
  | .inr e => .inr e
def tcase {R β : Type} (q : R ⊕ Nat) (a : R → Option β) (b : Nat → Option β) : Option β := match q with | .inl r => a r | .inr e => b e
theorem krPI_ok {b : Int} : ∀ v, krPI v = some b → (.inl (some (aI b)) : AO) = .inl v := by
  intro v h
  unfold krPI at h
  split at h
  · cases h; rfl
  · cases h
theorem krPJ_ok {b : Int} : ∀ v, krPJ v = some b → (.inl (some (aJ b)) : AO) = .inl v := by
  intro v h
  unfold krPJ at h
  split at h
  · cases h; rfl
  · cases h
theorem krPF_ok {b : UInt32} : ∀ v, krPF v = some b → (.inl (some (aF b)) : AO) = .inl v := by
  intro v h
  unfold krPF at h
  split at h
  · cases h; rfl
  · cases h
theorem krPD_ok {b : UInt64} : ∀ v, krPD v = some b → (.inl (some (aD b)) : AO) = .inl v := by
  intro v h
  unfold krPD at h
  split at h
  · cases h; rfl
  · cases h
variable {lo hi : Nat} {g : SG}
theorem krWI_ok {b : Int × HH} : ∀ v h, krWI v h = some b → (.inl (some (aI b.1)) : AO) = .inl v ∧ abH lo hi g b.2 = abH lo hi g h := by
  intro v h q
  unfold krWI at q
  split at q
  · cases q; exact ⟨rfl, rfl⟩
  · cases q
theorem krWJ_ok {b : Int × HH} : ∀ v h, krWJ v h = some b → (.inl (some (aJ b.1)) : AO) = .inl v ∧ abH lo hi g b.2 = abH lo hi g h := by
  intro v h q
  unfold krWJ at q
  split at q
  · cases q; exact ⟨rfl, rfl⟩
  · cases q
theorem krWV_ok {b : HH} : ∀ v h, krWV v h = some b → (.inl none : AO) = .inl v ∧ abH lo hi g b = abH lo hi g h := by
  intro v h q
  unfold krWV at q
  split at q
  · cases q; exact ⟨rfl, rfl⟩
  · cases q
theorem krTI_ok {rc n : Nat} (hn : rc ≤ mC n) {b : (Int ⊕ Nat) × HU} : ∀ v s, krTI rc v s = some b → oT (fun r => some (aI r)) b.1 = .inl v ∧ abU lo hi g b.2 = abU lo hi g s ∧ s.2 ≤ mC n := by
  intro v s q
  unfold krTI at q
  split at q
  · obtain ⟨c, q⟩ := gd_some q
    cases q; exact ⟨rfl, rfl, by omega⟩
  · cases q
theorem krTJ_ok {rc n : Nat} (hn : rc ≤ mC n) {b : (Int ⊕ Nat) × HU} : ∀ v s, krTJ rc v s = some b → oT (fun r => some (aJ r)) b.1 = .inl v ∧ abU lo hi g b.2 = abU lo hi g s ∧ s.2 ≤ mC n := by
  intro v s q
  unfold krTJ at q
  split at q
  · obtain ⟨c, q⟩ := gd_some q
    cases q; exact ⟨rfl, rfl, by omega⟩
  · cases q
theorem krTF_ok {rc n : Nat} (hn : rc ≤ mC n) {b : (UInt32 ⊕ Nat) × HU} : ∀ v s, krTF rc v s = some b → oT (fun r => some (aF r)) b.1 = .inl v ∧ abU lo hi g b.2 = abU lo hi g s ∧ s.2 ≤ mC n := by
  intro v s q
  unfold krTF at q
  split at q
  · obtain ⟨c, q⟩ := gd_some q
    cases q; exact ⟨rfl, rfl, by omega⟩
  · cases q
theorem krTD_ok {rc n : Nat} (hn : rc ≤ mC n) {b : (UInt64 ⊕ Nat) × HU} : ∀ v s, krTD rc v s = some b → oT (fun r => some (aD r)) b.1 = .inl v ∧ abU lo hi g b.2 = abU lo hi g s ∧ s.2 ≤ mC n := by
  intro v s q
  unfold krTD at q
  split at q
  · obtain ⟨c, q⟩ := gd_some q
    cases q; exact ⟨rfl, rfl, by omega⟩
  · cases q
theorem krTV_ok {rc n : Nat} (hn : rc ≤ mC n) {b : (Unit ⊕ Nat) × HU} : ∀ v s, krTV rc v s = some b → oT (fun _ => none) b.1 = .inl v ∧ abU lo hi g b.2 = abU lo hi g s ∧ s.2 ≤ mC n := by
  intro v s q
  unfold krTV at q
  split at q
  · obtain ⟨c, q⟩ := gd_some q
    cases q; exact ⟨rfl, rfl, by omega⟩
  · cases q
theorem kxT_ok {R : Type} {f : R → Option AV} {rc n : Nat} (hn : rc ≤ mC n) {b : (R ⊕ Nat) × HU} : ∀ e s, kxT rc e s = some b → oT f b.1 = .inr e ∧ abU lo hi g b.2 = abU lo hi g s ∧ s.2 + 1 ≤ mC n := by
  intro v s q
  unfold kxT at q
  obtain ⟨c, q⟩ := gd_some q
  cases q; exact ⟨rfl, rfl, by omega⟩
end KR
section LIFT
/-- wrappers of methods: only reading; writing; throwing (with the bound of the caller's count) -/
abbrev PP (β : Type) : Type := HH → AS → (AO → Option β) → Option β
abbrev PW (β : Type) : Type := AS → HH → (AO → HH → Option β) → Option β
abbrev PT (β : Type) : Type := AS → HU → (AO → HU → Option β) → Option β
variable {β : Type} {lo hi : Nat} {g : SG}
def liPW (q : PP β) : PW β := fun as h f => q h as (fun o => f o h)
def liWT (q : PW β) : PT β := fun as s f => q as s.1 (fun o h => f o (h, s.2))
def CP1 (m : Nat) (q : PP β) (lo hi : Nat) (g : SG) : Prop := ∀ h as (f : AO → Option β) b, q h as f = some b → ∃ o, f o = some b ∧ mK m ≠ 4 ∧ MCT m [] as (abH lo hi g h) o (abH lo hi g h) ∧ mC m = 0 ∧ mS m = 0 ∧ (mK m = 2 ∨ mK m = 3 → o = .inl none)
def CW1 (m : Nat) (q : PW β) (lo hi : Nat) (g : SG) : Prop := ∀ as h (f : AO → HH → Option β) b, q as h f = some b → ∃ o h', f o h' = some b ∧ mK m ≠ 4 ∧ MCT m [] as (abH lo hi g h) o (abH lo hi g h') ∧ mC m = 0 ∧ mS m = 0 ∧ (mK m = 2 ∨ mK m = 3 → o = .inl none)
theorem liPW_ok {m : Nat} {q : PP β} (hq : CP1 m q lo hi g) : CW1 m (liPW q) lo hi g := fun as h f b e => by
  obtain ⟨o, h1, h2⟩ := hq h as _ b e
  exact ⟨o, h, h1, h2⟩
def CT1 (m : Nat) (q : PT β) (lo hi : Nat) (g : SG) (rc rs : Nat) : Prop := 6 * rc ≤ rs → CLK1 m q (abU lo hi g) cnU rc rs
def clNP : Nat → AS → (AO → Option β) → Option β := fun _ _ _ => none
def clCP (m : Nat) (q : AS → (AO → Option β) → Option β) (r : Nat → AS → (AO → Option β) → Option β) : Nat → AS → (AO → Option β) → Option β := fun n as f => bif Nat.beq n m then q as f else r n as f
theorem CLKP_N {σ : SG} : CLKP (β := β) clNP σ := fun n as f b h => by cases h
theorem CLKP_C {h : HH} {m : Nat} {q : PP β} {r : Nat → AS → (AO → Option β) → Option β} (hq : CP1 m q lo hi g) (hr : CLKP r (abH lo hi g h)) : CLKP (clCP m (q h) r) (abH lo hi g h) := fun n as f b e => by
  unfold clCP at e
  cases hb : Nat.beq n m with
  | true =>
    rw [hb] at e
    have e9 := Nat.eq_of_beq_eq_true hb
    subst e9
    exact hq h as f b e
  | false =>
    rw [hb] at e
    exact hr n as f b e
theorem CLKW_N : CLKW (β := β) clN lo hi g := fun n as h f b e => by cases e
theorem CLKW_C {m : Nat} {q : PW β} {r : Nat → AS → HH → (AO → HH → Option β) → Option β} (hq : CW1 m q lo hi g) (hr : CLKW r lo hi g) : CLKW (clC m q r) lo hi g := fun n as h f b e => by
  unfold clC at e
  cases hb : Nat.beq n m with
  | true =>
    rw [hb] at e
    have e9 := Nat.eq_of_beq_eq_true hb
    subst e9
    exact hq as h f b e
  | false =>
    rw [hb] at e
    exact hr n as h f b e
/-- calls from a throwing method; its count is bounded by the caller's room -/
theorem liWT_ok {m : Nat} {q : PW β} (hq : CW1 m q lo hi g) {rc rs : Nat} : ∀ as (s : HU) (f : AO → HU → Option β) b, gd (s.2 ≤ rc) (liWT q as s f) = some b → 6 * rc ≤ rs → ∃ o s', f o s' = some b ∧ mK m ≠ 4 ∧ MCT m [] as (abU lo hi g s) o (abU lo hi g s') ∧ cnU s' = ((cnU s).1 + mC m, (cnU s).2 + mS m) ∧ (cnU s).1 + mC m ≤ rc ∧ (cnU s).2 + mS m ≤ rs ∧ (mK m = 2 ∨ mK m = 3 → o = .inl none) := fun as s f b e hrs => by
  obtain ⟨hc, e⟩ := gd_some e
  obtain ⟨o, h', h1, h2, h3, h4, h5, h6⟩ := hq as s.1 _ b e
  exact ⟨o, (h', s.2), h1, h2, h3, by rw [h4, h5]; rfl, by rw [h4]; exact hc, by rw [h5]; show 6 * s.2 + 0 ≤ rs; omega, h6⟩
def guT (rc : Nat) (q : PT β) : PT β := fun as s f => gd (s.2 ≤ rc) (q as s f)
theorem liWT_ck {m : Nat} {q : PW β} (hq : CW1 m q lo hi g) {rc rs : Nat} (hrs : 6 * rc ≤ rs) : CLK1 m (guT rc (liWT q)) (abU lo hi g) cnU rc rs := fun as s f b e => liWT_ok hq as s f b e hrs
/-- a throwing callee, from its own contract -/
def liTT {R : Type} (rc uc : Nat) (ou : R → Option AV) (s : HU) (x : Option ((R ⊕ Nat) × HU)) (f : AO → HU → Option β) : Option β := bnd x fun q => gd (s.2 + uc ≤ rc) (tcase q.1 (fun r => f (.inl (ou r)) (q.2.1, s.2 + uc)) (fun e => f (.inr e) (q.2.1, s.2 + uc)))
theorem liTT_ok {R : Type} {m : Nat} {rc uc rs : Nat} {ou : R → Option AV} {s : HU} {x : Option ((R ⊕ Nat) × HU)} {f : AO → HU → Option β} {b : β} (e : liTT rc uc ou s x f = some b) {as : AS} (hk : mK m = 0 ∨ mK m = 1) (hx : ∀ q, x = some q → MCT m [] as (abU lo hi g s) (oT ou q.1) (abU lo hi g q.2)) (hc : mC m = uc) (hs : mS m = 6 * uc) (hrs : 6 * rc ≤ rs) : ∃ o s', f o s' = some b ∧ mK m ≠ 4 ∧ MCT m [] as (abU lo hi g s) o (abU lo hi g s') ∧ cnU s' = ((cnU s).1 + mC m, (cnU s).2 + mS m) ∧ (cnU s).1 + mC m ≤ rc ∧ (cnU s).2 + mS m ≤ rs ∧ (mK m = 2 ∨ mK m = 3 → o = .inl none) := by
  obtain ⟨q, h1, h2⟩ := bnd_of e
  obtain ⟨h3, h4⟩ := gd_some h2
  have hM := hx q h1
  obtain ⟨q1, q2⟩ := q
  have h9 : f (oT ou q1) (q2.1, s.2 + uc) = some b := by
    cases q1 with
    | inl r => exact h4
    | inr e => exact h4
  refine ⟨oT ou q1, (q2.1, s.2 + uc), h9, by omega, hM, ?_, ?_, ?_, fun z => absurd z (by omega)⟩
  · show (s.2 + uc, 6 * (s.2 + uc)) = (s.2 + mC m, 6 * s.2 + mS m)
    rw [hc, hs, Nat.mul_add]
  · show s.2 + mC m ≤ rc
    rw [hc]; exact h3
  · show 6 * s.2 + mS m ≤ rs
    rw [hs]; omega
end LIFT
theorem ct_N {S β : Type} {b : β} {P : Nat → AL → AS → S → Prop} : ∀ pc f, (cuN : Nat → Option (AL → AS → S → Option β)) pc = some f → ∀ lc st s1, f lc st s1 = some b → P pc lc st s1 := fun pc f h => by cases h
theorem ct_C {S β : Type} {m : Nat} {b : β} {P : Nat → AL → AS → S → Prop} {g : AL → AS → S → Option β} {r : Nat → Option (AL → AS → S → Option β)} (hg : ∀ lc st s1, g lc st s1 = some b → P m lc st s1) (hr : ∀ pc f, r pc = some f → ∀ lc st s1, f lc st s1 = some b → P pc lc st s1) : ∀ pc f, cuC m g r pc = some f → ∀ lc st s1, f lc st s1 = some b → P pc lc st s1 := fun pc f h => by
  unfold cuC at h
  cases hb : Nat.beq pc m with
  | true =>
    rw [hb] at h
    have e := Nat.eq_of_beq_eq_true hb
    subst e
    cases h
    exact hg
  | false =>
    rw [hb] at h
    exact hr pc f h
/-- a loop: at most n rounds -/
def iter {α : Type} (z : α) (f : α → α) : Nat → α
  | 0 => z
  | n + 1 => f (iter z f n)
theorem iter_ind {α : Type} {z : α} {f : α → α} {P : α → Prop} (hz : P z) (hs : ∀ a, P a → P (f a)) : ∀ n, P (iter z f n)
  | 0 => hz
  | n + 1 => hs _ (iter_ind hz hs n)
theorem iter_s {α : Type} {z : α} {f : α → α} {n : Nat} : iter z f (n + 1) = f (iter z f n) := rfl

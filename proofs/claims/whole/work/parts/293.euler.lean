/-! A CLOSED WALK over all pairs that connect, if each place has evenly many; tours beside it; pairings -/
section EULER
def la : Int → List Int → Int
  | x, [] => x
  | _, y :: l => la y l
def pcs (d : Int → Int → Int) : Int → List Int → Int
  | _, [] => 0
  | x, y :: l => d x y + pcs d y l
variable {d : Int → Int → Int} {dm : Int → Prop}
theorem la_app : ∀ {l l' : List Int} {x : Int}, la x (l ++ l') = la (la x l) l'
  | [], _, _ => rfl
  | y :: l, l', x => la_app (l := l) (x := y)
theorem pcs_app : ∀ {l l' : List Int} {x : Int}, pcs d x (l ++ l') = pcs d x l + pcs d (la x l) l'
  | [], l', x => by simp [pcs, la]
  | y :: l, l', x => by
    show d x y + pcs d y (l ++ l') = d x y + pcs d y l + pcs d (la y l) l'
    rw [pcs_app]; omega
theorem la_mem : ∀ {l : List Int} {x : Int}, la x l = x ∨ la x l ∈ l
  | [], x => Or.inl rfl
  | y :: l, x => by
    rcases la_mem (l := l) (x := y) with h | h
    · exact Or.inr (by show la y l ∈ y :: l; rw [h]; exact List.mem_cons_self)
    · exact Or.inr (List.mem_cons_of_mem _ h)
/-- there is a walk from x to y over all of S that costs at most c -/
def WW (dm : Int → Prop) (d : Int → Int → Int) (x y : Int) (S : List Int) (c : Int) : Prop := dm x ∧ ∃ l, la x l = y ∧ (∀ z ∈ S, z = x ∨ z ∈ l) ∧ (∀ z ∈ l, dm z) ∧ pcs d x l ≤ c
theorem WW_join {x y z : Int} {S T : List Int} {c c' : Int} (h : WW dm d x y S c) (k : WW dm d y z T c') : WW dm d x z (S ++ T) (c + c') := by
  obtain ⟨hx, l, h1, h2, h3, h4⟩ := h
  obtain ⟨hy, l', k1, k2, k3, k4⟩ := k
  refine ⟨hx, l ++ l', by rw [la_app, h1, k1], fun u hu => ?_, fun u hu => (List.mem_append.mp hu).elim (h3 u) (k3 u), by rw [pcs_app, h1]; omega⟩
  rcases List.mem_append.mp hu with q | q
  · exact (h2 u q).imp id (List.mem_append_left _)
  · rcases k2 u q with q | q
    · rw [q, ← h1]
      exact la_mem.imp id (List.mem_append_left _)
    · exact Or.inr (List.mem_append_right _ q)
theorem pcs_rev (hs : ∀ x y, dm x → dm y → d x y = d y x) : ∀ {l : List Int} {x : Int}, dm x → (∀ z ∈ l, dm z) → ∃ l', la (la x l) l' = x ∧ (∀ z, z = x ∨ z ∈ l → z = la x l ∨ z ∈ l') ∧ (∀ z ∈ l', dm z) ∧ pcs d (la x l) l' = pcs d x l
  | [], x, _, _ => ⟨[], rfl, fun z h => h, fun z h => absurd h List.not_mem_nil, rfl⟩
  | y :: l, x, hx, hl => by
    have hy := hl y List.mem_cons_self
    obtain ⟨l', h1, h2, h3, h4⟩ := pcs_rev hs (l := l) hy (fun z hz => hl z (List.mem_cons_of_mem _ hz))
    refine ⟨l' ++ [x], ?_, fun z hz => ?_, fun z hz => ?_, ?_⟩
    · show la (la y l) (l' ++ [x]) = x
      rw [la_app]; rfl
    · show z = la y l ∨ z ∈ l' ++ [x]
      rcases hz with q | q
      · exact Or.inr (List.mem_append_right _ (by rw [q]; exact List.mem_singleton.mpr rfl))
      · exact (h2 z (List.mem_cons.mp q)).imp id (List.mem_append_left _)
    · rcases List.mem_append.mp hz with q | q
      · exact h3 z q
      · rw [List.mem_singleton.mp q]; exact hx
    · show pcs d (la y l) (l' ++ [x]) = d x y + pcs d y l
      rw [pcs_app, h1, h4]
      show pcs d y l + (d y x + 0) = _
      rw [hs x y hx hy]; omega
theorem WW_dm {x y : Int} {S : List Int} {c : Int} (h : WW dm d x y S c) : dm y := by
  obtain ⟨hx, l, h1, h2, h3, h4⟩ := h
  rcases la_mem (l := l) (x := x) with q | q
  · rw [← h1, q]; exact hx
  · rw [← h1]; exact h3 _ q
theorem WW_rev (hs : ∀ x y, dm x → dm y → d x y = d y x) {x y : Int} {S : List Int} {c : Int} (h : WW dm d x y S c) : WW dm d y x S c := by
  have hy := WW_dm h
  obtain ⟨hx, l, h1, h2, h3, h4⟩ := h
  obtain ⟨l', k1, k2, k3, k4⟩ := pcs_rev hs hx h3
  rw [h1] at k1 k2 k4
  exact ⟨hy, l', k1, fun z hz => k2 z (h2 z hz), k3, by omega⟩
theorem WW_S {x y z : Int} {S : List Int} {c : Int} (h : WW dm d x y S c) (hz : z ∈ S) : dm z := by
  obtain ⟨hx, l, h1, h2, h3, h4⟩ := h
  rcases h2 z hz with q | q
  · rw [q]; exact hx
  · exact h3 z q
theorem WW_rot {x z : Int} {S : List Int} {c : Int} (h : WW dm d x x S c) (hz : z ∈ S) : WW dm d z z S c := by
  have hzd := WW_S h hz
  obtain ⟨hx, l, h1, h2, h3, h4⟩ := h
  rcases h2 z hz with q | q
  · rw [q]; exact ⟨hx, l, h1, h2, h3, h4⟩
  · obtain ⟨l1, l2, e⟩ := List.append_of_mem q
    rw [e, la_app] at h1
    rw [e, pcs_app] at h4
    refine ⟨hzd, l2 ++ (l1 ++ [z]), ?_, fun u hu => ?_, fun u hu => h3 u ?_, ?_⟩
    · rw [la_app, la_app]; rfl
    · have := h2 u hu
      rw [e] at this
      simp only [List.mem_append, List.mem_cons] at this ⊢
      rcases this with r | r | r | r
      · rw [r]
        have e3 : la z l2 = x := h1
        rcases la_mem (l := l2) (x := z) with s | s
        · left; omega
        · rw [e3] at s; exact Or.inr (Or.inl s)
      · exact Or.inr (Or.inr (Or.inl r))
      · exact Or.inl r
      · exact Or.inr (Or.inl r)
    · rw [e]
      simp only [List.mem_append, List.mem_cons, List.not_mem_nil, or_false] at hu ⊢
      rcases hu with r | r | r
      · exact Or.inr (Or.inr r)
      · exact Or.inl r
      · exact Or.inr (Or.inl r)
    · have e3 : la z l2 = x := h1
      have e4 : pcs d (la x l1) (z :: l2) = d (la x l1) z + pcs d z l2 := rfl
      rw [pcs_app, pcs_app, e3]
      show pcs d z l2 + (pcs d x l1 + (d (la x l1) z + 0)) ≤ c
      omega
abbrev ITM : Type := Int × Int × List Int × Int
def okI (dm : Int → Prop) (d : Int → Int → Int) (i : ITM) : Prop := WW dm d i.1 i.2.1 i.2.2.1 i.2.2.2 ∧ i.1 ∈ i.2.2.1 ∧ i.2.1 ∈ i.2.2.1
def conI (dm : Int → Prop) (l : List ITM) : Prop := ∀ T : Int → Int → Prop, EQV T → (∀ i ∈ l, ∀ s ∈ i.2.2.1, T i.1 s) → ∀ x y, dm x → dm y → T x y
def edI (z : Int) (i : ITM) : Int := (if i.1 = z then 1 else 0) + (if i.2.1 = z then 1 else 0)
def parI (z : Int) : List ITM → Int
  | [] => 0
  | i :: l => edI z i + parI z l
def totI : List ITM → Int
  | [] => 0
  | i :: l => i.2.2.2 + totI l
theorem parI_app {z : Int} : ∀ {l l' : List ITM}, parI z (l ++ l') = parI z l + parI z l'
  | [], _ => by simp [parI]
  | i :: l, l' => by rw [List.cons_append, parI, parI, parI_app]; omega
theorem totI_app : ∀ {l l' : List ITM}, totI (l ++ l') = totI l + totI l'
  | [], _ => by simp [totI]
  | i :: l, l' => by rw [List.cons_append, totI, totI, totI_app]; omega
theorem par_odd {z : Int} : ∀ {l : List ITM}, parI z l % 2 = 1 → ∃ i ∈ l, edI z i = 1
  | [], h => absurd h (by show ¬ (0 : Int) % 2 = 1; decide)
  | i :: l, h => by
    by_cases c : edI z i = 1
    · exact ⟨i, List.mem_cons_self, c⟩
    · have : edI z i % 2 = 0 := by
        unfold edI at c ⊢
        split <;> split <;> simp_all
      rw [parI] at h
      obtain ⟨j, hj, e⟩ := par_odd (z := z) (l := l) (by omega)
      exact ⟨j, List.mem_cons_of_mem _ hj, e⟩
theorem mem_split {α : Type} {l1 l2 : List α} {a x : α} (h : x ∈ l1 ++ a :: l2) : x = a ∨ x ∈ l1 ++ l2 := by
  simp only [List.mem_append, List.mem_cons] at h ⊢
  rcases h with h | h | h
  · exact Or.inr (Or.inl h)
  · exact Or.inl h
  · exact Or.inr (Or.inr h)
theorem mem_split' {α : Type} {l1 l2 : List α} {a x : α} (h : x ∈ l1 ++ l2) : x ∈ l1 ++ a :: l2 := by
  simp only [List.mem_append, List.mem_cons] at h ⊢
  rcases h with h | h
  · exact Or.inl h
  · exact Or.inr (Or.inr h)
/-- two walks that meet become one -/
theorem con_join {l1 l2 m1 m2 : List ITM} {A B J : ITM} (hl : l1 ++ l2 = m1 ++ B :: m2) (hA : ∀ T : Int → Int → Prop, EQV T → (∀ s ∈ J.2.2.1, T J.1 s) → ∀ s ∈ A.2.2.1, T A.1 s) (hB : ∀ T : Int → Int → Prop, EQV T → (∀ s ∈ J.2.2.1, T J.1 s) → ∀ s ∈ B.2.2.1, T B.1 s) (h : conI dm (l1 ++ A :: l2)) : conI dm (J :: (m1 ++ m2)) := fun T hT hi x y hx hy => h T hT (fun i hm s hs => by
  have hJ := hi J List.mem_cons_self
  rcases mem_split hm with q | q
  · rw [q] at hs ⊢; exact hA T hT hJ s hs
  · rw [hl] at q
    rcases mem_split q with q | q
    · rw [q] at hs ⊢; exact hB T hT hJ s hs
    · exact hi i (List.mem_cons_of_mem _ q) s hs) x y hx hy
theorem close_all (hs : ∀ x y, dm x → dm y → d x y = d y x) : ∀ (n : Nat) (l : List ITM), l.length ≤ n → l ≠ [] → (∀ i ∈ l, okI dm d i) → conI dm l → (∀ z, parI z l % 2 = 0) → ∃ l', l' ≠ [] ∧ (∀ i ∈ l', okI dm d i ∧ i.1 = i.2.1) ∧ conI dm l' ∧ totI l' = totI l
  | 0, l, hn, hne, _, _, _ => absurd (List.length_eq_zero_iff.mp (Nat.le_zero.mp hn)) hne
  | n + 1, l, hn, hne, ho, hc, hp => by
    by_cases c : ∀ i ∈ l, i.1 = i.2.1
    · exact ⟨l, hne, fun i hi => ⟨ho i hi, c i hi⟩, hc, rfl⟩
    · have c : ∃ A ∈ l, A.1 ≠ A.2.1 := Classical.byContradiction (fun q => c (fun i hi => Classical.byContradiction (fun r => q ⟨i, hi, r⟩)))
      obtain ⟨A, hA, hAo⟩ := c
      obtain ⟨l1, l2, e⟩ := List.append_of_mem hA
      rw [e] at hn ho hc hp
      have hpA := hp A.2.1
      rw [parI_app, parI] at hpA
      have edA : edI A.2.1 A = 1 := by unfold edI; rw [if_neg hAo, if_pos rfl]; rfl
      obtain ⟨B, hB, edB⟩ := par_odd (z := A.2.1) (l := l1 ++ l2) (by rw [parI_app]; omega)
      obtain ⟨m1, m2, e2⟩ := List.append_of_mem hB
      obtain ⟨oA1, oA2, oA3⟩ := ho A (List.mem_append_right _ List.mem_cons_self)
      obtain ⟨oB1, oB2, oB3⟩ := ho B (mem_split' hB)
      have hlen : (m1 ++ m2).length + 2 ≤ n + 1 := by
        have := congrArg List.length e2
        simp only [List.length_append, List.length_cons] at this hn ⊢
        omega
      have htot : totI (l1 ++ A :: l2) = A.2.2.2 + B.2.2.2 + totI (m1 ++ m2) := by
        have := congrArg totI e2
        simp only [totI_app, totI] at this ⊢
        omega
      have hpar : ∀ z, parI z (l1 ++ A :: l2) = edI z A + edI z B + parI z (m1 ++ m2) := fun z => by
        have := congrArg (parI z) e2
        simp only [parI_app, parI] at this ⊢
        omega
      have hok : ∀ i ∈ m1 ++ m2, okI dm d i := fun i hi => ho i (mem_split' (by rw [e2]; exact mem_split' hi))
      rw [e]
      by_cases cB : B.1 = A.2.1
      · have cB2 : B.2.1 ≠ A.2.1 := fun q => by unfold edI at edB; rw [if_pos cB, if_pos q] at edB; exact absurd edB (by decide)
        rw [cB] at oB1
        obtain ⟨l', k1, k2, k3, k4⟩ := close_all hs n ((A.1, B.2.1, A.2.2.1 ++ B.2.2.1, A.2.2.2 + B.2.2.2) :: (m1 ++ m2)) (by rw [List.length_cons]; omega) (by simp) (fun i hi => by
          rcases List.mem_cons.mp hi with q | q
          · rw [q]; exact ⟨WW_join oA1 oB1, List.mem_append_left _ oA2, List.mem_append_right _ oB3⟩
          · exact hok i q) (con_join (A := A) (B := B) e2 (fun T hT hJ s hs => hJ s (List.mem_append_left _ hs)) (fun T hT hJ s hs => hT.2.2 _ _ _ (hT.2.1 _ _ (hJ _ (List.mem_append_right _ oB2))) (hJ s (List.mem_append_right _ hs))) hc) (fun z => by
          have h1 := hp z
          rw [hpar z] at h1
          rw [parI]
          unfold edI at h1 ⊢
          show ((if A.1 = z then 1 else 0) + (if B.2.1 = z then 1 else 0) + parI z (m1 ++ m2)) % 2 = 0
          rw [cB] at h1
          by_cases q : A.2.1 = z
          · rw [if_pos q] at h1; omega
          · rw [if_neg q] at h1; omega)
        exact ⟨l', k1, k2, k3, by rw [k4, htot]; rfl⟩
      · have cB2 : B.2.1 = A.2.1 := Classical.byContradiction (fun q => by unfold edI at edB; rw [if_neg cB, if_neg q] at edB; exact absurd edB (by decide))
        have oB1 := WW_rev hs oB1
        rw [cB2] at oB1
        obtain ⟨l', k1, k2, k3, k4⟩ := close_all hs n ((A.1, B.1, A.2.2.1 ++ B.2.2.1, A.2.2.2 + B.2.2.2) :: (m1 ++ m2)) (by rw [List.length_cons]; omega) (by simp) (fun i hi => by
          rcases List.mem_cons.mp hi with q | q
          · rw [q]; exact ⟨WW_join oA1 oB1, List.mem_append_left _ oA2, List.mem_append_right _ oB2⟩
          · exact hok i q) (con_join (A := A) (B := B) e2 (fun T hT hJ s hs => hJ s (List.mem_append_left _ hs)) (fun T hT hJ s hs => hT.2.2 _ _ _ (hT.2.1 _ _ (hJ _ (List.mem_append_right _ oB2))) (hJ s (List.mem_append_right _ hs))) hc) (fun z => by
          have h1 := hp z
          rw [hpar z] at h1
          rw [parI]
          unfold edI at h1 ⊢
          show ((if A.1 = z then 1 else 0) + (if B.1 = z then 1 else 0) + parI z (m1 ++ m2)) % 2 = 0
          rw [cB2] at h1
          by_cases q : A.2.1 = z
          · rw [if_pos q] at h1; omega
          · rw [if_neg q] at h1; omega)
        exact ⟨l', k1, k2, k3, by rw [k4, htot]; rfl⟩
theorem join_all : ∀ (n : Nat) (l : List ITM), l.length ≤ n → l ≠ [] → (∀ i ∈ l, okI dm d i ∧ i.1 = i.2.1) → conI dm l → ∃ i, (okI dm d i ∧ i.1 = i.2.1) ∧ conI dm [i] ∧ i.2.2.2 = totI l
  | 0, l, hn, hne, _, _ => absurd (List.length_eq_zero_iff.mp (Nat.le_zero.mp hn)) hne
  | n + 1, [], hn, hne, _, _ => absurd rfl hne
  | n + 1, [A], hn, hne, ho, hc => ⟨A, ho A List.mem_cons_self, hc, by simp [totI]⟩
  | n + 1, A :: C :: r, hn, hne, ho, hc => by
    obtain ⟨⟨oA1, oA2, oA3⟩, cA⟩ := ho A List.mem_cons_self
    have hx : ∃ B ∈ C :: r, ∃ z ∈ A.2.2.1, z ∈ B.2.2.1 := Classical.byContradiction (fun q => by
      have oC := ho C (List.mem_cons_of_mem _ List.mem_cons_self)
      have := hc (fun x y => (x ∈ A.2.2.1 ↔ y ∈ A.2.2.1)) ⟨fun _ => Iff.rfl, fun _ _ h => h.symm, fun _ _ _ h k => h.trans k⟩ (fun i hi s hs => by
        rcases List.mem_cons.mp hi with e | hi
        · rw [e] at hs ⊢; exact ⟨fun _ => hs, fun _ => oA2⟩
        · exact ⟨fun h => absurd ⟨i, hi, i.1, h, (ho i (List.mem_cons_of_mem _ hi)).1.2.1⟩ q, fun h => absurd ⟨i, hi, s, h, hs⟩ q⟩) A.1 C.1 oA1.1 oC.1.1.1
      exact q ⟨C, List.mem_cons_self, C.1, this.mp oA2, oC.1.2.1⟩)
    obtain ⟨B, hB, z, hz1, hz2⟩ := hx
    obtain ⟨m1, m2, e2⟩ := List.append_of_mem hB
    obtain ⟨⟨oB1, oB2, oB3⟩, cB⟩ := ho B (List.mem_cons_of_mem _ hB)
    rw [← cA] at oA1
    rw [← cB] at oB1
    obtain ⟨i, k1, k2, k3⟩ := join_all n ((z, z, A.2.2.1 ++ B.2.2.1, A.2.2.2 + B.2.2.2) :: (m1 ++ m2)) (by
        have := congrArg List.length e2
        simp only [List.length_append, List.length_cons] at this hn ⊢
        omega) (by simp) (fun i hi => by
        rcases List.mem_cons.mp hi with q | q
        · rw [q]
          exact ⟨⟨WW_join (WW_rot oA1 hz1) (WW_rot oB1 hz2), List.mem_append_left _ hz1, List.mem_append_left _ hz1⟩, rfl⟩
        · exact ho i (List.mem_cons_of_mem _ (by rw [e2]; exact mem_split' q))) (con_join (l1 := []) (l2 := C :: r) e2 (fun T hT hJ s hs => hT.2.2 _ _ _ (hT.2.1 _ _ (hJ _ (List.mem_append_left _ oA2))) (hJ s (List.mem_append_left _ hs))) (fun T hT hJ s hs => hT.2.2 _ _ _ (hT.2.1 _ _ (hJ _ (List.mem_append_right _ oB2))) (hJ s (List.mem_append_right _ hs))) hc)
    refine ⟨i, k1, k2, ?_⟩
    rw [k3, totI, totI, e2, totI_app, totI_app, totI]
    show A.2.2.2 + B.2.2.2 + (totI m1 + totI m2) = _
    omega
/-- how many pairs a place has -/
def dgP (z : Int) : List (Int × Int) → Int
  | [] => 0
  | e :: l => ((if e.1 = z then 1 else 0) + (if e.2 = z then 1 else 0)) + dgP z l
def itE (d : Int → Int → Int) (e : Int × Int) : ITM := (e.1, e.2, [e.1, e.2], d e.1 e.2)
theorem parI_E {z : Int} : ∀ {E : List (Int × Int)}, parI z (E.map (itE d)) = dgP z E
  | [] => rfl
  | e :: E => by rw [List.map_cons, parI, dgP, parI_E]; rfl
theorem totI_E : ∀ {E : List (Int × Int)}, totI (E.map (itE d)) = wsum d E
  | [] => rfl
  | e :: E => by rw [List.map_cons, totI, wsum, totI_E]; rfl
theorem euler (hs : ∀ x y, dm x → dm y → d x y = d y x) {E : List (Int × Int)} {a : Int} (ha : dm a) (hE : ∀ e ∈ E, dm e.1 ∧ dm e.2) (hp : ∀ z, dgP z E % 2 = 0) (hc : ∀ x y, dm x → dm y → cn Eq E x y) : ∃ l, la a l = a ∧ (∀ z, dm z → z = a ∨ z ∈ l) ∧ (∀ z ∈ l, dm z) ∧ pcs d a l ≤ wsum d E := by
  have ha0 : okI dm d (a, a, [a], 0) := ⟨⟨ha, [], rfl, fun z hz => Or.inl (List.mem_singleton.mp hz), fun z hz => absurd hz List.not_mem_nil, Int.le_refl 0⟩, List.mem_singleton.mpr rfl, List.mem_singleton.mpr rfl⟩
  obtain ⟨l', k1, k2, k3, k4⟩ := close_all hs _ ((a, a, [a], 0) :: E.map (itE d)) (Nat.le_refl _) (by simp) (fun i hi => by
    rcases List.mem_cons.mp hi with q | q
    · rw [q]; exact ha0
    · obtain ⟨e, he, q⟩ := List.mem_map.mp q
      rw [← q]
      exact ⟨⟨(hE e he).1, [e.2], rfl, fun z hz => by
        rcases List.mem_cons.mp hz with r | r
        · exact Or.inl r
        · exact Or.inr r, fun z hz => by rw [List.mem_singleton.mp hz]; exact (hE e he).2, by show d e.1 e.2 + 0 ≤ d e.1 e.2; omega⟩, List.mem_cons_self, List.mem_cons_of_mem _ List.mem_cons_self⟩) (fun T hT hi x y hx hy => by
    refine cn_le hT (fun x y q => ?_) (fun e he => ?_) (hc x y hx hy)
    · rw [q]; exact hT.1 y
    · exact hi (itE d e) (List.mem_cons_of_mem _ (List.mem_map.mpr ⟨e, he, rfl⟩)) e.2 (List.mem_cons_of_mem _ List.mem_cons_self)) (fun z => by
    rw [parI, parI_E]
    have := hp z
    unfold edI
    show ((if a = z then (1 : Int) else 0) + (if a = z then 1 else 0) + dgP z E) % 2 = 0
    by_cases q : a = z
    · rw [if_pos q]; omega
    · rw [if_neg q]; omega)
  obtain ⟨i, ⟨⟨o1, o2, o3⟩, c⟩, q2, q3⟩ := join_all _ l' (Nat.le_refl _) k1 k2 k3
  have hall : ∀ z, dm z → z ∈ i.2.2.1 := fun z hz => by
    have := q2 (fun x y => (x ∈ i.2.2.1 ↔ y ∈ i.2.2.1)) ⟨fun _ => Iff.rfl, fun _ _ h => h.symm, fun _ _ _ h k => h.trans k⟩ (fun j hj s hs => by
      rw [List.mem_singleton.mp hj] at hs ⊢
      exact ⟨fun _ => hs, fun _ => o2⟩) i.1 z o1.1 hz
    exact this.mp o2
  rw [← c] at o1
  obtain ⟨-, l, h1, h2, h3, h4⟩ := WW_rot o1 (hall a ha)
  refine ⟨l, h1, fun z hz => h2 z (hall z hz), h3, ?_⟩
  rw [q3, k4, totI, totI_E] at h4
  show pcs d a l ≤ wsum d E
  have : (0 : Int) + wsum d E = wsum d E := by omega
  have h4 : pcs d a l ≤ (0 : Int) + wsum d E := h4
  omega
end EULER
section TOURS
variable {d : Int → Int → Int} {dm : Int → Prop}
/-- to leave some out is never longer -/
theorem pcs_sub (ht : ∀ x y z, dm x → dm y → dm z → d x z ≤ d x y + d y z) {l' l : List Int} (h : List.Sublist l' l) : ∀ {x e : Int}, dm x → dm e → (∀ z ∈ l, dm z) → pcs d x (l' ++ [e]) ≤ pcs d x (l ++ [e]) := by
  induction h with
  | slnil => intro x e _ _ _; exact Int.le_refl _
  | @cons l1 l2 y hs ih =>
    intro x e hx he hl
    have hy := hl y List.mem_cons_self
    have hl2 : ∀ z ∈ l2, dm z := fun z hz => hl z (List.mem_cons_of_mem _ hz)
    have q := ih hx he hl2
    show _ ≤ d x y + pcs d y (l2 ++ [e])
    cases l2 with
    | nil =>
      have := ht x y e hx hy he
      have e1 : pcs d x ([] ++ [e]) = d x e + 0 := rfl
      have e2 : pcs d y ([] ++ [e]) = d y e + 0 := rfl
      omega
    | cons z l3 =>
      have := ht x y z hx hy (hl2 z List.mem_cons_self)
      have e1 : pcs d x (z :: l3 ++ [e]) = d x z + pcs d z (l3 ++ [e]) := rfl
      have e2 : pcs d y (z :: l3 ++ [e]) = d y z + pcs d z (l3 ++ [e]) := rfl
      omega
  | @cons_cons l1 l2 y hs ih =>
    intro x e hx he hl
    have hy := hl y List.mem_cons_self
    have q := ih hy he (fun z hz => hl z (List.mem_cons_of_mem _ hz))
    show d x y + pcs d y (l1 ++ [e]) ≤ d x y + pcs d y (l2 ++ [e])
    omega
/-- each once -/
theorem dedup (p : Int → Bool) : ∀ l : List Int, ∃ l', List.Sublist l' l ∧ l'.Nodup ∧ ∀ z, z ∈ l' ↔ z ∈ l ∧ p z = true
  | [] => ⟨[], List.Sublist.slnil, List.nodup_nil, fun z => ⟨fun h => absurd h List.not_mem_nil, fun h => h.1⟩⟩
  | x :: l => by
    obtain ⟨l', h1, h2, h3⟩ := dedup p l
    by_cases c : p x = true ∧ x ∉ l'
    · refine ⟨x :: l', h1.cons_cons x, List.nodup_cons.mpr ⟨c.2, h2⟩, fun z => ?_⟩
      rw [List.mem_cons, List.mem_cons, h3]
      exact ⟨fun h => h.elim (fun e => ⟨Or.inl e, by rw [e]; exact c.1⟩) (fun k => ⟨Or.inr k.1, k.2⟩), fun ⟨h, k⟩ => h.imp id (fun m => ⟨m, k⟩)⟩
    · refine ⟨l', h1.cons x, h2, fun z => ?_⟩
      rw [List.mem_cons]
      refine ⟨fun h => ⟨Or.inr ((h3 z).mp h).1, ((h3 z).mp h).2⟩, fun ⟨h, k⟩ => h.elim (fun e => ?_) (fun m => (h3 z).mpr ⟨m, k⟩)⟩
      rw [e] at k ⊢
      exact Classical.byContradiction (fun q => c ⟨k, q⟩)
def flatP : List (Int × Int) → List Int
  | [] => []
  | e :: l => e.1 :: e.2 :: flatP l
/-- the least sum of a pairing -/
def isLP (w : Int → Int → Int) (o : List Int) (x : Int) : Prop := (∃ M, (flatP M).Perm o ∧ wsum w M = x) ∧ ∀ M, (flatP M).Perm o → x ≤ wsum w M
def prL : List Int → List (Int × Int)
  | x :: y :: l => (x, y) :: prL l
  | _ => []
theorem prL_flat : ∀ (l : List Int), l.length % 2 = 0 → flatP (prL l) = l
  | [], _ => rfl
  | [x], h => absurd h (by show ¬ 1 % 2 = 0; decide)
  | x :: y :: l, h => by
    rw [prL, flatP, prL_flat l (by simp only [List.length_cons] at h; omega)]
theorem prL_sum : ∀ (r : List Int) (x e : Int), r.length % 2 = 1 → wsum d (prL (x :: r)) + wsum d (prL (r ++ [e])) = pcs d x (r ++ [e])
  | [], x, e, h => absurd h (by show ¬ 0 % 2 = 1; decide)
  | [y], x, e, _ => by simp [prL, wsum, pcs]
  | y :: z :: r, x, e, h => by
    have ih := prL_sum r z e (by simp only [List.length_cons] at h; omega)
    show wsum d ((x, y) :: prL (z :: r)) + wsum d ((y, z) :: prL (r ++ [e])) = d x y + (d y z + pcs d z (r ++ [e]))
    show d x y + wsum d (prL (z :: r)) + (d y z + wsum d (prL (r ++ [e]))) = _
    omega
/-- a closed walk drives each pairing of what it comes to twice at least -/
theorem lp_tour (hs : ∀ x y, dm x → dm y → d x y = d y x) (ht : ∀ x y z, dm x → dm y → dm z → d x z ≤ d x y + d y z) (h0 : ∀ x y, dm x → dm y → 0 ≤ d x y) {o l : List Int} {a x : Int} (hlp : isLP d o x) (ho : o.Nodup) (he : o.length % 2 = 0) (ha : dm a) (hl : ∀ z ∈ l, dm z) (hol : ∀ z ∈ o, z ∈ a :: l) : 2 * x ≤ pcs d a (l ++ [a]) := by
  obtain ⟨l', h1, h2, h3⟩ := dedup (fun z => decide (z ∈ o)) (a :: l)
  have pm : l'.Perm o := (List.perm_ext_iff_of_nodup h2 ho).mpr (fun z => by
    rw [h3, decide_eq_true_eq]
    exact ⟨fun h => h.2, fun h => ⟨hol z h, h⟩⟩)
  have hlen : l'.length % 2 = 0 := by rw [pm.length_eq]; exact he
  have hnn : ∀ (l : List Int) (x : Int), dm x → (∀ z ∈ l, dm z) → 0 ≤ pcs d x l := by
    intro l
    induction l with
    | nil => intro x _ _; exact Int.le_refl 0
    | cons y l ih =>
      intro x hx hl
      have hy := hl y List.mem_cons_self
      have := ih y hy (fun z hz => hl z (List.mem_cons_of_mem _ hz))
      have := h0 x y hx hy
      show 0 ≤ d x y + pcs d y l
      omega
  have hal : ∀ z ∈ a :: l, dm z := fun z hz => by
    rcases List.mem_cons.mp hz with q | q
    · rw [q]; exact ha
    · exact hl z q
  have hd0 : d a a ≤ 0 ∨ 0 ≤ d a a := by omega
  cases e : l' with
  | nil =>
    rw [e] at pm
    have : (flatP []).Perm o := pm
    have q := hlp.2 [] this
    have q2 := hnn (l ++ [a]) a ha (fun z hz => (List.mem_append.mp hz).elim (hl z) (fun k => by rw [List.mem_singleton.mp k]; exact ha))
    have e0 : wsum d [] = 0 := rfl
    omega
  | cons y r =>
    rw [e] at pm hlen h1
    have hl' : ∀ z ∈ y :: r, dm z := fun z hz => hal z (h1.mem hz)
    have hy := hl' y List.mem_cons_self
    have hr : ∀ z ∈ r, dm z := fun z hz => hl' z (List.mem_cons_of_mem _ hz)
    have ol : r.length % 2 = 1 := by rw [List.length_cons] at hlen; omega
    have s1 := prL_sum (d := d) r y y ol
    have q1 := hlp.2 (prL (y :: r)) (by rw [prL_flat _ hlen]; exact pm)
    have q2 := hlp.2 (prL (r ++ [y])) (by
      rw [prL_flat _ (by rw [List.length_append, List.length_singleton]; omega)]
      exact (List.perm_append_singleton y r).trans pm)
    have hz := hal
    rcases List.sublist_cons_iff.mp h1 with c | ⟨r', c1, c2⟩
    · have t1 := pcs_sub ht c ha ha hl
      have e1 : pcs d a (y :: r ++ [a]) = d a y + (pcs d y r + d (la y r) a) := by
        rw [List.cons_append]
        show d a y + pcs d y (r ++ [a]) = _
        rw [pcs_app]
        show _ + (_ + (_ + 0)) = _
        omega
      have e2 : pcs d y (r ++ [y]) = pcs d y r + d (la y r) y := by
        rw [pcs_app]
        show _ + (_ + 0) = _
        omega
      have hla : dm (la y r) := by
        rcases la_mem (l := r) (x := y) with q | q
        · rw [q]; exact hy
        · exact hr _ q
      have := ht (la y r) a y hla ha hy
      omega
    · obtain ⟨rfl, rfl⟩ := List.cons.inj c1
      have t1 := pcs_sub ht c2 ha ha hl
      omega
end TOURS

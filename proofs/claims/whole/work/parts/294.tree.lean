/-! TREES AND TOURS: a tree of least pairs is below each walk over all; tree and pairing are above a tour -/
section TREE
theorem cnt_one {z : Int} : ∀ {l : List Int}, l.Nodup → z ∈ l → l.count z = 1
  | [], _, h => absurd h List.not_mem_nil
  | x :: l, hd, h => by
    obtain ⟨h1, h2⟩ := List.nodup_cons.mp hd
    rw [List.count_cons]
    by_cases c : x = z
    · rw [← c, List.count_eq_zero_of_not_mem h1]; simp
    · have hz := (List.mem_cons.mp h).resolve_left (fun e => c e.symm)
      rw [cnt_one h2 hz]; simp [c]
variable {d w : Int → Int → Int} {dm : Int → Prop}
def pth : Int → List Int → List (Int × Int)
  | _, [] => []
  | x, y :: l => (x, y) :: pth y l
theorem pth_sum (hw : ∀ x y, dm x → dm y → w x y ≤ d x y) : ∀ {l : List Int} {x : Int}, dm x → (∀ z ∈ l, dm z) → wsum w (pth x l) ≤ pcs d x l
  | [], _, _, _ => Int.le_refl 0
  | y :: l, x, hx, hl => by
    have hy := hl y List.mem_cons_self
    have := pth_sum hw (l := l) hy (fun z hz => hl z (List.mem_cons_of_mem _ hz))
    have := hw x y hx hy
    show w x y + wsum w (pth y l) ≤ d x y + pcs d y l
    omega
theorem pth_in : ∀ {l : List Int} {x : Int}, dm x → (∀ z ∈ l, dm z) → ∀ e ∈ pth x l, dm e.1 ∧ dm e.2
  | [], _, _, _, e, he => absurd he List.not_mem_nil
  | y :: l, x, hx, hl, e, he => by
    have hy := hl y List.mem_cons_self
    rcases List.mem_cons.mp he with q | q
    · rw [q]; exact ⟨hx, hy⟩
    · exact pth_in hy (fun z hz => hl z (List.mem_cons_of_mem _ hz)) e q
theorem pth_cn {R : Int → Int → Prop} : ∀ {l : List Int} {x z : Int}, z = x ∨ z ∈ l → cn R (pth x l) x z
  | [], x, z, h => by
    rcases h with h | h
    · rw [h]; exact cn_rfl
    · exact absurd h List.not_mem_nil
  | y :: l, x, z, h => by
    rcases h with h | h
    · rw [h]; exact cn_rfl
    · exact cn_trans (cn_e (e := (x, y)) List.mem_cons_self) (cn_sub (fun e he => List.mem_cons_of_mem _ he) (pth_cn (List.mem_cons.mp h)))
/-- a tree is below each walk over all doors -/
theorem tree_walk (h0 : ∀ x y, dm x → dm y → 0 ≤ w x y) (hs : ∀ x y, w x y = w y x) (hw : ∀ x y, dm x → dm y → w x y ≤ d x y) {T : List (Int × Int)} (hT : grd dm w Eq T) {a : Int} {l : List Int} (ha : dm a) (hl : ∀ z ∈ l, dm z) (hc : ∀ z, dm z → z = a ∨ z ∈ l) : wsum w T ≤ pcs d a l :=
  Int.le_trans (grd_le h0 hs ⟨fun _ => rfl, fun _ _ h => h.symm, fun _ _ _ h k => h.trans k⟩ hT (pth_in ha hl) (fun x y hx hy => cn_trans (cn_sym (pth_cn (hc x hx))) (pth_cn (hc y hy)))) (pth_sum hw ha hl)
theorem grd_in : ∀ {T : List (Int × Int)} {R : Int → Int → Prop}, grd dm w R T → ∀ e ∈ T, dm e.1 ∧ dm e.2
  | [], _, _, e, he => absurd he List.not_mem_nil
  | f :: T, R, h, e, he => by
    obtain ⟨⟨P, -, -, -, h1, -⟩, h2⟩ := h
    rcases List.mem_cons.mp he with q | q
    · rw [q]; exact h1
    · exact grd_in h2 e q
/-- two trees of least pairs weigh the same -/
theorem tree_eq (h0 : ∀ x y, dm x → dm y → 0 ≤ w x y) (hs : ∀ x y, w x y = w y x) {T T' : List (Int × Int)} (hT : grd dm w Eq T) (hT' : grd dm w Eq T') (hc : ∀ x y, dm x → dm y → cn Eq T x y) (hc' : ∀ x y, dm x → dm y → cn Eq T' x y) : wsum w T = wsum w T' := by
  have e : EQV (Eq : Int → Int → Prop) := ⟨fun _ => rfl, fun _ _ h => h.symm, fun _ _ _ h k => h.trans k⟩
  have := grd_le h0 hs e hT (grd_in hT') hc'
  have := grd_le h0 hs e hT' (grd_in hT) hc
  omega
theorem dgP_app {z : Int} : ∀ {l l' : List (Int × Int)}, dgP z (l ++ l') = dgP z l + dgP z l'
  | [], _ => by simp [dgP]
  | e :: l, l' => by rw [List.cons_append, dgP, dgP, dgP_app]; omega
theorem dgP_cnt {z : Int} : ∀ {l : List (Int × Int)}, dgP z l = ((flatP l).count z : Int)
  | [] => rfl
  | e :: l => by
    rw [dgP, flatP, List.count_cons, List.count_cons, dgP_cnt]
    by_cases c1 : e.1 = z <;> by_cases c2 : e.2 = z <;> simp [c1, c2] <;> omega
theorem flatP_in : ∀ {l : List (Int × Int)} {e : Int × Int}, e ∈ l → e.1 ∈ flatP l ∧ e.2 ∈ flatP l
  | f :: l, e, h => by
    rw [flatP]
    rcases List.mem_cons.mp h with q | q
    · rw [q]; exact ⟨List.mem_cons_self, List.mem_cons_of_mem _ List.mem_cons_self⟩
    · obtain ⟨h1, h2⟩ := flatP_in q
      exact ⟨List.mem_cons_of_mem _ (List.mem_cons_of_mem _ h1), List.mem_cons_of_mem _ (List.mem_cons_of_mem _ h2)⟩
/-- the sum of all doors' pairs is even -/
def sdg (l : List (Int × Int)) : List Int → Int
  | [] => 0
  | z :: o => dgP z l + sdg l o
theorem sdg_even {l : List (Int × Int)} : ∀ {o : List Int}, o.Nodup → (∀ e ∈ l, e.1 ∈ o ∧ e.2 ∈ o) → sdg l o % 2 = 0 := by
  have hz : ∀ o : List Int, sdg [] o = 0 := fun o => by
    induction o with
    | nil => rfl
    | cons z o ih => rw [sdg, ih]; rfl
  have hc : ∀ (e : Int × Int) (l : List (Int × Int)) (o : List Int), sdg (e :: l) o = (o.count e.1 : Int) + (o.count e.2 : Int) + sdg l o := fun e l o => by
    induction o with
    | nil => rfl
    | cons z o ih =>
      rw [sdg, sdg, ih, dgP, List.count_cons, List.count_cons]
      by_cases c1 : e.1 = z <;> by_cases c2 : e.2 = z
      · simp [c1, c2]; omega
      · have : ¬ z = e.2 := fun h => c2 h.symm
        simp [c1, c2, this]; omega
      · have : ¬ z = e.1 := fun h => c1 h.symm
        simp [c1, c2, this]; omega
      · have : ¬ z = e.1 := fun h => c1 h.symm
        have : ¬ z = e.2 := fun h => c2 h.symm
        simp [*]
        omega
  intro o hd hl
  induction l with
  | nil => rw [hz]; rfl
  | cons e l ih =>
    rw [hc]
    have h1 := hl e List.mem_cons_self
    have h2 := ih (fun e' he => hl e' (List.mem_cons_of_mem _ he))
    rw [cnt_one hd h1.1, cnt_one hd h1.2]
    omega
/-- the odd doors are evenly many -/
theorem odd_even {l : List (Int × Int)} : ∀ {o : List Int}, sdg l o % 2 = 0 → (o.filter (fun z => dgP z l % 2 == 1)).length % 2 = 0 := by
  have : ∀ o : List Int, (((o.filter (fun z => dgP z l % 2 == 1)).length : Int) - sdg l o) % 2 = 0 := fun o => by
    induction o with
    | nil => rfl
    | cons z o ih =>
      rw [List.filter_cons, sdg]
      by_cases c : dgP z l % 2 = 1
      · simp only [c, beq_self_eq_true, if_true, List.length_cons]; omega
      · have : (dgP z l % 2 == 1) = false := by simp [c]
        rw [this]
        simp only [Bool.false_eq_true, if_false]
        omega
  intro o h
  have := this o
  omega
/-- tree and pairing are above a tour -/
theorem christ (hs : ∀ x y, dm x → dm y → d x y = d y x) {T : List (Int × Int)} (hT : ∀ e ∈ T, dm e.1 ∧ dm e.2) (hc : ∀ x y, dm x → dm y → cn Eq T x y) {o : List Int} (hn : o.Nodup) (ho : ∀ z, z ∈ o ↔ dm z ∧ dgP z T % 2 = 1) {x : Int} (hx : isLP d o x) {a : Int} (ha : dm a) : ∃ l, la a l = a ∧ (∀ z, dm z → z = a ∨ z ∈ l) ∧ (∀ z ∈ l, dm z) ∧ pcs d a l ≤ wsum d T + x := by
  obtain ⟨⟨M, m1, m2⟩, -⟩ := hx
  have hdg : ∀ z, ¬ dm z → dgP z T = 0 := fun z hz => by
    rw [dgP_cnt, List.count_eq_zero_of_not_mem]
    · rfl
    · intro q
      have : ∀ {l : List (Int × Int)}, (∀ e ∈ l, dm e.1 ∧ dm e.2) → ∀ z ∈ flatP l, dm z := by
        intro l
        induction l with
        | nil => intro _ z h; exact absurd h List.not_mem_nil
        | cons e l ih =>
          intro hl z h
          rw [flatP] at h
          rcases List.mem_cons.mp h with h | h
          · rw [h]; exact (hl e List.mem_cons_self).1
          · rcases List.mem_cons.mp h with h | h
            · rw [h]; exact (hl e List.mem_cons_self).2
            · exact ih (fun e' he => hl e' (List.mem_cons_of_mem _ he)) z h
      exact hz (this hT z q)
  obtain ⟨l, h1, h2, h3, h4⟩ := euler hs (E := T ++ M) ha (fun e he => (List.mem_append.mp he).elim (hT e) (fun q => by
    obtain ⟨q1, q2⟩ := flatP_in q
    exact ⟨((ho _).mp (m1.mem_iff.mp q1)).1, ((ho _).mp (m1.mem_iff.mp q2)).1⟩)) (fun z => by
    rw [dgP_app, dgP_cnt (l := M), m1.count_eq]
    by_cases c : z ∈ o
    · rw [cnt_one hn c]
      have := ((ho z).mp c).2
      omega
    · rw [List.count_eq_zero_of_not_mem c]
      by_cases cz : dm z
      · have : ¬ dgP z T % 2 = 1 := fun q => c ((ho z).mpr ⟨cz, q⟩)
        omega
      · rw [hdg z cz]; rfl) (fun x y hx hy => cn_sub (fun e he => List.mem_append_left _ he) (hc x y hx hy))
  exact ⟨l, h1, h2, h3, by rw [wsum_app, m2] at h4; exact h4⟩
/-- each once: a closed walk over all gives a tour -/
theorem ham (ht : ∀ x y z, dm x → dm y → dm z → d x z ≤ d x y + d y z) (h00 : ∀ x, dm x → d x x = 0) {a : Int} {l : List Int} (ha : dm a) (hla : la a l = a) (hl : ∀ z ∈ l, dm z) (hc : ∀ z, dm z → z = a ∨ z ∈ l) : ∃ l', l'.Nodup ∧ (∀ z, z ∈ l' ↔ dm z ∧ z ≠ a) ∧ pcs d a (l' ++ [a]) ≤ pcs d a l := by
  cases e : l with
  | nil =>
    obtain ⟨l', h1, h2, h3⟩ := dedup (fun z => decide (z ≠ a)) l
    refine ⟨[], List.nodup_nil, fun z => ⟨fun h => absurd h List.not_mem_nil, fun h => ?_⟩, ?_⟩
    · have := hc z h.1
      rw [e] at this
      rcases this with q | q
      · exact absurd q h.2
      · exact absurd q List.not_mem_nil
    · show d a a + 0 ≤ 0
      have := h00 a ha
      omega
  | cons y r =>
    have hne : l ≠ [] := by rw [e]; simp
    have e2 : l = l.dropLast ++ [a] := by
      have h1 := (List.dropLast_concat_getLast hne)
      have h2 : la a (l.dropLast ++ [l.getLast hne]) = l.getLast hne := by rw [la_app]; rfl
      rw [h1, hla] at h2
      conv => lhs; rw [← h1]
      rw [← h2]
    have hl' : ∀ z ∈ l.dropLast, dm z := fun z hz => hl z (List.dropLast_subset _ hz)
    obtain ⟨l', h1, h2, h3⟩ := dedup (fun z => decide (z ≠ a)) l.dropLast
    refine ⟨l', h2, fun z => ?_, ?_⟩
    · rw [h3, decide_eq_true_eq]
      refine ⟨fun h => ⟨hl' z h.1, h.2⟩, fun h => ⟨?_, h.2⟩⟩
      have := (hc z h.1).resolve_left h.2
      rw [e2] at this
      rcases List.mem_append.mp this with q | q
      · exact q
      · exact absurd (List.mem_singleton.mp q) h.2
    · rw [← e]
      conv => rhs; rw [e2]
      exact pcs_sub ht h1 ha ha hl'
end TREE

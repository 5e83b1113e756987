/-! A ROW LAID as a round of the model; rounds undone -/
def vwR (R : Int → List Int) (p : Int) : Int := if p ∈ R 0 then 0 else if p ∈ R 1 then 1 else if p ∈ R 2 then 2 else -1
def sLy : Nat → Int → Prop := fun c _ => c = 90 ∨ c = 94 ∨ c = 95
def dsj (R : Int → List Int) : Prop := ∀ p v w, 0 ≤ v → v < 3 → 0 ≤ w → w < 3 → p ∈ R v → p ∈ R w → v = w
section M
variable {h : HH} {P : HH → Prop} {R : Int → List Int}
/-- whose parcels are marked: those of the rounds below w, and the first k of w's -/
def mkd (R : Int → List Int) (n w : Int) (k : Nat) (g : HH) : Prop := ∀ p, 0 ≤ p → p < n → (∀ u, 0 ≤ u → u < w → p ∈ R u → g.1 90 p = u) ∧ (p ∈ (R w).take k → g.1 90 p = w) ∧ ((∀ u, 0 ≤ u → u < w → p ∉ R u) → p ∉ (R w).take k → g.1 90 p = -1)
theorem mkd_next {n w : Int} {g : HH} (hw0 : 0 ≤ w) (hm : mkd R n w (R w).length g) : mkd R n (w + 1) 0 g := fun p h0 h1 => by
  obtain ⟨a, b, c⟩ := hm p h0 h1
  rw [List.take_length] at b c
  refine ⟨fun u hu hw hp => ?_, fun q => absurd q (by rw [List.take_zero]; exact List.not_mem_nil), fun q _ => c (fun u hu hw => q u hu (by omega)) (q w hw0 (by omega))⟩
  by_cases e : u = w
  · rw [e] at hp ⊢; exact b hp
  · exact a u hu (by omega) hp
theorem take_s {l : List Int} {k : Nat} (h : k < l.length) {p : Int} : p ∈ l.take (k + 1) ↔ p ∈ l.take k ∨ p = l[k] := by
  rw [← List.take_append_getElem h, List.mem_append, List.mem_singleton]
theorem lX12_lays_78 {n w : Int} {c68 : Int → HH → Option HH} (hn : n ≤ 9) (hw0 : 0 ≤ w) (hw3 : w < 3) (hR : dsj R) (hin : ∀ u, 0 ≤ u → u < 3 → ∀ p ∈ R u, 0 ≤ p ∧ p < n) (h9 : (R w).length ≤ 9) : ∀ (t N k : Nat) (g : HH), t < N → k + t = (R w).length → mkd R n w k g → (∀ (j : Nat) (q : j < (R w).length), g.1 94 (9 * w + (j : Int)) = (R w)[j]) → g.1 95 w = (R w).length → (∀ g', Fr (sA 90) g g' → mkd R n (w + 1) 0 g' → Ok (c68 (w + 1) g') P) → Ok (nX12_lays_78 c68 N w (k : Int) g) P := by
  intro t
  induction t with
  | zero =>
    intro N k g hN hk hm hr h95 hP
    obtain ⟨M, rfl⟩ := fuel_s hN
    rw [nX12_lays_78_s]
    simp only [bX12_lays_78]
    repeat (first | with_reducible refine ok_gd (by first | omega | decide) ?_ | with_reducible refine ok_bs ?_ | with_reducible refine ok_pos (by omega) ?_ | with_reducible refine ok_neg (by omega) ?_ | with_reducible refine ok_tl ?_ | with_reducible refine ok_tr ?_)
    refine hP g fr_r (mkd_next hw0 ?_)
    rw [← hk, Nat.add_zero]
    exact hm
  | succ t ih =>
    intro N k g hN hk hm hr h95 hP
    obtain ⟨M, rfl⟩ := fuel_s hN
    have hlt : k < (R w).length := by omega
    have er := hr k hlt
    have hp := hin w hw0 hw3 _ (List.getElem_mem hlt)
    rw [nX12_lays_78_s]
    simp only [bX12_lays_78]
    refine ok_gd (by omega) ?_
    refine ok_pos (by omega) ?_
    refine ok_gd (by omega) ?_
    refine ok_gd (by omega) ?_
    refine ok_gd (by omega) ?_
    rw [er]
    refine ok_gd (by omega) ?_
    refine ok_bs ?_
    refine ok_gd (by omega) ?_
    have f0 : Fr (sA 90) g (hI g 90 (R w)[k] w) := fr_I fr_r rfl
    rw [show (k : Int) + 1 = ((k + 1 : Nat) : Int) by omega]
    refine ih M (k + 1) _ (by omega) (by omega) (fun p h0 h1 => ?_) (fun j q => ?_) ?_ (fun g' f m => hP g' (fr_t f0 f) m)
    · obtain ⟨a, b, c⟩ := hm p h0 h1
      have e90 : (hI g 90 (R w)[k] w).1 90 p = if p = (R w)[k] then w else g.1 90 p := by simp (disch := decide) only [rI_s, rI_n, rI_2, rC_s, rC_n, rC_2, rJ_1, rJ_s, rJ_n, updI_at, if_pos, if_neg]
      refine ⟨fun u hu hw hpu => ?_, fun q => ?_, fun q q2 => ?_⟩
      · rw [e90]
        by_cases e : p = (R w)[k]
        · have := hR p u w hu (by omega) hw0 hw3 hpu (by rw [e]; exact List.getElem_mem hlt)
          omega
        · rw [if_neg e]; exact a u hu hw hpu
      · rw [e90]
        by_cases e : p = (R w)[k]
        · rw [if_pos e]
        · rw [if_neg e]
          exact b (((take_s hlt).mp q).resolve_right e)
      · have q3 : ¬ (p ∈ (R w).take k ∨ p = (R w)[k]) := fun z => q2 ((take_s hlt).mpr z)
        rw [e90, if_neg (fun e => q3 (Or.inr e))]
        exact c q (fun z => q3 (Or.inl z))
    · rw [f0.2 94 _ (sA_n (by decide) _)]; exact hr j q
    · rw [f0.2 95 _ (sA_n (by decide) _)]; exact h95
theorem lX12_lays_68 {n vans : Int} (hn : n ≤ 9) (hv3 : vans ≤ 3) (hR : dsj R) (hin : ∀ u, 0 ≤ u → u < 3 → (R u).length ≤ 9 ∧ ∀ p ∈ R u, 0 ≤ p ∧ p < n) : ∀ (t N : Nat) (w : Int) (g : HH), t < N → w + t = vans → 0 ≤ w → mkd R n w 0 g → (∀ u, 0 ≤ u → u < 3 → (∀ (j : Nat) (q : j < (R u).length), g.1 94 (9 * u + (j : Int)) = (R u)[j]) ∧ g.1 95 u = (R u).length) → g.1 71 27 = vans → Ok (nX12_lays_68 N w g) (fun g' => Fr (sA 90) g g' ∧ mkd R n vans 0 g') := by
  intro t
  induction t with
  | zero =>
    intro N w g hN hw h0 hm hr hv
    obtain ⟨M, rfl⟩ := fuel_s hN
    rw [nX12_lays_68_s]
    simp only [bX12_lays_68]
    repeat (first | with_reducible refine ok_gd (by first | omega | decide) ?_ | with_reducible refine ok_bs ?_ | with_reducible refine ok_pos (by omega) ?_ | with_reducible refine ok_neg (by omega) ?_ | with_reducible refine ok_tl ?_ | with_reducible refine ok_tr ?_)
    have e : w = vans := by omega
    rw [e] at hm
    exact ok_some ⟨fr_r, hm⟩
  | succ t ih =>
    intro N w g hN hw h0 hm hr hv
    obtain ⟨M, rfl⟩ := fuel_s hN
    rw [nX12_lays_68_s]
    simp only [bX12_lays_68]
    repeat (first | with_reducible refine ok_gd (by first | omega | decide) ?_ | with_reducible refine ok_bs ?_ | with_reducible refine ok_pos (by omega) ?_ | with_reducible refine ok_neg (by omega) ?_ | with_reducible refine ok_tl ?_ | with_reducible refine ok_tr ?_)
    obtain ⟨r1, r2⟩ := hr w h0 (by omega)
    refine lX12_lays_78 hn h0 (by omega) hR (fun u u0 u3 => (hin u u0 u3).2) (hin w h0 (by omega)).1 (R w).length 100000 0 g (by have := (hin w h0 (by omega)).1; omega) (by omega) hm r1 r2 (fun g' f m => ?_)
    refine ok_mono (ih M (w + 1) g' (by omega) (by omega) (by omega) m (fun u u0 u3 => ?_) (by rw [f.2 71 27 (sA_n (by decide) _)]; exact hv)) (fun g'' q => ⟨fr_t f q.1, q.2⟩)
    obtain ⟨r1, r2⟩ := hr u u0 u3
    exact ⟨fun j q => by rw [f.2 94 _ (sA_n (by decide) _)]; exact r1 j q, by rw [f.2 95 _ (sA_n (by decide) _)]; exact r2⟩
theorem lX12_lays_45 {n : Int} (hn : n ≤ 9) : ∀ (t N : Nat) (i : Int) (g : HH), t < N → i + t = n → 0 ≤ i → g.1 71 21 = n → (∀ p, 0 ≤ p → p < i → g.1 90 p = -1) → (∀ g', Fr (sA 90) g g' → (∀ p, 0 ≤ p → p < n → g'.1 90 p = -1) → Ok (nX12_lays_68 100000 0 g') P) → Ok (nX12_lays_45 N i g) P := by
  intro t
  induction t with
  | zero =>
    intro N i g hN hi h0 hg hm hP
    obtain ⟨M, rfl⟩ := fuel_s hN
    rw [nX12_lays_45_s]
    simp only [bX12_lays_45]
    repeat (first | with_reducible refine ok_gd (by first | omega | decide) ?_ | with_reducible refine ok_bs ?_ | with_reducible refine ok_pos (by omega) ?_ | with_reducible refine ok_neg (by omega) ?_ | with_reducible refine ok_tl ?_ | with_reducible refine ok_tr ?_)
    exact hP g fr_r (fun p p0 p1 => hm p p0 (by omega))
  | succ t ih =>
    intro N i g hN hi h0 hg hm hP
    obtain ⟨M, rfl⟩ := fuel_s hN
    rw [nX12_lays_45_s]
    simp only [bX12_lays_45]
    repeat (first | with_reducible refine ok_gd (by first | omega | decide) ?_ | with_reducible refine ok_bs ?_ | with_reducible refine ok_pos (by omega) ?_ | with_reducible refine ok_neg (by omega) ?_ | with_reducible refine ok_tl ?_ | with_reducible refine ok_tr ?_)
    refine ih M (i + 1) _ (by omega) (by omega) (by omega) (by simp (disch := decide) only [rI_s, rI_n, rI_2, rC_s, rC_n, rC_2, rJ_1, rJ_s, rJ_n, updI_at, if_pos, if_neg]; exact hg) (fun p p0 p1 => ?_) (fun g' f e => hP g' (fr_t (fr_I fr_r rfl) f) e)
    simp (disch := decide) only [rI_s, rI_n, rI_2, rC_s, rC_n, rC_2, rJ_1, rJ_s, rJ_n, updI_at, if_pos, if_neg]
    split
    · rfl
    · exact hm p p0 (by omega)
theorem lX12_lays_12 {v n : Int} (hv0 : 0 ≤ v) (hv3 : v < 3) (h9 : n ≤ 9) : ∀ (t N : Nat) (i : Int) (g : HH), t < N → i + t = n → 0 ≤ i → g.1 71 51 = n → (∀ g', Fr (sA 94) g g' → (∀ j, g'.1 94 j = if 9 * v + i ≤ j ∧ j < 9 * v + n then g.1 105 (j - 9 * v) else g.1 94 j) → Ok (nX12_lays_45 100000 0 g') P) → Ok (nX12_lays_12 N v i g) P := by
  intro t
  induction t with
  | zero =>
    intro N i g hN hi h0 hg hP
    obtain ⟨M, rfl⟩ := fuel_s hN
    rw [nX12_lays_12_s]
    simp only [bX12_lays_12]
    repeat (first | with_reducible refine ok_gd (by first | omega | decide) ?_ | with_reducible refine ok_bs ?_ | with_reducible refine ok_pos (by omega) ?_ | with_reducible refine ok_neg (by omega) ?_ | with_reducible refine ok_tl ?_ | with_reducible refine ok_tr ?_)
    exact hP g fr_r (fun j => by rw [if_neg (by omega)])
  | succ t ih =>
    intro N i g hN hi h0 hg hP
    obtain ⟨M, rfl⟩ := fuel_s hN
    rw [nX12_lays_12_s]
    simp only [bX12_lays_12]
    repeat (first | with_reducible refine ok_gd (by first | omega | decide) ?_ | with_reducible refine ok_bs ?_ | with_reducible refine ok_pos (by omega) ?_ | with_reducible refine ok_neg (by omega) ?_ | with_reducible refine ok_tl ?_ | with_reducible refine ok_tr ?_)
    refine ih M (i + 1) _ (by omega) (by omega) (by omega) (by simp (disch := decide) only [rI_s, rI_n, rI_2, rC_s, rC_n, rC_2, rJ_1, rJ_s, rJ_n, updI_at, if_pos, if_neg]; exact hg) (fun g' f e => hP g' (fr_t (fr_I fr_r rfl) f) (fun j => ?_))
    rw [e j]
    simp (disch := decide) only [rI_s, rI_n, rI_2, rC_s, rC_n, rC_2, rJ_1, rJ_s, rJ_n, updI_at, if_pos, if_neg]
    (repeat' split) <;> first | rfl | omega | exact ca (by omega)
theorem vwR_of {n vans : Int} {g : HH} (hv0 : 0 ≤ vans) (hv3 : vans ≤ 3) (hz : ∀ u, vans ≤ u → u < 3 → R u = []) (hm : mkd R n vans 0 g) {p : Int} (h0 : 0 ≤ p) (h1 : p < n) : g.1 90 p = vwR R p := by
  obtain ⟨a, b, c⟩ := hm p h0 h1
  have q : ∀ u, 0 ≤ u → u < 3 → p ∈ R u → u < vans := fun u u0 u3 hp => by
    by_cases c : u < vans
    · exact c
    · rw [hz u (by omega) u3] at hp
      exact absurd hp List.not_mem_nil
  unfold vwR
  by_cases c0 : p ∈ R 0
  · rw [if_pos c0]; exact a 0 (by omega) (q 0 (by omega) (by omega) c0) c0
  · rw [if_neg c0]
    by_cases c1 : p ∈ R 1
    · rw [if_pos c1]; exact a 1 (by omega) (q 1 (by omega) (by omega) c1) c1
    · rw [if_neg c1]
      by_cases c2 : p ∈ R 2
      · rw [if_pos c2]; exact a 2 (by omega) (q 2 (by omega) (by omega) c2) c2
      · rw [if_neg c2]
        refine c (fun u u0 uv => ?_) (by rw [List.take_zero]; exact List.not_mem_nil)
        rcases (by omega : u = 0 ∨ u = 1 ∨ u = 2) with e | e | e <;> rw [e] <;> assumption
theorem mrd_get {g : HH} {u : Int} {l : List Int} (e : mrd g u = l) : ∀ (j : Nat) (q : j < l.length), g.1 94 (9 * u + (j : Int)) = l[j] := fun j q => by
  subst e
  exact (rowL_get (f := g.1 94) (n := (g.1 95 u).toNat) (o := 9 * u) q).symm
/-- the row laid as the round of v; R: the rounds then -/
theorem sX12_lays {v : Int} (hv0 : 0 ≤ v) (hv3 : v < 3) {n vans : Int} (e21 : h.1 71 21 = n) (e27 : h.1 71 27 = vans) (hn0 : 0 ≤ n) (hn : n ≤ 9) (hV0 : 0 ≤ vans) (hV : vans ≤ 3) (h51 : 0 ≤ h.1 71 51 ∧ h.1 71 51 ≤ 9) (hR : dsj R) (hin : ∀ u, 0 ≤ u → u < 3 → (R u).length ≤ 9 ∧ ∀ p ∈ R u, 0 ≤ p ∧ p < n) (hz : ∀ u, vans ≤ u → u < 3 → R u = []) (ev : mrow h = R v) (ew : ∀ w, 0 ≤ w → w < 3 → w ≠ v → mrd h w = R w ∧ (0 ≤ h.1 95 w ∧ h.1 95 w ≤ 9)) : Ok (nX12_lays v h) (fun g => Fr sLy h g ∧ (∀ w, 0 ≤ w → w < 3 → g.1 95 w = (if w = v then h.1 71 51 else h.1 95 w) ∧ mrd g w = R w) ∧ ∀ p, 0 ≤ p → p < n → g.1 90 p = vwR R p) := by
  simp only [nX12_lays, bX12_lays]
  repeat (first | with_reducible refine ok_gd (by first | omega | decide) ?_ | with_reducible refine ok_bs ?_ | with_reducible refine ok_pos (by omega) ?_ | with_reducible refine ok_neg (by omega) ?_ | with_reducible refine ok_tl ?_ | with_reducible refine ok_tr ?_)
  have f0 : Fr (sA 95) h (hI h 95 v (h.1 71 51)) := fr_I fr_r rfl
  have e95 : ∀ w, (hI h 95 v (h.1 71 51)).1 95 w = if w = v then h.1 71 51 else h.1 95 w := fun w => by simp (disch := decide) only [rI_s, rI_n, rI_2, rC_s, rC_n, rC_2, rJ_1, rJ_s, rJ_n, updI_at, if_pos, if_neg]
  refine lX12_lays_12 (n := h.1 71 51) hv0 hv3 h51.2 (h.1 71 51).toNat 100000 0 _ (by omega) (by omega) (by omega) (by simp (disch := decide) only [rI_s, rI_n, rI_2, rC_s, rC_n, rC_2, rJ_1, rJ_s, rJ_n, updI_at, if_pos, if_neg]) (fun g1 f1 e1 => ?_)
  have hrow : ∀ w, 0 ≤ w → w < 3 → mrd g1 w = R w := fun w w0 w3 => by
    unfold mrd
    rw [f1.2 95 _ (sA_n (by decide) _), e95]
    by_cases c : w = v
    · rw [if_pos c, c, ← ev]
      unfold mrow
      exact rowL_ext (fun j hj => by rw [e1, if_pos (by omega), f0.2 105 _ (sA_n (by decide) _)]; exact ca (by omega))
    · rw [if_neg c, ← (ew w w0 w3 c).1]
      have := (ew w w0 w3 c).2
      unfold mrd
      exact rowL_ext (fun j hj => by rw [e1, if_neg (by omega), f0.2 94 _ (sA_n (by decide) _)])
  have hl95 : ∀ w, 0 ≤ w → w < 3 → g1.1 95 w = (R w).length := fun w w0 w3 => by
    rw [← hrow w w0 w3]
    unfold mrd
    rw [rowL_len, f1.2 95 _ (sA_n (by decide) _), e95]
    by_cases c : w = v
    · rw [if_pos c]; omega
    · rw [if_neg c]
      have := (ew w w0 w3 c).2
      omega
  refine lX12_lays_45 (n := n) hn n.toNat 100000 0 g1 (by omega) (by omega) (by omega) (by rw [f1.2 71 21 (sA_n (by decide) _), f0.2 71 21 (sA_n (by decide) _)]; exact e21) (fun p p0 p1 => by omega) (fun g2 f2 e2 => ?_)
  refine ok_mono (lX12_lays_68 (R := R) (n := n) (vans := vans) hn hV hR hin vans.toNat 100000 0 g2 (by omega) (by omega) (by omega) (fun p p0 p1 => ⟨fun u u0 u1 => by omega, fun q => absurd q (by rw [List.take_zero]; exact List.not_mem_nil), fun _ _ => e2 p p0 p1⟩) (fun u u0 u3 => ⟨fun j q => ?_, ?_⟩) (by rw [f2.2 71 27 (sA_n (by decide) _), f1.2 71 27 (sA_n (by decide) _), f0.2 71 27 (sA_n (by decide) _)]; exact e27)) (fun g3 q => ⟨?_, fun w w0 w3 => ⟨?_, ?_⟩, fun p p0 p1 => vwR_of hV0 hV hz q.2 p0 p1⟩)
  · rw [f2.2 94 _ (sA_n (by decide) _)]; exact mrd_get (hrow u u0 u3) j q
  · rw [f2.2 95 _ (sA_n (by decide) _)]; exact hl95 u u0 u3
  · refine fr_t (fr_m (fun c i e => ?_) f0) (fr_t (fr_m (fun c i e => ?_) f1) (fr_t (fr_m (fun c i e => ?_) f2) (fr_m (fun c i e => ?_) q.1))) <;> (unfold sA at e; unfold sLy; omega)
  · rw [q.1.2 95 _ (sA_n (by decide) _), f2.2 95 _ (sA_n (by decide) _), f1.2 95 _ (sA_n (by decide) _), e95]
  · rw [← hrow w w0 w3]
    unfold mrd
    rw [q.1.2 95 _ (sA_n (by decide) _), f2.2 95 _ (sA_n (by decide) _)]
    exact rowL_ext (fun j hj => by rw [q.1.2 94 _ (sA_n (by decide) _), f2.2 94 _ (sA_n (by decide) _)])
end M

/-! THE MODEL'S ROWS: loaded, changed, laid -/
/-- the round of a van -/
def mrd (h : HH) (v : Int) : List Int := rowL (h.1 94) (9 * v) (h.1 95 v).toNat
/-- the row -/
def mrow (h : HH) : List Int := rowL (h.1 105) 0 (h.1 71 51).toNat
def sRow : Nat → Int → Prop := fun c i => c = 105 ∨ (c = 71 ∧ i = 51)
section M
variable {h : HH}
theorem sX12_loads_12 {v : Int} (hv0 : 0 ≤ v) (hv1 : v < 3) {n : Int} (h9 : n ≤ 9) : ∀ (k N : Nat) (i : Int) (h2 : HH), k < N → i + k = n → 0 ≤ i → Fr sRow h h2 → h2.1 71 51 = n → Ok (nX12_loads_12 N v i h2) (fun h3 => Fr sRow h h3 ∧ h3.1 71 51 = n ∧ ∀ j, h3.1 105 j = if i ≤ j ∧ j < n then h.1 94 (9 * v + j) else h2.1 105 j) := by
  intro k
  induction k with
  | zero =>
    intro N i h2 hN hi h0 hf hn
    obtain ⟨M, rfl⟩ := fuel_s hN
    rw [nX12_loads_12_s]
    simp only [bX12_loads_12, bX12_loads, nX12_loads]
    repeat (first | with_reducible refine ok_gd (by first | omega | decide) ?_ | with_reducible refine ok_bs ?_ | with_reducible refine ok_pos (by omega) ?_ | with_reducible refine ok_neg (by omega) ?_ | with_reducible refine ok_tl ?_ | with_reducible refine ok_tr ?_)
    exact ok_some ⟨hf, hn, fun j => by rw [if_neg (by omega)]⟩
  | succ k ih =>
    intro N i h2 hN hi h0 hf hn
    obtain ⟨M, rfl⟩ := fuel_s hN
    rw [nX12_loads_12_s]
    simp only [bX12_loads_12, bX12_loads, nX12_loads]
    repeat (first | with_reducible refine ok_gd (by first | omega | decide) ?_ | with_reducible refine ok_bs ?_ | with_reducible refine ok_pos (by omega) ?_ | with_reducible refine ok_neg (by omega) ?_ | with_reducible refine ok_tl ?_ | with_reducible refine ok_tr ?_)
    refine ok_mono (ih M (i + 1) _ (by omega) (by omega) (by omega) (fr_I hf (Or.inl rfl)) (by simp (disch := decide) only [rI_s, rI_n, rI_2, rC_s, rC_n, rC_2, rJ_1, rJ_s, rJ_n, updI_at, if_pos, if_neg]; exact hn)) (fun h3 q => ⟨q.1, q.2.1, fun j => ?_⟩)
    rw [q.2.2 j]
    by_cases c : i + 1 ≤ j ∧ j < n
    · rw [if_pos c, if_pos (by omega)]
    · rw [if_neg c, rI_s, updI_at, hf.2 94 _ (by unfold sRow; omega)]
      by_cases c2 : j = i
      · rw [if_pos c2, if_pos (by omega), c2]
      · rw [if_neg c2, if_neg (by omega)]
theorem sX12_loads {v : Int} (hv0 : 0 ≤ v) (hv1 : v < 3) (h0 : 0 ≤ h.1 95 v) (h9 : h.1 95 v ≤ 9) : Ok (nX12_loads v h) (fun h2 => Fr sRow h h2 ∧ h2.1 71 51 = h.1 95 v ∧ mrow h2 = mrd h v) := by
  simp only [nX12_loads, bX12_loads]
  repeat (first | with_reducible refine ok_gd (by first | omega | decide) ?_ | with_reducible refine ok_bs ?_ | with_reducible refine ok_pos (by omega) ?_ | with_reducible refine ok_neg (by omega) ?_ | with_reducible refine ok_tl ?_ | with_reducible refine ok_tr ?_)
  have hf : Fr sRow h (hI h 71 51 (h.1 95 v)) := fr_I fr_r (Or.inr ⟨rfl, rfl⟩)
  refine ok_mono (sX12_loads_12 hv0 hv1 h9 (h.1 95 v).toNat 100000 0 _ (by omega) (by omega) (by omega) hf (by simp (disch := decide) only [rI_s, rI_n, rI_2, rC_s, rC_n, rC_2, rJ_1, rJ_s, rJ_n, updI_at, if_pos, if_neg])) (fun h3 q => ⟨q.1, q.2.1, ?_⟩)
  unfold mrow mrd
  rw [q.2.1]
  exact rowL_ext (fun j hj => by rw [q.2.2, if_pos (by omega)]; first | done | exact ca (by omega))
theorem sX12_inserts_5 {n i p : Int} (hn : h.1 71 51 = n) (h9 : n ≤ 9) (hi0 : 0 ≤ i) : ∀ (k N : Nat) (j : Int) (h2 : HH), k < N → j = i + k → j ≤ n → Fr sRow h h2 → h2.1 71 51 = n → Ok (nX12_inserts_5 N i p j h2) (fun h3 => Fr sRow h h3 ∧ h3.1 71 51 = n + 1 ∧ ∀ t, h3.1 105 t = if t = i then p else if i < t ∧ t ≤ j then h2.1 105 (t - 1) else h2.1 105 t) := by
  intro k
  induction k with
  | zero =>
    intro N j h2 hN hj hjn hf hn2
    obtain ⟨M, rfl⟩ := fuel_s hN
    rw [nX12_inserts_5_s]
    simp only [bX12_inserts_5, bX12_inserts, nX12_inserts]
    repeat (first | with_reducible refine ok_gd (by first | omega | decide) ?_ | with_reducible refine ok_bs ?_ | with_reducible refine ok_pos (by omega) ?_ | with_reducible refine ok_neg (by omega) ?_ | with_reducible refine ok_tl ?_ | with_reducible refine ok_tr ?_ | simp (disch := decide) only [rI_s, rI_n, rI_2, rC_s, rC_n, rC_2, rJ_1, rJ_s, rJ_n, updI_at, if_pos, if_neg])
    refine ok_some ⟨fr_I (fr_I hf (Or.inl rfl)) (Or.inr ⟨rfl, rfl⟩), by simp (disch := decide) only [rI_s, rI_n, rI_2, rC_s, rC_n, rC_2, rJ_1, rJ_s, rJ_n, updI_at, if_pos, if_neg]; omega, fun t => ?_⟩
    simp (disch := decide) only [rI_s, rI_n, rI_2, rC_s, rC_n, rC_2, rJ_1, rJ_s, rJ_n, updI_at, if_pos, if_neg]
    by_cases c : t = i
    · rw [if_pos c, if_pos c]
    · rw [if_neg c, if_neg c, if_neg (by omega)]
  | succ k ih =>
    intro N j h2 hN hj hjn hf hn2
    obtain ⟨M, rfl⟩ := fuel_s hN
    rw [nX12_inserts_5_s]
    simp only [bX12_inserts_5, bX12_inserts, nX12_inserts]
    repeat (first | with_reducible refine ok_gd (by first | omega | decide) ?_ | with_reducible refine ok_bs ?_ | with_reducible refine ok_pos (by omega) ?_ | with_reducible refine ok_neg (by omega) ?_ | with_reducible refine ok_tl ?_ | with_reducible refine ok_tr ?_)
    refine ok_mono (ih M (j + (-1)) _ (by omega) (by omega) (by omega) (fr_I hf (Or.inl rfl)) (by simp (disch := decide) only [rI_s, rI_n, rI_2, rC_s, rC_n, rC_2, rJ_1, rJ_s, rJ_n, updI_at, if_pos, if_neg]; exact hn2)) (fun h3 q => ⟨q.1, q.2.1, fun t => ?_⟩)
    rw [q.2.2 t]
    by_cases c : t = i
    · rw [if_pos c, if_pos c]
    · rw [if_neg c, if_neg c]
      by_cases c2 : i < t ∧ t ≤ j + (-1)
      · rw [if_pos c2, if_pos (by omega), rI_s, updI_n (by omega)]
      · rw [if_neg c2, rI_s, updI_at]
        by_cases c3 : t = j
        · rw [if_pos c3, if_pos (by omega), c3]
        · rw [if_neg c3, if_neg (by omega)]
theorem sX12_inserts {i p : Int} (hi0 : 0 ≤ i) (hi : i ≤ h.1 71 51) (h9 : h.1 71 51 ≤ 9) : Ok (nX12_inserts i p h) (fun h2 => Fr sRow h h2 ∧ h2.1 71 51 = h.1 71 51 + 1 ∧ mrow h2 = insL (mrow h) i.toNat p) := by
  simp only [nX12_inserts, bX12_inserts]
  refine ok_mono (sX12_inserts_5 (h := h) rfl h9 hi0 (h.1 71 51 - i).toNat 100000 _ h (by omega) (by omega) (by omega) fr_r rfl) (fun h3 q => ⟨q.1, q.2.1, ?_⟩)
  unfold mrow
  rw [q.2.1, show (h.1 71 51 + 1).toNat = (h.1 71 51).toNat + 1 by omega]
  refine rowL_ins (by omega) (fun j hj => ?_) ?_ (fun j hj hj2 => ?_)
  · rw [q.2.2, if_neg (by omega), if_neg (by omega), Int.zero_add]
  · rw [q.2.2, if_pos (by omega)]
  · rw [q.2.2, if_neg (by omega), if_pos (by omega)]
    first | done | exact ca (by omega)
theorem sX12_removes_12 {n : Int} (h9 : n ≤ 9) : ∀ (k N : Nat) (i : Int) (h2 : HH), k < N → i + k = n → 0 ≤ i → Fr sRow h h2 → h2.1 71 51 = n → Ok (nX12_removes_12 N i h2) (fun h3 => Fr sRow h h3 ∧ h3.1 71 51 = n ∧ ∀ j, h3.1 105 j = if i ≤ j ∧ j < n then h2.1 105 (j + 1) else h2.1 105 j) := by
  intro k
  induction k with
  | zero =>
    intro N i h2 hN hi h0 hf hn
    obtain ⟨M, rfl⟩ := fuel_s hN
    rw [nX12_removes_12_s]
    simp only [bX12_removes_12, bX12_removes, nX12_removes]
    repeat (first | with_reducible refine ok_gd (by first | omega | decide) ?_ | with_reducible refine ok_bs ?_ | with_reducible refine ok_pos (by omega) ?_ | with_reducible refine ok_neg (by omega) ?_ | with_reducible refine ok_tl ?_ | with_reducible refine ok_tr ?_)
    exact ok_some ⟨hf, hn, fun j => by rw [if_neg (by omega)]⟩
  | succ k ih =>
    intro N i h2 hN hi h0 hf hn
    obtain ⟨M, rfl⟩ := fuel_s hN
    rw [nX12_removes_12_s]
    simp only [bX12_removes_12, bX12_removes, nX12_removes]
    repeat (first | with_reducible refine ok_gd (by first | omega | decide) ?_ | with_reducible refine ok_bs ?_ | with_reducible refine ok_pos (by omega) ?_ | with_reducible refine ok_neg (by omega) ?_ | with_reducible refine ok_tl ?_ | with_reducible refine ok_tr ?_)
    refine ok_mono (ih M (i + 1) _ (by omega) (by omega) (by omega) (fr_I hf (Or.inl rfl)) (by simp (disch := decide) only [rI_s, rI_n, rI_2, rC_s, rC_n, rC_2, rJ_1, rJ_s, rJ_n, updI_at, if_pos, if_neg]; exact hn)) (fun h3 q => ⟨q.1, q.2.1, fun j => ?_⟩)
    rw [q.2.2 j]
    by_cases c : i + 1 ≤ j ∧ j < n
    · rw [if_pos c, if_pos (by omega), rI_s, updI_n (by omega)]
    · rw [if_neg c, rI_s, updI_at]
      by_cases c2 : j = i
      · rw [if_pos c2, if_pos (by omega), c2]
      · rw [if_neg c2, if_neg (by omega)]
theorem sX12_removes {i : Int} (hi0 : 0 ≤ i) (hi : i < h.1 71 51) (h9 : h.1 71 51 ≤ 9) : Ok (nX12_removes i h) (fun h2 => Fr sRow h h2 ∧ h2.1 71 51 = h.1 71 51 - 1 ∧ mrow h2 = remL (mrow h) i.toNat) := by
  simp only [nX12_removes, bX12_removes]
  repeat (first | with_reducible refine ok_gd (by first | omega | decide) ?_ | with_reducible refine ok_bs ?_ | with_reducible refine ok_pos (by omega) ?_ | with_reducible refine ok_neg (by omega) ?_ | with_reducible refine ok_tl ?_ | with_reducible refine ok_tr ?_)
  have hf : Fr sRow h (hI h 71 51 (h.1 71 51 - 1)) := fr_I fr_r (Or.inr ⟨rfl, rfl⟩)
  refine ok_mono (sX12_removes_12 (n := h.1 71 51 - 1) (by omega) (h.1 71 51 - 1 - i).toNat 100000 i _ (by omega) (by omega) (by omega) hf (by simp (disch := decide) only [rI_s, rI_n, rI_2, rC_s, rC_n, rC_2, rJ_1, rJ_s, rJ_n, updI_at, if_pos, if_neg])) (fun h3 q => ⟨q.1, q.2.1, ?_⟩)
  unfold mrow
  rw [q.2.1, show (h.1 71 51 - 1).toNat = (h.1 71 51).toNat - 1 by omega]
  refine rowL_rem (by omega) (fun j hj => ?_) (fun j hj hj2 => ?_)
  · rw [q.2.2, if_neg (by omega)]
    simp (disch := decide) only [rI_s, rI_n, rI_2, rC_s, rC_n, rC_2, rJ_1, rJ_s, rJ_n, updI_at, if_pos, if_neg]
    rw [Int.zero_add]
  · rw [q.2.2, if_pos (by omega)]
    simp (disch := decide) only [rI_s, rI_n, rI_2, rC_s, rC_n, rC_2, rJ_1, rJ_s, rJ_n, updI_at, if_pos, if_neg]
    first | done | exact ca (by omega)
theorem sX12_turns_2 {s e : Int} (h0 : 0 ≤ s) (hse : s ≤ e) (h9 : e ≤ 10) : ∀ (k N : Nat) (i : Int) (h2 : HH), k < N → i + k = (e - s) / 2 → 0 ≤ i → Fr (sA 105) h h2 → Ok (nX12_turns_2 N s e i h2) (fun h3 => Fr (sA 105) h h3 ∧ ∀ j, h3.1 105 j = if s + i ≤ j ∧ j < e - i then h2.1 105 (s + e - 1 - j) else h2.1 105 j) := by
  intro k
  induction k with
  | zero =>
    intro N i h2 hN hi h0 hf
    obtain ⟨M, rfl⟩ := fuel_s hN
    rw [nX12_turns_2_s]
    simp only [bX12_turns_2, bX12_turns, nX12_turns]
    repeat (first | with_reducible refine ok_gd (by first | omega | decide) ?_ | with_reducible refine ok_bs ?_ | with_reducible refine ok_pos (by omega) ?_ | with_reducible refine ok_neg (by omega) ?_ | with_reducible refine ok_tl ?_ | with_reducible refine ok_tr ?_)
    refine ok_some ⟨hf, fun j => ?_⟩
    by_cases c : s + i ≤ j ∧ j < e - i
    · rw [if_pos c]
      first | done | exact ca (by omega)
    · rw [if_neg c]
  | succ k ih =>
    intro N i h2 hN hi h0 hf
    obtain ⟨M, rfl⟩ := fuel_s hN
    rw [nX12_turns_2_s]
    simp only [bX12_turns_2, bX12_turns, nX12_turns]
    repeat (first | with_reducible refine ok_gd (by first | omega | decide) ?_ | with_reducible refine ok_bs ?_ | with_reducible refine ok_pos (by omega) ?_ | with_reducible refine ok_neg (by omega) ?_ | with_reducible refine ok_tl ?_ | with_reducible refine ok_tr ?_)
    refine ok_mono (ih M (i + 1) _ (by omega) (by omega) (by omega) (fr_I (fr_I hf rfl) rfl)) (fun h3 q => ⟨q.1, fun j => ?_⟩)
    rw [q.2 j]
    by_cases c : s + (i + 1) ≤ j ∧ j < e - (i + 1)
    · rw [if_pos c, if_pos (by omega), rI_s, updI_n (by omega), rI_s, updI_n (by omega)]
    · rw [if_neg c, rI_s, updI_at, rI_s, updI_at]
      by_cases c2 : j = e - 1 - i
      · rw [if_pos c2, if_pos (by omega), c2]
        first | done | exact ca (by omega)
      · rw [if_neg c2]
        by_cases c3 : j = s + i
        · rw [if_pos c3, if_pos (by omega), c3]
          first | done | exact ca (by omega)
        · rw [if_neg c3, if_neg (by omega)]
theorem sX12_turns {s e : Int} (h0 : 0 ≤ s) (hse : s ≤ e) (he : e ≤ h.1 71 51) (h9 : h.1 71 51 ≤ 9) : Ok (nX12_turns s e h) (fun h2 => Fr (sA 105) h h2 ∧ mrow h2 = trnL (mrow h) s.toNat e.toNat) := by
  simp only [nX12_turns, bX12_turns]
  refine ok_mono (sX12_turns_2 (h := h) h0 hse (by omega) ((e - s) / 2).toNat 100000 0 h (by omega) (by omega) (by omega) fr_r) (fun h3 q => ⟨q.1, ?_⟩)
  unfold mrow
  rw [q.1.2 71 51 (by unfold sA; omega)]
  refine rowL_trn (by omega) (by omega) (fun j hj hj2 => ?_) (fun j hj hj2 => ?_)
  · rw [q.2, if_neg (by omega), Int.zero_add]
  · rw [q.2, if_pos (by omega)]
    first | done | exact ca (by omega)
theorem sX12_placeInRound_2 {v p : Int} (hv0 : 0 ≤ v) (hv1 : v < 3) {n : Int} (h9 : n ≤ 9) : ∀ (k N : Nat) (i : Int), k < N → i + k = n → 0 ≤ i → p ∈ rowL (h.1 94) (9 * v + i) k → nX12_placeInRound_2 h N v p i = some (ixL p (rowL (h.1 94) (9 * v + i) k) i) := by
  intro k
  induction k with
  | zero =>
    intro N i hN hi h0 hp
    cases hp
  | succ k ih =>
    intro N i hN hi h0 hp
    obtain ⟨M, rfl⟩ := fuel_s hN
    rw [nX12_placeInRound_2_s]
    simp only [bX12_placeInRound_2, bX12_placeInRound, nX12_placeInRound]
    refine ok_is ?_
    repeat (first | with_reducible refine ok_gd (by first | omega | decide) ?_ | with_reducible refine ok_bs ?_ | with_reducible refine ok_pos (by omega) ?_ | with_reducible refine ok_neg (by omega) ?_ | with_reducible refine ok_tl ?_ | with_reducible refine ok_tr ?_)
    rw [rowL, ixL]
    with_reducible refine ok_ite (fun c1 => ?_) (fun c1 => ?_)
    · exact ok_some (by rw [if_pos c1])
    · repeat (first | with_reducible refine ok_gd (by first | omega | decide) ?_ | with_reducible refine ok_bs ?_ | with_reducible refine ok_pos (by omega) ?_ | with_reducible refine ok_neg (by omega) ?_ | with_reducible refine ok_tl ?_ | with_reducible refine ok_tr ?_)
      rw [if_neg c1, show 9 * v + i + 1 = 9 * v + (i + 1) by omega]
      rw [rowL, show 9 * v + i + 1 = 9 * v + (i + 1) by omega] at hp
      exact ok_of (ih M (i + 1) (by omega) (by omega) (by omega) ((List.mem_cons.mp hp).resolve_left (fun e => c1 e.symm))) rfl
theorem sX12_placeInRound {v p : Int} (hv0 : 0 ≤ v) (hv1 : v < 3) (h0 : 0 ≤ h.1 95 v) (h9 : h.1 95 v ≤ 9) (hp : p ∈ mrd h v) : nX12_placeInRound h v p = some (ixL p (mrd h v) 0) := by
  unfold nX12_placeInRound bX12_placeInRound
  have := sX12_placeInRound_2 (h := h) (p := p) hv0 hv1 h9 (h.1 95 v).toNat 100000 0 (by omega) (by omega) (by omega) (by rw [Int.add_zero]; exact hp)
  rw [Int.add_zero] at this
  exact this
end M

/-! ROWS changed: put in, taken out, turned, joined; the class' methods that do it -/
section LISTS
variable {f g f1 f2 : Int → Int} {o : Int}
theorem rowL_take : ∀ {n i : Nat} {o : Int}, i ≤ n → (rowL f o n).take i = rowL f o i
  | _, 0, _, _ => by rw [List.take_zero, rowL]
  | 0, i + 1, _, h => absurd h (by omega)
  | n + 1, i + 1, o, h => by rw [rowL, List.take_succ_cons, rowL_take (by omega), ← rowL]
theorem rowL_drop : ∀ {n i : Nat} {o : Int}, i ≤ n → (rowL f o n).drop i = rowL f (o + (i : Int)) (n - i)
  | n, 0, o, _ => by rw [List.drop_zero, Int.natCast_zero, Int.add_zero, Nat.sub_zero]
  | 0, i + 1, _, h => absurd h (by omega)
  | n + 1, i + 1, o, h => by
    rw [rowL, List.drop_succ_cons, rowL_drop (by omega), show n + 1 - (i + 1) = n - i by omega]
    congr 1
    omega
def insL (l : List Int) (i : Nat) (p : Int) : List Int := l.take i ++ p :: l.drop i
def remL (l : List Int) (i : Nat) : List Int := l.take i ++ l.drop (i + 1)
def trnL (l : List Int) (s e : Nat) : List Int := l.take s ++ (((l.drop s).take (e - s)).reverse ++ l.drop e)
def joiL (l : List Int) (i : Nat) (l' : List Int) (k : Nat) : List Int := l.take i ++ l'.drop k
theorem rowL_ins {n i : Nat} {p : Int} (hi : i ≤ n) (h1 : ∀ j : Nat, j < i → g (j : Int) = f (o + (j : Int))) (h2 : g (i : Int) = p) (h3 : ∀ j : Nat, i ≤ j → j < n → g ((j : Int) + 1) = f (o + (j : Int))) : rowL g 0 (n + 1) = insL (rowL f o n) i p := by
  rw [insL, rowL_take hi, rowL_drop hi, show n + 1 = i + (1 + (n - i)) by omega, rowL_add, rowL_add, rowL, rowL, List.singleton_append]
  congr 1
  · exact rowL_ext (fun j hj => by rw [Int.zero_add, h1 j hj])
  · congr 1
    · rw [Int.zero_add, h2]
    · refine rowL_ext (fun j hj => ?_)
      have e := h3 (i + j) (by omega) (by omega)
      rw [show (0 : Int) + (i : Int) + ((1 : Nat) : Int) + (j : Int) = ((i + j : Nat) : Int) + 1 by omega, e]
      congr 1
      omega
theorem rowL_rem {n i : Nat} (hi : i < n) (h1 : ∀ j : Nat, j < i → g (j : Int) = f (o + (j : Int))) (h3 : ∀ j : Nat, i ≤ j → j + 1 < n → g (j : Int) = f (o + (j : Int) + 1)) : rowL g 0 (n - 1) = remL (rowL f o n) i := by
  rw [remL, rowL_take (by omega), rowL_drop (by omega), show n - 1 = i + (n - (i + 1)) by omega, rowL_add]
  congr 1
  · exact rowL_ext (fun j hj => by rw [Int.zero_add, h1 j hj])
  · refine rowL_ext (fun j hj => ?_)
    have e := h3 (i + j) (by omega) (by omega)
    rw [show (0 : Int) + (i : Int) + (j : Int) = ((i + j : Nat) : Int) by omega, e]
    congr 1
    omega
theorem rowL_joi {n m i k : Nat} {o' : Int} (hi : i ≤ n) (hk : k ≤ m) (h1 : ∀ j : Nat, j < i → g (j : Int) = f1 (o + (j : Int))) (h3 : ∀ j : Nat, k ≤ j → j < m → g ((i : Int) + ((j : Int) - (k : Int))) = f2 (o' + (j : Int))) : rowL g 0 (i + (m - k)) = joiL (rowL f1 o n) i (rowL f2 o' m) k := by
  rw [joiL, rowL_take hi, rowL_drop hk, rowL_add]
  congr 1
  · exact rowL_ext (fun j hj => by rw [Int.zero_add, h1 j hj])
  · refine rowL_ext (fun j hj => ?_)
    have e := h3 (k + j) (by omega) (by omega)
    rw [show (0 : Int) + (i : Int) + (j : Int) = (i : Int) + (((k + j : Nat) : Int) - (k : Int)) by omega, e]
    congr 1
    omega
theorem rowL_rev {n : Nat} (h : ∀ j : Nat, j < n → g (0 + (j : Int)) = f (o + (n : Int) - 1 - (j : Int))) : rowL g 0 n = (rowL f o n).reverse := by
  refine rowL_eq (by rw [List.length_reverse, rowL_len]) (fun i q => ?_)
  rw [List.length_reverse, rowL_len] at q
  rw [List.getElem_reverse, rowL_get, h i q]
  congr 1
  rw [rowL_len]
  omega
theorem rowL_sh {n : Nat} : rowL f o n = rowL (fun j => f (o + j)) 0 n := rowL_ext (fun j _ => by rw [Int.zero_add])
theorem rowL_trn {n s e : Nat} (hs : s ≤ e) (he : e ≤ n) (h1 : ∀ j : Nat, j < n → j < s ∨ e ≤ j → g (j : Int) = f (o + (j : Int))) (h2 : ∀ j : Nat, s ≤ j → j < e → g (j : Int) = f (o + (s : Int) + (e : Int) - 1 - (j : Int))) : rowL g 0 n = trnL (rowL f o n) s e := by
  have q1 : rowL g 0 n = rowL g 0 s ++ (rowL g (s : Int) (e - s) ++ rowL g (e : Int) (n - e)) := by
    rw [show (e : Int) = (s : Int) + ((e - s : Nat) : Int) by omega, ← rowL_add, show (s : Int) = 0 + (s : Int) by omega, ← rowL_add]
    congr 1
    omega
  rw [q1, trnL, rowL_take (by omega), rowL_drop (by omega), rowL_drop he, rowL_take (by omega)]
  congr 1
  · exact rowL_ext (fun j hj => by rw [Int.zero_add, h1 j (by omega) (by omega)])
  · congr 1
    · rw [rowL_sh]
      refine rowL_rev (fun j hj => ?_)
      have q := h2 (s + j) (by omega) (by omega)
      rw [show (s : Int) + (0 + (j : Int)) = ((s + j : Nat) : Int) by omega, q]
      congr 1
      omega
    · refine rowL_ext (fun j hj => ?_)
      have q := h1 (e + j) (by omega) (by omega)
      rw [show (e : Int) + (j : Int) = ((e + j : Nat) : Int) by omega, q]
      congr 1
      omega
theorem insL_len {l : List Int} {i : Nat} {p : Int} (h : i ≤ l.length) : (insL l i p).length = l.length + 1 := by
  rw [insL, List.length_append, List.length_cons, List.length_take, List.length_drop]; omega
theorem remL_len {l : List Int} {i : Nat} (h : i < l.length) : (remL l i).length = l.length - 1 := by
  rw [remL, List.length_append, List.length_take, List.length_drop]; omega
theorem trnL_len {l : List Int} {s e : Nat} (h : s ≤ e) (h' : e ≤ l.length) : (trnL l s e).length = l.length := by
  rw [trnL, List.length_append, List.length_append, List.length_reverse, List.length_take, List.length_take, List.length_drop, List.length_drop]; omega
theorem insL_m {l : List Int} {i : Nat} {p q : Int} : q ∈ insL l i p ↔ q = p ∨ q ∈ l := by
  rw [insL, List.mem_append, List.mem_cons]
  conv => rhs; rw [← List.take_append_drop i l, List.mem_append]
  exact ⟨fun h => by rcases h with h | h | h; exact .inr (.inl h); exact .inl h; exact .inr (.inr h), fun h => by rcases h with h | h | h; exact .inr (.inl h); exact .inl h; exact .inr (.inr h)⟩
theorem remL_m {l : List Int} {i : Nat} {q : Int} (h : q ∈ remL l i) : q ∈ l := by
  rw [remL, List.mem_append] at h
  exact h.elim List.mem_of_mem_take List.mem_of_mem_drop
theorem trnL_m {l : List Int} {s e : Nat} (hs : s ≤ e) {q : Int} : q ∈ trnL l s e ↔ q ∈ l := by
  have e1 : l = l.take s ++ ((l.drop s).take (e - s) ++ l.drop e) := by
    conv => lhs; rw [← List.take_append_drop s l, ← List.take_append_drop (e - s) (l.drop s)]
    rw [List.drop_drop, show s + (e - s) = e by omega]
  rw [trnL]
  conv => rhs; rw [e1]
  simp only [List.mem_append, List.mem_reverse]
theorem joiL_m {l l' : List Int} {i k : Nat} {q : Int} (h : q ∈ joiL l i l' k) : q ∈ l ∨ q ∈ l' := by
  rw [joiL, List.mem_append] at h
  exact h.elim (fun h => .inl (List.mem_of_mem_take h)) (fun h => .inr (List.mem_of_mem_drop h))
end LISTS
/-- one array alone is written -/
def sA (d : Nat) : Nat → Int → Prop := fun c _ => c = d
theorem sA_n {c d : Nat} (h : c ≠ d) (i : Int) : ¬ sA d c i := h
theorem sA_s {d : Nat} {i : Int} : sA d d i := rfl
section X
variable {h : HH}
theorem sX6_insert {a b : Nat} (ha : A9 a) (hb : A9 b) (hab : a ≠ b) {n i p : Int} (h0 : 0 ≤ i) (hi : i ≤ n) (hn : n ≤ 8) : Ok (nX6_insert a n i p b h) (fun r => (r.1 = n + 1 ∧ rowL (r.2.1 b) 0 (n + 1).toNat = insL (rowL (h.1 a) 0 n.toNat) i.toNat p) ∧ Fr (sA b) h r.2) := by
  simp only [bX6_insert, nX6_insert]
  refine ok_bt (a9_ok2 ha hb) ?_
  refine ok_gd (by rw [ha.2, hb.2]; omega) ?_
  rw [hb.1.2]
  refine ok_bs ?_
  refine ok_bt hb.1.1 ?_
  refine ok_gd (by rw [hb.2]; omega) ?_
  refine ok_bs ?_
  repeat (first | with_reducible refine ok_gd (by first | omega | decide) ?_ | with_reducible refine ok_bs ?_ | with_reducible refine ok_pos (by omega) ?_ | with_reducible refine ok_neg (by omega) ?_ | with_reducible refine ok_tl ?_ | with_reducible refine ok_tr ?_)
  refine ok_bt (a9_ok2 ha hb) ?_
  refine ok_gd (by rw [ha.2, hb.2]; omega) ?_
  refine ok_bs ?_
  repeat (first | with_reducible refine ok_gd (by first | omega | decide) ?_ | with_reducible refine ok_bs ?_ | with_reducible refine ok_pos (by omega) ?_ | with_reducible refine ok_neg (by omega) ?_ | with_reducible refine ok_tl ?_ | with_reducible refine ok_tr ?_)
  refine ok_some ⟨⟨rfl, ?_⟩, ?_⟩
  · rw [show (n + 1).toNat = n.toNat + 1 by omega]
    refine rowL_ins (by omega) (fun j hj => ?_) ?_ (fun j hj hj2 => ?_)
    · simp only [rC_s, rI_s, rC_n hab, rI_n hab, updI_at]
      rw [if_neg (by omega), if_neg (by omega), if_pos (by omega)]
      first | done | exact ca (by omega)
    · simp only [rC_s, rI_s, rC_n hab, rI_n hab, updI_at]
      rw [if_neg (by omega), if_pos (by omega)]
    · simp only [rC_s, rI_s, rC_n hab, rI_n hab, updI_at]
      rw [if_pos (by omega)]
      first | done | exact ca (by omega)
  · exact fr_C (fr_I (fr_C fr_r (fun _ => sA_s)) sA_s) (fun _ => sA_s)
theorem sX6_remove {a b : Nat} (ha : A9 a) (hb : A9 b) (hab : a ≠ b) {n i : Int} (h0 : 0 ≤ i) (hi : i < n) (hn : n ≤ 9) : Ok (nX6_remove a n i b h) (fun r => (r.1 = n - 1 ∧ rowL (r.2.1 b) 0 (n - 1).toNat = remL (rowL (h.1 a) 0 n.toNat) i.toNat) ∧ Fr (sA b) h r.2) := by
  simp only [bX6_remove, nX6_remove]
  refine ok_bt (a9_ok2 ha hb) ?_
  refine ok_gd (by rw [ha.2, hb.2]; omega) ?_
  rw [hb.1.2]
  refine ok_bs ?_
  repeat (first | with_reducible refine ok_gd (by first | omega | decide) ?_ | with_reducible refine ok_bs ?_ | with_reducible refine ok_pos (by omega) ?_ | with_reducible refine ok_neg (by omega) ?_ | with_reducible refine ok_tl ?_ | with_reducible refine ok_tr ?_)
  refine ok_bt (a9_ok2 ha hb) ?_
  refine ok_gd (by rw [ha.2, hb.2]; omega) ?_
  refine ok_bs ?_
  repeat (first | with_reducible refine ok_gd (by first | omega | decide) ?_ | with_reducible refine ok_bs ?_ | with_reducible refine ok_pos (by omega) ?_ | with_reducible refine ok_neg (by omega) ?_ | with_reducible refine ok_tl ?_ | with_reducible refine ok_tr ?_)
  refine ok_some ⟨⟨rfl, ?_⟩, ?_⟩
  · rw [show (n - 1).toNat = n.toNat - 1 by omega]
    refine rowL_rem (by omega) (fun j hj => ?_) (fun j hj hj2 => ?_)
    · simp only [rC_s, rC_n hab]
      rw [if_neg (by omega), if_pos (by omega)]
      first | done | exact ca (by omega)
    · simp only [rC_s, rC_n hab]
      rw [if_pos (by omega)]
      first | done | exact ca (by omega)
  · exact fr_C (fr_C fr_r (fun _ => sA_s)) (fun _ => sA_s)
theorem sX6_turn_12 {a b : Nat} (ha : A9 a) (hb : A9 b) (hab : a ≠ b) {s e : Int} (h0 : 0 ≤ s) (he : e ≤ 9) : ∀ (k N : Nat) (i : Int) (h1 : HH), k < N → i + k = e → s ≤ i → Fr (sA b) h h1 → Ok (nX6_turn_12 N a s e b i h1) (fun h2 => Fr (sA b) h h2 ∧ ∀ j, h2.1 b j = if i ≤ j ∧ j < e then h.1 a (s + e - 1 - j) else h1.1 b j) := by
  intro k
  induction k with
  | zero =>
    intro N i h1 hN hi hs hf
    obtain ⟨M, rfl⟩ := fuel_s hN
    rw [nX6_turn_12_s]
    simp only [bX6_turn_12, bX6_turn, nX6_turn]
    repeat (first | with_reducible refine ok_gd (by first | omega | decide) ?_ | with_reducible refine ok_bs ?_ | with_reducible refine ok_pos (by omega) ?_ | with_reducible refine ok_neg (by omega) ?_ | with_reducible refine ok_tl ?_ | with_reducible refine ok_tr ?_)
    exact ok_some ⟨hf, fun j => by rw [if_neg (by omega)]⟩
  | succ k ih =>
    intro N i h1 hN hi hs hf
    obtain ⟨M, rfl⟩ := fuel_s hN
    rw [nX6_turn_12_s]
    simp only [bX6_turn_12, bX6_turn, nX6_turn]
    repeat (first | with_reducible refine ok_gd (by first | omega | decide) ?_ | with_reducible refine ok_bs ?_ | with_reducible refine ok_pos (by omega) ?_ | with_reducible refine ok_neg (by omega) ?_ | with_reducible refine ok_tl ?_ | with_reducible refine ok_tr ?_)
    refine ok_bt (a9_ok ha) ?_
    refine ok_gd (by rw [ha.2]; omega) ?_
    refine ok_bt hb.1.1 ?_
    refine ok_gd (by rw [hb.2]; omega) ?_
    rw [hb.1.2]
    refine ok_bs ?_
    repeat (first | with_reducible refine ok_gd (by first | omega | decide) ?_ | with_reducible refine ok_bs ?_ | with_reducible refine ok_pos (by omega) ?_ | with_reducible refine ok_neg (by omega) ?_ | with_reducible refine ok_tl ?_ | with_reducible refine ok_tr ?_)
    refine ok_mono (ih M (i + 1) _ (by omega) (by omega) (by omega) (fr_I hf sA_s)) (fun h2 q => ⟨q.1, fun j => ?_⟩)
    rw [q.2 j]
    by_cases c : i + 1 ≤ j ∧ j < e
    · rw [if_pos c, if_pos (by omega)]
    · rw [if_neg c, rI_s, updI_at]
      by_cases c2 : j = i
      · rw [if_pos c2, if_pos (by omega), hf.2 a _ (sA_n hab _), c2]
      · rw [if_neg c2, if_neg (by omega)]
theorem sX6_turn {a b : Nat} (ha : A9 a) (hb : A9 b) (hab : a ≠ b) {n s e : Int} (h0 : 0 ≤ s) (hs : s ≤ e) (he : e ≤ n) (hn : n ≤ 9) : Ok (nX6_turn a n s e b h) (fun h1 => rowL (h1.1 b) 0 n.toNat = trnL (rowL (h.1 a) 0 n.toNat) s.toNat e.toNat ∧ Fr (sA b) h h1) := by
  simp only [bX6_turn, nX6_turn]
  refine ok_bt (a9_ok2 ha hb) ?_
  refine ok_gd (by rw [ha.2, hb.2]; omega) ?_
  rw [hb.1.2]
  refine ok_bs ?_
  have hf : Fr (sA b) h (hC h b (fun j => if 0 ≤ j ∧ j < 0 + n then h.1 a (0 + (j - 0)) else h.1 b j)) := fr_C fr_r (fun _ => sA_s)
  refine ok_mono (sX6_turn_12 ha hb hab h0 (by omega) (e - s).toNat 100000 s _ (by omega) (by omega) (by omega) hf) (fun h2 q => ⟨?_, q.1⟩)
  refine rowL_trn (by omega) (by omega) (fun j hj hj2 => ?_) (fun j hj hj2 => ?_)
  · rw [q.2, if_neg (by omega), rC_s, if_pos (by omega)]
    first | done | exact ca (by omega)
  · rw [q.2, if_pos (by omega)]
    first | done | exact ca (by omega)
theorem ixL_r {p : Int} : ∀ {l : List Int} {i : Int}, ixL p l i ≠ -1 → i ≤ ixL p l i ∧ ixL p l i < i + l.length
  | [], i, h => by simp [ixL] at h
  | x :: l, i, h => by
    rw [ixL] at h ⊢
    rw [List.length_cons]
    by_cases c : x = p
    · rw [if_pos c]; omega
    · rw [if_neg c] at h ⊢
      have := ixL_r h
      omega
theorem rnd_len {K : Nat → Int → Int} {v : Int} : (rnd K v).length = (K 31 v).toNat := rowL_len
theorem sX6_without (hr : RV h.1) {v p : Int} (hv0 : 0 ≤ v) (hv1 : v < 3) {b : Nat} (hb : A9 b) (hvb : rwK 3 28 v ≠ b) (hp : p ∈ rnd h.1 v) : Ok (nX6_without v p b h) (fun r => (r.1 = h.1 31 v - 1 ∧ rowL (r.2.1 b) 0 (h.1 31 v - 1).toNat = remL (rnd h.1 v) (ixL p (rnd h.1 v) 0).toNat) ∧ Fr (sA b) h r.2) := by
  obtain ⟨h1, h2⟩ := hr v hv0 hv1
  have hx := ixL_r (i := 0) ((ixL_m (by omega)).mp hp)
  rw [rnd_len] at hx
  simp only [bX6_without, nX6_without]
  repeat (first | with_reducible refine ok_gd (by first | omega | decide) ?_ | with_reducible refine ok_bs ?_ | with_reducible refine ok_be (sX6_indexIn hr hv0 hv1) ?_ | with_reducible refine ok_pos (by omega) ?_ | with_reducible refine ok_neg (by omega) ?_ | with_reducible refine ok_tl ?_ | with_reducible refine ok_tr ?_)
  refine ok_bf (rwK_0 hv0 hv1) ?_
  refine ok_gd (by omega) ?_
  refine ok_bnd (sX6_remove (a9_rw hv0 hv1) hb hvb (by omega) (by omega) (by omega)) (fun r q => ?_)
  exact ok_some q
theorem sX6_joinEnds (hr : RV h.1) {v w i k : Int} (hv0 : 0 ≤ v) (hv1 : v < 3) (hw0 : 0 ≤ w) (hw1 : w < 3) {b : Nat} (hb : A9 b) (hvb : rwK 3 28 v ≠ b) (hwb : rwK 3 28 w ≠ b) (h31 : 31 ≠ b) (hi0 : 0 ≤ i) (hi : i ≤ h.1 31 v) (hk0 : 0 ≤ k) (hk : k ≤ h.1 31 w) (h9 : i + (h.1 31 w - k) ≤ 9) : Ok (nX6_joinEnds v i w k b h) (fun r => (r.1 = i + (h.1 31 w - k) ∧ rowL (r.2.1 b) 0 (i + (h.1 31 w - k)).toNat = joiL (rnd h.1 v) i.toNat (rnd h.1 w) k.toNat) ∧ Fr (sA b) h r.2) := by
  obtain ⟨h1, h2⟩ := hr v hv0 hv1
  obtain ⟨h3, h4⟩ := hr w hw0 hw1
  have av := a9_rw hv0 hv1
  have aw := a9_rw hw0 hw1
  simp only [bX6_joinEnds, nX6_joinEnds, rC_n h31]
  refine ok_gd (by omega) ?_
  refine ok_bf (rwK_0 hv0 hv1) ?_
  refine ok_bt (a9_ok2 av hb) ?_
  refine ok_gd (by rw [av.2, hb.2]; omega) ?_
  simp only [hb.1.2, cond_true]
  refine ok_bs ?_
  simp only [rC_n h31]
  refine ok_gd (by omega) ?_
  refine ok_bf (rwK_0 hw0 hw1) ?_
  refine ok_gd (by omega) ?_
  refine ok_gd (by omega) ?_
  refine ok_bt (a9_ok2 aw hb) ?_
  refine ok_gd (by rw [aw.2, hb.2]; omega) ?_
  refine ok_bs ?_
  simp only [rC_n h31]
  refine ok_gd (by omega) ?_
  refine ok_gd (by omega) ?_
  refine ok_gd (by omega) ?_
  refine ok_some ⟨⟨by show _ = _; omega, ?_⟩, ?_⟩
  · rw [show (i + (h.1 31 w - k)).toNat = i.toNat + ((h.1 31 w).toNat - k.toNat) by omega]
    refine rowL_joi (by omega) (by omega) (fun j hj => ?_) (fun j hj hj2 => ?_)
    · simp only [rC_s, rC_n hvb, rC_n hwb]
      rw [if_neg (by omega), if_pos (by omega)]
      first | done | exact ca (by omega)
    · simp only [rC_s, rC_n hvb, rC_n hwb]
      rw [if_pos (by omega)]
      first | done | exact ca (by omega)
  · exact fr_C (fr_C fr_r (fun _ => sA_s)) (fun _ => sA_s)
/-- a round is laid -/
def sRw (v : Int) : Nat → Int → Prop := fun c i => c = rwK 3 28 v ∨ (c = 31 ∧ i = v)
theorem sX6_replace {v : Int} (hv0 : 0 ≤ v) (hv1 : v < 3) {b : Nat} (hb : A9 b) (hvb : rwK 3 28 v ≠ b) {n : Int} (h0 : 0 ≤ n) (h9 : n ≤ 9) : Ok (nX6_replace v b n h) (fun h1 => (h1.1 31 v = n ∧ rnd h1.1 v = rowL (h.1 b) 0 n.toNat ∧ ∀ w : Int, 0 ≤ w → w < 3 → w ≠ v → h1.1 31 w = h.1 31 w ∧ rnd h1.1 w = rnd h.1 w) ∧ Fr (sRw v) h h1) := by
  have av := a9_rw hv0 hv1
  have r31 : rwK 3 28 v ≠ 31 := by have := rwK_r hv0 hv1; omega
  simp only [bX6_replace, nX6_replace]
  refine ok_gd (by omega) ?_
  refine ok_bf (rwK_0 hv0 hv1) ?_
  refine ok_bt (a9_ok2 hb av) ?_
  refine ok_gd (by rw [av.2, hb.2]; omega) ?_
  simp only [av.1.2, cond_true]
  refine ok_bs ?_
  refine ok_gd (by omega) ?_
  refine ok_bs ?_
  have e31 : ∀ w : Int, (hI (hC h (rwK 3 28 v) (fun j => if 0 ≤ j ∧ j < 0 + n then h.1 b (0 + (j - 0)) else h.1 (rwK 3 28 v) j)) 31 v n).1 31 w = if w = v then n else h.1 31 w := by
    intro w
    rw [rI_s, rC_n (Ne.symm r31)]
    rfl
  refine ok_some ⟨⟨?_, ?_, fun w hw0 hw1 hwv => ⟨?_, ?_⟩⟩, ?_⟩
  · rw [e31, if_pos rfl]
  · unfold rnd
    rw [e31, if_pos rfl]
    refine rowL_ext (fun j hj => ?_)
    rw [rI_n r31, rC_s]
    rw [if_pos (by omega)]
    first | done | exact ca (by omega)
  · rw [e31, if_neg hwv]
  · unfold rnd
    have r31w : rwK 3 28 w ≠ 31 := by have := rwK_r hw0 hw1; omega
    have rwv : rwK 3 28 w ≠ rwK 3 28 v := fun e => hwv (rwK_i hw0 hw1 hv0 hv1 e)
    rw [e31, if_neg hwv, rI_n r31w, rC_n rwv]
  · exact fr_I (fr_C fr_r (fun _ => Or.inl rfl)) (Or.inr ⟨rfl, rfl⟩)
end X

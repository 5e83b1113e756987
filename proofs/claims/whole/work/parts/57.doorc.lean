/-! DOOR: the class -/
section DRC
variable {h h' m : HH} {K : Nat → Int → Int} {l : List Int}
abbrev sD0 : Nat → Int → Prop := fun c _ => c = 69 ∨ (20 ≤ c ∧ c ≤ 22) ∨ (28 ≤ c ∧ c ≤ 33) ∨ (c = 62 ∨ c = 67)
theorem sD0_T {g : HH} (f : Fr sD0 h g) : cTc dT h g := cTc_of f (fun c i s => by dsimp only [scT, sD0] at s ⊢; omega)
theorem c_rep {X : HH} (fX : Fr sD0 h X) (e28 : ∀ c, 28 ≤ c → c ≤ 31 → X.1 c = h.1 c) {v n : Int} (v0 : 0 ≤ v) (v3 : v < 3) (hn : 0 ≤ n ∧ n ≤ 9) (hl : rowL (X.1 69) 0 n.toNat = l) : Ok (nX6_replace v 69 n X) (fun g => (Fr sD0 h g ∧ ∀ c, (c < 28 ∨ 31 < c) → g.1 c = X.1 c) ∧ ∀ w, 0 ≤ w → w < 3 → g.1 31 w = (if w = v then n else h.1 31 w) ∧ rnd g.1 w = setR (rnd h.1) v l w) := by
  have hrw := rwK_r v0 v3
  refine ok_mono (sX6_replace v0 v3 a9_69 (rw69 v0 v3).1 hn.1 hn.2) (fun g q => ?_)
  obtain ⟨⟨q1, q2, q3⟩, q4⟩ := q
  refine ⟨⟨fr_t fX (fr_m (fun c i s => by unfold sRw at s; dsimp only [sD0]; omega) q4), fun c hc => fr_c q4 c (fun i s => by unfold sRw at s; omega)⟩, fun w w0 w3 => ?_⟩
  by_cases c : w = v
  · rw [c, if_pos rfl, setR, if_pos rfl, q1, q2, hl]
    exact ⟨rfl, rfl⟩
  · rw [if_neg c, setR, if_neg c, (q3 w w0 w3 c).1, (q3 w w0 w3 c).2, e28 31 (by omega) (by omega), rnd_eq e28 w0 w3]
    exact ⟨rfl, rfl⟩
theorem a69_D0 {g : HH} (f : Fr (sA 69) h g) : Fr sD0 h g := fr_m (fun c i s => by unfold sA at s; dsimp only [sD0]; omega) f
/-- delivered -/
theorem c_door1 (hn9 : 0 ≤ h.1 67 2 ∧ h.1 67 2 ≤ 100) {r : HH} (fr : Fr (sA 69) h r) {v n x x2 : Int} {k : Nat} (hk : k ≤ 3) (x0 : 0 ≤ x ∧ x < 9) (hx2 : x2 ≠ 0) (v0 : 0 ≤ v) (v3 : v < 3) (hn : 0 ≤ n ∧ n ≤ 9) (hl : rowL (r.1 69) 0 n.toNat = l) : Ok (nX11_door_77 x x2 v n 1 (r, k)) (fun q => q.1 = .inl 1 ∧ dC h v n l x 1 (h.1 21 x) (h.1 22 x) (h.1 62) (h.1 67 2 + 1) q.2.1) := by
  have e : ∀ c, c < 69 → r.1 c = h.1 c := fun c hc => fr_c fr c (fun i s => by unfold sA at s; omega)
  have e67 : r.1 67 2 = h.1 67 2 := by rw [e 67 (by omega)]
  simp only [nX11_door_77, bX11_door_77]
  repeat (first | with_reducible refine ok_gd (by first | omega | decide) ?_ | with_reducible refine ok_bs ?_ | with_reducible refine ok_be (sX3_forget _) ?_ | with_reducible refine ok_be (sX12_refuse _ _) ?_ | with_reducible refine ok_be (sX12_told _ _) ?_ | with_reducible refine ok_ndt (sX11_needIndex _ _ _ _) (by omega) ?_ | with_reducible refine ok_ndf (sX11_needIndex _ _ _ _) (by omega) ?_ | with_reducible refine ok_ndt (sX11_needRange _ _ _ _) (by omega) ?_ | with_reducible refine ok_ndf (sX11_needRange _ _ _ _) (by omega) ?_ | with_reducible refine ok_ndt (sX11_needThat2 _ _) (by omega) ?_ | with_reducible refine ok_ndf (sX11_needThat2 _ _) (by omega) ?_ | with_reducible refine ok_ndt (sX11_needState2 _ _) (by omega) ?_ | with_reducible refine ok_ndf (sX11_needState2 _ _) (by omega) ?_ | with_reducible refine ok_ndt (sX11_needElement _ _) (by omega) ?_ | with_reducible refine ok_ndf (sX11_needElement _ _) (by omega) ?_ | with_reducible refine ok_ndt (sX11_needPlace _ _) (by omega) ?_ | with_reducible refine ok_ndf (sX11_needPlace _ _) (by omega) ?_ | with_reducible refine ok_ndt (sX11_needSender _ _) (by omega) ?_ | with_reducible refine ok_ndf (sX11_needSender _ _) (by omega) ?_ | with_reducible refine ok_b2t (sX12_in _ _ _ _) (by omega) ?_ | with_reducible refine ok_b2f (sX12_in _ _ _ _) (by omega) ?_ | with_reducible refine ok_b2t (sX12_isPlace _ _) (by omega) ?_ | with_reducible refine ok_b2f (sX12_isPlace _ _) (by omega) ?_ | with_reducible refine ok_pos (by omega) ?_ | with_reducible refine ok_neg (by omega) ?_ | with_reducible refine ok_tl ?_ | with_reducible refine ok_tr ?_ | simp (disch := decide) only [rI_s, rI_n, rI_2, rC_s, rC_n, rC_2, rJ_1, rJ_s, rJ_n, updI_at, if_pos, if_neg] | dsimp only)
  have fI : ∀ {a : HH}, Fr sD0 h a → ∀ {c : Nat} {i y : Int}, sD0 c i → Fr sD0 h (hI a c i y) := fun f _ _ _ s => fr_I f s
  have fX : Fr sD0 h (hI (hI (hI r 32 2 0) 20 x 1) 67 2 (r.1 67 2 + 1)) := fI (fI (fI (a69_D0 fr) (by dsimp only [sD0]; omega)) (by dsimp only [sD0]; omega)) (by dsimp only [sD0]; omega)
  refine ok_bnd (c_rep (l := l) fX (fun c c1 c2 => by rw [rI_n (by omega), rI_n (by omega), rI_n (by omega), e c (by omega)]) v0 v3 hn (by rw [rI_n (by decide), rI_n (by decide), rI_n (by decide)]; exact hl)) (fun g q => ?_)
  obtain ⟨⟨q1, q2⟩, q3⟩ := q
  have g20 : g.1 20 = updI (h.1 20) x 1 := by rw [q2 20 (by omega), rI_n (by decide), rI_s, rI_n (by decide), e 20 (by omega)]
  refine ok_gd (by omega) ?_
  refine ok_gd (by omega) ?_
  refine ok_some ⟨by rw [g20, updI_s], sD0_T q1, ⟨g20, ?_, ?_⟩, ⟨?_, ?_⟩, q3, ?_, ?_, ?_, ?_, ?_⟩
  · rw [q2 21 (by omega), updI_id rfl]; simp (disch := decide) only [rI_s, rI_n, rI_2, rC_s, rC_n, rC_2, rJ_1, rJ_s, rJ_n, updI_at, if_pos, if_neg]; exact e 21 (by omega)
  · rw [q2 22 (by omega), updI_id rfl]; simp (disch := decide) only [rI_s, rI_n, rI_2, rC_s, rC_n, rC_2, rJ_1, rJ_s, rJ_n, updI_at, if_pos, if_neg]; exact e 22 (by omega)
  · rw [q2 32 (by omega)]; simp (disch := decide) only [rI_s, rI_n, rI_2, rC_s, rC_n, rC_2, rJ_1, rJ_s, rJ_n, updI_at, if_pos, if_neg]; rw [e 32 (by omega)]
  · rw [q2 32 (by omega)]; simp (disch := decide) only [rI_s, rI_n, rI_2, rC_s, rC_n, rC_2, rJ_1, rJ_s, rJ_n, updI_at, if_pos, if_neg]
  · rw [q2 62 (by omega)]; simp (disch := decide) only [rI_s, rI_n, rI_2, rC_s, rC_n, rC_2, rJ_1, rJ_s, rJ_n, updI_at, if_pos, if_neg]; exact e 62 (by omega)
  · rw [q2 67 (by omega)]; simp (disch := decide) only [rI_s, rI_n, rI_2, rC_s, rC_n, rC_2, rJ_1, rJ_s, rJ_n, updI_at, if_pos, if_neg]; rw [e 67 (by omega)]
  · rw [q2 67 (by omega)]; simp (disch := decide) only [rI_s, rI_n, rI_2, rC_s, rC_n, rC_2, rJ_1, rJ_s, rJ_n, updI_at, if_pos, if_neg]; rw [e 67 (by omega)]
  · rw [q2 67 (by omega)]; simp (disch := decide) only [rI_s, rI_n, rI_2, rC_s, rC_n, rC_2, rJ_1, rJ_s, rJ_n, updI_at, if_pos, if_neg]; rw [e 67 (by omega)]
  · rw [q2 67 (by omega)]; simp (disch := decide) only [rI_s, rI_n, rI_2, rC_s, rC_n, rC_2, rJ_1, rJ_s, rJ_n, updI_at, if_pos, if_neg]; rw [e 67 (by omega)]
/-- kept at the end of the round -/
theorem c_door2 (i : INV h h') {r : HH} (fr : Fr (sA 69) h r) {v n x : Int} {k : Nat} (hk : k ≤ 3) (x0 : 0 ≤ x) (x1 : x < h.1 13 10) (v0 : 0 ≤ v) (v1 : v < h.1 13 14) (hn : 0 ≤ n ∧ n ≤ 8) (hl : rowL (r.1 69) 0 n.toNat = l) (hin : inR h.1 l) (hw : h.1 20 x = 0) (hf : h.1 21 x + 1 < 3) (hc : costL h.1 v (l ++ [x]) ≠ -1) : Ok (nX11_door_77 x 0 v n 1 (r, k)) (fun q => q.1 = .inl 0 ∧ dC h v (n + 1) (l ++ [x]) x 0 (h.1 21 x + 1) (h.1 22 x) (h.1 62) (h.1 67 2) q.2.1) := by
  have hn9 := inv_n i
  have hv := i.1.1.1
  have hq := (i.2.1.2.2.1 x x0 x1).2
  have e : ∀ c, c < 69 → r.1 c = h.1 c := fun c hc => fr_c fr c (fun i s => by unfold sA at s; omega)
  have e21 : r.1 21 x = h.1 21 x := by rw [e 21 (by omega)]
  simp only [nX11_door_77, bX11_door_77, nX11_failAtDoor, bX11_failAtDoor, bnd_gd, bnd_bnd, bnd_ite]
  repeat (first | with_reducible refine ok_gd (by first | omega | decide) ?_ | with_reducible refine ok_bs ?_ | with_reducible refine ok_be (sX3_forget _) ?_ | with_reducible refine ok_be (sX12_refuse _ _) ?_ | with_reducible refine ok_be (sX12_told _ _) ?_ | with_reducible refine ok_ndt (sX11_needIndex _ _ _ _) (by omega) ?_ | with_reducible refine ok_ndf (sX11_needIndex _ _ _ _) (by omega) ?_ | with_reducible refine ok_ndt (sX11_needRange _ _ _ _) (by omega) ?_ | with_reducible refine ok_ndf (sX11_needRange _ _ _ _) (by omega) ?_ | with_reducible refine ok_ndt (sX11_needThat2 _ _) (by omega) ?_ | with_reducible refine ok_ndf (sX11_needThat2 _ _) (by omega) ?_ | with_reducible refine ok_ndt (sX11_needState2 _ _) (by omega) ?_ | with_reducible refine ok_ndf (sX11_needState2 _ _) (by omega) ?_ | with_reducible refine ok_ndt (sX11_needElement _ _) (by omega) ?_ | with_reducible refine ok_ndf (sX11_needElement _ _) (by omega) ?_ | with_reducible refine ok_ndt (sX11_needPlace _ _) (by omega) ?_ | with_reducible refine ok_ndf (sX11_needPlace _ _) (by omega) ?_ | with_reducible refine ok_ndt (sX11_needSender _ _) (by omega) ?_ | with_reducible refine ok_ndf (sX11_needSender _ _) (by omega) ?_ | with_reducible refine ok_b2t (sX12_in _ _ _ _) (by omega) ?_ | with_reducible refine ok_b2f (sX12_in _ _ _ _) (by omega) ?_ | with_reducible refine ok_b2t (sX12_isPlace _ _) (by omega) ?_ | with_reducible refine ok_b2f (sX12_isPlace _ _) (by omega) ?_ | with_reducible refine ok_pos (by omega) ?_ | with_reducible refine ok_neg (by omega) ?_ | with_reducible refine ok_tl ?_ | with_reducible refine ok_tr ?_ | simp (disch := decide) only [rI_s, rI_n, rI_2, rC_s, rC_n, rC_2, rJ_1, rJ_s, rJ_n, updI_at, if_pos, if_neg] | dsimp only)
  have fI : ∀ {a : HH}, Fr sD0 h a → ∀ {c : Nat} {i y : Int}, sD0 c i → Fr sD0 h (hI a c i y) := fun f _ _ _ s => fr_I f s
  have fX : Fr sD0 h (hI (hI (hI r 32 2 0) 21 x (r.1 21 x + 1)) 69 n x) := fI (fI (fI (a69_D0 fr) (by dsimp only [sD0]; omega)) (by dsimp only [sD0]; omega)) (by dsimp only [sD0]; omega)
  have rX : ∀ c, c < 69 → c ≠ 32 → c ≠ 21 → (hI (hI (hI r 32 2 0) 21 x (r.1 21 x + 1)) 69 n x).1 c = h.1 c := fun c hc h1 h2 => by rw [rI_n (by omega), rI_n (by omega), rI_n (by omega), e c (by omega)]
  have rl : rowL ((hI (hI (hI r 32 2 0) 21 x (r.1 21 x + 1)) 69 n x).1 69) 0 (n + 1).toNat = l ++ [x] := by
    rw [show (n + 1).toNat = n.toNat + 1 by omega, rI_s, rowL_snoc, rI_n (by decide), rI_n (by decide), show (0 : Int) + (n.toNat : Int) = n by omega, updI_s, ← hl]
    congr 1
    exact rowL_ext (fun j hj => updI_n (by omega))
  have hVX : VAL (hI (hI (hI r 32 2 0) 21 x (r.1 21 x + 1)) 69 n x).1 := VAL_eq hv (fun c hc => rX c (by omega) (by omega) (by omega)) (by rw [rX 13 (by omega) (by omega) (by omega)]; exact ⟨rfl, rfl⟩)
  have hinX : inR (hI (hI (hI r 32 2 0) 21 x (r.1 21 x + 1)) 69 n x).1 (l ++ [x]) := fun p hp => by
    rw [rX 13 (by omega) (by omega) (by omega)]
    rcases List.mem_append.mp hp with q | q
    · exact hin p q
    · rw [List.mem_singleton.mp q]; exact ⟨x0, x1⟩
  have hcX : costL (hI (hI (hI r 32 2 0) 21 x (r.1 21 x + 1)) 69 n x).1 v (l ++ [x]) = costL h.1 v (l ++ [x]) := costL_eq (rX 7 (by omega) (by omega) (by omega)) (by rw [rX 23 (by omega) (by omega) (by omega), rX 24 (by omega) (by omega) (by omega), rX 25 (by omega) (by omega) (by omega)]; exact ⟨rfl, rfl, rfl⟩) (fun p _ => by
    rw [rX 14 (by omega) (by omega) (by omega), rX 15 (by omega) (by omega) (by omega), rX 17 (by omega) (by omega) (by omega), rX 18 (by omega) (by omega) (by omega), rX 19 (by omega) (by omega) (by omega)]
    exact ⟨⟨rfl, rfl⟩, rfl, rfl, rfl⟩)
  refine ok_be (sX2_costOf hVX a9_69 v0 (by rw [rX 13 (by omega) (by omega) (by omega)]; exact v1) (by omega) (by omega) (by rw [rl]; exact hinX)) ?_
  rw [rl, hcX]
  refine ok_neg hc ?_
  refine ok_gd (by omega) ?_
  refine ok_bnd (c_rep fX (fun c c1 c2 => rX c (by omega) (by omega) (by omega)) v0 (by omega) (by omega) rl) (fun g q => ?_)
  refine ok_bs ?_
  obtain ⟨⟨q1, q2⟩, q3⟩ := q
  have g20 : g.1 20 = updI (h.1 20) x 0 := by rw [q2 20 (by omega), rX 20 (by omega) (by omega) (by omega), updI_id hw]
  refine ok_gd (by omega) ?_
  refine ok_gd (by omega) ?_
  refine ok_some ⟨by rw [g20, updI_s], sD0_T q1, ⟨g20, ?_, ?_⟩, ⟨?_, ?_⟩, q3, ?_, ?_, ?_, ?_, ?_⟩
  · rw [q2 21 (by omega), rI_n (by decide), rI_s, rI_n (by decide), e 21 (by omega)]
  · rw [q2 22 (by omega), updI_id rfl]; exact rX 22 (by omega) (by omega) (by omega)
  · rw [q2 32 (by omega)]; simp (disch := decide) only [rI_s, rI_n, rI_2, rC_s, rC_n, rC_2, rJ_1, rJ_s, rJ_n, updI_at, if_pos, if_neg]; rw [e 32 (by omega)]
  · rw [q2 32 (by omega)]; simp (disch := decide) only [rI_s, rI_n, rI_2, rC_s, rC_n, rC_2, rJ_1, rJ_s, rJ_n, updI_at, if_pos, if_neg]
  · rw [q2 62 (by omega)]; exact rX 62 (by omega) (by omega) (by omega)
  · rw [q2 67 (by omega), rX 67 (by omega) (by omega) (by omega)]
  · rw [q2 67 (by omega), rX 67 (by omega) (by omega) (by omega)]
  · rw [q2 67 (by omega), rX 67 (by omega) (by omega) (by omega)]
  · rw [q2 67 (by omega), rX 67 (by omega) (by omega) (by omega)]
/-- gone away -/
theorem c_away (i : INV h h') {X : HH} {v n x : Int} (fX : Fr sD0 h X) (rX : ∀ c, c < 69 → c ≠ 32 → c ≠ 21 → X.1 c = h.1 c) (x21 : X.1 21 = updI (h.1 21) x (h.1 21 x + 1)) (x32 : X.1 32 1 = h.1 32 1 ∧ X.1 32 2 = 0) (x0 : 0 ≤ x) (x1 : x < h.1 13 10) (v0 : 0 ≤ v) (v3 : v < 3) (hn : 0 ≤ n ∧ n ≤ 9) (hl : rowL (X.1 69) 0 n.toNat = l) : Ok (nX11_failAtDoor_77 v x n X) (fun g => dC h v n l x (if nfS h.1 (h.1 14 x) 15 = -1 then 3 else 2) (h.1 21 x + 1) (nfS h.1 (h.1 14 x) 15) (if nfS h.1 (h.1 14 x) 15 = -1 then h.1 62 else updI (h.1 62) (nfS h.1 (h.1 14 x) 15) (h.1 62 (nfS h.1 (h.1 14 x) 15) + 1)) (h.1 67 2) g) := by
  have hn9 := inv_n i
  have hv := i.1.1.1
  have hD := i.2.2.2.1
  have nc := nfS_c h.1 (h.1 14 x) 15
  unfold nX11_failAtDoor_77 bX11_failAtDoor_77
  refine ok_bnd (c_rep fX (fun c c1 c2 => rX c (by omega) (by omega) (by omega)) v0 v3 hn hl) (fun g q => ?_)
  obtain ⟨⟨q1, q2⟩, q3⟩ := q
  have gX : ∀ c, c < 69 → (c < 28 ∨ 32 < c) → c ≠ 21 → g.1 c = h.1 c := fun c h1 h2 h3 => by rw [q2 c (by omega), rX c h1 (by omega) h3]
  have hVg : VAL g.1 := VAL_eq hv (fun c hc => gX c (by omega) (by omega) (by omega)) (by rw [gX 13 (by omega) (by omega) (by omega)]; exact ⟨rfl, rfl⟩)
  have en : nfS g.1 (g.1 14 x) 15 = nfS h.1 (h.1 14 x) 15 := by
    rw [gX 14 (by omega) (by omega) (by omega)]
    exact nfS_cg (gX 7 (by omega) (by omega) (by omega)) (gX 61 (by omega) (by omega) (by omega)) (gX 62 (by omega) (by omega) (by omega)) 15
  refine ok_be (sX0_sendAway hVg (by
    rw [gX 61 (by omega) (by omega) (by omega), gX 62 (by omega) (by omega) (by omega)]
    exact ⟨hD.2.2.2, fun p p1 p2 => by have := (hD.2.1 p p1 p2).2.1; omega⟩) x0 (by rw [gX 13 (by omega) (by omega) (by omega)]; exact x1)) ?_
  rw [en, gX 62 (by omega) (by omega) (by omega)]
  have fI : ∀ {a : HH}, Fr sD0 h a → ∀ {c : Nat} {i y : Int}, sD0 c i → Fr sD0 h (hI a c i y) := fun f _ _ _ s => fr_I f s
  by_cases c : nfS h.1 (h.1 14 x) 15 = -1
  · rw [if_pos c, if_pos c, if_pos c, c]
    have f1 : Fr sD0 h (hI (hI g 22 x (-1)) 20 x 3) := fI (fI q1 (by dsimp only [sD0]; omega)) (by dsimp only [sD0]; omega)
    have r1 : ∀ k, k ≠ 20 → k ≠ 22 → (hI (hI g 22 x (-1)) 20 x 3).1 k = g.1 k := fun k h1 h2 => by rw [rI_n h1, rI_n h2]
    refine ok_some ⟨sD0_T f1, ⟨?_, ?_, ?_⟩, ⟨?_, ?_⟩, fun w w0 w3 => ?_, ?_, ?_, ?_, ?_, ?_⟩
    · rw [rI_s, rI_n (by decide), gX 20 (by omega) (by omega) (by omega)]
    · rw [r1 21 (by decide) (by decide), q2 21 (by omega), x21]
    · rw [rI_n (by decide), rI_s, gX 22 (by omega) (by omega) (by omega)]
    · rw [r1 32 (by decide) (by decide), q2 32 (by omega)]; exact x32.1
    · rw [r1 32 (by decide) (by decide), q2 32 (by omega)]; exact x32.2
    · rw [r1 31 (by decide) (by decide), rnd_eq (fun c c1 c2 => r1 c (by omega) (by omega)) w0 w3]
      exact q3 w w0 w3
    · rw [r1 62 (by decide) (by decide), gX 62 (by omega) (by omega) (by omega)]
    · rw [r1 67 (by decide) (by decide), gX 67 (by omega) (by omega) (by omega)]
    · rw [r1 67 (by decide) (by decide), gX 67 (by omega) (by omega) (by omega)]
    · rw [r1 67 (by decide) (by decide), gX 67 (by omega) (by omega) (by omega)]
    · rw [r1 67 (by decide) (by decide), gX 67 (by omega) (by omega) (by omega)]
  · rw [if_neg c, if_neg c, if_neg c]
    generalize nfS h.1 (h.1 14 x) 15 = L at *
    have f1 : Fr sD0 h (hI (hI (hI g 22 x L) 20 x 2) 62 L (h.1 62 L + 1)) := fI (fI (fI q1 (by dsimp only [sD0]; omega)) (by dsimp only [sD0]; omega)) (by dsimp only [sD0]; omega)
    have r1 : ∀ k, k ≠ 20 → k ≠ 22 → k ≠ 62 → (hI (hI (hI g 22 x L) 20 x 2) 62 L (h.1 62 L + 1)).1 k = g.1 k := fun k h1 h2 h3 => by rw [rI_n h3, rI_n h1, rI_n h2]
    refine ok_some ⟨sD0_T f1, ⟨?_, ?_, ?_⟩, ⟨?_, ?_⟩, fun w w0 w3 => ?_, ?_, ?_, ?_, ?_, ?_⟩
    · rw [rI_n (by decide), rI_s, rI_n (by decide), gX 20 (by omega) (by omega) (by omega)]
    · rw [r1 21 (by decide) (by decide) (by decide), q2 21 (by omega), x21]
    · rw [rI_n (by decide), rI_n (by decide), rI_s, gX 22 (by omega) (by omega) (by omega)]
    · rw [r1 32 (by decide) (by decide) (by decide), q2 32 (by omega)]; exact x32.1
    · rw [r1 32 (by decide) (by decide) (by decide), q2 32 (by omega)]; exact x32.2
    · rw [r1 31 (by decide) (by decide) (by decide), rnd_eq (fun c c1 c2 => r1 c (by omega) (by omega) (by omega)) w0 w3]
      exact q3 w w0 w3
    · rw [rI_s, rI_n (by decide), rI_n (by decide), gX 62 (by omega) (by omega) (by omega)]
    · rw [r1 67 (by decide) (by decide) (by decide), gX 67 (by omega) (by omega) (by omega)]
    · rw [r1 67 (by decide) (by decide) (by decide), gX 67 (by omega) (by omega) (by omega)]
    · rw [r1 67 (by decide) (by decide) (by decide), gX 67 (by omega) (by omega) (by omega)]
    · rw [r1 67 (by decide) (by decide) (by decide), gX 67 (by omega) (by omega) (by omega)]
theorem c_door3 (i : INV h h') {r : HH} (fr : Fr (sA 69) h r) {v n x : Int} {k : Nat} (hk : k ≤ 3) (x0 : 0 ≤ x) (x1 : x < h.1 13 10) (v0 : 0 ≤ v) (v1 : v < h.1 13 14) (hn : 0 ≤ n ∧ n ≤ 8) (hl : rowL (r.1 69) 0 n.toNat = l) (hin : inR h.1 l) (hw : h.1 20 x = 0) (hc : ¬ (h.1 21 x + 1 < 3 ∧ costL h.1 v (l ++ [x]) ≠ -1)) : Ok (nX11_door_77 x 0 v n 1 (r, k)) (fun q => q.1 = .inl (if nfS h.1 (h.1 14 x) 15 = -1 then 3 else 2) ∧ dC h v n l x (if nfS h.1 (h.1 14 x) 15 = -1 then 3 else 2) (h.1 21 x + 1) (nfS h.1 (h.1 14 x) 15) (if nfS h.1 (h.1 14 x) 15 = -1 then h.1 62 else updI (h.1 62) (nfS h.1 (h.1 14 x) 15) (h.1 62 (nfS h.1 (h.1 14 x) 15) + 1)) (h.1 67 2) q.2.1) := by
  have hn9 := inv_n i
  have hv := i.1.1.1
  have hq := (i.2.1.2.2.1 x x0 x1).2
  have e : ∀ c, c < 69 → r.1 c = h.1 c := fun c hc => fr_c fr c (fun i s => by unfold sA at s; omega)
  have e21 : r.1 21 x = h.1 21 x := by rw [e 21 (by omega)]
  have fI : ∀ {a : HH}, Fr sD0 h a → ∀ {c : Nat} {i y : Int}, sD0 c i → Fr sD0 h (hI a c i y) := fun f _ _ _ s => fr_I f s
  have fY : Fr sD0 h (hI (hI r 32 2 0) 21 x (r.1 21 x + 1)) := fI (fI (a69_D0 fr) (by dsimp only [sD0]; omega)) (by dsimp only [sD0]; omega)
  have fin : ∀ {a : Option HH}, Ok a (fun g => dC h v n l x (if nfS h.1 (h.1 14 x) 15 = -1 then 3 else 2) (h.1 21 x + 1) (nfS h.1 (h.1 14 x) 15) (if nfS h.1 (h.1 14 x) 15 = -1 then h.1 62 else updI (h.1 62) (nfS h.1 (h.1 14 x) 15) (h.1 62 (nfS h.1 (h.1 14 x) 15) + 1)) (h.1 67 2) g) → Ok (bnd a fun r4 => gd ((0 : Int) ≤ x ∧ x < (9 : Int)) <| gd (k + 1 ≤ 5) (some ((Sum.inl (r4.1 20 x) : Int ⊕ Nat), (r4, k + 1)))) (fun q => q.1 = .inl (if nfS h.1 (h.1 14 x) 15 = -1 then 3 else 2) ∧ dC h v n l x (if nfS h.1 (h.1 14 x) 15 = -1 then 3 else 2) (h.1 21 x + 1) (nfS h.1 (h.1 14 x) 15) (if nfS h.1 (h.1 14 x) 15 = -1 then h.1 62 else updI (h.1 62) (nfS h.1 (h.1 14 x) 15) (h.1 62 (nfS h.1 (h.1 14 x) 15) + 1)) (h.1 67 2) q.2.1) := fun {a} ha => by
    refine ok_bnd ha (fun g q => ?_)
    refine ok_gd (by omega) ?_
    refine ok_gd (by omega) ?_
    exact ok_some ⟨by rw [q.2.1.1, updI_s], q⟩
  simp only [nX11_door_77, bX11_door_77, nX11_failAtDoor, bX11_failAtDoor]
  refine ok_ndt (sX11_needState2 _ _) (by decide) ?_
  refine ok_gd (by omega) ?_
  refine ok_tl ?_
  refine ok_gd (by omega) ?_
  refine ok_be (sX3_forget _) ?_
  refine ok_pos True.intro ?_
  refine ok_gd (by omega) ?_
  refine fin ?_
  have e21' : (hI r 32 2 0).1 21 x = r.1 21 x := by rw [rI_n (by decide)]
  rw [e21']
  have e21'' : (hI (hI r 32 2 0) 21 x (r.1 21 x + 1)).1 21 x = r.1 21 x + 1 := by rw [rI_s, updI_s]
  refine ok_gd (by omega) ?_
  refine ok_gd (by omega) ?_
  refine ok_gd (by omega) ?_
  refine ok_bs ?_
  refine ok_gd (by omega) ?_
  rw [e21'']
  have y21 : (hI (hI r 32 2 0) 21 x (r.1 21 x + 1)).1 21 = updI (h.1 21) x (h.1 21 x + 1) := by rw [rI_s, rI_n (by decide), e 21 (by omega)]
  have y32 : (hI (hI r 32 2 0) 21 x (r.1 21 x + 1)).1 32 1 = h.1 32 1 ∧ (hI (hI r 32 2 0) 21 x (r.1 21 x + 1)).1 32 2 = 0 := by
    rw [rI_n (by decide), rI_s, updI_n (by decide), updI_s, e 32 (by omega)]
    exact ⟨rfl, rfl⟩
  have rY : ∀ c, c < 69 → c ≠ 32 → c ≠ 21 → (hI (hI r 32 2 0) 21 x (r.1 21 x + 1)).1 c = h.1 c := fun c hc h1 h2 => by rw [rI_n (by omega), rI_n (by omega), e c (by omega)]
  have lY : rowL ((hI (hI r 32 2 0) 21 x (r.1 21 x + 1)).1 69) 0 n.toNat = l := by rw [rI_n (by decide), rI_n (by decide)]; exact hl
  by_cases c1 : r.1 21 x + 1 < 3
  · have hcc : costL h.1 v (l ++ [x]) = -1 := by
      by_cases q : costL h.1 v (l ++ [x]) = -1
      · exact q
      · exact absurd ⟨by omega, q⟩ hc
    have fX : Fr sD0 h (hI (hI (hI r 32 2 0) 21 x (r.1 21 x + 1)) 69 n x) := fI fY (by dsimp only [sD0]; omega)
    have rX : ∀ c, c < 69 → c ≠ 32 → c ≠ 21 → (hI (hI (hI r 32 2 0) 21 x (r.1 21 x + 1)) 69 n x).1 c = h.1 c := fun c hc h1 h2 => by rw [rI_n (by omega), rY c hc h1 h2]
    have rl : rowL ((hI (hI (hI r 32 2 0) 21 x (r.1 21 x + 1)) 69 n x).1 69) 0 (n + 1).toNat = l ++ [x] := by
      rw [show (n + 1).toNat = n.toNat + 1 by omega, rI_s, rowL_snoc, rI_n (by decide), rI_n (by decide), show (0 : Int) + (n.toNat : Int) = n by omega, updI_s, ← hl]
      congr 1
      exact rowL_ext (fun j hj => updI_n (by omega))
    have lX : rowL ((hI (hI (hI r 32 2 0) 21 x (r.1 21 x + 1)) 69 n x).1 69) 0 n.toNat = l := by
      rw [← lY, rI_s]
      exact rowL_ext (fun j hj => updI_n (by omega))
    have hVX : VAL (hI (hI (hI r 32 2 0) 21 x (r.1 21 x + 1)) 69 n x).1 := VAL_eq hv (fun c hc => rX c (by omega) (by omega) (by omega)) (by rw [rX 13 (by omega) (by omega) (by omega)]; exact ⟨rfl, rfl⟩)
    have hinX : inR (hI (hI (hI r 32 2 0) 21 x (r.1 21 x + 1)) 69 n x).1 (l ++ [x]) := fun p hp => by
      rw [rX 13 (by omega) (by omega) (by omega)]
      rcases List.mem_append.mp hp with q | q
      · exact hin p q
      · rw [List.mem_singleton.mp q]; exact ⟨x0, x1⟩
    have hcX : costL (hI (hI (hI r 32 2 0) 21 x (r.1 21 x + 1)) 69 n x).1 v (l ++ [x]) = costL h.1 v (l ++ [x]) := costL_eq (rX 7 (by omega) (by omega) (by omega)) (by rw [rX 23 (by omega) (by omega) (by omega), rX 24 (by omega) (by omega) (by omega), rX 25 (by omega) (by omega) (by omega)]; exact ⟨rfl, rfl, rfl⟩) (fun p _ => by
      rw [rX 14 (by omega) (by omega) (by omega), rX 15 (by omega) (by omega) (by omega), rX 17 (by omega) (by omega) (by omega), rX 18 (by omega) (by omega) (by omega), rX 19 (by omega) (by omega) (by omega)]
      exact ⟨⟨rfl, rfl⟩, rfl, rfl, rfl⟩)
    refine ok_pos c1 ?_
    refine ok_pos (by omega) ?_
    refine ok_gd (by omega) ?_
    refine ok_bs ?_
    refine ok_gd (by omega) ?_
    refine ok_be (sX2_costOf hVX a9_69 v0 (by rw [rX 13 (by omega) (by omega) (by omega)]; exact v1) (by omega) (by omega) (by rw [rl]; exact hinX)) ?_
    rw [rl, hcX]
    refine ok_pos hcc ?_
    exact c_away i fX rX (by rw [rI_n (by decide)]; exact y21) (by rw [rI_n (by decide)]; exact y32) x0 x1 v0 (by omega) (by omega) lX
  · refine ok_neg c1 ?_
    exact c_away i fY rY y21 y32 x0 x1 v0 (by omega) (by omega) lY
end DRC

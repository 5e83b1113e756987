/-! LEAST COSTS of sets: the class -/
section HKS
variable {h h' m : HH} {K K1 : Nat → Int → Int} {v n : Int}
theorem so_sym (e : sameO K K1) : sameO K1 K := ⟨e.1.symm, ⟨e.2.1.1.symm, e.2.1.2.1.symm, e.2.1.2.2.1.symm, e.2.1.2.2.2.1.symm, e.2.1.2.2.2.2.symm⟩, ⟨e.2.2.1.1.symm, e.2.2.1.2.1.symm, e.2.2.1.2.2.symm⟩, e.2.2.2.1.symm, e.2.2.2.2.symm⟩
def tabP (K : Nat → Int → Int) (v n : Int) (T : Int → Int) (S i : Int) : Prop := ∀ S' i', 0 ≤ S' → S' ≤ allS n → 0 ≤ i' → i' < n → bt S' i' = true → (S' < S ∨ (S' = S ∧ i' < i)) → hkP K v S' i' (T (S' * 9 + i'))
abbrev s51 : Nat → Int → Prop := fun c _ => c = 51
theorem s51_hk {g : HH} (f : Fr s51 h g) : Fr sHK h g := fr_m (fun c i s => Or.inl s) f
theorem sX1_all (h49 : h.1 49 2 = n) (hn : 0 ≤ n ∧ n ≤ 9) : nX1_all h = some (allS n) := by
  have := allS_b hn
  have e : shlI 1 (h.1 49 2) - 1 = allS n := by rw [h49]; rfl
  unfold nX1_all bX1_all
  rw [e, gd_t (by omega)]
theorem c_drive (hv : VAL h.1) (hc : CH h.1 n) (h49 : h.1 49 2 = n) (v0 : 0 ≤ v) (v1 : v < h.1 13 14) : Ok (nX1_drive v h) (fun g => Fr s51 h g ∧ ∀ S i, 0 ≤ S → S ≤ allS n → 0 ≤ i → i < n → bt S i = true → hkP h.1 v S i (g.1 51 (S * 9 + i))) := by
  have hall := allS_b hc.1
  have inner : ∀ {c2 : Int → Int → HH → Option HH} {P : HH → Prop} {S : Int}, (1 ≤ S ∧ S ≤ allS n) → ∀ (r N : Nat) (i : Int) (m : HH), r < N → i + r = n → 0 ≤ i → Fr s51 h m → tabP h.1 v n (m.1 51) S i → (∀ m', Fr s51 h m' → tabP h.1 v n (m'.1 51) S n → Ok (c2 v (S + 1) m') P) → Ok (nX1_drive_12 c2 N v S i m) P := by
    intro c2 P S hS r
    induction r with
    | zero =>
      intro N i m hN hi i0 f tb hk
      obtain ⟨M, rfl⟩ := fuel_s hN
      have e49 : m.1 49 2 = n := by rw [f.2 49 2 (by dsimp only [s51]; omega)]; exact h49
      rw [nX1_drive_12_s]
      simp only [bX1_drive_12]
      refine ok_neg (by omega) ?_
      refine ok_gd (by omega) ?_
      exact hk m f (by rw [show n = i by omega] at tb ⊢; exact tb)
    | succ r ih =>
      intro N i m hN hi i0 f tb hk
      obtain ⟨M, rfl⟩ := fuel_s hN
      have hc9 := hc.1
      have e49 : m.1 49 2 = n := by rw [f.2 49 2 (by dsimp only [s51]; omega)]; exact h49
      have fk := s51_hk f
      rw [nX1_drive_12_s]
      simp only [bX1_drive_12, nX1_drive_46, bX1_drive_46]
      refine ok_pos (by omega) ?_
      refine ok_be (sX1_has (by omega) (by omega)) ?_
      by_cases cb : bt S i = true
      · rw [if_pos cb]
        refine ok_neg (by decide) ?_
        refine ok_gd (by omega) ?_
        refine ok_gd (by omega) ?_
        have hrm := rmS_b (S := S) (i := i) (by omega) (by omega) cb
        refine ok_bnd (sX1_leastEnd (hk_VAL hv fk) (hk_CH hc fk) e49 v0 (by rw [fr_c f 13 (fun i s => by dsimp only [s51] at s; omega)]; exact v1) (S := S) (i := i) (by omega) (by omega) cb (fun j j0 j1 jb => so_hkP (so_sym (so_fr fk)) (tb (rmS S i) j (by omega) (by omega) j0 j1 jb (Or.inl hrm.2)))) (fun e he => ?_)
        have he := so_hkP (so_fr fk) he
        refine ok_gd (by omega) ?_
        refine ok_bs ?_
        refine ok_gd (by omega) ?_
        refine ih M (i + 1) _ (by omega) (by omega) (by omega) (fr_I f rfl) (fun S' i' s0 s1 i0' i1' hb' hlt => ?_) hk
        rw [rI_s, updI_at]
        by_cases c : S' * 9 + i' = S * 9 + i
        · have e1 : S' = S := by omega
          have e2 : i' = i := by omega
          rw [if_pos c, e1, e2]
          exact he
        · rw [if_neg c]
          exact tb S' i' s0 s1 i0' i1' hb' (by omega)
      · rw [if_neg cb]
        refine ok_pos rfl ?_
        refine ok_gd (by omega) ?_
        refine ih M (i + 1) m (by omega) (by omega) (by omega) f (fun S' i' s0 s1 i0' i1' hb' hlt => ?_) hk
        by_cases c : S' = S ∧ i' = i
        · rw [c.1, c.2] at hb'; exact absurd hb' cb
        · exact tb S' i' s0 s1 i0' i1' hb' (by omega)
  have key : ∀ (r N : Nat) (S : Int) (m : HH), r < N → S + r = allS n + 1 → 1 ≤ S → Fr s51 h m → tabP h.1 v n (m.1 51) S 0 → Ok (nX1_drive_2 N v S m) (fun g => Fr s51 h g ∧ ∀ S i, 0 ≤ S → S ≤ allS n → 0 ≤ i → i < n → bt S i = true → hkP h.1 v S i (g.1 51 (S * 9 + i))) := by
    intro r
    induction r with
    | zero =>
      intro N S m hN hS s1 f tb
      obtain ⟨M, rfl⟩ := fuel_s hN
      have e49 : m.1 49 2 = n := by rw [f.2 49 2 (by dsimp only [s51]; omega)]; exact h49
      rw [nX1_drive_2_s]
      simp only [bX1_drive_2]
      refine ok_be (sX1_all e49 hc.1) ?_
      refine ok_pos (by omega) ?_
      exact ok_some ⟨f, fun S' i' s0 s1 i0 i1 hb => tb S' i' s0 s1 i0 i1 hb (Or.inl (by omega))⟩
    | succ r ih =>
      intro N S m hN hS s1 f tb
      obtain ⟨M, rfl⟩ := fuel_s hN
      have e49 : m.1 49 2 = n := by rw [f.2 49 2 (by dsimp only [s51]; omega)]; exact h49
      rw [nX1_drive_2_s]
      simp only [bX1_drive_2]
      refine ok_be (sX1_all e49 hc.1) ?_
      refine ok_neg (by omega) ?_
      refine inner (by omega) n.toNat 100000 0 m (by have := hc.1; omega) (by have := hc.1; omega) (by omega) f tb (fun m' f' tb' => ?_)
      refine ih M (S + 1) m' (by omega) (by omega) (by omega) f' (fun S' i' s0 s1 i0 i1 hb hlt => ?_)
      exact tb' S' i' s0 s1 i0 i1 hb (by omega)
  unfold nX1_drive bX1_drive
  refine key (allS n).toNat 100000 1 h (by omega) (by omega) (by omega) fr_r (fun S' i' s0 s1 i0 i1 hb hlt => ?_)
  have : S' = 0 := by omega
  rw [this, bt_z] at hb
  cases hb
/-- an order of a set that is there always -/
def canS (S : Int) : Nat → List Int
  | 0 => []
  | k + 1 => if bt S (k : Int) = true then canS S k ++ [(k : Int)] else canS S k
theorem canS_m {S : Int} : ∀ {k : Nat} {i : Int}, i ∈ canS S k ↔ (0 ≤ i ∧ i < k) ∧ bt S i = true
  | 0, i => ⟨fun q => absurd q List.not_mem_nil, fun q => by omega⟩
  | k + 1, i => by
    rw [canS]
    by_cases c : bt S (k : Int) = true
    · rw [if_pos c, List.mem_append, List.mem_singleton, canS_m]
      constructor
      · rintro (q | q)
        · exact ⟨by omega, q.2⟩
        · rw [q]; exact ⟨by omega, c⟩
      · rintro ⟨q1, q2⟩
        by_cases e : i = k
        · exact Or.inr e
        · exact Or.inl ⟨by omega, q2⟩
    · rw [if_neg c, canS_m]
      constructor
      · rintro ⟨q1, q2⟩
        exact ⟨by omega, q2⟩
      · rintro ⟨q1, q2⟩
        by_cases e : i = k
        · rw [e] at q2; exact absurd q2 c
        · exact ⟨by omega, q2⟩
theorem canS_nd {S : Int} : ∀ {k : Nat}, (canS S k).Nodup
  | 0 => List.nodup_nil
  | k + 1 => by
    rw [canS]
    by_cases c : bt S (k : Int) = true
    · rw [if_pos c, List.nodup_append]
      refine ⟨canS_nd, List.nodup_cons.mpr ⟨List.not_mem_nil, List.nodup_nil⟩, fun a ha b hb => ?_⟩
      rw [List.mem_singleton.mp hb]
      have := (canS_m.mp ha).1
      omega
    · rw [if_neg c]; exact canS_nd
theorem canS_of {S : Int} : ofS S (canS S 9) := ⟨canS_nd, fun i => canS_m⟩
theorem canS_le {S : Int} {n : Int} (hn : 0 ≤ n ∧ n ≤ 9) (hS : 0 ≤ S ∧ S ≤ allS n) : canS S n.toNat = canS S 9 := by
  have : ∀ k : Nat, n.toNat ≤ k → k ≤ 9 → canS S k = canS S n.toNat := fun k => by
    induction k with
    | zero => intro h1 _; rw [show n.toNat = 0 by omega]
    | succ k ih =>
      intro h1 h2
      by_cases c : n.toNat = k + 1
      · rw [c]
      · rw [canS, if_neg (fun q => by have := bt_le hn hS (j := k) (by omega) q; omega)]
        exact ih (by omega) (by omega)
  exact (this 9 (by omega) (by omega)).symm
theorem perm_nd : ∀ {l l' : List Int}, l.Nodup → l'.Nodup → (∀ i, i ∈ l ↔ i ∈ l') → l.Perm l'
  | [], l', _, _, h => by
    cases l' with
    | nil => exact List.Perm.refl _
    | cons x l' => exact absurd ((h x).mpr List.mem_cons_self) List.not_mem_nil
  | x :: l, l', h1, h2, h => by
    obtain ⟨n1, n2⟩ := List.nodup_cons.mp h1
    have hx : x ∈ l' := (h x).mp List.mem_cons_self
    have p1 := List.perm_cons_erase hx
    refine (List.Perm.cons x (perm_nd n2 ?_ (fun i => ?_))).trans p1.symm
    · have := p1.nodup_iff.mp h2
      exact (List.nodup_cons.mp this).2
    · have nd := (List.nodup_cons.mp (p1.nodup_iff.mp h2)).1
      constructor
      · intro q
        have q2 := (h i).mp (List.mem_cons_of_mem _ q)
        rcases List.mem_cons.mp (p1.mem_iff.mp q2) with e | e
        · exact absurd (e ▸ q) n1
        · exact e
      · intro q
        have q2 := p1.mem_iff.mpr (List.mem_cons_of_mem _ q)
        rcases List.mem_cons.mp ((h i).mpr q2) with e | e
        · rw [e] at q; exact absurd q nd
        · exact e
theorem ofS_p {S : Int} {l l' : List Int} (h : ofS S l) (h' : ofS S l') : l.Perm l' := perm_nd h.1 h'.1 (fun i => (h.2 i).trans (h'.2 i).symm)
/-- the least cost of a set -/
def csP (K : Nat → Int → Int) (v S r : Int) : Prop := (r = -1 ∧ ∀ l, ofS S l → cE K v l = -1) ∨ (r ≠ -1 ∧ (∃ l, ofS S l ∧ cE K v l = r) ∧ ∀ l, ofS S l → cE K v l = -1 ∨ r ≤ cE K v l)
theorem csP_u {S r r' : Int} (h : csP K v S r) (h' : csP K v S r') : r = r' := by
  rcases h with ⟨a, b⟩ | ⟨a, ⟨l, b1, b2⟩, c⟩ <;> rcases h' with ⟨a', b'⟩ | ⟨a', ⟨l', b1', b2'⟩, c'⟩
  · omega
  · have := b l' b1'; omega
  · have := b' l b1; omega
  · rcases c l' b1' with q | q <;> rcases c' l b1 with w | w <;> omega
/-- the least back of orders whose last is below k -/
def bkP (K : Nat → Int → Int) (v S k b : Int) : Prop := (b = -1 ∨ (0 ≤ b ∧ b ≤ 4000)) ∧ (b ≠ -1 → ∃ l i, ofS S (l ++ [i]) ∧ vE K v (l ++ [i]) ≠ -1 ∧ dK K (K 14 (K 50 i)) 0 ≠ -1 ∧ vE K v (l ++ [i]) + dK K (K 14 (K 50 i)) 0 = b) ∧ ∀ l i, ofS S (l ++ [i]) → i < k → vE K v (l ++ [i]) = -1 ∨ dK K (K 14 (K 50 i)) 0 = -1 ∨ (b ≠ -1 ∧ b ≤ vE K v (l ++ [i]) + dK K (K 14 (K 50 i)) 0)
theorem sX1_homeFrom (hv : VAL h.1) (hc : CH h.1 n) {i : Int} (hi : 0 ≤ i ∧ i < n) : nX1_homeFrom h i = some (dK h.1 (h.1 14 (h.1 50 i)) 0) := by
  have hn := v_n hv
  have hci := hc.2 i hi.1 hi.2
  have hpi := v_p hv hci.1 hci.2
  have := hc.1
  unfold nX1_homeFrom bX1_homeFrom
  rw [gd_t (by omega), gd_t (by omega), sX9_minutesOf (by omega) (by omega) (by omega) (by omega), bnd_some]
theorem sX1_costOfSet (hv : VAL h.1) (hc : CH h.1 n) (h49 : h.1 49 2 = n) (v0 : 0 ≤ v) (v1 : v < h.1 13 14) {S : Int} (hS : 0 ≤ S ∧ S ≤ allS n) (ht : ∀ i, 0 ≤ i → i < n → bt S i = true → hkP h.1 v S i (h.1 51 (S * 9 + i))) : Ok (nX1_costOfSet h v S) (csP h.1 v S) := by
  have hvv := v_v hv v0 v1
  have hn := v_n hv
  have hall := allS_b hc.1
  have hc9 := hc.1
  unfold nX1_costOfSet bX1_costOfSet
  by_cases cS : S = 0
  · refine ok_pos cS ?_
    refine ok_some (Or.inr ⟨by decide, ⟨[], (ofS_nil (by omega)).mpr cS, costL_nil hv v0 v1⟩, fun l hl => ?_⟩)
    have : l = [] := by
      cases l with
      | nil => rfl
      | cons x l =>
        have := (hl.2 x).mp List.mem_cons_self
        rw [cS, bt_z] at this
        cases this.2
    rw [this]
    have e : cE h.1 v [] = 0 := costL_nil hv v0 v1
    rw [e]
    exact Or.inr (Int.le_refl _)
  · refine ok_neg cS ?_
    have hsub : ∀ l, ofS S l → inR h.1 (l.map (h.1 50)) := fun l hl => ofS_in hc (by omega) hl
    -- sizes
    have hsz : ∀ k : Nat, (k : Int) ≤ n → 0 ≤ sumL (h.1 15) ((canS S k).map (h.1 50)) ∧ sumL (h.1 15) ((canS S k).map (h.1 50)) ≤ 100 * k := fun k => by
      induction k with
      | zero => intro _; exact ⟨Int.le_refl _, Int.le_refl _⟩
      | succ k ih =>
        intro hk
        have := ih (by omega)
        have hck := hc.2 k (by omega) (by omega)
        have hpk := v_p hv hck.1 hck.2
        rw [canS]
        split
        · rw [List.map_append, sumL_app]
          show 0 ≤ _ + (h.1 15 (h.1 50 k) + 0) ∧ _ + (h.1 15 (h.1 50 k) + 0) ≤ _
          omega
        · omega
    have key : ∀ (r N k : Nat) (b : Int), r < N → (k : Int) + r = n → bkP h.1 v S k b → Ok (nX1_costOfSet_14 h N v S b (sumL (h.1 15) ((canS S k).map (h.1 50))) k) (csP h.1 v S) := by
      intro r
      induction r with
      | zero =>
        intro N k b hN hk hb
        obtain ⟨M, rfl⟩ := fuel_s hN
        obtain ⟨b1, b2, b3⟩ := hb
        rw [nX1_costOfSet_14_s]
        simp only [bX1_costOfSet_14, nX1_costOfSet_148, bX1_costOfSet_148, nX1_costOfSet_149, bX1_costOfSet_149]
        have ek : canS S k = canS S 9 := by
          have := canS_le hc.1 hS
          rw [show n.toNat = k by omega] at this
          exact this
        have szl : ∀ l, ofS S l → sumL (h.1 15) (l.map (h.1 50)) = sumL (h.1 15) ((canS S k).map (h.1 50)) := fun l hl => by
          rw [ek]; exact sumL_perm (List.Perm.map _ (ofS_p hl canS_of))
        have lst : ∀ l, ofS S l → ∃ (l' : List Int) (i : Int), l = l' ++ [i] ∧ i < k := fun l hl => by
          rcases List.eq_nil_or_concat l with q | ⟨l', j, q⟩
          · rw [q] at hl; exact absurd ((ofS_nil (by omega)).mp hl) cS
          · refine ⟨l', j, by rw [q, List.concat_eq_append], ?_⟩
            have hj := (hl.2 j).mp (by rw [q, List.concat_eq_append]; exact List.mem_append_right _ List.mem_cons_self)
            have := bt_le hc.1 (by omega) hj.1 hj.2
            omega
        have none_ : (b = -1 ∨ h.1 25 v < b ∨ h.1 23 v < sumL (h.1 15) ((canS S k).map (h.1 50))) → csP h.1 v S (-1) := fun q => Or.inl ⟨rfl, fun l hl => by
          obtain ⟨l', i, e, hi⟩ := lst l hl
          rw [e] at hl ⊢
          rw [cE_v hv (by omega) (hsub _ hl), pE_snoc, szl _ hl]
          by_cases c : vE h.1 v (l' ++ [i]) = -1 ∨ dK h.1 (h.1 14 (h.1 50 i)) 0 = -1 ∨ h.1 25 v < vE h.1 v (l' ++ [i]) + dK h.1 (h.1 14 (h.1 50 i)) 0 ∨ h.1 23 v < sumL (h.1 15) ((canS S k).map (h.1 50))
          · rw [if_pos c]
          · exfalso
            apply c
            rcases b3 l' i hl hi with w | w | w
            · exact Or.inl w
            · exact Or.inr (Or.inl w)
            · rcases q with q | q | q
              · exact absurd q w.1
              · exact Or.inr (Or.inr (Or.inl (by omega)))
              · exact Or.inr (Or.inr (Or.inr q))⟩
        refine ok_neg (by omega) ?_
        by_cases c1 : b = -1
        · refine ok_pos c1 ?_
          refine ok_pos True.intro ?_
          exact ok_some (none_ (Or.inl c1))
        · refine ok_neg c1 ?_
          refine ok_gd (by omega) ?_
          by_cases c2 : h.1 25 v < b
          · refine ok_pos c2 ?_
            refine ok_pos True.intro ?_
            exact ok_some (none_ (Or.inr (Or.inl c2)))
          · refine ok_neg c2 ?_
            refine ok_gd (by omega) ?_
            by_cases c3 : h.1 23 v < sumL (h.1 15) ((canS S k).map (h.1 50))
            · refine ok_pos c3 ?_
              refine ok_pos True.intro ?_
              exact ok_some (none_ (Or.inr (Or.inr c3)))
            · refine ok_neg c3 ?_
              refine ok_neg (by decide) ?_
              refine ok_gd (by omega) ?_
              have hb4 := b1.resolve_left c1
              refine ok_gd (by clear b2 b3; omega) ?_
              obtain ⟨l, i, l1, l2, l3, l4⟩ := b2 c1
              have hvl := (vE_b hv (by omega) (hsub _ l1)).resolve_left l2
              have hci := (l1.2 i).mp (List.mem_append_right _ List.mem_cons_self)
              have hin := bt_le hc.1 (by omega) hci.1 hci.2
              have hcc := hc.2 i hci.1.1 hin
              have hpp := v_p hv hcc.1 hcc.2
              have hdd := v_D hv (a := h.1 14 (h.1 50 i)) (b := 0) (by omega) (by omega) (by omega) (by omega)
              refine ok_some (Or.inr ⟨by clear b2 b3; omega, ⟨l ++ [i], l1, ?_⟩, fun l' hl' => ?_⟩)
              · rw [cE_v hv (by omega) (hsub _ l1), pE_snoc, szl _ l1, l4]
                rw [if_neg]
                rintro (q | q | q | q)
                · exact l2 q
                · exact l3 q
                · exact c2 q
                · exact c3 q
              · obtain ⟨l'', j, e, hj⟩ := lst l' hl'
                rw [e] at hl' ⊢
                rw [cE_v hv (by omega) (hsub _ hl'), pE_snoc, szl _ hl']
                by_cases c : vE h.1 v (l'' ++ [j]) = -1 ∨ dK h.1 (h.1 14 (h.1 50 j)) 0 = -1 ∨ h.1 25 v < vE h.1 v (l'' ++ [j]) + dK h.1 (h.1 14 (h.1 50 j)) 0 ∨ h.1 23 v < sumL (h.1 15) ((canS S k).map (h.1 50))
                · rw [if_pos c]; exact Or.inl rfl
                · rw [if_neg c]
                  rcases b3 l'' j hl' hj with w | w | w
                  · exact absurd (Or.inl w) c
                  · exact absurd (Or.inr (Or.inl w)) c
                  · exact Or.inr (by have w2 := w.2; clear b2 b3; omega)
      | succ r ih =>
        intro N k b hN hk hb
        obtain ⟨M, rfl⟩ := fuel_s hN
        have hk9 : 0 ≤ (k : Int) ∧ (k : Int) < 9 := by omega
        have hck := hc.2 k (by omega) (by omega)
        have hpk := v_p hv hck.1 hck.2
        have hdk := v_D hv (a := h.1 14 (h.1 50 k)) (b := 0) (by omega) (by omega) (by omega) (by omega)
        have hs0 := hsz k (by omega)
        have ek : (k : Int) + 1 = ((k + 1 : Nat) : Int) := by omega
        obtain ⟨b1, b2, b3⟩ := hb
        rw [nX1_costOfSet_14_s]
        simp only [bX1_costOfSet_14, nX1_costOfSet_32, bX1_costOfSet_32, nX1_costOfSet_100, bX1_costOfSet_100, nX1_costOfSet_106, bX1_costOfSet_106]
        refine ok_pos (by omega) ?_
        refine ok_be (sX1_has (by omega) hk9) ?_
        by_cases cb : bt S k = true
        · rw [if_pos cb]
          refine ok_neg (by decide) ?_
          have esz : sumL (h.1 15) ((canS S k).map (h.1 50)) + h.1 15 (h.1 50 k) = sumL (h.1 15) ((canS S (k + 1)).map (h.1 50)) := by
            rw [canS, if_pos cb, List.map_append, sumL_app]
            show _ = _ + (h.1 15 (h.1 50 k) + 0)
            omega
          refine ok_gd (by omega) ?_
          refine ok_gd (by omega) ?_
          refine ok_gd (by omega) ?_
          refine ok_gd (by omega) ?_
          refine ok_gd (by omega) ?_
          refine ok_gd (by omega) ?_
          refine ok_be (sX1_homeFrom hv hc (i := k) (by omega)) ?_
          rw [esz]
          obtain ⟨t1, t2, t3⟩ := ht k (by omega) (by omega) cb
          generalize h.1 51 (S * 9 + k) = e at *
          have nx : ∀ b', bkP h.1 v S ((k + 1 : Nat) : Int) b' → Ok (gd (R32 ((k : Int) + 1)) (nX1_costOfSet_14 h M v S b' (sumL (h.1 15) ((canS S (k + 1)).map (h.1 50))) ((k : Int) + 1))) (csP h.1 v S) := fun b' hb' => by
            refine ok_gd (by omega) ?_
            rw [ek]
            exact ih M (k + 1) b' (by omega) (by omega) hb'
          have keep : (∀ l, ofS S (l ++ [(k : Int)]) → vE h.1 v (l ++ [(k : Int)]) = -1 ∨ dK h.1 (h.1 14 (h.1 50 k)) 0 = -1 ∨ (b ≠ -1 ∧ b ≤ vE h.1 v (l ++ [(k : Int)]) + dK h.1 (h.1 14 (h.1 50 k)) 0)) → Ok (gd (R32 ((k : Int) + 1)) (nX1_costOfSet_14 h M v S b (sumL (h.1 15) ((canS S (k + 1)).map (h.1 50))) ((k : Int) + 1))) (csP h.1 v S) := fun hq => by
            refine nx b ⟨b1, b2, fun l i hl hi => ?_⟩
            by_cases c : i = k
            · rw [c] at hl ⊢; exact hq l hl
            · exact b3 l i hl (by omega)
          by_cases ce : e = -1
          · refine ok_pos ce ?_
            refine keep (fun l hl => ?_)
            rcases t3 l hl with q | q
            · exact Or.inl q
            · exact absurd ce q.1
          · have he := t1.resolve_left ce
            refine ok_neg ce ?_
            by_cases ch : dK h.1 (h.1 14 (h.1 50 k)) 0 = -1
            · refine ok_pos ch ?_
              exact keep (fun l hl => Or.inr (Or.inl ch))
            · refine ok_neg ch ?_
              obtain ⟨lw, lw1, lw2⟩ := t2 ce
              have low : ∀ l, ofS S (l ++ [(k : Int)]) → vE h.1 v (l ++ [(k : Int)]) = -1 ∨ e ≤ vE h.1 v (l ++ [(k : Int)]) := fun l hl => by
                rcases t3 l hl with q | q
                · exact Or.inl q
                · exact Or.inr q.2
              have take : (b = -1 ∨ e + dK h.1 (h.1 14 (h.1 50 k)) 0 < b) → Ok (gd (R32 (e + dK h.1 (h.1 14 (h.1 50 k)) 0)) <| gd (R32 ((k : Int) + 1)) (nX1_costOfSet_14 h M v S (e + dK h.1 (h.1 14 (h.1 50 k)) 0) (sumL (h.1 15) ((canS S (k + 1)).map (h.1 50))) ((k : Int) + 1))) (csP h.1 v S) := fun hq => by
                refine ok_gd (by omega) ?_
                refine nx _ ⟨Or.inr (by omega), fun _ => ⟨lw, k, lw1, by rw [lw2]; exact ce, ch, by rw [lw2]⟩, fun l i hl hi => ?_⟩
                by_cases c : i = k
                · rw [c] at hl ⊢
                  rcases low l hl with q | q
                  · exact Or.inl q
                  · exact Or.inr (Or.inr (by omega))
                · rcases b3 l i hl (by omega) with w | w | w
                  · exact Or.inl w
                  · exact Or.inr (Or.inl w)
                  · rcases hq with z | z
                    · exact absurd z w.1
                    · exact Or.inr (Or.inr (by omega))
              by_cases c1 : b = -1
              · refine ok_pos c1 ?_
                exact take (Or.inl c1)
              · refine ok_neg c1 ?_
                refine ok_gd (by omega) ?_
                by_cases c2 : e + dK h.1 (h.1 14 (h.1 50 k)) 0 < b
                · refine ok_pos c2 ?_
                  exact take (Or.inr c2)
                · refine ok_neg c2 ?_
                  refine keep (fun l hl => ?_)
                  rcases low l hl with q | q
                  · exact Or.inl q
                  · exact Or.inr (Or.inr ⟨c1, by omega⟩)
        · rw [if_neg cb]
          refine ok_pos rfl ?_
          refine ok_gd (by omega) ?_
          have esz : canS S (k + 1) = canS S k := by rw [canS, if_neg cb]
          rw [ek, ← esz]
          refine ih M (k + 1) b (by omega) (by omega) ⟨b1, b2, fun l i hl hi => ?_⟩
          by_cases c : i = k
          · rw [c] at hl
            exact absurd ((hl.2 k).mp (List.mem_append_right _ List.mem_cons_self)).2 cb
          · exact b3 l i hl (by omega)
    exact key n.toNat 100000 0 (-1) (by omega) (by omega) ⟨Or.inl rfl, fun q => absurd rfl q, fun l i hl hi => by
      have := (hl.2 i).mp (List.mem_append_right _ List.mem_cons_self)
      omega⟩
end HKS

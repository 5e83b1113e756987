/-! LEAST ENDS by sets: the class -/
section HK
variable {h h' m : HH} {K K1 : Nat → Int → Int} {v n : Int}
def hkP (K : Nat → Int → Int) (v S i e : Int) : Prop := (e = -1 ∨ (K 24 v ≤ e ∧ e ≤ 1499)) ∧ (e ≠ -1 → ∃ l, ofS S (l ++ [i]) ∧ vE K v (l ++ [i]) = e) ∧ ∀ l, ofS S (l ++ [i]) → vE K v (l ++ [i]) = -1 ∨ (e ≠ -1 ∧ e ≤ vE K v (l ++ [i]))
def sameO (K K1 : Nat → Int → Int) : Prop := K1 7 = K 7 ∧ (K1 14 = K 14 ∧ K1 15 = K 15 ∧ K1 17 = K 17 ∧ K1 18 = K 18 ∧ K1 19 = K 19) ∧ (K1 23 = K 23 ∧ K1 24 = K 24 ∧ K1 25 = K 25) ∧ K1 50 = K 50 ∧ K1 13 = K 13
theorem so_srv (e : sameO K K1) (p pl mn : Int) : srv K1 p pl mn = srv K p pl mn := by
  unfold srv dK
  rw [e.1, e.2.1.1, e.2.1.2.2.1, e.2.1.2.2.2.1]
theorem so_gE (e : sameO K K1) : ∀ (l : List Int) (mn pl : Int), gE K1 l mn pl = gE K l mn pl
  | [], _, _ => rfl
  | p :: l, mn, pl => by rw [gE, gE, so_srv e, e.2.1.1, e.2.1.2.2.2.2, so_gE e l]
theorem so_lPl (e : sameO K K1) : ∀ (l : List Int) (pl : Int), lPl K1 l pl = lPl K l pl
  | [], _ => rfl
  | p :: l, pl => by rw [lPl, lPl, e.2.1.1, so_lPl e l]
theorem so_vE (e : sameO K K1) (v : Int) (l : List Int) : vE K1 v l = vE K v l := by
  unfold vE
  rw [so_gE e, e.2.2.1.2.1, e.2.2.2.1]
theorem so_pE (e : sameO K K1) (l : List Int) : pE K1 l = pE K l := by
  unfold pE
  rw [so_lPl e, e.2.2.2.1]
theorem so_hkP (e : sameO K K1) {v S i x : Int} (h : hkP K1 v S i x) : hkP K v S i x := by
  unfold hkP at h ⊢
  rw [e.2.2.1.2.1] at h
  refine ⟨h.1, fun q => ?_, fun l hl => ?_⟩
  · obtain ⟨l, a, b⟩ := h.2.1 q
    exact ⟨l, a, by rw [← so_vE e]; exact b⟩
  · have := h.2.2 l hl
    rw [so_vE e] at this
    exact this
abbrev sHK : Nat → Int → Prop := fun c _ => c = 51 ∨ c = 52
theorem so_fr (f : Fr sHK h m) : sameO h.1 m.1 := by
  have e : ∀ c, c ≠ 51 → c ≠ 52 → m.1 c = h.1 c := fun c h1 h2 => fr_c f c (fun i s => by dsimp only [sHK] at s; omega)
  unfold sameO
  rw [e 7 (by decide) (by decide), e 14 (by decide) (by decide), e 15 (by decide) (by decide), e 17 (by decide) (by decide), e 18 (by decide) (by decide), e 19 (by decide) (by decide), e 23 (by decide) (by decide), e 24 (by decide) (by decide), e 25 (by decide) (by decide), e 50 (by decide) (by decide), e 13 (by decide) (by decide)]
  exact ⟨rfl, ⟨rfl, rfl, rfl, rfl, rfl⟩, ⟨rfl, rfl, rfl⟩, rfl, rfl⟩
theorem hk_VAL (hv : VAL h.1) (f : Fr sHK h m) : VAL m.1 := VAL_eq hv (fun c hc => fr_c f c (fun i s => by dsimp only [sHK] at s; omega)) (by rw [fr_c f 13 (fun i s => by dsimp only [sHK] at s; omega)]; exact ⟨rfl, rfl⟩)
theorem hk_CH (hc : CH h.1 n) (f : Fr sHK h m) : CH m.1 n := by
  unfold CH at hc ⊢
  rw [fr_c f 50 (fun i s => by dsimp only [sHK] at s; omega), fr_c f 13 (fun i s => by dsimp only [sHK] at s; omega)]
  exact hc
theorem sX1_has {S i : Int} (hS : 0 ≤ S ∧ S < 512) (hi : 0 ≤ i ∧ i < 9) : nX1_has h S i = some (if bt S i = true then 1 else 0) := by
  unfold nX1_has bX1_has
  rw [bt_has hS hi]
  by_cases c : bt S i = true
  · rw [if_pos c, if_pos rfl, gd_t (by omega)]
  · rw [if_neg c, if_neg (by decide), gd_t (by omega)]
/-- the least begin of a service behind all of a set -/
def beP (K : Nat → Int → Int) (v A p k b : Int) : Prop := (b = -1 ∨ (K 24 v ≤ b ∧ b ≤ 1439)) ∧ (b ≠ -1 → ∃ l, ofS A l ∧ vE K v l ≠ -1 ∧ srv K p (pE K l) (vE K v l) = b) ∧ ∀ l, ofS A l → (l = [] ∨ ∃ l' j, l = l' ++ [j] ∧ j < k) → vE K v l = -1 ∨ srv K p (pE K l) (vE K v l) = -1 ∨ (b ≠ -1 ∧ b ≤ srv K p (pE K l) (vE K v l))
theorem sX1_leastEnd (hv : VAL h.1) (hc : CH h.1 n) (h49 : h.1 49 2 = n) (v0 : 0 ≤ v) (v1 : v < h.1 13 14) {S i : Int} (hS : 0 ≤ S ∧ S ≤ allS n) (hi : 0 ≤ i ∧ i < n) (hb : bt S i = true) (ht : ∀ j, 0 ≤ j → j < n → bt (rmS S i) j = true → hkP h.1 v (rmS S i) j (h.1 51 (rmS S i * 9 + j))) : Ok (nX1_leastEnd h v S i) (hkP h.1 v S i) := by
  have hvv := v_v hv v0 v1
  have hn := v_n hv
  have hall := allS_b hc.1
  have h512 : 0 ≤ S ∧ S < 512 := by omega
  have hi9 : 0 ≤ i ∧ i < 9 := by have := hc.1; omega
  have hA := rmS_b h512 hi9 hb
  have hci := hc.2 i hi.1 hi.2
  have hpi := v_p hv hci.1 hci.2
  have hsub : ∀ l, ofS (rmS S i) l → inR h.1 (l.map (h.1 50)) := fun l hl => ofS_in hc (by omega) hl
  have fin : ∀ b, beP h.1 v (rmS S i) (h.1 50 i) n b → hkP h.1 v S i (if b = -1 then -1 else b + h.1 19 (h.1 50 i)) := fun b hbe => by
    obtain ⟨b1, b2, b3⟩ := hbe
    have all : ∀ l, ofS (rmS S i) l → l = [] ∨ ∃ l' j, l = l' ++ [j] ∧ j < n := fun l hl => by
      rcases List.eq_nil_or_concat l with q | ⟨l', j, q⟩
      · exact Or.inl q
      · refine Or.inr ⟨l', j, by rw [q, List.concat_eq_append], ?_⟩
        have hj := (hl.2 j).mp (by rw [q, List.concat_eq_append]; exact List.mem_append_right _ List.mem_cons_self)
        exact bt_le hc.1 (by omega) hj.1 hj.2
    refine ⟨?_, fun q => ?_, fun l hl => ?_⟩
    · by_cases c : b = -1
      · rw [if_pos c]; exact Or.inl rfl
      · rw [if_neg c]
        have b4 := b1.resolve_left c
        clear b2 b3
        omega
    · by_cases c : b = -1
      · rw [if_pos c] at q; exact absurd rfl q
      · obtain ⟨l, l1, l2, l3⟩ := b2 c
        refine ⟨l, (ofS_snoc h512).mpr ⟨⟨hi9, hb⟩, l1⟩, ?_⟩
        rw [vE_snoc hv (by omega) (hsub l l1), if_neg l2, l3, if_neg c]
    · obtain ⟨_, hl2⟩ := (ofS_snoc h512).mp hl
      rw [vE_snoc hv (by omega) (hsub l hl2)]
      by_cases c1 : vE h.1 v l = -1
      · rw [if_pos c1]; exact Or.inl rfl
      · rw [if_neg c1]
        by_cases c2 : srv h.1 (h.1 50 i) (pE h.1 l) (vE h.1 v l) = -1
        · rw [if_pos c2]; exact Or.inl rfl
        · rw [if_neg c2]
          rcases b3 l hl2 (all l hl2) with q | q | q
          · exact absurd q c1
          · exact absurd q c2
          · rw [if_neg q.1]
            exact Or.inr (by
              clear b2 b3
              omega)
  have key : ∀ (r N : Nat) (k b : Int), r < N → k + r = n → 0 ≤ k → beP h.1 v (rmS S i) (h.1 50 i) k b → Ok (nX1_leastEnd_48 h N (rmS S i) (h.1 50 i) b k) (hkP h.1 v S i) := by
    intro r
    induction r with
    | zero =>
      intro N k b hN hk k0 hbe
      obtain ⟨M, rfl⟩ := fuel_s hN
      have hf := fin b (by rw [show n = k by omega]; exact hbe)
      rw [nX1_leastEnd_48_s]
      simp only [bX1_leastEnd_48]
      refine ok_neg (by omega) ?_
      by_cases c : b = -1
      · refine ok_pos c ?_
        rw [if_pos c] at hf
        exact ok_some hf
      · have := hbe.1
        refine ok_neg c ?_
        refine ok_gd (by omega) ?_
        refine ok_gd (by omega) ?_
        rw [if_neg c] at hf
        exact ok_some hf
    | succ r ih =>
      intro N k b hN hk k0 hbe
      obtain ⟨M, rfl⟩ := fuel_s hN
      have hk9 : 0 ≤ k ∧ k < 9 := by have := hc.1; omega
      have hck := hc.2 k k0 (by omega)
      have hpk := v_p hv hck.1 hck.2
      obtain ⟨b1, b2, b3⟩ := hbe
      have nx : ∀ b', beP h.1 v (rmS S i) (h.1 50 i) (k + 1) b' → Ok (gd (R32 (k + 1)) (nX1_leastEnd_48 h M (rmS S i) (h.1 50 i) b' (k + 1))) (hkP h.1 v S i) := fun b' hb' => by
        refine ok_gd (by omega) ?_
        exact ih M (k + 1) b' (by omega) (by omega) (by omega) hb'
      -- a prior that adds nothing
      have keep : (∀ l, ofS (rmS S i) (l ++ [k]) → vE h.1 v (l ++ [k]) = -1 ∨ srv h.1 (h.1 50 i) (pE h.1 (l ++ [k])) (vE h.1 v (l ++ [k])) = -1 ∨ (b ≠ -1 ∧ b ≤ srv h.1 (h.1 50 i) (pE h.1 (l ++ [k])) (vE h.1 v (l ++ [k])))) → Ok (gd (R32 (k + 1)) (nX1_leastEnd_48 h M (rmS S i) (h.1 50 i) b (k + 1))) (hkP h.1 v S i) := fun hq => by
        refine nx b ⟨b1, b2, fun l hl hlk => ?_⟩
        rcases hlk with q | ⟨l', j, q, hj⟩
        · exact b3 l hl (Or.inl q)
        · by_cases c : j = k
          · rw [c] at q
            rw [q] at hl ⊢
            exact hq l' hl
          · exact b3 l hl (Or.inr ⟨l', j, q, by omega⟩)
      rw [nX1_leastEnd_48_s]
      simp only [bX1_leastEnd_48, nX1_leastEnd_84, bX1_leastEnd_84, nX1_leastEnd_139, bX1_leastEnd_139, nX1_leastEnd_144, bX1_leastEnd_144, nX1_leastEnd_146, bX1_leastEnd_146, nX1_leastEnd_148, bX1_leastEnd_148]
      refine ok_pos (by omega) ?_
      refine ok_be (sX1_has (by omega) hk9) ?_
      by_cases cb : bt (rmS S i) k = true
      · rw [if_pos cb]
        refine ok_neg (by decide) ?_
        refine ok_gd (by omega) ?_
        refine ok_gd (by omega) ?_
        refine ok_gd (by omega) ?_
        obtain ⟨t1, t2, t3⟩ := ht k k0 (by omega) cb
        generalize h.1 51 (rmS S i * 9 + k) = e at *
        by_cases ce : e = -1
        · refine ok_pos ce ?_
          refine keep (fun l hl => ?_)
          rcases t3 l hl with q | q
          · exact Or.inl q
          · exact absurd ce q.1
        · have he := t1.resolve_left ce
          obtain ⟨lw, lw1, lw2⟩ := t2 ce
          refine ok_neg ce ?_
          refine ok_gd (by omega) ?_
          refine ok_gd (by omega) ?_
          refine ok_be (sX2_serveAt hv hci.1 hci.2 (by omega) (by omega) (by omega) (by omega)) ?_
          have hsr := srv_K hv (p := h.1 50 i) (pl := h.1 14 (h.1 50 k)) (m := e) hci.1 hci.2
          have hdk := v_D hv (a := h.1 14 (h.1 50 k)) (b := h.1 14 (h.1 50 i)) (by omega) (by omega) (by omega) (by omega)
          have low : ∀ l, ofS (rmS S i) (l ++ [k]) → vE h.1 v (l ++ [k]) = -1 ∨ srv h.1 (h.1 50 i) (pE h.1 (l ++ [k])) (vE h.1 v (l ++ [k])) = -1 ∨ (srv h.1 (h.1 50 i) (h.1 14 (h.1 50 k)) e ≠ -1 ∧ srv h.1 (h.1 50 i) (h.1 14 (h.1 50 k)) e ≤ srv h.1 (h.1 50 i) (pE h.1 (l ++ [k])) (vE h.1 v (l ++ [k]))) := fun l hl => by
            rw [pE_snoc]
            rcases t3 l hl with q | q
            · exact Or.inl q
            · by_cases c : srv h.1 (h.1 50 i) (h.1 14 (h.1 50 k)) (vE h.1 v (l ++ [k])) = -1
              · exact Or.inr (Or.inl c)
              · exact Or.inr (Or.inr (srv_m hv hci q.2 c))
          have take : (b = -1 ∨ (srv h.1 (h.1 50 i) (h.1 14 (h.1 50 k)) e ≠ -1 ∧ srv h.1 (h.1 50 i) (h.1 14 (h.1 50 k)) e < b)) → Ok (gd (R32 (k + 1)) (nX1_leastEnd_48 h M (rmS S i) (h.1 50 i) (srv h.1 (h.1 50 i) (h.1 14 (h.1 50 k)) e) (k + 1))) (hkP h.1 v S i) := fun hq => by
            refine nx _ ⟨?_, fun q => ?_, fun l hl hlk => ?_⟩
            · rcases hsr with q | q
              · exact Or.inl q
              · exact Or.inr (by omega)
            · exact ⟨lw ++ [k], lw1, by rw [lw2]; exact ce, by rw [pE_snoc, lw2]⟩
            · rcases hlk with q | ⟨l', j, q, hj⟩
              · rcases b3 l hl (Or.inl q) with w | w | w
                · exact Or.inl w
                · exact Or.inr (Or.inl w)
                · rcases hq with z | z
                  · exact absurd z w.1
                  · exact Or.inr (Or.inr (by omega))
              · by_cases c : j = k
                · rw [c] at q
                  rw [q] at hl ⊢
                  exact low l' hl
                · rcases b3 l hl (Or.inr ⟨l', j, q, by omega⟩) with w | w | w
                  · exact Or.inl w
                  · exact Or.inr (Or.inl w)
                  · rcases hq with z | z
                    · exact absurd z w.1
                    · exact Or.inr (Or.inr (by omega))
          by_cases c1 : b = -1
          · refine ok_pos c1 ?_
            exact take (Or.inl c1)
          · refine ok_neg c1 ?_
            by_cases c2 : srv h.1 (h.1 50 i) (h.1 14 (h.1 50 k)) e = -1
            · refine ok_pos c2 ?_
              refine keep (fun l hl => ?_)
              rcases low l hl with q | q | q
              · exact Or.inl q
              · exact Or.inr (Or.inl q)
              · exact absurd c2 q.1
            · refine ok_neg c2 ?_
              by_cases c3 : srv h.1 (h.1 50 i) (h.1 14 (h.1 50 k)) e < b
              · refine ok_pos c3 ?_
                exact take (Or.inr ⟨c2, c3⟩)
              · refine ok_neg c3 ?_
                refine keep (fun l hl => ?_)
                rcases low l hl with q | q | q
                · exact Or.inl q
                · exact Or.inr (Or.inl q)
                · exact Or.inr (Or.inr ⟨c1, by omega⟩)
      · rw [if_neg cb]
        refine ok_pos rfl ?_
        refine ok_pos True.intro ?_
        refine keep (fun l hl => ?_)
        exact absurd ((hl.2 k).mp (List.mem_append_right _ List.mem_cons_self)).2 cb
  unfold nX1_leastEnd bX1_leastEnd
  refine ok_gd (by omega) ?_
  have e0 : xorI S (shlI 1 i) = rmS S i := rfl
  rw [e0]
  simp only [nX1_leastEnd_43, bX1_leastEnd_43]
  by_cases cA : rmS S i = 0
  · refine ok_pos cA ?_
    refine ok_gd (by omega) ?_
    refine ok_be (sX2_serveAt hv hci.1 hci.2 (by omega) (by omega) (by omega) (by omega)) ?_
    have hsr := srv_K hv (p := h.1 50 i) (pl := 0) (m := h.1 24 v) hci.1 hci.2
    have hdk := v_D hv (a := 0) (b := h.1 14 (h.1 50 i)) (by omega) (by omega) (by omega) (by omega)
    have only : ∀ l, ofS (rmS S i) l → l = [] := fun l hl => by
      cases l with
      | nil => rfl
      | cons x l =>
        have := (hl.2 x).mp List.mem_cons_self
        rw [cA, bt_z] at this
        cases this.2
    have e1 : vE h.1 v [] = h.1 24 v := rfl
    have e2 : pE h.1 [] = 0 := rfl
    refine key n.toNat 100000 0 _ (by have := hc.1; omega) (by have := hc.1; omega) (by omega) ⟨?_, fun q => ?_, fun l hl _ => ?_⟩
    · rcases hsr with q | q
      · exact Or.inl q
      · exact Or.inr (by omega)
    · refine ⟨[], (ofS_nil (by omega)).mpr cA, by rw [e1]; omega, by rw [e1, e2]⟩
    · rw [only l hl, e1, e2]
      by_cases c : srv h.1 (h.1 50 i) 0 (h.1 24 v) = -1
      · exact Or.inr (Or.inl c)
      · exact Or.inr (Or.inr ⟨c, Int.le_refl _⟩)
  · refine ok_neg cA ?_
    refine key n.toNat 100000 0 _ (by have := hc.1; omega) (by have := hc.1; omega) (by omega) ⟨Or.inl rfl, fun q => absurd rfl q, fun l hl hlk => ?_⟩
    rcases hlk with q | ⟨l', j, q, hj⟩
    · rw [q] at hl
      exact absurd ((ofS_nil (by omega)).mp hl) cA
    · have := (hl.2 j).mp (by rw [q]; exact List.mem_append_right _ List.mem_cons_self)
      omega
end HK

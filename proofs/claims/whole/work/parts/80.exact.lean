/-! EXACT: the latest minutes by sets, the least row of all -/
section EXACT
variable {h h' m : HH} {K K1 : Nat → Int → Int} {v n B : Int}
/-- of a van's round -/
def Qr (K : Nat → Int → Int) (v p : Int) : Bool := decide (vw K p = v)
theorem RV_eq (a : RV K) (hr : ∀ c, 28 ≤ c → c ≤ 31 → K1 c = K c) (h13 : K1 13 10 = K 13 10) : RV K1 := fun v h0 h3 => by
  obtain ⟨a1, a2⟩ := a v h0 h3
  rw [rnd_eq hr h0 h3, hr 31 (by omega) (by omega)]
  exact ⟨a1, fun p hp => by rw [h13]; exact a2 p hp⟩
theorem c_round (hv : VAL h.1) (hr : RV h.1) : Ok (nX11_chooseRound v h) (fun g => Fr sCh h g ∧ chI (Qr h.1 v) (h.1 13 10).toNat (g.1 50) (g.1 49 2)) := by
  have hn := v_n hv
  have key : ∀ (r N k : Nat) (m : HH), r < N → (k : Int) + r = h.1 13 10 → Fr sCh h m → chI (Qr h.1 v) k (m.1 50) (m.1 49 2) → Ok (nX11_chooseRound_9 N v k m) (fun g => Fr sCh h g ∧ chI (Qr h.1 v) (h.1 13 10).toNat (g.1 50) (g.1 49 2)) := by
    intro r
    induction r with
    | zero =>
      intro N k m hN hk f ci
      obtain ⟨M, rfl⟩ := fuel_s hN
      have e13 := sc_13 (sCh_sc f)
      rw [nX11_chooseRound_9_s]
      simp only [bX11_chooseRound_9]
      refine ok_neg (by rw [e13]; omega) ?_
      exact ok_some ⟨f, by rw [show (h.1 13 10).toNat = k by omega]; exact ci⟩
    | succ r ih =>
      intro N k m hN hk f ci
      obtain ⟨M, rfl⟩ := fuel_s hN
      have fs := sCh_sc f
      have e13 := sc_13 fs
      have hrm : RV m.1 := RV_eq hr (fun c c1 c2 => sc_c fs c (by unfold scC; omega)) (by rw [e13])
      have evw : vw m.1 k = vw h.1 k := vw_eq (fun c c1 c2 => sc_c fs c (by unfold scC; omega))
      have hl := chL_len (Q := Qr h.1 v) (k := k)
      have ek : (k : Int) + 1 = ((k + 1 : Nat) : Int) := by omega
      rw [nX11_chooseRound_9_s]
      simp only [bX11_chooseRound_9, nX11_chooseRound_40, bX11_chooseRound_40]
      refine ok_pos (by rw [e13]; omega) ?_
      refine ok_be (sX6_vanWith hrm) ?_
      rw [evw]
      by_cases c1 : vw h.1 k = v
      · refine ok_pos c1 ?_
        have q : Qr h.1 v k = true := decide_eq_true c1
        simp only [nX1_choose, bX1_choose, bnd_ite, bnd_gd, bnd_bnd]
        have hc1 := ci.1
        refine ok_pos (by omega) ?_
        refine ok_gd (by omega) ?_
        refine ok_bs ?_
        have e49 : (hI m 50 (m.1 49 2) k).1 49 2 = m.1 49 2 := by rw [rI_n (by decide)]
        rw [e49]
        refine ok_gd (by omega) ?_
        refine ok_bs ?_
        refine ok_bs ?_
        refine ok_gd (by omega) ?_
        rw [ek]
        refine ih M (k + 1) _ (by omega) (by omega) (fr_I (fr_I f (Or.inr rfl)) (Or.inl ⟨rfl, rfl⟩)) ?_
        have := chI_s ci q
        rw [rI_n (by decide), rI_s, rI_s, updI_s]
        exact this
      · refine ok_neg c1 ?_
        refine ok_gd (by omega) ?_
        rw [ek]
        exact ih M (k + 1) m (by omega) (by omega) f (chI_n ci (fun q => c1 (of_decide_eq_true q)))
  unfold nX11_chooseRound bX11_chooseRound nX1_chooseNone bX1_chooseNone
  refine ok_bs ?_
  refine key (h.1 13 10).toNat 100000 0 _ (by omega) (by omega) (fr_I fr_r (Or.inl ⟨rfl, rfl⟩)) ⟨?_, rfl⟩
  rw [rI_s, updI_s]
  rfl
theorem m_sorts (hv : VAL K) (hm : RM K m) (hq : ∀ p, 0 ≤ p → p < K 13 10 → m.1 90 p = vw K p) : Ok (nX12_sorts v m) (fun r => Fr (sA 107) m r.2 ∧ chI (Qr K v) (K 13 10).toNat (r.2.1 107) r.1) := by
  have hn := v_n hv
  have key : ∀ (r N k : Nat) (c : Int) (g : HH), r < N → (k : Int) + r = K 13 10 → Fr (sA 107) m g → chI (Qr K v) k (g.1 107) c → Ok (nX12_sorts_4 N v c k g) (fun r => Fr (sA 107) m r.2 ∧ chI (Qr K v) (K 13 10).toNat (r.2.1 107) r.1) := by
    intro r
    induction r with
    | zero =>
      intro N k c g hN hk f ci
      obtain ⟨M, rfl⟩ := fuel_s hN
      have e21 : g.1 71 21 = K 13 10 := by rw [f.2 71 21 (sA_n (by decide) _)]; exact hm.1.1
      rw [nX12_sorts_4_s]
      simp only [bX12_sorts_4]
      refine ok_neg (by omega) ?_
      exact ok_some ⟨f, by rw [show (K 13 10).toNat = k by omega]; exact ci⟩
    | succ r ih =>
      intro N k c g hN hk f ci
      obtain ⟨M, rfl⟩ := fuel_s hN
      have e21 : g.1 71 21 = K 13 10 := by rw [f.2 71 21 (sA_n (by decide) _)]; exact hm.1.1
      have e90 : g.1 90 k = vw K k := by rw [f.2 90 _ (sA_n (by decide) _)]; exact hq k (by omega) (by omega)
      have hl := chL_len (Q := Qr K v) (k := k)
      have hc1 := ci.1
      have ek : (k : Int) + 1 = ((k + 1 : Nat) : Int) := by omega
      rw [nX12_sorts_4_s]
      simp only [bX12_sorts_4, nX12_sorts_32, bX12_sorts_32]
      refine ok_pos (by omega) ?_
      refine ok_gd (by omega) ?_
      rw [e90]
      by_cases c1 : vw K k = v
      · refine ok_pos c1 ?_
        refine ok_gd (by omega) ?_
        refine ok_bs ?_
        refine ok_gd (by omega) ?_
        refine ok_gd (by omega) ?_
        rw [ek]
        refine ih M (k + 1) (c + 1) _ (by omega) (by omega) (fr_I f rfl) ?_
        have := chI_s ci (show Qr K v k = true from decide_eq_true c1)
        rw [rI_s]
        exact this
      · refine ok_neg c1 ?_
        refine ok_gd (by omega) ?_
        rw [ek]
        exact ih M (k + 1) c g (by omega) (by omega) f (chI_n ci (fun q => c1 (of_decide_eq_true q)))
  unfold nX12_sorts bX12_sorts
  exact key (K 13 10).toNat 100000 0 0 m (by omega) (by omega) fr_r ⟨rfl, rfl⟩
/-! rows that are back in time -/
def srA (K : Nat → Int → Int) (p c : Int) : Int := if K 18 p < max c (K 17 p) then -1 else max c (K 17 p)
theorem srv_A {p pl mn : Int} : srv K p pl mn = if dK K pl (K 14 p) = -1 then -1 else srA K p (mn + dK K pl (K 14 p)) := rfl
def okB (K : Nat → Int → Int) (B : Int) (L : List Int) (mn pl : Int) : Prop := gE K L mn pl ≠ -1 ∧ dK K (lPl K L pl) 0 ≠ -1 ∧ gE K L mn pl + dK K (lPl K L pl) 0 ≤ B
def okA (K : Nat → Int → Int) (B : Int) (p : Int) (L : List Int) (c : Int) : Prop := srA K p c ≠ -1 ∧ okB K B L (srA K p c + K 19 p) (K 14 p)
theorem okB_c {p mn pl : Int} {L : List Int} : okB K B (p :: L) mn pl ↔ dK K pl (K 14 p) ≠ -1 ∧ okA K B p L (mn + dK K pl (K 14 p)) := by
  have e2 : lPl K (p :: L) pl = lPl K L (K 14 p) := rfl
  unfold okA
  conv => lhs; unfold okB
  rw [e2, gE, srv_A]
  by_cases c1 : dK K pl (K 14 p) = -1
  · rw [if_pos c1, if_pos rfl]
    exact ⟨fun q => absurd rfl q.1, fun q => absurd c1 q.1⟩
  · rw [if_neg c1]
    by_cases c2 : srA K p (mn + dK K pl (K 14 p)) = -1
    · rw [if_pos c2]
      exact ⟨fun q => absurd rfl q.1, fun q => absurd c2 q.2.1⟩
    · rw [if_neg c2]
      exact ⟨fun q => ⟨c1, c2, q⟩, fun q => q.2.2⟩
theorem lPl_app : ∀ {L L' : List Int} {pl : Int}, lPl K (L ++ L') pl = lPl K L' (lPl K L pl)
  | [], _, _ => rfl
  | x :: L, L', pl => by
    show lPl K (L ++ L') (K 14 x) = lPl K L' (lPl K L (K 14 x))
    exact lPl_app
theorem okB_app {L L' : List Int} {mn pl : Int} (h0 : 0 ≤ mn) (hs : ∀ p ∈ L, ∀ x y, srv K p x y = -1 ∨ 0 ≤ srv K p x y + K 19 p) : okB K B (L ++ L') mn pl ↔ gE K L mn pl ≠ -1 ∧ okB K B L' (gE K L mn pl) (lPl K L pl) := by
  unfold okB
  rw [gE_app h0 hs, lPl_app]
  by_cases c : gE K L mn pl = -1
  · rw [if_pos c]
    exact ⟨fun q => absurd rfl q.1, fun q => absurd c q.1⟩
  · rw [if_neg c]
    exact ⟨fun q => ⟨c, q⟩, fun q => q.2⟩
theorem so_okB (e : sameO K K1) {L : List Int} {mn pl : Int} : okB K1 B L mn pl ↔ okB K B L mn pl := by
  unfold okB dK
  rw [so_gE e, so_lPl e, e.1]
theorem so_okA (e : sameO K K1) {L : List Int} {p c : Int} : okA K1 B p L c ↔ okA K B p L c := by
  unfold okA srA
  rw [e.2.1.1, e.2.1.2.2.1, e.2.1.2.2.2.1, e.2.1.2.2.2.2, so_okB e]
/-- the latest minute to come -/
def ltP (K : Nat → Int → Int) (B S i T : Int) : Prop := (-1 ≤ T ∧ T ≤ 1439) ∧ ∀ c, 0 ≤ c → (c ≤ T ↔ ∃ l, ofS S l ∧ okA K B (K 50 i) (l.map (K 50)) c)
theorem so_ltP (e : sameO K K1) {S i T : Int} (q : ltP K1 B S i T) : ltP K B S i T := by
  refine ⟨q.1, fun c hc => ?_⟩
  rw [q.2 c hc, e.2.2.2.1]
  constructor
  · rintro ⟨l, a, b⟩
    exact ⟨l, a, (so_okA e).mp b⟩
  · rintro ⟨l, a, b⟩
    exact ⟨l, a, (so_okA e).mpr b⟩
/-- the latest minute to leave, by rows whose first is below k -/
def leP (K : Nat → Int → Int) (B S pl k e : Int) : Prop := (-2000 ≤ e ∧ e ≤ 4000) ∧ ∀ mn, 0 ≤ mn → (mn ≤ e ↔ (S = 0 ∧ okB K B [] mn pl) ∨ ∃ l j, j < k ∧ ofS S (j :: l) ∧ okB K B ((j :: l).map (K 50)) mn pl)
theorem leP_n {S pl k e : Int} (q : leP K B S pl k e) (hk : ∀ l, ¬ ofS S (k :: l)) : leP K B S pl (k + 1) e := by
  refine ⟨q.1, fun mn hm => ?_⟩
  rw [q.2 mn hm]
  constructor
  · rintro (w | ⟨l, j, a, b⟩)
    · exact Or.inl w
    · exact Or.inr ⟨l, j, by omega, b⟩
  · rintro (w | ⟨l, j, a, b⟩)
    · exact Or.inl w
    · refine Or.inr ⟨l, j, ?_, b⟩
      by_cases c : j = k
      · rw [c] at b; exact absurd b.1 (hk l)
      · omega
theorem leP_s {S pl k e e' : Int} (q : leP K B S pl k e) (hb : -2000 ≤ e' ∧ e' ≤ 4000) (hk : ∀ mn, 0 ≤ mn → (mn ≤ e' ↔ mn ≤ e ∨ ∃ l, ofS S (k :: l) ∧ okB K B ((k :: l).map (K 50)) mn pl)) : leP K B S pl (k + 1) e' := by
  refine ⟨hb, fun mn hm => ?_⟩
  rw [hk mn hm, q.2 mn hm]
  constructor
  · rintro ((w | ⟨l, j, a, b⟩) | ⟨l, a, b⟩)
    · exact Or.inl w
    · exact Or.inr ⟨l, j, by omega, b⟩
    · exact Or.inr ⟨l, k, by omega, a, b⟩
  · rintro (w | ⟨l, j, a, b⟩)
    · exact Or.inl (Or.inl w)
    · by_cases c : j = k
      · rw [c] at b; exact Or.inr ⟨l, b⟩
      · exact Or.inl (Or.inr ⟨l, j, by omega, b⟩)
theorem sX1_latestToCome (hv : VAL h.1) (hc : CH h.1 n) (h49 : h.1 49 2 = n) (hB : 0 ≤ B ∧ B ≤ 4000) {S i : Int} (hS : 0 ≤ S ∧ S ≤ allS n) (hi : 0 ≤ i ∧ i < n) (ht : ∀ j, 0 ≤ j → j < n → bt S j = true → ltP h.1 B (rmS S j) j (h.1 52 (rmS S j * 9 + j))) : Ok (nX1_latestToCome h S i B) (ltP h.1 B S i) := by
  have hn := v_n hv
  have hall := allS_b hc.1
  have h512 : 0 ≤ S ∧ S < 512 := by omega
  have hc9 := hc.1
  have hci := hc.2 i hi.1 hi.2
  have hpi := v_p hv hci.1 hci.2
  have hdh := v_D hv (a := h.1 14 (h.1 50 i)) (b := 0) (by omega) (by omega) (by omega) (by omega)
  have key : ∀ (r N : Nat) (k e : Int), r < N → k + r = n → 0 ≤ k → leP h.1 B S (h.1 14 (h.1 50 i)) k e → Ok (nX1_latestToCome_37 h N S (h.1 50 i) e k) (ltP h.1 B S i) := by
    intro r
    induction r with
    | zero =>
      intro N k e hN hk k0 hle
      obtain ⟨M, rfl⟩ := fuel_s hN
      obtain ⟨hb, he⟩ := hle
      have all : ∀ mn, 0 ≤ mn → (mn ≤ e ↔ ∃ l, ofS S l ∧ okB h.1 B (l.map (h.1 50)) mn (h.1 14 (h.1 50 i))) := fun mn hm => by
        rw [he mn hm]
        constructor
        · rintro (⟨a, b⟩ | ⟨l, j, _, b⟩)
          · exact ⟨[], (ofS_nil h512).mpr a, b⟩
          · exact ⟨j :: l, b⟩
        · rintro ⟨l, a, b⟩
          cases l with
          | nil => exact Or.inl ⟨(ofS_nil h512).mp a, b⟩
          | cons j l =>
            refine Or.inr ⟨l, j, ?_, a, b⟩
            have := ((ofS_cons h512).mp a).1
            have := bt_le hc.1 hS this.1 this.2
            omega
      have fin : ∀ T, (T = if min (e - h.1 19 (h.1 50 i)) (h.1 18 (h.1 50 i)) < h.1 17 (h.1 50 i) then -1 else min (e - h.1 19 (h.1 50 i)) (h.1 18 (h.1 50 i))) → ltP h.1 B S i T := fun T hT => by
        refine ⟨by rw [hT]; split <;> omega, fun c hc0 => ?_⟩
        have q : (∃ l, ofS S l ∧ okA h.1 B (h.1 50 i) (l.map (h.1 50)) c) ↔ srA h.1 (h.1 50 i) c ≠ -1 ∧ srA h.1 (h.1 50 i) c + h.1 19 (h.1 50 i) ≤ e := by
          constructor
          · rintro ⟨l, a, b, d⟩
            refine ⟨b, (all _ ?_).mpr ⟨l, a, d⟩⟩
            unfold srA at b ⊢
            split at b <;> omega
          · rintro ⟨b, d⟩
            obtain ⟨l, a, w⟩ := (all _ (by
              unfold srA at b ⊢
              split at b <;> omega)).mp d
            exact ⟨l, a, b, w⟩
        rw [q, hT]
        unfold srA
        by_cases c1 : h.1 18 (h.1 50 i) < max c (h.1 17 (h.1 50 i))
        · rw [if_pos c1]
          split <;> omega
        · rw [if_neg c1]
          split <;> omega
      rw [nX1_latestToCome_37_s]
      simp only [bX1_latestToCome_37]
      refine ok_neg (by omega) ?_
      refine ok_gd (by omega) ?_
      refine ok_gd (by omega) ?_
      refine ok_gd (by omega) ?_
      refine ok_gd (by omega) ?_
      with_reducible refine ok_ite (fun c1 => ?_) (fun c1 => ?_)
      · exact ok_some (fin _ (by rw [if_pos c1]))
      · exact ok_some (fin _ (by rw [if_neg c1]))
    | succ r ih =>
      intro N k e hN hk k0 hle
      obtain ⟨M, rfl⟩ := fuel_s hN
      have hk9 : 0 ≤ k ∧ k < 9 := by omega
      have hck := hc.2 k k0 (by omega)
      have hpk := v_p hv hck.1 hck.2
      have hdk := v_D hv (a := h.1 14 (h.1 50 i)) (b := h.1 14 (h.1 50 k)) (by omega) (by omega) (by omega) (by omega)
      have hb := hle.1
      rw [nX1_latestToCome_37_s]
      simp only [bX1_latestToCome_37, nX1_latestToCome_76, bX1_latestToCome_76, nX1_latestToCome_139, bX1_latestToCome_139]
      have nx : ∀ e', leP h.1 B S (h.1 14 (h.1 50 i)) (k + 1) e' → Ok (gd (R32 (k + 1)) (nX1_latestToCome_37 h M S (h.1 50 i) e' (k + 1))) (ltP h.1 B S i) := fun e' he' => by
        refine ok_gd (by omega) ?_
        exact ih M (k + 1) e' (by omega) (by omega) (by omega) he'
      refine ok_pos (by omega) ?_
      refine ok_be (sX1_has h512 hk9) ?_
      by_cases cb : bt S k = true
      · have hrm := rmS_b h512 hk9 cb
        obtain ⟨t1, t2⟩ := ht k k0 (by omega) cb
        have e0 : xorI S (shlI 1 k) = rmS S k := rfl
        rw [if_pos cb, e0]
        refine ok_neg (by decide) ?_
        refine ok_gd (by omega) ?_
        refine ok_gd (by omega) ?_
        refine ok_gd (by omega) ?_
        refine ok_gd (by omega) ?_
        refine ok_gd (by omega) ?_
        refine ok_gd (by omega) ?_
        refine ok_be (sX9_minutesOf (by omega) (by omega) (by omega) (by omega)) ?_
        generalize h.1 52 (rmS S k * 9 + k) = T at *
        have hT : ∀ mn, 0 ≤ mn → ((∃ l, ofS S (k :: l) ∧ okB h.1 B ((k :: l).map (h.1 50)) mn (h.1 14 (h.1 50 i))) ↔ dK h.1 (h.1 14 (h.1 50 i)) (h.1 14 (h.1 50 k)) ≠ -1 ∧ mn + dK h.1 (h.1 14 (h.1 50 i)) (h.1 14 (h.1 50 k)) ≤ T) := fun mn hm => by
          constructor
          · rintro ⟨l, a, b⟩
            rw [List.map_cons, okB_c] at b
            exact ⟨b.1, (t2 _ (by omega)).mpr ⟨l, ((ofS_cons h512).mp a).2, b.2⟩⟩
          · rintro ⟨a, b⟩
            obtain ⟨l, w1, w2⟩ := (t2 _ (by omega)).mp b
            exact ⟨l, (ofS_cons h512).mpr ⟨⟨hk9, cb⟩, w1⟩, by rw [List.map_cons, okB_c]; exact ⟨a, w2⟩⟩
        by_cases c1 : T = -1
        · refine ok_pos c1 ?_
          refine nx e (leP_s hle hb (fun mn hm => ?_))
          rw [hT mn hm]
          omega
        · refine ok_neg c1 ?_
          by_cases c2 : dK h.1 (h.1 14 (h.1 50 i)) (h.1 14 (h.1 50 k)) = -1
          · refine ok_pos c2 ?_
            refine nx e (leP_s hle hb (fun mn hm => ?_))
            rw [hT mn hm]
            omega
          · refine ok_neg c2 ?_
            refine ok_gd (by omega) ?_
            refine nx _ (leP_s hle (by omega) (fun mn hm => ?_))
            rw [hT mn hm]
            omega
      · rw [if_neg cb]
        refine ok_pos rfl ?_
        refine ok_gd (by omega) ?_
        refine ok_gd (by omega) ?_
        refine ok_gd (by omega) ?_
        refine ok_be (sX9_minutesOf (by omega) (by omega) (by omega) (by omega)) ?_
        refine ok_pos True.intro ?_
        exact nx e (leP_n hle (fun l hl => cb ((ofS_cons h512).mp hl).1.2))
  have none_ : ∀ l j, ¬ (j < (0 : Int) ∧ ofS S (j :: l) ∧ True) := fun l j q => by
    have := ((ofS_cons h512).mp q.2.1).1.1
    omega
  have first : ∀ e, (-2000 ≤ e ∧ e ≤ 4000) → (∀ mn, 0 ≤ mn → (mn ≤ e ↔ (S = 0 ∧ okB h.1 B [] mn (h.1 14 (h.1 50 i))))) → leP h.1 B S (h.1 14 (h.1 50 i)) 0 e := fun e hb he => by
    refine ⟨hb, fun mn hm => ?_⟩
    rw [he mn hm]
    constructor
    · exact Or.inl
    · rintro (w | ⟨l, j, a, b⟩)
      · exact w
      · exact absurd ⟨a, b.1, True.intro⟩ (none_ l j)
  simp only [nX1_latestToCome, bX1_latestToCome, nX1_latestToCome_31, bX1_latestToCome_31, nX1_latestToCome_32, bX1_latestToCome_32]
  refine ok_gd (by omega) ?_
  have eh := sX1_homeFrom hv hc hi
  have go : ∀ e, leP h.1 B S (h.1 14 (h.1 50 i)) 0 e → Ok (nX1_latestToCome_37 h 100000 S (h.1 50 i) e 0) (ltP h.1 B S i) := fun e he => key n.toNat 100000 0 e (by omega) (by omega) (by omega) he
  by_cases cS : S = 0
  · refine ok_pos cS ?_
    refine ok_be eh ?_
    by_cases c1 : dK h.1 (h.1 14 (h.1 50 i)) 0 = -1
    · refine ok_pos c1 ?_
      refine go _ (first _ (by omega) (fun mn hm => ?_))
      constructor
      · intro q; omega
      · rintro ⟨_, _, q, _⟩
        exact absurd c1 q
    · refine ok_neg c1 ?_
      refine ok_be eh ?_
      refine ok_gd (by omega) ?_
      refine go _ (first _ (by omega) (fun mn hm => ?_))
      constructor
      · intro q
        refine ⟨cS, ?_, c1, ?_⟩
        · show mn ≠ -1; omega
        · show mn + dK h.1 (h.1 14 (h.1 50 i)) 0 ≤ B; omega
      · rintro ⟨_, _, _, q⟩
        have q' : mn + dK h.1 (h.1 14 (h.1 50 i)) 0 ≤ B := q
        omega
  · refine ok_neg cS ?_
    refine go _ (first _ (by omega) (fun mn hm => ?_))
    constructor
    · intro q; omega
    · rintro ⟨q, _⟩
      exact absurd q cS
/-! the table of the latest minutes -/
abbrev s52 : Nat → Int → Prop := fun c _ => c = 52
theorem s52_hk {g : HH} (f : Fr s52 h g) : Fr sHK h g := fr_m (fun c i s => Or.inr s) f
def tlP (K : Nat → Int → Int) (B n : Int) (T : Int → Int) (S i : Int) : Prop := ∀ S' i', 0 ≤ S' → S' < allS n → 0 ≤ i' → i' < n → bt S' i' = false → (S' < S ∨ (S' = S ∧ i' < i)) → ltP K B S' i' (T (S' * 9 + i'))
theorem c_fill (hv : VAL h.1) (hc : CH h.1 n) (h49 : h.1 49 2 = n) (hB : 0 ≤ B ∧ B ≤ 4000) : Ok (nX1_fillLatest B h) (fun g => Fr s52 h g ∧ tlP h.1 B n (g.1 52) (allS n) 0) := by
  have hall := allS_b hc.1
  have inner : ∀ {c2 : Int → Int → HH → Option HH} {P : HH → Prop} {S : Int}, (0 ≤ S ∧ S < allS n) → ∀ (r N : Nat) (i : Int) (m : HH), r < N → i + r = n → 0 ≤ i → Fr s52 h m → tlP h.1 B n (m.1 52) S i → (∀ m', Fr s52 h m' → tlP h.1 B n (m'.1 52) S n → Ok (c2 B (S + 1) m') P) → Ok (nX1_fillLatest_12 c2 N B S i m) P := by
    intro c2 P S hS r
    induction r with
    | zero =>
      intro N i m hN hi i0 f tb hk
      obtain ⟨M, rfl⟩ := fuel_s hN
      have e49 : m.1 49 2 = n := by rw [f.2 49 2 (by dsimp only [s52]; omega)]; exact h49
      rw [nX1_fillLatest_12_s]
      simp only [bX1_fillLatest_12]
      refine ok_neg (by omega) ?_
      refine ok_gd (by omega) ?_
      exact hk m f (by rw [show n = i by omega] at tb ⊢; exact tb)
    | succ r ih =>
      intro N i m hN hi i0 f tb hk
      obtain ⟨M, rfl⟩ := fuel_s hN
      have hc9 := hc.1
      have e49 : m.1 49 2 = n := by rw [f.2 49 2 (by dsimp only [s52]; omega)]; exact h49
      have fk := s52_hk f
      rw [nX1_fillLatest_12_s]
      simp only [bX1_fillLatest_12, nX1_fillLatest_46, bX1_fillLatest_46]
      refine ok_pos (by omega) ?_
      refine ok_be (sX1_has (by omega) (by omega)) ?_
      by_cases cb : bt S i = true
      · rw [if_pos cb]
        refine ok_neg (by decide) ?_
        refine ok_gd (by omega) ?_
        refine ih M (i + 1) m (by omega) (by omega) (by omega) f (fun S' i' s0 s1 i0' i1' hb' hlt => ?_) hk
        by_cases c : S' = S ∧ i' = i
        · rw [c.1, c.2, cb] at hb'; cases hb'
        · exact tb S' i' s0 s1 i0' i1' hb' (by omega)
      · rw [if_neg cb]
        refine ok_pos rfl ?_
        refine ok_gd (by omega) ?_
        refine ok_gd (by omega) ?_
        refine ok_bnd (sX1_latestToCome (hk_VAL hv fk) (hk_CH hc fk) e49 hB (S := S) (i := i) (by omega) (by omega) (fun j j0 j1 jb => so_ltP (so_sym (so_fr fk)) (by
          have hrm := rmS_b (S := S) (i := j) (by omega) (by omega) jb
          refine tb (rmS S j) j (by omega) (by omega) j0 j1 ?_ (Or.inl hrm.2)
          cases z : bt (rmS S j) j
          · rfl
          · exact absurd rfl ((rmS_bt (by omega) (by omega) jb (by omega)).mp z).2))) (fun e he => ?_)
        have he := so_ltP (so_fr fk) he
        refine ok_gd (by omega) ?_
        refine ok_bs ?_
        refine ok_gd (by omega) ?_
        refine ih M (i + 1) _ (by omega) (by omega) (by omega) (fr_I f rfl) (fun S' i' s0 s1 i0' i1' hb' hlt => ?_) hk
        rw [rI_s, updI_at]
        by_cases c : S' * 9 + i' = S * 9 + i
        · have e1 : S' = S := by omega
          have e2 : i' = i := by omega
          rw [if_pos c, e1, e2]
          exact he
        · rw [if_neg c]
          exact tb S' i' s0 s1 i0' i1' hb' (by omega)
  have key : ∀ (r N : Nat) (S : Int) (m : HH), r < N → S + r = allS n → 0 ≤ S → Fr s52 h m → tlP h.1 B n (m.1 52) S 0 → Ok (nX1_fillLatest_2 N B S m) (fun g => Fr s52 h g ∧ tlP h.1 B n (g.1 52) (allS n) 0) := by
    intro r
    induction r with
    | zero =>
      intro N S m hN hS s1 f tb
      obtain ⟨M, rfl⟩ := fuel_s hN
      have e49 : m.1 49 2 = n := by rw [f.2 49 2 (by dsimp only [s52]; omega)]; exact h49
      rw [nX1_fillLatest_2_s]
      simp only [bX1_fillLatest_2]
      refine ok_be (sX1_all e49 hc.1) ?_
      refine ok_neg (by omega) ?_
      exact ok_some ⟨f, by rw [show allS n = S by omega]; rw [show S = allS n by omega] at tb ⊢; exact tb⟩
    | succ r ih =>
      intro N S m hN hS s1 f tb
      obtain ⟨M, rfl⟩ := fuel_s hN
      have e49 : m.1 49 2 = n := by rw [f.2 49 2 (by dsimp only [s52]; omega)]; exact h49
      rw [nX1_fillLatest_2_s]
      simp only [bX1_fillLatest_2]
      refine ok_be (sX1_all e49 hc.1) ?_
      refine ok_pos (by omega) ?_
      refine inner (by omega) n.toNat 100000 0 m (by have := hc.1; omega) (by have := hc.1; omega) (by omega) f tb (fun m' f' tb' => ?_)
      refine ih M (S + 1) m' (by omega) (by omega) (by omega) f' (fun S' i' s0 s1 i0 i1 hb hlt => ?_)
      exact tb' S' i' s0 s1 i0 i1 hb (by omega)
  unfold nX1_fillLatest bX1_fillLatest
  exact key (allS n).toNat 100000 0 h (by omega) (by omega) (by omega) fr_r (fun S' i' s0 s1 i0 i1 hb hlt => by omega)
def goP (K : Nat → Int → Int) (T : Int → Int) (S pl mn k : Int) : Prop := dK K pl (K 14 (K 50 k)) ≠ -1 ∧ mn + dK K pl (K 14 (K 50 k)) ≤ T (rmS S k * 9 + k)
theorem sX1_first (hv : VAL h.1) (hc : CH h.1 n) (h49 : h.1 49 2 = n) {S pl mn : Int} (hS : 0 ≤ S ∧ S ≤ allS n) (hp : 0 ≤ pl ∧ pl ≤ 15) (hm : 0 ≤ mn ∧ mn ≤ 1499) : Ok (nX1_firstThatGoes h S pl mn) (fun r => (∀ j, 0 ≤ j → j < n → (r = -1 ∨ j < r) → bt S j = true → ¬ goP h.1 (h.1 52) S pl mn j) ∧ (r = -1 ∨ ((0 ≤ r ∧ r < n) ∧ bt S r = true ∧ goP h.1 (h.1 52) S pl mn r))) := by
  have hn := v_n hv
  have hall := allS_b hc.1
  have h512 : 0 ≤ S ∧ S < 512 := by omega
  have hc9 := hc.1
  have key : ∀ (r N : Nat) (k : Int), r < N → k + r = n → 0 ≤ k → (∀ j, 0 ≤ j → j < k → bt S j = true → ¬ goP h.1 (h.1 52) S pl mn j) → Ok (nX1_firstThatGoes_3 h N S pl mn k) (fun r => (∀ j, 0 ≤ j → j < n → (r = -1 ∨ j < r) → bt S j = true → ¬ goP h.1 (h.1 52) S pl mn j) ∧ (r = -1 ∨ ((0 ≤ r ∧ r < n) ∧ bt S r = true ∧ goP h.1 (h.1 52) S pl mn r))) := by
    intro r
    induction r with
    | zero =>
      intro N k hN hk k0 hj
      obtain ⟨M, rfl⟩ := fuel_s hN
      rw [nX1_firstThatGoes_3_s]
      simp only [bX1_firstThatGoes_3]
      refine ok_neg (by omega) ?_
      exact ok_some ⟨fun j j0 j1 _ => hj j j0 (by omega), Or.inl rfl⟩
    | succ r ih =>
      intro N k hN hk k0 hj
      obtain ⟨M, rfl⟩ := fuel_s hN
      have hk9 : 0 ≤ k ∧ k < 9 := by omega
      have hck := hc.2 k k0 (by omega)
      have hpk := v_p hv hck.1 hck.2
      have hdk := v_D hv (a := pl) (b := h.1 14 (h.1 50 k)) (by omega) (by omega) (by omega) (by omega)
      rw [nX1_firstThatGoes_3_s]
      simp only [bX1_firstThatGoes_3, nX1_firstThatGoes_86, bX1_firstThatGoes_86]
      have nx : (bt S k = true → ¬ goP h.1 (h.1 52) S pl mn k) → Ok (gd (R32 (k + 1)) (nX1_firstThatGoes_3 h M S pl mn (k + 1))) (fun r => (∀ j, 0 ≤ j → j < n → (r = -1 ∨ j < r) → bt S j = true → ¬ goP h.1 (h.1 52) S pl mn j) ∧ (r = -1 ∨ ((0 ≤ r ∧ r < n) ∧ bt S r = true ∧ goP h.1 (h.1 52) S pl mn r))) := fun q => by
        refine ok_gd (by omega) ?_
        refine ih M (k + 1) (by omega) (by omega) (by omega) (fun j j0 j1 jb => ?_)
        by_cases c : j = k
        · rw [c] at jb ⊢; exact q jb
        · exact hj j j0 (by omega) jb
      refine ok_pos (by omega) ?_
      refine ok_be (sX1_has h512 hk9) ?_
      by_cases cb : bt S k = true
      · have hrm := rmS_b h512 hk9 cb
        have e0 : xorI S (shlI 1 k) = rmS S k := rfl
        rw [if_pos cb, e0]
        refine ok_neg (by decide) ?_
        refine ok_gd (by omega) ?_
        refine ok_gd (by omega) ?_
        refine ok_be (sX9_minutesOf (by omega) (by omega) (by omega) (by omega)) ?_
        refine ok_gd (by omega) ?_
        refine ok_gd (by omega) ?_
        refine ok_gd (by omega) ?_
        by_cases c1 : dK h.1 pl (h.1 14 (h.1 50 k)) = -1
        · refine ok_pos c1 ?_
          exact nx (fun _ q => q.1 c1)
        · refine ok_neg c1 ?_
          refine ok_gd (by omega) ?_
          by_cases c2 : h.1 52 (rmS S k * 9 + k) < mn + dK h.1 pl (h.1 14 (h.1 50 k))
          · refine ok_pos c2 ?_
            exact nx (fun _ q => by have := q.2; omega)
          · refine ok_neg c2 ?_
            exact ok_some ⟨fun j j0 j1 jk jb => hj j j0 (by omega) jb, Or.inr ⟨⟨k0, by omega⟩, cb, c1, by omega⟩⟩
      · rw [if_neg cb]
        refine ok_pos rfl ?_
        exact nx (fun q => absurd q cb)
  unfold nX1_firstThatGoes bX1_firstThatGoes
  exact key n.toNat 100000 0 (by omega) (by omega) (by omega) (fun j j0 j1 => by omega)
theorem sub_len : ∀ {l l' : List Int}, l.Nodup → (∀ x ∈ l, x ∈ l') → l.length ≤ l'.length
  | [], _, _, _ => Nat.zero_le _
  | x :: l, l', h, s => by
    obtain ⟨n1, n2⟩ := List.nodup_cons.mp h
    have hx := s x List.mem_cons_self
    have p1 := List.perm_cons_erase hx
    have := sub_len (l := l) (l' := l'.erase x) n2 (fun y hy => (List.mem_erase_of_ne (fun e : y = x => n1 (e ▸ hy))).mpr (s y (List.mem_cons_of_mem _ hy)))
    rw [p1.length_eq, List.length_cons, List.length_cons]
    omega
theorem lx_exq : ∀ {a b : List Int}, lx a b = true → exq b (-1) a
  | [], _, h => by cases h
  | _ :: _, [], h => by cases h
  | x :: a, y :: b, h => by
    rw [lx] at h
    by_cases c1 : x < y
    · exact ⟨x, a, rfl, Or.inl c1⟩
    · rw [if_neg c1] at h
      by_cases c2 : y < x
      · rw [if_pos c2] at h; cases h
      · rw [if_neg c2] at h
        exact ⟨x, a, rfl, Or.inr ⟨by omega, lx_exq h⟩⟩
/-- the row is written: the first of the rows that are back in time -/
def wrP (K : Nat → Int → Int) (v n B : Int) (b : List Int) : Prop := ofS (allS n) b ∧ okB K B (b.map (K 50)) (K 24 v) 0 ∧ ∀ x, ofS (allS n) x → okB K B (x.map (K 50)) (K 24 v) 0 → lx x b = false
theorem c_write (hv : VAL h.1) (hc : CH h.1 n) (h49 : h.1 49 2 = n) (v0 : 0 ≤ v) (v1 : v < h.1 13 14) {c : Nat} (ha : A9 c) (hcr : 28 ≤ c ∧ c ≤ 30) (tb : tlP h.1 B n (h.1 52) (allS n) 0) : ∀ (r N : Nat) (q : List Int) (lf i : Int) (g : HH), r < N → i + r = n → i = q.length → Fr (sA c) h g → rowL (g.1 c) 0 q.length = q.map (h.1 50) → (0 ≤ lf ∧ lf ≤ allS n) → (∀ j, 0 ≤ j → j < 9 → (bt lf j = true ↔ j < n ∧ j ∉ q)) → q.Nodup → (∀ x ∈ q, 0 ≤ x ∧ x < n) → vE h.1 v q ≠ -1 → (∃ l, ofS lf l ∧ okB h.1 B (l.map (h.1 50)) (vE h.1 v q) (pE h.1 q)) → (∀ x, ofS (allS n) x → okB h.1 B (x.map (h.1 50)) (h.1 24 v) 0 → ¬ exq q (-1) x) → Ok (nX1_writeLeast_59 N c lf (pE h.1 q) (vE h.1 v q) i g) (fun g' => Fr (sA c) h g' ∧ ∃ b, wrP h.1 v n B b ∧ rowL (g'.1 c) 0 n.toNat = b.map (h.1 50)) := by
  have hvv := v_v hv v0 v1
  have hn := v_n hv
  have hall := allS_b hc.1
  have hc9 := hc.1
  intro r
  induction r with
  | zero =>
    intro N q lf i g hN hi hq f hrow hlf hlb nd hqm hve hex hlx
    obtain ⟨M, rfl⟩ := fuel_s hN
    have e49 : g.1 49 2 = n := by rw [f.2 49 2 (sA_n (by omega) _)]; exact h49
    rw [nX1_writeLeast_59_s]
    simp only [bX1_writeLeast_59]
    refine ok_neg (by omega) ?_
    obtain ⟨l, l1, l2⟩ := hex
    -- all are written
    have full : ∀ j, 0 ≤ j → j < n → j ∈ q := fun j j0 j1 => by
      by_cases w : j ∈ q
      · exact w
      · exfalso
        have := nodup_len (m := n.toNat) (List.nodup_cons.mpr ⟨w, nd⟩) (fun x hx => by
          rcases List.mem_cons.mp hx with z | z
          · omega
          · have := hqm x z; omega)
        rw [List.length_cons] at this
        omega
    have hof : ofS (allS n) q := ⟨nd, fun j => ⟨fun w => ⟨by have := hqm j w; omega, (allS_bt hc.1 (by have := hqm j w; omega)).mpr (hqm j w).2⟩, fun w => full j w.1.1 ((allS_bt hc.1 w.1).mp w.2)⟩⟩
    have hl0 : l = [] := by
      cases l with
      | nil => rfl
      | cons x l =>
        have z := (l1.2 x).mp List.mem_cons_self
        have z2 := (hlb x z.1.1 z.1.2).mp z.2
        exact absurd (full x z.1.1 z2.1) z2.2
    rw [hl0] at l2
    have hin := ofS_in hc ⟨hall.1, Int.le_refl _⟩ hof
    refine ok_some ⟨f, q, ⟨hof, ?_, fun x hx hxo => ?_⟩, by rw [show n.toNat = q.length by omega]; exact hrow⟩
    · have := (okB_app (K := h.1) (B := B) (L := q.map (h.1 50)) (L' := []) (mn := h.1 24 v) (pl := 0) (by omega) (srv_s hv hin)).mpr ⟨hve, l2⟩
      rw [List.append_nil] at this
      exact this
    · cases z : lx x q
      · rfl
      · exact absurd (lx_exq z) (hlx x hx hxo)
  | succ r ih =>
    intro N q lf i g hN hi hq f hrow hlf hlb nd hqm hve hex hlx
    obtain ⟨M, rfl⟩ := fuel_s hN
    have e : ∀ d, d ≠ c → g.1 d = h.1 d := fun d hd => fr_c f d (fun i s => hd s)
    have e49 : g.1 49 2 = n := by rw [e 49 (by omega)]; exact h49
    have hvg : VAL g.1 := VAL_eq hv (fun d hd => e d (by omega)) (by rw [e 13 (by omega)]; exact ⟨rfl, rfl⟩)
    have hcg : CH g.1 n := by unfold CH at hc ⊢; rw [e 50 (by omega), e 13 (by omega)]; exact hc
    have h512 : 0 ≤ lf ∧ lf < 512 := by omega
    have hqin : inR h.1 (q.map (h.1 50)) := fun x hx => by
      obtain ⟨i, h1, h2⟩ := List.mem_map.mp hx
      rw [← h2]
      exact hc.2 i (hqm i h1).1 (hqm i h1).2
    have hvb := (vE_b hv (v := v) (by omega) hqin).resolve_left hve
    have hpe := pE_b hv hqin
    rw [nX1_writeLeast_59_s]
    simp only [bX1_writeLeast_59]
    refine ok_pos (by omega) ?_
    refine ok_bnd (sX1_first hvg hcg e49 (S := lf) (pl := pE h.1 q) (mn := vE h.1 v q) hlf hpe (by omega)) (fun k hk => ?_)
    have ego : ∀ j, goP g.1 (g.1 52) lf (pE h.1 q) (vE h.1 v q) j ↔ goP h.1 (h.1 52) lf (pE h.1 q) (vE h.1 v q) j := fun j => by
      unfold goP dK
      rw [e 7 (by omega), e 14 (by omega), e 50 (by omega), e 52 (by omega)]
    obtain ⟨k1, k2⟩ := hk
    -- what goes is what can be ended
    have tS : ∀ j, 0 ≤ j → j < n → bt lf j = true → (goP h.1 (h.1 52) lf (pE h.1 q) (vE h.1 v q) j ↔ ∃ l, ofS lf (j :: l) ∧ okB h.1 B ((j :: l).map (h.1 50)) (vE h.1 v q) (pE h.1 q)) := fun j j0 j1 jb => by
      have hrm := rmS_b h512 (show 0 ≤ j ∧ j < 9 by omega) jb
      have hcj := hc.2 j j0 j1
      have hpj := v_p hv hcj.1 hcj.2
      have hdj := v_D hv (a := pE h.1 q) (b := h.1 14 (h.1 50 j)) hpe.1 hpe.2 (by omega) (by omega)
      have t := tb (rmS lf j) j hrm.1 (by omega) j0 j1 (by
        cases z : bt (rmS lf j) j
        · rfl
        · exact absurd rfl ((rmS_bt h512 (by omega) jb (by omega)).mp z).2) (Or.inl (by omega))
      unfold goP
      constructor
      · rintro ⟨a, b⟩
        obtain ⟨l, w1, w2⟩ := (t.2 _ (by omega)).mp b
        exact ⟨l, (ofS_cons h512).mpr ⟨⟨by omega, jb⟩, w1⟩, by rw [List.map_cons, okB_c]; exact ⟨a, w2⟩⟩
      · rintro ⟨l, a, b⟩
        rw [List.map_cons, okB_c] at b
        exact ⟨b.1, (t.2 _ (by omega)).mpr ⟨l, ((ofS_cons h512).mp a).2, b.2⟩⟩
    -- one goes
    have kn : k ≠ -1 := fun z => by
      obtain ⟨l, l1, l2⟩ := hex
      cases l with
      | nil =>
        have e0 := (ofS_nil h512).mp l1
        -- none is left, yet one isn't in q
        have hsub : ∀ j, 0 ≤ j → j < n → j ∈ q := fun j j0 j1 => by
          by_cases w : j ∈ q
          · exact w
          · have := (hlb j j0 (by omega)).mpr ⟨j1, w⟩
            rw [e0, bt_z] at this
            cases this
        have hl := sub_len (canS_nd (S := allS n) (k := n.toNat)) (fun x hx => by
          have := canS_m.mp hx
          exact hsub x (by omega) (by omega))
        have : ∀ k : Nat, (k : Int) ≤ n → (canS (allS n) k).length = k := fun k => by
          induction k with
          | zero => intro _; rfl
          | succ k ih =>
            intro hk
            rw [canS, if_pos ((allS_bt hc.1 (by omega)).mpr (by omega)), List.length_append, ih (by omega)]
            rfl
        have := this n.toNat (by omega)
        omega
      | cons j l =>
        have hj := ((ofS_cons h512).mp l1).1
        have jn := bt_le hc.1 hlf hj.1 hj.2
        exact k1 j hj.1.1 jn (Or.inl z) hj.2 ((ego j).mpr ((tS j hj.1.1 jn hj.2).mpr ⟨l, l1, l2⟩))
    obtain ⟨kr, kb, kg⟩ := k2.resolve_left kn
    have hck := hc.2 k kr.1 kr.2
    have hpk := v_p hv hck.1 hck.2
    obtain ⟨l2, w1, w2⟩ := (tS k kr.1 kr.2 kb).mp ((ego k).mp kg)
    have hkq := ((hlb k kr.1 (by omega)).mp kb).2
    have hrm := rmS_b h512 (show 0 ≤ k ∧ k < 9 by omega) kb
    rw [List.map_cons, okB_c] at w2
    obtain ⟨w3, w4, w5⟩ := w2
    have esr : srv h.1 (h.1 50 k) (pE h.1 q) (vE h.1 v q) = srA h.1 (h.1 50 k) (vE h.1 v q + dK h.1 (pE h.1 q) (h.1 14 (h.1 50 k))) := by rw [srv_A, if_neg w3]
    rw [← esr] at w4 w5
    have hsn := vE_snoc hv (v := v) (by omega) (l := q) (i := k) hqin
    rw [if_neg hve, if_neg w4] at hsn
    have hsr := (srv_K hv (p := h.1 50 k) (pl := pE h.1 q) (m := vE h.1 v q) hck.1 hck.2).resolve_left w4
    refine ok_neg kn ?_
    refine ok_gd (by omega) ?_
    refine ok_bt ha.1.1 ?_
    refine ok_gd (by rw [ha.2]; omega) ?_
    rw [ha.1.2, e 50 (by omega)]
    refine ok_bs ?_
    have f2 : Fr (sA c) h (hI g c i (h.1 50 k)) := fr_I f rfl
    have e2 : ∀ d, d ≠ c → (hI g c i (h.1 50 k)).1 d = h.1 d := fun d hd => fr_c f2 d (fun i s => hd s)
    have hvg2 : VAL (hI g c i (h.1 50 k)).1 := VAL_eq hv (fun d hd => e2 d (by omega)) (by rw [e2 13 (by omega)]; exact ⟨rfl, rfl⟩)
    have esrv : srv (hI g c i (h.1 50 k)).1 (h.1 50 k) (pE h.1 q) (vE h.1 v q) = srv h.1 (h.1 50 k) (pE h.1 q) (vE h.1 v q) := by
      unfold srv dK
      rw [e2 7 (by omega), e2 14 (by omega), e2 17 (by omega), e2 18 (by omega)]
    refine ok_be (sX2_serveAt hvg2 hck.1 (by rw [e2 13 (by omega)]; exact hck.2) hpe.1 hpe.2 (by omega) (by omega)) ?_
    rw [esrv, e2 19 (by omega), e2 14 (by omega)]
    refine ok_gd (by omega) ?_
    refine ok_gd (by omega) ?_
    refine ok_gd (by omega) ?_
    refine ok_gd (by omega) ?_
    rw [← hsn, ← pE_snoc (K := h.1) (l := q) (i := k)]
    have e0 : xorI lf (shlI 1 k) = rmS lf k := rfl
    rw [e0]
    have hl1 : (q ++ [k]).length = q.length + 1 := by rw [List.length_append]; rfl
    refine ih M (q ++ [k]) (rmS lf k) (i + 1) _ (by omega) (by omega) (by omega) f2 ?_ (by omega) (fun j j0 j1 => ?_) ?_ (fun x hx => ?_) (by rw [hsn]; omega) ⟨l2, ((ofS_cons h512).mp w1).2, by rw [hsn, pE_snoc]; exact w5⟩ (fun x hx hxo hxe => ?_)
    · rw [hl1, rowL_snoc, rI_s, rowL_upd (Or.inr (by omega)), hrow, List.map_append, show (0 : Int) + (q.length : Int) = i by omega, updI_s]
      rfl
    · rw [rmS_bt h512 (by omega) kb ⟨j0, j1⟩, hlb j j0 j1, List.mem_append, List.mem_singleton]
      constructor
      · rintro ⟨⟨a, b⟩, d⟩
        exact ⟨a, fun z => z.elim b d⟩
      · rintro ⟨a, b⟩
        exact ⟨⟨a, fun z => b (Or.inl z)⟩, fun z => b (Or.inr z)⟩
    · rw [List.nodup_append]
      refine ⟨nd, List.nodup_cons.mpr ⟨List.not_mem_nil, List.nodup_nil⟩, fun a ha b hb => ?_⟩
      rw [List.mem_singleton.mp hb]
      exact fun z => hkq (z ▸ ha)
    · rcases List.mem_append.mp hx with z | z
      · exact hqm x z
      · rw [List.mem_singleton.mp z]; exact kr
    · have hx1 := (exq_dn (fun y hy => (all_m hc.1 hx hy).1)).mp hxe
      rcases (exq_k (show (-1 : Int) ≤ k - 1 by omega)).mp hx1 with z | ⟨j, t, ⟨j0, jk⟩, z⟩
      · exact hlx x hx hxo z
      · have hjx := all_m hc.1 hx (i := j) (by rw [z]; exact List.mem_append_right _ List.mem_cons_self)
        have ndx := hx.1
        rw [z, List.nodup_append] at ndx
        have jq : j ∉ q := fun w => ndx.2.2 j w j List.mem_cons_self rfl
        have jb : bt lf j = true := (hlb j hjx.1 (by omega)).mpr ⟨hjx.2, jq⟩
        have ofl : ofS lf (j :: t) := ⟨ndx.2.1, fun y => by
          constructor
          · intro w
            have hy := (hx.2 y).mp (by rw [z]; exact List.mem_append_right _ w)
            have hyn := (allS_bt hc.1 hy.1).mp hy.2
            exact ⟨hy.1, (hlb y hy.1.1 hy.1.2).mpr ⟨hyn, fun u => ndx.2.2 y u y w rfl⟩⟩
          · rintro ⟨y1, y2⟩
            have hy := (hlb y y1.1 y1.2).mp y2
            have := (hx.2 y).mpr ⟨y1, (allS_bt hc.1 y1).mpr hy.1⟩
            rw [z] at this
            exact (List.mem_append.mp this).resolve_left hy.2⟩
        rw [z, List.map_append] at hxo
        have hxo2 := ((okB_app (K := h.1) (B := B) (L := q.map (h.1 50)) (mn := h.1 24 v) (pl := 0) (by omega) (srv_s hv hqin)).mp hxo).2
        exact k1 j hjx.1 hjx.2 (Or.inr (by omega)) jb ((ego j).mpr ((tS j hjx.1 hjx.2 jb).mpr ⟨t, ofl, hxo2⟩))
/-- back in time: of the least cost -/
theorem okB_cE (hv : VAL K) (hc : CH K n) (v0 : 0 ≤ v) (v1 : v < K 13 14) {r : Int} (hr : csP K v (allS n) r) (hr1 : r ≠ -1) {x : List Int} (hx : ofS (allS n) x) : okB K (K 24 v + r) (x.map (K 50)) (K 24 v) 0 ↔ cE K v x = r := by
  have hvv := v_v hv v0 v1
  have hall := allS_b hc.1
  obtain ⟨_, ⟨l0, a1, a2⟩, a3⟩ := hr.resolve_left (fun z => hr1 z.1)
  have hin := ofS_in hc ⟨hall.1, Int.le_refl _⟩ hx
  have hin0 := ofS_in hc ⟨hall.1, Int.le_refl _⟩ a1
  have hsz : sumL (K 15) (x.map (K 50)) = sumL (K 15) (l0.map (K 50)) := sumL_perm (List.Perm.map _ (ofS_p hx a1))
  have e0 := cE_v hv (v := v) (by omega) hin0
  have e1 := cE_v hv (v := v) (by omega) hin
  have hm := a3 x hx
  have c0 : ¬ (vE K v l0 = -1 ∨ dK K (pE K l0) 0 = -1 ∨ K 25 v < vE K v l0 + dK K (pE K l0) 0 ∨ K 23 v < sumL (K 15) (l0.map (K 50))) := fun z => by rw [if_pos z] at e0; exact hr1 (a2.symm.trans e0)
  rw [if_neg c0] at e0
  have okd : okB K (K 24 v + r) (x.map (K 50)) (K 24 v) 0 ↔ vE K v x ≠ -1 ∧ dK K (pE K x) 0 ≠ -1 ∧ vE K v x + dK K (pE K x) 0 ≤ K 24 v + r := Iff.rfl
  rw [okd]
  by_cases c1 : vE K v x = -1 ∨ dK K (pE K x) 0 = -1 ∨ K 25 v < vE K v x + dK K (pE K x) 0 ∨ K 23 v < sumL (K 15) (x.map (K 50))
  · rw [if_pos c1] at e1
    rw [e1]
    constructor
    · rintro ⟨q1, q2, q3⟩
      exfalso
      rcases c1 with z | z | z | z
      · exact q1 z
      · exact q2 z
      · exact c0 (Or.inr (Or.inr (Or.inl (by omega))))
      · exact c0 (Or.inr (Or.inr (Or.inr (by rw [← hsz]; exact z))))
    · intro q; exact absurd q.symm hr1
  · rw [if_neg c1] at e1
    constructor
    · rintro ⟨q1, q2, q3⟩
      rcases hm with z | z
      · exfalso
        have : K 24 v ≤ vE K v x := ((vE_b hv (v := v) (by omega) hin).resolve_left q1).1
        have hpe := pE_b hv hin
        have hd := v_D hv (a := pE K x) (b := 0) hpe.1 hpe.2 (by omega) (by omega)
        omega
      · omega
    · intro q
      exact ⟨fun z => c1 (Or.inl z), fun z => c1 (Or.inr (Or.inl z)), by omega⟩
end EXACT

/-! PAIRINGS: the model -/
section PAIRM
variable {h h' m : HH} {K : Nat → Int → Int} {v n : Int} {w : Int → Int → Int} {L : List Int}
/-- subsets of the odd ones -/
def tbM (w : Int → Int → Int) (T : Int → Int) (O S : Nat) : Prop := ∀ S' : Nat, S' < S → (∀ j, j < 10 → Nat.testBit S' j = true → Nat.testBit O j = true) → (cnN S' 10 % 2 = 0 → tpP w T S') ∧ (cnN S' 10 % 2 = 1 → T (S' : Int) = 1000000000)
abbrev s117 : Nat → Int → Prop := fun c _ => c = 117
theorem bt_out {S j : Nat} (hS : S < 1024) (hj : 10 ≤ j) : Nat.testBit S j = false := Nat.testBit_lt_two_pow (Nat.lt_of_lt_of_le (show S < 2 ^ 10 by omega) (Nat.pow_le_pow_right (by omega) hj))
theorem or_sub {S O : Nat} (hS : S < 1024) (hO : O < 1024) : orI (S : Int) (O : Int) = (O : Int) ↔ ∀ j, j < 10 → Nat.testBit S j = true → Nat.testBit O j = true := by
  rw [orN (by omega) (by omega)]
  constructor
  · intro e j _ hb
    have e2 : S ||| O = O := by omega
    rw [← e2, Nat.testBit_or, hb]
    rfl
  · intro hb
    congr 1
    refine Nat.eq_of_testBit_eq (fun j => ?_)
    rw [Nat.testBit_or]
    by_cases c : j < 10
    · cases z : Nat.testBit S j
      · rfl
      · rw [hb j c z]; rfl
    · rw [bt_out hS (by omega)]; rfl
theorem m_pair {dg : Int → Int} (hn : 1 ≤ n ∧ n ≤ 10) (h72 : m.1 71 72 = n) (hs : ∀ x y, w x y = w y x) (hw : ∀ m', Fr s117 m m' → ∀ i j, (0 ≤ i ∧ i < n) → (0 ≤ j ∧ j < n) → nX12_weight m' i j = some (w i j) ∧ (0 ≤ w i j ∧ w i j ≤ 1800)) (e116 : ∀ k, 0 ≤ k → k < n → m.1 116 k = dg k) (hd : ∀ k, 0 ≤ dg k) (he : (oddL dg n).length % 2 = 0) : Ok (nX12_pairing m) (fun r => Fr s117 m r.2 ∧ isLP w (oddL dg n) r.1 ∧ 0 ≤ r.1 ∧ r.1 ≤ 1843200) := by
  obtain ⟨nn, rfl⟩ : ∃ nn : Nat, n = nn := ⟨n.toNat, by omega⟩
  have p10 := pow10 (show nn < 11 by omega)
  -- sets
  have sets : ∀ {O : Nat}, O < 2 ^ nn → (∀ j, j < 10 → (Nat.testBit O j = true ↔ j < nn ∧ dg j % 2 = 1)) → ∀ (r N S : Nat) (g : HH) (qS qO : Int), qS = (S : Int) → qO = (O : Int) → r < N → S + r = 2 ^ nn → 1 ≤ S → Fr s117 m g → tbM w (g.1 117) O S → Ok (nX12_pairing_40 N qO qS g) (fun r => Fr s117 m r.2 ∧ isLP w (oddL dg (nn : Int)) r.1 ∧ 0 ≤ r.1 ∧ r.1 ≤ 1843200) := by
    intro O hO hOb r
    have hsh := shlN (show nn < 11 by omega)
    induction r with
    | zero =>
      intro N S g qS qO hqS hqO hN hS S1 f tb
      subst hqS
      subst hqO
      obtain ⟨M, rfl⟩ := fuel_s hN
      have e72 : g.1 71 72 = (nn : Int) := by rw [f.2 71 72 (by dsimp only [s117]; omega)]; exact h72
      rw [nX12_pairing_40_s]
      simp only [bX12_pairing_40]
      rw [e72, hsh]
      refine ok_neg (by omega) ?_
      refine ok_gd (by omega) ?_
      have pm : (mem10 O).Perm (oddL dg (nn : Int)) := perm_nd mem10_nd chL_nd (fun i => by
        rw [mem10_m, oddL_m]
        constructor
        · rintro ⟨a, b⟩
          have := (hOb i.toNat (by omega)).mp b
          rw [show ((i.toNat : Nat) : Int) = i by omega] at this
          exact ⟨by omega, this.2⟩
        · rintro ⟨a, b⟩
          refine ⟨by omega, (hOb i.toNat (by omega)).mpr ⟨by omega, ?_⟩⟩
          rw [show ((i.toNat : Nat) : Int) = i by omega]
          exact b)
      have ecn : cnN O 10 % 2 = 0 := by rw [← mem10_cn, pm.length_eq]; exact he
      obtain ⟨t1, t2, t3⟩ := (tb O (by omega) (fun j _ z => z)).1 ecn
      exact ok_some ⟨f, lp_perm pm t1, t2, by omega⟩
    | succ r ih =>
      intro N S g qS qO hqS hqO hN hS S1 f tb
      subst hqS
      subst hqO
      obtain ⟨M, rfl⟩ := fuel_s hN
      have e72 : g.1 71 72 = (nn : Int) := by rw [f.2 71 72 (by dsimp only [s117]; omega)]; exact h72
      have eS : (S : Int) + 1 = ((S + 1 : Nat) : Int) := by omega
      have f1 : Fr s117 m (hI g 117 (S : Int) 1000000000) := fr_I f rfl
      have e1 : (hI g 117 (S : Int) 1000000000).1 117 = updI (g.1 117) S 1000000000 := rI_s
      have e170 : ∀ (g' : HH), nX12_pairing_170 (nX12_pairing_40 M) (O : Int) (S : Int) g' = gd (R32 ((S : Int) + 1)) (nX12_pairing_40 M (O : Int) ((S : Int) + 1) g') := fun _ => rfl
      -- on to the next set
      have nx : ∀ g', Fr s117 m g' → (∀ j, j ≠ (S : Int) → g'.1 117 j = g.1 117 j) → ((∀ j, j < 10 → Nat.testBit S j = true → Nat.testBit O j = true) → (cnN S 10 % 2 = 0 → tpP w (g'.1 117) S) ∧ (cnN S 10 % 2 = 1 → g'.1 117 (S : Int) = 1000000000)) → Ok (nX12_pairing_170 (nX12_pairing_40 M) (O : Int) (S : Int) g') (fun r => Fr s117 m r.2 ∧ isLP w (oddL dg (nn : Int)) r.1 ∧ 0 ≤ r.1 ∧ r.1 ≤ 1843200) := fun g' f' ho hS' => by
        rw [e170]
        refine ok_gd (by omega) ?_
        rw [eS]
        refine ih M (S + 1) g' _ _ rfl rfl (by omega) (by omega) (by omega) f' (fun S2 hS2 hsub => ?_)
        by_cases c : S2 = S
        · rw [c] at hsub ⊢
          exact hS' hsub
        · have := tb S2 (by omega) hsub
          unfold tpP
          rw [ho _ (by omega)]
          exact this
      rw [nX12_pairing_40_s]
      simp only [bX12_pairing_40]
      rw [e72, hsh]
      refine ok_pos (by omega) ?_
      refine ok_gd (by omega) ?_
      refine ok_bs ?_
      have S1024 : S < 1024 := by omega
      have O1024 : O < 1024 := by omega
      by_cases cs : orI (S : Int) (O : Int) = (O : Int)
      · refine ok_pos cs ?_
        have hsub := (or_sub S1024 O1024).mp cs
        obtain ⟨j0, j0q, j0b⟩ := bt_ex (show S ≠ 0 by omega) (show S < 2 ^ nn by omega)
        have e72' : ∀ g', Fr s117 m g' → g'.1 71 72 = (nn : Int) := fun g' f' => by rw [f'.2 71 72 (by dsimp only [s117]; omega)]; exact h72
        -- partners of the first
        have second : ∀ ff : Nat, ff < nn → Nat.testBit S ff = true → (∀ j, j < ff → Nat.testBit S j = false) → Ok (nX12_pairing_89 (nX12_pairing_40 M) 100000 (O : Int) (S : Int) (ff : Int) ((ff + 1 : Nat) : Int) (hI g 117 (S : Int) 1000000000)) (fun r => Fr s117 m r.2 ∧ isLP w (oddL dg (nn : Int)) r.1 ∧ 0 ≤ r.1 ∧ r.1 ≤ 1843200) := fun ff fq fb flow => by
          obtain ⟨l, lp, lm, lj⟩ := mem10_f (S := S) (f := ff) (by omega) fb
          have key : ∀ (r N k : Nat) (s : Option Int) (qk : Int) (g' : HH), qk = (k : Int) → r < N → k + r = nn → ff < k → Fr s117 m g' → (∀ j, j ≠ (S : Int) → g'.1 117 j = g.1 117 j) → (s = none ∧ g'.1 117 (S : Int) = 1000000000 ∨ ∃ y, s = some y ∧ g'.1 117 (S : Int) = y ∧ 0 ≤ y ∧ y ≤ 1800 * (S : Int)) → (cnN S 10 % 2 = 0 → lpQ w (ff : Int) l (fun b => b < k) s) → (cnN S 10 % 2 = 1 → s = none) → Ok (nX12_pairing_89 (nX12_pairing_40 M) N (O : Int) (S : Int) (ff : Int) qk g') (fun r => Fr s117 m r.2 ∧ isLP w (oddL dg (nn : Int)) r.1 ∧ 0 ≤ r.1 ∧ r.1 ≤ 1843200) := by
            intro r
            induction r with
            | zero =>
              intro N k s qk g' hqk hN hk fk f' ho hx hl hod
              subst hqk
              obtain ⟨M2, rfl⟩ := fuel_s hN
              rw [nX12_pairing_89_s]
              simp only [bX12_pairing_89]
              refine ok_neg (by rw [e72' g' f']; omega) ?_
              refine nx g' f' ho (fun _ => ⟨fun hev => ?_, fun hodd => ?_⟩)
              · have hl2 := lpQ_cg (D' := fun _ => True) (fun b hb => ⟨fun _ => True.intro, fun _ => by
                  have z := lm b hb
                  have := bt_lt (show S < 2 ^ nn by omega) z.2.1
                  show b < (k : Int)
                  omega⟩) (hl hev)
                cases s with
                | none =>
                  exfalso
                  have l0 : l = [] := List.eq_nil_iff_forall_not_mem.mpr (fun b hb => hl2 b hb True.intro)
                  have := lp.length_eq
                  rw [l0, mem10_cn] at this
                  have e1 : cnN S 10 = 1 := this
                  omega
                | some y =>
                  rcases hx with ⟨hx, _⟩ | ⟨y', hy, hx, b1, b2⟩
                  · cases hx
                  · have : y = y' := Option.some.inj hy
                    subst this
                    unfold tpP
                    rw [hx]
                    refine ⟨?_, b1, b2⟩
                    refine lp_perm lp.symm (lpQ_end hs (fun b hb => ?_) hl2)
                    have z := lm b hb
                    have hbq := bt_lt (show S < 2 ^ nn by omega) z.2.1
                    have pj := lj b.toNat (by omega) (by omega) z.2.1
                    rw [show ((b.toNat : Nat) : Int) = b by omega] at pj
                    have hlt := rm2_lt (S := S) (i := ff) (j := b.toNat) (by omega) fb
                    have hc := cn_rm2 (S := S) (i := ff) (j := b.toNat) (by omega) (by omega) (by omega) fb z.2.1
                    exact ⟨_, _, pj, ((tb _ hlt (fun j hj hjb => hsub j hj ((rm2_bt hj).mp hjb).1)).1 (by omega)).1⟩
              · rcases hx with ⟨_, hx⟩ | ⟨y', hy, _⟩
                · exact hx
                · rw [hod hodd] at hy; cases hy
            | succ r ih2 =>
              intro N k s qk g' hqk hN hk fk f' ho hx hl hod
              subst hqk
              obtain ⟨M2, rfl⟩ := fuel_s hN
              have ek : (k : Int) + 1 = ((k + 1 : Nat) : Int) := by omega
              have e164 : ∀ g2, nX12_pairing_164 (nX12_pairing_40 M) (nX12_pairing_89 (nX12_pairing_40 M) M2) (O : Int) (S : Int) (ff : Int) (k : Int) g2 = gd (R32 ((k : Int) + 1)) (nX12_pairing_89 (nX12_pairing_40 M) M2 (O : Int) (S : Int) (ff : Int) ((k : Int) + 1) g2) := fun _ => rfl
              rw [nX12_pairing_89_s]
              simp only [bX12_pairing_89]
              refine ok_pos (by rw [e72' g' f']; omega) ?_
              rw [bitA (s := S) (i := k) S1024 (by omega)]
              by_cases cb : Nat.testBit S k = true
              · rw [if_pos cb]
                refine ok_pos rfl ?_
                have hne : ff ≠ k := by omega
                have ex := clr2 (S := S) (i := ff) (j := k) S1024 (by omega) (by omega)
                have hlt := rm2_lt (S := S) (i := ff) (j := k) (by omega) fb
                have hc := cn_rm2 (S := S) (i := ff) (j := k) (by omega) (by omega) hne fb cb
                have ht := tb _ hlt (fun j hj hjb => hsub j hj ((rm2_bt hj).mp hjb).1)
                have pk := lj k (by omega) (fun z => hne z.symm) cb
                rw [ex, ho ((rm2 S ff k : Nat) : Int) (by omega)]
                refine ok_gd (by omega) ?_
                by_cases cev : cnN S 10 % 2 = 0
                · obtain ⟨t1, t2, t3⟩ := ht.1 (by omega)
                  have hl2 := lpQ_cg (D' := fun b => b < ((k + 1 : Nat) : Int)) (fun b hb => by
                    show (b < (k : Int) ∨ b = k) ↔ b < ((k + 1 : Nat) : Int)
                    omega) (lpQ_s pk t1 (hl cev))
                  have ww := hw g' f' ff k ⟨by omega, by omega⟩ ⟨by omega, by omega⟩
                  refine ok_pos (by omega) ?_
                  refine ok_gd (by omega) ?_
                  refine ok_gd (by omega) ?_
                  refine ok_be ww.1 ?_
                  refine ok_gd (by omega) ?_
                  refine ok_be sX12_less ?_
                  refine ok_gd (by omega) ?_
                  refine ok_bs ?_
                  rw [e164]
                  refine ok_gd (by omega) ?_
                  rw [ek]
                  generalize g.1 117 ((rm2 S ff k : Nat) : Int) = y at *
                  generalize w (ff : Int) (k : Int) = wf at *
                  refine ih2 M2 (k + 1) _ _ _ rfl (by omega) (by omega) (by omega) (fr_I f' rfl) (fun j hj => by rw [rI_s, updI_n hj]; exact ho j hj) (Or.inr ⟨_, rfl, ?_, ?_, ?_⟩) (fun _ => hl2) (fun z => by omega)
                  · rw [rI_s, updI_s]
                    cases s with
                    | none =>
                      rcases hx with ⟨_, hx⟩ | ⟨_, hx, _⟩
                      · show min _ (y + wf) = wf + y
                        omega
                      · cases hx
                    | some z =>
                      rcases hx with ⟨hx, _⟩ | ⟨z', hz, hx, _⟩
                      · cases hx
                      · have : z = z' := Option.some.inj hz
                        show min _ (y + wf) = min z (wf + y)
                        omega
                  · cases s with
                    | none => show 0 ≤ wf + y; omega
                    | some z =>
                      rcases hx with ⟨hx, _⟩ | ⟨z', hz, hx, b1, b2⟩
                      · cases hx
                      · have : z = z' := Option.some.inj hz
                        show 0 ≤ min z (wf + y)
                        omega
                  · cases s with
                    | none => show wf + y ≤ 1800 * (S : Int); omega
                    | some z =>
                      show min z (wf + y) ≤ 1800 * (S : Int)
                      omega
                · have t1 := ht.2 (by omega)
                  refine ok_neg (by omega) ?_
                  rw [e164]
                  refine ok_gd (by omega) ?_
                  rw [ek]
                  exact ih2 M2 (k + 1) s _ g' rfl (by omega) (by omega) (by omega) f' ho hx (fun z => absurd z cev) hod
              · rw [if_neg cb]
                refine ok_neg (by decide) ?_
                rw [e164]
                refine ok_gd (by omega) ?_
                rw [ek]
                refine ih2 M2 (k + 1) s _ g' rfl (by omega) (by omega) (by omega) f' ho hx (fun z => lpQ_cg (fun b hb => ?_) (hl z)) hod
                have z := lm b hb
                have : b ≠ k := fun e => cb (by rw [e, Int.toNat_natCast] at z; exact z.2.1)
                show b < (k : Int) ↔ b < ((k + 1 : Nat) : Int)
                omega
          refine key (nn - (ff + 1)) 100000 (ff + 1) none _ _ rfl (by omega) (by omega) (by omega) f1 (fun j hj => by rw [e1, updI_n hj]) (Or.inl ⟨rfl, by rw [e1, updI_s]⟩) (fun _ b hb => ?_) (fun _ => rfl)
          have z := lm b hb
          show ¬ b < ((ff + 1 : Nat) : Int)
          intro z2
          by_cases c : b.toNat < ff
          · have := flow _ c
            rw [z.2.1] at this
            cases this
          · have := z.2.2
            omega
        -- the first
        have first : ∀ (r N i : Nat) (qi : Int), qi = (i : Int) → r < N → i + r = j0 → (∀ j, j < i → Nat.testBit S j = false) → Ok (nX12_pairing_70 (nX12_pairing_40 M) N (O : Int) (S : Int) qi (hI g 117 (S : Int) 1000000000)) (fun r => Fr s117 m r.2 ∧ isLP w (oddL dg (nn : Int)) r.1 ∧ 0 ≤ r.1 ∧ r.1 ≤ 1843200) := by
          intro r
          induction r with
          | zero =>
            intro N i qi hqi hN hi hlow
            subst hqi
            obtain ⟨M2, rfl⟩ := fuel_s hN
            have ei : (i : Int) + 1 = ((i + 1 : Nat) : Int) := by omega
            rw [nX12_pairing_70_s]
            simp only [bX12_pairing_70]
            have hb1 : andI (shrI (S : Int) (i : Int)) 1 = 1 := by
              rw [bitA (s := S) (i := i) S1024 (by omega)]
              exact if_pos (by rw [show i = j0 by omega]; exact j0b)
            rw [hb1]
            refine ok_neg (by decide) ?_
            refine ok_gd (by omega) ?_
            rw [ei]
            exact second i (by omega) (by rw [show i = j0 by omega]; exact j0b) hlow
          | succ r ih2 =>
            intro N i qi hqi hN hi hlow
            subst hqi
            obtain ⟨M2, rfl⟩ := fuel_s hN
            have ei : (i : Int) + 1 = ((i + 1 : Nat) : Int) := by omega
            rw [nX12_pairing_70_s]
            simp only [bX12_pairing_70]
            rw [bitA (s := S) (i := i) S1024 (by omega)]
            by_cases cb : Nat.testBit S i = true
            · rw [if_pos cb]
              refine ok_neg (by decide) ?_
              refine ok_gd (by omega) ?_
              rw [ei]
              exact second i (by omega) cb hlow
            · rw [if_neg cb]
              refine ok_pos rfl ?_
              refine ok_gd (by omega) ?_
              rw [ei]
              refine ih2 M2 (i + 1) _ rfl (by omega) (by omega) (fun j hj => ?_)
              by_cases c : j = i
              · rw [c]
                cases z : Nat.testBit S i
                · rfl
                · exact absurd z cb
              · exact hlow j (by omega)
        exact first j0 100000 0 0 rfl (by omega) (by omega) (fun j hj => absurd hj (Nat.not_lt_zero _))
      · refine ok_neg cs ?_
        exact nx _ f1 (fun j hj => by rw [e1, updI_n hj]) (fun z => absurd ((or_sub S1024 O1024).mpr z) cs)
  have key : ∀ (r N k O : Nat) (qk qO : Int), qk = (k : Int) → qO = (O : Int) → r < N → k + r = nn → O < 2 ^ k → (∀ j, j < 10 → (Nat.testBit O j = true ↔ j < k ∧ dg j % 2 = 1)) → Ok (nX12_pairing_4 N qO qk m) (fun r => Fr s117 m r.2 ∧ isLP w (oddL dg (nn : Int)) r.1 ∧ 0 ≤ r.1 ∧ r.1 ≤ 1843200) := by
    intro r
    induction r with
    | zero =>
      intro N k O qk qO hqk hqO hN hk hO hOb
      subst hqk
      subst hqO
      obtain ⟨M, rfl⟩ := fuel_s hN
      rw [nX12_pairing_4_s]
      simp only [bX12_pairing_4]
      refine ok_neg (by omega) ?_
      refine ok_gd (by omega) ?_
      refine ok_bs ?_
      have ek : k = nn := by omega
      rw [ek] at hO hOb
      refine sets hO hOb (2 ^ nn - 1) 100000 1 _ _ _ rfl rfl (by omega) (by omega) (by omega) (fr_I fr_r rfl) (fun S' hS' _ => ?_)
      have : S' = 0 := by omega
      rw [this]
      exact ⟨fun _ => tp_0 (by rw [rI_s, updI_s]), fun z => absurd z (by decide)⟩
    | succ r ih =>
      intro N k O qk qO hqk hqO hN hk hO hOb
      subst hqk
      subst hqO
      obtain ⟨M, rfl⟩ := fuel_s hN
      have hdk := hd k
      have ek : (k : Int) + 1 = ((k + 1 : Nat) : Int) := by omega
      have pk := pow10 (show k < 11 by omega)
      have p1 : 2 ^ (k + 1) = 2 ^ k + 2 ^ k := by rw [Nat.pow_succ]; omega
      rw [nX12_pairing_4_s]
      simp only [bX12_pairing_4]
      refine ok_pos (by omega) ?_
      refine ok_gd (by omega) ?_
      rw [e116 k (by omega) (by omega)]
      refine ok_gd (by omega) ?_
      refine ok_gd (by omega) ?_
      rw [ek]
      by_cases c : dg k % 2 = 1
      · rw [c, shlN (show k < 11 by omega), orN (by omega) (by omega)]
        refine ih M (k + 1) (O ||| 2 ^ k) _ _ rfl rfl (by omega) (by omega) (Nat.or_lt_two_pow (by omega) (by omega)) (fun j hj => ?_)
        rw [Nat.testBit_or, Nat.testBit_two_pow, Bool.or_eq_true, decide_eq_true_iff, hOb j hj]
        constructor
        · rintro (⟨a, b⟩ | a)
          · exact ⟨by omega, b⟩
          · rw [← a]; exact ⟨by omega, c⟩
        · rintro ⟨a, b⟩
          by_cases e : k = j
          · exact Or.inr e
          · exact Or.inl ⟨by omega, b⟩
      · have c0 : dg k % 2 = 0 := by omega
        have e0 : shlI 0 (k : Int) = ((0 : Nat) : Int) := shl0_0 ⟨k, by omega⟩
        rw [c0, e0, orN (by omega) (by omega), Nat.or_zero]
        refine ih M (k + 1) O _ _ rfl rfl (by omega) (by omega) (by omega) (fun j hj => ?_)
        rw [hOb j hj]
        constructor
        · rintro ⟨a, b⟩; exact ⟨by omega, b⟩
        · rintro ⟨a, b⟩
          by_cases e : j = k
          · rw [e] at b; exact absurd b c
          · exact ⟨by omega, b⟩
  unfold nX12_pairing bX12_pairing
  exact key nn 100000 0 0 0 0 rfl rfl (by omega) (by omega) (by decide) (fun j hj => by
    rw [Nat.zero_testBit]
    exact ⟨fun z => (Bool.false_ne_true z).elim, fun z => absurd z.1 (Nat.not_lt_zero _)⟩)
end PAIRM

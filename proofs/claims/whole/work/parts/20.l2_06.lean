def csX11_factor : List (Nat × List (Nat × ARow)) := [(100000, [(0, 1, .iload_n 1, 0, 0, 0), (1, 1, .iconst 0, 0, 0, 0), (2, 2, .bipush 23, 0, 0, 0), (4, 3, .invokestatic 109, 159, 3, 0), (7, 1, .iload_n 2, 0, 0, 0), (8, 2, .bipush 50, 0, 0, 0), (10, 3, .sipush 300, 0, 0, 0), (13, 3, .invokestatic 109, 159, 3, 0), (16, 1, .aload_n 0, 0, 0, 0), (17, 3, .getfield 12, 11, 0, 2), (20, 3, .getfield 129, 9, 7, 2), (23, 1, .iload_n 1, 0, 0, 0), (24, 1, .iaload, 0, 0, 0), (25, 1, .istore_n 3, 0, 0, 0), (26, 1, .aload_n 0, 0, 0, 0), (27, 3, .getfield 12, 11, 0, 2), (30, 3, .getfield 129, 9, 7, 2), (33, 1, .iload_n 1, 0, 0, 0), (34, 1, .iload_n 2, 0, 0, 0), (35, 1, .iastore, 0, 0, 0), (36, 1, .iload_n 3, 0, 0, 0), (37, 1, .ireturn, 0, 0, 0)])]
theorem rwX11_factor : rowsB (mB 113) (mO 113) (mX 113) (mIni 113) (mFr 113) (mLo 113) (mT 113) csX11_factor = true := by decide +kernel
def bX11_factor (f159 : Int → Int → Int → HH → Option ((Unit ⊕ Nat) × HU)) (x1 : Int) (x2 : Int) (h : HH) : Option ((Int ⊕ Nat) × HU) :=
  bnd (f159 x1 0 23 h) fun r1 => gd (0 + 2 ≤ 5) <| tcase r1.1 (fun _ =>
    bnd (f159 x2 50 300 r1.2.1) fun r3 => gd ((0 + 2) + 2 ≤ 5) <| tcase r3.1 (fun _ =>
    gd ((0 : Int) ≤ x1 ∧ x1 < (24 : Int)) <|
    gd ((0 : Int) ≤ x1 ∧ x1 < (24 : Int)) <|
    bnd (some (hI r3.2.1 10 x1 x2, ((0 + 2) + 2))) fun h5 =>
    gd (h5.2 ≤ 5) (some (.inl (r3.2.1.1 10 x1), h5))) (fun e => gd (((0 + 2) + 2) + 1 ≤ 5) (some (.inr e, (r3.2.1, ((0 + 2) + 2)))))) (fun e => gd ((0 + 2) + 1 ≤ 5) (some (.inr e, (r1.2.1, (0 + 2)))))
theorem uX11_factor {g : SG} (hg : GOK g) {σ0 : SG} : ∀ {x1 : Int} {x2 : Int} {h : HH} {b : ((Int ⊕ Nat) × HU)}, bX11_factor nX11_needRange x1 x2 h = some b → WK 113 (oT (fun r => some (aI r)) b.1) σ0 (abU 2 70 g b.2) 0 [(0, aR 2), (1, aI x1), (2, aI x2)] [] (abU 2 70 g (h, 0)) (cnU (h, 0)).1 (cnU (h, 0)).2 := by
  intro x1 x2 h b q
  have e : ∀ (f159 : Int → Int → Int → HH → Option ((Unit ⊕ Nat) × HU)) , bX11_factor f159 x1 x2 h = segT 2 70 g.2.2.2.2 (krTI 5) (kxT 5) (clC 159 (pX11_needRange f159 5) clN) csX11_factor cuN 1000 0 [(0, aR 2), (1, aI x1), (2, aI x2)] [] (h, 0) := fun _ => rfl
  rw [e nX11_needRange] at q
  clear e
  refine segT_wk (by decide) (by decide) hg rwX11_factor (CLK_C (pX11_needRange_ok hg (by decide)) CLK_N) (by decide) (krTI_ok (by decide)) (kxT_ok (by decide)) ?_ q
  clear q
  exact ct_N
def nX11_factor (x1 : Int) (x2 : Int) (h : HH) : Option ((Int ⊕ Nat) × HU) := bX11_factor nX11_needRange x1 x2 h
theorem wX11_factor {g : SG} (hg : GOK g) {σ0 : SG} : ∀ {x1 : Int} {x2 : Int} {h : HH} {b : ((Int ⊕ Nat) × HU)}, nX11_factor x1 x2 h = some b → WK 113 (oT (fun r => some (aI r)) b.1) σ0 (abU 2 70 g b.2) 0 [(0, aR 2), (1, aI x1), (2, aI x2)] [] (abU 2 70 g (h, 0)) (cnU (h, 0)).1 (cnU (h, 0)).2 := by
  intro x1 x2 h b q
  exact uX11_factor hg q
theorem mX11_factor {g : SG} (hg : GOK g) {h : HH} {x1 : Int} {x2 : Int} {b : ((Int ⊕ Nat) × HU)} (q : nX11_factor x1 x2 h = some b) : MCT 113 [] [aR 2, aI x1, aI x2] (abU 2 70 g (h, 0)) (oT (fun r => some (aI r)) b.1) (abU 2 70 g b.2) :=
  mct_of (by decide) (MFok 113 (by decide +kernel)) (fun _ => Nat.le_of_ble_eq_true rfl) (wX11_factor hg q)
def pX11_factor {β : Type} (z : Int → Int → HH → Option ((Int ⊕ Nat) × HU)) (rc : Nat) : PT β := fun as s f => skC 2 as fun as => skI as fun x1 as => skI as fun x2 as => skE as (liTT rc 5 (fun r => some (aI r)) s (z x1 x2 s.1) f)
theorem pX11_factor_ok {β : Type} {g : SG} (hg : GOK g) {rc rs : Nat} (hrs : 6 * rc ≤ rs) : CLK1 (β := β) 113 (pX11_factor nX11_factor rc) (abU 2 70 g) cnU rc rs := fun as s f b q => by
  obtain ⟨as, rfl, q1⟩ := skC_of q
  obtain ⟨x1, as, rfl, q2⟩ := skI_of q1
  obtain ⟨x2, as, rfl, q3⟩ := skI_of q2
  obtain ⟨rfl, q0⟩ := skE_of q3
  exact liTT_ok q0 (by decide) (fun _ e => mX11_factor hg e) rfl rfl hrs
def csX11_way : List (Nat × List (Nat × ARow)) := [(100000, [(0, 1, .iload_n 1, 0, 0, 0), (1, 3, .invokestatic 101, 154, 1, 0), (4, 1, .iload_n 2, 0, 0, 0), (5, 3, .invokestatic 101, 154, 1, 0), (8, 1, .iload_n 3, 0, 0, 0), (9, 1, .iconst 0, 0, 0, 0), (10, 1, .iconst 2, 0, 0, 0), (11, 3, .invokestatic 109, 159, 3, 0), (14, 1, .aload_n 0, 0, 0, 0), (15, 3, .getfield 12, 11, 0, 2), (18, 1, .iload_n 1, 0, 0, 0), (19, 1, .iload_n 2, 0, 0, 0), (20, 1, .iload_n 3, 0, 0, 0), (21, 3, .invokevirtual 132, 88, 4, 9), (24, 1, .ireturn, 0, 0, 0)])]
theorem rwX11_way : rowsB (mB 114) (mO 114) (mX 114) (mIni 114) (mFr 114) (mLo 114) (mT 114) csX11_way = true := by decide +kernel
def bX11_way (f154 : Int → HH → Option ((Unit ⊕ Nat) × HU)) (f159 : Int → Int → Int → HH → Option ((Unit ⊕ Nat) × HU)) (f88 : HH → Int → Int → Int → Option Int) (x1 : Int) (x2 : Int) (x3 : Int) (h : HH) : Option ((Int ⊕ Nat) × HU) :=
  bnd (f154 x1 h) fun r1 => gd (0 + 2 ≤ 7) <| tcase r1.1 (fun _ =>
    bnd (f154 x2 r1.2.1) fun r3 => gd ((0 + 2) + 2 ≤ 7) <| tcase r3.1 (fun _ =>
    bnd (f159 x3 0 2 r3.2.1) fun r5 => gd (((0 + 2) + 2) + 2 ≤ 7) <| tcase r5.1 (fun _ =>
    gd ((((0 + 2) + 2) + 2) ≤ 7) <|
    bnd (f88 r5.2.1 x1 x2 x3) fun r7 =>
    gd ((((0 + 2) + 2) + 2) ≤ 7) (some (.inl r7, (r5.2.1, (((0 + 2) + 2) + 2))))) (fun e => gd ((((0 + 2) + 2) + 2) + 1 ≤ 7) (some (.inr e, (r5.2.1, (((0 + 2) + 2) + 2)))))) (fun e => gd (((0 + 2) + 2) + 1 ≤ 7) (some (.inr e, (r3.2.1, ((0 + 2) + 2)))))) (fun e => gd ((0 + 2) + 1 ≤ 7) (some (.inr e, (r1.2.1, (0 + 2)))))
theorem uX11_way {g : SG} (hg : GOK g) {σ0 : SG} : ∀ {x1 : Int} {x2 : Int} {x3 : Int} {h : HH} {b : ((Int ⊕ Nat) × HU)}, bX11_way nX11_needPlace nX11_needRange nX9_ofWay x1 x2 x3 h = some b → WK 114 (oT (fun r => some (aI r)) b.1) σ0 (abU 2 70 g b.2) 0 [(0, aR 2), (1, aI x1), (2, aI x2), (3, aI x3)] [] (abU 2 70 g (h, 0)) (cnU (h, 0)).1 (cnU (h, 0)).2 := by
  intro x1 x2 x3 h b q
  have e : ∀ (f154 : Int → HH → Option ((Unit ⊕ Nat) × HU)) (f159 : Int → Int → Int → HH → Option ((Unit ⊕ Nat) × HU)) (f88 : HH → Int → Int → Int → Option Int) , bX11_way f154 f159 f88 x1 x2 x3 h = segT 2 70 g.2.2.2.2 (krTI 7) (kxT 7) (clC 154 (pX11_needPlace f154 7) (clC 159 (pX11_needRange f159 7) (clC 88 (guT 7 (liWT (liPW (pX9_ofWay f88)))) clN))) csX11_way cuN 1000 0 [(0, aR 2), (1, aI x1), (2, aI x2), (3, aI x3)] [] (h, 0) := fun _ _ _ => rfl
  rw [e nX11_needPlace nX11_needRange nX9_ofWay] at q
  clear e
  refine segT_wk (by decide) (by decide) hg rwX11_way (CLK_C (pX11_needPlace_ok hg (by decide)) (CLK_C (pX11_needRange_ok hg (by decide)) (CLK_C (liWT_ck (liPW_ok (pX9_ofWay_ok hg)) (by decide)) CLK_N))) (by decide) (krTI_ok (by decide)) (kxT_ok (by decide)) ?_ q
  clear q
  exact ct_N
def nX11_way (x1 : Int) (x2 : Int) (x3 : Int) (h : HH) : Option ((Int ⊕ Nat) × HU) := bX11_way nX11_needPlace nX11_needRange nX9_ofWay x1 x2 x3 h
theorem wX11_way {g : SG} (hg : GOK g) {σ0 : SG} : ∀ {x1 : Int} {x2 : Int} {x3 : Int} {h : HH} {b : ((Int ⊕ Nat) × HU)}, nX11_way x1 x2 x3 h = some b → WK 114 (oT (fun r => some (aI r)) b.1) σ0 (abU 2 70 g b.2) 0 [(0, aR 2), (1, aI x1), (2, aI x2), (3, aI x3)] [] (abU 2 70 g (h, 0)) (cnU (h, 0)).1 (cnU (h, 0)).2 := by
  intro x1 x2 x3 h b q
  exact uX11_way hg q
theorem mX11_way {g : SG} (hg : GOK g) {h : HH} {x1 : Int} {x2 : Int} {x3 : Int} {b : ((Int ⊕ Nat) × HU)} (q : nX11_way x1 x2 x3 h = some b) : MCT 114 [] [aR 2, aI x1, aI x2, aI x3] (abU 2 70 g (h, 0)) (oT (fun r => some (aI r)) b.1) (abU 2 70 g b.2) :=
  mct_of (by decide) (MFok 114 (by decide +kernel)) (fun _ => Nat.le_of_ble_eq_true rfl) (wX11_way hg q)
def pX11_way {β : Type} (z : Int → Int → Int → HH → Option ((Int ⊕ Nat) × HU)) (rc : Nat) : PT β := fun as s f => skC 2 as fun as => skI as fun x1 as => skI as fun x2 as => skI as fun x3 as => skE as (liTT rc 7 (fun r => some (aI r)) s (z x1 x2 x3 s.1) f)
theorem pX11_way_ok {β : Type} {g : SG} (hg : GOK g) {rc rs : Nat} (hrs : 6 * rc ≤ rs) : CLK1 (β := β) 114 (pX11_way nX11_way rc) (abU 2 70 g) cnU rc rs := fun as s f b q => by
  obtain ⟨as, rfl, q1⟩ := skC_of q
  obtain ⟨x1, as, rfl, q2⟩ := skI_of q1
  obtain ⟨x2, as, rfl, q3⟩ := skI_of q2
  obtain ⟨x3, as, rfl, q4⟩ := skI_of q3
  obtain ⟨rfl, q0⟩ := skE_of q4
  exact liTT_ok q0 (by decide) (fun _ e => mX11_way hg e) rfl rfl hrs
def csX11_arrival : List (Nat × List (Nat × ARow)) := [(100000, [(0, 1, .iload_n 1, 0, 0, 0), (1, 3, .invokestatic 101, 154, 1, 0), (4, 1, .iload_n 2, 0, 0, 0), (5, 3, .invokestatic 101, 154, 1, 0), (8, 1, .iload_n 3, 0, 0, 0), (9, 1, .iconst 0, 0, 0, 0), (10, 3, .sipush 1439, 0, 0, 0), (13, 3, .invokestatic 109, 159, 3, 0), (16, 1, .aload_n 0, 0, 0, 0), (17, 3, .getfield 12, 11, 0, 2), (20, 1, .iload_n 1, 0, 0, 0), (21, 1, .iload_n 2, 0, 0, 0), (22, 1, .iload_n 3, 0, 0, 0), (23, 3, .invokevirtual 136, 92, 4, 9), (26, 1, .ireturn, 0, 0, 0)])]
theorem rwX11_arrival : rowsB (mB 115) (mO 115) (mX 115) (mIni 115) (mFr 115) (mLo 115) (mT 115) csX11_arrival = true := by decide +kernel
def bX11_arrival (f154 : Int → HH → Option ((Unit ⊕ Nat) × HU)) (f159 : Int → Int → Int → HH → Option ((Unit ⊕ Nat) × HU)) (f92 : Int → Int → Int → HH → Option (Int × HH)) (x1 : Int) (x2 : Int) (x3 : Int) (h : HH) : Option ((Int ⊕ Nat) × HU) :=
  bnd (f154 x1 h) fun r1 => gd (0 + 2 ≤ 7) <| tcase r1.1 (fun _ =>
    bnd (f154 x2 r1.2.1) fun r3 => gd ((0 + 2) + 2 ≤ 7) <| tcase r3.1 (fun _ =>
    bnd (f159 x3 0 1439 r3.2.1) fun r5 => gd (((0 + 2) + 2) + 2 ≤ 7) <| tcase r5.1 (fun _ =>
    gd ((((0 + 2) + 2) + 2) ≤ 7) <|
    bnd (f92 x1 x2 x3 r5.2.1) fun r7 =>
    gd ((((0 + 2) + 2) + 2) ≤ 7) (some (.inl r7.1, (r7.2, (((0 + 2) + 2) + 2))))) (fun e => gd ((((0 + 2) + 2) + 2) + 1 ≤ 7) (some (.inr e, (r5.2.1, (((0 + 2) + 2) + 2)))))) (fun e => gd (((0 + 2) + 2) + 1 ≤ 7) (some (.inr e, (r3.2.1, ((0 + 2) + 2)))))) (fun e => gd ((0 + 2) + 1 ≤ 7) (some (.inr e, (r1.2.1, (0 + 2)))))
theorem uX11_arrival {g : SG} (hg : GOK g) {σ0 : SG} : ∀ {x1 : Int} {x2 : Int} {x3 : Int} {h : HH} {b : ((Int ⊕ Nat) × HU)}, bX11_arrival nX11_needPlace nX11_needRange nX9_earliest x1 x2 x3 h = some b → WK 115 (oT (fun r => some (aI r)) b.1) σ0 (abU 2 70 g b.2) 0 [(0, aR 2), (1, aI x1), (2, aI x2), (3, aI x3)] [] (abU 2 70 g (h, 0)) (cnU (h, 0)).1 (cnU (h, 0)).2 := by
  intro x1 x2 x3 h b q
  have e : ∀ (f154 : Int → HH → Option ((Unit ⊕ Nat) × HU)) (f159 : Int → Int → Int → HH → Option ((Unit ⊕ Nat) × HU)) (f92 : Int → Int → Int → HH → Option (Int × HH)) , bX11_arrival f154 f159 f92 x1 x2 x3 h = segT 2 70 g.2.2.2.2 (krTI 7) (kxT 7) (clC 154 (pX11_needPlace f154 7) (clC 159 (pX11_needRange f159 7) (clC 92 (guT 7 (liWT (pX9_earliest f92))) clN))) csX11_arrival cuN 1000 0 [(0, aR 2), (1, aI x1), (2, aI x2), (3, aI x3)] [] (h, 0) := fun _ _ _ => rfl
  rw [e nX11_needPlace nX11_needRange nX9_earliest] at q
  clear e
  refine segT_wk (by decide) (by decide) hg rwX11_arrival (CLK_C (pX11_needPlace_ok hg (by decide)) (CLK_C (pX11_needRange_ok hg (by decide)) (CLK_C (liWT_ck (pX9_earliest_ok hg) (by decide)) CLK_N))) (by decide) (krTI_ok (by decide)) (kxT_ok (by decide)) ?_ q
  clear q
  exact ct_N
def nX11_arrival (x1 : Int) (x2 : Int) (x3 : Int) (h : HH) : Option ((Int ⊕ Nat) × HU) := bX11_arrival nX11_needPlace nX11_needRange nX9_earliest x1 x2 x3 h
theorem wX11_arrival {g : SG} (hg : GOK g) {σ0 : SG} : ∀ {x1 : Int} {x2 : Int} {x3 : Int} {h : HH} {b : ((Int ⊕ Nat) × HU)}, nX11_arrival x1 x2 x3 h = some b → WK 115 (oT (fun r => some (aI r)) b.1) σ0 (abU 2 70 g b.2) 0 [(0, aR 2), (1, aI x1), (2, aI x2), (3, aI x3)] [] (abU 2 70 g (h, 0)) (cnU (h, 0)).1 (cnU (h, 0)).2 := by
  intro x1 x2 x3 h b q
  exact uX11_arrival hg q
theorem mX11_arrival {g : SG} (hg : GOK g) {h : HH} {x1 : Int} {x2 : Int} {x3 : Int} {b : ((Int ⊕ Nat) × HU)} (q : nX11_arrival x1 x2 x3 h = some b) : MCT 115 [] [aR 2, aI x1, aI x2, aI x3] (abU 2 70 g (h, 0)) (oT (fun r => some (aI r)) b.1) (abU 2 70 g b.2) :=
  mct_of (by decide) (MFok 115 (by decide +kernel)) (fun _ => Nat.le_of_ble_eq_true rfl) (wX11_arrival hg q)
def pX11_arrival {β : Type} (z : Int → Int → Int → HH → Option ((Int ⊕ Nat) × HU)) (rc : Nat) : PT β := fun as s f => skC 2 as fun as => skI as fun x1 as => skI as fun x2 as => skI as fun x3 as => skE as (liTT rc 7 (fun r => some (aI r)) s (z x1 x2 x3 s.1) f)
theorem pX11_arrival_ok {β : Type} {g : SG} (hg : GOK g) {rc rs : Nat} (hrs : 6 * rc ≤ rs) : CLK1 (β := β) 115 (pX11_arrival nX11_arrival rc) (abU 2 70 g) cnU rc rs := fun as s f b q => by
  obtain ⟨as, rfl, q1⟩ := skC_of q
  obtain ⟨x1, as, rfl, q2⟩ := skI_of q1
  obtain ⟨x2, as, rfl, q3⟩ := skI_of q2
  obtain ⟨x3, as, rfl, q4⟩ := skI_of q3
  obtain ⟨rfl, q0⟩ := skE_of q4
  exact liTT_ok q0 (by decide) (fun _ e => mX11_arrival hg e) rfl rfl hrs
def csX11_clock : List (Nat × List (Nat × ARow)) := [(100000, [(0, 1, .iload_n 1, 0, 0, 0), (1, 1, .iconst 0, 0, 0, 0), (2, 2, .bipush 23, 0, 0, 0), (4, 3, .invokestatic 109, 159, 3, 0), (7, 1, .iload_n 2, 0, 0, 0), (8, 1, .iconst 0, 0, 0, 0), (9, 2, .bipush 59, 0, 0, 0), (11, 3, .invokestatic 109, 159, 3, 0), (14, 1, .iload_n 3, 0, 0, 0), (15, 1, .iconst 0, 0, 0, 0), (16, 2, .ldc 139, 100000, 0, 0), (18, 3, .invokestatic 109, 159, 3, 0), (21, 1, .iload_n 1, 0, 0, 0), (22, 2, .bipush 60, 0, 0, 0), (24, 1, .imul, 0, 0, 0), (25, 1, .iload_n 2, 0, 0, 0), (26, 1, .iadd, 0, 0, 0), (27, 1, .iload_n 3, 0, 0, 0), (28, 1, .iadd, 0, 0, 0), (29, 3, .sipush 1440, 0, 0, 0), (32, 1, .irem, 0, 0, 0), (33, 1, .ireturn, 0, 0, 0)])]
theorem rwX11_clock : rowsB (mB 116) (mO 116) (mX 116) (mIni 116) (mFr 116) (mLo 116) (mT 116) csX11_clock = true := by decide +kernel
def bX11_clock (f159 : Int → Int → Int → HH → Option ((Unit ⊕ Nat) × HU)) (x1 : Int) (x2 : Int) (x3 : Int) (h : HH) : Option ((Int ⊕ Nat) × HU) :=
  bnd (f159 x1 0 23 h) fun r1 => gd (0 + 2 ≤ 7) <| tcase r1.1 (fun _ =>
    bnd (f159 x2 0 59 r1.2.1) fun r3 => gd ((0 + 2) + 2 ≤ 7) <| tcase r3.1 (fun _ =>
    bnd (f159 x3 0 100000 r3.2.1) fun r5 => gd (((0 + 2) + 2) + 2 ≤ 7) <| tcase r5.1 (fun _ =>
    gd (R32 (x1 * 60)) <|
    gd (R32 ((x1 * 60) + x2)) <|
    gd (R32 (((x1 * 60) + x2) + x3)) <|
    gd ((0 : Int) ≤ (((x1 * 60) + x2) + x3) ∧ (0 : Int) < 1440) <|
    gd ((((0 + 2) + 2) + 2) ≤ 7) (some (.inl ((((x1 * 60) + x2) + x3) % 1440), (r5.2.1, (((0 + 2) + 2) + 2))))) (fun e => gd ((((0 + 2) + 2) + 2) + 1 ≤ 7) (some (.inr e, (r5.2.1, (((0 + 2) + 2) + 2)))))) (fun e => gd (((0 + 2) + 2) + 1 ≤ 7) (some (.inr e, (r3.2.1, ((0 + 2) + 2)))))) (fun e => gd ((0 + 2) + 1 ≤ 7) (some (.inr e, (r1.2.1, (0 + 2)))))
theorem uX11_clock {g : SG} (hg : GOK g) {σ0 : SG} : ∀ {x1 : Int} {x2 : Int} {x3 : Int} {h : HH} {b : ((Int ⊕ Nat) × HU)}, bX11_clock nX11_needRange x1 x2 x3 h = some b → WK 116 (oT (fun r => some (aI r)) b.1) σ0 (abU 2 70 g b.2) 0 [(0, aR 2), (1, aI x1), (2, aI x2), (3, aI x3)] [] (abU 2 70 g (h, 0)) (cnU (h, 0)).1 (cnU (h, 0)).2 := by
  intro x1 x2 x3 h b q
  have e : ∀ (f159 : Int → Int → Int → HH → Option ((Unit ⊕ Nat) × HU)) , bX11_clock f159 x1 x2 x3 h = segT 2 70 g.2.2.2.2 (krTI 7) (kxT 7) (clC 159 (pX11_needRange f159 7) clN) csX11_clock cuN 1000 0 [(0, aR 2), (1, aI x1), (2, aI x2), (3, aI x3)] [] (h, 0) := fun _ => rfl
  rw [e nX11_needRange] at q
  clear e
  refine segT_wk (by decide) (by decide) hg rwX11_clock (CLK_C (pX11_needRange_ok hg (by decide)) CLK_N) (by decide) (krTI_ok (by decide)) (kxT_ok (by decide)) ?_ q
  clear q
  exact ct_N
def nX11_clock (x1 : Int) (x2 : Int) (x3 : Int) (h : HH) : Option ((Int ⊕ Nat) × HU) := bX11_clock nX11_needRange x1 x2 x3 h
theorem wX11_clock {g : SG} (hg : GOK g) {σ0 : SG} : ∀ {x1 : Int} {x2 : Int} {x3 : Int} {h : HH} {b : ((Int ⊕ Nat) × HU)}, nX11_clock x1 x2 x3 h = some b → WK 116 (oT (fun r => some (aI r)) b.1) σ0 (abU 2 70 g b.2) 0 [(0, aR 2), (1, aI x1), (2, aI x2), (3, aI x3)] [] (abU 2 70 g (h, 0)) (cnU (h, 0)).1 (cnU (h, 0)).2 := by
  intro x1 x2 x3 h b q
  exact uX11_clock hg q
theorem mX11_clock {g : SG} (hg : GOK g) {h : HH} {x1 : Int} {x2 : Int} {x3 : Int} {b : ((Int ⊕ Nat) × HU)} (q : nX11_clock x1 x2 x3 h = some b) : MCT 116 [] [aR 2, aI x1, aI x2, aI x3] (abU 2 70 g (h, 0)) (oT (fun r => some (aI r)) b.1) (abU 2 70 g b.2) :=
  mct_of (by decide) (MFok 116 (by decide +kernel)) (fun _ => Nat.le_of_ble_eq_true rfl) (wX11_clock hg q)
def pX11_clock {β : Type} (z : Int → Int → Int → HH → Option ((Int ⊕ Nat) × HU)) (rc : Nat) : PT β := fun as s f => skC 2 as fun as => skI as fun x1 as => skI as fun x2 as => skI as fun x3 as => skE as (liTT rc 7 (fun r => some (aI r)) s (z x1 x2 x3 s.1) f)
theorem pX11_clock_ok {β : Type} {g : SG} (hg : GOK g) {rc rs : Nat} (hrs : 6 * rc ≤ rs) : CLK1 (β := β) 116 (pX11_clock nX11_clock rc) (abU 2 70 g) cnU rc rs := fun as s f b q => by
  obtain ⟨as, rfl, q1⟩ := skC_of q
  obtain ⟨x1, as, rfl, q2⟩ := skI_of q1
  obtain ⟨x2, as, rfl, q3⟩ := skI_of q2
  obtain ⟨x3, as, rfl, q4⟩ := skI_of q3
  obtain ⟨rfl, q0⟩ := skE_of q4
  exact liTT_ok q0 (by decide) (fun _ e => mX11_clock hg e) rfl rfl hrs
def csX11_needSender : List (Nat × List (Nat × ARow)) := [(100000, [(0, 1, .iload_n 0, 0, 0, 0), (1, 1, .iconst 0, 0, 0, 0), (2, 1, .iconst 2, 0, 0, 0), (3, 3, .invokestatic 180, 158, 3, 0), (6, 1, .return_, 0, 0, 0)])]
theorem rwX11_needSender : rowsB (mB 155) (mO 155) (mX 155) (mIni 155) (mFr 155) (mLo 155) (mT 155) csX11_needSender = true := by decide +kernel
def bX11_needSender (f158 : Int → Int → Int → HH → Option ((Unit ⊕ Nat) × HU)) (x0 : Int) (h : HH) : Option ((Unit ⊕ Nat) × HU) :=
  bnd (f158 x0 0 2 h) fun r1 => gd (0 + 1 ≤ 2) <| tcase r1.1 (fun _ =>
    gd ((0 + 1) ≤ 2) (some (.inl (), (r1.2.1, (0 + 1))))) (fun e => gd ((0 + 1) + 1 ≤ 2) (some (.inr e, (r1.2.1, (0 + 1)))))
theorem uX11_needSender {g : SG} (hg : GOK g) {σ0 : SG} : ∀ {x0 : Int} {h : HH} {b : ((Unit ⊕ Nat) × HU)}, bX11_needSender nX11_needIndex x0 h = some b → WK 155 (oT (fun _ => none) b.1) σ0 (abU 2 70 g b.2) 0 [(0, aI x0)] [] (abU 2 70 g (h, 0)) (cnU (h, 0)).1 (cnU (h, 0)).2 := by
  intro x0 h b q
  have e : ∀ (f158 : Int → Int → Int → HH → Option ((Unit ⊕ Nat) × HU)) , bX11_needSender f158 x0 h = segT 2 70 g.2.2.2.2 (krTV 2) (kxT 2) (clC 158 (pX11_needIndex f158 2) clN) csX11_needSender cuN 1000 0 [(0, aI x0)] [] (h, 0) := fun _ => rfl
  rw [e nX11_needIndex] at q
  clear e
  refine segT_wk (by decide) (by decide) hg rwX11_needSender (CLK_C (pX11_needIndex_ok hg (by decide)) CLK_N) (by decide) (krTV_ok (by decide)) (kxT_ok (by decide)) ?_ q
  clear q
  exact ct_N
def nX11_needSender (x0 : Int) (h : HH) : Option ((Unit ⊕ Nat) × HU) := bX11_needSender nX11_needIndex x0 h
theorem wX11_needSender {g : SG} (hg : GOK g) {σ0 : SG} : ∀ {x0 : Int} {h : HH} {b : ((Unit ⊕ Nat) × HU)}, nX11_needSender x0 h = some b → WK 155 (oT (fun _ => none) b.1) σ0 (abU 2 70 g b.2) 0 [(0, aI x0)] [] (abU 2 70 g (h, 0)) (cnU (h, 0)).1 (cnU (h, 0)).2 := by
  intro x0 h b q
  exact uX11_needSender hg q
theorem mX11_needSender {g : SG} (hg : GOK g) {h : HH} {x0 : Int} {b : ((Unit ⊕ Nat) × HU)} (q : nX11_needSender x0 h = some b) : MCT 155 [] [aI x0] (abU 2 70 g (h, 0)) (oT (fun _ => none) b.1) (abU 2 70 g b.2) :=
  mct_of (by decide) (MFok 155 (by decide +kernel)) (fun _ => Nat.le_of_ble_eq_true rfl) (wX11_needSender hg q)
def pX11_needSender {β : Type} (z : Int → HH → Option ((Unit ⊕ Nat) × HU)) (rc : Nat) : PT β := fun as s f => skI as fun x0 as => skE as (liTT rc 2 (fun _ => none) s (z x0 s.1) f)
theorem pX11_needSender_ok {β : Type} {g : SG} (hg : GOK g) {rc rs : Nat} (hrs : 6 * rc ≤ rs) : CLK1 (β := β) 155 (pX11_needSender nX11_needSender rc) (abU 2 70 g) cnU rc rs := fun as s f b q => by
  obtain ⟨x0, as, rfl, q1⟩ := skI_of q
  obtain ⟨rfl, q0⟩ := skE_of q1
  exact liTT_ok q0 (by decide) (fun _ e => mX11_needSender hg e) rfl rfl hrs
def csX11_parcel : List (Nat × List (Nat × ARow)) := [(48, [(0, 1, .iload_n 1, 0, 0, 0), (1, 3, .invokestatic 101, 154, 1, 0), (4, 1, .iload_n 3, 0, 0, 0), (5, 3, .invokestatic 140, 155, 1, 0), (8, 1, .iload_n 1, 0, 0, 0), (9, 3, .ifCond .eq 7, 16, 0, 0), (12, 1, .iconst 1, 0, 0, 0), (13, 3, .goto 4, 17, 0, 0), (16, 1, .iconst 0, 0, 0, 0), (17, 3, .invokestatic 105, 160, 1, 0), (20, 1, .iload_n 2, 0, 0, 0), (21, 1, .iconst 1, 0, 0, 0), (22, 2, .bipush 100, 0, 0, 0), (24, 3, .invokestatic 109, 159, 3, 0), (27, 1, .aload_n 0, 0, 0, 0), (28, 3, .getfield 21, 11, 1, 2), (31, 3, .getfield 143, 2, 10, 0), (34, 2, .bipush 9, 0, 0, 0), (36, 3, .if_icmp .ge 7, 43, 0, 0), (39, 1, .iconst 1, 0, 0, 0), (40, 3, .goto 4, 44, 0, 0), (43, 1, .iconst 0, 0, 0, 0), (44, 3, .invokestatic 122, 161, 1, 0), (47, 1, .aload_n 0, 0, 0, 0)]),
  (100000, [(48, 3, .getfield 21, 11, 1, 2), (51, 1, .iload_n 1, 0, 0, 0), (52, 1, .iload_n 2, 0, 0, 0), (53, 1, .iload_n 3, 0, 0, 0), (54, 3, .invokevirtual 146, 25, 4, 2), (57, 1, .ireturn, 0, 0, 0)])]
theorem rwX11_parcel : rowsB (mB 117) (mO 117) (mX 117) (mIni 117) (mFr 117) (mLo 117) (mT 117) csX11_parcel = true := by decide +kernel
def bX11_parcel_44 (f161 : Int → HH → Option ((Unit ⊕ Nat) × HU)) (f25 : Int → Int → Int → HH → Option (Int × HH)) (x1 : Int) (x2 : Int) (x3 : Int) (y0 : Int) (s : HU) : Option ((Int ⊕ Nat) × HU) :=
  bnd (f161 y0 s.1) fun r1 => gd (s.2 + 1 ≤ 9) <| tcase r1.1 (fun _ =>
    gd ((s.2 + 1) ≤ 9) <|
    bnd (f25 x1 x2 x3 r1.2.1) fun r3 =>
    gd ((s.2 + 1) ≤ 9) (some (.inl r3.1, (r3.2, (s.2 + 1))))) (fun e => gd ((s.2 + 1) + 1 ≤ 9) (some (.inr e, (r1.2.1, (s.2 + 1)))))
theorem uX11_parcel_44 {g : SG} (hg : GOK g) {σ0 : SG} : ∀ {x1 : Int} {x2 : Int} {x3 : Int} {y0 : Int} {s : HU} {b : ((Int ⊕ Nat) × HU)}, bX11_parcel_44 nX11_needState nX2_addParcel x1 x2 x3 y0 s = some b → WK 117 (oT (fun r => some (aI r)) b.1) σ0 (abU 2 70 g b.2) 44 [(0, aR 2), (1, aI x1), (2, aI x2), (3, aI x3)] [aI y0] (abU 2 70 g s) (cnU s).1 (cnU s).2 := by
  intro x1 x2 x3 y0 s b q
  have e : ∀ (f161 : Int → HH → Option ((Unit ⊕ Nat) × HU)) (f25 : Int → Int → Int → HH → Option (Int × HH)) , bX11_parcel_44 f161 f25 x1 x2 x3 y0 s = segT 2 70 g.2.2.2.2 (krTI 9) (kxT 9) (clC 161 (pX11_needState f161 9) (clC 25 (guT 9 (liWT (pX2_addParcel f25))) clN)) csX11_parcel cuN 1000 44 [(0, aR 2), (1, aI x1), (2, aI x2), (3, aI x3)] [aI y0] s := fun _ _ => rfl
  rw [e nX11_needState nX2_addParcel] at q
  clear e
  refine segT_wk (by decide) (by decide) hg rwX11_parcel (CLK_C (pX11_needState_ok hg (by decide)) (CLK_C (liWT_ck (pX2_addParcel_ok hg) (by decide)) CLK_N)) (by decide) (krTI_ok (by decide)) (kxT_ok (by decide)) ?_ q
  clear q
  exact ct_N
def nX11_parcel_44 (x1 : Int) (x2 : Int) (x3 : Int) (y0 : Int) (s : HU) : Option ((Int ⊕ Nat) × HU) := bX11_parcel_44 nX11_needState nX2_addParcel x1 x2 x3 y0 s
theorem wX11_parcel_44 {g : SG} (hg : GOK g) {σ0 : SG} : ∀ {x1 : Int} {x2 : Int} {x3 : Int} {y0 : Int} {s : HU} {b : ((Int ⊕ Nat) × HU)}, nX11_parcel_44 x1 x2 x3 y0 s = some b → WK 117 (oT (fun r => some (aI r)) b.1) σ0 (abU 2 70 g b.2) 44 [(0, aR 2), (1, aI x1), (2, aI x2), (3, aI x3)] [aI y0] (abU 2 70 g s) (cnU s).1 (cnU s).2 := by
  intro x1 x2 x3 y0 s b q
  exact uX11_parcel_44 hg q
def bX11_parcel_17 (f160 : Int → HH → Option ((Unit ⊕ Nat) × HU)) (f159 : Int → Int → Int → HH → Option ((Unit ⊕ Nat) × HU)) (c44 : Int → Int → Int → Int → HU → Option ((Int ⊕ Nat) × HU)) (x1 : Int) (x2 : Int) (x3 : Int) (y0 : Int) (s : HU) : Option ((Int ⊕ Nat) × HU) :=
  bnd (f160 y0 s.1) fun r1 => gd (s.2 + 1 ≤ 9) <| tcase r1.1 (fun _ =>
    bnd (f159 x2 1 100 r1.2.1) fun r3 => gd ((s.2 + 1) + 2 ≤ 9) <| tcase r3.1 (fun _ =>
    if (r3.2.1.1 13 10) < (9 : Int) then
    c44 x1 x2 x3 1 (r3.2.1, ((s.2 + 1) + 2))
  else
    c44 x1 x2 x3 0 (r3.2.1, ((s.2 + 1) + 2))) (fun e => gd (((s.2 + 1) + 2) + 1 ≤ 9) (some (.inr e, (r3.2.1, ((s.2 + 1) + 2)))))) (fun e => gd ((s.2 + 1) + 1 ≤ 9) (some (.inr e, (r1.2.1, (s.2 + 1)))))
theorem uX11_parcel_17 {g : SG} (hg : GOK g) {σ0 : SG} {c44 : Int → Int → Int → Int → HU → Option ((Int ⊕ Nat) × HU)} (k44 : ∀ (x1 : Int) (x2 : Int) (x3 : Int) (y0 : Int) (s : HU) (b : ((Int ⊕ Nat) × HU)), c44 x1 x2 x3 y0 s = some b → WK 117 (oT (fun r => some (aI r)) b.1) σ0 (abU 2 70 g b.2) 44 [(0, aR 2), (1, aI x1), (2, aI x2), (3, aI x3)] [aI y0] (abU 2 70 g s) (cnU s).1 (cnU s).2) : ∀ {x1 : Int} {x2 : Int} {x3 : Int} {y0 : Int} {s : HU} {b : ((Int ⊕ Nat) × HU)}, bX11_parcel_17 nX11_needThat nX11_needRange c44 x1 x2 x3 y0 s = some b → WK 117 (oT (fun r => some (aI r)) b.1) σ0 (abU 2 70 g b.2) 17 [(0, aR 2), (1, aI x1), (2, aI x2), (3, aI x3)] [aI y0] (abU 2 70 g s) (cnU s).1 (cnU s).2 := by
  intro x1 x2 x3 y0 s b q
  have e : ∀ (f160 : Int → HH → Option ((Unit ⊕ Nat) × HU)) (f159 : Int → Int → Int → HH → Option ((Unit ⊕ Nat) × HU)) , bX11_parcel_17 f160 f159 c44 x1 x2 x3 y0 s = segT 2 70 g.2.2.2.2 (krTI 9) (kxT 9) (clC 160 (pX11_needThat f160 9) (clC 159 (pX11_needRange f159 9) clN)) csX11_parcel (cuC 44 (fun l st s => tkC 0 2 l <| tkI 1 l fun x1 => tkI 2 l fun x2 => tkI 3 l fun x3 => skI st fun y0 st => skE st (c44 x1 x2 x3 y0 s)) cuN) 1000 17 [(0, aR 2), (1, aI x1), (2, aI x2), (3, aI x3)] [aI y0] s := fun _ _ => rfl
  rw [e nX11_needThat nX11_needRange] at q
  clear e
  refine segT_wk (by decide) (by decide) hg rwX11_parcel (CLK_C (pX11_needThat_ok hg (by decide)) (CLK_C (pX11_needRange_ok hg (by decide)) CLK_N)) (by decide) (krTI_ok (by decide)) (kxT_ok (by decide)) ?_ q
  clear q
  refine ct_C ?_ (ct_N)
  · intro l st s q
    obtain ⟨m0, q1⟩ := tkC_of q
    obtain ⟨x1, m1, q2⟩ := tkI_of q1
    obtain ⟨x2, m2, q3⟩ := tkI_of q2
    obtain ⟨x3, m3, q4⟩ := tkI_of q3
    obtain ⟨y0, t0, rfl, q5⟩ := skI_of q4
    obtain ⟨rfl, q6⟩ := skE_of q5
    exact WK_less (k44 _ _ _ _ _ _ q6) (List.forall_mem_cons.mpr ⟨m0, (List.forall_mem_cons.mpr ⟨m1, (List.forall_mem_cons.mpr ⟨m2, (List.forall_mem_cons.mpr ⟨m3, (fun _ h => absurd h List.not_mem_nil)⟩)⟩)⟩)⟩)
def nX11_parcel_17 (x1 : Int) (x2 : Int) (x3 : Int) (y0 : Int) (s : HU) : Option ((Int ⊕ Nat) × HU) := bX11_parcel_17 nX11_needThat nX11_needRange nX11_parcel_44 x1 x2 x3 y0 s
theorem wX11_parcel_17 {g : SG} (hg : GOK g) {σ0 : SG} : ∀ {x1 : Int} {x2 : Int} {x3 : Int} {y0 : Int} {s : HU} {b : ((Int ⊕ Nat) × HU)}, nX11_parcel_17 x1 x2 x3 y0 s = some b → WK 117 (oT (fun r => some (aI r)) b.1) σ0 (abU 2 70 g b.2) 17 [(0, aR 2), (1, aI x1), (2, aI x2), (3, aI x3)] [aI y0] (abU 2 70 g s) (cnU s).1 (cnU s).2 := by
  intro x1 x2 x3 y0 s b q
  exact uX11_parcel_17 hg (fun _ _ _ _ _ _ q => wX11_parcel_44 hg q) q
def bX11_parcel (f154 : Int → HH → Option ((Unit ⊕ Nat) × HU)) (f155 : Int → HH → Option ((Unit ⊕ Nat) × HU)) (c17 : Int → Int → Int → Int → HU → Option ((Int ⊕ Nat) × HU)) (x1 : Int) (x2 : Int) (x3 : Int) (h : HH) : Option ((Int ⊕ Nat) × HU) :=
  bnd (f154 x1 h) fun r1 => gd (0 + 2 ≤ 9) <| tcase r1.1 (fun _ =>
    bnd (f155 x3 r1.2.1) fun r3 => gd ((0 + 2) + 2 ≤ 9) <| tcase r3.1 (fun _ =>
    if x1 = (0 : Int) then
    c17 x1 x2 x3 0 (r3.2.1, ((0 + 2) + 2))
  else
    c17 x1 x2 x3 1 (r3.2.1, ((0 + 2) + 2))) (fun e => gd (((0 + 2) + 2) + 1 ≤ 9) (some (.inr e, (r3.2.1, ((0 + 2) + 2)))))) (fun e => gd ((0 + 2) + 1 ≤ 9) (some (.inr e, (r1.2.1, (0 + 2)))))
theorem uX11_parcel {g : SG} (hg : GOK g) {σ0 : SG} {c17 : Int → Int → Int → Int → HU → Option ((Int ⊕ Nat) × HU)} (k17 : ∀ (x1 : Int) (x2 : Int) (x3 : Int) (y0 : Int) (s : HU) (b : ((Int ⊕ Nat) × HU)), c17 x1 x2 x3 y0 s = some b → WK 117 (oT (fun r => some (aI r)) b.1) σ0 (abU 2 70 g b.2) 17 [(0, aR 2), (1, aI x1), (2, aI x2), (3, aI x3)] [aI y0] (abU 2 70 g s) (cnU s).1 (cnU s).2) : ∀ {x1 : Int} {x2 : Int} {x3 : Int} {h : HH} {b : ((Int ⊕ Nat) × HU)}, bX11_parcel nX11_needPlace nX11_needSender c17 x1 x2 x3 h = some b → WK 117 (oT (fun r => some (aI r)) b.1) σ0 (abU 2 70 g b.2) 0 [(0, aR 2), (1, aI x1), (2, aI x2), (3, aI x3)] [] (abU 2 70 g (h, 0)) (cnU (h, 0)).1 (cnU (h, 0)).2 := by
  intro x1 x2 x3 h b q
  have e : ∀ (f154 : Int → HH → Option ((Unit ⊕ Nat) × HU)) (f155 : Int → HH → Option ((Unit ⊕ Nat) × HU)) , bX11_parcel f154 f155 c17 x1 x2 x3 h = segT 2 70 g.2.2.2.2 (krTI 9) (kxT 9) (clC 154 (pX11_needPlace f154 9) (clC 155 (pX11_needSender f155 9) clN)) csX11_parcel (cuC 17 (fun l st s => tkC 0 2 l <| tkI 1 l fun x1 => tkI 2 l fun x2 => tkI 3 l fun x3 => skI st fun y0 st => skE st (c17 x1 x2 x3 y0 s)) cuN) 1000 0 [(0, aR 2), (1, aI x1), (2, aI x2), (3, aI x3)] [] (h, 0) := fun _ _ => rfl
  rw [e nX11_needPlace nX11_needSender] at q
  clear e
  refine segT_wk (by decide) (by decide) hg rwX11_parcel (CLK_C (pX11_needPlace_ok hg (by decide)) (CLK_C (pX11_needSender_ok hg (by decide)) CLK_N)) (by decide) (krTI_ok (by decide)) (kxT_ok (by decide)) ?_ q
  clear q
  refine ct_C ?_ (ct_N)
  · intro l st s q
    obtain ⟨m0, q1⟩ := tkC_of q
    obtain ⟨x1, m1, q2⟩ := tkI_of q1
    obtain ⟨x2, m2, q3⟩ := tkI_of q2
    obtain ⟨x3, m3, q4⟩ := tkI_of q3
    obtain ⟨y0, t0, rfl, q5⟩ := skI_of q4
    obtain ⟨rfl, q6⟩ := skE_of q5
    exact WK_less (k17 _ _ _ _ _ _ q6) (List.forall_mem_cons.mpr ⟨m0, (List.forall_mem_cons.mpr ⟨m1, (List.forall_mem_cons.mpr ⟨m2, (List.forall_mem_cons.mpr ⟨m3, (fun _ h => absurd h List.not_mem_nil)⟩)⟩)⟩)⟩)
def nX11_parcel (x1 : Int) (x2 : Int) (x3 : Int) (h : HH) : Option ((Int ⊕ Nat) × HU) := bX11_parcel nX11_needPlace nX11_needSender nX11_parcel_17 x1 x2 x3 h
theorem wX11_parcel {g : SG} (hg : GOK g) {σ0 : SG} : ∀ {x1 : Int} {x2 : Int} {x3 : Int} {h : HH} {b : ((Int ⊕ Nat) × HU)}, nX11_parcel x1 x2 x3 h = some b → WK 117 (oT (fun r => some (aI r)) b.1) σ0 (abU 2 70 g b.2) 0 [(0, aR 2), (1, aI x1), (2, aI x2), (3, aI x3)] [] (abU 2 70 g (h, 0)) (cnU (h, 0)).1 (cnU (h, 0)).2 := by
  intro x1 x2 x3 h b q
  exact uX11_parcel hg (fun _ _ _ _ _ _ q => wX11_parcel_17 hg q) q
theorem mX11_parcel {g : SG} (hg : GOK g) {h : HH} {x1 : Int} {x2 : Int} {x3 : Int} {b : ((Int ⊕ Nat) × HU)} (q : nX11_parcel x1 x2 x3 h = some b) : MCT 117 [] [aR 2, aI x1, aI x2, aI x3] (abU 2 70 g (h, 0)) (oT (fun r => some (aI r)) b.1) (abU 2 70 g b.2) :=
  mct_of (by decide) (MFok 117 (by decide +kernel)) (fun _ => Nat.le_of_ble_eq_true rfl) (wX11_parcel hg q)
def pX11_parcel {β : Type} (z : Int → Int → Int → HH → Option ((Int ⊕ Nat) × HU)) (rc : Nat) : PT β := fun as s f => skC 2 as fun as => skI as fun x1 as => skI as fun x2 as => skI as fun x3 as => skE as (liTT rc 9 (fun r => some (aI r)) s (z x1 x2 x3 s.1) f)
theorem pX11_parcel_ok {β : Type} {g : SG} (hg : GOK g) {rc rs : Nat} (hrs : 6 * rc ≤ rs) : CLK1 (β := β) 117 (pX11_parcel nX11_parcel rc) (abU 2 70 g) cnU rc rs := fun as s f b q => by
  obtain ⟨as, rfl, q1⟩ := skC_of q
  obtain ⟨x1, as, rfl, q2⟩ := skI_of q1
  obtain ⟨x2, as, rfl, q3⟩ := skI_of q2
  obtain ⟨x3, as, rfl, q4⟩ := skI_of q3
  obtain ⟨rfl, q0⟩ := skE_of q4
  exact liTT_ok q0 (by decide) (fun _ e => mX11_parcel hg e) rfl rfl hrs
def csX11_needParcel : List (Nat × List (Nat × ARow)) := [(100000, [(0, 1, .iload_n 1, 0, 0, 0), (1, 1, .iconst 0, 0, 0, 0), (2, 1, .aload_n 0, 0, 0, 0), (3, 3, .getfield 21, 11, 1, 2), (6, 3, .getfield 143, 2, 10, 0), (9, 1, .iconst 1, 0, 0, 0), (10, 1, .isub, 0, 0, 0), (11, 3, .invokestatic 180, 158, 3, 0), (14, 1, .return_, 0, 0, 0)])]
theorem rwX11_needParcel : rowsB (mB 156) (mO 156) (mX 156) (mIni 156) (mFr 156) (mLo 156) (mT 156) csX11_needParcel = true := by decide +kernel
def bX11_needParcel (f158 : Int → Int → Int → HH → Option ((Unit ⊕ Nat) × HU)) (x1 : Int) (h : HH) : Option ((Unit ⊕ Nat) × HU) :=
  gd (R32 ((h.1 13 10) - 1)) <|
    bnd (f158 x1 0 ((h.1 13 10) - 1) h) fun r1 => gd (0 + 1 ≤ 2) <| tcase r1.1 (fun _ =>
    gd ((0 + 1) ≤ 2) (some (.inl (), (r1.2.1, (0 + 1))))) (fun e => gd ((0 + 1) + 1 ≤ 2) (some (.inr e, (r1.2.1, (0 + 1)))))
theorem uX11_needParcel {g : SG} (hg : GOK g) {σ0 : SG} : ∀ {x1 : Int} {h : HH} {b : ((Unit ⊕ Nat) × HU)}, bX11_needParcel nX11_needIndex x1 h = some b → WK 156 (oT (fun _ => none) b.1) σ0 (abU 2 70 g b.2) 0 [(0, aR 2), (1, aI x1)] [] (abU 2 70 g (h, 0)) (cnU (h, 0)).1 (cnU (h, 0)).2 := by
  intro x1 h b q
  have e : ∀ (f158 : Int → Int → Int → HH → Option ((Unit ⊕ Nat) × HU)) , bX11_needParcel f158 x1 h = segT 2 70 g.2.2.2.2 (krTV 2) (kxT 2) (clC 158 (pX11_needIndex f158 2) clN) csX11_needParcel cuN 1000 0 [(0, aR 2), (1, aI x1)] [] (h, 0) := fun _ => rfl
  rw [e nX11_needIndex] at q
  clear e
  refine segT_wk (by decide) (by decide) hg rwX11_needParcel (CLK_C (pX11_needIndex_ok hg (by decide)) CLK_N) (by decide) (krTV_ok (by decide)) (kxT_ok (by decide)) ?_ q
  clear q
  exact ct_N
def nX11_needParcel (x1 : Int) (h : HH) : Option ((Unit ⊕ Nat) × HU) := bX11_needParcel nX11_needIndex x1 h
theorem wX11_needParcel {g : SG} (hg : GOK g) {σ0 : SG} : ∀ {x1 : Int} {h : HH} {b : ((Unit ⊕ Nat) × HU)}, nX11_needParcel x1 h = some b → WK 156 (oT (fun _ => none) b.1) σ0 (abU 2 70 g b.2) 0 [(0, aR 2), (1, aI x1)] [] (abU 2 70 g (h, 0)) (cnU (h, 0)).1 (cnU (h, 0)).2 := by
  intro x1 h b q
  exact uX11_needParcel hg q
theorem mX11_needParcel {g : SG} (hg : GOK g) {h : HH} {x1 : Int} {b : ((Unit ⊕ Nat) × HU)} (q : nX11_needParcel x1 h = some b) : MCT 156 [] [aR 2, aI x1] (abU 2 70 g (h, 0)) (oT (fun _ => none) b.1) (abU 2 70 g b.2) :=
  mct_of (by decide) (MFok 156 (by decide +kernel)) (fun _ => Nat.le_of_ble_eq_true rfl) (wX11_needParcel hg q)
def pX11_needParcel {β : Type} (z : Int → HH → Option ((Unit ⊕ Nat) × HU)) (rc : Nat) : PT β := fun as s f => skC 2 as fun as => skI as fun x1 as => skE as (liTT rc 2 (fun _ => none) s (z x1 s.1) f)
theorem pX11_needParcel_ok {β : Type} {g : SG} (hg : GOK g) {rc rs : Nat} (hrs : 6 * rc ≤ rs) : CLK1 (β := β) 156 (pX11_needParcel nX11_needParcel rc) (abU 2 70 g) cnU rc rs := fun as s f b q => by
  obtain ⟨as, rfl, q1⟩ := skC_of q
  obtain ⟨x1, as, rfl, q2⟩ := skI_of q1
  obtain ⟨rfl, q0⟩ := skE_of q2
  exact liTT_ok q0 (by decide) (fun _ e => mX11_needParcel hg e) rfl rfl hrs
def csX11_window : List (Nat × List (Nat × ARow)) := [(46, [(0, 1, .aload_n 0, 0, 0, 0), (1, 1, .iload_n 1, 0, 0, 0), (2, 3, .invokevirtual 149, 156, 2, 11), (5, 1, .iload_n 2, 0, 0, 0), (6, 1, .iconst 0, 0, 0, 0), (7, 3, .sipush 1439, 0, 0, 0), (10, 3, .invokestatic 109, 159, 3, 0), (13, 1, .iload_n 3, 0, 0, 0), (14, 1, .iload_n 2, 0, 0, 0), (15, 3, .sipush 1439, 0, 0, 0), (18, 3, .invokestatic 109, 159, 3, 0), (21, 2, .iload 4, 0, 0, 0), (23, 1, .iconst 0, 0, 0, 0), (24, 2, .bipush 60, 0, 0, 0), (26, 3, .invokestatic 109, 159, 3, 0), (29, 1, .aload_n 0, 0, 0, 0), (30, 3, .getfield 30, 11, 2, 2), (33, 1, .iload_n 1, 0, 0, 0), (34, 3, .invokevirtual 152, 49, 2, 6), (37, 1, .iconst (-1), 0, 0, 0), (38, 3, .if_icmp .ne 7, 45, 0, 0), (41, 1, .iconst 1, 0, 0, 0), (42, 3, .goto 4, 46, 0, 0), (45, 1, .iconst 0, 0, 0, 0)]),
  (91, [(46, 3, .invokestatic 122, 161, 1, 0), (49, 1, .aload_n 0, 0, 0, 0), (50, 3, .getfield 37, 11, 3, 2), (53, 3, .invokevirtual 156, 31, 1, 3), (56, 1, .aload_n 0, 0, 0, 0), (57, 3, .getfield 21, 11, 1, 2), (60, 3, .getfield 159, 2, 6, 2), (63, 1, .iload_n 1, 0, 0, 0), (64, 1, .iaload, 0, 0, 0), (65, 2, .istore 5, 0, 0, 0), (67, 1, .aload_n 0, 0, 0, 0), (68, 3, .getfield 21, 11, 1, 2), (71, 3, .getfield 162, 2, 4, 2), (74, 1, .iload_n 1, 0, 0, 0), (75, 1, .iload_n 2, 0, 0, 0), (76, 1, .iastore, 0, 0, 0), (77, 1, .aload_n 0, 0, 0, 0), (78, 3, .getfield 21, 11, 1, 2), (81, 3, .getfield 165, 2, 5, 2), (84, 1, .iload_n 1, 0, 0, 0), (85, 1, .iload_n 3, 0, 0, 0), (86, 1, .iastore, 0, 0, 0), (87, 1, .aload_n 0, 0, 0, 0), (88, 3, .getfield 21, 11, 1, 2)]),
  (100000, [(91, 3, .getfield 159, 2, 6, 2), (94, 1, .iload_n 1, 0, 0, 0), (95, 2, .iload 4, 0, 0, 0), (97, 1, .iastore, 0, 0, 0), (98, 2, .iload 5, 0, 0, 0), (100, 1, .ireturn, 0, 0, 0)])]
theorem rwX11_window : rowsB (mB 118) (mO 118) (mX 118) (mIni 118) (mFr 118) (mLo 118) (mT 118) csX11_window = true := by decide +kernel
def bX11_window_46 (f161 : Int → HH → Option ((Unit ⊕ Nat) × HU)) (f31 : HH → Option HH) (x1 : Int) (x2 : Int) (x3 : Int) (x4 : Int) (y0 : Int) (s : HU) : Option ((Int ⊕ Nat) × HU) :=
  bnd (f161 y0 s.1) fun r1 => gd (s.2 + 1 ≤ 10) <| tcase r1.1 (fun _ =>
    gd ((s.2 + 1) ≤ 10) <|
    bnd (f31 r1.2.1) fun r3 =>
    gd ((0 : Int) ≤ x1 ∧ x1 < (9 : Int)) <|
    gd ((0 : Int) ≤ x1 ∧ x1 < (9 : Int)) <|
    bnd (some (hI r3 17 x1 x2, (s.2 + 1))) fun h4 =>
    gd ((0 : Int) ≤ x1 ∧ x1 < (9 : Int)) <|
    bnd (some (hI h4.1 18 x1 x3, h4.2)) fun h5 =>
    gd ((0 : Int) ≤ x1 ∧ x1 < (9 : Int)) <|
    bnd (some (hI h5.1 19 x1 x4, h5.2)) fun h6 =>
    gd (h6.2 ≤ 10) (some (.inl (r3.1 19 x1), h6))) (fun e => gd ((s.2 + 1) + 1 ≤ 10) (some (.inr e, (r1.2.1, (s.2 + 1)))))
theorem uX11_window_46 {g : SG} (hg : GOK g) {σ0 : SG} : ∀ {x1 : Int} {x2 : Int} {x3 : Int} {x4 : Int} {y0 : Int} {s : HU} {b : ((Int ⊕ Nat) × HU)}, bX11_window_46 nX11_needState nX3_forget x1 x2 x3 x4 y0 s = some b → WK 118 (oT (fun r => some (aI r)) b.1) σ0 (abU 2 70 g b.2) 46 [(0, aR 2), (1, aI x1), (2, aI x2), (3, aI x3), (4, aI x4)] [aI y0] (abU 2 70 g s) (cnU s).1 (cnU s).2 := by
  intro x1 x2 x3 x4 y0 s b q
  have e : ∀ (f161 : Int → HH → Option ((Unit ⊕ Nat) × HU)) (f31 : HH → Option HH) , bX11_window_46 f161 f31 x1 x2 x3 x4 y0 s = segT 2 70 g.2.2.2.2 (krTI 10) (kxT 10) (clC 161 (pX11_needState f161 10) (clC 31 (guT 10 (liWT (pX3_forget f31))) clN)) csX11_window cuN 1000 46 [(0, aR 2), (1, aI x1), (2, aI x2), (3, aI x3), (4, aI x4)] [aI y0] s := fun _ _ => rfl
  rw [e nX11_needState nX3_forget] at q
  clear e
  refine segT_wk (by decide) (by decide) hg rwX11_window (CLK_C (pX11_needState_ok hg (by decide)) (CLK_C (liWT_ck (pX3_forget_ok hg) (by decide)) CLK_N)) (by decide) (krTI_ok (by decide)) (kxT_ok (by decide)) ?_ q
  clear q
  exact ct_N
def nX11_window_46 (x1 : Int) (x2 : Int) (x3 : Int) (x4 : Int) (y0 : Int) (s : HU) : Option ((Int ⊕ Nat) × HU) := bX11_window_46 nX11_needState nX3_forget x1 x2 x3 x4 y0 s
theorem wX11_window_46 {g : SG} (hg : GOK g) {σ0 : SG} : ∀ {x1 : Int} {x2 : Int} {x3 : Int} {x4 : Int} {y0 : Int} {s : HU} {b : ((Int ⊕ Nat) × HU)}, nX11_window_46 x1 x2 x3 x4 y0 s = some b → WK 118 (oT (fun r => some (aI r)) b.1) σ0 (abU 2 70 g b.2) 46 [(0, aR 2), (1, aI x1), (2, aI x2), (3, aI x3), (4, aI x4)] [aI y0] (abU 2 70 g s) (cnU s).1 (cnU s).2 := by
  intro x1 x2 x3 x4 y0 s b q
  exact uX11_window_46 hg q
def bX11_window (f156 : Int → HH → Option ((Unit ⊕ Nat) × HU)) (f159 : Int → Int → Int → HH → Option ((Unit ⊕ Nat) × HU)) (f49 : HH → Int → Option Int) (c46 : Int → Int → Int → Int → Int → HU → Option ((Int ⊕ Nat) × HU)) (x1 : Int) (x2 : Int) (x3 : Int) (x4 : Int) (h : HH) : Option ((Int ⊕ Nat) × HU) :=
  bnd (f156 x1 h) fun r1 => gd (0 + 2 ≤ 10) <| tcase r1.1 (fun _ =>
    bnd (f159 x2 0 1439 r1.2.1) fun r3 => gd ((0 + 2) + 2 ≤ 10) <| tcase r3.1 (fun _ =>
    bnd (f159 x3 x2 1439 r3.2.1) fun r5 => gd (((0 + 2) + 2) + 2 ≤ 10) <| tcase r5.1 (fun _ =>
    bnd (f159 x4 0 60 r5.2.1) fun r7 => gd ((((0 + 2) + 2) + 2) + 2 ≤ 10) <| tcase r7.1 (fun _ =>
    gd (((((0 + 2) + 2) + 2) + 2) ≤ 10) <|
    bnd (f49 r7.2.1 x1) fun r9 =>
    if r9 = ((-1) : Int) then
    c46 x1 x2 x3 x4 1 (r7.2.1, ((((0 + 2) + 2) + 2) + 2))
  else
    c46 x1 x2 x3 x4 0 (r7.2.1, ((((0 + 2) + 2) + 2) + 2))) (fun e => gd (((((0 + 2) + 2) + 2) + 2) + 1 ≤ 10) (some (.inr e, (r7.2.1, ((((0 + 2) + 2) + 2) + 2)))))) (fun e => gd ((((0 + 2) + 2) + 2) + 1 ≤ 10) (some (.inr e, (r5.2.1, (((0 + 2) + 2) + 2)))))) (fun e => gd (((0 + 2) + 2) + 1 ≤ 10) (some (.inr e, (r3.2.1, ((0 + 2) + 2)))))) (fun e => gd ((0 + 2) + 1 ≤ 10) (some (.inr e, (r1.2.1, (0 + 2)))))
set_option maxRecDepth 100000 in
theorem uX11_window {g : SG} (hg : GOK g) {σ0 : SG} {c46 : Int → Int → Int → Int → Int → HU → Option ((Int ⊕ Nat) × HU)} (k46 : ∀ (x1 : Int) (x2 : Int) (x3 : Int) (x4 : Int) (y0 : Int) (s : HU) (b : ((Int ⊕ Nat) × HU)), c46 x1 x2 x3 x4 y0 s = some b → WK 118 (oT (fun r => some (aI r)) b.1) σ0 (abU 2 70 g b.2) 46 [(0, aR 2), (1, aI x1), (2, aI x2), (3, aI x3), (4, aI x4)] [aI y0] (abU 2 70 g s) (cnU s).1 (cnU s).2) : ∀ {x1 : Int} {x2 : Int} {x3 : Int} {x4 : Int} {h : HH} {b : ((Int ⊕ Nat) × HU)}, bX11_window nX11_needParcel nX11_needRange nX6_vanWith c46 x1 x2 x3 x4 h = some b → WK 118 (oT (fun r => some (aI r)) b.1) σ0 (abU 2 70 g b.2) 0 [(0, aR 2), (1, aI x1), (2, aI x2), (3, aI x3), (4, aI x4)] [] (abU 2 70 g (h, 0)) (cnU (h, 0)).1 (cnU (h, 0)).2 := by
  intro x1 x2 x3 x4 h b q
  have e : ∀ (f156 : Int → HH → Option ((Unit ⊕ Nat) × HU)) (f159 : Int → Int → Int → HH → Option ((Unit ⊕ Nat) × HU)) (f49 : HH → Int → Option Int) , bX11_window f156 f159 f49 c46 x1 x2 x3 x4 h = segT 2 70 g.2.2.2.2 (krTI 10) (kxT 10) (clC 156 (pX11_needParcel f156 10) (clC 159 (pX11_needRange f159 10) (clC 49 (guT 10 (liWT (liPW (pX6_vanWith f49)))) clN))) csX11_window (cuC 46 (fun l st s => tkC 0 2 l <| tkI 1 l fun x1 => tkI 2 l fun x2 => tkI 3 l fun x3 => tkI 4 l fun x4 => skI st fun y0 st => skE st (c46 x1 x2 x3 x4 y0 s)) cuN) 1000 0 [(0, aR 2), (1, aI x1), (2, aI x2), (3, aI x3), (4, aI x4)] [] (h, 0) := fun _ _ _ => rfl
  rw [e nX11_needParcel nX11_needRange nX6_vanWith] at q
  clear e
  refine segT_wk (by decide) (by decide) hg rwX11_window (CLK_C (pX11_needParcel_ok hg (by decide)) (CLK_C (pX11_needRange_ok hg (by decide)) (CLK_C (liWT_ck (liPW_ok (pX6_vanWith_ok hg)) (by decide)) CLK_N))) (by decide) (krTI_ok (by decide)) (kxT_ok (by decide)) ?_ q
  clear q
  refine ct_C ?_ (ct_N)
  · intro l st s q
    obtain ⟨m0, q1⟩ := tkC_of q
    obtain ⟨x1, m1, q2⟩ := tkI_of q1
    obtain ⟨x2, m2, q3⟩ := tkI_of q2
    obtain ⟨x3, m3, q4⟩ := tkI_of q3
    obtain ⟨x4, m4, q5⟩ := tkI_of q4
    obtain ⟨y0, t0, rfl, q6⟩ := skI_of q5
    obtain ⟨rfl, q7⟩ := skE_of q6
    exact WK_less (k46 _ _ _ _ _ _ _ q7) (List.forall_mem_cons.mpr ⟨m0, (List.forall_mem_cons.mpr ⟨m1, (List.forall_mem_cons.mpr ⟨m2, (List.forall_mem_cons.mpr ⟨m3, (List.forall_mem_cons.mpr ⟨m4, (fun _ h => absurd h List.not_mem_nil)⟩)⟩)⟩)⟩)⟩)
def nX11_window (x1 : Int) (x2 : Int) (x3 : Int) (x4 : Int) (h : HH) : Option ((Int ⊕ Nat) × HU) := bX11_window nX11_needParcel nX11_needRange nX6_vanWith nX11_window_46 x1 x2 x3 x4 h
theorem wX11_window {g : SG} (hg : GOK g) {σ0 : SG} : ∀ {x1 : Int} {x2 : Int} {x3 : Int} {x4 : Int} {h : HH} {b : ((Int ⊕ Nat) × HU)}, nX11_window x1 x2 x3 x4 h = some b → WK 118 (oT (fun r => some (aI r)) b.1) σ0 (abU 2 70 g b.2) 0 [(0, aR 2), (1, aI x1), (2, aI x2), (3, aI x3), (4, aI x4)] [] (abU 2 70 g (h, 0)) (cnU (h, 0)).1 (cnU (h, 0)).2 := by
  intro x1 x2 x3 x4 h b q
  exact uX11_window hg (fun _ _ _ _ _ _ _ q => wX11_window_46 hg q) q
theorem mX11_window {g : SG} (hg : GOK g) {h : HH} {x1 : Int} {x2 : Int} {x3 : Int} {x4 : Int} {b : ((Int ⊕ Nat) × HU)} (q : nX11_window x1 x2 x3 x4 h = some b) : MCT 118 [] [aR 2, aI x1, aI x2, aI x3, aI x4] (abU 2 70 g (h, 0)) (oT (fun r => some (aI r)) b.1) (abU 2 70 g b.2) :=
  mct_of (by decide) (MFok 118 (by decide +kernel)) (fun _ => Nat.le_of_ble_eq_true rfl) (wX11_window hg q)
def pX11_window {β : Type} (z : Int → Int → Int → Int → HH → Option ((Int ⊕ Nat) × HU)) (rc : Nat) : PT β := fun as s f => skC 2 as fun as => skI as fun x1 as => skI as fun x2 as => skI as fun x3 as => skI as fun x4 as => skE as (liTT rc 10 (fun r => some (aI r)) s (z x1 x2 x3 x4 s.1) f)
theorem pX11_window_ok {β : Type} {g : SG} (hg : GOK g) {rc rs : Nat} (hrs : 6 * rc ≤ rs) : CLK1 (β := β) 118 (pX11_window nX11_window rc) (abU 2 70 g) cnU rc rs := fun as s f b q => by
  obtain ⟨as, rfl, q1⟩ := skC_of q
  obtain ⟨x1, as, rfl, q2⟩ := skI_of q1
  obtain ⟨x2, as, rfl, q3⟩ := skI_of q2
  obtain ⟨x3, as, rfl, q4⟩ := skI_of q3
  obtain ⟨x4, as, rfl, q5⟩ := skI_of q4
  obtain ⟨rfl, q0⟩ := skE_of q5
  exact liTT_ok q0 (by decide) (fun _ e => mX11_window hg e) rfl rfl hrs
def csX11_van : List (Nat × List (Nat × ARow)) := [(48, [(0, 1, .iload_n 1, 0, 0, 0), (1, 1, .iconst 1, 0, 0, 0), (2, 3, .sipush 900, 0, 0, 0), (5, 3, .invokestatic 109, 159, 3, 0), (8, 1, .iload_n 2, 0, 0, 0), (9, 1, .iconst 0, 0, 0, 0), (10, 3, .sipush 1439, 0, 0, 0), (13, 3, .invokestatic 109, 159, 3, 0), (16, 1, .iload_n 3, 0, 0, 0), (17, 1, .iload_n 2, 0, 0, 0), (18, 3, .sipush 2000, 0, 0, 0), (21, 3, .invokestatic 109, 159, 3, 0), (24, 1, .aload_n 0, 0, 0, 0), (25, 3, .getfield 21, 11, 1, 2), (28, 3, .getfield 168, 2, 14, 0), (31, 1, .iconst 3, 0, 0, 0), (32, 3, .if_icmp .ge 7, 39, 0, 0), (35, 1, .iconst 1, 0, 0, 0), (36, 3, .goto 4, 40, 0, 0), (39, 1, .iconst 0, 0, 0, 0), (40, 3, .invokestatic 122, 161, 1, 0), (43, 1, .aload_n 0, 0, 0, 0), (44, 3, .getfield 21, 11, 1, 2), (47, 1, .iload_n 1, 0, 0, 0)]),
  (100000, [(48, 1, .iload_n 2, 0, 0, 0), (49, 1, .iload_n 3, 0, 0, 0), (50, 3, .invokevirtual 171, 26, 4, 2), (53, 1, .ireturn, 0, 0, 0)])]
theorem rwX11_van : rowsB (mB 119) (mO 119) (mX 119) (mIni 119) (mFr 119) (mLo 119) (mT 119) csX11_van = true := by decide +kernel
def bX11_van_40 (f161 : Int → HH → Option ((Unit ⊕ Nat) × HU)) (f26 : Int → Int → Int → HH → Option (Int × HH)) (x1 : Int) (x2 : Int) (x3 : Int) (y0 : Int) (s : HU) : Option ((Int ⊕ Nat) × HU) :=
  bnd (f161 y0 s.1) fun r1 => gd (s.2 + 1 ≤ 8) <| tcase r1.1 (fun _ =>
    gd ((s.2 + 1) ≤ 8) <|
    bnd (f26 x1 x2 x3 r1.2.1) fun r3 =>
    gd ((s.2 + 1) ≤ 8) (some (.inl r3.1, (r3.2, (s.2 + 1))))) (fun e => gd ((s.2 + 1) + 1 ≤ 8) (some (.inr e, (r1.2.1, (s.2 + 1)))))
theorem uX11_van_40 {g : SG} (hg : GOK g) {σ0 : SG} : ∀ {x1 : Int} {x2 : Int} {x3 : Int} {y0 : Int} {s : HU} {b : ((Int ⊕ Nat) × HU)}, bX11_van_40 nX11_needState nX2_addVan x1 x2 x3 y0 s = some b → WK 119 (oT (fun r => some (aI r)) b.1) σ0 (abU 2 70 g b.2) 40 [(0, aR 2), (1, aI x1), (2, aI x2), (3, aI x3)] [aI y0] (abU 2 70 g s) (cnU s).1 (cnU s).2 := by
  intro x1 x2 x3 y0 s b q
  have e : ∀ (f161 : Int → HH → Option ((Unit ⊕ Nat) × HU)) (f26 : Int → Int → Int → HH → Option (Int × HH)) , bX11_van_40 f161 f26 x1 x2 x3 y0 s = segT 2 70 g.2.2.2.2 (krTI 8) (kxT 8) (clC 161 (pX11_needState f161 8) (clC 26 (guT 8 (liWT (pX2_addVan f26))) clN)) csX11_van cuN 1000 40 [(0, aR 2), (1, aI x1), (2, aI x2), (3, aI x3)] [aI y0] s := fun _ _ => rfl
  rw [e nX11_needState nX2_addVan] at q
  clear e
  refine segT_wk (by decide) (by decide) hg rwX11_van (CLK_C (pX11_needState_ok hg (by decide)) (CLK_C (liWT_ck (pX2_addVan_ok hg) (by decide)) CLK_N)) (by decide) (krTI_ok (by decide)) (kxT_ok (by decide)) ?_ q
  clear q
  exact ct_N
def nX11_van_40 (x1 : Int) (x2 : Int) (x3 : Int) (y0 : Int) (s : HU) : Option ((Int ⊕ Nat) × HU) := bX11_van_40 nX11_needState nX2_addVan x1 x2 x3 y0 s
theorem wX11_van_40 {g : SG} (hg : GOK g) {σ0 : SG} : ∀ {x1 : Int} {x2 : Int} {x3 : Int} {y0 : Int} {s : HU} {b : ((Int ⊕ Nat) × HU)}, nX11_van_40 x1 x2 x3 y0 s = some b → WK 119 (oT (fun r => some (aI r)) b.1) σ0 (abU 2 70 g b.2) 40 [(0, aR 2), (1, aI x1), (2, aI x2), (3, aI x3)] [aI y0] (abU 2 70 g s) (cnU s).1 (cnU s).2 := by
  intro x1 x2 x3 y0 s b q
  exact uX11_van_40 hg q
def bX11_van (f159 : Int → Int → Int → HH → Option ((Unit ⊕ Nat) × HU)) (c40 : Int → Int → Int → Int → HU → Option ((Int ⊕ Nat) × HU)) (x1 : Int) (x2 : Int) (x3 : Int) (h : HH) : Option ((Int ⊕ Nat) × HU) :=
  bnd (f159 x1 1 900 h) fun r1 => gd (0 + 2 ≤ 8) <| tcase r1.1 (fun _ =>
    bnd (f159 x2 0 1439 r1.2.1) fun r3 => gd ((0 + 2) + 2 ≤ 8) <| tcase r3.1 (fun _ =>
    bnd (f159 x3 x2 2000 r3.2.1) fun r5 => gd (((0 + 2) + 2) + 2 ≤ 8) <| tcase r5.1 (fun _ =>
    if (r5.2.1.1 13 14) < (3 : Int) then
    c40 x1 x2 x3 1 (r5.2.1, (((0 + 2) + 2) + 2))
  else
    c40 x1 x2 x3 0 (r5.2.1, (((0 + 2) + 2) + 2))) (fun e => gd ((((0 + 2) + 2) + 2) + 1 ≤ 8) (some (.inr e, (r5.2.1, (((0 + 2) + 2) + 2)))))) (fun e => gd (((0 + 2) + 2) + 1 ≤ 8) (some (.inr e, (r3.2.1, ((0 + 2) + 2)))))) (fun e => gd ((0 + 2) + 1 ≤ 8) (some (.inr e, (r1.2.1, (0 + 2)))))
theorem uX11_van {g : SG} (hg : GOK g) {σ0 : SG} {c40 : Int → Int → Int → Int → HU → Option ((Int ⊕ Nat) × HU)} (k40 : ∀ (x1 : Int) (x2 : Int) (x3 : Int) (y0 : Int) (s : HU) (b : ((Int ⊕ Nat) × HU)), c40 x1 x2 x3 y0 s = some b → WK 119 (oT (fun r => some (aI r)) b.1) σ0 (abU 2 70 g b.2) 40 [(0, aR 2), (1, aI x1), (2, aI x2), (3, aI x3)] [aI y0] (abU 2 70 g s) (cnU s).1 (cnU s).2) : ∀ {x1 : Int} {x2 : Int} {x3 : Int} {h : HH} {b : ((Int ⊕ Nat) × HU)}, bX11_van nX11_needRange c40 x1 x2 x3 h = some b → WK 119 (oT (fun r => some (aI r)) b.1) σ0 (abU 2 70 g b.2) 0 [(0, aR 2), (1, aI x1), (2, aI x2), (3, aI x3)] [] (abU 2 70 g (h, 0)) (cnU (h, 0)).1 (cnU (h, 0)).2 := by
  intro x1 x2 x3 h b q
  have e : ∀ (f159 : Int → Int → Int → HH → Option ((Unit ⊕ Nat) × HU)) , bX11_van f159 c40 x1 x2 x3 h = segT 2 70 g.2.2.2.2 (krTI 8) (kxT 8) (clC 159 (pX11_needRange f159 8) clN) csX11_van (cuC 40 (fun l st s => tkC 0 2 l <| tkI 1 l fun x1 => tkI 2 l fun x2 => tkI 3 l fun x3 => skI st fun y0 st => skE st (c40 x1 x2 x3 y0 s)) cuN) 1000 0 [(0, aR 2), (1, aI x1), (2, aI x2), (3, aI x3)] [] (h, 0) := fun _ => rfl
  rw [e nX11_needRange] at q
  clear e
  refine segT_wk (by decide) (by decide) hg rwX11_van (CLK_C (pX11_needRange_ok hg (by decide)) CLK_N) (by decide) (krTI_ok (by decide)) (kxT_ok (by decide)) ?_ q
  clear q
  refine ct_C ?_ (ct_N)
  · intro l st s q
    obtain ⟨m0, q1⟩ := tkC_of q
    obtain ⟨x1, m1, q2⟩ := tkI_of q1
    obtain ⟨x2, m2, q3⟩ := tkI_of q2
    obtain ⟨x3, m3, q4⟩ := tkI_of q3
    obtain ⟨y0, t0, rfl, q5⟩ := skI_of q4
    obtain ⟨rfl, q6⟩ := skE_of q5
    exact WK_less (k40 _ _ _ _ _ _ q6) (List.forall_mem_cons.mpr ⟨m0, (List.forall_mem_cons.mpr ⟨m1, (List.forall_mem_cons.mpr ⟨m2, (List.forall_mem_cons.mpr ⟨m3, (fun _ h => absurd h List.not_mem_nil)⟩)⟩)⟩)⟩)
def nX11_van (x1 : Int) (x2 : Int) (x3 : Int) (h : HH) : Option ((Int ⊕ Nat) × HU) := bX11_van nX11_needRange nX11_van_40 x1 x2 x3 h
theorem wX11_van {g : SG} (hg : GOK g) {σ0 : SG} : ∀ {x1 : Int} {x2 : Int} {x3 : Int} {h : HH} {b : ((Int ⊕ Nat) × HU)}, nX11_van x1 x2 x3 h = some b → WK 119 (oT (fun r => some (aI r)) b.1) σ0 (abU 2 70 g b.2) 0 [(0, aR 2), (1, aI x1), (2, aI x2), (3, aI x3)] [] (abU 2 70 g (h, 0)) (cnU (h, 0)).1 (cnU (h, 0)).2 := by
  intro x1 x2 x3 h b q
  exact uX11_van hg (fun _ _ _ _ _ _ q => wX11_van_40 hg q) q
theorem mX11_van {g : SG} (hg : GOK g) {h : HH} {x1 : Int} {x2 : Int} {x3 : Int} {b : ((Int ⊕ Nat) × HU)} (q : nX11_van x1 x2 x3 h = some b) : MCT 119 [] [aR 2, aI x1, aI x2, aI x3] (abU 2 70 g (h, 0)) (oT (fun r => some (aI r)) b.1) (abU 2 70 g b.2) :=
  mct_of (by decide) (MFok 119 (by decide +kernel)) (fun _ => Nat.le_of_ble_eq_true rfl) (wX11_van hg q)
def pX11_van {β : Type} (z : Int → Int → Int → HH → Option ((Int ⊕ Nat) × HU)) (rc : Nat) : PT β := fun as s f => skC 2 as fun as => skI as fun x1 as => skI as fun x2 as => skI as fun x3 as => skE as (liTT rc 8 (fun r => some (aI r)) s (z x1 x2 x3 s.1) f)
theorem pX11_van_ok {β : Type} {g : SG} (hg : GOK g) {rc rs : Nat} (hrs : 6 * rc ≤ rs) : CLK1 (β := β) 119 (pX11_van nX11_van rc) (abU 2 70 g) cnU rc rs := fun as s f b q => by
  obtain ⟨as, rfl, q1⟩ := skC_of q
  obtain ⟨x1, as, rfl, q2⟩ := skI_of q1
  obtain ⟨x2, as, rfl, q3⟩ := skI_of q2
  obtain ⟨x3, as, rfl, q4⟩ := skI_of q3
  obtain ⟨rfl, q0⟩ := skE_of q4
  exact liTT_ok q0 (by decide) (fun _ e => mX11_van hg e) rfl rfl hrs
def csX11_needVan : List (Nat × List (Nat × ARow)) := [(100000, [(0, 1, .iload_n 1, 0, 0, 0), (1, 1, .iconst 0, 0, 0, 0), (2, 1, .aload_n 0, 0, 0, 0), (3, 3, .getfield 21, 11, 1, 2), (6, 3, .getfield 168, 2, 14, 0), (9, 1, .iconst 1, 0, 0, 0), (10, 1, .isub, 0, 0, 0), (11, 3, .invokestatic 180, 158, 3, 0), (14, 1, .return_, 0, 0, 0)])]
theorem rwX11_needVan : rowsB (mB 157) (mO 157) (mX 157) (mIni 157) (mFr 157) (mLo 157) (mT 157) csX11_needVan = true := by decide +kernel
def bX11_needVan (f158 : Int → Int → Int → HH → Option ((Unit ⊕ Nat) × HU)) (x1 : Int) (h : HH) : Option ((Unit ⊕ Nat) × HU) :=
  gd (R32 ((h.1 13 14) - 1)) <|
    bnd (f158 x1 0 ((h.1 13 14) - 1) h) fun r1 => gd (0 + 1 ≤ 2) <| tcase r1.1 (fun _ =>
    gd ((0 + 1) ≤ 2) (some (.inl (), (r1.2.1, (0 + 1))))) (fun e => gd ((0 + 1) + 1 ≤ 2) (some (.inr e, (r1.2.1, (0 + 1)))))
theorem uX11_needVan {g : SG} (hg : GOK g) {σ0 : SG} : ∀ {x1 : Int} {h : HH} {b : ((Unit ⊕ Nat) × HU)}, bX11_needVan nX11_needIndex x1 h = some b → WK 157 (oT (fun _ => none) b.1) σ0 (abU 2 70 g b.2) 0 [(0, aR 2), (1, aI x1)] [] (abU 2 70 g (h, 0)) (cnU (h, 0)).1 (cnU (h, 0)).2 := by
  intro x1 h b q
  have e : ∀ (f158 : Int → Int → Int → HH → Option ((Unit ⊕ Nat) × HU)) , bX11_needVan f158 x1 h = segT 2 70 g.2.2.2.2 (krTV 2) (kxT 2) (clC 158 (pX11_needIndex f158 2) clN) csX11_needVan cuN 1000 0 [(0, aR 2), (1, aI x1)] [] (h, 0) := fun _ => rfl
  rw [e nX11_needIndex] at q
  clear e
  refine segT_wk (by decide) (by decide) hg rwX11_needVan (CLK_C (pX11_needIndex_ok hg (by decide)) CLK_N) (by decide) (krTV_ok (by decide)) (kxT_ok (by decide)) ?_ q
  clear q
  exact ct_N
def nX11_needVan (x1 : Int) (h : HH) : Option ((Unit ⊕ Nat) × HU) := bX11_needVan nX11_needIndex x1 h
theorem wX11_needVan {g : SG} (hg : GOK g) {σ0 : SG} : ∀ {x1 : Int} {h : HH} {b : ((Unit ⊕ Nat) × HU)}, nX11_needVan x1 h = some b → WK 157 (oT (fun _ => none) b.1) σ0 (abU 2 70 g b.2) 0 [(0, aR 2), (1, aI x1)] [] (abU 2 70 g (h, 0)) (cnU (h, 0)).1 (cnU (h, 0)).2 := by
  intro x1 h b q
  exact uX11_needVan hg q
theorem mX11_needVan {g : SG} (hg : GOK g) {h : HH} {x1 : Int} {b : ((Unit ⊕ Nat) × HU)} (q : nX11_needVan x1 h = some b) : MCT 157 [] [aR 2, aI x1] (abU 2 70 g (h, 0)) (oT (fun _ => none) b.1) (abU 2 70 g b.2) :=
  mct_of (by decide) (MFok 157 (by decide +kernel)) (fun _ => Nat.le_of_ble_eq_true rfl) (wX11_needVan hg q)
def pX11_needVan {β : Type} (z : Int → HH → Option ((Unit ⊕ Nat) × HU)) (rc : Nat) : PT β := fun as s f => skC 2 as fun as => skI as fun x1 as => skE as (liTT rc 2 (fun _ => none) s (z x1 s.1) f)
theorem pX11_needVan_ok {β : Type} {g : SG} (hg : GOK g) {rc rs : Nat} (hrs : 6 * rc ≤ rs) : CLK1 (β := β) 157 (pX11_needVan nX11_needVan rc) (abU 2 70 g) cnU rc rs := fun as s f b q => by
  obtain ⟨as, rfl, q1⟩ := skC_of q
  obtain ⟨x1, as, rfl, q2⟩ := skI_of q1
  obtain ⟨rfl, q0⟩ := skE_of q2
  exact liTT_ok q0 (by decide) (fun _ e => mX11_needVan hg e) rfl rfl hrs
def csX11_changeRound : List (Nat × List (Nat × ARow)) := [(44, [(0, 1, .aload_n 0, 0, 0, 0), (1, 3, .getfield 21, 11, 1, 2), (4, 1, .iload_n 1, 0, 0, 0), (5, 1, .aload_n 0, 0, 0, 0), (6, 3, .getfield 94, 11, 11, 2), (9, 1, .iload_n 2, 0, 0, 0), (10, 3, .invokevirtual 211, 27, 4, 2), (13, 1, .istore_n 3, 0, 0, 0), (14, 1, .iload_n 3, 0, 0, 0), (15, 1, .iconst (-1), 0, 0, 0), (16, 3, .if_icmp .eq 7, 23, 0, 0), (19, 1, .iconst 1, 0, 0, 0), (20, 3, .goto 4, 24, 0, 0), (23, 1, .iconst 0, 0, 0, 0), (24, 3, .invokestatic 122, 161, 1, 0), (27, 1, .aload_n 0, 0, 0, 0), (28, 3, .getfield 37, 11, 3, 2), (31, 1, .aload_n 0, 0, 0, 0), (32, 3, .getfield 30, 11, 2, 2), (35, 3, .invokevirtual 215, 32, 2, 3), (38, 1, .aload_n 0, 0, 0, 0), (39, 3, .getfield 30, 11, 2, 2), (42, 1, .iload_n 1, 0, 0, 0), (43, 1, .aload_n 0, 0, 0, 0)]),
  (100000, [(44, 3, .getfield 94, 11, 11, 2), (47, 1, .iload_n 2, 0, 0, 0), (48, 3, .invokevirtual 219, 51, 4, 6), (51, 1, .iload_n 3, 0, 0, 0), (52, 1, .ireturn, 0, 0, 0)])]
theorem rwX11_changeRound : rowsB (mB 163) (mO 163) (mX 163) (mIni 163) (mFr 163) (mLo 163) (mT 163) csX11_changeRound = true := by decide +kernel
def bX11_changeRound_24 (f161 : Int → HH → Option ((Unit ⊕ Nat) × HU)) (f32 : HH → Option HH) (f51 : Int → Nat → Int → HH → Option HH) (x1 : Int) (x2 : Int) (x3 : Int) (y0 : Int) (s : HU) : Option ((Int ⊕ Nat) × HU) :=
  bnd (f161 y0 s.1) fun r1 => gd (s.2 + 1 ≤ 2) <| tcase r1.1 (fun _ =>
    gd ((s.2 + 1) ≤ 2) <|
    bnd (f32 r1.2.1) fun r3 =>
    gd ((s.2 + 1) ≤ 2) <|
    bnd (f51 x1 69 x2 r3) fun r4 =>
    gd ((s.2 + 1) ≤ 2) (some (.inl x3, (r4, (s.2 + 1))))) (fun e => gd ((s.2 + 1) + 1 ≤ 2) (some (.inr e, (r1.2.1, (s.2 + 1)))))
theorem uX11_changeRound_24 {g : SG} (hg : GOK g) {σ0 : SG} : ∀ {x1 : Int} {x2 : Int} {x3 : Int} {y0 : Int} {s : HU} {b : ((Int ⊕ Nat) × HU)}, bX11_changeRound_24 nX11_needState nX3_remember nX6_replace x1 x2 x3 y0 s = some b → WK 163 (oT (fun r => some (aI r)) b.1) σ0 (abU 2 70 g b.2) 24 [(0, aR 2), (1, aI x1), (2, aI x2), (3, aI x3)] [aI y0] (abU 2 70 g s) (cnU s).1 (cnU s).2 := by
  intro x1 x2 x3 y0 s b q
  have e : ∀ (f161 : Int → HH → Option ((Unit ⊕ Nat) × HU)) (f32 : HH → Option HH) (f51 : Int → Nat → Int → HH → Option HH) , bX11_changeRound_24 f161 f32 f51 x1 x2 x3 y0 s = segT 2 70 g.2.2.2.2 (krTI 2) (kxT 2) (clC 161 (pX11_needState f161 2) (clC 32 (guT 2 (liWT (pX3_remember f32))) (clC 51 (guT 2 (liWT (pX6_replace f51))) clN))) csX11_changeRound cuN 1000 24 [(0, aR 2), (1, aI x1), (2, aI x2), (3, aI x3)] [aI y0] s := fun _ _ _ => rfl
  rw [e nX11_needState nX3_remember nX6_replace] at q
  clear e
  refine segT_wk (by decide) (by decide) hg rwX11_changeRound (CLK_C (pX11_needState_ok hg (by decide)) (CLK_C (liWT_ck (pX3_remember_ok hg) (by decide)) (CLK_C (liWT_ck (pX6_replace_ok hg) (by decide)) CLK_N))) (by decide) (krTI_ok (by decide)) (kxT_ok (by decide)) ?_ q
  clear q
  exact ct_N
def nX11_changeRound_24 (x1 : Int) (x2 : Int) (x3 : Int) (y0 : Int) (s : HU) : Option ((Int ⊕ Nat) × HU) := bX11_changeRound_24 nX11_needState nX3_remember nX6_replace x1 x2 x3 y0 s
theorem wX11_changeRound_24 {g : SG} (hg : GOK g) {σ0 : SG} : ∀ {x1 : Int} {x2 : Int} {x3 : Int} {y0 : Int} {s : HU} {b : ((Int ⊕ Nat) × HU)}, nX11_changeRound_24 x1 x2 x3 y0 s = some b → WK 163 (oT (fun r => some (aI r)) b.1) σ0 (abU 2 70 g b.2) 24 [(0, aR 2), (1, aI x1), (2, aI x2), (3, aI x3)] [aI y0] (abU 2 70 g s) (cnU s).1 (cnU s).2 := by
  intro x1 x2 x3 y0 s b q
  exact uX11_changeRound_24 hg q
def bX11_changeRound (f27 : HH → Int → Nat → Int → Option Int) (c24 : Int → Int → Int → Int → HU → Option ((Int ⊕ Nat) × HU)) (x1 : Int) (x2 : Int) (h : HH) : Option ((Int ⊕ Nat) × HU) :=
  gd (0 ≤ 2) <|
    bnd (f27 h x1 69 x2) fun r1 =>
    if r1 = ((-1) : Int) then
    c24 x1 x2 r1 0 (h, 0)
  else
    c24 x1 x2 r1 1 (h, 0)
theorem uX11_changeRound {g : SG} (hg : GOK g) {σ0 : SG} {c24 : Int → Int → Int → Int → HU → Option ((Int ⊕ Nat) × HU)} (k24 : ∀ (x1 : Int) (x2 : Int) (x3 : Int) (y0 : Int) (s : HU) (b : ((Int ⊕ Nat) × HU)), c24 x1 x2 x3 y0 s = some b → WK 163 (oT (fun r => some (aI r)) b.1) σ0 (abU 2 70 g b.2) 24 [(0, aR 2), (1, aI x1), (2, aI x2), (3, aI x3)] [aI y0] (abU 2 70 g s) (cnU s).1 (cnU s).2) : ∀ {x1 : Int} {x2 : Int} {h : HH} {b : ((Int ⊕ Nat) × HU)}, bX11_changeRound nX2_costOf c24 x1 x2 h = some b → WK 163 (oT (fun r => some (aI r)) b.1) σ0 (abU 2 70 g b.2) 0 [(0, aR 2), (1, aI x1), (2, aI x2)] [] (abU 2 70 g (h, 0)) (cnU (h, 0)).1 (cnU (h, 0)).2 := by
  intro x1 x2 h b q
  have e : ∀ (f27 : HH → Int → Nat → Int → Option Int) , bX11_changeRound f27 c24 x1 x2 h = segT 2 70 g.2.2.2.2 (krTI 2) (kxT 2) (clC 27 (guT 2 (liWT (liPW (pX2_costOf f27)))) clN) csX11_changeRound (cuC 24 (fun l st s => tkC 0 2 l <| tkI 1 l fun x1 => tkI 2 l fun x2 => tkI 3 l fun x3 => skI st fun y0 st => skE st (c24 x1 x2 x3 y0 s)) cuN) 1000 0 [(0, aR 2), (1, aI x1), (2, aI x2)] [] (h, 0) := fun _ => rfl
  rw [e nX2_costOf] at q
  clear e
  refine segT_wk (by decide) (by decide) hg rwX11_changeRound (CLK_C (liWT_ck (liPW_ok (pX2_costOf_ok hg)) (by decide)) CLK_N) (by decide) (krTI_ok (by decide)) (kxT_ok (by decide)) ?_ q
  clear q
  refine ct_C ?_ (ct_N)
  · intro l st s q
    obtain ⟨m0, q1⟩ := tkC_of q
    obtain ⟨x1, m1, q2⟩ := tkI_of q1
    obtain ⟨x2, m2, q3⟩ := tkI_of q2
    obtain ⟨x3, m3, q4⟩ := tkI_of q3
    obtain ⟨y0, t0, rfl, q5⟩ := skI_of q4
    obtain ⟨rfl, q6⟩ := skE_of q5
    exact WK_less (k24 _ _ _ _ _ _ q6) (List.forall_mem_cons.mpr ⟨m0, (List.forall_mem_cons.mpr ⟨m1, (List.forall_mem_cons.mpr ⟨m2, (List.forall_mem_cons.mpr ⟨m3, (fun _ h => absurd h List.not_mem_nil)⟩)⟩)⟩)⟩)
def nX11_changeRound (x1 : Int) (x2 : Int) (h : HH) : Option ((Int ⊕ Nat) × HU) := bX11_changeRound nX2_costOf nX11_changeRound_24 x1 x2 h
theorem wX11_changeRound {g : SG} (hg : GOK g) {σ0 : SG} : ∀ {x1 : Int} {x2 : Int} {h : HH} {b : ((Int ⊕ Nat) × HU)}, nX11_changeRound x1 x2 h = some b → WK 163 (oT (fun r => some (aI r)) b.1) σ0 (abU 2 70 g b.2) 0 [(0, aR 2), (1, aI x1), (2, aI x2)] [] (abU 2 70 g (h, 0)) (cnU (h, 0)).1 (cnU (h, 0)).2 := by
  intro x1 x2 h b q
  exact uX11_changeRound hg (fun _ _ _ _ _ _ q => wX11_changeRound_24 hg q) q
theorem mX11_changeRound {g : SG} (hg : GOK g) {h : HH} {x1 : Int} {x2 : Int} {b : ((Int ⊕ Nat) × HU)} (q : nX11_changeRound x1 x2 h = some b) : MCT 163 [] [aR 2, aI x1, aI x2] (abU 2 70 g (h, 0)) (oT (fun r => some (aI r)) b.1) (abU 2 70 g b.2) :=
  mct_of (by decide) (MFok 163 (by decide +kernel)) (fun _ => Nat.le_of_ble_eq_true rfl) (wX11_changeRound hg q)
def pX11_changeRound {β : Type} (z : Int → Int → HH → Option ((Int ⊕ Nat) × HU)) (rc : Nat) : PT β := fun as s f => skC 2 as fun as => skI as fun x1 as => skI as fun x2 as => skE as (liTT rc 2 (fun r => some (aI r)) s (z x1 x2 s.1) f)
theorem pX11_changeRound_ok {β : Type} {g : SG} (hg : GOK g) {rc rs : Nat} (hrs : 6 * rc ≤ rs) : CLK1 (β := β) 163 (pX11_changeRound nX11_changeRound rc) (abU 2 70 g) cnU rc rs := fun as s f b q => by
  obtain ⟨as, rfl, q1⟩ := skC_of q
  obtain ⟨x1, as, rfl, q2⟩ := skI_of q1
  obtain ⟨x2, as, rfl, q3⟩ := skI_of q2
  obtain ⟨rfl, q0⟩ := skE_of q3
  exact liTT_ok q0 (by decide) (fun _ e => mX11_changeRound hg e) rfl rfl hrs
def csX11_put : List (Nat × List (Nat × ARow)) := [(44, [(0, 1, .aload_n 0, 0, 0, 0), (1, 1, .iload_n 1, 0, 0, 0), (2, 3, .invokevirtual 174, 157, 2, 11), (5, 1, .aload_n 0, 0, 0, 0), (6, 1, .iload_n 3, 0, 0, 0), (7, 3, .invokevirtual 149, 156, 2, 11), (10, 1, .iload_n 2, 0, 0, 0), (11, 1, .iconst 0, 0, 0, 0), (12, 1, .aload_n 0, 0, 0, 0), (13, 3, .getfield 30, 11, 2, 2), (16, 3, .getfield 177, 6, 2, 2), (19, 1, .iload_n 1, 0, 0, 0), (20, 1, .iaload, 0, 0, 0), (21, 3, .invokestatic 180, 158, 3, 0), (24, 1, .aload_n 0, 0, 0, 0), (25, 3, .getfield 30, 11, 2, 2), (28, 1, .iload_n 3, 0, 0, 0), (29, 3, .invokevirtual 183, 50, 2, 6), (32, 3, .invokestatic 122, 161, 1, 0), (35, 1, .aload_n 0, 0, 0, 0), (36, 3, .getfield 30, 11, 2, 2), (39, 3, .getfield 187, 6, 1, 2), (42, 1, .iload_n 1, 0, 0, 0), (43, 1, .aaload, 0, 0, 0)]),
  (100000, [(44, 1, .aload_n 0, 0, 0, 0), (45, 3, .getfield 30, 11, 2, 2), (48, 3, .getfield 177, 6, 2, 2), (51, 1, .iload_n 1, 0, 0, 0), (52, 1, .iaload, 0, 0, 0), (53, 1, .iload_n 2, 0, 0, 0), (54, 1, .iload_n 3, 0, 0, 0), (55, 1, .aload_n 0, 0, 0, 0), (56, 3, .getfield 94, 11, 11, 2), (59, 3, .invokestatic 191, 52, 5, 0), (62, 2, .istore 4, 0, 0, 0), (64, 1, .aload_n 0, 0, 0, 0), (65, 1, .iload_n 1, 0, 0, 0), (66, 2, .iload 4, 0, 0, 0), (68, 3, .invokevirtual 195, 163, 3, 11), (71, 1, .ireturn, 0, 0, 0)])]
theorem rwX11_put : rowsB (mB 120) (mO 120) (mX 120) (mIni 120) (mFr 120) (mLo 120) (mT 120) csX11_put = true := by decide +kernel
def bX11_put (f157 : Int → HH → Option ((Unit ⊕ Nat) × HU)) (f156 : Int → HH → Option ((Unit ⊕ Nat) × HU)) (f158 : Int → Int → Int → HH → Option ((Unit ⊕ Nat) × HU)) (f50 : HH → Int → Option Int) (f161 : Int → HH → Option ((Unit ⊕ Nat) × HU)) (f52 : Nat → Int → Int → Int → Nat → HH → Option (Int × HH)) (f163 : Int → Int → HH → Option ((Int ⊕ Nat) × HU)) (x1 : Int) (x2 : Int) (x3 : Int) (h : HH) : Option ((Int ⊕ Nat) × HU) :=
  bnd (f157 x1 h) fun r1 => gd (0 + 2 ≤ 9) <| tcase r1.1 (fun _ =>
    bnd (f156 x3 r1.2.1) fun r3 => gd ((0 + 2) + 2 ≤ 9) <| tcase r3.1 (fun _ =>
    gd ((0 : Int) ≤ x1 ∧ x1 < (3 : Int)) <|
    bnd (f158 x2 0 (r3.2.1.1 31 x1) r3.2.1) fun r5 => gd (((0 + 2) + 2) + 1 ≤ 9) <| tcase r5.1 (fun _ =>
    gd ((((0 + 2) + 2) + 1) ≤ 9) <|
    bnd (f50 r5.2.1 x3) fun r7 =>
    bnd (f161 r7 r5.2.1) fun r8 => gd ((((0 + 2) + 2) + 1) + 1 ≤ 9) <| tcase r8.1 (fun _ =>
    gd ((0 : Int) ≤ x1 ∧ x1 < (3 : Int)) <|
    bif Nat.beq (rwK 3 28 x1) 0 then none else
    gd ((0 : Int) ≤ x1 ∧ x1 < (3 : Int)) <|
    gd (((((0 + 2) + 2) + 1) + 1) ≤ 9) <|
    bnd (f52 (rwK 3 28 x1) (r8.2.1.1 31 x1) x2 x3 69 r8.2.1) fun r10 =>
    bnd (f163 x1 r10.1 r10.2) fun r11 => gd (((((0 + 2) + 2) + 1) + 1) + 2 ≤ 9) <| tcase r11.1 (fun x12 =>
    gd ((((((0 + 2) + 2) + 1) + 1) + 2) ≤ 9) (some (.inl x12, (r11.2.1, (((((0 + 2) + 2) + 1) + 1) + 2))))) (fun e => gd ((((((0 + 2) + 2) + 1) + 1) + 2) + 1 ≤ 9) (some (.inr e, (r11.2.1, (((((0 + 2) + 2) + 1) + 1) + 2)))))) (fun e => gd (((((0 + 2) + 2) + 1) + 1) + 1 ≤ 9) (some (.inr e, (r8.2.1, ((((0 + 2) + 2) + 1) + 1)))))) (fun e => gd ((((0 + 2) + 2) + 1) + 1 ≤ 9) (some (.inr e, (r5.2.1, (((0 + 2) + 2) + 1)))))) (fun e => gd (((0 + 2) + 2) + 1 ≤ 9) (some (.inr e, (r3.2.1, ((0 + 2) + 2)))))) (fun e => gd ((0 + 2) + 1 ≤ 9) (some (.inr e, (r1.2.1, (0 + 2)))))
set_option maxRecDepth 100000 in
theorem uX11_put {g : SG} (hg : GOK g) {σ0 : SG} : ∀ {x1 : Int} {x2 : Int} {x3 : Int} {h : HH} {b : ((Int ⊕ Nat) × HU)}, bX11_put nX11_needVan nX11_needParcel nX11_needIndex nX6_canTake nX11_needState nX6_insert nX11_changeRound x1 x2 x3 h = some b → WK 120 (oT (fun r => some (aI r)) b.1) σ0 (abU 2 70 g b.2) 0 [(0, aR 2), (1, aI x1), (2, aI x2), (3, aI x3)] [] (abU 2 70 g (h, 0)) (cnU (h, 0)).1 (cnU (h, 0)).2 := by
  intro x1 x2 x3 h b q
  have e : ∀ (f157 : Int → HH → Option ((Unit ⊕ Nat) × HU)) (f156 : Int → HH → Option ((Unit ⊕ Nat) × HU)) (f158 : Int → Int → Int → HH → Option ((Unit ⊕ Nat) × HU)) (f50 : HH → Int → Option Int) (f161 : Int → HH → Option ((Unit ⊕ Nat) × HU)) (f52 : Nat → Int → Int → Int → Nat → HH → Option (Int × HH)) (f163 : Int → Int → HH → Option ((Int ⊕ Nat) × HU)) , bX11_put f157 f156 f158 f50 f161 f52 f163 x1 x2 x3 h = segT 2 70 g.2.2.2.2 (krTI 9) (kxT 9) (clC 157 (pX11_needVan f157 9) (clC 156 (pX11_needParcel f156 9) (clC 158 (pX11_needIndex f158 9) (clC 50 (guT 9 (liWT (liPW (pX6_canTake f50)))) (clC 161 (pX11_needState f161 9) (clC 52 (guT 9 (liWT (pX6_insert f52))) (clC 163 (pX11_changeRound f163 9) clN))))))) csX11_put cuN 1000 0 [(0, aR 2), (1, aI x1), (2, aI x2), (3, aI x3)] [] (h, 0) := fun _ _ _ _ _ _ _ => rfl
  rw [e nX11_needVan nX11_needParcel nX11_needIndex nX6_canTake nX11_needState nX6_insert nX11_changeRound] at q
  clear e
  refine segT_wk (by decide) (by decide) hg rwX11_put (CLK_C (pX11_needVan_ok hg (by decide)) (CLK_C (pX11_needParcel_ok hg (by decide)) (CLK_C (pX11_needIndex_ok hg (by decide)) (CLK_C (liWT_ck (liPW_ok (pX6_canTake_ok hg)) (by decide)) (CLK_C (pX11_needState_ok hg (by decide)) (CLK_C (liWT_ck (pX6_insert_ok hg) (by decide)) (CLK_C (pX11_changeRound_ok hg (by decide)) CLK_N))))))) (by decide) (krTI_ok (by decide)) (kxT_ok (by decide)) ?_ q
  clear q
  exact ct_N
def nX11_put (x1 : Int) (x2 : Int) (x3 : Int) (h : HH) : Option ((Int ⊕ Nat) × HU) := bX11_put nX11_needVan nX11_needParcel nX11_needIndex nX6_canTake nX11_needState nX6_insert nX11_changeRound x1 x2 x3 h
theorem wX11_put {g : SG} (hg : GOK g) {σ0 : SG} : ∀ {x1 : Int} {x2 : Int} {x3 : Int} {h : HH} {b : ((Int ⊕ Nat) × HU)}, nX11_put x1 x2 x3 h = some b → WK 120 (oT (fun r => some (aI r)) b.1) σ0 (abU 2 70 g b.2) 0 [(0, aR 2), (1, aI x1), (2, aI x2), (3, aI x3)] [] (abU 2 70 g (h, 0)) (cnU (h, 0)).1 (cnU (h, 0)).2 := by
  intro x1 x2 x3 h b q
  exact uX11_put hg q
theorem mX11_put {g : SG} (hg : GOK g) {h : HH} {x1 : Int} {x2 : Int} {x3 : Int} {b : ((Int ⊕ Nat) × HU)} (q : nX11_put x1 x2 x3 h = some b) : MCT 120 [] [aR 2, aI x1, aI x2, aI x3] (abU 2 70 g (h, 0)) (oT (fun r => some (aI r)) b.1) (abU 2 70 g b.2) :=
  mct_of (by decide) (MFok 120 (by decide +kernel)) (fun _ => Nat.le_of_ble_eq_true rfl) (wX11_put hg q)
def pX11_put {β : Type} (z : Int → Int → Int → HH → Option ((Int ⊕ Nat) × HU)) (rc : Nat) : PT β := fun as s f => skC 2 as fun as => skI as fun x1 as => skI as fun x2 as => skI as fun x3 as => skE as (liTT rc 9 (fun r => some (aI r)) s (z x1 x2 x3 s.1) f)
theorem pX11_put_ok {β : Type} {g : SG} (hg : GOK g) {rc rs : Nat} (hrs : 6 * rc ≤ rs) : CLK1 (β := β) 120 (pX11_put nX11_put rc) (abU 2 70 g) cnU rc rs := fun as s f b q => by
  obtain ⟨as, rfl, q1⟩ := skC_of q
  obtain ⟨x1, as, rfl, q2⟩ := skI_of q1
  obtain ⟨x2, as, rfl, q3⟩ := skI_of q2
  obtain ⟨x3, as, rfl, q4⟩ := skI_of q3
  obtain ⟨rfl, q0⟩ := skE_of q4
  exact liTT_ok q0 (by decide) (fun _ e => mX11_put hg e) rfl rfl hrs
def csX11_takeOut : List (Nat × List (Nat × ARow)) := [(42, [(0, 1, .aload_n 0, 0, 0, 0), (1, 1, .iload_n 1, 0, 0, 0), (2, 3, .invokevirtual 149, 156, 2, 11), (5, 1, .aload_n 0, 0, 0, 0), (6, 3, .getfield 30, 11, 2, 2), (9, 1, .iload_n 1, 0, 0, 0), (10, 3, .invokevirtual 152, 49, 2, 6), (13, 1, .istore_n 2, 0, 0, 0), (14, 1, .iload_n 2, 0, 0, 0), (15, 1, .iconst (-1), 0, 0, 0), (16, 3, .if_icmp .eq 7, 23, 0, 0), (19, 1, .iconst 1, 0, 0, 0), (20, 3, .goto 4, 24, 0, 0), (23, 1, .iconst 0, 0, 0, 0), (24, 3, .invokestatic 122, 161, 1, 0), (27, 1, .aload_n 0, 0, 0, 0), (28, 1, .iload_n 2, 0, 0, 0), (29, 1, .aload_n 0, 0, 0, 0), (30, 3, .getfield 30, 11, 2, 2), (33, 1, .iload_n 2, 0, 0, 0), (34, 1, .iload_n 1, 0, 0, 0), (35, 1, .aload_n 0, 0, 0, 0), (36, 3, .getfield 94, 11, 11, 2), (39, 3, .invokevirtual 199, 55, 4, 6)]),
  (100000, [(42, 3, .invokevirtual 195, 163, 3, 11), (45, 1, .pop, 0, 0, 0), (46, 1, .iload_n 2, 0, 0, 0), (47, 1, .ireturn, 0, 0, 0)])]
theorem rwX11_takeOut : rowsB (mB 121) (mO 121) (mX 121) (mIni 121) (mFr 121) (mLo 121) (mT 121) csX11_takeOut = true := by decide +kernel
def bX11_takeOut_24 (f161 : Int → HH → Option ((Unit ⊕ Nat) × HU)) (f55 : Int → Int → Nat → HH → Option (Int × HH)) (f163 : Int → Int → HH → Option ((Int ⊕ Nat) × HU)) (x1 : Int) (x2 : Int) (y0 : Int) (s : HU) : Option ((Int ⊕ Nat) × HU) :=
  bnd (f161 y0 s.1) fun r1 => gd (s.2 + 1 ≤ 6) <| tcase r1.1 (fun _ =>
    gd ((s.2 + 1) ≤ 6) <|
    bnd (f55 x2 x1 69 r1.2.1) fun r3 =>
    bnd (f163 x2 r3.1 r3.2) fun r4 => gd ((s.2 + 1) + 2 ≤ 6) <| tcase r4.1 (fun x5 =>
    gd (((s.2 + 1) + 2) ≤ 6) (some (.inl x2, (r4.2.1, ((s.2 + 1) + 2))))) (fun e => gd (((s.2 + 1) + 2) + 1 ≤ 6) (some (.inr e, (r4.2.1, ((s.2 + 1) + 2)))))) (fun e => gd ((s.2 + 1) + 1 ≤ 6) (some (.inr e, (r1.2.1, (s.2 + 1)))))
theorem uX11_takeOut_24 {g : SG} (hg : GOK g) {σ0 : SG} : ∀ {x1 : Int} {x2 : Int} {y0 : Int} {s : HU} {b : ((Int ⊕ Nat) × HU)}, bX11_takeOut_24 nX11_needState nX6_without nX11_changeRound x1 x2 y0 s = some b → WK 121 (oT (fun r => some (aI r)) b.1) σ0 (abU 2 70 g b.2) 24 [(0, aR 2), (1, aI x1), (2, aI x2)] [aI y0] (abU 2 70 g s) (cnU s).1 (cnU s).2 := by
  intro x1 x2 y0 s b q
  have e : ∀ (f161 : Int → HH → Option ((Unit ⊕ Nat) × HU)) (f55 : Int → Int → Nat → HH → Option (Int × HH)) (f163 : Int → Int → HH → Option ((Int ⊕ Nat) × HU)) , bX11_takeOut_24 f161 f55 f163 x1 x2 y0 s = segT 2 70 g.2.2.2.2 (krTI 6) (kxT 6) (clC 161 (pX11_needState f161 6) (clC 55 (guT 6 (liWT (pX6_without f55))) (clC 163 (pX11_changeRound f163 6) clN))) csX11_takeOut cuN 1000 24 [(0, aR 2), (1, aI x1), (2, aI x2)] [aI y0] s := fun _ _ _ => rfl
  rw [e nX11_needState nX6_without nX11_changeRound] at q
  clear e
  refine segT_wk (by decide) (by decide) hg rwX11_takeOut (CLK_C (pX11_needState_ok hg (by decide)) (CLK_C (liWT_ck (pX6_without_ok hg) (by decide)) (CLK_C (pX11_changeRound_ok hg (by decide)) CLK_N))) (by decide) (krTI_ok (by decide)) (kxT_ok (by decide)) ?_ q
  clear q
  exact ct_N
def nX11_takeOut_24 (x1 : Int) (x2 : Int) (y0 : Int) (s : HU) : Option ((Int ⊕ Nat) × HU) := bX11_takeOut_24 nX11_needState nX6_without nX11_changeRound x1 x2 y0 s
theorem wX11_takeOut_24 {g : SG} (hg : GOK g) {σ0 : SG} : ∀ {x1 : Int} {x2 : Int} {y0 : Int} {s : HU} {b : ((Int ⊕ Nat) × HU)}, nX11_takeOut_24 x1 x2 y0 s = some b → WK 121 (oT (fun r => some (aI r)) b.1) σ0 (abU 2 70 g b.2) 24 [(0, aR 2), (1, aI x1), (2, aI x2)] [aI y0] (abU 2 70 g s) (cnU s).1 (cnU s).2 := by
  intro x1 x2 y0 s b q
  exact uX11_takeOut_24 hg q
def bX11_takeOut (f156 : Int → HH → Option ((Unit ⊕ Nat) × HU)) (f49 : HH → Int → Option Int) (c24 : Int → Int → Int → HU → Option ((Int ⊕ Nat) × HU)) (x1 : Int) (h : HH) : Option ((Int ⊕ Nat) × HU) :=
  bnd (f156 x1 h) fun r1 => gd (0 + 2 ≤ 6) <| tcase r1.1 (fun _ =>
    gd ((0 + 2) ≤ 6) <|
    bnd (f49 r1.2.1 x1) fun r3 =>
    if r3 = ((-1) : Int) then
    c24 x1 r3 0 (r1.2.1, (0 + 2))
  else
    c24 x1 r3 1 (r1.2.1, (0 + 2))) (fun e => gd ((0 + 2) + 1 ≤ 6) (some (.inr e, (r1.2.1, (0 + 2)))))
theorem uX11_takeOut {g : SG} (hg : GOK g) {σ0 : SG} {c24 : Int → Int → Int → HU → Option ((Int ⊕ Nat) × HU)} (k24 : ∀ (x1 : Int) (x2 : Int) (y0 : Int) (s : HU) (b : ((Int ⊕ Nat) × HU)), c24 x1 x2 y0 s = some b → WK 121 (oT (fun r => some (aI r)) b.1) σ0 (abU 2 70 g b.2) 24 [(0, aR 2), (1, aI x1), (2, aI x2)] [aI y0] (abU 2 70 g s) (cnU s).1 (cnU s).2) : ∀ {x1 : Int} {h : HH} {b : ((Int ⊕ Nat) × HU)}, bX11_takeOut nX11_needParcel nX6_vanWith c24 x1 h = some b → WK 121 (oT (fun r => some (aI r)) b.1) σ0 (abU 2 70 g b.2) 0 [(0, aR 2), (1, aI x1)] [] (abU 2 70 g (h, 0)) (cnU (h, 0)).1 (cnU (h, 0)).2 := by
  intro x1 h b q
  have e : ∀ (f156 : Int → HH → Option ((Unit ⊕ Nat) × HU)) (f49 : HH → Int → Option Int) , bX11_takeOut f156 f49 c24 x1 h = segT 2 70 g.2.2.2.2 (krTI 6) (kxT 6) (clC 156 (pX11_needParcel f156 6) (clC 49 (guT 6 (liWT (liPW (pX6_vanWith f49)))) clN)) csX11_takeOut (cuC 24 (fun l st s => tkC 0 2 l <| tkI 1 l fun x1 => tkI 2 l fun x2 => skI st fun y0 st => skE st (c24 x1 x2 y0 s)) cuN) 1000 0 [(0, aR 2), (1, aI x1)] [] (h, 0) := fun _ _ => rfl
  rw [e nX11_needParcel nX6_vanWith] at q
  clear e
  refine segT_wk (by decide) (by decide) hg rwX11_takeOut (CLK_C (pX11_needParcel_ok hg (by decide)) (CLK_C (liWT_ck (liPW_ok (pX6_vanWith_ok hg)) (by decide)) CLK_N)) (by decide) (krTI_ok (by decide)) (kxT_ok (by decide)) ?_ q
  clear q
  refine ct_C ?_ (ct_N)
  · intro l st s q
    obtain ⟨m0, q1⟩ := tkC_of q
    obtain ⟨x1, m1, q2⟩ := tkI_of q1
    obtain ⟨x2, m2, q3⟩ := tkI_of q2
    obtain ⟨y0, t0, rfl, q4⟩ := skI_of q3
    obtain ⟨rfl, q5⟩ := skE_of q4
    exact WK_less (k24 _ _ _ _ _ q5) (List.forall_mem_cons.mpr ⟨m0, (List.forall_mem_cons.mpr ⟨m1, (List.forall_mem_cons.mpr ⟨m2, (fun _ h => absurd h List.not_mem_nil)⟩)⟩)⟩)
def nX11_takeOut (x1 : Int) (h : HH) : Option ((Int ⊕ Nat) × HU) := bX11_takeOut nX11_needParcel nX6_vanWith nX11_takeOut_24 x1 h
theorem wX11_takeOut {g : SG} (hg : GOK g) {σ0 : SG} : ∀ {x1 : Int} {h : HH} {b : ((Int ⊕ Nat) × HU)}, nX11_takeOut x1 h = some b → WK 121 (oT (fun r => some (aI r)) b.1) σ0 (abU 2 70 g b.2) 0 [(0, aR 2), (1, aI x1)] [] (abU 2 70 g (h, 0)) (cnU (h, 0)).1 (cnU (h, 0)).2 := by
  intro x1 h b q
  exact uX11_takeOut hg (fun _ _ _ _ _ q => wX11_takeOut_24 hg q) q
theorem mX11_takeOut {g : SG} (hg : GOK g) {h : HH} {x1 : Int} {b : ((Int ⊕ Nat) × HU)} (q : nX11_takeOut x1 h = some b) : MCT 121 [] [aR 2, aI x1] (abU 2 70 g (h, 0)) (oT (fun r => some (aI r)) b.1) (abU 2 70 g b.2) :=
  mct_of (by decide) (MFok 121 (by decide +kernel)) (fun _ => Nat.le_of_ble_eq_true rfl) (wX11_takeOut hg q)
def pX11_takeOut {β : Type} (z : Int → HH → Option ((Int ⊕ Nat) × HU)) (rc : Nat) : PT β := fun as s f => skC 2 as fun as => skI as fun x1 as => skE as (liTT rc 6 (fun r => some (aI r)) s (z x1 s.1) f)
theorem pX11_takeOut_ok {β : Type} {g : SG} (hg : GOK g) {rc rs : Nat} (hrs : 6 * rc ≤ rs) : CLK1 (β := β) 121 (pX11_takeOut nX11_takeOut rc) (abU 2 70 g) cnU rc rs := fun as s f b q => by
  obtain ⟨as, rfl, q1⟩ := skC_of q
  obtain ⟨x1, as, rfl, q2⟩ := skI_of q1
  obtain ⟨rfl, q0⟩ := skE_of q2
  exact liTT_ok q0 (by decide) (fun _ e => mX11_takeOut hg e) rfl rfl hrs
def csX11_turned : List (Nat × List (Nat × ARow)) := [(42, [(0, 1, .aload_n 0, 0, 0, 0), (1, 1, .iload_n 1, 0, 0, 0), (2, 3, .invokevirtual 174, 157, 2, 11), (5, 1, .iload_n 2, 0, 0, 0), (6, 1, .iconst 0, 0, 0, 0), (7, 1, .aload_n 0, 0, 0, 0), (8, 3, .getfield 30, 11, 2, 2), (11, 3, .getfield 177, 6, 2, 2), (14, 1, .iload_n 1, 0, 0, 0), (15, 1, .iaload, 0, 0, 0), (16, 3, .invokestatic 180, 158, 3, 0), (19, 1, .iload_n 3, 0, 0, 0), (20, 1, .iload_n 2, 0, 0, 0), (21, 1, .aload_n 0, 0, 0, 0), (22, 3, .getfield 30, 11, 2, 2), (25, 3, .getfield 177, 6, 2, 2), (28, 1, .iload_n 1, 0, 0, 0), (29, 1, .iaload, 0, 0, 0), (30, 3, .invokestatic 180, 158, 3, 0), (33, 1, .aload_n 0, 0, 0, 0), (34, 3, .getfield 30, 11, 2, 2), (37, 3, .getfield 187, 6, 1, 2), (40, 1, .iload_n 1, 0, 0, 0), (41, 1, .aaload, 0, 0, 0)]),
  (100000, [(42, 1, .aload_n 0, 0, 0, 0), (43, 3, .getfield 30, 11, 2, 2), (46, 3, .getfield 177, 6, 2, 2), (49, 1, .iload_n 1, 0, 0, 0), (50, 1, .iaload, 0, 0, 0), (51, 1, .iload_n 2, 0, 0, 0), (52, 1, .iload_n 3, 0, 0, 0), (53, 1, .aload_n 0, 0, 0, 0), (54, 3, .getfield 94, 11, 11, 2), (57, 3, .invokestatic 203, 54, 5, 0), (60, 1, .aload_n 0, 0, 0, 0), (61, 1, .iload_n 1, 0, 0, 0), (62, 1, .aload_n 0, 0, 0, 0), (63, 3, .getfield 30, 11, 2, 2), (66, 3, .getfield 177, 6, 2, 2), (69, 1, .iload_n 1, 0, 0, 0), (70, 1, .iaload, 0, 0, 0), (71, 3, .invokevirtual 195, 163, 3, 11), (74, 1, .ireturn, 0, 0, 0)])]
theorem rwX11_turned : rowsB (mB 122) (mO 122) (mX 122) (mIni 122) (mFr 122) (mLo 122) (mT 122) csX11_turned = true := by decide +kernel
def bX11_turned (f157 : Int → HH → Option ((Unit ⊕ Nat) × HU)) (f158 : Int → Int → Int → HH → Option ((Unit ⊕ Nat) × HU)) (f54 : Nat → Int → Int → Int → Nat → HH → Option HH) (f163 : Int → Int → HH → Option ((Int ⊕ Nat) × HU)) (x1 : Int) (x2 : Int) (x3 : Int) (h : HH) : Option ((Int ⊕ Nat) × HU) :=
  bnd (f157 x1 h) fun r1 => gd (0 + 2 ≤ 7) <| tcase r1.1 (fun _ =>
    gd ((0 : Int) ≤ x1 ∧ x1 < (3 : Int)) <|
    bnd (f158 x2 0 (r1.2.1.1 31 x1) r1.2.1) fun r3 => gd ((0 + 2) + 1 ≤ 7) <| tcase r3.1 (fun _ =>
    gd ((0 : Int) ≤ x1 ∧ x1 < (3 : Int)) <|
    bnd (f158 x3 x2 (r3.2.1.1 31 x1) r3.2.1) fun r5 => gd (((0 + 2) + 1) + 1 ≤ 7) <| tcase r5.1 (fun _ =>
    gd ((0 : Int) ≤ x1 ∧ x1 < (3 : Int)) <|
    bif Nat.beq (rwK 3 28 x1) 0 then none else
    gd ((0 : Int) ≤ x1 ∧ x1 < (3 : Int)) <|
    gd ((((0 + 2) + 1) + 1) ≤ 7) <|
    bnd (f54 (rwK 3 28 x1) (r5.2.1.1 31 x1) x2 x3 69 r5.2.1) fun r7 =>
    gd ((0 : Int) ≤ x1 ∧ x1 < (3 : Int)) <|
    bnd (f163 x1 (r7.1 31 x1) r7) fun r8 => gd ((((0 + 2) + 1) + 1) + 2 ≤ 7) <| tcase r8.1 (fun x9 =>
    gd (((((0 + 2) + 1) + 1) + 2) ≤ 7) (some (.inl x9, (r8.2.1, ((((0 + 2) + 1) + 1) + 2))))) (fun e => gd (((((0 + 2) + 1) + 1) + 2) + 1 ≤ 7) (some (.inr e, (r8.2.1, ((((0 + 2) + 1) + 1) + 2)))))) (fun e => gd ((((0 + 2) + 1) + 1) + 1 ≤ 7) (some (.inr e, (r5.2.1, (((0 + 2) + 1) + 1)))))) (fun e => gd (((0 + 2) + 1) + 1 ≤ 7) (some (.inr e, (r3.2.1, ((0 + 2) + 1)))))) (fun e => gd ((0 + 2) + 1 ≤ 7) (some (.inr e, (r1.2.1, (0 + 2)))))
set_option maxRecDepth 100000 in
theorem uX11_turned {g : SG} (hg : GOK g) {σ0 : SG} : ∀ {x1 : Int} {x2 : Int} {x3 : Int} {h : HH} {b : ((Int ⊕ Nat) × HU)}, bX11_turned nX11_needVan nX11_needIndex nX6_turn nX11_changeRound x1 x2 x3 h = some b → WK 122 (oT (fun r => some (aI r)) b.1) σ0 (abU 2 70 g b.2) 0 [(0, aR 2), (1, aI x1), (2, aI x2), (3, aI x3)] [] (abU 2 70 g (h, 0)) (cnU (h, 0)).1 (cnU (h, 0)).2 := by
  intro x1 x2 x3 h b q
  have e : ∀ (f157 : Int → HH → Option ((Unit ⊕ Nat) × HU)) (f158 : Int → Int → Int → HH → Option ((Unit ⊕ Nat) × HU)) (f54 : Nat → Int → Int → Int → Nat → HH → Option HH) (f163 : Int → Int → HH → Option ((Int ⊕ Nat) × HU)) , bX11_turned f157 f158 f54 f163 x1 x2 x3 h = segT 2 70 g.2.2.2.2 (krTI 7) (kxT 7) (clC 157 (pX11_needVan f157 7) (clC 158 (pX11_needIndex f158 7) (clC 54 (guT 7 (liWT (pX6_turn f54))) (clC 163 (pX11_changeRound f163 7) clN)))) csX11_turned cuN 1000 0 [(0, aR 2), (1, aI x1), (2, aI x2), (3, aI x3)] [] (h, 0) := fun _ _ _ _ => rfl
  rw [e nX11_needVan nX11_needIndex nX6_turn nX11_changeRound] at q
  clear e
  refine segT_wk (by decide) (by decide) hg rwX11_turned (CLK_C (pX11_needVan_ok hg (by decide)) (CLK_C (pX11_needIndex_ok hg (by decide)) (CLK_C (liWT_ck (pX6_turn_ok hg) (by decide)) (CLK_C (pX11_changeRound_ok hg (by decide)) CLK_N)))) (by decide) (krTI_ok (by decide)) (kxT_ok (by decide)) ?_ q
  clear q
  exact ct_N
def nX11_turned (x1 : Int) (x2 : Int) (x3 : Int) (h : HH) : Option ((Int ⊕ Nat) × HU) := bX11_turned nX11_needVan nX11_needIndex nX6_turn nX11_changeRound x1 x2 x3 h
theorem wX11_turned {g : SG} (hg : GOK g) {σ0 : SG} : ∀ {x1 : Int} {x2 : Int} {x3 : Int} {h : HH} {b : ((Int ⊕ Nat) × HU)}, nX11_turned x1 x2 x3 h = some b → WK 122 (oT (fun r => some (aI r)) b.1) σ0 (abU 2 70 g b.2) 0 [(0, aR 2), (1, aI x1), (2, aI x2), (3, aI x3)] [] (abU 2 70 g (h, 0)) (cnU (h, 0)).1 (cnU (h, 0)).2 := by
  intro x1 x2 x3 h b q
  exact uX11_turned hg q
theorem mX11_turned {g : SG} (hg : GOK g) {h : HH} {x1 : Int} {x2 : Int} {x3 : Int} {b : ((Int ⊕ Nat) × HU)} (q : nX11_turned x1 x2 x3 h = some b) : MCT 122 [] [aR 2, aI x1, aI x2, aI x3] (abU 2 70 g (h, 0)) (oT (fun r => some (aI r)) b.1) (abU 2 70 g b.2) :=
  mct_of (by decide) (MFok 122 (by decide +kernel)) (fun _ => Nat.le_of_ble_eq_true rfl) (wX11_turned hg q)
def pX11_turned {β : Type} (z : Int → Int → Int → HH → Option ((Int ⊕ Nat) × HU)) (rc : Nat) : PT β := fun as s f => skC 2 as fun as => skI as fun x1 as => skI as fun x2 as => skI as fun x3 as => skE as (liTT rc 7 (fun r => some (aI r)) s (z x1 x2 x3 s.1) f)
theorem pX11_turned_ok {β : Type} {g : SG} (hg : GOK g) {rc rs : Nat} (hrs : 6 * rc ≤ rs) : CLK1 (β := β) 122 (pX11_turned nX11_turned rc) (abU 2 70 g) cnU rc rs := fun as s f b q => by
  obtain ⟨as, rfl, q1⟩ := skC_of q
  obtain ⟨x1, as, rfl, q2⟩ := skI_of q1
  obtain ⟨x2, as, rfl, q3⟩ := skI_of q2
  obtain ⟨x3, as, rfl, q4⟩ := skI_of q3
  obtain ⟨rfl, q0⟩ := skE_of q4
  exact liTT_ok q0 (by decide) (fun _ e => mX11_turned hg e) rfl rfl hrs
def csX11_swapEnds : List (Nat × List (Nat × ARow)) := [(41, [(0, 1, .aload_n 0, 0, 0, 0), (1, 1, .iload_n 1, 0, 0, 0), (2, 3, .invokevirtual 174, 157, 2, 11), (5, 1, .aload_n 0, 0, 0, 0), (6, 1, .iload_n 3, 0, 0, 0), (7, 3, .invokevirtual 174, 157, 2, 11), (10, 1, .iload_n 2, 0, 0, 0), (11, 1, .iconst 0, 0, 0, 0), (12, 1, .aload_n 0, 0, 0, 0), (13, 3, .getfield 30, 11, 2, 2), (16, 3, .getfield 177, 6, 2, 2), (19, 1, .iload_n 1, 0, 0, 0), (20, 1, .iaload, 0, 0, 0), (21, 3, .invokestatic 180, 158, 3, 0), (24, 2, .iload 4, 0, 0, 0), (26, 1, .iconst 0, 0, 0, 0), (27, 1, .aload_n 0, 0, 0, 0), (28, 3, .getfield 30, 11, 2, 2), (31, 3, .getfield 177, 6, 2, 2), (34, 1, .iload_n 3, 0, 0, 0), (35, 1, .iaload, 0, 0, 0), (36, 3, .invokestatic 180, 158, 3, 0), (39, 1, .iload_n 1, 0, 0, 0), (40, 1, .iload_n 3, 0, 0, 0)]),
  (86, [(41, 3, .if_icmp .eq 7, 48, 0, 0), (44, 1, .iconst 1, 0, 0, 0), (45, 3, .goto 4, 49, 0, 0), (48, 1, .iconst 0, 0, 0, 0), (49, 3, .invokestatic 105, 160, 1, 0), (52, 1, .aload_n 0, 0, 0, 0), (53, 3, .getfield 30, 11, 2, 2), (56, 1, .iload_n 1, 0, 0, 0), (57, 1, .iload_n 2, 0, 0, 0), (58, 1, .iload_n 3, 0, 0, 0), (59, 2, .iload 4, 0, 0, 0), (61, 1, .aload_n 0, 0, 0, 0), (62, 3, .getfield 94, 11, 11, 2), (65, 3, .invokevirtual 207, 56, 6, 6), (68, 2, .istore 5, 0, 0, 0), (70, 1, .aload_n 0, 0, 0, 0), (71, 3, .getfield 30, 11, 2, 2), (74, 1, .iload_n 3, 0, 0, 0), (75, 2, .iload 4, 0, 0, 0), (77, 1, .iload_n 1, 0, 0, 0), (78, 1, .iload_n 2, 0, 0, 0), (79, 1, .aload_n 0, 0, 0, 0), (80, 3, .getfield 98, 11, 12, 2), (83, 3, .invokevirtual 207, 56, 6, 6)]),
  (133, [(86, 2, .istore 6, 0, 0, 0), (88, 1, .aload_n 0, 0, 0, 0), (89, 3, .getfield 21, 11, 1, 2), (92, 1, .iload_n 1, 0, 0, 0), (93, 1, .aload_n 0, 0, 0, 0), (94, 3, .getfield 94, 11, 11, 2), (97, 2, .iload 5, 0, 0, 0), (99, 3, .invokevirtual 211, 27, 4, 2), (102, 2, .istore 7, 0, 0, 0), (104, 1, .aload_n 0, 0, 0, 0), (105, 3, .getfield 21, 11, 1, 2), (108, 1, .iload_n 3, 0, 0, 0), (109, 1, .aload_n 0, 0, 0, 0), (110, 3, .getfield 98, 11, 12, 2), (113, 2, .iload 6, 0, 0, 0), (115, 3, .invokevirtual 211, 27, 4, 2), (118, 2, .istore 8, 0, 0, 0), (120, 2, .iload 7, 0, 0, 0), (122, 1, .iconst (-1), 0, 0, 0), (123, 3, .if_icmp .eq 13, 136, 0, 0), (126, 2, .iload 8, 0, 0, 0), (128, 1, .iconst (-1), 0, 0, 0), (129, 3, .if_icmp .eq 7, 136, 0, 0), (132, 1, .iconst 1, 0, 0, 0)]),
  (183, [(133, 3, .goto 4, 137, 0, 0), (136, 1, .iconst 0, 0, 0, 0), (137, 3, .invokestatic 122, 161, 1, 0), (140, 1, .aload_n 0, 0, 0, 0), (141, 3, .getfield 37, 11, 3, 2), (144, 1, .aload_n 0, 0, 0, 0), (145, 3, .getfield 30, 11, 2, 2), (148, 3, .invokevirtual 215, 32, 2, 3), (151, 1, .aload_n 0, 0, 0, 0), (152, 3, .getfield 30, 11, 2, 2), (155, 1, .iload_n 1, 0, 0, 0), (156, 1, .aload_n 0, 0, 0, 0), (157, 3, .getfield 94, 11, 11, 2), (160, 2, .iload 5, 0, 0, 0), (162, 3, .invokevirtual 219, 51, 4, 6), (165, 1, .aload_n 0, 0, 0, 0), (166, 3, .getfield 30, 11, 2, 2), (169, 1, .iload_n 3, 0, 0, 0), (170, 1, .aload_n 0, 0, 0, 0), (171, 3, .getfield 98, 11, 12, 2), (174, 2, .iload 6, 0, 0, 0), (176, 3, .invokevirtual 219, 51, 4, 6), (179, 2, .iload 7, 0, 0, 0), (181, 2, .iload 8, 0, 0, 0)]),
  (100000, [(183, 1, .iadd, 0, 0, 0), (184, 1, .ireturn, 0, 0, 0)])]
theorem rwX11_swapEnds : rowsB (mB 123) (mO 123) (mX 123) (mIni 123) (mFr 123) (mLo 123) (mT 123) csX11_swapEnds = true := by decide +kernel
def bX11_swapEnds_137 (f161 : Int → HH → Option ((Unit ⊕ Nat) × HU)) (f32 : HH → Option HH) (f51 : Int → Nat → Int → HH → Option HH) (x1 : Int) (x3 : Int) (x5 : Int) (x6 : Int) (x7 : Int) (x8 : Int) (y0 : Int) (s : HU) : Option ((Int ⊕ Nat) × HU) :=
  bnd (f161 y0 s.1) fun r1 => gd (s.2 + 1 ≤ 9) <| tcase r1.1 (fun _ =>
    gd ((s.2 + 1) ≤ 9) <|
    bnd (f32 r1.2.1) fun r3 =>
    gd ((s.2 + 1) ≤ 9) <|
    bnd (f51 x1 69 x5 r3) fun r4 =>
    gd ((s.2 + 1) ≤ 9) <|
    bnd (f51 x3 70 x6 r4) fun r5 =>
    gd (R32 (x7 + x8)) <|
    gd ((s.2 + 1) ≤ 9) (some (.inl (x7 + x8), (r5, (s.2 + 1))))) (fun e => gd ((s.2 + 1) + 1 ≤ 9) (some (.inr e, (r1.2.1, (s.2 + 1)))))
theorem uX11_swapEnds_137 {g : SG} (hg : GOK g) {σ0 : SG} : ∀ {x1 : Int} {x3 : Int} {x5 : Int} {x6 : Int} {x7 : Int} {x8 : Int} {y0 : Int} {s : HU} {b : ((Int ⊕ Nat) × HU)}, bX11_swapEnds_137 nX11_needState nX3_remember nX6_replace x1 x3 x5 x6 x7 x8 y0 s = some b → WK 123 (oT (fun r => some (aI r)) b.1) σ0 (abU 2 70 g b.2) 137 [(0, aR 2), (1, aI x1), (3, aI x3), (5, aI x5), (6, aI x6), (7, aI x7), (8, aI x8)] [aI y0] (abU 2 70 g s) (cnU s).1 (cnU s).2 := by
  intro x1 x3 x5 x6 x7 x8 y0 s b q
  have e : ∀ (f161 : Int → HH → Option ((Unit ⊕ Nat) × HU)) (f32 : HH → Option HH) (f51 : Int → Nat → Int → HH → Option HH) , bX11_swapEnds_137 f161 f32 f51 x1 x3 x5 x6 x7 x8 y0 s = segT 2 70 g.2.2.2.2 (krTI 9) (kxT 9) (clC 161 (pX11_needState f161 9) (clC 32 (guT 9 (liWT (pX3_remember f32))) (clC 51 (guT 9 (liWT (pX6_replace f51))) clN))) csX11_swapEnds cuN 1000 137 [(0, aR 2), (1, aI x1), (3, aI x3), (5, aI x5), (6, aI x6), (7, aI x7), (8, aI x8)] [aI y0] s := fun _ _ _ => rfl
  rw [e nX11_needState nX3_remember nX6_replace] at q
  clear e
  refine segT_wk (by decide) (by decide) hg rwX11_swapEnds (CLK_C (pX11_needState_ok hg (by decide)) (CLK_C (liWT_ck (pX3_remember_ok hg) (by decide)) (CLK_C (liWT_ck (pX6_replace_ok hg) (by decide)) CLK_N))) (by decide) (krTI_ok (by decide)) (kxT_ok (by decide)) ?_ q
  clear q
  exact ct_N
def nX11_swapEnds_137 (x1 : Int) (x3 : Int) (x5 : Int) (x6 : Int) (x7 : Int) (x8 : Int) (y0 : Int) (s : HU) : Option ((Int ⊕ Nat) × HU) := bX11_swapEnds_137 nX11_needState nX3_remember nX6_replace x1 x3 x5 x6 x7 x8 y0 s
theorem wX11_swapEnds_137 {g : SG} (hg : GOK g) {σ0 : SG} : ∀ {x1 : Int} {x3 : Int} {x5 : Int} {x6 : Int} {x7 : Int} {x8 : Int} {y0 : Int} {s : HU} {b : ((Int ⊕ Nat) × HU)}, nX11_swapEnds_137 x1 x3 x5 x6 x7 x8 y0 s = some b → WK 123 (oT (fun r => some (aI r)) b.1) σ0 (abU 2 70 g b.2) 137 [(0, aR 2), (1, aI x1), (3, aI x3), (5, aI x5), (6, aI x6), (7, aI x7), (8, aI x8)] [aI y0] (abU 2 70 g s) (cnU s).1 (cnU s).2 := by
  intro x1 x3 x5 x6 x7 x8 y0 s b q
  exact uX11_swapEnds_137 hg q
def bX11_swapEnds_136 (c137 : Int → Int → Int → Int → Int → Int → Int → HU → Option ((Int ⊕ Nat) × HU)) (x1 : Int) (x3 : Int) (x5 : Int) (x6 : Int) (x7 : Int) (x8 : Int) (s : HU) : Option ((Int ⊕ Nat) × HU) :=
  c137 x1 x3 x5 x6 x7 x8 0 s
theorem uX11_swapEnds_136 {g : SG} (hg : GOK g) {σ0 : SG} {c137 : Int → Int → Int → Int → Int → Int → Int → HU → Option ((Int ⊕ Nat) × HU)} (k137 : ∀ (x1 : Int) (x3 : Int) (x5 : Int) (x6 : Int) (x7 : Int) (x8 : Int) (y0 : Int) (s : HU) (b : ((Int ⊕ Nat) × HU)), c137 x1 x3 x5 x6 x7 x8 y0 s = some b → WK 123 (oT (fun r => some (aI r)) b.1) σ0 (abU 2 70 g b.2) 137 [(0, aR 2), (1, aI x1), (3, aI x3), (5, aI x5), (6, aI x6), (7, aI x7), (8, aI x8)] [aI y0] (abU 2 70 g s) (cnU s).1 (cnU s).2) : ∀ {x1 : Int} {x3 : Int} {x5 : Int} {x6 : Int} {x7 : Int} {x8 : Int} {s : HU} {b : ((Int ⊕ Nat) × HU)}, bX11_swapEnds_136 c137 x1 x3 x5 x6 x7 x8 s = some b → WK 123 (oT (fun r => some (aI r)) b.1) σ0 (abU 2 70 g b.2) 136 [(0, aR 2), (1, aI x1), (3, aI x3), (5, aI x5), (6, aI x6), (7, aI x7), (8, aI x8)] [] (abU 2 70 g s) (cnU s).1 (cnU s).2 := by
  intro x1 x3 x5 x6 x7 x8 s b q
  have e : bX11_swapEnds_136 c137 x1 x3 x5 x6 x7 x8 s = segT 2 70 g.2.2.2.2 (krTI 9) (kxT 9) clN csX11_swapEnds (cuC 137 (fun l st s => tkC 0 2 l <| tkI 1 l fun x1 => tkI 3 l fun x3 => tkI 5 l fun x5 => tkI 6 l fun x6 => tkI 7 l fun x7 => tkI 8 l fun x8 => skI st fun y0 st => skE st (c137 x1 x3 x5 x6 x7 x8 y0 s)) cuN) 1000 136 [(0, aR 2), (1, aI x1), (3, aI x3), (5, aI x5), (6, aI x6), (7, aI x7), (8, aI x8)] [] s := rfl
  rw [e] at q
  clear e
  refine segT_wk (by decide) (by decide) hg rwX11_swapEnds CLK_N (by decide) (krTI_ok (by decide)) (kxT_ok (by decide)) ?_ q
  clear q
  refine ct_C ?_ (ct_N)
  · intro l st s q
    obtain ⟨m0, q1⟩ := tkC_of q
    obtain ⟨x1, m1, q2⟩ := tkI_of q1
    obtain ⟨x3, m3, q3⟩ := tkI_of q2
    obtain ⟨x5, m5, q4⟩ := tkI_of q3
    obtain ⟨x6, m6, q5⟩ := tkI_of q4
    obtain ⟨x7, m7, q6⟩ := tkI_of q5
    obtain ⟨x8, m8, q7⟩ := tkI_of q6
    obtain ⟨y0, t0, rfl, q8⟩ := skI_of q7
    obtain ⟨rfl, q9⟩ := skE_of q8
    exact WK_less (k137 _ _ _ _ _ _ _ _ _ q9) (List.forall_mem_cons.mpr ⟨m0, (List.forall_mem_cons.mpr ⟨m1, (List.forall_mem_cons.mpr ⟨m3, (List.forall_mem_cons.mpr ⟨m5, (List.forall_mem_cons.mpr ⟨m6, (List.forall_mem_cons.mpr ⟨m7, (List.forall_mem_cons.mpr ⟨m8, (fun _ h => absurd h List.not_mem_nil)⟩)⟩)⟩)⟩)⟩)⟩)⟩)
def nX11_swapEnds_136 (x1 : Int) (x3 : Int) (x5 : Int) (x6 : Int) (x7 : Int) (x8 : Int) (s : HU) : Option ((Int ⊕ Nat) × HU) := bX11_swapEnds_136 nX11_swapEnds_137 x1 x3 x5 x6 x7 x8 s
theorem wX11_swapEnds_136 {g : SG} (hg : GOK g) {σ0 : SG} : ∀ {x1 : Int} {x3 : Int} {x5 : Int} {x6 : Int} {x7 : Int} {x8 : Int} {s : HU} {b : ((Int ⊕ Nat) × HU)}, nX11_swapEnds_136 x1 x3 x5 x6 x7 x8 s = some b → WK 123 (oT (fun r => some (aI r)) b.1) σ0 (abU 2 70 g b.2) 136 [(0, aR 2), (1, aI x1), (3, aI x3), (5, aI x5), (6, aI x6), (7, aI x7), (8, aI x8)] [] (abU 2 70 g s) (cnU s).1 (cnU s).2 := by
  intro x1 x3 x5 x6 x7 x8 s b q
  exact uX11_swapEnds_136 hg (fun _ _ _ _ _ _ _ _ _ q => wX11_swapEnds_137 hg q) q
def bX11_swapEnds_49 (f160 : Int → HH → Option ((Unit ⊕ Nat) × HU)) (f56 : Int → Int → Int → Int → Nat → HH → Option (Int × HH)) (f27 : HH → Int → Nat → Int → Option Int) (c136 : Int → Int → Int → Int → Int → Int → HU → Option ((Int ⊕ Nat) × HU)) (c137 : Int → Int → Int → Int → Int → Int → Int → HU → Option ((Int ⊕ Nat) × HU)) (x1 : Int) (x2 : Int) (x3 : Int) (x4 : Int) (y0 : Int) (s : HU) : Option ((Int ⊕ Nat) × HU) :=
  bnd (f160 y0 s.1) fun r1 => gd (s.2 + 1 ≤ 9) <| tcase r1.1 (fun _ =>
    gd ((s.2 + 1) ≤ 9) <|
    bnd (f56 x1 x2 x3 x4 69 r1.2.1) fun r3 =>
    gd ((s.2 + 1) ≤ 9) <|
    bnd (f56 x3 x4 x1 x2 70 r3.2) fun r4 =>
    gd ((s.2 + 1) ≤ 9) <|
    bnd (f27 r4.2 x1 69 r3.1) fun r5 =>
    gd ((s.2 + 1) ≤ 9) <|
    bnd (f27 r4.2 x3 70 r4.1) fun r6 =>
    if r5 = ((-1) : Int) then
    c136 x1 x3 r3.1 r4.1 r5 r6 (r4.2, (s.2 + 1))
  else
    if r6 = ((-1) : Int) then
    c136 x1 x3 r3.1 r4.1 r5 r6 (r4.2, (s.2 + 1))
  else
    c137 x1 x3 r3.1 r4.1 r5 r6 1 (r4.2, (s.2 + 1))) (fun e => gd ((s.2 + 1) + 1 ≤ 9) (some (.inr e, (r1.2.1, (s.2 + 1)))))
theorem uX11_swapEnds_49 {g : SG} (hg : GOK g) {σ0 : SG} {c136 : Int → Int → Int → Int → Int → Int → HU → Option ((Int ⊕ Nat) × HU)} {c137 : Int → Int → Int → Int → Int → Int → Int → HU → Option ((Int ⊕ Nat) × HU)} (k136 : ∀ (x1 : Int) (x3 : Int) (x5 : Int) (x6 : Int) (x7 : Int) (x8 : Int) (s : HU) (b : ((Int ⊕ Nat) × HU)), c136 x1 x3 x5 x6 x7 x8 s = some b → WK 123 (oT (fun r => some (aI r)) b.1) σ0 (abU 2 70 g b.2) 136 [(0, aR 2), (1, aI x1), (3, aI x3), (5, aI x5), (6, aI x6), (7, aI x7), (8, aI x8)] [] (abU 2 70 g s) (cnU s).1 (cnU s).2) (k137 : ∀ (x1 : Int) (x3 : Int) (x5 : Int) (x6 : Int) (x7 : Int) (x8 : Int) (y0 : Int) (s : HU) (b : ((Int ⊕ Nat) × HU)), c137 x1 x3 x5 x6 x7 x8 y0 s = some b → WK 123 (oT (fun r => some (aI r)) b.1) σ0 (abU 2 70 g b.2) 137 [(0, aR 2), (1, aI x1), (3, aI x3), (5, aI x5), (6, aI x6), (7, aI x7), (8, aI x8)] [aI y0] (abU 2 70 g s) (cnU s).1 (cnU s).2) : ∀ {x1 : Int} {x2 : Int} {x3 : Int} {x4 : Int} {y0 : Int} {s : HU} {b : ((Int ⊕ Nat) × HU)}, bX11_swapEnds_49 nX11_needThat nX6_joinEnds nX2_costOf c136 c137 x1 x2 x3 x4 y0 s = some b → WK 123 (oT (fun r => some (aI r)) b.1) σ0 (abU 2 70 g b.2) 49 [(0, aR 2), (1, aI x1), (2, aI x2), (3, aI x3), (4, aI x4)] [aI y0] (abU 2 70 g s) (cnU s).1 (cnU s).2 := by
  intro x1 x2 x3 x4 y0 s b q
  have e : ∀ (f160 : Int → HH → Option ((Unit ⊕ Nat) × HU)) (f56 : Int → Int → Int → Int → Nat → HH → Option (Int × HH)) (f27 : HH → Int → Nat → Int → Option Int) , bX11_swapEnds_49 f160 f56 f27 c136 c137 x1 x2 x3 x4 y0 s = segT 2 70 g.2.2.2.2 (krTI 9) (kxT 9) (clC 160 (pX11_needThat f160 9) (clC 56 (guT 9 (liWT (pX6_joinEnds f56))) (clC 27 (guT 9 (liWT (liPW (pX2_costOf f27)))) clN))) csX11_swapEnds (cuC 136 (fun l st s => tkC 0 2 l <| tkI 1 l fun x1 => tkI 3 l fun x3 => tkI 5 l fun x5 => tkI 6 l fun x6 => tkI 7 l fun x7 => tkI 8 l fun x8 => skE st (c136 x1 x3 x5 x6 x7 x8 s)) (cuC 137 (fun l st s => tkC 0 2 l <| tkI 1 l fun x1 => tkI 3 l fun x3 => tkI 5 l fun x5 => tkI 6 l fun x6 => tkI 7 l fun x7 => tkI 8 l fun x8 => skI st fun y0 st => skE st (c137 x1 x3 x5 x6 x7 x8 y0 s)) cuN)) 1000 49 [(0, aR 2), (1, aI x1), (2, aI x2), (3, aI x3), (4, aI x4)] [aI y0] s := fun _ _ _ => rfl
  rw [e nX11_needThat nX6_joinEnds nX2_costOf] at q
  clear e
  refine segT_wk (by decide) (by decide) hg rwX11_swapEnds (CLK_C (pX11_needThat_ok hg (by decide)) (CLK_C (liWT_ck (pX6_joinEnds_ok hg) (by decide)) (CLK_C (liWT_ck (liPW_ok (pX2_costOf_ok hg)) (by decide)) CLK_N))) (by decide) (krTI_ok (by decide)) (kxT_ok (by decide)) ?_ q
  clear q
  refine ct_C ?_ (ct_C ?_ (ct_N))
  · intro l st s q
    obtain ⟨m0, q1⟩ := tkC_of q
    obtain ⟨x1, m1, q2⟩ := tkI_of q1
    obtain ⟨x3, m3, q3⟩ := tkI_of q2
    obtain ⟨x5, m5, q4⟩ := tkI_of q3
    obtain ⟨x6, m6, q5⟩ := tkI_of q4
    obtain ⟨x7, m7, q6⟩ := tkI_of q5
    obtain ⟨x8, m8, q7⟩ := tkI_of q6
    obtain ⟨rfl, q8⟩ := skE_of q7
    exact WK_less (k136 _ _ _ _ _ _ _ _ q8) (List.forall_mem_cons.mpr ⟨m0, (List.forall_mem_cons.mpr ⟨m1, (List.forall_mem_cons.mpr ⟨m3, (List.forall_mem_cons.mpr ⟨m5, (List.forall_mem_cons.mpr ⟨m6, (List.forall_mem_cons.mpr ⟨m7, (List.forall_mem_cons.mpr ⟨m8, (fun _ h => absurd h List.not_mem_nil)⟩)⟩)⟩)⟩)⟩)⟩)⟩)
  · intro l st s q
    obtain ⟨m0, q1⟩ := tkC_of q
    obtain ⟨x1, m1, q2⟩ := tkI_of q1
    obtain ⟨x3, m3, q3⟩ := tkI_of q2
    obtain ⟨x5, m5, q4⟩ := tkI_of q3
    obtain ⟨x6, m6, q5⟩ := tkI_of q4
    obtain ⟨x7, m7, q6⟩ := tkI_of q5
    obtain ⟨x8, m8, q7⟩ := tkI_of q6
    obtain ⟨y0, t0, rfl, q8⟩ := skI_of q7
    obtain ⟨rfl, q9⟩ := skE_of q8
    exact WK_less (k137 _ _ _ _ _ _ _ _ _ q9) (List.forall_mem_cons.mpr ⟨m0, (List.forall_mem_cons.mpr ⟨m1, (List.forall_mem_cons.mpr ⟨m3, (List.forall_mem_cons.mpr ⟨m5, (List.forall_mem_cons.mpr ⟨m6, (List.forall_mem_cons.mpr ⟨m7, (List.forall_mem_cons.mpr ⟨m8, (fun _ h => absurd h List.not_mem_nil)⟩)⟩)⟩)⟩)⟩)⟩)⟩)
def nX11_swapEnds_49 (x1 : Int) (x2 : Int) (x3 : Int) (x4 : Int) (y0 : Int) (s : HU) : Option ((Int ⊕ Nat) × HU) := bX11_swapEnds_49 nX11_needThat nX6_joinEnds nX2_costOf nX11_swapEnds_136 nX11_swapEnds_137 x1 x2 x3 x4 y0 s
theorem wX11_swapEnds_49 {g : SG} (hg : GOK g) {σ0 : SG} : ∀ {x1 : Int} {x2 : Int} {x3 : Int} {x4 : Int} {y0 : Int} {s : HU} {b : ((Int ⊕ Nat) × HU)}, nX11_swapEnds_49 x1 x2 x3 x4 y0 s = some b → WK 123 (oT (fun r => some (aI r)) b.1) σ0 (abU 2 70 g b.2) 49 [(0, aR 2), (1, aI x1), (2, aI x2), (3, aI x3), (4, aI x4)] [aI y0] (abU 2 70 g s) (cnU s).1 (cnU s).2 := by
  intro x1 x2 x3 x4 y0 s b q
  exact uX11_swapEnds_49 hg (fun _ _ _ _ _ _ _ _ q => wX11_swapEnds_136 hg q) (fun _ _ _ _ _ _ _ _ _ q => wX11_swapEnds_137 hg q) q
def bX11_swapEnds (f157 : Int → HH → Option ((Unit ⊕ Nat) × HU)) (f158 : Int → Int → Int → HH → Option ((Unit ⊕ Nat) × HU)) (c49 : Int → Int → Int → Int → Int → HU → Option ((Int ⊕ Nat) × HU)) (x1 : Int) (x2 : Int) (x3 : Int) (x4 : Int) (h : HH) : Option ((Int ⊕ Nat) × HU) :=
  bnd (f157 x1 h) fun r1 => gd (0 + 2 ≤ 9) <| tcase r1.1 (fun _ =>
    bnd (f157 x3 r1.2.1) fun r3 => gd ((0 + 2) + 2 ≤ 9) <| tcase r3.1 (fun _ =>
    gd ((0 : Int) ≤ x1 ∧ x1 < (3 : Int)) <|
    bnd (f158 x2 0 (r3.2.1.1 31 x1) r3.2.1) fun r5 => gd (((0 + 2) + 2) + 1 ≤ 9) <| tcase r5.1 (fun _ =>
    gd ((0 : Int) ≤ x3 ∧ x3 < (3 : Int)) <|
    bnd (f158 x4 0 (r5.2.1.1 31 x3) r5.2.1) fun r7 => gd ((((0 + 2) + 2) + 1) + 1 ≤ 9) <| tcase r7.1 (fun _ =>
    if x1 = (x3 : Int) then
    c49 x1 x2 x3 x4 0 (r7.2.1, ((((0 + 2) + 2) + 1) + 1))
  else
    c49 x1 x2 x3 x4 1 (r7.2.1, ((((0 + 2) + 2) + 1) + 1))) (fun e => gd (((((0 + 2) + 2) + 1) + 1) + 1 ≤ 9) (some (.inr e, (r7.2.1, ((((0 + 2) + 2) + 1) + 1)))))) (fun e => gd ((((0 + 2) + 2) + 1) + 1 ≤ 9) (some (.inr e, (r5.2.1, (((0 + 2) + 2) + 1)))))) (fun e => gd (((0 + 2) + 2) + 1 ≤ 9) (some (.inr e, (r3.2.1, ((0 + 2) + 2)))))) (fun e => gd ((0 + 2) + 1 ≤ 9) (some (.inr e, (r1.2.1, (0 + 2)))))
set_option maxRecDepth 100000 in
theorem uX11_swapEnds {g : SG} (hg : GOK g) {σ0 : SG} {c49 : Int → Int → Int → Int → Int → HU → Option ((Int ⊕ Nat) × HU)} (k49 : ∀ (x1 : Int) (x2 : Int) (x3 : Int) (x4 : Int) (y0 : Int) (s : HU) (b : ((Int ⊕ Nat) × HU)), c49 x1 x2 x3 x4 y0 s = some b → WK 123 (oT (fun r => some (aI r)) b.1) σ0 (abU 2 70 g b.2) 49 [(0, aR 2), (1, aI x1), (2, aI x2), (3, aI x3), (4, aI x4)] [aI y0] (abU 2 70 g s) (cnU s).1 (cnU s).2) : ∀ {x1 : Int} {x2 : Int} {x3 : Int} {x4 : Int} {h : HH} {b : ((Int ⊕ Nat) × HU)}, bX11_swapEnds nX11_needVan nX11_needIndex c49 x1 x2 x3 x4 h = some b → WK 123 (oT (fun r => some (aI r)) b.1) σ0 (abU 2 70 g b.2) 0 [(0, aR 2), (1, aI x1), (2, aI x2), (3, aI x3), (4, aI x4)] [] (abU 2 70 g (h, 0)) (cnU (h, 0)).1 (cnU (h, 0)).2 := by
  intro x1 x2 x3 x4 h b q
  have e : ∀ (f157 : Int → HH → Option ((Unit ⊕ Nat) × HU)) (f158 : Int → Int → Int → HH → Option ((Unit ⊕ Nat) × HU)) , bX11_swapEnds f157 f158 c49 x1 x2 x3 x4 h = segT 2 70 g.2.2.2.2 (krTI 9) (kxT 9) (clC 157 (pX11_needVan f157 9) (clC 158 (pX11_needIndex f158 9) clN)) csX11_swapEnds (cuC 49 (fun l st s => tkC 0 2 l <| tkI 1 l fun x1 => tkI 2 l fun x2 => tkI 3 l fun x3 => tkI 4 l fun x4 => skI st fun y0 st => skE st (c49 x1 x2 x3 x4 y0 s)) cuN) 1000 0 [(0, aR 2), (1, aI x1), (2, aI x2), (3, aI x3), (4, aI x4)] [] (h, 0) := fun _ _ => rfl
  rw [e nX11_needVan nX11_needIndex] at q
  clear e
  refine segT_wk (by decide) (by decide) hg rwX11_swapEnds (CLK_C (pX11_needVan_ok hg (by decide)) (CLK_C (pX11_needIndex_ok hg (by decide)) CLK_N)) (by decide) (krTI_ok (by decide)) (kxT_ok (by decide)) ?_ q
  clear q
  refine ct_C ?_ (ct_N)
  · intro l st s q
    obtain ⟨m0, q1⟩ := tkC_of q
    obtain ⟨x1, m1, q2⟩ := tkI_of q1
    obtain ⟨x2, m2, q3⟩ := tkI_of q2
    obtain ⟨x3, m3, q4⟩ := tkI_of q3
    obtain ⟨x4, m4, q5⟩ := tkI_of q4
    obtain ⟨y0, t0, rfl, q6⟩ := skI_of q5
    obtain ⟨rfl, q7⟩ := skE_of q6
    exact WK_less (k49 _ _ _ _ _ _ _ q7) (List.forall_mem_cons.mpr ⟨m0, (List.forall_mem_cons.mpr ⟨m1, (List.forall_mem_cons.mpr ⟨m2, (List.forall_mem_cons.mpr ⟨m3, (List.forall_mem_cons.mpr ⟨m4, (fun _ h => absurd h List.not_mem_nil)⟩)⟩)⟩)⟩)⟩)
def nX11_swapEnds (x1 : Int) (x2 : Int) (x3 : Int) (x4 : Int) (h : HH) : Option ((Int ⊕ Nat) × HU) := bX11_swapEnds nX11_needVan nX11_needIndex nX11_swapEnds_49 x1 x2 x3 x4 h
theorem wX11_swapEnds {g : SG} (hg : GOK g) {σ0 : SG} : ∀ {x1 : Int} {x2 : Int} {x3 : Int} {x4 : Int} {h : HH} {b : ((Int ⊕ Nat) × HU)}, nX11_swapEnds x1 x2 x3 x4 h = some b → WK 123 (oT (fun r => some (aI r)) b.1) σ0 (abU 2 70 g b.2) 0 [(0, aR 2), (1, aI x1), (2, aI x2), (3, aI x3), (4, aI x4)] [] (abU 2 70 g (h, 0)) (cnU (h, 0)).1 (cnU (h, 0)).2 := by
  intro x1 x2 x3 x4 h b q
  exact uX11_swapEnds hg (fun _ _ _ _ _ _ _ q => wX11_swapEnds_49 hg q) q
theorem mX11_swapEnds {g : SG} (hg : GOK g) {h : HH} {x1 : Int} {x2 : Int} {x3 : Int} {x4 : Int} {b : ((Int ⊕ Nat) × HU)} (q : nX11_swapEnds x1 x2 x3 x4 h = some b) : MCT 123 [] [aR 2, aI x1, aI x2, aI x3, aI x4] (abU 2 70 g (h, 0)) (oT (fun r => some (aI r)) b.1) (abU 2 70 g b.2) :=
  mct_of (by decide) (MFok 123 (by decide +kernel)) (fun _ => Nat.le_of_ble_eq_true rfl) (wX11_swapEnds hg q)
def pX11_swapEnds {β : Type} (z : Int → Int → Int → Int → HH → Option ((Int ⊕ Nat) × HU)) (rc : Nat) : PT β := fun as s f => skC 2 as fun as => skI as fun x1 as => skI as fun x2 as => skI as fun x3 as => skI as fun x4 as => skE as (liTT rc 9 (fun r => some (aI r)) s (z x1 x2 x3 x4 s.1) f)
theorem pX11_swapEnds_ok {β : Type} {g : SG} (hg : GOK g) {rc rs : Nat} (hrs : 6 * rc ≤ rs) : CLK1 (β := β) 123 (pX11_swapEnds nX11_swapEnds rc) (abU 2 70 g) cnU rc rs := fun as s f b q => by
  obtain ⟨as, rfl, q1⟩ := skC_of q
  obtain ⟨x1, as, rfl, q2⟩ := skI_of q1
  obtain ⟨x2, as, rfl, q3⟩ := skI_of q2
  obtain ⟨x3, as, rfl, q4⟩ := skI_of q3
  obtain ⟨x4, as, rfl, q5⟩ := skI_of q4
  obtain ⟨rfl, q0⟩ := skE_of q5
  exact liTT_ok q0 (by decide) (fun _ e => mX11_swapEnds hg e) rfl rfl hrs
def csX11_savings : List (Nat × List (Nat × ARow)) := [(48, [(0, 1, .aload_n 0, 0, 0, 0), (1, 1, .iload_n 1, 0, 0, 0), (2, 3, .invokevirtual 174, 157, 2, 11), (5, 1, .aload_n 0, 0, 0, 0), (6, 3, .getfield 30, 11, 2, 2), (9, 3, .getfield 177, 6, 2, 2), (12, 1, .iload_n 1, 0, 0, 0), (13, 1, .iaload, 0, 0, 0), (14, 3, .ifCond .ne 7, 21, 0, 0), (17, 1, .iconst 1, 0, 0, 0), (18, 3, .goto 4, 22, 0, 0), (21, 1, .iconst 0, 0, 0, 0), (22, 3, .invokestatic 122, 161, 1, 0), (25, 1, .aload_n 0, 0, 0, 0), (26, 3, .getfield 37, 11, 3, 2), (29, 1, .aload_n 0, 0, 0, 0), (30, 3, .getfield 30, 11, 2, 2), (33, 3, .invokevirtual 215, 32, 2, 3), (36, 1, .aload_n 0, 0, 0, 0), (37, 3, .getfield 46, 11, 4, 2), (40, 1, .iload_n 1, 0, 0, 0), (41, 3, .invokevirtual 223, 70, 2, 7), (44, 1, .aload_n 0, 0, 0, 0), (45, 3, .getfield 30, 11, 2, 2)]),
  (100000, [(48, 3, .getfield 177, 6, 2, 2), (51, 1, .iload_n 1, 0, 0, 0), (52, 1, .iaload, 0, 0, 0), (53, 1, .ireturn, 0, 0, 0)])]
theorem rwX11_savings : rowsB (mB 124) (mO 124) (mX 124) (mIni 124) (mFr 124) (mLo 124) (mT 124) csX11_savings = true := by decide +kernel
def bX11_savings_22 (f161 : Int → HH → Option ((Unit ⊕ Nat) × HU)) (f32 : HH → Option HH) (f70 : Int → HH → Option HH) (x1 : Int) (y0 : Int) (s : HU) : Option ((Int ⊕ Nat) × HU) :=
  bnd (f161 y0 s.1) fun r1 => gd (s.2 + 1 ≤ 4) <| tcase r1.1 (fun _ =>
    gd ((s.2 + 1) ≤ 4) <|
    bnd (f32 r1.2.1) fun r3 =>
    gd ((s.2 + 1) ≤ 4) <|
    bnd (f70 x1 r3) fun r4 =>
    gd ((0 : Int) ≤ x1 ∧ x1 < (3 : Int)) <|
    gd ((s.2 + 1) ≤ 4) (some (.inl (r4.1 31 x1), (r4, (s.2 + 1))))) (fun e => gd ((s.2 + 1) + 1 ≤ 4) (some (.inr e, (r1.2.1, (s.2 + 1)))))
theorem uX11_savings_22 {g : SG} (hg : GOK g) {σ0 : SG} : ∀ {x1 : Int} {y0 : Int} {s : HU} {b : ((Int ⊕ Nat) × HU)}, bX11_savings_22 nX11_needState nX3_remember nX7_makeBySavings x1 y0 s = some b → WK 124 (oT (fun r => some (aI r)) b.1) σ0 (abU 2 70 g b.2) 22 [(0, aR 2), (1, aI x1)] [aI y0] (abU 2 70 g s) (cnU s).1 (cnU s).2 := by
  intro x1 y0 s b q
  have e : ∀ (f161 : Int → HH → Option ((Unit ⊕ Nat) × HU)) (f32 : HH → Option HH) (f70 : Int → HH → Option HH) , bX11_savings_22 f161 f32 f70 x1 y0 s = segT 2 70 g.2.2.2.2 (krTI 4) (kxT 4) (clC 161 (pX11_needState f161 4) (clC 32 (guT 4 (liWT (pX3_remember f32))) (clC 70 (guT 4 (liWT (pX7_makeBySavings f70))) clN))) csX11_savings cuN 1000 22 [(0, aR 2), (1, aI x1)] [aI y0] s := fun _ _ _ => rfl
  rw [e nX11_needState nX3_remember nX7_makeBySavings] at q
  clear e
  refine segT_wk (by decide) (by decide) hg rwX11_savings (CLK_C (pX11_needState_ok hg (by decide)) (CLK_C (liWT_ck (pX3_remember_ok hg) (by decide)) (CLK_C (liWT_ck (pX7_makeBySavings_ok hg) (by decide)) CLK_N))) (by decide) (krTI_ok (by decide)) (kxT_ok (by decide)) ?_ q
  clear q
  exact ct_N
def nX11_savings_22 (x1 : Int) (y0 : Int) (s : HU) : Option ((Int ⊕ Nat) × HU) := bX11_savings_22 nX11_needState nX3_remember nX7_makeBySavings x1 y0 s
theorem wX11_savings_22 {g : SG} (hg : GOK g) {σ0 : SG} : ∀ {x1 : Int} {y0 : Int} {s : HU} {b : ((Int ⊕ Nat) × HU)}, nX11_savings_22 x1 y0 s = some b → WK 124 (oT (fun r => some (aI r)) b.1) σ0 (abU 2 70 g b.2) 22 [(0, aR 2), (1, aI x1)] [aI y0] (abU 2 70 g s) (cnU s).1 (cnU s).2 := by
  intro x1 y0 s b q
  exact uX11_savings_22 hg q
def bX11_savings (f157 : Int → HH → Option ((Unit ⊕ Nat) × HU)) (c22 : Int → Int → HU → Option ((Int ⊕ Nat) × HU)) (x1 : Int) (h : HH) : Option ((Int ⊕ Nat) × HU) :=
  bnd (f157 x1 h) fun r1 => gd (0 + 2 ≤ 4) <| tcase r1.1 (fun _ =>
    gd ((0 : Int) ≤ x1 ∧ x1 < (3 : Int)) <|
    if (r1.2.1.1 31 x1) = (0 : Int) then
    c22 x1 1 (r1.2.1, (0 + 2))
  else
    c22 x1 0 (r1.2.1, (0 + 2))) (fun e => gd ((0 + 2) + 1 ≤ 4) (some (.inr e, (r1.2.1, (0 + 2)))))
theorem uX11_savings {g : SG} (hg : GOK g) {σ0 : SG} {c22 : Int → Int → HU → Option ((Int ⊕ Nat) × HU)} (k22 : ∀ (x1 : Int) (y0 : Int) (s : HU) (b : ((Int ⊕ Nat) × HU)), c22 x1 y0 s = some b → WK 124 (oT (fun r => some (aI r)) b.1) σ0 (abU 2 70 g b.2) 22 [(0, aR 2), (1, aI x1)] [aI y0] (abU 2 70 g s) (cnU s).1 (cnU s).2) : ∀ {x1 : Int} {h : HH} {b : ((Int ⊕ Nat) × HU)}, bX11_savings nX11_needVan c22 x1 h = some b → WK 124 (oT (fun r => some (aI r)) b.1) σ0 (abU 2 70 g b.2) 0 [(0, aR 2), (1, aI x1)] [] (abU 2 70 g (h, 0)) (cnU (h, 0)).1 (cnU (h, 0)).2 := by
  intro x1 h b q
  have e : ∀ (f157 : Int → HH → Option ((Unit ⊕ Nat) × HU)) , bX11_savings f157 c22 x1 h = segT 2 70 g.2.2.2.2 (krTI 4) (kxT 4) (clC 157 (pX11_needVan f157 4) clN) csX11_savings (cuC 22 (fun l st s => tkC 0 2 l <| tkI 1 l fun x1 => skI st fun y0 st => skE st (c22 x1 y0 s)) cuN) 1000 0 [(0, aR 2), (1, aI x1)] [] (h, 0) := fun _ => rfl
  rw [e nX11_needVan] at q
  clear e
  refine segT_wk (by decide) (by decide) hg rwX11_savings (CLK_C (pX11_needVan_ok hg (by decide)) CLK_N) (by decide) (krTI_ok (by decide)) (kxT_ok (by decide)) ?_ q
  clear q
  refine ct_C ?_ (ct_N)
  · intro l st s q
    obtain ⟨m0, q1⟩ := tkC_of q
    obtain ⟨x1, m1, q2⟩ := tkI_of q1
    obtain ⟨y0, t0, rfl, q3⟩ := skI_of q2
    obtain ⟨rfl, q4⟩ := skE_of q3
    exact WK_less (k22 _ _ _ _ q4) (List.forall_mem_cons.mpr ⟨m0, (List.forall_mem_cons.mpr ⟨m1, (fun _ h => absurd h List.not_mem_nil)⟩)⟩)
def nX11_savings (x1 : Int) (h : HH) : Option ((Int ⊕ Nat) × HU) := bX11_savings nX11_needVan nX11_savings_22 x1 h
theorem wX11_savings {g : SG} (hg : GOK g) {σ0 : SG} : ∀ {x1 : Int} {h : HH} {b : ((Int ⊕ Nat) × HU)}, nX11_savings x1 h = some b → WK 124 (oT (fun r => some (aI r)) b.1) σ0 (abU 2 70 g b.2) 0 [(0, aR 2), (1, aI x1)] [] (abU 2 70 g (h, 0)) (cnU (h, 0)).1 (cnU (h, 0)).2 := by
  intro x1 h b q
  exact uX11_savings hg (fun _ _ _ _ q => wX11_savings_22 hg q) q
theorem mX11_savings {g : SG} (hg : GOK g) {h : HH} {x1 : Int} {b : ((Int ⊕ Nat) × HU)} (q : nX11_savings x1 h = some b) : MCT 124 [] [aR 2, aI x1] (abU 2 70 g (h, 0)) (oT (fun r => some (aI r)) b.1) (abU 2 70 g b.2) :=
  mct_of (by decide) (MFok 124 (by decide +kernel)) (fun _ => Nat.le_of_ble_eq_true rfl) (wX11_savings hg q)
def pX11_savings {β : Type} (z : Int → HH → Option ((Int ⊕ Nat) × HU)) (rc : Nat) : PT β := fun as s f => skC 2 as fun as => skI as fun x1 as => skE as (liTT rc 4 (fun r => some (aI r)) s (z x1 s.1) f)
theorem pX11_savings_ok {β : Type} {g : SG} (hg : GOK g) {rc rs : Nat} (hrs : 6 * rc ≤ rs) : CLK1 (β := β) 124 (pX11_savings nX11_savings rc) (abU 2 70 g) cnU rc rs := fun as s f b q => by
  obtain ⟨as, rfl, q1⟩ := skC_of q
  obtain ⟨x1, as, rfl, q2⟩ := skI_of q1
  obtain ⟨rfl, q0⟩ := skE_of q2
  exact liTT_ok q0 (by decide) (fun _ e => mX11_savings hg e) rfl rfl hrs
def csX11_needElement : List (Nat × List (Nat × ARow)) := [(100000, [(0, 1, .iload_n 0, 0, 0, 0), (1, 3, .ifCond .ne 11, 12, 0, 0), (4, 3, .new 398, 103, 0, 0), (12, 1, .return_, 0, 0, 0)])]
theorem rwX11_needElement : rowsB (mB 162) (mO 162) (mX 162) (mIni 162) (mFr 162) (mLo 162) (mT 162) csX11_needElement = true := by decide +kernel
def bX11_needElement (x0 : Int) (h : HH) : Option ((Unit ⊕ Nat) × HU) :=
  if x0 = (0 : Int) then
    gd (0 + 1 ≤ 1) (some (.inr 3, (h, 0)))
  else
    gd (0 ≤ 1) (some (.inl (), (h, 0)))
theorem uX11_needElement {g : SG} (hg : GOK g) {σ0 : SG} : ∀ {x0 : Int} {h : HH} {b : ((Unit ⊕ Nat) × HU)}, bX11_needElement x0 h = some b → WK 162 (oT (fun _ => none) b.1) σ0 (abU 2 70 g b.2) 0 [(0, aI x0)] [] (abU 2 70 g (h, 0)) (cnU (h, 0)).1 (cnU (h, 0)).2 := by
  intro x0 h b q
  have e : bX11_needElement x0 h = segT 2 70 g.2.2.2.2 (krTV 1) (kxT 1) clN csX11_needElement cuN 1000 0 [(0, aI x0)] [] (h, 0) := rfl
  rw [e] at q
  clear e
  refine segT_wk (by decide) (by decide) hg rwX11_needElement CLK_N (by decide) (krTV_ok (by decide)) (kxT_ok (by decide)) ?_ q
  clear q
  exact ct_N
def nX11_needElement (x0 : Int) (h : HH) : Option ((Unit ⊕ Nat) × HU) := bX11_needElement x0 h
theorem wX11_needElement {g : SG} (hg : GOK g) {σ0 : SG} : ∀ {x0 : Int} {h : HH} {b : ((Unit ⊕ Nat) × HU)}, nX11_needElement x0 h = some b → WK 162 (oT (fun _ => none) b.1) σ0 (abU 2 70 g b.2) 0 [(0, aI x0)] [] (abU 2 70 g (h, 0)) (cnU (h, 0)).1 (cnU (h, 0)).2 := by
  intro x0 h b q
  exact uX11_needElement hg q
theorem mX11_needElement {g : SG} (hg : GOK g) {h : HH} {x0 : Int} {b : ((Unit ⊕ Nat) × HU)} (q : nX11_needElement x0 h = some b) : MCT 162 [] [aI x0] (abU 2 70 g (h, 0)) (oT (fun _ => none) b.1) (abU 2 70 g b.2) :=
  mct_of (by decide) (MFok 162 (by decide +kernel)) (fun _ => Nat.le_of_ble_eq_true rfl) (wX11_needElement hg q)
def pX11_needElement {β : Type} (z : Int → HH → Option ((Unit ⊕ Nat) × HU)) (rc : Nat) : PT β := fun as s f => skI as fun x0 as => skE as (liTT rc 1 (fun _ => none) s (z x0 s.1) f)
theorem pX11_needElement_ok {β : Type} {g : SG} (hg : GOK g) {rc rs : Nat} (hrs : 6 * rc ≤ rs) : CLK1 (β := β) 162 (pX11_needElement nX11_needElement rc) (abU 2 70 g) cnU rc rs := fun as s f b q => by
  obtain ⟨x0, as, rfl, q1⟩ := skI_of q
  obtain ⟨rfl, q0⟩ := skE_of q1
  exact liTT_ok q0 (by decide) (fun _ e => mX11_needElement hg e) rfl rfl hrs
def csX11_putIn : List (Nat × List (Nat × ARow)) := [(46, [(0, 1, .aload_n 0, 0, 0, 0), (1, 1, .iload_n 1, 0, 0, 0), (2, 3, .invokevirtual 149, 156, 2, 11), (5, 1, .aload_n 0, 0, 0, 0), (6, 3, .getfield 30, 11, 2, 2), (9, 1, .iload_n 1, 0, 0, 0), (10, 3, .invokevirtual 183, 50, 2, 6), (13, 3, .invokestatic 122, 161, 1, 0), (16, 1, .aload_n 0, 0, 0, 0), (17, 3, .getfield 46, 11, 4, 2), (20, 1, .iload_n 1, 0, 0, 0), (21, 3, .invokevirtual 226, 64, 2, 7), (24, 1, .aload_n 0, 0, 0, 0), (25, 3, .getfield 46, 11, 4, 2), (28, 3, .getfield 229, 7, 7, 0), (31, 1, .istore_n 2, 0, 0, 0), (32, 1, .iload_n 2, 0, 0, 0), (33, 1, .iconst (-1), 0, 0, 0), (34, 3, .if_icmp .eq 7, 41, 0, 0), (37, 1, .iconst 1, 0, 0, 0), (38, 3, .goto 4, 42, 0, 0), (41, 1, .iconst 0, 0, 0, 0), (42, 3, .invokestatic 232, 162, 1, 0), (45, 1, .aload_n 0, 0, 0, 0)]),
  (100000, [(46, 3, .getfield 30, 11, 2, 2), (49, 3, .getfield 187, 6, 1, 2), (52, 1, .iload_n 2, 0, 0, 0), (53, 1, .aaload, 0, 0, 0), (54, 1, .aload_n 0, 0, 0, 0), (55, 3, .getfield 30, 11, 2, 2), (58, 3, .getfield 177, 6, 2, 2), (61, 1, .iload_n 2, 0, 0, 0), (62, 1, .iaload, 0, 0, 0), (63, 1, .aload_n 0, 0, 0, 0), (64, 3, .getfield 46, 11, 4, 2), (67, 3, .getfield 235, 7, 8, 0), (70, 1, .iload_n 1, 0, 0, 0), (71, 1, .aload_n 0, 0, 0, 0), (72, 3, .getfield 94, 11, 11, 2), (75, 3, .invokestatic 191, 52, 5, 0), (78, 1, .istore_n 3, 0, 0, 0), (79, 1, .aload_n 0, 0, 0, 0), (80, 1, .iload_n 2, 0, 0, 0), (81, 1, .iload_n 3, 0, 0, 0), (82, 3, .invokevirtual 195, 163, 3, 11), (85, 1, .pop, 0, 0, 0), (86, 1, .iload_n 2, 0, 0, 0), (87, 1, .ireturn, 0, 0, 0)])]
theorem rwX11_putIn : rowsB (mB 125) (mO 125) (mX 125) (mIni 125) (mFr 125) (mLo 125) (mT 125) csX11_putIn = true := by decide +kernel
def bX11_putIn_42 (f162 : Int → HH → Option ((Unit ⊕ Nat) × HU)) (f52 : Nat → Int → Int → Int → Nat → HH → Option (Int × HH)) (f163 : Int → Int → HH → Option ((Int ⊕ Nat) × HU)) (x1 : Int) (x2 : Int) (y0 : Int) (s : HU) : Option ((Int ⊕ Nat) × HU) :=
  bnd (f162 y0 s.1) fun r1 => gd (s.2 + 1 ≤ 7) <| tcase r1.1 (fun _ =>
    gd ((0 : Int) ≤ x2 ∧ x2 < (3 : Int)) <|
    bif Nat.beq (rwK 3 28 x2) 0 then none else
    gd ((0 : Int) ≤ x2 ∧ x2 < (3 : Int)) <|
    gd ((s.2 + 1) ≤ 7) <|
    bnd (f52 (rwK 3 28 x2) (r1.2.1.1 31 x2) (r1.2.1.1 34 8) x1 69 r1.2.1) fun r3 =>
    bnd (f163 x2 r3.1 r3.2) fun r4 => gd ((s.2 + 1) + 2 ≤ 7) <| tcase r4.1 (fun x5 =>
    gd (((s.2 + 1) + 2) ≤ 7) (some (.inl x2, (r4.2.1, ((s.2 + 1) + 2))))) (fun e => gd (((s.2 + 1) + 2) + 1 ≤ 7) (some (.inr e, (r4.2.1, ((s.2 + 1) + 2)))))) (fun e => gd ((s.2 + 1) + 1 ≤ 7) (some (.inr e, (r1.2.1, (s.2 + 1)))))
theorem uX11_putIn_42 {g : SG} (hg : GOK g) {σ0 : SG} : ∀ {x1 : Int} {x2 : Int} {y0 : Int} {s : HU} {b : ((Int ⊕ Nat) × HU)}, bX11_putIn_42 nX11_needElement nX6_insert nX11_changeRound x1 x2 y0 s = some b → WK 125 (oT (fun r => some (aI r)) b.1) σ0 (abU 2 70 g b.2) 42 [(0, aR 2), (1, aI x1), (2, aI x2)] [aI y0] (abU 2 70 g s) (cnU s).1 (cnU s).2 := by
  intro x1 x2 y0 s b q
  have e : ∀ (f162 : Int → HH → Option ((Unit ⊕ Nat) × HU)) (f52 : Nat → Int → Int → Int → Nat → HH → Option (Int × HH)) (f163 : Int → Int → HH → Option ((Int ⊕ Nat) × HU)) , bX11_putIn_42 f162 f52 f163 x1 x2 y0 s = segT 2 70 g.2.2.2.2 (krTI 7) (kxT 7) (clC 162 (pX11_needElement f162 7) (clC 52 (guT 7 (liWT (pX6_insert f52))) (clC 163 (pX11_changeRound f163 7) clN))) csX11_putIn cuN 1000 42 [(0, aR 2), (1, aI x1), (2, aI x2)] [aI y0] s := fun _ _ _ => rfl
  rw [e nX11_needElement nX6_insert nX11_changeRound] at q
  clear e
  refine segT_wk (by decide) (by decide) hg rwX11_putIn (CLK_C (pX11_needElement_ok hg (by decide)) (CLK_C (liWT_ck (pX6_insert_ok hg) (by decide)) (CLK_C (pX11_changeRound_ok hg (by decide)) CLK_N))) (by decide) (krTI_ok (by decide)) (kxT_ok (by decide)) ?_ q
  clear q
  exact ct_N
def nX11_putIn_42 (x1 : Int) (x2 : Int) (y0 : Int) (s : HU) : Option ((Int ⊕ Nat) × HU) := bX11_putIn_42 nX11_needElement nX6_insert nX11_changeRound x1 x2 y0 s
theorem wX11_putIn_42 {g : SG} (hg : GOK g) {σ0 : SG} : ∀ {x1 : Int} {x2 : Int} {y0 : Int} {s : HU} {b : ((Int ⊕ Nat) × HU)}, nX11_putIn_42 x1 x2 y0 s = some b → WK 125 (oT (fun r => some (aI r)) b.1) σ0 (abU 2 70 g b.2) 42 [(0, aR 2), (1, aI x1), (2, aI x2)] [aI y0] (abU 2 70 g s) (cnU s).1 (cnU s).2 := by
  intro x1 x2 y0 s b q
  exact uX11_putIn_42 hg q
def bX11_putIn (f156 : Int → HH → Option ((Unit ⊕ Nat) × HU)) (f50 : HH → Int → Option Int) (f161 : Int → HH → Option ((Unit ⊕ Nat) × HU)) (f64 : Int → HH → Option HH) (c42 : Int → Int → Int → HU → Option ((Int ⊕ Nat) × HU)) (x1 : Int) (h : HH) : Option ((Int ⊕ Nat) × HU) :=
  bnd (f156 x1 h) fun r1 => gd (0 + 2 ≤ 7) <| tcase r1.1 (fun _ =>
    gd ((0 + 2) ≤ 7) <|
    bnd (f50 r1.2.1 x1) fun r3 =>
    bnd (f161 r3 r1.2.1) fun r4 => gd ((0 + 2) + 1 ≤ 7) <| tcase r4.1 (fun _ =>
    gd (((0 + 2) + 1) ≤ 7) <|
    bnd (f64 x1 r4.2.1) fun r6 =>
    if (r6.1 34 7) = ((-1) : Int) then
    c42 x1 (r6.1 34 7) 0 (r6, ((0 + 2) + 1))
  else
    c42 x1 (r6.1 34 7) 1 (r6, ((0 + 2) + 1))) (fun e => gd (((0 + 2) + 1) + 1 ≤ 7) (some (.inr e, (r4.2.1, ((0 + 2) + 1)))))) (fun e => gd ((0 + 2) + 1 ≤ 7) (some (.inr e, (r1.2.1, (0 + 2)))))
theorem uX11_putIn {g : SG} (hg : GOK g) {σ0 : SG} {c42 : Int → Int → Int → HU → Option ((Int ⊕ Nat) × HU)} (k42 : ∀ (x1 : Int) (x2 : Int) (y0 : Int) (s : HU) (b : ((Int ⊕ Nat) × HU)), c42 x1 x2 y0 s = some b → WK 125 (oT (fun r => some (aI r)) b.1) σ0 (abU 2 70 g b.2) 42 [(0, aR 2), (1, aI x1), (2, aI x2)] [aI y0] (abU 2 70 g s) (cnU s).1 (cnU s).2) : ∀ {x1 : Int} {h : HH} {b : ((Int ⊕ Nat) × HU)}, bX11_putIn nX11_needParcel nX6_canTake nX11_needState nX7_findPlace c42 x1 h = some b → WK 125 (oT (fun r => some (aI r)) b.1) σ0 (abU 2 70 g b.2) 0 [(0, aR 2), (1, aI x1)] [] (abU 2 70 g (h, 0)) (cnU (h, 0)).1 (cnU (h, 0)).2 := by
  intro x1 h b q
  have e : ∀ (f156 : Int → HH → Option ((Unit ⊕ Nat) × HU)) (f50 : HH → Int → Option Int) (f161 : Int → HH → Option ((Unit ⊕ Nat) × HU)) (f64 : Int → HH → Option HH) , bX11_putIn f156 f50 f161 f64 c42 x1 h = segT 2 70 g.2.2.2.2 (krTI 7) (kxT 7) (clC 156 (pX11_needParcel f156 7) (clC 50 (guT 7 (liWT (liPW (pX6_canTake f50)))) (clC 161 (pX11_needState f161 7) (clC 64 (guT 7 (liWT (pX7_findPlace f64))) clN)))) csX11_putIn (cuC 42 (fun l st s => tkC 0 2 l <| tkI 1 l fun x1 => tkI 2 l fun x2 => skI st fun y0 st => skE st (c42 x1 x2 y0 s)) cuN) 1000 0 [(0, aR 2), (1, aI x1)] [] (h, 0) := fun _ _ _ _ => rfl
  rw [e nX11_needParcel nX6_canTake nX11_needState nX7_findPlace] at q
  clear e
  refine segT_wk (by decide) (by decide) hg rwX11_putIn (CLK_C (pX11_needParcel_ok hg (by decide)) (CLK_C (liWT_ck (liPW_ok (pX6_canTake_ok hg)) (by decide)) (CLK_C (pX11_needState_ok hg (by decide)) (CLK_C (liWT_ck (pX7_findPlace_ok hg) (by decide)) CLK_N)))) (by decide) (krTI_ok (by decide)) (kxT_ok (by decide)) ?_ q
  clear q
  refine ct_C ?_ (ct_N)
  · intro l st s q
    obtain ⟨m0, q1⟩ := tkC_of q
    obtain ⟨x1, m1, q2⟩ := tkI_of q1
    obtain ⟨x2, m2, q3⟩ := tkI_of q2
    obtain ⟨y0, t0, rfl, q4⟩ := skI_of q3
    obtain ⟨rfl, q5⟩ := skE_of q4
    exact WK_less (k42 _ _ _ _ _ q5) (List.forall_mem_cons.mpr ⟨m0, (List.forall_mem_cons.mpr ⟨m1, (List.forall_mem_cons.mpr ⟨m2, (fun _ h => absurd h List.not_mem_nil)⟩)⟩)⟩)
def nX11_putIn (x1 : Int) (h : HH) : Option ((Int ⊕ Nat) × HU) := bX11_putIn nX11_needParcel nX6_canTake nX11_needState nX7_findPlace nX11_putIn_42 x1 h
theorem wX11_putIn {g : SG} (hg : GOK g) {σ0 : SG} : ∀ {x1 : Int} {h : HH} {b : ((Int ⊕ Nat) × HU)}, nX11_putIn x1 h = some b → WK 125 (oT (fun r => some (aI r)) b.1) σ0 (abU 2 70 g b.2) 0 [(0, aR 2), (1, aI x1)] [] (abU 2 70 g (h, 0)) (cnU (h, 0)).1 (cnU (h, 0)).2 := by
  intro x1 h b q
  exact uX11_putIn hg (fun _ _ _ _ _ q => wX11_putIn_42 hg q) q
theorem mX11_putIn {g : SG} (hg : GOK g) {h : HH} {x1 : Int} {b : ((Int ⊕ Nat) × HU)} (q : nX11_putIn x1 h = some b) : MCT 125 [] [aR 2, aI x1] (abU 2 70 g (h, 0)) (oT (fun r => some (aI r)) b.1) (abU 2 70 g b.2) :=
  mct_of (by decide) (MFok 125 (by decide +kernel)) (fun _ => Nat.le_of_ble_eq_true rfl) (wX11_putIn hg q)
def pX11_putIn {β : Type} (z : Int → HH → Option ((Int ⊕ Nat) × HU)) (rc : Nat) : PT β := fun as s f => skC 2 as fun as => skI as fun x1 as => skE as (liTT rc 7 (fun r => some (aI r)) s (z x1 s.1) f)
theorem pX11_putIn_ok {β : Type} {g : SG} (hg : GOK g) {rc rs : Nat} (hrs : 6 * rc ≤ rs) : CLK1 (β := β) 125 (pX11_putIn nX11_putIn rc) (abU 2 70 g) cnU rc rs := fun as s f b q => by
  obtain ⟨as, rfl, q1⟩ := skC_of q
  obtain ⟨x1, as, rfl, q2⟩ := skI_of q1
  obtain ⟨rfl, q0⟩ := skE_of q2
  exact liTT_ok q0 (by decide) (fun _ e => mX11_putIn hg e) rfl rfl hrs
def csX11_putInCost : List (Nat × List (Nat × ARow)) := [(100000, [(0, 1, .aload_n 0, 0, 0, 0), (1, 1, .iload_n 1, 0, 0, 0), (2, 3, .invokevirtual 149, 156, 2, 11), (5, 1, .aload_n 0, 0, 0, 0), (6, 3, .getfield 30, 11, 2, 2), (9, 1, .iload_n 1, 0, 0, 0), (10, 3, .invokevirtual 183, 50, 2, 6), (13, 3, .invokestatic 122, 161, 1, 0), (16, 1, .aload_n 0, 0, 0, 0), (17, 3, .getfield 46, 11, 4, 2), (20, 1, .iload_n 1, 0, 0, 0), (21, 3, .invokevirtual 226, 64, 2, 7), (24, 1, .aload_n 0, 0, 0, 0), (25, 3, .getfield 46, 11, 4, 2), (28, 3, .getfield 229, 7, 7, 0), (31, 1, .iconst (-1), 0, 0, 0), (32, 3, .if_icmp .ne 7, 39, 0, 0), (35, 1, .iconst (-1), 0, 0, 0), (36, 3, .goto 10, 46, 0, 0), (39, 1, .aload_n 0, 0, 0, 0), (40, 3, .getfield 46, 11, 4, 2), (43, 3, .getfield 238, 7, 9, 0), (46, 1, .ireturn, 0, 0, 0)])]
theorem rwX11_putInCost : rowsB (mB 126) (mO 126) (mX 126) (mIni 126) (mFr 126) (mLo 126) (mT 126) csX11_putInCost = true := by decide +kernel
def bX11_putInCost (f156 : Int → HH → Option ((Unit ⊕ Nat) × HU)) (f50 : HH → Int → Option Int) (f161 : Int → HH → Option ((Unit ⊕ Nat) × HU)) (f64 : Int → HH → Option HH) (x1 : Int) (h : HH) : Option ((Int ⊕ Nat) × HU) :=
  bnd (f156 x1 h) fun r1 => gd (0 + 2 ≤ 4) <| tcase r1.1 (fun _ =>
    gd ((0 + 2) ≤ 4) <|
    bnd (f50 r1.2.1 x1) fun r3 =>
    bnd (f161 r3 r1.2.1) fun r4 => gd ((0 + 2) + 1 ≤ 4) <| tcase r4.1 (fun _ =>
    gd (((0 + 2) + 1) ≤ 4) <|
    bnd (f64 x1 r4.2.1) fun r6 =>
    if (r6.1 34 7) = ((-1) : Int) then
    gd (((0 + 2) + 1) ≤ 4) (some (.inl (-1), (r6, ((0 + 2) + 1))))
  else
    gd (((0 + 2) + 1) ≤ 4) (some (.inl (r6.1 34 9), (r6, ((0 + 2) + 1))))) (fun e => gd (((0 + 2) + 1) + 1 ≤ 4) (some (.inr e, (r4.2.1, ((0 + 2) + 1)))))) (fun e => gd ((0 + 2) + 1 ≤ 4) (some (.inr e, (r1.2.1, (0 + 2)))))
theorem uX11_putInCost {g : SG} (hg : GOK g) {σ0 : SG} : ∀ {x1 : Int} {h : HH} {b : ((Int ⊕ Nat) × HU)}, bX11_putInCost nX11_needParcel nX6_canTake nX11_needState nX7_findPlace x1 h = some b → WK 126 (oT (fun r => some (aI r)) b.1) σ0 (abU 2 70 g b.2) 0 [(0, aR 2), (1, aI x1)] [] (abU 2 70 g (h, 0)) (cnU (h, 0)).1 (cnU (h, 0)).2 := by
  intro x1 h b q
  have e : ∀ (f156 : Int → HH → Option ((Unit ⊕ Nat) × HU)) (f50 : HH → Int → Option Int) (f161 : Int → HH → Option ((Unit ⊕ Nat) × HU)) (f64 : Int → HH → Option HH) , bX11_putInCost f156 f50 f161 f64 x1 h = segT 2 70 g.2.2.2.2 (krTI 4) (kxT 4) (clC 156 (pX11_needParcel f156 4) (clC 50 (guT 4 (liWT (liPW (pX6_canTake f50)))) (clC 161 (pX11_needState f161 4) (clC 64 (guT 4 (liWT (pX7_findPlace f64))) clN)))) csX11_putInCost cuN 1000 0 [(0, aR 2), (1, aI x1)] [] (h, 0) := fun _ _ _ _ => rfl
  rw [e nX11_needParcel nX6_canTake nX11_needState nX7_findPlace] at q
  clear e
  refine segT_wk (by decide) (by decide) hg rwX11_putInCost (CLK_C (pX11_needParcel_ok hg (by decide)) (CLK_C (liWT_ck (liPW_ok (pX6_canTake_ok hg)) (by decide)) (CLK_C (pX11_needState_ok hg (by decide)) (CLK_C (liWT_ck (pX7_findPlace_ok hg) (by decide)) CLK_N)))) (by decide) (krTI_ok (by decide)) (kxT_ok (by decide)) ?_ q
  clear q
  exact ct_N
def nX11_putInCost (x1 : Int) (h : HH) : Option ((Int ⊕ Nat) × HU) := bX11_putInCost nX11_needParcel nX6_canTake nX11_needState nX7_findPlace x1 h
theorem wX11_putInCost {g : SG} (hg : GOK g) {σ0 : SG} : ∀ {x1 : Int} {h : HH} {b : ((Int ⊕ Nat) × HU)}, nX11_putInCost x1 h = some b → WK 126 (oT (fun r => some (aI r)) b.1) σ0 (abU 2 70 g b.2) 0 [(0, aR 2), (1, aI x1)] [] (abU 2 70 g (h, 0)) (cnU (h, 0)).1 (cnU (h, 0)).2 := by
  intro x1 h b q
  exact uX11_putInCost hg q
theorem mX11_putInCost {g : SG} (hg : GOK g) {h : HH} {x1 : Int} {b : ((Int ⊕ Nat) × HU)} (q : nX11_putInCost x1 h = some b) : MCT 126 [] [aR 2, aI x1] (abU 2 70 g (h, 0)) (oT (fun r => some (aI r)) b.1) (abU 2 70 g b.2) :=
  mct_of (by decide) (MFok 126 (by decide +kernel)) (fun _ => Nat.le_of_ble_eq_true rfl) (wX11_putInCost hg q)
def pX11_putInCost {β : Type} (z : Int → HH → Option ((Int ⊕ Nat) × HU)) (rc : Nat) : PT β := fun as s f => skC 2 as fun as => skI as fun x1 as => skE as (liTT rc 4 (fun r => some (aI r)) s (z x1 s.1) f)
theorem pX11_putInCost_ok {β : Type} {g : SG} (hg : GOK g) {rc rs : Nat} (hrs : 6 * rc ≤ rs) : CLK1 (β := β) 126 (pX11_putInCost nX11_putInCost rc) (abU 2 70 g) cnU rc rs := fun as s f b q => by
  obtain ⟨as, rfl, q1⟩ := skC_of q
  obtain ⟨x1, as, rfl, q2⟩ := skI_of q1
  obtain ⟨rfl, q0⟩ := skE_of q2
  exact liTT_ok q0 (by decide) (fun _ e => mX11_putInCost hg e) rfl rfl hrs
def csX11_better : List (Nat × List (Nat × ARow)) := [(47, [(0, 1, .aload_n 0, 0, 0, 0), (1, 1, .iload_n 1, 0, 0, 0), (2, 3, .invokevirtual 174, 157, 2, 11), (5, 1, .aload_n 0, 0, 0, 0), (6, 3, .getfield 37, 11, 3, 2), (9, 1, .aload_n 0, 0, 0, 0), (10, 3, .getfield 30, 11, 2, 2), (13, 3, .invokevirtual 215, 32, 2, 3), (16, 1, .aload_n 0, 0, 0, 0), (17, 3, .getfield 30, 11, 2, 2), (20, 1, .iload_n 1, 0, 0, 0), (21, 3, .invokevirtual 241, 57, 2, 6), (24, 1, .istore_n 2, 0, 0, 0), (25, 1, .iconst 0, 0, 0, 0), (26, 1, .istore_n 3, 0, 0, 0), (27, 1, .iload_n 3, 0, 0, 0), (28, 2, .ldc 244, 1000000, 0, 0), (30, 3, .if_icmp .ge 20, 50, 0, 0), (33, 1, .aload_n 0, 0, 0, 0), (34, 3, .getfield 46, 11, 4, 2), (37, 1, .iload_n 1, 0, 0, 0), (38, 3, .invokevirtual 245, 65, 2, 7), (41, 3, .ifCond .eq 9, 50, 0, 0), (44, 3, .iinc 3 1, 0, 0, 0)]),
  (100000, [(47, 3, .goto (-20), 27, 0, 0), (50, 1, .iload_n 2, 0, 0, 0), (51, 1, .aload_n 0, 0, 0, 0), (52, 3, .getfield 30, 11, 2, 2), (55, 1, .iload_n 1, 0, 0, 0), (56, 3, .invokevirtual 241, 57, 2, 6), (59, 1, .isub, 0, 0, 0), (60, 1, .ireturn, 0, 0, 0)])]
theorem rwX11_better : rowsB (mB 127) (mO 127) (mX 127) (mIni 127) (mFr 127) (mLo 127) (mT 127) csX11_better = true := by decide +kernel
def bX11_better_50 (f57 : HH → Int → Option Int) (x1 : Int) (x2 : Int) (s : HU) : Option ((Int ⊕ Nat) × HU) :=
  gd (s.2 ≤ 3) <|
    bnd (f57 s.1 x1) fun r1 =>
    gd (R32 (x2 - r1)) <|
    gd (s.2 ≤ 3) (some (.inl (x2 - r1), s))
theorem uX11_better_50 {g : SG} (hg : GOK g) {σ0 : SG} : ∀ {x1 : Int} {x2 : Int} {s : HU} {b : ((Int ⊕ Nat) × HU)}, bX11_better_50 nX6_costNow x1 x2 s = some b → WK 127 (oT (fun r => some (aI r)) b.1) σ0 (abU 2 70 g b.2) 50 [(0, aR 2), (1, aI x1), (2, aI x2)] [] (abU 2 70 g s) (cnU s).1 (cnU s).2 := by
  intro x1 x2 s b q
  have e : ∀ (f57 : HH → Int → Option Int) , bX11_better_50 f57 x1 x2 s = segT 2 70 g.2.2.2.2 (krTI 3) (kxT 3) (clC 57 (guT 3 (liWT (liPW (pX6_costNow f57)))) clN) csX11_better cuN 1000 50 [(0, aR 2), (1, aI x1), (2, aI x2)] [] s := fun _ => rfl
  rw [e nX6_costNow] at q
  clear e
  refine segT_wk (by decide) (by decide) hg rwX11_better (CLK_C (liWT_ck (liPW_ok (pX6_costNow_ok hg)) (by decide)) CLK_N) (by decide) (krTI_ok (by decide)) (kxT_ok (by decide)) ?_ q
  clear q
  exact ct_N
def nX11_better_50 (x1 : Int) (x2 : Int) (s : HU) : Option ((Int ⊕ Nat) × HU) := bX11_better_50 nX6_costNow x1 x2 s
theorem wX11_better_50 {g : SG} (hg : GOK g) {σ0 : SG} : ∀ {x1 : Int} {x2 : Int} {s : HU} {b : ((Int ⊕ Nat) × HU)}, nX11_better_50 x1 x2 s = some b → WK 127 (oT (fun r => some (aI r)) b.1) σ0 (abU 2 70 g b.2) 50 [(0, aR 2), (1, aI x1), (2, aI x2)] [] (abU 2 70 g s) (cnU s).1 (cnU s).2 := by
  intro x1 x2 s b q
  exact uX11_better_50 hg q
def bX11_better_27 (f65 : Int → HH → Option (Int × HH)) (c27 : Int → Int → Int → HU → Option ((Int ⊕ Nat) × HU)) (c50 : Int → Int → HU → Option ((Int ⊕ Nat) × HU)) (x1 : Int) (x2 : Int) (x3 : Int) (s : HU) : Option ((Int ⊕ Nat) × HU) :=
  if x3 < (1000000 : Int) then
    gd (s.2 ≤ 3) <|
    bnd (f65 x1 s.1) fun r1 =>
    if r1.1 = (0 : Int) then
    c50 x1 x2 (r1.2, s.2)
  else
    gd (R32 (x3 + 1)) <|
    c27 x1 x2 (x3 + 1) (r1.2, s.2)
  else
    c50 x1 x2 s
theorem uX11_better_27 {g : SG} (hg : GOK g) {σ0 : SG} {c27 : Int → Int → Int → HU → Option ((Int ⊕ Nat) × HU)} {c50 : Int → Int → HU → Option ((Int ⊕ Nat) × HU)} (k27 : ∀ (x1 : Int) (x2 : Int) (x3 : Int) (s : HU) (b : ((Int ⊕ Nat) × HU)), c27 x1 x2 x3 s = some b → WK 127 (oT (fun r => some (aI r)) b.1) σ0 (abU 2 70 g b.2) 27 [(0, aR 2), (1, aI x1), (2, aI x2), (3, aI x3)] [] (abU 2 70 g s) (cnU s).1 (cnU s).2) (k50 : ∀ (x1 : Int) (x2 : Int) (s : HU) (b : ((Int ⊕ Nat) × HU)), c50 x1 x2 s = some b → WK 127 (oT (fun r => some (aI r)) b.1) σ0 (abU 2 70 g b.2) 50 [(0, aR 2), (1, aI x1), (2, aI x2)] [] (abU 2 70 g s) (cnU s).1 (cnU s).2) : ∀ {x1 : Int} {x2 : Int} {x3 : Int} {s : HU} {b : ((Int ⊕ Nat) × HU)}, bX11_better_27 nX7_makeBestMove c27 c50 x1 x2 x3 s = some b → WK 127 (oT (fun r => some (aI r)) b.1) σ0 (abU 2 70 g b.2) 27 [(0, aR 2), (1, aI x1), (2, aI x2), (3, aI x3)] [] (abU 2 70 g s) (cnU s).1 (cnU s).2 := by
  intro x1 x2 x3 s b q
  have e : ∀ (f65 : Int → HH → Option (Int × HH)) , bX11_better_27 f65 c27 c50 x1 x2 x3 s = segT 2 70 g.2.2.2.2 (krTI 3) (kxT 3) (clC 65 (guT 3 (liWT (pX7_makeBestMove f65))) clN) csX11_better (cuC 27 (fun l st s => tkC 0 2 l <| tkI 1 l fun x1 => tkI 2 l fun x2 => tkI 3 l fun x3 => skE st (c27 x1 x2 x3 s)) (cuC 50 (fun l st s => tkC 0 2 l <| tkI 1 l fun x1 => tkI 2 l fun x2 => skE st (c50 x1 x2 s)) cuN)) 1000 27 [(0, aR 2), (1, aI x1), (2, aI x2), (3, aI x3)] [] s := fun _ => rfl
  rw [e nX7_makeBestMove] at q
  clear e
  refine segT_wk (by decide) (by decide) hg rwX11_better (CLK_C (liWT_ck (pX7_makeBestMove_ok hg) (by decide)) CLK_N) (by decide) (krTI_ok (by decide)) (kxT_ok (by decide)) ?_ q
  clear q
  refine ct_C ?_ (ct_C ?_ (ct_N))
  · intro l st s q
    obtain ⟨m0, q1⟩ := tkC_of q
    obtain ⟨x1, m1, q2⟩ := tkI_of q1
    obtain ⟨x2, m2, q3⟩ := tkI_of q2
    obtain ⟨x3, m3, q4⟩ := tkI_of q3
    obtain ⟨rfl, q5⟩ := skE_of q4
    exact WK_less (k27 _ _ _ _ _ q5) (List.forall_mem_cons.mpr ⟨m0, (List.forall_mem_cons.mpr ⟨m1, (List.forall_mem_cons.mpr ⟨m2, (List.forall_mem_cons.mpr ⟨m3, (fun _ h => absurd h List.not_mem_nil)⟩)⟩)⟩)⟩)
  · intro l st s q
    obtain ⟨m0, q1⟩ := tkC_of q
    obtain ⟨x1, m1, q2⟩ := tkI_of q1
    obtain ⟨x2, m2, q3⟩ := tkI_of q2
    obtain ⟨rfl, q4⟩ := skE_of q3
    exact WK_less (k50 _ _ _ _ q4) (List.forall_mem_cons.mpr ⟨m0, (List.forall_mem_cons.mpr ⟨m1, (List.forall_mem_cons.mpr ⟨m2, (fun _ h => absurd h List.not_mem_nil)⟩)⟩)⟩)
def nX11_better_27 : Nat → Int → Int → Int → HU → Option ((Int ⊕ Nat) × HU) := iter (fun _ _ _ _ => none) (fun self => bX11_better_27 nX7_makeBestMove self nX11_better_50)
theorem nX11_better_27_s {F : Nat} : nX11_better_27 (F + 1) = bX11_better_27 nX7_makeBestMove (nX11_better_27 F) nX11_better_50 := rfl
theorem wX11_better_27 {g : SG} (hg : GOK g) {σ0 : SG} : ∀ {F : Nat}, ∀ {x1 : Int} {x2 : Int} {x3 : Int} {s : HU} {b : ((Int ⊕ Nat) × HU)}, nX11_better_27 F x1 x2 x3 s = some b → WK 127 (oT (fun r => some (aI r)) b.1) σ0 (abU 2 70 g b.2) 27 [(0, aR 2), (1, aI x1), (2, aI x2), (3, aI x3)] [] (abU 2 70 g s) (cnU s).1 (cnU s).2 := by
  intro F
  have z : ∀ (x1 : Int) (x2 : Int) (x3 : Int) (s : HU) (b : ((Int ⊕ Nat) × HU)), nX11_better_27 F x1 x2 x3 s = some b → WK 127 (oT (fun r => some (aI r)) b.1) σ0 (abU 2 70 g b.2) 27 [(0, aR 2), (1, aI x1), (2, aI x2), (3, aI x3)] [] (abU 2 70 g s) (cnU s).1 (cnU s).2 := iter_ind (P := fun (c : Int → Int → Int → HU → Option ((Int ⊕ Nat) × HU)) => ∀ (x1 : Int) (x2 : Int) (x3 : Int) (s : HU) (b : ((Int ⊕ Nat) × HU)), c x1 x2 x3 s = some b → WK 127 (oT (fun r => some (aI r)) b.1) σ0 (abU 2 70 g b.2) 27 [(0, aR 2), (1, aI x1), (2, aI x2), (3, aI x3)] [] (abU 2 70 g s) (cnU s).1 (cnU s).2) (by
    intro x1 x2 x3 s b q
    cases q) (fun self ih => by
    intro x1 x2 x3 s b q
    exact uX11_better_27 hg ih (fun _ _ _ _ q => wX11_better_50 hg q) q) F
  intro x1 x2 x3 s b q
  exact z _ _ _ _ _ q
def bX11_better (f157 : Int → HH → Option ((Unit ⊕ Nat) × HU)) (f32 : HH → Option HH) (f57 : HH → Int → Option Int) (c27 : Int → Int → Int → HU → Option ((Int ⊕ Nat) × HU)) (x1 : Int) (h : HH) : Option ((Int ⊕ Nat) × HU) :=
  bnd (f157 x1 h) fun r1 => gd (0 + 2 ≤ 3) <| tcase r1.1 (fun _ =>
    gd ((0 + 2) ≤ 3) <|
    bnd (f32 r1.2.1) fun r3 =>
    gd ((0 + 2) ≤ 3) <|
    bnd (f57 r3 x1) fun r4 =>
    c27 x1 r4 0 (r3, (0 + 2))) (fun e => gd ((0 + 2) + 1 ≤ 3) (some (.inr e, (r1.2.1, (0 + 2)))))
theorem uX11_better {g : SG} (hg : GOK g) {σ0 : SG} {c27 : Int → Int → Int → HU → Option ((Int ⊕ Nat) × HU)} (k27 : ∀ (x1 : Int) (x2 : Int) (x3 : Int) (s : HU) (b : ((Int ⊕ Nat) × HU)), c27 x1 x2 x3 s = some b → WK 127 (oT (fun r => some (aI r)) b.1) σ0 (abU 2 70 g b.2) 27 [(0, aR 2), (1, aI x1), (2, aI x2), (3, aI x3)] [] (abU 2 70 g s) (cnU s).1 (cnU s).2) : ∀ {x1 : Int} {h : HH} {b : ((Int ⊕ Nat) × HU)}, bX11_better nX11_needVan nX3_remember nX6_costNow c27 x1 h = some b → WK 127 (oT (fun r => some (aI r)) b.1) σ0 (abU 2 70 g b.2) 0 [(0, aR 2), (1, aI x1)] [] (abU 2 70 g (h, 0)) (cnU (h, 0)).1 (cnU (h, 0)).2 := by
  intro x1 h b q
  have e : ∀ (f157 : Int → HH → Option ((Unit ⊕ Nat) × HU)) (f32 : HH → Option HH) (f57 : HH → Int → Option Int) , bX11_better f157 f32 f57 c27 x1 h = segT 2 70 g.2.2.2.2 (krTI 3) (kxT 3) (clC 157 (pX11_needVan f157 3) (clC 32 (guT 3 (liWT (pX3_remember f32))) (clC 57 (guT 3 (liWT (liPW (pX6_costNow f57)))) clN))) csX11_better (cuC 27 (fun l st s => tkC 0 2 l <| tkI 1 l fun x1 => tkI 2 l fun x2 => tkI 3 l fun x3 => skE st (c27 x1 x2 x3 s)) cuN) 1000 0 [(0, aR 2), (1, aI x1)] [] (h, 0) := fun _ _ _ => rfl
  rw [e nX11_needVan nX3_remember nX6_costNow] at q
  clear e
  refine segT_wk (by decide) (by decide) hg rwX11_better (CLK_C (pX11_needVan_ok hg (by decide)) (CLK_C (liWT_ck (pX3_remember_ok hg) (by decide)) (CLK_C (liWT_ck (liPW_ok (pX6_costNow_ok hg)) (by decide)) CLK_N))) (by decide) (krTI_ok (by decide)) (kxT_ok (by decide)) ?_ q
  clear q
  refine ct_C ?_ (ct_N)
  · intro l st s q
    obtain ⟨m0, q1⟩ := tkC_of q
    obtain ⟨x1, m1, q2⟩ := tkI_of q1
    obtain ⟨x2, m2, q3⟩ := tkI_of q2
    obtain ⟨x3, m3, q4⟩ := tkI_of q3
    obtain ⟨rfl, q5⟩ := skE_of q4
    exact WK_less (k27 _ _ _ _ _ q5) (List.forall_mem_cons.mpr ⟨m0, (List.forall_mem_cons.mpr ⟨m1, (List.forall_mem_cons.mpr ⟨m2, (List.forall_mem_cons.mpr ⟨m3, (fun _ h => absurd h List.not_mem_nil)⟩)⟩)⟩)⟩)
def nX11_better (x1 : Int) (h : HH) : Option ((Int ⊕ Nat) × HU) := bX11_better nX11_needVan nX3_remember nX6_costNow (nX11_better_27 100000) x1 h
theorem wX11_better {g : SG} (hg : GOK g) {σ0 : SG} : ∀ {x1 : Int} {h : HH} {b : ((Int ⊕ Nat) × HU)}, nX11_better x1 h = some b → WK 127 (oT (fun r => some (aI r)) b.1) σ0 (abU 2 70 g b.2) 0 [(0, aR 2), (1, aI x1)] [] (abU 2 70 g (h, 0)) (cnU (h, 0)).1 (cnU (h, 0)).2 := by
  intro x1 h b q
  exact uX11_better hg (fun _ _ _ _ _ q => wX11_better_27 hg q) q
theorem mX11_better {g : SG} (hg : GOK g) {h : HH} {x1 : Int} {b : ((Int ⊕ Nat) × HU)} (q : nX11_better x1 h = some b) : MCT 127 [] [aR 2, aI x1] (abU 2 70 g (h, 0)) (oT (fun r => some (aI r)) b.1) (abU 2 70 g b.2) :=
  mct_of (by decide) (MFok 127 (by decide +kernel)) (fun _ => Nat.le_of_ble_eq_true rfl) (wX11_better hg q)
def pX11_better {β : Type} (z : Int → HH → Option ((Int ⊕ Nat) × HU)) (rc : Nat) : PT β := fun as s f => skC 2 as fun as => skI as fun x1 as => skE as (liTT rc 3 (fun r => some (aI r)) s (z x1 s.1) f)
theorem pX11_better_ok {β : Type} {g : SG} (hg : GOK g) {rc rs : Nat} (hrs : 6 * rc ≤ rs) : CLK1 (β := β) 127 (pX11_better nX11_better rc) (abU 2 70 g) cnU rc rs := fun as s f b q => by
  obtain ⟨as, rfl, q1⟩ := skC_of q
  obtain ⟨x1, as, rfl, q2⟩ := skI_of q1
  obtain ⟨rfl, q0⟩ := skE_of q2
  exact liTT_ok q0 (by decide) (fun _ e => mX11_better hg e) rfl rfl hrs
def csX11_chooseRound : List (Nat × List (Nat × ARow)) := [(100000, [(0, 1, .aload_n 0, 0, 0, 0), (1, 3, .getfield 53, 11, 5, 2), (4, 3, .invokevirtual 401, 11, 1, 1), (7, 1, .iconst 0, 0, 0, 0), (8, 1, .istore_n 2, 0, 0, 0), (9, 1, .iload_n 2, 0, 0, 0), (10, 1, .aload_n 0, 0, 0, 0), (11, 3, .getfield 21, 11, 1, 2), (14, 3, .getfield 143, 2, 10, 0), (17, 3, .if_icmp .ge 29, 46, 0, 0), (20, 1, .aload_n 0, 0, 0, 0), (21, 3, .getfield 30, 11, 2, 2), (24, 1, .iload_n 2, 0, 0, 0), (25, 3, .invokevirtual 152, 49, 2, 6), (28, 1, .iload_n 1, 0, 0, 0), (29, 3, .if_icmp .ne 11, 40, 0, 0), (32, 1, .aload_n 0, 0, 0, 0), (33, 3, .getfield 53, 11, 5, 2), (36, 1, .iload_n 2, 0, 0, 0), (37, 3, .invokevirtual 404, 12, 2, 1), (40, 3, .iinc 2 1, 0, 0, 0), (43, 3, .goto (-34), 9, 0, 0), (46, 1, .return_, 0, 0, 0)])]
theorem rwX11_chooseRound : rowsB (mB 164) (mO 164) (mX 164) (mIni 164) (mFr 164) (mLo 164) (mT 164) csX11_chooseRound = true := by decide +kernel
def bX11_chooseRound_40 (c9 : Int → Int → HH → Option HH) (x1 : Int) (x2 : Int) (h : HH) : Option HH :=
  gd (R32 (x2 + 1)) <|
    c9 x1 (x2 + 1) h
theorem uX11_chooseRound_40 {g : SG} (hg : GOK g) {σ0 : SG} {c9 : Int → Int → HH → Option HH} (k9 : ∀ (x1 : Int) (x2 : Int) (h : HH) (b : HH), c9 x1 x2 h = some b → WK 164 (.inl none) σ0 (abH 2 70 g b) 9 [(0, aR 2), (1, aI x1), (2, aI x2)] [] (abH 2 70 g h) 0 0) : ∀ {x1 : Int} {x2 : Int} {h : HH} {b : HH}, bX11_chooseRound_40 c9 x1 x2 h = some b → WK 164 (.inl none) σ0 (abH 2 70 g b) 40 [(0, aR 2), (1, aI x1), (2, aI x2)] [] (abH 2 70 g h) 0 0 := by
  intro x1 x2 h b q
  have e : bX11_chooseRound_40 c9 x1 x2 h = segW 2 70 g.2.2.2.2 krWV clN csX11_chooseRound (cuC 9 (fun l st s => tkC 0 2 l <| tkI 1 l fun x1 => tkI 2 l fun x2 => skE st (c9 x1 x2 s)) cuN) 1000 40 [(0, aR 2), (1, aI x1), (2, aI x2)] [] h := rfl
  rw [e] at q
  clear e
  refine segW_wk (by decide) (by decide) hg rwX11_chooseRound CLKW_N krWV_ok ?_ q
  clear q
  refine ct_C ?_ (ct_N)
  · intro l st h q
    obtain ⟨m0, q1⟩ := tkC_of q
    obtain ⟨x1, m1, q2⟩ := tkI_of q1
    obtain ⟨x2, m2, q3⟩ := tkI_of q2
    obtain ⟨rfl, q4⟩ := skE_of q3
    exact WK_less (k9 _ _ _ _ q4) (List.forall_mem_cons.mpr ⟨m0, (List.forall_mem_cons.mpr ⟨m1, (List.forall_mem_cons.mpr ⟨m2, (fun _ h => absurd h List.not_mem_nil)⟩)⟩)⟩)
def nX11_chooseRound_40 (c9 : Int → Int → HH → Option HH) (x1 : Int) (x2 : Int) (h : HH) : Option HH := bX11_chooseRound_40 c9 x1 x2 h
theorem wX11_chooseRound_40 {g : SG} (hg : GOK g) {σ0 : SG} {c9 : Int → Int → HH → Option HH} (k9 : ∀ (x1 : Int) (x2 : Int) (h : HH) (b : HH), c9 x1 x2 h = some b → WK 164 (.inl none) σ0 (abH 2 70 g b) 9 [(0, aR 2), (1, aI x1), (2, aI x2)] [] (abH 2 70 g h) 0 0) : ∀ {x1 : Int} {x2 : Int} {h : HH} {b : HH}, nX11_chooseRound_40 c9 x1 x2 h = some b → WK 164 (.inl none) σ0 (abH 2 70 g b) 40 [(0, aR 2), (1, aI x1), (2, aI x2)] [] (abH 2 70 g h) 0 0 := by
  intro x1 x2 h b q
  exact uX11_chooseRound_40 hg k9 q
def bX11_chooseRound_9 (f49 : HH → Int → Option Int) (f12 : Int → HH → Option HH) (c40 : Int → Int → HH → Option HH) (x1 : Int) (x2 : Int) (h : HH) : Option HH :=
  if x2 < ((h.1 13 10) : Int) then
    bnd (f49 h x2) fun r1 =>
    if r1 = (x1 : Int) then
    bnd (f12 x2 h) fun r2 =>
    c40 x1 x2 r2
  else
    c40 x1 x2 h
  else
    some h
theorem uX11_chooseRound_9 {g : SG} (hg : GOK g) {σ0 : SG} {c40 : Int → Int → HH → Option HH} (k40 : ∀ (x1 : Int) (x2 : Int) (h : HH) (b : HH), c40 x1 x2 h = some b → WK 164 (.inl none) σ0 (abH 2 70 g b) 40 [(0, aR 2), (1, aI x1), (2, aI x2)] [] (abH 2 70 g h) 0 0) : ∀ {x1 : Int} {x2 : Int} {h : HH} {b : HH}, bX11_chooseRound_9 nX6_vanWith nX1_choose c40 x1 x2 h = some b → WK 164 (.inl none) σ0 (abH 2 70 g b) 9 [(0, aR 2), (1, aI x1), (2, aI x2)] [] (abH 2 70 g h) 0 0 := by
  intro x1 x2 h b q
  have e : ∀ (f49 : HH → Int → Option Int) (f12 : Int → HH → Option HH) , bX11_chooseRound_9 f49 f12 c40 x1 x2 h = segW 2 70 g.2.2.2.2 krWV (clC 49 (liPW (pX6_vanWith f49)) (clC 12 (pX1_choose f12) clN)) csX11_chooseRound (cuC 40 (fun l st s => tkC 0 2 l <| tkI 1 l fun x1 => tkI 2 l fun x2 => skE st (c40 x1 x2 s)) cuN) 1000 9 [(0, aR 2), (1, aI x1), (2, aI x2)] [] h := fun _ _ => rfl
  rw [e nX6_vanWith nX1_choose] at q
  clear e
  refine segW_wk (by decide) (by decide) hg rwX11_chooseRound (CLKW_C (liPW_ok (pX6_vanWith_ok hg)) (CLKW_C (pX1_choose_ok hg) CLKW_N)) krWV_ok ?_ q
  clear q
  refine ct_C ?_ (ct_N)
  · intro l st h q
    obtain ⟨m0, q1⟩ := tkC_of q
    obtain ⟨x1, m1, q2⟩ := tkI_of q1
    obtain ⟨x2, m2, q3⟩ := tkI_of q2
    obtain ⟨rfl, q4⟩ := skE_of q3
    exact WK_less (k40 _ _ _ _ q4) (List.forall_mem_cons.mpr ⟨m0, (List.forall_mem_cons.mpr ⟨m1, (List.forall_mem_cons.mpr ⟨m2, (fun _ h => absurd h List.not_mem_nil)⟩)⟩)⟩)
def nX11_chooseRound_9 : Nat → Int → Int → HH → Option HH := iter (fun _ _ _ => none) (fun self => bX11_chooseRound_9 nX6_vanWith nX1_choose (nX11_chooseRound_40 self))
theorem nX11_chooseRound_9_s {F : Nat} : nX11_chooseRound_9 (F + 1) = bX11_chooseRound_9 nX6_vanWith nX1_choose (nX11_chooseRound_40 (nX11_chooseRound_9 F)) := rfl
theorem wX11_chooseRound_9 {g : SG} (hg : GOK g) {σ0 : SG} : ∀ {F : Nat}, ∀ {x1 : Int} {x2 : Int} {h : HH} {b : HH}, nX11_chooseRound_9 F x1 x2 h = some b → WK 164 (.inl none) σ0 (abH 2 70 g b) 9 [(0, aR 2), (1, aI x1), (2, aI x2)] [] (abH 2 70 g h) 0 0 := by
  intro F
  have z : ∀ (x1 : Int) (x2 : Int) (h : HH) (b : HH), nX11_chooseRound_9 F x1 x2 h = some b → WK 164 (.inl none) σ0 (abH 2 70 g b) 9 [(0, aR 2), (1, aI x1), (2, aI x2)] [] (abH 2 70 g h) 0 0 := iter_ind (P := fun (c : Int → Int → HH → Option HH) => ∀ (x1 : Int) (x2 : Int) (h : HH) (b : HH), c x1 x2 h = some b → WK 164 (.inl none) σ0 (abH 2 70 g b) 9 [(0, aR 2), (1, aI x1), (2, aI x2)] [] (abH 2 70 g h) 0 0) (by
    intro x1 x2 h b q
    cases q) (fun self ih => by
    intro x1 x2 h b q
    exact uX11_chooseRound_9 hg (fun _ _ _ _ q => wX11_chooseRound_40 hg ih q) q) F
  intro x1 x2 h b q
  exact z _ _ _ _ q
def bX11_chooseRound (f11 : HH → Option HH) (c9 : Int → Int → HH → Option HH) (x1 : Int) (h : HH) : Option HH :=
  bnd (f11 h) fun r1 =>
    c9 x1 0 r1
theorem uX11_chooseRound {g : SG} (hg : GOK g) {σ0 : SG} {c9 : Int → Int → HH → Option HH} (k9 : ∀ (x1 : Int) (x2 : Int) (h : HH) (b : HH), c9 x1 x2 h = some b → WK 164 (.inl none) σ0 (abH 2 70 g b) 9 [(0, aR 2), (1, aI x1), (2, aI x2)] [] (abH 2 70 g h) 0 0) : ∀ {x1 : Int} {h : HH} {b : HH}, bX11_chooseRound nX1_chooseNone c9 x1 h = some b → WK 164 (.inl none) σ0 (abH 2 70 g b) 0 [(0, aR 2), (1, aI x1)] [] (abH 2 70 g h) 0 0 := by
  intro x1 h b q
  have e : ∀ (f11 : HH → Option HH) , bX11_chooseRound f11 c9 x1 h = segW 2 70 g.2.2.2.2 krWV (clC 11 (pX1_chooseNone f11) clN) csX11_chooseRound (cuC 9 (fun l st s => tkC 0 2 l <| tkI 1 l fun x1 => tkI 2 l fun x2 => skE st (c9 x1 x2 s)) cuN) 1000 0 [(0, aR 2), (1, aI x1)] [] h := fun _ => rfl
  rw [e nX1_chooseNone] at q
  clear e
  refine segW_wk (by decide) (by decide) hg rwX11_chooseRound (CLKW_C (pX1_chooseNone_ok hg) CLKW_N) krWV_ok ?_ q
  clear q
  refine ct_C ?_ (ct_N)
  · intro l st h q
    obtain ⟨m0, q1⟩ := tkC_of q
    obtain ⟨x1, m1, q2⟩ := tkI_of q1
    obtain ⟨x2, m2, q3⟩ := tkI_of q2
    obtain ⟨rfl, q4⟩ := skE_of q3
    exact WK_less (k9 _ _ _ _ q4) (List.forall_mem_cons.mpr ⟨m0, (List.forall_mem_cons.mpr ⟨m1, (List.forall_mem_cons.mpr ⟨m2, (fun _ h => absurd h List.not_mem_nil)⟩)⟩)⟩)
def nX11_chooseRound (x1 : Int) (h : HH) : Option HH := bX11_chooseRound nX1_chooseNone (nX11_chooseRound_9 100000) x1 h
theorem wX11_chooseRound {g : SG} (hg : GOK g) {σ0 : SG} : ∀ {x1 : Int} {h : HH} {b : HH}, nX11_chooseRound x1 h = some b → WK 164 (.inl none) σ0 (abH 2 70 g b) 0 [(0, aR 2), (1, aI x1)] [] (abH 2 70 g h) 0 0 := by
  intro x1 h b q
  exact uX11_chooseRound hg (fun _ _ _ _ q => wX11_chooseRound_9 hg q) q
theorem mX11_chooseRound {g : SG} (hg : GOK g) {h : HH} {x1 : Int} {b : HH} (q : nX11_chooseRound x1 h = some b) : MCT 164 [] [aR 2, aI x1] (abH 2 70 g h) (.inl none) (abH 2 70 g b) :=
  mct_of (by decide) (MFok 164 (by decide +kernel)) (fun _ => Nat.le_of_ble_eq_true rfl) (wX11_chooseRound hg q)
def pX11_chooseRound {β : Type} (z : Int → HH → Option HH) : PW β := fun as h f => skC 2 as fun as => skI as fun x1 as => skE as (bnd (z x1 h) fun r => f (.inl none) r)
theorem pX11_chooseRound_ok {β : Type} {g : SG} (hg : GOK g) : CW1 (β := β) 164 (pX11_chooseRound nX11_chooseRound) 2 70 g := fun as h f b q => by
  obtain ⟨as, rfl, q1⟩ := skC_of q
  obtain ⟨x1, as, rfl, q2⟩ := skI_of q1
  obtain ⟨rfl, q0⟩ := skE_of q2
  obtain ⟨r, z1, z2⟩ := bnd_of q0
  exact ⟨_, _, z2, by decide, mX11_chooseRound hg z1, rfl, rfl, fun z => absurd z (by decide)⟩
def csX11_exact : List (Nat × List (Nat × ARow)) := [(46, [(0, 1, .aload_n 0, 0, 0, 0), (1, 1, .iload_n 1, 0, 0, 0), (2, 3, .invokevirtual 174, 157, 2, 11), (5, 1, .aload_n 0, 0, 0, 0), (6, 3, .getfield 37, 11, 3, 2), (9, 1, .aload_n 0, 0, 0, 0), (10, 3, .getfield 30, 11, 2, 2), (13, 3, .invokevirtual 215, 32, 2, 3), (16, 1, .aload_n 0, 0, 0, 0), (17, 1, .iload_n 1, 0, 0, 0), (18, 3, .invokevirtual 248, 164, 2, 11), (21, 1, .aload_n 0, 0, 0, 0), (22, 3, .getfield 53, 11, 5, 2), (25, 1, .iload_n 1, 0, 0, 0), (26, 1, .aload_n 0, 0, 0, 0), (27, 3, .getfield 30, 11, 2, 2), (30, 3, .getfield 187, 6, 1, 2), (33, 1, .iload_n 1, 0, 0, 0), (34, 1, .aaload, 0, 0, 0), (35, 3, .invokevirtual 251, 20, 3, 1), (38, 1, .aload_n 0, 0, 0, 0), (39, 3, .getfield 30, 11, 2, 2), (42, 1, .iload_n 1, 0, 0, 0), (43, 3, .invokevirtual 241, 57, 2, 6)]),
  (100000, [(46, 1, .ireturn, 0, 0, 0)])]
theorem rwX11_exact : rowsB (mB 128) (mO 128) (mX 128) (mIni 128) (mFr 128) (mLo 128) (mT 128) csX11_exact = true := by decide +kernel
def bX11_exact (f157 : Int → HH → Option ((Unit ⊕ Nat) × HU)) (f32 : HH → Option HH) (f164 : Int → HH → Option HH) (f20 : Int → Nat → HH → Option HH) (f57 : HH → Int → Option Int) (x1 : Int) (h : HH) : Option ((Int ⊕ Nat) × HU) :=
  bnd (f157 x1 h) fun r1 => gd (0 + 2 ≤ 3) <| tcase r1.1 (fun _ =>
    gd ((0 + 2) ≤ 3) <|
    bnd (f32 r1.2.1) fun r3 =>
    gd ((0 + 2) ≤ 3) <|
    bnd (f164 x1 r3) fun r4 =>
    gd ((0 : Int) ≤ x1 ∧ x1 < (3 : Int)) <|
    bif Nat.beq (rwK 3 28 x1) 0 then none else
    gd ((0 + 2) ≤ 3) <|
    bnd (f20 x1 (rwK 3 28 x1) r4) fun r5 =>
    gd ((0 + 2) ≤ 3) <|
    bnd (f57 r5 x1) fun r6 =>
    gd ((0 + 2) ≤ 3) (some (.inl r6, (r5, (0 + 2))))) (fun e => gd ((0 + 2) + 1 ≤ 3) (some (.inr e, (r1.2.1, (0 + 2)))))
theorem uX11_exact {g : SG} (hg : GOK g) {σ0 : SG} : ∀ {x1 : Int} {h : HH} {b : ((Int ⊕ Nat) × HU)}, bX11_exact nX11_needVan nX3_remember nX11_chooseRound nX1_writeLeast nX6_costNow x1 h = some b → WK 128 (oT (fun r => some (aI r)) b.1) σ0 (abU 2 70 g b.2) 0 [(0, aR 2), (1, aI x1)] [] (abU 2 70 g (h, 0)) (cnU (h, 0)).1 (cnU (h, 0)).2 := by
  intro x1 h b q
  have e : ∀ (f157 : Int → HH → Option ((Unit ⊕ Nat) × HU)) (f32 : HH → Option HH) (f164 : Int → HH → Option HH) (f20 : Int → Nat → HH → Option HH) (f57 : HH → Int → Option Int) , bX11_exact f157 f32 f164 f20 f57 x1 h = segT 2 70 g.2.2.2.2 (krTI 3) (kxT 3) (clC 157 (pX11_needVan f157 3) (clC 32 (guT 3 (liWT (pX3_remember f32))) (clC 164 (guT 3 (liWT (pX11_chooseRound f164))) (clC 20 (guT 3 (liWT (pX1_writeLeast f20))) (clC 57 (guT 3 (liWT (liPW (pX6_costNow f57)))) clN))))) csX11_exact cuN 1000 0 [(0, aR 2), (1, aI x1)] [] (h, 0) := fun _ _ _ _ _ => rfl
  rw [e nX11_needVan nX3_remember nX11_chooseRound nX1_writeLeast nX6_costNow] at q
  clear e
  refine segT_wk (by decide) (by decide) hg rwX11_exact (CLK_C (pX11_needVan_ok hg (by decide)) (CLK_C (liWT_ck (pX3_remember_ok hg) (by decide)) (CLK_C (liWT_ck (pX11_chooseRound_ok hg) (by decide)) (CLK_C (liWT_ck (pX1_writeLeast_ok hg) (by decide)) (CLK_C (liWT_ck (liPW_ok (pX6_costNow_ok hg)) (by decide)) CLK_N))))) (by decide) (krTI_ok (by decide)) (kxT_ok (by decide)) ?_ q
  clear q
  exact ct_N
def nX11_exact (x1 : Int) (h : HH) : Option ((Int ⊕ Nat) × HU) := bX11_exact nX11_needVan nX3_remember nX11_chooseRound nX1_writeLeast nX6_costNow x1 h
theorem wX11_exact {g : SG} (hg : GOK g) {σ0 : SG} : ∀ {x1 : Int} {h : HH} {b : ((Int ⊕ Nat) × HU)}, nX11_exact x1 h = some b → WK 128 (oT (fun r => some (aI r)) b.1) σ0 (abU 2 70 g b.2) 0 [(0, aR 2), (1, aI x1)] [] (abU 2 70 g (h, 0)) (cnU (h, 0)).1 (cnU (h, 0)).2 := by
  intro x1 h b q
  exact uX11_exact hg q
theorem mX11_exact {g : SG} (hg : GOK g) {h : HH} {x1 : Int} {b : ((Int ⊕ Nat) × HU)} (q : nX11_exact x1 h = some b) : MCT 128 [] [aR 2, aI x1] (abU 2 70 g (h, 0)) (oT (fun r => some (aI r)) b.1) (abU 2 70 g b.2) :=
  mct_of (by decide) (MFok 128 (by decide +kernel)) (fun _ => Nat.le_of_ble_eq_true rfl) (wX11_exact hg q)
def pX11_exact {β : Type} (z : Int → HH → Option ((Int ⊕ Nat) × HU)) (rc : Nat) : PT β := fun as s f => skC 2 as fun as => skI as fun x1 as => skE as (liTT rc 3 (fun r => some (aI r)) s (z x1 s.1) f)
theorem pX11_exact_ok {β : Type} {g : SG} (hg : GOK g) {rc rs : Nat} (hrs : 6 * rc ≤ rs) : CLK1 (β := β) 128 (pX11_exact nX11_exact rc) (abU 2 70 g) cnU rc rs := fun as s f b q => by
  obtain ⟨as, rfl, q1⟩ := skC_of q
  obtain ⟨x1, as, rfl, q2⟩ := skI_of q1
  obtain ⟨rfl, q0⟩ := skE_of q2
  exact liTT_ok q0 (by decide) (fun _ e => mX11_exact hg e) rfl rfl hrs
def csX11_roundAt : List (Nat × List (Nat × ARow)) := [(42, [(0, 1, .aload_n 0, 0, 0, 0), (1, 1, .iload_n 1, 0, 0, 0), (2, 3, .invokevirtual 174, 157, 2, 11), (5, 1, .iload_n 2, 0, 0, 0), (6, 1, .iconst (-1), 0, 0, 0), (7, 3, .if_icmp .ne 13, 20, 0, 0), (10, 1, .aload_n 0, 0, 0, 0), (11, 3, .getfield 30, 11, 2, 2), (14, 3, .getfield 177, 6, 2, 2), (17, 1, .iload_n 1, 0, 0, 0), (18, 1, .iaload, 0, 0, 0), (19, 1, .ireturn, 0, 0, 0), (20, 1, .iload_n 2, 0, 0, 0), (21, 3, .ifCond .lt 20, 41, 0, 0), (24, 1, .iload_n 2, 0, 0, 0), (25, 1, .aload_n 0, 0, 0, 0), (26, 3, .getfield 30, 11, 2, 2), (29, 3, .getfield 177, 6, 2, 2), (32, 1, .iload_n 1, 0, 0, 0), (33, 1, .iaload, 0, 0, 0), (34, 3, .if_icmp .ge 7, 41, 0, 0), (37, 1, .iconst 1, 0, 0, 0), (38, 3, .goto 4, 42, 0, 0), (41, 1, .iconst 0, 0, 0, 0)]),
  (100000, [(42, 3, .invokestatic 232, 162, 1, 0), (45, 1, .aload_n 0, 0, 0, 0), (46, 3, .getfield 30, 11, 2, 2), (49, 3, .getfield 187, 6, 1, 2), (52, 1, .iload_n 1, 0, 0, 0), (53, 1, .aaload, 0, 0, 0), (54, 1, .iload_n 2, 0, 0, 0), (55, 1, .iaload, 0, 0, 0), (56, 1, .ireturn, 0, 0, 0)])]
theorem rwX11_roundAt : rowsB (mB 129) (mO 129) (mX 129) (mIni 129) (mFr 129) (mLo 129) (mT 129) csX11_roundAt = true := by decide +kernel
def bX11_roundAt_42 (f162 : Int → HH → Option ((Unit ⊕ Nat) × HU)) (x1 : Int) (x2 : Int) (y0 : Int) (s : HU) : Option ((Int ⊕ Nat) × HU) :=
  bnd (f162 y0 s.1) fun r1 => gd (s.2 + 1 ≤ 4) <| tcase r1.1 (fun _ =>
    gd ((0 : Int) ≤ x1 ∧ x1 < (3 : Int)) <|
    bif Nat.beq (rwK 3 28 x1) 0 then none else
    bif okS 2 70 (rwK 3 28 x1) 0 || okS 2 70 (rwK 3 28 x1) 9 then
    gd ((0 : Int) ≤ x2 ∧ x2 < ((lnK (rwK 3 28 x1)) : Int)) <|
    gd ((s.2 + 1) ≤ 4) (some (.inl (r1.2.1.1 (rwK 3 28 x1) x2), (r1.2.1, (s.2 + 1))))
  else none) (fun e => gd ((s.2 + 1) + 1 ≤ 4) (some (.inr e, (r1.2.1, (s.2 + 1)))))
theorem uX11_roundAt_42 {g : SG} (hg : GOK g) {σ0 : SG} : ∀ {x1 : Int} {x2 : Int} {y0 : Int} {s : HU} {b : ((Int ⊕ Nat) × HU)}, bX11_roundAt_42 nX11_needElement x1 x2 y0 s = some b → WK 129 (oT (fun r => some (aI r)) b.1) σ0 (abU 2 70 g b.2) 42 [(0, aR 2), (1, aI x1), (2, aI x2)] [aI y0] (abU 2 70 g s) (cnU s).1 (cnU s).2 := by
  intro x1 x2 y0 s b q
  have e : ∀ (f162 : Int → HH → Option ((Unit ⊕ Nat) × HU)) , bX11_roundAt_42 f162 x1 x2 y0 s = segT 2 70 g.2.2.2.2 (krTI 4) (kxT 4) (clC 162 (pX11_needElement f162 4) clN) csX11_roundAt cuN 1000 42 [(0, aR 2), (1, aI x1), (2, aI x2)] [aI y0] s := fun _ => rfl
  rw [e nX11_needElement] at q
  clear e
  refine segT_wk (by decide) (by decide) hg rwX11_roundAt (CLK_C (pX11_needElement_ok hg (by decide)) CLK_N) (by decide) (krTI_ok (by decide)) (kxT_ok (by decide)) ?_ q
  clear q
  exact ct_N
def nX11_roundAt_42 (x1 : Int) (x2 : Int) (y0 : Int) (s : HU) : Option ((Int ⊕ Nat) × HU) := bX11_roundAt_42 nX11_needElement x1 x2 y0 s
theorem wX11_roundAt_42 {g : SG} (hg : GOK g) {σ0 : SG} : ∀ {x1 : Int} {x2 : Int} {y0 : Int} {s : HU} {b : ((Int ⊕ Nat) × HU)}, nX11_roundAt_42 x1 x2 y0 s = some b → WK 129 (oT (fun r => some (aI r)) b.1) σ0 (abU 2 70 g b.2) 42 [(0, aR 2), (1, aI x1), (2, aI x2)] [aI y0] (abU 2 70 g s) (cnU s).1 (cnU s).2 := by
  intro x1 x2 y0 s b q
  exact uX11_roundAt_42 hg q
def bX11_roundAt_41 (c42 : Int → Int → Int → HU → Option ((Int ⊕ Nat) × HU)) (x1 : Int) (x2 : Int) (s : HU) : Option ((Int ⊕ Nat) × HU) :=
  c42 x1 x2 0 s
theorem uX11_roundAt_41 {g : SG} (hg : GOK g) {σ0 : SG} {c42 : Int → Int → Int → HU → Option ((Int ⊕ Nat) × HU)} (k42 : ∀ (x1 : Int) (x2 : Int) (y0 : Int) (s : HU) (b : ((Int ⊕ Nat) × HU)), c42 x1 x2 y0 s = some b → WK 129 (oT (fun r => some (aI r)) b.1) σ0 (abU 2 70 g b.2) 42 [(0, aR 2), (1, aI x1), (2, aI x2)] [aI y0] (abU 2 70 g s) (cnU s).1 (cnU s).2) : ∀ {x1 : Int} {x2 : Int} {s : HU} {b : ((Int ⊕ Nat) × HU)}, bX11_roundAt_41 c42 x1 x2 s = some b → WK 129 (oT (fun r => some (aI r)) b.1) σ0 (abU 2 70 g b.2) 41 [(0, aR 2), (1, aI x1), (2, aI x2)] [] (abU 2 70 g s) (cnU s).1 (cnU s).2 := by
  intro x1 x2 s b q
  have e : bX11_roundAt_41 c42 x1 x2 s = segT 2 70 g.2.2.2.2 (krTI 4) (kxT 4) clN csX11_roundAt (cuC 42 (fun l st s => tkC 0 2 l <| tkI 1 l fun x1 => tkI 2 l fun x2 => skI st fun y0 st => skE st (c42 x1 x2 y0 s)) cuN) 1000 41 [(0, aR 2), (1, aI x1), (2, aI x2)] [] s := rfl
  rw [e] at q
  clear e
  refine segT_wk (by decide) (by decide) hg rwX11_roundAt CLK_N (by decide) (krTI_ok (by decide)) (kxT_ok (by decide)) ?_ q
  clear q
  refine ct_C ?_ (ct_N)
  · intro l st s q
    obtain ⟨m0, q1⟩ := tkC_of q
    obtain ⟨x1, m1, q2⟩ := tkI_of q1
    obtain ⟨x2, m2, q3⟩ := tkI_of q2
    obtain ⟨y0, t0, rfl, q4⟩ := skI_of q3
    obtain ⟨rfl, q5⟩ := skE_of q4
    exact WK_less (k42 _ _ _ _ _ q5) (List.forall_mem_cons.mpr ⟨m0, (List.forall_mem_cons.mpr ⟨m1, (List.forall_mem_cons.mpr ⟨m2, (fun _ h => absurd h List.not_mem_nil)⟩)⟩)⟩)
def nX11_roundAt_41 (x1 : Int) (x2 : Int) (s : HU) : Option ((Int ⊕ Nat) × HU) := bX11_roundAt_41 nX11_roundAt_42 x1 x2 s
theorem wX11_roundAt_41 {g : SG} (hg : GOK g) {σ0 : SG} : ∀ {x1 : Int} {x2 : Int} {s : HU} {b : ((Int ⊕ Nat) × HU)}, nX11_roundAt_41 x1 x2 s = some b → WK 129 (oT (fun r => some (aI r)) b.1) σ0 (abU 2 70 g b.2) 41 [(0, aR 2), (1, aI x1), (2, aI x2)] [] (abU 2 70 g s) (cnU s).1 (cnU s).2 := by
  intro x1 x2 s b q
  exact uX11_roundAt_41 hg (fun _ _ _ _ _ q => wX11_roundAt_42 hg q) q
def bX11_roundAt (f157 : Int → HH → Option ((Unit ⊕ Nat) × HU)) (c41 : Int → Int → HU → Option ((Int ⊕ Nat) × HU)) (c42 : Int → Int → Int → HU → Option ((Int ⊕ Nat) × HU)) (x1 : Int) (x2 : Int) (h : HH) : Option ((Int ⊕ Nat) × HU) :=
  bnd (f157 x1 h) fun r1 => gd (0 + 2 ≤ 4) <| tcase r1.1 (fun _ =>
    if x2 = ((-1) : Int) then
    gd ((0 : Int) ≤ x1 ∧ x1 < (3 : Int)) <|
    gd ((0 + 2) ≤ 4) (some (.inl (r1.2.1.1 31 x1), (r1.2.1, (0 + 2))))
  else
    if x2 < (0 : Int) then
    c41 x1 x2 (r1.2.1, (0 + 2))
  else
    gd ((0 : Int) ≤ x1 ∧ x1 < (3 : Int)) <|
    if x2 < ((r1.2.1.1 31 x1) : Int) then
    c42 x1 x2 1 (r1.2.1, (0 + 2))
  else
    c41 x1 x2 (r1.2.1, (0 + 2))) (fun e => gd ((0 + 2) + 1 ≤ 4) (some (.inr e, (r1.2.1, (0 + 2)))))
theorem uX11_roundAt {g : SG} (hg : GOK g) {σ0 : SG} {c41 : Int → Int → HU → Option ((Int ⊕ Nat) × HU)} {c42 : Int → Int → Int → HU → Option ((Int ⊕ Nat) × HU)} (k41 : ∀ (x1 : Int) (x2 : Int) (s : HU) (b : ((Int ⊕ Nat) × HU)), c41 x1 x2 s = some b → WK 129 (oT (fun r => some (aI r)) b.1) σ0 (abU 2 70 g b.2) 41 [(0, aR 2), (1, aI x1), (2, aI x2)] [] (abU 2 70 g s) (cnU s).1 (cnU s).2) (k42 : ∀ (x1 : Int) (x2 : Int) (y0 : Int) (s : HU) (b : ((Int ⊕ Nat) × HU)), c42 x1 x2 y0 s = some b → WK 129 (oT (fun r => some (aI r)) b.1) σ0 (abU 2 70 g b.2) 42 [(0, aR 2), (1, aI x1), (2, aI x2)] [aI y0] (abU 2 70 g s) (cnU s).1 (cnU s).2) : ∀ {x1 : Int} {x2 : Int} {h : HH} {b : ((Int ⊕ Nat) × HU)}, bX11_roundAt nX11_needVan c41 c42 x1 x2 h = some b → WK 129 (oT (fun r => some (aI r)) b.1) σ0 (abU 2 70 g b.2) 0 [(0, aR 2), (1, aI x1), (2, aI x2)] [] (abU 2 70 g (h, 0)) (cnU (h, 0)).1 (cnU (h, 0)).2 := by
  intro x1 x2 h b q
  have e : ∀ (f157 : Int → HH → Option ((Unit ⊕ Nat) × HU)) , bX11_roundAt f157 c41 c42 x1 x2 h = segT 2 70 g.2.2.2.2 (krTI 4) (kxT 4) (clC 157 (pX11_needVan f157 4) clN) csX11_roundAt (cuC 41 (fun l st s => tkC 0 2 l <| tkI 1 l fun x1 => tkI 2 l fun x2 => skE st (c41 x1 x2 s)) (cuC 42 (fun l st s => tkC 0 2 l <| tkI 1 l fun x1 => tkI 2 l fun x2 => skI st fun y0 st => skE st (c42 x1 x2 y0 s)) cuN)) 1000 0 [(0, aR 2), (1, aI x1), (2, aI x2)] [] (h, 0) := fun _ => rfl
  rw [e nX11_needVan] at q
  clear e
  refine segT_wk (by decide) (by decide) hg rwX11_roundAt (CLK_C (pX11_needVan_ok hg (by decide)) CLK_N) (by decide) (krTI_ok (by decide)) (kxT_ok (by decide)) ?_ q
  clear q
  refine ct_C ?_ (ct_C ?_ (ct_N))
  · intro l st s q
    obtain ⟨m0, q1⟩ := tkC_of q
    obtain ⟨x1, m1, q2⟩ := tkI_of q1
    obtain ⟨x2, m2, q3⟩ := tkI_of q2
    obtain ⟨rfl, q4⟩ := skE_of q3
    exact WK_less (k41 _ _ _ _ q4) (List.forall_mem_cons.mpr ⟨m0, (List.forall_mem_cons.mpr ⟨m1, (List.forall_mem_cons.mpr ⟨m2, (fun _ h => absurd h List.not_mem_nil)⟩)⟩)⟩)
  · intro l st s q
    obtain ⟨m0, q1⟩ := tkC_of q
    obtain ⟨x1, m1, q2⟩ := tkI_of q1
    obtain ⟨x2, m2, q3⟩ := tkI_of q2
    obtain ⟨y0, t0, rfl, q4⟩ := skI_of q3
    obtain ⟨rfl, q5⟩ := skE_of q4
    exact WK_less (k42 _ _ _ _ _ q5) (List.forall_mem_cons.mpr ⟨m0, (List.forall_mem_cons.mpr ⟨m1, (List.forall_mem_cons.mpr ⟨m2, (fun _ h => absurd h List.not_mem_nil)⟩)⟩)⟩)
def nX11_roundAt (x1 : Int) (x2 : Int) (h : HH) : Option ((Int ⊕ Nat) × HU) := bX11_roundAt nX11_needVan nX11_roundAt_41 nX11_roundAt_42 x1 x2 h
theorem wX11_roundAt {g : SG} (hg : GOK g) {σ0 : SG} : ∀ {x1 : Int} {x2 : Int} {h : HH} {b : ((Int ⊕ Nat) × HU)}, nX11_roundAt x1 x2 h = some b → WK 129 (oT (fun r => some (aI r)) b.1) σ0 (abU 2 70 g b.2) 0 [(0, aR 2), (1, aI x1), (2, aI x2)] [] (abU 2 70 g (h, 0)) (cnU (h, 0)).1 (cnU (h, 0)).2 := by
  intro x1 x2 h b q
  exact uX11_roundAt hg (fun _ _ _ _ q => wX11_roundAt_41 hg q) (fun _ _ _ _ _ q => wX11_roundAt_42 hg q) q
theorem mX11_roundAt {g : SG} (hg : GOK g) {h : HH} {x1 : Int} {x2 : Int} {b : ((Int ⊕ Nat) × HU)} (q : nX11_roundAt x1 x2 h = some b) : MCT 129 [] [aR 2, aI x1, aI x2] (abU 2 70 g (h, 0)) (oT (fun r => some (aI r)) b.1) (abU 2 70 g b.2) :=
  mct_of (by decide) (MFok 129 (by decide +kernel)) (fun _ => Nat.le_of_ble_eq_true rfl) (wX11_roundAt hg q)
def pX11_roundAt {β : Type} (z : Int → Int → HH → Option ((Int ⊕ Nat) × HU)) (rc : Nat) : PT β := fun as s f => skC 2 as fun as => skI as fun x1 as => skI as fun x2 as => skE as (liTT rc 4 (fun r => some (aI r)) s (z x1 x2 s.1) f)
theorem pX11_roundAt_ok {β : Type} {g : SG} (hg : GOK g) {rc rs : Nat} (hrs : 6 * rc ≤ rs) : CLK1 (β := β) 129 (pX11_roundAt nX11_roundAt rc) (abU 2 70 g) cnU rc rs := fun as s f b q => by
  obtain ⟨as, rfl, q1⟩ := skC_of q
  obtain ⟨x1, as, rfl, q2⟩ := skI_of q1
  obtain ⟨x2, as, rfl, q3⟩ := skI_of q2
  obtain ⟨rfl, q0⟩ := skE_of q3
  exact liTT_ok q0 (by decide) (fun _ e => mX11_roundAt hg e) rfl rfl hrs

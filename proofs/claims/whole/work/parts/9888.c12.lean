/-! CONSTRUCTORS: the model -/
def csX12_init_0 : List (Nat × ARow) := [(0, 1, .aload_n 0, 0, 0, 0), (1, 3, .invokespecial 1, 1002, 1, 0), (4, 1, .aload_n 0, 0, 0, 0), (5, 2, .bipush 60, 0, 0, 0), (7, 2, .newarray .int, 0, 0, 0), (9, 3, .putfield 7, 12, 0, 2), (12, 1, .aload_n 0, 0, 0, 0), (13, 2, .bipush 60, 0, 0, 0), (15, 2, .newarray .int, 0, 0, 0), (17, 3, .putfield 13, 12, 1, 2), (20, 1, .aload_n 0, 0, 0, 0), (21, 2, .bipush 60, 0, 0, 0), (23, 2, .newarray .int, 0, 0, 0), (25, 3, .putfield 16, 12, 2, 2), (28, 1, .aload_n 0, 0, 0, 0), (29, 2, .bipush 60, 0, 0, 0), (31, 2, .newarray .int, 0, 0, 0), (33, 3, .putfield 19, 12, 3, 2), (36, 1, .aload_n 0, 0, 0, 0), (37, 2, .bipush 60, 0, 0, 0), (39, 2, .newarray .int, 0, 0, 0), (41, 3, .putfield 22, 12, 4, 2), (44, 1, .aload_n 0, 0, 0, 0), (45, 2, .bipush 24, 0, 0, 0), (47, 2, .newarray .int, 0, 0, 0), (49, 3, .putfield 25, 12, 5, 2), (52, 1, .aload_n 0, 0, 0, 0), (53, 3, .sipush 256, 0, 0, 0), (56, 2, .newarray .int, 0, 0, 0), (58, 3, .putfield 28, 12, 6, 2), (61, 1, .aload_n 0, 0, 0, 0), (62, 3, .sipush 256, 0, 0, 0), (65, 2, .newarray .int, 0, 0, 0), (67, 3, .putfield 31, 12, 7, 2), (70, 1, .aload_n 0, 0, 0, 0), (71, 3, .sipush 256, 0, 0, 0), (74, 2, .newarray .int, 0, 0, 0), (76, 3, .putfield 34, 12, 8, 2), (79, 1, .aload_n 0, 0, 0, 0), (80, 2, .bipush 9, 0, 0, 0)]
def csX12_init_1 : List (Nat × ARow) := [(82, 2, .newarray .int, 0, 0, 0), (84, 3, .putfield 37, 12, 11, 2), (87, 1, .aload_n 0, 0, 0, 0), (88, 2, .bipush 9, 0, 0, 0), (90, 2, .newarray .int, 0, 0, 0), (92, 3, .putfield 40, 12, 12, 2), (95, 1, .aload_n 0, 0, 0, 0), (96, 2, .bipush 9, 0, 0, 0), (98, 2, .newarray .int, 0, 0, 0), (100, 3, .putfield 43, 12, 13, 2), (103, 1, .aload_n 0, 0, 0, 0), (104, 2, .bipush 9, 0, 0, 0), (106, 2, .newarray .int, 0, 0, 0), (108, 3, .putfield 46, 12, 14, 2), (111, 1, .aload_n 0, 0, 0, 0), (112, 2, .bipush 9, 0, 0, 0), (114, 2, .newarray .int, 0, 0, 0), (116, 3, .putfield 49, 12, 15, 2), (119, 1, .aload_n 0, 0, 0, 0), (120, 2, .bipush 9, 0, 0, 0), (122, 2, .newarray .int, 0, 0, 0), (124, 3, .putfield 52, 12, 16, 2), (127, 1, .aload_n 0, 0, 0, 0), (128, 2, .bipush 9, 0, 0, 0), (130, 2, .newarray .int, 0, 0, 0), (132, 3, .putfield 55, 12, 17, 2), (135, 1, .aload_n 0, 0, 0, 0), (136, 2, .bipush 9, 0, 0, 0), (138, 2, .newarray .int, 0, 0, 0), (140, 3, .putfield 58, 12, 18, 2), (143, 1, .aload_n 0, 0, 0, 0), (144, 2, .bipush 9, 0, 0, 0), (146, 2, .newarray .int, 0, 0, 0), (148, 3, .putfield 61, 12, 19, 2), (151, 1, .aload_n 0, 0, 0, 0), (152, 2, .bipush 9, 0, 0, 0), (154, 2, .newarray .int, 0, 0, 0), (156, 3, .putfield 64, 12, 20, 2), (159, 1, .aload_n 0, 0, 0, 0), (160, 1, .iconst 3, 0, 0, 0)]
def csX12_init_2 : List (Nat × ARow) := [(161, 2, .newarray .int, 0, 0, 0), (163, 3, .putfield 67, 12, 22, 2), (166, 1, .aload_n 0, 0, 0, 0), (167, 1, .iconst 3, 0, 0, 0), (168, 2, .newarray .int, 0, 0, 0), (170, 3, .putfield 70, 12, 23, 2), (173, 1, .aload_n 0, 0, 0, 0), (174, 1, .iconst 3, 0, 0, 0), (175, 2, .newarray .int, 0, 0, 0), (177, 3, .putfield 73, 12, 24, 2), (180, 1, .aload_n 0, 0, 0, 0), (181, 2, .bipush 27, 0, 0, 0), (183, 2, .newarray .int, 0, 0, 0), (185, 3, .putfield 76, 12, 25, 2), (188, 1, .aload_n 0, 0, 0, 0), (189, 1, .iconst 3, 0, 0, 0), (190, 2, .newarray .int, 0, 0, 0), (192, 3, .putfield 79, 12, 26, 2), (195, 1, .aload_n 0, 0, 0, 0), (196, 3, .sipush 540, 0, 0, 0), (199, 2, .newarray .int, 0, 0, 0), (201, 3, .putfield 82, 12, 28, 2), (204, 1, .aload_n 0, 0, 0, 0), (205, 2, .bipush 60, 0, 0, 0), (207, 2, .newarray .int, 0, 0, 0), (209, 3, .putfield 85, 12, 29, 2), (212, 1, .aload_n 0, 0, 0, 0), (213, 2, .bipush 60, 0, 0, 0), (215, 2, .newarray .int, 0, 0, 0), (217, 3, .putfield 88, 12, 31, 2), (220, 1, .aload_n 0, 0, 0, 0), (221, 2, .bipush 60, 0, 0, 0), (223, 2, .newarray .int, 0, 0, 0), (225, 3, .putfield 91, 12, 32, 2), (228, 1, .aload_n 0, 0, 0, 0), (229, 3, .sipush 270, 0, 0, 0), (232, 3, .putfield 94, 12, 34, 0), (235, 1, .aload_n 0, 0, 0, 0), (236, 2, .bipush 45, 0, 0, 0), (238, 3, .putfield 98, 12, 35, 0)]
def csX12_init_3 : List (Nat × ARow) := [(241, 1, .aload_n 0, 0, 0, 0), (242, 3, .sipush 540, 0, 0, 0), (245, 3, .putfield 101, 12, 36, 0), (248, 1, .aload_n 0, 0, 0, 0), (249, 2, .bipush 16, 0, 0, 0), (251, 2, .newarray .int, 0, 0, 0), (253, 3, .putfield 104, 12, 37, 2), (256, 1, .aload_n 0, 0, 0, 0), (257, 2, .bipush 16, 0, 0, 0), (259, 2, .newarray .int, 0, 0, 0), (261, 3, .putfield 107, 12, 38, 2), (264, 1, .aload_n 0, 0, 0, 0), (265, 2, .bipush 16, 0, 0, 0), (267, 2, .newarray .boolean, 2, 0, 0), (269, 3, .putfield 110, 12, 39, 2), (272, 1, .aload_n 0, 0, 0, 0), (273, 2, .bipush 100, 0, 0, 0), (275, 3, .putfield 114, 12, 41, 0), (278, 1, .aload_n 0, 0, 0, 0), (279, 2, .bipush 50, 0, 0, 0), (281, 3, .putfield 117, 12, 42, 0), (284, 1, .aload_n 0, 0, 0, 0), (285, 2, .bipush 50, 0, 0, 0), (287, 2, .newarray .long, 1, 0, 0), (289, 3, .putfield 120, 12, 45, 2), (292, 1, .aload_n 0, 0, 0, 0), (293, 2, .bipush 16, 0, 0, 0), (295, 2, .newarray .int, 0, 0, 0), (297, 3, .putfield 124, 12, 46, 2), (300, 1, .aload_n 0, 0, 0, 0), (301, 2, .bipush 10, 0, 0, 0), (303, 2, .newarray .int, 0, 0, 0), (305, 3, .putfield 127, 12, 47, 2), (308, 1, .aload_n 0, 0, 0, 0), (309, 2, .bipush 10, 0, 0, 0), (311, 2, .newarray .int, 0, 0, 0), (313, 3, .putfield 130, 12, 48, 2), (316, 1, .aload_n 0, 0, 0, 0), (317, 2, .bipush 10, 0, 0, 0), (319, 2, .newarray .int, 0, 0, 0)]
def csX12_init_4 : List (Nat × ARow) := [(321, 3, .putfield 133, 12, 49, 2), (324, 1, .aload_n 0, 0, 0, 0), (325, 2, .bipush 9, 0, 0, 0), (327, 2, .newarray .int, 0, 0, 0), (329, 3, .putfield 136, 12, 50, 2), (332, 1, .aload_n 0, 0, 0, 0), (333, 2, .bipush 10, 0, 0, 0), (335, 2, .newarray .int, 0, 0, 0), (337, 3, .putfield 139, 12, 58, 2), (340, 1, .aload_n 0, 0, 0, 0), (341, 2, .bipush 81, 0, 0, 0), (343, 2, .newarray .int, 0, 0, 0), (345, 3, .putfield 142, 12, 60, 2), (348, 1, .aload_n 0, 0, 0, 0), (349, 2, .bipush 9, 0, 0, 0), (351, 2, .newarray .int, 0, 0, 0), (353, 3, .putfield 145, 12, 61, 2), (356, 1, .aload_n 0, 0, 0, 0), (357, 2, .bipush 10, 0, 0, 0), (359, 2, .newarray .int, 0, 0, 0), (361, 3, .putfield 148, 12, 66, 2), (364, 1, .aload_n 0, 0, 0, 0), (365, 2, .bipush 10, 0, 0, 0), (367, 2, .newarray .int, 0, 0, 0), (369, 3, .putfield 151, 12, 67, 2), (372, 1, .aload_n 0, 0, 0, 0), (373, 2, .bipush 10, 0, 0, 0), (375, 2, .newarray .int, 0, 0, 0), (377, 3, .putfield 154, 12, 68, 2), (380, 1, .aload_n 0, 0, 0, 0), (381, 2, .bipush 10, 0, 0, 0), (383, 2, .newarray .int, 0, 0, 0), (385, 3, .putfield 157, 12, 69, 2), (388, 1, .aload_n 0, 0, 0, 0), (389, 2, .bipush 10, 0, 0, 0), (391, 2, .newarray .int, 0, 0, 0), (393, 3, .putfield 160, 12, 70, 2), (396, 1, .aload_n 0, 0, 0, 0), (397, 3, .sipush 1024, 0, 0, 0), (400, 2, .newarray .int, 0, 0, 0)]
def csX12_init_5 : List (Nat × ARow) := [(402, 3, .putfield 163, 12, 71, 2), (405, 1, .aload_n 0, 0, 0, 0), (406, 2, .bipush 8, 0, 0, 0), (408, 2, .newarray .int, 0, 0, 0), (410, 3, .putfield 166, 12, 77, 2), (413, 1, .aload_n 0, 0, 0, 0), (414, 3, .sipush 10240, 0, 0, 0), (417, 2, .newarray .int, 0, 0, 0), (419, 3, .putfield 169, 12, 78, 2), (422, 1, .iconst 0, 0, 0, 0), (423, 1, .istore_n 1, 0, 0, 0), (424, 1, .iload_n 1, 0, 0, 0), (425, 2, .bipush 24, 0, 0, 0), (427, 3, .if_icmp .ge 17, 444, 0, 0), (430, 1, .aload_n 0, 0, 0, 0), (431, 3, .getfield 25, 12, 5, 2), (434, 1, .iload_n 1, 0, 0, 0), (435, 2, .bipush 100, 0, 0, 0), (437, 1, .iastore, 0, 0, 0), (438, 3, .iinc 1 1, 0, 0, 0), (441, 3, .goto (-17), 424, 0, 0), (444, 1, .aload_n 0, 0, 0, 0), (445, 3, .invokevirtual 172, 180, 1, 12), (448, 1, .return_, 0, 0, 0)]
def csX12_init : List (Nat × List (Nat × ARow)) := [(82, csX12_init_0), (161, csX12_init_1), (241, csX12_init_2), (321, csX12_init_3), (402, csX12_init_4), (100000, csX12_init_5)]
theorem rwX12_init : rowsB (mB 169) (mO 169) (mX 169) (mIni 169) (mFr 169) (mLo 169) (mT 169) csX12_init = true := by decide +kernel
def sameB (K : Nat) (r r2 : Nat → Int → Nat) : Bool := (List.range (K + 1)).all (fun k => (!(Nat.beq (tgK k) 3) || (List.range (lnK k).toNat).all (fun j => Nat.beq (r2 k (j : Int)) (r k (j : Int)))) && (!(Nat.ble 16 (tgK k)) || (List.range (nFK (tgK k - 16))).all (fun j => Nat.beq (r2 k (j : Int)) (r k (j : Int)))))
theorem sameB_ok {K : Nat} {r r2 : Nat → Int → Nat} (h : sameB K r r2 = true) : sameR K r r2 := fun k k2 kK => by
  have q := List.all_eq_true.mp h k (List.mem_range.mpr (by omega))
  obtain ⟨a, b⟩ := Bool.and_eq_true_iff.mp q
  constructor
  · intro t j hj
    rcases Bool.or_eq_true_iff.mp a with z | z
    · rw [t] at z; cases z
    · exact Nat.eq_of_beq_eq_true (List.all_eq_true.mp z j (List.mem_range.mpr hj))
  · intro t j hj
    rcases Bool.or_eq_true_iff.mp b with z | z
    · have e : Nat.ble 16 (tgK k) = true := Nat.ble_eq.mpr t
      rw [e] at z
      cases z
    · exact Nat.eq_of_beq_eq_true (List.all_eq_true.mp z j (List.mem_range.mpr hj))
theorem tg_all : (List.range 122).all (fun k => Nat.ble k 1 || (Nat.ble (tgK k) 4 || Nat.ble 16 (tgK k))) = true := by decide +kernel
theorem tg_ok {k : Nat} (h : 2 ≤ k) (h2 : k ≤ 121) : tgK k ≤ 4 ∨ 16 ≤ tgK k := by
  have q := List.all_eq_true.mp tg_all k (List.mem_range.mpr (by omega))
  rcases Bool.or_eq_true_iff.mp q with z | z
  · have := Nat.le_of_ble_eq_true z
    omega
  · rcases Bool.or_eq_true_iff.mp z with z | z
    · exact Or.inl (Nat.le_of_ble_eq_true z)
    · exact Or.inr (Nat.le_of_ble_eq_true z)
theorem WK_swap {n : Nat} {o : AO} {σ0 σ' σ : SG} {pc : Nat} {lc : AL} {st : AS} {cells slots : Nat} {r2 : Nat → Int → Nat} (hs : sameR σ.1 σ.2.1 r2) (hw : ∀ k i, r2 k i ≤ σ.1) (hK : σ.1 ≤ 121) (q : WK n o σ0 σ' pc lc st (σ.1, r2, σ.2.2) cells slots) : WK n o σ0 σ' pc lc st σ cells slots :=
  fun p l e R s m args below meth c A D cy ad0 hC h1 h2 h3 => g_swap hs hw (fun k k2 kK => tg_ok k2 (by omega)) (q p l e R s m args below meth c A D cy ad0 hC h1 h2 h3)
theorem callV_wk {n m a idx pc : Nat} {o : AO} {v : Option AV} {σ0 σ' σ σ1 : SG} {as rest : AS} {lc : AL} {cells slots : Nat} (hk : mK m = 1) (hd : decode (mB n) pc = .ok (.invokevirtual idx, 3)) (hcb : callB (mO n) idx m (mFr n) (mLo n) = true) (hnum : as.length = mN m) (h2 : 2 ≤ a ∧ a ≤ σ.1) (ht : tgK a = 16 + mO m) (hm13 : mO m < 13) (hrest : sumc rest ≤ 8) (hct : MCT m [] (aR a :: as) σ (.inl v) σ1) (hr2 : cells + mC m ≤ mC n ∧ slots + mS m ≤ mS n)
    (kk : WK n o σ0 σ' (pc + 3) lc (v.toList ++ rest) σ1 (cells + mC m) (slots + mS m)) : WK n o σ0 σ' pc lc (as.reverse ++ aR a :: rest) σ cells slots := by
  intro p l e R s m9 args below meth c A D cy ad0 hC hrt hnt hR
  have hr9 : cells + mC m ≤ R.cells ∧ slots + mS m ≤ R.slots := by rw [hR.1, hR.2]; exact hr2
  exact g_callV hC hk hd (callB_ok hcb) hnum h2 ht hm13 hrest hct hr9 (fun x hx => by cases hx) (fun w hw => by cases hw; exact kk p l e R s m9 args below meth c A D cy ad0 hC hrt hnt hR)
theorem c_le {b : Bool} {x y B : Nat} (hx : x ≤ B) (hy : y ≤ B) : (bif b then x else y) ≤ B := by cases b <;> assumption
theorem c_t {x y B : Nat} (hx : x ≤ B) : (bif true then x else y) ≤ B := hx
theorem c_rw {n q B : Nat} {i : Int} (h : n + q ≤ B) : rwK n q i ≤ B := by
  unfold rwK
  cases hb : Nat.blt i.toNat n with
  | true =>
    have := Nat.le_of_ble_eq_true hb
    show i.toNat + q ≤ B
    omega
  | false => show q ≤ B; omega
theorem rRK_le (k : Nat) (i : Int) : rRK k i ≤ 119 := by
  unfold rRK
  repeat' (first | exact c_rw (Nat.le_of_ble_eq_true rfl) | apply c_le)
  all_goals exact Nat.le_of_ble_eq_true rfl
theorem rRK_70 {k : Nat} (i : Int) (h : k ≤ 70) : rRK k i ≤ 70 := by
  have e : Nat.blt k 71 = true := Nat.ble_eq.mpr (show k + 1 ≤ 71 by omega)
  unfold rRK
  rw [e]
  repeat' (first | exact c_t (Nat.le_of_ble_eq_true rfl) | exact c_rw (Nat.le_of_ble_eq_true rfl) | apply c_le)
  all_goals exact Nat.le_of_ble_eq_true rfl
def rC70 : Nat → Int → Nat := fun k i => bif Nat.ble k 70 then rRK k i else 0
theorem rC70_le (k : Nat) (i : Int) : rC70 k i ≤ 70 := by
  unfold rC70
  cases hb : Nat.ble k 70 with
  | true => exact rRK_70 i (Nat.le_of_ble_eq_true hb)
  | false => exact Nat.zero_le _
def rZ12 : Nat → Int → Nat := upC rC70 71 (fun _ => 0)
def RX12_0 : Nat → Int → Nat := rZ12
def RX12_1 : Nat → Int → Nat := ((fun σ : SG => uR (uN (σ)) 71 0 72) (71, RX12_0, fun _ _ => 0, fun _ _ => 0, fun _ _ => 0)).2.1
def RX12_2 : Nat → Int → Nat := ((fun σ : SG => uR (uN (σ)) 71 1 73) (72, RX12_1, fun _ _ => 0, fun _ _ => 0, fun _ _ => 0)).2.1
def RX12_3 : Nat → Int → Nat := ((fun σ : SG => uR (uN (σ)) 71 2 74) (73, RX12_2, fun _ _ => 0, fun _ _ => 0, fun _ _ => 0)).2.1
def RX12_4 : Nat → Int → Nat := ((fun σ : SG => uR (uN (σ)) 71 3 75) (74, RX12_3, fun _ _ => 0, fun _ _ => 0, fun _ _ => 0)).2.1
def RX12_5 : Nat → Int → Nat := ((fun σ : SG => uR (uN (σ)) 71 4 76) (75, RX12_4, fun _ _ => 0, fun _ _ => 0, fun _ _ => 0)).2.1
def RX12_6 : Nat → Int → Nat := ((fun σ : SG => uR (uN (σ)) 71 5 77) (76, RX12_5, fun _ _ => 0, fun _ _ => 0, fun _ _ => 0)).2.1
def RX12_7 : Nat → Int → Nat := ((fun σ : SG => uR (uN (σ)) 71 6 78) (77, RX12_6, fun _ _ => 0, fun _ _ => 0, fun _ _ => 0)).2.1
def RX12_8 : Nat → Int → Nat := ((fun σ : SG => uR (uN (σ)) 71 7 79) (78, RX12_7, fun _ _ => 0, fun _ _ => 0, fun _ _ => 0)).2.1
def RX12_9 : Nat → Int → Nat := ((fun σ : SG => uR (uN (σ)) 71 8 80) (79, RX12_8, fun _ _ => 0, fun _ _ => 0, fun _ _ => 0)).2.1
def RX12_10 : Nat → Int → Nat := ((fun σ : SG => uR (uN (σ)) 71 11 81) (80, RX12_9, fun _ _ => 0, fun _ _ => 0, fun _ _ => 0)).2.1
def RX12_11 : Nat → Int → Nat := ((fun σ : SG => uR (uN (σ)) 71 12 82) (81, RX12_10, fun _ _ => 0, fun _ _ => 0, fun _ _ => 0)).2.1
def RX12_12 : Nat → Int → Nat := ((fun σ : SG => uR (uN (σ)) 71 13 83) (82, RX12_11, fun _ _ => 0, fun _ _ => 0, fun _ _ => 0)).2.1
def RX12_13 : Nat → Int → Nat := ((fun σ : SG => uR (uN (σ)) 71 14 84) (83, RX12_12, fun _ _ => 0, fun _ _ => 0, fun _ _ => 0)).2.1
def RX12_14 : Nat → Int → Nat := ((fun σ : SG => uR (uN (σ)) 71 15 85) (84, RX12_13, fun _ _ => 0, fun _ _ => 0, fun _ _ => 0)).2.1
def RX12_15 : Nat → Int → Nat := ((fun σ : SG => uR (uN (σ)) 71 16 86) (85, RX12_14, fun _ _ => 0, fun _ _ => 0, fun _ _ => 0)).2.1
def RX12_16 : Nat → Int → Nat := ((fun σ : SG => uR (uN (σ)) 71 17 87) (86, RX12_15, fun _ _ => 0, fun _ _ => 0, fun _ _ => 0)).2.1
def RX12_17 : Nat → Int → Nat := ((fun σ : SG => uR (uN (σ)) 71 18 88) (87, RX12_16, fun _ _ => 0, fun _ _ => 0, fun _ _ => 0)).2.1
def RX12_18 : Nat → Int → Nat := ((fun σ : SG => uR (uN (σ)) 71 19 89) (88, RX12_17, fun _ _ => 0, fun _ _ => 0, fun _ _ => 0)).2.1
def RX12_19 : Nat → Int → Nat := ((fun σ : SG => uR (uN (σ)) 71 20 90) (89, RX12_18, fun _ _ => 0, fun _ _ => 0, fun _ _ => 0)).2.1
def RX12_20 : Nat → Int → Nat := ((fun σ : SG => uR (uN (σ)) 71 22 91) (90, RX12_19, fun _ _ => 0, fun _ _ => 0, fun _ _ => 0)).2.1
def RX12_21 : Nat → Int → Nat := ((fun σ : SG => uR (uN (σ)) 71 23 92) (91, RX12_20, fun _ _ => 0, fun _ _ => 0, fun _ _ => 0)).2.1
def RX12_22 : Nat → Int → Nat := ((fun σ : SG => uR (uN (σ)) 71 24 93) (92, RX12_21, fun _ _ => 0, fun _ _ => 0, fun _ _ => 0)).2.1
def RX12_23 : Nat → Int → Nat := ((fun σ : SG => uR (uN (σ)) 71 25 94) (93, RX12_22, fun _ _ => 0, fun _ _ => 0, fun _ _ => 0)).2.1
def RX12_24 : Nat → Int → Nat := ((fun σ : SG => uR (uN (σ)) 71 26 95) (94, RX12_23, fun _ _ => 0, fun _ _ => 0, fun _ _ => 0)).2.1
def RX12_25 : Nat → Int → Nat := ((fun σ : SG => uR (uN (σ)) 71 28 96) (95, RX12_24, fun _ _ => 0, fun _ _ => 0, fun _ _ => 0)).2.1
def RX12_26 : Nat → Int → Nat := ((fun σ : SG => uR (uN (σ)) 71 29 97) (96, RX12_25, fun _ _ => 0, fun _ _ => 0, fun _ _ => 0)).2.1
def RX12_27 : Nat → Int → Nat := ((fun σ : SG => uR (uN (σ)) 71 31 98) (97, RX12_26, fun _ _ => 0, fun _ _ => 0, fun _ _ => 0)).2.1
def RX12_28 : Nat → Int → Nat := ((fun σ : SG => uR (uN (σ)) 71 32 99) (98, RX12_27, fun _ _ => 0, fun _ _ => 0, fun _ _ => 0)).2.1
def RX12_29 : Nat → Int → Nat := ((fun σ : SG => uI (σ) 71 34 (270)) (99, RX12_28, fun _ _ => 0, fun _ _ => 0, fun _ _ => 0)).2.1
def RX12_30 : Nat → Int → Nat := ((fun σ : SG => uI (σ) 71 35 (45)) (99, RX12_29, fun _ _ => 0, fun _ _ => 0, fun _ _ => 0)).2.1
def RX12_31 : Nat → Int → Nat := ((fun σ : SG => uI (σ) 71 36 (540)) (99, RX12_30, fun _ _ => 0, fun _ _ => 0, fun _ _ => 0)).2.1
def RX12_32 : Nat → Int → Nat := ((fun σ : SG => uR (uN (σ)) 71 37 100) (99, RX12_31, fun _ _ => 0, fun _ _ => 0, fun _ _ => 0)).2.1
def RX12_33 : Nat → Int → Nat := ((fun σ : SG => uR (uN (σ)) 71 38 101) (100, RX12_32, fun _ _ => 0, fun _ _ => 0, fun _ _ => 0)).2.1
def RX12_34 : Nat → Int → Nat := ((fun σ : SG => uR (uN (σ)) 71 39 102) (101, RX12_33, fun _ _ => 0, fun _ _ => 0, fun _ _ => 0)).2.1
def RX12_35 : Nat → Int → Nat := ((fun σ : SG => uI (σ) 71 41 (100)) (102, RX12_34, fun _ _ => 0, fun _ _ => 0, fun _ _ => 0)).2.1
def RX12_36 : Nat → Int → Nat := ((fun σ : SG => uI (σ) 71 42 (50)) (102, RX12_35, fun _ _ => 0, fun _ _ => 0, fun _ _ => 0)).2.1
def RX12_37 : Nat → Int → Nat := ((fun σ : SG => uR (uN (σ)) 71 45 103) (102, RX12_36, fun _ _ => 0, fun _ _ => 0, fun _ _ => 0)).2.1
def RX12_38 : Nat → Int → Nat := ((fun σ : SG => uR (uN (σ)) 71 46 104) (103, RX12_37, fun _ _ => 0, fun _ _ => 0, fun _ _ => 0)).2.1
def RX12_39 : Nat → Int → Nat := ((fun σ : SG => uR (uN (σ)) 71 47 105) (104, RX12_38, fun _ _ => 0, fun _ _ => 0, fun _ _ => 0)).2.1
def RX12_40 : Nat → Int → Nat := ((fun σ : SG => uR (uN (σ)) 71 48 106) (105, RX12_39, fun _ _ => 0, fun _ _ => 0, fun _ _ => 0)).2.1
def RX12_41 : Nat → Int → Nat := ((fun σ : SG => uR (uN (σ)) 71 49 107) (106, RX12_40, fun _ _ => 0, fun _ _ => 0, fun _ _ => 0)).2.1
def RX12_42 : Nat → Int → Nat := ((fun σ : SG => uR (uN (σ)) 71 50 108) (107, RX12_41, fun _ _ => 0, fun _ _ => 0, fun _ _ => 0)).2.1
def RX12_43 : Nat → Int → Nat := ((fun σ : SG => uR (uN (σ)) 71 58 109) (108, RX12_42, fun _ _ => 0, fun _ _ => 0, fun _ _ => 0)).2.1
def RX12_44 : Nat → Int → Nat := ((fun σ : SG => uR (uN (σ)) 71 60 110) (109, RX12_43, fun _ _ => 0, fun _ _ => 0, fun _ _ => 0)).2.1
def RX12_45 : Nat → Int → Nat := ((fun σ : SG => uR (uN (σ)) 71 61 111) (110, RX12_44, fun _ _ => 0, fun _ _ => 0, fun _ _ => 0)).2.1
def RX12_46 : Nat → Int → Nat := ((fun σ : SG => uR (uN (σ)) 71 66 112) (111, RX12_45, fun _ _ => 0, fun _ _ => 0, fun _ _ => 0)).2.1
def RX12_47 : Nat → Int → Nat := ((fun σ : SG => uR (uN (σ)) 71 67 113) (112, RX12_46, fun _ _ => 0, fun _ _ => 0, fun _ _ => 0)).2.1
def RX12_48 : Nat → Int → Nat := ((fun σ : SG => uR (uN (σ)) 71 68 114) (113, RX12_47, fun _ _ => 0, fun _ _ => 0, fun _ _ => 0)).2.1
def RX12_49 : Nat → Int → Nat := ((fun σ : SG => uR (uN (σ)) 71 69 115) (114, RX12_48, fun _ _ => 0, fun _ _ => 0, fun _ _ => 0)).2.1
def RX12_50 : Nat → Int → Nat := ((fun σ : SG => uR (uN (σ)) 71 70 116) (115, RX12_49, fun _ _ => 0, fun _ _ => 0, fun _ _ => 0)).2.1
def RX12_51 : Nat → Int → Nat := ((fun σ : SG => uR (uN (σ)) 71 71 117) (116, RX12_50, fun _ _ => 0, fun _ _ => 0, fun _ _ => 0)).2.1
def RX12_52 : Nat → Int → Nat := ((fun σ : SG => uR (uN (σ)) 71 77 118) (117, RX12_51, fun _ _ => 0, fun _ _ => 0, fun _ _ => 0)).2.1
def RX12_53 : Nat → Int → Nat := ((fun σ : SG => uR (uN (σ)) 71 78 119) (118, RX12_52, fun _ _ => 0, fun _ _ => 0, fun _ _ => 0)).2.1
def RX12_54 : Nat → Int → Nat := ((fun σ : SG => σ) (119, RX12_53, fun _ _ => 0, fun _ _ => 0, fun _ _ => 0)).2.1
def aX12_54 (σ : SG) : SG := σ
theorem abH_id {g : SG} : abH 71 119 g (g.2.2.1, g.2.2.2.1) = g := by
  have e : ∀ f : Nat → Int → Int, mrg 71 119 f f = f := fun f => by
    funext k i
    unfold mrg
    split <;> rfl
  unfold abH
  simp only [e]
theorem same_12 : sameB 119 RX12_54 rRK = true := by decide +kernel
theorem ways_ex {i j : Nat → Int → Int} (hx : i 71 9 = 0) : ∃ b, nX12_ways (i, j) = some b ∧ Fr sWm (i, j) b ∧ WY (gD b.1) (gT b.1) (gL b.1) i 0 ∧ TB (gD b.1) (gT b.1) (gL b.1) ∧ ∀ x y, 0 ≤ x → x ≤ 15 → 0 ≤ y → y ≤ 15 → 0 ≤ b.1 78 (16 * x + y) := by
  have q := m_ways (H := (i, j)) (fun s h0 h1 => by
    have h1 : s < i 71 9 := h1
    omega) (by show 0 ≤ i 71 9 ∧ i 71 9 ≤ 60; omega)
  obtain ⟨b, b1, b2, b3, b4, b5⟩ := q
  have b3 : WY (gD b.1) (gT b.1) (gL b.1) i (i 71 9) := b3
  rw [hx] at b3
  exact ⟨b, b1, b2, b3, b4, b5⟩
set_option maxRecDepth 100000 in
theorem wkX12_e {σ0 : SG} {i j : Nat → Int → Int} {d : Nat → Int → UInt64} {b : HH} (b1 : nX12_ways (i, j) = some b) : WK 169 (.inl none) σ0 (abH 71 119 (119, rRK, i, j, d) b) 444 [(0, aR 71)] [] (119, RX12_54, i, j, d) 48 13516 := by
  refine WK_swap (r2 := rRK) (sameB_ok same_12) rRK_le (Nat.le_of_ble_eq_true rfl) ?_
  have hM : MCT 180 [] [aR 71] (119, rRK, i, j, d) (.inl none) (abH 71 119 (119, rRK, i, j, d) b) := by
    have q := mX12_ways (g := (119, rRK, i, j, d)) ⟨Nat.le_refl _, rfl⟩ b1
    have e := abH_id (g := (119, rRK, i, j, d))
    rw [e] at q
    exact q
  have hb : 48 + mC 180 ≤ mC 169 ∧ 13516 + mS 180 ≤ mS 169 := ⟨Nat.le_of_ble_eq_true rfl, Nat.le_of_ble_eq_true rfl⟩
  refine segK_to (b := (none, (abH 71 119 (119, rRK, i, j, d) b, 48, 13516))) rwX12_init ⟨Nat.le_of_ble_eq_true rfl, Nat.le_of_ble_eq_true rfl⟩ (cl := clN) CLK_N (pc2 := 445) (N := 200) (pc := 444) (l0 := [(0, aR 71)]) (lc := [(0, aR 71)]) (st0 := [aR 71]) (st := []) (s1 := ((119, rRK, i, j, d), 48, 13516)) (s0 := ((119, rRK, i, j, d), 48, 13516)) ?_ (fun _ => rfl)
  refine callV_wk (m := 180) (as := []) (rest := []) (by decide +kernel) (rowsB_at rwX12_init (pc := 445) (r := (3, .invokevirtual 172, 180, 1, 12)) rfl).1 (by decide +kernel) rfl ⟨by decide, by show 71 ≤ 119; omega⟩ (by decide +kernel) (by decide +kernel) (by decide +kernel) hM hb ?_
  exact segK_wk (b := (none, (abH 71 119 (119, rRK, i, j, d) b, 48, 13516))) rwX12_init ⟨Nat.le_of_ble_eq_true rfl, Nat.le_of_ble_eq_true rfl⟩ (cl := clN) CLK_N ct_N (N := 200) (pc := 448) (lc := [(0, aR 71)]) (st := []) (s0 := (abH 71 119 (119, rRK, i, j, d) b, 48, 13516)) rfl
set_option maxRecDepth 100000 in
theorem wkX12_l {σ0 σ' : SG} {i j : Nat → Int → Int} {d : Nat → Int → UInt64} (kk : WK 169 (.inl none) σ0 σ' 444 [(0, aR 71)] [] (fillW 77 24 100 (119, RX12_54, i, j, d)) 48 13516) : ∀ (q : Nat) (k : Int), 0 ≤ k → k + q = 24 → ∀ lc : AL, (0, aR 71) ∈ lc → (1, aI k) ∈ lc → WK 169 (.inl none) σ0 σ' 424 lc [] (fillW 77 k 100 (119, RX12_54, i, j, d)) 48 13516 := by
  intro q
  have e : ∀ (k : Int) (f g : AL → AS → SW → Option (Option AV × SW)), segK (mC 169) (mS 169) krG clN csX12_init (cuC 444 g (cuC 424 f cuN)) 200 424 [(0, aR 71), (1, aI k)] [] (fillW 77 k 100 (119, RX12_54, i, j, d), 48, 13516) = if k < 24 then gd ((0 : Int) ≤ k ∧ k < lnK 77) (gd (R32 (k + 1)) (f [(1, aI (k + 1)), (0, aR 71)] [] (uI (fillW 77 k 100 (119, RX12_54, i, j, d)) 77 k 100, 48, 13516))) else g [(0, aR 71), (1, aI k)] [] (fillW 77 k 100 (119, RX12_54, i, j, d), 48, 13516) := fun _ _ _ => rfl
  generalize hσ : (119, RX12_54, i, j, d) = σ1 at *
  induction q with
  | zero =>
    intro k k0 hk lc m0 m1
    have e24 : k = 24 := by omega
    subst e24
    refine WK_less (lc' := [(0, aR 71), (1, aI 24)]) ?_ (List.forall_mem_cons.mpr ⟨m0, List.forall_mem_cons.mpr ⟨m1, fun _ z => absurd z List.not_mem_nil⟩⟩)
    refine segK_wk (b := (none, (σ', 48, 13516))) rwX12_init ⟨Nat.le_of_ble_eq_true rfl, Nat.le_of_ble_eq_true rfl⟩ (cl := clN) CLK_N (cut := cuC 444 (cuQ [(0, aR 71), (1, aI 24)] [] (fillW 77 24 100 σ1, 48, 13516) (none, (σ', 48, 13516))) (cuC 424 (fun _ _ _ => none) cuN)) (ct_C (fun lc st s1 z => ?_) (ct_C (fun lc st s1 z => by cases z) ct_N)) (N := 200) (s0 := (fillW 77 24 100 σ1, 48, 13516)) ?_
    · obtain ⟨rfl, rfl, rfl⟩ := cuQ_of z
      exact WK_less kk (fun q hq => by rw [List.mem_singleton.mp hq]; exact List.mem_cons_self)
    · exact (e _ _ _).trans ((if_neg (by omega)).trans cuQ_t)
  | succ q ih =>
    intro k k0 hk lc m0 m1
    have hl : lnK 77 = 24 := rfl
    refine WK_less (lc' := [(0, aR 71), (1, aI k)]) ?_ (List.forall_mem_cons.mpr ⟨m0, List.forall_mem_cons.mpr ⟨m1, fun _ z => absurd z List.not_mem_nil⟩⟩)
    refine segK_wk (b := (none, (σ', 48, 13516))) rwX12_init ⟨Nat.le_of_ble_eq_true rfl, Nat.le_of_ble_eq_true rfl⟩ (cl := clN) CLK_N (cut := cuC 444 (fun _ _ _ => none) (cuC 424 (cuQ [(1, aI (k + 1)), (0, aR 71)] [] (fillW 77 (k + 1) 100 σ1, 48, 13516) (none, (σ', 48, 13516))) cuN)) (ct_C (fun lc st s1 z => by cases z) (ct_C (fun lc st s1 z => ?_) ct_N)) (N := 200) (s0 := (fillW 77 k 100 σ1, 48, 13516)) ?_
    · obtain ⟨rfl, rfl, rfl⟩ := cuQ_of z
      exact ih (k + 1) (by omega) (by omega) _ (List.mem_cons_of_mem _ List.mem_cons_self) List.mem_cons_self
    · refine (e _ _ _).trans ?_
      rw [if_pos (by omega), hl, gd_t ⟨by omega, by omega⟩, gd_t ⟨by omega, by omega⟩, fill_s k0]
      exact cuQ_t
theorem wkX12_54 {σ σ0 σ' : SG} (h : σ.1 = 119) (hr : σ.2.1 = RX12_54) (kk : WK 169 (.inl none) σ0 σ' 424 [(1, aI (0)), (0, aR 71)] [] (aX12_54 σ) 48 13516) : WK 169 (.inl none) σ0 σ' 424 [(1, aI (0)), (0, aR 71)] [] σ 48 13516 := kk
def aX12_53 (σ : SG) : SG := aX12_54 (σ)
set_option maxRecDepth 100000 in
theorem wkX12_53 {σ σ0 σz : SG} (h : σ.1 = 119) (hr : σ.2.1 = RX12_53) (kk : WK 169 (.inl none) σ0 σz 424 [(1, aI (0)), (0, aR 71)] [] (aX12_53 σ) 48 13516) : WK 169 (.inl none) σ0 σz 422 [(0, aR 71)] [] σ 48 13516 := by
  obtain ⟨K, r, i, j, d⟩ := σ
  have h : K = 119 := h
  subst h
  have hr : r = RX12_53 := hr
  rw [hr] at kk ⊢
  exact segK_to (b := (none, (σz, 48, 13516))) rwX12_init ⟨Nat.le_of_ble_eq_true rfl, Nat.le_of_ble_eq_true rfl⟩ (cl := clN) CLK_N (pc2 := 424) (N := 200) (pc := 422) (l0 := [(1, aI (0)), (0, aR 71)]) (lc := [(0, aR 71)]) (st0 := []) (st := []) (s1 := ((fun σ : SG => σ) (119, RX12_53, i, j, d), 48, 13516)) (s0 := ((119, RX12_53, i, j, d), 48, 13516)) (wkX12_54 rfl rfl kk) (fun _ => rfl)
def aX12_52 (σ : SG) : SG := aX12_53 (uR (uN (σ)) 71 78 119)
set_option maxRecDepth 100000 in
theorem wkX12_52 {σ σ0 σz : SG} (h : σ.1 = 118) (hr : σ.2.1 = RX12_52) (kk : WK 169 (.inl none) σ0 σz 424 [(1, aI (0)), (0, aR 71)] [] (aX12_52 σ) 48 13516) : WK 169 (.inl none) σ0 σz 413 [(0, aR 71)] [] σ 47 3276 := by
  obtain ⟨K, r, i, j, d⟩ := σ
  have h : K = 118 := h
  subst h
  have hr : r = RX12_52 := hr
  rw [hr] at kk ⊢
  exact segK_to (b := (none, (σz, 48, 13516))) rwX12_init ⟨Nat.le_of_ble_eq_true rfl, Nat.le_of_ble_eq_true rfl⟩ (cl := clN) CLK_N (pc2 := 422) (N := 200) (pc := 413) (l0 := [(0, aR 71)]) (lc := [(0, aR 71)]) (st0 := []) (st := []) (s1 := ((fun σ : SG => uR (uN (σ)) 71 78 119) (118, RX12_52, i, j, d), 48, 13516)) (s0 := ((118, RX12_52, i, j, d), 47, 3276)) (wkX12_53 rfl rfl kk) (fun _ => rfl)
def aX12_51 (σ : SG) : SG := aX12_52 (uR (uN (σ)) 71 77 118)
set_option maxRecDepth 100000 in
theorem wkX12_51 {σ σ0 σz : SG} (h : σ.1 = 117) (hr : σ.2.1 = RX12_51) (kk : WK 169 (.inl none) σ0 σz 424 [(1, aI (0)), (0, aR 71)] [] (aX12_51 σ) 48 13516) : WK 169 (.inl none) σ0 σz 405 [(0, aR 71)] [] σ 46 3268 := by
  obtain ⟨K, r, i, j, d⟩ := σ
  have h : K = 117 := h
  subst h
  have hr : r = RX12_51 := hr
  rw [hr] at kk ⊢
  exact segK_to (b := (none, (σz, 48, 13516))) rwX12_init ⟨Nat.le_of_ble_eq_true rfl, Nat.le_of_ble_eq_true rfl⟩ (cl := clN) CLK_N (pc2 := 413) (N := 200) (pc := 405) (l0 := [(0, aR 71)]) (lc := [(0, aR 71)]) (st0 := []) (st := []) (s1 := ((fun σ : SG => uR (uN (σ)) 71 77 118) (117, RX12_51, i, j, d), 47, 3276)) (s0 := ((117, RX12_51, i, j, d), 46, 3268)) (wkX12_52 rfl rfl kk) (fun _ => rfl)
def aX12_50 (σ : SG) : SG := aX12_51 (uR (uN (σ)) 71 71 117)
set_option maxRecDepth 100000 in
theorem wkX12_50 {σ σ0 σz : SG} (h : σ.1 = 116) (hr : σ.2.1 = RX12_50) (kk : WK 169 (.inl none) σ0 σz 424 [(1, aI (0)), (0, aR 71)] [] (aX12_50 σ) 48 13516) : WK 169 (.inl none) σ0 σz 396 [(0, aR 71)] [] σ 45 2244 := by
  obtain ⟨K, r, i, j, d⟩ := σ
  have h : K = 116 := h
  subst h
  have hr : r = RX12_50 := hr
  rw [hr] at kk ⊢
  exact segK_to (b := (none, (σz, 48, 13516))) rwX12_init ⟨Nat.le_of_ble_eq_true rfl, Nat.le_of_ble_eq_true rfl⟩ (cl := clN) CLK_N (pc2 := 405) (N := 200) (pc := 396) (l0 := [(0, aR 71)]) (lc := [(0, aR 71)]) (st0 := []) (st := []) (s1 := ((fun σ : SG => uR (uN (σ)) 71 71 117) (116, RX12_50, i, j, d), 46, 3268)) (s0 := ((116, RX12_50, i, j, d), 45, 2244)) (wkX12_51 rfl rfl kk) (fun _ => rfl)
def aX12_49 (σ : SG) : SG := aX12_50 (uR (uN (σ)) 71 70 116)
set_option maxRecDepth 100000 in
theorem wkX12_49 {σ σ0 σz : SG} (h : σ.1 = 115) (hr : σ.2.1 = RX12_49) (kk : WK 169 (.inl none) σ0 σz 424 [(1, aI (0)), (0, aR 71)] [] (aX12_49 σ) 48 13516) : WK 169 (.inl none) σ0 σz 388 [(0, aR 71)] [] σ 44 2234 := by
  obtain ⟨K, r, i, j, d⟩ := σ
  have h : K = 115 := h
  subst h
  have hr : r = RX12_49 := hr
  rw [hr] at kk ⊢
  exact segK_to (b := (none, (σz, 48, 13516))) rwX12_init ⟨Nat.le_of_ble_eq_true rfl, Nat.le_of_ble_eq_true rfl⟩ (cl := clN) CLK_N (pc2 := 396) (N := 200) (pc := 388) (l0 := [(0, aR 71)]) (lc := [(0, aR 71)]) (st0 := []) (st := []) (s1 := ((fun σ : SG => uR (uN (σ)) 71 70 116) (115, RX12_49, i, j, d), 45, 2244)) (s0 := ((115, RX12_49, i, j, d), 44, 2234)) (wkX12_50 rfl rfl kk) (fun _ => rfl)
def aX12_48 (σ : SG) : SG := aX12_49 (uR (uN (σ)) 71 69 115)
set_option maxRecDepth 100000 in
theorem wkX12_48 {σ σ0 σz : SG} (h : σ.1 = 114) (hr : σ.2.1 = RX12_48) (kk : WK 169 (.inl none) σ0 σz 424 [(1, aI (0)), (0, aR 71)] [] (aX12_48 σ) 48 13516) : WK 169 (.inl none) σ0 σz 380 [(0, aR 71)] [] σ 43 2224 := by
  obtain ⟨K, r, i, j, d⟩ := σ
  have h : K = 114 := h
  subst h
  have hr : r = RX12_48 := hr
  rw [hr] at kk ⊢
  exact segK_to (b := (none, (σz, 48, 13516))) rwX12_init ⟨Nat.le_of_ble_eq_true rfl, Nat.le_of_ble_eq_true rfl⟩ (cl := clN) CLK_N (pc2 := 388) (N := 200) (pc := 380) (l0 := [(0, aR 71)]) (lc := [(0, aR 71)]) (st0 := []) (st := []) (s1 := ((fun σ : SG => uR (uN (σ)) 71 69 115) (114, RX12_48, i, j, d), 44, 2234)) (s0 := ((114, RX12_48, i, j, d), 43, 2224)) (wkX12_49 rfl rfl kk) (fun _ => rfl)
def aX12_47 (σ : SG) : SG := aX12_48 (uR (uN (σ)) 71 68 114)
set_option maxRecDepth 100000 in
theorem wkX12_47 {σ σ0 σz : SG} (h : σ.1 = 113) (hr : σ.2.1 = RX12_47) (kk : WK 169 (.inl none) σ0 σz 424 [(1, aI (0)), (0, aR 71)] [] (aX12_47 σ) 48 13516) : WK 169 (.inl none) σ0 σz 372 [(0, aR 71)] [] σ 42 2214 := by
  obtain ⟨K, r, i, j, d⟩ := σ
  have h : K = 113 := h
  subst h
  have hr : r = RX12_47 := hr
  rw [hr] at kk ⊢
  exact segK_to (b := (none, (σz, 48, 13516))) rwX12_init ⟨Nat.le_of_ble_eq_true rfl, Nat.le_of_ble_eq_true rfl⟩ (cl := clN) CLK_N (pc2 := 380) (N := 200) (pc := 372) (l0 := [(0, aR 71)]) (lc := [(0, aR 71)]) (st0 := []) (st := []) (s1 := ((fun σ : SG => uR (uN (σ)) 71 68 114) (113, RX12_47, i, j, d), 43, 2224)) (s0 := ((113, RX12_47, i, j, d), 42, 2214)) (wkX12_48 rfl rfl kk) (fun _ => rfl)
def aX12_46 (σ : SG) : SG := aX12_47 (uR (uN (σ)) 71 67 113)
set_option maxRecDepth 100000 in
theorem wkX12_46 {σ σ0 σz : SG} (h : σ.1 = 112) (hr : σ.2.1 = RX12_46) (kk : WK 169 (.inl none) σ0 σz 424 [(1, aI (0)), (0, aR 71)] [] (aX12_46 σ) 48 13516) : WK 169 (.inl none) σ0 σz 364 [(0, aR 71)] [] σ 41 2204 := by
  obtain ⟨K, r, i, j, d⟩ := σ
  have h : K = 112 := h
  subst h
  have hr : r = RX12_46 := hr
  rw [hr] at kk ⊢
  exact segK_to (b := (none, (σz, 48, 13516))) rwX12_init ⟨Nat.le_of_ble_eq_true rfl, Nat.le_of_ble_eq_true rfl⟩ (cl := clN) CLK_N (pc2 := 372) (N := 200) (pc := 364) (l0 := [(0, aR 71)]) (lc := [(0, aR 71)]) (st0 := []) (st := []) (s1 := ((fun σ : SG => uR (uN (σ)) 71 67 113) (112, RX12_46, i, j, d), 42, 2214)) (s0 := ((112, RX12_46, i, j, d), 41, 2204)) (wkX12_47 rfl rfl kk) (fun _ => rfl)
def aX12_45 (σ : SG) : SG := aX12_46 (uR (uN (σ)) 71 66 112)
set_option maxRecDepth 100000 in
theorem wkX12_45 {σ σ0 σz : SG} (h : σ.1 = 111) (hr : σ.2.1 = RX12_45) (kk : WK 169 (.inl none) σ0 σz 424 [(1, aI (0)), (0, aR 71)] [] (aX12_45 σ) 48 13516) : WK 169 (.inl none) σ0 σz 356 [(0, aR 71)] [] σ 40 2194 := by
  obtain ⟨K, r, i, j, d⟩ := σ
  have h : K = 111 := h
  subst h
  have hr : r = RX12_45 := hr
  rw [hr] at kk ⊢
  exact segK_to (b := (none, (σz, 48, 13516))) rwX12_init ⟨Nat.le_of_ble_eq_true rfl, Nat.le_of_ble_eq_true rfl⟩ (cl := clN) CLK_N (pc2 := 364) (N := 200) (pc := 356) (l0 := [(0, aR 71)]) (lc := [(0, aR 71)]) (st0 := []) (st := []) (s1 := ((fun σ : SG => uR (uN (σ)) 71 66 112) (111, RX12_45, i, j, d), 41, 2204)) (s0 := ((111, RX12_45, i, j, d), 40, 2194)) (wkX12_46 rfl rfl kk) (fun _ => rfl)
def aX12_44 (σ : SG) : SG := aX12_45 (uR (uN (σ)) 71 61 111)
set_option maxRecDepth 100000 in
theorem wkX12_44 {σ σ0 σz : SG} (h : σ.1 = 110) (hr : σ.2.1 = RX12_44) (kk : WK 169 (.inl none) σ0 σz 424 [(1, aI (0)), (0, aR 71)] [] (aX12_44 σ) 48 13516) : WK 169 (.inl none) σ0 σz 348 [(0, aR 71)] [] σ 39 2185 := by
  obtain ⟨K, r, i, j, d⟩ := σ
  have h : K = 110 := h
  subst h
  have hr : r = RX12_44 := hr
  rw [hr] at kk ⊢
  exact segK_to (b := (none, (σz, 48, 13516))) rwX12_init ⟨Nat.le_of_ble_eq_true rfl, Nat.le_of_ble_eq_true rfl⟩ (cl := clN) CLK_N (pc2 := 356) (N := 200) (pc := 348) (l0 := [(0, aR 71)]) (lc := [(0, aR 71)]) (st0 := []) (st := []) (s1 := ((fun σ : SG => uR (uN (σ)) 71 61 111) (110, RX12_44, i, j, d), 40, 2194)) (s0 := ((110, RX12_44, i, j, d), 39, 2185)) (wkX12_45 rfl rfl kk) (fun _ => rfl)
def aX12_43 (σ : SG) : SG := aX12_44 (uR (uN (σ)) 71 60 110)
set_option maxRecDepth 100000 in
theorem wkX12_43 {σ σ0 σz : SG} (h : σ.1 = 109) (hr : σ.2.1 = RX12_43) (kk : WK 169 (.inl none) σ0 σz 424 [(1, aI (0)), (0, aR 71)] [] (aX12_43 σ) 48 13516) : WK 169 (.inl none) σ0 σz 340 [(0, aR 71)] [] σ 38 2104 := by
  obtain ⟨K, r, i, j, d⟩ := σ
  have h : K = 109 := h
  subst h
  have hr : r = RX12_43 := hr
  rw [hr] at kk ⊢
  exact segK_to (b := (none, (σz, 48, 13516))) rwX12_init ⟨Nat.le_of_ble_eq_true rfl, Nat.le_of_ble_eq_true rfl⟩ (cl := clN) CLK_N (pc2 := 348) (N := 200) (pc := 340) (l0 := [(0, aR 71)]) (lc := [(0, aR 71)]) (st0 := []) (st := []) (s1 := ((fun σ : SG => uR (uN (σ)) 71 60 110) (109, RX12_43, i, j, d), 39, 2185)) (s0 := ((109, RX12_43, i, j, d), 38, 2104)) (wkX12_44 rfl rfl kk) (fun _ => rfl)
def aX12_42 (σ : SG) : SG := aX12_43 (uR (uN (σ)) 71 58 109)
set_option maxRecDepth 100000 in
theorem wkX12_42 {σ σ0 σz : SG} (h : σ.1 = 108) (hr : σ.2.1 = RX12_42) (kk : WK 169 (.inl none) σ0 σz 424 [(1, aI (0)), (0, aR 71)] [] (aX12_42 σ) 48 13516) : WK 169 (.inl none) σ0 σz 332 [(0, aR 71)] [] σ 37 2094 := by
  obtain ⟨K, r, i, j, d⟩ := σ
  have h : K = 108 := h
  subst h
  have hr : r = RX12_42 := hr
  rw [hr] at kk ⊢
  exact segK_to (b := (none, (σz, 48, 13516))) rwX12_init ⟨Nat.le_of_ble_eq_true rfl, Nat.le_of_ble_eq_true rfl⟩ (cl := clN) CLK_N (pc2 := 340) (N := 200) (pc := 332) (l0 := [(0, aR 71)]) (lc := [(0, aR 71)]) (st0 := []) (st := []) (s1 := ((fun σ : SG => uR (uN (σ)) 71 58 109) (108, RX12_42, i, j, d), 38, 2104)) (s0 := ((108, RX12_42, i, j, d), 37, 2094)) (wkX12_43 rfl rfl kk) (fun _ => rfl)
def aX12_41 (σ : SG) : SG := aX12_42 (uR (uN (σ)) 71 50 108)
set_option maxRecDepth 100000 in
theorem wkX12_41 {σ σ0 σz : SG} (h : σ.1 = 107) (hr : σ.2.1 = RX12_41) (kk : WK 169 (.inl none) σ0 σz 424 [(1, aI (0)), (0, aR 71)] [] (aX12_41 σ) 48 13516) : WK 169 (.inl none) σ0 σz 324 [(0, aR 71)] [] σ 36 2085 := by
  obtain ⟨K, r, i, j, d⟩ := σ
  have h : K = 107 := h
  subst h
  have hr : r = RX12_41 := hr
  rw [hr] at kk ⊢
  exact segK_to (b := (none, (σz, 48, 13516))) rwX12_init ⟨Nat.le_of_ble_eq_true rfl, Nat.le_of_ble_eq_true rfl⟩ (cl := clN) CLK_N (pc2 := 332) (N := 200) (pc := 324) (l0 := [(0, aR 71)]) (lc := [(0, aR 71)]) (st0 := []) (st := []) (s1 := ((fun σ : SG => uR (uN (σ)) 71 50 108) (107, RX12_41, i, j, d), 37, 2094)) (s0 := ((107, RX12_41, i, j, d), 36, 2085)) (wkX12_42 rfl rfl kk) (fun _ => rfl)
def aX12_40 (σ : SG) : SG := aX12_41 (uR (uN (σ)) 71 49 107)
set_option maxRecDepth 100000 in
theorem wkX12_40 {σ σ0 σz : SG} (h : σ.1 = 106) (hr : σ.2.1 = RX12_40) (kk : WK 169 (.inl none) σ0 σz 424 [(1, aI (0)), (0, aR 71)] [] (aX12_40 σ) 48 13516) : WK 169 (.inl none) σ0 σz 316 [(0, aR 71)] [] σ 35 2075 := by
  obtain ⟨K, r, i, j, d⟩ := σ
  have h : K = 106 := h
  subst h
  have hr : r = RX12_40 := hr
  rw [hr] at kk ⊢
  exact segK_to (b := (none, (σz, 48, 13516))) rwX12_init ⟨Nat.le_of_ble_eq_true rfl, Nat.le_of_ble_eq_true rfl⟩ (cl := clN) CLK_N (pc2 := 324) (N := 200) (pc := 316) (l0 := [(0, aR 71)]) (lc := [(0, aR 71)]) (st0 := []) (st := []) (s1 := ((fun σ : SG => uR (uN (σ)) 71 49 107) (106, RX12_40, i, j, d), 36, 2085)) (s0 := ((106, RX12_40, i, j, d), 35, 2075)) (wkX12_41 rfl rfl kk) (fun _ => rfl)
def aX12_39 (σ : SG) : SG := aX12_40 (uR (uN (σ)) 71 48 106)
set_option maxRecDepth 100000 in
theorem wkX12_39 {σ σ0 σz : SG} (h : σ.1 = 105) (hr : σ.2.1 = RX12_39) (kk : WK 169 (.inl none) σ0 σz 424 [(1, aI (0)), (0, aR 71)] [] (aX12_39 σ) 48 13516) : WK 169 (.inl none) σ0 σz 308 [(0, aR 71)] [] σ 34 2065 := by
  obtain ⟨K, r, i, j, d⟩ := σ
  have h : K = 105 := h
  subst h
  have hr : r = RX12_39 := hr
  rw [hr] at kk ⊢
  exact segK_to (b := (none, (σz, 48, 13516))) rwX12_init ⟨Nat.le_of_ble_eq_true rfl, Nat.le_of_ble_eq_true rfl⟩ (cl := clN) CLK_N (pc2 := 316) (N := 200) (pc := 308) (l0 := [(0, aR 71)]) (lc := [(0, aR 71)]) (st0 := []) (st := []) (s1 := ((fun σ : SG => uR (uN (σ)) 71 48 106) (105, RX12_39, i, j, d), 35, 2075)) (s0 := ((105, RX12_39, i, j, d), 34, 2065)) (wkX12_40 rfl rfl kk) (fun _ => rfl)
def aX12_38 (σ : SG) : SG := aX12_39 (uR (uN (σ)) 71 47 105)
set_option maxRecDepth 100000 in
theorem wkX12_38 {σ σ0 σz : SG} (h : σ.1 = 104) (hr : σ.2.1 = RX12_38) (kk : WK 169 (.inl none) σ0 σz 424 [(1, aI (0)), (0, aR 71)] [] (aX12_38 σ) 48 13516) : WK 169 (.inl none) σ0 σz 300 [(0, aR 71)] [] σ 33 2055 := by
  obtain ⟨K, r, i, j, d⟩ := σ
  have h : K = 104 := h
  subst h
  have hr : r = RX12_38 := hr
  rw [hr] at kk ⊢
  exact segK_to (b := (none, (σz, 48, 13516))) rwX12_init ⟨Nat.le_of_ble_eq_true rfl, Nat.le_of_ble_eq_true rfl⟩ (cl := clN) CLK_N (pc2 := 308) (N := 200) (pc := 300) (l0 := [(0, aR 71)]) (lc := [(0, aR 71)]) (st0 := []) (st := []) (s1 := ((fun σ : SG => uR (uN (σ)) 71 47 105) (104, RX12_38, i, j, d), 34, 2065)) (s0 := ((104, RX12_38, i, j, d), 33, 2055)) (wkX12_39 rfl rfl kk) (fun _ => rfl)
def aX12_37 (σ : SG) : SG := aX12_38 (uR (uN (σ)) 71 46 104)
set_option maxRecDepth 100000 in
theorem wkX12_37 {σ σ0 σz : SG} (h : σ.1 = 103) (hr : σ.2.1 = RX12_37) (kk : WK 169 (.inl none) σ0 σz 424 [(1, aI (0)), (0, aR 71)] [] (aX12_37 σ) 48 13516) : WK 169 (.inl none) σ0 σz 292 [(0, aR 71)] [] σ 32 2039 := by
  obtain ⟨K, r, i, j, d⟩ := σ
  have h : K = 103 := h
  subst h
  have hr : r = RX12_37 := hr
  rw [hr] at kk ⊢
  exact segK_to (b := (none, (σz, 48, 13516))) rwX12_init ⟨Nat.le_of_ble_eq_true rfl, Nat.le_of_ble_eq_true rfl⟩ (cl := clN) CLK_N (pc2 := 300) (N := 200) (pc := 292) (l0 := [(0, aR 71)]) (lc := [(0, aR 71)]) (st0 := []) (st := []) (s1 := ((fun σ : SG => uR (uN (σ)) 71 46 104) (103, RX12_37, i, j, d), 33, 2055)) (s0 := ((103, RX12_37, i, j, d), 32, 2039)) (wkX12_38 rfl rfl kk) (fun _ => rfl)
def aX12_36 (σ : SG) : SG := aX12_37 (uR (uN (σ)) 71 45 103)
set_option maxRecDepth 100000 in
theorem wkX12_36 {σ σ0 σz : SG} (h : σ.1 = 102) (hr : σ.2.1 = RX12_36) (kk : WK 169 (.inl none) σ0 σz 424 [(1, aI (0)), (0, aR 71)] [] (aX12_36 σ) 48 13516) : WK 169 (.inl none) σ0 σz 284 [(0, aR 71)] [] σ 31 1989 := by
  obtain ⟨K, r, i, j, d⟩ := σ
  have h : K = 102 := h
  subst h
  have hr : r = RX12_36 := hr
  rw [hr] at kk ⊢
  exact segK_to (b := (none, (σz, 48, 13516))) rwX12_init ⟨Nat.le_of_ble_eq_true rfl, Nat.le_of_ble_eq_true rfl⟩ (cl := clN) CLK_N (pc2 := 292) (N := 200) (pc := 284) (l0 := [(0, aR 71)]) (lc := [(0, aR 71)]) (st0 := []) (st := []) (s1 := ((fun σ : SG => uR (uN (σ)) 71 45 103) (102, RX12_36, i, j, d), 32, 2039)) (s0 := ((102, RX12_36, i, j, d), 31, 1989)) (wkX12_37 rfl rfl kk) (fun _ => rfl)
def aX12_35 (σ : SG) : SG := aX12_36 (uI (σ) 71 42 (50))
set_option maxRecDepth 100000 in
theorem wkX12_35 {σ σ0 σz : SG} (h : σ.1 = 102) (hr : σ.2.1 = RX12_35) (kk : WK 169 (.inl none) σ0 σz 424 [(1, aI (0)), (0, aR 71)] [] (aX12_35 σ) 48 13516) : WK 169 (.inl none) σ0 σz 278 [(0, aR 71)] [] σ 31 1989 := by
  obtain ⟨K, r, i, j, d⟩ := σ
  have h : K = 102 := h
  subst h
  have hr : r = RX12_35 := hr
  rw [hr] at kk ⊢
  exact segK_to (b := (none, (σz, 48, 13516))) rwX12_init ⟨Nat.le_of_ble_eq_true rfl, Nat.le_of_ble_eq_true rfl⟩ (cl := clN) CLK_N (pc2 := 284) (N := 200) (pc := 278) (l0 := [(0, aR 71)]) (lc := [(0, aR 71)]) (st0 := []) (st := []) (s1 := ((fun σ : SG => uI (σ) 71 42 (50)) (102, RX12_35, i, j, d), 31, 1989)) (s0 := ((102, RX12_35, i, j, d), 31, 1989)) (wkX12_36 rfl rfl kk) (fun _ => rfl)
def aX12_34 (σ : SG) : SG := aX12_35 (uI (σ) 71 41 (100))
set_option maxRecDepth 100000 in
theorem wkX12_34 {σ σ0 σz : SG} (h : σ.1 = 102) (hr : σ.2.1 = RX12_34) (kk : WK 169 (.inl none) σ0 σz 424 [(1, aI (0)), (0, aR 71)] [] (aX12_34 σ) 48 13516) : WK 169 (.inl none) σ0 σz 272 [(0, aR 71)] [] σ 31 1989 := by
  obtain ⟨K, r, i, j, d⟩ := σ
  have h : K = 102 := h
  subst h
  have hr : r = RX12_34 := hr
  rw [hr] at kk ⊢
  exact segK_to (b := (none, (σz, 48, 13516))) rwX12_init ⟨Nat.le_of_ble_eq_true rfl, Nat.le_of_ble_eq_true rfl⟩ (cl := clN) CLK_N (pc2 := 278) (N := 200) (pc := 272) (l0 := [(0, aR 71)]) (lc := [(0, aR 71)]) (st0 := []) (st := []) (s1 := ((fun σ : SG => uI (σ) 71 41 (100)) (102, RX12_34, i, j, d), 31, 1989)) (s0 := ((102, RX12_34, i, j, d), 31, 1989)) (wkX12_35 rfl rfl kk) (fun _ => rfl)
def aX12_33 (σ : SG) : SG := aX12_34 (uR (uN (σ)) 71 39 102)
set_option maxRecDepth 100000 in
theorem wkX12_33 {σ σ0 σz : SG} (h : σ.1 = 101) (hr : σ.2.1 = RX12_33) (kk : WK 169 (.inl none) σ0 σz 424 [(1, aI (0)), (0, aR 71)] [] (aX12_33 σ) 48 13516) : WK 169 (.inl none) σ0 σz 264 [(0, aR 71)] [] σ 30 1973 := by
  obtain ⟨K, r, i, j, d⟩ := σ
  have h : K = 101 := h
  subst h
  have hr : r = RX12_33 := hr
  rw [hr] at kk ⊢
  exact segK_to (b := (none, (σz, 48, 13516))) rwX12_init ⟨Nat.le_of_ble_eq_true rfl, Nat.le_of_ble_eq_true rfl⟩ (cl := clN) CLK_N (pc2 := 272) (N := 200) (pc := 264) (l0 := [(0, aR 71)]) (lc := [(0, aR 71)]) (st0 := []) (st := []) (s1 := ((fun σ : SG => uR (uN (σ)) 71 39 102) (101, RX12_33, i, j, d), 31, 1989)) (s0 := ((101, RX12_33, i, j, d), 30, 1973)) (wkX12_34 rfl rfl kk) (fun _ => rfl)
def aX12_32 (σ : SG) : SG := aX12_33 (uR (uN (σ)) 71 38 101)
set_option maxRecDepth 100000 in
theorem wkX12_32 {σ σ0 σz : SG} (h : σ.1 = 100) (hr : σ.2.1 = RX12_32) (kk : WK 169 (.inl none) σ0 σz 424 [(1, aI (0)), (0, aR 71)] [] (aX12_32 σ) 48 13516) : WK 169 (.inl none) σ0 σz 256 [(0, aR 71)] [] σ 29 1957 := by
  obtain ⟨K, r, i, j, d⟩ := σ
  have h : K = 100 := h
  subst h
  have hr : r = RX12_32 := hr
  rw [hr] at kk ⊢
  exact segK_to (b := (none, (σz, 48, 13516))) rwX12_init ⟨Nat.le_of_ble_eq_true rfl, Nat.le_of_ble_eq_true rfl⟩ (cl := clN) CLK_N (pc2 := 264) (N := 200) (pc := 256) (l0 := [(0, aR 71)]) (lc := [(0, aR 71)]) (st0 := []) (st := []) (s1 := ((fun σ : SG => uR (uN (σ)) 71 38 101) (100, RX12_32, i, j, d), 30, 1973)) (s0 := ((100, RX12_32, i, j, d), 29, 1957)) (wkX12_33 rfl rfl kk) (fun _ => rfl)
def aX12_31 (σ : SG) : SG := aX12_32 (uR (uN (σ)) 71 37 100)
set_option maxRecDepth 100000 in
theorem wkX12_31 {σ σ0 σz : SG} (h : σ.1 = 99) (hr : σ.2.1 = RX12_31) (kk : WK 169 (.inl none) σ0 σz 424 [(1, aI (0)), (0, aR 71)] [] (aX12_31 σ) 48 13516) : WK 169 (.inl none) σ0 σz 248 [(0, aR 71)] [] σ 28 1941 := by
  obtain ⟨K, r, i, j, d⟩ := σ
  have h : K = 99 := h
  subst h
  have hr : r = RX12_31 := hr
  rw [hr] at kk ⊢
  exact segK_to (b := (none, (σz, 48, 13516))) rwX12_init ⟨Nat.le_of_ble_eq_true rfl, Nat.le_of_ble_eq_true rfl⟩ (cl := clN) CLK_N (pc2 := 256) (N := 200) (pc := 248) (l0 := [(0, aR 71)]) (lc := [(0, aR 71)]) (st0 := []) (st := []) (s1 := ((fun σ : SG => uR (uN (σ)) 71 37 100) (99, RX12_31, i, j, d), 29, 1957)) (s0 := ((99, RX12_31, i, j, d), 28, 1941)) (wkX12_32 rfl rfl kk) (fun _ => rfl)
def aX12_30 (σ : SG) : SG := aX12_31 (uI (σ) 71 36 (540))
set_option maxRecDepth 100000 in
theorem wkX12_30 {σ σ0 σz : SG} (h : σ.1 = 99) (hr : σ.2.1 = RX12_30) (kk : WK 169 (.inl none) σ0 σz 424 [(1, aI (0)), (0, aR 71)] [] (aX12_30 σ) 48 13516) : WK 169 (.inl none) σ0 σz 241 [(0, aR 71)] [] σ 28 1941 := by
  obtain ⟨K, r, i, j, d⟩ := σ
  have h : K = 99 := h
  subst h
  have hr : r = RX12_30 := hr
  rw [hr] at kk ⊢
  exact segK_to (b := (none, (σz, 48, 13516))) rwX12_init ⟨Nat.le_of_ble_eq_true rfl, Nat.le_of_ble_eq_true rfl⟩ (cl := clN) CLK_N (pc2 := 248) (N := 200) (pc := 241) (l0 := [(0, aR 71)]) (lc := [(0, aR 71)]) (st0 := []) (st := []) (s1 := ((fun σ : SG => uI (σ) 71 36 (540)) (99, RX12_30, i, j, d), 28, 1941)) (s0 := ((99, RX12_30, i, j, d), 28, 1941)) (wkX12_31 rfl rfl kk) (fun _ => rfl)
def aX12_29 (σ : SG) : SG := aX12_30 (uI (σ) 71 35 (45))
set_option maxRecDepth 100000 in
theorem wkX12_29 {σ σ0 σz : SG} (h : σ.1 = 99) (hr : σ.2.1 = RX12_29) (kk : WK 169 (.inl none) σ0 σz 424 [(1, aI (0)), (0, aR 71)] [] (aX12_29 σ) 48 13516) : WK 169 (.inl none) σ0 σz 235 [(0, aR 71)] [] σ 28 1941 := by
  obtain ⟨K, r, i, j, d⟩ := σ
  have h : K = 99 := h
  subst h
  have hr : r = RX12_29 := hr
  rw [hr] at kk ⊢
  exact segK_to (b := (none, (σz, 48, 13516))) rwX12_init ⟨Nat.le_of_ble_eq_true rfl, Nat.le_of_ble_eq_true rfl⟩ (cl := clN) CLK_N (pc2 := 241) (N := 200) (pc := 235) (l0 := [(0, aR 71)]) (lc := [(0, aR 71)]) (st0 := []) (st := []) (s1 := ((fun σ : SG => uI (σ) 71 35 (45)) (99, RX12_29, i, j, d), 28, 1941)) (s0 := ((99, RX12_29, i, j, d), 28, 1941)) (wkX12_30 rfl rfl kk) (fun _ => rfl)
def aX12_28 (σ : SG) : SG := aX12_29 (uI (σ) 71 34 (270))
set_option maxRecDepth 100000 in
theorem wkX12_28 {σ σ0 σz : SG} (h : σ.1 = 99) (hr : σ.2.1 = RX12_28) (kk : WK 169 (.inl none) σ0 σz 424 [(1, aI (0)), (0, aR 71)] [] (aX12_28 σ) 48 13516) : WK 169 (.inl none) σ0 σz 228 [(0, aR 71)] [] σ 28 1941 := by
  obtain ⟨K, r, i, j, d⟩ := σ
  have h : K = 99 := h
  subst h
  have hr : r = RX12_28 := hr
  rw [hr] at kk ⊢
  exact segK_to (b := (none, (σz, 48, 13516))) rwX12_init ⟨Nat.le_of_ble_eq_true rfl, Nat.le_of_ble_eq_true rfl⟩ (cl := clN) CLK_N (pc2 := 235) (N := 200) (pc := 228) (l0 := [(0, aR 71)]) (lc := [(0, aR 71)]) (st0 := []) (st := []) (s1 := ((fun σ : SG => uI (σ) 71 34 (270)) (99, RX12_28, i, j, d), 28, 1941)) (s0 := ((99, RX12_28, i, j, d), 28, 1941)) (wkX12_29 rfl rfl kk) (fun _ => rfl)
def aX12_27 (σ : SG) : SG := aX12_28 (uR (uN (σ)) 71 32 99)
set_option maxRecDepth 100000 in
theorem wkX12_27 {σ σ0 σz : SG} (h : σ.1 = 98) (hr : σ.2.1 = RX12_27) (kk : WK 169 (.inl none) σ0 σz 424 [(1, aI (0)), (0, aR 71)] [] (aX12_27 σ) 48 13516) : WK 169 (.inl none) σ0 σz 220 [(0, aR 71)] [] σ 27 1881 := by
  obtain ⟨K, r, i, j, d⟩ := σ
  have h : K = 98 := h
  subst h
  have hr : r = RX12_27 := hr
  rw [hr] at kk ⊢
  exact segK_to (b := (none, (σz, 48, 13516))) rwX12_init ⟨Nat.le_of_ble_eq_true rfl, Nat.le_of_ble_eq_true rfl⟩ (cl := clN) CLK_N (pc2 := 228) (N := 200) (pc := 220) (l0 := [(0, aR 71)]) (lc := [(0, aR 71)]) (st0 := []) (st := []) (s1 := ((fun σ : SG => uR (uN (σ)) 71 32 99) (98, RX12_27, i, j, d), 28, 1941)) (s0 := ((98, RX12_27, i, j, d), 27, 1881)) (wkX12_28 rfl rfl kk) (fun _ => rfl)
def aX12_26 (σ : SG) : SG := aX12_27 (uR (uN (σ)) 71 31 98)
set_option maxRecDepth 100000 in
theorem wkX12_26 {σ σ0 σz : SG} (h : σ.1 = 97) (hr : σ.2.1 = RX12_26) (kk : WK 169 (.inl none) σ0 σz 424 [(1, aI (0)), (0, aR 71)] [] (aX12_26 σ) 48 13516) : WK 169 (.inl none) σ0 σz 212 [(0, aR 71)] [] σ 26 1821 := by
  obtain ⟨K, r, i, j, d⟩ := σ
  have h : K = 97 := h
  subst h
  have hr : r = RX12_26 := hr
  rw [hr] at kk ⊢
  exact segK_to (b := (none, (σz, 48, 13516))) rwX12_init ⟨Nat.le_of_ble_eq_true rfl, Nat.le_of_ble_eq_true rfl⟩ (cl := clN) CLK_N (pc2 := 220) (N := 200) (pc := 212) (l0 := [(0, aR 71)]) (lc := [(0, aR 71)]) (st0 := []) (st := []) (s1 := ((fun σ : SG => uR (uN (σ)) 71 31 98) (97, RX12_26, i, j, d), 27, 1881)) (s0 := ((97, RX12_26, i, j, d), 26, 1821)) (wkX12_27 rfl rfl kk) (fun _ => rfl)
def aX12_25 (σ : SG) : SG := aX12_26 (uR (uN (σ)) 71 29 97)
set_option maxRecDepth 100000 in
theorem wkX12_25 {σ σ0 σz : SG} (h : σ.1 = 96) (hr : σ.2.1 = RX12_25) (kk : WK 169 (.inl none) σ0 σz 424 [(1, aI (0)), (0, aR 71)] [] (aX12_25 σ) 48 13516) : WK 169 (.inl none) σ0 σz 204 [(0, aR 71)] [] σ 25 1761 := by
  obtain ⟨K, r, i, j, d⟩ := σ
  have h : K = 96 := h
  subst h
  have hr : r = RX12_25 := hr
  rw [hr] at kk ⊢
  exact segK_to (b := (none, (σz, 48, 13516))) rwX12_init ⟨Nat.le_of_ble_eq_true rfl, Nat.le_of_ble_eq_true rfl⟩ (cl := clN) CLK_N (pc2 := 212) (N := 200) (pc := 204) (l0 := [(0, aR 71)]) (lc := [(0, aR 71)]) (st0 := []) (st := []) (s1 := ((fun σ : SG => uR (uN (σ)) 71 29 97) (96, RX12_25, i, j, d), 26, 1821)) (s0 := ((96, RX12_25, i, j, d), 25, 1761)) (wkX12_26 rfl rfl kk) (fun _ => rfl)
def aX12_24 (σ : SG) : SG := aX12_25 (uR (uN (σ)) 71 28 96)
set_option maxRecDepth 100000 in
theorem wkX12_24 {σ σ0 σz : SG} (h : σ.1 = 95) (hr : σ.2.1 = RX12_24) (kk : WK 169 (.inl none) σ0 σz 424 [(1, aI (0)), (0, aR 71)] [] (aX12_24 σ) 48 13516) : WK 169 (.inl none) σ0 σz 195 [(0, aR 71)] [] σ 24 1221 := by
  obtain ⟨K, r, i, j, d⟩ := σ
  have h : K = 95 := h
  subst h
  have hr : r = RX12_24 := hr
  rw [hr] at kk ⊢
  exact segK_to (b := (none, (σz, 48, 13516))) rwX12_init ⟨Nat.le_of_ble_eq_true rfl, Nat.le_of_ble_eq_true rfl⟩ (cl := clN) CLK_N (pc2 := 204) (N := 200) (pc := 195) (l0 := [(0, aR 71)]) (lc := [(0, aR 71)]) (st0 := []) (st := []) (s1 := ((fun σ : SG => uR (uN (σ)) 71 28 96) (95, RX12_24, i, j, d), 25, 1761)) (s0 := ((95, RX12_24, i, j, d), 24, 1221)) (wkX12_25 rfl rfl kk) (fun _ => rfl)
def aX12_23 (σ : SG) : SG := aX12_24 (uR (uN (σ)) 71 26 95)
set_option maxRecDepth 100000 in
theorem wkX12_23 {σ σ0 σz : SG} (h : σ.1 = 94) (hr : σ.2.1 = RX12_23) (kk : WK 169 (.inl none) σ0 σz 424 [(1, aI (0)), (0, aR 71)] [] (aX12_23 σ) 48 13516) : WK 169 (.inl none) σ0 σz 188 [(0, aR 71)] [] σ 23 1218 := by
  obtain ⟨K, r, i, j, d⟩ := σ
  have h : K = 94 := h
  subst h
  have hr : r = RX12_23 := hr
  rw [hr] at kk ⊢
  exact segK_to (b := (none, (σz, 48, 13516))) rwX12_init ⟨Nat.le_of_ble_eq_true rfl, Nat.le_of_ble_eq_true rfl⟩ (cl := clN) CLK_N (pc2 := 195) (N := 200) (pc := 188) (l0 := [(0, aR 71)]) (lc := [(0, aR 71)]) (st0 := []) (st := []) (s1 := ((fun σ : SG => uR (uN (σ)) 71 26 95) (94, RX12_23, i, j, d), 24, 1221)) (s0 := ((94, RX12_23, i, j, d), 23, 1218)) (wkX12_24 rfl rfl kk) (fun _ => rfl)
def aX12_22 (σ : SG) : SG := aX12_23 (uR (uN (σ)) 71 25 94)
set_option maxRecDepth 100000 in
theorem wkX12_22 {σ σ0 σz : SG} (h : σ.1 = 93) (hr : σ.2.1 = RX12_22) (kk : WK 169 (.inl none) σ0 σz 424 [(1, aI (0)), (0, aR 71)] [] (aX12_22 σ) 48 13516) : WK 169 (.inl none) σ0 σz 180 [(0, aR 71)] [] σ 22 1191 := by
  obtain ⟨K, r, i, j, d⟩ := σ
  have h : K = 93 := h
  subst h
  have hr : r = RX12_22 := hr
  rw [hr] at kk ⊢
  exact segK_to (b := (none, (σz, 48, 13516))) rwX12_init ⟨Nat.le_of_ble_eq_true rfl, Nat.le_of_ble_eq_true rfl⟩ (cl := clN) CLK_N (pc2 := 188) (N := 200) (pc := 180) (l0 := [(0, aR 71)]) (lc := [(0, aR 71)]) (st0 := []) (st := []) (s1 := ((fun σ : SG => uR (uN (σ)) 71 25 94) (93, RX12_22, i, j, d), 23, 1218)) (s0 := ((93, RX12_22, i, j, d), 22, 1191)) (wkX12_23 rfl rfl kk) (fun _ => rfl)
def aX12_21 (σ : SG) : SG := aX12_22 (uR (uN (σ)) 71 24 93)
set_option maxRecDepth 100000 in
theorem wkX12_21 {σ σ0 σz : SG} (h : σ.1 = 92) (hr : σ.2.1 = RX12_21) (kk : WK 169 (.inl none) σ0 σz 424 [(1, aI (0)), (0, aR 71)] [] (aX12_21 σ) 48 13516) : WK 169 (.inl none) σ0 σz 173 [(0, aR 71)] [] σ 21 1188 := by
  obtain ⟨K, r, i, j, d⟩ := σ
  have h : K = 92 := h
  subst h
  have hr : r = RX12_21 := hr
  rw [hr] at kk ⊢
  exact segK_to (b := (none, (σz, 48, 13516))) rwX12_init ⟨Nat.le_of_ble_eq_true rfl, Nat.le_of_ble_eq_true rfl⟩ (cl := clN) CLK_N (pc2 := 180) (N := 200) (pc := 173) (l0 := [(0, aR 71)]) (lc := [(0, aR 71)]) (st0 := []) (st := []) (s1 := ((fun σ : SG => uR (uN (σ)) 71 24 93) (92, RX12_21, i, j, d), 22, 1191)) (s0 := ((92, RX12_21, i, j, d), 21, 1188)) (wkX12_22 rfl rfl kk) (fun _ => rfl)
def aX12_20 (σ : SG) : SG := aX12_21 (uR (uN (σ)) 71 23 92)
set_option maxRecDepth 100000 in
theorem wkX12_20 {σ σ0 σz : SG} (h : σ.1 = 91) (hr : σ.2.1 = RX12_20) (kk : WK 169 (.inl none) σ0 σz 424 [(1, aI (0)), (0, aR 71)] [] (aX12_20 σ) 48 13516) : WK 169 (.inl none) σ0 σz 166 [(0, aR 71)] [] σ 20 1185 := by
  obtain ⟨K, r, i, j, d⟩ := σ
  have h : K = 91 := h
  subst h
  have hr : r = RX12_20 := hr
  rw [hr] at kk ⊢
  exact segK_to (b := (none, (σz, 48, 13516))) rwX12_init ⟨Nat.le_of_ble_eq_true rfl, Nat.le_of_ble_eq_true rfl⟩ (cl := clN) CLK_N (pc2 := 173) (N := 200) (pc := 166) (l0 := [(0, aR 71)]) (lc := [(0, aR 71)]) (st0 := []) (st := []) (s1 := ((fun σ : SG => uR (uN (σ)) 71 23 92) (91, RX12_20, i, j, d), 21, 1188)) (s0 := ((91, RX12_20, i, j, d), 20, 1185)) (wkX12_21 rfl rfl kk) (fun _ => rfl)
def aX12_19 (σ : SG) : SG := aX12_20 (uR (uN (σ)) 71 22 91)
set_option maxRecDepth 100000 in
theorem wkX12_19 {σ σ0 σz : SG} (h : σ.1 = 90) (hr : σ.2.1 = RX12_19) (kk : WK 169 (.inl none) σ0 σz 424 [(1, aI (0)), (0, aR 71)] [] (aX12_19 σ) 48 13516) : WK 169 (.inl none) σ0 σz 159 [(0, aR 71)] [] σ 19 1182 := by
  obtain ⟨K, r, i, j, d⟩ := σ
  have h : K = 90 := h
  subst h
  have hr : r = RX12_19 := hr
  rw [hr] at kk ⊢
  exact segK_to (b := (none, (σz, 48, 13516))) rwX12_init ⟨Nat.le_of_ble_eq_true rfl, Nat.le_of_ble_eq_true rfl⟩ (cl := clN) CLK_N (pc2 := 166) (N := 200) (pc := 159) (l0 := [(0, aR 71)]) (lc := [(0, aR 71)]) (st0 := []) (st := []) (s1 := ((fun σ : SG => uR (uN (σ)) 71 22 91) (90, RX12_19, i, j, d), 20, 1185)) (s0 := ((90, RX12_19, i, j, d), 19, 1182)) (wkX12_20 rfl rfl kk) (fun _ => rfl)
def aX12_18 (σ : SG) : SG := aX12_19 (uR (uN (σ)) 71 20 90)
set_option maxRecDepth 100000 in
theorem wkX12_18 {σ σ0 σz : SG} (h : σ.1 = 89) (hr : σ.2.1 = RX12_18) (kk : WK 169 (.inl none) σ0 σz 424 [(1, aI (0)), (0, aR 71)] [] (aX12_18 σ) 48 13516) : WK 169 (.inl none) σ0 σz 151 [(0, aR 71)] [] σ 18 1173 := by
  obtain ⟨K, r, i, j, d⟩ := σ
  have h : K = 89 := h
  subst h
  have hr : r = RX12_18 := hr
  rw [hr] at kk ⊢
  exact segK_to (b := (none, (σz, 48, 13516))) rwX12_init ⟨Nat.le_of_ble_eq_true rfl, Nat.le_of_ble_eq_true rfl⟩ (cl := clN) CLK_N (pc2 := 159) (N := 200) (pc := 151) (l0 := [(0, aR 71)]) (lc := [(0, aR 71)]) (st0 := []) (st := []) (s1 := ((fun σ : SG => uR (uN (σ)) 71 20 90) (89, RX12_18, i, j, d), 19, 1182)) (s0 := ((89, RX12_18, i, j, d), 18, 1173)) (wkX12_19 rfl rfl kk) (fun _ => rfl)
def aX12_17 (σ : SG) : SG := aX12_18 (uR (uN (σ)) 71 19 89)
set_option maxRecDepth 100000 in
theorem wkX12_17 {σ σ0 σz : SG} (h : σ.1 = 88) (hr : σ.2.1 = RX12_17) (kk : WK 169 (.inl none) σ0 σz 424 [(1, aI (0)), (0, aR 71)] [] (aX12_17 σ) 48 13516) : WK 169 (.inl none) σ0 σz 143 [(0, aR 71)] [] σ 17 1164 := by
  obtain ⟨K, r, i, j, d⟩ := σ
  have h : K = 88 := h
  subst h
  have hr : r = RX12_17 := hr
  rw [hr] at kk ⊢
  exact segK_to (b := (none, (σz, 48, 13516))) rwX12_init ⟨Nat.le_of_ble_eq_true rfl, Nat.le_of_ble_eq_true rfl⟩ (cl := clN) CLK_N (pc2 := 151) (N := 200) (pc := 143) (l0 := [(0, aR 71)]) (lc := [(0, aR 71)]) (st0 := []) (st := []) (s1 := ((fun σ : SG => uR (uN (σ)) 71 19 89) (88, RX12_17, i, j, d), 18, 1173)) (s0 := ((88, RX12_17, i, j, d), 17, 1164)) (wkX12_18 rfl rfl kk) (fun _ => rfl)
def aX12_16 (σ : SG) : SG := aX12_17 (uR (uN (σ)) 71 18 88)
set_option maxRecDepth 100000 in
theorem wkX12_16 {σ σ0 σz : SG} (h : σ.1 = 87) (hr : σ.2.1 = RX12_16) (kk : WK 169 (.inl none) σ0 σz 424 [(1, aI (0)), (0, aR 71)] [] (aX12_16 σ) 48 13516) : WK 169 (.inl none) σ0 σz 135 [(0, aR 71)] [] σ 16 1155 := by
  obtain ⟨K, r, i, j, d⟩ := σ
  have h : K = 87 := h
  subst h
  have hr : r = RX12_16 := hr
  rw [hr] at kk ⊢
  exact segK_to (b := (none, (σz, 48, 13516))) rwX12_init ⟨Nat.le_of_ble_eq_true rfl, Nat.le_of_ble_eq_true rfl⟩ (cl := clN) CLK_N (pc2 := 143) (N := 200) (pc := 135) (l0 := [(0, aR 71)]) (lc := [(0, aR 71)]) (st0 := []) (st := []) (s1 := ((fun σ : SG => uR (uN (σ)) 71 18 88) (87, RX12_16, i, j, d), 17, 1164)) (s0 := ((87, RX12_16, i, j, d), 16, 1155)) (wkX12_17 rfl rfl kk) (fun _ => rfl)
def aX12_15 (σ : SG) : SG := aX12_16 (uR (uN (σ)) 71 17 87)
set_option maxRecDepth 100000 in
theorem wkX12_15 {σ σ0 σz : SG} (h : σ.1 = 86) (hr : σ.2.1 = RX12_15) (kk : WK 169 (.inl none) σ0 σz 424 [(1, aI (0)), (0, aR 71)] [] (aX12_15 σ) 48 13516) : WK 169 (.inl none) σ0 σz 127 [(0, aR 71)] [] σ 15 1146 := by
  obtain ⟨K, r, i, j, d⟩ := σ
  have h : K = 86 := h
  subst h
  have hr : r = RX12_15 := hr
  rw [hr] at kk ⊢
  exact segK_to (b := (none, (σz, 48, 13516))) rwX12_init ⟨Nat.le_of_ble_eq_true rfl, Nat.le_of_ble_eq_true rfl⟩ (cl := clN) CLK_N (pc2 := 135) (N := 200) (pc := 127) (l0 := [(0, aR 71)]) (lc := [(0, aR 71)]) (st0 := []) (st := []) (s1 := ((fun σ : SG => uR (uN (σ)) 71 17 87) (86, RX12_15, i, j, d), 16, 1155)) (s0 := ((86, RX12_15, i, j, d), 15, 1146)) (wkX12_16 rfl rfl kk) (fun _ => rfl)
def aX12_14 (σ : SG) : SG := aX12_15 (uR (uN (σ)) 71 16 86)
set_option maxRecDepth 100000 in
theorem wkX12_14 {σ σ0 σz : SG} (h : σ.1 = 85) (hr : σ.2.1 = RX12_14) (kk : WK 169 (.inl none) σ0 σz 424 [(1, aI (0)), (0, aR 71)] [] (aX12_14 σ) 48 13516) : WK 169 (.inl none) σ0 σz 119 [(0, aR 71)] [] σ 14 1137 := by
  obtain ⟨K, r, i, j, d⟩ := σ
  have h : K = 85 := h
  subst h
  have hr : r = RX12_14 := hr
  rw [hr] at kk ⊢
  exact segK_to (b := (none, (σz, 48, 13516))) rwX12_init ⟨Nat.le_of_ble_eq_true rfl, Nat.le_of_ble_eq_true rfl⟩ (cl := clN) CLK_N (pc2 := 127) (N := 200) (pc := 119) (l0 := [(0, aR 71)]) (lc := [(0, aR 71)]) (st0 := []) (st := []) (s1 := ((fun σ : SG => uR (uN (σ)) 71 16 86) (85, RX12_14, i, j, d), 15, 1146)) (s0 := ((85, RX12_14, i, j, d), 14, 1137)) (wkX12_15 rfl rfl kk) (fun _ => rfl)
def aX12_13 (σ : SG) : SG := aX12_14 (uR (uN (σ)) 71 15 85)
set_option maxRecDepth 100000 in
theorem wkX12_13 {σ σ0 σz : SG} (h : σ.1 = 84) (hr : σ.2.1 = RX12_13) (kk : WK 169 (.inl none) σ0 σz 424 [(1, aI (0)), (0, aR 71)] [] (aX12_13 σ) 48 13516) : WK 169 (.inl none) σ0 σz 111 [(0, aR 71)] [] σ 13 1128 := by
  obtain ⟨K, r, i, j, d⟩ := σ
  have h : K = 84 := h
  subst h
  have hr : r = RX12_13 := hr
  rw [hr] at kk ⊢
  exact segK_to (b := (none, (σz, 48, 13516))) rwX12_init ⟨Nat.le_of_ble_eq_true rfl, Nat.le_of_ble_eq_true rfl⟩ (cl := clN) CLK_N (pc2 := 119) (N := 200) (pc := 111) (l0 := [(0, aR 71)]) (lc := [(0, aR 71)]) (st0 := []) (st := []) (s1 := ((fun σ : SG => uR (uN (σ)) 71 15 85) (84, RX12_13, i, j, d), 14, 1137)) (s0 := ((84, RX12_13, i, j, d), 13, 1128)) (wkX12_14 rfl rfl kk) (fun _ => rfl)
def aX12_12 (σ : SG) : SG := aX12_13 (uR (uN (σ)) 71 14 84)
set_option maxRecDepth 100000 in
theorem wkX12_12 {σ σ0 σz : SG} (h : σ.1 = 83) (hr : σ.2.1 = RX12_12) (kk : WK 169 (.inl none) σ0 σz 424 [(1, aI (0)), (0, aR 71)] [] (aX12_12 σ) 48 13516) : WK 169 (.inl none) σ0 σz 103 [(0, aR 71)] [] σ 12 1119 := by
  obtain ⟨K, r, i, j, d⟩ := σ
  have h : K = 83 := h
  subst h
  have hr : r = RX12_12 := hr
  rw [hr] at kk ⊢
  exact segK_to (b := (none, (σz, 48, 13516))) rwX12_init ⟨Nat.le_of_ble_eq_true rfl, Nat.le_of_ble_eq_true rfl⟩ (cl := clN) CLK_N (pc2 := 111) (N := 200) (pc := 103) (l0 := [(0, aR 71)]) (lc := [(0, aR 71)]) (st0 := []) (st := []) (s1 := ((fun σ : SG => uR (uN (σ)) 71 14 84) (83, RX12_12, i, j, d), 13, 1128)) (s0 := ((83, RX12_12, i, j, d), 12, 1119)) (wkX12_13 rfl rfl kk) (fun _ => rfl)
def aX12_11 (σ : SG) : SG := aX12_12 (uR (uN (σ)) 71 13 83)
set_option maxRecDepth 100000 in
theorem wkX12_11 {σ σ0 σz : SG} (h : σ.1 = 82) (hr : σ.2.1 = RX12_11) (kk : WK 169 (.inl none) σ0 σz 424 [(1, aI (0)), (0, aR 71)] [] (aX12_11 σ) 48 13516) : WK 169 (.inl none) σ0 σz 95 [(0, aR 71)] [] σ 11 1110 := by
  obtain ⟨K, r, i, j, d⟩ := σ
  have h : K = 82 := h
  subst h
  have hr : r = RX12_11 := hr
  rw [hr] at kk ⊢
  exact segK_to (b := (none, (σz, 48, 13516))) rwX12_init ⟨Nat.le_of_ble_eq_true rfl, Nat.le_of_ble_eq_true rfl⟩ (cl := clN) CLK_N (pc2 := 103) (N := 200) (pc := 95) (l0 := [(0, aR 71)]) (lc := [(0, aR 71)]) (st0 := []) (st := []) (s1 := ((fun σ : SG => uR (uN (σ)) 71 13 83) (82, RX12_11, i, j, d), 12, 1119)) (s0 := ((82, RX12_11, i, j, d), 11, 1110)) (wkX12_12 rfl rfl kk) (fun _ => rfl)
def aX12_10 (σ : SG) : SG := aX12_11 (uR (uN (σ)) 71 12 82)
set_option maxRecDepth 100000 in
theorem wkX12_10 {σ σ0 σz : SG} (h : σ.1 = 81) (hr : σ.2.1 = RX12_10) (kk : WK 169 (.inl none) σ0 σz 424 [(1, aI (0)), (0, aR 71)] [] (aX12_10 σ) 48 13516) : WK 169 (.inl none) σ0 σz 87 [(0, aR 71)] [] σ 10 1101 := by
  obtain ⟨K, r, i, j, d⟩ := σ
  have h : K = 81 := h
  subst h
  have hr : r = RX12_10 := hr
  rw [hr] at kk ⊢
  exact segK_to (b := (none, (σz, 48, 13516))) rwX12_init ⟨Nat.le_of_ble_eq_true rfl, Nat.le_of_ble_eq_true rfl⟩ (cl := clN) CLK_N (pc2 := 95) (N := 200) (pc := 87) (l0 := [(0, aR 71)]) (lc := [(0, aR 71)]) (st0 := []) (st := []) (s1 := ((fun σ : SG => uR (uN (σ)) 71 12 82) (81, RX12_10, i, j, d), 11, 1110)) (s0 := ((81, RX12_10, i, j, d), 10, 1101)) (wkX12_11 rfl rfl kk) (fun _ => rfl)
def aX12_9 (σ : SG) : SG := aX12_10 (uR (uN (σ)) 71 11 81)
set_option maxRecDepth 100000 in
theorem wkX12_9 {σ σ0 σz : SG} (h : σ.1 = 80) (hr : σ.2.1 = RX12_9) (kk : WK 169 (.inl none) σ0 σz 424 [(1, aI (0)), (0, aR 71)] [] (aX12_9 σ) 48 13516) : WK 169 (.inl none) σ0 σz 79 [(0, aR 71)] [] σ 9 1092 := by
  obtain ⟨K, r, i, j, d⟩ := σ
  have h : K = 80 := h
  subst h
  have hr : r = RX12_9 := hr
  rw [hr] at kk ⊢
  exact segK_to (b := (none, (σz, 48, 13516))) rwX12_init ⟨Nat.le_of_ble_eq_true rfl, Nat.le_of_ble_eq_true rfl⟩ (cl := clN) CLK_N (pc2 := 87) (N := 200) (pc := 79) (l0 := [(0, aR 71)]) (lc := [(0, aR 71)]) (st0 := []) (st := []) (s1 := ((fun σ : SG => uR (uN (σ)) 71 11 81) (80, RX12_9, i, j, d), 10, 1101)) (s0 := ((80, RX12_9, i, j, d), 9, 1092)) (wkX12_10 rfl rfl kk) (fun _ => rfl)
def aX12_8 (σ : SG) : SG := aX12_9 (uR (uN (σ)) 71 8 80)
set_option maxRecDepth 100000 in
theorem wkX12_8 {σ σ0 σz : SG} (h : σ.1 = 79) (hr : σ.2.1 = RX12_8) (kk : WK 169 (.inl none) σ0 σz 424 [(1, aI (0)), (0, aR 71)] [] (aX12_8 σ) 48 13516) : WK 169 (.inl none) σ0 σz 70 [(0, aR 71)] [] σ 8 836 := by
  obtain ⟨K, r, i, j, d⟩ := σ
  have h : K = 79 := h
  subst h
  have hr : r = RX12_8 := hr
  rw [hr] at kk ⊢
  exact segK_to (b := (none, (σz, 48, 13516))) rwX12_init ⟨Nat.le_of_ble_eq_true rfl, Nat.le_of_ble_eq_true rfl⟩ (cl := clN) CLK_N (pc2 := 79) (N := 200) (pc := 70) (l0 := [(0, aR 71)]) (lc := [(0, aR 71)]) (st0 := []) (st := []) (s1 := ((fun σ : SG => uR (uN (σ)) 71 8 80) (79, RX12_8, i, j, d), 9, 1092)) (s0 := ((79, RX12_8, i, j, d), 8, 836)) (wkX12_9 rfl rfl kk) (fun _ => rfl)
def aX12_7 (σ : SG) : SG := aX12_8 (uR (uN (σ)) 71 7 79)
set_option maxRecDepth 100000 in
theorem wkX12_7 {σ σ0 σz : SG} (h : σ.1 = 78) (hr : σ.2.1 = RX12_7) (kk : WK 169 (.inl none) σ0 σz 424 [(1, aI (0)), (0, aR 71)] [] (aX12_7 σ) 48 13516) : WK 169 (.inl none) σ0 σz 61 [(0, aR 71)] [] σ 7 580 := by
  obtain ⟨K, r, i, j, d⟩ := σ
  have h : K = 78 := h
  subst h
  have hr : r = RX12_7 := hr
  rw [hr] at kk ⊢
  exact segK_to (b := (none, (σz, 48, 13516))) rwX12_init ⟨Nat.le_of_ble_eq_true rfl, Nat.le_of_ble_eq_true rfl⟩ (cl := clN) CLK_N (pc2 := 70) (N := 200) (pc := 61) (l0 := [(0, aR 71)]) (lc := [(0, aR 71)]) (st0 := []) (st := []) (s1 := ((fun σ : SG => uR (uN (σ)) 71 7 79) (78, RX12_7, i, j, d), 8, 836)) (s0 := ((78, RX12_7, i, j, d), 7, 580)) (wkX12_8 rfl rfl kk) (fun _ => rfl)
def aX12_6 (σ : SG) : SG := aX12_7 (uR (uN (σ)) 71 6 78)
set_option maxRecDepth 100000 in
theorem wkX12_6 {σ σ0 σz : SG} (h : σ.1 = 77) (hr : σ.2.1 = RX12_6) (kk : WK 169 (.inl none) σ0 σz 424 [(1, aI (0)), (0, aR 71)] [] (aX12_6 σ) 48 13516) : WK 169 (.inl none) σ0 σz 52 [(0, aR 71)] [] σ 6 324 := by
  obtain ⟨K, r, i, j, d⟩ := σ
  have h : K = 77 := h
  subst h
  have hr : r = RX12_6 := hr
  rw [hr] at kk ⊢
  exact segK_to (b := (none, (σz, 48, 13516))) rwX12_init ⟨Nat.le_of_ble_eq_true rfl, Nat.le_of_ble_eq_true rfl⟩ (cl := clN) CLK_N (pc2 := 61) (N := 200) (pc := 52) (l0 := [(0, aR 71)]) (lc := [(0, aR 71)]) (st0 := []) (st := []) (s1 := ((fun σ : SG => uR (uN (σ)) 71 6 78) (77, RX12_6, i, j, d), 7, 580)) (s0 := ((77, RX12_6, i, j, d), 6, 324)) (wkX12_7 rfl rfl kk) (fun _ => rfl)
def aX12_5 (σ : SG) : SG := aX12_6 (uR (uN (σ)) 71 5 77)
set_option maxRecDepth 100000 in
theorem wkX12_5 {σ σ0 σz : SG} (h : σ.1 = 76) (hr : σ.2.1 = RX12_5) (kk : WK 169 (.inl none) σ0 σz 424 [(1, aI (0)), (0, aR 71)] [] (aX12_5 σ) 48 13516) : WK 169 (.inl none) σ0 σz 44 [(0, aR 71)] [] σ 5 300 := by
  obtain ⟨K, r, i, j, d⟩ := σ
  have h : K = 76 := h
  subst h
  have hr : r = RX12_5 := hr
  rw [hr] at kk ⊢
  exact segK_to (b := (none, (σz, 48, 13516))) rwX12_init ⟨Nat.le_of_ble_eq_true rfl, Nat.le_of_ble_eq_true rfl⟩ (cl := clN) CLK_N (pc2 := 52) (N := 200) (pc := 44) (l0 := [(0, aR 71)]) (lc := [(0, aR 71)]) (st0 := []) (st := []) (s1 := ((fun σ : SG => uR (uN (σ)) 71 5 77) (76, RX12_5, i, j, d), 6, 324)) (s0 := ((76, RX12_5, i, j, d), 5, 300)) (wkX12_6 rfl rfl kk) (fun _ => rfl)
def aX12_4 (σ : SG) : SG := aX12_5 (uR (uN (σ)) 71 4 76)
set_option maxRecDepth 100000 in
theorem wkX12_4 {σ σ0 σz : SG} (h : σ.1 = 75) (hr : σ.2.1 = RX12_4) (kk : WK 169 (.inl none) σ0 σz 424 [(1, aI (0)), (0, aR 71)] [] (aX12_4 σ) 48 13516) : WK 169 (.inl none) σ0 σz 36 [(0, aR 71)] [] σ 4 240 := by
  obtain ⟨K, r, i, j, d⟩ := σ
  have h : K = 75 := h
  subst h
  have hr : r = RX12_4 := hr
  rw [hr] at kk ⊢
  exact segK_to (b := (none, (σz, 48, 13516))) rwX12_init ⟨Nat.le_of_ble_eq_true rfl, Nat.le_of_ble_eq_true rfl⟩ (cl := clN) CLK_N (pc2 := 44) (N := 200) (pc := 36) (l0 := [(0, aR 71)]) (lc := [(0, aR 71)]) (st0 := []) (st := []) (s1 := ((fun σ : SG => uR (uN (σ)) 71 4 76) (75, RX12_4, i, j, d), 5, 300)) (s0 := ((75, RX12_4, i, j, d), 4, 240)) (wkX12_5 rfl rfl kk) (fun _ => rfl)
def aX12_3 (σ : SG) : SG := aX12_4 (uR (uN (σ)) 71 3 75)
set_option maxRecDepth 100000 in
theorem wkX12_3 {σ σ0 σz : SG} (h : σ.1 = 74) (hr : σ.2.1 = RX12_3) (kk : WK 169 (.inl none) σ0 σz 424 [(1, aI (0)), (0, aR 71)] [] (aX12_3 σ) 48 13516) : WK 169 (.inl none) σ0 σz 28 [(0, aR 71)] [] σ 3 180 := by
  obtain ⟨K, r, i, j, d⟩ := σ
  have h : K = 74 := h
  subst h
  have hr : r = RX12_3 := hr
  rw [hr] at kk ⊢
  exact segK_to (b := (none, (σz, 48, 13516))) rwX12_init ⟨Nat.le_of_ble_eq_true rfl, Nat.le_of_ble_eq_true rfl⟩ (cl := clN) CLK_N (pc2 := 36) (N := 200) (pc := 28) (l0 := [(0, aR 71)]) (lc := [(0, aR 71)]) (st0 := []) (st := []) (s1 := ((fun σ : SG => uR (uN (σ)) 71 3 75) (74, RX12_3, i, j, d), 4, 240)) (s0 := ((74, RX12_3, i, j, d), 3, 180)) (wkX12_4 rfl rfl kk) (fun _ => rfl)
def aX12_2 (σ : SG) : SG := aX12_3 (uR (uN (σ)) 71 2 74)
set_option maxRecDepth 100000 in
theorem wkX12_2 {σ σ0 σz : SG} (h : σ.1 = 73) (hr : σ.2.1 = RX12_2) (kk : WK 169 (.inl none) σ0 σz 424 [(1, aI (0)), (0, aR 71)] [] (aX12_2 σ) 48 13516) : WK 169 (.inl none) σ0 σz 20 [(0, aR 71)] [] σ 2 120 := by
  obtain ⟨K, r, i, j, d⟩ := σ
  have h : K = 73 := h
  subst h
  have hr : r = RX12_2 := hr
  rw [hr] at kk ⊢
  exact segK_to (b := (none, (σz, 48, 13516))) rwX12_init ⟨Nat.le_of_ble_eq_true rfl, Nat.le_of_ble_eq_true rfl⟩ (cl := clN) CLK_N (pc2 := 28) (N := 200) (pc := 20) (l0 := [(0, aR 71)]) (lc := [(0, aR 71)]) (st0 := []) (st := []) (s1 := ((fun σ : SG => uR (uN (σ)) 71 2 74) (73, RX12_2, i, j, d), 3, 180)) (s0 := ((73, RX12_2, i, j, d), 2, 120)) (wkX12_3 rfl rfl kk) (fun _ => rfl)
def aX12_1 (σ : SG) : SG := aX12_2 (uR (uN (σ)) 71 1 73)
set_option maxRecDepth 100000 in
theorem wkX12_1 {σ σ0 σz : SG} (h : σ.1 = 72) (hr : σ.2.1 = RX12_1) (kk : WK 169 (.inl none) σ0 σz 424 [(1, aI (0)), (0, aR 71)] [] (aX12_1 σ) 48 13516) : WK 169 (.inl none) σ0 σz 12 [(0, aR 71)] [] σ 1 60 := by
  obtain ⟨K, r, i, j, d⟩ := σ
  have h : K = 72 := h
  subst h
  have hr : r = RX12_1 := hr
  rw [hr] at kk ⊢
  exact segK_to (b := (none, (σz, 48, 13516))) rwX12_init ⟨Nat.le_of_ble_eq_true rfl, Nat.le_of_ble_eq_true rfl⟩ (cl := clN) CLK_N (pc2 := 20) (N := 200) (pc := 12) (l0 := [(0, aR 71)]) (lc := [(0, aR 71)]) (st0 := []) (st := []) (s1 := ((fun σ : SG => uR (uN (σ)) 71 1 73) (72, RX12_1, i, j, d), 2, 120)) (s0 := ((72, RX12_1, i, j, d), 1, 60)) (wkX12_2 rfl rfl kk) (fun _ => rfl)
def aX12_0 (σ : SG) : SG := aX12_1 (uR (uN (σ)) 71 0 72)
set_option maxRecDepth 100000 in
theorem wkX12_0 {σ σ0 σz : SG} (h : σ.1 = 71) (hr : σ.2.1 = RX12_0) (kk : WK 169 (.inl none) σ0 σz 424 [(1, aI (0)), (0, aR 71)] [] (aX12_0 σ) 48 13516) : WK 169 (.inl none) σ0 σz 0 [(0, aR 71)] [] σ 0 0 := by
  obtain ⟨K, r, i, j, d⟩ := σ
  have h : K = 71 := h
  subst h
  have hr : r = RX12_0 := hr
  rw [hr] at kk ⊢
  exact segK_to (b := (none, (σz, 48, 13516))) rwX12_init ⟨Nat.le_of_ble_eq_true rfl, Nat.le_of_ble_eq_true rfl⟩ (cl := clN) CLK_N (pc2 := 12) (N := 200) (pc := 0) (l0 := [(0, aR 71)]) (lc := [(0, aR 71)]) (st0 := []) (st := []) (s1 := ((fun σ : SG => uR (uN (σ)) 71 0 72) (71, RX12_0, i, j, d), 1, 60)) (s0 := ((71, RX12_0, i, j, d), 0, 0)) (wkX12_1 rfl rfl kk) (fun _ => rfl)
set_option maxRecDepth 100000 in
theorem a12_ok {r i j d} : (aX12_0 (71, r, i, j, d)).1 = 119 ∧ ((aX12_0 (71, r, i, j, d)).2.2.1 71 9 = i 71 9) := ⟨rfl, rfl⟩
set_option maxRecDepth 100000 in
theorem a12_r {i j d} : (aX12_0 (71, rZ12, i, j, d)).2.1 = RX12_54 := rfl
theorem mcX12 {i j : Nat → Int → Int} {d : Nat → Int → UInt64} {b : HH} {i1 j1 : Nat → Int → Int} {d1 : Nat → Int → UInt64} (ha : aX12_0 (71, rZ12, i, j, d) = (119, RX12_54, i1, j1, d1)) (b1 : nX12_ways ((fillW 77 24 100 (119, RX12_54, i1, j1, d1)).2.2.1, j1) = some b) : MCT 169 [] [aR 71] (71, rZ12, i, j, d) (.inl none) (abH 71 119 (119, rRK, (fillW 77 24 100 (119, RX12_54, i1, j1, d1)).2.2.1, j1, d1) b) := by
  refine mct_of (by decide) (MFok 169 (by decide +kernel)) (fun _ => Nat.le_of_ble_eq_true rfl) (wkX12_0 rfl rfl ?_)
  rw [ha]
  have q := wkX12_l (σ0 := (71, rZ12, i, j, d)) (i := i1) (j := j1) (d := d1) (wkX12_e b1) 24 0 (by omega) (by omega) [(1, aI (0)), (0, aR 71)] (List.mem_cons_of_mem _ List.mem_cons_self) List.mem_cons_self
  rw [fill_0] at q
  exact q

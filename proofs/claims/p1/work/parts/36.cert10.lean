/-! THE CHECKER: contracts with their certificates (printed by wip/gen/p1gen.py) -/
theorem k746_t1 : ckRun es_149 k746_a k746_c k746_g2 4 4 147 0 0 (ckEndF 1 0 0 k746.2.1 k746.2.2.1) ckKs ckKc 200000 0 5 k746_u1.2.1 [] = true := by decide +kernel
theorem k746_t2 : ckRun es_149 k746_a k746_c k746_g3 4 4 147 0 0 (ckEndF 1 0 0 k746.2.1 k746.2.2.1) ckKs ckKc 200000 0 5 k746_u2.2.1 [] = true := by decide +kernel
theorem k746_t3 : ckRun es_149 k746_a k746_c k746_g4 4 4 147 0 0 (ckEndF 1 0 0 k746.2.1 k746.2.2.1) ckKs ckKc 200000 0 5 k746_u3.2.1 [] = true := by decide +kernel
theorem k746_t4 : ckRun es_149 k746_a k746_c k746_g5 4 4 147 0 0 (ckEndF 1 0 0 k746.2.1 k746.2.2.1) ckKs ckKc 200000 0 5 k746_u4.2.1 [] = true := by decide +kernel
theorem k746_t5 : ckRun es_149 k746_a k746_c k746_g6 4 4 147 0 0 (ckEndF 1 0 0 k746.2.1 k746.2.2.1) ckKs ckKc 200000 0 5 k746_u5.2.1 [] = true := by decide +kernel
theorem k746_t6 : ckRun es_149 k746_a k746_c k746_g7 4 4 147 0 0 (ckEndF 1 0 0 k746.2.1 k746.2.2.1) ckKs ckKc 200000 0 5 k746_u6.2.1 [] = true := by decide +kernel
theorem k746_t7 : ckRun es_149 k746_a k746_c k746_g8 4 4 147 0 0 (ckEndF 1 0 0 k746.2.1 k746.2.2.1) ckKs ckKc 200000 0 5 k746_u7.2.1 [] = true := by decide +kernel
theorem k746_t8 : ckRun es_149 k746_a k746_c k746_g9 4 4 147 0 0 (ckEndF 1 0 0 k746.2.1 k746.2.2.1) ckKs ckKc 200000 0 5 k746_u8.2.1 [] = true := by decide +kernel
theorem k746_t9 : ckRun es_149 k746_a k746_c k746_g10 4 4 147 0 0 (ckEndF 1 0 0 k746.2.1 k746.2.2.1) ckKs ckKc 200000 0 5 k746_u9.2.1 [] = true := by decide +kernel
theorem k746_t10 : ckRun es_149 k746_a k746_c k746_g11 4 4 147 0 0 (ckEndF 1 0 0 k746.2.1 k746.2.2.1) ckKs ckKc 200000 0 5 k746_u10.2.1 [] = true := by decide +kernel
theorem k746_t11 : ckRun es_149 k746_a k746_c k746_g12 4 4 147 0 0 (ckEndF 1 0 0 k746.2.1 k746.2.2.1) ckKs ckKc 200000 0 5 k746_u11.2.1 [] = true := by decide +kernel
theorem k746_t12 : ckRun es_149 k746_a k746_c k746_g13 4 4 147 0 0 (ckEndF 1 0 0 k746.2.1 k746.2.2.1) ckKs ckKc 200000 0 5 k746_u12.2.1 [] = true := by decide +kernel
theorem k746_t13 : ckRun es_149 k746_a k746_c k746_g14 4 4 147 0 0 (ckEndF 1 0 0 k746.2.1 k746.2.2.1) ckKs ckKc 200000 0 5 k746_u13.2.1 [] = true := by decide +kernel
theorem k746_t14 : ckRun es_149 k746_a k746_c k746_g15 4 4 147 0 0 (ckEndF 1 0 0 k746.2.1 k746.2.2.1) ckKs ckKc 200000 0 5 k746_u14.2.1 [] = true := by decide +kernel
theorem k746_t15 : ckRun es_149 k746_a k746_c k746_g16 4 4 147 0 0 (ckEndF 1 0 0 k746.2.1 k746.2.2.1) ckKs ckKc 200000 0 5 k746_u15.2.1 [] = true := by decide +kernel
theorem k746_t16 : ckRun es_149 k746_a k746_c k746_g17 4 4 147 0 0 (ckEndF 1 0 0 k746.2.1 k746.2.2.1) ckKs ckKc 200000 0 5 k746_u16.2.1 [] = true := by decide +kernel
theorem k746_t17 : ckRun es_149 k746_a k746_c k746_g18 4 4 147 0 0 (ckEndF 1 0 0 k746.2.1 k746.2.2.1) ckKs ckKc 200000 0 5 k746_u17.2.1 [] = true := by decide +kernel
theorem k746_t18 : ckRun es_149 k746_a k746_c k746_g19 4 4 147 0 0 (ckEndF 1 0 0 k746.2.1 k746.2.2.1) ckKs ckKc 200000 0 5 k746_u18.2.1 [] = true := by decide +kernel
theorem k746_t19 : ckRun es_149 k746_a k746_c k746_g20 4 4 147 0 0 (ckEndF 1 0 0 k746.2.1 k746.2.2.1) ckKs ckKc 200000 0 5 k746_u19.2.1 [] = true := by decide +kernel
theorem k746_t20 : ckRun es_149 k746_a k746_c k746_g21 4 4 147 0 0 (ckEndF 1 0 0 k746.2.1 k746.2.2.1) ckKs ckKc 200000 0 5 k746_u20.2.1 [] = true := by decide +kernel
theorem k746_t21 : ckRun es_149 k746_a k746_c k746_g22 4 4 147 0 0 (ckEndF 1 0 0 k746.2.1 k746.2.2.1) ckKs ckKc 200000 0 5 k746_u21.2.1 [] = true := by decide +kernel
theorem k746_t22 : ckRun es_149 k746_a k746_c k746_g23 4 4 147 0 0 (ckEndF 1 0 0 k746.2.1 k746.2.2.1) ckKs ckKc 200000 0 5 k746_u22.2.1 [] = true := by decide +kernel
theorem k746_t23 : ckRun es_149 k746_a k746_c k746_g24 4 4 147 0 0 (ckEndF 1 0 0 k746.2.1 k746.2.2.1) ckKs ckKc 200000 0 5 k746_u23.2.1 [] = true := by decide +kernel
theorem k746_t24 : ckRun es_149 k746_a k746_c k746_g25 4 4 147 0 0 (ckEndF 1 0 0 k746.2.1 k746.2.2.1) ckKs ckKc 200000 0 5 k746_u24.2.1 [] = true := by decide +kernel
theorem k746_t25 : ckRun es_149 k746_a k746_c k746_g26 4 4 147 0 0 (ckEndF 1 0 0 k746.2.1 k746.2.2.1) ckKs ckKc 200000 0 5 k746_u25.2.1 [] = true := by decide +kernel
theorem k746_t26 : ckRun es_149 k746_a k746_c [] 4 4 147 0 0 (ckEndF 1 0 0 k746.2.1 k746.2.2.1) ckKs ckKc 200000 0 5 k746_u26.2.1 [] = true := by decide +kernel
theorem k746_ok (l : Launch) : ckCtrOk l ckMT ckTW ckCL k746 := mt_149 (as := k746_a) (cs := k746_c) (gx := k746_g0) (f := 200000) rfl (ckHc (k696_ok l) (ckHc (k698_ok l) (ckHc (k700_ok l) (ckHc (k702_ok l) (ckHc (k704_ok l) (ckHc (k706_ok l) (ckHc (k708_ok l) (ckHc (k710_ok l) (ckHc (k712_ok l) (ckHc (k714_ok l) (ckHc (k716_ok l) (ckHc (k718_ok l) (ckHc (k720_ok l) (ckHc (k722_ok l) (ckHc (k724_ok l) (ckHc (k726_ok l) (ckHc (k728_ok l) (ckHc (k730_ok l) (ckHc (k732_ok l) (ckHc (k734_ok l) (ckHc (k736_ok l) (ckHc (k738_ok l) (ckHc (k740_ok l) (ckHc (k742_ok l) (ckHc (k744_ok l) (ckHc (k745_ok l) (fun _ h => absurd h List.not_mem_nil))))))))))))))))))))))))))) ⟨k746_t0, ⟨k746_t1, ⟨k746_t2, ⟨k746_t3, ⟨k746_t4, ⟨k746_t5, ⟨k746_t6, ⟨k746_t7, ⟨k746_t8, ⟨k746_t9, ⟨k746_t10, ⟨k746_t11, ⟨k746_t12, ⟨k746_t13, ⟨k746_t14, ⟨k746_t15, ⟨k746_t16, ⟨k746_t17, ⟨k746_t18, ⟨k746_t19, ⟨k746_t20, ⟨k746_t21, ⟨k746_t22, ⟨k746_t23, ⟨k746_t24, ⟨k746_t25, ⟨k746_t26, True.intro⟩⟩⟩⟩⟩⟩⟩⟩⟩⟩⟩⟩⟩⟩⟩⟩⟩⟩⟩⟩⟩⟩⟩⟩⟩⟩⟩ (by decide +kernel)
-- FarMachine.warm
noncomputable def k747 : ckCtr := (28, ([(0, (1, 0)), (1, (0, 0))], [], dC110, dT111, [([(7, (0, 0))], [], []), ([(8, (0, 0))], [], [])], [], [], [], 0, 0), [([], [(0, 10)], [(2, .inr (0, 2, 2))], [], [(0, (-2147483648, -1))], [(-4, -4), (1, 1)], [([(4, (0, 0)), (5, (1, 1)), (7, (0, 0))], [(4, 11)], [])], [], [], [], 0, 0), ([], [(0, 10)], [(2, .inr (0, 2, 2))], [], [(0, (100, 2147483647))], [(-6, -6), (1, 1)], [([(6, (0, 0)), (7, (1, 1))], [(6, 11)], [])], [], [], [], 0, 0), ([], [(0, 10)], [], [], [(0, (1, 2))], [(25, 25)], [], [], [], [], 0, 0), ([], [(0, 6)], [], [], [(0, (3, 4))], [], [], [], [], [], 0, 0), ([], [(0, 10)], [], [], [(0, (5, 6))], [(23, 23)], [], [], [], [], 0, 0), ([], [(0, 10)], [], [], [(0, (7, 8))], [(22, 22)], [], [], [], [], 0, 0), ([], [(0, 10)], [], [], [(0, (9, 10))], [(21, 21)], [], [], [], [], 0, 0), ([], [(0, 10)], [], [], [(0, (11, 12))], [(20, 20)], [], [], [], [], 0, 0), ([], [(0, 10)], [], [], [(0, (13, 14))], [(19, 19)], [], [], [], [], 0, 0), ([], [(0, 10)], [], [], [(0, (15, 16))], [(18, 18)], [], [], [], [], 0, 0), ([], [(0, 10)], [], [], [(0, (17, 18))], [(17, 17)], [], [], [], [], 0, 0), ([], [(0, 10)], [], [], [(0, (19, 20))], [(16, 16)], [], [], [], [], 0, 0), ([], [(0, 10)], [], [], [(0, (21, 22))], [(15, 15)], [], [], [], [], 0, 0), ([], [(0, 10)], [], [], [(0, (23, 24))], [(14, 14)], [], [], [], [], 0, 0), ([], [(0, 10)], [], [], [(0, (25, 26))], [(13, 13)], [], [], [], [], 0, 0), ([], [(0, 10)], [], [], [(0, (27, 28))], [(12, 12)], [], [], [], [], 0, 0), ([], [(0, 10)], [], [], [(0, (29, 30))], [(11, 11)], [], [], [], [], 0, 0), ([], [(0, 5)], [], [], [(0, (31, 32))], [], [], [], [], [], 0, 0), ([], [(0, 8)], [], [], [(0, (33, 34))], [], [], [], [], [], 0, 0), ([], [(0, 9)], [], [], [(0, (35, 36))], [], [], [], [], [], 0, 0), ([], [(0, 2)], [], [], [(0, (37, 38))], [], [], [], [], [], 0, 0), ([], [(0, 10)], [], [], [(0, (39, 40))], [(6, 6)], [], [], [], [], 0, 0), ([], [(0, 10)], [], [], [(0, (41, 42))], [(5, 5)], [], [], [], [], 0, 0), ([], [(0, 10)], [], [], [(0, (43, 44))], [(4, 4)], [], [], [], [], 0, 0), ([], [(0, 10)], [], [], [(0, (45, 46))], [(3, 3)], [], [], [], [], 0, 0), ([], [(0, 10)], [], [], [(0, (47, 48))], [(2, 2)], [], [], [], [], 0, 0), ([], [(0, 10)], [], [], [(0, (49, 50))], [(1, 1)], [], [], [], [], 0, 0), ([], [(0, 1)], [], [], [(0, (51, 99))], [], [], [], [], [], 0, 0), ([], [(0, 10)], [], [], [(0, (0, 0))], [(-9, -9)], [], [], [], [], 0, 0)], 5, 170, 0, 0)
noncomputable def k747_a : ckAs := []
noncomputable def k747_c : List (Nat × ckCtr) := [(7, k15), (20, k16), (34, k746)]
theorem k747_ok (l : Launch) : ckCtrOk l ckMT ckTW ckCL k747 := mt_28 (as := k747_a) (cs := k747_c) (gx := []) (f := 200000) rfl (ckHc (k15_ok l) (ckHc (k16_ok l) (ckHc (k746_ok l) (fun _ h => absurd h List.not_mem_nil)))) True.intro (by decide +kernel)
-- FarMachineModel.within
noncomputable def k748 : ckCtr := (46, ([(0, (0, 0)), (1, (0, 0)), (2, (0, 1))], [], [], [(0, 0), (99, 99)], [], [], [], [], 0, 0), [([], [(0, 0)], [], [], [], [], [], [], [], [], 0, 0)], 1, 80, 0, 0)
noncomputable def k748_a : ckAs := []
noncomputable def k748_c : List (Nat × ckCtr) := []
theorem k748_ok (l : Launch) : ckCtrOk l ckMT ckTW ckCL k748 := mt_46 (as := k748_a) (cs := k748_c) (gx := []) (f := 200000) rfl (fun _ h => absurd h List.not_mem_nil) True.intro (by decide +kernel)
-- FarMachineModel.warms
noncomputable def k749 : ckCtr := (51, ([(0, (1, 0))], [], [.inr (0, 0, 0)], [(318, 318)], dG40, [], [], [], 0, 0), [([], [(0, 1)], [], [], [], [(0, 0)], [], [], [], [], 0, 0)], 1, 80, 0, 0)
noncomputable def k749_a : ckAs := []
noncomputable def k749_c : List (Nat × ckCtr) := []
noncomputable def k749_u0 : ckCut := (4, ([(0, (1, 0)), (1, (0, 1)), (2, (0, 2))], [], [.inr (0, 0, 0)], [(318, 318), (0, 0), (6, 6)], dG40, [], [], [], 0, 0), 1, 1, 0, 0)
noncomputable def k749_g0 : List ckCut := [k749_u0]
theorem k749_t0 : ckRun es_51 k749_a k749_c [] 3 1 80 0 0 (ckEndF 1 0 0 k749.2.1 k749.2.2.1) ckKs ckKc 200000 0 4 k749_u0.2.1 [] = true := by decide +kernel
theorem k749_ok (l : Launch) : ckCtrOk l ckMT ckTW ckCL k749 := mt_51 (as := k749_a) (cs := k749_c) (gx := k749_g0) (f := 200000) rfl (fun _ h => absurd h List.not_mem_nil) ⟨k749_t0, True.intro⟩ (by decide +kernel)
-- FarMachineModel.warm
noncomputable def k750 : ckCtr := (106, ([(0, (1, 0)), (1, (0, 0))], [], dC112, [(0, 0), (318, 318)], dG40, [], [], [], 0, 0), [([], [(0, 2)], [], [], [], [(-9, -9)], [], [], [], [], 0, 0)], 2, 102, 0, 0)
noncomputable def k750_a : ckAs := [(29, [(659003, [(1, 0, 1, ([(0, (1, 0)), (1, (0, 0)), (2, (0, 0)), (3, (0, 7)), (4, (0, 8))], [], [], [], [], [(0, 50), (0, 201)], [], [], [], [], 0, 0))])])]
noncomputable def k750_c : List (Nat × ckCtr) := [(4, k748), (50, k749), (59, k235)]
theorem k750_ok (l : Launch) : ckCtrOk l ckMT ckTW ckCL k750 := mt_106 (as := k750_a) (cs := k750_c) (gx := []) (f := 200000) rfl (ckHc (k748_ok l) (ckHc (k749_ok l) (ckHc (k235_ok l) (fun _ h => absurd h List.not_mem_nil)))) True.intro (by decide +kernel)
-- FarMachineModel.within
noncomputable def k751 : ckCtr := (46, ([(0, (0, 0)), (1, (0, 1)), (2, (0, 2))], [], [], [(1, 2), (0, 0), (99, 99)], [], [], [], [], 0, 0), [([], [(0, 1)], [], [], [], [], [], [], [], [], 0, 0)], 1, 80, 0, 0)
noncomputable def k751_a : ckAs := []
noncomputable def k751_c : List (Nat × ckCtr) := []
theorem k751_ok (l : Launch) : ckCtrOk l ckMT ckTW ckCL k751 := mt_46 (as := k751_a) (cs := k751_c) (gx := []) (f := 200000) rfl (fun _ h => absurd h List.not_mem_nil) True.intro (by decide +kernel)
-- FarMachineModel.held
noncomputable def k752 : ckCtr := (47, ([(0, (0, 0)), (1, (0, 1)), (2, (0, 2))], [], [], [(48, 48), (0, 0), (99, 99)], [], [], [], [], 0, 0), [([], [(0, 0)], [], [], [], [], [], [], [], [], 0, 0)], 1, 80, 0, 0)
noncomputable def k752_a : ckAs := []
noncomputable def k752_c : List (Nat × ckCtr) := []
theorem k752_ok (l : Launch) : ckCtrOk l ckMT ckTW ckCL k752 := mt_47 (as := k752_a) (cs := k752_c) (gx := []) (f := 200000) rfl (fun _ h => absurd h List.not_mem_nil) True.intro (by decide +kernel)
-- FarMachineModel.held
noncomputable def k753 : ckCtr := (47, ([(0, (0, 0)), (1, (0, 1)), (2, (0, 2))], [], [], [(46, 46), (0, 0), (99, 99)], [], [], [], [], 0, 0), [([], [(0, 0)], [], [], [], [], [], [], [], [], 0, 0)], 1, 80, 0, 0)
noncomputable def k753_a : ckAs := []
noncomputable def k753_c : List (Nat × ckCtr) := []
theorem k753_ok (l : Launch) : ckCtrOk l ckMT ckTW ckCL k753 := mt_47 (as := k753_a) (cs := k753_c) (gx := []) (f := 200000) rfl (fun _ h => absurd h List.not_mem_nil) True.intro (by decide +kernel)
-- FarMachineModel.held
noncomputable def k754 : ckCtr := (47, ([(0, (0, 0)), (1, (0, 1)), (2, (0, 2))], [], [], [(44, 44), (0, 0), (99, 99)], [], [], [], [], 0, 0), [([], [(0, 0)], [], [], [], [], [], [], [], [], 0, 0)], 1, 80, 0, 0)
noncomputable def k754_a : ckAs := []
noncomputable def k754_c : List (Nat × ckCtr) := []
theorem k754_ok (l : Launch) : ckCtrOk l ckMT ckTW ckCL k754 := mt_47 (as := k754_a) (cs := k754_c) (gx := []) (f := 200000) rfl (fun _ h => absurd h List.not_mem_nil) True.intro (by decide +kernel)
-- FarMachineModel.held
noncomputable def k755 : ckCtr := (47, ([(0, (0, 0)), (1, (0, 1)), (2, (0, 2))], [], [], [(42, 42), (0, 0), (99, 99)], [], [], [], [], 0, 0), [([], [(0, 0)], [], [], [], [], [], [], [], [], 0, 0)], 1, 80, 0, 0)
noncomputable def k755_a : ckAs := []
noncomputable def k755_c : List (Nat × ckCtr) := []
theorem k755_ok (l : Launch) : ckCtrOk l ckMT ckTW ckCL k755 := mt_47 (as := k755_a) (cs := k755_c) (gx := []) (f := 200000) rfl (fun _ h => absurd h List.not_mem_nil) True.intro (by decide +kernel)
-- FarMachineModel.held
noncomputable def k756 : ckCtr := (47, ([(0, (0, 0)), (1, (0, 1)), (2, (0, 2))], [], [], [(40, 40), (0, 0), (99, 99)], [], [], [], [], 0, 0), [([], [(0, 0)], [], [], [], [], [], [], [], [], 0, 0)], 1, 80, 0, 0)
noncomputable def k756_a : ckAs := []
noncomputable def k756_c : List (Nat × ckCtr) := []
theorem k756_ok (l : Launch) : ckCtrOk l ckMT ckTW ckCL k756 := mt_47 (as := k756_a) (cs := k756_c) (gx := []) (f := 200000) rfl (fun _ h => absurd h List.not_mem_nil) True.intro (by decide +kernel)
-- FarMachineModel.held
noncomputable def k757 : ckCtr := (47, ([(0, (0, 0)), (1, (0, 1)), (2, (0, 2))], [], [], [(38, 38), (0, 0), (99, 99)], [], [], [], [], 0, 0), [([], [(0, 0)], [], [], [], [], [], [], [], [], 0, 0)], 1, 80, 0, 0)
noncomputable def k757_a : ckAs := []
noncomputable def k757_c : List (Nat × ckCtr) := []
theorem k757_ok (l : Launch) : ckCtrOk l ckMT ckTW ckCL k757 := mt_47 (as := k757_a) (cs := k757_c) (gx := []) (f := 200000) rfl (fun _ h => absurd h List.not_mem_nil) True.intro (by decide +kernel)
-- FarMachineModel.held
noncomputable def k758 : ckCtr := (47, ([(0, (0, 0)), (1, (0, 1)), (2, (0, 2))], [], [], [(36, 36), (0, 0), (99, 99)], [], [], [], [], 0, 0), [([], [(0, 0)], [], [], [], [], [], [], [], [], 0, 0)], 1, 80, 0, 0)
noncomputable def k758_a : ckAs := []
noncomputable def k758_c : List (Nat × ckCtr) := []
theorem k758_ok (l : Launch) : ckCtrOk l ckMT ckTW ckCL k758 := mt_47 (as := k758_a) (cs := k758_c) (gx := []) (f := 200000) rfl (fun _ h => absurd h List.not_mem_nil) True.intro (by decide +kernel)
-- FarMachineModel.held
noncomputable def k759 : ckCtr := (47, ([(0, (0, 0)), (1, (0, 1)), (2, (0, 2))], [], [], [(34, 34), (0, 0), (99, 99)], [], [], [], [], 0, 0), [([], [(0, 0)], [], [], [], [], [], [], [], [], 0, 0)], 1, 80, 0, 0)
noncomputable def k759_a : ckAs := []
noncomputable def k759_c : List (Nat × ckCtr) := []
theorem k759_ok (l : Launch) : ckCtrOk l ckMT ckTW ckCL k759 := mt_47 (as := k759_a) (cs := k759_c) (gx := []) (f := 200000) rfl (fun _ h => absurd h List.not_mem_nil) True.intro (by decide +kernel)
-- FarMachineModel.held
noncomputable def k760 : ckCtr := (47, ([(0, (0, 0)), (1, (0, 1)), (2, (0, 2))], [], [], [(32, 32), (0, 0), (99, 99)], [], [], [], [], 0, 0), [([], [(0, 0)], [], [], [], [], [], [], [], [], 0, 0)], 1, 80, 0, 0)
noncomputable def k760_a : ckAs := []
noncomputable def k760_c : List (Nat × ckCtr) := []
theorem k760_ok (l : Launch) : ckCtrOk l ckMT ckTW ckCL k760 := mt_47 (as := k760_a) (cs := k760_c) (gx := []) (f := 200000) rfl (fun _ h => absurd h List.not_mem_nil) True.intro (by decide +kernel)
-- FarMachineModel.held
noncomputable def k761 : ckCtr := (47, ([(0, (0, 0)), (1, (0, 1)), (2, (0, 2))], [], [], [(30, 30), (0, 0), (99, 99)], [], [], [], [], 0, 0), [([], [(0, 0)], [], [], [], [], [], [], [], [], 0, 0)], 1, 80, 0, 0)
noncomputable def k761_a : ckAs := []
noncomputable def k761_c : List (Nat × ckCtr) := []
theorem k761_ok (l : Launch) : ckCtrOk l ckMT ckTW ckCL k761 := mt_47 (as := k761_a) (cs := k761_c) (gx := []) (f := 200000) rfl (fun _ h => absurd h List.not_mem_nil) True.intro (by decide +kernel)
-- FarMachineModel.held
noncomputable def k762 : ckCtr := (47, ([(0, (0, 0)), (1, (0, 1)), (2, (0, 2))], [], [], [(28, 28), (0, 0), (99, 99)], [], [], [], [], 0, 0), [([], [(0, 0)], [], [], [], [], [], [], [], [], 0, 0)], 1, 80, 0, 0)
noncomputable def k762_a : ckAs := []
noncomputable def k762_c : List (Nat × ckCtr) := []
theorem k762_ok (l : Launch) : ckCtrOk l ckMT ckTW ckCL k762 := mt_47 (as := k762_a) (cs := k762_c) (gx := []) (f := 200000) rfl (fun _ h => absurd h List.not_mem_nil) True.intro (by decide +kernel)
-- FarMachineModel.held
noncomputable def k763 : ckCtr := (47, ([(0, (0, 0)), (1, (0, 1)), (2, (0, 2))], [], [], [(26, 26), (0, 0), (99, 99)], [], [], [], [], 0, 0), [([], [(0, 0)], [], [], [], [], [], [], [], [], 0, 0)], 1, 80, 0, 0)
noncomputable def k763_a : ckAs := []
noncomputable def k763_c : List (Nat × ckCtr) := []
theorem k763_ok (l : Launch) : ckCtrOk l ckMT ckTW ckCL k763 := mt_47 (as := k763_a) (cs := k763_c) (gx := []) (f := 200000) rfl (fun _ h => absurd h List.not_mem_nil) True.intro (by decide +kernel)
-- FarMachineModel.held
noncomputable def k764 : ckCtr := (47, ([(0, (0, 0)), (1, (0, 1)), (2, (0, 2))], [], [], [(24, 24), (0, 0), (99, 99)], [], [], [], [], 0, 0), [([], [(0, 0)], [], [], [], [], [], [], [], [], 0, 0)], 1, 80, 0, 0)
noncomputable def k764_a : ckAs := []
noncomputable def k764_c : List (Nat × ckCtr) := []
theorem k764_ok (l : Launch) : ckCtrOk l ckMT ckTW ckCL k764 := mt_47 (as := k764_a) (cs := k764_c) (gx := []) (f := 200000) rfl (fun _ h => absurd h List.not_mem_nil) True.intro (by decide +kernel)
-- FarMachineModel.held
noncomputable def k765 : ckCtr := (47, ([(0, (0, 0)), (1, (0, 1)), (2, (0, 2))], [], [], [(22, 22), (0, 0), (99, 99)], [], [], [], [], 0, 0), [([], [(0, 0)], [], [], [], [], [], [], [], [], 0, 0)], 1, 80, 0, 0)
noncomputable def k765_a : ckAs := []
noncomputable def k765_c : List (Nat × ckCtr) := []
theorem k765_ok (l : Launch) : ckCtrOk l ckMT ckTW ckCL k765 := mt_47 (as := k765_a) (cs := k765_c) (gx := []) (f := 200000) rfl (fun _ h => absurd h List.not_mem_nil) True.intro (by decide +kernel)
-- FarMachineModel.held
noncomputable def k766 : ckCtr := (47, ([(0, (0, 0)), (1, (0, 1)), (2, (0, 2))], [], [], [(20, 20), (0, 0), (99, 99)], [], [], [], [], 0, 0), [([], [(0, 0)], [], [], [], [], [], [], [], [], 0, 0)], 1, 80, 0, 0)
noncomputable def k766_a : ckAs := []
noncomputable def k766_c : List (Nat × ckCtr) := []
theorem k766_ok (l : Launch) : ckCtrOk l ckMT ckTW ckCL k766 := mt_47 (as := k766_a) (cs := k766_c) (gx := []) (f := 200000) rfl (fun _ h => absurd h List.not_mem_nil) True.intro (by decide +kernel)
-- FarMachineModel.held
noncomputable def k767 : ckCtr := (47, ([(0, (0, 0)), (1, (0, 1)), (2, (0, 2))], [], [], [(18, 18), (0, 0), (99, 99)], [], [], [], [], 0, 0), [([], [(0, 0)], [], [], [], [], [], [], [], [], 0, 0)], 1, 80, 0, 0)
noncomputable def k767_a : ckAs := []
noncomputable def k767_c : List (Nat × ckCtr) := []
theorem k767_ok (l : Launch) : ckCtrOk l ckMT ckTW ckCL k767 := mt_47 (as := k767_a) (cs := k767_c) (gx := []) (f := 200000) rfl (fun _ h => absurd h List.not_mem_nil) True.intro (by decide +kernel)
-- FarMachineModel.held
noncomputable def k768 : ckCtr := (47, ([(0, (0, 0)), (1, (0, 1)), (2, (0, 2))], [], [], [(16, 16), (0, 0), (99, 99)], [], [], [], [], 0, 0), [([], [(0, 0)], [], [], [], [], [], [], [], [], 0, 0)], 1, 80, 0, 0)
noncomputable def k768_a : ckAs := []
noncomputable def k768_c : List (Nat × ckCtr) := []
theorem k768_ok (l : Launch) : ckCtrOk l ckMT ckTW ckCL k768 := mt_47 (as := k768_a) (cs := k768_c) (gx := []) (f := 200000) rfl (fun _ h => absurd h List.not_mem_nil) True.intro (by decide +kernel)
-- FarMachineModel.held
noncomputable def k769 : ckCtr := (47, ([(0, (0, 0)), (1, (0, 1)), (2, (0, 2))], [], [], [(14, 14), (0, 0), (99, 99)], [], [], [], [], 0, 0), [([], [(0, 0)], [], [], [], [], [], [], [], [], 0, 0)], 1, 80, 0, 0)
noncomputable def k769_a : ckAs := []
noncomputable def k769_c : List (Nat × ckCtr) := []
theorem k769_ok (l : Launch) : ckCtrOk l ckMT ckTW ckCL k769 := mt_47 (as := k769_a) (cs := k769_c) (gx := []) (f := 200000) rfl (fun _ h => absurd h List.not_mem_nil) True.intro (by decide +kernel)
-- FarMachineModel.held
noncomputable def k770 : ckCtr := (47, ([(0, (0, 0)), (1, (0, 1)), (2, (0, 2))], [], [], [(12, 12), (0, 0), (99, 99)], [], [], [], [], 0, 0), [([], [(0, 0)], [], [], [], [], [], [], [], [], 0, 0)], 1, 80, 0, 0)
noncomputable def k770_a : ckAs := []
noncomputable def k770_c : List (Nat × ckCtr) := []
theorem k770_ok (l : Launch) : ckCtrOk l ckMT ckTW ckCL k770 := mt_47 (as := k770_a) (cs := k770_c) (gx := []) (f := 200000) rfl (fun _ h => absurd h List.not_mem_nil) True.intro (by decide +kernel)
-- FarMachineModel.held
noncomputable def k771 : ckCtr := (47, ([(0, (0, 0)), (1, (0, 1)), (2, (0, 2))], [], [], [(10, 10), (0, 0), (99, 99)], [], [], [], [], 0, 0), [([], [(0, 0)], [], [], [], [], [], [], [], [], 0, 0)], 1, 80, 0, 0)
noncomputable def k771_a : ckAs := []
noncomputable def k771_c : List (Nat × ckCtr) := []
theorem k771_ok (l : Launch) : ckCtrOk l ckMT ckTW ckCL k771 := mt_47 (as := k771_a) (cs := k771_c) (gx := []) (f := 200000) rfl (fun _ h => absurd h List.not_mem_nil) True.intro (by decide +kernel)
-- FarMachineModel.held
noncomputable def k772 : ckCtr := (47, ([(0, (0, 0)), (1, (0, 1)), (2, (0, 2))], [], [], [(8, 8), (0, 0), (99, 99)], [], [], [], [], 0, 0), [([], [(0, 0)], [], [], [], [], [], [], [], [], 0, 0)], 1, 80, 0, 0)
noncomputable def k772_a : ckAs := []
noncomputable def k772_c : List (Nat × ckCtr) := []
theorem k772_ok (l : Launch) : ckCtrOk l ckMT ckTW ckCL k772 := mt_47 (as := k772_a) (cs := k772_c) (gx := []) (f := 200000) rfl (fun _ h => absurd h List.not_mem_nil) True.intro (by decide +kernel)
-- FarMachineModel.held
noncomputable def k773 : ckCtr := (47, ([(0, (0, 0)), (1, (0, 1)), (2, (0, 2))], [], [], [(6, 6), (0, 0), (99, 99)], [], [], [], [], 0, 0), [([], [(0, 0)], [], [], [], [], [], [], [], [], 0, 0)], 1, 80, 0, 0)
noncomputable def k773_a : ckAs := []
noncomputable def k773_c : List (Nat × ckCtr) := []
theorem k773_ok (l : Launch) : ckCtrOk l ckMT ckTW ckCL k773 := mt_47 (as := k773_a) (cs := k773_c) (gx := []) (f := 200000) rfl (fun _ h => absurd h List.not_mem_nil) True.intro (by decide +kernel)
-- FarMachineModel.held
noncomputable def k774 : ckCtr := (47, ([(0, (0, 0)), (1, (0, 1)), (2, (0, 2))], [], [], [(4, 4), (0, 0), (99, 99)], [], [], [], [], 0, 0), [([], [(0, 0)], [], [], [], [], [], [], [], [], 0, 0)], 1, 80, 0, 0)
noncomputable def k774_a : ckAs := []
noncomputable def k774_c : List (Nat × ckCtr) := []
theorem k774_ok (l : Launch) : ckCtrOk l ckMT ckTW ckCL k774 := mt_47 (as := k774_a) (cs := k774_c) (gx := []) (f := 200000) rfl (fun _ h => absurd h List.not_mem_nil) True.intro (by decide +kernel)
-- FarMachineModel.held
noncomputable def k775 : ckCtr := (47, ([(0, (0, 0)), (1, (0, 1)), (2, (0, 2))], [], [], [(2, 2), (0, 0), (99, 99)], [], [], [], [], 0, 0), [([], [(0, 0)], [], [], [], [], [], [], [], [], 0, 0)], 1, 80, 0, 0)
noncomputable def k775_a : ckAs := []
noncomputable def k775_c : List (Nat × ckCtr) := []
theorem k775_ok (l : Launch) : ckCtrOk l ckMT ckTW ckCL k775 := mt_47 (as := k775_a) (cs := k775_c) (gx := []) (f := 200000) rfl (fun _ h => absurd h List.not_mem_nil) True.intro (by decide +kernel)
-- FarMachineModel.held
noncomputable def k776 : ckCtr := (47, ([(0, (0, 0)), (1, (0, 0)), (2, (0, 1))], [], [], [(0, 0), (99, 99)], [], [], [], [], 0, 0), [([], [(0, 0)], [], [], [], [], [], [], [], [], 0, 0)], 1, 80, 0, 0)
noncomputable def k776_a : ckAs := []
noncomputable def k776_c : List (Nat × ckCtr) := []
theorem k776_ok (l : Launch) : ckCtrOk l ckMT ckTW ckCL k776 := mt_47 (as := k776_a) (cs := k776_c) (gx := []) (f := 200000) rfl (fun _ h => absurd h List.not_mem_nil) True.intro (by decide +kernel)
-- FarMachineModel.warm
noncomputable def k777 : ckCtr := (106, ([(0, (1, 0)), (1, (0, 0))], [], dC46, [(1, 2), (0, 0), (318, 318)], dG40, [], [], [], 0, 0), [([], [(0, 3)], [], [], [], [(25, 25)], [], [], [], [], 0, 0)], 2, 102, 0, 0)
noncomputable def k777_a : ckAs := []
noncomputable def k777_c : List (Nat × ckCtr) := [(4, k751), (50, k749), (59, k752), (59, k753), (59, k754), (59, k755), (59, k756), (59, k757), (59, k758), (59, k759), (59, k760), (59, k761), (59, k762), (59, k763), (59, k764), (59, k765), (59, k766), (59, k767), (59, k768), (59, k769), (59, k770), (59, k771), (59, k772), (59, k773), (59, k774), (59, k775), (59, k776)]
noncomputable def k777_u0 : ckCut := (29, ([(0, (1, 0)), (1, (0, 0)), (2, (0, 1)), (3, (0, 3)), (4, (0, 4))], [], dC46, [(1, 2), (0, 0), (318, 318), (40, 40), (5, 5)], dG40, [], [], [], 0, 0), 3, 1, 0, 0)
noncomputable def k777_u1 : ckCut := (29, ([(0, (1, 0)), (1, (0, 0)), (2, (0, 1)), (3, (0, 3)), (4, (0, 4))], [], dC46, [(1, 2), (0, 0), (318, 318), (30, 30), (10, 10)], dG40, [], [], [], 0, 0), 3, 1, 0, 0)
noncomputable def k777_u2 : ckCut := (29, ([(0, (1, 0)), (1, (0, 0)), (2, (0, 1)), (3, (0, 3)), (4, (0, 4))], [], dC46, [(1, 2), (0, 0), (318, 318), (20, 20), (15, 15)], dG40, [], [], [], 0, 0), 3, 1, 0, 0)
noncomputable def k777_u3 : ckCut := (29, ([(0, (1, 0)), (1, (0, 0)), (2, (0, 1)), (3, (0, 3)), (4, (0, 4))], [], dC46, [(1, 2), (0, 0), (318, 318), (10, 10), (20, 20)], dG40, [], [], [], 0, 0), 3, 1, 0, 0)
noncomputable def k777_u4 : ckCut := (29, ([(0, (1, 0)), (1, (0, 0)), (2, (0, 1)), (3, (0, 1)), (4, (0, 3))], [], dC46, [(1, 2), (0, 0), (318, 318), (25, 25)], dG40, [], [], [], 0, 0), 3, 1, 0, 0)
noncomputable def k777_g4 : List ckCut := [k777_u4]
noncomputable def k777_g3 : List ckCut := k777_u3 :: k777_g4
noncomputable def k777_g2 : List ckCut := k777_u2 :: k777_g3
noncomputable def k777_g1 : List ckCut := k777_u1 :: k777_g2
noncomputable def k777_g0 : List ckCut := k777_u0 :: k777_g1
theorem k777_t0 : ckRun es_106 k777_a k777_c k777_g1 5 2 102 0 0 (ckEndF 1 0 0 k777.2.1 k777.2.2.1) ckKs ckKc 200000 0 29 k777_u0.2.1 [] = true := by decide +kernel
theorem k777_t1 : ckRun es_106 k777_a k777_c k777_g2 5 2 102 0 0 (ckEndF 1 0 0 k777.2.1 k777.2.2.1) ckKs ckKc 200000 0 29 k777_u1.2.1 [] = true := by decide +kernel
theorem k777_t2 : ckRun es_106 k777_a k777_c k777_g3 5 2 102 0 0 (ckEndF 1 0 0 k777.2.1 k777.2.2.1) ckKs ckKc 200000 0 29 k777_u2.2.1 [] = true := by decide +kernel
theorem k777_t3 : ckRun es_106 k777_a k777_c k777_g4 5 2 102 0 0 (ckEndF 1 0 0 k777.2.1 k777.2.2.1) ckKs ckKc 200000 0 29 k777_u3.2.1 [] = true := by decide +kernel
theorem k777_t4 : ckRun es_106 k777_a k777_c [] 5 2 102 0 0 (ckEndF 1 0 0 k777.2.1 k777.2.2.1) ckKs ckKc 200000 0 29 k777_u4.2.1 [] = true := by decide +kernel
theorem k777_ok (l : Launch) : ckCtrOk l ckMT ckTW ckCL k777 := mt_106 (as := k777_a) (cs := k777_c) (gx := k777_g0) (f := 200000) rfl (ckHc (k751_ok l) (ckHc (k749_ok l) (ckHc (k752_ok l) (ckHc (k753_ok l) (ckHc (k754_ok l) (ckHc (k755_ok l) (ckHc (k756_ok l) (ckHc (k757_ok l) (ckHc (k758_ok l) (ckHc (k759_ok l) (ckHc (k760_ok l) (ckHc (k761_ok l) (ckHc (k762_ok l) (ckHc (k763_ok l) (ckHc (k764_ok l) (ckHc (k765_ok l) (ckHc (k766_ok l) (ckHc (k767_ok l) (ckHc (k768_ok l) (ckHc (k769_ok l) (ckHc (k770_ok l) (ckHc (k771_ok l) (ckHc (k772_ok l) (ckHc (k773_ok l) (ckHc (k774_ok l) (ckHc (k775_ok l) (ckHc (k776_ok l) (fun _ h => absurd h List.not_mem_nil)))))))))))))))))))))))))))) ⟨k777_t0, ⟨k777_t1, ⟨k777_t2, ⟨k777_t3, ⟨k777_t4, True.intro⟩⟩⟩⟩⟩ (by decide +kernel)
-- FarMachineModel.within
noncomputable def k778 : ckCtr := (46, ([(0, (0, 0)), (1, (0, 1)), (2, (0, 2))], [], [], [(3, 4), (0, 0), (99, 99)], [], [], [], [], 0, 0), [([], [(0, 1)], [], [], [], [], [], [], [], [], 0, 0)], 1, 80, 0, 0)
noncomputable def k778_a : ckAs := []
noncomputable def k778_c : List (Nat × ckCtr) := []
theorem k778_ok (l : Launch) : ckCtrOk l ckMT ckTW ckCL k778 := mt_46 (as := k778_a) (cs := k778_c) (gx := []) (f := 200000) rfl (fun _ h => absurd h List.not_mem_nil) True.intro (by decide +kernel)
-- FarMachineModel.warm
noncomputable def k779 : ckCtr := (106, ([(0, (1, 0)), (1, (0, 0))], [], dC46, [(3, 4), (0, 0), (318, 318)], dG40, [], [], [], 0, 0), [([], [(0, 3)], [], [], [], [(24, 24)], [], [], [], [], 0, 0)], 2, 102, 0, 0)
noncomputable def k779_a : ckAs := []
noncomputable def k779_c : List (Nat × ckCtr) := [(4, k778), (50, k749), (59, k752), (59, k753), (59, k754), (59, k755), (59, k756), (59, k757), (59, k758), (59, k759), (59, k760), (59, k761), (59, k762), (59, k763), (59, k764), (59, k765), (59, k766), (59, k767), (59, k768), (59, k769), (59, k770), (59, k771), (59, k772), (59, k773), (59, k774), (59, k775)]
noncomputable def k779_u0 : ckCut := (29, ([(0, (1, 0)), (1, (0, 0)), (2, (0, 1)), (3, (0, 3)), (4, (0, 4))], [], dC46, [(3, 4), (0, 0), (318, 318), (40, 40), (5, 5)], dG40, [], [], [], 0, 0), 3, 1, 0, 0)
noncomputable def k779_u1 : ckCut := (29, ([(0, (1, 0)), (1, (0, 0)), (2, (0, 1)), (3, (0, 3)), (4, (0, 4))], [], dC46, [(3, 4), (0, 0), (318, 318), (30, 30), (10, 10)], dG40, [], [], [], 0, 0), 3, 1, 0, 0)
noncomputable def k779_u2 : ckCut := (29, ([(0, (1, 0)), (1, (0, 0)), (2, (0, 1)), (3, (0, 3)), (4, (0, 4))], [], dC46, [(3, 4), (0, 0), (318, 318), (20, 20), (15, 15)], dG40, [], [], [], 0, 0), 3, 1, 0, 0)
noncomputable def k779_u3 : ckCut := (29, ([(0, (1, 0)), (1, (0, 0)), (2, (0, 1)), (3, (0, 3)), (4, (0, 4))], [], dC46, [(3, 4), (0, 0), (318, 318), (10, 10), (20, 20)], dG40, [], [], [], 0, 0), 3, 1, 0, 0)
noncomputable def k779_g3 : List ckCut := [k779_u3]
noncomputable def k779_g2 : List ckCut := k779_u2 :: k779_g3
noncomputable def k779_g1 : List ckCut := k779_u1 :: k779_g2
noncomputable def k779_g0 : List ckCut := k779_u0 :: k779_g1
theorem k779_t0 : ckRun es_106 k779_a k779_c k779_g1 5 2 102 0 0 (ckEndF 1 0 0 k779.2.1 k779.2.2.1) ckKs ckKc 200000 0 29 k779_u0.2.1 [] = true := by decide +kernel
theorem k779_t1 : ckRun es_106 k779_a k779_c k779_g2 5 2 102 0 0 (ckEndF 1 0 0 k779.2.1 k779.2.2.1) ckKs ckKc 200000 0 29 k779_u1.2.1 [] = true := by decide +kernel
theorem k779_t2 : ckRun es_106 k779_a k779_c k779_g3 5 2 102 0 0 (ckEndF 1 0 0 k779.2.1 k779.2.2.1) ckKs ckKc 200000 0 29 k779_u2.2.1 [] = true := by decide +kernel
theorem k779_t3 : ckRun es_106 k779_a k779_c [] 5 2 102 0 0 (ckEndF 1 0 0 k779.2.1 k779.2.2.1) ckKs ckKc 200000 0 29 k779_u3.2.1 [] = true := by decide +kernel
theorem k779_ok (l : Launch) : ckCtrOk l ckMT ckTW ckCL k779 := mt_106 (as := k779_a) (cs := k779_c) (gx := k779_g0) (f := 200000) rfl (ckHc (k778_ok l) (ckHc (k749_ok l) (ckHc (k752_ok l) (ckHc (k753_ok l) (ckHc (k754_ok l) (ckHc (k755_ok l) (ckHc (k756_ok l) (ckHc (k757_ok l) (ckHc (k758_ok l) (ckHc (k759_ok l) (ckHc (k760_ok l) (ckHc (k761_ok l) (ckHc (k762_ok l) (ckHc (k763_ok l) (ckHc (k764_ok l) (ckHc (k765_ok l) (ckHc (k766_ok l) (ckHc (k767_ok l) (ckHc (k768_ok l) (ckHc (k769_ok l) (ckHc (k770_ok l) (ckHc (k771_ok l) (ckHc (k772_ok l) (ckHc (k773_ok l) (ckHc (k774_ok l) (ckHc (k775_ok l) (fun _ h => absurd h List.not_mem_nil))))))))))))))))))))))))))) ⟨k779_t0, ⟨k779_t1, ⟨k779_t2, ⟨k779_t3, True.intro⟩⟩⟩⟩ (by decide +kernel)
-- FarMachineModel.within
noncomputable def k780 : ckCtr := (46, ([(0, (0, 0)), (1, (0, 1)), (2, (0, 2))], [], [], [(5, 6), (0, 0), (99, 99)], [], [], [], [], 0, 0), [([], [(0, 1)], [], [], [], [], [], [], [], [], 0, 0)], 1, 80, 0, 0)
noncomputable def k780_a : ckAs := []
noncomputable def k780_c : List (Nat × ckCtr) := []
theorem k780_ok (l : Launch) : ckCtrOk l ckMT ckTW ckCL k780 := mt_46 (as := k780_a) (cs := k780_c) (gx := []) (f := 200000) rfl (fun _ h => absurd h List.not_mem_nil) True.intro (by decide +kernel)
-- FarMachineModel.warm
noncomputable def k781 : ckCtr := (106, ([(0, (1, 0)), (1, (0, 0))], [], dC46, [(5, 6), (0, 0), (318, 318)], dG40, [], [], [], 0, 0), [([], [(0, 3)], [], [], [], [(23, 23)], [], [], [], [], 0, 0)], 2, 102, 0, 0)
noncomputable def k781_a : ckAs := []
noncomputable def k781_c : List (Nat × ckCtr) := [(4, k780), (50, k749), (59, k752), (59, k753), (59, k754), (59, k755), (59, k756), (59, k757), (59, k758), (59, k759), (59, k760), (59, k761), (59, k762), (59, k763), (59, k764), (59, k765), (59, k766), (59, k767), (59, k768), (59, k769), (59, k770), (59, k771), (59, k772), (59, k773), (59, k774)]
noncomputable def k781_u0 : ckCut := (29, ([(0, (1, 0)), (1, (0, 0)), (2, (0, 1)), (3, (0, 3)), (4, (0, 4))], [], dC46, [(5, 6), (0, 0), (318, 318), (40, 40), (5, 5)], dG40, [], [], [], 0, 0), 3, 1, 0, 0)
noncomputable def k781_u1 : ckCut := (29, ([(0, (1, 0)), (1, (0, 0)), (2, (0, 1)), (3, (0, 3)), (4, (0, 4))], [], dC46, [(5, 6), (0, 0), (318, 318), (30, 30), (10, 10)], dG40, [], [], [], 0, 0), 3, 1, 0, 0)
noncomputable def k781_u2 : ckCut := (29, ([(0, (1, 0)), (1, (0, 0)), (2, (0, 1)), (3, (0, 3)), (4, (0, 4))], [], dC46, [(5, 6), (0, 0), (318, 318), (20, 20), (15, 15)], dG40, [], [], [], 0, 0), 3, 1, 0, 0)
noncomputable def k781_u3 : ckCut := (29, ([(0, (1, 0)), (1, (0, 0)), (2, (0, 1)), (3, (0, 3)), (4, (0, 4))], [], dC46, [(5, 6), (0, 0), (318, 318), (10, 10), (20, 20)], dG40, [], [], [], 0, 0), 3, 1, 0, 0)
noncomputable def k781_g3 : List ckCut := [k781_u3]
noncomputable def k781_g2 : List ckCut := k781_u2 :: k781_g3
noncomputable def k781_g1 : List ckCut := k781_u1 :: k781_g2
noncomputable def k781_g0 : List ckCut := k781_u0 :: k781_g1
theorem k781_t0 : ckRun es_106 k781_a k781_c k781_g1 5 2 102 0 0 (ckEndF 1 0 0 k781.2.1 k781.2.2.1) ckKs ckKc 200000 0 29 k781_u0.2.1 [] = true := by decide +kernel
theorem k781_t1 : ckRun es_106 k781_a k781_c k781_g2 5 2 102 0 0 (ckEndF 1 0 0 k781.2.1 k781.2.2.1) ckKs ckKc 200000 0 29 k781_u1.2.1 [] = true := by decide +kernel
theorem k781_t2 : ckRun es_106 k781_a k781_c k781_g3 5 2 102 0 0 (ckEndF 1 0 0 k781.2.1 k781.2.2.1) ckKs ckKc 200000 0 29 k781_u2.2.1 [] = true := by decide +kernel
theorem k781_t3 : ckRun es_106 k781_a k781_c [] 5 2 102 0 0 (ckEndF 1 0 0 k781.2.1 k781.2.2.1) ckKs ckKc 200000 0 29 k781_u3.2.1 [] = true := by decide +kernel
theorem k781_ok (l : Launch) : ckCtrOk l ckMT ckTW ckCL k781 := mt_106 (as := k781_a) (cs := k781_c) (gx := k781_g0) (f := 200000) rfl (ckHc (k780_ok l) (ckHc (k749_ok l) (ckHc (k752_ok l) (ckHc (k753_ok l) (ckHc (k754_ok l) (ckHc (k755_ok l) (ckHc (k756_ok l) (ckHc (k757_ok l) (ckHc (k758_ok l) (ckHc (k759_ok l) (ckHc (k760_ok l) (ckHc (k761_ok l) (ckHc (k762_ok l) (ckHc (k763_ok l) (ckHc (k764_ok l) (ckHc (k765_ok l) (ckHc (k766_ok l) (ckHc (k767_ok l) (ckHc (k768_ok l) (ckHc (k769_ok l) (ckHc (k770_ok l) (ckHc (k771_ok l) (ckHc (k772_ok l) (ckHc (k773_ok l) (ckHc (k774_ok l) (fun _ h => absurd h List.not_mem_nil)))))))))))))))))))))))))) ⟨k781_t0, ⟨k781_t1, ⟨k781_t2, ⟨k781_t3, True.intro⟩⟩⟩⟩ (by decide +kernel)
-- FarMachineModel.within
noncomputable def k782 : ckCtr := (46, ([(0, (0, 0)), (1, (0, 1)), (2, (0, 2))], [], [], [(7, 8), (0, 0), (99, 99)], [], [], [], [], 0, 0), [([], [(0, 1)], [], [], [], [], [], [], [], [], 0, 0)], 1, 80, 0, 0)
noncomputable def k782_a : ckAs := []
noncomputable def k782_c : List (Nat × ckCtr) := []
theorem k782_ok (l : Launch) : ckCtrOk l ckMT ckTW ckCL k782 := mt_46 (as := k782_a) (cs := k782_c) (gx := []) (f := 200000) rfl (fun _ h => absurd h List.not_mem_nil) True.intro (by decide +kernel)
-- FarMachineModel.warm
noncomputable def k783 : ckCtr := (106, ([(0, (1, 0)), (1, (0, 0))], [], dC46, [(7, 8), (0, 0), (318, 318)], dG40, [], [], [], 0, 0), [([], [(0, 3)], [], [], [], [(22, 22)], [], [], [], [], 0, 0)], 2, 102, 0, 0)
noncomputable def k783_a : ckAs := []
noncomputable def k783_c : List (Nat × ckCtr) := [(4, k782), (50, k749), (59, k752), (59, k753), (59, k754), (59, k755), (59, k756), (59, k757), (59, k758), (59, k759), (59, k760), (59, k761), (59, k762), (59, k763), (59, k764), (59, k765), (59, k766), (59, k767), (59, k768), (59, k769), (59, k770), (59, k771), (59, k772), (59, k773)]
noncomputable def k783_u0 : ckCut := (29, ([(0, (1, 0)), (1, (0, 0)), (2, (0, 1)), (3, (0, 3)), (4, (0, 4))], [], dC46, [(7, 8), (0, 0), (318, 318), (40, 40), (5, 5)], dG40, [], [], [], 0, 0), 3, 1, 0, 0)
noncomputable def k783_u1 : ckCut := (29, ([(0, (1, 0)), (1, (0, 0)), (2, (0, 1)), (3, (0, 3)), (4, (0, 4))], [], dC46, [(7, 8), (0, 0), (318, 318), (30, 30), (10, 10)], dG40, [], [], [], 0, 0), 3, 1, 0, 0)
noncomputable def k783_u2 : ckCut := (29, ([(0, (1, 0)), (1, (0, 0)), (2, (0, 1)), (3, (0, 3)), (4, (0, 4))], [], dC46, [(7, 8), (0, 0), (318, 318), (20, 20), (15, 15)], dG40, [], [], [], 0, 0), 3, 1, 0, 0)
noncomputable def k783_u3 : ckCut := (29, ([(0, (1, 0)), (1, (0, 0)), (2, (0, 1)), (3, (0, 3)), (4, (0, 4))], [], dC46, [(7, 8), (0, 0), (318, 318), (10, 10), (20, 20)], dG40, [], [], [], 0, 0), 3, 1, 0, 0)
noncomputable def k783_g3 : List ckCut := [k783_u3]
noncomputable def k783_g2 : List ckCut := k783_u2 :: k783_g3
noncomputable def k783_g1 : List ckCut := k783_u1 :: k783_g2
noncomputable def k783_g0 : List ckCut := k783_u0 :: k783_g1
theorem k783_t0 : ckRun es_106 k783_a k783_c k783_g1 5 2 102 0 0 (ckEndF 1 0 0 k783.2.1 k783.2.2.1) ckKs ckKc 200000 0 29 k783_u0.2.1 [] = true := by decide +kernel
theorem k783_t1 : ckRun es_106 k783_a k783_c k783_g2 5 2 102 0 0 (ckEndF 1 0 0 k783.2.1 k783.2.2.1) ckKs ckKc 200000 0 29 k783_u1.2.1 [] = true := by decide +kernel
theorem k783_t2 : ckRun es_106 k783_a k783_c k783_g3 5 2 102 0 0 (ckEndF 1 0 0 k783.2.1 k783.2.2.1) ckKs ckKc 200000 0 29 k783_u2.2.1 [] = true := by decide +kernel
theorem k783_t3 : ckRun es_106 k783_a k783_c [] 5 2 102 0 0 (ckEndF 1 0 0 k783.2.1 k783.2.2.1) ckKs ckKc 200000 0 29 k783_u3.2.1 [] = true := by decide +kernel
theorem k783_ok (l : Launch) : ckCtrOk l ckMT ckTW ckCL k783 := mt_106 (as := k783_a) (cs := k783_c) (gx := k783_g0) (f := 200000) rfl (ckHc (k782_ok l) (ckHc (k749_ok l) (ckHc (k752_ok l) (ckHc (k753_ok l) (ckHc (k754_ok l) (ckHc (k755_ok l) (ckHc (k756_ok l) (ckHc (k757_ok l) (ckHc (k758_ok l) (ckHc (k759_ok l) (ckHc (k760_ok l) (ckHc (k761_ok l) (ckHc (k762_ok l) (ckHc (k763_ok l) (ckHc (k764_ok l) (ckHc (k765_ok l) (ckHc (k766_ok l) (ckHc (k767_ok l) (ckHc (k768_ok l) (ckHc (k769_ok l) (ckHc (k770_ok l) (ckHc (k771_ok l) (ckHc (k772_ok l) (ckHc (k773_ok l) (fun _ h => absurd h List.not_mem_nil))))))))))))))))))))))))) ⟨k783_t0, ⟨k783_t1, ⟨k783_t2, ⟨k783_t3, True.intro⟩⟩⟩⟩ (by decide +kernel)
-- FarMachineModel.within
noncomputable def k784 : ckCtr := (46, ([(0, (0, 0)), (1, (0, 1)), (2, (0, 2))], [], [], [(9, 10), (0, 0), (99, 99)], [], [], [], [], 0, 0), [([], [(0, 1)], [], [], [], [], [], [], [], [], 0, 0)], 1, 80, 0, 0)
noncomputable def k784_a : ckAs := []
noncomputable def k784_c : List (Nat × ckCtr) := []
theorem k784_ok (l : Launch) : ckCtrOk l ckMT ckTW ckCL k784 := mt_46 (as := k784_a) (cs := k784_c) (gx := []) (f := 200000) rfl (fun _ h => absurd h List.not_mem_nil) True.intro (by decide +kernel)
-- FarMachineModel.warm
noncomputable def k785 : ckCtr := (106, ([(0, (1, 0)), (1, (0, 0))], [], dC46, [(9, 10), (0, 0), (318, 318)], dG40, [], [], [], 0, 0), [([], [(0, 3)], [], [], [], [(21, 21)], [], [], [], [], 0, 0)], 2, 102, 0, 0)
noncomputable def k785_a : ckAs := []
noncomputable def k785_c : List (Nat × ckCtr) := [(4, k784), (50, k749), (59, k752), (59, k753), (59, k754), (59, k755), (59, k756), (59, k757), (59, k758), (59, k759), (59, k760), (59, k761), (59, k762), (59, k763), (59, k764), (59, k765), (59, k766), (59, k767), (59, k768), (59, k769), (59, k770), (59, k771), (59, k772)]
noncomputable def k785_u0 : ckCut := (29, ([(0, (1, 0)), (1, (0, 0)), (2, (0, 1)), (3, (0, 3)), (4, (0, 4))], [], dC46, [(9, 10), (0, 0), (318, 318), (40, 40), (5, 5)], dG40, [], [], [], 0, 0), 3, 1, 0, 0)
noncomputable def k785_u1 : ckCut := (29, ([(0, (1, 0)), (1, (0, 0)), (2, (0, 1)), (3, (0, 3)), (4, (0, 4))], [], dC46, [(9, 10), (0, 0), (318, 318), (30, 30), (10, 10)], dG40, [], [], [], 0, 0), 3, 1, 0, 0)
noncomputable def k785_u2 : ckCut := (29, ([(0, (1, 0)), (1, (0, 0)), (2, (0, 1)), (3, (0, 3)), (4, (0, 4))], [], dC46, [(9, 10), (0, 0), (318, 318), (20, 20), (15, 15)], dG40, [], [], [], 0, 0), 3, 1, 0, 0)
noncomputable def k785_u3 : ckCut := (29, ([(0, (1, 0)), (1, (0, 0)), (2, (0, 1)), (3, (0, 3)), (4, (0, 4))], [], dC46, [(9, 10), (0, 0), (318, 318), (10, 10), (20, 20)], dG40, [], [], [], 0, 0), 3, 1, 0, 0)
noncomputable def k785_g3 : List ckCut := [k785_u3]
noncomputable def k785_g2 : List ckCut := k785_u2 :: k785_g3
noncomputable def k785_g1 : List ckCut := k785_u1 :: k785_g2
noncomputable def k785_g0 : List ckCut := k785_u0 :: k785_g1
theorem k785_t0 : ckRun es_106 k785_a k785_c k785_g1 5 2 102 0 0 (ckEndF 1 0 0 k785.2.1 k785.2.2.1) ckKs ckKc 200000 0 29 k785_u0.2.1 [] = true := by decide +kernel
theorem k785_t1 : ckRun es_106 k785_a k785_c k785_g2 5 2 102 0 0 (ckEndF 1 0 0 k785.2.1 k785.2.2.1) ckKs ckKc 200000 0 29 k785_u1.2.1 [] = true := by decide +kernel
theorem k785_t2 : ckRun es_106 k785_a k785_c k785_g3 5 2 102 0 0 (ckEndF 1 0 0 k785.2.1 k785.2.2.1) ckKs ckKc 200000 0 29 k785_u2.2.1 [] = true := by decide +kernel
theorem k785_t3 : ckRun es_106 k785_a k785_c [] 5 2 102 0 0 (ckEndF 1 0 0 k785.2.1 k785.2.2.1) ckKs ckKc 200000 0 29 k785_u3.2.1 [] = true := by decide +kernel
theorem k785_ok (l : Launch) : ckCtrOk l ckMT ckTW ckCL k785 := mt_106 (as := k785_a) (cs := k785_c) (gx := k785_g0) (f := 200000) rfl (ckHc (k784_ok l) (ckHc (k749_ok l) (ckHc (k752_ok l) (ckHc (k753_ok l) (ckHc (k754_ok l) (ckHc (k755_ok l) (ckHc (k756_ok l) (ckHc (k757_ok l) (ckHc (k758_ok l) (ckHc (k759_ok l) (ckHc (k760_ok l) (ckHc (k761_ok l) (ckHc (k762_ok l) (ckHc (k763_ok l) (ckHc (k764_ok l) (ckHc (k765_ok l) (ckHc (k766_ok l) (ckHc (k767_ok l) (ckHc (k768_ok l) (ckHc (k769_ok l) (ckHc (k770_ok l) (ckHc (k771_ok l) (ckHc (k772_ok l) (fun _ h => absurd h List.not_mem_nil)))))))))))))))))))))))) ⟨k785_t0, ⟨k785_t1, ⟨k785_t2, ⟨k785_t3, True.intro⟩⟩⟩⟩ (by decide +kernel)
-- FarMachineModel.within
noncomputable def k786 : ckCtr := (46, ([(0, (0, 0)), (1, (0, 1)), (2, (0, 2))], [], [], [(11, 12), (0, 0), (99, 99)], [], [], [], [], 0, 0), [([], [(0, 1)], [], [], [], [], [], [], [], [], 0, 0)], 1, 80, 0, 0)
noncomputable def k786_a : ckAs := []
noncomputable def k786_c : List (Nat × ckCtr) := []
theorem k786_ok (l : Launch) : ckCtrOk l ckMT ckTW ckCL k786 := mt_46 (as := k786_a) (cs := k786_c) (gx := []) (f := 200000) rfl (fun _ h => absurd h List.not_mem_nil) True.intro (by decide +kernel)
-- FarMachineModel.warm
noncomputable def k787 : ckCtr := (106, ([(0, (1, 0)), (1, (0, 0))], [], dC46, [(11, 12), (0, 0), (318, 318)], dG40, [], [], [], 0, 0), [([], [(0, 3)], [], [], [], [(20, 20)], [], [], [], [], 0, 0)], 2, 102, 0, 0)
noncomputable def k787_a : ckAs := []
noncomputable def k787_c : List (Nat × ckCtr) := [(4, k786), (50, k749), (59, k752), (59, k753), (59, k754), (59, k755), (59, k756), (59, k757), (59, k758), (59, k759), (59, k760), (59, k761), (59, k762), (59, k763), (59, k764), (59, k765), (59, k766), (59, k767), (59, k768), (59, k769), (59, k770), (59, k771)]
noncomputable def k787_u0 : ckCut := (29, ([(0, (1, 0)), (1, (0, 0)), (2, (0, 1)), (3, (0, 3)), (4, (0, 4))], [], dC46, [(11, 12), (0, 0), (318, 318), (40, 40), (5, 5)], dG40, [], [], [], 0, 0), 3, 1, 0, 0)
noncomputable def k787_u1 : ckCut := (29, ([(0, (1, 0)), (1, (0, 0)), (2, (0, 1)), (3, (0, 3)), (4, (0, 4))], [], dC46, [(11, 12), (0, 0), (318, 318), (30, 30), (10, 10)], dG40, [], [], [], 0, 0), 3, 1, 0, 0)
noncomputable def k787_u2 : ckCut := (29, ([(0, (1, 0)), (1, (0, 0)), (2, (0, 1)), (3, (0, 3)), (4, (0, 4))], [], dC46, [(11, 12), (0, 0), (318, 318), (20, 20), (15, 15)], dG40, [], [], [], 0, 0), 3, 1, 0, 0)
noncomputable def k787_u3 : ckCut := (29, ([(0, (1, 0)), (1, (0, 0)), (2, (0, 1)), (3, (0, 3)), (4, (0, 4))], [], dC46, [(11, 12), (0, 0), (318, 318), (10, 10), (20, 20)], dG40, [], [], [], 0, 0), 3, 1, 0, 0)
noncomputable def k787_g3 : List ckCut := [k787_u3]
noncomputable def k787_g2 : List ckCut := k787_u2 :: k787_g3
noncomputable def k787_g1 : List ckCut := k787_u1 :: k787_g2
noncomputable def k787_g0 : List ckCut := k787_u0 :: k787_g1
theorem k787_t0 : ckRun es_106 k787_a k787_c k787_g1 5 2 102 0 0 (ckEndF 1 0 0 k787.2.1 k787.2.2.1) ckKs ckKc 200000 0 29 k787_u0.2.1 [] = true := by decide +kernel
theorem k787_t1 : ckRun es_106 k787_a k787_c k787_g2 5 2 102 0 0 (ckEndF 1 0 0 k787.2.1 k787.2.2.1) ckKs ckKc 200000 0 29 k787_u1.2.1 [] = true := by decide +kernel
theorem k787_t2 : ckRun es_106 k787_a k787_c k787_g3 5 2 102 0 0 (ckEndF 1 0 0 k787.2.1 k787.2.2.1) ckKs ckKc 200000 0 29 k787_u2.2.1 [] = true := by decide +kernel
theorem k787_t3 : ckRun es_106 k787_a k787_c [] 5 2 102 0 0 (ckEndF 1 0 0 k787.2.1 k787.2.2.1) ckKs ckKc 200000 0 29 k787_u3.2.1 [] = true := by decide +kernel
theorem k787_ok (l : Launch) : ckCtrOk l ckMT ckTW ckCL k787 := mt_106 (as := k787_a) (cs := k787_c) (gx := k787_g0) (f := 200000) rfl (ckHc (k786_ok l) (ckHc (k749_ok l) (ckHc (k752_ok l) (ckHc (k753_ok l) (ckHc (k754_ok l) (ckHc (k755_ok l) (ckHc (k756_ok l) (ckHc (k757_ok l) (ckHc (k758_ok l) (ckHc (k759_ok l) (ckHc (k760_ok l) (ckHc (k761_ok l) (ckHc (k762_ok l) (ckHc (k763_ok l) (ckHc (k764_ok l) (ckHc (k765_ok l) (ckHc (k766_ok l) (ckHc (k767_ok l) (ckHc (k768_ok l) (ckHc (k769_ok l) (ckHc (k770_ok l) (ckHc (k771_ok l) (fun _ h => absurd h List.not_mem_nil))))))))))))))))))))))) ⟨k787_t0, ⟨k787_t1, ⟨k787_t2, ⟨k787_t3, True.intro⟩⟩⟩⟩ (by decide +kernel)
-- FarMachineModel.within
noncomputable def k788 : ckCtr := (46, ([(0, (0, 0)), (1, (0, 1)), (2, (0, 2))], [], [], [(13, 14), (0, 0), (99, 99)], [], [], [], [], 0, 0), [([], [(0, 1)], [], [], [], [], [], [], [], [], 0, 0)], 1, 80, 0, 0)
noncomputable def k788_a : ckAs := []
noncomputable def k788_c : List (Nat × ckCtr) := []
theorem k788_ok (l : Launch) : ckCtrOk l ckMT ckTW ckCL k788 := mt_46 (as := k788_a) (cs := k788_c) (gx := []) (f := 200000) rfl (fun _ h => absurd h List.not_mem_nil) True.intro (by decide +kernel)
-- FarMachineModel.warm
noncomputable def k789 : ckCtr := (106, ([(0, (1, 0)), (1, (0, 0))], [], dC46, [(13, 14), (0, 0), (318, 318)], dG40, [], [], [], 0, 0), [([], [(0, 3)], [], [], [], [(19, 19)], [], [], [], [], 0, 0)], 2, 102, 0, 0)
noncomputable def k789_a : ckAs := []
noncomputable def k789_c : List (Nat × ckCtr) := [(4, k788), (50, k749), (59, k752), (59, k753), (59, k754), (59, k755), (59, k756), (59, k757), (59, k758), (59, k759), (59, k760), (59, k761), (59, k762), (59, k763), (59, k764), (59, k765), (59, k766), (59, k767), (59, k768), (59, k769), (59, k770)]
noncomputable def k789_u0 : ckCut := (29, ([(0, (1, 0)), (1, (0, 0)), (2, (0, 1)), (3, (0, 3)), (4, (0, 4))], [], dC46, [(13, 14), (0, 0), (318, 318), (40, 40), (5, 5)], dG40, [], [], [], 0, 0), 3, 1, 0, 0)
noncomputable def k789_u1 : ckCut := (29, ([(0, (1, 0)), (1, (0, 0)), (2, (0, 1)), (3, (0, 3)), (4, (0, 4))], [], dC46, [(13, 14), (0, 0), (318, 318), (30, 30), (10, 10)], dG40, [], [], [], 0, 0), 3, 1, 0, 0)
noncomputable def k789_u2 : ckCut := (29, ([(0, (1, 0)), (1, (0, 0)), (2, (0, 1)), (3, (0, 3)), (4, (0, 4))], [], dC46, [(13, 14), (0, 0), (318, 318), (20, 20), (15, 15)], dG40, [], [], [], 0, 0), 3, 1, 0, 0)
noncomputable def k789_g2 : List ckCut := [k789_u2]
noncomputable def k789_g1 : List ckCut := k789_u1 :: k789_g2
noncomputable def k789_g0 : List ckCut := k789_u0 :: k789_g1
theorem k789_t0 : ckRun es_106 k789_a k789_c k789_g1 5 2 102 0 0 (ckEndF 1 0 0 k789.2.1 k789.2.2.1) ckKs ckKc 200000 0 29 k789_u0.2.1 [] = true := by decide +kernel
theorem k789_t1 : ckRun es_106 k789_a k789_c k789_g2 5 2 102 0 0 (ckEndF 1 0 0 k789.2.1 k789.2.2.1) ckKs ckKc 200000 0 29 k789_u1.2.1 [] = true := by decide +kernel
theorem k789_t2 : ckRun es_106 k789_a k789_c [] 5 2 102 0 0 (ckEndF 1 0 0 k789.2.1 k789.2.2.1) ckKs ckKc 200000 0 29 k789_u2.2.1 [] = true := by decide +kernel
theorem k789_ok (l : Launch) : ckCtrOk l ckMT ckTW ckCL k789 := mt_106 (as := k789_a) (cs := k789_c) (gx := k789_g0) (f := 200000) rfl (ckHc (k788_ok l) (ckHc (k749_ok l) (ckHc (k752_ok l) (ckHc (k753_ok l) (ckHc (k754_ok l) (ckHc (k755_ok l) (ckHc (k756_ok l) (ckHc (k757_ok l) (ckHc (k758_ok l) (ckHc (k759_ok l) (ckHc (k760_ok l) (ckHc (k761_ok l) (ckHc (k762_ok l) (ckHc (k763_ok l) (ckHc (k764_ok l) (ckHc (k765_ok l) (ckHc (k766_ok l) (ckHc (k767_ok l) (ckHc (k768_ok l) (ckHc (k769_ok l) (ckHc (k770_ok l) (fun _ h => absurd h List.not_mem_nil)))))))))))))))))))))) ⟨k789_t0, ⟨k789_t1, ⟨k789_t2, True.intro⟩⟩⟩ (by decide +kernel)
-- FarMachineModel.within
noncomputable def k790 : ckCtr := (46, ([(0, (0, 0)), (1, (0, 1)), (2, (0, 2))], [], [], [(15, 16), (0, 0), (99, 99)], [], [], [], [], 0, 0), [([], [(0, 1)], [], [], [], [], [], [], [], [], 0, 0)], 1, 80, 0, 0)
noncomputable def k790_a : ckAs := []
noncomputable def k790_c : List (Nat × ckCtr) := []
theorem k790_ok (l : Launch) : ckCtrOk l ckMT ckTW ckCL k790 := mt_46 (as := k790_a) (cs := k790_c) (gx := []) (f := 200000) rfl (fun _ h => absurd h List.not_mem_nil) True.intro (by decide +kernel)
-- FarMachineModel.warm
noncomputable def k791 : ckCtr := (106, ([(0, (1, 0)), (1, (0, 0))], [], dC46, [(15, 16), (0, 0), (318, 318)], dG40, [], [], [], 0, 0), [([], [(0, 3)], [], [], [], [(18, 18)], [], [], [], [], 0, 0)], 2, 102, 0, 0)
noncomputable def k791_a : ckAs := []
noncomputable def k791_c : List (Nat × ckCtr) := [(4, k790), (50, k749), (59, k752), (59, k753), (59, k754), (59, k755), (59, k756), (59, k757), (59, k758), (59, k759), (59, k760), (59, k761), (59, k762), (59, k763), (59, k764), (59, k765), (59, k766), (59, k767), (59, k768), (59, k769)]
noncomputable def k791_u0 : ckCut := (29, ([(0, (1, 0)), (1, (0, 0)), (2, (0, 1)), (3, (0, 3)), (4, (0, 4))], [], dC46, [(15, 16), (0, 0), (318, 318), (40, 40), (5, 5)], dG40, [], [], [], 0, 0), 3, 1, 0, 0)
noncomputable def k791_u1 : ckCut := (29, ([(0, (1, 0)), (1, (0, 0)), (2, (0, 1)), (3, (0, 3)), (4, (0, 4))], [], dC46, [(15, 16), (0, 0), (318, 318), (30, 30), (10, 10)], dG40, [], [], [], 0, 0), 3, 1, 0, 0)
noncomputable def k791_u2 : ckCut := (29, ([(0, (1, 0)), (1, (0, 0)), (2, (0, 1)), (3, (0, 3)), (4, (0, 4))], [], dC46, [(15, 16), (0, 0), (318, 318), (20, 20), (15, 15)], dG40, [], [], [], 0, 0), 3, 1, 0, 0)
noncomputable def k791_g2 : List ckCut := [k791_u2]
noncomputable def k791_g1 : List ckCut := k791_u1 :: k791_g2
noncomputable def k791_g0 : List ckCut := k791_u0 :: k791_g1
theorem k791_t0 : ckRun es_106 k791_a k791_c k791_g1 5 2 102 0 0 (ckEndF 1 0 0 k791.2.1 k791.2.2.1) ckKs ckKc 200000 0 29 k791_u0.2.1 [] = true := by decide +kernel
theorem k791_t1 : ckRun es_106 k791_a k791_c k791_g2 5 2 102 0 0 (ckEndF 1 0 0 k791.2.1 k791.2.2.1) ckKs ckKc 200000 0 29 k791_u1.2.1 [] = true := by decide +kernel
theorem k791_t2 : ckRun es_106 k791_a k791_c [] 5 2 102 0 0 (ckEndF 1 0 0 k791.2.1 k791.2.2.1) ckKs ckKc 200000 0 29 k791_u2.2.1 [] = true := by decide +kernel
theorem k791_ok (l : Launch) : ckCtrOk l ckMT ckTW ckCL k791 := mt_106 (as := k791_a) (cs := k791_c) (gx := k791_g0) (f := 200000) rfl (ckHc (k790_ok l) (ckHc (k749_ok l) (ckHc (k752_ok l) (ckHc (k753_ok l) (ckHc (k754_ok l) (ckHc (k755_ok l) (ckHc (k756_ok l) (ckHc (k757_ok l) (ckHc (k758_ok l) (ckHc (k759_ok l) (ckHc (k760_ok l) (ckHc (k761_ok l) (ckHc (k762_ok l) (ckHc (k763_ok l) (ckHc (k764_ok l) (ckHc (k765_ok l) (ckHc (k766_ok l) (ckHc (k767_ok l) (ckHc (k768_ok l) (ckHc (k769_ok l) (fun _ h => absurd h List.not_mem_nil))))))))))))))))))))) ⟨k791_t0, ⟨k791_t1, ⟨k791_t2, True.intro⟩⟩⟩ (by decide +kernel)
-- FarMachineModel.within
noncomputable def k792 : ckCtr := (46, ([(0, (0, 0)), (1, (0, 1)), (2, (0, 2))], [], [], [(17, 18), (0, 0), (99, 99)], [], [], [], [], 0, 0), [([], [(0, 1)], [], [], [], [], [], [], [], [], 0, 0)], 1, 80, 0, 0)
noncomputable def k792_a : ckAs := []
noncomputable def k792_c : List (Nat × ckCtr) := []
theorem k792_ok (l : Launch) : ckCtrOk l ckMT ckTW ckCL k792 := mt_46 (as := k792_a) (cs := k792_c) (gx := []) (f := 200000) rfl (fun _ h => absurd h List.not_mem_nil) True.intro (by decide +kernel)
-- FarMachineModel.warm
noncomputable def k793 : ckCtr := (106, ([(0, (1, 0)), (1, (0, 0))], [], dC46, [(17, 18), (0, 0), (318, 318)], dG40, [], [], [], 0, 0), [([], [(0, 3)], [], [], [], [(17, 17)], [], [], [], [], 0, 0)], 2, 102, 0, 0)
noncomputable def k793_a : ckAs := []
noncomputable def k793_c : List (Nat × ckCtr) := [(4, k792), (50, k749), (59, k752), (59, k753), (59, k754), (59, k755), (59, k756), (59, k757), (59, k758), (59, k759), (59, k760), (59, k761), (59, k762), (59, k763), (59, k764), (59, k765), (59, k766), (59, k767), (59, k768)]
noncomputable def k793_u0 : ckCut := (29, ([(0, (1, 0)), (1, (0, 0)), (2, (0, 1)), (3, (0, 3)), (4, (0, 4))], [], dC46, [(17, 18), (0, 0), (318, 318), (40, 40), (5, 5)], dG40, [], [], [], 0, 0), 3, 1, 0, 0)
noncomputable def k793_u1 : ckCut := (29, ([(0, (1, 0)), (1, (0, 0)), (2, (0, 1)), (3, (0, 3)), (4, (0, 4))], [], dC46, [(17, 18), (0, 0), (318, 318), (30, 30), (10, 10)], dG40, [], [], [], 0, 0), 3, 1, 0, 0)
noncomputable def k793_u2 : ckCut := (29, ([(0, (1, 0)), (1, (0, 0)), (2, (0, 1)), (3, (0, 3)), (4, (0, 4))], [], dC46, [(17, 18), (0, 0), (318, 318), (20, 20), (15, 15)], dG40, [], [], [], 0, 0), 3, 1, 0, 0)
noncomputable def k793_g2 : List ckCut := [k793_u2]
noncomputable def k793_g1 : List ckCut := k793_u1 :: k793_g2
noncomputable def k793_g0 : List ckCut := k793_u0 :: k793_g1
theorem k793_t0 : ckRun es_106 k793_a k793_c k793_g1 5 2 102 0 0 (ckEndF 1 0 0 k793.2.1 k793.2.2.1) ckKs ckKc 200000 0 29 k793_u0.2.1 [] = true := by decide +kernel
theorem k793_t1 : ckRun es_106 k793_a k793_c k793_g2 5 2 102 0 0 (ckEndF 1 0 0 k793.2.1 k793.2.2.1) ckKs ckKc 200000 0 29 k793_u1.2.1 [] = true := by decide +kernel
theorem k793_t2 : ckRun es_106 k793_a k793_c [] 5 2 102 0 0 (ckEndF 1 0 0 k793.2.1 k793.2.2.1) ckKs ckKc 200000 0 29 k793_u2.2.1 [] = true := by decide +kernel
theorem k793_ok (l : Launch) : ckCtrOk l ckMT ckTW ckCL k793 := mt_106 (as := k793_a) (cs := k793_c) (gx := k793_g0) (f := 200000) rfl (ckHc (k792_ok l) (ckHc (k749_ok l) (ckHc (k752_ok l) (ckHc (k753_ok l) (ckHc (k754_ok l) (ckHc (k755_ok l) (ckHc (k756_ok l) (ckHc (k757_ok l) (ckHc (k758_ok l) (ckHc (k759_ok l) (ckHc (k760_ok l) (ckHc (k761_ok l) (ckHc (k762_ok l) (ckHc (k763_ok l) (ckHc (k764_ok l) (ckHc (k765_ok l) (ckHc (k766_ok l) (ckHc (k767_ok l) (ckHc (k768_ok l) (fun _ h => absurd h List.not_mem_nil)))))))))))))))))))) ⟨k793_t0, ⟨k793_t1, ⟨k793_t2, True.intro⟩⟩⟩ (by decide +kernel)
-- FarMachineModel.within
noncomputable def k794 : ckCtr := (46, ([(0, (0, 0)), (1, (0, 1)), (2, (0, 2))], [], [], [(19, 20), (0, 0), (99, 99)], [], [], [], [], 0, 0), [([], [(0, 1)], [], [], [], [], [], [], [], [], 0, 0)], 1, 80, 0, 0)
noncomputable def k794_a : ckAs := []
noncomputable def k794_c : List (Nat × ckCtr) := []
theorem k794_ok (l : Launch) : ckCtrOk l ckMT ckTW ckCL k794 := mt_46 (as := k794_a) (cs := k794_c) (gx := []) (f := 200000) rfl (fun _ h => absurd h List.not_mem_nil) True.intro (by decide +kernel)
-- FarMachineModel.warm
noncomputable def k795 : ckCtr := (106, ([(0, (1, 0)), (1, (0, 0))], [], dC46, [(19, 20), (0, 0), (318, 318)], dG40, [], [], [], 0, 0), [([], [(0, 3)], [], [], [], [(16, 16)], [], [], [], [], 0, 0)], 2, 102, 0, 0)
noncomputable def k795_a : ckAs := []
noncomputable def k795_c : List (Nat × ckCtr) := [(4, k794), (50, k749), (59, k752), (59, k753), (59, k754), (59, k755), (59, k756), (59, k757), (59, k758), (59, k759), (59, k760), (59, k761), (59, k762), (59, k763), (59, k764), (59, k765), (59, k766), (59, k767)]
noncomputable def k795_u0 : ckCut := (29, ([(0, (1, 0)), (1, (0, 0)), (2, (0, 1)), (3, (0, 3)), (4, (0, 4))], [], dC46, [(19, 20), (0, 0), (318, 318), (40, 40), (5, 5)], dG40, [], [], [], 0, 0), 3, 1, 0, 0)
noncomputable def k795_u1 : ckCut := (29, ([(0, (1, 0)), (1, (0, 0)), (2, (0, 1)), (3, (0, 3)), (4, (0, 4))], [], dC46, [(19, 20), (0, 0), (318, 318), (30, 30), (10, 10)], dG40, [], [], [], 0, 0), 3, 1, 0, 0)
noncomputable def k795_u2 : ckCut := (29, ([(0, (1, 0)), (1, (0, 0)), (2, (0, 1)), (3, (0, 3)), (4, (0, 4))], [], dC46, [(19, 20), (0, 0), (318, 318), (20, 20), (15, 15)], dG40, [], [], [], 0, 0), 3, 1, 0, 0)
noncomputable def k795_g2 : List ckCut := [k795_u2]
noncomputable def k795_g1 : List ckCut := k795_u1 :: k795_g2
noncomputable def k795_g0 : List ckCut := k795_u0 :: k795_g1
theorem k795_t0 : ckRun es_106 k795_a k795_c k795_g1 5 2 102 0 0 (ckEndF 1 0 0 k795.2.1 k795.2.2.1) ckKs ckKc 200000 0 29 k795_u0.2.1 [] = true := by decide +kernel
theorem k795_t1 : ckRun es_106 k795_a k795_c k795_g2 5 2 102 0 0 (ckEndF 1 0 0 k795.2.1 k795.2.2.1) ckKs ckKc 200000 0 29 k795_u1.2.1 [] = true := by decide +kernel
theorem k795_t2 : ckRun es_106 k795_a k795_c [] 5 2 102 0 0 (ckEndF 1 0 0 k795.2.1 k795.2.2.1) ckKs ckKc 200000 0 29 k795_u2.2.1 [] = true := by decide +kernel
theorem k795_ok (l : Launch) : ckCtrOk l ckMT ckTW ckCL k795 := mt_106 (as := k795_a) (cs := k795_c) (gx := k795_g0) (f := 200000) rfl (ckHc (k794_ok l) (ckHc (k749_ok l) (ckHc (k752_ok l) (ckHc (k753_ok l) (ckHc (k754_ok l) (ckHc (k755_ok l) (ckHc (k756_ok l) (ckHc (k757_ok l) (ckHc (k758_ok l) (ckHc (k759_ok l) (ckHc (k760_ok l) (ckHc (k761_ok l) (ckHc (k762_ok l) (ckHc (k763_ok l) (ckHc (k764_ok l) (ckHc (k765_ok l) (ckHc (k766_ok l) (ckHc (k767_ok l) (fun _ h => absurd h List.not_mem_nil))))))))))))))))))) ⟨k795_t0, ⟨k795_t1, ⟨k795_t2, True.intro⟩⟩⟩ (by decide +kernel)
-- FarMachineModel.within
noncomputable def k796 : ckCtr := (46, ([(0, (0, 0)), (1, (0, 1)), (2, (0, 2))], [], [], [(21, 22), (0, 0), (99, 99)], [], [], [], [], 0, 0), [([], [(0, 1)], [], [], [], [], [], [], [], [], 0, 0)], 1, 80, 0, 0)
noncomputable def k796_a : ckAs := []
noncomputable def k796_c : List (Nat × ckCtr) := []
theorem k796_ok (l : Launch) : ckCtrOk l ckMT ckTW ckCL k796 := mt_46 (as := k796_a) (cs := k796_c) (gx := []) (f := 200000) rfl (fun _ h => absurd h List.not_mem_nil) True.intro (by decide +kernel)
-- FarMachineModel.warm
noncomputable def k797 : ckCtr := (106, ([(0, (1, 0)), (1, (0, 0))], [], dC46, [(21, 22), (0, 0), (318, 318)], dG40, [], [], [], 0, 0), [([], [(0, 3)], [], [], [], [(15, 15)], [], [], [], [], 0, 0)], 2, 102, 0, 0)
noncomputable def k797_a : ckAs := []
noncomputable def k797_c : List (Nat × ckCtr) := [(4, k796), (50, k749), (59, k752), (59, k753), (59, k754), (59, k755), (59, k756), (59, k757), (59, k758), (59, k759), (59, k760), (59, k761), (59, k762), (59, k763), (59, k764), (59, k765), (59, k766)]
noncomputable def k797_u0 : ckCut := (29, ([(0, (1, 0)), (1, (0, 0)), (2, (0, 1)), (3, (0, 3)), (4, (0, 4))], [], dC46, [(21, 22), (0, 0), (318, 318), (40, 40), (5, 5)], dG40, [], [], [], 0, 0), 3, 1, 0, 0)
noncomputable def k797_u1 : ckCut := (29, ([(0, (1, 0)), (1, (0, 0)), (2, (0, 1)), (3, (0, 3)), (4, (0, 4))], [], dC46, [(21, 22), (0, 0), (318, 318), (30, 30), (10, 10)], dG40, [], [], [], 0, 0), 3, 1, 0, 0)
noncomputable def k797_u2 : ckCut := (29, ([(0, (1, 0)), (1, (0, 0)), (2, (0, 1)), (3, (0, 3)), (4, (0, 4))], [], dC46, [(21, 22), (0, 0), (318, 318), (20, 20), (15, 15)], dG40, [], [], [], 0, 0), 3, 1, 0, 0)
noncomputable def k797_g2 : List ckCut := [k797_u2]
noncomputable def k797_g1 : List ckCut := k797_u1 :: k797_g2
noncomputable def k797_g0 : List ckCut := k797_u0 :: k797_g1
theorem k797_t0 : ckRun es_106 k797_a k797_c k797_g1 5 2 102 0 0 (ckEndF 1 0 0 k797.2.1 k797.2.2.1) ckKs ckKc 200000 0 29 k797_u0.2.1 [] = true := by decide +kernel
theorem k797_t1 : ckRun es_106 k797_a k797_c k797_g2 5 2 102 0 0 (ckEndF 1 0 0 k797.2.1 k797.2.2.1) ckKs ckKc 200000 0 29 k797_u1.2.1 [] = true := by decide +kernel
theorem k797_t2 : ckRun es_106 k797_a k797_c [] 5 2 102 0 0 (ckEndF 1 0 0 k797.2.1 k797.2.2.1) ckKs ckKc 200000 0 29 k797_u2.2.1 [] = true := by decide +kernel
theorem k797_ok (l : Launch) : ckCtrOk l ckMT ckTW ckCL k797 := mt_106 (as := k797_a) (cs := k797_c) (gx := k797_g0) (f := 200000) rfl (ckHc (k796_ok l) (ckHc (k749_ok l) (ckHc (k752_ok l) (ckHc (k753_ok l) (ckHc (k754_ok l) (ckHc (k755_ok l) (ckHc (k756_ok l) (ckHc (k757_ok l) (ckHc (k758_ok l) (ckHc (k759_ok l) (ckHc (k760_ok l) (ckHc (k761_ok l) (ckHc (k762_ok l) (ckHc (k763_ok l) (ckHc (k764_ok l) (ckHc (k765_ok l) (ckHc (k766_ok l) (fun _ h => absurd h List.not_mem_nil)))))))))))))))))) ⟨k797_t0, ⟨k797_t1, ⟨k797_t2, True.intro⟩⟩⟩ (by decide +kernel)
-- FarMachineModel.within
noncomputable def k798 : ckCtr := (46, ([(0, (0, 0)), (1, (0, 1)), (2, (0, 2))], [], [], [(23, 24), (0, 0), (99, 99)], [], [], [], [], 0, 0), [([], [(0, 1)], [], [], [], [], [], [], [], [], 0, 0)], 1, 80, 0, 0)
noncomputable def k798_a : ckAs := []
noncomputable def k798_c : List (Nat × ckCtr) := []
theorem k798_ok (l : Launch) : ckCtrOk l ckMT ckTW ckCL k798 := mt_46 (as := k798_a) (cs := k798_c) (gx := []) (f := 200000) rfl (fun _ h => absurd h List.not_mem_nil) True.intro (by decide +kernel)

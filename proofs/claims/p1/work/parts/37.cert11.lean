/-! THE CHECKER: contracts with their certificates (printed by wip/gen/p1gen.py) -/
-- FarMachineModel.warm
noncomputable def k799 : ckCtr := (106, ([(0, (1, 0)), (1, (0, 0))], [], dC46, [(23, 24), (0, 0), (318, 318)], dG40, [], [], [], 0, 0), [([], [(0, 3)], [], [], [], [(14, 14)], [], [], [], [], 0, 0)], 2, 102, 0, 0)
noncomputable def k799_a : ckAs := []
noncomputable def k799_c : List (Nat × ckCtr) := [(4, k798), (50, k749), (59, k752), (59, k753), (59, k754), (59, k755), (59, k756), (59, k757), (59, k758), (59, k759), (59, k760), (59, k761), (59, k762), (59, k763), (59, k764), (59, k765)]
noncomputable def k799_u0 : ckCut := (29, ([(0, (1, 0)), (1, (0, 0)), (2, (0, 1)), (3, (0, 3)), (4, (0, 4))], [], dC46, [(23, 24), (0, 0), (318, 318), (40, 40), (5, 5)], dG40, [], [], [], 0, 0), 3, 1, 0, 0)
noncomputable def k799_u1 : ckCut := (29, ([(0, (1, 0)), (1, (0, 0)), (2, (0, 1)), (3, (0, 3)), (4, (0, 4))], [], dC46, [(23, 24), (0, 0), (318, 318), (30, 30), (10, 10)], dG40, [], [], [], 0, 0), 3, 1, 0, 0)
noncomputable def k799_g1 : List ckCut := [k799_u1]
noncomputable def k799_g0 : List ckCut := k799_u0 :: k799_g1
theorem k799_t0 : ckRun es_106 k799_a k799_c k799_g1 5 2 102 0 0 (ckEndF 1 0 0 k799.2.1 k799.2.2.1) ckKs ckKc 200000 0 29 k799_u0.2.1 [] = true := by decide +kernel
theorem k799_t1 : ckRun es_106 k799_a k799_c [] 5 2 102 0 0 (ckEndF 1 0 0 k799.2.1 k799.2.2.1) ckKs ckKc 200000 0 29 k799_u1.2.1 [] = true := by decide +kernel
theorem k799_ok (l : Launch) : ckCtrOk l ckMT ckTW ckCL k799 := mt_106 (as := k799_a) (cs := k799_c) (gx := k799_g0) (f := 200000) rfl (ckHc (k798_ok l) (ckHc (k749_ok l) (ckHc (k752_ok l) (ckHc (k753_ok l) (ckHc (k754_ok l) (ckHc (k755_ok l) (ckHc (k756_ok l) (ckHc (k757_ok l) (ckHc (k758_ok l) (ckHc (k759_ok l) (ckHc (k760_ok l) (ckHc (k761_ok l) (ckHc (k762_ok l) (ckHc (k763_ok l) (ckHc (k764_ok l) (ckHc (k765_ok l) (fun _ h => absurd h List.not_mem_nil))))))))))))))))) ⟨k799_t0, ⟨k799_t1, True.intro⟩⟩ (by decide +kernel)
-- FarMachineModel.within
noncomputable def k800 : ckCtr := (46, ([(0, (0, 0)), (1, (0, 1)), (2, (0, 2))], [], [], [(25, 26), (0, 0), (99, 99)], [], [], [], [], 0, 0), [([], [(0, 1)], [], [], [], [], [], [], [], [], 0, 0)], 1, 80, 0, 0)
noncomputable def k800_a : ckAs := []
noncomputable def k800_c : List (Nat × ckCtr) := []
theorem k800_ok (l : Launch) : ckCtrOk l ckMT ckTW ckCL k800 := mt_46 (as := k800_a) (cs := k800_c) (gx := []) (f := 200000) rfl (fun _ h => absurd h List.not_mem_nil) True.intro (by decide +kernel)
-- FarMachineModel.warm
noncomputable def k801 : ckCtr := (106, ([(0, (1, 0)), (1, (0, 0))], [], dC46, [(25, 26), (0, 0), (318, 318)], dG40, [], [], [], 0, 0), [([], [(0, 3)], [], [], [], [(13, 13)], [], [], [], [], 0, 0)], 2, 102, 0, 0)
noncomputable def k801_a : ckAs := []
noncomputable def k801_c : List (Nat × ckCtr) := [(4, k800), (50, k749), (59, k752), (59, k753), (59, k754), (59, k755), (59, k756), (59, k757), (59, k758), (59, k759), (59, k760), (59, k761), (59, k762), (59, k763), (59, k764)]
noncomputable def k801_u0 : ckCut := (29, ([(0, (1, 0)), (1, (0, 0)), (2, (0, 1)), (3, (0, 3)), (4, (0, 4))], [], dC46, [(25, 26), (0, 0), (318, 318), (40, 40), (5, 5)], dG40, [], [], [], 0, 0), 3, 1, 0, 0)
noncomputable def k801_u1 : ckCut := (29, ([(0, (1, 0)), (1, (0, 0)), (2, (0, 1)), (3, (0, 3)), (4, (0, 4))], [], dC46, [(25, 26), (0, 0), (318, 318), (30, 30), (10, 10)], dG40, [], [], [], 0, 0), 3, 1, 0, 0)
noncomputable def k801_g1 : List ckCut := [k801_u1]
noncomputable def k801_g0 : List ckCut := k801_u0 :: k801_g1
theorem k801_t0 : ckRun es_106 k801_a k801_c k801_g1 5 2 102 0 0 (ckEndF 1 0 0 k801.2.1 k801.2.2.1) ckKs ckKc 200000 0 29 k801_u0.2.1 [] = true := by decide +kernel
theorem k801_t1 : ckRun es_106 k801_a k801_c [] 5 2 102 0 0 (ckEndF 1 0 0 k801.2.1 k801.2.2.1) ckKs ckKc 200000 0 29 k801_u1.2.1 [] = true := by decide +kernel
theorem k801_ok (l : Launch) : ckCtrOk l ckMT ckTW ckCL k801 := mt_106 (as := k801_a) (cs := k801_c) (gx := k801_g0) (f := 200000) rfl (ckHc (k800_ok l) (ckHc (k749_ok l) (ckHc (k752_ok l) (ckHc (k753_ok l) (ckHc (k754_ok l) (ckHc (k755_ok l) (ckHc (k756_ok l) (ckHc (k757_ok l) (ckHc (k758_ok l) (ckHc (k759_ok l) (ckHc (k760_ok l) (ckHc (k761_ok l) (ckHc (k762_ok l) (ckHc (k763_ok l) (ckHc (k764_ok l) (fun _ h => absurd h List.not_mem_nil)))))))))))))))) ⟨k801_t0, ⟨k801_t1, True.intro⟩⟩ (by decide +kernel)
-- FarMachineModel.within
noncomputable def k802 : ckCtr := (46, ([(0, (0, 0)), (1, (0, 1)), (2, (0, 2))], [], [], [(27, 28), (0, 0), (99, 99)], [], [], [], [], 0, 0), [([], [(0, 1)], [], [], [], [], [], [], [], [], 0, 0)], 1, 80, 0, 0)
noncomputable def k802_a : ckAs := []
noncomputable def k802_c : List (Nat × ckCtr) := []
theorem k802_ok (l : Launch) : ckCtrOk l ckMT ckTW ckCL k802 := mt_46 (as := k802_a) (cs := k802_c) (gx := []) (f := 200000) rfl (fun _ h => absurd h List.not_mem_nil) True.intro (by decide +kernel)
-- FarMachineModel.warm
noncomputable def k803 : ckCtr := (106, ([(0, (1, 0)), (1, (0, 0))], [], dC46, [(27, 28), (0, 0), (318, 318)], dG40, [], [], [], 0, 0), [([], [(0, 3)], [], [], [], [(12, 12)], [], [], [], [], 0, 0)], 2, 102, 0, 0)
noncomputable def k803_a : ckAs := []
noncomputable def k803_c : List (Nat × ckCtr) := [(4, k802), (50, k749), (59, k752), (59, k753), (59, k754), (59, k755), (59, k756), (59, k757), (59, k758), (59, k759), (59, k760), (59, k761), (59, k762), (59, k763)]
noncomputable def k803_u0 : ckCut := (29, ([(0, (1, 0)), (1, (0, 0)), (2, (0, 1)), (3, (0, 3)), (4, (0, 4))], [], dC46, [(27, 28), (0, 0), (318, 318), (40, 40), (5, 5)], dG40, [], [], [], 0, 0), 3, 1, 0, 0)
noncomputable def k803_u1 : ckCut := (29, ([(0, (1, 0)), (1, (0, 0)), (2, (0, 1)), (3, (0, 3)), (4, (0, 4))], [], dC46, [(27, 28), (0, 0), (318, 318), (30, 30), (10, 10)], dG40, [], [], [], 0, 0), 3, 1, 0, 0)
noncomputable def k803_g1 : List ckCut := [k803_u1]
noncomputable def k803_g0 : List ckCut := k803_u0 :: k803_g1
theorem k803_t0 : ckRun es_106 k803_a k803_c k803_g1 5 2 102 0 0 (ckEndF 1 0 0 k803.2.1 k803.2.2.1) ckKs ckKc 200000 0 29 k803_u0.2.1 [] = true := by decide +kernel
theorem k803_t1 : ckRun es_106 k803_a k803_c [] 5 2 102 0 0 (ckEndF 1 0 0 k803.2.1 k803.2.2.1) ckKs ckKc 200000 0 29 k803_u1.2.1 [] = true := by decide +kernel
theorem k803_ok (l : Launch) : ckCtrOk l ckMT ckTW ckCL k803 := mt_106 (as := k803_a) (cs := k803_c) (gx := k803_g0) (f := 200000) rfl (ckHc (k802_ok l) (ckHc (k749_ok l) (ckHc (k752_ok l) (ckHc (k753_ok l) (ckHc (k754_ok l) (ckHc (k755_ok l) (ckHc (k756_ok l) (ckHc (k757_ok l) (ckHc (k758_ok l) (ckHc (k759_ok l) (ckHc (k760_ok l) (ckHc (k761_ok l) (ckHc (k762_ok l) (ckHc (k763_ok l) (fun _ h => absurd h List.not_mem_nil))))))))))))))) ⟨k803_t0, ⟨k803_t1, True.intro⟩⟩ (by decide +kernel)
-- FarMachineModel.within
noncomputable def k804 : ckCtr := (46, ([(0, (0, 0)), (1, (0, 1)), (2, (0, 2))], [], [], [(29, 30), (0, 0), (99, 99)], [], [], [], [], 0, 0), [([], [(0, 1)], [], [], [], [], [], [], [], [], 0, 0)], 1, 80, 0, 0)
noncomputable def k804_a : ckAs := []
noncomputable def k804_c : List (Nat × ckCtr) := []
theorem k804_ok (l : Launch) : ckCtrOk l ckMT ckTW ckCL k804 := mt_46 (as := k804_a) (cs := k804_c) (gx := []) (f := 200000) rfl (fun _ h => absurd h List.not_mem_nil) True.intro (by decide +kernel)
-- FarMachineModel.warm
noncomputable def k805 : ckCtr := (106, ([(0, (1, 0)), (1, (0, 0))], [], dC46, [(29, 30), (0, 0), (318, 318)], dG40, [], [], [], 0, 0), [([], [(0, 3)], [], [], [], [(11, 11)], [], [], [], [], 0, 0)], 2, 102, 0, 0)
noncomputable def k805_a : ckAs := []
noncomputable def k805_c : List (Nat × ckCtr) := [(4, k804), (50, k749), (59, k752), (59, k753), (59, k754), (59, k755), (59, k756), (59, k757), (59, k758), (59, k759), (59, k760), (59, k761), (59, k762)]
noncomputable def k805_u0 : ckCut := (29, ([(0, (1, 0)), (1, (0, 0)), (2, (0, 1)), (3, (0, 3)), (4, (0, 4))], [], dC46, [(29, 30), (0, 0), (318, 318), (40, 40), (5, 5)], dG40, [], [], [], 0, 0), 3, 1, 0, 0)
noncomputable def k805_u1 : ckCut := (29, ([(0, (1, 0)), (1, (0, 0)), (2, (0, 1)), (3, (0, 3)), (4, (0, 4))], [], dC46, [(29, 30), (0, 0), (318, 318), (30, 30), (10, 10)], dG40, [], [], [], 0, 0), 3, 1, 0, 0)
noncomputable def k805_g1 : List ckCut := [k805_u1]
noncomputable def k805_g0 : List ckCut := k805_u0 :: k805_g1
theorem k805_t0 : ckRun es_106 k805_a k805_c k805_g1 5 2 102 0 0 (ckEndF 1 0 0 k805.2.1 k805.2.2.1) ckKs ckKc 200000 0 29 k805_u0.2.1 [] = true := by decide +kernel
theorem k805_t1 : ckRun es_106 k805_a k805_c [] 5 2 102 0 0 (ckEndF 1 0 0 k805.2.1 k805.2.2.1) ckKs ckKc 200000 0 29 k805_u1.2.1 [] = true := by decide +kernel
theorem k805_ok (l : Launch) : ckCtrOk l ckMT ckTW ckCL k805 := mt_106 (as := k805_a) (cs := k805_c) (gx := k805_g0) (f := 200000) rfl (ckHc (k804_ok l) (ckHc (k749_ok l) (ckHc (k752_ok l) (ckHc (k753_ok l) (ckHc (k754_ok l) (ckHc (k755_ok l) (ckHc (k756_ok l) (ckHc (k757_ok l) (ckHc (k758_ok l) (ckHc (k759_ok l) (ckHc (k760_ok l) (ckHc (k761_ok l) (ckHc (k762_ok l) (fun _ h => absurd h List.not_mem_nil)))))))))))))) ⟨k805_t0, ⟨k805_t1, True.intro⟩⟩ (by decide +kernel)
-- FarMachineModel.within
noncomputable def k806 : ckCtr := (46, ([(0, (0, 0)), (1, (0, 1)), (2, (0, 2))], [], [], [(31, 32), (0, 0), (99, 99)], [], [], [], [], 0, 0), [([], [(0, 1)], [], [], [], [], [], [], [], [], 0, 0)], 1, 80, 0, 0)
noncomputable def k806_a : ckAs := []
noncomputable def k806_c : List (Nat × ckCtr) := []
theorem k806_ok (l : Launch) : ckCtrOk l ckMT ckTW ckCL k806 := mt_46 (as := k806_a) (cs := k806_c) (gx := []) (f := 200000) rfl (fun _ h => absurd h List.not_mem_nil) True.intro (by decide +kernel)
-- FarMachineModel.warm
noncomputable def k807 : ckCtr := (106, ([(0, (1, 0)), (1, (0, 0))], [], dC46, [(31, 32), (0, 0), (318, 318)], dG40, [], [], [], 0, 0), [([], [(0, 3)], [], [], [], [(10, 10)], [], [], [], [], 0, 0)], 2, 102, 0, 0)
noncomputable def k807_a : ckAs := []
noncomputable def k807_c : List (Nat × ckCtr) := [(4, k806), (50, k749), (59, k752), (59, k753), (59, k754), (59, k755), (59, k756), (59, k757), (59, k758), (59, k759), (59, k760), (59, k761)]
noncomputable def k807_u0 : ckCut := (29, ([(0, (1, 0)), (1, (0, 0)), (2, (0, 1)), (3, (0, 3)), (4, (0, 4))], [], dC46, [(31, 32), (0, 0), (318, 318), (40, 40), (5, 5)], dG40, [], [], [], 0, 0), 3, 1, 0, 0)
noncomputable def k807_u1 : ckCut := (29, ([(0, (1, 0)), (1, (0, 0)), (2, (0, 1)), (3, (0, 3)), (4, (0, 4))], [], dC46, [(31, 32), (0, 0), (318, 318), (30, 30), (10, 10)], dG40, [], [], [], 0, 0), 3, 1, 0, 0)
noncomputable def k807_g1 : List ckCut := [k807_u1]
noncomputable def k807_g0 : List ckCut := k807_u0 :: k807_g1
theorem k807_t0 : ckRun es_106 k807_a k807_c k807_g1 5 2 102 0 0 (ckEndF 1 0 0 k807.2.1 k807.2.2.1) ckKs ckKc 200000 0 29 k807_u0.2.1 [] = true := by decide +kernel
theorem k807_t1 : ckRun es_106 k807_a k807_c [] 5 2 102 0 0 (ckEndF 1 0 0 k807.2.1 k807.2.2.1) ckKs ckKc 200000 0 29 k807_u1.2.1 [] = true := by decide +kernel
theorem k807_ok (l : Launch) : ckCtrOk l ckMT ckTW ckCL k807 := mt_106 (as := k807_a) (cs := k807_c) (gx := k807_g0) (f := 200000) rfl (ckHc (k806_ok l) (ckHc (k749_ok l) (ckHc (k752_ok l) (ckHc (k753_ok l) (ckHc (k754_ok l) (ckHc (k755_ok l) (ckHc (k756_ok l) (ckHc (k757_ok l) (ckHc (k758_ok l) (ckHc (k759_ok l) (ckHc (k760_ok l) (ckHc (k761_ok l) (fun _ h => absurd h List.not_mem_nil))))))))))))) ⟨k807_t0, ⟨k807_t1, True.intro⟩⟩ (by decide +kernel)
-- FarMachineModel.within
noncomputable def k808 : ckCtr := (46, ([(0, (0, 0)), (1, (0, 1)), (2, (0, 2))], [], [], [(33, 34), (0, 0), (99, 99)], [], [], [], [], 0, 0), [([], [(0, 1)], [], [], [], [], [], [], [], [], 0, 0)], 1, 80, 0, 0)
noncomputable def k808_a : ckAs := []
noncomputable def k808_c : List (Nat × ckCtr) := []
theorem k808_ok (l : Launch) : ckCtrOk l ckMT ckTW ckCL k808 := mt_46 (as := k808_a) (cs := k808_c) (gx := []) (f := 200000) rfl (fun _ h => absurd h List.not_mem_nil) True.intro (by decide +kernel)
-- FarMachineModel.warm
noncomputable def k809 : ckCtr := (106, ([(0, (1, 0)), (1, (0, 0))], [], dC46, [(33, 34), (0, 0), (318, 318)], dG40, [], [], [], 0, 0), [([], [(0, 3)], [], [], [], [(9, 9)], [], [], [], [], 0, 0)], 2, 102, 0, 0)
noncomputable def k809_a : ckAs := []
noncomputable def k809_c : List (Nat × ckCtr) := [(4, k808), (50, k749), (59, k752), (59, k753), (59, k754), (59, k755), (59, k756), (59, k757), (59, k758), (59, k759), (59, k760)]
noncomputable def k809_u0 : ckCut := (29, ([(0, (1, 0)), (1, (0, 0)), (2, (0, 1)), (3, (0, 3)), (4, (0, 4))], [], dC46, [(33, 34), (0, 0), (318, 318), (40, 40), (5, 5)], dG40, [], [], [], 0, 0), 3, 1, 0, 0)
noncomputable def k809_g0 : List ckCut := [k809_u0]
theorem k809_t0 : ckRun es_106 k809_a k809_c [] 5 2 102 0 0 (ckEndF 1 0 0 k809.2.1 k809.2.2.1) ckKs ckKc 200000 0 29 k809_u0.2.1 [] = true := by decide +kernel
theorem k809_ok (l : Launch) : ckCtrOk l ckMT ckTW ckCL k809 := mt_106 (as := k809_a) (cs := k809_c) (gx := k809_g0) (f := 200000) rfl (ckHc (k808_ok l) (ckHc (k749_ok l) (ckHc (k752_ok l) (ckHc (k753_ok l) (ckHc (k754_ok l) (ckHc (k755_ok l) (ckHc (k756_ok l) (ckHc (k757_ok l) (ckHc (k758_ok l) (ckHc (k759_ok l) (ckHc (k760_ok l) (fun _ h => absurd h List.not_mem_nil)))))))))))) ⟨k809_t0, True.intro⟩ (by decide +kernel)
-- FarMachineModel.within
noncomputable def k810 : ckCtr := (46, ([(0, (0, 0)), (1, (0, 1)), (2, (0, 2))], [], [], [(35, 36), (0, 0), (99, 99)], [], [], [], [], 0, 0), [([], [(0, 1)], [], [], [], [], [], [], [], [], 0, 0)], 1, 80, 0, 0)
noncomputable def k810_a : ckAs := []
noncomputable def k810_c : List (Nat × ckCtr) := []
theorem k810_ok (l : Launch) : ckCtrOk l ckMT ckTW ckCL k810 := mt_46 (as := k810_a) (cs := k810_c) (gx := []) (f := 200000) rfl (fun _ h => absurd h List.not_mem_nil) True.intro (by decide +kernel)
-- FarMachineModel.warm
noncomputable def k811 : ckCtr := (106, ([(0, (1, 0)), (1, (0, 0))], [], dC46, [(35, 36), (0, 0), (318, 318)], dG40, [], [], [], 0, 0), [([], [(0, 3)], [], [], [], [(8, 8)], [], [], [], [], 0, 0)], 2, 102, 0, 0)
noncomputable def k811_a : ckAs := []
noncomputable def k811_c : List (Nat × ckCtr) := [(4, k810), (50, k749), (59, k752), (59, k753), (59, k754), (59, k755), (59, k756), (59, k757), (59, k758), (59, k759)]
noncomputable def k811_u0 : ckCut := (29, ([(0, (1, 0)), (1, (0, 0)), (2, (0, 1)), (3, (0, 3)), (4, (0, 4))], [], dC46, [(35, 36), (0, 0), (318, 318), (40, 40), (5, 5)], dG40, [], [], [], 0, 0), 3, 1, 0, 0)
noncomputable def k811_g0 : List ckCut := [k811_u0]
theorem k811_t0 : ckRun es_106 k811_a k811_c [] 5 2 102 0 0 (ckEndF 1 0 0 k811.2.1 k811.2.2.1) ckKs ckKc 200000 0 29 k811_u0.2.1 [] = true := by decide +kernel
theorem k811_ok (l : Launch) : ckCtrOk l ckMT ckTW ckCL k811 := mt_106 (as := k811_a) (cs := k811_c) (gx := k811_g0) (f := 200000) rfl (ckHc (k810_ok l) (ckHc (k749_ok l) (ckHc (k752_ok l) (ckHc (k753_ok l) (ckHc (k754_ok l) (ckHc (k755_ok l) (ckHc (k756_ok l) (ckHc (k757_ok l) (ckHc (k758_ok l) (ckHc (k759_ok l) (fun _ h => absurd h List.not_mem_nil))))))))))) ⟨k811_t0, True.intro⟩ (by decide +kernel)
-- FarMachineModel.within
noncomputable def k812 : ckCtr := (46, ([(0, (0, 0)), (1, (0, 1)), (2, (0, 2))], [], [], [(37, 38), (0, 0), (99, 99)], [], [], [], [], 0, 0), [([], [(0, 1)], [], [], [], [], [], [], [], [], 0, 0)], 1, 80, 0, 0)
noncomputable def k812_a : ckAs := []
noncomputable def k812_c : List (Nat × ckCtr) := []
theorem k812_ok (l : Launch) : ckCtrOk l ckMT ckTW ckCL k812 := mt_46 (as := k812_a) (cs := k812_c) (gx := []) (f := 200000) rfl (fun _ h => absurd h List.not_mem_nil) True.intro (by decide +kernel)
-- FarMachineModel.warm
noncomputable def k813 : ckCtr := (106, ([(0, (1, 0)), (1, (0, 0))], [], dC46, [(37, 38), (0, 0), (318, 318)], dG40, [], [], [], 0, 0), [([], [(0, 3)], [], [], [], [(7, 7)], [], [], [], [], 0, 0)], 2, 102, 0, 0)
noncomputable def k813_a : ckAs := []
noncomputable def k813_c : List (Nat × ckCtr) := [(4, k812), (50, k749), (59, k752), (59, k753), (59, k754), (59, k755), (59, k756), (59, k757), (59, k758)]
noncomputable def k813_u0 : ckCut := (29, ([(0, (1, 0)), (1, (0, 0)), (2, (0, 1)), (3, (0, 3)), (4, (0, 4))], [], dC46, [(37, 38), (0, 0), (318, 318), (40, 40), (5, 5)], dG40, [], [], [], 0, 0), 3, 1, 0, 0)
noncomputable def k813_g0 : List ckCut := [k813_u0]
theorem k813_t0 : ckRun es_106 k813_a k813_c [] 5 2 102 0 0 (ckEndF 1 0 0 k813.2.1 k813.2.2.1) ckKs ckKc 200000 0 29 k813_u0.2.1 [] = true := by decide +kernel
theorem k813_ok (l : Launch) : ckCtrOk l ckMT ckTW ckCL k813 := mt_106 (as := k813_a) (cs := k813_c) (gx := k813_g0) (f := 200000) rfl (ckHc (k812_ok l) (ckHc (k749_ok l) (ckHc (k752_ok l) (ckHc (k753_ok l) (ckHc (k754_ok l) (ckHc (k755_ok l) (ckHc (k756_ok l) (ckHc (k757_ok l) (ckHc (k758_ok l) (fun _ h => absurd h List.not_mem_nil)))))))))) ⟨k813_t0, True.intro⟩ (by decide +kernel)
-- FarMachineModel.within
noncomputable def k814 : ckCtr := (46, ([(0, (0, 0)), (1, (0, 1)), (2, (0, 2))], [], [], [(39, 40), (0, 0), (99, 99)], [], [], [], [], 0, 0), [([], [(0, 1)], [], [], [], [], [], [], [], [], 0, 0)], 1, 80, 0, 0)
noncomputable def k814_a : ckAs := []
noncomputable def k814_c : List (Nat × ckCtr) := []
theorem k814_ok (l : Launch) : ckCtrOk l ckMT ckTW ckCL k814 := mt_46 (as := k814_a) (cs := k814_c) (gx := []) (f := 200000) rfl (fun _ h => absurd h List.not_mem_nil) True.intro (by decide +kernel)
-- FarMachineModel.warm
noncomputable def k815 : ckCtr := (106, ([(0, (1, 0)), (1, (0, 0))], [], dC46, [(39, 40), (0, 0), (318, 318)], dG40, [], [], [], 0, 0), [([], [(0, 3)], [], [], [], [(6, 6)], [], [], [], [], 0, 0)], 2, 102, 0, 0)
noncomputable def k815_a : ckAs := []
noncomputable def k815_c : List (Nat × ckCtr) := [(4, k814), (50, k749), (59, k752), (59, k753), (59, k754), (59, k755), (59, k756), (59, k757)]
noncomputable def k815_u0 : ckCut := (29, ([(0, (1, 0)), (1, (0, 0)), (2, (0, 1)), (3, (0, 3)), (4, (0, 4))], [], dC46, [(39, 40), (0, 0), (318, 318), (40, 40), (5, 5)], dG40, [], [], [], 0, 0), 3, 1, 0, 0)
noncomputable def k815_g0 : List ckCut := [k815_u0]
theorem k815_t0 : ckRun es_106 k815_a k815_c [] 5 2 102 0 0 (ckEndF 1 0 0 k815.2.1 k815.2.2.1) ckKs ckKc 200000 0 29 k815_u0.2.1 [] = true := by decide +kernel
theorem k815_ok (l : Launch) : ckCtrOk l ckMT ckTW ckCL k815 := mt_106 (as := k815_a) (cs := k815_c) (gx := k815_g0) (f := 200000) rfl (ckHc (k814_ok l) (ckHc (k749_ok l) (ckHc (k752_ok l) (ckHc (k753_ok l) (ckHc (k754_ok l) (ckHc (k755_ok l) (ckHc (k756_ok l) (ckHc (k757_ok l) (fun _ h => absurd h List.not_mem_nil))))))))) ⟨k815_t0, True.intro⟩ (by decide +kernel)
-- FarMachineModel.within
noncomputable def k816 : ckCtr := (46, ([(0, (0, 0)), (1, (0, 1)), (2, (0, 2))], [], [], [(41, 42), (0, 0), (99, 99)], [], [], [], [], 0, 0), [([], [(0, 1)], [], [], [], [], [], [], [], [], 0, 0)], 1, 80, 0, 0)
noncomputable def k816_a : ckAs := []
noncomputable def k816_c : List (Nat × ckCtr) := []
theorem k816_ok (l : Launch) : ckCtrOk l ckMT ckTW ckCL k816 := mt_46 (as := k816_a) (cs := k816_c) (gx := []) (f := 200000) rfl (fun _ h => absurd h List.not_mem_nil) True.intro (by decide +kernel)
-- FarMachineModel.warm
noncomputable def k817 : ckCtr := (106, ([(0, (1, 0)), (1, (0, 0))], [], dC46, [(41, 42), (0, 0), (318, 318)], dG40, [], [], [], 0, 0), [([], [(0, 3)], [], [], [], [(5, 5)], [], [], [], [], 0, 0)], 2, 102, 0, 0)
noncomputable def k817_a : ckAs := []
noncomputable def k817_c : List (Nat × ckCtr) := [(4, k816), (50, k749), (59, k752), (59, k753), (59, k754), (59, k755), (59, k756)]
noncomputable def k817_u0 : ckCut := (29, ([(0, (1, 0)), (1, (0, 0)), (2, (0, 1)), (3, (0, 3)), (4, (0, 4))], [], dC46, [(41, 42), (0, 0), (318, 318), (40, 40), (5, 5)], dG40, [], [], [], 0, 0), 3, 1, 0, 0)
noncomputable def k817_g0 : List ckCut := [k817_u0]
theorem k817_t0 : ckRun es_106 k817_a k817_c [] 5 2 102 0 0 (ckEndF 1 0 0 k817.2.1 k817.2.2.1) ckKs ckKc 200000 0 29 k817_u0.2.1 [] = true := by decide +kernel
theorem k817_ok (l : Launch) : ckCtrOk l ckMT ckTW ckCL k817 := mt_106 (as := k817_a) (cs := k817_c) (gx := k817_g0) (f := 200000) rfl (ckHc (k816_ok l) (ckHc (k749_ok l) (ckHc (k752_ok l) (ckHc (k753_ok l) (ckHc (k754_ok l) (ckHc (k755_ok l) (ckHc (k756_ok l) (fun _ h => absurd h List.not_mem_nil)))))))) ⟨k817_t0, True.intro⟩ (by decide +kernel)
-- FarMachineModel.within
noncomputable def k818 : ckCtr := (46, ([(0, (0, 0)), (1, (0, 1)), (2, (0, 2))], [], [], [(43, 44), (0, 0), (99, 99)], [], [], [], [], 0, 0), [([], [(0, 1)], [], [], [], [], [], [], [], [], 0, 0)], 1, 80, 0, 0)
noncomputable def k818_a : ckAs := []
noncomputable def k818_c : List (Nat × ckCtr) := []
theorem k818_ok (l : Launch) : ckCtrOk l ckMT ckTW ckCL k818 := mt_46 (as := k818_a) (cs := k818_c) (gx := []) (f := 200000) rfl (fun _ h => absurd h List.not_mem_nil) True.intro (by decide +kernel)
-- FarMachineModel.warm
noncomputable def k819 : ckCtr := (106, ([(0, (1, 0)), (1, (0, 0))], [], dC46, [(43, 44), (0, 0), (318, 318)], dG40, [], [], [], 0, 0), [([], [(0, 3)], [], [], [], [(4, 4)], [], [], [], [], 0, 0)], 2, 102, 0, 0)
noncomputable def k819_a : ckAs := []
noncomputable def k819_c : List (Nat × ckCtr) := [(4, k818), (50, k749), (59, k752), (59, k753), (59, k754), (59, k755)]
theorem k819_ok (l : Launch) : ckCtrOk l ckMT ckTW ckCL k819 := mt_106 (as := k819_a) (cs := k819_c) (gx := []) (f := 200000) rfl (ckHc (k818_ok l) (ckHc (k749_ok l) (ckHc (k752_ok l) (ckHc (k753_ok l) (ckHc (k754_ok l) (ckHc (k755_ok l) (fun _ h => absurd h List.not_mem_nil))))))) True.intro (by decide +kernel)
-- FarMachineModel.within
noncomputable def k820 : ckCtr := (46, ([(0, (0, 0)), (1, (0, 1)), (2, (0, 2))], [], [], [(45, 46), (0, 0), (99, 99)], [], [], [], [], 0, 0), [([], [(0, 1)], [], [], [], [], [], [], [], [], 0, 0)], 1, 80, 0, 0)
noncomputable def k820_a : ckAs := []
noncomputable def k820_c : List (Nat × ckCtr) := []
theorem k820_ok (l : Launch) : ckCtrOk l ckMT ckTW ckCL k820 := mt_46 (as := k820_a) (cs := k820_c) (gx := []) (f := 200000) rfl (fun _ h => absurd h List.not_mem_nil) True.intro (by decide +kernel)
-- FarMachineModel.warm
noncomputable def k821 : ckCtr := (106, ([(0, (1, 0)), (1, (0, 0))], [], dC46, [(45, 46), (0, 0), (318, 318)], dG40, [], [], [], 0, 0), [([], [(0, 3)], [], [], [], [(3, 3)], [], [], [], [], 0, 0)], 2, 102, 0, 0)
noncomputable def k821_a : ckAs := []
noncomputable def k821_c : List (Nat × ckCtr) := [(4, k820), (50, k749), (59, k752), (59, k753), (59, k754)]
theorem k821_ok (l : Launch) : ckCtrOk l ckMT ckTW ckCL k821 := mt_106 (as := k821_a) (cs := k821_c) (gx := []) (f := 200000) rfl (ckHc (k820_ok l) (ckHc (k749_ok l) (ckHc (k752_ok l) (ckHc (k753_ok l) (ckHc (k754_ok l) (fun _ h => absurd h List.not_mem_nil)))))) True.intro (by decide +kernel)
-- FarMachineModel.within
noncomputable def k822 : ckCtr := (46, ([(0, (0, 0)), (1, (0, 1)), (2, (0, 2))], [], [], [(47, 48), (0, 0), (99, 99)], [], [], [], [], 0, 0), [([], [(0, 1)], [], [], [], [], [], [], [], [], 0, 0)], 1, 80, 0, 0)
noncomputable def k822_a : ckAs := []
noncomputable def k822_c : List (Nat × ckCtr) := []
theorem k822_ok (l : Launch) : ckCtrOk l ckMT ckTW ckCL k822 := mt_46 (as := k822_a) (cs := k822_c) (gx := []) (f := 200000) rfl (fun _ h => absurd h List.not_mem_nil) True.intro (by decide +kernel)
-- FarMachineModel.warm
noncomputable def k823 : ckCtr := (106, ([(0, (1, 0)), (1, (0, 0))], [], dC46, [(47, 48), (0, 0), (318, 318)], dG40, [], [], [], 0, 0), [([], [(0, 3)], [], [], [], [(2, 2)], [], [], [], [], 0, 0)], 2, 102, 0, 0)
noncomputable def k823_a : ckAs := []
noncomputable def k823_c : List (Nat × ckCtr) := [(4, k822), (50, k749), (59, k752), (59, k753)]
theorem k823_ok (l : Launch) : ckCtrOk l ckMT ckTW ckCL k823 := mt_106 (as := k823_a) (cs := k823_c) (gx := []) (f := 200000) rfl (ckHc (k822_ok l) (ckHc (k749_ok l) (ckHc (k752_ok l) (ckHc (k753_ok l) (fun _ h => absurd h List.not_mem_nil))))) True.intro (by decide +kernel)
-- FarMachineModel.within
noncomputable def k824 : ckCtr := (46, ([(0, (0, 0)), (1, (0, 1)), (2, (0, 2))], [], [], [(49, 50), (0, 0), (99, 99)], [], [], [], [], 0, 0), [([], [(0, 1)], [], [], [], [], [], [], [], [], 0, 0)], 1, 80, 0, 0)
noncomputable def k824_a : ckAs := []
noncomputable def k824_c : List (Nat × ckCtr) := []
theorem k824_ok (l : Launch) : ckCtrOk l ckMT ckTW ckCL k824 := mt_46 (as := k824_a) (cs := k824_c) (gx := []) (f := 200000) rfl (fun _ h => absurd h List.not_mem_nil) True.intro (by decide +kernel)
-- FarMachineModel.warm
noncomputable def k825 : ckCtr := (106, ([(0, (1, 0)), (1, (0, 0))], [], dC46, [(49, 50), (0, 0), (318, 318)], dG40, [], [], [], 0, 0), [([], [(0, 3)], [], [], [], [(1, 1)], [], [], [], [], 0, 0)], 2, 102, 0, 0)
noncomputable def k825_a : ckAs := []
noncomputable def k825_c : List (Nat × ckCtr) := [(4, k824), (50, k749), (59, k752)]
theorem k825_ok (l : Launch) : ckCtrOk l ckMT ckTW ckCL k825 := mt_106 (as := k825_a) (cs := k825_c) (gx := []) (f := 200000) rfl (ckHc (k824_ok l) (ckHc (k749_ok l) (ckHc (k752_ok l) (fun _ h => absurd h List.not_mem_nil)))) True.intro (by decide +kernel)
-- FarMachineModel.within
noncomputable def k826 : ckCtr := (46, ([(0, (0, 0)), (1, (0, 1)), (2, (0, 2))], [], [], [(51, 99), (0, 0), (99, 99)], [], [], [], [], 0, 0), [([], [(0, 1)], [], [], [], [], [], [], [], [], 0, 0)], 1, 80, 0, 0)
noncomputable def k826_a : ckAs := []
noncomputable def k826_c : List (Nat × ckCtr) := []
theorem k826_ok (l : Launch) : ckCtrOk l ckMT ckTW ckCL k826 := mt_46 (as := k826_a) (cs := k826_c) (gx := []) (f := 200000) rfl (fun _ h => absurd h List.not_mem_nil) True.intro (by decide +kernel)
-- FarMachineModel.warm
noncomputable def k827 : ckCtr := (106, ([(0, (1, 0)), (1, (0, 0))], [], dC46, [(51, 99), (0, 0), (318, 318)], dG40, [], [], [], 0, 0), [([], [(0, 1)], [], [], [], [], [], [], [], [], 0, 0)], 2, 102, 0, 0)
noncomputable def k827_a : ckAs := []
noncomputable def k827_c : List (Nat × ckCtr) := [(4, k826)]
theorem k827_ok (l : Launch) : ckCtrOk l ckMT ckTW ckCL k827 := mt_106 (as := k827_a) (cs := k827_c) (gx := []) (f := 200000) rfl (ckHc (k826_ok l) (fun _ h => absurd h List.not_mem_nil)) True.intro (by decide +kernel)
-- FarMachineModel.warm
noncomputable def k828 : ckCtr := (106, ([(0, (1, 0)), (1, (0, 0))], [], dC42, [(100, 2147483647), (0, 0), (7, 7)], [([(7, (0, 0))], [], [])], [], [], [], 0, 0), [([], [(0, 3)], [(1, .inr (0, 2, 1))], [], [], [(-6, -6), (1, 1)], [([(6, (0, 0)), (7, (1, 1))], [(6, 4)], [])], [], [], [], 0, 0)], 2, 102, 0, 0)
noncomputable def k828_a : ckAs := []
noncomputable def k828_c : List (Nat × ckCtr) := [(4, k93), (14, k25)]
theorem k828_ok (l : Launch) : ckCtrOk l ckMT ckTW ckCL k828 := mt_106 (as := k828_a) (cs := k828_c) (gx := []) (f := 200000) rfl (ckHc (k93_ok l) (ckHc (k25_ok l) (fun _ h => absurd h List.not_mem_nil))) True.intro (by decide +kernel)
-- FarMachineModel.warm
noncomputable def k829 : ckCtr := (106, ([(0, (1, 0)), (1, (0, 0))], [], dC42, [(-2147483648, -1), (0, 0), (7, 7)], [([(7, (0, 0))], [], [])], [], [], [], 0, 0), [([], [(0, 3)], [(1, .inr (0, 2, 1))], [], [], [(-4, -4), (1, 1)], [([(4, (0, 0)), (5, (1, 1)), (7, (0, 0))], [(4, 4)], [])], [], [], [], 0, 0)], 2, 102, 0, 0)
noncomputable def k829_a : ckAs := []
noncomputable def k829_c : List (Nat × ckCtr) := [(4, k111), (14, k28)]
theorem k829_ok (l : Launch) : ckCtrOk l ckMT ckTW ckCL k829 := mt_106 (as := k829_a) (cs := k829_c) (gx := []) (f := 200000) rfl (ckHc (k111_ok l) (ckHc (k28_ok l) (fun _ h => absurd h List.not_mem_nil))) True.intro (by decide +kernel)
-- FarMachine.held
noncomputable def k830 : ckCtr := (41, ([(0, (0, 0)), (1, (0, 1)), (2, (0, 2))], [], [], [(-20, -20), (-16, -16), (20, 20)], [], [], [], [], 0, 0), [([], [(0, 1)], [], [], [], [], [], [], [], [], 0, 0)], 1, 80, 0, 0)
noncomputable def k830_a : ckAs := []
noncomputable def k830_c : List (Nat × ckCtr) := []
theorem k830_ok (l : Launch) : ckCtrOk l ckMT ckTW ckCL k830 := mt_41 (as := k830_a) (cs := k830_c) (gx := []) (f := 200000) rfl (fun _ h => absurd h List.not_mem_nil) True.intro (by decide +kernel)
-- FarMachine.held
noncomputable def k831 : ckCtr := (41, ([(0, (0, 0)), (1, (0, 1)), (2, (0, 2))], [], [], [(-20, -20), (-15, -15), (20, 20)], [], [], [], [], 0, 0), [([], [(0, 1)], [], [], [], [], [], [], [], [], 0, 0)], 1, 80, 0, 0)
noncomputable def k831_a : ckAs := []
noncomputable def k831_c : List (Nat × ckCtr) := []
theorem k831_ok (l : Launch) : ckCtrOk l ckMT ckTW ckCL k831 := mt_41 (as := k831_a) (cs := k831_c) (gx := []) (f := 200000) rfl (fun _ h => absurd h List.not_mem_nil) True.intro (by decide +kernel)
-- FarMachine.held
noncomputable def k832 : ckCtr := (41, ([(0, (0, 0)), (1, (0, 1)), (2, (0, 2))], [], [], [(-20, -20), (-14, -14), (20, 20)], [], [], [], [], 0, 0), [([], [(0, 1)], [], [], [], [], [], [], [], [], 0, 0)], 1, 80, 0, 0)
noncomputable def k832_a : ckAs := []
noncomputable def k832_c : List (Nat × ckCtr) := []
theorem k832_ok (l : Launch) : ckCtrOk l ckMT ckTW ckCL k832 := mt_41 (as := k832_a) (cs := k832_c) (gx := []) (f := 200000) rfl (fun _ h => absurd h List.not_mem_nil) True.intro (by decide +kernel)
-- FarMachine.held
noncomputable def k833 : ckCtr := (41, ([(0, (0, 0)), (1, (0, 1)), (2, (0, 2))], [], [], [(-20, -20), (-13, -13), (20, 20)], [], [], [], [], 0, 0), [([], [(0, 1)], [], [], [], [], [], [], [], [], 0, 0)], 1, 80, 0, 0)
noncomputable def k833_a : ckAs := []
noncomputable def k833_c : List (Nat × ckCtr) := []
theorem k833_ok (l : Launch) : ckCtrOk l ckMT ckTW ckCL k833 := mt_41 (as := k833_a) (cs := k833_c) (gx := []) (f := 200000) rfl (fun _ h => absurd h List.not_mem_nil) True.intro (by decide +kernel)
-- FarMachine.held
noncomputable def k834 : ckCtr := (41, ([(0, (0, 0)), (1, (0, 1)), (2, (0, 2))], [], [], [(-20, -20), (-12, -12), (20, 20)], [], [], [], [], 0, 0), [([], [(0, 1)], [], [], [], [], [], [], [], [], 0, 0)], 1, 80, 0, 0)
noncomputable def k834_a : ckAs := []
noncomputable def k834_c : List (Nat × ckCtr) := []
theorem k834_ok (l : Launch) : ckCtrOk l ckMT ckTW ckCL k834 := mt_41 (as := k834_a) (cs := k834_c) (gx := []) (f := 200000) rfl (fun _ h => absurd h List.not_mem_nil) True.intro (by decide +kernel)
-- FarMachine.held
noncomputable def k835 : ckCtr := (41, ([(0, (0, 0)), (1, (0, 1)), (2, (0, 2))], [], [], [(-20, -20), (-11, -11), (20, 20)], [], [], [], [], 0, 0), [([], [(0, 1)], [], [], [], [], [], [], [], [], 0, 0)], 1, 80, 0, 0)
noncomputable def k835_a : ckAs := []
noncomputable def k835_c : List (Nat × ckCtr) := []
theorem k835_ok (l : Launch) : ckCtrOk l ckMT ckTW ckCL k835 := mt_41 (as := k835_a) (cs := k835_c) (gx := []) (f := 200000) rfl (fun _ h => absurd h List.not_mem_nil) True.intro (by decide +kernel)
-- FarMachine.held
noncomputable def k836 : ckCtr := (41, ([(0, (0, 0)), (1, (0, 1)), (2, (0, 2))], [], [], [(-20, -20), (-10, -10), (20, 20)], [], [], [], [], 0, 0), [([], [(0, 1)], [], [], [], [], [], [], [], [], 0, 0)], 1, 80, 0, 0)
noncomputable def k836_a : ckAs := []
noncomputable def k836_c : List (Nat × ckCtr) := []
theorem k836_ok (l : Launch) : ckCtrOk l ckMT ckTW ckCL k836 := mt_41 (as := k836_a) (cs := k836_c) (gx := []) (f := 200000) rfl (fun _ h => absurd h List.not_mem_nil) True.intro (by decide +kernel)
-- FarMachine.held
noncomputable def k837 : ckCtr := (41, ([(0, (0, 0)), (1, (0, 1)), (2, (0, 2))], [], [], [(-20, -20), (-9, -9), (20, 20)], [], [], [], [], 0, 0), [([], [(0, 1)], [], [], [], [], [], [], [], [], 0, 0)], 1, 80, 0, 0)
noncomputable def k837_a : ckAs := []
noncomputable def k837_c : List (Nat × ckCtr) := []
theorem k837_ok (l : Launch) : ckCtrOk l ckMT ckTW ckCL k837 := mt_41 (as := k837_a) (cs := k837_c) (gx := []) (f := 200000) rfl (fun _ h => absurd h List.not_mem_nil) True.intro (by decide +kernel)
-- FarMachine.held
noncomputable def k838 : ckCtr := (41, ([(0, (0, 0)), (1, (0, 1)), (2, (0, 2))], [], [], [(-20, -20), (-8, -8), (20, 20)], [], [], [], [], 0, 0), [([], [(0, 1)], [], [], [], [], [], [], [], [], 0, 0)], 1, 80, 0, 0)
noncomputable def k838_a : ckAs := []
noncomputable def k838_c : List (Nat × ckCtr) := []
theorem k838_ok (l : Launch) : ckCtrOk l ckMT ckTW ckCL k838 := mt_41 (as := k838_a) (cs := k838_c) (gx := []) (f := 200000) rfl (fun _ h => absurd h List.not_mem_nil) True.intro (by decide +kernel)
-- FarMachine.held
noncomputable def k839 : ckCtr := (41, ([(0, (0, 0)), (1, (0, 1)), (2, (0, 2))], [], [], [(-20, -20), (-7, -7), (20, 20)], [], [], [], [], 0, 0), [([], [(0, 1)], [], [], [], [], [], [], [], [], 0, 0)], 1, 80, 0, 0)
noncomputable def k839_a : ckAs := []
noncomputable def k839_c : List (Nat × ckCtr) := []
theorem k839_ok (l : Launch) : ckCtrOk l ckMT ckTW ckCL k839 := mt_41 (as := k839_a) (cs := k839_c) (gx := []) (f := 200000) rfl (fun _ h => absurd h List.not_mem_nil) True.intro (by decide +kernel)
-- FarMachine.held
noncomputable def k840 : ckCtr := (41, ([(0, (0, 0)), (1, (0, 1)), (2, (0, 2))], [], [], [(-20, -20), (-6, -6), (20, 20)], [], [], [], [], 0, 0), [([], [(0, 1)], [], [], [], [], [], [], [], [], 0, 0)], 1, 80, 0, 0)
noncomputable def k840_a : ckAs := []
noncomputable def k840_c : List (Nat × ckCtr) := []
theorem k840_ok (l : Launch) : ckCtrOk l ckMT ckTW ckCL k840 := mt_41 (as := k840_a) (cs := k840_c) (gx := []) (f := 200000) rfl (fun _ h => absurd h List.not_mem_nil) True.intro (by decide +kernel)
-- FarMachine.held
noncomputable def k841 : ckCtr := (41, ([(0, (0, 0)), (1, (0, 1)), (2, (0, 2))], [], [], [(-20, -20), (-5, -5), (20, 20)], [], [], [], [], 0, 0), [([], [(0, 1)], [], [], [], [], [], [], [], [], 0, 0)], 1, 80, 0, 0)
noncomputable def k841_a : ckAs := []
noncomputable def k841_c : List (Nat × ckCtr) := []
theorem k841_ok (l : Launch) : ckCtrOk l ckMT ckTW ckCL k841 := mt_41 (as := k841_a) (cs := k841_c) (gx := []) (f := 200000) rfl (fun _ h => absurd h List.not_mem_nil) True.intro (by decide +kernel)
-- FarMachine.held
noncomputable def k842 : ckCtr := (41, ([(0, (0, 0)), (1, (0, 1)), (2, (0, 2))], [], [], [(-20, -20), (-4, -4), (20, 20)], [], [], [], [], 0, 0), [([], [(0, 1)], [], [], [], [], [], [], [], [], 0, 0)], 1, 80, 0, 0)
noncomputable def k842_a : ckAs := []
noncomputable def k842_c : List (Nat × ckCtr) := []
theorem k842_ok (l : Launch) : ckCtrOk l ckMT ckTW ckCL k842 := mt_41 (as := k842_a) (cs := k842_c) (gx := []) (f := 200000) rfl (fun _ h => absurd h List.not_mem_nil) True.intro (by decide +kernel)
-- FarMachine.held
noncomputable def k843 : ckCtr := (41, ([(0, (0, 0)), (1, (0, 1)), (2, (0, 2))], [], [], [(-20, -20), (-3, -3), (20, 20)], [], [], [], [], 0, 0), [([], [(0, 1)], [], [], [], [], [], [], [], [], 0, 0)], 1, 80, 0, 0)
noncomputable def k843_a : ckAs := []
noncomputable def k843_c : List (Nat × ckCtr) := []
theorem k843_ok (l : Launch) : ckCtrOk l ckMT ckTW ckCL k843 := mt_41 (as := k843_a) (cs := k843_c) (gx := []) (f := 200000) rfl (fun _ h => absurd h List.not_mem_nil) True.intro (by decide +kernel)
-- FarMachine.held
noncomputable def k844 : ckCtr := (41, ([(0, (0, 0)), (1, (0, 1)), (2, (0, 2))], [], [], [(-20, -20), (-2, -2), (20, 20)], [], [], [], [], 0, 0), [([], [(0, 1)], [], [], [], [], [], [], [], [], 0, 0)], 1, 80, 0, 0)
noncomputable def k844_a : ckAs := []
noncomputable def k844_c : List (Nat × ckCtr) := []
theorem k844_ok (l : Launch) : ckCtrOk l ckMT ckTW ckCL k844 := mt_41 (as := k844_a) (cs := k844_c) (gx := []) (f := 200000) rfl (fun _ h => absurd h List.not_mem_nil) True.intro (by decide +kernel)
-- FarMachine.held
noncomputable def k845 : ckCtr := (41, ([(0, (0, 0)), (1, (0, 1)), (2, (0, 2))], [], [], [(-20, -20), (-1, -1), (20, 20)], [], [], [], [], 0, 0), [([], [(0, 1)], [], [], [], [], [], [], [], [], 0, 0)], 1, 80, 0, 0)
noncomputable def k845_a : ckAs := []
noncomputable def k845_c : List (Nat × ckCtr) := []
theorem k845_ok (l : Launch) : ckCtrOk l ckMT ckTW ckCL k845 := mt_41 (as := k845_a) (cs := k845_c) (gx := []) (f := 200000) rfl (fun _ h => absurd h List.not_mem_nil) True.intro (by decide +kernel)
-- FarMachine.held
noncomputable def k846 : ckCtr := (41, ([(0, (0, 0)), (1, (0, 1)), (2, (0, 2))], [], [], [(-20, -20), (0, 0), (20, 20)], [], [], [], [], 0, 0), [([], [(0, 1)], [], [], [], [], [], [], [], [], 0, 0)], 1, 80, 0, 0)
noncomputable def k846_a : ckAs := []
noncomputable def k846_c : List (Nat × ckCtr) := []
theorem k846_ok (l : Launch) : ckCtrOk l ckMT ckTW ckCL k846 := mt_41 (as := k846_a) (cs := k846_c) (gx := []) (f := 200000) rfl (fun _ h => absurd h List.not_mem_nil) True.intro (by decide +kernel)
-- FarMachine.held
noncomputable def k847 : ckCtr := (41, ([(0, (0, 0)), (1, (0, 1)), (2, (0, 2))], [], [], [(-20, -20), (1, 1), (20, 20)], [], [], [], [], 0, 0), [([], [(0, 1)], [], [], [], [], [], [], [], [], 0, 0)], 1, 80, 0, 0)
noncomputable def k847_a : ckAs := []
noncomputable def k847_c : List (Nat × ckCtr) := []
theorem k847_ok (l : Launch) : ckCtrOk l ckMT ckTW ckCL k847 := mt_41 (as := k847_a) (cs := k847_c) (gx := []) (f := 200000) rfl (fun _ h => absurd h List.not_mem_nil) True.intro (by decide +kernel)
-- FarMachine.held
noncomputable def k848 : ckCtr := (41, ([(0, (0, 0)), (1, (0, 1)), (2, (0, 2))], [], [], [(-20, -20), (2, 2), (20, 20)], [], [], [], [], 0, 0), [([], [(0, 1)], [], [], [], [], [], [], [], [], 0, 0)], 1, 80, 0, 0)
noncomputable def k848_a : ckAs := []
noncomputable def k848_c : List (Nat × ckCtr) := []
theorem k848_ok (l : Launch) : ckCtrOk l ckMT ckTW ckCL k848 := mt_41 (as := k848_a) (cs := k848_c) (gx := []) (f := 200000) rfl (fun _ h => absurd h List.not_mem_nil) True.intro (by decide +kernel)
-- FarMachine.held
noncomputable def k849 : ckCtr := (41, ([(0, (0, 0)), (1, (0, 1)), (2, (0, 2))], [], [], [(-20, -20), (3, 3), (20, 20)], [], [], [], [], 0, 0), [([], [(0, 1)], [], [], [], [], [], [], [], [], 0, 0)], 1, 80, 0, 0)
noncomputable def k849_a : ckAs := []
noncomputable def k849_c : List (Nat × ckCtr) := []
theorem k849_ok (l : Launch) : ckCtrOk l ckMT ckTW ckCL k849 := mt_41 (as := k849_a) (cs := k849_c) (gx := []) (f := 200000) rfl (fun _ h => absurd h List.not_mem_nil) True.intro (by decide +kernel)
-- FarMachine.held
noncomputable def k850 : ckCtr := (41, ([(0, (0, 0)), (1, (0, 1)), (2, (0, 2))], [], [], [(-20, -20), (4, 4), (20, 20)], [], [], [], [], 0, 0), [([], [(0, 1)], [], [], [], [], [], [], [], [], 0, 0)], 1, 80, 0, 0)
noncomputable def k850_a : ckAs := []
noncomputable def k850_c : List (Nat × ckCtr) := []
theorem k850_ok (l : Launch) : ckCtrOk l ckMT ckTW ckCL k850 := mt_41 (as := k850_a) (cs := k850_c) (gx := []) (f := 200000) rfl (fun _ h => absurd h List.not_mem_nil) True.intro (by decide +kernel)
-- FarMachine.held
noncomputable def k851 : ckCtr := (41, ([(0, (0, 0)), (1, (0, 1)), (2, (0, 2))], [], [], [(-20, -20), (5, 5), (20, 20)], [], [], [], [], 0, 0), [([], [(0, 1)], [], [], [], [], [], [], [], [], 0, 0)], 1, 80, 0, 0)
noncomputable def k851_a : ckAs := []
noncomputable def k851_c : List (Nat × ckCtr) := []
theorem k851_ok (l : Launch) : ckCtrOk l ckMT ckTW ckCL k851 := mt_41 (as := k851_a) (cs := k851_c) (gx := []) (f := 200000) rfl (fun _ h => absurd h List.not_mem_nil) True.intro (by decide +kernel)
-- FarMachine.held
noncomputable def k852 : ckCtr := (41, ([(0, (0, 0)), (1, (0, 1)), (2, (0, 2))], [], [], [(-20, -20), (6, 6), (20, 20)], [], [], [], [], 0, 0), [([], [(0, 1)], [], [], [], [], [], [], [], [], 0, 0)], 1, 80, 0, 0)
noncomputable def k852_a : ckAs := []
noncomputable def k852_c : List (Nat × ckCtr) := []
theorem k852_ok (l : Launch) : ckCtrOk l ckMT ckTW ckCL k852 := mt_41 (as := k852_a) (cs := k852_c) (gx := []) (f := 200000) rfl (fun _ h => absurd h List.not_mem_nil) True.intro (by decide +kernel)
-- FarMachine.held
noncomputable def k853 : ckCtr := (41, ([(0, (0, 0)), (1, (0, 1)), (2, (0, 2))], [], [], [(-20, -20), (7, 7), (20, 20)], [], [], [], [], 0, 0), [([], [(0, 1)], [], [], [], [], [], [], [], [], 0, 0)], 1, 80, 0, 0)
noncomputable def k853_a : ckAs := []
noncomputable def k853_c : List (Nat × ckCtr) := []
theorem k853_ok (l : Launch) : ckCtrOk l ckMT ckTW ckCL k853 := mt_41 (as := k853_a) (cs := k853_c) (gx := []) (f := 200000) rfl (fun _ h => absurd h List.not_mem_nil) True.intro (by decide +kernel)
-- FarMachine.held
noncomputable def k854 : ckCtr := (41, ([(0, (0, 0)), (1, (0, 1)), (2, (0, 2))], [], [], [(-20, -20), (8, 8), (20, 20)], [], [], [], [], 0, 0), [([], [(0, 1)], [], [], [], [], [], [], [], [], 0, 0)], 1, 80, 0, 0)
noncomputable def k854_a : ckAs := []
noncomputable def k854_c : List (Nat × ckCtr) := []
theorem k854_ok (l : Launch) : ckCtrOk l ckMT ckTW ckCL k854 := mt_41 (as := k854_a) (cs := k854_c) (gx := []) (f := 200000) rfl (fun _ h => absurd h List.not_mem_nil) True.intro (by decide +kernel)
-- FarMachine.held
noncomputable def k855 : ckCtr := (41, ([(0, (0, 0)), (1, (0, 1)), (2, (0, 2))], [], [], [(-20, -20), (9, 9), (20, 20)], [], [], [], [], 0, 0), [([], [(0, 1)], [], [], [], [], [], [], [], [], 0, 0)], 1, 80, 0, 0)
noncomputable def k855_a : ckAs := []
noncomputable def k855_c : List (Nat × ckCtr) := []
theorem k855_ok (l : Launch) : ckCtrOk l ckMT ckTW ckCL k855 := mt_41 (as := k855_a) (cs := k855_c) (gx := []) (f := 200000) rfl (fun _ h => absurd h List.not_mem_nil) True.intro (by decide +kernel)
-- FarMachine.held
noncomputable def k856 : ckCtr := (41, ([(0, (0, 0)), (1, (0, 1)), (2, (0, 2))], [], [], [(-20, -20), (10, 10), (20, 20)], [], [], [], [], 0, 0), [([], [(0, 1)], [], [], [], [], [], [], [], [], 0, 0)], 1, 80, 0, 0)
noncomputable def k856_a : ckAs := []
noncomputable def k856_c : List (Nat × ckCtr) := []
theorem k856_ok (l : Launch) : ckCtrOk l ckMT ckTW ckCL k856 := mt_41 (as := k856_a) (cs := k856_c) (gx := []) (f := 200000) rfl (fun _ h => absurd h List.not_mem_nil) True.intro (by decide +kernel)
-- FarMachine.held
noncomputable def k857 : ckCtr := (41, ([(0, (0, 0)), (1, (0, 1)), (2, (0, 2))], [], [], [(-20, -20), (11, 11), (20, 20)], [], [], [], [], 0, 0), [([], [(0, 1)], [], [], [], [], [], [], [], [], 0, 0)], 1, 80, 0, 0)
noncomputable def k857_a : ckAs := []
noncomputable def k857_c : List (Nat × ckCtr) := []
theorem k857_ok (l : Launch) : ckCtrOk l ckMT ckTW ckCL k857 := mt_41 (as := k857_a) (cs := k857_c) (gx := []) (f := 200000) rfl (fun _ h => absurd h List.not_mem_nil) True.intro (by decide +kernel)
-- FarMachine.held
noncomputable def k858 : ckCtr := (41, ([(0, (0, 0)), (1, (0, 1)), (2, (0, 2))], [], [], [(-20, -20), (12, 12), (20, 20)], [], [], [], [], 0, 0), [([], [(0, 1)], [], [], [], [], [], [], [], [], 0, 0)], 1, 80, 0, 0)
noncomputable def k858_a : ckAs := []
noncomputable def k858_c : List (Nat × ckCtr) := []
theorem k858_ok (l : Launch) : ckCtrOk l ckMT ckTW ckCL k858 := mt_41 (as := k858_a) (cs := k858_c) (gx := []) (f := 200000) rfl (fun _ h => absurd h List.not_mem_nil) True.intro (by decide +kernel)
-- FarMachine.held
noncomputable def k859 : ckCtr := (41, ([(0, (0, 0)), (1, (0, 1)), (2, (0, 2))], [], [], [(-20, -20), (13, 13), (20, 20)], [], [], [], [], 0, 0), [([], [(0, 1)], [], [], [], [], [], [], [], [], 0, 0)], 1, 80, 0, 0)
noncomputable def k859_a : ckAs := []
noncomputable def k859_c : List (Nat × ckCtr) := []
theorem k859_ok (l : Launch) : ckCtrOk l ckMT ckTW ckCL k859 := mt_41 (as := k859_a) (cs := k859_c) (gx := []) (f := 200000) rfl (fun _ h => absurd h List.not_mem_nil) True.intro (by decide +kernel)
-- FarMachine.held
noncomputable def k860 : ckCtr := (41, ([(0, (0, 0)), (1, (0, 1)), (2, (0, 2))], [], [], [(-20, -20), (14, 14), (20, 20)], [], [], [], [], 0, 0), [([], [(0, 1)], [], [], [], [], [], [], [], [], 0, 0)], 1, 80, 0, 0)
noncomputable def k860_a : ckAs := []
noncomputable def k860_c : List (Nat × ckCtr) := []
theorem k860_ok (l : Launch) : ckCtrOk l ckMT ckTW ckCL k860 := mt_41 (as := k860_a) (cs := k860_c) (gx := []) (f := 200000) rfl (fun _ h => absurd h List.not_mem_nil) True.intro (by decide +kernel)
-- FarMachine.held
noncomputable def k861 : ckCtr := (41, ([(0, (0, 0)), (1, (0, 1)), (2, (0, 2))], [], [], [(-20, -20), (15, 15), (20, 20)], [], [], [], [], 0, 0), [([], [(0, 1)], [], [], [], [], [], [], [], [], 0, 0)], 1, 80, 0, 0)
noncomputable def k861_a : ckAs := []
noncomputable def k861_c : List (Nat × ckCtr) := []
theorem k861_ok (l : Launch) : ckCtrOk l ckMT ckTW ckCL k861 := mt_41 (as := k861_a) (cs := k861_c) (gx := []) (f := 200000) rfl (fun _ h => absurd h List.not_mem_nil) True.intro (by decide +kernel)
-- FarMachine$Machine.isAimed
noncomputable def k862 : ckCtr := (136, ([(0, (0, 0))], [], [], [(-16, -16)], [], [], [], [], 0, 0), [([], [(0, 1)], [], [], [], [(0, 0)], [], [], [], [], 0, 0)], 1, 80, 0, 0)
noncomputable def k862_a : ckAs := []
noncomputable def k862_c : List (Nat × ckCtr) := []
theorem k862_ok (l : Launch) : ckCtrOk l ckMT ckTW ckCL k862 := mt_136 (as := k862_a) (cs := k862_c) (gx := []) (f := 200000) rfl (fun _ h => absurd h List.not_mem_nil) True.intro (by decide +kernel)
-- FarMachine$Machine.isAimed
noncomputable def k863 : ckCtr := (136, ([(0, (0, 0))], [], [], [(-15, -15)], [], [], [], [], 0, 0), [([], [(0, 1)], [], [], [], [(0, 0)], [], [], [], [], 0, 0)], 1, 80, 0, 0)
noncomputable def k863_a : ckAs := []
noncomputable def k863_c : List (Nat × ckCtr) := []
theorem k863_ok (l : Launch) : ckCtrOk l ckMT ckTW ckCL k863 := mt_136 (as := k863_a) (cs := k863_c) (gx := []) (f := 200000) rfl (fun _ h => absurd h List.not_mem_nil) True.intro (by decide +kernel)
-- FarMachine$Machine.isAimed
noncomputable def k864 : ckCtr := (136, ([(0, (0, 0))], [], [], [(-14, -14)], [], [], [], [], 0, 0), [([], [(0, 1)], [], [], [], [(0, 0)], [], [], [], [], 0, 0)], 1, 80, 0, 0)
noncomputable def k864_a : ckAs := []
noncomputable def k864_c : List (Nat × ckCtr) := []
theorem k864_ok (l : Launch) : ckCtrOk l ckMT ckTW ckCL k864 := mt_136 (as := k864_a) (cs := k864_c) (gx := []) (f := 200000) rfl (fun _ h => absurd h List.not_mem_nil) True.intro (by decide +kernel)
-- FarMachine$Machine.isAimed
noncomputable def k865 : ckCtr := (136, ([(0, (0, 0))], [], [], [(-13, -13)], [], [], [], [], 0, 0), [([], [(0, 1)], [], [], [], [(0, 0)], [], [], [], [], 0, 0)], 1, 80, 0, 0)
noncomputable def k865_a : ckAs := []
noncomputable def k865_c : List (Nat × ckCtr) := []
theorem k865_ok (l : Launch) : ckCtrOk l ckMT ckTW ckCL k865 := mt_136 (as := k865_a) (cs := k865_c) (gx := []) (f := 200000) rfl (fun _ h => absurd h List.not_mem_nil) True.intro (by decide +kernel)
-- FarMachine$Machine.isAimed
noncomputable def k866 : ckCtr := (136, ([(0, (0, 0))], [], [], [(-12, -12)], [], [], [], [], 0, 0), [([], [(0, 1)], [], [], [], [(0, 0)], [], [], [], [], 0, 0)], 1, 80, 0, 0)
noncomputable def k866_a : ckAs := []
noncomputable def k866_c : List (Nat × ckCtr) := []
theorem k866_ok (l : Launch) : ckCtrOk l ckMT ckTW ckCL k866 := mt_136 (as := k866_a) (cs := k866_c) (gx := []) (f := 200000) rfl (fun _ h => absurd h List.not_mem_nil) True.intro (by decide +kernel)
-- FarMachine$Machine.isAimed
noncomputable def k867 : ckCtr := (136, ([(0, (0, 0))], [], [], [(-11, -11)], [], [], [], [], 0, 0), [([], [(0, 1)], [], [], [], [(0, 0)], [], [], [], [], 0, 0)], 1, 80, 0, 0)
noncomputable def k867_a : ckAs := []
noncomputable def k867_c : List (Nat × ckCtr) := []
theorem k867_ok (l : Launch) : ckCtrOk l ckMT ckTW ckCL k867 := mt_136 (as := k867_a) (cs := k867_c) (gx := []) (f := 200000) rfl (fun _ h => absurd h List.not_mem_nil) True.intro (by decide +kernel)
-- FarMachine$Machine.isAimed
noncomputable def k868 : ckCtr := (136, ([(0, (0, 0))], [], [], [(-10, -10)], [], [], [], [], 0, 0), [([], [(0, 1)], [], [], [], [(0, 0)], [], [], [], [], 0, 0)], 1, 80, 0, 0)
noncomputable def k868_a : ckAs := []
noncomputable def k868_c : List (Nat × ckCtr) := []
theorem k868_ok (l : Launch) : ckCtrOk l ckMT ckTW ckCL k868 := mt_136 (as := k868_a) (cs := k868_c) (gx := []) (f := 200000) rfl (fun _ h => absurd h List.not_mem_nil) True.intro (by decide +kernel)
-- FarMachine$Machine.isAimed
noncomputable def k869 : ckCtr := (136, ([(0, (0, 0))], [], [], [(-9, -9)], [], [], [], [], 0, 0), [([], [(0, 1)], [], [], [], [(0, 0)], [], [], [], [], 0, 0)], 1, 80, 0, 0)
noncomputable def k869_a : ckAs := []
noncomputable def k869_c : List (Nat × ckCtr) := []
theorem k869_ok (l : Launch) : ckCtrOk l ckMT ckTW ckCL k869 := mt_136 (as := k869_a) (cs := k869_c) (gx := []) (f := 200000) rfl (fun _ h => absurd h List.not_mem_nil) True.intro (by decide +kernel)
-- FarMachine$Machine.isAimed
noncomputable def k870 : ckCtr := (136, ([(0, (0, 0))], [], [], [(-8, -8)], [], [], [], [], 0, 0), [([], [(0, 1)], [], [], [], [(0, 0)], [], [], [], [], 0, 0)], 1, 80, 0, 0)
noncomputable def k870_a : ckAs := []
noncomputable def k870_c : List (Nat × ckCtr) := []
theorem k870_ok (l : Launch) : ckCtrOk l ckMT ckTW ckCL k870 := mt_136 (as := k870_a) (cs := k870_c) (gx := []) (f := 200000) rfl (fun _ h => absurd h List.not_mem_nil) True.intro (by decide +kernel)
-- FarMachine$Machine.isAimed
noncomputable def k871 : ckCtr := (136, ([(0, (0, 0))], [], [], [(-7, -7)], [], [], [], [], 0, 0), [([], [(0, 1)], [], [], [], [(0, 0)], [], [], [], [], 0, 0)], 1, 80, 0, 0)
noncomputable def k871_a : ckAs := []
noncomputable def k871_c : List (Nat × ckCtr) := []
theorem k871_ok (l : Launch) : ckCtrOk l ckMT ckTW ckCL k871 := mt_136 (as := k871_a) (cs := k871_c) (gx := []) (f := 200000) rfl (fun _ h => absurd h List.not_mem_nil) True.intro (by decide +kernel)
-- FarMachine$Machine.isAimed
noncomputable def k872 : ckCtr := (136, ([(0, (0, 0))], [], [], [(-6, -6)], [], [], [], [], 0, 0), [([], [(0, 1)], [], [], [], [(0, 0)], [], [], [], [], 0, 0)], 1, 80, 0, 0)
noncomputable def k872_a : ckAs := []
noncomputable def k872_c : List (Nat × ckCtr) := []
theorem k872_ok (l : Launch) : ckCtrOk l ckMT ckTW ckCL k872 := mt_136 (as := k872_a) (cs := k872_c) (gx := []) (f := 200000) rfl (fun _ h => absurd h List.not_mem_nil) True.intro (by decide +kernel)
-- FarMachine$Machine.isAimed
noncomputable def k873 : ckCtr := (136, ([(0, (0, 0))], [], [], [(-5, -5)], [], [], [], [], 0, 0), [([], [(0, 1)], [], [], [], [(0, 0)], [], [], [], [], 0, 0)], 1, 80, 0, 0)
noncomputable def k873_a : ckAs := []
noncomputable def k873_c : List (Nat × ckCtr) := []
theorem k873_ok (l : Launch) : ckCtrOk l ckMT ckTW ckCL k873 := mt_136 (as := k873_a) (cs := k873_c) (gx := []) (f := 200000) rfl (fun _ h => absurd h List.not_mem_nil) True.intro (by decide +kernel)
-- FarMachine$Machine.isAimed
noncomputable def k874 : ckCtr := (136, ([(0, (0, 0))], [], [], [(-4, -4)], [], [], [], [], 0, 0), [([], [(0, 1)], [], [], [], [(0, 0)], [], [], [], [], 0, 0)], 1, 80, 0, 0)
noncomputable def k874_a : ckAs := []
noncomputable def k874_c : List (Nat × ckCtr) := []
theorem k874_ok (l : Launch) : ckCtrOk l ckMT ckTW ckCL k874 := mt_136 (as := k874_a) (cs := k874_c) (gx := []) (f := 200000) rfl (fun _ h => absurd h List.not_mem_nil) True.intro (by decide +kernel)
-- FarMachine$Machine.isAimed
noncomputable def k875 : ckCtr := (136, ([(0, (0, 0))], [], [], [(-3, -3)], [], [], [], [], 0, 0), [([], [(0, 1)], [], [], [], [(0, 0)], [], [], [], [], 0, 0)], 1, 80, 0, 0)
noncomputable def k875_a : ckAs := []
noncomputable def k875_c : List (Nat × ckCtr) := []
theorem k875_ok (l : Launch) : ckCtrOk l ckMT ckTW ckCL k875 := mt_136 (as := k875_a) (cs := k875_c) (gx := []) (f := 200000) rfl (fun _ h => absurd h List.not_mem_nil) True.intro (by decide +kernel)
-- FarMachine$Machine.isAimed
noncomputable def k876 : ckCtr := (136, ([(0, (0, 0))], [], [], [(-2, -2)], [], [], [], [], 0, 0), [([], [(0, 1)], [], [], [], [(1, 1)], [], [], [], [], 0, 0)], 1, 80, 0, 0)
noncomputable def k876_a : ckAs := []
noncomputable def k876_c : List (Nat × ckCtr) := []
theorem k876_ok (l : Launch) : ckCtrOk l ckMT ckTW ckCL k876 := mt_136 (as := k876_a) (cs := k876_c) (gx := []) (f := 200000) rfl (fun _ h => absurd h List.not_mem_nil) True.intro (by decide +kernel)
-- FarMachine$Machine.isAimed
noncomputable def k877 : ckCtr := (136, ([(0, (0, 0))], [], [], [(-1, -1)], [], [], [], [], 0, 0), [([], [(0, 1)], [], [], [], [(1, 1)], [], [], [], [], 0, 0)], 1, 80, 0, 0)
noncomputable def k877_a : ckAs := []
noncomputable def k877_c : List (Nat × ckCtr) := []
theorem k877_ok (l : Launch) : ckCtrOk l ckMT ckTW ckCL k877 := mt_136 (as := k877_a) (cs := k877_c) (gx := []) (f := 200000) rfl (fun _ h => absurd h List.not_mem_nil) True.intro (by decide +kernel)
-- FarMachine$Machine.isAimed
noncomputable def k878 : ckCtr := (136, ([(0, (0, 0))], [], [], [(0, 0)], [], [], [], [], 0, 0), [([], [(0, 1)], [], [], [], [(1, 1)], [], [], [], [], 0, 0)], 1, 80, 0, 0)
noncomputable def k878_a : ckAs := []
noncomputable def k878_c : List (Nat × ckCtr) := []
theorem k878_ok (l : Launch) : ckCtrOk l ckMT ckTW ckCL k878 := mt_136 (as := k878_a) (cs := k878_c) (gx := []) (f := 200000) rfl (fun _ h => absurd h List.not_mem_nil) True.intro (by decide +kernel)
-- FarMachine$Machine.cheapestTurn
noncomputable def k879 : ckCtr := (150, ([(0, (1, 0))], [], dC113, dT114, [], [], [], [], 0, 0), [([], [(0, 7)], [], [], [], [(16, 16)], [], [], [], [], 0, 0)], 2, 102, 0, 0)
noncomputable def k879_a : ckAs := []
noncomputable def k879_c : List (Nat × ckCtr) := [(40, k830), (40, k831), (40, k832), (40, k833), (40, k834), (40, k835), (40, k836), (40, k837), (40, k838), (40, k839), (40, k840), (40, k841), (40, k842), (40, k843), (40, k844), (40, k845), (40, k846), (40, k847), (40, k848), (40, k849), (40, k850), (40, k851), (40, k852), (40, k853), (40, k854), (40, k855), (40, k856), (40, k857), (40, k858), (40, k859), (40, k860), (40, k861), (53, k862), (53, k863), (53, k864), (53, k865), (53, k866), (53, k867), (53, k868), (53, k869), (53, k870), (53, k871), (53, k872), (53, k873), (53, k874), (53, k875), (53, k876), (53, k877), (53, k878)]
noncomputable def dT482 : List ckI := [(0, 0), (50, 50), (60, 60), (10, 10), (24, 24), (200, 200), (9, 9), (-9, -9), (61, 61), (4, 4), (13, 13), (-13, -13)]
noncomputable def k879_u0 : ckCut := (12, ([(0, (1, 0)), (1, (0, 7)), (2, (0, 8)), (3, (0, 9)), (4, (0, 10)), (5, (0, 11))], [], dC113, dT482, [], [], [], [], 0, 0), 7, 0, 0, 0)
noncomputable def dT483 : List ckI := [(0, 0), (50, 50), (60, 60), (10, 10), (24, 24), (200, 200), (9, 9), (-9, -9), (61, 61), (8, 8)]
noncomputable def k879_u1 : ckCut := (12, ([(0, (1, 0)), (1, (0, 7)), (2, (0, 8)), (3, (0, 9)), (4, (0, 6)), (5, (0, 7))], [], dC113, dT483, [], [], [], [], 0, 0), 7, 0, 0, 0)
noncomputable def dT484 : List ckI := [(0, 0), (50, 50), (60, 60), (10, 10), (24, 24), (200, 200), (9, 9), (-9, -9), (61, 61), (12, 12), (5, 5), (-5, -5)]
noncomputable def k879_u2 : ckCut := (12, ([(0, (1, 0)), (1, (0, 7)), (2, (0, 8)), (3, (0, 9)), (4, (0, 10)), (5, (0, 11))], [], dC113, dT484, [], [], [], [], 0, 0), 7, 0, 0, 0)
noncomputable def dT485 : List ckI := [(0, 0), (50, 50), (60, 60), (10, 10), (24, 24), (200, 200), (9, 9), (15, 15), (1, 1), (16, 16), (-1, -1)]
noncomputable def k879_u3 : ckCut := (12, ([(0, (1, 0)), (1, (0, 7)), (2, (0, 8)), (3, (0, 9)), (4, (0, 8)), (5, (0, 10))], [], dC113, dT485, [], [], [], [], 0, 0), 7, 0, 0, 0)
noncomputable def dT486 : List ckI := [(0, 0), (50, 50), (60, 60), (10, 10), (24, 24), (200, 200), (9, 9), (16, 16), (20, 20), (3, 3)]
noncomputable def k879_u4 : ckCut := (12, ([(0, (1, 0)), (1, (0, 7)), (2, (0, 0)), (3, (0, 8)), (4, (0, 9)), (5, (0, 9))], [], dC113, dT486, [], [], [], [], 0, 0), 7, 0, 0, 0)
noncomputable def dT487 : List ckI := [(0, 0), (50, 50), (60, 60), (10, 10), (24, 24), (200, 200), (9, 9), (16, 16), (7, 7)]
noncomputable def k879_u5 : ckCut := (12, ([(0, (1, 0)), (1, (0, 7)), (2, (0, 0)), (3, (0, 4)), (4, (0, 8)), (5, (0, 8))], [], dC113, dT487, [], [], [], [], 0, 0), 7, 0, 0, 0)
noncomputable def dT488 : List ckI := [(0, 0), (50, 50), (60, 60), (10, 10), (24, 24), (200, 200), (9, 9), (16, 16), (28, 28), (11, 11)]
noncomputable def k879_u6 : ckCut := (12, ([(0, (1, 0)), (1, (0, 7)), (2, (0, 0)), (3, (0, 8)), (4, (0, 9)), (5, (0, 9))], [], dC113, dT488, [], [], [], [], 0, 0), 7, 0, 0, 0)
noncomputable def dT489 : List ckI := [(0, 0), (50, 50), (60, 60), (10, 10), (24, 24), (200, 200), (9, 9), (16, 16), (32, 32), (15, 15)]
noncomputable def k879_u7 : ckCut := (12, ([(0, (1, 0)), (1, (0, 7)), (2, (0, 0)), (3, (0, 8)), (4, (0, 9)), (5, (0, 9))], [], dC113, dT489, [], [], [], [], 0, 0), 7, 0, 0, 0)
noncomputable def k879_g7 : List ckCut := [k879_u7]
noncomputable def k879_g6 : List ckCut := k879_u6 :: k879_g7
noncomputable def k879_g5 : List ckCut := k879_u5 :: k879_g6
noncomputable def k879_g4 : List ckCut := k879_u4 :: k879_g5
noncomputable def k879_g3 : List ckCut := k879_u3 :: k879_g4
noncomputable def k879_g2 : List ckCut := k879_u2 :: k879_g3
noncomputable def k879_g1 : List ckCut := k879_u1 :: k879_g2
noncomputable def k879_g0 : List ckCut := k879_u0 :: k879_g1
theorem k879_t0 : ckRun es_150 k879_a k879_c k879_g1 6 2 102 0 0 (ckEndF 1 0 0 k879.2.1 k879.2.2.1) ckKs ckKc 200000 0 12 k879_u0.2.1 [] = true := by decide +kernel
theorem k879_t1 : ckRun es_150 k879_a k879_c k879_g2 6 2 102 0 0 (ckEndF 1 0 0 k879.2.1 k879.2.2.1) ckKs ckKc 200000 0 12 k879_u1.2.1 [] = true := by decide +kernel
theorem k879_t2 : ckRun es_150 k879_a k879_c k879_g3 6 2 102 0 0 (ckEndF 1 0 0 k879.2.1 k879.2.2.1) ckKs ckKc 200000 0 12 k879_u2.2.1 [] = true := by decide +kernel
theorem k879_t3 : ckRun es_150 k879_a k879_c k879_g4 6 2 102 0 0 (ckEndF 1 0 0 k879.2.1 k879.2.2.1) ckKs ckKc 200000 0 12 k879_u3.2.1 [] = true := by decide +kernel
theorem k879_t4 : ckRun es_150 k879_a k879_c k879_g5 6 2 102 0 0 (ckEndF 1 0 0 k879.2.1 k879.2.2.1) ckKs ckKc 200000 0 12 k879_u4.2.1 [] = true := by decide +kernel
theorem k879_t5 : ckRun es_150 k879_a k879_c k879_g6 6 2 102 0 0 (ckEndF 1 0 0 k879.2.1 k879.2.2.1) ckKs ckKc 200000 0 12 k879_u5.2.1 [] = true := by decide +kernel
theorem k879_t6 : ckRun es_150 k879_a k879_c k879_g7 6 2 102 0 0 (ckEndF 1 0 0 k879.2.1 k879.2.2.1) ckKs ckKc 200000 0 12 k879_u6.2.1 [] = true := by decide +kernel
theorem k879_t7 : ckRun es_150 k879_a k879_c [] 6 2 102 0 0 (ckEndF 1 0 0 k879.2.1 k879.2.2.1) ckKs ckKc 200000 0 12 k879_u7.2.1 [] = true := by decide +kernel
theorem k879_ok (l : Launch) : ckCtrOk l ckMT ckTW ckCL k879 := mt_150 (as := k879_a) (cs := k879_c) (gx := k879_g0) (f := 200000) rfl (ckHc (k830_ok l) (ckHc (k831_ok l) (ckHc (k832_ok l) (ckHc (k833_ok l) (ckHc (k834_ok l) (ckHc (k835_ok l) (ckHc (k836_ok l) (ckHc (k837_ok l) (ckHc (k838_ok l) (ckHc (k839_ok l) (ckHc (k840_ok l) (ckHc (k841_ok l) (ckHc (k842_ok l) (ckHc (k843_ok l) (ckHc (k844_ok l) (ckHc (k845_ok l) (ckHc (k846_ok l) (ckHc (k847_ok l) (ckHc (k848_ok l) (ckHc (k849_ok l) (ckHc (k850_ok l) (ckHc (k851_ok l) (ckHc (k852_ok l) (ckHc (k853_ok l) (ckHc (k854_ok l) (ckHc (k855_ok l) (ckHc (k856_ok l) (ckHc (k857_ok l) (ckHc (k858_ok l) (ckHc (k859_ok l) (ckHc (k860_ok l) (ckHc (k861_ok l) (ckHc (k862_ok l) (ckHc (k863_ok l) (ckHc (k864_ok l) (ckHc (k865_ok l) (ckHc (k866_ok l) (ckHc (k867_ok l) (ckHc (k868_ok l) (ckHc (k869_ok l) (ckHc (k870_ok l) (ckHc (k871_ok l) (ckHc (k872_ok l) (ckHc (k873_ok l) (ckHc (k874_ok l) (ckHc (k875_ok l) (ckHc (k876_ok l) (ckHc (k877_ok l) (ckHc (k878_ok l) (fun _ h => absurd h List.not_mem_nil)))))))))))))))))))))))))))))))))))))))))))))))))) ⟨k879_t0, ⟨k879_t1, ⟨k879_t2, ⟨k879_t3, ⟨k879_t4, ⟨k879_t5, ⟨k879_t6, ⟨k879_t7, True.intro⟩⟩⟩⟩⟩⟩⟩⟩ (by decide +kernel)
noncomputable def dC490 : List ckC := [.inl (8, [(1, 1), (4, 10), (0, 0), (4, 11), (4, 12), (4, 13), (4, 14), (4, 15)]), .inl (7, [(1, 2), (4, 16), (0, 0), (4, 17), (4, 18), (4, 19), (4, 20), (4, 21), (4, 22), (4, 23)]), .inl (2, [(4, 24), (4, 25), (4, 26), (0, 0), (0, 0), (0, 0), (0, 1), (0, 2), (0, 0), (0, 0), (0, 3), (0, 4), (0, 5), (0, 6), (0, 0), (0, 0)])]
-- FarMachine.aim
noncomputable def k880 : ckCtr := (29, ([(0, (1, 0))], [], dC490, dT114, [], [], [], [], 0, 0), [([], [(0, 7)], [], [], [], [(16, 16)], [], [], [], [], 0, 0)], 3, 127, 0, 0)
noncomputable def k880_a : ckAs := []
noncomputable def k880_c : List (Nat × ckCtr) := [(7, k879)]
theorem k880_ok (l : Launch) : ckCtrOk l ckMT ckTW ckCL k880 := mt_29 (as := k880_a) (cs := k880_c) (gx := []) (f := 200000) rfl (ckHc (k879_ok l) (fun _ h => absurd h List.not_mem_nil)) True.intro (by decide +kernel)
-- FarMachineModel.held
noncomputable def k881 : ckCtr := (47, ([(0, (0, 0)), (1, (0, 1)), (2, (0, 2))], [], [], [(-16, -16), (-20, -20), (20, 20)], [], [], [], [], 0, 0), [([], [(0, 0)], [], [], [], [], [], [], [], [], 0, 0)], 1, 80, 0, 0)
noncomputable def k881_a : ckAs := []
noncomputable def k881_c : List (Nat × ckCtr) := []
theorem k881_ok (l : Launch) : ckCtrOk l ckMT ckTW ckCL k881 := mt_47 (as := k881_a) (cs := k881_c) (gx := []) (f := 200000) rfl (fun _ h => absurd h List.not_mem_nil) True.intro (by decide +kernel)
-- FarMachineModel.held
noncomputable def k882 : ckCtr := (47, ([(0, (0, 0)), (1, (0, 1)), (2, (0, 2))], [], [], [(-15, -15), (-20, -20), (20, 20)], [], [], [], [], 0, 0), [([], [(0, 0)], [], [], [], [], [], [], [], [], 0, 0)], 1, 80, 0, 0)
noncomputable def k882_a : ckAs := []
noncomputable def k882_c : List (Nat × ckCtr) := []
theorem k882_ok (l : Launch) : ckCtrOk l ckMT ckTW ckCL k882 := mt_47 (as := k882_a) (cs := k882_c) (gx := []) (f := 200000) rfl (fun _ h => absurd h List.not_mem_nil) True.intro (by decide +kernel)

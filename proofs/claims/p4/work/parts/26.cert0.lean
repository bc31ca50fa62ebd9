/-! THE CHECKER: contracts with their certificates (printed by wip/gen2/p16gen.py) -/
theorem ckHc {l : Launch} {p : Nat} {κ : ckCtr} {cs : List (Nat × ckCtr)} (h : ckCtrOk l ckMT ckTW ckCL κ) (hr : ∀ q ∈ cs, ckCtrOk l ckMT ckTW ckCL q.2) : ∀ q ∈ (p, κ) :: cs, ckCtrOk l ckMT ckTW ckCL q.2 := fun q hq => by
  rcases List.mem_cons.mp hq with rfl | hq
  · exact h
  · exact hr q hq
noncomputable def dC0 : List ckC := [.inr (0, 0, 0), .inr (0, 0, 1), .inr (0, 0, 2), .inr (0, 0, 3)]
noncomputable def dG1 : List ckG := [([(30, (0, 0))], [], []), ([(30, (0, 0))], [], []), ([(30, (0, 0))], [], []), ([(30, (0, 0))], [], [])]
-- FarMachine$Commands.<init>
noncomputable def k0 : ckCtr := (117, ([(0, (1, 0)), (1, (0, 0))], [], [.inl (1, [(3, 0), (3, 0), (3, 0), (3, 0), (0, 1)])], [(30, 30), ckTop], [], [], [], [], 0, 0), [([], [], [(0, .inl (1, [(1, 1), (1, 2), (1, 3), (1, 4), (0, 1)]))], dC0, [], [], dG1, [], [], [], 4, 120)], 1, 80, 4, 120)
noncomputable def k0_a : ckAs := []
noncomputable def k0_c : List (Nat × ckCtr) := []
theorem k0_ok (l : Launch) : ckCtrOk l ckMT ckTW ckCL k0 := mt_117 (as := k0_a) (cs := k0_c) (gx := []) (f := 200000) rfl (fun _ h => absurd h List.not_mem_nil) True.intro (by decide +kernel)
noncomputable def dC2 : List ckC := [.inl (2, [(3, 0), (3, 0), (3, 0), (0, 0), (0, 1), (0, 2), (0, 3), (0, 4), (0, 5), (0, 6), (0, 7), (0, 8), (0, 9), (0, 10), (0, 11), (0, 12)])]
noncomputable def dT3 : List ckI := [ckTop, ckTop, ckTop, ckTop, ckTop, ckTop, ckTop, ckTop, ckTop, ckTop, ckTop, ckTop, ckTop]
noncomputable def dP4 : List (Nat × ckC) := [(0, .inl (2, [(1, 1), (1, 2), (1, 3), (0, 0), (0, 1), (0, 2), (0, 13), (0, 14), (0, 5), (0, 6), (0, 15), (0, 16), (0, 17), (0, 18), (0, 11), (0, 12)]))]
noncomputable def dC5 : List ckC := [.inr (0, 19, 0), .inr (0, 20, 1), .inl (1, [(1, 4), (1, 5), (1, 6), (1, 7), (0, 21)]), .inr (0, 22, 2), .inr (0, 22, 3), .inr (0, 22, 4), .inr (0, 22, 5)]
noncomputable def dT6 : List ckI := [(50, 50), (60, 60), (10, 10), (24, 24), (200, 200), (9, 9), (48, 48), (8, 8), (0, 0), (30, 30)]
noncomputable def dG7 : List ckG := [([(48, (0, 0))], [], []), ([(8, (0, 0))], [], []), ([(30, (0, 0))], [], []), ([(30, (0, 0))], [], []), ([(30, (0, 0))], [], []), ([(30, (0, 0))], [], [])]
-- FarMachine$Machine.<init>
noncomputable def k1 : ckCtr := (125, ([(0, (1, 0))], [], dC2, dT3, [], [], [], [], 0, 0), [([], [], dP4, dC5, [], dT6, dG7, [], [], [], 7, 181)], 2, 102, 7, 181)
noncomputable def k1_a : ckAs := []
noncomputable def k1_c : List (Nat × ckCtr) := [(27, k0)]
theorem k1_ok (l : Launch) : ckCtrOk l ckMT ckTW ckCL k1 := mt_125 (as := k1_a) (cs := k1_c) (gx := []) (f := 200000) rfl (ckHc (k0_ok l) (fun _ h => absurd h List.not_mem_nil)) True.intro (by decide +kernel)
-- FarMachine$Bytes.<init>
noncomputable def k2 : ckCtr := (112, ([(0, (1, 0)), (1, (0, 0))], [], [.inl (0, [(3, 0), (0, 1)])], [(60, 60), (0, 30)], [], [], [], [], 0, 0), [([], [], [(0, .inl (0, [(1, 1), (0, 1)]))], [.inr (0, 0, 0)], [], [], [([(60, (0, 0))], [], [])], [], [], [], 1, 60)], 1, 80, 1, 60)
noncomputable def k2_a : ckAs := []
noncomputable def k2_c : List (Nat × ckCtr) := []
theorem k2_ok (l : Launch) : ckCtrOk l ckMT ckTW ckCL k2 := mt_112 (as := k2_a) (cs := k2_c) (gx := []) (f := 200000) rfl (fun _ h => absurd h List.not_mem_nil) True.intro (by decide +kernel)
-- FarMachine$Bytes.<init>
noncomputable def k3 : ckCtr := (112, ([(0, (1, 0)), (1, (0, 0))], [], [.inl (0, [(3, 0), (0, 1)])], [(8, 8), (0, 30)], [], [], [], [], 0, 0), [([], [], [(0, .inl (0, [(1, 1), (0, 1)]))], [.inr (0, 0, 0)], [], [], [([(8, (0, 0))], [], [])], [], [], [], 1, 8)], 1, 80, 1, 8)
noncomputable def k3_a : ckAs := []
noncomputable def k3_c : List (Nat × ckCtr) := []
theorem k3_ok (l : Launch) : ckCtrOk l ckMT ckTW ckCL k3 := mt_112 (as := k3_a) (cs := k3_c) (gx := []) (f := 200000) rfl (fun _ h => absurd h List.not_mem_nil) True.intro (by decide +kernel)
noncomputable def dC8 : List ckC := [.inl (5, [(3, 0), (3, 0), (3, 0), (3, 0), (3, 0), (0, 0)])]
noncomputable def dP9 : List (Nat × ckC) := [(0, .inl (5, [(1, 1), (1, 2), (1, 3), (1, 4), (1, 5), (0, 0)]))]
noncomputable def dC10 : List ckC := [.inr (0, 1, 0), .inr (0, 1, 1), .inr (0, 1, 2), .inr (0, 1, 3), .inr (0, 2, 4)]
noncomputable def dG11 : List ckG := [([(70, (0, 0))], [], []), ([(70, (0, 0))], [], []), ([(70, (0, 0))], [], []), ([(70, (0, 0))], [], []), ([(10, (0, 0))], [], [])]
-- FarMachine$Rules.<init>
noncomputable def k4 : ckCtr := (166, ([(0, (1, 0))], [], dC8, [(0, 9)], [], [], [], [], 0, 0), [([], [], dP9, dC10, [], [(70, 70), (10, 10)], dG11, [], [], [], 5, 290)], 1, 80, 5, 290)
noncomputable def k4_a : ckAs := []
noncomputable def k4_c : List (Nat × ckCtr) := []
theorem k4_ok (l : Launch) : ckCtrOk l ckMT ckTW ckCL k4 := mt_166 (as := k4_a) (cs := k4_c) (gx := []) (f := 200000) rfl (fun _ h => absurd h List.not_mem_nil) True.intro (by decide +kernel)
noncomputable def dG12 : List ckG := [([(6, (0, 0))], [], []), ([(6, (0, 0))], [], []), ([(6, (0, 0))], [], []), ([(6, (0, 0))], [], [])]
-- FarMachine$Commands.<init>
noncomputable def k5 : ckCtr := (117, ([(0, (1, 0)), (1, (0, 0))], [], [.inl (1, [(3, 0), (3, 0), (3, 0), (3, 0), (0, 1)])], [(6, 6), ckTop], [], [], [], [], 0, 0), [([], [], [(0, .inl (1, [(1, 1), (1, 2), (1, 3), (1, 4), (0, 1)]))], dC0, [], [], dG12, [], [], [], 4, 24)], 1, 80, 4, 24)
noncomputable def k5_a : ckAs := []
noncomputable def k5_c : List (Nat × ckCtr) := []
theorem k5_ok (l : Launch) : ckCtrOk l ckMT ckTW ckCL k5 := mt_117 (as := k5_a) (cs := k5_c) (gx := []) (f := 200000) rfl (fun _ h => absurd h List.not_mem_nil) True.intro (by decide +kernel)
noncomputable def dC13 : List ckC := [.inl (7, [(3, 0), (3, 0), (0, 0), (3, 0), (3, 0), (3, 0), (3, 0), (3, 0), (3, 0), (3, 0)])]
noncomputable def dP14 : List (Nat × ckC) := [(0, .inl (7, [(1, 1), (1, 9), (0, 0), (1, 17), (1, 19), (1, 21), (1, 23), (1, 25), (1, 31), (1, 36)]))]
noncomputable def dC15 : List ckC := [.inl (2, [(1, 2), (1, 3), (1, 4), (0, 1), (0, 1), (0, 1), (0, 2), (0, 3), (0, 1), (0, 1), (0, 4), (0, 5), (0, 6), (0, 7), (0, 1), (0, 1)]), .inr (0, 8, 0), .inr (0, 9, 1), .inl (1, [(1, 5), (1, 6), (1, 7), (1, 8), (0, 1)]), .inr (0, 10, 2), .inr (0, 10, 3), .inr (0, 10, 4), .inr (0, 10, 5), .inl (2, [(1, 10), (1, 11), (1, 12), (0, 1), (0, 1), (0, 1), (0, 2), (0, 3), (0, 1), (0, 1), (0, 4), (0, 5), (0, 6), (0, 7), (0, 1), (0, 1)]), .inr (0, 8, 6), .inr (0, 9, 7), .inl (1, [(1, 13), (1, 14), (1, 15), (1, 16), (0, 1)]), .inr (0, 10, 8), .inr (0, 10, 9), .inr (0, 10, 10), .inr (0, 10, 11), .inl (0, [(1, 18), (0, 1)]), .inr (0, 3, 12), .inl (0, [(1, 20), (0, 1)]), .inr (0, 3, 13), .inl (0, [(1, 22), (0, 1)]), .inr (0, 9, 14), .inl (0, [(1, 24), (0, 1)]), .inr (0, 9, 15), .inl (5, [(1, 26), (1, 27), (1, 28), (1, 29), (1, 30), (0, 1)]), .inr (0, 11, 16), .inr (0, 11, 17), .inr (0, 11, 18), .inr (0, 11, 19), .inr (0, 4, 20), .inl (1, [(1, 32), (1, 33), (1, 34), (1, 35), (0, 1)]), .inr (0, 12, 21), .inr (0, 12, 22), .inr (0, 12, 23), .inr (0, 12, 24), .inl (0, [(1, 37), (0, 1)]), .inr (0, 9, 25)]
noncomputable def dT16 : List ckI := [(0, 0), (50, 50), (60, 60), (10, 10), (24, 24), (200, 200), (9, 9), (48, 48), (8, 8), (30, 30), (70, 70), (6, 6)]
noncomputable def dG17 : List ckG := [([(48, (0, 0))], [], []), ([(8, (0, 0))], [], []), ([(30, (0, 0))], [], []), ([(30, (0, 0))], [], []), ([(30, (0, 0))], [], []), ([(30, (0, 0))], [], []), ([(48, (0, 0))], [], []), ([(8, (0, 0))], [], []), ([(30, (0, 0))], [], []), ([(30, (0, 0))], [], []), ([(30, (0, 0))], [], []), ([(30, (0, 0))], [], []), ([(60, (0, 0))], [], []), ([(60, (0, 0))], [], []), ([(8, (0, 0))], [], []), ([(8, (0, 0))], [], []), ([(70, (0, 0))], [], []), ([(70, (0, 0))], [], []), ([(70, (0, 0))], [], []), ([(70, (0, 0))], [], []), ([(10, (0, 0))], [], []), ([(6, (0, 0))], [], []), ([(6, (0, 0))], [], []), ([(6, (0, 0))], [], []), ([(6, (0, 0))], [], []), ([(8, (0, 0))], [], [])]
-- FarMachine$World.<init>
noncomputable def k6 : ckCtr := (182, ([(0, (1, 0))], [], dC13, [(0, 1)], [], [], [], [], 0, 0), [([], [], dP14, dC15, [], dT16, dG17, [], [], [], 37, 873)], 3, 122, 37, 873)
noncomputable def k6_a : ckAs := []
noncomputable def k6_c : List (Nat × ckCtr) := [(9, k1), (20, k1), (33, k2), (46, k2), (59, k3), (72, k3), (83, k4), (96, k5), (109, k3)]
theorem k6_ok (l : Launch) : ckCtrOk l ckMT ckTW ckCL k6 := mt_182 (as := k6_a) (cs := k6_c) (gx := []) (f := 200000) rfl (ckHc (k1_ok l) (ckHc (k1_ok l) (ckHc (k2_ok l) (ckHc (k2_ok l) (ckHc (k3_ok l) (ckHc (k3_ok l) (ckHc (k4_ok l) (ckHc (k5_ok l) (ckHc (k3_ok l) (fun _ h => absurd h List.not_mem_nil)))))))))) True.intro (by decide +kernel)
-- FarMachine$Bytes.<init>
noncomputable def k7 : ckCtr := (112, ([(0, (1, 0)), (1, (0, 0))], [], [.inl (0, [(3, 0), (0, 1)])], [(40, 40), (0, 30)], [], [], [], [], 0, 0), [([], [], [(0, .inl (0, [(1, 1), (0, 1)]))], [.inr (0, 0, 0)], [], [], [([(40, (0, 0))], [], [])], [], [], [], 1, 40)], 1, 80, 1, 40)
noncomputable def k7_a : ckAs := []
noncomputable def k7_c : List (Nat × ckCtr) := []
theorem k7_ok (l : Launch) : ckCtrOk l ckMT ckTW ckCL k7 := mt_112 (as := k7_a) (cs := k7_c) (gx := []) (f := 200000) rfl (fun _ h => absurd h List.not_mem_nil) True.intro (by decide +kernel)
-- FarMachine$Bytes.<init>
noncomputable def k8 : ckCtr := (112, ([(0, (1, 0)), (1, (0, 0))], [], [.inl (0, [(3, 0), (0, 1)])], [(30, 30), (0, 30)], [], [], [], [], 0, 0), [([], [], [(0, .inl (0, [(1, 1), (0, 1)]))], [.inr (0, 0, 0)], [], [], [([(30, (0, 0))], [], [])], [], [], [], 1, 30)], 1, 80, 1, 30)
noncomputable def k8_a : ckAs := []
noncomputable def k8_c : List (Nat × ckCtr) := []
theorem k8_ok (l : Launch) : ckCtrOk l ckMT ckTW ckCL k8 := mt_112 (as := k8_a) (cs := k8_c) (gx := []) (f := 200000) rfl (fun _ h => absurd h List.not_mem_nil) True.intro (by decide +kernel)
-- FarMachine$Rows.<init>
noncomputable def k9 : ckCtr := (151, ([(0, (1, 0))], [], [.inl (3, [(3, 0), (0, 0), (0, 1)])], [ckTop, ckTop], [], [], [], [], 0, 0), [([], [], [(0, .inl (3, [(1, 1), (0, 0), (0, 1)]))], [.inr (1, 2, 0)], [], [(2048, 2048)], [([(2048, (0, 0))], [], [])], [], [], [], 1, 2048)], 1, 80, 1, 2048)
noncomputable def k9_a : ckAs := []
noncomputable def k9_c : List (Nat × ckCtr) := []
theorem k9_ok (l : Launch) : ckCtrOk l ckMT ckTW ckCL k9 := mt_151 (as := k9_a) (cs := k9_c) (gx := []) (f := 200000) rfl (fun _ h => absurd h List.not_mem_nil) True.intro (by decide +kernel)
noncomputable def dC18 : List ckC := [.inl (6, [(3, 0), (3, 0), (3, 0), (3, 0), (3, 0), (0, 0), (0, 1), (0, 2), (0, 3), (0, 4)]), .inl (7, [(4, 10), (4, 11), (0, 5), (4, 12), (4, 13), (4, 14), (4, 15), (4, 16), (4, 17), (4, 18)]), .inl (0, [(4, 19), (0, 6)])]
noncomputable def dP19 : List (Nat × ckC) := [(0, .inl (6, [(1, 1), (1, 2), (1, 3), (1, 11), (1, 12), (0, 0), (0, 1), (0, 2), (0, 3), (0, 4)]))]
noncomputable def dC20 : List ckC := [.inl (2, [(1, 4), (1, 5), (1, 6), (0, 7), (0, 7), (0, 7), (0, 8), (0, 9), (0, 7), (0, 7), (0, 10), (0, 11), (0, 12), (0, 13), (0, 7), (0, 7)]), .inr (0, 14, 0), .inr (0, 15, 1), .inl (1, [(1, 7), (1, 8), (1, 9), (1, 10), (0, 7)]), .inr (0, 16, 2), .inr (0, 16, 3), .inr (0, 16, 4), .inr (0, 16, 5), .inr (0, 15, 6), .inl (3, [(1, 13), (0, 7), (0, 7)]), .inr (1, 17, 7)]
noncomputable def dT21 : List ckI := [(0, 0), (50, 50), (60, 60), (10, 10), (24, 24), (200, 200), (9, 9), (48, 48), (8, 8), (30, 30), (2048, 2048)]
noncomputable def dG22 : List ckG := [([(48, (0, 0))], [], []), ([(8, (0, 0))], [], []), ([(30, (0, 0))], [], []), ([(30, (0, 0))], [], []), ([(30, (0, 0))], [], []), ([(30, (0, 0))], [], []), ([(8, (0, 0))], [], []), ([(2048, (0, 0))], [], [])]
-- FarMachine$Trials.<init>
noncomputable def k10 : ckCtr := (176, ([(0, (1, 0)), (1, (1, 1)), (2, (1, 2))], [], dC18, [ckTop, ckTop, ckTop, ckTop, (0, 1), (0, 1), (0, 30)], [], [], [], [], 0, 0), [([], [], dP19, dC20, [], dT21, dG22, [], [], [], 11, 2256)], 3, 122, 11, 2256)
noncomputable def k10_a : ckAs := []
noncomputable def k10_c : List (Nat × ckCtr) := [(9, k1), (28, k9)]
theorem k10_ok (l : Launch) : ckCtrOk l ckMT ckTW ckCL k10 := mt_176 (as := k10_a) (cs := k10_c) (gx := []) (f := 200000) rfl (ckHc (k1_ok l) (ckHc (k9_ok l) (fun _ h => absurd h List.not_mem_nil))) True.intro (by decide +kernel)
noncomputable def dC23 : List ckC := [.inl (8, [(3, 0), (3, 0), (0, 0), (3, 0), (3, 0), (3, 0), (3, 0), (3, 0)])]
noncomputable def dP24 : List (Nat × ckC) := [(0, .inl (8, [(1, 1), (1, 39), (0, 0), (1, 77), (1, 79), (1, 81), (1, 93), (1, 94)]))]
noncomputable def dC25 : List ckC := [.inl (7, [(1, 2), (1, 10), (0, 0), (1, 18), (1, 20), (1, 22), (1, 24), (1, 26), (1, 32), (1, 37)]), .inl (2, [(1, 3), (1, 4), (1, 5), (0, 0), (0, 0), (0, 0), (0, 1), (0, 2), (0, 0), (0, 0), (0, 3), (0, 4), (0, 5), (0, 6), (0, 0), (0, 0)]), .inr (0, 7, 0), .inr (0, 8, 1), .inl (1, [(1, 6), (1, 7), (1, 8), (1, 9), (0, 0)]), .inr (0, 9, 2), .inr (0, 9, 3), .inr (0, 9, 4), .inr (0, 9, 5), .inl (2, [(1, 11), (1, 12), (1, 13), (0, 0), (0, 0), (0, 0), (0, 1), (0, 2), (0, 0), (0, 0), (0, 3), (0, 4), (0, 5), (0, 6), (0, 0), (0, 0)]), .inr (0, 7, 6), .inr (0, 8, 7), .inl (1, [(1, 14), (1, 15), (1, 16), (1, 17), (0, 0)]), .inr (0, 9, 8), .inr (0, 9, 9), .inr (0, 9, 10), .inr (0, 9, 11), .inl (0, [(1, 19), (0, 0)]), .inr (0, 2, 12), .inl (0, [(1, 21), (0, 0)]), .inr (0, 2, 13), .inl (0, [(1, 23), (0, 0)]), .inr (0, 8, 14), .inl (0, [(1, 25), (0, 0)]), .inr (0, 8, 15), .inl (5, [(1, 27), (1, 28), (1, 29), (1, 30), (1, 31), (0, 0)]), .inr (0, 10, 16), .inr (0, 10, 17), .inr (0, 10, 18), .inr (0, 10, 19), .inr (0, 3, 20), .inl (1, [(1, 33), (1, 34), (1, 35), (1, 36), (0, 0)]), .inr (0, 11, 21), .inr (0, 11, 22), .inr (0, 11, 23), .inr (0, 11, 24), .inl (0, [(1, 38), (0, 0)]), .inr (0, 8, 25), .inl (7, [(1, 40), (1, 48), (0, 0), (1, 56), (1, 58), (1, 60), (1, 62), (1, 64), (1, 70), (1, 75)]), .inl (2, [(1, 41), (1, 42), (1, 43), (0, 0), (0, 0), (0, 0), (0, 1), (0, 2), (0, 0), (0, 0), (0, 3), (0, 4), (0, 5), (0, 6), (0, 0), (0, 0)]), .inr (0, 7, 26), .inr (0, 8, 27), .inl (1, [(1, 44), (1, 45), (1, 46), (1, 47), (0, 0)]), .inr (0, 9, 28), .inr (0, 9, 29), .inr (0, 9, 30), .inr (0, 9, 31), .inl (2, [(1, 49), (1, 50), (1, 51), (0, 0), (0, 0), (0, 0), (0, 1), (0, 2), (0, 0), (0, 0), (0, 3), (0, 4), (0, 5), (0, 6), (0, 0), (0, 0)]), .inr (0, 7, 32), .inr (0, 8, 33), .inl (1, [(1, 52), (1, 53), (1, 54), (1, 55), (0, 0)]), .inr (0, 9, 34), .inr (0, 9, 35), .inr (0, 9, 36), .inr (0, 9, 37), .inl (0, [(1, 57), (0, 0)]), .inr (0, 2, 38), .inl (0, [(1, 59), (0, 0)]), .inr (0, 2, 39), .inl (0, [(1, 61), (0, 0)]), .inr (0, 8, 40), .inl (0, [(1, 63), (0, 0)]), .inr (0, 8, 41), .inl (5, [(1, 65), (1, 66), (1, 67), (1, 68), (1, 69), (0, 0)]), .inr (0, 10, 42), .inr (0, 10, 43), .inr (0, 10, 44), .inr (0, 10, 45), .inr (0, 3, 46), .inl (1, [(1, 71), (1, 72), (1, 73), (1, 74), (0, 0)]), .inr (0, 11, 47), .inr (0, 11, 48), .inr (0, 11, 49), .inr (0, 11, 50), .inl (0, [(1, 76), (0, 0)]), .inr (0, 8, 51), .inl (0, [(1, 78), (0, 0)]), .inr (0, 12, 52), .inl (0, [(1, 80), (0, 0)]), .inr (0, 9, 53), .inl (6, [(1, 1), (1, 77), (1, 82), (1, 90), (1, 91), (0, 0), (0, 0), (0, 0), (0, 0), (0, 0)]), .inl (2, [(1, 83), (1, 84), (1, 85), (0, 0), (0, 0), (0, 0), (0, 1), (0, 2), (0, 0), (0, 0), (0, 3), (0, 4), (0, 5), (0, 6), (0, 0), (0, 0)]), .inr (0, 7, 54), .inr (0, 8, 55), .inl (1, [(1, 86), (1, 87), (1, 88), (1, 89), (0, 0)]), .inr (0, 9, 56), .inr (0, 9, 57), .inr (0, 9, 58), .inr (0, 9, 59), .inr (0, 8, 60), .inl (3, [(1, 92), (0, 0), (0, 0)]), .inr (1, 13, 61), .inr (0, 8, 62), .inr (0, 14, 63)]
noncomputable def dT26 : List ckI := [(50, 50), (60, 60), (10, 10), (24, 24), (200, 200), (9, 9), (48, 48), (8, 8), (30, 30), (70, 70), (6, 6), (40, 40), (2048, 2048), (7, 7)]
noncomputable def dG27 : List ckG := [([(48, (0, 0))], [], []), ([(8, (0, 0))], [], []), ([(30, (0, 0))], [], []), ([(30, (0, 0))], [], []), ([(30, (0, 0))], [], []), ([(30, (0, 0))], [], []), ([(48, (0, 0))], [], []), ([(8, (0, 0))], [], []), ([(30, (0, 0))], [], []), ([(30, (0, 0))], [], []), ([(30, (0, 0))], [], []), ([(30, (0, 0))], [], []), ([(60, (0, 0))], [], []), ([(60, (0, 0))], [], []), ([(8, (0, 0))], [], []), ([(8, (0, 0))], [], []), ([(70, (0, 0))], [], []), ([(70, (0, 0))], [], []), ([(70, (0, 0))], [], []), ([(70, (0, 0))], [], []), ([(10, (0, 0))], [], []), ([(6, (0, 0))], [], []), ([(6, (0, 0))], [], []), ([(6, (0, 0))], [], []), ([(6, (0, 0))], [], []), ([(8, (0, 0))], [], []), ([(48, (0, 0))], [], []), ([(8, (0, 0))], [], []), ([(30, (0, 0))], [], []), ([(30, (0, 0))], [], []), ([(30, (0, 0))], [], []), ([(30, (0, 0))], [], []), ([(48, (0, 0))], [], []), ([(8, (0, 0))], [], []), ([(30, (0, 0))], [], []), ([(30, (0, 0))], [], []), ([(30, (0, 0))], [], []), ([(30, (0, 0))], [], []), ([(60, (0, 0))], [], []), ([(60, (0, 0))], [], []), ([(8, (0, 0))], [], []), ([(8, (0, 0))], [], []), ([(70, (0, 0))], [], []), ([(70, (0, 0))], [], []), ([(70, (0, 0))], [], []), ([(70, (0, 0))], [], []), ([(10, (0, 0))], [], []), ([(6, (0, 0))], [], []), ([(6, (0, 0))], [], []), ([(6, (0, 0))], [], []), ([(6, (0, 0))], [], []), ([(8, (0, 0))], [], []), ([(40, (0, 0))], [], []), ([(30, (0, 0))], [], []), ([(48, (0, 0))], [], []), ([(8, (0, 0))], [], []), ([(30, (0, 0))], [], []), ([(30, (0, 0))], [], []), ([(30, (0, 0))], [], []), ([(30, (0, 0))], [], []), ([(8, (0, 0))], [], []), ([(2048, (0, 0))], [], []), ([(8, (0, 0))], [], []), ([(7, (0, 0))], [], [])]
-- FarMachine.<init>
noncomputable def k11 : ckCtr := (0, ([(0, (1, 0))], [], dC23, [(0, 0)], [], [], [], [], 0, 0), [([], [], dP24, dC25, [], dT26, dG27, [], [], [], 94, 4121)], 4, 144, 94, 4121)
noncomputable def k11_a : ckAs := []
noncomputable def k11_c : List (Nat × ckCtr) := [(9, k6), (20, k6), (33, k7), (46, k8), (65, k10)]
theorem k11_ok (l : Launch) : ckCtrOk l ckMT ckTW ckCL k11 := mt_0 (as := k11_a) (cs := k11_c) (gx := []) (f := 200000) rfl (ckHc (k6_ok l) (ckHc (k6_ok l) (ckHc (k7_ok l) (ckHc (k8_ok l) (ckHc (k10_ok l) (fun _ h => absurd h List.not_mem_nil)))))) True.intro (by decide +kernel)
noncomputable def dC28 : List ckC := [.inl (9, [(3, 0), (3, 0), (3, 0), (3, 0), (3, 0), (3, 0), (3, 0), (3, 0), (3, 0), (3, 0), (3, 0), (3, 0), (3, 0), (3, 0), (3, 0), (3, 0), (0, 0), (0, 0), (0, 0), (0, 0), (0, 0), (0, 0), (0, 0), (3, 0), (0, 0), (3, 0), (0, 0), (0, 0), (0, 0), (0, 0), (3, 0), (0, 0), (0, 0), (0, 0), (0, 0), (3, 0), (3, 0), (0, 0), (3, 0), (3, 0), (0, 0), (0, 0)])]
noncomputable def dP29 : List (Nat × ckC) := [(0, .inl (9, [(1, 1), (1, 2), (1, 3), (1, 4), (1, 5), (1, 6), (1, 7), (1, 8), (1, 9), (1, 10), (1, 11), (1, 12), (1, 13), (1, 14), (1, 15), (1, 16), (0, 0), (0, 0), (0, 0), (0, 0), (0, 0), (0, 0), (0, 0), (1, 17), (0, 0), (1, 18), (0, 0), (0, 0), (0, 0), (0, 0), (1, 19), (0, 0), (0, 0), (0, 0), (0, 0), (1, 19), (1, 2), (0, 0), (1, 20), (1, 21), (0, 0), (0, 0)]))]
noncomputable def dC30 : List ckC := [.inr (0, 1, 0), .inr (0, 2, 1), .inr (0, 2, 2), .inr (0, 2, 3), .inr (0, 2, 4), .inr (0, 2, 5), .inr (0, 3, 6), .inr (0, 3, 7), .inr (0, 4, 8), .inr (0, 5, 9), .inr (0, 5, 10), .inr (0, 5, 11), .inr (0, 3, 12), .inr (0, 3, 13), .inr (0, 6, 14), .inr (0, 7, 15), .inr (0, 8, 16), .inr (2, 9, 17), .inr (0, 10, 18), .inr (0, 11, 19), .inr (0, 9, 20)]
noncomputable def dT31 : List ckI := [(7, 7), (318, 318), (8, 8), (40, 40), (6, 6), (300, 300), (10, 10), (64, 64), (256, 256), (30, 30), (16384, 16384), (9, 9), (200, 200), (24, 24), (60, 60), (50, 50)]
noncomputable def dG32 : List ckG := [([(7, (0, 0))], [], []), ([(50, (0, 0)), (51, (50, 50)), (52, (60, 60)), (54, (0, 0)), (55, (10, 10)), (56, (24, 24)), (57, (200, 200)), (58, (9, 9)), (318, (0, 0))], [(50, 16), (51, 15), (54, 7), (55, 14), (56, 13), (57, 12)], []), ([(318, (0, 0))], [], []), ([(318, (0, 0))], [], []), ([(318, (0, 0))], [], []), ([(318, (0, 0))], [], []), ([(8, (0, 0))], [], []), ([(8, (0, 0))], [], []), ([(40, (0, 0))], [], []), ([(6, (0, 0))], [], []), ([(6, (0, 0))], [], []), ([(6, (0, 0))], [], []), ([(8, (0, 0))], [], []), ([(8, (0, 0))], [], []), ([(300, (0, 0))], [], []), ([(10, (0, 0))], [], []), ([(64, (0, 0))], [], []), ([(256, (0, 0))], [], []), ([(30, (0, 0))], [], []), ([(16384, (0, 0))], [], []), ([(256, (0, 0))], [], [])]
-- FarMachineModel.<init>
noncomputable def k12 : ckCtr := (43, ([(0, (1, 0))], [], dC28, [(0, 0)], [], [], [], [], 0, 0), [([], [], dP29, dC30, [], dT31, dG32, [], [], [], 21, 18987)], 1, 80, 21, 18987)
noncomputable def k12_a : ckAs := []
noncomputable def k12_c : List (Nat × ckCtr) := []
theorem k12_ok (l : Launch) : ckCtrOk l ckMT ckTW ckCL k12 := mt_43 (as := k12_a) (cs := k12_c) (gx := []) (f := 200000) rfl (fun _ h => absurd h List.not_mem_nil) True.intro (by decide +kernel)
-- FarMachine.isWord
noncomputable def k13 : ckCtr := (36, ([(0, (0, 0))], [], [], [ckTop], [], [], [], [], 0, 0), [([], [(0, 1)], [], [], [(0, (0, 47))], [(1, 1)], [], [], [], [], 0, 0), ([], [(0, 1)], [], [], [], [(0, 0)], [], [], [], [], 0, 0)], 1, 80, 0, 0)
noncomputable def k13_a : ckAs := []
noncomputable def k13_c : List (Nat × ckCtr) := []
theorem k13_ok (l : Launch) : ckCtrOk l ckMT ckTW ckCL k13 := mt_36 (as := k13_a) (cs := k13_c) (gx := []) (f := 200000) rfl (fun _ h => absurd h List.not_mem_nil) True.intro (by decide +kernel)
noncomputable def dC33 : List ckC := [.inl (8, [(4, 10), (4, 11), (0, 1), (4, 12), (4, 13), (4, 14), (4, 15), (1, 1)]), .inr (0, 2, 0)]
-- FarMachine.refuse
noncomputable def k14 : ckCtr := (34, ([(0, (1, 0)), (1, (0, 0))], [], dC33, [(-1, -1), (0, 1), (7, 7)], [([(7, ckTop)], [], [])], [], [], [], 0, 0), [([], [(0, 0)], [(1, .inr (0, 2, 1))], [], [], [ckTop], [([(1, ckTop), (2, ckTop), (7, ckTop)], [(1, 3)], [])], [], [], [], 0, 0)], 1, 80, 0, 0)
noncomputable def k14_a : ckAs := []
noncomputable def k14_c : List (Nat × ckCtr) := []
theorem k14_ok (l : Launch) : ckCtrOk l ckMT ckTW ckCL k14 := mt_34 (as := k14_a) (cs := k14_c) (gx := []) (f := 200000) rfl (fun _ h => absurd h List.not_mem_nil) True.intro (by decide +kernel)
-- FarMachine.refuse
noncomputable def k15 : ckCtr := (34, ([(0, (1, 0)), (1, (0, 0))], [], dC33, [(-4, -4), (0, 1), (7, 7)], [([(7, ckTop)], [], [])], [], [], [], 0, 0), [([], [(0, 0)], [(1, .inr (0, 2, 1))], [], [], [ckTop], [([(4, ckTop), (5, ckTop), (7, ckTop)], [(4, 3)], [])], [], [], [], 0, 0)], 1, 80, 0, 0)
noncomputable def k15_a : ckAs := []
noncomputable def k15_c : List (Nat × ckCtr) := []
theorem k15_ok (l : Launch) : ckCtrOk l ckMT ckTW ckCL k15 := mt_34 (as := k15_a) (cs := k15_c) (gx := []) (f := 200000) rfl (fun _ h => absurd h List.not_mem_nil) True.intro (by decide +kernel)
-- FarMachine.refuse
noncomputable def k16 : ckCtr := (34, ([(0, (1, 0)), (1, (0, 0))], [], dC33, [(-6, -6), (0, 1), (7, 7)], [([(7, ckTop)], [], [])], [], [], [], 0, 0), [([], [(0, 0)], [(1, .inr (0, 2, 1))], [], [], [ckTop], [([(6, ckTop), (7, ckTop)], [(6, 3)], [])], [], [], [], 0, 0)], 1, 80, 0, 0)
noncomputable def k16_a : ckAs := []
noncomputable def k16_c : List (Nat × ckCtr) := []
theorem k16_ok (l : Launch) : ckCtrOk l ckMT ckTW ckCL k16 := mt_34 (as := k16_a) (cs := k16_c) (gx := []) (f := 200000) rfl (fun _ h => absurd h List.not_mem_nil) True.intro (by decide +kernel)
noncomputable def dC34 : List ckC := [.inl (2, [(1, 1), (4, 10), (4, 11), (0, 1), (0, 2), (0, 3), (0, 4), (0, 5), (0, 6), (0, 7), (0, 8), (0, 9), (0, 10), (0, 11), (0, 12), (0, 13)]), .inr (0, 14, 0)]
noncomputable def dT35 : List ckI := [ckTop, ckTop, ckTop, ckTop, ckTop, ckTop, ckTop, ckTop, ckTop, ckTop, ckTop, ckTop, ckTop, ckTop, (48, 48)]
-- FarMachine$Machine.readWord
noncomputable def k17 : ckCtr := (127, ([(0, (1, 0)), (1, (0, 0))], [], dC34, dT35, [([(48, ckTop)], [], [])], [], [], [], 0, 0), [([], [(0, 15)], [], [], [], [(0, 0)], [], [], [], [], 0, 0), ([], [(0, 15)], [], [], [(0, (0, 47))], [ckTop], [], [], [], [], 0, 0)], 2, 100, 0, 0)
noncomputable def k17_a : ckAs := []
noncomputable def k17_c : List (Nat × ckCtr) := [(1, k13)]
theorem k17_ok (l : Launch) : ckCtrOk l ckMT ckTW ckCL k17 := mt_127 (as := k17_a) (cs := k17_c) (gx := []) (f := 200000) rfl (ckHc (k13_ok l) (fun _ h => absurd h List.not_mem_nil)) True.intro (by decide +kernel)
noncomputable def dC36 : List ckC := [.inl (2, [(1, 1), (4, 10), (4, 11), (0, 2), (0, 3), (0, 4), (0, 5), (0, 6), (0, 7), (0, 8), (0, 9), (0, 10), (0, 11), (0, 12), (0, 13), (0, 14)]), .inr (0, 15, 0)]
noncomputable def dT37 : List ckI := [ckTop, ckTop, ckTop, ckTop, ckTop, ckTop, ckTop, ckTop, ckTop, ckTop, ckTop, ckTop, ckTop, ckTop, ckTop, (48, 48)]
-- FarMachine$Machine.writeWord
noncomputable def k18 : ckCtr := (128, ([(0, (1, 0)), (1, (0, 0)), (2, (0, 1))], [], dC36, dT37, [([(48, ckTop)], [], [])], [], [], [], 0, 0), [([], [], [], [], [], [], [], [], [], [], 0, 0), ([], [], [(1, .inr (0, 15, 1))], [], [(0, (0, 47))], [], [([(48, ckTop)], [], [])], [], [], [], 0, 0)], 2, 100, 0, 0)
noncomputable def k18_a : ckAs := []
noncomputable def k18_c : List (Nat × ckCtr) := [(1, k13)]
theorem k18_ok (l : Launch) : ckCtrOk l ckMT ckTW ckCL k18 := mt_128 (as := k18_a) (cs := k18_c) (gx := []) (f := 200000) rfl (ckHc (k13_ok l) (fun _ h => absurd h List.not_mem_nil)) True.intro (by decide +kernel)
noncomputable def dC38 : List ckC := [.inl (8, [(1, 1), (4, 10), (0, 2), (4, 11), (4, 12), (4, 13), (4, 14), (1, 2)]), .inl (7, [(1, 3), (4, 15), (0, 3), (4, 16), (4, 17), (4, 18), (4, 19), (4, 20), (4, 21), (4, 22)]), .inr (0, 4, 0), .inl (2, [(1, 4), (4, 23), (4, 24), (0, 5), (0, 6), (0, 7), (0, 8), (0, 9), (0, 10), (0, 11), (0, 12), (0, 13), (0, 14), (0, 15), (0, 16), (0, 17)]), .inr (0, 18, 1)]
noncomputable def dT39 : List ckI := [ckTop, ckTop, (0, 1), (0, 1), (7, 7), ckTop, ckTop, ckTop, ckTop, ckTop, ckTop, ckTop, ckTop, ckTop, ckTop, ckTop, ckTop, ckTop, (48, 48)]
noncomputable def dG40 : List ckG := [([(1, ckTop), (2, ckTop), (4, ckTop), (5, ckTop), (6, ckTop), (7, ckTop)], [], []), ([(48, ckTop)], [], [])]
-- FarMachine.word
noncomputable def k19 : ckCtr := (1, ([(0, (1, 0)), (1, (0, 0)), (2, (0, 1))], [], dC38, dT39, [([(7, ckTop)], [], []), ([(48, ckTop)], [], [])], [], [], [], 0, 0), [([], [(0, 19)], [(2, .inr (0, 4, 2)), (4, .inr (0, 18, 3))], [], [], [ckTop], dG40, [], [], [], 0, 0)], 3, 122, 0, 0)
noncomputable def k19_a : ckAs := []
noncomputable def k19_c : List (Nat × ckCtr) := [(1, k13), (9, k14), (20, k15), (34, k16), (46, k17), (59, k18)]
theorem k19_ok (l : Launch) : ckCtrOk l ckMT ckTW ckCL k19 := mt_1 (as := k19_a) (cs := k19_c) (gx := []) (f := 200000) rfl (ckHc (k13_ok l) (ckHc (k14_ok l) (ckHc (k15_ok l) (ckHc (k16_ok l) (ckHc (k17_ok l) (ckHc (k18_ok l) (fun _ h => absurd h List.not_mem_nil))))))) True.intro (by decide +kernel)
-- FarMachineModel.isIn
noncomputable def k20 : ckCtr := (45, ([(0, (0, 0)), (1, (0, 1))], [], [], [ckTop, (48, 48)], [], [], [], [], 0, 0), [([], [(0, 2)], [], [], [(0, (0, 47))], [(1, 1)], [], [], [], [], 0, 0), ([], [(0, 2)], [], [], [(0, (48, 2147483647))], [(0, 0)], [], [], [], [], 0, 0), ([], [(0, 2)], [], [], [(0, (-2147483648, -1))], [(0, 0)], [], [], [], [], 0, 0)], 1, 80, 0, 0)
noncomputable def k20_a : ckAs := []
noncomputable def k20_c : List (Nat × ckCtr) := []
theorem k20_ok (l : Launch) : ckCtrOk l ckMT ckTW ckCL k20 := mt_45 (as := k20_a) (cs := k20_c) (gx := []) (f := 200000) rfl (fun _ h => absurd h List.not_mem_nil) True.intro (by decide +kernel)
-- FarMachineModel.within
noncomputable def k21 : ckCtr := (46, ([(0, (0, 0)), (1, (0, 1)), (2, (0, 2))], [], [], [ckTop, (0, 0), (255, 255)], [], [], [], [], 0, 0), [([], [(0, 3)], [], [], [(0, (-2147483648, -1))], [(-4, -4)], [], [], [], [], 0, 0), ([], [(0, 3)], [], [], [(0, (256, 2147483647))], [(-6, -6)], [], [], [], [], 0, 0), ([], [(0, 1)], [], [], [(0, (0, 255))], [], [], [], [], [], 0, 0)], 1, 80, 0, 0)
noncomputable def k21_a : ckAs := []
noncomputable def k21_c : List (Nat × ckCtr) := []
theorem k21_ok (l : Launch) : ckCtrOk l ckMT ckTW ckCL k21 := mt_46 (as := k21_a) (cs := k21_c) (gx := []) (f := 200000) rfl (fun _ h => absurd h List.not_mem_nil) True.intro (by decide +kernel)
noncomputable def dC41 : List ckC := [.inl (9, [(1, 1), (4, 10), (4, 11), (4, 12), (4, 13), (4, 14), (4, 15), (4, 16), (4, 17), (4, 18), (4, 19), (4, 20), (4, 21), (4, 22), (4, 23), (4, 24), (0, 1), (0, 2), (0, 3), (0, 4), (0, 5), (0, 6), (0, 7), (4, 25), (0, 8), (4, 26), (0, 9), (0, 10), (0, 11), (0, 12), (4, 27), (0, 13), (0, 14), (0, 15), (0, 16), (5, 0), (5, 0), (0, 17), (4, 28), (4, 29), (0, 18), (0, 19)]), .inr (0, 20, 0)]
noncomputable def dT42 : List ckI := [(-1, -1), (0, 1), (0, 1), (0, 8), (0, 40), (0, 6), (0, 8), (0, 10), (0, 130000), ckTop, ckTop, ckTop, ckTop, (0, 30), ckTop, ckTop, ckTop, (0, 1), ckTop, (0, 1), (7, 7)]
-- FarMachineModel.refuse
noncomputable def k22 : ckCtr := (44, ([(0, (1, 0)), (1, (0, 0))], [], dC41, dT42, [([(7, ckTop)], [], [])], [], [], [], 0, 0), [([], [(0, 0)], [(1, .inr (0, 20, 1))], [], [], [ckTop], [([(1, ckTop), (2, ckTop), (7, ckTop)], [(1, 21)], [])], [], [], [], 0, 0)], 1, 80, 0, 0)
noncomputable def k22_a : ckAs := []
noncomputable def k22_c : List (Nat × ckCtr) := []
theorem k22_ok (l : Launch) : ckCtrOk l ckMT ckTW ckCL k22 := mt_44 (as := k22_a) (cs := k22_c) (gx := []) (f := 200000) rfl (fun _ h => absurd h List.not_mem_nil) True.intro (by decide +kernel)
noncomputable def dT43 : List ckI := [(-6, -6), (0, 1), (0, 1), (0, 8), (0, 40), (0, 6), (0, 8), (0, 10), (0, 130000), ckTop, ckTop, ckTop, ckTop, (0, 30), ckTop, ckTop, ckTop, (0, 1), ckTop, (0, 1), (7, 7)]
-- FarMachineModel.refuse
noncomputable def k23 : ckCtr := (44, ([(0, (1, 0)), (1, (0, 0))], [], dC41, dT43, [([(7, ckTop)], [], [])], [], [], [], 0, 0), [([], [(0, 0)], [(1, .inr (0, 20, 1))], [], [], [ckTop], [([(6, ckTop), (7, ckTop)], [(6, 21)], [])], [], [], [], 0, 0)], 1, 80, 0, 0)
noncomputable def k23_a : ckAs := []
noncomputable def k23_c : List (Nat × ckCtr) := []
theorem k23_ok (l : Launch) : ckCtrOk l ckMT ckTW ckCL k23 := mt_44 (as := k23_a) (cs := k23_c) (gx := []) (f := 200000) rfl (fun _ h => absurd h List.not_mem_nil) True.intro (by decide +kernel)
noncomputable def dT44 : List ckI := [(-4, -4), (0, 1), (0, 1), (0, 8), (0, 40), (0, 6), (0, 8), (0, 10), (0, 130000), ckTop, ckTop, ckTop, ckTop, (0, 30), ckTop, ckTop, ckTop, (0, 1), ckTop, (0, 1), (7, 7)]
-- FarMachineModel.refuse
noncomputable def k24 : ckCtr := (44, ([(0, (1, 0)), (1, (0, 0))], [], dC41, dT44, [([(7, ckTop)], [], [])], [], [], [], 0, 0), [([], [(0, 0)], [(1, .inr (0, 20, 1))], [], [], [ckTop], [([(4, ckTop), (5, ckTop), (7, ckTop)], [(4, 21)], [])], [], [], [], 0, 0)], 1, 80, 0, 0)
noncomputable def k24_a : ckAs := []
noncomputable def k24_c : List (Nat × ckCtr) := []
theorem k24_ok (l : Launch) : ckCtrOk l ckMT ckTW ckCL k24 := mt_44 (as := k24_a) (cs := k24_c) (gx := []) (f := 200000) rfl (fun _ h => absurd h List.not_mem_nil) True.intro (by decide +kernel)
noncomputable def dC45 : List ckC := [.inl (9, [(1, 1), (1, 2), (4, 10), (4, 11), (4, 12), (4, 13), (4, 14), (4, 15), (4, 16), (4, 17), (4, 18), (4, 19), (4, 20), (4, 21), (4, 22), (4, 23), (0, 2), (0, 3), (0, 4), (0, 5), (0, 6), (0, 7), (0, 8), (4, 24), (0, 9), (4, 25), (0, 10), (0, 11), (0, 12), (0, 13), (4, 26), (0, 14), (0, 15), (0, 16), (0, 17), (5, 0), (5, 0), (0, 18), (4, 27), (4, 28), (0, 19), (0, 20)]), .inr (0, 21, 0), .inr (0, 22, 1)]
noncomputable def dT46 : List ckI := [ckTop, ckTop, (0, 1), (0, 1), (0, 8), (0, 40), (0, 6), (0, 8), (0, 10), (0, 126000), ckTop, ckTop, ckTop, ckTop, (0, 30), ckTop, ckTop, ckTop, (0, 1), ckTop, (0, 1), (7, 7), (318, 318), (1, 99), (0, 126000), ckTop, ckTop, ckTop, ckTop, ckTop, ckTop, ckTop, ckTop]
noncomputable def dG47 : List ckG := [([(7, ckTop)], [], []), ([(48, ckTop), (49, (0, 47)), (50, ckTop), (51, ckTop), (52, ckTop), (54, ckTop), (55, ckTop), (56, ckTop), (57, ckTop), (58, ckTop), (59, ckTop), (60, ckTop), (61, ckTop), (62, ckTop), (63, ckTop), (64, ckTop), (65, ckTop), (66, ckTop), (67, ckTop), (68, ckTop), (76, ckTop), (77, (0, 30)), (197, ckTop), (198, (0, 60)), (318, ckTop)], [(55, 23), (58, 24), (60, 25), (61, 26), (62, 27), (63, 28), (64, 29), (65, 30), (66, 31), (67, 32)], [])]
noncomputable def dG48 : List ckG := [([(1, ckTop), (2, ckTop), (4, ckTop), (5, ckTop), (6, ckTop), (7, ckTop)], [], []), ([(48, ckTop), (49, (0, 47)), (50, ckTop), (51, ckTop), (52, ckTop), (54, ckTop), (55, ckTop), (56, ckTop), (57, ckTop), (58, ckTop), (59, ckTop), (60, ckTop), (61, ckTop), (62, ckTop), (63, ckTop), (64, ckTop), (65, ckTop), (66, ckTop), (67, ckTop), (68, ckTop), (76, ckTop), (77, (0, 30)), (197, ckTop), (198, (0, 60)), (318, ckTop)], [(55, 23), (58, 24), (60, 25), (61, 26), (62, 27), (63, 28), (64, 29), (65, 30), (66, 31), (67, 32)], [])]
-- FarMachineModel.word
noncomputable def k25 : ckCtr := (61, ([(0, (1, 0)), (1, (0, 0)), (2, (0, 1))], [], dC45, dT46, dG47, [], [], [(1, 1, 0, 0, [])], 0, 0), [([], [(0, 33)], [(1, .inr (0, 21, 2)), (2, .inr (0, 22, 3))], [], [], [ckTop], dG48, [], [], [(1, 1, 0, 0, []), (1, 3, 0, 0, [])], 0, 0)], 2, 102, 0, 0)
noncomputable def k25_a : ckAs := []
noncomputable def k25_c : List (Nat × ckCtr) := [(3, k20), (14, k21), (28, k22), (28, k23), (28, k24)]
theorem k25_ok (l : Launch) : ckCtrOk l ckMT ckTW ckCL k25 := mt_61 (as := k25_a) (cs := k25_c) (gx := []) (f := 200000) rfl (ckHc (k20_ok l) (ckHc (k21_ok l) (ckHc (k22_ok l) (ckHc (k23_ok l) (ckHc (k24_ok l) (fun _ h => absurd h List.not_mem_nil)))))) True.intro (by decide +kernel)
noncomputable def dC49 : List ckC := [.inl (8, [(1, 1), (4, 10), (0, 1), (4, 11), (4, 12), (4, 13), (4, 14), (1, 2)]), .inl (7, [(1, 3), (4, 15), (0, 2), (4, 16), (4, 17), (4, 18), (4, 19), (4, 20), (4, 21), (4, 22)]), .inr (0, 3, 0), .inl (2, [(1, 4), (4, 23), (4, 24), (0, 4), (0, 5), (0, 6), (0, 7), (0, 8), (0, 9), (0, 10), (0, 11), (0, 12), (0, 13), (0, 14), (0, 15), (0, 16)]), .inr (0, 17, 1)]
noncomputable def dT50 : List ckI := [ckTop, (0, 1), (0, 1), (7, 7), ckTop, ckTop, ckTop, ckTop, ckTop, ckTop, ckTop, ckTop, ckTop, ckTop, ckTop, ckTop, ckTop, (48, 48)]
-- FarMachine.wordOf
noncomputable def k26 : ckCtr := (2, ([(0, (1, 0)), (1, (0, 0))], [], dC49, dT50, [([(7, ckTop)], [], []), ([(48, ckTop)], [], [])], [], [], [], 0, 0), [([], [(0, 18)], [(2, .inr (0, 3, 2))], [], [], [ckTop], [([(1, ckTop), (2, ckTop), (7, ckTop)], [], [])], [], [], [], 0, 0)], 3, 121, 0, 0)
noncomputable def k26_a : ckAs := []
noncomputable def k26_c : List (Nat × ckCtr) := [(1, k13), (15, k17), (23, k14)]
theorem k26_ok (l : Launch) : ckCtrOk l ckMT ckTW ckCL k26 := mt_2 (as := k26_a) (cs := k26_c) (gx := []) (f := 200000) rfl (ckHc (k13_ok l) (ckHc (k17_ok l) (ckHc (k14_ok l) (fun _ h => absurd h List.not_mem_nil)))) True.intro (by decide +kernel)
noncomputable def dC51 : List ckC := [.inl (9, [(1, 1), (1, 2), (4, 10), (4, 11), (4, 12), (4, 13), (4, 14), (4, 15), (4, 16), (4, 17), (4, 18), (4, 19), (4, 20), (4, 21), (4, 22), (4, 23), (0, 1), (0, 2), (0, 3), (0, 4), (0, 5), (0, 6), (0, 7), (4, 24), (0, 8), (4, 25), (0, 9), (0, 10), (0, 11), (0, 12), (4, 26), (0, 13), (0, 14), (0, 15), (0, 16), (5, 0), (5, 0), (0, 17), (4, 27), (4, 28), (0, 18), (0, 19)]), .inr (0, 20, 0), .inr (0, 21, 1)]
noncomputable def dT52 : List ckI := [ckTop, (0, 1), (0, 1), (0, 8), (0, 40), (0, 6), (0, 8), (0, 10), (0, 126000), ckTop, ckTop, ckTop, ckTop, (0, 30), ckTop, ckTop, ckTop, (0, 1), ckTop, (0, 1), (7, 7), (318, 318), (1, 99), (0, 126000), ckTop, ckTop, ckTop, ckTop, ckTop, ckTop, ckTop, ckTop]
noncomputable def dG53 : List ckG := [([(7, ckTop)], [], []), ([(48, ckTop), (49, (0, 47)), (50, ckTop), (51, ckTop), (52, ckTop), (54, ckTop), (55, ckTop), (56, ckTop), (57, ckTop), (58, ckTop), (59, ckTop), (60, ckTop), (61, ckTop), (62, ckTop), (63, ckTop), (64, ckTop), (65, ckTop), (66, ckTop), (67, ckTop), (68, ckTop), (76, ckTop), (77, (0, 30)), (197, ckTop), (198, (0, 60)), (318, ckTop)], [(55, 22), (58, 23), (60, 24), (61, 25), (62, 26), (63, 27), (64, 28), (65, 29), (66, 30), (67, 31)], [])]
-- FarMachineModel.wordOf
noncomputable def k27 : ckCtr := (62, ([(0, (1, 0)), (1, (0, 0))], [], dC51, dT52, dG53, [], [], [(1, 1, 0, 0, [])], 0, 0), [([], [(0, 32)], [(1, .inr (0, 20, 2))], [], [], [ckTop], [([(1, ckTop), (2, ckTop), (7, ckTop)], [], [])], [], [], [(1, 1, 0, 0, [])], 0, 0)], 2, 101, 0, 0)
noncomputable def k27_a : ckAs := []
noncomputable def k27_c : List (Nat × ckCtr) := [(3, k20), (20, k22)]
theorem k27_ok (l : Launch) : ckCtrOk l ckMT ckTW ckCL k27 := mt_62 (as := k27_a) (cs := k27_c) (gx := []) (f := 200000) rfl (ckHc (k20_ok l) (ckHc (k22_ok l) (fun _ h => absurd h List.not_mem_nil))) True.intro (by decide +kernel)
noncomputable def dC54 : List ckC := [.inl (8, [(4, 10), (4, 11), (0, 3), (4, 12), (4, 13), (4, 14), (4, 15), (1, 1)]), .inr (0, 4, 0)]
-- FarMachine.box
noncomputable def k28 : ckCtr := (3, ([(0, (1, 0)), (1, (0, 0)), (2, (0, 1)), (3, (0, 2))], [], dC54, [(-2147483648, -1), ckTop, (1, 1), (0, 1), (7, 7)], [([(7, ckTop)], [], [])], [], [], [], 0, 0), [([], [(0, 5)], [(1, .inr (0, 4, 1))], [], [], [(-1, -1), ckTop], [([(1, ckTop), (2, ckTop), (7, ckTop)], [(1, 6)], [])], [], [], [], 0, 0)], 2, 101, 0, 0)
noncomputable def k28_a : ckAs := []
noncomputable def k28_c : List (Nat × ckCtr) := [(12, k14)]
theorem k28_ok (l : Launch) : ckCtrOk l ckMT ckTW ckCL k28 := mt_3 (as := k28_a) (cs := k28_c) (gx := []) (f := 200000) rfl (ckHc (k14_ok l) (fun _ h => absurd h List.not_mem_nil)) True.intro (by decide +kernel)
-- FarMachine.box
noncomputable def k29 : ckCtr := (3, ([(0, (1, 0)), (1, (0, 0)), (2, (0, 1)), (3, (0, 2))], [], dC54, [(-2147483648, -1), ckTop, (0, 0), (0, 1), (7, 7)], [([(7, ckTop)], [], [])], [], [], [], 0, 0), [([], [(0, 5)], [(1, .inr (0, 4, 1))], [], [], [(-1, -1), ckTop], [([(1, ckTop), (2, ckTop), (7, ckTop)], [(1, 6)], [])], [], [], [], 0, 0)], 2, 101, 0, 0)
noncomputable def k29_a : ckAs := []
noncomputable def k29_c : List (Nat × ckCtr) := [(12, k14)]
theorem k29_ok (l : Launch) : ckCtrOk l ckMT ckTW ckCL k29 := mt_3 (as := k29_a) (cs := k29_c) (gx := []) (f := 200000) rfl (ckHc (k14_ok l) (fun _ h => absurd h List.not_mem_nil)) True.intro (by decide +kernel)
-- FarMachineModel.isIn
noncomputable def k30 : ckCtr := (45, ([(0, (0, 0)), (1, (0, 1))], [], [], [ckTop, (8, 8)], [], [], [], [], 0, 0), [([], [(0, 2)], [], [], [(0, (0, 7))], [(1, 1)], [], [], [], [], 0, 0), ([], [(0, 2)], [], [], [(0, (8, 2147483647))], [(0, 0)], [], [], [], [], 0, 0), ([], [(0, 2)], [], [], [(0, (-2147483648, -1))], [(0, 0)], [], [], [], [], 0, 0)], 1, 80, 0, 0)
noncomputable def k30_a : ckAs := []
noncomputable def k30_c : List (Nat × ckCtr) := []
theorem k30_ok (l : Launch) : ckCtrOk l ckMT ckTW ckCL k30 := mt_45 (as := k30_a) (cs := k30_c) (gx := []) (f := 200000) rfl (fun _ h => absurd h List.not_mem_nil) True.intro (by decide +kernel)
noncomputable def dC55 : List ckC := [.inl (9, [(1, 1), (4, 10), (4, 11), (4, 12), (4, 13), (4, 14), (4, 15), (4, 16), (4, 17), (4, 18), (4, 19), (4, 20), (4, 21), (4, 22), (4, 23), (4, 24), (0, 3), (0, 4), (0, 5), (0, 6), (0, 7), (0, 8), (0, 9), (4, 25), (0, 10), (4, 26), (0, 11), (0, 12), (0, 13), (0, 14), (4, 27), (0, 15), (0, 16), (0, 17), (0, 18), (5, 0), (5, 0), (0, 19), (4, 28), (4, 29), (0, 20), (0, 21)]), .inr (0, 22, 0)]
noncomputable def dT56 : List ckI := [(-2147483648, -1), ckTop, (1, 1), (0, 1), (0, 1), (0, 8), (0, 40), (0, 6), (0, 8), (0, 10), (0, 126000), ckTop, ckTop, ckTop, ckTop, (0, 30), ckTop, ckTop, ckTop, (0, 1), ckTop, (0, 1), (7, 7)]
-- FarMachineModel.box
noncomputable def k31 : ckCtr := (63, ([(0, (1, 0)), (1, (0, 0)), (2, (0, 1)), (3, (0, 2))], [], dC55, dT56, [([(7, ckTop)], [], [])], [], [], [], 0, 0), [([], [(0, 23)], [(1, .inr (0, 22, 1))], [], [], [(-1, -1), ckTop], [([(1, ckTop), (2, ckTop), (7, ckTop)], [(1, 24)], [])], [], [], [], 0, 0)], 2, 101, 0, 0)
noncomputable def k31_a : ckAs := []
noncomputable def k31_c : List (Nat × ckCtr) := [(3, k30), (11, k22)]
theorem k31_ok (l : Launch) : ckCtrOk l ckMT ckTW ckCL k31 := mt_63 (as := k31_a) (cs := k31_c) (gx := []) (f := 200000) rfl (ckHc (k30_ok l) (ckHc (k22_ok l) (fun _ h => absurd h List.not_mem_nil))) True.intro (by decide +kernel)
noncomputable def dT57 : List ckI := [(-2147483648, -1), ckTop, (0, 0), (0, 1), (0, 1), (0, 8), (0, 40), (0, 6), (0, 8), (0, 10), (0, 126000), ckTop, ckTop, ckTop, ckTop, (0, 30), ckTop, ckTop, ckTop, (0, 1), ckTop, (0, 1), (7, 7)]
-- FarMachineModel.box
noncomputable def k32 : ckCtr := (63, ([(0, (1, 0)), (1, (0, 0)), (2, (0, 1)), (3, (0, 2))], [], dC55, dT57, [([(7, ckTop)], [], [])], [], [], [], 0, 0), [([], [(0, 23)], [(1, .inr (0, 22, 1))], [], [], [(-1, -1), ckTop], [([(1, ckTop), (2, ckTop), (7, ckTop)], [(1, 24)], [])], [], [], [], 0, 0)], 2, 101, 0, 0)
noncomputable def k32_a : ckAs := []
noncomputable def k32_c : List (Nat × ckCtr) := [(3, k30), (11, k22)]
theorem k32_ok (l : Launch) : ckCtrOk l ckMT ckTW ckCL k32 := mt_63 (as := k32_a) (cs := k32_c) (gx := []) (f := 200000) rfl (ckHc (k30_ok l) (ckHc (k22_ok l) (fun _ h => absurd h List.not_mem_nil))) True.intro (by decide +kernel)
-- FarMachine.refuse
noncomputable def k33 : ckCtr := (34, ([(0, (1, 0)), (1, (0, 0))], [], dC33, [(-2, -2), (0, 1), (7, 7)], [([(7, ckTop)], [], [])], [], [], [], 0, 0), [([], [(0, 0)], [(1, .inr (0, 2, 1))], [], [], [ckTop], [([(2, ckTop), (3, ckTop), (7, ckTop)], [(2, 3)], [])], [], [], [], 0, 0)], 1, 80, 0, 0)
noncomputable def k33_a : ckAs := []
noncomputable def k33_c : List (Nat × ckCtr) := []
theorem k33_ok (l : Launch) : ckCtrOk l ckMT ckTW ckCL k33 := mt_34 (as := k33_a) (cs := k33_c) (gx := []) (f := 200000) rfl (fun _ h => absurd h List.not_mem_nil) True.intro (by decide +kernel)
noncomputable def dC58 : List ckC := [.inl (2, [(4, 10), (4, 11), (4, 12), (0, 2), (0, 3), (0, 4), (0, 5), (0, 6), (0, 7), (0, 8), (0, 9), (0, 10), (0, 11), (0, 12), (0, 13), (0, 14)])]
noncomputable def dT59 : List ckI := [ckTop, (0, 1), ckTop, ckTop, ckTop, ckTop, ckTop, ckTop, ckTop, ckTop, ckTop, ckTop, ckTop, ckTop, ckTop]
noncomputable def dP60 : List (Nat × ckC) := [(0, .inl (2, [(4, 10), (4, 11), (4, 12), (0, 15), (0, 3), (0, 4), (0, 5), (0, 6), (0, 7), (0, 8), (0, 9), (0, 10), (0, 11), (0, 12), (0, 13), (0, 14)]))]
-- FarMachine$Machine.switchBox
noncomputable def k34 : ckCtr := (132, ([(0, (1, 0)), (1, (0, 0)), (2, (0, 1))], [], dC58, dT59, [], [], [], [], 0, 0), [([], [], dP60, [], [], [ckTop], [], [], [], [], 0, 0)], 1, 80, 0, 0)
noncomputable def k34_a : ckAs := []
noncomputable def k34_c : List (Nat × ckCtr) := []
theorem k34_ok (l : Launch) : ckCtrOk l ckMT ckTW ckCL k34 := mt_132 (as := k34_a) (cs := k34_c) (gx := []) (f := 200000) rfl (fun _ h => absurd h List.not_mem_nil) True.intro (by decide +kernel)
noncomputable def dC61 : List ckC := [.inl (8, [(1, 1), (4, 10), (0, 3), (4, 11), (4, 12), (4, 13), (4, 14), (1, 2)]), .inl (7, [(1, 3), (4, 15), (0, 4), (4, 16), (4, 17), (4, 18), (4, 19), (4, 20), (4, 21), (4, 22)]), .inr (0, 5, 0), .inl (2, [(4, 23), (1, 4), (4, 24), (0, 6), (0, 7), (0, 8), (0, 9), (0, 10), (0, 11), (0, 12), (0, 13), (0, 14), (0, 15), (0, 16), (0, 17), (0, 18)]), .inr (0, 19, 1)]
noncomputable def dT62 : List ckI := [(0, 0), ckTop, (1, 1), (0, 1), (0, 1), (7, 7), ckTop, ckTop, ckTop, ckTop, ckTop, ckTop, ckTop, ckTop, ckTop, ckTop, ckTop, ckTop, ckTop, (8, 8), ckTop, ckTop, ckTop, ckTop, ckTop, ckTop, ckTop, ckTop]
noncomputable def dG63 : List ckG := [([(7, ckTop)], [], []), ([(1, ckTop), (2, ckTop), (3, ckTop), (4, ckTop), (5, ckTop), (6, ckTop), (7, ckTop), (8, ckTop)], [(0, 20), (1, 21), (2, 22), (3, 23), (4, 24), (5, 25), (6, 26), (7, 27)], [])]
noncomputable def dP64 : List (Nat × ckC) := [(3, .inl (2, [(4, 23), (1, 4), (4, 24), (0, 28), (0, 7), (0, 8), (0, 9), (0, 10), (0, 11), (0, 12), (0, 13), (0, 14), (0, 15), (0, 16), (0, 17), (0, 18)])), (4, .inr (0, 19, 2))]
noncomputable def dG65 : List ckG := [([(1, (0, 7)), (2, ckTop), (3, ckTop), (4, ckTop), (5, ckTop), (6, ckTop), (7, ckTop), (8, ckTop)], [(0, 1), (1, 21), (2, 22), (3, 23), (4, 24), (5, 25), (6, 26), (7, 27)], [])]
-- FarMachine.box
noncomputable def k35 : ckCtr := (3, ([(0, (1, 0)), (1, (0, 0)), (2, (0, 1)), (3, (0, 2))], [], dC61, dT62, dG63, [], [], [], 0, 0), [([], [(0, 28)], [(2, .inr (0, 5, 2))], [], [(1, (8, 2147483647))], [(-2, -2), ckTop], [([(2, ckTop), (3, ckTop), (7, ckTop)], [(2, 29)], [])], [], [], [], 0, 0), ([], [(0, 20)], dP64, [], [(1, (0, 7))], [ckTop], dG65, [], [], [], 0, 0), ([], [(0, 28)], [(2, .inr (0, 5, 2))], [], [(1, (-2147483648, -1))], [(-2, -2), ckTop], [([(2, ckTop), (3, ckTop), (7, ckTop)], [(2, 29)], [])], [], [], [], 0, 0)], 2, 102, 0, 0)
noncomputable def k35_a : ckAs := []
noncomputable def k35_c : List (Nat × ckCtr) := [(29, k33), (69, k34)]
theorem k35_ok (l : Launch) : ckCtrOk l ckMT ckTW ckCL k35 := mt_3 (as := k35_a) (cs := k35_c) (gx := []) (f := 200000) rfl (ckHc (k33_ok l) (ckHc (k34_ok l) (fun _ h => absurd h List.not_mem_nil))) True.intro (by decide +kernel)
noncomputable def dC66 : List ckC := [.inl (8, [(1, 1), (4, 10), (0, 2), (4, 11), (4, 12), (4, 13), (4, 14), (1, 2)]), .inl (7, [(1, 3), (4, 15), (0, 3), (4, 16), (4, 17), (4, 18), (4, 19), (4, 20), (4, 21), (4, 22)]), .inr (0, 4, 0), .inl (2, [(4, 23), (1, 4), (4, 24), (0, 5), (0, 6), (0, 7), (0, 8), (0, 9), (0, 10), (0, 11), (0, 12), (0, 13), (0, 14), (0, 15), (0, 16), (0, 17)]), .inr (0, 18, 1)]
noncomputable def dT67 : List ckI := [(0, 0), ckTop, (0, 1), (0, 1), (7, 7), ckTop, ckTop, ckTop, ckTop, ckTop, ckTop, ckTop, ckTop, ckTop, ckTop, ckTop, ckTop, ckTop, (8, 8), ckTop, ckTop, ckTop, ckTop, ckTop, ckTop, ckTop, ckTop]
noncomputable def dG68 : List ckG := [([(7, ckTop)], [], []), ([(1, ckTop), (2, ckTop), (3, ckTop), (4, ckTop), (5, ckTop), (6, ckTop), (7, ckTop), (8, ckTop)], [(0, 19), (1, 20), (2, 21), (3, 22), (4, 23), (5, 24), (6, 25), (7, 26)], [])]
noncomputable def dP69 : List (Nat × ckC) := [(3, .inl (2, [(4, 23), (1, 4), (4, 24), (0, 27), (0, 6), (0, 7), (0, 8), (0, 9), (0, 10), (0, 11), (0, 12), (0, 13), (0, 14), (0, 15), (0, 16), (0, 17)])), (4, .inr (0, 18, 2))]
noncomputable def dG70 : List ckG := [([(1, (0, 7)), (2, ckTop), (3, ckTop), (4, ckTop), (5, ckTop), (6, ckTop), (7, ckTop), (8, ckTop)], [(0, 1), (1, 20), (2, 21), (3, 22), (4, 23), (5, 24), (6, 25), (7, 26)], [])]
-- FarMachine.box
noncomputable def k36 : ckCtr := (3, ([(0, (1, 0)), (1, (0, 0)), (2, (0, 1)), (3, (0, 0))], [], dC66, dT67, dG68, [], [], [], 0, 0), [([], [(0, 27)], [(2, .inr (0, 4, 2))], [], [(1, (8, 2147483647))], [(-2, -2), ckTop], [([(2, ckTop), (3, ckTop), (7, ckTop)], [(2, 28)], [])], [], [], [], 0, 0), ([], [(0, 19)], dP69, [], [(1, (0, 7))], [ckTop], dG70, [], [], [], 0, 0), ([], [(0, 27)], [(2, .inr (0, 4, 2))], [], [(1, (-2147483648, -1))], [(-2, -2), ckTop], [([(2, ckTop), (3, ckTop), (7, ckTop)], [(2, 28)], [])], [], [], [], 0, 0)], 2, 102, 0, 0)
noncomputable def k36_a : ckAs := []
noncomputable def k36_c : List (Nat × ckCtr) := [(29, k33), (69, k34)]
theorem k36_ok (l : Launch) : ckCtrOk l ckMT ckTW ckCL k36 := mt_3 (as := k36_a) (cs := k36_c) (gx := []) (f := 200000) rfl (ckHc (k33_ok l) (ckHc (k34_ok l) (fun _ h => absurd h List.not_mem_nil))) True.intro (by decide +kernel)
noncomputable def dT71 : List ckI := [(-2, -2), (0, 1), (0, 1), (0, 8), (0, 40), (0, 6), (0, 8), (0, 10), (0, 130000), ckTop, ckTop, ckTop, ckTop, (0, 30), ckTop, ckTop, ckTop, (0, 1), ckTop, (0, 1), (7, 7)]
-- FarMachineModel.refuse
noncomputable def k37 : ckCtr := (44, ([(0, (1, 0)), (1, (0, 0))], [], dC41, dT71, [([(7, ckTop)], [], [])], [], [], [], 0, 0), [([], [(0, 0)], [(1, .inr (0, 20, 1))], [], [], [ckTop], [([(2, ckTop), (3, ckTop), (7, ckTop)], [(2, 21)], [])], [], [], [], 0, 0)], 1, 80, 0, 0)
noncomputable def k37_a : ckAs := []
noncomputable def k37_c : List (Nat × ckCtr) := []
theorem k37_ok (l : Launch) : ckCtrOk l ckMT ckTW ckCL k37 := mt_44 (as := k37_a) (cs := k37_c) (gx := []) (f := 200000) rfl (fun _ h => absurd h List.not_mem_nil) True.intro (by decide +kernel)
noncomputable def dT72 : List ckI := [(0, 0), (8, 2147483647), (1, 1), (0, 1), (0, 1), (0, 8), (0, 40), (0, 6), (0, 8), (0, 10), (0, 126000), ckTop, ckTop, ckTop, ckTop, (0, 30), ckTop, ckTop, ckTop, (0, 1), ckTop, (0, 1), (7, 7)]
-- FarMachineModel.box
noncomputable def k38 : ckCtr := (63, ([(0, (1, 0)), (1, (0, 0)), (2, (0, 1)), (3, (0, 2))], [], dC55, dT72, [([(7, ckTop)], [], [])], [], [], [], 0, 0), [([], [(0, 23)], [(1, .inr (0, 22, 1))], [], [], [(-2, -2), ckTop], [([(2, ckTop), (3, ckTop), (7, ckTop)], [(2, 24)], [])], [], [], [], 0, 0)], 2, 101, 0, 0)
noncomputable def k38_a : ckAs := []
noncomputable def k38_c : List (Nat × ckCtr) := [(3, k30), (18, k30), (27, k37)]
theorem k38_ok (l : Launch) : ckCtrOk l ckMT ckTW ckCL k38 := mt_63 (as := k38_a) (cs := k38_c) (gx := []) (f := 200000) rfl (ckHc (k30_ok l) (ckHc (k30_ok l) (ckHc (k37_ok l) (fun _ h => absurd h List.not_mem_nil)))) True.intro (by decide +kernel)
noncomputable def dC73 : List ckC := [.inl (9, [(1, 1), (4, 10), (4, 11), (4, 12), (4, 13), (4, 14), (4, 15), (4, 16), (4, 17), (4, 18), (4, 19), (4, 20), (4, 21), (4, 22), (4, 23), (4, 24), (0, 2), (0, 3), (0, 4), (0, 5), (0, 6), (0, 7), (0, 8), (4, 25), (0, 9), (4, 26), (0, 10), (0, 11), (0, 12), (0, 13), (4, 27), (0, 14), (0, 15), (0, 16), (0, 17), (5, 0), (5, 0), (0, 18), (4, 28), (4, 29), (0, 19), (0, 20)]), .inr (0, 21, 0)]
noncomputable def dT74 : List ckI := [(0, 0), (8, 2147483647), (0, 1), (0, 1), (0, 8), (0, 40), (0, 6), (0, 8), (0, 10), (0, 126000), ckTop, ckTop, ckTop, ckTop, (0, 30), ckTop, ckTop, ckTop, (0, 1), ckTop, (0, 1), (7, 7)]
-- FarMachineModel.box
noncomputable def k39 : ckCtr := (63, ([(0, (1, 0)), (1, (0, 0)), (2, (0, 1)), (3, (0, 0))], [], dC73, dT74, [([(7, ckTop)], [], [])], [], [], [], 0, 0), [([], [(0, 22)], [(1, .inr (0, 21, 1))], [], [], [(-2, -2), ckTop], [([(2, ckTop), (3, ckTop), (7, ckTop)], [(2, 23)], [])], [], [], [], 0, 0)], 2, 101, 0, 0)
noncomputable def k39_a : ckAs := []
noncomputable def k39_c : List (Nat × ckCtr) := [(3, k30), (18, k30), (27, k37)]
theorem k39_ok (l : Launch) : ckCtrOk l ckMT ckTW ckCL k39 := mt_63 (as := k39_a) (cs := k39_c) (gx := []) (f := 200000) rfl (ckHc (k30_ok l) (ckHc (k30_ok l) (ckHc (k37_ok l) (fun _ h => absurd h List.not_mem_nil)))) True.intro (by decide +kernel)
noncomputable def dT75 : List ckI := [(0, 0), (-2147483648, -1), (1, 1), (0, 1), (0, 1), (0, 8), (0, 40), (0, 6), (0, 8), (0, 10), (0, 126000), ckTop, ckTop, ckTop, ckTop, (0, 30), ckTop, ckTop, ckTop, (0, 1), ckTop, (0, 1), (7, 7)]
-- FarMachineModel.box
noncomputable def k40 : ckCtr := (63, ([(0, (1, 0)), (1, (0, 0)), (2, (0, 1)), (3, (0, 2))], [], dC55, dT75, [([(7, ckTop)], [], [])], [], [], [], 0, 0), [([], [(0, 23)], [(1, .inr (0, 22, 1))], [], [], [(-2, -2), ckTop], [([(2, ckTop), (3, ckTop), (7, ckTop)], [(2, 24)], [])], [], [], [], 0, 0)], 2, 101, 0, 0)
noncomputable def k40_a : ckAs := []
noncomputable def k40_c : List (Nat × ckCtr) := [(3, k30), (18, k30), (27, k37)]
theorem k40_ok (l : Launch) : ckCtrOk l ckMT ckTW ckCL k40 := mt_63 (as := k40_a) (cs := k40_c) (gx := []) (f := 200000) rfl (ckHc (k30_ok l) (ckHc (k30_ok l) (ckHc (k37_ok l) (fun _ h => absurd h List.not_mem_nil)))) True.intro (by decide +kernel)
noncomputable def dT76 : List ckI := [(0, 0), (-2147483648, -1), (0, 1), (0, 1), (0, 8), (0, 40), (0, 6), (0, 8), (0, 10), (0, 126000), ckTop, ckTop, ckTop, ckTop, (0, 30), ckTop, ckTop, ckTop, (0, 1), ckTop, (0, 1), (7, 7)]
-- FarMachineModel.box
noncomputable def k41 : ckCtr := (63, ([(0, (1, 0)), (1, (0, 0)), (2, (0, 1)), (3, (0, 0))], [], dC73, dT76, [([(7, ckTop)], [], [])], [], [], [], 0, 0), [([], [(0, 22)], [(1, .inr (0, 21, 1))], [], [], [(-2, -2), ckTop], [([(2, ckTop), (3, ckTop), (7, ckTop)], [(2, 23)], [])], [], [], [], 0, 0)], 2, 101, 0, 0)
noncomputable def k41_a : ckAs := []
noncomputable def k41_c : List (Nat × ckCtr) := [(3, k30), (18, k30), (27, k37)]
theorem k41_ok (l : Launch) : ckCtrOk l ckMT ckTW ckCL k41 := mt_63 (as := k41_a) (cs := k41_c) (gx := []) (f := 200000) rfl (ckHc (k30_ok l) (ckHc (k30_ok l) (ckHc (k37_ok l) (fun _ h => absurd h List.not_mem_nil)))) True.intro (by decide +kernel)
noncomputable def dC77 : List ckC := [.inl (9, [(4, 10), (1, 1), (4, 11), (4, 12), (4, 13), (4, 14), (4, 15), (4, 16), (4, 17), (4, 18), (4, 19), (4, 20), (4, 21), (4, 22), (4, 23), (4, 24), (0, 3), (0, 4), (0, 5), (0, 6), (0, 7), (0, 8), (0, 9), (4, 25), (0, 10), (4, 26), (0, 11), (0, 12), (0, 13), (0, 14), (4, 27), (0, 15), (0, 16), (0, 17), (0, 18), (5, 0), (5, 0), (0, 19), (4, 28), (4, 29), (0, 20), (0, 21)]), .inr (0, 22, 0)]
noncomputable def dT78 : List ckI := [(0, 0), (0, 7), (1, 1), (0, 1), (0, 1), (0, 8), (0, 40), (0, 6), (0, 8), (0, 10), (0, 126000), ckTop, ckTop, ckTop, ckTop, (0, 30), ckTop, ckTop, ckTop, (0, 1), ckTop, (0, 1), (318, 318), (1, 99), (0, 126000), ckTop, ckTop, ckTop, ckTop, ckTop, ckTop, ckTop, ckTop]
noncomputable def dG79 : List ckG := [([(48, ckTop), (49, (0, 47)), (50, ckTop), (51, ckTop), (52, ckTop), (54, ckTop), (55, ckTop), (56, ckTop), (57, ckTop), (58, ckTop), (59, ckTop), (60, ckTop), (61, ckTop), (62, ckTop), (63, ckTop), (64, ckTop), (65, ckTop), (66, ckTop), (67, ckTop), (68, ckTop), (76, ckTop), (77, (0, 30)), (197, ckTop), (198, (0, 60)), (318, ckTop)], [(55, 23), (58, 24), (60, 25), (61, 26), (62, 27), (63, 28), (64, 29), (65, 30), (66, 31), (67, 32)], [])]
noncomputable def dG80 : List ckG := [([(48, ckTop), (49, (0, 47)), (50, ckTop), (51, ckTop), (52, ckTop), (54, ckTop), (55, ckTop), (56, ckTop), (57, ckTop), (58, ckTop), (59, ckTop), (60, ckTop), (61, (0, 7)), (62, ckTop), (63, ckTop), (64, ckTop), (65, ckTop), (66, ckTop), (67, ckTop), (68, ckTop), (69, (1, 1)), (76, ckTop), (77, (0, 30)), (197, ckTop), (198, (0, 60)), (318, ckTop)], [(55, 23), (58, 24), (60, 1), (61, 26), (62, 27), (63, 28), (64, 29), (65, 30), (66, 31), (67, 32), (68, 2)], [])]
-- FarMachineModel.box
noncomputable def k42 : ckCtr := (63, ([(0, (1, 0)), (1, (0, 0)), (2, (0, 1)), (3, (0, 2))], [], dC77, dT78, dG79, [], [], [(1, 0, 0, 0, [])], 0, 0), [([], [(0, 25)], [(1, .inr (0, 22, 1))], [], [], [], dG80, [], [], [(1, 1, 0, 0, []), (1, 0, 0, 0, [])], 0, 0)], 2, 101, 0, 0)
noncomputable def k42_a : ckAs := []
noncomputable def k42_c : List (Nat × ckCtr) := [(3, k30), (18, k30)]
theorem k42_ok (l : Launch) : ckCtrOk l ckMT ckTW ckCL k42 := mt_63 (as := k42_a) (cs := k42_c) (gx := []) (f := 200000) rfl (ckHc (k30_ok l) (ckHc (k30_ok l) (fun _ h => absurd h List.not_mem_nil))) True.intro (by decide +kernel)
noncomputable def dC81 : List ckC := [.inl (9, [(4, 10), (1, 1), (4, 11), (4, 12), (4, 13), (4, 14), (4, 15), (4, 16), (4, 17), (4, 18), (4, 19), (4, 20), (4, 21), (4, 22), (4, 23), (4, 24), (0, 2), (0, 3), (0, 4), (0, 5), (0, 6), (0, 7), (0, 8), (4, 25), (0, 9), (4, 26), (0, 10), (0, 11), (0, 12), (0, 13), (4, 27), (0, 14), (0, 15), (0, 16), (0, 17), (5, 0), (5, 0), (0, 18), (4, 28), (4, 29), (0, 19), (0, 20)]), .inr (0, 21, 0)]
noncomputable def dT82 : List ckI := [(0, 0), (0, 7), (0, 1), (0, 1), (0, 8), (0, 40), (0, 6), (0, 8), (0, 10), (0, 126000), ckTop, ckTop, ckTop, ckTop, (0, 30), ckTop, ckTop, ckTop, (0, 1), ckTop, (0, 1), (318, 318), (1, 99), (0, 126000), ckTop, ckTop, ckTop, ckTop, ckTop, ckTop, ckTop, ckTop]
noncomputable def dG83 : List ckG := [([(48, ckTop), (49, (0, 47)), (50, ckTop), (51, ckTop), (52, ckTop), (54, ckTop), (55, ckTop), (56, ckTop), (57, ckTop), (58, ckTop), (59, ckTop), (60, ckTop), (61, ckTop), (62, ckTop), (63, ckTop), (64, ckTop), (65, ckTop), (66, ckTop), (67, ckTop), (68, ckTop), (76, ckTop), (77, (0, 30)), (197, ckTop), (198, (0, 60)), (318, ckTop)], [(55, 22), (58, 23), (60, 24), (61, 25), (62, 26), (63, 27), (64, 28), (65, 29), (66, 30), (67, 31)], [])]
noncomputable def dG84 : List ckG := [([(48, ckTop), (49, (0, 47)), (50, ckTop), (51, ckTop), (52, ckTop), (54, ckTop), (55, ckTop), (56, ckTop), (57, ckTop), (58, ckTop), (59, ckTop), (60, ckTop), (61, (0, 7)), (62, ckTop), (63, ckTop), (64, ckTop), (65, ckTop), (66, ckTop), (67, ckTop), (68, ckTop), (69, (0, 0)), (76, ckTop), (77, (0, 30)), (197, ckTop), (198, (0, 60)), (318, ckTop)], [(55, 22), (58, 23), (60, 1), (61, 25), (62, 26), (63, 27), (64, 28), (65, 29), (66, 30), (67, 31), (68, 0)], [])]
-- FarMachineModel.box
noncomputable def k43 : ckCtr := (63, ([(0, (1, 0)), (1, (0, 0)), (2, (0, 1)), (3, (0, 0))], [], dC81, dT82, dG83, [], [], [(1, 0, 0, 0, [])], 0, 0), [([], [(0, 24)], [(1, .inr (0, 21, 1))], [], [], [], dG84, [], [], [(1, 1, 0, 0, []), (1, 0, 0, 0, [])], 0, 0)], 2, 101, 0, 0)
noncomputable def k43_a : ckAs := []
noncomputable def k43_c : List (Nat × ckCtr) := [(3, k30), (18, k30)]
theorem k43_ok (l : Launch) : ckCtrOk l ckMT ckTW ckCL k43 := mt_63 (as := k43_a) (cs := k43_c) (gx := []) (f := 200000) rfl (ckHc (k30_ok l) (ckHc (k30_ok l) (fun _ h => absurd h List.not_mem_nil))) True.intro (by decide +kernel)
noncomputable def dT85 : List ckI := [(1, 1), ckTop, (0, 1), (0, 1), (7, 7), ckTop, ckTop, ckTop, ckTop, ckTop, ckTop, ckTop, ckTop, ckTop, ckTop, ckTop, ckTop, ckTop, (8, 8), ckTop, ckTop, ckTop, ckTop, ckTop, ckTop, ckTop, ckTop]
noncomputable def dG86 : List ckG := [([(1, ckTop), (2, (0, 7)), (3, ckTop), (4, ckTop), (5, ckTop), (6, ckTop), (7, ckTop), (8, ckTop)], [(0, 19), (1, 1), (2, 21), (3, 22), (4, 23), (5, 24), (6, 25), (7, 26)], [])]
-- FarMachine.box
noncomputable def k44 : ckCtr := (3, ([(0, (1, 0)), (1, (0, 0)), (2, (0, 1)), (3, (0, 0))], [], dC66, dT85, dG68, [], [], [], 0, 0), [([], [(0, 27)], [(2, .inr (0, 4, 2))], [], [(1, (8, 2147483647))], [(-2, -2), ckTop], [([(2, ckTop), (3, ckTop), (7, ckTop)], [(2, 28)], [])], [], [], [], 0, 0), ([], [(0, 20)], dP69, [], [(1, (0, 7))], [ckTop], dG86, [], [], [], 0, 0), ([], [(0, 27)], [(2, .inr (0, 4, 2))], [], [(1, (-2147483648, -1))], [(-2, -2), ckTop], [([(2, ckTop), (3, ckTop), (7, ckTop)], [(2, 28)], [])], [], [], [], 0, 0)], 2, 102, 0, 0)
noncomputable def k44_a : ckAs := []
noncomputable def k44_c : List (Nat × ckCtr) := [(29, k33), (69, k34)]
theorem k44_ok (l : Launch) : ckCtrOk l ckMT ckTW ckCL k44 := mt_3 (as := k44_a) (cs := k44_c) (gx := []) (f := 200000) rfl (ckHc (k33_ok l) (ckHc (k34_ok l) (fun _ h => absurd h List.not_mem_nil))) True.intro (by decide +kernel)
noncomputable def dT87 : List ckI := [(1, 1), ckTop, (0, 0), (0, 1), (0, 1), (7, 7), ckTop, ckTop, ckTop, ckTop, ckTop, ckTop, ckTop, ckTop, ckTop, ckTop, ckTop, ckTop, ckTop, (8, 8), ckTop, ckTop, ckTop, ckTop, ckTop, ckTop, ckTop, ckTop]
noncomputable def dG88 : List ckG := [([(1, ckTop), (2, (0, 7)), (3, ckTop), (4, ckTop), (5, ckTop), (6, ckTop), (7, ckTop), (8, ckTop)], [(0, 20), (1, 1), (2, 22), (3, 23), (4, 24), (5, 25), (6, 26), (7, 27)], [])]
-- FarMachine.box
noncomputable def k45 : ckCtr := (3, ([(0, (1, 0)), (1, (0, 0)), (2, (0, 1)), (3, (0, 2))], [], dC61, dT87, dG63, [], [], [], 0, 0), [([], [(0, 28)], [(2, .inr (0, 5, 2))], [], [(1, (8, 2147483647))], [(-2, -2), ckTop], [([(2, ckTop), (3, ckTop), (7, ckTop)], [(2, 29)], [])], [], [], [], 0, 0), ([], [(0, 21)], dP64, [], [(1, (0, 7))], [ckTop], dG88, [], [], [], 0, 0), ([], [(0, 28)], [(2, .inr (0, 5, 2))], [], [(1, (-2147483648, -1))], [(-2, -2), ckTop], [([(2, ckTop), (3, ckTop), (7, ckTop)], [(2, 29)], [])], [], [], [], 0, 0)], 2, 102, 0, 0)
noncomputable def k45_a : ckAs := []
noncomputable def k45_c : List (Nat × ckCtr) := [(29, k33), (69, k34)]
theorem k45_ok (l : Launch) : ckCtrOk l ckMT ckTW ckCL k45 := mt_3 (as := k45_a) (cs := k45_c) (gx := []) (f := 200000) rfl (ckHc (k33_ok l) (ckHc (k34_ok l) (fun _ h => absurd h List.not_mem_nil))) True.intro (by decide +kernel)
noncomputable def dT89 : List ckI := [(1, 1), (8, 2147483647), (0, 1), (0, 1), (0, 8), (0, 40), (0, 6), (0, 8), (0, 10), (0, 126000), ckTop, ckTop, ckTop, ckTop, (0, 30), ckTop, ckTop, ckTop, (0, 1), ckTop, (0, 1), (7, 7)]
-- FarMachineModel.box
noncomputable def k46 : ckCtr := (63, ([(0, (1, 0)), (1, (0, 0)), (2, (0, 1)), (3, (0, 0))], [], dC73, dT89, [([(7, ckTop)], [], [])], [], [], [], 0, 0), [([], [(0, 22)], [(1, .inr (0, 21, 1))], [], [], [(-2, -2), ckTop], [([(2, ckTop), (3, ckTop), (7, ckTop)], [(2, 23)], [])], [], [], [], 0, 0)], 2, 101, 0, 0)
noncomputable def k46_a : ckAs := []
noncomputable def k46_c : List (Nat × ckCtr) := [(3, k30), (18, k30), (27, k37)]
theorem k46_ok (l : Launch) : ckCtrOk l ckMT ckTW ckCL k46 := mt_63 (as := k46_a) (cs := k46_c) (gx := []) (f := 200000) rfl (ckHc (k30_ok l) (ckHc (k30_ok l) (ckHc (k37_ok l) (fun _ h => absurd h List.not_mem_nil)))) True.intro (by decide +kernel)
noncomputable def dT90 : List ckI := [(1, 1), (8, 2147483647), (0, 0), (0, 1), (0, 1), (0, 8), (0, 40), (0, 6), (0, 8), (0, 10), (0, 126000), ckTop, ckTop, ckTop, ckTop, (0, 30), ckTop, ckTop, ckTop, (0, 1), ckTop, (0, 1), (7, 7)]
-- FarMachineModel.box
noncomputable def k47 : ckCtr := (63, ([(0, (1, 0)), (1, (0, 0)), (2, (0, 1)), (3, (0, 2))], [], dC55, dT90, [([(7, ckTop)], [], [])], [], [], [], 0, 0), [([], [(0, 23)], [(1, .inr (0, 22, 1))], [], [], [(-2, -2), ckTop], [([(2, ckTop), (3, ckTop), (7, ckTop)], [(2, 24)], [])], [], [], [], 0, 0)], 2, 101, 0, 0)
noncomputable def k47_a : ckAs := []
noncomputable def k47_c : List (Nat × ckCtr) := [(3, k30), (18, k30), (27, k37)]
theorem k47_ok (l : Launch) : ckCtrOk l ckMT ckTW ckCL k47 := mt_63 (as := k47_a) (cs := k47_c) (gx := []) (f := 200000) rfl (ckHc (k30_ok l) (ckHc (k30_ok l) (ckHc (k37_ok l) (fun _ h => absurd h List.not_mem_nil)))) True.intro (by decide +kernel)

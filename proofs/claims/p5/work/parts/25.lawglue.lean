/-! THE CLAIM OUT OF ONE WALK OF THE LAW'S BODY. Your part is whole_start (and what it stands on); all else here is the same for every law, but numbers. -/
def R_law : String := "FarMachineLaw"
def lw_P (b : Addr) (xs : List Int32) (args : Array Value) (s : State) : Prop := args = #[.ref b] ∧ s.IntsAt b xs ∧ xs.length ≤ 256 ∧ (Jvm.Cond.and given_1 narrow_1).before args s = true
def lw_Q (_ : Array Value) (s : State) (o : Outcome) (t : State) : Prop := o = .returned (some (.int 1)) ∧ Framed s o t [] 600000 7302250
def lw_Z (below : List Frame) (a : Array Value) (s : State) : State → Prop := fun t => ∃ o, t.status = .running ∧ Ended t below o ∧ lw_Q a s o t
/-- the law's own end, with 1 on the stack, nothing written that was there before, its room as the claim has it -/
theorem lw_ret {p : Program} {l : Launch} {e : Env} {s : State} {m : MethodId} {below : List Frame} {meth : Method} {c : Code} {b : Nat} (hx : p.tables.exec = Jvm.exec) (hb : c.code = code) (hr : meth.sig.returnType = ret) (hlocks : meth.locks = false) {pc : Nat} {H : Heap} {ls : Array Slot} (hdg : decode code pc = .ok (.ireturn, 1)) : W p l e room_1 s m #[Value.ref b] below meth c H [] 600000 7302250 (lw_Z below #[Value.ref b] s) (F0 m pc ls [.int 1]) := by
  intro T hT X
  obtain ⟨fs, hret, hrun, hended, hW, hframe⟩ := X.leave (v := some (.int 1)) (hlocks := hlocks) (fun h => by rw [hr] at h; cases h)
  have hmeth' : T.vm.method? m = some meth := X.method'
  refine ⟨T.setFrames fs, ?_, .returned (some (.int 1)), hrun, hended, rfl, ⟨_, rfl⟩, hW, hframe⟩
  jvm_step X.here [X.here.top, hx, hb, hdg, hmeth', hr, ret, narrow_b1]
  (try refine ⟨rfl, ?_⟩); (try refine ⟨rfl, ?_⟩)
  first | (intro acts; rw [hret _ acts rfl rfl rfl]) | rw [hret _ _ rfl rfl rfl]
  exact Steps.refl _
/-- what holds at the law's entry: the machine, the code, the tables' words (any of lw_tbl by 'hts w (by decide +kernel)'), the script of L ints xs at the cell b, what the Statement gives of the start (any of its parts by flat_of_before) -/
def lw_At (p : Program) (s : State) (m : MethodId) (meth : Method) (c : Code) (b L : Nat) (xs : Nat → Int32) : Prop :=
  p.tables.exec = Jvm.exec ∧ c.code = code ∧ meth.sig.returnType = ret ∧ c.maxLocals = 4 ∧ s.vm.findClass R_law = some m.cls ∧ (∀ w ∈ lw_tbl, w.before #[Value.ref b] s = true) ∧ va_X b L xs s s.heap ∧ b < s.heap.size ∧ meth.locks = false ∧ (Jvm.Cond.and given_1 narrow_1).before #[Value.ref b] s = true

/-! THE START'S PICTURE -/
theorem ck_eqi {args : Array Value} {s : State} {t : Term} {z : Int32} (h : (Jvm.Cond.eq t (.int z)).before args s = true) : t.eval args s none [] s = some (.int z) := by
  cases hv : t.eval args s none [] s with
  | none => simp [Cond.before, Cond.holds, Cond.value, hv] at h
  | some w =>
    have hz : (Term.int z).eval args s none [] s = some (.int z) := rfl
    simp only [Cond.before, Cond.holds, Cond.value, hv, hz] at h
    cases w <;> simp_all
theorem ckX_of {args : Array Value} {s : State} {tm : Term} {N : Nat} {f : Nat → Int32} (hN : N < 2 ^ 31) (harr : (Jvm.Cond.arrayOf tm .int).before args s = true) (hlen : (Jvm.Cond.eq (.length tm) (.int (Int32.ofNat N))).before args s = true)
    (hel : ∀ j : Nat, j < N → (Jvm.Cond.eq (.elem tm (.int (Int32.ofNat j))) (.int (f j))).before args s = true) : ∃ t : Nat, tm.eval args s none [] s = some (.ref t) ∧ t < s.heap.size ∧ va_X t N f s s.heap := by
  have hl := ck_eqi hlen
  obtain ⟨t, ht, cell, h1, h2, h3, h4, h5, h6, -⟩ := va_Tof (A := fun q => s.heap.size ≤ q) (f := fun j => .int (f j)) hN harr hl (fun j hj => ck_eqi (hel j hj)) (fun a ha => Nat.not_le.mpr ha)
  obtain ⟨a, cell', ht', hat, -⟩ := Term.length_spec hl
  cases ht.symm.trans ht'
  obtain ⟨hc, -, -, -⟩ := State.arrayAt?_spec hat
  cases h1.symm.trans hc
  have hsz : cell.slots.size < 2 ^ 31 := by
    simp only [Term.eval, ht, hat, Option.bind_eq_bind, Option.bind_some] at hl
    by_cases hlt : cell.slots.size < 2147483648
    · exact hlt
    · simp [hlt] at hl
  have he : cell.slots.size = N := by
    have e1 : (Int32.ofNat cell.slots.size).toInt = (Int32.ofNat N).toInt := congrArg Int32.toInt h5
    rw [Int32.toInt_ofNat_small hsz, Int32.toInt_ofNat_small hN] at e1
    omega
  exact ⟨t, ht, (Array.getElem?_eq_some_iff.mp h1).1, cell, h1, h2, h3, he, h6⟩
theorem ckArrK {args : Array Value} {s : State} {ty : FieldType} (hp : ∀ C, ty ≠ .object C) (h : (Jvm.Cond.arrayClass ty).before args s = true) : ∃ cA : ClassId, ArrOfT s cA ty ∧ va_RA s cA ty := by
  obtain ⟨cA, kA, comp, h1, h2, h3⟩ := Cond.arrayClass_spec h
  refine ⟨cA, fun N z => ⟨(fun k h => by cases h), kA, h2, comp, h3⟩, ?_⟩
  unfold va_RA
  split
  · exact absurd rfl (hp _)
  · exact h1
noncomputable def ckSXs (xs : Nat → Int32) (k j : Nat) : Int32 := match k with
  | 4 => xs j
  | _ => Int32.ofInt ((ckStat k).getD j 0)
noncomputable def ckSLs (L k : Nat) : Nat := match k with
  | 4 => L
  | _ => (ckStat k).length
theorem ckStO_ok (xs : Nat → Int32) (L : Nat) : ckStO (ckSLs L) (ckSXs xs) 5 := by
  refine ⟨by omega, fun k hk => ?_⟩
  rcases (show k = 0 ∨ k = 1 ∨ k = 2 ∨ k = 3 by omega) with rfl | rfl | rfl | rfl
  · refine ⟨rfl, fun j v h => ?_⟩
    have hj : j < 8 := (List.getElem?_eq_some_iff.mp h).1
    rcases (show j = 0 ∨ j = 1 ∨ j = 2 ∨ j = 3 ∨ j = 4 ∨ j = 5 ∨ j = 6 ∨ j = 7 by omega) with rfl | rfl | rfl | rfl | rfl | rfl | rfl | rfl <;> (cases h; rfl)
  · refine ⟨rfl, fun j v h => ?_⟩
    have hj : j < 8 := (List.getElem?_eq_some_iff.mp h).1
    rcases (show j = 0 ∨ j = 1 ∨ j = 2 ∨ j = 3 ∨ j = 4 ∨ j = 5 ∨ j = 6 ∨ j = 7 by omega) with rfl | rfl | rfl | rfl | rfl | rfl | rfl | rfl <;> (cases h; rfl)
  · refine ⟨rfl, fun j v h => ?_⟩
    have hj : j < 10 := (List.getElem?_eq_some_iff.mp h).1
    rcases (show j = 0 ∨ j = 1 ∨ j = 2 ∨ j = 3 ∨ j = 4 ∨ j = 5 ∨ j = 6 ∨ j = 7 ∨ j = 8 ∨ j = 9 by omega) with rfl | rfl | rfl | rfl | rfl | rfl | rfl | rfl | rfl | rfl <;> (cases h; rfl)
  · refine ⟨rfl, fun j v h => ?_⟩
    have hj : j < 10 := (List.getElem?_eq_some_iff.mp h).1
    rcases (show j = 0 ∨ j = 1 ∨ j = 2 ∨ j = 3 ∨ j = 4 ∨ j = 5 ∨ j = 6 ∨ j = 7 ∨ j = 8 ∨ j = 9 by omega) with rfl | rfl | rfl | rfl | rfl | rfl | rfl | rfl | rfl | rfl <;> (cases h; rfl)
abbrev ckGv : List Jvm.Cond := flatC (Jvm.Cond.and given_1 narrow_1)
theorem ckGv_arr : ∀ k, k < 4 → Jvm.Cond.arrayOf (.static "FarMachine" (ckSn k) "[I") .int ∈ ckGv := by decide +kernel
theorem ckGv_len : ∀ k, k < 4 → Jvm.Cond.eq (.length (.static "FarMachine" (ckSn k) "[I")) (.int (Int32.ofNat (ckStat k).length)) ∈ ckGv := by decide +kernel
theorem ckGv_el : ∀ k, k < 4 → ∀ j, j < (ckStat k).length → Jvm.Cond.eq (.elem (.static "FarMachine" (ckSn k) "[I") (.int (Int32.ofNat j))) (.int (Int32.ofInt ((ckStat k).getD j 0))) ∈ ckGv := by decide +kernel
theorem ckTb_lay : ∀ k, k < 4 → Jvm.Cond.laysStatic "FarMachine" (ckSn k) "[I" ∈ lw_tbl := by decide +kernel
theorem ckTb_ini : Jvm.Cond.initialized "FarMachine" ∈ lw_tbl ∧ Jvm.Cond.initialized "java/lang/String" ∈ lw_tbl ∧ Jvm.Cond.laysStatic "java/lang/String" "COMPACT_STRINGS" "Z" ∈ lw_tbl ∧ Jvm.Cond.stringRef "FarMachine$RuleReader" 58 "hfdaptwo" ∈ lw_tbl ∧ Jvm.Cond.arrayClass .int ∈ lw_tbl ∧ Jvm.Cond.arrayClass .long ∈ lw_tbl ∧ Jvm.Cond.arrayClass .boolean ∈ lw_tbl := by decide +kernel
theorem ckTb_nm : ∀ q ∈ ckNM, Jvm.Cond.methodLinkNest q.1 q.2.1 q.2.2.1 q.2.2.2 ∈ lw_tbl := by decide +kernel
theorem ckTb_nf : ∀ q ∈ ckNF, Jvm.Cond.fieldLinkNest q.1 q.2.1 "FarMachine" (ckSn q.2.2) "[I" "FarMachine" ∈ lw_tbl := by decide +kernel
theorem ckTb_inst : ∀ q ∈ ckCL.map (fun q : vw_C => (q.1, q.2.2)), Jvm.Cond.instantiable q.1 q.2 ∈ lw_tbl := by decide +kernel
theorem ckGv_str : Jvm.Cond.eq (.static "java/lang/String" "COMPACT_STRINGS" "Z") (.int 1) ∈ ckGv ∧ Jvm.Cond.exactly (.string "FarMachine$RuleReader" 58) "java/lang/String" ∈ ckGv ∧ Jvm.Cond.eq (.field (.string "FarMachine$RuleReader" 58) "java/lang/String" "coder" "B") (.int 0) ∈ ckGv ∧ Jvm.Cond.arrayOf (.field (.string "FarMachine$RuleReader" 58) "java/lang/String" "value" "[B") .byte ∈ ckGv ∧ Jvm.Cond.eq (.length (.field (.string "FarMachine$RuleReader" 58) "java/lang/String" "value" "[B")) (.int 8) ∈ ckGv := by decide +kernel
theorem ckGv_let : ∀ j, j < 8 → Jvm.Cond.eq (.elem (.field (.string "FarMachine$RuleReader" 58) "java/lang/String" "value" "[B") (.int (Int32.ofNat j))) (.int ([(104 : Int32), 102, 100, 97, 112, 116, 119, 111].getD j 0)) ∈ ckGv := by decide +kernel
def ckSas (g : Nat → Nat) (b t1 t2 k : Nat) : Nat := match k with
  | 4 => b
  | 5 => t1
  | 6 => t2
  | _ => g k
noncomputable def ckLawF (void : Bool) (σ : ckS) : Bool := match void with
  | true => false
  | false => match Nat.ble σ.2.2.2.2.2.2.2.2.1 599744 with
    | false => false
    | true => match Nat.ble σ.2.2.2.2.2.2.2.2.2 7301226 with
      | false => false
      | true => match σ.2.1 with
        | [(0, a)] => match ckPt (ckIv σ.2.2.2.2.2.2.1 σ.2.2.2.1 a) with
          | some v => match ckLe0 v 1 with
            | false => false
            | true => ckLe0 1 v
          | none => false
        | _ => false
def ckLaw0 : ckS := ([(0, (4, 4))], [], [], [(0, 256)], [([], [], [])], [(4, 0, 0)], [], [], 0, 0)

noncomputable def ckGrow (τ : ckS) : ckS := match τ with
  | (L, S, C, T, G, X, Z, K, nc, ns) => (L, S, C, T, G, X, Z, K, nc + 1, ns + 4)
-- a number of the script's row is named ahead of a case: place i + d of contents fv
noncomputable def ckPrep (d fv iv : Nat) (σ : ckS) : Option (Nat × ckS) := match σ with
  | (L, S, C, T, G, X, Z, K, nc, ns) => match ckRead (T ++ [((d : Int), 256 + (d : Int))]) G ((T.length, iv, (d : Int)) :: (iv, T.length, -(d : Int)) :: Z) fv T.length with
    | none => none
    | some (v, T1, G1) => some (v, (L, S, C, T1, G1, X, (T.length, iv, (d : Int)) :: (iv, T.length, -(d : Int)) :: Z, K, nc, ns))
-- a case of which that number is within lo .. hi
noncomputable def ckSlice (as : ckAs) (cs : List (Nat × ckCtr)) (f d fv iv : Nat) (lo hi : Int) (pc : Nat) (σ : ckS) (hx : List ckCut) : Bool := match ckPrep d fv iv σ with
  | none => false
  | some q => ckO q.2 q.2.2.1 (ckLim q.2.2.2.2.1 q.2.2.2.2.2.2.2.1 q.1 lo hi) (fun τ => ckRun es_213 as cs [] 4 2048 84000 599744 7301226 ckLawF ckKs ckKc f 0 pc τ hx)
noncomputable def ckCov (a : Int) : List (Int × Int) → Bool
  | [] => ckLe0 2147483648 a
  | q :: r => match ckLe0 q.1 a with
    | false => false
    | true => ckCov (q.2 + 1) r
theorem ckCov_s : ∀ {rs : List (Int × Int)} {a x : Int}, ckCov a rs = true → a ≤ x → x ≤ 2147483647 → ∃ q ∈ rs, q.1 ≤ x ∧ x ≤ q.2
  | [], a, x, h, h1, h2 => by
    have h : ckLe0 2147483648 a = true := h
    have h := ckLe0_t h
    omega
  | q :: r, a, x, h, h1, h2 => by
    unfold ckCov at h
    split at h
    · cases h
    · rename_i g
      have g := ckLe0_t g
      by_cases hx : x ≤ q.2
      · exact ⟨q, List.mem_cons_self, by omega, hx⟩
      · obtain ⟨q2, m2, e2⟩ := ckCov_s h (by omega) h2
        exact ⟨q2, List.mem_cons_of_mem _ m2, e2⟩
theorem ckPrep_ok {nL : Nat} {tI : Nat → ClassId} {sa SL : Nat → Nat} {SX : Nat → Nat → Int32} {nk : Nat} {σ : ckS} {I : List Int32} {F : List (Nat → Int32)} {ws : va_W} {ls : Array Slot} {st : List Value} {d fv iv : Nat} {q : Nat × ckS} (h : ckPrep d fv iv σ = some q) (hd : d ≤ 3) (hR : ckRel nL tI sa SL SX nk σ I F ws ls st) {x : Int32} (hx : I[iv]? = some x) (h0 : 0 ≤ x.toInt) (h1 : x.toInt ≤ 256) :
    ∃ (I1 : List Int32) (z : Int32), ckExt I I1 ∧ I1[q.1]? = some z ∧ ckRel nL tI sa SL SX nk q.2 I1 F ws ls st ∧ q.2.2.2.2.2.2.2.2.2.1 = σ.2.2.2.2.2.2.2.2.1 ∧ q.2.2.2.2.2.2.2.2.2.2 = σ.2.2.2.2.2.2.2.2.2 := by
  obtain ⟨L, S, C, T, G, X, Z, K, nc, ns⟩ := σ
  obtain ⟨hL, hS, hE⟩ := hR
  unfold ckPrep at h
  dsimp only at h
  split at h
  · cases h
  rename_i v T1 G1 hr
  cases h
  have ey : (Int32.ofInt (x.toInt + (d : Int))).toInt = x.toInt + (d : Int) := ck_ofI (by omega) (by omega)
  generalize Int32.ofInt (x.toInt + (d : Int)) = y at ey
  have xI := ckExt_app I [y]
  have lst : (I ++ [y])[T.length]? = some y := by rw [hE.len]; exact ck_last _ _
  have hE1 := hE.addI (w := ((d : Int), 256 + (d : Int))) (x := y) (zs := [(T.length, iv, (d : Int)), (iv, T.length, -(d : Int))]) ⟨(show (d : Int) ≤ y.toInt by omega), (show y.toInt ≤ 256 + (d : Int) by omega)⟩ (fun z hz => by
    rcases List.mem_cons.mp hz with rfl | hz
    · exact ⟨y, x, lst, xI _ _ hx, (show y.toInt ≤ x.toInt + (d : Int) by omega)⟩
    · rcases List.mem_cons.mp hz with rfl | hz
      · exact ⟨x, y, xI _ _ hx, lst, (show x.toInt ≤ y.toInt + -(d : Int) by omega)⟩
      · exact absurd hz List.not_mem_nil)
  have hf : ∃ g : Nat → Int32, F[fv]? = some g := by
    cases hg : G[fv]? with
    | none =>
      unfold ckRead at hr
      rw [hg] at hr
      cases hr
    | some g =>
      obtain ⟨g1, hg1, hg2⟩ := ck2_get hE1.2.2.1 hg
      exact ⟨g1, hg1⟩
  obtain ⟨g, hg⟩ := hf
  obtain ⟨I1, x1, x2, x3⟩ := ckRead_ok hE1 hg lst hr
  have xx := xI.trans x1
  exact ⟨I1, _, xx, x2, ⟨hL.mono xx (ckExt_rf _), ck2_mono (fun _ _ q => q.mono xx (ckExt_rf _)) hS, x3⟩, rfl, rfl⟩
theorem ckSlice_s {as : ckAs} {cs : List (Nat × ckCtr)} {f d fv iv : Nat} {lo hi : Int} {pc : Nat} {σ : ckS} {hx : List ckCut} (h : ckSlice as cs f d fv iv lo hi pc σ hx = true) {q : Nat × ckS} (hp : ckPrep d fv iv σ = some q) {T2 : List ckI} (ht : ckLim q.2.2.2.2.1 q.2.2.2.2.2.2.2.1 q.1 lo hi = some T2) :
    ckRun es_213 as cs [] 4 2048 84000 599744 7301226 ckLawF ckKs ckKc f 0 pc (ckUpT q.2 T2 q.2.2.1) hx = true := by
  unfold ckSlice at h
  rw [hp] at h
  dsimp only at h
  rw [ht] at h
  exact h
-- a case of the law, in one run or in slices
def ckCaseOk (l : Launch) (hx : List ckCut) (f iv : Nat) (u : ckCut) : Prop :=
  (∃ (as : ckAs) (cs : List (Nat × ckCtr)), (∀ q ∈ cs, ckCtrOk l ckMT ckTW ckCL q.2) ∧ ckRun es_213 as cs [] 4 2048 84000 599744 7301226 ckLawF ckKs ckKc f 0 u.1 u.2.1 hx = true) ∨
  ∃ (d fv : Nat) (rs : List (Int × Int)), d ≤ 3 ∧ ckCov (-2147483648) rs = true ∧ ∀ r ∈ rs, ∃ (as : ckAs) (cs : List (Nat × ckCtr)), (∀ q ∈ cs, ckCtrOk l ckMT ckTW ckCL q.2) ∧ ckSlice as cs f d fv iv r.1 r.2 u.1 u.2.1 hx = true
theorem ckHu {l : Launch} {hx : List ckCut} {f iv : Nat} {u : ckCut} {us : List ckCut} (h : ckCaseOk l hx f iv u) (hr : ∀ v ∈ us, ckCaseOk l hx f iv v) : ∀ v ∈ u :: us, ckCaseOk l hx f iv v := fun v hv => by
  rcases List.mem_cons.mp hv with rfl | hv
  · exact h
  · exact hr v hv
theorem ckHr {P : Int × Int → Prop} {r : Int × Int} {rs : List (Int × Int)} (h : P r) (hr : ∀ q ∈ rs, P q) : ∀ q ∈ r :: rs, P q := fun q hq => by
  rcases List.mem_cons.mp hq with rfl | hq
  · exact h
  · exact hr q hq
noncomputable def ckLn1 (τ : ckS) (u : ckCut) : Bool := match Nat.ble τ.2.2.2.1.length u.2.2.1 with
  | true => Nat.ble τ.2.2.2.2.1.length u.2.2.2.1
  | false => false
noncomputable def ckHd (τ : ckS) (iv : Nat) : Bool := match Nat.ble 1 τ.2.2.2.1.length with
  | false => false
  | true => match Nat.ble 1 τ.2.2.2.2.1.length with
    | false => false
    | true => match Nat.ble (iv + 1) τ.2.2.2.1.length with
      | false => false
      | true => match ckLe0 0 (ckIv τ.2.2.2.2.2.2.1 τ.2.2.2.1 iv).1 with
        | false => false
        | true => ckLe0 (ckIv τ.2.2.2.2.2.2.1 τ.2.2.2.1 iv).2 256
theorem ckLaw_ok {as0 as1 : ckAs} {cs0 cs1 : List (Nat × ckCtr)} {gU : List ckCut} {τ : ckS} {pcH iv f : Nat} {p : Program} {e : Env} {s : State} {m : MethodId} {below : List Frame} {meth : Method} {c : Code} (l : Launch)
    (hcs0 : ∀ q ∈ cs0, ckCtrOk l ckMT ckTW ckCL q.2) (hcs1 : ∀ q ∈ cs1, ckCtrOk l ckMT ckTW ckCL q.2) (hus : ∀ u ∈ gU, ckCaseOk l [(pcH, ckGrow τ, 1, 1, 1, iv)] f iv u) (hln : ckAll (ckLn1 τ) gU = true) (hhd : ckHd τ iv = true)
    (hinit : ckRun es_213 as0 cs0 [(pcH, τ, 1, 1, 0, 0)] 4 2048 84000 599744 7301226 ckLawF ckKs ckKc f 0 0 ckLaw0 [] = true) (hhead : ckRun es_213 as1 cs1 gU 4 2048 84000 599744 7301226 ckLawF ckKs ckKc f 0 pcH τ [] = true)
    {b L : Nat} {xs : Nat → Int32} (hL : L ≤ 256) (C0 : lw_At p s m meth c b L xs) : W p l e room_1 s m #[Value.ref b] below meth c s.heap [] 0 0 (lw_Z below #[Value.ref b] s) (entryFrame m ([Value.ref b] : List Value).toArray 4) := by
  obtain ⟨hx, hb, hr, hml, hown, hts, hX, hbl, hlocks, hgv⟩ := C0
  have hfl : ∀ w ∈ ckGv, w.before #[Value.ref b] s = true := flat_of_before _ hgv
  have hA : ∀ q : Nat, q < s.heap.size → ¬ (fun q : Nat => s.heap.size ≤ q) q := fun q hq => Nat.not_le.mpr hq
  -- classes
  have hcl : ∀ ci : Nat, ∃ x : ClassId × (Nat → Nat), ∀ q : vw_C, ckCL[ci]? = some q → u_Kn s q.1 q.2.1 q.2.2 x.1 x.2 := by
    intro ci
    cases hq : ckCL[ci]? with
    | none => exact ⟨(0, id), fun q h => by cases h⟩
    | some q =>
      obtain ⟨cC, iS, h⟩ := u_known (ws := lw_tbl) hts (fun w hw => (List.mem_filter.mp ((ckCL_ok ci q hq).1 w hw)).1) (hts _ (ckTb_inst _ (List.mem_map.mpr ⟨q, List.mem_of_getElem? hq, rfl⟩)))
      exact ⟨(cC, iS), fun q' h' => by cases h'; exact h⟩
  obtain ⟨fD, hfD⟩ := Classical.axiomOfChoice hcl
  obtain ⟨i1, i2, i3, i4, i5, i6, i7⟩ := ckTb_ini
  obtain ⟨cI, kI⟩ := ckArrK (ty := .int) (fun C h => by cases h) (hts _ i5)
  obtain ⟨cJ, kJ⟩ := ckArrK (ty := .long) (fun C h => by cases h) (hts _ i6)
  obtain ⟨cZ, kZ⟩ := ckArrK (ty := .boolean) (fun C h => by cases h) (hts _ i7)
  let tI : Nat → ClassId := fun k => match k with
    | 0 => cI
    | 1 => cJ
    | _ => cZ
  have hK : va_K (fun k => (fD k).1, fun k => (fD k).2) ckCL (ckTys tI) s := by
    refine ⟨fun ci q h => hfD ci q h, fun k q h => ?_⟩
    have hk : k < 3 := (List.getElem?_eq_some_iff.mp h).1
    rcases (show k = 0 ∨ k = 1 ∨ k = 2 by omega) with rfl | rfl | rfl
    · cases h; exact kI
    · cases h; exact kJ
    · cases h; exact kZ
  -- rows outside
  have hst : ∀ k : Nat, ∃ t : Nat, k < 4 → (Term.static "FarMachine" (ckSn k) "[I").eval #[Value.ref b] s none [] s = some (.ref t) ∧ t < s.heap.size ∧ va_X t (ckSLs L k) (ckSXs xs k) s s.heap := by
    intro k
    by_cases hk : k < 4
    · have e1 : ckSLs L k = (ckStat k).length := by
        rcases (show k = 0 ∨ k = 1 ∨ k = 2 ∨ k = 3 by omega) with rfl | rfl | rfl | rfl <;> rfl
      have e2 : ckSXs xs k = fun j => Int32.ofInt ((ckStat k).getD j 0) := by
        rcases (show k = 0 ∨ k = 1 ∨ k = 2 ∨ k = 3 by omega) with rfl | rfl | rfl | rfl <;> rfl
      have e3 : (ckStat k).length < 2 ^ 31 := by
        rcases (show k = 0 ∨ k = 1 ∨ k = 2 ∨ k = 3 by omega) with rfl | rfl | rfl | rfl <;> exact Nat.le_of_ble_eq_true rfl
      obtain ⟨t, h1, h2, h3⟩ := ckX_of e3 (hfl _ (ckGv_arr k hk)) (hfl _ (ckGv_len k hk)) (fun j hj => hfl _ (ckGv_el k hk j hj))
      exact ⟨t, fun _ => ⟨h1, h2, by rw [e1, e2]; exact h3⟩⟩
    · exact ⟨0, fun h => absurd h hk⟩
  obtain ⟨gs, hgs⟩ := Classical.axiomOfChoice hst
  obtain ⟨j1, j2, j3, j4, j5⟩ := ckGv_str
  obtain ⟨adK, adV, hS, hSe⟩ := vk_Sof (args := #[Value.ref b]) (s := s) (N := 1) (tm := fun _ => .string "FarMachine$RuleReader" 58) (len := [8]) (byt := [[104, 102, 100, 97, 112, 116, 119, 111]]) (A := fun q : Nat => s.heap.size ≤ q)
    (fun i hi => by cases (show i = 0 by omega); exact Nat.le_of_ble_eq_true rfl) (fun i _ => hfl _ j2) (fun i _ => hfl _ j3) (fun i _ => hfl _ j4) (fun i hi => by cases (show i = 0 by omega); exact hfl _ j5)
    (fun i hi j hj => by cases (show i = 0 by omega); exact hfl _ (ckGv_let j hj)) (fun i j hi hj h => absurd (show i = j by omega) h) hA
  let sa : Nat → Nat := ckSas gs b (adK 0) (adV 0)
  have hSt : ckSt sa (ckSLs L) (ckSXs xs) 5 (fun q : Nat => s.heap.size ≤ q) s s.heap := by
    refine ⟨fun k hk => ?_, fun k hk => ?_, ?_, ?_⟩
    · rcases (show k = 4 ∨ k < 4 by omega) with rfl | h4
      · exact ⟨hX, hbl, Nat.not_le.mpr hbl⟩
      · have e : sa k = gs k := by
          rcases (show k = 0 ∨ k = 1 ∨ k = 2 ∨ k = 3 by omega) with rfl | rfl | rfl | rfl <;> rfl
        obtain ⟨h1, h2, h3⟩ := hgs k h4
        rw [e]
        exact ⟨h3, h2, Nat.not_le.mpr h2⟩
    · have e : sa k = gs k := by
        rcases (show k = 0 ∨ k = 1 ∨ k = 2 ∨ k = 3 by omega) with rfl | rfl | rfl | rfl <;> rfl
      rw [e]
      exact va_Zof (hts _ (ckTb_lay k hk)) (hts _ i1) (hgs k hk).1 hA
    · refine ⟨fun i hi => ?_, fun i j hi hj _ => by omega⟩
      obtain rfl : i = 0 := by omega
      exact hS.1 0 hi
    · exact va_Zof (hts _ i3) (hts _ i2) (ck_eqi (hfl _ j1)) hA
  have hNs : ckNs sa s := ⟨fun q hq => va_Nw.of rfl (hts _ (ckTb_nm q hq)), fun q hq => va_Nw.of rfl (hts _ (ckTb_nf q hq)), vk_R.of (hts _ i4) (hSe 0 (by omega))⟩
  have hC : ∀ v0 : Nat, v0 ≤ 256 → ckCx v0 (4 * v0) p room_1 s m #[Value.ref b] meth c code 4 R_law false 599744 7301226 ckTW ckCL (fun k => (fD k).1, fun k => (fD k).2) tI sa (ckSLs L) (ckSXs xs) 5 (fun q : Nat => s.heap.size ≤ q) := fun v0 hv0 =>
    ⟨hx, hb, hml, hown, fun w hw => hts w (List.mem_filter.mp hw).1, hK, fun q hq => hq, (fun h => by cases h), ckStO_ok xs L, hSt, ckCL_ok, (show v0 + 599744 ≤ 600000 by omega), (show 4 * v0 + 7301226 ≤ 7302250 by omega), Nat.le_of_ble_eq_true rfl, Nat.le_of_ble_eq_true rfl, hNs⟩
  have hl := lv_entry ([.ref b]) (n := 4) (Nat.le_of_ble_eq_true rfl)
  rw [lg_entry_eq]
  generalize (lg_sl ([.ref b]) ++ List.replicate (4 - (lg_sl ([.ref b])).length) Slot.unset).toArray = ls at hl ⊢
  have hl : lv_has ls 4 [(0, .ref b)] := hl
  have hL31 : L < 2 ^ 31 := Nat.lt_of_le_of_lt hL (Nat.le_of_ble_eq_true rfl)
  have hR : ckRel 4 tI sa (ckSLs L) (ckSXs xs) 5 ckLaw0 [nI L] [xs] [] ls [] := by
    refine ⟨⟨[(0, .ref b)], hl, fun q hq => ?_⟩, True.intro, True.intro, ⟨?_, True.intro⟩, ⟨⟨True.intro, fun q hq => absurd hq List.not_mem_nil, fun q hq => absurd hq List.not_mem_nil⟩, True.intro⟩, fun q hq => ?_, fun z hz => absurd hz List.not_mem_nil, fun k hk => absurd hk List.not_mem_nil⟩
    · rcases List.mem_cons.mp hq with rfl | hq
      · exact ⟨.ref b, List.mem_cons_self, rfl⟩
      · exact absurd hq List.not_mem_nil
    · show ckW (0, 256) (nI L)
      unfold ckW
      rw [nI_toInt hL31]
      exact ⟨by omega, by omega⟩
    · rcases List.mem_cons.mp hq with rfl | hq
      · exact ⟨Nat.le_of_ble_eq_true rfl, hL31, rfl, xs, rfl, fun j _ => rfl⟩
      · exact absurd hq List.not_mem_nil
  have hfin : ∀ v0 : Nat, v0 ≤ 256 → ∀ (I0 : List Int32) (F0' : List (Nat → Int32)) (ad0 : List Nat) (void : Bool) (σ : ckS) (I1 : List Int32) (F1 : List (Nat → Int32)) (w1 : va_W) (ls : Array Slot) (st : List Value) (H : Heap) (locs : List Loc) (pc : Nat), ckLawF void σ = true → ckExt I0 I1 → ckExt F0' F1 → ckExt ad0 (w1.map Prod.fst) → ckRel 4 tI sa (ckSLs L) (ckSXs xs) 5 σ I1 F1 w1 ls st → ckWd s (fun k => (fD k).1, fun k => (fD k).2) ckCL (fun q : Nat => s.heap.size ≤ q) w1 H locs → decode code pc = .ok (if void then .return_ else .ireturn, 1) → W p l e room_1 s m #[Value.ref b] below meth c H locs (v0 + σ.2.2.2.2.2.2.2.2.1) (4 * v0 + σ.2.2.2.2.2.2.2.2.2) (lw_Z below #[Value.ref b] s) (F0 m pc ls st) := fun v0 hv0 I0 F0' ad0 =>
    (fun void σ I1 F1 w1 ls st H locs pc hf xI xF xA hR1 hW1 hd => by
      unfold ckLawF at hf
      split at hf
      · cases hf
      split at hf
      · cases hf
      rename_i g1
      split at hf
      · cases hf
      rename_i g2
      split at hf
      · rename_i a ha
        split at hf
        · rename_i v hv
          split at hf
          · cases hf
          rename_i g3
          have g3 := ckLe0_t g3
          have hf := ckLe0_t hf
          have hS1 : ck2 (ckHas I1 (w1.map Prod.fst) sa) σ.2.1 st := hR1.2.1
          rw [ha] at hS1
          cases st with
          | nil => exact hS1.elim
          | cons x st =>
            obtain ⟨⟨y, hy, hy2⟩, hS2⟩ := hS1
            cases st with
            | cons _ _ => exact hS2.elim
            | nil =>
              have hT : ck2 ckW σ.2.2.2.1 I1 := hR1.2.2.2.1
              have hZ : ∀ z ∈ σ.2.2.2.2.2.2.1, ckZok I1 z := hR1.2.2.2.2.2.2.1
              have hw := ckPt_s hv (ckIv_ok hT hy2 hZ)
              have e1 : y = 1 := Int32.toInt_inj.mp (by rw [show (1 : Int32).toInt = 1 from rfl]; omega)
              subst hy; subst e1
              have g1' := Nat.le_of_ble_eq_true g1
              have g2' := Nat.le_of_ble_eq_true g2
              refine W.widen (show v0 + σ.2.2.2.2.2.2.2.2.1 ≤ 600000 by omega) (show 4 * v0 + σ.2.2.2.2.2.2.2.2.2 ≤ 7302250 by omega) ?_
              exact va_forget hW1.2.2.2.2 (lw_ret hx hb hr hlocks hd)
        · cases hf
      · cases hf)

  obtain ⟨τL, τS, τC, τT, τG, τX, τZ, τK, τc, τs⟩ := τ
  unfold ckHd at hhd
  split at hhd
  · cases hhd
  rename_i d1
  split at hhd
  · cases hhd
  rename_i d2
  split at hhd
  · cases hhd
  rename_i d3
  split at hhd
  · cases hhd
  rename_i d4
  have d1 : 1 ≤ τT.length := Nat.le_of_ble_eq_true d1
  have d2 : 1 ≤ τG.length := Nat.le_of_ble_eq_true d2
  have d3 : iv + 1 ≤ τT.length := Nat.le_of_ble_eq_true d3
  have d4 := ckLe0_t d4
  have d5 := ckLe0_t hhd
  -- what i is, in a state at the head
  have hi : ∀ (I : List Int32) (F : List (Nat → Int32)) (ws : va_W) (ls : Array Slot) (st : List Value), ckRel 4 tI sa (ckSLs L) (ckSXs xs) 5 (τL, τS, τC, τT, τG, τX, τZ, τK, τc, τs) I F ws ls st → ∃ x : Int32, I[iv]? = some x ∧ 0 ≤ x.toInt ∧ x.toInt ≤ 256 := by
    intro I F ws ls st hR
    have hT : ck2 ckW τT I := hR.2.2.2.1
    have hZ : ∀ z ∈ τZ, ckZok I z := hR.2.2.2.2.2.2.1
    have hlen : τT.length = I.length := hR.2.2.len
    have hlt : iv < I.length := by omega
    refine ⟨I[iv], List.getElem?_eq_getElem hlt, ?_⟩
    have hw := ckIv_ok hT (List.getElem?_eq_getElem hlt) hZ
    have w1 := hw.1
    have w2 := hw.2
    dsimp only at d4 d5
    exact ⟨by omega, by omega⟩
  have main : ∀ n v0 : Nat, v0 ≤ 256 → 256 - v0 < n → ∀ (I : List Int32) (F : List (Nat → Int32)) (ws : va_W) (ls : Array Slot) (st : List Value) (H : Heap) (locs : List Loc) (x : Int32), I[iv]? = some x → x.toInt = (v0 : Int) → ckRel 4 tI sa (ckSLs L) (ckSXs xs) 5 (τL, τS, τC, τT, τG, τX, τZ, τK, τc, τs) I F ws ls st → ckWd s (fun k => (fD k).1, fun k => (fD k).2) ckCL (fun q : Nat => s.heap.size ≤ q) ws H locs → W p l e room_1 s m #[Value.ref b] below meth c H locs (v0 + τc) (4 * v0 + τs) (lw_Z below #[Value.ref b] s) (F0 m pcH ls st) := by
    intro n
    induction n with
    | zero => exact fun v0 _ h => absurd h (Nat.not_lt_zero _)
    | succ n ih =>
      intro v0 hv0 hn I F ws ls st H locs x hx0 hxv hR hW
      have lT : τT.length = I.length := hR.2.2.len
      have lG : τG.length = F.length := hR.2.2.lenF
      have lC : τC.length = ws.length := hR.2.2.lenC
      have hgx : ∀ u ∈ gU, ckGx v0 (4 * v0) p l e room_1 s m #[Value.ref b] below meth c (lw_Z below #[Value.ref b] s) 4 ckCL (fun k => (fD k).1, fun k => (fD k).2) tI sa (ckSLs L) (ckSXs xs) 5 (fun q : Nat => s.heap.size ≤ q) I F (ws.map Prod.fst) u := by
        intro w hw
        have h1 := hus w hw
        have g := ckAll_mem hln _ hw
        unfold ckLn1 at g
        split at g
        · rename_i g1
          have g1 : τT.length ≤ w.2.2.1 := Nat.le_of_ble_eq_true g1
          have g2 : τG.length ≤ w.2.2.2.1 := Nat.le_of_ble_eq_true g
          refine ⟨by omega, by omega, fun I1 F1 w1 ls1 st1 H1 locs1 xI xF xA hR1 hW1 => ?_⟩
          have y2 := ckExt_len xF
          have y3 := ckExt_len xA
          rw [List.length_map] at y3
          have hx1 : I1[iv]? = some x := xI iv x hx0
          have go : ∀ (as : ckAs) (cs : List (Nat × ckCtr)) (τ2 : ckS) (I2 : List Int32), (∀ q ∈ cs, ckCtrOk l ckMT ckTW ckCL q.2) → ckExt I1 I2 → ckRun es_213 as cs [] 4 2048 84000 599744 7301226 ckLawF ckKs ckKc f 0 w.1 τ2 [(pcH, ckGrow (τL, τS, τC, τT, τG, τX, τZ, τK, τc, τs), 1, 1, 1, iv)] = true → ckRel 4 tI sa (ckSLs L) (ckSXs xs) 5 τ2 I2 F1 w1 ls1 st1 → W p l e room_1 s m #[Value.ref b] below meth c H1 locs1 (v0 + τ2.2.2.2.2.2.2.2.2.1) (4 * v0 + τ2.2.2.2.2.2.2.2.2.2) (lw_Z below #[Value.ref b] s) (F0 m w.1 ls1 st1) := by
            intro as cs τ2 I2 hcs xI2 hrun hR2
            have xJ := xI.trans xI2
            have y1 := ckExt_len xJ
            have hx2 : I2[iv]? = some x := xI2 iv x hx1
            refine ckRun_ok (below := below) (l := l) (e := e) (I0 := I) (F0' := F) (ad0 := ws.map Prod.fst) (Q := lw_Z below #[Value.ref b] s) (hC v0 hv0) ckTW_ok (by omega) rfl rfl es_213_ok hcs (fun u hu => absurd hu List.not_mem_nil) (hfin v0 hv0 _ _ _) f 0 w.1 τ2 _ hrun I2 F1 w1 ls1 st1 H1 locs1 xJ xF xA hR2 hW1 fun w2 hw2 => ?_
            rcases List.mem_cons.mp hw2 with rfl | hw2
            · refine ⟨(show 1 ≤ I2.length by omega), (show 1 ≤ F1.length by omega), (show τC.length ≤ (w1.map Prod.fst).length by omega), fun _ => (show iv < I2.length by omega), fun I3 F3 w3 ls3 st3 H3 locs3 aI aF aC hR3 hW3 hM => ?_⟩
              obtain ⟨x1, x2, e1, e2, e3⟩ := hM
              have e1 : I2[iv]? = some x1 := e1
              rw [hx2] at e1
              cases e1
              have hR4 : ckRel 4 tI sa (ckSLs L) (ckSXs xs) 5 (τL, τS, τC, τT, τG, τX, τZ, τK, τc, τs) I3 F3 w3 ls3 st3 := hR3
              obtain ⟨x3, e4, e5, e6⟩ := hi I3 F3 w3 ls3 st3 hR4
              have e2 : I3[iv]? = some x2 := e2
              rw [e4] at e2
              cases e2
              have := ih x2.toInt.toNat (by omega) (by omega) I3 F3 w3 ls3 st3 H3 locs3 x2 e4 (by omega) hR4 hW3
              exact W.widen (show v0 + (τc + 1) ≤ x2.toInt.toNat + τc by omega) (show 4 * v0 + (τs + 4) ≤ 4 * x2.toInt.toNat + τs by omega) this
            · exact absurd hw2 List.not_mem_nil
          rcases h1 with ⟨as, cs, hcs, hrun⟩ | ⟨d, fv, rs, hd, hcov, hsl⟩
          · exact go as cs _ I1 hcs (ckExt_rf _) hrun hR1
          · cases hp : ckPrep d fv iv w.2.1 with
            | none =>
              obtain ⟨r, hr, r1, r2⟩ := ckCov_s (x := 0) hcov (by omega) (by omega)
              obtain ⟨as, cs, hcs, h⟩ := hsl r hr
              unfold ckSlice at h
              rw [hp] at h
              cases h
            | some q =>
              obtain ⟨I2, z, a1, a2, a3, a4, a5⟩ := ckPrep_ok hp hd hR1 hx1 (by omega) (by omega)
              have z1 : -2147483648 ≤ z.toInt := by
                have h := Int32.le_toInt z
                omega
              have z2 : z.toInt < 2147483648 := by
                have h := Int32.toInt_lt z
                omega
              obtain ⟨r, hr, r1, r2⟩ := ckCov_s (x := z.toInt) hcov z1 (by omega)
              obtain ⟨as, cs, hcs, h⟩ := hsl r hr
              obtain ⟨T2, t1, t2⟩ := ckLim_ok a3.2.2.2.1 a3.2.2.2.2.2.2.1 a2 r1 r2
              have h2 := ckSlice_s h hp t1
              obtain ⟨qv, qL, qS, qC, qT, qG, qX, qZ, qK, qc, qs⟩ := q
              have hR5 : ckRel 4 tI sa (ckSLs L) (ckSXs xs) 5 (qL, qS, qC, T2, qG, qX, qZ, qK, qc, qs) I2 F1 w1 ls1 st1 := ⟨a3.1, a3.2.1, a3.2.2.1, t2, a3.2.2.2.2⟩
              have a4 : qc = w.2.1.2.2.2.2.2.2.2.2.1 := a4
              have a5 : qs = w.2.1.2.2.2.2.2.2.2.2.2 := a5
              exact W.widen (Nat.le_of_eq (congrArg (v0 + ·) a4.symm)) (Nat.le_of_eq (congrArg (4 * v0 + ·) a5.symm)) (go as cs (qL, qS, qC, T2, qG, qX, qZ, qK, qc, qs) I2 hcs a1 h2 hR5)
        · cases g
      exact ckRun_ok (below := below) (l := l) (e := e) (I0 := I) (F0' := F) (ad0 := ws.map Prod.fst) (Q := lw_Z below #[Value.ref b] s) (hC v0 hv0) ckTW_ok (by omega) rfl rfl es_213_ok hcs1 hgx (hfin v0 hv0 _ _ _) f 0 pcH _ [] hhead I F ws ls st H locs (ckExt_rf _) (ckExt_rf _) (ckExt_rf _) hR hW (fun u hu => absurd hu List.not_mem_nil)
  refine ckRun_ok (below := below) (l := l) (e := e) (I0 := [nI L]) (F0' := [xs]) (ad0 := []) (Q := lw_Z below #[Value.ref b] s) (hC 0 (Nat.zero_le _)) ckTW_ok (by omega) rfl rfl es_213_ok hcs0 (fun u hu => ?_) (hfin 0 (Nat.zero_le _) _ _ _)
    f 0 0 ckLaw0 [] hinit [nI L] [xs] [] ls [] s.heap [] (ckExt_rf _) (ckExt_rf _) (fun k x h => by cases h) hR
    ⟨(fun k q h => by cases h), ⟨(fun i j p q h => by cases h), (fun k q h => by cases h)⟩, va_S.rf⟩ (fun u hu => absurd hu List.not_mem_nil)
  rcases List.mem_cons.mp hu with rfl | hu
  · refine ⟨Nat.le_refl 1, Nat.le_refl 1, fun I1 F1 w1 ls1 st1 H1 locs1 xI xF xA hR1 hW1 => ?_⟩
    obtain ⟨x, e4, e5, e6⟩ := hi I1 F1 w1 ls1 st1 hR1
    have := main 300 x.toInt.toNat (by omega) (by omega) I1 F1 w1 ls1 st1 H1 locs1 x e4 (by omega) hR1 hW1
    exact W.widen (show 0 + τc ≤ x.toInt.toNat + τc by omega) (show 4 * 0 + τs ≤ 4 * x.toInt.toNat + τs by omega) this
  · exact absurd hu List.not_mem_nil

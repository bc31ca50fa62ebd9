/-! THE CHECKER: what a method gives, and a call of it -/
abbrev ckMt : Type := MethodName × ByteArray × Nat × Option FieldType
def ckEntry (As : List Value) (n : Nat) : Array Slot := (lg_sl As ++ List.replicate (n - (lg_sl As).length) Slot.unset).toArray
def ckRoom (κ : ckCtr) : Room := { frames := κ.2.2.2.1, cells := κ.2.2.2.2.2.1, slots := κ.2.2.2.2.2.2, locals := κ.2.2.2.2.1 }
def ckWs (MT : Nat → ckMt) (TW : List Jvm.Cond) (k : Nat) : List Jvm.Cond := Jvm.Cond.code (MT k).1 (MT k).2.1 (MT k).2.2.1 (MT k).2.2.2 :: TW
def ckPc (D : va_G) (cl : List vw_C) (tI : Nat → ClassId) (sa SL : Nat → Nat) (SX : Nat → Nat → Int32) (nk : Nat) (ws : va_W) (As : List Value) (sz : Nat) : Array Value → State → Prop :=
  va_Pc As (fun U => U.heap.size = sz ∧ va_P D cl ws U.heap ∧ va_K D cl (ckTys tI) U ∧ va_D (fun _ => True) ws ∧ ckSt sa SL SX nk (va_A ws sz) U U.heap ∧ ckNs sa U)
def ckEnvS (tI : Nat → ClassId) (sa SL : Nat → Nat) (SX : Nat → Nat → Int32) (nk : Nat) (σ : ckS) (I : List Int32) (F : List (Nat → Int32)) (ws : va_W) : Prop :=
  ckEnv tI sa SL SX nk σ.2.2.1 σ.2.2.2.1 σ.2.2.2.2.1 σ.2.2.2.2.2.1 σ.2.2.2.2.2.2.1 σ.2.2.2.2.2.2.2.1 I F ws
def ckPost (D : va_G) (cl : List vw_C) (tI : Nat → ClassId) (sa SL : Nat → Nat) (SX : Nat → Nat → Int32) (nk : Nat) (σ0 : ckS) (δs : List ckD) (I : List Int32) (F : List (Nat → Int32)) (ws : va_W) (sz : Nat) (oc : Outcome) (t : State) : Prop :=
  ∃ δ ∈ δs, ∃ (I2 : List Int32) (F2 : List (Nat → Int32)) (ws2 : va_W) (rv : Option Value), oc = .returned rv ∧ ckExt I I2 ∧ ckExt F F2 ∧ ckExt (ws.map Prod.fst) (ws2.map Prod.fst) ∧ ck2 (ckHas I2 (ws2.map Prod.fst) sa) (ckMk δ σ0).2.1 rv.toList ∧ ckEnvS tI sa SL SX nk (ckMk δ σ0) I2 F2 ws2 ∧ va_P D cl ws2 t.heap ∧ va_K D cl (ckTys tI) t ∧ va_D (va_A ws sz) ws2
def ckQc (D : va_G) (cl : List vw_C) (tI : Nat → ClassId) (sa SL : Nat → Nat) (SX : Nat → Nat → Int32) (nk : Nat) (σ0 : ckS) (δs : List ckD) (I : List Int32) (F : List (Nat → Int32)) (ws : va_W) (sz : Nat) : Array Value → State → Outcome → State → Prop :=
  fun _ st oc t => ckPost D cl tI sa SL SX nk σ0 δs I F ws sz oc t ∧ va_F (va_A ws sz) st t
/-- a method keeps to what is told of it -/
def ckCtrOk (l : Launch) (MT : Nat → ckMt) (TW : List Jvm.Cond) (cl : List vw_C) (κ : ckCtr) : Prop :=
  ∀ (D : va_G) (tI : Nat → ClassId) (sa SL : Nat → Nat) (SX : Nat → Nat → Int32) (nk : Nat), ckStO SL SX nk → nk ≤ 10 → ∀ (I : List Int32) (F : List (Nat → Int32)) (ws : va_W) (As : List Value) (sz : Nat), (lg_sl As).length ≤ (MT κ.1).2.2.1 → ckRL (MT κ.1).2.2.1 I (ws.map Prod.fst) sa κ.2.1.1 (ckEntry As (MT κ.1).2.2.1) → ckEnvS tI sa SL SX nk κ.2.1 I F ws →
    Met l (MT κ.1).1 (ckWs MT TW κ.1) (ckRoom κ) (ckPc D cl tI sa SL SX nk ws As sz) (ckQc D cl tI sa SL SX nk κ.2.1 κ.2.2.1 I F ws sz) κ.2.2.2.2.2.1 κ.2.2.2.2.2.2 (va_A ws sz)
/-- its receiver is of its class -/
def ckRecv (MT : Nat → ckMt) (cl : List vw_C) (κ : ckCtr) : Prop := ∃ (k0 ci : Nat) (fs : List ckV) (q : vw_C), ckLook 0 κ.2.1.1 = some (1, k0) ∧ κ.2.1.2.2.1[k0]? = some (.inl (ci, fs)) ∧ cl[ci]? = some q ∧ q.1 = (MT κ.1).1.cls
theorem ckSt.moved {sa SL : Nat → Nat} {SX : Nat → Nat → Int32} {nk : Nat} {A B : Nat → Prop} {u U : State} {H0 H : Heap} {locs : List Loc} (h : ckSt sa SL SX nk A u H0) (hvm : u.vm.Alike U.vm) (hS : va_S A H0 H locs) (hAB : ∀ q, B q → A q) : ckSt sa SL SX nk B U H := by
  refine ⟨fun k hk => ?_, fun k hk => ?_, ((h.2.2.1.kept hS.2.1).moved hvm).narrow hAB, ((h.2.2.2.kept hS.2.1).moved hvm).narrow hAB⟩
  · obtain ⟨h1, h2, h3⟩ := h.1 k hk
    exact ⟨(h1.kept (hS.2.1 _ h2 h3)).moved hvm, Nat.lt_of_lt_of_le h2 hS.1, fun q => h3 (hAB _ q)⟩
  · exact ((h.2.1 k hk).kept hS.2.1).moved hvm |>.narrow hAB
theorem ckPc_blind {D : va_G} {cl : List vw_C} {tI : Nat → ClassId} {sa SL : Nat → Nat} {SX : Nat → Nat → Int32} {nk : Nat} {ws : va_W} {As : List Value} {sz : Nat} : FrameBlind (ckPc D cl tI sa SL SX nk ws As sz) := by
  intro a U g mk q
  obtain ⟨q0, q1, q2, q3, q4, q5, q6⟩ := q
  exact ⟨q0, q1, q2, va_K.moved (u := U) (U := U.calling g mk a) (Vm.Alike.refl U.vm) q3, q4, ckSt.moved (u := U) (U := U.calling g mk a) (locs := []) q5 (Vm.Alike.refl U.vm) va_S.rf (fun _ h => h), ckNs.same (u := U) (U := U.calling g mk a) rfl q6⟩
theorem ck2_rev {α β : Type} {P : α → β → Prop} : ∀ {xs : List α} {ys : List β}, ck2 P xs ys → ck2 P xs.reverse ys.reverse
  | [], [], _ => True.intro
  | x :: xs, y :: ys, h => by
    rw [List.reverse_cons, List.reverse_cons]
    exact ck2_app (ck2_rev h.2) ⟨h.1, True.intro⟩
  | [], _ :: _, h => h.elim
  | _ :: _, [], h => h.elim
theorem lg_sl_len : ∀ vs : List Value, (lg_sl vs).length = (vs.map fun v => v.category).sum
  | [] => rfl
  | v :: vs => by
    have ih := lg_sl_len vs
    unfold lg_sl at ih ⊢
    rw [List.flatMap_cons, List.length_append, ih, List.map_cons, List.sum_cons]
    rcases lv_cat v with e | e
    · rw [if_neg (by omega), e]; rfl
    · rw [if_pos e, e]; rfl
theorem ckArgs_ok {I : List Int32} {ad : List Nat} {sa : Nat → Nat} : ∀ {qs : List ckV} {vs : List Value} {i : Nat}, ck2 (ckHas I ad sa) qs vs → (∀ q ∈ qs, ckArgOk q = true) → ∀ t ∈ ckArgs i qs, ∃ v, (t.1, v) ∈ lv_args i vs ∧ ckHas I ad sa t.2 v
  | [], [], _, _, _, t, ht => absurd ht List.not_mem_nil
  | q :: qs, v :: vs, i, h, hq, t, ht => by
    unfold ckArgs at ht
    rcases List.mem_cons.mp ht with rfl | ht
    · exact ⟨v, List.mem_cons_self, h.1⟩
    · have hok := hq q List.mem_cons_self
      unfold ckArgOk at hok
      have step : ckNxt i q = if v.category = 2 then i + 2 else i + 1 := by
        unfold ckNxt
        cases ho : ckOne q with
        | true =>
          have hc := h.1.cat1 (ckOne_s ho)
          rw [if_neg (by omega)]
          rcases ckOne_s ho with e | e | e <;> simp [e]
        | false =>
          rw [ho] at hok
          have e2 : q.1 = 2 := Nat.eq_of_beq_eq_true hok
          have hv := h.1
          obtain ⟨a, b⟩ := q
          dsimp only at e2
          subst e2
          obtain ⟨x, rfl⟩ := hv
          rfl
      rw [step] at ht
      obtain ⟨u, u1, u2⟩ := ckArgs_ok h.2 (fun q hq2 => hq q (List.mem_cons_of_mem _ hq2)) t ht
      exact ⟨u, List.mem_cons_of_mem _ u1, u2⟩
  | [], _ :: _, _, h, _, _, _ => h.elim
  | _ :: _, [], _, h, _, _, _ => h.elim
section CKCTR
variable {k0 s0 : Nat} {p : Program} {l : Launch} {e : Env} {R : Room} {s : State} {m : MethodId} {args : Array Value} {below : List Frame} {meth : Method} {c : Code} {Q : State → Prop} {nL : Nat} {cl : List vw_C} {D : va_G} {tI : Nat → ClassId} {sa SL : Nat → Nat} {SX : Nat → Nat → Int32} {nk : Nat} {A : Nat → Prop}
variable {σ : ckS} {pc : Nat} {I : List Int32} {F : List (Nat → Int32)} {ws : va_W} {ls : Array Slot} {st : List Value} {H : Heap} {locs : List Loc} {κ : ckCtr}
/-- the callee's world out of the caller's -/
noncomputable def ckSaO (ω : List (Nat × ckV)) (ad : List Nat) (sa : Nat → Nat) (k : Nat) : Nat := match ckLook k ω with
  | none => sa k
  | some q => match q.1 with
    | 1 => ad.getD q.2 0
    | _ => sa q.2
theorem ckLook_mem2 {k : Nat} {q : ckV} : ∀ {ω : List (Nat × ckV)}, ckLook k ω = some q → (k, q) ∈ ω := fun h => ckLook_mem h
theorem ckSaO_ok {ω : List (Nat × ckV)} {ad : List Nat} {sa : Nat → Nat} {n : Nat} (hn : n = ad.length) (h : ckAll (ckOk1 n) ω = true) : ckOmOk ω ad sa (ckSaO ω ad sa) ∧ ∀ k, k < 10 → ckSaO ω ad sa k = sa k := by
  refine ⟨⟨fun k hk => by unfold ckSaO; rw [hk], fun k q hk => ?_⟩, fun k hk => ?_⟩
  · have h1 := ckAll_mem h _ (ckLook_mem2 hk)
    unfold ckOk1 at h1
    split at h1
    · cases h1
    · split at h1
      · rename_i e
        have e : q.1 = 1 := e
        have hlt := Nat.le_of_ble_eq_true h1
        refine Or.inl ⟨e, ?_⟩
        unfold ckSaO
        rw [hk]
        dsimp only
        rw [e]
        show ad[q.2]? = some (ad.getD q.2 0)
        have hlt : q.2 < ad.length := by rw [← hn]; exact hlt
        rw [List.getD_eq_getElem?_getD, List.getElem?_eq_getElem hlt]
        rfl
      · rename_i e
        have e : q.1 = 4 := e
        refine Or.inr ⟨e, ?_⟩
        unfold ckSaO
        rw [hk]
        dsimp only
        rw [e]
        rfl
      · cases h1
  · unfold ckSaO
    cases hl : ckLook k ω with
    | none => rfl
    | some q =>
      have h1 := ckAll_mem h _ (ckLook_mem2 hl)
      unfold ckOk1 at h1
      split at h1
      · cases h1
      · rename_i hb
        have := Nat.le_of_ble_eq_true hb
        dsimp only at this
        omega
theorem ckEnter_ok {n d : Nat} {μ : ckM} {ω : List (Nat × ckV)} {rest : List ckV} (h : ckEnter κ n d σ = some (μ, ω, rest)) (hR : ckRel nL tI sa SL SX nk σ I F ws ls st) :
    ∃ (As rst : List Value) (I0 : List Int32) (F0 : List (Nat → Int32)) (wc : va_W) (sa' : Nat → Nat), (∀ k, k < 10 → sa' k = sa k) ∧ ckOmOk ω (ws.map Prod.fst) sa sa' ∧ st = As.reverse ++ rst ∧ As.length = n ∧ (lg_sl As).length ≤ d ∧ ck2 (ckHas I (ws.map Prod.fst) sa) rest rst ∧ (rst.map fun v => v.category).sum ≤ 8 ∧ ckRL d I0 (wc.map Prod.fst) sa' κ.2.1.1 (ckEntry As d) ∧ ckEnvS tI sa' SL SX nk κ.2.1 I0 F0 wc ∧
      (∀ k, k < I0.length → I0[k]? = I[ckPr k μ.1]?) ∧ (∀ k, k < F0.length → F0[k]? = F[ckPr k μ.2.1]?) ∧ (∀ k, k < wc.length → wc[k]? = ws[ckPr k μ.2.2]?) ∧ ∀ j k, j < wc.length → k < wc.length → ckPr j μ.2.2 = ckPr k μ.2.2 → j = k := by
  obtain ⟨L, S, C, T, G, X, Z, K, nc, ns⟩ := σ
  obtain ⟨hL, hS, hE⟩ := hR
  unfold ckEnter at h
  dsimp only at h
  split at h
  · cases h
  rename_i hn
  split at h
  · cases h
  rename_i hao
  split at h
  · cases h
  rename_i hd
  split at h
  · cases h
  generalize ckUni (0, 0, 0) (ckArgs 0 (S.take n).reverse, [], C, T, G, X, Z, K, nc, ns) κ.2.1 = μ' at h
  generalize ckOCs μ'.2.2 C 0 κ.2.1.2.2.1 (ckOL (ckArgs 0 (S.take n).reverse) κ.2.1.1 []) = ω' at h
  split at h
  · cases h
  rename_i hom
  split at h
  · cases h
  rename_i hc
  split at h
  · cases h
  rename_i hnod
  split at h
  · cases h
  rename_i hw8
  cases h
  have hn := Nat.le_of_ble_eq_true hn
  have hd := Nat.le_of_ble_eq_true hd
  have hw8 := Nat.le_of_ble_eq_true hw8
  have hSl := ck2_len hS
  have h1 := ck2_take n hS
  have h2 := ck2_drop n hS
  have hlen : (lg_sl (st.take n).reverse).length ≤ d := by
    rw [lg_sl_len, List.map_reverse, List.sum_reverse]
    exact Nat.le_trans (ckWords_s h1) hd
  have hent := lv_entry (st.take n).reverse hlen
  have hargs := ckArgs_ok (i := 0) (ck2_rev h1) (fun q hq => ckAll_mem hao q (List.mem_reverse.mp hq))
  have hR' : ckRel d tI sa SL SX nk (ckArgs 0 (S.take n).reverse, [], C, T, G, X, Z, K, nc, ns) I F ws (ckEntry (st.take n).reverse d) [] := ⟨⟨_, hent, hargs⟩, True.intro, hE⟩
  have hCl : C.length = (ws.map Prod.fst).length := by rw [List.length_map]; exact hE.lenC
  obtain ⟨o1, o2⟩ := ckSaO_ok (sa := sa) hCl hom
  obtain ⟨I0, F0, wc, r1, r2, r3, r4, r5⟩ := ckChk_ok o1 hc hR'
  dsimp only at r2 r3 r4
  have hwl : κ.2.1.2.2.1.length = wc.length := r1.2.2.lenC
  refine ⟨(st.take n).reverse, st.drop n, I0, F0, wc, _, o2, o1, ?_, ?_, hlen, h2, Nat.le_trans (ckWords_s h2) hw8, r1.1, r1.2.2, fun k hk => ?_, fun k hk => ?_, fun k hk => ?_, fun j k hj hk ejk => ?_⟩
  · rw [List.reverse_reverse, List.take_append_drop]
  · rw [List.length_reverse, List.length_take]
    have : S.length = st.length := hSl
    omega
  · rw [r2 k hk, ckMp_0]
  · rw [r3 k hk, ckMp_0]
  · rw [r4 k hk, ckMp_0]
  · refine ckNod_s hnod j k (ckPr j μ.2.2) ?_ ?_
    · rw [List.getElem?_map, List.getElem?_range (by omega)]; rfl
    · rw [List.getElem?_map, List.getElem?_range (by omega), ejk]; rfl
/-- the caller's world behind the call -/
theorem ckLeave_ok {μ : ckM} {ω : List (Nat × ckV)} {sa' : Nat → Nat} {rest : List ckV} {δ : ckD} {rst : List Value} {I0 I2 : List Int32} {F0 F2 : List (Nat → Int32)} {wc w2 : va_W} {rv : Option Value} (hω : ckOmOk ω (ws.map Prod.fst) sa sa') (hR : ckRel nL tI sa SL SX nk σ I F ws ls st) (hrest : ck2 (ckHas I (ws.map Prod.fst) sa) rest rst)
    (hE0 : ckEnvS tI sa' SL SX nk κ.2.1 I0 F0 wc) (hI : ∀ k, k < I0.length → I0[k]? = I[ckPr k μ.1]?) (hF : ∀ k, k < F0.length → F0[k]? = F[ckPr k μ.2.1]?) (hC : ∀ k, k < wc.length → wc[k]? = ws[ckPr k μ.2.2]?)
    (xI : ckExt I0 I2) (xF : ckExt F0 F2) (xA : ckExt (wc.map Prod.fst) (w2.map Prod.fst)) (hrv : ck2 (ckHas I2 (w2.map Prod.fst) sa') (ckMk δ κ.2.1).2.1 rv.toList) (hE2 : ckEnvS tI sa' SL SX nk (ckMk δ κ.2.1) I2 F2 w2) (hts : ∀ q ∈ δ.2.2.2.2.1, q.1 < I0.length) :
    ∃ τ, ckLeave κ μ ω rest δ σ = some τ ∧ ckRel nL tI sa SL SX nk τ (I ++ I2.drop I0.length) (F ++ F2.drop F0.length) (ckPlc wc.length μ.2.2 w2 ws) ls (rv.toList ++ rst) ∧ ckExt (ws.map Prod.fst) ((ckPlc wc.length μ.2.2 w2 ws).map Prod.fst) ∧ τ.2.2.2.2.2.2.2.2.1 = σ.2.2.2.2.2.2.2.2.1 + κ.2.2.2.2.2.1 ∧ τ.2.2.2.2.2.2.2.2.2 = σ.2.2.2.2.2.2.2.2.2 + κ.2.2.2.2.2.2 := by
  obtain ⟨L, S, C, T, G, X, Z, K, nc, ns⟩ := σ
  obtain ⟨mid, ⟨L0, S0, C0, T0, G0, X0, Z0, K0, nc0, ns0⟩, δs, fr, wd, mc, ms⟩ := κ
  obtain ⟨L1, S1, cs, cn, ts, tn, gn, X1, Z1, K1, nc1, ns1⟩ := δ
  obtain ⟨hL, hS, hE⟩ := hR
  have hZ : ∀ z ∈ Z, ckZok I z := hE.2.2.2.2.1
  have hT : ck2 ckW T I := hE.2.1
  have lT : T.length = I.length := hE.len
  have lG : G.length = F.length := hE.lenF
  have lC : C.length = ws.length := hE.lenC
  have lT0 : T0.length = I0.length := ckEnv.len hE0
  have lG0 : G0.length = F0.length := ckEnv.lenF hE0
  have lC0 : C0.length = wc.length := ckEnv.lenC hE0
  have sl : ∀ {α : Type} (qs : List (Nat × α)) (l : List α), (ckSets qs l).length = l.length := by
    intro α qs
    induction qs with
    | nil => exact fun l => rfl
    | cons q qs ih => exact fun l => by show (ckSets qs (l.set q.1 q.2)).length = _; rw [ih, List.length_set]
  have hT2 : ck2 ckW (ckSets ts T0 ++ tn) I2 := hE2.2.1
  have hG2 : ck2 (ckGok I2) (ckClr G0 ++ gn) F2 := hE2.2.2.1
  have hC2 : ck2 (ckOf tI I2 F2 (w2.map Prod.fst) sa') (ckSets cs C0 ++ cn) (w2.map Prod.snd) := hE2.1
  have hZ2 : ∀ z ∈ Z1, ckZok I2 z := hE2.2.2.2.2.1
  have hK2 : ∀ k ∈ K1, ckKok I2 F2 k := hE2.2.2.2.2.2
  have lclr : (ckClr G0).length = G0.length := by
    clear hE0 lG0 hG2 hE2 hrv
    induction G0 with
    | nil => rfl
    | cons g r ih => show (ckClr r).length + 1 = r.length + 1; rw [ih]
  have l2 := ck2_len hT2
  have l3 := ck2_len hG2
  have l4 := ck2_len hC2
  rw [List.length_append, sl] at l2
  rw [List.length_append, lclr] at l3
  rw [List.length_append, sl, List.length_map] at l4
  have hA0 : (wc.map Prod.fst).length = wc.length := List.length_map _
  have hA1 : ∀ k, k < wc.length → (wc.map Prod.fst)[k]? = (ws.map Prod.fst)[ckPr k μ.2.2]? := fun k hk => by rw [List.getElem?_map, List.getElem?_map, hC k hk]
  -- addresses
  have hadr : (ckPlc wc.length μ.2.2 w2 ws).map Prod.fst = ws.map Prod.fst ++ (w2.map Prod.fst).drop wc.length := by
    rw [ckPlc_map]
    unfold ckPlc
    rw [ckSetN_same]
    intro j a hj
    have hjl := (List.getElem?_eq_some_iff.mp hj).1
    rw [List.length_take] at hjl
    rw [List.getElem?_take_of_lt (by omega)] at hj
    rw [Nat.zero_add, ← hA1 j (by omega)]
    have := ckExt_agr xA (n := wc.length) (by omega) j (by omega)
    rw [hj] at this
    exact this.symm
  -- bounds
  have hTs : ck2 ckW (ckSets ts T0) (I2.take I0.length) := by
    have := ck2_take I0.length hT2
    rwa [List.take_append_of_le_length (by rw [sl]; omega), List.take_of_length_le (by rw [sl]; omega)] at this
  have hTn : ck2 ckW tn (I2.drop I0.length) := by
    have := ck2_drop I0.length hT2
    rwa [List.drop_append_of_le_length (by rw [sl]; omega), List.drop_of_length_le (by rw [sl]; omega), List.nil_append] at this
  have hJl : (I2.take I0.length).length = I0.length := by rw [List.length_take]; omega
  have hJ : ∀ k, k < (I2.take I0.length).length → (I2.take I0.length)[k]? = I[ckPr k μ.1]? := by
    intro k hk
    rw [List.getElem?_take_of_lt (by omega), ckExt_agr xI (Nat.le_refl _) k (by omega)]
    exact hI k (by omega)
  obtain ⟨T1, t1, t2⟩ := ckTrT_ok (μ := μ) hZ hTs hJ (ts := ts) hT (fun q hq => by rw [hJl]; exact hts q hq)
  have lT1 : T1.length = I.length := ck2_len t2
  have mI : ckExt I (I ++ I2.drop I0.length) := ckExt_app _ _
  have mF : ckExt F (F ++ F2.drop F0.length) := ckExt_app _ _
  have mA : ckExt (ws.map Prod.fst) (ws.map Prod.fst ++ (w2.map Prod.fst).drop wc.length) := ckExt_app _ _
  have hV : ∀ (q : ckV) (v : Value), ckHas I2 (w2.map Prod.fst) sa' q v → ckHas (I ++ I2.drop I0.length) (ws.map Prod.fst ++ (w2.map Prod.fst).drop wc.length) sa (ckTrV T0.length C0.length T.length C.length μ ω q) v := by
    intro q v hq
    have := ckTrV_ok (ad := ws.map Prod.fst) (μ := μ) hω rfl hI xI hA0 hA1 xA hq
    rwa [lT0, lC0, lT, show C.length = (ws.map Prod.fst).length by rw [List.length_map]; exact lC]
  refine ⟨_, by unfold ckLeave; dsimp only; rw [t1], ⟨?_, ?_, ?_⟩, by rw [hadr]; exact mA, rfl, rfl⟩
  · rw [hadr]
    exact hL.mono mI mA
  · rw [hadr]
    exact ck2_app (ckMapV_2 hV hrv) (ck2_mono (fun _ _ q => q.mono mI mA) hrest)
  · refine ⟨?_, ck2_app t2 hTn, ?_, fun q hq => (hE.2.2.2.1 q hq).mono mI mF, fun z hz => ?_, fun k hk => ?_⟩
    · rw [hadr, ckPlc_map]
      show ck2 _ (ckPlc C0.length μ.2.2 _ C) _
      rw [lC0]
      refine ckPlc_2 _ _ (ckMapC_2 (fun q x hq => ?_) hC2) (ck2_mono (fun _ _ q => q.mono mI mF mA) hE.1)
      have := ckTrC_ok (ad := ws.map Prod.fst) (μ := μ) hω rfl hI xI rfl hF xF hA0 hA1 xA hq
      rwa [lT0, lG0, lT, lG, show C.length = (ws.map Prod.fst).length by rw [List.length_map]; exact lC]
    · have hgn : ck2 (ckGok I2) gn (F2.drop F0.length) := by
        have := ck2_drop F0.length hG2
        rwa [List.drop_append_of_le_length (by rw [lclr]; omega), List.drop_of_length_le (by rw [lclr]; omega), List.nil_append] at this
      have := ckTrG_ok (μ := μ) rfl hI xI hgn
      show ck2 _ (G ++ ckTrG T0.length T.length μ.1 gn) _
      rw [lT0, lT]
      exact ck2_app (ck2_mono (fun _ _ q => q.mono mI) hE.2.2.1) this
    · rcases List.mem_append.mp hz with hz | hz
      · have := ckTrZ_ok (μ := μ) rfl hI xI hZ2 z
        rw [lT0, lT] at hz
        exact this hz
      · exact (hE.2.2.2.2.1 z hz).mono mI
    · rcases List.mem_append.mp hk with hk | hk
      · have := ckTrK_ok (μ := μ) rfl hI xI rfl hF xF hK2 k
        rw [lT0, lG0, lT, lG] at hk
        exact this hk
      · exact (hE.2.2.2.2.2 k hk).mono mI mF
end CKCTR

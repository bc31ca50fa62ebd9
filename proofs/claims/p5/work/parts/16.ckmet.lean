/-! THE CHECKER: what a method gives, out of a run over its code -/
noncomputable def ckBl (S : List ckV) (T : List ckI) (Z : List ckZ) : Bool := match ckTopI S with
  | none => false
  | some (a, _) => match ckLe0 0 (ckIv Z T a).1 with
    | true => ckLe0 (ckIv Z T a).2 1
    | false => false
noncomputable def ckByt (S : List ckV) (T : List ckI) (Z : List ckZ) : Bool := match ckTopI S with
  | none => false
  | some (a, _) => match ckLe0 (-128) (ckIv Z T a).1 with
    | true => ckLe0 (ckIv Z T a).2 127
    | false => false
noncomputable def ckRet (rt : Nat) (void : Bool) (σ : ckS) : Bool := match rt, void with
  | 0, true => true
  | 1, false => match ckTopI σ.2.1 with
    | none => false
    | some _ => true
  | 2, false => ckBl σ.2.1 σ.2.2.2.1 σ.2.2.2.2.2.2.1
  | 3, false => ckByt σ.2.1 σ.2.2.2.1 σ.2.2.2.2.2.2.1
  | _, _ => false
noncomputable def ckEndF (rt mc ms : Nat) (σ0 : ckS) (δs : List ckD) (void : Bool) (σ : ckS) : Bool := match Nat.ble σ.2.2.2.2.2.2.2.2.1 mc with
  | false => false
  | true => match Nat.ble σ.2.2.2.2.2.2.2.2.2 ms with
    | false => false
    | true => match ckRet rt void σ with
      | false => false
      | true => ckEnds σ0 δs void σ
def ckIsNil {α : Type} : List α → Bool
  | [] => true
  | _ => false
-- a method's code keeps to what is told of it
noncomputable def ckMeth (es : List ckEn) (as : ckAs) (cs : List (Nat × ckCtr)) (gx : List ckCut) (nL rt : Nat) (κ : ckCtr) (ks : Nat → List Nat) (kc : Nat → Nat) (f : Nat) : Bool := match ckIsNil κ.2.1.2.1 with
  | false => false
  | true => match Nat.beq κ.2.1.2.2.2.2.2.2.2.2.1 0 with
    | false => false
    | true => match Nat.beq κ.2.1.2.2.2.2.2.2.2.2.2 0 with
      | false => false
      | true => match Nat.ble 1 κ.2.2.2.1 with
        | false => false
        | true => match Nat.ble 80 κ.2.2.2.2.1 with
          | false => false
          | true => match ckAll (fun u => match Nat.ble κ.2.1.2.2.2.1.length u.2.2.1 with
            | true => Nat.ble κ.2.1.2.2.2.2.1.length u.2.2.2.1
            | false => false) gx with
          | false => false
          | true => ckRun es as cs gx nL κ.2.2.2.1 κ.2.2.2.2.1 κ.2.2.2.2.2.1 κ.2.2.2.2.2.2 (ckEndF rt κ.2.2.2.2.2.1 κ.2.2.2.2.2.2 κ.2.1 κ.2.2.1) ks kc f 0 0 κ.2.1 []
/-- each cut from outside by those behind it -/
noncomputable def ckGs (es : List ckEn) (as : ckAs) (cs : List (Nat × ckCtr)) (nL rt : Nat) (κ : ckCtr) (ks : Nat → List Nat) (kc : Nat → Nat) (f : Nat) : List ckCut → Prop
  | [] => True
  | u :: r => ckRun es as cs r nL κ.2.2.2.1 κ.2.2.2.2.1 κ.2.2.2.2.2.1 κ.2.2.2.2.2.2 (ckEndF rt κ.2.2.2.2.2.1 κ.2.2.2.2.2.2 κ.2.1 κ.2.2.1) ks kc f 0 u.1 u.2.1 [] = true ∧ ckGs es as cs nL rt κ ks kc f r
def ckRt : Nat → Option FieldType
  | 0 => none
  | 1 => some .int
  | 3 => some .byte
  | _ => some .boolean
theorem ckSets_len {α : Type} : ∀ (qs : List (Nat × α)) (l : List α), (ckSets qs l).length = l.length
  | [], _ => rfl
  | q :: qs, l => by show (ckSets qs (l.set q.1 q.2)).length = _; rw [ckSets_len qs, List.length_set]
theorem ckClr_len : ∀ G : List ckG, (ckClr G).length = G.length
  | [] => rfl
  | _ :: r => by show (ckClr r).length + 1 = r.length + 1; rw [ckClr_len r]
theorem ckMk_len (δ : ckD) (σ : ckS) : σ.2.2.2.1.length ≤ (ckMk δ σ).2.2.2.1.length ∧ σ.2.2.2.2.1.length ≤ (ckMk δ σ).2.2.2.2.1.length ∧ σ.2.2.1.length ≤ (ckMk δ σ).2.2.1.length := by
  obtain ⟨L, S, C, T, G, X, Z, K, nc, ns⟩ := σ
  obtain ⟨L1, S1, cs, cn, ts, tn, gn, X1, Z1, K1, nc1, ns1⟩ := δ
  refine ⟨?_, ?_, ?_⟩
  · show T.length ≤ (ckSets ts T ++ tn).length
    rw [List.length_append, ckSets_len]
    omega
  · show G.length ≤ (ckClr G ++ gn).length
    rw [List.length_append, ckClr_len]
    omega
  · show C.length ≤ (ckSets cs C ++ cn).length
    rw [List.length_append, ckSets_len]
    omega
theorem ckEnds_ok {nL : Nat} {tI : Nat → ClassId} {sa SL : Nat → Nat} {SX : Nat → Nat → Int32} {nk : Nat} {σ0 σ : ckS} {δs : List ckD} {void : Bool} {I I0 : List Int32} {F Fc : List (Nat → Int32)} {ad0 : List Nat} {ws : va_W} {ls : Array Slot} {st : List Value} (h : ckEnds σ0 δs void σ = true) (hR : ckRel nL tI sa SL SX nk σ I F ws ls st) (l1 : σ0.2.2.2.1.length = I0.length) (l2 : σ0.2.2.2.2.1.length = Fc.length) (xI : ckExt I0 I) (xF : ckExt Fc F) :
    ∃ δ ∈ δs, ∃ (I2 : List Int32) (F2 : List (Nat → Int32)) (w2 : va_W), ckExt I0 I2 ∧ ckExt Fc F2 ∧ (∀ k, k < w2.length → w2[k]? = ws[k]?) ∧ σ0.2.2.1.length ≤ w2.length ∧ ck2 (ckHas I2 (w2.map Prod.fst) sa) (ckMk δ σ0).2.1 st ∧ ckEnvS tI sa SL SX nk (ckMk δ σ0) I2 F2 w2 ∧ st.length = (match void with
      | true => 0
      | false => 1) := by
  unfold ckEnds at h
  obtain ⟨δ, hδ, h⟩ := ckAny_mem h
  split at h
  · cases h
  dsimp only at h
  obtain ⟨m1, m2, m3⟩ := ckMk_len δ σ0
  refine ⟨δ, hδ, ?_⟩
  generalize ckMk δ σ0 = τ at h m1 m2 m3 ⊢
  split at h
  · cases h
  split at h
  · cases h
  rename_i hl
  generalize ckUniZ (σ0.2.2.2.1.length, σ0.2.2.2.2.1.length, σ.2.2.1.length) σ τ = μ at h
  split at h
  · rename_i hc
    have hc := ckChkZ_ok hc rfl
    have hlen := Nat.le_of_ble_eq_true hl
    have lC : σ.2.2.1.length = ws.length := hR.2.2.lenC
    obtain ⟨I2, F2, w2, r1, r2, r3, r4, r5⟩ := ckChk_ok (ckOm_nil _ _) hc hR
    have lC2 : τ.2.2.1.length = w2.length := r1.2.2.lenC
    have lI : τ.2.2.2.1.length = I2.length := r1.2.2.len
    have lF : τ.2.2.2.2.1.length = F2.length := r1.2.2.lenF
    have x1 := ckExt_len xI
    have x2 := ckExt_len xF
    refine ⟨I2, F2, w2, ckAgr_ext fun k hk => ?_, ckAgr_ext fun k hk => ?_, fun k hk => by rw [r4 k hk]; dsimp only; rw [ckMp_lt (by omega)], by omega, r1.2.1, r1.2.2, ?_⟩
    · rw [r2 k (by omega)]
      dsimp only
      rw [ckMp_lt (by omega)]
      exact ckExt_agr xI (Nat.le_refl _) k hk
    · rw [r3 k (by omega)]
      dsimp only
      rw [ckMp_lt (by omega)]
      exact ckExt_agr xF (Nat.le_refl _) k hk
    · have lS := ck2_len r1.2.1
      cases void with
      | true => rw [← lS]; exact Nat.eq_of_beq_eq_true h
      | false => rw [← lS]; exact Nat.eq_of_beq_eq_true h
  · cases h
theorem ckNarrow {v : Int32} (h0 : 0 ≤ v.toInt) (h1 : v.toInt ≤ 1) : narrow .boolean (.int v) = .int v := by
  rcases Int.lt_or_le v.toInt 1 with h | h
  · have : v = 0 := Int32.toInt_inj.mp (by rw [Int32.toInt_zero]; omega)
    subst this
    rfl
  · have : v = 1 := Int32.toInt_inj.mp (by rw [show (1 : Int32).toInt = 1 from rfl]; omega)
    subst this
    rfl
theorem ckNarrowB {v : Int32} (h0 : -128 ≤ v.toInt) (h1 : v.toInt ≤ 127) : narrow .byte (.int v) = .int v := by
  show Value.int v.toInt8.toInt32 = .int v
  rw [ck_i2b1 v h0 h1]
theorem ckAll_of {α : Type} {p : α → Bool} : ∀ {l : List α}, (∀ a ∈ l, p a = true) → ckAll p l = true
  | [], _ => rfl
  | a :: r, h => by
    unfold ckAll
    rw [h a List.mem_cons_self]
    exact ckAll_of fun x hx => h x (List.mem_cons_of_mem _ hx)
theorem ckMeth_ok {l : Launch} {MT : Nat → ckMt} {TW : List Jvm.Cond} {cl : List vw_C} {ks : Nat → List Nat} {kc : Nat → Nat} {own : String} {ini : Bool} {κ : ckCtr} {es : List ckEn} {as : ckAs} {cs : List (Nat × ckCtr)} {gx : List ckCut} {rt f : Nat} (hy : plainName (MT κ.1).1.cls = true) (hG : ckGoodW TW) (hcl : ckCls TW cl) (hown : (MT κ.1).1.cls = own) (hini : ini = true → (MT κ.1).1.name = "<init>") (hret : (MT κ.1).2.2.2 = ckRt rt)
    (hes : ∀ q ∈ es, ckEok MT TW cl ks kc own ini (MT κ.1).2.1 q) (hcs : ∀ q ∈ cs, ckCtrOk l MT TW cl q.2) (hgs : ckGs es as cs (MT κ.1).2.2.1 rt κ ks kc f gx) (h : ckMeth es as cs gx (MT κ.1).2.2.1 rt κ ks kc f = true) : ckCtrOk l MT TW cl κ := by
  intro D tI sa SL SX nk hso hnk I F ws As sz hlen hRL hE
  unfold ckMeth at h
  split at h
  · cases h
  rename_i c1
  split at h
  · cases h
  rename_i c2
  split at h
  · cases h
  rename_i c3
  split at h
  · cases h
  rename_i c4
  split at h
  · cases h
  rename_i c5
  split at h
  · cases h
  rename_i c6
  have c2 := Nat.eq_of_beq_eq_true c2
  have c3 := Nat.eq_of_beq_eq_true c3
  have c4 := Nat.le_of_ble_eq_true c4
  have c5 := Nat.le_of_ble_eq_true c5
  refine Met.ofW (cc := (MT κ.1).2.1) (maxL := (MT κ.1).2.2.1) (ret := (MT κ.1).2.2.2) hy rfl ?_
  intro p e s m args below meth c s₁ B hml hv
  obtain ⟨rfl, hsz, hP, hK, hD0, hSt, hNs⟩ := hv
  have hx := B.exec
  have hb := B.bytes
  have hr := B.returns
  have hts := atoms_spec (ws := ckWs MT TW κ.1) B.pre
  have hfo : s.vm.findClass own = some m.cls := hown ▸ findClass_of_methodNamed B.named
  have hlocks := B.notSynchronized
  have hin : meth.name = (MT κ.1).1.name := (name_of_methodNamed B.named B.method).1
  subst hsz
  have hD := hD0.self (sz := s.heap.size)
  have hS : va_S (va_A ws s.heap.size) s.heap s.heap [] := va_S.rf
  rw [lg_entry_eq]
  have hR : ckRel (MT κ.1).2.2.1 tI sa SL SX nk κ.2.1 I F ws (ckEntry As (MT κ.1).2.2.1) [] := ⟨hRL, (by
    cases hS1 : κ.2.1.2.1 with
    | nil => exact True.intro
    | cons a r => rw [hS1] at c1; cases c1), hE⟩
  have hC : ckCx 0 0 p (ckRoom κ) s m As.toArray meth c (MT κ.1).2.1 (MT κ.1).2.2.1 own ini κ.2.2.2.2.2.1 κ.2.2.2.2.2.2 TW cl D tI sa SL SX nk (va_A ws s.heap.size) :=
    ⟨hx, hb, hml, hfo, fun w hw => hts w (List.mem_cons_of_mem _ hw), hK, fun q hq => Or.inr hq, fun q => by rw [hin]; exact hini q, hso, hSt, hcl, Nat.le_of_eq (Nat.zero_add _), Nat.le_of_eq (Nat.zero_add _), c4, c5, hNs⟩
  have l1 : κ.2.1.2.2.2.1.length = I.length := ckEnv.len hE
  have l2 : κ.2.1.2.2.2.2.1.length = F.length := ckEnv.lenF hE
  have hf : ∀ (void : Bool) (σ : ckS) (I1 : List Int32) (F1 : List (Nat → Int32)) (w1 : va_W) (ls : Array Slot) (st : List Value) (H : Heap) (locs : List Loc) (pc : Nat), ckEndF rt κ.2.2.2.2.2.1 κ.2.2.2.2.2.2 κ.2.1 κ.2.2.1 void σ = true → ckExt I I1 → ckExt F F1 → ckExt (ws.map Prod.fst) (w1.map Prod.fst) → ckRel (MT κ.1).2.2.1 tI sa SL SX nk σ I1 F1 w1 ls st → ckWd s D cl (va_A ws s.heap.size) w1 H locs → decode (MT κ.1).2.1 pc = .ok (if void then .return_ else .ireturn, 1) → W p l e (ckRoom κ) s m As.toArray below meth c H locs (0 + σ.2.2.2.2.2.2.2.2.1) (0 + σ.2.2.2.2.2.2.2.2.2) (MQ below (ckQc D cl tI sa SL SX nk κ.2.1 κ.2.2.1 I F ws s.heap.size) As.toArray s κ.2.2.2.2.2.1 κ.2.2.2.2.2.2 (va_A ws s.heap.size)) (F0 m pc ls st) :=
(fun void σ I1 F1 w1 ls st H locs pc hf xI xF xA hR1 hW1 hd => by
      unfold ckEndF at hf
      split at hf
      · cases hf
      rename_i g1
      split at hf
      · cases hf
      rename_i g2
      split at hf
      · cases hf
      rename_i g3
      have g1 := Nat.le_of_ble_eq_true g1
      have g2 := Nat.le_of_ble_eq_true g2
      obtain ⟨δ, hδ, I2, F2, w2, y1, y2, v1, v2, y3, y4, y5⟩ := ckEnds_ok (ad0 := []) hf hR1 l1 l2 xI xF
      obtain ⟨hP1, hD1, hS1⟩ := hW1
      refine W.widen (Nat.le_trans (Nat.le_of_eq (Nat.zero_add _)) g1) (Nat.le_trans (Nat.le_of_eq (Nat.zero_add _)) g2) ?_
      have lC0 : κ.2.1.2.2.1.length = ws.length := ckEnv.lenC hE
      have xA2 : ckExt (ws.map Prod.fst) (w2.map Prod.fst) := by
        intro k x hx
        have hk := (List.getElem?_eq_some_iff.mp hx).1
        rw [List.length_map] at hk
        rw [List.getElem?_map, v1 k (by omega), ← List.getElem?_map]
        exact xA k x hx
      have hP2 : va_P D cl w2 H := fun k q hq => hP1 k q (by rw [← v1 k (List.getElem?_eq_some_iff.mp hq).1]; exact hq)
      have hD2 : va_D (va_A ws s.heap.size) w2 := ⟨fun i j p q hi hj e => hD1.1 i j p q (by rw [← v1 i (List.getElem?_eq_some_iff.mp hi).1]; exact hi) (by rw [← v1 j (List.getElem?_eq_some_iff.mp hj).1]; exact hj) e, fun k q hq => hD1.2 k q (by rw [← v1 k (List.getElem?_eq_some_iff.mp hq).1]; exact hq)⟩
      have post : ∀ (rv : Option Value), rv.toList = st → ∀ t : State, t.heap = H → s.WarmedH t.vm → ckQc D cl tI sa SL SX nk κ.2.1 κ.2.2.1 I F ws s.heap.size As.toArray s (.returned rv) t := by
        intro rv hrv t ht hWm
        exact ⟨⟨δ, hδ, I2, F2, w2, rv, rfl, y1, y2, xA2, by rw [hrv]; exact y3, y4, by rw [ht]; exact hP2, va_K.moved hWm.alike hK, hD2⟩, hS1.F ht⟩
      rw [hret] at hr
      unfold ckRet at g3
      split at g3
      · have : st = [] := List.length_eq_zero_iff.mp y5
        subst this
        exact W.vret hx hb hr (post none rfl) hS1.2.2 hd
      · obtain ⟨v, rfl⟩ := List.length_eq_one_iff.mp y5
        split at g3
        · cases g3
        rename_i q hq
        obtain ⟨x, st', e1, -, -⟩ := ckTopI_s hq hR1.2.1
        cases e1
        exact W.iret hx hb hr (post (some (.int x)) rfl) hS1.2.2 hd
      · obtain ⟨v, rfl⟩ := List.length_eq_one_iff.mp y5
        unfold ckBl at g3
        split at g3
        · cases g3
        rename_i a r hq
        obtain ⟨x, st', e1, hx1, -⟩ := ckTopI_s hq hR1.2.1
        cases e1
        have hT : ck2 ckW σ.2.2.2.1 I1 := hR1.2.2.2.1
        have hZ : ∀ z ∈ σ.2.2.2.2.2.2.1, ckZok I1 z := hR1.2.2.2.2.2.2.1
        have hw := ckIv_ok hT hx1 hZ
        split at g3
        · rename_i g4
          have g4 := ckLe0_t g4
          have g3 := ckLe0_t g3
          exact W.zret hx hb hr (ckNarrow (by have := hw.1; omega) (by have := hw.2; omega)) (post (some (.int x)) rfl) hS1.2.2 hd
        · cases g3
      · obtain ⟨v, rfl⟩ := List.length_eq_one_iff.mp y5
        unfold ckByt at g3
        split at g3
        · cases g3
        rename_i a r hq
        obtain ⟨x, st', e1, hx1, -⟩ := ckTopI_s hq hR1.2.1
        cases e1
        have hT : ck2 ckW σ.2.2.2.1 I1 := hR1.2.2.2.1
        have hZ : ∀ z ∈ σ.2.2.2.2.2.2.1, ckZok I1 z := hR1.2.2.2.2.2.2.1
        have hw := ckIv_ok hT hx1 hZ
        split at g3
        · rename_i g4
          have g4 := ckLe0_t g4
          have g3 := ckLe0_t g3
          exact W.zret hx hb hr (ckNarrowB (by have := hw.1; omega) (by have := hw.2; omega)) (post (some (.int x)) rfl) hS1.2.2 hd
        · cases g3
      · cases g3)
  have hgx : ∀ (us : List ckCut), ckGs es as cs (MT κ.1).2.2.1 rt κ ks kc f us → ckAll (fun u => match Nat.ble κ.2.1.2.2.2.1.length u.2.2.1 with
            | true => Nat.ble κ.2.1.2.2.2.2.1.length u.2.2.2.1
            | false => false) us = true → ∀ u ∈ us, ckGx 0 0 p l e (ckRoom κ) s m As.toArray below meth c (MQ below (ckQc D cl tI sa SL SX nk κ.2.1 κ.2.2.1 I F ws s.heap.size) As.toArray s κ.2.2.2.2.2.1 κ.2.2.2.2.2.2 (va_A ws s.heap.size)) (MT κ.1).2.2.1 cl D tI sa SL SX nk (va_A ws s.heap.size) I F (ws.map Prod.fst) u := by
    intro us
    induction us with
    | nil => exact fun _ _ u hu => absurd hu List.not_mem_nil
    | cons v r ih =>
      intro h1 h2 u hu
      have h3 := ckAll_mem h2
      have ih' := ih h1.2 (ckAll_of fun a ha => h3 a (List.mem_cons_of_mem _ ha))
      rcases List.mem_cons.mp hu with rfl | hu
      · have g := h3 u List.mem_cons_self
        split at g
        · rename_i g1
          refine ⟨by rw [← l1]; exact Nat.le_of_ble_eq_true g1, by rw [← l2]; exact Nat.le_of_ble_eq_true g, fun I1 F1 w1 ls st H locs xI xF xA hR1 hW1 => ?_⟩
          exact ckRun_ok (below := below) (l := l) (e := e) (I0 := I) (F0' := F) (ad0 := ws.map Prod.fst) hC hG hnk rfl rfl hes hcs ih' hf f 0 u.1 u.2.1 [] h1.1 I1 F1 w1 ls st H locs xI xF xA hR1 hW1 (fun w hw => absurd hw List.not_mem_nil)
        · cases g
      · exact ih' u hu
  have := ckRun_ok (below := below) (l := l) (e := e) (I0 := I) (F0' := F) (ad0 := ws.map Prod.fst) hC hG hnk rfl rfl hes hcs (hgx gx hgs c6) hf
    f 0 0 κ.2.1 [] h I F ws (ckEntry As (MT κ.1).2.2.1) [] s.heap [] (ckExt_rf _) (ckExt_rf _) (ckExt_rf _) hR ⟨hP, hD, hS⟩ (fun u hu => absurd hu List.not_mem_nil)
  rw [c2, c3] at this
  exact this

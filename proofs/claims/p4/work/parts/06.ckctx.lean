/-! THE CHECKER: a method's surroundings; numbers, locals and the stack -/
def ckTys (tI : Nat → ClassId) : List (ClassId × FieldType) := [(tI 0, .int), (tI 1, .long), (tI 2, .boolean)]
def ckSn : Nat → String
  | 0 => "POWER_OF"
  | 1 => "WARMTH_OF"
  | 2 => "LEAST_TOLD"
  | _ => "MOST_TOLD"
/-- the rows outside, at a state -/
def ckSt (sa SL : Nat → Nat) (SX : Nat → Nat → Int32) (nk : Nat) (A : Nat → Prop) (U : State) (H : Heap) : Prop :=
  (∀ k, k < nk → va_X (sa k) (SL k) (SX k) U H ∧ sa k < H.size ∧ ¬ A (sa k)) ∧ (∀ k, k < 4 → va_Z "FarMachine" (ckSn k) "[I" (.ref (sa k)) A U H) ∧ vk_S 1 [8] [[104, 102, 100, 97, 112, 116, 119, 111]] (fun _ => sa 5) (fun _ => sa 6) A U H ∧ va_Z "java/lang/String" "COMPACT_STRINGS" "Z" (.int 1) A U H
theorem ckSt.cong {sa sa' SL : Nat → Nat} {SX : Nat → Nat → Int32} {nk : Nat} {A : Nat → Prop} {U : State} {H : Heap} (hn : nk ≤ 10) (e : ∀ k, k < 10 → sa' k = sa k) (h : ckSt sa SL SX nk A U H) : ckSt sa' SL SX nk A U H := by
  refine ⟨fun k hk => by rw [e k (by omega)]; exact h.1 k hk, fun k hk => by rw [e k (by omega)]; exact h.2.1 k hk, ?_, h.2.2.2⟩
  show vk_S 1 [8] [[104, 102, 100, 97, 112, 116, 119, 111]] (fun _ => sa' 5) (fun _ => sa' 6) A U H
  rw [e 5 (by omega), e 6 (by omega)]
  exact h.2.2.1
/-- links of private members among mates -/
def ckNM : List (String × Nat × MethodName × String) := [("FarMachine", 9, ⟨"FarMachine$World", "<init>", "()V"⟩, "FarMachine"), ("FarMachine$Bytes", 23, ⟨"FarMachine", "copyRow", "([I[I)V"⟩, "FarMachine"), ("FarMachine$Commands", 55, ⟨"FarMachine", "copyRow", "([I[I)V"⟩, "FarMachine"), ("FarMachine$Machine", 127, ⟨"FarMachine", "held", "(III)I"⟩, "FarMachine"), ("FarMachine$Machine", 46, ⟨"FarMachine", "copyRow", "([I[I)V"⟩, "FarMachine"), ("FarMachine$Machine", 75, ⟨"FarMachine", "isWord", "(I)Z"⟩, "FarMachine"), ("FarMachine$Rules", 27, ⟨"FarMachine", "copyRow", "([I[I)V"⟩, "FarMachine"), ("FarMachine$Trials", 11, ⟨"FarMachine$Machine", "<init>", "()V"⟩, "FarMachine"), ("FarMachine$Trials", 24, ⟨"FarMachine$Rows", "<init>", "()V"⟩, "FarMachine"), ("FarMachine$World", 11, ⟨"FarMachine$Machine", "<init>", "()V"⟩, "FarMachine"), ("FarMachine$World", 41, ⟨"FarMachine$Rules", "<init>", "()V"⟩, "FarMachine")]
def ckNF : List (String × Nat × Nat) := [("FarMachine$Machine", 158, 0), ("FarMachine$Machine", 165, 1)]
def ckNs (sa : Nat → Nat) (U : State) : Prop := (∀ q ∈ ckNM, va_Nw (.methodLinkNest q.1 q.2.1 q.2.2.1 q.2.2.2) U) ∧ (∀ q ∈ ckNF, va_Nw (.fieldLinkNest q.1 q.2.1 "FarMachine" (ckSn q.2.2) "[I" "FarMachine") U) ∧ vk_R "FarMachine$RuleReader" 58 "hfdaptwo" (sa 5) U
theorem ckNs.cong {sa sa' : Nat → Nat} {U : State} (e : ∀ k, k < 10 → sa' k = sa k) (h : ckNs sa U) : ckNs sa' U := ⟨h.1, h.2.1, by rw [e 5 (by omega)]; exact h.2.2⟩
theorem ckNs.warm {sa : Nat → Nat} {s U : State} (hW : s.WarmedH U.vm) (h : ckNs sa s) : ckNs sa U := ⟨fun q hq => va_Nw.warmM hW (h.1 q hq), fun q hq => va_Nw.warmF hW (h.2.1 q hq), vk_R.warm hW h.2.2⟩
theorem ckNs.same {sa : Nat → Nat} {u U : State} (hv : u.vm = U.vm) (h : ckNs sa u) : ckNs sa U := ⟨fun q hq => va_Nw.same rfl hv (h.1 q hq), fun q hq => va_Nw.same rfl hv (h.2.1 q hq), vk_R.same hv.symm h.2.2⟩
def ckCls (TW : List Jvm.Cond) (cl : List vw_C) : Prop := ∀ (ci : Nat) (q : vw_C), cl[ci]? = some q → (∀ w ∈ u_ws q.1 q.2.1 q.2.2, w ∈ TW) ∧ (∃ ty0 : Nat → FieldType, ∀ k, k < q.2.2 → parseFieldDescriptor (q.2.1 k).2.2.1 = some (ty0 k)) ∧ ∀ a, a < q.2.2 → ∀ b, b < q.2.2 → a ≠ b → (q.2.1 a).2.1 ≠ (q.2.1 b).2.1
/-- what holds all through a method -/
def ckCx (k0 s0 : Nat) (p : Program) (R : Room) (s : State) (m : MethodId) (args : Array Value) (meth : Method) (c : Code) (cc : ByteArray) (nL : Nat) (own : String) (ini : Bool) (mc ms : Nat) (TW : List Jvm.Cond) (cl : List vw_C) (D : va_G) (tI : Nat → ClassId) (sa SL : Nat → Nat) (SX : Nat → Nat → Int32) (nk : Nat) (A : Nat → Prop) : Prop :=
  p.tables.exec = Jvm.exec ∧ c.code = cc ∧ c.maxLocals = nL ∧ s.vm.findClass own = some m.cls ∧ (∀ w ∈ TW, w.before args s = true) ∧ va_K D cl (ckTys tI) s ∧ (∀ q, s.heap.size ≤ q → A q) ∧ (ini = true → meth.name = "<init>") ∧ ckStO SL SX nk ∧ ckSt sa SL SX nk A s s.heap ∧ ckCls TW cl ∧ k0 + mc ≤ R.cells ∧ s0 + ms ≤ R.slots ∧ 1 ≤ R.frames ∧ 80 ≤ R.locals ∧ ckNs sa s
/-- the world at a place -/
def ckWd (s : State) (D : va_G) (cl : List vw_C) (A : Nat → Prop) (ws : va_W) (H : Heap) (locs : List Loc) : Prop := va_P D cl ws H ∧ va_D A ws ∧ va_S A s.heap H locs
def ckRel (nL : Nat) (tI : Nat → ClassId) (sa SL : Nat → Nat) (SX : Nat → Nat → Int32) (nk : Nat) (σ : ckS) (I : List Int32) (F : List (Nat → Int32)) (ws : va_W) (ls : Array Slot) (st : List Value) : Prop :=
  ckRL nL I (ws.map Prod.fst) sa σ.1 ls ∧ ck2 (ckHas I (ws.map Prod.fst) sa) σ.2.1 st ∧ ckEnv tI sa SL SX nk σ.2.2.1 σ.2.2.2.1 σ.2.2.2.2.1 σ.2.2.2.2.2.1 σ.2.2.2.2.2.2.1 σ.2.2.2.2.2.2.2.1 I F ws
/-- from every state told by τ, behind this one, the machine comes from pc to its goal -/
def ckGoal (k0 s0 : Nat) (p : Program) (l : Launch) (e : Env) (R : Room) (s : State) (m : MethodId) (args : Array Value) (below : List Frame) (meth : Method) (c : Code) (Q : State → Prop) (nL : Nat) (cl : List vw_C) (D : va_G) (tI : Nat → ClassId) (sa SL : Nat → Nat) (SX : Nat → Nat → Int32) (nk : Nat) (A : Nat → Prop) (τ : ckS) (pc : Nat) (I : List Int32) (F : List (Nat → Int32)) (ws : va_W) : Prop :=
  ∀ (I' : List Int32) (F' : List (Nat → Int32)) (ws' : va_W) (ls' : Array Slot) (st' : List Value) (H' : Heap) (locs' : List Loc), ckExt I I' → ckExt F F' → ckExt (ws.map Prod.fst) (ws'.map Prod.fst) → ckRel nL tI sa SL SX nk τ I' F' ws' ls' st' → ckWd s D cl A ws' H' locs' → W p l e R s m args below meth c H' locs' (k0 + τ.2.2.2.2.2.2.2.2.1) (s0 + τ.2.2.2.2.2.2.2.2.2) Q (F0 m pc ls' st')
section CKN
variable {k0 s0 : Nat} {p : Program} {l : Launch} {e : Env} {R : Room} {s : State} {m : MethodId} {args : Array Value} {below : List Frame} {meth : Method} {c : Code} {Q : State → Prop} {nL : Nat} {cl : List vw_C} {D : va_G} {tI : Nat → ClassId} {sa SL : Nat → Nat} {SX : Nat → Nat → Int32} {nk : Nat} {A : Nat → Prop}
variable {σ τ : ckS} {pc : Nat} {I : List Int32} {F : List (Nat → Int32)} {ws : va_W} {ls : Array Slot} {st : List Value} {H : Heap} {locs : List Loc}
theorem ckS_pushI {w : ckI} {zs : List ckZ} (hR : ckRel nL tI sa SL SX nk σ I F ws ls st) (hW : ckWd s D cl A ws H locs) (kk : ckGoal k0 s0 p l e R s m args below meth c Q nL cl D tI sa SL SX nk A (ckPushI w zs σ) pc I F ws) {x : Int32} (hw : ckW w x) (hz : ∀ z ∈ zs, ckZok (I ++ [x]) z) :
    W p l e R s m args below meth c H locs (k0 + σ.2.2.2.2.2.2.2.2.1) (s0 + σ.2.2.2.2.2.2.2.2.2) Q (F0 m pc ls (.int x :: st)) := by
  obtain ⟨L, S, C, T, G, X, Z, K, nc, ns⟩ := σ
  obtain ⟨hL, hS, hE⟩ := hR
  have hI := ckExt_app I [x]
  exact kk (I ++ [x]) F ws ls (.int x :: st) H locs hI (ckExt_rf _) (ckExt_rf _) ⟨hL.mono hI (ckExt_rf _), ⟨⟨x, rfl, by show (I ++ [x])[T.length]? = _; rw [hE.len]; exact ck_last _ _⟩, ck2_mono (fun _ _ q => q.mono hI (ckExt_rf _)) hS⟩, hE.addI hw hz⟩ hW
theorem ckS_const {v : Int} (h : ckConst v σ = some τ) (hR : ckRel nL tI sa SL SX nk σ I F ws ls st) (hW : ckWd s D cl A ws H locs) (kk : ckGoal k0 s0 p l e R s m args below meth c Q nL cl D tI sa SL SX nk A τ pc I F ws) :
    -2147483648 ≤ v ∧ v < 2147483648 ∧ ∀ x : Int32, x.toInt = v → W p l e R s m args below meth c H locs (k0 + σ.2.2.2.2.2.2.2.2.1) (s0 + σ.2.2.2.2.2.2.2.2.2) Q (F0 m pc ls (.int x :: st)) := by
  unfold ckConst at h
  cases hf : ckFit (v, v) with
  | false => rw [hf] at h; cases h
  | true =>
    rw [hf] at h
    cases h
    exact ⟨(ckFit_t hf).1, (ckFit_t hf).2, fun x hx => ckS_pushI hR hW kk ⟨by show v ≤ x.toInt; omega, by show x.toInt ≤ v; omega⟩ fun z hz => absurd hz List.not_mem_nil⟩
theorem ckS_push {q : ckV} (hR : ckRel nL tI sa SL SX nk σ I F ws ls st) (hW : ckWd s D cl A ws H locs) (kk : ckGoal k0 s0 p l e R s m args below meth c Q nL cl D tI sa SL SX nk A (ckPush q σ) pc I F ws) {v : Value} (hv : ckHas I (ws.map Prod.fst) sa q v) :
    W p l e R s m args below meth c H locs (k0 + σ.2.2.2.2.2.2.2.2.1) (s0 + σ.2.2.2.2.2.2.2.2.2) Q (F0 m pc ls (v :: st)) := by
  obtain ⟨L, S, C, T, G, X, Z, K, nc, ns⟩ := σ
  exact kk I F ws ls (v :: st) H locs (ckExt_rf _) (ckExt_rf _) (ckExt_rf _) ⟨hR.1, ⟨hv, hR.2.1⟩, hR.2.2⟩ hW
theorem ckS_load {k tag : Nat} (h : ckLoad k tag σ = some τ) (hR : ckRel nL tI sa SL SX nk σ I F ws ls st) (hW : ckWd s D cl A ws H locs) (kk : ckGoal k0 s0 p l e R s m args below meth c Q nL cl D tI sa SL SX nk A τ pc I F ws) :
    ∃ (n : Nat) (v : Value), ls[k]? = some (.val v) ∧ ckHas I (ws.map Prod.fst) sa (tag, n) v ∧ W p l e R s m args below meth c H locs (k0 + σ.2.2.2.2.2.2.2.2.1) (s0 + σ.2.2.2.2.2.2.2.2.2) Q (F0 m pc ls (v :: st)) := by
  obtain ⟨L, S, C, T, G, X, Z, K, nc, ns⟩ := σ
  obtain ⟨hL, hS, hE⟩ := hR
  unfold ckLoad at h
  dsimp only at h
  cases hl : ckLook k L with
  | none => rw [hl] at h; cases h
  | some q =>
    rw [hl] at h
    dsimp only at h
    cases hb : Nat.beq q.1 tag with
    | false => rw [hb] at h; cases h
    | true =>
      rw [hb] at h
      cases h
      have et := Nat.eq_of_beq_eq_true hb
      obtain ⟨v, h1, h2⟩ := ckRL.at hL hl
      refine ⟨q.2, v, h1, by rw [← et]; exact h2, ?_⟩
      exact kk I F ws ls (v :: st) H locs (ckExt_rf _) (ckExt_rf _) (ckExt_rf _) ⟨hL, ⟨h2, hS⟩, hE⟩ hW
theorem ckS_aload {k : Nat} (h : ckALoad k σ = some τ) (hR : ckRel nL tI sa SL SX nk σ I F ws ls st) (hW : ckWd s D cl A ws H locs) (kk : ckGoal k0 s0 p l e R s m args below meth c Q nL cl D tI sa SL SX nk A τ pc I F ws) :
    ∃ a : Nat, ls[k]? = some (.val (.ref a)) ∧ W p l e R s m args below meth c H locs (k0 + σ.2.2.2.2.2.2.2.2.1) (s0 + σ.2.2.2.2.2.2.2.2.2) Q (F0 m pc ls (.ref a :: st)) := by
  unfold ckALoad at h
  cases h1 : ckLoad k 1 σ with
  | some t =>
    rw [h1] at h
    cases h
    obtain ⟨n, v, g1, ⟨a, rfl, -⟩, g3⟩ := ckS_load h1 hR hW kk
    exact ⟨a, g1, g3⟩
  | none =>
    rw [h1] at h
    obtain ⟨n, v, g1, g2, g3⟩ := ckS_load h hR hW kk
    have e : v = .ref (sa n) := g2
    subst e
    exact ⟨_, g1, g3⟩
theorem ckS_store1 {k : Nat} (h : ckStore1 nL k σ = some τ) (hR : ckRel nL tI sa SL SX nk σ I F ws ls st) (hW : ckWd s D cl A ws H locs) (kk : ckGoal k0 s0 p l e R s m args below meth c Q nL cl D tI sa SL SX nk A τ pc I F ws) :
    ∃ (q : ckV) (r : List ckV) (v : Value) (st' : List Value) (lv : List (Nat × Value)), σ.2.1 = q :: r ∧ st = v :: st' ∧ ckHas I (ws.map Prod.fst) sa q v ∧ k < nL ∧ lv_has ls nL lv ∧ ∀ ls' : Array Slot, lv_has ls' nL ((k, v) :: lv.filter (fun q => !(q.1 == k) && !(q.1 + 1 == k && q.2.category == 2))) → W p l e R s m args below meth c H locs (k0 + σ.2.2.2.2.2.2.2.2.1) (s0 + σ.2.2.2.2.2.2.2.2.2) Q (F0 m pc ls' st') := by
  obtain ⟨L, S, C, T, G, X, Z, K, nc, ns⟩ := σ
  obtain ⟨⟨lv, hl1, hl2⟩, hS, hE⟩ := hR
  unfold ckStore1 at h
  dsimp only at h
  cases hb : Nat.ble (k + 1) nL with
  | false => rw [hb] at h; cases h
  | true =>
    rw [hb] at h
    dsimp only at h
    cases ht : ckTop1 S with
    | none => rw [ht] at h; cases h
    | some q =>
      obtain ⟨q, r⟩ := q
      rw [ht] at h
      cases h
      obtain ⟨v, st', rfl, -, h2, h3⟩ := ckTop1_s ht hS
      have hq : S = q :: r := by
        cases S with
        | nil => cases ht
        | cons t S =>
          unfold ckTop1 at ht
          dsimp only at ht
          cases hx : (Nat.beq t.1 0 || Nat.beq t.1 1 || Nat.beq t.1 4) with
          | false => rw [hx] at ht; cases ht
          | true => rw [hx] at ht; cases ht; rfl
      refine ⟨q, r, v, st', lv, hq, rfl, h2, Nat.le_of_ble_eq_true hb, hl1, fun ls' hls => ?_⟩
      exact kk I F ws ls' st' H locs (ckExt_rf _) (ckExt_rf _) (ckExt_rf _) ⟨ckRL.put1 h2 hl2 hls, h3, hE⟩ hW
theorem ckS_lstore {k : Nat} (h : ckLStore nL k σ = some τ) (hR : ckRel nL tI sa SL SX nk σ I F ws ls st) (hW : ckWd s D cl A ws H locs) (kk : ckGoal k0 s0 p l e R s m args below meth c Q nL cl D tI sa SL SX nk A τ pc I F ws) :
    ∃ (x : Int64) (st' : List Value) (lv : List (Nat × Value)), st = .long x :: st' ∧ k + 1 < nL ∧ lv_has ls nL lv ∧ ∀ ls' : Array Slot, lv_has ls' nL ((k, .long x) :: lv.filter (fun q => !(q.1 == k) && (!(q.1 == k + 1) && !(q.1 + 1 == k && q.2.category == 2)))) → W p l e R s m args below meth c H locs (k0 + σ.2.2.2.2.2.2.2.2.1) (s0 + σ.2.2.2.2.2.2.2.2.2) Q (F0 m pc ls' st') := by
  obtain ⟨L, S, C, T, G, X, Z, K, nc, ns⟩ := σ
  obtain ⟨⟨lv, hl1, hl2⟩, hS, hE⟩ := hR
  unfold ckLStore at h
  dsimp only at h
  cases hb : Nat.ble (k + 2) nL with
  | false => rw [hb] at h; cases h
  | true =>
    rw [hb] at h
    dsimp only at h
    cases ht : ckTopL S with
    | none => rw [ht] at h; cases h
    | some r =>
      rw [ht] at h
      cases h
      obtain ⟨x, st', rfl, h3⟩ := ckTopL_s ht hS
      refine ⟨x, st', lv, rfl, Nat.le_of_ble_eq_true hb, hl1, fun ls' hls => ?_⟩
      exact kk I F ws ls' st' H locs (ckExt_rf _) (ckExt_rf _) (ckExt_rf _) ⟨ckRL.put2 (q := (2, 0)) ⟨x, rfl⟩ hl2 hls, h3, hE⟩ hW
theorem ckS_iinc {k : Nat} {n : Int} (h : ckIinc nL k n σ = some τ) (hR : ckRel nL tI sa SL SX nk σ I F ws ls st) (hW : ckWd s D cl A ws H locs) (kk : ckGoal k0 s0 p l e R s m args below meth c Q nL cl D tI sa SL SX nk A τ pc I F ws) :
    ∃ (x : Int32) (lv : List (Nat × Value)), (k, Value.int x) ∈ lv ∧ k < nL ∧ lv_has ls nL lv ∧ ∀ ls' : Array Slot, lv_has ls' nL ((k, .int (x + Int32.ofInt n)) :: lv.filter (fun q => !(q.1 == k) && !(q.1 + 1 == k && q.2.category == 2))) → W p l e R s m args below meth c H locs (k0 + σ.2.2.2.2.2.2.2.2.1) (s0 + σ.2.2.2.2.2.2.2.2.2) Q (F0 m pc ls' st) := by
  obtain ⟨L, S, C, T, G, X, Z, K, nc, ns⟩ := σ
  obtain ⟨⟨lv, hl1, hl2⟩, hS, hE⟩ := hR
  unfold ckIinc at h
  dsimp only at h
  cases hb : Nat.ble (k + 1) nL with
  | false => rw [hb] at h; cases h
  | true =>
    rw [hb] at h
    dsimp only at h
    cases hl : ckLook k L with
    | none => rw [hl] at h; cases h
    | some q =>
      obtain ⟨t, v⟩ := q
      rw [hl] at h
      dsimp only at h
      split at h
      · cases hf : ckFit (n, n) with
        | false => rw [hf] at h; cases h
        | true =>
          rw [hf] at h
          cases h
          obtain ⟨u, u1, x, rfl, u3⟩ := hl2 _ (ckLook_mem hl)
          have fit := ckFit_t hf
          have en : (Int32.ofInt n).toInt = n := ck_ofI fit.1 fit.2
          have hn : ckW (n, n) (Int32.ofInt n) := ⟨by show n ≤ _; omega, by show _ ≤ n; omega⟩
          refine ⟨x, lv, u1, Nat.le_of_ble_eq_true hb, hl1, fun ls' hls => ?_⟩
          have hx : ckW (ckIv Z T v) x := ckIv_ok hE.2.1 u3 hE.2.2.2.2.1
          have gd := ckG_add false T.length v v (ckIv Z T v) (n, n) x (Int32.ofInt n) hx hn (fun h => by cases h)
          have hI := ckExt_app I [x + Int32.ofInt n]
          have zs : ∀ z ∈ (ckUAdd T.length v v (ckIv Z T v) (n, n)).2, ckZok (I ++ [x + Int32.ofInt n]) z := by
            intro z hz
            unfold ckUAdd at hz
            cases hg : ckFit ((ckIv Z T v).1 + n, (ckIv Z T v).2 + n) with
            | false => rw [hg] at hz; exact absurd hz List.not_mem_nil
            | true =>
              rw [hg] at hz
              have hp : ckPt (n, n) = some n := by
                unfold ckPt
                have : ckLe0 n n = true := by
                  cases hq : ckLe0 n n with
                  | true => rfl
                  | false => exact absurd (ckLe0_f hq) (by omega)
                dsimp only
                rw [this]
              rw [hp] at hz
              have lst : (I ++ [x + Int32.ofInt n])[T.length]? = some (x + Int32.ofInt n) := by rw [hE.len]; exact ck_last _ _
              have e : (x + Int32.ofInt n).toInt = x.toInt + n := by
                have f := ckFit_t hg
                have f1 := f.1
                have f2 := f.2
                dsimp only at f1 f2
                have h1 := hx.1
                have h2 := hx.2
                rw [ck_addI (by omega) (by omega), en]
              rcases List.mem_cons.mp hz with rfl | hz
              · exact ⟨_, _, lst, hI _ _ u3, by show (x + Int32.ofInt n).toInt ≤ x.toInt + n; omega⟩
              · rcases List.mem_cons.mp hz with rfl | hz
                · exact ⟨_, _, hI _ _ u3, lst, by show x.toInt ≤ (x + Int32.ofInt n).toInt + -n; omega⟩
                · exact absurd hz List.not_mem_nil
          refine kk (I ++ [x + Int32.ofInt n]) F ws ls' st H locs hI (ckExt_rf _) (ckExt_rf _) ⟨ckRL.put1 (q := (0, T.length)) ⟨_, rfl, by show (I ++ [x + Int32.ofInt n])[T.length]? = _; rw [hE.len]; exact ck_last _ _⟩ (fun q hq => ?_) hls, ck2_mono (fun _ _ q => q.mono hI (ckExt_rf _)) hS, hE.addI gd.1 zs⟩ hW
          obtain ⟨v1, g1, g2⟩ := hl2 q hq
          exact ⟨v1, g1, g2.mono hI (ckExt_rf _)⟩
      · cases h
theorem ckS_u1 {f : ckI → ckI} {φ : Int32 → Int32} (hφ : ∀ {A : ckI} {x : Int32}, ckW A x → ckW (f A) (φ x)) (h : ckU1 f σ = some τ) (hR : ckRel nL tI sa SL SX nk σ I F ws ls st) (hW : ckWd s D cl A ws H locs) (kk : ckGoal k0 s0 p l e R s m args below meth c Q nL cl D tI sa SL SX nk A τ pc I F ws) :
    ∃ (x : Int32) (st' : List Value), st = .int x :: st' ∧ W p l e R s m args below meth c H locs (k0 + σ.2.2.2.2.2.2.2.2.1) (s0 + σ.2.2.2.2.2.2.2.2.2) Q (F0 m pc ls (.int (φ x) :: st')) := by
  obtain ⟨L, S, C, T, G, X, Z, K, nc, ns⟩ := σ
  obtain ⟨hL, hS, hE⟩ := hR
  unfold ckU1 at h
  dsimp only at h
  cases ht : ckTopI S with
  | none => rw [ht] at h; cases h
  | some q =>
    obtain ⟨a, r⟩ := q
    rw [ht] at h
    cases h
    obtain ⟨x, st', rfl, h2, h3⟩ := ckTopI_s ht hS
    have hI := ckExt_app I [φ x]
    refine ⟨x, st', rfl, kk (I ++ [φ x]) F ws ls _ H locs hI (ckExt_rf _) (ckExt_rf _) ⟨hL.mono hI (ckExt_rf _), ⟨⟨_, rfl, by show (I ++ [φ x])[T.length]? = _; rw [hE.len]; exact ck_last _ _⟩, ck2_mono (fun _ _ q => q.mono hI (ckExt_rf _)) h3⟩, ?_⟩ hW⟩
    exact hE.addI (zs := []) (hφ (ckIv_ok hE.2.1 h2 hE.2.2.2.2.1)) fun z hz => absurd hz List.not_mem_nil
theorem ckNoK_ok {φ : Int32 → Int32 → Int32} (n a b : Nat) (J : List Int32) (E : List (Nat → Int32)) (x y : Int32) (_ : J[n]? = some (φ x y)) (_ : J[a]? = some x) (_ : J[b]? = some y) : ∀ k ∈ ckNoK n a b, ckKok J E k := fun k hk => absurd hk List.not_mem_nil
theorem ckRec5_ok {a0 : Nat} {op : Int} {φ : Int32 → Int32 → Int32} (hφ : ∀ v w : Int32, φ v w = if op = 0 then v + w else if op = 1 then v * w else v - w) (n a b : Nat) (J : List Int32) (E : List (Nat → Int32)) (x y : Int32) (h1 : J[n]? = some (φ x y)) (h2 : J[a]? = some x) (h3 : J[b]? = some y) : ∀ k ∈ ckRec5 a0 op n a b, ckKok J E k := by
  intro k hk
  unfold ckRec5 at hk
  split at hk
  · rcases List.mem_cons.mp hk with rfl | hk
    · exact ⟨_, x, y, h1, h2, h3, hφ x y⟩
    · exact absurd hk List.not_mem_nil
  · exact absurd hk List.not_mem_nil
theorem ckS_u2 {f : Nat → Nat → Nat → ckI → ckI → ckI × List ckZ} {kf : Nat → Nat → Nat → List ckK} {φ : Int32 → Int32 → Int32} {pos : Bool} (hφ : ckGood f φ pos) (hκ : ∀ (n a b : Nat) (J : List Int32) (E : List (Nat → Int32)) (x y : Int32), J[n]? = some (φ x y) → J[a]? = some x → J[b]? = some y → ∀ k ∈ kf n a b, ckKok J E k) (hp : pos = true → ckPos σ = true) (h : ckU2 f kf σ = some τ) (hR : ckRel nL tI sa SL SX nk σ I F ws ls st) (hW : ckWd s D cl A ws H locs) (kk : ckGoal k0 s0 p l e R s m args below meth c Q nL cl D tI sa SL SX nk A τ pc I F ws) :
    ∃ (x y : Int32) (st' : List Value), st = .int y :: .int x :: st' ∧ (pos = true → ¬ y = 0) ∧ W p l e R s m args below meth c H locs (k0 + σ.2.2.2.2.2.2.2.2.1) (s0 + σ.2.2.2.2.2.2.2.2.2) Q (F0 m pc ls (.int (φ x y) :: st')) := by
  obtain ⟨L, S, C, T, G, X, Z, K, nc, ns⟩ := σ
  obtain ⟨hL, hS, hE⟩ := hR
  unfold ckU2 at h
  dsimp only at h
  cases ht : ckTopI S with
  | none => rw [ht] at h; cases h
  | some q =>
    obtain ⟨b, r⟩ := q
    rw [ht] at h
    dsimp only at h
    cases hu : ckTopI r with
    | none => rw [hu] at h; cases h
    | some q =>
      obtain ⟨a, r'⟩ := q
      rw [hu] at h
      cases h
      obtain ⟨y, st1, rfl, h2, h3⟩ := ckTopI_s ht hS
      obtain ⟨x, st2, rfl, h4, h5⟩ := ckTopI_s hu h3
      have wy : ckW (ckIv Z T b) y := ckIv_ok hE.2.1 h2 hE.2.2.2.2.1
      have wx : ckW (ckIv Z T a) x := ckIv_ok hE.2.1 h4 hE.2.2.2.2.1
      have hpp : pos = true → 1 ≤ (ckIv Z T b).1 := by
        intro q
        have h6 := hp q
        unfold ckPos at h6
        dsimp only at h6
        rw [ht] at h6
        exact ckLe0_t h6
      obtain ⟨g1, g2⟩ := hφ T.length a b (ckIv Z T a) (ckIv Z T b) x y wx wy hpp
      have hI := ckExt_app I [φ x y]
      have lst : (I ++ [φ x y])[T.length]? = some (φ x y) := by rw [hE.len]; exact ck_last _ _
      refine ⟨x, y, st2, rfl, fun q e => ?_, kk (I ++ [φ x y]) F ws ls _ H locs hI (ckExt_rf _) (ckExt_rf _) ⟨hL.mono hI (ckExt_rf _), ⟨⟨_, rfl, lst⟩, ck2_mono (fun _ _ q => q.mono hI (ckExt_rf _)) h5⟩, (hE.addI g1 (g2 _ lst (hI _ _ h4) (hI _ _ h2))).addK (hκ _ _ _ _ F x y lst (hI _ _ h4) (hI _ _ h2))⟩ hW⟩
      have h7 := hpp q
      have h8 := wy.1
      rw [e] at h8
      have h9 : (0 : Int32).toInt = 0 := rfl
      omega
theorem ckS_nar {lo hi : Int} {φ : Int32 → Int32} (h1 : ∀ x : Int32, lo ≤ x.toInt → x.toInt ≤ hi → φ x = x) (h2 : ∀ x : Int32, lo ≤ (φ x).toInt ∧ (φ x).toInt ≤ hi) (h : ckNar lo hi σ = some τ) (hR : ckRel nL tI sa SL SX nk σ I F ws ls st) (hW : ckWd s D cl A ws H locs) (kk : ckGoal k0 s0 p l e R s m args below meth c Q nL cl D tI sa SL SX nk A τ pc I F ws) :
    ∃ (x : Int32) (st' : List Value), st = .int x :: st' ∧ W p l e R s m args below meth c H locs (k0 + σ.2.2.2.2.2.2.2.2.1) (s0 + σ.2.2.2.2.2.2.2.2.2) Q (F0 m pc ls (.int (φ x) :: st')) := by
  obtain ⟨L, S, C, T, G, X, Z, K, nc, ns⟩ := σ
  obtain ⟨hL, hS, hE⟩ := hR
  unfold ckNar at h
  dsimp only at h
  cases ht : ckTopI S with
  | none => rw [ht] at h; cases h
  | some q =>
    obtain ⟨a, r⟩ := q
    rw [ht] at h
    dsimp only at h
    obtain ⟨x, st', rfl, g2, g3⟩ := ckTopI_s ht hS
    have wx := ckIv_ok hE.2.1 g2 hE.2.2.2.2.1
    cases hb : (ckLe0 lo (ckIv Z T a).1 && ckLe0 (ckIv Z T a).2 hi) with
    | true =>
      rw [hb] at h
      cases h
      have hb2 := Bool.and_eq_true _ _ ▸ hb
      have l1 := ckLe0_t hb2.1
      have l2 := ckLe0_t hb2.2
      have e := h1 x (Int.le_trans l1 wx.1) (Int.le_trans wx.2 l2)
      refine ⟨x, st', rfl, ?_⟩
      rw [e]
      exact kk I F ws ls _ H locs (ckExt_rf _) (ckExt_rf _) (ckExt_rf _) ⟨hL, ⟨⟨x, rfl, g2⟩, g3⟩, hE⟩ hW
    | false =>
      rw [hb] at h
      cases h
      have hI := ckExt_app I [φ x]
      refine ⟨x, st', rfl, kk (I ++ [φ x]) F ws ls _ H locs hI (ckExt_rf _) (ckExt_rf _) ⟨hL.mono hI (ckExt_rf _), ⟨⟨_, rfl, by show (I ++ [φ x])[T.length]? = _; rw [hE.len]; exact ck_last _ _⟩, ck2_mono (fun _ _ q => q.mono hI (ckExt_rf _)) g3⟩, ?_⟩ hW⟩
      exact hE.addI (zs := []) (h2 x) fun z hz => absurd hz List.not_mem_nil
theorem ckS_dup (h : ckDup σ = some τ) (hR : ckRel nL tI sa SL SX nk σ I F ws ls st) (hW : ckWd s D cl A ws H locs) (kk : ckGoal k0 s0 p l e R s m args below meth c Q nL cl D tI sa SL SX nk A τ pc I F ws) :
    ∃ (v : Value) (st' : List Value), st = v :: st' ∧ v.category = 1 ∧ W p l e R s m args below meth c H locs (k0 + σ.2.2.2.2.2.2.2.2.1) (s0 + σ.2.2.2.2.2.2.2.2.2) Q (F0 m pc ls (v :: v :: st')) := by
  obtain ⟨L, S, C, T, G, X, Z, K, nc, ns⟩ := σ
  obtain ⟨hL, hS, hE⟩ := hR
  unfold ckDup at h
  dsimp only at h
  cases ht : ckTop1 S with
  | none => rw [ht] at h; cases h
  | some q =>
    obtain ⟨q, r⟩ := q
    rw [ht] at h
    cases h
    obtain ⟨v, st', rfl, h1, h2, h3⟩ := ckTop1_s ht hS
    exact ⟨v, st', rfl, h1, kk I F ws ls _ H locs (ckExt_rf _) (ckExt_rf _) (ckExt_rf _) ⟨hL, ⟨h2, hS⟩, hE⟩ hW⟩
theorem ckS_dup2 (h : ckDup2 σ = some τ) (hR : ckRel nL tI sa SL SX nk σ I F ws ls st) (hW : ckWd s D cl A ws H locs) (kk : ckGoal k0 s0 p l e R s m args below meth c Q nL cl D tI sa SL SX nk A τ pc I F ws) :
    ∃ (v u : Value) (st' : List Value), st = v :: u :: st' ∧ v.category = 1 ∧ u.category = 1 ∧ W p l e R s m args below meth c H locs (k0 + σ.2.2.2.2.2.2.2.2.1) (s0 + σ.2.2.2.2.2.2.2.2.2) Q (F0 m pc ls (v :: u :: v :: u :: st')) := by
  obtain ⟨L, S, C, T, G, X, Z, K, nc, ns⟩ := σ
  obtain ⟨hL, hS, hE⟩ := hR
  unfold ckDup2 at h
  dsimp only at h
  cases ht : ckTop1 S with
  | none => rw [ht] at h; cases h
  | some q =>
    obtain ⟨q, r⟩ := q
    rw [ht] at h
    dsimp only at h
    cases hu : ckTop1 r with
    | none => rw [hu] at h; cases h
    | some t =>
      obtain ⟨t, r'⟩ := t
      rw [hu] at h
      cases h
      obtain ⟨v, st1, rfl, h1, h2, h3⟩ := ckTop1_s ht hS
      obtain ⟨u, st2, rfl, h4, h5, h6⟩ := ckTop1_s hu h3
      exact ⟨v, u, st2, rfl, h1, h4, kk I F ws ls _ H locs (ckExt_rf _) (ckExt_rf _) (ckExt_rf _) ⟨hL, ⟨h2, h5, hS⟩, hE⟩ hW⟩
theorem ckS_pop (h : ckPop σ = some τ) (hR : ckRel nL tI sa SL SX nk σ I F ws ls st) (hW : ckWd s D cl A ws H locs) (kk : ckGoal k0 s0 p l e R s m args below meth c Q nL cl D tI sa SL SX nk A τ pc I F ws) :
    ∃ (v : Value) (st' : List Value), st = v :: st' ∧ v.category = 1 ∧ W p l e R s m args below meth c H locs (k0 + σ.2.2.2.2.2.2.2.2.1) (s0 + σ.2.2.2.2.2.2.2.2.2) Q (F0 m pc ls st') := by
  obtain ⟨L, S, C, T, G, X, Z, K, nc, ns⟩ := σ
  obtain ⟨hL, hS, hE⟩ := hR
  unfold ckPop at h
  dsimp only at h
  cases ht : ckTop1 S with
  | none => rw [ht] at h; cases h
  | some q =>
    obtain ⟨q, r⟩ := q
    rw [ht] at h
    cases h
    obtain ⟨v, st', rfl, h1, h2, h3⟩ := ckTop1_s ht hS
    exact ⟨v, st', rfl, h1, kk I F ws ls _ H locs (ckExt_rf _) (ckExt_rf _) (ckExt_rf _) ⟨hL, h3, hE⟩ hW⟩
theorem ckS_i2l (h : ckI2L σ = some τ) (hR : ckRel nL tI sa SL SX nk σ I F ws ls st) (hW : ckWd s D cl A ws H locs) (kk : ckGoal k0 s0 p l e R s m args below meth c Q nL cl D tI sa SL SX nk A τ pc I F ws) :
    ∃ (x : Int32) (st' : List Value), st = .int x :: st' ∧ W p l e R s m args below meth c H locs (k0 + σ.2.2.2.2.2.2.2.2.1) (s0 + σ.2.2.2.2.2.2.2.2.2) Q (F0 m pc ls (.long x.toInt64 :: st')) := by
  obtain ⟨L, S, C, T, G, X, Z, K, nc, ns⟩ := σ
  obtain ⟨hL, hS, hE⟩ := hR
  unfold ckI2L at h
  dsimp only at h
  cases ht : ckTopI S with
  | none => rw [ht] at h; cases h
  | some q =>
    obtain ⟨a, r⟩ := q
    rw [ht] at h
    cases h
    obtain ⟨x, st', rfl, h2, h3⟩ := ckTopI_s ht hS
    exact ⟨x, st', rfl, kk I F ws ls _ H locs (ckExt_rf _) (ckExt_rf _) (ckExt_rf _) ⟨hL, ⟨⟨_, x, rfl, h2, Int32.toInt_toInt64 x⟩, h3⟩, hE⟩ hW⟩
theorem ckS_l2i (h : ckL2I σ = some τ) (hR : ckRel nL tI sa SL SX nk σ I F ws ls st) (hW : ckWd s D cl A ws H locs) (kk : ckGoal k0 s0 p l e R s m args below meth c Q nL cl D tI sa SL SX nk A τ pc I F ws) :
    ∃ (x : Int64) (st' : List Value), st = .long x :: st' ∧ ∀ z : Int32, W p l e R s m args below meth c H locs (k0 + σ.2.2.2.2.2.2.2.2.1) (s0 + σ.2.2.2.2.2.2.2.2.2) Q (F0 m pc ls (.int z :: st')) := by
  obtain ⟨L, S, C, T, G, X, Z, K, nc, ns⟩ := σ
  obtain ⟨hL, hS, hE⟩ := hR
  unfold ckL2I at h
  dsimp only at h
  cases ht : ckTopL S with
  | none => rw [ht] at h; cases h
  | some r =>
    rw [ht] at h
    cases h
    obtain ⟨x, st', rfl, h3⟩ := ckTopL_s ht hS
    refine ⟨x, st', rfl, fun z => ?_⟩
    have hI := ckExt_app I [z]
    exact kk (I ++ [z]) F ws ls _ H locs hI (ckExt_rf _) (ckExt_rf _) ⟨hL.mono hI (ckExt_rf _), ⟨⟨_, rfl, by show (I ++ [z])[T.length]? = _; rw [hE.len]; exact ck_last _ _⟩, ck2_mono (fun _ _ q => q.mono hI (ckExt_rf _)) h3⟩, hE.addI (zs := []) (ckW_top _) fun z hz => absurd hz List.not_mem_nil⟩ hW
theorem ckS_ll (h : ckLL σ = some τ) (hR : ckRel nL tI sa SL SX nk σ I F ws ls st) (hW : ckWd s D cl A ws H locs) (kk : ckGoal k0 s0 p l e R s m args below meth c Q nL cl D tI sa SL SX nk A τ pc I F ws) :
    ∃ (x y : Int64) (st' : List Value), st = .long y :: .long x :: st' ∧ ∀ z : Int64, W p l e R s m args below meth c H locs (k0 + σ.2.2.2.2.2.2.2.2.1) (s0 + σ.2.2.2.2.2.2.2.2.2) Q (F0 m pc ls (.long z :: st')) := by
  obtain ⟨L, S, C, T, G, X, Z, K, nc, ns⟩ := σ
  obtain ⟨hL, hS, hE⟩ := hR
  unfold ckLL at h
  dsimp only at h
  cases ht : ckTopL S with
  | none => rw [ht] at h; cases h
  | some r =>
    rw [ht] at h
    dsimp only at h
    cases hu : ckTopL r with
    | none => rw [hu] at h; cases h
    | some r' =>
      rw [hu] at h
      cases h
      obtain ⟨y, st1, rfl, h3⟩ := ckTopL_s ht hS
      obtain ⟨x, st2, rfl, h4⟩ := ckTopL_s hu h3
      exact ⟨x, y, st2, rfl, fun z => kk I F ws ls _ H locs (ckExt_rf _) (ckExt_rf _) (ckExt_rf _) ⟨hL, ⟨⟨z, rfl⟩, h4⟩, hE⟩ hW⟩
theorem ckS_li (h : ckLI σ = some τ) (hR : ckRel nL tI sa SL SX nk σ I F ws ls st) (hW : ckWd s D cl A ws H locs) (kk : ckGoal k0 s0 p l e R s m args below meth c Q nL cl D tI sa SL SX nk A τ pc I F ws) :
    ∃ (x : Int64) (y : Int32) (st' : List Value), st = .int y :: .long x :: st' ∧ ∀ z : Int64, W p l e R s m args below meth c H locs (k0 + σ.2.2.2.2.2.2.2.2.1) (s0 + σ.2.2.2.2.2.2.2.2.2) Q (F0 m pc ls (.long z :: st')) := by
  obtain ⟨L, S, C, T, G, X, Z, K, nc, ns⟩ := σ
  obtain ⟨hL, hS, hE⟩ := hR
  unfold ckLI at h
  dsimp only at h
  cases ht : ckTopI S with
  | none => rw [ht] at h; cases h
  | some q =>
    obtain ⟨a, r⟩ := q
    rw [ht] at h
    dsimp only at h
    cases hu : ckTopL r with
    | none => rw [hu] at h; cases h
    | some r' =>
      rw [hu] at h
      cases h
      obtain ⟨y, st1, rfl, -, h3⟩ := ckTopI_s ht hS
      obtain ⟨x, st2, rfl, h4⟩ := ckTopL_s hu h3
      exact ⟨x, y, st2, rfl, fun z => kk I F ws ls _ H locs (ckExt_rf _) (ckExt_rf _) (ckExt_rf _) ⟨hL, ⟨⟨z, rfl⟩, h4⟩, hE⟩ hW⟩
theorem ckS_lcmp (h : ckLcmp σ = some τ) (hR : ckRel nL tI sa SL SX nk σ I F ws ls st) (hW : ckWd s D cl A ws H locs) (kk : ckGoal k0 s0 p l e R s m args below meth c Q nL cl D tI sa SL SX nk A τ pc I F ws) :
    ∃ (x y : Int64) (st' : List Value), st = .long y :: .long x :: st' ∧ ∀ z : Int32, (-1 ≤ z.toInt ∧ z.toInt ≤ 1) → W p l e R s m args below meth c H locs (k0 + σ.2.2.2.2.2.2.2.2.1) (s0 + σ.2.2.2.2.2.2.2.2.2) Q (F0 m pc ls (.int z :: st')) := by
  obtain ⟨L, S, C, T, G, X, Z, K, nc, ns⟩ := σ
  obtain ⟨hL, hS, hE⟩ := hR
  unfold ckLcmp at h
  dsimp only at h
  cases ht : ckTopL S with
  | none => rw [ht] at h; cases h
  | some r =>
    rw [ht] at h
    dsimp only at h
    cases hu : ckTopL r with
    | none => rw [hu] at h; cases h
    | some r' =>
      rw [hu] at h
      cases h
      obtain ⟨y, st1, rfl, h3⟩ := ckTopL_s ht hS
      obtain ⟨x, st2, rfl, h4⟩ := ckTopL_s hu h3
      refine ⟨x, y, st2, rfl, fun z hz => ?_⟩
      have hI := ckExt_app I [z]
      exact kk (I ++ [z]) F ws ls _ H locs hI (ckExt_rf _) (ckExt_rf _) ⟨hL.mono hI (ckExt_rf _), ⟨⟨_, rfl, by show (I ++ [z])[T.length]? = _; rw [hE.len]; exact ck_last _ _⟩, ck2_mono (fun _ _ q => q.mono hI (ckExt_rf _)) h4⟩, hE.addI (zs := []) hz fun z hz => absurd hz List.not_mem_nil⟩ hW
theorem ckS_ladd (h : ckLAdd σ = some τ) (hR : ckRel nL tI sa SL SX nk σ I F ws ls st) (hW : ckWd s D cl A ws H locs) (kk : ckGoal k0 s0 p l e R s m args below meth c Q nL cl D tI sa SL SX nk A τ pc I F ws) :
    ∃ (x y : Int64) (st' : List Value), st = .long y :: .long x :: st' ∧ W p l e R s m args below meth c H locs (k0 + σ.2.2.2.2.2.2.2.2.1) (s0 + σ.2.2.2.2.2.2.2.2.2) Q (F0 m pc ls (.long (x + y) :: st')) := by
  have old : ckLL σ = some τ → ∃ (x y : Int64) (st' : List Value), st = .long y :: .long x :: st' ∧ W p l e R s m args below meth c H locs (k0 + σ.2.2.2.2.2.2.2.2.1) (s0 + σ.2.2.2.2.2.2.2.2.2) Q (F0 m pc ls (.long (x + y) :: st')) := fun h => by
    obtain ⟨x, y, st', e1, w⟩ := ckS_ll h hR hW kk
    exact ⟨x, y, st', e1, w _⟩
  obtain ⟨L, S, C, T, G, X, Z, K, nc, ns⟩ := σ
  unfold ckLAdd at h
  split at h
  · rename_i b r0 hb
    split at h
    · rename_i a r ha
      obtain ⟨hL, hS, hE⟩ := hR
      have hT : ck2 ckW T I := hE.2.1
      have hZ : ∀ z ∈ Z, ckZok I z := hE.2.2.2.2.1
      obtain ⟨y, y', st1, rfl, b1, -, b3, b4⟩ := ckTopE_s hb hS
      obtain ⟨x, x', st2, rfl, a1, -, a3, a4⟩ := ckTopE_s ha b4
      have b3 := b3 rfl
      have a3 := a3 rfl
      have wa := ckIv_ok hT a1 hZ
      have wb := ckIv_ok hT b1 hZ
      have ra := ck_rng x'
      have rb := ck_rng y'
      have e1 : (x + y).toInt = x'.toInt + y'.toInt := by
        rw [Int64.toInt_add, a3, b3]
        exact Int.bmod_eq_of_le (by omega) (by omega)
      dsimp only at h
      split at h
      · rename_i hf
        cases h
        have hf := ckFit_t hf
        obtain ⟨z, hz⟩ : ∃ z : Int32, z.toInt = x'.toInt + y'.toInt := ⟨Int32.ofInt (x'.toInt + y'.toInt), by
          have h1 := wa.1
          have h2 := wa.2
          have h3 := wb.1
          have h4 := wb.2
          have h5 := hf.1
          have h6 := hf.2
          dsimp only at h5 h6
          rw [Int32.toInt_ofInt, show Int32.size = 4294967296 from rfl]
          exact Int.bmod_eq_of_le (by omega) (by omega)⟩
        refine ⟨x, y, st2, rfl, ?_⟩
        have hI := ckExt_app I [z]
        refine kk (I ++ [z]) F ws ls _ H locs hI (ckExt_rf _) (ckExt_rf _) ⟨hL.mono hI (ckExt_rf _), ⟨⟨_, z, rfl, by show (I ++ [z])[T.length]? = _; rw [hE.len]; exact ck_last _ _, by rw [e1, hz]⟩, ck2_mono (fun _ _ q => q.mono hI (ckExt_rf _)) a4⟩, hE.addI (zs := []) ?_ fun z hz => absurd hz List.not_mem_nil⟩ hW
        have h1 := wa.1
        have h2 := wa.2
        have h3 := wb.1
        have h4 := wb.2
        exact ⟨by show (ckIv Z T a).1 + (ckIv Z T b).1 ≤ z.toInt; omega, by show z.toInt ≤ (ckIv Z T a).2 + (ckIv Z T b).2; omega⟩
      · split at h
        · rename_i hn
          cases h
          have h0 := ckNn_t hn wa
          exact ⟨x, y, st2, rfl, kk I F ws ls _ H locs (ckExt_rf _) (ckExt_rf _) (ckExt_rf _) ⟨hL, ⟨⟨_, y', rfl, b1, by rw [e1]; omega⟩, a4⟩, hE⟩ hW⟩
        · exact old h
    · exact old h
  · exact old h
theorem ckCmp_ok {A B : ckI} {e : Bool} {x y : Int64} {x' y' : Int32} (wa : ckW A x') (wb : ckW B y') (hx : x'.toInt ≤ x.toInt) (he : e = true → x.toInt = x'.toInt) (hy : y.toInt = y'.toInt) : ckW (ckCmp A B e) (lg_cmp x y) := by
  have h1 := wa.1
  have h2 := wa.2
  have h3 := wb.1
  have h4 := wb.2
  have hc : (y.toInt < x.toInt → (lg_cmp x y).toInt = 1) ∧ (x.toInt = y.toInt → (lg_cmp x y).toInt = 0) ∧ (x.toInt < y.toInt → (lg_cmp x y).toInt = -1) := by
    unfold lg_cmp
    refine ⟨fun q => ?_, fun q => ?_, fun q => ?_⟩
    · rw [if_pos (Int64.lt_iff_toInt_lt.mpr q)]
      rfl
    · rw [if_neg (fun z => by have := Int64.lt_iff_toInt_lt.mp z; omega), if_pos (Int64.toInt_inj.mp q)]
      rfl
    · rw [if_neg (fun z => by have := Int64.lt_iff_toInt_lt.mp z; omega), if_neg (fun z => by rw [z] at q; omega)]
      rfl
  obtain ⟨c1, c2, c3⟩ := hc
  have r1 : -1 ≤ (lg_cmp x y).toInt ∧ (lg_cmp x y).toInt ≤ 1 := by
    rcases Int.lt_trichotomy x.toInt y.toInt with q | q | q
    · have := c3 q; omega
    · have := c2 q; omega
    · have := c1 q; omega
  unfold ckCmp
  constructor
  · dsimp only
    split
    · rename_i g
      have g := ckLe0_t g
      have := c1 (by omega)
      omega
    · split
      · rename_i g
        have g := ckLe0_t g
        rcases Int.lt_or_le y.toInt x.toInt with q | q
        · have := c1 q; omega
        · have := c2 (by omega); omega
      · exact r1.1
  · dsimp only
    split
    · exact r1.2
    · have he := he rfl
      split
      · rename_i g
        have g := ckLe0_t g
        have := c3 (by omega)
        omega
      · split
        · rename_i g
          have g := ckLe0_t g
          rcases Int.lt_or_le x.toInt y.toInt with q | q
          · have := c3 q; omega
          · have := c2 (by omega); omega
        · exact r1.2
theorem ckS_lcmpE (hlc : ∀ x y : Int64, -1 ≤ (lg_cmp x y).toInt ∧ (lg_cmp x y).toInt ≤ 1) (h : ckLcmpE σ = some τ) (hR : ckRel nL tI sa SL SX nk σ I F ws ls st) (hW : ckWd s D cl A ws H locs) (kk : ckGoal k0 s0 p l e R s m args below meth c Q nL cl D tI sa SL SX nk A τ pc I F ws) :
    ∃ (x y : Int64) (st' : List Value), st = .long y :: .long x :: st' ∧ W p l e R s m args below meth c H locs (k0 + σ.2.2.2.2.2.2.2.2.1) (s0 + σ.2.2.2.2.2.2.2.2.2) Q (F0 m pc ls (.int (lg_cmp x y) :: st')) := by
  have old : ckLcmp σ = some τ → ∃ (x y : Int64) (st' : List Value), st = .long y :: .long x :: st' ∧ W p l e R s m args below meth c H locs (k0 + σ.2.2.2.2.2.2.2.2.1) (s0 + σ.2.2.2.2.2.2.2.2.2) Q (F0 m pc ls (.int (lg_cmp x y) :: st')) := fun h => by
    obtain ⟨x, y, st', e1, w⟩ := ckS_lcmp h hR hW kk
    exact ⟨x, y, st', e1, w _ (hlc x y)⟩
  obtain ⟨L, S, C, T, G, X, Z, K, nc, ns⟩ := σ
  unfold ckLcmpE at h
  split at h
  · rename_i b r0 hb
    split at h
    · rename_i e a r ha
      cases h
      obtain ⟨hL, hS, hE⟩ := hR
      have hT : ck2 ckW T I := hE.2.1
      have hZ : ∀ z ∈ Z, ckZok I z := hE.2.2.2.2.1
      obtain ⟨y, y', st1, rfl, b1, -, b3, b4⟩ := ckTopE_s hb hS
      obtain ⟨x, x', st2, rfl, a1, a2, a3, a4⟩ := ckTopE_s ha b4
      refine ⟨x, y, st2, rfl, ?_⟩
      have hI := ckExt_app I [lg_cmp x y]
      exact kk (I ++ [lg_cmp x y]) F ws ls _ H locs hI (ckExt_rf _) (ckExt_rf _) ⟨hL.mono hI (ckExt_rf _), ⟨⟨_, rfl, by show (I ++ [lg_cmp x y])[T.length]? = _; rw [hE.len]; exact ck_last _ _⟩, ck2_mono (fun _ _ q => q.mono hI (ckExt_rf _)) a4⟩, hE.addI (zs := []) (ckCmp_ok (ckIv_ok hT a1 hZ) (ckIv_ok hT b1 hZ) a2 a3 (b3 rfl)) fun z hz => absurd hz List.not_mem_nil⟩ hW
    · exact old h
  · exact old h
end CKN

/-! THE CHECKER: a call over the machine, and a whole method -/
def ckGoodW (TW : List Jvm.Cond) : Prop := ∀ w ∈ TW, (w.onTables && w.keeps) = true ∨ ∃ ty, w = Jvm.Cond.arrayClass ty
/-- what a call's place in the class file stands for -/
def ckLinkC (MT : Nat → ckMt) (TW : List Jvm.Cond) (cl : List vw_C) (kc : Nat → Nat) (own : String) (i : Instr) (a b d : Nat) : Prop := match i with
  | .invokevirtual idx => Jvm.Cond.methodLink own idx (MT a).1 ∈ TW ∧ Jvm.Cond.instanceMethod (MT a).1 ∈ TW ∧ Jvm.Cond.selects (MT a).1.cls (MT a).1 (MT a).1 ∈ TW ∧ Jvm.Cond.initialized (MT a).1.cls ∈ TW ∧ Jvm.Cond.code (MT a).1 (MT a).2.1 (MT a).2.2.1 (MT a).2.2.2 ∈ TW ∧ ((MT a).1.cls ≠ "java/lang/invoke/MethodHandle" ∧ (MT a).1.cls ≠ "java/lang/invoke/VarHandle") ∧ (∃ k, b = k + 1 ∧ (parseMethodDescriptor (MT a).1.desc).map (fun d => d.parameters.length) = some k) ∧ (MT a).2.2.1 = d ∧ ((kc a = 900 ∧ (MT a).1.cls = "java/lang/String") ∨ (kc a ≠ 900 ∧ ∃ q : vw_C, cl[kc a]? = some q ∧ q.1 = (MT a).1.cls))
  | .invokestatic idx => a ≤ 999 → (Jvm.Cond.methodLink own idx (MT a).1 ∈ TW ∨ ∃ host, (own, idx, (MT a).1, host) ∈ ckNM) ∧ Jvm.Cond.static (MT a).1 ∈ TW ∧ Jvm.Cond.initialized (MT a).1.cls ∈ TW ∧ Jvm.Cond.code (MT a).1 (MT a).2.1 (MT a).2.2.1 (MT a).2.2.2 ∈ TW ∧ ((MT a).1.cls ≠ "java/lang/invoke/MethodHandle" ∧ (MT a).1.cls ≠ "java/lang/invoke/VarHandle") ∧ (parseMethodDescriptor (MT a).1.desc).map (fun d => d.parameters.length) = some b ∧ (MT a).2.2.1 = d
  | .invokespecial idx => a ≤ 999 → (Jvm.Cond.methodLink own idx (MT a).1 ∈ TW ∨ ∃ host, (own, idx, (MT a).1, host) ∈ ckNM) ∧ Jvm.Cond.instanceMethod (MT a).1 ∈ TW ∧ Jvm.Cond.initialized (MT a).1.cls ∈ TW ∧ Jvm.Cond.code (MT a).1 (MT a).2.1 (MT a).2.2.1 none ∈ TW ∧ ((MT a).1.cls ≠ "java/lang/invoke/MethodHandle" ∧ (MT a).1.cls ≠ "java/lang/invoke/VarHandle") ∧ (∃ k, b = k + 1 ∧ (parseMethodDescriptor (MT a).1.desc).map (fun d => d.parameters.length) = some k) ∧ (MT a).2.2.1 = d ∧ (MT a).2.2.2 = none ∧ (MT a).1.name = "<init>" ∧ Nat.beq (kc a) 900 = false
  | _ => True
section CKCALL
variable {k0 s0 : Nat} {p : Program} {l : Launch} {e : Env} {R : Room} {s : State} {m : MethodId} {args : Array Value} {below : List Frame} {meth : Method} {c : Code} {Q : State → Prop} {nL : Nat} {cl : List vw_C} {D : va_G} {tI : Nat → ClassId} {sa SL : Nat → Nat} {SX : Nat → Nat → Int32} {nk : Nat} {A : Nat → Prop} {cc : ByteArray} {own : String} {ini : Bool} {mc ms : Nat} {TW : List Jvm.Cond} {MT : Nat → ckMt}
variable {σ : ckS} {pc : Nat} {I : List Int32} {F : List (Nat → Int32)} {ws : va_W} {ls : Array Slot} {st : List Value} {H : Heap} {locs : List Loc}
theorem ckCall_go {P : Outcome → State → Prop} {A1 : Nat → Prop} {cells slots k n : Nat} {st0 rest : List Value} {a : Array Value} {free : Addr → Prop} (hr : va_Run p l e R s m args below meth c H locs cells slots k n (F0 m pc ls st0) rest ((fun _ st oc t => P oc t ∧ va_F A1 st t : Array Value → State → Outcome → State → Prop) a) free) (hS : va_S A s.heap H locs) (hA : ∀ q, q < H.size → A1 q → A q) (hf : ∀ q, free q → A q)
    (kk : ∀ (v : Option Value) (t : State) (H1 : Heap) (locs1 : List Loc), t.heap = H1 → s.vm.Alike t.vm → P (.returned v) t → H.size ≤ H1.size → (∀ q : Nat, q < H.size → ¬ A1 q → H1[q]? = H[q]?) → va_S A s.heap H1 locs1 → W p l e R s m args below meth c H1 locs1 (cells + k) (slots + n) Q (F0 m (pc + 3) ls (v.toList ++ rest))) : W p l e R s m args below meth c H locs cells slots Q (F0 m pc ls st0) := by
  intro T hT X
  obtain ⟨v, st₀, t, T', L, h0, X', hL, e1, e2, ⟨hp, hz, hk⟩, st⟩ := hr T hT X
  rw [h0] at hz hk
  obtain ⟨t2, a1, b1⟩ := kk v t T'.heap (locs ++ L) e1.symm (by rw [← e2]; exact X'.warmed.alike) hp (by rw [e1]; exact hz) (fun q h1 h2 => by rw [e1]; exact hk q h1 h2)
    ⟨Nat.le_trans hS.1 (by rw [e1]; exact hz), fun q h1 h2 => by rw [e1, hk q (Nat.lt_of_lt_of_le h1 hS.1) (fun z => h2 (hA q (Nat.lt_of_lt_of_le h1 hS.1) z))]; exact hS.2.1 q h1 h2, fun q hq => by
      rcases List.mem_append.mp hq with h | h
      · exact hS.2.2 q h
      · exact hf _ (hL q h)⟩ T' rfl X'
  exact ⟨t2, st t2 a1, b1⟩
theorem ckCalls_ok (hC : ckCx k0 s0 p R s m args meth c cc nL own ini mc ms TW cl D tI sa SL SX nk A) {mid n d fr wd : Nat} {go : ckS → Bool} {rv : ckCtr → Bool} (hml : (MT mid).2.2.1 = d) (hR : ckRel nL tI sa SL SX nk σ I F ws ls st) (hW : ckWd s D cl A ws H locs)
    (hnk : nk ≤ 10)
    (run : ∀ (κ : ckCtr) (As rst : List Value) (I0 : List Int32) (F0' : List (Nat → Int32)) (wc : va_W) (sa' : Nat → Nat), (∀ k, k < 10 → sa' k = sa k) → κ.1 = mid → κ.2.2.2.1 + 1 ≤ fr → κ.2.2.2.2.1 + (19 + d) ≤ wd → σ.2.2.2.2.2.2.2.2.1 + κ.2.2.2.2.2.1 ≤ mc → σ.2.2.2.2.2.2.2.2.2 + κ.2.2.2.2.2.2 ≤ ms → rv κ = true → st = As.reverse ++ rst → As.length = n → (rst.map fun v => v.category).sum ≤ 8 → ckRL d I0 (wc.map Prod.fst) sa' κ.2.1.1 (ckEntry As d) → ckEnvS tI sa' SL SX nk κ.2.1 I0 F0' wc → va_P D cl wc H → PreS s H (ckPc D cl tI sa' SL SX nk wc As H.size) As →
      Met l (MT mid).1 (ckWs MT TW mid) (ckRoom κ) (ckPc D cl tI sa' SL SX nk wc As H.size) (ckQc D cl tI sa' SL SX nk κ.2.1 κ.2.2.1 I0 F0' wc H.size) κ.2.2.2.2.2.1 κ.2.2.2.2.2.2 (va_A wc H.size) →
      va_Run p l e R s m args below meth c H locs (k0 + σ.2.2.2.2.2.2.2.2.1) (s0 + σ.2.2.2.2.2.2.2.2.2) κ.2.2.2.2.2.1 κ.2.2.2.2.2.2 (F0 m pc ls st) rst (ckQc D cl tI sa' SL SX nk κ.2.1 κ.2.2.1 I0 F0' wc H.size As.toArray) (va_A wc H.size))
    (kk : ∀ τ : ckS, go τ = true → ckGoal k0 s0 p l e R s m args below meth c Q nL cl D tI sa SL SX nk A τ (pc + 3) I F ws) :
    ∀ {κs : List ckCtr}, ckCalls rv mid n d fr wd mc ms σ go κs = true → (∀ κ ∈ κs, ckCtrOk l MT TW cl κ) → W p l e R s m args below meth c H locs (k0 + σ.2.2.2.2.2.2.2.2.1) (s0 + σ.2.2.2.2.2.2.2.2.2) Q (F0 m pc ls st)
  | [], h, _ => by cases h
  | κ :: κs, h, hκ => by
    have ih := @ckCalls_ok hC mid n d fr wd go rv hml hR hW hnk run kk κs
    have hκ' : ∀ κ ∈ κs, ckCtrOk l MT TW cl κ := fun k hk => hκ k (List.mem_cons_of_mem _ hk)
    unfold ckCalls at h
    cases hb : Nat.beq κ.1 mid with
    | false => rw [hb] at h; exact ih h hκ'
    | true =>
      rw [hb] at h
      have em := Nat.eq_of_beq_eq_true hb
      dsimp only at h
      cases he : ckEnter κ n d σ with
      | none => rw [he] at h; exact ih h hκ'
      | some q =>
        obtain ⟨μ, ω, rest⟩ := q
        rw [he] at h
        dsimp only at h
        split at h
        · cases h
        rename_i hrv
        split at h
        · cases h
        rename_i hfr
        split at h
        · cases h
        rename_i hwd
        split at h
        · cases h
        rename_i hmc
        split at h
        · cases h
        rename_i hms
        have hfr := Nat.le_of_ble_eq_true hfr
        have hwd := Nat.le_of_ble_eq_true hwd
        have hmc := Nat.le_of_ble_eq_true hmc
        have hms := Nat.le_of_ble_eq_true hms
        obtain ⟨hx, hb', hml', hown, hts, hK, hA, hin, hso, hst, hcls, hrc, hrs, hrf, hrl, hns⟩ := hC
        obtain ⟨hP, hD, hS⟩ := id hW
        obtain ⟨As, rst, I0, F0', wc, sa', es, eo, e1, e2, e3, e4, e5, e6, e7, gI, gF, gC, inj⟩ := ckEnter_ok he hR
        have hPc : va_P D cl wc H := fun k q hq => hP _ q (by rw [← gC k (List.getElem?_eq_some_iff.mp hq).1]; exact hq)
        have hDc : va_D (fun _ => True) wc := ⟨fun i j x y hi hj hxy => by
          have li := (List.getElem?_eq_some_iff.mp hi).1
          have lj := (List.getElem?_eq_some_iff.mp hj).1
          rw [gC i li] at hi
          rw [gC j lj] at hj
          exact inj i j li lj (hD.1 _ _ x y hi hj hxy), fun _ _ _ => True.intro⟩
        have hF : ∀ q, va_A wc H.size q → A q := by
          intro q hq
          rcases hq with ⟨k, x, hk⟩ | hq
          · have lk := (List.getElem?_eq_some_iff.mp hk).1
            rw [gC k lk] at hk
            exact hD.2 _ (q, x) hk
          · exact hA q (Nat.le_trans hS.1 hq)
        have hpre : PreS s H (ckPc D cl tI sa' SL SX nk wc As H.size) As := ⟨ckPc_blind, fun U hU hWm => ⟨rfl, by rw [hU], by rw [hU]; exact hPc, va_K.moved hWm.alike hK, hDc, by rw [hU]; exact (hst.cong hnk es).moved hWm.alike hS hF, (hns.cong es).warm hWm⟩⟩
        subst em
        have hM := hκ κ List.mem_cons_self D tI sa' SL SX nk hso hnk I0 F0' wc As H.size (by rw [hml]; exact e3) (by rw [hml]; exact e6) e7
        have hr := run κ As rst I0 F0' wc sa' es rfl hfr hwd hmc hms hrv e1 e2 e5 e6 e7 hPc hpre hM
        refine ckCall_go (a := As.toArray) hr hS (fun q _ h => hF q h) hF fun v t H1 locs1 ht hvm hp hz hk hS1 => ?_
        obtain ⟨δ, hδ, I2, F2, ws2, rv, q1, xI, xF, xA, q2, q3, q4, q5, q6⟩ := hp
        cases q1
        rw [ht] at q4
        have h9 := ckAll_mem h δ hδ
        split at h9
        · cases h9
        rename_i hts'
        have lT0 : κ.2.1.2.2.2.1.length = I0.length := ckEnv.len e7
        obtain ⟨τ, t1, t2, t3, t4, t5⟩ := ckLeave_ok (rest := rest) (δ := δ) (μ := μ) eo hR e4 e7 gI gF gC xI xF xA q2 q3 (fun q hq => by
          have := Nat.le_of_ble_eq_true (ckAll_mem hts' q hq)
          omega)
        rw [t1] at h9
        have lC0 : (wc.map Prod.fst).length ≤ (ws2.map Prod.fst).length := ckExt_len xA
        rw [List.length_map, List.length_map] at lC0
        obtain ⟨w1, w2⟩ := ckPlc_world (n := wc.length) (ps := μ.2.2) hP hD rfl gC inj hk hF q4 q6 lC0
        rw [Nat.add_assoc k0, Nat.add_assoc s0, ← t4, ← t5]
        exact kk τ h9 _ _ _ ls _ H1 locs1 (ckExt_app _ _) (ckExt_app _ _) t3 t2 ⟨w1, w2, hS1⟩
end CKCALL

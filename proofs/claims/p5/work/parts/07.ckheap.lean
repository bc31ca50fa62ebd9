/-! THE CHECKER: cells and rows -/
theorem ck_ws {ws : va_W} {o a : Nat} {x : va_E} (h1 : (ws.map Prod.fst)[o]? = some a) (h2 : (ws.map Prod.snd)[o]? = some x) : ws[o]? = some (a, x) := by
  rw [List.getElem?_map] at h1 h2
  cases h : ws[o]? with
  | none => rw [h] at h1; cases h1
  | some q =>
    rw [h] at h1 h2
    cases h1
    cases h2
    rfl
theorem ck_fst_set {ws : va_W} {o a : Nat} {x y : va_E} (h : ws[o]? = some (a, x)) : (ws.set o (a, y)).map Prod.fst = ws.map Prod.fst := by
  rw [List.map_set]
  apply List.ext_getElem?
  intro i
  rw [List.getElem?_set]
  by_cases hi : o = i
  · subst hi
    have hl := (List.getElem?_eq_some_iff.mp h).1
    rw [if_pos rfl, if_pos (by rw [List.length_map]; exact hl), List.getElem?_map, h]
    rfl
  · rw [if_neg hi]
theorem ck_snd_set {ws : va_W} {o a : Nat} {y : va_E} : (ws.set o (a, y)).map Prod.snd = (ws.map Prod.snd).set o y := by
  rw [List.map_set]
theorem ckIn_s {T : List ckI} {Z : List ckZ} {I : List Int32} (hT : ck2 ckW T I) (hZ : ∀ z ∈ Z, ckZok I z) {i ln n : Nat} {x : Int32} (h : ckIn T Z i ln = true) (hi : I[i]? = some x) (hl : I[ln]? = some (nI n)) (hn : n < 2 ^ 31) : vp_in x n ∧ x.toNatClampNeg < n := by
  unfold ckIn at h
  cases h1 : ckNn (ckIv Z T i) with
  | false => rw [h1] at h; cases h
  | true =>
    rw [h1] at h
    have h2 := ckNn_t h1 (ckIv_ok hT hi hZ)
    have h3 := ckLeq_ok hT hZ h hi hl
    rw [nI_toInt hn] at h3
    have e : x.toNatClampNeg = x.toInt.toNat := rfl
    exact ⟨vp_in_iff.mpr ⟨h2, by omega⟩, by omega⟩
section CKH
variable {k0 s0 : Nat} {p : Program} {l : Launch} {e : Env} {R : Room} {s : State} {m : MethodId} {args : Array Value} {below : List Frame} {meth : Method} {c : Code} {Q : State → Prop} {nL : Nat} {cl : List vw_C} {D : va_G} {tI : Nat → ClassId} {sa SL : Nat → Nat} {SX : Nat → Nat → Int32} {nk : Nat} {A : Nat → Prop}
variable {σ τ : ckS} {pc : Nat} {I : List Int32} {F : List (Nat → Int32)} {ws : va_W} {ls : Array Slot} {st : List Value} {H : Heap} {locs : List Loc}
/-- the cell that a number of a cell tells -/
theorem ckEnv.cell {C : List ckC} {T : List ckI} {G : List ckG} {X : List ckX} {Z : List ckZ} {K : List ckK} (h : ckEnv tI sa SL SX nk C T G X Z K I F ws) {o a : Nat} {q : ckC} (h1 : (ws.map Prod.fst)[o]? = some a) (h2 : C[o]? = some q) : ∃ x : va_E, ws[o]? = some (a, x) ∧ ckOf tI I F (ws.map Prod.fst) sa q x := by
  obtain ⟨x, g1, g2⟩ := ck2_get h.1 h2
  exact ⟨x, ck_ws h1 g1, g2⟩
theorem ckS_getf {ci k : Nat} (h : ckGetf ci k σ = some τ) (hR : ckRel nL tI sa SL SX nk σ I F ws ls st) (hW : ckWd s D cl A ws H locs) (kk : ckGoal k0 s0 p l e R s m args below meth c Q nL cl D tI sa SL SX nk A τ pc I F ws) :
    ∃ (o a : Nat) (vs : List Value) (v : Value) (st' : List Value), st = .ref a :: st' ∧ ws[o]? = some (a, .inr (ci, vs)) ∧ vs[k]? = some v ∧ W p l e R s m args below meth c H locs (k0 + σ.2.2.2.2.2.2.2.2.1) (s0 + σ.2.2.2.2.2.2.2.2.2) Q (F0 m pc ls (v :: st')) := by
  obtain ⟨L, S, C, T, G, X, Z, K, nc, ns⟩ := σ
  obtain ⟨hL, hS, hE⟩ := hR
  unfold ckGetf at h
  dsimp only at h
  cases ht : ckTopR S with
  | none => rw [ht] at h; cases h
  | some q =>
    obtain ⟨o, r⟩ := q
    rw [ht] at h
    dsimp only at h
    obtain ⟨a, st', rfl, h2, h3⟩ := ckTopR_s ht hS
    cases hc : C[o]? with
    | none => rw [hc] at h; cases h
    | some q =>
      rw [hc] at h
      cases q with
      | inr q => cases h
      | inl q =>
        obtain ⟨cj, fs⟩ := q
        dsimp only at h
        cases hb : Nat.beq ci cj with
        | false => rw [hb] at h; cases h
        | true =>
          rw [hb] at h
          have ec := Nat.eq_of_beq_eq_true hb
          subst ec
          dsimp only at h
          cases hf : fs[k]? with
          | none => rw [hf] at h; cases h
          | some q =>
            rw [hf] at h
            dsimp only at h
            cases ho : ckOne q with
            | false => rw [ho] at h; cases h
            | true =>
              rw [ho] at h
              cases h
              obtain ⟨x, g1, vs, rfl, g3⟩ := hE.cell h2 hc
              obtain ⟨v, v1, v2⟩ := ck2_get g3 hf
              exact ⟨o, a, vs, v, st', rfl, g1, v1, kk I F ws ls _ H locs (ckExt_rf _) (ckExt_rf _) (ckExt_rf _) ⟨hL, ⟨v2, h3⟩, hE⟩ hW⟩
theorem ckS_putf {ci k kd : Nat} (h : ckPutf ci k kd σ = some τ) (hR : ckRel nL tI sa SL SX nk σ I F ws ls st) (kk : ckGoal k0 s0 p l e R s m args below meth c Q nL cl D tI sa SL SX nk A τ pc I F ws) :
    ∃ (o a : Nat) (vs : List Value) (v : Value) (st' : List Value), st = v :: .ref a :: st' ∧ ws[o]? = some (a, .inr (ci, vs)) ∧ k < vs.length ∧ (kd = 0 → ∃ x : Int32, v = .int x) ∧ (kd = 1 → ∃ x : Int32, v = .int x ∧ 0 ≤ x.toInt ∧ x.toInt ≤ 1) ∧ (kd = 2 → ∃ y : Nat, v = .ref y) ∧ kd ≤ 2 ∧
      ∀ (H1 : Heap) (locs1 : List Loc), va_P D cl (ws.set o (a, .inr (ci, vs.set k v))) H1 → va_D A (ws.set o (a, .inr (ci, vs.set k v))) → va_S A s.heap H1 locs1 → W p l e R s m args below meth c H1 locs1 (k0 + σ.2.2.2.2.2.2.2.2.1) (s0 + σ.2.2.2.2.2.2.2.2.2) Q (F0 m pc ls st') := by
  obtain ⟨L, S, C, T, G, X, Z, K, nc, ns⟩ := σ
  obtain ⟨hL, hS, hE⟩ := hR
  unfold ckPutf at h
  dsimp only at h
  cases S with
  | nil => cases h
  | cons q r =>
    dsimp only at h
    cases st with
    | nil => exact hS.elim
    | cons v st =>
      cases hp : ckPutOk kd q T Z with
      | false => rw [hp] at h; cases h
      | true =>
        rw [hp] at h
        dsimp only at h
        cases ht : ckTopR r with
        | none => rw [ht] at h; cases h
        | some t =>
          obtain ⟨o, r'⟩ := t
          rw [ht] at h
          dsimp only at h
          obtain ⟨a, st', rfl, h2, h3⟩ := ckTopR_s ht hS.2
          cases hc : C[o]? with
          | none => rw [hc] at h; cases h
          | some t =>
            rw [hc] at h
            cases t with
            | inr t => cases h
            | inl t =>
              obtain ⟨cj, fs⟩ := t
              dsimp only at h
              cases hb : Nat.beq ci cj with
              | false => rw [hb] at h; cases h
              | true =>
                rw [hb] at h
                have ec := Nat.eq_of_beq_eq_true hb
                subst ec
                dsimp only at h
                cases hl : Nat.ble (k + 1) fs.length with
                | false => rw [hl] at h; cases h
                | true =>
                  rw [hl] at h
                  cases h
                  obtain ⟨x, g1, vs, rfl, g3⟩ := hE.cell h2 hc
                  have hlen := ck2_len g3
                  have hv := hS.1
                  obtain ⟨t, n⟩ := q
                  refine ⟨o, a, vs, v, st', rfl, g1, by have := Nat.le_of_ble_eq_true hl; omega, ?_, ?_, ?_, ?_, ?_⟩
                  · rintro rfl
                    have et : t = 0 := Nat.eq_of_beq_eq_true hp
                    subst et
                    obtain ⟨x, rfl, -⟩ := hv
                    exact ⟨x, rfl⟩
                  · rintro rfl
                    unfold ckPutOk at hp
                    dsimp only at hp
                    cases hz : Nat.beq t 0 with
                    | false => rw [hz] at hp; cases hp
                    | true =>
                      rw [hz] at hp
                      have et := Nat.eq_of_beq_eq_true hz
                      subst et
                      obtain ⟨x, rfl, hx⟩ := hv
                      have wx := ckIv_ok hE.2.1 hx hE.2.2.2.2.1
                      dsimp only at hp
                      cases hq : ckLe0 0 (ckIv Z T n).1 with
                      | false => rw [hq] at hp; cases hp
                      | true =>
                        rw [hq] at hp
                        exact ⟨x, rfl, Int.le_trans (ckLe0_t hq) wx.1, Int.le_trans wx.2 (ckLe0_t hp)⟩
                  · rintro rfl
                    have et : t = 1 := Nat.eq_of_beq_eq_true hp
                    subst et
                    obtain ⟨y, rfl, -⟩ := hv
                    exact ⟨y, rfl⟩
                  · rcases Nat.lt_or_ge 2 kd with q | q
                    · unfold ckPutOk at hp
                      split at hp <;> first | omega | cases hp
                    · exact q
                  · intro H1 locs1 hP hD hSS
                    have e1 := ck_fst_set (y := .inr (ci, vs.set k v)) g1
                    refine kk I F _ ls st' H1 locs1 (ckExt_rf _) (ckExt_rf _) (by rw [e1]; exact ckExt_rf _) ⟨by rw [e1]; exact hL, by rw [e1]; exact h3, ?_⟩ ⟨hP, hD, hSS⟩
                    refine ⟨?_, hE.2⟩
                    rw [e1, ck_snd_set]
                    exact ck2_set o hE.1 ⟨_, rfl, ck2_set k g3 hv⟩
theorem ckRd_ok {fl : Bool} {fv i v : Nat} {J : List Int32} {E : List (Nat → Int32)} {g : Nat → Int32} {x : Int32} (h1 : E[fv]? = some g) (h2 : J[i]? = some x) (h3 : J[v]? = some (g x.toNatClampNeg)) : ∀ k ∈ ckRd fl fv i v, ckKok J E k := by
  intro k hk
  unfold ckRd at hk
  split at hk
  · rcases List.mem_cons.mp hk with rfl | hk
    · exact ⟨g, x, _, h1, h2, h3, rfl⟩
    · exact absurd hk List.not_mem_nil
  · exact absurd hk List.not_mem_nil
theorem ckUp_ok {fl : Bool} {fn fo i x : Nat} {J : List Int32} {E : List (Nat → Int32)} {g : Nat → Int32} {y z : Int32} (h1 : E[fn]? = some (upd g y.toNatClampNeg z)) (h2 : E[fo]? = some g) (h3 : J[i]? = some y) (h4 : J[x]? = some z) : ∀ k ∈ ckUp fl fn fo i x, ckKok J E k := by
  intro k hk
  unfold ckUp at hk
  split at hk
  · rcases List.mem_cons.mp hk with rfl | hk
    · exact ⟨_, g, y, z, h1, h2, h3, h4, fun t => rfl⟩
    · exact absurd hk List.not_mem_nil
  · exact absurd hk List.not_mem_nil
theorem ckCmd_upd {g : Nat → Int32} {i : Nat} {z : Int32} (h : ckCmd g) (hi : i < 77 ∨ 196 < i) : ckCmd (upd g i z) := by
  intro k hk
  have e : ∀ t : Nat, 77 ≤ t → t ≤ 196 → upd g i z t = g t := fun t h1 h2 => by unfold upd; rw [if_neg (by omega)]
  rw [e _ (by omega) (by omega), e _ (by omega) (by omega), e _ (by omega) (by omega)]
  exact h k hk
theorem ckTrn_ok {w : ckI} {fo fn : Nat} {J : List Int32} {E : List (Nat → Int32)} {g : Nat → Int32} {y z : Int32} (h1 : E[fn]? = some (upd g y.toNatClampNeg z)) (h2 : E[fo]? = some g) (hw : ckW w y) : ∀ {K : List ckK}, (∀ k ∈ K, ckKok J E k) → ∀ k ∈ ckTrn w fo fn K, ckKok J E k
  | [], _, k, hk => absurd hk List.not_mem_nil
  | q :: K, h, k, hk => by
    have ih := ckTrn_ok h1 h2 hw (K := K) (fun k hk => h k (List.mem_cons_of_mem _ hk)) k
    unfold ckTrn at hk
    split at hk
    · exact ih hk
    rename_i b1
    split at hk
    · exact ih hk
    rename_i b2
    split at hk
    · exact ih hk
    rename_i b3
    have e1 := Nat.eq_of_beq_eq_true b1
    have e2 := Nat.eq_of_beq_eq_true b2
    have e3 := ckLe0_t b3
    have hq := h q List.mem_cons_self
    obtain ⟨qk, qa, qr⟩ := q
    dsimp only at e1 e2
    subst e1; subst e2
    obtain ⟨f, f1, f2⟩ := hq
    dsimp only at f1
    rw [h2] at f1
    cases f1
    have hn : (y.toNatClampNeg : Int) = y.toInt := by
      have := hw.1
      show ((y.toInt.toNat : Nat) : Int) = y.toInt
      omega
    split at hk
    · rename_i b4
      have b4 := ckLe0_t b4
      rcases List.mem_cons.mp hk with rfl | hk
      · exact ⟨_, h1, ckCmd_upd f2 (Or.inl (by have := hw.2; omega))⟩
      · exact ih hk
    · split at hk
      · rename_i b5
        have b5 := ckLe0_t b5
        rcases List.mem_cons.mp hk with rfl | hk
        · exact ⟨_, h1, ckCmd_upd f2 (Or.inr (by have := hw.1; omega))⟩
        · exact ih hk
      · exact ih hk
theorem ckS_ald {t : Nat} {fl : Bool} (ht1 : t ≠ 1) (h : ckAld t fl σ = some τ) (hR : ckRel nL tI sa SL SX nk σ I F ws ls st) (hW : ckWd s D cl A ws H locs) (kk : ckGoal k0 s0 p l e R s m args below meth c Q nL cl D tI sa SL SX nk A τ pc I F ws) :
    ∃ (o a n : Nat) (f : Nat → Int32) (i : Int32) (st' : List Value), st = .int i :: .ref a :: st' ∧ ws[o]? = some (a, .inl (tI t, n, .inl f)) ∧ vp_in i n ∧ W p l e R s m args below meth c H locs (k0 + σ.2.2.2.2.2.2.2.2.1) (s0 + σ.2.2.2.2.2.2.2.2.2) Q (F0 m pc ls (.int (f i.toNatClampNeg) :: st')) := by
  obtain ⟨L, S, C, T, G, X, Z, K, nc, ns⟩ := σ
  obtain ⟨hL, hS, hE⟩ := hR
  unfold ckAld at h
  dsimp only at h
  cases hi : ckTopI S with
  | none => rw [hi] at h; cases h
  | some q =>
    obtain ⟨i, r⟩ := q
    rw [hi] at h
    dsimp only at h
    obtain ⟨x, st1, rfl, hx, hS1⟩ := ckTopI_s hi hS
    cases hr : ckTopR r with
    | none => rw [hr] at h; cases h
    | some q =>
      obtain ⟨o, r'⟩ := q
      rw [hr] at h
      dsimp only at h
      obtain ⟨a, st2, rfl, h2, hS2⟩ := ckTopR_s hr hS1
      cases hc : C[o]? with
      | none => rw [hc] at h; cases h
      | some q =>
        rw [hc] at h
        cases q with
        | inl q => cases h
        | inr q =>
          obtain ⟨u, ln, fv⟩ := q
          dsimp only at h
          cases hb : Nat.beq u t with
          | false => rw [hb] at h; cases h
          | true =>
            rw [hb] at h
            have eu := Nat.eq_of_beq_eq_true hb
            subst eu
            dsimp only at h
            cases hn : ckIn T Z i ln with
            | false => rw [hn] at h; cases h
            | true =>
              rw [hn] at h
              dsimp only at h
              cases hd : ckRead T G Z fv i with
              | none => rw [hd] at h; cases h
              | some q =>
                obtain ⟨v, T1, G1⟩ := q
                rw [hd] at h
                cases h
                obtain ⟨y, g1, n, n1, n2, g2⟩ := hE.cell h2 hc
                split at g2
                · exact absurd rfl ht1
                · obtain ⟨f, g, rfl, f1, f2⟩ := g2
                  obtain ⟨k1, k2⟩ := ckIn_s hE.2.1 hE.2.2.2.2.1 hn hx n2 n1
                  obtain ⟨I1, i1, i2, hE1⟩ := ckRead_ok hE f1 hx hd
                  refine ⟨o, a, n, f, x, st2, rfl, g1, k1, ?_⟩
                  exact kk I1 F ws ls _ H locs i1 (ckExt_rf _) (ckExt_rf _) ⟨hL.mono i1 (ckExt_rf _), ⟨⟨_, rfl, by rw [f2 _ k2]; exact i2⟩, ck2_mono (fun _ _ q => q.mono i1 (ckExt_rf _)) hS2⟩, hE1.addK (ckRd_ok f1 (i1 _ _ hx) i2)⟩ hW
theorem ckS_old (hs : ckStO SL SX nk) (h : ckOld σ = some τ) (hR : ckRel nL tI sa SL SX nk σ I F ws ls st) (hW : ckWd s D cl A ws H locs) (kk : ckGoal k0 s0 p l e R s m args below meth c Q nL cl D tI sa SL SX nk A τ pc I F ws) :
    ∃ (k : Nat) (i : Int32) (st' : List Value), st = .int i :: .ref (sa k) :: st' ∧ k < nk ∧ vp_in i (SL k) ∧ W p l e R s m args below meth c H locs (k0 + σ.2.2.2.2.2.2.2.2.1) (s0 + σ.2.2.2.2.2.2.2.2.2) Q (F0 m pc ls (.int (SX k i.toNatClampNeg) :: st')) := by
  obtain ⟨L, S, C, T, G, X, Z, K, nc, ns⟩ := σ
  obtain ⟨hL, hS, hE⟩ := hR
  unfold ckOld at h
  dsimp only at h
  cases hi : ckTopI S with
  | none => rw [hi] at h; cases h
  | some q =>
    obtain ⟨i, r⟩ := q
    rw [hi] at h
    dsimp only at h
    obtain ⟨x, st1, rfl, hx, hS1⟩ := ckTopI_s hi hS
    cases r with
    | nil => cases h
    | cons q r =>
      obtain ⟨t, k⟩ := q
      dsimp only at h
      cases st1 with
      | nil => exact hS1.elim
      | cons v st2 =>
        cases hb : Nat.beq t 4 with
        | false => rw [hb] at h; cases h
        | true =>
          rw [hb] at h
          have et := Nat.eq_of_beq_eq_true hb
          subst et
          have ev : v = .ref (sa k) := hS1.1
          subst ev
          dsimp only at h
          cases hg : ckXget k (L, S, C, T, G, X, Z, K, nc, ns) with
          | none => rw [hg] at h; cases h
          | some q =>
            obtain ⟨ln, fv, ρ⟩ := q
            obtain ⟨I1, F1, T1, G1, X1, e1, e2, hE1, ⟨k0, k1, k2, g, k3, k4⟩, rfl⟩ := ckXget_ok hs hE hg
            rw [hg] at h
            dsimp only at h
            cases hn : ckIn T1 Z i ln with
            | false => rw [hn] at h; cases h
            | true =>
              rw [hn] at h
              dsimp only at h
              cases hd : ckRead T1 G1 Z fv i with
              | none => rw [hd] at h; cases h
              | some q =>
                obtain ⟨v, T2, G2⟩ := q
                rw [hd] at h
                cases h
                have hx1 := e1 _ _ hx
                obtain ⟨m1, m2⟩ := ckIn_s hE1.2.1 hE1.2.2.2.2.1 hn hx1 k2 k1
                obtain ⟨I2, i1, i2, hE2⟩ := ckRead_ok hE1 k3 hx1 hd
                have e3 := e1.trans i1
                refine ⟨k, x, st2, rfl, k0, m1, ?_⟩
                exact kk I2 F1 ws ls _ H locs e3 e2 (ckExt_rf _) ⟨hL.mono e3 (ckExt_rf _), ⟨⟨_, rfl, by rw [k4 _ m2]; exact i2⟩, ck2_mono (fun _ _ q => q.mono e3 (ckExt_rf _)) hS1.2⟩, hE2⟩ hW
theorem ckS_lald (h : ckLald σ = some τ) (hR : ckRel nL tI sa SL SX nk σ I F ws ls st) (hW : ckWd s D cl A ws H locs) (kk : ckGoal k0 s0 p l e R s m args below meth c Q nL cl D tI sa SL SX nk A τ pc I F ws) :
    ∃ (o a n : Nat) (f : Nat → Int64) (i : Int32) (st' : List Value), st = .int i :: .ref a :: st' ∧ ws[o]? = some (a, .inl (tI 1, n, .inr (.inl f))) ∧ vp_in i n ∧ ∀ z : Int64, W p l e R s m args below meth c H locs (k0 + σ.2.2.2.2.2.2.2.2.1) (s0 + σ.2.2.2.2.2.2.2.2.2) Q (F0 m pc ls (.long z :: st')) := by
  obtain ⟨L, S, C, T, G, X, Z, K, nc, ns⟩ := σ
  obtain ⟨hL, hS, hE⟩ := hR
  unfold ckLald at h
  dsimp only at h
  cases hi : ckTopI S with
  | none => rw [hi] at h; cases h
  | some q =>
    obtain ⟨i, r⟩ := q
    rw [hi] at h
    dsimp only at h
    obtain ⟨x, st1, rfl, hx, hS1⟩ := ckTopI_s hi hS
    cases hr : ckTopR r with
    | none => rw [hr] at h; cases h
    | some q =>
      obtain ⟨o, r'⟩ := q
      rw [hr] at h
      dsimp only at h
      obtain ⟨a, st2, rfl, h2, hS2⟩ := ckTopR_s hr hS1
      cases hc : C[o]? with
      | none => rw [hc] at h; cases h
      | some q =>
        rw [hc] at h
        cases q with
        | inl q => cases h
        | inr q =>
          obtain ⟨u, ln, fv⟩ := q
          dsimp only at h
          cases hb : Nat.beq u 1 with
          | false => rw [hb] at h; cases h
          | true =>
            rw [hb] at h
            have eu := Nat.eq_of_beq_eq_true hb
            subst eu
            dsimp only at h
            cases hn : ckIn T Z i ln with
            | false => rw [hn] at h; cases h
            | true =>
              rw [hn] at h
              cases h
              obtain ⟨y, g1, n, n1, n2, f, rfl⟩ := hE.cell h2 hc
              obtain ⟨k1, k2⟩ := ckIn_s hE.2.1 hE.2.2.2.2.1 hn hx n2 n1
              refine ⟨o, a, n, f, x, st2, rfl, g1, k1, fun z => ?_⟩
              exact kk I F ws ls _ H locs (ckExt_rf _) (ckExt_rf _) (ckExt_rf _) ⟨hL, ⟨⟨z, rfl⟩, hS2⟩, hE⟩ hW
theorem ckS_last (h : ckLast σ = some τ) (hR : ckRel nL tI sa SL SX nk σ I F ws ls st) (kk : ckGoal k0 s0 p l e R s m args below meth c Q nL cl D tI sa SL SX nk A τ pc I F ws) :
    ∃ (o a n : Nat) (f : Nat → Int64) (i : Int32) (x : Int64) (st' : List Value), st = .long x :: .int i :: .ref a :: st' ∧ ws[o]? = some (a, .inl (tI 1, n, .inr (.inl f))) ∧ vp_in i n ∧
      ∀ (f1 : Nat → Int64) (H1 : Heap) (locs1 : List Loc), va_P D cl (ws.set o (a, .inl (tI 1, n, .inr (.inl f1)))) H1 → va_D A (ws.set o (a, .inl (tI 1, n, .inr (.inl f1)))) → va_S A s.heap H1 locs1 → W p l e R s m args below meth c H1 locs1 (k0 + σ.2.2.2.2.2.2.2.2.1) (s0 + σ.2.2.2.2.2.2.2.2.2) Q (F0 m pc ls st') := by
  obtain ⟨L, S, C, T, G, X, Z, K, nc, ns⟩ := σ
  obtain ⟨hL, hS, hE⟩ := hR
  unfold ckLast at h
  dsimp only at h
  cases hv : ckTopL S with
  | none => rw [hv] at h; cases h
  | some r0 =>
    rw [hv] at h
    dsimp only at h
    obtain ⟨z, st0, rfl, hS0⟩ := ckTopL_s hv hS
    cases hi : ckTopI r0 with
    | none => rw [hi] at h; cases h
    | some q =>
      obtain ⟨i, r⟩ := q
      rw [hi] at h
      dsimp only at h
      obtain ⟨x, st1, rfl, hx, hS1⟩ := ckTopI_s hi hS0
      cases hr : ckTopR r with
      | none => rw [hr] at h; cases h
      | some q =>
        obtain ⟨o, r'⟩ := q
        rw [hr] at h
        dsimp only at h
        obtain ⟨a, st2, rfl, h2, hS2⟩ := ckTopR_s hr hS1
        cases hc : C[o]? with
        | none => rw [hc] at h; cases h
        | some q =>
          rw [hc] at h
          cases q with
          | inl q => cases h
          | inr q =>
            obtain ⟨u, ln, fv⟩ := q
            dsimp only at h
            cases hb : Nat.beq u 1 with
            | false => rw [hb] at h; cases h
            | true =>
              rw [hb] at h
              have eu := Nat.eq_of_beq_eq_true hb
              subst eu
              dsimp only at h
              cases hn : ckIn T Z i ln with
              | false => rw [hn] at h; cases h
              | true =>
                rw [hn] at h
                cases h
                obtain ⟨y, g1, n, n1, n2, f, rfl⟩ := hE.cell h2 hc
                obtain ⟨k1, k2⟩ := ckIn_s hE.2.1 hE.2.2.2.2.1 hn hx n2 n1
                refine ⟨o, a, n, f, x, z, st2, rfl, g1, k1, fun f1 H1 locs1 hP hD hSS => ?_⟩
                have e1 := ck_fst_set (y := .inl (tI 1, n, .inr (.inl f1))) g1
                refine kk I F _ ls st2 H1 locs1 (ckExt_rf _) (ckExt_rf _) (by rw [e1]; exact ckExt_rf _) ⟨by rw [e1]; exact hL, by rw [e1]; exact hS2, ⟨?_, hE.2⟩⟩ ⟨hP, hD, hSS⟩
                rw [e1, ck_snd_set]
                have h9 := ck2_set o (a := Sum.inr (1, ln, fv)) (b := .inl (tI 1, n, .inr (.inl f1))) hE.1 ⟨n, n1, n2, f1, rfl⟩
                rwa [show C.set o (Sum.inr (1, ln, fv)) = C from ?_] at h9
                apply List.ext_getElem?
                intro j
                rw [List.getElem?_set]
                by_cases hj : o = j
                · subst hj
                  rw [if_pos rfl, if_pos (List.getElem?_eq_some_iff.mp hc).1, hc]
                · rw [if_neg hj]
theorem ckS_ast {t : Nat} {fl : Bool} (ht1 : t ≠ 1) (h : ckAst t fl σ = some τ) (hR : ckRel nL tI sa SL SX nk σ I F ws ls st) (kk : ckGoal k0 s0 p l e R s m args below meth c Q nL cl D tI sa SL SX nk A τ pc I F ws) :
    ∃ (o a n : Nat) (f : Nat → Int32) (i x : Int32) (st' : List Value), st = .int x :: .int i :: .ref a :: st' ∧ ws[o]? = some (a, .inl (tI t, n, .inl f)) ∧ vp_in i n ∧ (t ≠ 0 → 0 ≤ x.toInt ∧ x.toInt ≤ 1) ∧
      ∀ (H1 : Heap) (locs1 : List Loc), va_P D cl (ws.set o (a, .inl (tI t, n, .inl (upd f i.toNatClampNeg x)))) H1 → va_D A (ws.set o (a, .inl (tI t, n, .inl (upd f i.toNatClampNeg x)))) → va_S A s.heap H1 locs1 → W p l e R s m args below meth c H1 locs1 (k0 + σ.2.2.2.2.2.2.2.2.1) (s0 + σ.2.2.2.2.2.2.2.2.2) Q (F0 m pc ls st') := by
  obtain ⟨L, S, C, T, G, X, Z, K, nc, ns⟩ := σ
  obtain ⟨hL, hS, hE⟩ := hR
  unfold ckAst at h
  dsimp only at h
  cases hv : ckTopI S with
  | none => rw [hv] at h; cases h
  | some q =>
    obtain ⟨x, r0⟩ := q
    rw [hv] at h
    dsimp only at h
    obtain ⟨z, st0, rfl, hz, hS0⟩ := ckTopI_s hv hS
    cases hi : ckTopI r0 with
    | none => rw [hi] at h; cases h
    | some q =>
      obtain ⟨i, r⟩ := q
      rw [hi] at h
      dsimp only at h
      obtain ⟨y, st1, rfl, hy, hS1⟩ := ckTopI_s hi hS0
      cases hr : ckTopR r with
      | none => rw [hr] at h; cases h
      | some q =>
        obtain ⟨o, r'⟩ := q
        rw [hr] at h
        dsimp only at h
        obtain ⟨a, st2, rfl, h2, hS2⟩ := ckTopR_s hr hS1
        cases hc : C[o]? with
        | none => rw [hc] at h; cases h
        | some q =>
          rw [hc] at h
          cases q with
          | inl q => cases h
          | inr q =>
            obtain ⟨u, ln, fv⟩ := q
            dsimp only at h
            cases hb : Nat.beq u t with
            | false => rw [hb] at h; cases h
            | true =>
              rw [hb] at h
              have eu := Nat.eq_of_beq_eq_true hb
              subst eu
              dsimp only at h
              cases hq : ckTruth u (ckIv Z T x) with
              | false => rw [hq] at h; cases h
              | true =>
                rw [hq] at h
                dsimp only at h
                cases hn : ckIn T Z i ln with
                | false => rw [hn] at h; cases h
                | true =>
                  rw [hn] at h
                  dsimp only at h
                  cases hw : ckWrite T G Z fv i x with
                  | none => rw [hw] at h; cases h
                  | some G1 =>
                    rw [hw] at h
                    cases h
                    obtain ⟨w, g1, n, n1, n2, g2⟩ := hE.cell h2 hc
                    split at g2
                    · exact absurd rfl ht1
                    · obtain ⟨f, g, rfl, f1, f2⟩ := g2
                      obtain ⟨k1, k2⟩ := ckIn_s hE.2.1 hE.2.2.2.2.1 hn hy n2 n1
                      obtain ⟨e, rfl, eok⟩ := ckWrite_ok hE f1 hy hz hw
                      refine ⟨o, a, n, f, y, z, st2, rfl, g1, k1, fun hne => ?_, fun H1 locs1 hP hD hSS => ?_⟩
                      · have wz := ckIv_ok hE.2.1 hz hE.2.2.2.2.1
                        unfold ckTruth at hq
                        split at hq
                        · exact absurd rfl hne
                        · cases hp : ckLe0 0 (ckIv Z T x).1 with
                          | false => rw [hp] at hq; cases hq
                          | true =>
                            rw [hp] at hq
                            exact ⟨Int.le_trans (ckLe0_t hp) wz.1, Int.le_trans wz.2 (ckLe0_t hq)⟩
                      · have e1 := ck_fst_set (y := .inl (tI u, n, .inl (upd f y.toNatClampNeg z))) g1
                        have hE0 := hE.addF eok
                        have hl0 : (F ++ [upd g y.toNatClampNeg z])[G.length]? = some (upd g y.toNatClampNeg z) := by rw [hE.lenF]; exact ck_last _ _
                        have hE1 := (hE0.addK (ckTrn_ok hl0 (ckExt_app _ _ _ _ f1) (ckIv_ok hE.2.1 hy hE.2.2.2.2.1) hE0.2.2.2.2.2)).addK (ckUp_ok (fl := fl) hl0 (ckExt_app _ _ _ _ f1) hy hz)
                        refine kk I (F ++ [upd g y.toNatClampNeg z]) _ ls st2 H1 locs1 (ckExt_rf _) (ckExt_app _ _) (by rw [e1]; exact ckExt_rf _) ⟨by rw [e1]; exact hL, by rw [e1]; exact hS2, ⟨?_, hE1.2⟩⟩ ⟨hP, hD, hSS⟩
                        rw [e1, ck_snd_set]
                        refine ck2_set o hE1.1 ⟨n, n1, n2, ?_⟩
                        split
                        · exact absurd rfl ht1
                        · refine ⟨_, upd g y.toNatClampNeg z, rfl, by rw [hE.lenF]; exact ck_last _ _, fun j hj => ?_⟩
                          by_cases hjj : j = y.toNatClampNeg
                          · subst hjj
                            rw [upd, upd, if_pos rfl, if_pos rfl]
                          · rw [upd, upd, if_neg hjj, if_neg hjj]
                            exact f2 j hj
end CKH

/-! THE CHECKER: tests, switches, cuts -/
theorem ckBoth_t {a b : Bool} (h : ckBoth a b = true) : a = true ∧ b = true := by
  cases a with
  | true => exact ⟨rfl, h⟩
  | false => cases h
theorem ckTo_ok {pc : Nat} {off : Int} (h : ckToOk pc off = true) : (pc : Int) + off = ((ckTo pc off : Nat) : Int) := by
  have h1 := ckLe0_t h
  unfold ckTo
  omega
section CKBR
variable {k0 s0 : Nat} {p : Program} {l : Launch} {e : Env} {R : Room} {s : State} {m : MethodId} {args : Array Value} {below : List Frame} {meth : Method} {c : Code} {Q : State → Prop} {nL : Nat} {tI : Nat → ClassId} {sa SL : Nat → Nat} {SX : Nat → Nat → Int32} {nk : Nat} {cc : ByteArray}
variable {σ : ckS} {pc : Nat} {I : List Int32} {F : List (Nat → Int32)} {ws : va_W} {ls : Array Slot} {st : List Value} {H : Heap} {locs : List Loc} {cells slots : Nat}
/-- the state is told by the same numbers, but for bounds, differences and the stack -/
def ckAlike (σ τ : ckS) : Prop := τ.2.2.2.2.2.2.2.2.1 = σ.2.2.2.2.2.2.2.2.1 ∧ τ.2.2.2.2.2.2.2.2.2 = σ.2.2.2.2.2.2.2.2.2 ∧ τ.2.2.2.1.length = σ.2.2.2.1.length ∧ τ.2.2.2.2.1 = σ.2.2.2.2.1
theorem ckO_ok {go : ckS → Bool} {r : List ckV} {o : Option (List ckI)} {st' : List Value} (h : ckO σ r o go = true) (hR : ckRel nL tI sa SL SX nk σ I F ws ls st) (hr : ck2 (ckHas I (ws.map Prod.fst) sa) r st') (ho : ∃ T1, o = some T1 ∧ ck2 ckW T1 I) : ∃ τ, go τ = true ∧ ckRel nL tI sa SL SX nk τ I F ws ls st' ∧ ckAlike σ τ := by
  obtain ⟨L, S, C, T, G, X, Z, K, nc, ns⟩ := σ
  obtain ⟨hL, hS, hE⟩ := hR
  obtain ⟨T1, rfl, hT1⟩ := ho
  refine ⟨_, h, ⟨hL, hr, hE.1, hT1, hE.2.2⟩, rfl, rfl, ?_, rfl⟩
  show T1.length = T.length
  rw [ck2_len hT1, hE.len]
theorem ckOz_ok {go : ckS → Bool} {r : List ckV} {o : Option (List ckI × List ckZ)} {st' : List Value} (h : ckOz σ r o go = true) (hR : ckRel nL tI sa SL SX nk σ I F ws ls st) (hr : ck2 (ckHas I (ws.map Prod.fst) sa) r st') (ho : ∃ T1 Z1, o = some (T1, Z1) ∧ ck2 ckW T1 I ∧ ∀ z ∈ Z1, ckZok I z) : ∃ τ, go τ = true ∧ ckRel nL tI sa SL SX nk τ I F ws ls st' ∧ ckAlike σ τ := by
  obtain ⟨L, S, C, T, G, X, Z, K, nc, ns⟩ := σ
  obtain ⟨hL, hS, hE⟩ := hR
  obtain ⟨T1, Z1, rfl, hT1, hZ1⟩ := ho
  refine ⟨_, h, ⟨hL, hr, hE.1, hT1, hE.2.2.1, hE.2.2.2.1, hZ1, hE.2.2.2.2.2⟩, rfl, rfl, ?_, rfl⟩
  show T1.length = T.length
  rw [ck2_len hT1, hE.len]
theorem ckIf_ok (hx : p.tables.exec = Jvm.exec) (hb : c.code = cc) {cd : ClassFile.Cond} {off : Int} {tgt : Nat} {y n : ckS → Bool} (h : ckIf cd σ y n = true) (hd : decode cc pc = .ok (.ifCond cd off, 3)) (ht : (pc : Int) + off = (tgt : Int)) (hR : ckRel nL tI sa SL SX nk σ I F ws ls st)
    (ky : ∀ (τ : ckS) (st' : List Value), y τ = true → ckRel nL tI sa SL SX nk τ I F ws ls st' → ckAlike σ τ → W p l e R s m args below meth c H locs cells slots Q (F0 m tgt ls st'))
    (kn : ∀ (τ : ckS) (st' : List Value), n τ = true → ckRel nL tI sa SL SX nk τ I F ws ls st' → ckAlike σ τ → W p l e R s m args below meth c H locs cells slots Q (F0 m (pc + 3) ls st')) :
    W p l e R s m args below meth c H locs cells slots Q (F0 m pc ls st) := by
  have hR' := hR
  obtain ⟨L, S, C, T, G, X, Z, K, nc, ns⟩ := σ
  obtain ⟨hL, hS, hE⟩ := hR
  have hT : ck2 ckW T I := hE.2.1
  have hZ : ∀ z ∈ Z, ckZok I z := hE.2.2.2.2.1
  unfold ckIf at h
  dsimp only at h
  cases hi : ckTopI S with
  | none => rw [hi] at h; cases h
  | some q =>
    obtain ⟨a, r⟩ := q
    rw [hi] at h
    dsimp only at h
    obtain ⟨x, st', rfl, ha, hr⟩ := ckTopI_s hi hS
    have rg := ck_rng x
    have z0 : (0 : Int32).toInt = 0 := rfl
    have lt0 : x < 0 ↔ x.toInt < 0 := by rw [Int32.lt_iff_toInt_lt, z0]
    have gt0 : 0 < x ↔ 0 < x.toInt := by rw [Int32.lt_iff_toInt_lt, z0]
    have le0 : x ≤ 0 ↔ x.toInt ≤ 0 := by rw [Int32.le_iff_toInt_le, z0]
    have ge0 : 0 ≤ x ↔ 0 ≤ x.toInt := by rw [Int32.le_iff_toInt_le, z0]
    have eq0 : x = 0 ↔ x.toInt = 0 := ⟨fun q => by rw [q]; rfl, fun q => Int32.toInt_inj.mp (by omega)⟩
    have lim : ∀ lo hi, lo ≤ x.toInt → x.toInt ≤ hi → ∃ T1, ckLim T Z a lo hi = some T1 ∧ ck2 ckW T1 I := fun lo hi h1 h2 => ckLim_ok hT hZ ha h1 h2
    have nec : ∀ v, x.toInt ≠ v → ∃ T1, ckNec T Z a v = some T1 ∧ ck2 ckW T1 I := fun v h1 => ckNec_ok hT hZ ha h1
    cases cd with
    | eq =>
      obtain ⟨h1, h2⟩ := ckBoth_t h
      refine lv_if_eq hx hb hd ht (fun q => ?_) (fun q => ?_)
      · obtain ⟨τ, t1, t2, t3⟩ := ckO_ok h1 hR' hr (lim _ _ (by have := eq0.mp q; omega) (by have := eq0.mp q; omega))
        exact ky τ _ t1 t2 t3
      · obtain ⟨τ, t1, t2, t3⟩ := ckO_ok h2 hR' hr (nec 0 (fun g => q (eq0.mpr g)))
        exact kn τ _ t1 t2 t3
    | ne =>
      obtain ⟨h1, h2⟩ := ckBoth_t h
      refine lv_if_ne hx hb hd ht (fun q => ?_) (fun q => ?_)
      · obtain ⟨τ, t1, t2, t3⟩ := ckO_ok h1 hR' hr (nec 0 (fun g => q (eq0.mpr g)))
        exact ky τ _ t1 t2 t3
      · obtain ⟨τ, t1, t2, t3⟩ := ckO_ok h2 hR' hr (lim _ _ (by have := eq0.mp q; omega) (by have := eq0.mp q; omega))
        exact kn τ _ t1 t2 t3
    | lt =>
      obtain ⟨h1, h2⟩ := ckBoth_t h
      refine lv_if_lt hx hb hd ht (fun q => ?_) (fun q => ?_)
      · obtain ⟨τ, t1, t2, t3⟩ := ckO_ok h1 hR' hr (lim _ _ rg.1 (by have := lt0.mp q; omega))
        exact ky τ _ t1 t2 t3
      · obtain ⟨τ, t1, t2, t3⟩ := ckO_ok h2 hR' hr (lim _ _ (by have : ¬ x.toInt < 0 := fun g => q (lt0.mpr g); omega) (by omega))
        exact kn τ _ t1 t2 t3
    | ge =>
      obtain ⟨h1, h2⟩ := ckBoth_t h
      refine lv_if_ge hx hb hd ht (fun q => ?_) (fun q => ?_)
      · obtain ⟨τ, t1, t2, t3⟩ := ckO_ok h1 hR' hr (lim _ _ (ge0.mp q) (by omega))
        exact ky τ _ t1 t2 t3
      · obtain ⟨τ, t1, t2, t3⟩ := ckO_ok h2 hR' hr (lim _ _ rg.1 (by have : ¬ 0 ≤ x.toInt := fun g => q (ge0.mpr g); omega))
        exact kn τ _ t1 t2 t3
    | gt =>
      obtain ⟨h1, h2⟩ := ckBoth_t h
      refine lv_if_gt hx hb hd ht (fun q => ?_) (fun q => ?_)
      · obtain ⟨τ, t1, t2, t3⟩ := ckO_ok h1 hR' hr (lim _ _ (by have := gt0.mp q; omega) (by omega))
        exact ky τ _ t1 t2 t3
      · obtain ⟨τ, t1, t2, t3⟩ := ckO_ok h2 hR' hr (lim _ _ rg.1 (by have : ¬ 0 < x.toInt := fun g => q (gt0.mpr g); omega))
        exact kn τ _ t1 t2 t3
    | le =>
      obtain ⟨h1, h2⟩ := ckBoth_t h
      refine lv_if_le hx hb hd ht (fun q => ?_) (fun q => ?_)
      · obtain ⟨τ, t1, t2, t3⟩ := ckO_ok h1 hR' hr (lim _ _ rg.1 (le0.mp q))
        exact ky τ _ t1 t2 t3
      · obtain ⟨τ, t1, t2, t3⟩ := ckO_ok h2 hR' hr (lim _ _ (by have : ¬ x.toInt ≤ 0 := fun g => q (le0.mpr g); omega) (by omega))
        exact kn τ _ t1 t2 t3
theorem ckEq2_ok {T : List ckI} {Z : List ckZ} (hT : ck2 ckW T I) (hZ : ∀ z ∈ Z, ckZok I z) {a b : Nat} {x : Int32} (ha : I[a]? = some x) (hb : I[b]? = some x) : ∃ T1 Z1, ckEq2 T Z a b = some (T1, Z1) ∧ ck2 ckW T1 I ∧ ∀ z ∈ Z1, ckZok I z := by
  obtain ⟨T1, Z1, h1, h2, h3⟩ := ckAdd_ok hT hZ ha hb (c := 0) (by omega)
  unfold ckEq2
  rw [h1]
  exact ckAdd_ok h2 h3 hb ha (by omega)
theorem ckIcmp_ok (hx : p.tables.exec = Jvm.exec) (hb : c.code = cc) {cd : ClassFile.Cond} {off : Int} {tgt : Nat} {y n : ckS → Bool} (h : ckIcmp cd σ y n = true) (hd : decode cc pc = .ok (.if_icmp cd off, 3)) (ht : (pc : Int) + off = (tgt : Int)) (hR : ckRel nL tI sa SL SX nk σ I F ws ls st)
    (ky : ∀ (τ : ckS) (st' : List Value), y τ = true → ckRel nL tI sa SL SX nk τ I F ws ls st' → ckAlike σ τ → W p l e R s m args below meth c H locs cells slots Q (F0 m tgt ls st'))
    (kn : ∀ (τ : ckS) (st' : List Value), n τ = true → ckRel nL tI sa SL SX nk τ I F ws ls st' → ckAlike σ τ → W p l e R s m args below meth c H locs cells slots Q (F0 m (pc + 3) ls st')) :
    W p l e R s m args below meth c H locs cells slots Q (F0 m pc ls st) := by
  have hR' := hR
  obtain ⟨L, S, C, T, G, X, Z, K, nc, ns⟩ := σ
  obtain ⟨hL, hS, hE⟩ := hR
  have hT : ck2 ckW T I := hE.2.1
  have hZ : ∀ z ∈ Z, ckZok I z := hE.2.2.2.2.1
  unfold ckIcmp at h
  dsimp only at h
  cases hi : ckTopI S with
  | none => rw [hi] at h; cases h
  | some q =>
    obtain ⟨b, r0⟩ := q
    rw [hi] at h
    dsimp only at h
    obtain ⟨v, st0, rfl, hvb, hr0⟩ := ckTopI_s hi hS
    cases hj : ckTopI r0 with
    | none => rw [hj] at h; cases h
    | some q =>
      obtain ⟨a, r⟩ := q
      rw [hj] at h
      dsimp only at h
      obtain ⟨x, st', rfl, ha, hr⟩ := ckTopI_s hj hr0
      have ab : ∀ k : Int, x.toInt ≤ v.toInt + k → ∃ T1 Z1, ckAdd T Z a b k = some (T1, Z1) ∧ ck2 ckW T1 I ∧ ∀ z ∈ Z1, ckZok I z := fun k h1 => ckAdd_ok hT hZ ha hvb h1
      have ba : ∀ k : Int, v.toInt ≤ x.toInt + k → ∃ T1 Z1, ckAdd T Z b a k = some (T1, Z1) ∧ ck2 ckW T1 I ∧ ∀ z ∈ Z1, ckZok I z := fun k h1 => ckAdd_ok hT hZ hvb ha h1
      cases cd with
      | eq =>
        obtain ⟨h1, h2⟩ := ckBoth_t h
        refine lv_icmp_eq hx hb hd ht (fun q => ?_) (fun q => ?_)
        · subst q
          obtain ⟨τ, t1, t2, t3⟩ := ckOz_ok h1 hR' hr (ckEq2_ok hT hZ ha hvb)
          exact ky τ _ t1 t2 t3
        · obtain ⟨τ, t1, t2, t3⟩ := ckO_ok h2 hR' hr (ckNe_ok hT hZ ha hvb q)
          exact kn τ _ t1 t2 t3
      | ne =>
        obtain ⟨h1, h2⟩ := ckBoth_t h
        refine lv_icmp_ne hx hb hd ht (fun q => ?_) (fun q => ?_)
        · obtain ⟨τ, t1, t2, t3⟩ := ckO_ok h1 hR' hr (ckNe_ok hT hZ ha hvb q)
          exact ky τ _ t1 t2 t3
        · subst q
          obtain ⟨τ, t1, t2, t3⟩ := ckOz_ok h2 hR' hr (ckEq2_ok hT hZ ha hvb)
          exact kn τ _ t1 t2 t3
      | lt =>
        obtain ⟨h1, h2⟩ := ckBoth_t h
        refine lv_icmp_lt hx hb hd ht (fun q => ?_) (fun q => ?_)
        · obtain ⟨τ, t1, t2, t3⟩ := ckOz_ok h1 hR' hr (ab _ (by have := Int32.lt_iff_toInt_lt.mp q; omega))
          exact ky τ _ t1 t2 t3
        · obtain ⟨τ, t1, t2, t3⟩ := ckOz_ok h2 hR' hr (ba _ (by have : ¬ x.toInt < v.toInt := fun g => q (Int32.lt_iff_toInt_lt.mpr g); omega))
          exact kn τ _ t1 t2 t3
      | ge =>
        obtain ⟨h1, h2⟩ := ckBoth_t h
        refine lv_icmp_ge hx hb hd ht (fun q => ?_) (fun q => ?_)
        · obtain ⟨τ, t1, t2, t3⟩ := ckOz_ok h1 hR' hr (ba _ (by have := Int32.le_iff_toInt_le.mp q; omega))
          exact ky τ _ t1 t2 t3
        · obtain ⟨τ, t1, t2, t3⟩ := ckOz_ok h2 hR' hr (ab _ (by have : ¬ v.toInt ≤ x.toInt := fun g => q (Int32.le_iff_toInt_le.mpr g); omega))
          exact kn τ _ t1 t2 t3
      | gt =>
        obtain ⟨h1, h2⟩ := ckBoth_t h
        refine lv_icmp_gt hx hb hd ht (fun q => ?_) (fun q => ?_)
        · obtain ⟨τ, t1, t2, t3⟩ := ckOz_ok h1 hR' hr (ba _ (by have := Int32.lt_iff_toInt_lt.mp q; omega))
          exact ky τ _ t1 t2 t3
        · obtain ⟨τ, t1, t2, t3⟩ := ckOz_ok h2 hR' hr (ab _ (by have : ¬ v.toInt < x.toInt := fun g => q (Int32.lt_iff_toInt_lt.mpr g); omega))
          exact kn τ _ t1 t2 t3
      | le =>
        obtain ⟨h1, h2⟩ := ckBoth_t h
        refine lv_icmp_le hx hb hd ht (fun q => ?_) (fun q => ?_)
        · obtain ⟨τ, t1, t2, t3⟩ := ckOz_ok h1 hR' hr (ab _ (by have := Int32.le_iff_toInt_le.mp q; omega))
          exact ky τ _ t1 t2 t3
        · obtain ⟨τ, t1, t2, t3⟩ := ckOz_ok h2 hR' hr (ba _ (by have : ¬ x.toInt ≤ v.toInt := fun g => q (Int32.le_iff_toInt_le.mpr g); omega))
          exact kn τ _ t1 t2 t3
theorem ckSw_at {T : List ckI} {Z : List ckZ} {a : Nat} {r : List ckV} {go : Int → ckS → Bool} : ∀ {os : List Int} {v : Int}, ckSw T Z σ a r go v os = true → ∀ (k : Nat) (o : Int), os[k]? = some o → ckO σ r (ckLim T Z a (v + k) (v + k)) (go o) = true
  | [], _, _, k, o, h => by simp at h
  | x :: os, v, h, k, o, ho => by
    unfold ckSw at h
    cases hb : ckO σ r (ckLim T Z a v v) (go x) with
    | false => rw [hb] at h; cases h
    | true =>
      rw [hb] at h
      cases k with
      | zero => cases ho; simpa using hb
      | succ k =>
        have := ckSw_at h k o ho
        rwa [show v + 1 + (k : Int) = v + ((k + 1 : Nat) : Int) by omega] at this
theorem ckTable_ok (hx : p.tables.exec = Jvm.exec) (hb : c.code = cc) {dflt lo hi : Int} {offs : Array Int} {len : Nat} {go : Int → ckS → Bool} (h : ckTable dflt lo hi offs.toList σ go = true) (hd : decode cc pc = .ok (.tableswitch dflt lo hi offs, len)) (hR : ckRel nL tI sa SL SX nk σ I F ws ls st)
    (kk : ∀ (o : Int) (τ : ckS) (st' : List Value), go o τ = true → ckRel nL tI sa SL SX nk τ I F ws ls st' → ckAlike σ τ → ∃ tgt : Nat, (pc : Int) + o = (tgt : Int) ∧ W p l e R s m args below meth c H locs cells slots Q (F0 m tgt ls st')) :
    W p l e R s m args below meth c H locs cells slots Q (F0 m pc ls st) := by
  have hR' := hR
  obtain ⟨L, S, C, T, G, X, Z, K, nc, ns⟩ := σ
  obtain ⟨hL, hS, hE⟩ := hR
  have hT : ck2 ckW T I := hE.2.1
  have hZ : ∀ z ∈ Z, ckZok I z := hE.2.2.2.2.1
  unfold ckTable at h
  dsimp only at h
  cases hi' : ckTopI S with
  | none => rw [hi'] at h; cases h
  | some q =>
    obtain ⟨a, r⟩ := q
    rw [hi'] at h
    dsimp only at h
    obtain ⟨x, st', rfl, ha, hr⟩ := ckTopI_s hi' hS
    have rg := ck_rng x
    split at h
    · cases h
    rename_i h1
    split at h
    · cases h
    rename_i h2
    split at h
    · rename_i h3
      have h4 := ckLe0_t h3
      by_cases q1 : x.toInt < lo
      · obtain ⟨τ, t1, t2, t3⟩ := ckO_ok h1 hR' hr (ckLim_ok hT hZ ha rg.1 (by omega))
        obtain ⟨tgt, t4, t5⟩ := kk _ τ _ t1 t2 t3
        exact lv_tableOut hx hb hd (Or.inl q1) t4 t5
      · by_cases q2 : hi < x.toInt
        · obtain ⟨τ, t1, t2, t3⟩ := ckO_ok h2 hR' hr (ckLim_ok hT hZ ha (by omega) (by omega))
          obtain ⟨tgt, t4, t5⟩ := kk _ τ _ t1 t2 t3
          exact lv_tableOut hx hb hd (Or.inr q2) t4 t5
        · have hlt : (x.toInt - lo).toNat < offs.toList.length := by omega
          obtain ⟨o, ho⟩ : ∃ o, offs.toList[(x.toInt - lo).toNat]? = some o := ⟨_, List.getElem?_eq_getElem hlt⟩
          have h5 := ckSw_at h _ o ho
          rw [show lo + (((x.toInt - lo).toNat : Nat) : Int) = x.toInt by omega] at h5
          obtain ⟨τ, t1, t2, t3⟩ := ckO_ok h5 hR' hr (ckLim_ok hT hZ ha (Int.le_refl _) (Int.le_refl _))
          obtain ⟨tgt, t4, t5⟩ := kk _ τ _ t1 t2 t3
          exact lv_tableIn hx hb hd q1 q2 (by rw [← Array.getElem?_toList]; exact ho) t4 t5
    · cases h
end CKBR
/-- two lists agree on their first places -/
def ckAgr {α : Type} (n : Nat) (I J : List α) : Prop := ∀ k, k < n → J[k]? = I[k]?
theorem ckExt_len {α : Type} {I J : List α} (h : ckExt I J) : I.length ≤ J.length := by
  rcases Nat.eq_zero_or_pos I.length with h0 | h0
  · omega
  · obtain ⟨x, hx⟩ : ∃ x, I[I.length - 1]? = some x := ⟨_, List.getElem?_eq_getElem (by omega)⟩
    have := (List.getElem?_eq_some_iff.mp (h _ _ hx)).1
    omega
theorem ckExt_agr {α : Type} {n : Nat} {I J : List α} (h : ckExt I J) (hn : n ≤ I.length) : ckAgr n I J := fun k hk => by
  obtain ⟨x, hx⟩ : ∃ x, I[k]? = some x := ⟨_, List.getElem?_eq_getElem (by omega)⟩
  rw [hx]
  exact h _ _ hx
theorem ckAgr_ext {α : Type} {I J : List α} (h : ckAgr I.length I J) : ckExt I J := fun k x hx => by
  rw [h k (List.getElem?_eq_some_iff.mp hx).1]
  exact hx
theorem ckLenEq_s {α β : Type} : ∀ {xs : List α} {ys : List β}, ckLenEq xs ys = true → xs.length = ys.length
  | [], [], _ => rfl
  | x :: xs, y :: ys, h => by
    have h1 : ckLenEq xs ys = true := h
    rw [List.length_cons, List.length_cons, ckLenEq_s h1]
  | [], _ :: _, h => by cases h
  | _ :: _, [], h => by cases h
theorem ckMp_lt {n v : Nat} {ps : List (Nat × Nat)} (h : v < n) : ckMp n ps v = v := by
  unfold ckMp
  rw [Nat.ble_eq_true_of_le (show v + 1 ≤ n from h)]
theorem ckPick_id {α : Type} {f : Nat → Nat} {l : List α} (h : ∀ k, k < l.length → f k = k) : ckPick f l.length l = l := by
  obtain ⟨h1, h2⟩ := ckPick_aux f l l.length fun k hk => ⟨_, by rw [h k hk]; exact List.getElem?_eq_getElem hk⟩
  apply List.ext_getElem?
  intro k
  rcases Nat.lt_or_ge k l.length with q | q
  · rw [h2 k q, h k q]
  · rw [List.getElem?_eq_none (by omega), List.getElem?_eq_none q]
/-- the number of a loop has moved -/
def ckMv (kd v : Nat) (I J : List Int32) : Prop := match kd with
  | 0 => True
  | 1 => ∃ x y : Int32, I[v]? = some x ∧ J[v]? = some y ∧ x.toInt < y.toInt
  | _ => ∃ x y : Int32, I[v]? = some x ∧ J[v]? = some y ∧ y.toInt < x.toInt
/-- a cut: from every state that it tells the machine comes to its goal -/
def ckCutOk (k0 s0 : Nat) (p : Program) (l : Launch) (e : Env) (R : Room) (s : State) (m : MethodId) (args : Array Value) (below : List Frame) (meth : Method) (c : Code) (Q : State → Prop) (nL : Nat) (cl : List vw_C) (D : va_G) (tI : Nat → ClassId) (sa SL : Nat → Nat) (SX : Nat → Nat → Int32) (nk : Nat) (A : Nat → Prop) (u : ckCut) (I : List Int32) (F : List (Nat → Int32)) (ad : List Nat) : Prop :=
  u.2.2.1 ≤ I.length ∧ u.2.2.2.1 ≤ F.length ∧ u.2.1.2.2.1.length ≤ ad.length ∧ (u.2.2.2.2.1 ≠ 0 → u.2.2.2.2.2 < I.length) ∧
    ∀ (I' : List Int32) (F' : List (Nat → Int32)) (ws' : va_W) (ls' : Array Slot) (st' : List Value) (H' : Heap) (locs' : List Loc), ckAgr u.2.2.1 I I' → ckAgr u.2.2.2.1 F F' → ckAgr u.2.1.2.2.1.length ad (ws'.map Prod.fst) → ckRel nL tI sa SL SX nk u.2.1 I' F' ws' ls' st' → ckWd s D cl A ws' H' locs' → ckMv u.2.2.2.2.1 u.2.2.2.2.2 I I' →
      W p l e R s m args below meth c H' locs' (k0 + u.2.1.2.2.2.2.2.2.2.2.1) (s0 + u.2.1.2.2.2.2.2.2.2.2.2) Q (F0 m u.1 ls' st')
section CKCUT
variable {k0 s0 : Nat} {p : Program} {l : Launch} {e : Env} {R : Room} {s : State} {m : MethodId} {args : Array Value} {below : List Frame} {meth : Method} {c : Code} {Q : State → Prop} {nL : Nat} {cl : List vw_C} {D : va_G} {tI : Nat → ClassId} {sa SL : Nat → Nat} {SX : Nat → Nat → Int32} {nk : Nat} {A : Nat → Prop}
variable {σ : ckS} {u : ckCut} {I I2 : List Int32} {F F2 : List (Nat → Int32)} {ad ad2 : List Nat} {ws : va_W} {ls : Array Slot} {st : List Value} {H : Heap} {locs : List Loc}
theorem ckAgr.trans {α : Type} {n : Nat} {I J M : List α} (h : ckAgr n I J) (h1 : ckAgr n J M) : ckAgr n I M := fun k hk => (h1 k hk).trans (h k hk)
theorem ckMv.mono {kd v : Nat} {J : List Int32} (hv : kd ≠ 0 → v < I.length) (hI : ckExt I I2) (h : ckMv kd v I2 J) : ckMv kd v I J := by
  have old : kd ≠ 0 → ∀ x, I2[v]? = some x → I[v]? = some x := by
    intro hk x hx
    obtain ⟨y, hy⟩ : ∃ y, I[v]? = some y := ⟨_, List.getElem?_eq_getElem (hv hk)⟩
    have := hI _ _ hy
    rw [hx] at this
    cases this
    exact hy
  unfold ckMv at h ⊢
  split at h
  · exact True.intro
  · obtain ⟨x, y, h1, h2, h3⟩ := h
    exact ⟨x, y, old (by decide) x h1, h2, h3⟩
  · rename_i hn0 hn1
    obtain ⟨x, y, h1, h2, h3⟩ := h
    exact ⟨x, y, old hn0 x h1, h2, h3⟩
theorem ckCutOk.mono (hI : ckExt I I2) (hF : ckExt F F2) (hA : ckExt ad ad2) (h : ckCutOk k0 s0 p l e R s m args below meth c Q nL cl D tI sa SL SX nk A u I F ad) : ckCutOk k0 s0 p l e R s m args below meth c Q nL cl D tI sa SL SX nk A u I2 F2 ad2 := by
  obtain ⟨h1, h2, h3, h4, h5⟩ := h
  have e1 := ckExt_len hI
  have e2 := ckExt_len hF
  have e3 := ckExt_len hA
  refine ⟨by omega, by omega, by omega, fun q => by have := h4 q; omega, fun I' F' ws' ls' st' H' locs' a1 a2 a3 a4 a5 a6 => ?_⟩
  exact h5 I' F' ws' ls' st' H' locs' ((ckExt_agr hI h1).trans a1) ((ckExt_agr hF h2).trans a2) ((ckExt_agr hA h3).trans a3) a4 a5 (a6.mono h4 hI)
/-- an arrival at a cut -/
theorem ckArrive_s (h : ckArrive u σ = true) (hR : ckRel nL tI sa SL SX nk σ I F ws ls st) :
    ∃ (I' : List Int32) (F' : List (Nat → Int32)), ckAgr u.2.2.1 I I' ∧ ckAgr u.2.2.2.1 F F' ∧ ckRel nL tI sa SL SX nk u.2.1 I' F' ws ls st ∧ u.2.1.2.2.1.length = ws.length ∧ ((u.2.2.2.2.1 ≠ 0 → u.2.2.2.2.2 < I.length) → ckMv u.2.2.2.2.1 u.2.2.2.2.2 I I') ∧ σ.2.2.2.2.2.2.2.2.1 ≤ u.2.1.2.2.2.2.2.2.2.2.1 ∧ σ.2.2.2.2.2.2.2.2.2 ≤ u.2.1.2.2.2.2.2.2.2.2.2 := by
  obtain ⟨pc, ⟨L1, S1, C1, T1, G1, X1, Z1, K1, nc1, ns1⟩, nI, nF, kd, v⟩ := u
  obtain ⟨L, S, C, T, G, X, Z, K, nc, ns⟩ := σ
  unfold ckArrive at h
  dsimp only at h
  generalize ckUniZ (nI, nF, C.length) (L, S, C, T, G, X, Z, K, nc, ns) (L1, S1, C1, T1, G1, X1, Z1, K1, nc1, ns1) = μ at h
  split at h
  · cases h
  rename_i hl
  split at h
  · cases h
  rename_i hb1
  split at h
  · cases h
  rename_i hb2
  split at h
  · cases h
  rename_i hmv
  split at h
  · cases h
  rename_i hc
  have hc := ckChkZ_ok hc rfl
  have hlen := ckLenEq_s hl
  have hb1 := Nat.le_of_ble_eq_true hb1
  have hb2 := Nat.le_of_ble_eq_true hb2
  have hwl : C.length = ws.length := hR.2.2.lenC
  obtain ⟨I', F', ws', r1, r2, r3, r4, r5⟩ := ckChk_ok (ckOm_nil _ _) hc hR
  have ew : ws' = ws := by
    rw [r5]
    dsimp only
    rw [show C1.length = ws.length by omega]
    exact ckPick_id fun k hk => ckMp_lt (by omega)
  subst ew
  have lI : T1.length = I'.length := r1.2.2.len
  have lF : G1.length = F'.length := r1.2.2.lenF
  have hnc : nc ≤ nc1 ∧ ns ≤ ns1 := by
    cases hb : Nat.ble nc nc1 with
    | false => rw [hb] at h; cases h
    | true => rw [hb] at h; exact ⟨Nat.le_of_ble_eq_true hb, Nat.le_of_ble_eq_true h⟩
  have hT : ck2 ckW T I := hR.2.2.2.1
  have hZ : ∀ z ∈ Z, ckZok I z := hR.2.2.2.2.2.2.1
  refine ⟨I', F', fun k hk => ?_, fun k hk => ?_, r1, by show C1.length = _; omega, fun hv2 => ?_, hnc.1, hnc.2⟩
  · rw [r2 k (by dsimp only at hk; omega)]
    show I[ckMp nI μ.1 k]? = _
    rw [ckMp_lt hk]
  · rw [r3 k (by dsimp only at hk; omega)]
    show F[ckMp nF μ.2.1 k]? = _
    rw [ckMp_lt hk]
  · dsimp only at hv2 ⊢
    unfold ckMoved at hmv
    unfold ckMv
    split at hmv
    · exact True.intro
    · cases hb : Nat.ble (v + 1) T1.length with
      | false => rw [hb] at hmv; cases hmv
      | true =>
        rw [hb] at hmv
        have hvt := Nat.le_of_ble_eq_true hb
        obtain ⟨x, hx⟩ : ∃ x, I[v]? = some x := ⟨_, List.getElem?_eq_getElem (hv2 (by decide))⟩
        obtain ⟨y, hy⟩ : ∃ y, I'[v]? = some y := ⟨_, List.getElem?_eq_getElem (by omega)⟩
        have e : I[ckMp nI μ.1 v]? = some y := by rw [← hy]; exact (r2 v (by omega)).symm
        have := ckLeq_ok hT hZ hmv hx e
        exact ⟨x, y, hx, hy, by omega⟩
    · rename_i hn0 hn1
      cases hb : Nat.ble (v + 1) T1.length with
      | false => rw [hb] at hmv; cases hmv
      | true =>
        rw [hb] at hmv
        have hvt := Nat.le_of_ble_eq_true hb
        obtain ⟨x, hx⟩ : ∃ x, I[v]? = some x := ⟨_, List.getElem?_eq_getElem (hv2 hn0)⟩
        obtain ⟨y, hy⟩ : ∃ y, I'[v]? = some y := ⟨_, List.getElem?_eq_getElem (by omega)⟩
        have e : I[ckMp nI μ.1 v]? = some y := by rw [← hy]; exact (r2 v (by omega)).symm
        have := ckLeq_ok hT hZ hmv e hx
        split
        · exact True.intro
        · exact absurd rfl hn1
        · exact ⟨x, y, hx, hy, by omega⟩
end CKCUT

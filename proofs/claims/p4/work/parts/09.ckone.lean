/-! THE CHECKER: one instruction over the machine -/
def ckFty (d : Nat) (ty : FieldType) : Prop := match d with
  | 0 => ty = .int
  | 1 => ty = .boolean
  | _ => (∃ n, ty = .object n) ∨ ∃ t, ty = .array t
/-- what an instruction's own places in the class file stand for; a, b, d: as the checker takes them -/
def ckLink (TW : List Jvm.Cond) (cl : List vw_C) (ks : Nat → List Nat) (own : String) (ini : Bool) (i : Instr) (a b d : Nat) : Prop := match i with
  | .getfield idx => (a = 900 → (b = 0 ∧ Jvm.Cond.fieldLink own idx "java/lang/String" "value" "[B" ∈ TW) ∨ (b = 1 ∧ Jvm.Cond.fieldLink own idx "java/lang/String" "coder" "B" ∈ TW)) ∧ (a ≠ 900 → ∃ q : vw_C, cl[a]? = some q ∧ b < q.2.2 ∧ Jvm.Cond.fieldLink own idx (q.2.1 b).1 (q.2.1 b).2.1 (q.2.1 b).2.2.1 ∈ TW)
  | .putfield idx => ∃ (q : vw_C) (ty : FieldType), cl[a]? = some q ∧ b < q.2.2 ∧ Jvm.Cond.fieldLink own idx (q.2.1 b).1 (q.2.1 b).2.1 (q.2.1 b).2.2.1 ∈ TW ∧ parseFieldDescriptor (q.2.1 b).2.2.1 = some ty ∧ ckFty d ty ∧ ((q.2.1 b).2.2.2 = false ∨ (ini = true ∧ (q.2.1 b).2.2.2 = true ∧ (q.2.1 b).1 = own))
  | .getstatic idx => (a = 900 → Jvm.Cond.fieldLink own idx "java/lang/String" "COMPACT_STRINGS" "Z" ∈ TW) ∧ (a ≠ 900 → Jvm.Cond.fieldLink own idx "FarMachine" (ckSn a) "[I" ∈ TW ∨ (own, idx, a) ∈ ckNF)
  | .ldc idx => (b = 1 → own = "FarMachine$RuleReader" ∧ idx = 58) ∧ (b ≠ 1 → Jvm.Cond.constant own idx (nI a) ∈ TW)
  | .ldc_w idx => Jvm.Cond.constant own idx (nI a) ∈ TW
  | .ldc2_w idx => (b = 1 → Jvm.Cond.constantLong own idx (Int64.ofNat a) ∈ TW) ∧ (b ≠ 1 → ∃ v : Int64, Jvm.Cond.constantLong own idx v ∈ TW)
  | .new idx => ∃ (q : vw_C) (ty : Nat → FieldType), cl[a]? = some q ∧ Jvm.Cond.classLink own idx q.1 ∈ TW ∧ Jvm.Cond.instantiable q.1 q.2.2 ∈ TW ∧ Jvm.Cond.initialized q.1 ∈ TW ∧ (∀ k, k < q.2.2 → parseFieldDescriptor (q.2.1 k).2.2.1 = some (ty k)) ∧ (∀ j, j < q.2.2 → defaultValue (ty j) = vp_V (ckDf (ks a)) j) ∧ (ks a).length = q.2.2
  | .newarray ty => Jvm.Cond.arrayClass (newarray.typeOf ty) ∈ TW ∧ ((a = 0 ∧ ty = .int) ∨ (a = 1 ∧ ty = .long) ∨ (a = 2 ∧ ty = .boolean))
  | .invokestatic idx => (a = 1000 → Jvm.Cond.methodLink own idx Lib.Math.max.name ∈ TW ∧ Jvm.Cond.static Lib.Math.max.name ∈ TW ∧ Jvm.Cond.initialized "java/lang/Math" ∈ TW ∧ Jvm.Cond.code Lib.Math.max.name Lib.Math.max.code 2 (some .int) ∈ TW) ∧ (a = 1001 → Jvm.Cond.methodLink own idx Lib.Math.min.name ∈ TW ∧ Jvm.Cond.static Lib.Math.min.name ∈ TW ∧ Jvm.Cond.initialized "java/lang/Math" ∈ TW ∧ Jvm.Cond.code Lib.Math.min.name Lib.Math.min.code 2 (some .int) ∈ TW) ∧ (a = 1002 → Jvm.Cond.methodLink own idx Lib.Math.abs.name ∈ TW ∧ Jvm.Cond.static Lib.Math.abs.name ∈ TW ∧ Jvm.Cond.initialized "java/lang/Math" ∈ TW ∧ Jvm.Cond.code Lib.Math.abs.name Lib.Math.abs.code 1 (some .int) ∈ TW) ∧ (a = 1003 → Jvm.Cond.methodLink own idx arraycopyName ∈ TW ∧ Jvm.Cond.native arraycopyName ∈ TW ∧ Jvm.Cond.static arraycopyName ∈ TW ∧ Jvm.Cond.initialized "java/lang/System" ∈ TW)
  | .invokespecial idx => a = 1004 → Jvm.Cond.methodLink own idx Lib.objectInit ∈ TW ∧ Jvm.Cond.instanceMethod Lib.objectInit ∈ TW ∧ Jvm.Cond.code Lib.objectInit ⟨#[0xb1]⟩ 1 none ∈ TW
  | _ => True
theorem ckTopX_s {I : List Int32} {ad : List Nat} {sa : Nat → Nat} {k : Nat} {S r : List ckV} (h : ckTopX k S = some r) {st : List Value} (hS : ck2 (ckHas I ad sa) S st) : ∃ st' : List Value, st = .ref (sa k) :: st' ∧ ck2 (ckHas I ad sa) r st' := by
  cases S with
  | nil => cases h
  | cons q S =>
    obtain ⟨t, n⟩ := q
    cases st with
    | nil => exact hS.elim
    | cons v st =>
      unfold ckTopX at h
      dsimp only at h
      split at h
      · rename_i h1
        split at h
        · rename_i h2
          cases h
          have e1 := Nat.eq_of_beq_eq_true h1
          have e2 := Nat.eq_of_beq_eq_true h2
          subst e1; subst e2
          have hv : v = .ref (sa n) := hS.1
          subst hv
          exact ⟨st, rfl, hS.2⟩
        · cases h
      · cases h
theorem ckLet (n : Nat) (hn : n < 8) : ckW (97, 119) ([(104 : Int32), 102, 100, 97, 112, 116, 119, 111].getD n 0) := by
  rcases (show n = 0 ∨ n = 1 ∨ n = 2 ∨ n = 3 ∨ n = 4 ∨ n = 5 ∨ n = 6 ∨ n = 7 by omega) with rfl | rfl | rfl | rfl | rfl | rfl | rfl | rfl <;> exact ⟨by decide, by decide⟩
theorem ck_b8 {v : Int} (h1 : -128 ≤ v) (h2 : v ≤ 127) : ((Int8.ofInt v).toInt32).toInt = v := by
  rw [Int8.toInt_toInt32, Int8.toInt_ofInt, show Int8.size = 256 from rfl, Int.bmod_eq_of_le (by omega) (by omega)]
theorem ck_b16 {v : Int} (h1 : -32768 ≤ v) (h2 : v ≤ 32767) : ((Int16.ofInt v).toInt32).toInt = v := by
  rw [Int16.toInt_toInt32, Int16.toInt_ofInt, show Int16.size = 65536 from rfl, Int.bmod_eq_of_le (by omega) (by omega)]
theorem ck_i2b1 (x : Int32) (h1 : -128 ≤ x.toInt) (h2 : x.toInt ≤ 127) : x.toInt8.toInt32 = x := by
  apply Int32.toInt_inj.1
  rw [Int8.toInt_toInt32, Int32.toInt_toInt8, Int.bmod_eq_of_le (by omega) (by omega)]
theorem ck_i2b2 (x : Int32) : -128 ≤ x.toInt8.toInt32.toInt ∧ x.toInt8.toInt32.toInt ≤ 127 := by
  rw [Int8.toInt_toInt32]
  have h1 := Int8.le_toInt x.toInt8
  have h2 := Int8.toInt_lt x.toInt8
  omega
theorem ck_i2c2 (x : Int32) : 0 ≤ (x.toUInt32 % 65536).toInt32.toInt ∧ (x.toUInt32 % 65536).toInt32.toInt ≤ 65535 := by
  have h : x.toBitVec.toNat % 65536 < 65536 := Nat.mod_lt _ (by decide)
  rw [pk_char, nI_toInt (by omega)]
  omega
theorem ck_i2c1 (x : Int32) (h1 : 0 ≤ x.toInt) (h2 : x.toInt ≤ 65535) : (x.toUInt32 % 65536).toInt32 = x := by
  obtain ⟨n, n1, n2, n3⟩ := ck_nat h1
  rw [pk_char, n2, pk_tn (by omega), Nat.mod_eq_of_lt (by omega)]
theorem ck_01 {x : Int32} (h1 : 0 ≤ x.toInt) (h2 : x.toInt ≤ 1) : x = 0 ∨ x = 1 := by
  have z0 : (0 : Int32).toInt = 0 := rfl
  have z1 : (1 : Int32).toInt = 1 := rfl
  rcases (show x.toInt = 0 ∨ x.toInt = 1 by omega) with h | h
  · exact Or.inl (Int32.toInt_inj.mp (by omega))
  · exact Or.inr (Int32.toInt_inj.mp (by omega))
theorem ck_lcmp (x y : Int64) : -1 ≤ (lg_cmp x y).toInt ∧ (lg_cmp x y).toInt ≤ 1 := by
  unfold lg_cmp
  split
  · decide
  · split <;> decide
section CKONE
variable {k0 s0 : Nat} {p : Program} {l : Launch} {e : Env} {R : Room} {s : State} {m : MethodId} {args : Array Value} {below : List Frame} {meth : Method} {c : Code} {Q : State → Prop} {nL : Nat} {cl : List vw_C} {D : va_G} {tI : Nat → ClassId} {sa SL : Nat → Nat} {SX : Nat → Nat → Int32} {nk : Nat} {A : Nat → Prop} {cc : ByteArray} {own : String} {ini : Bool} {mc ms : Nat} {TW : List Jvm.Cond}
variable {σ τ : ckS} {pc : Nat} {I : List Int32} {F : List (Nat → Int32)} {ws : va_W} {ls : Array Slot} {st : List Value} {H : Heap} {locs : List Loc}
set_option maxHeartbeats 4000000 in
theorem ckStep_ok (hC : ckCx k0 s0 p R s m args meth c cc nL own ini mc ms TW cl D tI sa SL SX nk A) {ks : Nat → List Nat} {i : Instr} {a b d : Nat} (h : ckStep ks nL mc ms i a b d σ = some τ) (hd : decode cc pc = .ok (i, ckLn i)) (hk : ckLink TW cl ks own ini i a b d)
    (hR : ckRel nL tI sa SL SX nk σ I F ws ls st) (hW : ckWd s D cl A ws H locs) (kk : ckGoal k0 s0 p l e R s m args below meth c Q nL cl D tI sa SL SX nk A τ (pc + ckLn i) I F ws) :
    W p l e R s m args below meth c H locs (k0 + σ.2.2.2.2.2.2.2.2.1) (s0 + σ.2.2.2.2.2.2.2.2.2) Q (F0 m pc ls st) := by
  obtain ⟨hx, hb, hml, hown, hts, hK, hA, hin, hso, hst, hcls, hrc, hrs, hrf, hrl, hns⟩ := hC
  obtain ⟨hP, hD, hS⟩ := id hW
  have hK0 : (ckTys tI)[0]? = some (tI 0, .int) := rfl
  have hK1 : (ckTys tI)[1]? = some (tI 1, .long) := rfl
  have hK2 : (ckTys tI)[2]? = some (tI 2, .boolean) := rfl
  have hsz : ls.size = nL := by obtain ⟨⟨lv, h1, -⟩, -⟩ := hR; exact h1.1
  have hwd : (st.map fun v => v.category).sum ≤ ckWords σ.2.1 := ckWords_s hR.2.1
  unfold ckStep at h
  split at h
  · -- iconst
    rename_i v
    obtain ⟨v1, v2, w⟩ := ckS_const h hR hW kk
    exact lv_iconst hx hb hd rfl (w _ (ck_ofI v1 v2))
  · -- bipush
    rename_i v
    split at h
    · rename_i hv
      have hv2 := Bool.and_eq_true _ _ ▸ hv
      obtain ⟨v1, v2, w⟩ := ckS_const h hR hW kk
      exact lv_bipush hx hb hd rfl (w _ (ck_b8 (ckLe0_t hv2.1) (ckLe0_t hv2.2)))
    · cases h
  · -- sipush
    rename_i v
    split at h
    · rename_i hv
      have hv2 := Bool.and_eq_true _ _ ▸ hv
      obtain ⟨v1, v2, w⟩ := ckS_const h hR hW kk
      exact lv_sipush hx hb hd rfl (w _ (ck_b16 (ckLe0_t hv2.1) (ckLe0_t hv2.2)))
    · cases h
  · -- ldc
    cases hb1 : Nat.beq b 1 with
    | true =>
      rw [hb1] at h
      cases h
      have hk1 := hk.1 (Nat.eq_of_beq_eq_true hb1)
      rw [hk1.2] at hd
      exact va_ldcS hx hb hown (by rw [hk1.1]; exact hns.2.2) hd (ckS_push hR hW kk rfl)
    | false =>
    rw [hb1] at h
    replace hk := hk.2 (fun q => by subst q; cases hb1)
    obtain ⟨v1, v2, w⟩ := ckS_const h hR hW kk
    have v3 : (a : Int) < 2147483648 := v2
    exact lv_ldc hx hb hown (hts _ hk) hd (w (nI a) (nI_toInt (by omega)))
  · -- ldc_w
    obtain ⟨v1, v2, w⟩ := ckS_const h hR hW kk
    have v3 : (a : Int) < 2147483648 := v2
    exact lv_ldcw hx hb hown (hts _ hk) hd (w (nI a) (nI_toInt (by omega)))
  · -- ldc2_w
    cases hb1 : Nat.beq b 1 with
    | true =>
      rw [hb1] at h
      dsimp only at h
      split at h
      · rename_i ha
        have ha := Nat.le_of_ble_eq_true ha
        cases h
        obtain ⟨hL, hSt, hE⟩ := hR
        refine lv_ldc2 hx hb hown (hts _ (hk.1 (Nat.eq_of_beq_eq_true hb1))) hd ?_
        have hI := ckExt_app I [nI a]
        refine kk (I ++ [nI a]) F ws ls _ H locs hI (ckExt_rf _) (ckExt_rf _) ⟨hL.mono hI (ckExt_rf _), ⟨⟨_, nI a, rfl, by show (I ++ [nI a])[σ.2.2.2.1.length]? = _; rw [hE.len]; exact ck_last _ _, ?_⟩, ck2_mono (fun _ _ q => q.mono hI (ckExt_rf _)) hSt⟩, hE.addI (zs := []) ?_ fun z hz => absurd hz List.not_mem_nil⟩ ⟨hP, hD, hS⟩
        · rw [nI_toInt (by omega), Int64.toInt_ofNat_of_lt (by omega)]
        · have e9 : (nI a).toInt = (a : Int) := nI_toInt (by omega)
          exact ⟨by show (a : Int) ≤ _; omega, by show _ ≤ (a : Int); omega⟩
      · cases h
    | false =>
    rw [hb1] at h
    cases h
    obtain ⟨v, hv⟩ := hk.2 (fun q => by subst q; cases hb1)
    exact lv_ldc2 hx hb hown (hts _ hv) hd (ckS_push hR hW kk ⟨v, rfl⟩)
  · -- lconst
    cases h
    exact lv_lconst hx hb hd rfl (ckS_push hR hW kk ⟨_, rfl⟩)
  · -- iload
    obtain ⟨n, v, g1, ⟨x, rfl, -⟩, w⟩ := ckS_load h hR hW kk
    exact lv_iload hx hb hd g1 w
  · -- iload_n
    obtain ⟨n, v, g1, ⟨x, rfl, -⟩, w⟩ := ckS_load h hR hW kk
    exact lv_iload_n hx hb hd rfl g1 w
  · -- aload
    obtain ⟨x, g1, w⟩ := ckS_aload h hR hW kk
    exact lv_aload hx hb hd g1 w
  · -- aload_n
    obtain ⟨x, g1, w⟩ := ckS_aload h hR hW kk
    exact lv_aload_n hx hb hd rfl g1 w
  · -- lload
    obtain ⟨n, v, g1, ⟨x, rfl⟩, w⟩ := ckS_load h hR hW kk
    exact lv_lload hx hb hd g1 w
  · -- lload_n
    obtain ⟨n, v, g1, ⟨x, rfl⟩, w⟩ := ckS_load h hR hW kk
    exact lv_lload_n hx hb hd rfl g1 w
  · -- istore
    unfold ckIStore at h
    split at h
    · cases h
    · rename_i q r hq
      split at h
      · rename_i hq0
        obtain ⟨q1, r1, v, st', lv, e1, rfl, hv, hn, hl, w⟩ := ckS_store1 h hR hW kk
        rw [hq] at e1
        cases e1
        obtain ⟨t, n⟩ := q
        dsimp only at hq0
        subst hq0
        obtain ⟨x, rfl, -⟩ := hv
        exact lv_istore hx hb hd hl hn rfl w
      · cases h
  · -- istore_n
    unfold ckIStore at h
    split at h
    · cases h
    · rename_i q r hq
      split at h
      · rename_i hq0
        obtain ⟨q1, r1, v, st', lv, e1, rfl, hv, hn, hl, w⟩ := ckS_store1 h hR hW kk
        rw [hq] at e1
        cases e1
        obtain ⟨t, n⟩ := q
        dsimp only at hq0
        subst hq0
        obtain ⟨x, rfl, -⟩ := hv
        exact lv_istore_n hx hb hd rfl hl hn rfl w
      · cases h
  · -- astore
    unfold ckAStore at h
    split at h
    · cases h
    · rename_i q r hq
      split at h
      · rename_i hq0
        obtain ⟨q1, r1, v, st', lv, e1, rfl, hv, hn, hl, w⟩ := ckS_store1 h hR hW kk
        rw [hq] at e1
        cases e1
        obtain ⟨t, n⟩ := q
        rcases Bool.or_eq_true _ _ ▸ hq0 with g | g
        · have et : t = 1 := Nat.eq_of_beq_eq_true g
          subst et
          obtain ⟨x, rfl, -⟩ := hv
          exact lv_astore hx hb hd hl hn rfl w
        · have et : t = 4 := Nat.eq_of_beq_eq_true g
          subst et
          have ev : v = .ref (sa n) := hv
          subst ev
          exact lv_astore hx hb hd hl hn rfl w
      · cases h
  · -- astore_n
    unfold ckAStore at h
    split at h
    · cases h
    · rename_i q r hq
      split at h
      · rename_i hq0
        obtain ⟨q1, r1, v, st', lv, e1, rfl, hv, hn, hl, w⟩ := ckS_store1 h hR hW kk
        rw [hq] at e1
        cases e1
        obtain ⟨t, n⟩ := q
        rcases Bool.or_eq_true _ _ ▸ hq0 with g | g
        · have et : t = 1 := Nat.eq_of_beq_eq_true g
          subst et
          obtain ⟨x, rfl, -⟩ := hv
          exact lv_astore_n hx hb hd rfl hl hn rfl w
        · have et : t = 4 := Nat.eq_of_beq_eq_true g
          subst et
          have ev : v = .ref (sa n) := hv
          subst ev
          exact lv_astore_n hx hb hd rfl hl hn rfl w
      · cases h
  · -- lstore
    obtain ⟨x, st', lv, rfl, hn, hl, w⟩ := ckS_lstore h hR hW kk
    exact lv_lstore hx hb hd hl hn rfl w
  · -- lstore_n
    obtain ⟨x, st', lv, rfl, hn, hl, w⟩ := ckS_lstore h hR hW kk
    exact lv_lstore_n hx hb hd rfl hl hn rfl w
  · -- iinc
    obtain ⟨x, lv, hm, hn, hl, w⟩ := ckS_iinc h hR hW kk
    obtain ⟨k, hk2⟩ := List.getElem?_of_mem hm
    exact lv_iinc hx hb hd hl hk2 rfl hn rfl w
  · -- iadd
    obtain ⟨x, y, st', rfl, -, w⟩ := ckS_u2 (ckG_add false) (ckRec5_ok fun _ _ => rfl) (fun q => by cases q) h hR hW kk
    exact lv_iadd hx hb hd w
  · -- isub
    obtain ⟨x, y, st', rfl, -, w⟩ := ckS_u2 (ckG_sub false) (ckRec5_ok fun _ _ => rfl) (fun q => by cases q) h hR hW kk
    exact lv_isub hx hb hd w
  · -- imul
    obtain ⟨x, y, st', rfl, -, w⟩ := ckS_u2 (ckG_mul false) (ckRec5_ok fun _ _ => rfl) (fun q => by cases q) h hR hW kk
    exact lv_imul hx hb hd w
  · -- iand
    obtain ⟨x, y, st', rfl, -, w⟩ := ckS_u2 (ckG_and false) ckNoK_ok (fun q => by cases q) h hR hW kk
    exact lv_iand hx hb hd w
  · -- ior
    obtain ⟨x, y, st', rfl, -, w⟩ := ckS_u2 (ckG_or false) ckNoK_ok (fun q => by cases q) h hR hW kk
    exact lv_ior hx hb hd w
  · -- ixor
    obtain ⟨x, y, st', rfl, -, w⟩ := ckS_u2 (ckG_xor false) ckNoK_ok (fun q => by cases q) h hR hW kk
    exact lv_ixor hx hb hd w
  · -- ishl
    obtain ⟨x, y, st', rfl, -, w⟩ := ckS_u2 (ckG_shl false) ckNoK_ok (fun q => by cases q) h hR hW kk
    exact lv_ishl hx hb hd w
  · -- ishr
    obtain ⟨x, y, st', rfl, -, w⟩ := ckS_u2 (ckG_shr false) ckNoK_ok (fun q => by cases q) h hR hW kk
    exact lv_ishr hx hb hd w
  · -- iushr
    obtain ⟨x, y, st', rfl, -, w⟩ := ckS_u2 (ckG_ushr false) ckNoK_ok (fun q => by cases q) h hR hW kk
    exact lv_iushr hx hb hd rfl w
  · -- idiv
    split at h
    · rename_i hp
      obtain ⟨x, y, st', rfl, hy, w⟩ := ckS_u2 ckG_div ckNoK_ok (fun _ => hp) h hR hW kk
      exact lv_idiv hx hb hd (hy rfl) w
    · cases h
  · -- irem
    split at h
    · rename_i hp
      obtain ⟨x, y, st', rfl, hy, w⟩ := ckS_u2 ckG_rem ckNoK_ok (fun _ => hp) h hR hW kk
      exact lv_irem hx hb hd (hy rfl) w
    · cases h
  · -- ineg
    obtain ⟨x, st', rfl, w⟩ := ckS_u1 (φ := fun x => -x) ckG_neg h hR hW kk
    exact lv_ineg hx hb hd w
  · -- i2b
    obtain ⟨x, st', rfl, w⟩ := ckS_nar (φ := fun x => x.toInt8.toInt32) ck_i2b1 ck_i2b2 h hR hW kk
    exact lv_i2b hx hb hd rfl w
  · -- i2c
    obtain ⟨x, st', rfl, w⟩ := ckS_nar (φ := fun x => (x.toUInt32 % 65536).toInt32) ck_i2c1 ck_i2c2 h hR hW kk
    exact lv_i2c hx hb hd rfl w
  · -- i2l
    obtain ⟨x, st', rfl, w⟩ := ckS_i2l h hR hW kk
    exact lv_i2l hx hb hd rfl w
  · -- l2i
    obtain ⟨x, st', rfl, w⟩ := ckS_l2i h hR hW kk
    exact lv_l2i hx hb hd rfl (w _)
  · -- ladd
    obtain ⟨x, y, st', rfl, w⟩ := ckS_ladd h hR hW kk
    exact lv_ladd hx hb hd w
  · -- land
    obtain ⟨x, y, st', rfl, w⟩ := ckS_ll h hR hW kk
    exact lv_land hx hb hd (w _)
  · -- lor
    obtain ⟨x, y, st', rfl, w⟩ := ckS_ll h hR hW kk
    exact lv_lor hx hb hd (w _)
  · -- lshl
    obtain ⟨x, y, st', rfl, w⟩ := ckS_li h hR hW kk
    exact lv_lshl hx hb hd rfl (w _)
  · -- lshr
    obtain ⟨x, y, st', rfl, w⟩ := ckS_li h hR hW kk
    exact lv_lshr hx hb hd rfl (w _)
  · -- lcmp
    obtain ⟨x, y, st', rfl, w⟩ := ckS_lcmpE ck_lcmp h hR hW kk
    exact W.lcmp hx hb hd w
  · -- dup
    obtain ⟨v, st', rfl, h1, w⟩ := ckS_dup h hR hW kk
    exact lv_dup hx hb hd h1 w
  · -- dup2
    obtain ⟨v, u, st', rfl, h1, h2, w⟩ := ckS_dup2 h hR hW kk
    exact lv_dup2_11 hx hb hd h1 h2 w
  · -- pop
    obtain ⟨v, st', rfl, h1, w⟩ := ckS_pop h hR hW kk
    exact lv_pop hx hb hd h1 w
  · -- getfield
    cases hb9 : Nat.beq a 900 with
    | true =>
      rw [hb9] at h
      replace hk := hk.1 (Nat.eq_of_beq_eq_true hb9)
      dsimp only at h
      unfold ckLitF at h
      obtain ⟨L, S, C, T, G, X, Z, K, nc, ns⟩ := σ
      obtain ⟨hL, hSt, hE⟩ := hR
      dsimp only at h
      split at h
      · cases h
      rename_i r hr
      obtain ⟨st', rfl, h2⟩ := ckTopX_s hr hSt
      obtain ⟨-, e2, e3, -⟩ := hst.2.2.1.1 0 (by omega)
      rcases hk with ⟨rfl, hk⟩ | ⟨rfl, hk⟩
      · cases h
        exact vk_getf hx hb e3 hS hown (hts _ hk) (fun _ h9 => h9) hd (kk I F ws ls _ H locs (ckExt_rf _) (ckExt_rf _) (ckExt_rf _) ⟨hL, ⟨rfl, h2⟩, hE⟩ ⟨hP, hD, hS⟩)
      · obtain ⟨-, -, w⟩ := ckS_const (st := st') h ⟨hL, h2, hE⟩ ⟨hP, hD, hS⟩ kk
        exact vk_getf hx hb e2 hS hown (hts _ hk) (fun _ h9 => h9) hd (w 0 rfl)
    | false =>
    rw [hb9] at h
    replace hk := hk.2 (fun q => by subst q; cases hb9)
    obtain ⟨q, q1, q2, q3⟩ := hk
    obtain ⟨o, x, vs, v, st', rfl, g1, g2, w⟩ := ckS_getf h hR hW kk
    obtain ⟨cw, -, -⟩ := hcls _ _ q1
    exact va_get (D := D) (own := own) (ref := (q.2.1 b).1) hx hb hts cw hown hK hP o g1 q1 b q2 (hts _ q3) (fun _ h9 => h9) g2 hd w
  · -- putfield
    obtain ⟨q, ty, q1, q2, q3, q4, q5, q6⟩ := hk
    obtain ⟨o, x, vs, v, st', rfl, g1, g2, k0, k1, k2, k3, w⟩ := ckS_putf h hR kk
    obtain ⟨cw, ⟨ty0, hty⟩, hnm⟩ := hcls _ _ q1
    have hn : narrow ty v = v ∧ fits ty v = true := by
      rcases (show d = 0 ∨ d = 1 ∨ d = 2 by omega) with rfl | rfl | rfl
      · obtain ⟨z, rfl⟩ := k0 rfl
        have e : ty = .int := q5
        subst e
        exact ⟨rfl, rfl⟩
      · obtain ⟨z, rfl, z1, z2⟩ := k1 rfl
        have e : ty = .boolean := q5
        subst e
        rcases ck_01 z1 z2 with rfl | rfl <;> exact ⟨by decide, by decide⟩
      · obtain ⟨z, rfl⟩ := k2 rfl
        have q5 : (∃ n, ty = .object n) ∨ ∃ t, ty = .array t := q5
        rcases q5 with ⟨n, rfl⟩ | ⟨t, rfl⟩ <;> exact ⟨rfl, rfl⟩
    rcases q6 with q6 | ⟨q6, q7, q8⟩
    · exact va_put (D := D) (own := own) (ref := (q.2.1 b).1) hx hb hts cw ty0 hty hnm hown hK hP hD hS o g1 q1 b q2 (hts _ q3) (fun _ h9 => h9) q6 q4 hn.1 hn.2 g2 hd w
    · exact va_putF (D := D) (own := own) (ref := (q.2.1 b).1) hx hb hts cw ty0 hty hnm hown hK hP hD hS o g1 q1 b q2 (hts _ q3) (fun _ h9 => h9) q7 (hin q6) q8 q4 hn.1 hn.2 g2 hd w
  · -- getstatic
    split at h
    · rename_i ha
      cases h
      have ha2 := Nat.le_of_ble_eq_true ha
      rcases hk.2 (by omega) with hk | hk
      · exact va_gets (own := own) (ref := "FarMachine") hx hb (hst.2.1 a (by omega)) hS hown (hts _ hk) (fun _ h9 => h9) hd (ckS_push hR hW kk rfl)
      · exact va_getsN (own := own) (ref := "FarMachine") hx hb (hst.2.1 a (by omega)) hS hown (va_Nw.use rfl (hns.2.1 _ hk)) (fun _ h9 => h9) hd (ckS_push hR hW kk rfl)
    · split at h
      · rename_i hb9
        obtain ⟨-, -, w⟩ := ckS_const h hR hW kk
        exact va_gets (own := own) (ref := "java/lang/String") hx hb hst.2.2.2 hS hown (hts _ (hk.1 (Nat.eq_of_beq_eq_true hb9))) (fun _ h9 => h9) hd (w 1 rfl)
      · cases h
  · -- iaload
    unfold ckIald at h
    split at h
    · rename_i t ht
      cases h
      obtain ⟨o, x, n, f, j, st', rfl, g1, g2, w⟩ := ckS_ald (by decide) ht hR hW kk
      exact va_iald hx hb hK hP o 0 g1 hK0 g2 hd w
    · obtain ⟨k, j, st', rfl, g1, g2, w⟩ := ckS_old hso h hR hW kk
      obtain ⟨z1, z2, z3⟩ := hst.1 k g1
      exact va_sld hx hb z1 z2 z3 hS g2 hd w
  · -- baload
    split at h
    · rename_i τ' hb9
      cases h
      unfold ckLitB at hb9
      obtain ⟨L, S, C, T, G, X, Z, K, nc, ns⟩ := σ
      have hR' := hR
      obtain ⟨hL, hSt, hE⟩ := hR
      have hT : ck2 ckW T I := hE.2.1
      have hZ : ∀ z ∈ Z, ckZok I z := hE.2.2.2.2.1
      dsimp only at hb9
      split at hb9
      · cases hb9
      rename_i i r hi
      obtain ⟨x, st1, rfl, hx1, h2⟩ := ckTopI_s hi hSt
      split at hb9
      · cases hb9
      rename_i r2 hr
      obtain ⟨st', rfl, h3⟩ := ckTopX_s hr h2
      split at hb9
      · cases hb9
      rename_i c1
      split at hb9
      · cases hb9
      rename_i c2
      cases hb9
      have hw := ckIv_ok hT hx1 hZ
      have c1 := ckLe0_t c1
      have c2 := ckLe0_t c2
      have d1 : 0 ≤ x.toInt := by have := hw.1; omega
      have d2 : x.toInt ≤ 7 := by have := hw.2; omega
      obtain ⟨n, rfl, hn⟩ : ∃ n : Nat, x = nI n ∧ n < 8 := ⟨x.toInt.toNat, by apply Int32.toInt_inj.mp; rw [nI_toInt (by omega)]; omega, by omega⟩
      obtain ⟨-, -, -, e4⟩ := hst.2.2.1.1 0 (by omega)
      refine va_tb hx hb e4 hS (i := nI n) (v := .int ([(104 : Int32), 102, 100, 97, 112, 116, 119, 111].getD n 0)) ?_ ?_ hd ?_
      · exact vp_in_nI (show n < ([8] : List Nat).getD 0 0 from hn) (by decide)
      · rw [nI_clamp (by omega)]; rfl
      · refine ckS_pushI (σ := (L, r2, C, T, G, X, Z, K, nc, ns)) ⟨hL, h3, hE⟩ ⟨hP, hD, hS⟩ kk ?_ (fun z hz => absurd hz List.not_mem_nil)
        exact ckLet n hn
    · obtain ⟨o, x, n, f, j, st', rfl, g1, g2, w⟩ := ckS_ald (by decide) h hR hW kk
      exact va_zald hx hb hK hP o 2 g1 hK2 g2 hd w
  · -- laload
    obtain ⟨o, x, n, f, j, st', rfl, g1, g2, w⟩ := ckS_lald h hR hW kk
    exact va_lald hx hb hK hP o 1 g1 hK1 g2 hd (w _)
  · -- iastore
    obtain ⟨o, x, n, f, j, z, st', rfl, g1, g2, -, w⟩ := ckS_ast (by decide) h hR kk
    exact va_iast hx hb hK hP hD hS o 0 g1 hK0 g2 hd w
  · -- bastore
    obtain ⟨o, x, n, f, j, z, st', rfl, g1, g2, g3, w⟩ := ckS_ast (by decide) h hR kk
    have gz := g3 (by decide)
    have ez : vp_nar .boolean z = z := by rcases ck_01 gz.1 gz.2 with rfl | rfl <;> decide
    exact va_zast hx hb hK hP hD hS o 2 g1 hK2 g2 hd (by rw [ez]; exact w)
  · -- lastore
    obtain ⟨o, x, n, f, j, z, st', rfl, g1, g2, w⟩ := ckS_last h hR kk
    exact va_last hx hb hK hP hD hS o 1 g1 hK1 g2 hd (w _)
  · -- arraylength
    split at h
    · rename_i τ' hb9
      cases h
      unfold ckLitL at hb9
      obtain ⟨L, S, C, T, G, X, Z, K, nc, ns⟩ := σ
      obtain ⟨hL, hSt, hE⟩ := hR
      dsimp only at hb9
      split at hb9
      · cases hb9
      rename_i r hr
      obtain ⟨st', rfl, h2⟩ := ckTopX_s hr hSt
      obtain ⟨-, -, -, e4⟩ := hst.2.2.1.1 0 (by omega)
      obtain ⟨-, -, w⟩ := ckS_const (st := st') hb9 ⟨hL, h2, hE⟩ ⟨hP, hD, hS⟩ kk
      exact va_tlen hx hb e4 hS (v := 8) rfl hd (w 8 rfl)
    rename_i hb9
    rcases ckS_len hso h hR hW kk with ⟨o, x, t, y, st', rfl, g1, g2, w⟩ | ⟨k, st', rfl, g1, w⟩
    · rcases (show t = 0 ∨ t = 1 ∨ t = 2 by omega) with rfl | rfl | rfl
      · exact va_alen hx hb hK hP o 0 g1 hK0 rfl hd w
      · exact va_alen hx hb hK hP o 1 g1 hK1 rfl hd w
      · exact va_alen hx hb hK hP o 2 g1 hK2 rfl hd w
    · obtain ⟨z1, z2, z3⟩ := hst.1 k g1
      exact va_slen hx hb z1 z2 z3 hS hd w
  · -- new
    obtain ⟨q, ty, q1, q2, q3, q4, q5, q6, q7⟩ := hk
    obtain ⟨g1, g2, w⟩ := ckS_new (locs := locs) h hR kk
    obtain ⟨cw, -, -⟩ := hcls _ _ q1
    rw [q7] at g2 w
    exact va_new (own := own) hx hb hts cw ty q5 hown (hts _ q2) (hts _ q3) (hts _ q4) hK hP hD hS hA q1 q6 (by omega) (by omega) hd w
  · -- newarray
    obtain ⟨q1, q2⟩ := hk
    obtain ⟨n, w0, st', rfl, g1, g2, g3, g4, g5, w⟩ := ckS_newrow (locs := locs) h hR kk
    rcases q2 with ⟨rfl, rfl⟩ | ⟨rfl, rfl⟩ | ⟨rfl, rfl⟩
    · refine va_newa (atype := .int) (a0 := (w0, .inl fun _ => 0)) (ty := .int) hx hb (hts _ q1) rfl hK hP hD hS hA (fun cA => rfl) g1 g2 (by show w0 * 4 ≤ 536870912; omega) (by omega) (by omega) hd (fun q cA H1 hK' hP' hD' hS' => ?_)
      have ec : cA = tI 0 := by
        have h1 : s.vm.findClass ("[" ++ (FieldType.int).toString) = some cA := (hK'.2 3 (cA, .int) rfl).2
        have h2 : s.vm.findClass ("[" ++ (FieldType.int).toString) = some (tI 0) := (hK.2 0 _ hK0).2
        exact Option.some.inj (h1.symm.trans h2)
      subst ec
      exact w q _ H1 (fun h => by cases h) (fun _ => rfl) hP' hD' hS'
    · refine va_newa (atype := .long) (a0 := (w0, .inr (.inl fun _ => 0))) (ty := .long) hx hb (hts _ q1) rfl hK hP hD hS hA (fun cA => rfl) g1 g2 (by show w0 * 8 ≤ 536870912; omega) (by omega) (by omega) hd (fun q cA H1 hK' hP' hD' hS' => ?_)
      have ec : cA = tI 1 := by
        have h1 : s.vm.findClass ("[" ++ (FieldType.long).toString) = some cA := (hK'.2 3 (cA, .long) rfl).2
        have h2 : s.vm.findClass ("[" ++ (FieldType.long).toString) = some (tI 1) := (hK.2 1 _ hK1).2
        exact Option.some.inj (h1.symm.trans h2)
      subst ec
      exact w q _ H1 (fun _ => rfl) (fun h => absurd rfl h) hP' hD' hS'
    · refine va_newa (atype := .boolean) (a0 := (w0, .inl fun _ => 0)) (ty := .boolean) hx hb (hts _ q1) rfl hK hP hD hS hA (fun cA => rfl) g1 g2 (by show w0 * 1 ≤ 536870912; omega) (by omega) (by omega) hd (fun q cA H1 hK' hP' hD' hS' => ?_)
      have ec : cA = tI 2 := by
        have h1 : s.vm.findClass ("[" ++ (FieldType.boolean).toString) = some cA := (hK'.2 3 (cA, .boolean) rfl).2
        have h2 : s.vm.findClass ("[" ++ (FieldType.boolean).toString) = some (tI 2) := (hK.2 2 _ hK2).2
        exact Option.some.inj (h1.symm.trans h2)
      subst ec
      exact w q _ H1 (fun h => by cases h) (fun _ => rfl) hP' hD' hS'
  · -- invokestatic
    split at h
    · cases h
    · rename_i hw40
      have hw40 := Nat.le_of_ble_eq_true hw40
      split at h
      · cases h
      · rename_i hcb
        have hcb := Nat.le_of_ble_eq_true hcb
        split at h
        · cases h
        · rename_i hsb
          have hsb := Nat.le_of_ble_eq_true hsb
          split at h
          · obtain ⟨x, y, st', rfl, -, w, -⟩ := ckS_mm h hR hW kk
            obtain ⟨k1, k2, k3, k4⟩ := hk.1 rfl
            have hr : (st'.map fun v => v.category).sum ≤ 40 := by
              simp only [List.map_cons, List.sum_cons] at hwd
              omega
            exact va_mmax hx hb (by rw [hml, hsz]) hown (hts _ k1) (hts _ k2) (hts _ k3) (hts _ k4) hrf (by omega) (by omega) (by omega) hd (w rfl)
          · obtain ⟨x, y, st', rfl, -, -, w⟩ := ckS_mm h hR hW kk
            obtain ⟨k1, k2, k3, k4⟩ := hk.2.1 rfl
            have hr : (st'.map fun v => v.category).sum ≤ 40 := by
              simp only [List.map_cons, List.sum_cons] at hwd
              omega
            exact va_mmin hx hb (by rw [hml, hsz]) hown (hts _ k1) (hts _ k2) (hts _ k3) (hts _ k4) hrf (by omega) (by omega) (by omega) hd (w rfl)
          · obtain ⟨x, st', rfl, w⟩ := ckS_u1 (φ := fun x => if 0 ≤ x then x else 0 - x) ckG_abs h hR hW kk
            obtain ⟨k1, k2, k3, k4⟩ := hk.2.2.1 rfl
            have hr : (st'.map fun v => v.category).sum ≤ 40 := by
              simp only [List.map_cons, List.sum_cons] at hwd
              omega
            exact va_mabs hx hb (by rw [hml, hsz]) hown (hts _ k1) (hts _ k2) (hts _ k3) (hts _ k4) hrf (by omega) (by omega) (by omega) hd w
          · obtain ⟨o0, a0, n0, o1, a1, n1, f, g, sp, dp, n, st', rfl, g0, g1, rfl, rfl, z1, z2, z3, w⟩ := ckS_copy h hR kk
            obtain ⟨k1, k2, k3, k4⟩ := hk.2.2.2 rfl
            have hr : (st'.map fun v => v.category).sum ≤ 40 := by
              simp only [List.map_cons, List.sum_cons] at hwd
              omega
            have hz : ((0 : Int32).toNatClampNeg) = 0 := rfl
            have hnw : nativeFrameWords "java/lang/System" "arraycopy" 5 ≤ 7 := by decide +kernel
            exact va_copyi (ty := .int) hx hb (by rw [hml, hsz]) hown (hts _ k1) (hts _ k2) (hts _ k3) (hts _ k4) hK hP hD hS o0 o1 0 0 g0 g1 hK0 hK0 rfl (by decide) (by decide) z1 (by rw [hz]; omega) (by rw [hz]; omega) (fun _ _ => rfl) hrf (by omega) hd w
          · cases h
  · -- invokespecial
    split at h
    · cases h
    · rename_i hw40
      have hw40 := Nat.le_of_ble_eq_true hw40
      split at h
      · split at h
        · rename_i n r ht
          cases h
          obtain ⟨k1, k2, k3⟩ := hk rfl
          obtain ⟨hL, hSt, hE⟩ := hR
          obtain ⟨o, st', rfl, h2, h3⟩ := ckTopR_s ht hSt
          have hr : (st'.map fun v => v.category).sum ≤ 40 := by
            simp only [List.map_cons, List.sum_cons] at hwd
            omega
          refine W.objInit hx hb hown (hts _ k1) (hts _ k2) (hts _ k3) rfl (by rw [hml]; exact hsz) rfl hd hrf ?_ ?_
          · show 2 * 0 + _ + 12 ≤ _
            omega
          · exact kk I F ws ls st' H locs (ckExt_rf _) (ckExt_rf _) (ckExt_rf _) ⟨hL, h3, hE⟩ hW
        · cases h
      · cases h
  · cases h
end CKONE

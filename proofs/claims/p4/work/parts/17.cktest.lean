/-! THE CHECKER: a test of a method's instructions, and of what their places in the class file stand for -/
-- the words of the tables that an instruction wants; nx: its place is one among mates
noncomputable def ckWd1 (MT : Nat → ckMt) (cl : List vw_C) (own : String) (nx : Bool) (i : Instr) (a b : Nat) : List Jvm.Cond := match i with
  | .getfield idx => match Nat.beq a 900 with
    | true => match b with
      | 0 => [Jvm.Cond.fieldLink own idx "java/lang/String" "value" "[B"]
      | _ => [Jvm.Cond.fieldLink own idx "java/lang/String" "coder" "B"]
    | false => match cl[a]? with
      | some q => [Jvm.Cond.fieldLink own idx (q.2.1 b).1 (q.2.1 b).2.1 (q.2.1 b).2.2.1]
      | none => []
  | .putfield idx => match cl[a]? with
    | some q => [Jvm.Cond.fieldLink own idx (q.2.1 b).1 (q.2.1 b).2.1 (q.2.1 b).2.2.1]
    | none => []
  | .getstatic idx => match Nat.beq a 900 with
    | true => [Jvm.Cond.fieldLink own idx "java/lang/String" "COMPACT_STRINGS" "Z"]
    | false => match nx with
      | true => []
      | false => [Jvm.Cond.fieldLink own idx "FarMachine" (ckSn a) "[I"]
  | .ldc idx => match Nat.beq b 1 with
    | true => []
    | false => [Jvm.Cond.constant own idx (nI a)]
  | .ldc_w idx => [Jvm.Cond.constant own idx (nI a)]
  | .ldc2_w idx => [Jvm.Cond.constantLong own idx (Int64.ofNat a)]
  | .new idx => match cl[a]? with
    | some q => [Jvm.Cond.classLink own idx q.1, Jvm.Cond.instantiable q.1 q.2.2, Jvm.Cond.initialized q.1]
    | none => []
  | .newarray ty => [Jvm.Cond.arrayClass (newarray.typeOf ty)]
  | .invokestatic idx => match Nat.beq a 1000 with
    | true => [Jvm.Cond.methodLink own idx Lib.Math.max.name, Jvm.Cond.static Lib.Math.max.name, Jvm.Cond.initialized "java/lang/Math", Jvm.Cond.code Lib.Math.max.name Lib.Math.max.code 2 (some .int)]
    | false => match Nat.beq a 1001 with
      | true => [Jvm.Cond.methodLink own idx Lib.Math.min.name, Jvm.Cond.static Lib.Math.min.name, Jvm.Cond.initialized "java/lang/Math", Jvm.Cond.code Lib.Math.min.name Lib.Math.min.code 2 (some .int)]
      | false => match Nat.beq a 1002 with
        | true => [Jvm.Cond.methodLink own idx Lib.Math.abs.name, Jvm.Cond.static Lib.Math.abs.name, Jvm.Cond.initialized "java/lang/Math", Jvm.Cond.code Lib.Math.abs.name Lib.Math.abs.code 1 (some .int)]
        | false => match Nat.beq a 1003 with
          | true => [Jvm.Cond.methodLink own idx arraycopyName, Jvm.Cond.native arraycopyName, Jvm.Cond.static arraycopyName, Jvm.Cond.initialized "java/lang/System"]
          | false => match nx with
            | true => []
            | false => [Jvm.Cond.methodLink own idx (MT a).1]
  | .invokevirtual idx => [Jvm.Cond.methodLink own idx (MT a).1]
  | .invokespecial idx => match Nat.beq a 1004 with
    | true => [Jvm.Cond.methodLink own idx Lib.objectInit, Jvm.Cond.instanceMethod Lib.objectInit, Jvm.Cond.code Lib.objectInit ⟨#[0xb1]⟩ 1 none]
    | false => match nx with
      | true => []
      | false => [Jvm.Cond.methodLink own idx (MT a).1]
  | _ => []
noncomputable def ckFtB (d : Nat) (ty : FieldType) : Bool := match d with
  | 0 => match ty with
    | .int => true
    | _ => false
  | 1 => match ty with
    | .boolean => true
    | _ => false
  | _ => match ty with
    | .object _ => true
    | .array _ => true
    | _ => false
-- a method of the tables is of kind kd, with ar parameters
noncomputable def ckSdM (N : Nat) (MT : Nat → ckMt) (kd ar : Nat → Nat) (z w a b d : Nat) : Bool := match Nat.ble (a + 1) N with
  | false => false
  | true => match Nat.beq (kd a) z with
    | false => false
    | true => match Nat.beq b (ar a + w) with
      | false => false
      | true => Nat.beq (MT a).2.2.1 d
noncomputable def ckNMb (own : String) (idx : Nat) (y : MethodName) : Bool := ckAny (fun q => match Nat.beq q.2.1 idx with
  | false => false
  | true => match decide (q.1 = own) with
    | false => false
    | true => decide (q.2.2.1 = y)) ckNM
noncomputable def ckSd1 (N : Nat) (MT : Nat → ckMt) (kd ar : Nat → Nat) (cl : List vw_C) (ty : Nat → Nat → FieldType) (own : String) (ini nx : Bool) (i : Instr) (a b d : Nat) : Bool := match i with
  | .getfield _ => match Nat.beq a 900 with
    | true => Nat.ble b 1
    | false => match cl[a]? with
      | some q => Nat.ble (b + 1) q.2.2
      | none => false
  | .putfield _ => match cl[a]? with
    | some q => match Nat.ble (b + 1) q.2.2 with
      | false => false
      | true => match ckFtB d (ty a b) with
        | false => false
        | true => match (q.2.1 b).2.2.2 with
          | false => true
          | true => match ini with
            | false => false
            | true => decide ((q.2.1 b).1 = own)
    | none => false
  | .getstatic idx => match Nat.beq a 900 with
    | true => true
    | false => match nx with
      | false => true
      | true => ckAny (fun q => decide (q = (own, idx, a))) ckNF
  | .ldc idx => match Nat.beq b 1 with
    | false => true
    | true => match Nat.beq idx 58 with
      | false => false
      | true => decide (own = "FarMachine$RuleReader")
  | .new _ => match cl[a]? with
    | some _ => true
    | none => false
  | .newarray t => match t with
    | .int => Nat.beq a 0
    | .long => Nat.beq a 1
    | .boolean => Nat.beq a 2
    | _ => false
  | .invokevirtual _ => ckSdM N MT kd ar 1 1 a b d
  | .invokestatic idx => match Nat.ble a 999 with
    | false => true
    | true => match ckSdM N MT kd ar 0 0 a b d with
      | false => false
      | true => match nx with
        | false => true
        | true => ckNMb own idx (MT a).1
  | .invokespecial idx => match Nat.ble a 999 with
    | false => true
    | true => match ckSdM N MT kd ar 2 1 a b d with
      | false => false
      | true => match nx with
        | false => true
        | true => ckNMb own idx (MT a).1
  | _ => true
/-- what the tables say of a method -/
noncomputable def ckMok (MT : Nat → ckMt) (TW : List Jvm.Cond) (cl : List vw_C) (kc kd ar : Nat → Nat) (k : Nat) : Prop :=
  Jvm.Cond.initialized (MT k).1.cls ∈ TW ∧ Jvm.Cond.code (MT k).1 (MT k).2.1 (MT k).2.2.1 (MT k).2.2.2 ∈ TW ∧ ((MT k).1.cls ≠ "java/lang/invoke/MethodHandle" ∧ (MT k).1.cls ≠ "java/lang/invoke/VarHandle") ∧ (parseMethodDescriptor (MT k).1.desc).map (fun d => d.parameters.length) = some (ar k) ∧ match kd k with
    | 0 => Jvm.Cond.static (MT k).1 ∈ TW
    | 1 => Jvm.Cond.instanceMethod (MT k).1 ∈ TW ∧ Jvm.Cond.selects (MT k).1.cls (MT k).1 (MT k).1 ∈ TW ∧ ((kc k = 900 ∧ (MT k).1.cls = "java/lang/String") ∨ (kc k ≠ 900 ∧ ∃ q : vw_C, cl[kc k]? = some q ∧ q.1 = (MT k).1.cls))
    | _ => Jvm.Cond.instanceMethod (MT k).1 ∈ TW ∧ (MT k).2.2.2 = none ∧ (MT k).1.name = "<init>" ∧ Nat.beq (kc k) 900 = false
noncomputable def ckKsOk (cl : List vw_C) (ks : Nat → List Nat) (ty : Nat → Nat → FieldType) : Prop := ∀ (a : Nat) (q : vw_C), cl[a]? = some q → (∀ k, k < q.2.2 → parseFieldDescriptor (q.2.1 k).2.2.1 = some (ty a k)) ∧ (∀ j, j < q.2.2 → defaultValue (ty a j) = vp_V (ckDf (ks a)) j) ∧ (ks a).length = q.2.2
theorem ckNMb_s {own : String} {idx : Nat} {y : MethodName} (h : ckNMb own idx y = true) : ∃ host, (own, idx, y, host) ∈ ckNM := by
  obtain ⟨q, hq, h⟩ := ckAny_mem h
  split at h
  · cases h
  rename_i h1
  split at h
  · cases h
  rename_i h2
  have e1 := Nat.eq_of_beq_eq_true h1
  have e2 := of_decide_eq_true h2
  have e3 := of_decide_eq_true h
  obtain ⟨q1, q2, q3, q4⟩ := q
  dsimp only at e1 e2 e3
  subst e1; subst e2; subst e3
  exact ⟨q4, hq⟩
theorem ckSdM_s {N : Nat} {MT : Nat → ckMt} {kd ar : Nat → Nat} {z w a b d : Nat} (h : ckSdM N MT kd ar z w a b d = true) : a < N ∧ kd a = z ∧ b = ar a + w ∧ (MT a).2.2.1 = d := by
  unfold ckSdM at h
  split at h
  · cases h
  rename_i h1
  split at h
  · cases h
  rename_i h2
  split at h
  · cases h
  rename_i h3
  exact ⟨Nat.le_of_ble_eq_true h1, Nat.eq_of_beq_eq_true h2, Nat.eq_of_beq_eq_true h3, Nat.eq_of_beq_eq_true h⟩
theorem ckFtB_s {d : Nat} {ty : FieldType} (h : ckFtB d ty = true) : ckFty d ty := by
  cases d with
  | zero => cases ty <;> first | rfl | cases h
  | succ d => cases d with
    | zero => cases ty <;> first | rfl | cases h
    | succ d => cases ty <;> first | exact Or.inl ⟨_, rfl⟩ | exact Or.inr ⟨_, rfl⟩ | cases h
section CKLK
variable {N : Nat} {MT : Nat → ckMt} {TW : List Jvm.Cond} {kc kd ar : Nat → Nat} {cl : List vw_C} {ks : Nat → List Nat} {ty : Nat → Nat → FieldType} {own : String} {ini nx : Bool} {a b d : Nat}
theorem ckLk_getfield {idx : Nat} (h : ckSd1 N MT kd ar cl ty own ini nx (.getfield idx) a b d = true) (hw : ∀ w ∈ ckWd1 MT cl own nx (.getfield idx) a b, w ∈ TW) : ckLink TW cl ks own ini (.getfield idx) a b d := by
  unfold ckSd1 at h
  unfold ckWd1 at hw
  unfold ckLink
  dsimp only at h hw ⊢
  split at h
  · rename_i h9
    rw [h9] at hw
    have e := Nat.eq_of_beq_eq_true h9
    refine ⟨fun _ => ?_, fun n => absurd e n⟩
    have hb := Nat.le_of_ble_eq_true h
    rcases (show b = 0 ∨ b = 1 by omega) with rfl | rfl
    · exact Or.inl ⟨rfl, hw _ List.mem_cons_self⟩
    · exact Or.inr ⟨rfl, hw _ List.mem_cons_self⟩
  · rename_i h9
    rw [h9] at hw
    refine ⟨fun e => ?_, fun _ => ?_⟩
    · subst e; cases h9
    · split at h
      · rename_i q hq
        rw [hq] at hw
        exact ⟨q, hq, Nat.le_of_ble_eq_true h, hw _ List.mem_cons_self⟩
      · cases h
theorem ckLk_putfield {idx : Nat} (hk : ckKsOk cl ks ty) (h : ckSd1 N MT kd ar cl ty own ini nx (.putfield idx) a b d = true) (hw : ∀ w ∈ ckWd1 MT cl own nx (.putfield idx) a b, w ∈ TW) : ckLink TW cl ks own ini (.putfield idx) a b d := by
  unfold ckSd1 at h
  unfold ckWd1 at hw
  unfold ckLink
  dsimp only at h hw ⊢
  split at h
  · rename_i q hq
    rw [hq] at hw
    split at h
    · cases h
    rename_i h1
    split at h
    · cases h
    rename_i h2
    have hb := Nat.le_of_ble_eq_true h1
    refine ⟨q, ty a b, hq, hb, hw _ List.mem_cons_self, (hk a q hq).1 b hb, ckFtB_s h2, ?_⟩
    split at h
    · rename_i h3
      exact Or.inl h3
    · rename_i h3
      split at h
      · cases h
      · exact Or.inr ⟨rfl, h3, of_decide_eq_true h⟩
  · cases h
theorem ckLk_getstatic {idx : Nat} (h : ckSd1 N MT kd ar cl ty own ini nx (.getstatic idx) a b d = true) (hw : ∀ w ∈ ckWd1 MT cl own nx (.getstatic idx) a b, w ∈ TW) : ckLink TW cl ks own ini (.getstatic idx) a b d := by
  unfold ckSd1 at h
  unfold ckWd1 at hw
  unfold ckLink
  dsimp only at h hw ⊢
  split at h
  · rename_i h9
    rw [h9] at hw
    have e := Nat.eq_of_beq_eq_true h9
    exact ⟨fun _ => hw _ List.mem_cons_self, fun n => absurd e n⟩
  · rename_i h9
    rw [h9] at hw
    refine ⟨fun e => ?_, fun _ => ?_⟩
    · subst e; cases h9
    · split at h
      · exact Or.inl (hw _ List.mem_cons_self)
      · obtain ⟨q, hq, h⟩ := ckAny_mem h
        rw [of_decide_eq_true h] at hq
        exact Or.inr hq
theorem ckLk_ldc {idx : Nat} (h : ckSd1 N MT kd ar cl ty own ini nx (.ldc idx) a b d = true) (hw : ∀ w ∈ ckWd1 MT cl own nx (.ldc idx) a b, w ∈ TW) : ckLink TW cl ks own ini (.ldc idx) a b d := by
  unfold ckSd1 at h
  unfold ckWd1 at hw
  unfold ckLink
  dsimp only at h hw ⊢
  split at h
  · rename_i h9
    rw [h9] at hw
    refine ⟨fun e => ?_, fun _ => hw _ List.mem_cons_self⟩
    subst e; cases h9
  · rename_i h9
    have e := Nat.eq_of_beq_eq_true h9
    split at h
    · cases h
    rename_i h8
    exact ⟨fun _ => ⟨of_decide_eq_true h, Nat.eq_of_beq_eq_true h8⟩, fun n => absurd e n⟩
theorem ckLk_new {idx : Nat} (hk : ckKsOk cl ks ty) (h : ckSd1 N MT kd ar cl ty own ini nx (.new idx) a b d = true) (hw : ∀ w ∈ ckWd1 MT cl own nx (.new idx) a b, w ∈ TW) : ckLink TW cl ks own ini (.new idx) a b d := by
  unfold ckSd1 at h
  unfold ckWd1 at hw
  unfold ckLink
  dsimp only at h hw ⊢
  split at h
  · rename_i q hq
    rw [hq] at hw
    obtain ⟨k1, k2, k3⟩ := hk a q hq
    exact ⟨q, ty a, hq, hw _ List.mem_cons_self, hw _ (List.mem_cons_of_mem _ List.mem_cons_self), hw _ (List.mem_cons_of_mem _ (List.mem_cons_of_mem _ List.mem_cons_self)), k1, k2, k3⟩
  · cases h
theorem ckLk_newarray {t : ArrayType} (h : ckSd1 N MT kd ar cl ty own ini nx (.newarray t) a b d = true) (hw : ∀ w ∈ ckWd1 MT cl own nx (.newarray t) a b, w ∈ TW) : ckLink TW cl ks own ini (.newarray t) a b d := by
  unfold ckSd1 at h
  unfold ckWd1 at hw
  unfold ckLink
  dsimp only at h hw ⊢
  refine ⟨hw _ List.mem_cons_self, ?_⟩
  split at h
  · exact Or.inl ⟨Nat.eq_of_beq_eq_true h, rfl⟩
  · exact Or.inr (Or.inl ⟨Nat.eq_of_beq_eq_true h, rfl⟩)
  · exact Or.inr (Or.inr ⟨Nat.eq_of_beq_eq_true h, rfl⟩)
  · cases h
theorem ckLk_static {idx : Nat} (hM : ∀ k, k < N → ckMok MT TW cl kc kd ar k) (h : ckSd1 N MT kd ar cl ty own ini nx (.invokestatic idx) a b d = true) (hw : ∀ w ∈ ckWd1 MT cl own nx (.invokestatic idx) a b, w ∈ TW) : ckLink TW cl ks own ini (.invokestatic idx) a b d ∧ ckLinkC MT TW cl kc own (.invokestatic idx) a b d := by
  unfold ckSd1 at h
  unfold ckWd1 at hw
  unfold ckLink ckLinkC
  dsimp only at h hw ⊢
  refine ⟨⟨fun e => ?_, fun e => ?_, fun e => ?_, fun e => ?_⟩, fun ha => ?_⟩
  · subst e
    exact ⟨hw _ (by simp), hw _ (by simp), hw _ (by simp), hw _ (by simp)⟩
  · subst e
    exact ⟨hw _ (by simp), hw _ (by simp), hw _ (by simp), hw _ (by simp)⟩
  · subst e
    exact ⟨hw _ (by simp), hw _ (by simp), hw _ (by simp), hw _ (by simp)⟩
  · subst e
    exact ⟨hw _ (by simp), hw _ (by simp), hw _ (by simp), hw _ (by simp)⟩
  · rw [Nat.ble_eq_true_of_le ha] at h
    dsimp only at h
    have n0 : Nat.beq a 1000 = false := by cases hb : Nat.beq a 1000 with | false => rfl | true => have := Nat.eq_of_beq_eq_true hb; omega
    have n1 : Nat.beq a 1001 = false := by cases hb : Nat.beq a 1001 with | false => rfl | true => have := Nat.eq_of_beq_eq_true hb; omega
    have n2 : Nat.beq a 1002 = false := by cases hb : Nat.beq a 1002 with | false => rfl | true => have := Nat.eq_of_beq_eq_true hb; omega
    have n3 : Nat.beq a 1003 = false := by cases hb : Nat.beq a 1003 with | false => rfl | true => have := Nat.eq_of_beq_eq_true hb; omega
    rw [n0, n1, n2, n3] at hw
    dsimp only at hw
    split at h
    · cases h
    rename_i hs
    obtain ⟨g1, g2, g3, g4⟩ := ckSdM_s hs
    obtain ⟨m1, m2, m3, m4, m5⟩ := hM a g1
    rw [g2] at m5
    refine ⟨?_, m5, m1, m2, m3, by rw [m4, g3]; rfl, g4⟩
    cases nx with
    | false => exact Or.inl (hw _ List.mem_cons_self)
    | true => exact Or.inr (ckNMb_s h)
theorem ckLk_special {idx : Nat} (hM : ∀ k, k < N → ckMok MT TW cl kc kd ar k) (h : ckSd1 N MT kd ar cl ty own ini nx (.invokespecial idx) a b d = true) (hw : ∀ w ∈ ckWd1 MT cl own nx (.invokespecial idx) a b, w ∈ TW) : ckLink TW cl ks own ini (.invokespecial idx) a b d ∧ ckLinkC MT TW cl kc own (.invokespecial idx) a b d := by
  unfold ckSd1 at h
  unfold ckWd1 at hw
  unfold ckLink ckLinkC
  dsimp only at h hw ⊢
  refine ⟨fun e => ?_, fun ha => ?_⟩
  · subst e
    exact ⟨hw _ (by simp), hw _ (by simp), hw _ (by simp)⟩
  · rw [Nat.ble_eq_true_of_le ha] at h
    dsimp only at h
    have n0 : Nat.beq a 1004 = false := by cases hb : Nat.beq a 1004 with | false => rfl | true => have := Nat.eq_of_beq_eq_true hb; omega
    rw [n0] at hw
    dsimp only at hw
    split at h
    · cases h
    rename_i hs
    obtain ⟨g1, g2, g3, g4⟩ := ckSdM_s hs
    obtain ⟨m1, m2, m3, m4, m5⟩ := hM a g1
    rw [g2] at m5
    obtain ⟨m5, m6, m7, m8⟩ := m5
    refine ⟨?_, m5, m1, by rw [m6] at m2; exact m2, m3, ⟨_, g3, m4⟩, g4, m6, m7, m8⟩
    cases nx with
    | false => exact Or.inl (hw _ List.mem_cons_self)
    | true => exact Or.inr (ckNMb_s h)
theorem ckLk_virtual {idx : Nat} (hM : ∀ k, k < N → ckMok MT TW cl kc kd ar k) (h : ckSd1 N MT kd ar cl ty own ini nx (.invokevirtual idx) a b d = true) (hw : ∀ w ∈ ckWd1 MT cl own nx (.invokevirtual idx) a b, w ∈ TW) : ckLinkC MT TW cl kc own (.invokevirtual idx) a b d := by
  obtain ⟨g1, g2, g3, g4⟩ := ckSdM_s h
  obtain ⟨m1, m2, m3, m4, m5⟩ := hM a g1
  rw [g2] at m5
  obtain ⟨m5, m6, m7⟩ := m5
  exact ⟨hw _ List.mem_cons_self, m5, m6, m1, m2, m3, ⟨_, g3, m4⟩, g4, m7⟩
theorem ckLk_ok (hM : ∀ k, k < N → ckMok MT TW cl kc kd ar k) (hk : ckKsOk cl ks ty) {i : Instr} (h : ckSd1 N MT kd ar cl ty own ini nx i a b d = true) (hw : ∀ w ∈ ckWd1 MT cl own nx i a b, w ∈ TW) : ckLink TW cl ks own ini i a b d ∧ ckLinkC MT TW cl kc own i a b d := by
  cases i
  case getfield idx => exact ⟨ckLk_getfield h hw, True.intro⟩
  case putfield idx => exact ⟨ckLk_putfield hk h hw, True.intro⟩
  case getstatic idx => exact ⟨ckLk_getstatic h hw, True.intro⟩
  case ldc idx => exact ⟨ckLk_ldc h hw, True.intro⟩
  case ldc_w idx => exact ⟨hw _ List.mem_cons_self, True.intro⟩
  case ldc2_w idx => exact ⟨⟨fun _ => hw _ List.mem_cons_self, fun _ => ⟨_, hw _ List.mem_cons_self⟩⟩, True.intro⟩
  case new idx => exact ⟨ckLk_new hk h hw, True.intro⟩
  case newarray t => exact ⟨ckLk_newarray h hw, True.intro⟩
  case invokestatic idx => exact ckLk_static hM h hw
  case invokespecial idx => exact ckLk_special hM h hw
  case invokevirtual idx => exact ⟨True.intro, ckLk_virtual hM h hw⟩
  all_goals exact ⟨True.intro, True.intro⟩
-- the whole test of a method's instructions
noncomputable def ckDec1 (cc : ByteArray) (q : ckEn) : Bool := match decode cc q.1 with
  | .error _ => false
  | .ok (j, n) => match decide (j = q.2.1) with
    | false => false
    | true => match ckIsTab q.2.1 with
      | true => true
      | false => Nat.beq n (ckLn q.2.1)
noncomputable def ckWds (MT : Nat → ckMt) (cl : List vw_C) (own : String) (nxs : List Nat) : List ckEn → List Jvm.Cond
  | [] => []
  | q :: r => ckWd1 MT cl own (ckAny (fun n => Nat.beq n q.1) nxs) q.2.1 q.2.2.1 q.2.2.2.1 ++ ckWds MT cl own nxs r
noncomputable def ckAllW (TW : List Jvm.Cond) : List Nat → List Jvm.Cond → Bool
  | [], [] => true
  | p :: ps, w :: ws => match TW[p]? with
    | none => false
    | some v => match decide (v = w) with
      | false => false
      | true => match goodWord w with
        | false => false
        | true => ckAllW TW ps ws
  | _, _ => false
theorem ckAllW_s : ∀ {ps : List Nat} {ws : List Jvm.Cond}, ckAllW TW ps ws = true → ∀ w ∈ ws, w ∈ TW.filter goodWord
  | _, [], _ => fun w hw => absurd hw List.not_mem_nil
  | [], _ :: _, h => by unfold ckAllW at h; cases h
  | p :: ps, w :: ws, h => by
    unfold ckAllW at h
    split at h
    · cases h
    rename_i v hv
    split at h
    · cases h
    rename_i he
    split at h
    · cases h
    rename_i hg
    have e := of_decide_eq_true he
    subst e
    intro x hx
    rcases List.mem_cons.mp hx with rfl | hx
    · exact List.mem_filter.mpr ⟨List.mem_of_getElem? hv, hg⟩
    · exact ckAllW_s h x hx
theorem ckGoodW_f (TW : List Jvm.Cond) : ckGoodW (TW.filter goodWord) := fun w hw => good_of_word (List.mem_filter.mp hw).2
theorem ckWds_s {nxs : List Nat} : ∀ {es : List ckEn}, (∀ w ∈ ckWds MT cl own nxs es, w ∈ TW) → ∀ q ∈ es, ∀ w ∈ ckWd1 MT cl own (ckAny (fun n => Nat.beq n q.1) nxs) q.2.1 q.2.2.1 q.2.2.2.1, w ∈ TW
  | [], _, q, hq => absurd hq List.not_mem_nil
  | e :: es, h, q, hq => by
    unfold ckWds at h
    rcases List.mem_cons.mp hq with rfl | hq
    · exact fun w hw => h w (List.mem_append_left _ hw)
    · exact ckWds_s (fun w hw => h w (List.mem_append_right _ hw)) q hq
theorem ckEs_ok {TW0 : List Jvm.Cond} {cc : ByteArray} {es : List ckEn} (nxs ps : List Nat) (hM : ∀ k, k < N → ckMok MT (TW0.filter goodWord) cl kc kd ar k) (hk : ckKsOk cl ks ty) (h1 : ckAll (ckDec1 cc) es = true) (h2 : ckAll (fun q => ckSd1 N MT kd ar cl ty own ini (ckAny (fun n => Nat.beq n q.1) nxs) q.2.1 q.2.2.1 q.2.2.2.1 q.2.2.2.2) es = true) (h3 : ckAllW TW0 ps (ckWds MT cl own nxs es) = true) : ∀ q ∈ es, ckEok MT (TW0.filter goodWord) cl ks kc own ini cc q := by
  intro q hq
  have d1 := ckAll_mem h1 q hq
  refine ⟨?_, ckLk_ok hM hk (ckAll_mem h2 q hq) (ckWds_s (ckAllW_s h3) q hq)⟩
  unfold ckDec1 at d1
  split at d1
  · cases d1
  rename_i j n hd
  split at d1
  · cases d1
  rename_i hj
  have e := of_decide_eq_true hj
  subst e
  refine ⟨n, hd, fun ht => ?_⟩
  rw [ht] at d1
  exact Nat.eq_of_beq_eq_true d1
-- the test of what the tables say of a method
noncomputable def ckMkW (MT : Nat → ckMt) (kd : Nat → Nat) (k : Nat) : List Jvm.Cond := match kd k with
  | 0 => [Jvm.Cond.initialized (MT k).1.cls, Jvm.Cond.static (MT k).1]
  | 1 => [Jvm.Cond.initialized (MT k).1.cls, Jvm.Cond.instanceMethod (MT k).1, Jvm.Cond.selects (MT k).1.cls (MT k).1 (MT k).1]
  | _ => [Jvm.Cond.initialized (MT k).1.cls, Jvm.Cond.instanceMethod (MT k).1]
noncomputable def ckMkS (MT : Nat → ckMt) (cl : List vw_C) (kc kd ar : Nat → Nat) (k : Nat) : Bool := match decide ((MT k).1.cls ≠ "java/lang/invoke/MethodHandle" ∧ (MT k).1.cls ≠ "java/lang/invoke/VarHandle") with
  | false => false
  | true => match decide ((parseMethodDescriptor (MT k).1.desc).map (fun d => d.parameters.length) = some (ar k)) with
    | false => false
    | true => match kd k with
      | 0 => true
      | 1 => match Nat.beq (kc k) 900 with
        | true => decide ((MT k).1.cls = "java/lang/String")
        | false => match cl[kc k]? with
          | none => false
          | some q => decide (q.1 = (MT k).1.cls)
      | _ => match (MT k).2.2.2 with
        | some _ => false
        | none => match Nat.beq (kc k) 900 with
          | true => false
          | false => decide ((MT k).1.name = "<init>")
noncomputable def ckMkH (hs : List (List Nat)) (k : Nat) : List Nat := match hs[k]? with
  | some h => h
  | none => []
theorem ckMok_ok {TW0 : List Jvm.Cond} (N : Nat) (hs : List (List Nat)) (hc : ∀ k, k < N → Jvm.Cond.code (MT k).1 (MT k).2.1 (MT k).2.2.1 (MT k).2.2.2 ∈ TW0) (h1 : ckAll (fun k => ckAllW TW0 (ckMkH hs k) (ckMkW MT kd k)) (List.range N) = true) (h2 : ckAll (ckMkS MT cl kc kd ar) (List.range N) = true) : ∀ k, k < N → ckMok MT (TW0.filter goodWord) cl kc kd ar k := by
  intro k hk
  have a1 := ckAllW_s (ckAll_mem h1 k (List.mem_range.mpr hk))
  have a2 := ckAll_mem h2 k (List.mem_range.mpr hk)
  have a3 : Jvm.Cond.code (MT k).1 (MT k).2.1 (MT k).2.2.1 (MT k).2.2.2 ∈ TW0.filter goodWord := List.mem_filter.mpr ⟨hc k hk, rfl⟩
  unfold ckMkS at a2
  split at a2
  · cases a2
  rename_i b1
  split at a2
  · cases a2
  rename_i b2
  refine ⟨?_, a3, of_decide_eq_true b1, of_decide_eq_true b2, ?_⟩
  · unfold ckMkW at a1
    split at a1 <;> exact a1 _ List.mem_cons_self
  · unfold ckMkW at a1
    split at a2
    · rename_i e
      rw [e] at a1
      exact a1 _ (by simp)
    · rename_i e
      rw [e] at a1
      refine ⟨a1 _ (by simp), a1 _ (by simp), ?_⟩
      split at a2
      · rename_i e9
        exact Or.inl ⟨Nat.eq_of_beq_eq_true e9, of_decide_eq_true a2⟩
      · rename_i e9
        refine Or.inr ⟨fun e => ?_, ?_⟩
        · rw [e] at e9; cases e9
        · split at a2
          · cases a2
          · rename_i q hq
            exact ⟨q, hq, of_decide_eq_true a2⟩
    · rename_i n0 n1
      split at a2
      · cases a2
      rename_i hr
      split at a2
      · cases a2
      rename_i e9
      refine ⟨?_, hr, of_decide_eq_true a2, e9⟩
      split at a1
      · rename_i e; exact absurd e n0
      · rename_i e; exact absurd e n1
      · exact a1 _ (by simp)
end CKLK

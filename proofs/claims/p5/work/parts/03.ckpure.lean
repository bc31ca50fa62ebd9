/-! THE CHECKER: what its sums say -/
def ckW (w : ckI) (x : Int32) : Prop := w.1 ≤ x.toInt ∧ x.toInt ≤ w.2
theorem ckLe0_t {a b : Int} (h : ckLe0 a b = true) : a ≤ b := by
  unfold ckLe0 at h
  cases e : b - a with
  | ofNat n =>
    have h1 : (0 : Int) ≤ b - a := by rw [e]; exact Int.natCast_nonneg n
    omega
  | negSucc n => rw [e] at h; cases h
theorem ckLe0_f {a b : Int} (h : ckLe0 a b = false) : b < a := by
  unfold ckLe0 at h
  cases e : b - a with
  | ofNat n => rw [e] at h; cases h
  | negSucc n =>
    have h1 : b - a < 0 := by rw [e]; exact Int.negSucc_lt_zero n
    omega
theorem ckMax_l (a b : Int) : a ≤ ckMax a b := by
  unfold ckMax
  cases h : ckLe0 a b with
  | true => exact ckLe0_t h
  | false => exact Int.le_refl _
theorem ckMax_r (a b : Int) : b ≤ ckMax a b := by
  unfold ckMax
  cases h : ckLe0 a b with
  | true => exact Int.le_refl _
  | false => exact Int.le_of_lt (ckLe0_f h)
theorem ckMax_le {a b x : Int} (h1 : a ≤ x) (h2 : b ≤ x) : ckMax a b ≤ x := by
  unfold ckMax
  cases ckLe0 a b <;> assumption
theorem ckMin_l (a b : Int) : ckMin a b ≤ a := by
  unfold ckMin
  cases h : ckLe0 a b with
  | true => exact Int.le_refl _
  | false => exact Int.le_of_lt (ckLe0_f h)
theorem ckMin_r (a b : Int) : ckMin a b ≤ b := by
  unfold ckMin
  cases h : ckLe0 a b with
  | true => exact ckLe0_t h
  | false => exact Int.le_refl _
theorem ckMin_ge {a b x : Int} (h1 : x ≤ a) (h2 : x ≤ b) : x ≤ ckMin a b := by
  unfold ckMin
  cases ckLe0 a b <;> assumption
theorem ck_rng (x : Int32) : -2147483648 ≤ x.toInt ∧ x.toInt < 2147483648 := by
  have h1 := Int32.le_toInt x
  have h2 := Int32.toInt_lt x
  omega
theorem ckW_top (x : Int32) : ckW ckTop x := by
  have h := ck_rng x
  exact ⟨h.1, by show x.toInt ≤ 2147483647; omega⟩
theorem ck_bmod {z : Int} (h1 : -2147483648 ≤ z) (h2 : z < 2147483648) : z.bmod (2 ^ 32) = z := by
  rw [Int.bmod_eq_of_le (by omega) (by omega)]
theorem ck_addI {x y : Int32} (h1 : -2147483648 ≤ x.toInt + y.toInt) (h2 : x.toInt + y.toInt < 2147483648) : (x + y).toInt = x.toInt + y.toInt := by
  rw [Int32.toInt_add, ck_bmod h1 h2]
theorem ck_subI {x y : Int32} (h1 : -2147483648 ≤ x.toInt - y.toInt) (h2 : x.toInt - y.toInt < 2147483648) : (x - y).toInt = x.toInt - y.toInt := by
  rw [Int32.toInt_sub, ck_bmod h1 h2]
theorem ck_mulI {x y : Int32} (h1 : -2147483648 ≤ x.toInt * y.toInt) (h2 : x.toInt * y.toInt < 2147483648) : (x * y).toInt = x.toInt * y.toInt := by
  rw [Int32.toInt_mul, ck_bmod h1 h2]
theorem ck_negI {x : Int32} (h : x.toInt ≠ -2147483648) : (-x).toInt = -x.toInt := by
  have := ck_rng x
  rw [Int32.toInt_neg, ck_bmod (by omega) (by omega)]
theorem ck_ofI {z : Int} (h1 : -2147483648 ≤ z) (h2 : z < 2147483648) : (Int32.ofInt z).toInt = z := by
  rw [Int32.toInt_ofInt, ck_bmod h1 h2]
theorem ckFit_t {A : ckI} (h : ckFit A = true) : -2147483648 ≤ A.1 ∧ A.2 < 2147483648 := by
  unfold ckFit at h
  cases h1 : ckLe0 (-2147483648) A.1 with
  | true =>
    rw [h1] at h
    have h2 := ckLe0_t h1
    have h3 := ckLe0_t h
    exact ⟨h2, by omega⟩
  | false => rw [h1] at h; cases h
theorem ckPt_s {A : ckI} {c : Int} (h : ckPt A = some c) {x : Int32} (hx : ckW A x) : x.toInt = c := by
  unfold ckPt at h
  cases h1 : ckLe0 A.2 A.1 with
  | true =>
    rw [h1] at h
    have h2 := ckLe0_t h1
    cases h
    have := hx.1
    have := hx.2
    omega
  | false => rw [h1] at h; cases h
/-- a difference holds in the numbers -/
def ckZok (I : List Int32) (z : ckZ) : Prop := ∃ x y : Int32, I[z.1]? = some x ∧ I[z.2.1]? = some y ∧ x.toInt ≤ y.toInt + z.2.2
/-- the meaning of a sum of two numbers -/
def ckGood (f : Nat → Nat → Nat → ckI → ckI → ckI × List ckZ) (φ : Int32 → Int32 → Int32) (pos : Bool) : Prop :=
  ∀ (n a b : Nat) (A B : ckI) (x y : Int32), ckW A x → ckW B y → (pos = true → 1 ≤ B.1) → ckW (f n a b A B).1 (φ x y) ∧ ∀ I : List Int32, I[n]? = some (φ x y) → I[a]? = some x → I[b]? = some y → ∀ z ∈ (f n a b A B).2, ckZok I z
theorem ckGood_of (f : ckI → ckI → ckI) (φ : Int32 → Int32 → Int32) (pos : Bool) (h : ∀ (A B : ckI) (x y : Int32), ckW A x → ckW B y → (pos = true → 1 ≤ B.1) → ckW (f A B) (φ x y)) : ckGood (fun _ _ _ A B => (f A B, [])) φ pos :=
  fun _ _ _ A B x y hx hy hp => ⟨h A B x y hx hy hp, fun _ _ _ _ z hz => absurd hz List.not_mem_nil⟩
theorem ckG_add (pos : Bool) : ckGood ckUAdd (fun x y => x + y) pos := by
  intro n a b A B x y hx hy _
  unfold ckUAdd
  cases h : ckFit (A.1 + B.1, A.2 + B.2) with
  | false => exact ⟨ckW_top _, fun _ _ _ _ z hz => absurd hz List.not_mem_nil⟩
  | true =>
    have hf := ckFit_t h
    have e : (x + y).toInt = x.toInt + y.toInt := by
      have h1 := hx.1; have h2 := hx.2; have h3 := hy.1; have h4 := hy.2
      have h5 := hf.1; have h6 := hf.2
      dsimp only at h5 h6
      exact ck_addI (by omega) (by omega)
    refine ⟨⟨?_, ?_⟩, fun I hn ha hb z hz => ?_⟩
    · show A.1 + B.1 ≤ (x + y).toInt
      have := hx.1; have := hy.1
      omega
    · show (x + y).toInt ≤ A.2 + B.2
      have := hx.2; have := hy.2
      omega
    · dsimp only at hz
      cases hB : ckPt B with
      | some c =>
        rw [hB] at hz
        have hc := ckPt_s hB hy
        rcases List.mem_cons.mp hz with rfl | hz
        · exact ⟨_, _, hn, ha, by show (x + y).toInt ≤ x.toInt + c; omega⟩
        · rcases List.mem_cons.mp hz with rfl | hz
          · exact ⟨_, _, ha, hn, by show x.toInt ≤ (x + y).toInt + -c; omega⟩
          · exact absurd hz List.not_mem_nil
      | none =>
        rw [hB] at hz
        cases hA : ckPt A with
        | some c =>
          rw [hA] at hz
          have hc := ckPt_s hA hx
          rcases List.mem_cons.mp hz with rfl | hz
          · exact ⟨_, _, hn, hb, by show (x + y).toInt ≤ y.toInt + c; omega⟩
          · rcases List.mem_cons.mp hz with rfl | hz
            · exact ⟨_, _, hb, hn, by show y.toInt ≤ (x + y).toInt + -c; omega⟩
            · exact absurd hz List.not_mem_nil
        | none => rw [hA] at hz; exact absurd hz List.not_mem_nil
theorem ckG_sub (pos : Bool) : ckGood (fun n a _ A B => ckUSub n a A B) (fun x y => x - y) pos := by
  intro n a b A B x y hx hy _
  change ckW (ckUSub n a A B).1 (x - y) ∧ ∀ I : List Int32, I[n]? = some (x - y) → I[a]? = some x → I[b]? = some y → ∀ z ∈ (ckUSub n a A B).2, ckZok I z
  unfold ckUSub
  cases h : ckFit (A.1 - B.2, A.2 - B.1) with
  | false => exact ⟨ckW_top _, fun _ _ _ _ z hz => absurd hz List.not_mem_nil⟩
  | true =>
    have hf := ckFit_t h
    have e : (x - y).toInt = x.toInt - y.toInt := by
      have h1 := hx.1; have h2 := hx.2; have h3 := hy.1; have h4 := hy.2
      have h5 := hf.1; have h6 := hf.2
      dsimp only at h5 h6
      exact ck_subI (by omega) (by omega)
    refine ⟨⟨?_, ?_⟩, fun I hn ha hb z hz => ?_⟩
    · show A.1 - B.2 ≤ (x - y).toInt
      have := hx.1; have := hy.2
      omega
    · show (x - y).toInt ≤ A.2 - B.1
      have := hx.2; have := hy.1
      omega
    · dsimp only at hz
      cases hB : ckPt B with
      | some c =>
        rw [hB] at hz
        have hc := ckPt_s hB hy
        rcases List.mem_cons.mp hz with rfl | hz
        · exact ⟨_, _, hn, ha, by show (x - y).toInt ≤ x.toInt + -c; omega⟩
        · rcases List.mem_cons.mp hz with rfl | hz
          · exact ⟨_, _, ha, hn, by show x.toInt ≤ (x - y).toInt + c; omega⟩
          · exact absurd hz List.not_mem_nil
      | none => rw [hB] at hz; exact absurd hz List.not_mem_nil
theorem ckNn_t {A : ckI} (h : ckNn A = true) {x : Int32} (hx : ckW A x) : 0 ≤ x.toInt := Int.le_trans (ckLe0_t h) hx.1
theorem ckG_mul (pos : Bool) : ckGood (fun _ _ _ A B => (ckUMul A B, [])) (fun x y => x * y) pos := by
  refine ckGood_of ckUMul _ pos fun A B x y hx hy _ => ?_
  unfold ckUMul
  cases hA : ckNn A with
  | false => exact ckW_top _
  | true =>
    cases hB : ckNn B with
    | false => exact ckW_top _
    | true =>
      dsimp only
      cases hf : ckFit (A.1 * B.1, A.2 * B.2) with
      | false => exact ckW_top _
      | true =>
        have f1 := (ckFit_t hf).1
        have f2 := (ckFit_t hf).2
        dsimp only at f1 f2
        have a0 := ckLe0_t hA
        have b0 := ckLe0_t hB
        have x0 := ckNn_t hA hx
        have y0 := ckNn_t hB hy
        have l1 : A.1 * B.1 ≤ x.toInt * y.toInt := Int.mul_le_mul hx.1 hy.1 b0 x0
        have l2 : x.toInt * y.toInt ≤ A.2 * B.2 := Int.mul_le_mul hx.2 hy.2 y0 (Int.le_trans x0 hx.2)
        have e : (x * y).toInt = x.toInt * y.toInt := ck_mulI (by omega) (by omega)
        exact ⟨by show A.1 * B.1 ≤ (x * y).toInt; omega, by show (x * y).toInt ≤ A.2 * B.2; omega⟩
theorem ck_nat {x : Int32} (h : 0 ≤ x.toInt) : ∃ n : Nat, n < 2 ^ 31 ∧ x = nI n ∧ x.toInt = (n : Int) := by
  have hr := ck_rng x
  have hn : ¬ x < 0 := by
    intro q
    have q1 := Int32.lt_iff_toInt_lt.mp q
    have q2 : (0 : Int32).toInt = 0 := rfl
    omega
  obtain ⟨j, h1, h2⟩ := nI_of hn
  exact ⟨j, h1, h2, by rw [h2]; exact nI_toInt h1⟩
theorem ck_nat32 (x : Int32) : ∃ n : Nat, n < 2 ^ 32 ∧ x = nI n := ⟨x.toBitVec.toNat, x.toBitVec.isLt, by
  apply Int32.toBitVec_inj.mp
  show x.toBitVec = BitVec.ofNat 32 x.toBitVec.toNat
  simp⟩
theorem ck_and (a b : Nat) : nI a &&& nI b = nI (a &&& b) := by
  apply Int32.toBitVec_inj.mp
  show BitVec.ofNat 32 a &&& BitVec.ofNat 32 b = BitVec.ofNat 32 (a &&& b)
  simp
theorem ck_or (a b : Nat) : nI a ||| nI b = nI (a ||| b) := by
  apply Int32.toBitVec_inj.mp
  show BitVec.ofNat 32 a ||| BitVec.ofNat 32 b = BitVec.ofNat 32 (a ||| b)
  simp
theorem ck_xor (a b : Nat) : nI a ^^^ nI b = nI (a ^^^ b) := by
  apply Int32.toBitVec_inj.mp
  show BitVec.ofNat 32 a ^^^ BitVec.ofNat 32 b = BitVec.ofNat 32 (a ^^^ b)
  simp
theorem ckG_and (pos : Bool) : ckGood (fun _ _ _ A B => (ckUAnd A B, [])) (fun x y => x &&& y) pos := by
  refine ckGood_of ckUAnd _ pos fun A B x y hx hy _ => ?_
  have left : 0 ≤ x.toInt → 0 ≤ (x &&& y).toInt ∧ (x &&& y).toInt ≤ x.toInt := by
    intro h
    obtain ⟨n, h1, h2, h3⟩ := ck_nat h
    obtain ⟨k, -, h4⟩ := ck_nat32 y
    have hle : n &&& k ≤ n := Nat.and_le_left
    rw [h3, h2, h4, ck_and, nI_toInt (by omega)]
    omega
  have right : 0 ≤ y.toInt → 0 ≤ (x &&& y).toInt ∧ (x &&& y).toInt ≤ y.toInt := by
    intro h
    obtain ⟨n, h1, h2, h3⟩ := ck_nat h
    obtain ⟨k, -, h4⟩ := ck_nat32 x
    have hle : k &&& n ≤ n := Nat.and_le_right
    rw [h3, h2, h4, ck_and, nI_toInt (by omega)]
    omega
  unfold ckUAnd
  cases hA : ckNn A with
  | true =>
    have l := left (ckNn_t hA hx)
    cases hB : ckNn B with
    | true =>
      have r := right (ckNn_t hB hy)
      exact ⟨l.1, ckMin_ge (Int.le_trans l.2 hx.2) (Int.le_trans r.2 hy.2)⟩
    | false => exact ⟨l.1, Int.le_trans l.2 hx.2⟩
  | false =>
    cases hB : ckNn B with
    | true =>
      have r := right (ckNn_t hB hy)
      exact ⟨r.1, Int.le_trans r.2 hy.2⟩
    | false => exact ckW_top _
theorem ckOnes_lt {n : Nat} {x : Int} (h : (n : Int) ≤ x) : ∃ k : Nat, n < 2 ^ k ∧ ckOnes x = ((2 ^ k - 1 : Nat) : Int) := by
  cases x with
  | negSucc m => exact absurd h (by have := Int.negSucc_lt_zero m; omega)
  | ofNat m =>
    have hm : n ≤ m := by
      have : (n : Int) ≤ (m : Int) := h
      omega
    cases m with
    | zero => exact ⟨0, by simp; omega, rfl⟩
    | succ m =>
      exact ⟨Nat.log2 (m + 1) + 1, Nat.lt_of_le_of_lt hm Nat.lt_log2_self, rfl⟩
theorem ckOr_aux {A B : ckI} {x y z : Int32} (hx : ckW A x) (hy : ckW B y) (hA : ckNn A = true) (hB : ckNn B = true) (hf : ckFit (0, ckOnes (ckMax A.2 B.2)) = true) (hz : ∀ a b k : Nat, a < 2 ^ k → b < 2 ^ k → x = nI a → y = nI b → ∃ c, c < 2 ^ k ∧ z = nI c) : ckW (0, ckOnes (ckMax A.2 B.2)) z := by
  obtain ⟨a, a1, a2, a3⟩ := ck_nat (ckNn_t hA hx)
  obtain ⟨b, b1, b2, b3⟩ := ck_nat (ckNn_t hB hy)
  have f2 := (ckFit_t hf).2
  dsimp only at f2
  have ha : (max a b : Int) ≤ ckMax A.2 B.2 := by
    have h1 := ckMax_l A.2 B.2
    have h2 := ckMax_r A.2 B.2
    have h3 := hx.2
    have h4 := hy.2
    omega
  obtain ⟨k, k1, k2⟩ := ckOnes_lt (n := max a b) (x := ckMax A.2 B.2) (by omega)
  obtain ⟨c, c1, c2⟩ := hz a b k (by omega) (by omega) a2 b2
  have hp : 0 < 2 ^ k := Nat.two_pow_pos k
  rw [k2] at f2 ⊢
  have hc : c < 2 ^ 31 := by omega
  rw [c2]
  refine ⟨?_, ?_⟩
  · show (0 : Int) ≤ (nI c).toInt
    rw [nI_toInt hc]
    omega
  · show (nI c).toInt ≤ ((2 ^ k - 1 : Nat) : Int)
    rw [nI_toInt hc]
    omega
theorem ckG_or (pos : Bool) : ckGood (fun _ _ _ A B => (ckUOr A B, [])) (fun x y => x ||| y) pos := by
  refine ckGood_of ckUOr _ pos fun A B x y hx hy _ => ?_
  unfold ckUOr
  cases hA : ckNn A with
  | false => exact ckW_top _
  | true =>
    cases hB : ckNn B with
    | false => exact ckW_top _
    | true =>
      dsimp only
      cases hf : ckFit (0, ckOnes (ckMax A.2 B.2)) with
      | false => exact ckW_top _
      | true => exact ckOr_aux hx hy hA hB hf fun a b k ha hb e1 e2 => ⟨a ||| b, Nat.or_lt_two_pow ha hb, by rw [e1, e2, ck_or]⟩
theorem ckG_xor (pos : Bool) : ckGood (fun _ _ _ A B => (ckUOr A B, [])) (fun x y => x ^^^ y) pos := by
  refine ckGood_of ckUOr _ pos fun A B x y hx hy _ => ?_
  unfold ckUOr
  cases hA : ckNn A with
  | false => exact ckW_top _
  | true =>
    cases hB : ckNn B with
    | false => exact ckW_top _
    | true =>
      dsimp only
      cases hf : ckFit (0, ckOnes (ckMax A.2 B.2)) with
      | false => exact ckW_top _
      | true => exact ckOr_aux hx hy hA hB hf fun a b k ha hb e1 e2 => ⟨a ^^^ b, Nat.xor_lt_two_pow ha hb, by rw [e1, e2, ck_xor]⟩
theorem ck_s1 : ∀ n, n < 32 → ((nI n &&& 31).toBitVec.smod 32).toNat = n := by decide +kernel
theorem ck_s2 : ∀ n, n < 32 → (((nI n).toUInt32 &&& Int32.toUInt32 31).toBitVec % 32).toNat = n := by decide +kernel
theorem ckSh_s {B : ckI} {lo hi : Nat} (h : ckSh B = some (lo, hi)) {y : Int32} (hy : ckW B y) : ∃ k : Nat, lo ≤ k ∧ k ≤ hi ∧ hi < 32 ∧ y = nI k ∧ B.1 = (lo : Int) := by
  unfold ckSh at h
  obtain ⟨b1, b2⟩ := B
  cases b1 with
  | negSucc m => cases h
  | ofNat l =>
    cases b2 with
    | negSucc m => cases h
    | ofNat u =>
      dsimp only at h
      cases hb : Nat.ble u 31 with
      | false => rw [hb] at h; cases h
      | true =>
        rw [hb] at h
        cases h
        have hu := Nat.le_of_ble_eq_true hb
        have h1 : (lo : Int) ≤ y.toInt := hy.1
        have h2 : y.toInt ≤ (hi : Int) := hy.2
        obtain ⟨k, k1, k2, k3⟩ := ck_nat (x := y) (by omega)
        exact ⟨k, by omega, by omega, by omega, k2, rfl⟩
theorem ckG_shl (pos : Bool) : ckGood (fun _ _ _ A B => (ckUShl A B, [])) (fun x y => x <<< (y &&& 31)) pos := by
  refine ckGood_of ckUShl _ pos fun A B x y hx hy _ => ?_
  unfold ckUShl
  cases hs : ckSh B with
  | none => exact ckW_top _
  | some q =>
    obtain ⟨lo, hi⟩ := q
    dsimp only
    cases hA : ckNn A with
    | false => exact ckW_top _
    | true =>
      dsimp only
      cases hf : ckFit (A.1 * .ofNat (2 ^ lo), A.2 * .ofNat (2 ^ hi)) with
      | false => exact ckW_top _
      | true =>
        obtain ⟨k, k1, k2, k3, k4, -⟩ := ckSh_s hs hy
        obtain ⟨n, n1, n2, n3⟩ := ck_nat (ckNn_t hA hx)
        have f2 := (ckFit_t hf).2
        dsimp only at f2
        have a0 := ckLe0_t hA
        have p1 : 2 ^ lo ≤ 2 ^ k := Nat.pow_le_pow_right (by decide) k1
        have p2 : 2 ^ k ≤ 2 ^ hi := Nat.pow_le_pow_right (by decide) k2
        have l1 : A.1 * .ofNat (2 ^ lo) ≤ x.toInt * ((2 ^ k : Nat) : Int) := Int.mul_le_mul hx.1 (by show ((2 ^ lo : Nat) : Int) ≤ _; omega) (Int.natCast_nonneg _) (ckNn_t hA hx)
        have l2 : x.toInt * ((2 ^ k : Nat) : Int) ≤ A.2 * .ofNat (2 ^ hi) := Int.mul_le_mul hx.2 (by show _ ≤ ((2 ^ hi : Nat) : Int); omega) (Int.natCast_nonneg _) (Int.le_trans (ckNn_t hA hx) hx.2)
        have e : x.toInt * ((2 ^ k : Nat) : Int) = ((n * 2 ^ k : Nat) : Int) := by rw [n3]; exact (Int.natCast_mul n (2 ^ k)).symm
        have hlt : n * 2 ^ k < 2 ^ 31 := by omega
        have hv : x <<< (y &&& 31) = nI (n * 2 ^ k) := by rw [n2, k4]; exact pk_shlN _ k (ck_s1 k (by omega)) (by omega)
        rw [hv]
        exact ⟨by rw [nI_toInt hlt]; show A.1 * .ofNat (2 ^ lo) ≤ _; omega, by rw [nI_toInt hlt]; show _ ≤ A.2 * .ofNat (2 ^ hi); omega⟩
theorem ck_divs {x y n : Nat} {a b k : Nat} (h1 : x ≤ n) (h2 : n ≤ y) (h3 : a ≤ k) (h4 : k ≤ b) : x / 2 ^ b ≤ n / 2 ^ k ∧ n / 2 ^ k ≤ y / 2 ^ a := by
  have p1 : 2 ^ a ≤ 2 ^ k := Nat.pow_le_pow_right (by decide) h3
  have p2 : 2 ^ k ≤ 2 ^ b := Nat.pow_le_pow_right (by decide) h4
  exact ⟨Nat.div_le_div h1 p2 (by have := Nat.two_pow_pos k; omega), Nat.div_le_div h2 p1 (by have := Nat.two_pow_pos a; omega)⟩
theorem ckG_shr (pos : Bool) : ckGood (fun n a _ A B => ckUShr n a A B) (fun x y => x >>> (y &&& 31)) pos := by
  intro n a b A B x y hx hy _
  change ckW (ckUShr n a A B).1 (x >>> (y &&& 31)) ∧ ∀ I : List Int32, I[n]? = some (x >>> (y &&& 31)) → I[a]? = some x → I[b]? = some y → ∀ z ∈ (ckUShr n a A B).2, ckZok I z
  unfold ckUShr
  cases hs : ckSh B with
  | none => exact ⟨ckW_top _, fun _ _ _ _ z hz => absurd hz List.not_mem_nil⟩
  | some q =>
    obtain ⟨lo, hi⟩ := q
    obtain ⟨A1, A2⟩ := A
    cases A1 with
    | negSucc m => exact ⟨ckW_top _, fun _ _ _ _ z hz => absurd hz List.not_mem_nil⟩
    | ofNat u =>
      cases A2 with
      | negSucc m => exact ⟨ckW_top _, fun _ _ _ _ z hz => absurd hz List.not_mem_nil⟩
      | ofNat v =>
        obtain ⟨k, k1, k2, k3, k4, -⟩ := ckSh_s hs hy
        have x1 : (u : Int) ≤ x.toInt := hx.1
        have x2 : x.toInt ≤ (v : Int) := hx.2
        obtain ⟨w, w1, w2, w3⟩ := ck_nat (x := x) (by omega)
        have hv : x >>> (y &&& 31) = nI (w / 2 ^ k) := by rw [w2, k4]; exact pk_shrN w1 _ k (ck_s1 k (by omega))
        have hd := ck_divs (x := u) (y := v) (n := w) (a := lo) (b := hi) (k := k) (by omega) (by omega) k1 k2
        have hlt : w / 2 ^ k < 2 ^ 31 := Nat.lt_of_le_of_lt (Nat.div_le_self _ _) w1
        refine ⟨?_, fun I hn ha hb z hz => ?_⟩
        · rw [hv]
          refine ⟨?_, ?_⟩
          · rw [nI_toInt hlt]
            show ((u / 2 ^ hi : Nat) : Int) ≤ _
            omega
          · rw [nI_toInt hlt]
            show _ ≤ ((v / 2 ^ lo : Nat) : Int)
            omega
        · dsimp only at hz
          cases hl : Nat.ble 1 lo with
          | false => rw [hl] at hz; exact absurd hz List.not_mem_nil
          | true =>
            rw [hl] at hz
            cases hu : Nat.ble 1 u with
            | false => rw [hu] at hz; exact absurd hz List.not_mem_nil
            | true =>
              rw [hu] at hz
              rcases List.mem_cons.mp hz with rfl | hz
              · refine ⟨_, _, hn, ha, ?_⟩
                show (x >>> (y &&& 31)).toInt ≤ x.toInt + -1
                rw [hv, nI_toInt hlt, w3]
                have g1 := Nat.le_of_ble_eq_true hl
                have g2 := Nat.le_of_ble_eq_true hu
                have g3 : w / 2 ^ k < w := Nat.div_lt_self (by omega) (Nat.one_lt_two_pow (by omega))
                omega
              · exact absurd hz List.not_mem_nil
theorem ckG_ushr (pos : Bool) : ckGood (fun _ _ _ A B => (ckUUshr A B, [])) (fun x y => (x.toUInt32 >>> (y.toUInt32 &&& Int32.toUInt32 31)).toInt32) pos := by
  refine ckGood_of ckUUshr _ pos fun A B x y hx hy _ => ?_
  unfold ckUUshr
  cases hs : ckSh B with
  | none => exact ckW_top _
  | some q =>
    obtain ⟨lo, hi⟩ := q
    obtain ⟨A1, A2⟩ := A
    cases A1 with
    | negSucc m => exact ckW_top _
    | ofNat u =>
      cases A2 with
      | negSucc m => exact ckW_top _
      | ofNat v =>
        obtain ⟨k, k1, k2, k3, k4, -⟩ := ckSh_s hs hy
        have x1 : (u : Int) ≤ x.toInt := hx.1
        have x2 : x.toInt ≤ (v : Int) := hx.2
        obtain ⟨w, w1, w2, w3⟩ := ck_nat (x := x) (by omega)
        have hv : (x.toUInt32 >>> (y.toUInt32 &&& Int32.toUInt32 31)).toInt32 = nI (w / 2 ^ k) := by rw [w2, k4]; exact pk_ushrN (by omega) _ k (ck_s2 k (by omega))
        have hd := ck_divs (x := u) (y := v) (n := w) (a := lo) (b := hi) (k := k) (by omega) (by omega) k1 k2
        have hlt : w / 2 ^ k < 2 ^ 31 := Nat.lt_of_le_of_lt (Nat.div_le_self _ _) w1
        rw [hv]
        refine ⟨?_, ?_⟩
        · rw [nI_toInt hlt]
          show ((u / 2 ^ hi : Nat) : Int) ≤ _
          omega
        · rw [nI_toInt hlt]
          show _ ≤ ((v / 2 ^ lo : Nat) : Int)
          omega
theorem ckG_div : ckGood (fun _ _ _ A B => (ckUDiv A B, [])) (fun x y => x / y) true := by
  refine ckGood_of ckUDiv _ true fun A B x y hx hy hp => ?_
  have hp := hp rfl
  obtain ⟨A1, A2⟩ := A
  obtain ⟨B1, B2⟩ := B
  unfold ckUDiv
  cases A1 with
  | negSucc m => exact ckW_top _
  | ofNat u =>
    cases A2 with
    | negSucc m => exact ckW_top _
    | ofNat v =>
      cases B1 with
      | negSucc m => exact ckW_top _
      | ofNat s =>
        cases B2 with
        | negSucc m => exact ckW_top _
        | ofNat t =>
          have x1 : (u : Int) ≤ x.toInt := hx.1
          have x2 : x.toInt ≤ (v : Int) := hx.2
          have y1 : (s : Int) ≤ y.toInt := hy.1
          have y2 : y.toInt ≤ (t : Int) := hy.2
          have s1 : (1 : Int) ≤ (s : Int) := hp
          obtain ⟨w, w1, w2, w3⟩ := ck_nat (x := x) (by omega)
          obtain ⟨d, d1, d2, d3⟩ := ck_nat (x := y) (by omega)
          have hlt : w / d < 2 ^ 31 := Nat.lt_of_le_of_lt (Nat.div_le_self _ _) w1
          rw [w2, d2, pk_div w1 (by omega) d1]
          refine ⟨?_, ?_⟩
          · rw [nI_toInt hlt]
            show ((u / t : Nat) : Int) ≤ _
            have : u / t ≤ w / d := Nat.div_le_div (by omega) (by omega) (by omega)
            omega
          · rw [nI_toInt hlt]
            show _ ≤ ((v / s : Nat) : Int)
            have : w / d ≤ v / s := Nat.div_le_div (by omega) (by omega) (by omega)
            omega
theorem ckG_rem : ckGood (fun _ _ _ A B => (ckURem A B, [])) (fun x y => x - x / y * y) true := by
  refine ckGood_of ckURem _ true fun A B x y hx hy hp => ?_
  have hp := hp rfl
  obtain ⟨A1, A2⟩ := A
  obtain ⟨B1, B2⟩ := B
  unfold ckURem
  cases A1 with
  | negSucc m => exact ckW_top _
  | ofNat u =>
    cases A2 with
    | negSucc m => exact ckW_top _
    | ofNat v =>
      cases B2 with
      | negSucc m => exact ckW_top _
      | ofNat t =>
        have x1 : (u : Int) ≤ x.toInt := hx.1
        have x2 : x.toInt ≤ (v : Int) := hx.2
        have y1 : B1 ≤ y.toInt := hy.1
        have y2 : y.toInt ≤ (t : Int) := hy.2
        have s1 : (1 : Int) ≤ B1 := hp
        obtain ⟨w, w1, w2, w3⟩ := ck_nat (x := x) (by omega)
        obtain ⟨d, d1, d2, d3⟩ := ck_nat (x := y) (by omega)
        have hm : w % d < d := Nat.mod_lt _ (by omega)
        have hl : w % d ≤ w := Nat.mod_le _ _
        rw [w2, d2, pk_rem w1 (by omega) d1]
        refine ⟨?_, ckMin_ge ?_ ?_⟩
        · rw [nI_toInt (by omega)]
          show (0 : Int) ≤ _
          omega
        · rw [nI_toInt (by omega)]
          show _ ≤ (v : Int)
          omega
        · rw [nI_toInt (by omega)]
          show _ ≤ (t : Int) - 1
          omega
theorem ckG_neg {A : ckI} {x : Int32} (hx : ckW A x) : ckW (ckUNeg A) (-x) := by
  unfold ckUNeg
  cases h : ckLe0 (-2147483647) A.1 with
  | false => exact ckW_top _
  | true =>
    have h1 := ckLe0_t h
    have h2 := hx.1
    have h3 := hx.2
    have e : (-x).toInt = -x.toInt := ck_negI (by omega)
    exact ⟨by show -A.2 ≤ (-x).toInt; omega, by show (-x).toInt ≤ -A.1; omega⟩
theorem ckG_abs {A : ckI} {x : Int32} (hx : ckW A x) : ckW (ckUAbs A) (if 0 ≤ x then x else 0 - x) := by
  unfold ckUAbs
  cases h : ckNn A with
  | true =>
    have h0 := ckNn_t h hx
    have h1 : (0 : Int32) ≤ x := Int32.le_iff_toInt_le.mpr (by show (0 : Int) ≤ _; exact h0)
    rw [if_pos h1]
    exact hx
  | false =>
    dsimp only
    cases h2 : ckLe0 (-2147483647) A.1 with
    | false => exact ckW_top _
    | true =>
      have h3 := ckLe0_t h2
      have h4 := hx.1
      have h5 := hx.2
      dsimp only
      cases h9 : ckLe0 A.2 0 with
      | true =>
      have h8 := ckLe0_t h9
      by_cases hp : (0 : Int32) ≤ x
      · rw [if_pos hp]
        have h6 := Int32.le_iff_toInt_le.mp hp
        have h7 : (0 : Int) ≤ x.toInt := h6
        exact ⟨by show -A.2 ≤ x.toInt; omega, by show x.toInt ≤ -A.1; omega⟩
      · rw [if_neg hp]
        have e : (0 - x).toInt = 0 - x.toInt := ck_subI (by show -2147483648 ≤ (0 : Int) - _; omega) (by show (0 : Int) - _ < _; omega)
        exact ⟨by show -A.2 ≤ (0 - x).toInt; omega, by show (0 - x).toInt ≤ -A.1; omega⟩
      | false =>
      dsimp only
      by_cases hp : (0 : Int32) ≤ x
      · rw [if_pos hp]
        have h6 := Int32.le_iff_toInt_le.mp hp
        have h7 : (0 : Int) ≤ x.toInt := h6
        exact ⟨h7, Int.le_trans h5 (ckMax_r _ _)⟩
      · rw [if_neg hp]
        have h7 : ¬ (0 : Int) ≤ x.toInt := fun q => hp (Int32.le_iff_toInt_le.mpr (by show (0 : Int) ≤ _; exact q))
        have e : (0 - x).toInt = 0 - x.toInt := ck_subI (by show -2147483648 ≤ (0 : Int) - _; omega) (by show (0 : Int) - _ < _; omega)
        exact ⟨by show (0 : Int) ≤ (0 - x).toInt; omega, by
          have := ckMax_l (-A.1) A.2
          show (0 - x).toInt ≤ ckMax (-A.1) A.2
          omega⟩

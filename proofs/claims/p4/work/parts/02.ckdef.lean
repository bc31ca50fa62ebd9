/-! A CHECKER OF METHODS: a state is told by numbered whole numbers (each with bounds, and differences between them), numbered row contents, and cells; the checker walks a method over such states. Definitions alone; what they mean stands in the next parts. -/
-- a value: (0, number of a whole number), (1, number of a cell), (2, _) a long, (3, _) null, (4, number of a row outside), (5, _) anything
abbrev ckV : Type := Nat × Nat
abbrev ckI : Type := Int × Int
-- a cell: an object (its kind, its fields) or a row (0 of ints, 1 of longs, 2 of booleans; the number of its length, the number of its contents)
abbrev ckC : Type := (Nat × List ckV) ⊕ (Nat × Nat × Nat)
-- contents: bounds in stretches (each up to a place), places whose number is known, number-places whose number is known
abbrev ckG : Type := List (Nat × ckI) × List (Nat × Nat) × List (Nat × Nat)
-- (a, b, c): number a is at most number b and c
abbrev ckZ : Type := Nat × Nat × Int
-- (k, ln, f): the row outside number k has the length ln and the contents f
abbrev ckX : Type := Nat × Nat × Nat
abbrev ckK : Type := Nat × Nat × Nat × Nat × List Int
-- locals, stack, cells, bounds, contents, rows outside, differences, other facts, cells made, slots made
abbrev ckS : Type := List (Nat × ckV) × List ckV × List ckC × List ckI × List ckG × List ckX × List ckZ × List ckK × Nat × Nat
noncomputable def ckTop : ckI := (-2147483648, 2147483647)
noncomputable def ckLe0 (a b : Int) : Bool := match b - a with
  | .ofNat _ => true
  | .negSucc _ => false
noncomputable def ckMax (a b : Int) : Int := match ckLe0 a b with
  | true => b
  | false => a
noncomputable def ckMin (a b : Int) : Int := match ckLe0 a b with
  | true => a
  | false => b
noncomputable def ckTd (T : List ckI) : Nat → ckI := List.rec (motive := fun _ => Nat → ckI) (fun _ => ckTop) (fun w _ ih v => Nat.rec (motive := fun _ => ckI) w (fun m _ => ih m) v) T
noncomputable def ckIv : List ckZ → List ckI → Nat → ckI
  | [], T, v => ckTd T v
  | z :: Z, T, v => (match Nat.beq z.2.1 v with
      | true => ckMax (ckIv Z T v).1 ((ckTd T z.1).1 - z.2.2)
      | false => (ckIv Z T v).1,
    match Nat.beq z.1 v with
      | true => ckMin (ckIv Z T v).2 ((ckTd T z.2.1).2 + z.2.2)
      | false => (ckIv Z T v).2)
noncomputable def ckOmin (o : Option Int) (c : Int) : Option Int → Option Int
  | none => match o with
    | none => none
    | some x => some (x + c)
  | some d => match o with
    | none => some d
    | some x => some (ckMin (x + c) d)
noncomputable def ckZs (nx : Nat → Option Int) (a : Nat) : List ckZ → Option Int
  | [] => none
  | z :: r => match Nat.beq z.1 a with
    | false => ckZs nx a r
    | true => ckOmin (nx z.2.1) z.2.2 (ckZs nx a r)
noncomputable def ckZb (Z : List ckZ) (b : Nat) : Nat → Nat → Option Int
  | 0, a => match Nat.beq a b with
    | true => some 0
    | false => none
  | d + 1, a => match Nat.beq a b with
    | true => some 0
    | false => ckZs (fun y => ckZb Z b d y) a Z
noncomputable def ckLeq (T : List ckI) (Z : List ckZ) (a b : Nat) (c : Int) : Bool := match ckLe0 (ckIv Z T a).2 ((ckIv Z T b).1 + c) with
  | true => true
  | false => match ckZb Z b 3 a with
    | some d => ckLe0 d c
    | none => false
noncomputable def ckEq (T : List ckI) (Z : List ckZ) (a b : Nat) : Bool := match Nat.beq a b with
  | true => true
  | false => match ckLeq T Z a b 0 with
    | true => ckLeq T Z b a 0
    | false => false
noncomputable def ckCan (Z : List ckZ) (a b : Nat) (c : Int) : Bool := match ckZb Z a 3 b with
  | some d => ckLe0 0 (d + c)
  | none => true
-- the fact that number a is at most number b and c, put in; none: it can't be
noncomputable def ckAdd (T : List ckI) (Z : List ckZ) (a b : Nat) (c : Int) : Option (List ckI × List ckZ) := match Nat.beq a b with
  | true => match ckLe0 0 c with
    | true => some (T, Z)
    | false => none
  | false => match ckCan Z a b c with
    | false => none
    | true => match ckLe0 (ckIv Z T a).1 (ckMin (ckIv Z T a).2 ((ckIv Z T b).2 + c)) with
      | false => none
      | true => match ckLe0 (ckMax (ckIv Z T b).1 ((ckIv Z T a).1 - c)) (ckIv Z T b).2 with
        | false => none
        | true => some ((T.set a ((ckIv Z T a).1, ckMin (ckIv Z T a).2 ((ckIv Z T b).2 + c))).set b (ckMax (ckIv Z T b).1 ((ckIv Z T a).1 - c), (ckIv Z T b).2), (a, b, c) :: Z)
-- number a is within lo .. hi
noncomputable def ckLim (T : List ckI) (Z : List ckZ) (a : Nat) (lo hi : Int) : Option (List ckI) := match ckLe0 (ckMax (ckIv Z T a).1 lo) (ckMin (ckIv Z T a).2 hi) with
  | true => some (T.set a (ckMax (ckIv Z T a).1 lo, ckMin (ckIv Z T a).2 hi))
  | false => none
-- number a isn't c
noncomputable def ckNec (T : List ckI) (Z : List ckZ) (a : Nat) (c : Int) : Option (List ckI) := match ckLe0 c (ckIv Z T a).1 with
  | true => match ckLe0 (ckIv Z T a).1 c with
    | true => ckLim T Z a (c + 1) 2147483647
    | false => some T
  | false => match ckLe0 (ckIv Z T a).2 c with
    | true => match ckLe0 c (ckIv Z T a).2 with
      | true => ckLim T Z a (-2147483648) (c - 1)
      | false => some T
    | false => some T
noncomputable def ckPt (A : ckI) : Option Int := match ckLe0 A.2 A.1 with
  | true => some A.1
  | false => none
noncomputable def ckNe (T : List ckI) (Z : List ckZ) (a b : Nat) : Option (List ckI) := match ckEq T Z a b with
  | true => none
  | false => match ckPt (ckIv Z T b) with
    | some c => ckNec T Z a c
    | none => match ckPt (ckIv Z T a) with
      | some c => ckNec T Z b c
      | none => some T
noncomputable def ckFit (A : ckI) : Bool := match ckLe0 (-2147483648) A.1 with
  | true => ckLe0 A.2 2147483647
  | false => false
noncomputable def ckNn (A : ckI) : Bool := ckLe0 0 A.1
-- what an instruction on whole numbers gives: bounds of the new number n, and differences to the old ones
noncomputable def ckUAdd (n a b : Nat) (A B : ckI) : ckI × List ckZ := match ckFit (A.1 + B.1, A.2 + B.2) with
  | false => (ckTop, [])
  | true => ((A.1 + B.1, A.2 + B.2), match ckPt B with
    | some c => [(n, a, c), (a, n, -c)]
    | none => match ckPt A with
      | some c => [(n, b, c), (b, n, -c)]
      | none => [])
noncomputable def ckUSub (n a : Nat) (A B : ckI) : ckI × List ckZ := match ckFit (A.1 - B.2, A.2 - B.1) with
  | false => (ckTop, [])
  | true => ((A.1 - B.2, A.2 - B.1), match ckPt B with
    | some c => [(n, a, -c), (a, n, c)]
    | none => [])
noncomputable def ckUMul (A B : ckI) : ckI := match ckNn A with
  | false => ckTop
  | true => match ckNn B with
    | false => ckTop
    | true => match ckFit (A.1 * B.1, A.2 * B.2) with
      | false => ckTop
      | true => (A.1 * B.1, A.2 * B.2)
noncomputable def ckUNeg (A : ckI) : ckI := match ckLe0 (-2147483647) A.1 with
  | true => (-A.2, -A.1)
  | false => ckTop
noncomputable def ckOnes (x : Int) : Int := match x with
  | .ofNat n => match n with
    | 0 => 0
    | m + 1 => .ofNat (2 ^ (Nat.log2 (m + 1) + 1) - 1)
  | .negSucc _ => 0
noncomputable def ckUAnd (A B : ckI) : ckI := match ckNn A with
  | true => match ckNn B with
    | true => (0, ckMin A.2 B.2)
    | false => (0, A.2)
  | false => match ckNn B with
    | true => (0, B.2)
    | false => ckTop
noncomputable def ckUOr (A B : ckI) : ckI := match ckNn A with
  | true => match ckNn B with
    | true => match ckFit (0, ckOnes (ckMax A.2 B.2)) with
      | true => (0, ckOnes (ckMax A.2 B.2))
      | false => ckTop
    | false => ckTop
  | false => ckTop
-- within 0 .. 31, as counts of bits
noncomputable def ckSh (B : ckI) : Option (Nat × Nat) := match B.1 with
  | .ofNat lo => match B.2 with
    | .ofNat hi => match Nat.ble hi 31 with
      | true => some (lo, hi)
      | false => none
    | .negSucc _ => none
  | .negSucc _ => none
noncomputable def ckUShl (A B : ckI) : ckI := match ckSh B with
  | none => ckTop
  | some (lo, hi) => match ckNn A with
    | false => ckTop
    | true => match ckFit (A.1 * .ofNat (2 ^ lo), A.2 * .ofNat (2 ^ hi)) with
      | true => (A.1 * .ofNat (2 ^ lo), A.2 * .ofNat (2 ^ hi))
      | false => ckTop
noncomputable def ckUShr (n a : Nat) (A B : ckI) : ckI × List ckZ := match ckSh B with
  | none => (ckTop, [])
  | some (lo, hi) => match A.1, A.2 with
    | .ofNat x, .ofNat y => ((.ofNat (x / 2 ^ hi), .ofNat (y / 2 ^ lo)), match Nat.ble 1 lo with
      | true => match Nat.ble 1 x with
        | true => [(n, a, -1)]
        | false => []
      | false => [])
    | _, _ => (ckTop, [])
noncomputable def ckUUshr (A B : ckI) : ckI := match ckSh B with
  | none => ckTop
  | some (lo, hi) => match A.1, A.2 with
    | .ofNat x, .ofNat y => (.ofNat (x / 2 ^ hi), .ofNat (y / 2 ^ lo))
    | _, _ => ckTop
noncomputable def ckUDiv (A B : ckI) : ckI := match A.1, A.2, B.1, B.2 with
  | .ofNat x, .ofNat y, .ofNat u, .ofNat w => (.ofNat (x / w), .ofNat (y / u))
  | _, _, _, _ => ckTop
noncomputable def ckURem (A B : ckI) : ckI := match A.1, A.2, B.2 with
  | .ofNat _, .ofNat y, .ofNat w => (0, ckMin (.ofNat y) (.ofNat w - 1))
  | _, _, _ => ckTop
-- bounds of contents over the places a .. b; none: no place of these
noncomputable def ckJoin (A : ckI) : Option ckI → ckI
  | none => A
  | some B => (ckMin A.1 B.1, ckMax A.2 B.2)
noncomputable def ckHull (a b : Nat) : Nat → List (Nat × ckI) → Option ckI
  | s, [] => match Nat.ble s b with
    | true => some ckTop
    | false => none
  | s, (u, w) :: r => match Nat.ble (a + 1) u with
    | false => ckHull a b u r
    | true => match Nat.ble s b with
      | false => none
      | true => some (ckJoin w (ckHull a b u r))
-- contents behind a write of a number within w at a place of a .. b
noncomputable def ckPutS (a b : Nat) (w : ckI) : Nat → List (Nat × ckI) → List (Nat × ckI)
  | _, [] => []
  | s, (u, x) :: r => match Nat.ble (a + 1) u with
    | false => (u, x) :: ckPutS a b w u r
    | true => match Nat.ble s b with
      | false => (u, x) :: ckPutS a b w u r
      | true => match Nat.beq a b with
        | false => (u, ckJoin x (some w)) :: ckPutS a b w u r
        | true => match Nat.ble s a with
          | false => (u, x) :: ckPutS a b w u r
          | true => match Nat.beq s a with
            | true => match Nat.beq u (a + 1) with
              | true => (u, w) :: ckPutS a b w u r
              | false => (a + 1, w) :: (u, x) :: ckPutS a b w u r
            | false => match Nat.beq u (a + 1) with
              | true => (a, x) :: (u, w) :: ckPutS a b w u r
              | false => (a, x) :: (a + 1, w) :: (u, x) :: ckPutS a b w u r
-- what is told of places, of number-places
noncomputable def ckLook (k : Nat) : List (Nat × ckV) → Option ckV
  | [] => none
  | q :: r => match Nat.beq q.1 k with
    | true => some q.2
    | false => ckLook k r
noncomputable def ckOv (k : Nat) : List (Nat × Nat) → Option Nat
  | [] => none
  | q :: r => match Nat.beq q.1 k with
    | true => some q.2
    | false => ckOv k r
noncomputable def ckDv (T : List ckI) (Z : List ckZ) (i : Nat) : List (Nat × Nat) → Option Nat
  | [] => none
  | q :: r => match ckEq T Z q.1 i with
    | true => some q.2
    | false => ckDv T Z i r
-- the places outside lo .. hi
noncomputable def ckOut (lo hi : Nat) : List (Nat × Nat) → List (Nat × Nat)
  | [] => []
  | q :: r => match Nat.ble lo q.1 with
    | false => q :: ckOut lo hi r
    | true => match Nat.ble q.1 hi with
      | false => q :: ckOut lo hi r
      | true => ckOut lo hi r
-- locals that a write at place k leaves (w: the written value takes two places)
noncomputable def ckDrop (k : Nat) (w : Bool) : List (Nat × ckV) → List (Nat × ckV)
  | [] => []
  | q :: r => match Nat.beq q.1 k with
    | true => ckDrop k w r
    | false => match Nat.beq (q.1 + 1) k with
      | true => match Nat.beq q.2.1 0 || Nat.beq q.2.1 1 || Nat.beq q.2.1 4 with
        | true => q :: ckDrop k w r
        | false => ckDrop k w r
      | false => match w && Nat.beq q.1 (k + 1) with
        | true => ckDrop k w r
        | false => q :: ckDrop k w r
noncomputable def ckTopI : List ckV → Option (Nat × List ckV)
  | [] => none
  | q :: r => match q.1 with
    | 0 => some (q.2, r)
    | _ => none
noncomputable def ckTopR : List ckV → Option (Nat × List ckV)
  | [] => none
  | q :: r => match q.1 with
    | 1 => some (q.2, r)
    | _ => none
noncomputable def ckTopL : List ckV → Option (List ckV)
  | [] => none
  | q :: r => match q.1 with
    | 2 => some r
    | 6 => some r
    | 7 => some r
    | _ => none
-- a long that is a number told, or is it at least (e false)
noncomputable def ckTopE : List ckV → Option (Bool × Nat × List ckV)
  | [] => none
  | q :: r => match q.1 with
    | 6 => some (true, q.2, r)
    | 7 => some (false, q.2, r)
    | _ => none
-- one value of one word on top
noncomputable def ckTop1 : List ckV → Option (ckV × List ckV)
  | [] => none
  | q :: r => match Nat.beq q.1 0 || Nat.beq q.1 1 || Nat.beq q.1 4 with
    | true => some (q, r)
    | false => none
noncomputable def ckPush (q : ckV) : ckS → ckS
  | (L, S, C, T, G, X, Z, K, nc, ns) => (L, q :: S, C, T, G, X, Z, K, nc, ns)
noncomputable def ckPushI (w : ckI) (zs : List ckZ) : ckS → ckS
  | (L, S, C, T, G, X, Z, K, nc, ns) => (L, (0, T.length) :: S, C, T ++ [w], G, X, zs ++ Z, K, nc, ns)
noncomputable def ckConst (v : Int) (σ : ckS) : Option ckS := match ckFit (v, v) with
  | true => some (ckPushI (v, v) [] σ)
  | false => none
noncomputable def ckLoad (k tag : Nat) : ckS → Option ckS
  | (L, S, C, T, G, X, Z, K, nc, ns) => match ckLook k L with
    | none => none
    | some q => match Nat.beq q.1 tag with
      | true => some (L, q :: S, C, T, G, X, Z, K, nc, ns)
      | false => none
noncomputable def ckALoad (k : Nat) (σ : ckS) : Option ckS := match ckLoad k 1 σ with
  | some τ => some τ
  | none => ckLoad k 4 σ
noncomputable def ckStore1 (nL k : Nat) : ckS → Option ckS
  | (L, S, C, T, G, X, Z, K, nc, ns) => match Nat.ble (k + 1) nL with
    | false => none
    | true => match ckTop1 S with
      | none => none
      | some (q, r) => some ((k, q) :: ckDrop k false L, r, C, T, G, X, Z, K, nc, ns)
noncomputable def ckIStore (nL k : Nat) (σ : ckS) : Option ckS := match σ.2.1 with
  | [] => none
  | q :: _ => match q.1 with
    | 0 => ckStore1 nL k σ
    | _ => none
noncomputable def ckAStore (nL k : Nat) (σ : ckS) : Option ckS := match σ.2.1 with
  | [] => none
  | q :: _ => match Nat.beq q.1 1 || Nat.beq q.1 4 with
    | true => ckStore1 nL k σ
    | false => none
noncomputable def ckLStore (nL k : Nat) : ckS → Option ckS
  | (L, S, C, T, G, X, Z, K, nc, ns) => match Nat.ble (k + 2) nL with
    | false => none
    | true => match ckTopL S with
      | none => none
      | some r => some ((k, (2, 0)) :: ckDrop k true L, r, C, T, G, X, Z, K, nc, ns)
noncomputable def ckIinc (nL k : Nat) (c : Int) : ckS → Option ckS
  | (L, S, C, T, G, X, Z, K, nc, ns) => match Nat.ble (k + 1) nL with
    | false => none
    | true => match ckLook k L with
      | none => none
      | some q => match q.1 with
        | 0 => match ckFit (c, c) with
          | true => match ckUAdd T.length q.2 q.2 (ckIv Z T q.2) (c, c) with
            | (w, zs) => some ((k, (0, T.length)) :: ckDrop k false L, S, C, T ++ [w], G, X, zs ++ Z, K, nc, ns)
          | false => none
        | _ => none
noncomputable def ckU1 (f : ckI → ckI) : ckS → Option ckS
  | (L, S, C, T, G, X, Z, K, nc, ns) => match ckTopI S with
    | none => none
    | some (a, r) => some (L, (0, T.length) :: r, C, T ++ [f (ckIv Z T a)], G, X, Z, K, nc, ns)
-- what is recorded of an instruction: nothing; a sum (0), a product (1), a difference (2)
noncomputable def ckNoK (_ _ _ : Nat) : List ckK := []
noncomputable def ckRec5 (a : Nat) (op : Int) (n x y : Nat) : List ckK := match a with
  | 1 => [(5, n, x, y, [op])]
  | _ => []
noncomputable def ckU2 (f : Nat → Nat → Nat → ckI → ckI → ckI × List ckZ) (kf : Nat → Nat → Nat → List ckK) : ckS → Option ckS
  | (L, S, C, T, G, X, Z, K, nc, ns) => match ckTopI S with
    | none => none
    | some (b, r) => match ckTopI r with
      | none => none
      | some (a, r) => match f T.length a b (ckIv Z T a) (ckIv Z T b) with
        | (w, zs) => some (L, (0, T.length) :: r, C, T ++ [w], G, X, zs ++ Z, kf T.length a b ++ K, nc, ns)
-- the divisor is above 0
noncomputable def ckPos : ckS → Bool
  | (_, S, _, T, _, _, Z, _, _, _) => match ckTopI S with
    | none => false
    | some (b, _) => ckLe0 1 (ckIv Z T b).1
noncomputable def ckNar (lo hi : Int) : ckS → Option ckS
  | (L, S, C, T, G, X, Z, K, nc, ns) => match ckTopI S with
    | none => none
    | some (a, r) => match ckLe0 lo (ckIv Z T a).1 && ckLe0 (ckIv Z T a).2 hi with
      | true => some (L, (0, a) :: r, C, T, G, X, Z, K, nc, ns)
      | false => some (L, (0, T.length) :: r, C, T ++ [(lo, hi)], G, X, Z, K, nc, ns)
noncomputable def ckDup : ckS → Option ckS
  | (L, S, C, T, G, X, Z, K, nc, ns) => match ckTop1 S with
    | none => none
    | some (q, _) => some (L, q :: S, C, T, G, X, Z, K, nc, ns)
noncomputable def ckDup2 : ckS → Option ckS
  | (L, S, C, T, G, X, Z, K, nc, ns) => match ckTop1 S with
    | none => none
    | some (q, r) => match ckTop1 r with
      | none => none
      | some (t, _) => some (L, q :: t :: S, C, T, G, X, Z, K, nc, ns)
noncomputable def ckPop : ckS → Option ckS
  | (L, S, C, T, G, X, Z, K, nc, ns) => match ckTop1 S with
    | none => none
    | some (_, r) => some (L, r, C, T, G, X, Z, K, nc, ns)
-- longs: nothing is told of them
noncomputable def ckI2L : ckS → Option ckS
  | (L, S, C, T, G, X, Z, K, nc, ns) => match ckTopI S with
    | none => none
    | some (a, r) => some (L, (6, a) :: r, C, T, G, X, Z, K, nc, ns)
noncomputable def ckL2I : ckS → Option ckS
  | (L, S, C, T, G, X, Z, K, nc, ns) => match ckTopL S with
    | none => none
    | some r => some (L, (0, T.length) :: r, C, T ++ [ckTop], G, X, Z, K, nc, ns)
noncomputable def ckLL : ckS → Option ckS
  | (L, S, C, T, G, X, Z, K, nc, ns) => match ckTopL S with
    | none => none
    | some r => match ckTopL r with
      | none => none
      | some r => some (L, (2, 0) :: r, C, T, G, X, Z, K, nc, ns)
noncomputable def ckLAdd (σ : ckS) : Option ckS := match ckTopE σ.2.1 with
  | some (true, b, r0) => match ckTopE r0 with
    | some (true, a, r) => match σ with
      | (L, _, C, T, G, X, Z, K, nc, ns) => match ckFit ((ckIv Z T a).1 + (ckIv Z T b).1, (ckIv Z T a).2 + (ckIv Z T b).2) with
        | true => some (L, (6, T.length) :: r, C, T ++ [((ckIv Z T a).1 + (ckIv Z T b).1, (ckIv Z T a).2 + (ckIv Z T b).2)], G, X, Z, K, nc, ns)
        | false => match ckNn (ckIv Z T a) with
          | true => some (L, (7, b) :: r, C, T, G, X, Z, K, nc, ns)
          | false => ckLL σ
    | _ => ckLL σ
  | _ => ckLL σ
noncomputable def ckCmp (A B : ckI) (e : Bool) : ckI := (match ckLe0 (B.2 + 1) A.1 with
  | true => 1
  | false => match ckLe0 B.2 A.1 with
    | true => 0
    | false => -1, match e with
  | false => 1
  | true => match ckLe0 (A.2 + 1) B.1 with
    | true => -1
    | false => match ckLe0 A.2 B.1 with
      | true => 0
      | false => 1)
noncomputable def ckLI : ckS → Option ckS
  | (L, S, C, T, G, X, Z, K, nc, ns) => match ckTopI S with
    | none => none
    | some (_, r) => match ckTopL r with
      | none => none
      | some r => some (L, (2, 0) :: r, C, T, G, X, Z, K, nc, ns)
noncomputable def ckLcmp : ckS → Option ckS
  | (L, S, C, T, G, X, Z, K, nc, ns) => match ckTopL S with
    | none => none
    | some r => match ckTopL r with
      | none => none
      | some r => some (L, (0, T.length) :: r, C, T ++ [(-1, 1)], G, X, Z, K, nc, ns)
noncomputable def ckLcmpE (σ : ckS) : Option ckS := match ckTopE σ.2.1 with
  | some (true, b, r0) => match ckTopE r0 with
    | some (e, a, r) => match σ with
      | (L, _, C, T, G, X, Z, K, nc, ns) => some (L, (0, T.length) :: r, C, T ++ [ckCmp (ckIv Z T a) (ckIv Z T b) e], G, X, Z, K, nc, ns)
    | _ => ckLcmp σ
  | _ => ckLcmp σ
-- fields
noncomputable def ckOne (q : ckV) : Bool := Nat.beq q.1 0 || Nat.beq q.1 1 || Nat.beq q.1 4
noncomputable def ckGetf (ci k : Nat) : ckS → Option ckS
  | (L, S, C, T, G, X, Z, K, nc, ns) => match ckTopR S with
    | none => none
    | some (o, r) => match C[o]? with
      | some (.inl (cj, fs)) => match Nat.beq ci cj with
        | true => match fs[k]? with
          | some q => match ckOne q with
            | true => some (L, q :: r, C, T, G, X, Z, K, nc, ns)
            | false => none
          | none => none
        | false => none
      | _ => none
-- what a field of a type takes: 0 a number, 1 a truth value, 2 a cell
noncomputable def ckPutOk (kd : Nat) (q : ckV) (T : List ckI) (Z : List ckZ) : Bool := match kd with
  | 0 => Nat.beq q.1 0
  | 1 => match Nat.beq q.1 0 with
    | true => match ckLe0 0 (ckIv Z T q.2).1 with
      | true => ckLe0 (ckIv Z T q.2).2 1
      | false => false
    | false => false
  | 2 => Nat.beq q.1 1
  | _ => false
noncomputable def ckPutf (ci k kd : Nat) : ckS → Option ckS
  | (L, S, C, T, G, X, Z, K, nc, ns) => match S with
    | [] => none
    | q :: r => match ckPutOk kd q T Z with
      | false => none
      | true => match ckTopR r with
        | none => none
        | some (o, r) => match C[o]? with
          | some (.inl (cj, fs)) => match Nat.beq ci cj with
            | true => match Nat.ble (k + 1) fs.length with
              | true => some (L, r, C.set o (.inl (cj, fs.set k q)), T, G, X, Z, K, nc, ns)
              | false => none
            | false => none
          | _ => none
-- rows
noncomputable def ckIn (T : List ckI) (Z : List ckZ) (i ln : Nat) : Bool := match ckNn (ckIv Z T i) with
  | true => ckLeq T Z i ln (-1)
  | false => false
noncomputable def ckHul (g : ckG) (A : ckI) : ckI := match ckHull A.1.toNat A.2.toNat 0 g.1 with
  | some w => w
  | none => ckTop
-- a read of contents fv at number-place i: the number that is read, and the new tables
noncomputable def ckRead (T : List ckI) (G : List ckG) (Z : List ckZ) (fv i : Nat) : Option (Nat × List ckI × List ckG) := match G[fv]? with
  | none => none
  | some g => match ckPt (ckIv Z T i) with
    | some p => match ckOv p.toNat g.2.1 with
      | some v => some (v, T, G)
      | none => some (T.length, T ++ [ckHul g (ckIv Z T i)], G.set fv (g.1, (p.toNat, T.length) :: g.2.1, g.2.2))
    | none => match ckDv T Z i g.2.2 with
      | some v => some (v, T, G)
      | none => some (T.length, T ++ [ckHul g (ckIv Z T i)], G.set fv (g.1, g.2.1, (i, T.length) :: g.2.2))
-- contents behind a write of number x at number-place i
noncomputable def ckWrite (T : List ckI) (G : List ckG) (Z : List ckZ) (fv i x : Nat) : Option (List ckG) := match G[fv]? with
  | none => none
  | some g => match ckPt (ckIv Z T i) with
    | some p => some (G ++ [(ckPutS p.toNat p.toNat (ckIv Z T x) 0 g.1, (p.toNat, x) :: ckOut p.toNat p.toNat g.2.1, [])])
    | none => some (G ++ [(ckPutS (ckIv Z T i).1.toNat (ckIv Z T i).2.toNat (ckIv Z T x) 0 g.1, ckOut (ckIv Z T i).1.toNat (ckIv Z T i).2.toNat g.2.1, [(i, x)])])
-- the four rows outside, as the class's text has them: POWER_OF, WARMTH_OF, LEAST_TOLD, MOST_TOLD
noncomputable def ckStat : Nat → List Int
  | 0 => [1, 4, 2, 2, 3, 5, 2, 0]
  | 1 => [0, 0, 0, 0, 3, 0, 1, 0]
  | 2 => [0, -128, 0, 0, -20, 0, 0, 1, 1, 0]
  | 3 => [47, 127, 99, 99, 20, 31, 99, 99, 999, 20]
  | _ => []
noncomputable def ckSegs : Nat → List Int → List (Nat × ckI)
  | _, [] => []
  | j, v :: r => (j + 1, (v, v)) :: ckSegs (j + 1) r
noncomputable def ckXlook (k : Nat) : List ckX → Option (Nat × Nat)
  | [] => none
  | q :: r => match Nat.beq q.1 k with
    | true => some q.2
    | false => ckXlook k r
-- the row outside number k, told now if it wasn't
noncomputable def ckXget (k : Nat) : ckS → Option (Nat × Nat × ckS)
  | (L, S, C, T, G, X, Z, K, nc, ns) => match ckXlook k X with
    | some q => some (q.1, q.2, (L, S, C, T, G, X, Z, K, nc, ns))
    | none => match Nat.ble k 3 with
      | false => none
      | true => some (T.length, G.length, (L, S, C, T ++ [(((ckStat k).length : Int), ((ckStat k).length : Int))], G ++ [(ckSegs 0 (ckStat k), [], [])], (k, T.length, G.length) :: X, Z, K, nc, ns))
noncomputable def ckRd (fl : Bool) (fv i v : Nat) : List ckK := match fl with
  | true => [(4, fv, i, v, [])]
  | false => []
noncomputable def ckAld (t : Nat) (fl : Bool) : ckS → Option ckS
  | (L, S, C, T, G, X, Z, K, nc, ns) => match ckTopI S with
    | none => none
    | some (i, r) => match ckTopR r with
      | some (o, r) => match C[o]? with
        | some (.inr (u, ln, fv)) => match Nat.beq u t with
          | false => none
          | true => match ckIn T Z i ln with
            | false => none
            | true => match ckRead T G Z fv i with
              | none => none
              | some (v, T1, G1) => some (L, (0, v) :: r, C, T1, G1, X, Z, ckRd fl fv i v ++ K, nc, ns)
        | _ => none
      | none => none
-- from a row outside
noncomputable def ckOld (σ : ckS) : Option ckS := match ckTopI σ.2.1 with
  | none => none
  | some (i, r0) => match r0 with
    | [] => none
    | q :: r => match Nat.beq q.1 4 with
      | false => none
      | true => match ckXget q.2 σ with
        | none => none
        | some (ln, fv, (L, S, C, T, G, X, Z, K, nc, ns)) => match ckIn T Z i ln with
          | false => none
          | true => match ckRead T G Z fv i with
            | none => none
            | some (v, T1, G1) => some (L, (0, v) :: r, C, T1, G1, X, Z, K, nc, ns)
noncomputable def ckIald (fl : Bool) (σ : ckS) : Option ckS := match ckAld 0 fl σ with
  | some τ => some τ
  | none => ckOld σ
-- longs of a row of longs
noncomputable def ckLald : ckS → Option ckS
  | (L, S, C, T, G, X, Z, K, nc, ns) => match ckTopI S with
    | none => none
    | some (i, r) => match ckTopR r with
      | some (o, r) => match C[o]? with
        | some (.inr (u, ln, _)) => match Nat.beq u 1 with
          | false => none
          | true => match ckIn T Z i ln with
            | false => none
            | true => some (L, (2, 0) :: r, C, T, G, X, Z, K, nc, ns)
        | _ => none
      | none => none
noncomputable def ckLast : ckS → Option ckS
  | (L, S, C, T, G, X, Z, K, nc, ns) => match ckTopL S with
    | none => none
    | some r => match ckTopI r with
      | none => none
      | some (i, r) => match ckTopR r with
        | some (o, r) => match C[o]? with
          | some (.inr (u, ln, _)) => match Nat.beq u 1 with
            | false => none
            | true => match ckIn T Z i ln with
              | false => none
              | true => some (L, r, C, T, G, X, Z, K, nc, ns)
          | _ => none
        | none => none
noncomputable def ckTruth (t : Nat) (A : ckI) : Bool := match t with
  | 0 => true
  | _ => match ckLe0 0 A.1 with
    | true => ckLe0 A.2 1
    | false => false
noncomputable def ckUp (fl : Bool) (fn fo i x : Nat) : List ckK := match fl with
  | true => [(3, fn, fo, i, [.ofNat x])]
  | false => []
-- commands in contents are not touched by a write outside the places 77 .. 196
noncomputable def ckTrn (w : ckI) (fo fn : Nat) : List ckK → List ckK
  | [] => []
  | k :: r => match Nat.beq k.1 1 with
    | false => ckTrn w fo fn r
    | true => match Nat.beq k.2.1 fo with
      | false => ckTrn w fo fn r
      | true => match ckLe0 0 w.1 with
        | false => ckTrn w fo fn r
        | true => match ckLe0 w.2 76 with
          | true => (1, fn, 0, 0, []) :: ckTrn w fo fn r
          | false => match ckLe0 197 w.1 with
            | true => (1, fn, 0, 0, []) :: ckTrn w fo fn r
            | false => ckTrn w fo fn r
noncomputable def ckAst (t : Nat) (fl : Bool) : ckS → Option ckS
  | (L, S, C, T, G, X, Z, K, nc, ns) => match ckTopI S with
    | none => none
    | some (x, r) => match ckTopI r with
      | none => none
      | some (i, r) => match ckTopR r with
        | some (o, r) => match C[o]? with
          | some (.inr (u, ln, fv)) => match Nat.beq u t with
            | false => none
            | true => match ckTruth t (ckIv Z T x) with
              | false => none
              | true => match ckIn T Z i ln with
                | false => none
                | true => match ckWrite T G Z fv i x with
                  | none => none
                  | some G1 => some (L, r, C.set o (.inr (u, ln, G.length)), T, G1, X, Z, ckUp fl G.length fv i x ++ (ckTrn (ckIv Z T i) fv G.length K ++ K), nc, ns)
          | _ => none
        | none => none
noncomputable def ckLen (σ : ckS) : Option ckS := match σ.2.1 with
  | [] => none
  | q :: r => match q.1 with
    | 1 => match σ with
      | (L, _, C, T, G, X, Z, K, nc, ns) => match C[q.2]? with
        | some (.inr (u, ln, _)) => match Nat.ble u 2 with
          | true => some (L, (0, ln) :: r, C, T, G, X, Z, K, nc, ns)
          | false => none
        | _ => none
    | 4 => match ckXget q.2 σ with
      | none => none
      | some (ln, _, (L, _, C, T, G, X, Z, K, nc, ns)) => some (L, (0, ln) :: r, C, T, G, X, Z, K, nc, ns)
    | _ => none
-- new cells; the fields of a kind: 0 a number or a truth value, 1 a cell
noncomputable def ckFlds (n : Nat) : List Nat → List ckV
  | [] => []
  | 0 :: r => (0, n) :: ckFlds n r
  | _ :: r => (3, 0) :: ckFlds n r
noncomputable def ckNew (mc ms ci : Nat) (ks : List Nat) : ckS → Option ckS
  | (L, S, C, T, G, X, Z, K, nc, ns) => match Nat.ble (nc + 1) mc with
    | false => none
    | true => match Nat.ble (ns + ks.length) ms with
      | false => none
      | true => some (L, (1, C.length) :: S, C ++ [.inl (ci, ckFlds T.length ks)], T ++ [(0, 0)], G, X, Z, K, nc + 1, ns + ks.length)
noncomputable def ckNewRow (mc ms t : Nat) : ckS → Option ckS
  | (L, S, C, T, G, X, Z, K, nc, ns) => match ckTopI S with
    | none => none
    | some (n, r) => match ckPt (ckIv Z T n) with
      | some (.ofNat w) => match Nat.ble w 1000000 with
        | false => none
        | true => match Nat.ble (nc + 1) mc with
          | false => none
          | true => match Nat.ble (ns + w) ms with
            | false => none
            | true => some (L, (1, C.length) :: r, C ++ [.inr (t, n, G.length)], T, G ++ [([(w, (0, 0))], [], [])], X, Z, K, nc + 1, ns + w)
      | _ => none
-- Math.max, min, abs
noncomputable def ckUMax (A B : ckI) : ckI := (ckMax A.1 B.1, ckMax A.2 B.2)
noncomputable def ckMM (mx : Bool) : ckS → Option ckS
  | (L, S, C, T, G, X, Z, K, nc, ns) => match ckTopI S with
    | none => none
    | some (b, r) => match ckTopI r with
      | none => none
      | some (a, r) => match mx with
        | true => match ckLeq T Z a b 0 with
          | true => some (L, (0, b) :: r, C, T, G, X, Z, K, nc, ns)
          | false => match ckLeq T Z b a 0 with
            | true => some (L, (0, a) :: r, C, T, G, X, Z, K, nc, ns)
            | false => some (L, (0, T.length) :: r, C, T ++ [(ckMax (ckIv Z T a).1 (ckIv Z T b).1, ckMax (ckIv Z T a).2 (ckIv Z T b).2)], G, X, (a, T.length, 0) :: (b, T.length, 0) :: Z, K, nc, ns)
        | false => match ckLeq T Z a b 0 with
          | true => some (L, (0, a) :: r, C, T, G, X, Z, K, nc, ns)
          | false => match ckLeq T Z b a 0 with
            | true => some (L, (0, b) :: r, C, T, G, X, Z, K, nc, ns)
            | false => some (L, (0, T.length) :: r, C, T ++ [(ckMin (ckIv Z T a).1 (ckIv Z T b).1, ckMin (ckIv Z T a).2 (ckIv Z T b).2)], G, X, (T.length, a, 0) :: (T.length, b, 0) :: Z, K, nc, ns)
noncomputable def ckUAbs (A : ckI) : ckI := match ckNn A with
  | true => A
  | false => match ckLe0 (-2147483647) A.1 with
    | true => match ckLe0 A.2 0 with
      | true => (-A.2, -A.1)
      | false => (0, ckMax (-A.1) A.2)
    | false => ckTop
-- System.arraycopy of whole numbers from place 0 to place 0
noncomputable def ckCopy : ckS → Option ckS
  | (L, S, C, T, G, X, Z, K, nc, ns) => match ckTopI S with
    | none => none
    | some (n, r) => match ckTopI r with
      | none => none
      | some (dp, r) => match ckTopR r with
        | none => none
        | some (o1, r) => match ckTopI r with
          | none => none
          | some (sp, r) => match ckTopR r with
            | none => none
            | some (o0, r) => match C[o0]?, C[o1]? with
              | some (.inr (u0, ln0, f0)), some (.inr (u1, ln1, _)) => match Nat.beq u0 0 && Nat.beq u1 0 with
                | false => none
                | true => match ckPt (ckIv Z T sp), ckPt (ckIv Z T dp) with
                  | some (.ofNat 0), some (.ofNat 0) => match ckNn (ckIv Z T n) && (ckLeq T Z n ln0 0 && ckLeq T Z n ln1 0) with
                    | false => none
                    | true => match ckLeq T Z ln1 n 0 with
                      | true => some (L, r, C.set o1 (.inr (u1, ln1, f0)), T, G, X, Z, K, nc, ns)
                      | false => some (L, r, C.set o1 (.inr (u1, ln1, G.length)), T, G ++ [([], [], [])], X, Z, K, nc, ns)
                  | _, _ => none
              | _, _ => none
-- the words that a stack takes, at most
noncomputable def ckWord (q : ckV) : Nat := match ckOne q with
  | true => 1
  | false => match q.1 with
    | 2 => 2
    | _ => 9
noncomputable def ckWords : List ckV → Nat
  | [] => 0
  | q :: r => ckWord q + ckWords r
-- the instructions that go straight on
abbrev ckEn : Type := Nat × Instr × Nat × Nat × Nat
-- the letters: row 5 outside is the text, 6 its bytes
noncomputable def ckTopX (k : Nat) : List ckV → Option (List ckV)
  | [] => none
  | q :: r => match Nat.beq q.1 4 with
    | true => match Nat.beq q.2 k with
      | true => some r
      | false => none
    | false => none
noncomputable def ckLitF (b : Nat) (σ : ckS) : Option ckS := match σ with
  | (L, S, C, T, G, X, Z, K, nc, ns) => match ckTopX 5 S with
    | none => none
    | some r => match b with
      | 0 => some (L, (4, 6) :: r, C, T, G, X, Z, K, nc, ns)
      | 1 => ckConst 0 (L, r, C, T, G, X, Z, K, nc, ns)
      | _ => none
noncomputable def ckLitL (σ : ckS) : Option ckS := match σ with
  | (L, S, C, T, G, X, Z, K, nc, ns) => match ckTopX 6 S with
    | none => none
    | some r => ckConst 8 (L, r, C, T, G, X, Z, K, nc, ns)
noncomputable def ckLitB (σ : ckS) : Option ckS := match σ with
  | (L, S, C, T, G, X, Z, K, nc, ns) => match ckTopI S with
    | none => none
    | some (i, r) => match ckTopX 6 r with
      | none => none
      | some r => match ckLe0 0 (ckIv Z T i).1 with
        | false => none
        | true => match ckLe0 (ckIv Z T i).2 7 with
          | false => none
          | true => some (ckPushI (97, 119) [] (L, r, C, T, G, X, Z, K, nc, ns))
noncomputable def ckLn (i : Instr) : Nat := match i with
  | .bipush _ => 2
  | .sipush _ => 3
  | .ldc _ => 2
  | .ldc_w _ => 3
  | .ldc2_w _ => 3
  | .iload _ => 2
  | .aload _ => 2
  | .lload _ => 2
  | .istore _ => 2
  | .astore _ => 2
  | .lstore _ => 2
  | .iinc _ _ => 3
  | .getfield _ => 3
  | .putfield _ => 3
  | .getstatic _ => 3
  | .new _ => 3
  | .newarray _ => 2
  | .invokevirtual _ => 3
  | .invokestatic _ => 3
  | .invokespecial _ => 3
  | .goto _ => 3
  | .ifCond _ _ => 3
  | .if_icmp _ _ => 3
  | _ => 1
noncomputable def ckStep (ks : Nat → List Nat) (nL mc ms : Nat) (i : Instr) (a b d : Nat) (σ : ckS) : Option ckS := match i with
  | .iconst v => ckConst v σ
  | .bipush v => match ckLe0 (-128) v && ckLe0 v 127 with
    | true => ckConst v σ
    | false => none
  | .sipush v => match ckLe0 (-32768) v && ckLe0 v 32767 with
    | true => ckConst v σ
    | false => none
  | .ldc _ => match Nat.beq b 1 with
    | true => some (ckPush (4, 5) σ)
    | false => ckConst (.ofNat a) σ
  | .ldc_w _ => ckConst (.ofNat a) σ
  | .ldc2_w _ => match Nat.beq b 1 with
    | true => match Nat.ble a 2147483647 with
      | true => match σ with
        | (L, S, C, T, G, X, Z, K, nc, ns) => some (L, (6, T.length) :: S, C, T ++ [(.ofNat a, .ofNat a)], G, X, Z, K, nc, ns)
      | false => none
    | false => some (ckPush (2, 0) σ)
  | .lconst _ => some (ckPush (2, 0) σ)
  | .iload k => ckLoad k 0 σ
  | .iload_n k => ckLoad k 0 σ
  | .aload k => ckALoad k σ
  | .aload_n k => ckALoad k σ
  | .lload k => ckLoad k 2 σ
  | .lload_n k => ckLoad k 2 σ
  | .istore k => ckIStore nL k σ
  | .istore_n k => ckIStore nL k σ
  | .astore k => ckAStore nL k σ
  | .astore_n k => ckAStore nL k σ
  | .lstore k => ckLStore nL k σ
  | .lstore_n k => ckLStore nL k σ
  | .iinc k c => ckIinc nL k c σ
  | .iadd => ckU2 ckUAdd (ckRec5 a 0) σ
  | .isub => ckU2 (fun n a _ A B => ckUSub n a A B) (ckRec5 a 2) σ
  | .imul => ckU2 (fun _ _ _ A B => (ckUMul A B, [])) (ckRec5 a 1) σ
  | .iand => ckU2 (fun _ _ _ A B => (ckUAnd A B, [])) ckNoK σ
  | .ior => ckU2 (fun _ _ _ A B => (ckUOr A B, [])) ckNoK σ
  | .ixor => ckU2 (fun _ _ _ A B => (ckUOr A B, [])) ckNoK σ
  | .ishl => ckU2 (fun _ _ _ A B => (ckUShl A B, [])) ckNoK σ
  | .ishr => ckU2 (fun n a _ A B => ckUShr n a A B) ckNoK σ
  | .iushr => ckU2 (fun _ _ _ A B => (ckUUshr A B, [])) ckNoK σ
  | .idiv => match ckPos σ with
    | true => ckU2 (fun _ _ _ A B => (ckUDiv A B, [])) ckNoK σ
    | false => none
  | .irem => match ckPos σ with
    | true => ckU2 (fun _ _ _ A B => (ckURem A B, [])) ckNoK σ
    | false => none
  | .ineg => ckU1 ckUNeg σ
  | .i2b => ckNar (-128) 127 σ
  | .i2c => ckNar 0 65535 σ
  | .i2l => ckI2L σ
  | .l2i => ckL2I σ
  | .ladd => ckLAdd σ
  | .land => ckLL σ
  | .lor => ckLL σ
  | .lshl => ckLI σ
  | .lshr => ckLI σ
  | .lcmp => ckLcmpE σ
  | .dup => ckDup σ
  | .dup2 => ckDup2 σ
  | .pop => ckPop σ
  | .getfield _ => match Nat.beq a 900 with
    | true => ckLitF b σ
    | false => ckGetf a b σ
  | .putfield _ => ckPutf a b d σ
  | .getstatic _ => match Nat.ble a 3 with
    | true => some (ckPush (4, a) σ)
    | false => match Nat.beq a 900 with
      | true => ckConst 1 σ
      | false => none
  | .iaload => ckIald (Nat.beq a 1) σ
  | .baload => match ckLitB σ with
    | some τ => some τ
    | none => ckAld 2 false σ
  | .laload => ckLald σ
  | .iastore => ckAst 0 (Nat.beq a 1) σ
  | .bastore => ckAst 2 false σ
  | .lastore => ckLast σ
  | .arraylength => match ckLitL σ with
    | some τ => some τ
    | none => ckLen σ
  | .new _ => ckNew mc ms a (ks a) σ
  | .newarray _ => ckNewRow mc ms a σ
  | .invokestatic _ => match Nat.ble (ckWords σ.2.1) 40 with
    | false => none
    | true => match Nat.ble σ.2.2.2.2.2.2.2.2.1 mc with
      | false => none
      | true => match Nat.ble σ.2.2.2.2.2.2.2.2.2 ms with
        | false => none
        | true => match a with
          | 1000 => ckMM true σ
          | 1001 => ckMM false σ
          | 1002 => ckU1 ckUAbs σ
          | 1003 => ckCopy σ
          | _ => none
  | .invokespecial _ => match Nat.ble (ckWords σ.2.1) 40 with
    | false => none
    | true => match a with
      | 1004 => match ckTopR σ.2.1 with
        | some (_, r) => some (σ.1, r, σ.2.2)
        | none => none
      | _ => none
  | _ => none
-- one state told by another: the numbers and contents below nI, nF are the same, the further ones by the lists of pairs
noncomputable def ckPr (k : Nat) : List (Nat × Nat) → Nat
  | [] => 0
  | q :: r => match Nat.beq q.1 k with
    | true => q.2
    | false => ckPr k r
noncomputable def ckMp (n : Nat) (ps : List (Nat × Nat)) (v : Nat) : Nat := match Nat.ble (v + 1) n with
  | true => v
  | false => ckPr v ps
noncomputable def ckHasP (k : Nat) : List (Nat × Nat) → Bool
  | [] => false
  | q :: r => match Nat.beq q.1 k with
    | true => true
    | false => ckHasP k r
noncomputable def ckPut1 (n v w : Nat) (ps : List (Nat × Nat)) : List (Nat × Nat) := match Nat.ble (v + 1) n with
  | true => ps
  | false => match ckHasP v ps with
    | true => ps
    | false => (v, w) :: ps
-- pairs: of numbers, of contents, of cells
abbrev ckM : Type := List (Nat × Nat) × List (Nat × Nat) × List (Nat × Nat)
abbrev ckB : Type := Nat × Nat × Nat
noncomputable def ckUV (β : ckB) (t s : ckV) (μ : ckM) : ckM := match t.1 with
  | 0 => match s.1 with
    | 0 => (ckPut1 β.1 t.2 s.2 μ.1, μ.2)
    | _ => μ
  | 1 => match s.1 with
    | 1 => (μ.1, μ.2.1, ckPut1 β.2.2 t.2 s.2 μ.2.2)
    | _ => μ
  | _ => μ
noncomputable def ckUL (β : ckB) (Ls : List (Nat × ckV)) : List (Nat × ckV) → ckM → ckM
  | [], μ => μ
  | t :: r, μ => ckUL β Ls r (match ckLook t.1 Ls with
    | some s => ckUV β t.2 s μ
    | none => μ)
noncomputable def ckUVs (β : ckB) : List ckV → List ckV → ckM → ckM
  | t :: ts, s :: ss, μ => ckUVs β ts ss (ckUV β t s μ)
  | _, _, μ => μ
noncomputable def ckUO (β : ckB) (os : List (Nat × Nat)) : List (Nat × Nat) → ckM → ckM
  | [], μ => μ
  | q :: r, μ => ckUO β os r (match ckOv q.1 os with
    | some u => (ckPut1 β.1 q.2 u μ.1, μ.2)
    | none => μ)
noncomputable def ckUC (β : ckB) (t s : ckC) (μ : ckM) : ckM := match t with
  | .inl (_, ts) => match s with
    | .inl (_, ss) => ckUVs β ts ss μ
    | .inr _ => μ
  | .inr (_, ln, fv) => match s with
    | .inr (_, lm, fw) => (ckPut1 β.1 ln lm μ.1, ckPut1 β.2.1 fv fw μ.2.1, μ.2.2)
    | .inl _ => μ
noncomputable def ckUCs (β : ckB) (Cs : List ckC) : Nat → List ckC → ckM → ckM
  | _, [], μ => μ
  | k, t :: r, μ => ckUCs β Cs (k + 1) r (match Cs[ckMp β.2.2 μ.2.2 k]? with
    | some s => ckUC β t s μ
    | none => μ)
noncomputable def ckUGs (β : ckB) (Gs : List ckG) : Nat → List ckG → ckM → ckM
  | _, [], μ => μ
  | k, t :: r, μ => ckUGs β Gs (k + 1) r (match Nat.ble (k + 1) β.2.1 with
    | true => μ
    | false => match Gs[ckMp β.2.1 μ.2.1 k]? with
      | some s => ckUO β s.2.1 t.2.1 μ
      | none => μ)
noncomputable def ckUX (β : ckB) (Xs : List ckX) : List ckX → ckM → ckM
  | [], μ => μ
  | t :: r, μ => ckUX β Xs r (match ckXlook t.1 Xs with
    | some s => (ckPut1 β.1 t.2.1 s.1 μ.1, ckPut1 β.2.1 t.2.2 s.2 μ.2.1, μ.2.2)
    | none => μ)
noncomputable def ckUni (β : ckB) (σ τ : ckS) : ckM := match σ, τ with
  | (L, S, C, _, G, X, _, _, _, _), (L1, S1, C1, _, G1, X1, _, _, _, _) =>
    ckUGs β G 0 G1 (ckUX β X X1 (ckUCs β C 0 C1 (ckUVs β S1 S (ckUL β L L1 ([], [], [])))))
-- and the check of such pairs
noncomputable def ckAll {α : Type} (p : α → Bool) : List α → Bool
  | [] => true
  | a :: r => match p a with
    | true => ckAll p r
    | false => false
noncomputable def ckAllN {α : Type} (p : Nat → α → Bool) : Nat → List α → Bool
  | _, [] => true
  | k, a :: r => match p k a with
    | true => ckAllN p (k + 1) r
    | false => false
-- a number, contents or a cell of the told state, if there is one, by the pairs
noncomputable def ckAt1 (nt n : Nat) (ps : List (Nat × Nat)) (v : Nat) (k : Nat → Bool) : Bool := match Nat.ble (v + 1) nt with
  | true => k (ckMp n ps v)
  | false => false
-- ω: what a callee calls a row outside (10 and more) is a cell of the caller's, or another row outside
noncomputable def ckSame (β ν : ckB) (μ : ckM) (ω : List (Nat × ckV)) (T : List ckI) (Z : List ckZ) (t s : ckV) : Bool := match t.1 with
  | 0 => match s.1 with
    | 0 => ckAt1 ν.1 β.1 μ.1 t.2 (fun i => ckEq T Z i s.2)
    | _ => false
  | 1 => match s.1 with
    | 1 => ckAt1 ν.2.2 β.2.2 μ.2.2 t.2 (fun k => Nat.beq k s.2)
    | _ => false
  | 2 => Nat.beq s.1 2
  | 3 => Nat.beq s.1 3
  | 4 => match ckLook t.2 ω with
    | some q => match Nat.beq q.1 s.1 with
      | true => Nat.beq q.2 s.2
      | false => false
    | none => match Nat.beq s.1 4 with
      | true => Nat.beq t.2 s.2
      | false => false
  | 5 => true
  | _ => false
noncomputable def ckSames (β ν : ckB) (μ : ckM) (ω : List (Nat × ckV)) (T : List ckI) (Z : List ckZ) : List ckV → List ckV → Bool
  | [], [] => true
  | t :: ts, s :: ss => match ckSame β ν μ ω T Z t s with
    | true => ckSames β ν μ ω T Z ts ss
    | false => false
  | _, _ => false
noncomputable def ckSameC (β ν : ckB) (μ : ckM) (ω : List (Nat × ckV)) (T : List ckI) (Z : List ckZ) (t s : ckC) : Bool := match t with
  | .inl (ci, ts) => match s with
    | .inl (cj, ss) => match Nat.beq ci cj with
      | true => ckSames β ν μ ω T Z ts ss
      | false => false
    | .inr _ => false
  | .inr (u, ln, fv) => match s with
    | .inr (w, lm, fw) => match Nat.beq u w with
      | true => match ckAt1 ν.1 β.1 μ.1 ln (fun i => ckEq T Z i lm) with
        | true => match u with
          | 1 => true
          | _ => ckAt1 ν.2.1 β.2.1 μ.2.1 fv (fun k => Nat.beq k fw)
        | false => false
      | false => false
    | .inl _ => false
noncomputable def ckInc (A B : ckI) : Bool := match ckLe0 B.1 A.1 with
  | true => ckLe0 A.2 B.2
  | false => false
noncomputable def ckSegIn (ss : List (Nat × ckI)) : Nat → List (Nat × ckI) → Bool
  | _, [] => true
  | s, (u, w) :: r => match Nat.ble (s + 1) u with
    | false => ckSegIn ss u r
    | true => match ckHull s (u - 1) 0 ss with
      | none => ckSegIn ss u r
      | some h => match ckInc h w with
        | true => ckSegIn ss u r
        | false => false
noncomputable def ckGIn (β ν : ckB) (μ : ckM) (T : List ckI) (Z : List ckZ) (t s : ckG) : Bool := match t.2.2 with
  | [] => match ckSegIn s.1 0 t.1 with
    | true => ckAll (fun q => match ckOv q.1 s.2.1 with
      | some u => ckAt1 ν.1 β.1 μ.1 q.2 (fun i => ckEq T Z i u)
      | none => false) t.2.1
    | false => false
  | _ :: _ => false
noncomputable def ckInts : List Int → List Int → Bool
  | [], [] => true
  | a :: r, b :: q => match ckLe0 a b with
    | true => match ckLe0 b a with
      | true => ckInts r q
      | false => false
    | false => false
  | _, _ => false
noncomputable def ckKeq (β ν : ckB) (μ : ckM) (T : List ckI) (Z : List ckZ) (t s : ckK) : Bool := match Nat.beq t.1 s.1 with
  | false => false
  | true => match t.1 with
    | 0 => match t.2.2.2.2, s.2.2.2.2 with
      | [a, b, c], [a1, b1, c1] => match ckAt1 ν.1 β.1 μ.1 t.2.1 (fun i => ckEq T Z i s.2.1) with
        | true => match ckAt1 ν.1 β.1 μ.1 t.2.2.1 (fun i => ckEq T Z i s.2.2.1) with
          | true => match ckLe0 a a1 with
            | true => match ckLe0 a1 a with
              | true => match ckLe0 b b1 with
                | true => ckLe0 c1 c
                | false => false
              | false => false
            | false => false
          | false => false
        | false => false
      | _, _ => false
    | 1 => ckAt1 ν.2.1 β.2.1 μ.2.1 t.2.1 (fun i => Nat.beq i s.2.1)
    | 2 => match ckAt1 ν.2.1 β.2.1 μ.2.1 t.2.1 (fun i => Nat.beq i s.2.1) with
      | true => match ckAt1 ν.2.1 β.2.1 μ.2.1 t.2.2.1 (fun i => Nat.beq i s.2.2.1) with
        | true => ckAt1 ν.2.1 β.2.1 μ.2.1 t.2.2.2.1 (fun i => Nat.beq i s.2.2.2.1)
        | false => false
      | false => false
    | 6 => match ckAt1 ν.2.1 β.2.1 μ.2.1 t.2.1 (fun i => Nat.beq i s.2.1) with
      | true => match ckAt1 ν.2.1 β.2.1 μ.2.1 t.2.2.1 (fun i => Nat.beq i s.2.2.1) with
        | true => ckAt1 ν.1 β.1 μ.1 t.2.2.2.1 (fun i => ckEq T Z i s.2.2.2.1)
        | false => false
      | false => false
    | 7 => match ckAt1 ν.1 β.1 μ.1 t.2.1 (fun i => ckEq T Z i s.2.1) with
      | true => match ckAt1 ν.1 β.1 μ.1 t.2.2.1 (fun i => ckEq T Z i s.2.2.1) with
        | true => ckAt1 ν.1 β.1 μ.1 t.2.2.2.1 (fun i => ckEq T Z i s.2.2.2.1)
        | false => false
      | false => false
    | 8 => match ckAt1 ν.1 β.1 μ.1 t.2.1 (fun i => ckEq T Z i s.2.1) with
      | true => match ckAt1 ν.1 β.1 μ.1 t.2.2.1 (fun i => ckEq T Z i s.2.2.1) with
        | true => ckInts t.2.2.2.2 s.2.2.2.2
        | false => false
      | false => false
    | _ => false
noncomputable def ckAny {α : Type} (p : α → Bool) : List α → Bool
  | [] => false
  | a :: r => match p a with
    | true => true
    | false => ckAny p r
noncomputable def ckChk (β : ckB) (μ : ckM) (ω : List (Nat × ckV)) (σ τ : ckS) : Bool := match σ, τ with
  | (L, S, C, T, G, X, Z, K, _, _), (L1, S1, C1, T1, G1, X1, Z1, K1, _, _) => match (T1.length, G1.length, C1.length) with
    | ν => match ckAll (fun t => match ckLook t.1 L with
      | some s => ckSame β ν μ ω T Z t.2 s
      | none => false) L1 with
      | false => false
      | true => match ckSames β ν μ ω T Z S1 S with
        | false => false
        | true => match ckAllN (fun k t => match C[ckMp β.2.2 μ.2.2 k]? with
          | some s => ckSameC β ν μ ω T Z t s
          | none => false) 0 C1 with
          | false => false
          | true => match ckAllN (fun k w => match Nat.ble (ckMp β.1 μ.1 k + 1) T.length with
            | true => ckInc (ckIv Z T (ckMp β.1 μ.1 k)) w
            | false => false) 0 T1 with
            | false => false
            | true => match ckAllN (fun k t => match G[ckMp β.2.1 μ.2.1 k]? with
              | some s => ckGIn β ν μ T Z t s
              | none => false) 0 G1 with
              | false => false
              | true => match ckAll (fun t => match ckXlook t.1 X with
                | some s => match ckAt1 ν.1 β.1 μ.1 t.2.1 (fun i => ckEq T Z i s.1) with
                  | true => ckAt1 ν.2.1 β.2.1 μ.2.1 t.2.2 (fun i => Nat.beq i s.2)
                  | false => false
                | none => false) X1 with
                | false => false
                | true => match ckAll (fun z => ckAt1 ν.1 β.1 μ.1 z.1 (fun i => ckAt1 ν.1 β.1 μ.1 z.2.1 (fun j => ckLeq T Z i j z.2.2))) Z1 with
                  | false => false
                  | true => ckAll (fun t => ckAny (fun s => ckKeq β ν μ T Z t s) K) K1
-- the same where the cells keep their places
noncomputable def ckUCz (β : ckB) : List ckC → List ckC → ckM → ckM
  | t :: r, s :: q, μ => ckUCz β r q (ckUC β t s μ)
  | _, _, μ => μ
noncomputable def ckUniZ (β : ckB) (σ τ : ckS) : ckM := match σ, τ with
  | (L, S, C, _, G, X, _, _, _, _), (L1, S1, C1, _, G1, X1, _, _, _, _) =>
    ckUGs β G 0 G1 (ckUX β X X1 (ckUCz β C1 C (ckUVs β S1 S (ckUL β L L1 ([], [], [])))))
noncomputable def ckAll2 {α β : Type} (p : α → β → Bool) : List α → List β → Bool
  | [], _ => true
  | a :: r, b :: q => match p a b with
    | true => ckAll2 p r q
    | false => false
  | _ :: _, [] => false
noncomputable def ckChkZ (β : ckB) (μ : ckM) (σ τ : ckS) : Bool := match σ, τ with
  | (L, S, C, T, G, X, Z, K, _, _), (L1, S1, C1, T1, G1, X1, Z1, K1, _, _) => match (T1.length, G1.length, C1.length) with
    | ν => match ckAll (fun t => match ckLook t.1 L with
      | some s => ckSame β ν μ [] T Z t.2 s
      | none => false) L1 with
      | false => false
      | true => match ckSames β ν μ [] T Z S1 S with
        | false => false
        | true => match ckAll2 (fun t s => ckSameC β ν μ [] T Z t s) C1 C with
          | false => false
          | true => match ckAllN (fun k w => match Nat.ble (ckMp β.1 μ.1 k + 1) T.length with
            | true => ckInc (ckIv Z T (ckMp β.1 μ.1 k)) w
            | false => false) 0 T1 with
            | false => false
            | true => match ckAllN (fun k t => match G[ckMp β.2.1 μ.2.1 k]? with
              | some s => ckGIn β ν μ T Z t s
              | none => false) 0 G1 with
              | false => false
              | true => match ckAll (fun t => match ckXlook t.1 X with
                | some s => match ckAt1 ν.1 β.1 μ.1 t.2.1 (fun i => ckEq T Z i s.1) with
                  | true => ckAt1 ν.2.1 β.2.1 μ.2.1 t.2.2 (fun i => Nat.beq i s.2)
                  | false => false
                | none => false) X1 with
                | false => false
                | true => match ckAll (fun z => ckAt1 ν.1 β.1 μ.1 z.1 (fun i => ckAt1 ν.1 β.1 μ.1 z.2.1 (fun j => ckLeq T Z i j z.2.2))) Z1 with
                  | false => false
                  | true => ckAll (fun t => ckAny (fun s => ckKeq β ν μ T Z t s) K) K1
-- a state out of another: new locals and stack, cells changed and added, bounds narrowed, numbers and contents added
abbrev ckD : Type := List (Nat × ckV) × List ckV × List (Nat × ckC) × List ckC × List (Nat × ckI) × List ckI × List ckG × List ckX × List ckZ × List ckK × Nat × Nat
noncomputable def ckSets {α : Type} : List (Nat × α) → List α → List α
  | [], l => l
  | q :: r, l => ckSets r (l.set q.1 q.2)
noncomputable def ckClr : List ckG → List ckG
  | [] => []
  | g :: r => (g.1, g.2.1, []) :: ckClr r
noncomputable def ckMk (δ : ckD) (σ : ckS) : ckS := match δ, σ with
  | (L1, S1, cs, cn, ts, tn, gn, X1, Z1, K1, nc1, ns1), (_, _, C, T, G, _, _, _, _, _) => (L1, S1, ckSets cs C ++ cn, ckSets ts T ++ tn, ckClr G ++ gn, X1, Z1, K1, nc1, ns1)
-- a cut: where, the state told there, the numbers and contents that are fixed in it; 0 a meeting, 1 a loop whose number grows, 2 a loop whose number falls; that number
abbrev ckCut : Type := Nat × ckS × Nat × Nat × Nat × Nat
noncomputable def ckCutAt (pc : Nat) : List ckCut → Option ckCut
  | [] => none
  | c :: r => match Nat.beq c.1 pc with
    | true => some c
    | false => ckCutAt pc r
-- the number of a loop has moved
noncomputable def ckMoved (kd v : Nat) (μ : ckM) (n nt : Nat) (T : List ckI) (Z : List ckZ) : Bool := match kd with
  | 0 => true
  | 1 => match Nat.ble (v + 1) nt with
    | true => ckLeq T Z v (ckMp n μ.1 v) (-1)
    | false => false
  | _ => match Nat.ble (v + 1) nt with
    | true => ckLeq T Z (ckMp n μ.1 v) v (-1)
    | false => false
noncomputable def ckLenEq {α β : Type} : List α → List β → Bool
  | [], [] => true
  | _ :: r, _ :: t => ckLenEq r t
  | _, _ => false
noncomputable def ckArrive (c : ckCut) (σ : ckS) : Bool := match ckUniZ (c.2.2.1, c.2.2.2.1, σ.2.2.1.length) σ c.2.1 with
  | μ => match ckLenEq c.2.1.2.2.1 σ.2.2.1 with
    | false => false
    | true => match Nat.ble c.2.2.1 c.2.1.2.2.2.1.length with
      | false => false
      | true => match Nat.ble c.2.2.2.1 c.2.1.2.2.2.2.1.length with
        | false => false
        | true => match ckMoved c.2.2.2.2.1 c.2.2.2.2.2 μ c.2.2.1 c.2.1.2.2.2.1.length σ.2.2.2.1 σ.2.2.2.2.2.2.1 with
          | false => false
          | true => match ckChkZ (c.2.2.1, c.2.2.2.1, σ.2.2.1.length) μ σ c.2.1 with
            | false => false
            | true => match σ, c.2.1 with
              | (_, _, _, _, _, _, _, _, nc, ns), (_, _, _, _, _, _, _, _, nc1, ns1) => match Nat.ble nc nc1 with
                | true => Nat.ble ns ns1
                | false => false
-- what a method gives: its number, the state that it asks for (arguments as locals), the states that it ends in; frames, words, cells, slots
abbrev ckCtr : Type := Nat × ckS × List ckD × Nat × Nat × Nat × Nat
noncomputable def ckNod : List Nat → Bool
  | [] => true
  | a :: r => match ckAny (fun b => Nat.beq a b) r with
    | true => false
    | false => ckNod r
noncomputable def ckTr (n t : Nat) (ps : List (Nat × Nat)) (v : Nat) : Nat := match Nat.ble (v + 1) n with
  | true => ckPr v ps
  | false => t + (v - n)
noncomputable def ckTrV (nI nC tI tC : Nat) (μ : ckM) (ω : List (Nat × ckV)) (q : ckV) : ckV := match q.1 with
  | 0 => (0, ckTr nI tI μ.1 q.2)
  | 1 => (1, ckTr nC tC μ.2.2 q.2)
  | 4 => match ckLook q.2 ω with
    | some p => p
    | none => q
  | 6 => (5, 0)
  | 7 => (5, 0)
  | _ => q
noncomputable def ckMapV (f : ckV → ckV) : List ckV → List ckV
  | [] => []
  | q :: r => f q :: ckMapV f r
noncomputable def ckTrC (nI nF nC tI tF tC : Nat) (μ : ckM) (ω : List (Nat × ckV)) (c : ckC) : ckC := match c with
  | .inl (ci, fs) => .inl (ci, ckMapV (ckTrV nI nC tI tC μ ω) fs)
  | .inr (t, ln, fv) => .inr (t, ckTr nI tI μ.1 ln, ckTr nF tF μ.2.1 fv)
noncomputable def ckTrO (nI tI : Nat) (ps : List (Nat × Nat)) : List (Nat × Nat) → List (Nat × Nat)
  | [] => []
  | q :: r => (q.1, ckTr nI tI ps q.2) :: ckTrO nI tI ps r
noncomputable def ckTrG (nI tI : Nat) (ps : List (Nat × Nat)) : List ckG → List ckG
  | [] => []
  | g :: r => (g.1, ckTrO nI tI ps g.2.1, []) :: ckTrG nI tI ps r
noncomputable def ckMapC (f : ckC → ckC) : List ckC → List ckC
  | [] => []
  | q :: r => f q :: ckMapC f r
-- the cells behind a call: those of the callee by the pairs, then new ones
noncomputable def ckSetN {α : Type} (ps : List (Nat × Nat)) : Nat → List α → List α → List α
  | _, [], l => l
  | k, a :: r, l => ckSetN ps (k + 1) r (l.set (ckPr k ps) a)
noncomputable def ckPlc {α : Type} (n : Nat) (ps : List (Nat × Nat)) (w l : List α) : List α := ckSetN ps 0 (w.take n) l ++ w.drop n
noncomputable def ckTrT (Z : List ckZ) (ps : List (Nat × Nat)) (T2 : List ckI) : List (Nat × ckI) → List ckI → Option (List ckI)
  | [], T => some T
  | q :: r, T => match ckLim T Z (ckPr q.1 ps) (T2.getD q.1 ckTop).1 (T2.getD q.1 ckTop).2 with
    | none => none
    | some T1 => ckTrT Z ps T2 r T1
noncomputable def ckTrZ (nI tI : Nat) (ps : List (Nat × Nat)) : List ckZ → List ckZ
  | [] => []
  | z :: r => (ckTr nI tI ps z.1, ckTr nI tI ps z.2.1, z.2.2) :: ckTrZ nI tI ps r
noncomputable def ckTrK (nI nF tI tF : Nat) (μ : ckM) : List ckK → List ckK
  | [] => []
  | k :: r => match k.1 with
    | 0 => (0, ckTr nI tI μ.1 k.2.1, ckTr nI tI μ.1 k.2.2.1, 0, k.2.2.2.2) :: ckTrK nI nF tI tF μ r
    | 1 => (1, ckTr nF tF μ.2.1 k.2.1, 0, 0, []) :: ckTrK nI nF tI tF μ r
    | 2 => (2, ckTr nF tF μ.2.1 k.2.1, ckTr nF tF μ.2.1 k.2.2.1, ckTr nF tF μ.2.1 k.2.2.2.1, []) :: ckTrK nI nF tI tF μ r
    | _ => ckTrK nI nF tI tF μ r
noncomputable def ckNxt (k : Nat) (q : ckV) : Nat := match q.1 with
  | 2 => k + 2
  | _ => k + 1
noncomputable def ckArgs : Nat → List ckV → List (Nat × ckV)
  | _, [] => []
  | k, q :: r => (k, q) :: ckArgs (ckNxt k q) r
-- the arguments of a call are numbers, cells, rows outside or longs
noncomputable def ckArgOk (q : ckV) : Bool := match ckOne q with
  | true => true
  | false => Nat.beq q.1 2
noncomputable def ckOV (t s : ckV) (ω : List (Nat × ckV)) : List (Nat × ckV) := match t.1 with
  | 4 => match Nat.ble 10 t.2 with
    | false => ω
    | true => match ckLook t.2 ω with
      | some _ => ω
      | none => (t.2, s) :: ω
  | _ => ω
noncomputable def ckOL (Ls : List (Nat × ckV)) : List (Nat × ckV) → List (Nat × ckV) → List (Nat × ckV)
  | [], ω => ω
  | t :: r, ω => ckOL Ls r (match ckLook t.1 Ls with
    | some s => ckOV t.2 s ω
    | none => ω)
noncomputable def ckOVs : List ckV → List ckV → List (Nat × ckV) → List (Nat × ckV)
  | t :: ts, s :: ss, ω => ckOVs ts ss (ckOV t s ω)
  | _, _, ω => ω
noncomputable def ckOCs (ps : List (Nat × Nat)) (Cs : List ckC) : Nat → List ckC → List (Nat × ckV) → List (Nat × ckV)
  | _, [], ω => ω
  | k, t :: r, ω => ckOCs ps Cs (k + 1) r (match t with
    | .inl (_, ts) => match Cs[ckPr k ps]? with
      | some (.inl (_, ss)) => ckOVs ts ss ω
      | _ => ω
    | .inr _ => ω)
noncomputable def ckOk1 (n : Nat) (p : Nat × ckV) : Bool := match Nat.ble 10 p.1 with
  | false => false
  | true => match p.2.1 with
    | 1 => Nat.ble (p.2.2 + 1) n
    | 4 => true
    | _ => false
-- a first look: the arguments' bounds
noncomputable def ckFitA (Z : List ckZ) (T T0 : List ckI) (As : List (Nat × ckV)) : List (Nat × ckV) → Bool
  | [] => true
  | t :: r => match t.2.1 with
    | 0 => match ckLook t.1 As with
      | none => false
      | some s => match s.1 with
        | 0 => match ckInc (ckIv Z T s.2) (ckTd T0 t.2.2) with
          | true => ckFitA Z T T0 As r
          | false => false
        | _ => false
    | _ => ckFitA Z T T0 As r
-- a call: the pairs, and what is left on the stack (n arguments, d words at most)
noncomputable def ckEnter (κ : ckCtr) (n d : Nat) (σ : ckS) : Option (ckM × List (Nat × ckV) × List ckV) := match σ with
  | (_, S, C, T, G, X, Z, K, nc, ns) => match Nat.ble n S.length with
    | false => none
    | true => match ckAll ckArgOk (S.take n) with
      | false => none
      | true => match Nat.ble (ckWords (S.take n)) d with
        | false => none
        | true => match ckFitA Z T κ.2.1.2.2.2.1 (ckArgs 0 (S.take n).reverse) κ.2.1.1 with
        | false => none
        | true => match ckUni (0, 0, 0) (ckArgs 0 (S.take n).reverse, [], C, T, G, X, Z, K, nc, ns) κ.2.1 with
          | μ => match ckOCs μ.2.2 C 0 κ.2.1.2.2.1 (ckOL (ckArgs 0 (S.take n).reverse) κ.2.1.1 []) with
          | ω => match ckAll (ckOk1 C.length) ω with
          | false => none
          | true => match ckChk (0, 0, 0) μ ω (ckArgs 0 (S.take n).reverse, [], C, T, G, X, Z, K, nc, ns) κ.2.1 with
            | false => none
            | true => match ckNod ((List.range κ.2.1.2.2.1.length).map (fun k => ckPr k μ.2.2)) with
              | false => none
              | true => match Nat.ble (ckWords (S.drop n)) 8 with
                | false => none
                | true => some (μ, ω, S.drop n)
-- the state behind it, by one of the callee's ends; none: it can't be
noncomputable def ckLeave (κ : ckCtr) (μ : ckM) (ω : List (Nat × ckV)) (rest : List ckV) (δ : ckD) (σ : ckS) : Option ckS := match σ, κ.2.1, δ with
  | (L, _, C, T, G, X, Z, K, nc, ns), (_, _, C0, T0, G0, _, _, _, _, _), (_, S1, cs, cn, ts, tn, gn, _, Z1, K1, _, _) => match ckTrT Z μ.1 (ckSets ts T0) ts T with
    | none => none
    | some T1 => some (L, ckMapV (ckTrV T0.length C0.length T.length C.length μ ω) S1 ++ rest, ckPlc C0.length μ.2.2 (ckMapC (ckTrC T0.length G0.length C0.length T.length G.length C.length μ ω) (ckSets cs C0 ++ cn)) C, T1 ++ tn, G ++ ckTrG T0.length T.length μ.1 gn, X, ckTrZ T0.length T.length μ.1 Z1 ++ Z, ckTrK T0.length G0.length T.length G.length μ K1 ++ K, nc + κ.2.2.2.2.2.1, ns + κ.2.2.2.2.2.2)
-- what is done at a place, ahead of its instruction, by the state's key: (kind, place 2, number 2, the new state): kind 0 a meeting at place 2; 1, 2 a loop here, by the number told by its place among the new ones; 3 the number of local place 2 is at most the bound told, or more
abbrev ckAct : Type := Nat × Nat × Nat × ckD
abbrev ckAs : Type := List (Nat × List (Nat × List ckAct))
-- a key of a state, by its bounds
noncomputable def ckHash : List ckI → Nat → Nat
  | [], h => h
  | w :: r, h => ckHash r ((h * 31 + (w.1 + 2147483648).toNat * 7 + (w.2 + 2147483648).toNat) % 1000003)
noncomputable def ckFilt (k : Nat) : List (Nat × List ckAct) → List ckAct
  | [] => []
  | a :: r => match Nat.beq a.1 k with
    | true => a.2
    | false => ckFilt k r
noncomputable def ckKeyed (σ : ckS) (as : List (Nat × List ckAct)) : List ckAct := match as with
  | [] => []
  | a :: r => ckFilt (ckHash σ.2.2.2.1 (σ.2.2.2.2.1.length * 1000 + σ.2.2.2.2.2.2.1.length)) (a :: r)
noncomputable def ckActs (pc : Nat) : ckAs → List (Nat × List ckAct)
  | [] => []
  | a :: r => match Nat.beq a.1 pc with
    | true => a.2
    | false => ckActs pc r
noncomputable def ckCtrs (pc : Nat) : List (Nat × ckCtr) → List ckCtr
  | [] => []
  | a :: r => match Nat.beq a.1 pc with
    | true => a.2 :: ckCtrs pc r
    | false => ckCtrs pc r
noncomputable def ckAtPc (pc : Nat) : List ckEn → Option (Instr × Nat × Nat × Nat)
  | [] => none
  | e :: r => match Nat.beq e.1 pc with
    | true => some e.2
    | false => ckAtPc pc r
noncomputable def ckTo (pc : Nat) (off : Int) : Nat := ((pc : Int) + off).toNat
noncomputable def ckToOk (pc : Nat) (off : Int) : Bool := ckLe0 0 ((pc : Int) + off)
noncomputable def ckUpT (σ : ckS) (T1 : List ckI) (r : List ckV) : ckS := match σ with
  | (L, _, C, _, G, X, Z, K, nc, ns) => (L, r, C, T1, G, X, Z, K, nc, ns)
noncomputable def ckUpZ (σ : ckS) (T1 : List ckI) (Z1 : List ckZ) (r : List ckV) : ckS := match σ with
  | (L, _, C, _, G, X, _, K, nc, ns) => (L, r, C, T1, G, X, Z1, K, nc, ns)
noncomputable def ckO (σ : ckS) (r : List ckV) (o : Option (List ckI)) (go : ckS → Bool) : Bool := match o with
  | none => true
  | some T1 => go (ckUpT σ T1 r)
noncomputable def ckOz (σ : ckS) (r : List ckV) (o : Option (List ckI × List ckZ)) (go : ckS → Bool) : Bool := match o with
  | none => true
  | some (T1, Z1) => go (ckUpZ σ T1 Z1 r)
noncomputable def ckEq2 (T : List ckI) (Z : List ckZ) (a b : Nat) : Option (List ckI × List ckZ) := match ckAdd T Z a b 0 with
  | none => none
  | some (T1, Z1) => ckAdd T1 Z1 b a 0
noncomputable def ckBoth (x y : Bool) : Bool := match x with
  | true => y
  | false => false
-- both ways of a test: y where it holds, n where it doesn't
noncomputable def ckIf (cd : ClassFile.Cond) (σ : ckS) (y n : ckS → Bool) : Bool := match σ with
  | (_, S, _, T, _, _, Z, _, _, _) => match ckTopI S with
    | none => false
    | some (a, r) => match cd with
      | .eq => ckBoth (ckO σ r (ckLim T Z a 0 0) y) (ckO σ r (ckNec T Z a 0) n)
      | .ne => ckBoth (ckO σ r (ckNec T Z a 0) y) (ckO σ r (ckLim T Z a 0 0) n)
      | .lt => ckBoth (ckO σ r (ckLim T Z a (-2147483648) (-1)) y) (ckO σ r (ckLim T Z a 0 2147483647) n)
      | .ge => ckBoth (ckO σ r (ckLim T Z a 0 2147483647) y) (ckO σ r (ckLim T Z a (-2147483648) (-1)) n)
      | .gt => ckBoth (ckO σ r (ckLim T Z a 1 2147483647) y) (ckO σ r (ckLim T Z a (-2147483648) 0) n)
      | .le => ckBoth (ckO σ r (ckLim T Z a (-2147483648) 0) y) (ckO σ r (ckLim T Z a 1 2147483647) n)
noncomputable def ckIcmp (cd : ClassFile.Cond) (σ : ckS) (y n : ckS → Bool) : Bool := match σ with
  | (_, S, _, T, _, _, Z, _, _, _) => match ckTopI S with
    | none => false
    | some (b, r) => match ckTopI r with
      | none => false
      | some (a, r) => match cd with
        | .eq => ckBoth (ckOz σ r (ckEq2 T Z a b) y) (ckO σ r (ckNe T Z a b) n)
        | .ne => ckBoth (ckO σ r (ckNe T Z a b) y) (ckOz σ r (ckEq2 T Z a b) n)
        | .lt => ckBoth (ckOz σ r (ckAdd T Z a b (-1)) y) (ckOz σ r (ckAdd T Z b a 0) n)
        | .ge => ckBoth (ckOz σ r (ckAdd T Z b a 0) y) (ckOz σ r (ckAdd T Z a b (-1)) n)
        | .gt => ckBoth (ckOz σ r (ckAdd T Z b a (-1)) y) (ckOz σ r (ckAdd T Z a b 0) n)
        | .le => ckBoth (ckOz σ r (ckAdd T Z a b 0) y) (ckOz σ r (ckAdd T Z b a (-1)) n)
noncomputable def ckSw (T : List ckI) (Z : List ckZ) (σ : ckS) (a : Nat) (r : List ckV) (go : Int → ckS → Bool) : Int → List Int → Bool
  | _, [] => true
  | v, o :: os => match ckO σ r (ckLim T Z a v v) (go o) with
    | true => ckSw T Z σ a r go (v + 1) os
    | false => false
noncomputable def ckTable (d lo hi : Int) (offs : List Int) (σ : ckS) (go : Int → ckS → Bool) : Bool := match σ with
  | (_, S, _, T, _, _, Z, _, _, _) => match ckTopI S with
    | none => false
    | some (a, r) => match ckO σ r (ckLim T Z a (-2147483648) (lo - 1)) (go d) with
      | false => false
      | true => match ckO σ r (ckLim T Z a (hi + 1) 2147483647) (go d) with
        | false => false
        | true => match ckLe0 (hi + 1) (lo + offs.length) with
          | true => ckSw T Z σ a r go lo offs
          | false => false
-- a call at a place, by the first of the methods told that fits
-- the receiver is of the method's own kind
noncomputable def ckRv (ci : Nat) (κ : ckCtr) : Bool := match ckLook 0 κ.2.1.1 with
  | none => false
  | some q => match Nat.beq ci 900 with
    | true => match Nat.beq q.1 4 with
      | false => false
      | true => Nat.beq q.2 5
    | false => match Nat.beq q.1 1 with
      | false => false
      | true => match κ.2.1.2.2.1[q.2]? with
        | some (.inl (cj, _)) => Nat.beq cj ci
        | _ => false
noncomputable def ckCalls (rv : ckCtr → Bool) (mid n d fr wd mc ms : Nat) (σ : ckS) (go : ckS → Bool) : List ckCtr → Bool
  | [] => false
  | κ :: r => match Nat.beq κ.1 mid with
    | false => ckCalls rv mid n d fr wd mc ms σ go r
    | true => match ckEnter κ n d σ with
      | none => ckCalls rv mid n d fr wd mc ms σ go r
      | some (μ, ω, rest) => match rv κ with
        | false => false
        | true => match Nat.ble (κ.2.2.2.1 + 1) fr with
        | false => false
        | true => match Nat.ble (κ.2.2.2.2.1 + (19 + d)) wd with
          | false => false
          | true => match σ with
            | (_, _, _, _, _, _, _, _, nc, ns) => match Nat.ble (nc + κ.2.2.2.2.2.1) mc with
              | false => false
              | true => match Nat.ble (ns + κ.2.2.2.2.2.2) ms with
                | false => false
                | true => ckAll (fun δ => match ckAll (fun q => Nat.ble (q.1 + 1) κ.2.1.2.2.2.1.length) δ.2.2.2.2.1 with
                  | false => false
                  | true => match ckLeave κ μ ω rest δ σ with
                    | none => true
                    | some τ => go τ) κ.2.2.1
noncomputable def ckSplit (T : List ckI) (Z : List ckZ) (v : Nat) (c : Int) (σ : ckS) (go : ckS → Bool) : Bool :=
  match ckO σ σ.2.1 (ckLim T Z v (-2147483648) c) go with
  | false => false
  | true => ckO σ σ.2.1 (ckLim T Z v (c + 1) 2147483647) go
noncomputable def ckNx (j : Nat) : Nat := match j with
  | 0 => 2
  | k + 1 => k + 2
-- DERIVATIONS: facts out of facts; l: the numbers of what is spoken of
noncomputable def ckA (l : List Int) (k : Nat) : Nat := (l.getD k 0).toNat
noncomputable def ckKsm (s k : ckK) : Bool := match Nat.beq s.1 k.1 with
  | false => false
  | true => match Nat.beq s.2.1 k.2.1 with
    | false => false
    | true => match Nat.beq s.2.2.1 k.2.2.1 with
      | false => false
      | true => match Nat.beq s.2.2.2.1 k.2.2.2.1 with
        | false => false
        | true => ckInts s.2.2.2.2 k.2.2.2.2
noncomputable def ckHasK (K : List ckK) (k : ckK) : Bool := ckAny (fun s => ckKsm s k) K
noncomputable def ckCst (T : List ckI) (Z : List ckZ) (n : Nat) (v : Int) : Bool := match ckLe0 v (ckIv Z T n).1 with
  | true => ckLe0 (ckIv Z T n).2 v
  | false => false
noncomputable def ckWin (T : List ckI) (Z : List ckZ) (n : Nat) (lo hi : Int) : Bool := match ckLe0 lo (ckIv Z T n).1 with
  | true => ckLe0 (ckIv Z T n).2 hi
  | false => false
noncomputable def ckAnd : List Bool → Bool
  | [] => true
  | b :: r => match b with
    | true => ckAnd r
    | false => false
-- number i is 77, four times number q, and off
noncomputable def ckAff (T : List ckI) (Z : List ckZ) (K : List ckK) (q m c4 s c77 i co : Nat) (off : Int) : Bool := ckAnd [ckHasK K (5, m, c4, q, [1]), ckCst T Z c4 4, ckHasK K (5, s, c77, m, [0]), ckCst T Z c77 77, ckWin T Z q 0 29, ckHasK K (5, i, s, co, [0]), ckCst T Z co off]
-- the same, where i is the sum itself
noncomputable def ckAf0 (T : List ckI) (Z : List ckZ) (K : List ckK) (q m c4 s c77 : Nat) : Bool := ckAnd [ckHasK K (5, m, c4, q, [1]), ckCst T Z c4 4, ckHasK K (5, s, c77, m, [0]), ckCst T Z c77 77, ckWin T Z q 0 29]
noncomputable def ckAfx (T : List ckI) (Z : List ckZ) (K : List ckK) (q m c4 s c77 i co : Nat) (off : Int) : Bool := match Nat.beq i s with
  | true => match ckAf0 T Z K q m c4 s c77 with
    | true => ckLe0 off 0
    | false => false
  | false => ckAff T Z K q m c4 s c77 i co off
-- kind 0 tells a word, kind 1 a place: by bounds
noncomputable def ckRgo (T : List ckI) (Z : List ckZ) (x0 x1 x2 : Nat) : Bool := match (match ckLe0 1 (ckIv Z T x0).1 with
    | true => true
    | false => match ckLe0 (ckIv Z T x0).2 (-1) with
      | true => true
      | false => ckWin T Z x1 0 47) with
  | false => false
  | true => match ckLe0 2 (ckIv Z T x0).1 with
    | true => true
    | false => match ckLe0 (ckIv Z T x0).2 0 with
      | true => true
      | false => ckWin T Z x2 0 47
noncomputable def ckBlk (T : List ckI) (Z : List ckZ) (K : List ckK) (a : Nat → Nat) : Bool := match ckAnd [ckHasK K (1, a 22, 0, 0, []),
    ckAfx T Z K (a 0) (a 1) (a 2) (a 3) (a 4) (a 5) (a 6) 0, ckHasK K (3, a 23, a 22, a 5, [.ofNat (a 7)]),
    ckAfx T Z K (a 0) (a 8) (a 9) (a 10) (a 11) (a 12) (a 13) 1, ckHasK K (3, a 24, a 23, a 12, [.ofNat (a 14)]),
    ckAfx T Z K (a 0) (a 15) (a 16) (a 17) (a 18) (a 19) (a 20) 2, ckHasK K (3, a 25, a 24, a 19, [.ofNat (a 21)])] with
  | false => false
  | true => match ckRgo T Z (a 7) (a 14) (a 21) with
    | true => true
    | false => ckAnd [ckAfx T Z K (a 27) (a 28) (a 29) (a 30) (a 31) (a 32) (a 33) 0, ckHasK K (4, a 22, a 32, a 7, []),
      ckAfx T Z K (a 27) (a 28) (a 29) (a 30) (a 31) (a 34) (a 35) 1, ckHasK K (4, a 23, a 34, a 14, []),
      ckAfx T Z K (a 27) (a 28) (a 29) (a 30) (a 31) (a 36) (a 37) 2, ckHasK K (4, a 24, a 36, a 21, [])]
noncomputable def ckIf1 (b : Bool) (k : ckK) : Option ckK := match b with
  | true => some k
  | false => none
-- 1 a block of four is moved or written; 2 its fourth; 3, 4 what a block's kind says of the next two; 5 an ask is written; 6, 7 what an ask's kind says; 8, 9 equal up to a place; 10, 11 a sum's bound; 12, 13 a multiple's bound; 14 commands that are nothing yet, 15 asks
noncomputable def ckDer (σ : ckS) (rule : Nat) (l : List Int) : Option ckK := match σ with
  | (_, _, _, T, G, _, Z, K, _, _) => match rule with
    | 1 => ckIf1 (ckBlk T Z K (ckA l)) (1, ckA l 25, 0, 0, [])
    | 2 => ckIf1 (ckAnd [ckHasK K (1, ckA l 7, 0, 0, []), ckAfx T Z K (ckA l 0) (ckA l 1) (ckA l 2) (ckA l 3) (ckA l 4) (ckA l 5) (ckA l 6) 3, ckHasK K (3, ckA l 8, ckA l 7, ckA l 5, [.ofNat (ckA l 9)])]) (1, ckA l 8, 0, 0, [])
    | 3 => ckIf1 (ckAnd [ckHasK K (1, ckA l 9, 0, 0, []), ckAfx T Z K (ckA l 0) (ckA l 1) (ckA l 2) (ckA l 3) (ckA l 4) (ckA l 5) (ckA l 6) 0, ckAfx T Z K (ckA l 0) (ckA l 1) (ckA l 2) (ckA l 3) (ckA l 4) (ckA l 7) (ckA l 8) 1, ckHasK K (4, ckA l 9, ckA l 5, ckA l 10, []), ckHasK K (4, ckA l 9, ckA l 7, ckA l 11, [])]) (0, ckA l 10, ckA l 11, 0, [0, 0, 47])
    | 4 => ckIf1 (ckAnd [ckHasK K (1, ckA l 9, 0, 0, []), ckAfx T Z K (ckA l 0) (ckA l 1) (ckA l 2) (ckA l 3) (ckA l 4) (ckA l 5) (ckA l 6) 0, ckAfx T Z K (ckA l 0) (ckA l 1) (ckA l 2) (ckA l 3) (ckA l 4) (ckA l 7) (ckA l 8) 2, ckHasK K (4, ckA l 9, ckA l 5, ckA l 10, []), ckHasK K (4, ckA l 9, ckA l 7, ckA l 11, [])]) (0, ckA l 10, ckA l 11, 0, [1, 0, 47])
    | 5 => ckIf1 (ckAnd [ckHasK K (2, ckA l 0, ckA l 1, ckA l 2, []), ckHasK K (3, ckA l 3, ckA l 0, ckA l 6, [.ofNat (ckA l 7)]), ckHasK K (3, ckA l 4, ckA l 1, ckA l 6, [.ofNat (ckA l 8)]), ckHasK K (3, ckA l 5, ckA l 2, ckA l 6, [.ofNat (ckA l 9)]), ckRgo T Z (ckA l 7) (ckA l 8) (ckA l 9)]) (2, ckA l 3, ckA l 4, ckA l 5, [])
    | 6 => ckIf1 (ckAnd [ckHasK K (2, ckA l 0, ckA l 1, ckA l 2, []), ckWin T Z (ckA l 3) 0 5, ckHasK K (4, ckA l 0, ckA l 3, ckA l 4, []), ckHasK K (4, ckA l 1, ckA l 3, ckA l 5, [])]) (0, ckA l 4, ckA l 5, 0, [0, 0, 47])
    | 7 => ckIf1 (ckAnd [ckHasK K (2, ckA l 0, ckA l 1, ckA l 2, []), ckWin T Z (ckA l 3) 0 5, ckHasK K (4, ckA l 0, ckA l 3, ckA l 4, []), ckHasK K (4, ckA l 2, ckA l 3, ckA l 5, [])]) (0, ckA l 4, ckA l 5, 0, [1, 0, 47])
    | 8 => ckIf1 (ckAnd [Nat.ble (ckA l 0 + 1) G.length, Nat.ble (ckA l 1 + 1) G.length, Nat.ble (ckA l 2 + 1) T.length, ckLe0 (ckIv Z T (ckA l 2)).2 0]) (6, ckA l 0, ckA l 1, ckA l 2, [])
    | 9 => ckIf1 (ckAnd [ckHasK K (6, ckA l 1, ckA l 2, ckA l 3, []), ckHasK K (3, ckA l 0, ckA l 1, ckA l 4, [.ofNat (ckA l 6)]), ckHasK K (4, ckA l 2, ckA l 5, ckA l 6, []), ckEq T Z (ckA l 4) (ckA l 3), ckEq T Z (ckA l 5) (ckA l 3), Nat.ble (ckA l 7 + 1) T.length, ckLeq T Z (ckA l 7) (ckA l 3) 1]) (6, ckA l 0, ckA l 2, ckA l 7, [])
    | 10 => ckIf1 (ckAnd [Nat.ble (ckA l 0 + 1) T.length, Nat.ble (ckA l 1 + 1) T.length, Nat.ble (ckA l 2 + 1) T.length, ckLeq T Z (ckA l 0) (ckA l 1) 0, ckLe0 0 (ckIv Z T (ckA l 2)).1]) (7, ckA l 0, ckA l 1, ckA l 2, [])
    | 11 => ckIf1 (ckAnd [ckHasK K (7, ckA l 0, ckA l 1, ckA l 2, []), Nat.ble (ckA l 3 + 1) T.length, Nat.ble (ckA l 4 + 1) T.length, ckLeq T Z (ckA l 3) (ckA l 0) (l.getD 5 0), ckLeq T Z (ckA l 2) (ckA l 4) (-(l.getD 5 0))]) (7, ckA l 3, ckA l 1, ckA l 4, [])
    | 12 => ckIf1 (ckAnd [Nat.ble (ckA l 0 + 1) T.length, Nat.ble (ckA l 1 + 1) T.length, ckLe0 0 (l.getD 2 0), ckLe0 (ckIv Z T (ckA l 0)).2 (l.getD 2 0 * (ckIv Z T (ckA l 1)).1 + l.getD 3 0)]) (8, ckA l 0, ckA l 1, 0, [l.getD 2 0, l.getD 3 0])
    | 13 => ckIf1 (ckAnd [ckHasK K (8, ckA l 0, ckA l 1, 0, [l.getD 4 0, l.getD 5 0]), Nat.ble (ckA l 2 + 1) T.length, Nat.ble (ckA l 3 + 1) T.length, ckLe0 0 (l.getD 4 0), ckLeq T Z (ckA l 2) (ckA l 0) (l.getD 6 0), ckLeq T Z (ckA l 1) (ckA l 3) (-(l.getD 7 0)), ckLe0 (l.getD 6 0) (l.getD 4 0 * l.getD 7 0)]) (8, ckA l 2, ckA l 3, 0, [l.getD 4 0, l.getD 5 0])
    | 14 => match G[ckA l 0]? with
      | none => none
      | some g => ckIf1 (match ckHull 77 196 0 g.1 with
        | none => true
        | some w => match ckLe0 0 w.1 with
          | true => ckLe0 w.2 0
          | false => false) (1, ckA l 0, 0, 0, [])
    | 15 => match G[ckA l 0]?, G[ckA l 1]?, G[ckA l 2]? with
      | some _, some g, some h => ckIf1 (match (match ckHull 0 5 0 g.1 with
          | none => true
          | some w => match ckLe0 0 w.1 with
            | true => ckLe0 w.2 0
            | false => false) with
        | false => false
        | true => match ckHull 0 5 0 h.1 with
          | none => true
          | some w => match ckLe0 0 w.1 with
            | true => ckLe0 w.2 0
            | false => false) (2, ckA l 0, ckA l 1, ckA l 2, [])
      | _, _, _ => none
    | 16 => ckIf1 (ckAnd [Nat.ble (ckA l 0 + 1) T.length, Nat.ble (ckA l 1 + 1) T.length, match ckWin T Z (ckA l 1) (l.getD 3 0) (l.getD 4 0) with
      | true => true
      | false => match ckLe0 (l.getD 2 0 + 1) (ckIv Z T (ckA l 0)).1 with
        | true => true
        | false => ckLe0 (ckIv Z T (ckA l 0)).2 (l.getD 2 0 - 1)]) (0, ckA l 0, ckA l 1, 0, [l.getD 2 0, l.getD 3 0, l.getD 4 0])
    | _ => none
-- bounds out of facts: a number, and its new bounds
noncomputable def ckNr (σ : ckS) (rule : Nat) (l : List Int) : Option (Nat × Int × Int) := match σ with
  | (_, _, _, T, _, _, Z, K, _, _) => match rule with
    | 0 => match ckAnd [ckHasK K (0, ckA l 0, ckA l 1, 0, [l.getD 2 0, l.getD 3 0, l.getD 4 0]), ckCst T Z (ckA l 0) (l.getD 2 0)] with
      | true => some (ckA l 1, l.getD 3 0, l.getD 4 0)
      | false => none
    | 1 => match ckHasK K (7, ckA l 0, ckA l 1, ckA l 2, []) with
      | true => some (ckA l 0, -2147483648, (ckIv Z T (ckA l 1)).2 + (ckIv Z T (ckA l 2)).2)
      | false => none
    | 2 => match ckAnd [ckHasK K (7, ckA l 0, ckA l 1, ckA l 2, []), ckHasK K (5, ckA l 3, ckA l 4, ckA l 1, [2]), ckCst T Z (ckA l 4) 2000, ckWin T Z (ckA l 1) 0 2000, ckLeq T Z (ckA l 2) (ckA l 3) 0] with
      | true => some (ckA l 0, -2147483648, 2000)
      | false => none
    | 3 => match ckAnd [ckHasK K (8, ckA l 0, ckA l 1, 0, [l.getD 2 0, l.getD 3 0]), ckLe0 0 (l.getD 2 0)] with
      | true => some (ckA l 0, -2147483648, l.getD 2 0 * (ckIv Z T (ckA l 1)).2 + l.getD 3 0)
      | false => none
    | _ => none
-- contents that are equal to others all through their row
noncomputable def ckRep (σ : ckS) (l : List Int) : Option ckS := match σ with
  | (L, S, C, T, G, X, Z, K, nc, ns) => match C[ckA l 0]? with
    | some (.inr (u, ln, fv)) => match Nat.beq u 1 with
      | true => none
      | false => match ckAnd [ckHasK K (6, fv, ckA l 1, ckA l 2, []), ckLeq T Z ln (ckA l 2) 0] with
        | true => some (L, S, C.set (ckA l 0) (.inr (u, ln, ckA l 1)), T, G, X, Z, K, nc, ns)
        | false => none
    | _ => none
-- a difference out of a sum's bound
noncomputable def ckZd (σ : ckS) (l : List Int) : Option ckZ := match σ with
  | (_, _, _, T, _, _, Z, K, _, _) => match ckAnd [ckHasK K (7, ckA l 0, ckA l 1, ckA l 2, []), ckLe0 (ckIv Z T (ckA l 2)).2 (l.getD 3 0)] with
    | true => some (ckA l 0, ckA l 1, l.getD 3 0)
    | false => none
-- a place of contents gets a number
noncomputable def ckNam (σ : ckS) (l : List Int) : Option ckS := match σ with
  | (L, S, C, T, G, X, Z, K, nc, ns) => match Nat.ble (ckA l 1) 1000 with
    | false => none
    | true => match G[ckA l 0]? with
      | none => none
      | some g => some (L, S, C, T ++ [ckHul g (.ofNat (ckA l 1), .ofNat (ckA l 1))], G.set (ckA l 0) (g.1, (ckA l 1, T.length) :: g.2.1, g.2.2), X, Z, K, nc, ns)
noncomputable def ckAux (δ : ckD) : List Int := match δ.2.2.2.2.2.2.2.2.2.1 with
  | k :: _ => k.2.2.2.2
  | [] => []
noncomputable def ckPlK (k : ckK) : ckS → ckS
  | (L, S, C, T, G, X, Z, K, nc, ns) => (L, S, C, T, G, X, Z, k :: K, nc, ns)
noncomputable def ckPlZ (z : ckZ) : ckS → ckS
  | (L, S, C, T, G, X, Z, K, nc, ns) => (L, S, C, T, G, X, z :: Z, K, nc, ns)
-- j: 0 if a cut here may be met; else one more than the acts of this place that are done
noncomputable def ckMeet (pc : Nat) (σ : ckS) : List ckCut → Bool
  | [] => false
  | c :: r => match Nat.beq c.1 pc with
    | false => ckMeet pc σ r
    | true => match ckArrive c σ with
      | true => true
      | false => ckMeet pc σ r
noncomputable def ckRun (es : List ckEn) (as : ckAs) (cs : List (Nat × ckCtr)) (gx : List ckCut) (nL fr wd mc ms : Nat) (fin : Bool → ckS → Bool) (ks : Nat → List Nat) (kc : Nat → Nat) : Nat → Nat → Nat → ckS → List ckCut → Bool
  | 0, _, _, _, _ => false
  | f + 1, j, pc, σ, cx => match (match j with
      | 0 => ckCutAt pc cx
      | _ => none) with
    | some c => ckArrive c σ
    | none => match (match j with
      | 0 => ckMeet pc σ gx
      | _ => false) with
    | true => true
    | false => match (ckKeyed σ (ckActs pc as)).drop (j - 1) with
      | (kd, p2, v, δ) :: _ => match kd with
        | 3 => match ckLook p2 σ.1 with
          | none => false
          | some q => match q.1, δ.2.2.2.2.2.1 with
            | 0, [w] => ckSplit σ.2.2.2.1 σ.2.2.2.2.2.2.1 q.2 w.1 σ (fun τ => ckRun es as cs gx nL fr wd mc ms fin ks kc f (ckNx j) pc τ cx)
            | _, _ => false
        | 4 => match ckDer σ p2 (ckAux δ) with
          | none => false
          | some k => ckRun es as cs gx nL fr wd mc ms fin ks kc f (ckNx j) pc (ckPlK k σ) cx
        | 5 => match ckNr σ p2 (ckAux δ) with
          | none => false
          | some (y, lo, hi) => ckO σ σ.2.1 (ckLim σ.2.2.2.1 σ.2.2.2.2.2.2.1 y lo hi) (fun τ => ckRun es as cs gx nL fr wd mc ms fin ks kc f (ckNx j) pc τ cx)
        | 6 => match ckRep σ (ckAux δ) with
          | none => false
          | some τ => ckRun es as cs gx nL fr wd mc ms fin ks kc f (ckNx j) pc τ cx
        | 8 => match ckNam σ (ckAux δ) with
          | none => false
          | some τ => ckRun es as cs gx nL fr wd mc ms fin ks kc f (ckNx j) pc τ cx
        | 7 => match ckZd σ (ckAux δ) with
          | none => false
          | some z => ckRun es as cs gx nL fr wd mc ms fin ks kc f (ckNx j) pc (ckPlZ z σ) cx
        | 0 => match ckLenEq (ckMk δ σ).2.2.1 σ.2.2.1 with
          | false => false
          | true => match ckRun es as cs gx nL fr wd mc ms fin ks kc f 1 p2 (ckMk δ σ) cx with
            | false => false
            | true => ckRun es as cs gx nL fr wd mc ms fin ks kc f (ckNx j) pc σ ((p2, ckMk δ σ, σ.2.2.2.1.length, σ.2.2.2.2.1.length, 0, 0) :: cx)
        | _ => match ckArrive (pc, ckMk δ σ, σ.2.2.2.1.length, σ.2.2.2.2.1.length, 0, 0) σ with
          | false => false
          | true => match Nat.ble (σ.2.2.2.1.length + v + 1) (ckMk δ σ).2.2.2.1.length with
            | false => false
            | true => ckRun es as cs gx nL fr wd mc ms fin ks kc f (ckNx j) pc (ckMk δ σ) ((pc, ckMk δ σ, σ.2.2.2.1.length, σ.2.2.2.2.1.length, kd, σ.2.2.2.1.length + v) :: cx)
      | [] => match ckAtPc pc es with
        | none => false
        | some (i, a, b, d) => match i with
          | .goto off => ckBoth (ckToOk pc off) (ckRun es as cs gx nL fr wd mc ms fin ks kc f 0 (ckTo pc off) σ cx)
          | .ifCond cd off => ckBoth (ckToOk pc off) (ckIf cd σ (fun τ => ckRun es as cs gx nL fr wd mc ms fin ks kc f 0 (ckTo pc off) τ cx) (fun τ => ckRun es as cs gx nL fr wd mc ms fin ks kc f 0 (pc + 3) τ cx))
          | .if_icmp cd off => ckBoth (ckToOk pc off) (ckIcmp cd σ (fun τ => ckRun es as cs gx nL fr wd mc ms fin ks kc f 0 (ckTo pc off) τ cx) (fun τ => ckRun es as cs gx nL fr wd mc ms fin ks kc f 0 (pc + 3) τ cx))
          | .tableswitch dd lo hi offs => ckTable dd lo hi offs.toList σ (fun o τ => ckBoth (ckToOk pc o) (ckRun es as cs gx nL fr wd mc ms fin ks kc f 0 (ckTo pc o) τ cx))
          | .ireturn => fin false σ
          | .return_ => fin true σ
          | .invokevirtual _ => ckCalls (ckRv (kc a)) a b d fr wd mc ms σ (fun τ => ckRun es as cs gx nL fr wd mc ms fin ks kc f 0 (pc + 3) τ cx) (ckCtrs pc cs)
          | .invokestatic _ => match Nat.ble a 999 with
            | true => ckCalls (fun _ => true) a b d fr wd mc ms σ (fun τ => ckRun es as cs gx nL fr wd mc ms fin ks kc f 0 (pc + 3) τ cx) (ckCtrs pc cs)
            | false => match ckStep ks nL mc ms i a b d σ with
              | none => false
              | some τ => ckRun es as cs gx nL fr wd mc ms fin ks kc f 0 (pc + ckLn i) τ cx
          | .invokespecial _ => match Nat.ble a 999 with
            | true => ckCalls (ckRv (kc a)) a b d fr wd mc ms σ (fun τ => ckRun es as cs gx nL fr wd mc ms fin ks kc f 0 (pc + 3) τ cx) (ckCtrs pc cs)
            | false => match ckStep ks nL mc ms i a b d σ with
              | none => false
              | some τ => ckRun es as cs gx nL fr wd mc ms fin ks kc f 0 (pc + ckLn i) τ cx
          | _ => match ckStep ks nL mc ms i a b d σ with
            | none => false
            | some τ => ckRun es as cs gx nL fr wd mc ms fin ks kc f 0 (pc + ckLn i) τ cx
-- the ends of a method by the states told
-- a first look: the bounds that an end tells
noncomputable def ckPreE (Z : List ckZ) (T : List ckI) : List (Nat × ckI) → Bool
  | [] => true
  | q :: r => match ckInc (ckIv Z T q.1) q.2 with
    | true => ckPreE Z T r
    | false => false
noncomputable def ckPreS (σ τ : ckS) : Bool := match τ.2.1 with
  | [] => true
  | t :: _ => match t.1 with
    | 0 => match σ.2.1 with
      | [] => false
      | s :: _ => ckInc (ckIv σ.2.2.2.2.2.2.1 σ.2.2.2.1 s.2) (ckTd τ.2.2.2.1 t.2)
    | _ => true
noncomputable def ckEnds (σ0 : ckS) (δs : List ckD) (void : Bool) (σ : ckS) : Bool := ckAny (fun δ => match ckPreE σ.2.2.2.2.2.2.1 σ.2.2.2.1 δ.2.2.2.2.1 with
  | false => false
  | true => match ckMk δ σ0 with
  | τ => match ckPreS σ τ with
  | false => false
  | true => match Nat.ble τ.2.2.1.length σ.2.2.1.length with
  | false => false
  | true => match ckUniZ (σ0.2.2.2.1.length, σ0.2.2.2.2.1.length, σ.2.2.1.length) σ τ with
      | μ => match ckChkZ (σ0.2.2.2.1.length, σ0.2.2.2.2.1.length, σ.2.2.1.length) μ σ τ with
        | true => match void with
          | true => Nat.beq τ.2.1.length 0
          | false => Nat.beq τ.2.1.length 1
        | false => false) δs

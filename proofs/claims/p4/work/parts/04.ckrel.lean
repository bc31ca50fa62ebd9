/-! THE CHECKER: what a state means -/
def ck2 {α β : Type} (R : α → β → Prop) : List α → List β → Prop
  | [], [] => True
  | a :: as, b :: bs => R a b ∧ ck2 R as bs
  | _, _ => False
theorem ck2_len {α β : Type} {R : α → β → Prop} : ∀ {xs : List α} {ys : List β}, ck2 R xs ys → xs.length = ys.length
  | [], [], _ => rfl
  | _ :: _, _ :: _, h => by rw [List.length_cons, List.length_cons, ck2_len h.2]
  | [], _ :: _, h => h.elim
  | _ :: _, [], h => h.elim
theorem ck2_get {α β : Type} {R : α → β → Prop} : ∀ {xs : List α} {ys : List β}, ck2 R xs ys → ∀ {k : Nat} {a : α}, xs[k]? = some a → ∃ b, ys[k]? = some b ∧ R a b
  | [], [], _, k, a, h => by simp at h
  | _ :: _, y :: _, h, 0, a, h1 => ⟨y, rfl, by cases h1; exact h.1⟩
  | _ :: _, _ :: _, h, k + 1, a, h1 => ck2_get h.2 (k := k) h1
  | [], _ :: _, h, _, _, _ => h.elim
  | _ :: _, [], h, _, _, _ => h.elim
theorem ck2_getr {α β : Type} {R : α → β → Prop} : ∀ {xs : List α} {ys : List β}, ck2 R xs ys → ∀ {k : Nat} {b : β}, ys[k]? = some b → ∃ a, xs[k]? = some a ∧ R a b
  | [], [], _, k, b, h => by simp at h
  | x :: _, _ :: _, h, 0, b, h1 => ⟨x, rfl, by cases h1; exact h.1⟩
  | _ :: _, _ :: _, h, k + 1, b, h1 => ck2_getr h.2 (k := k) h1
  | [], _ :: _, h, _, _, _ => h.elim
  | _ :: _, [], h, _, _, _ => h.elim
theorem ck2_mono {α β : Type} {R R' : α → β → Prop} (hR : ∀ a b, R a b → R' a b) : ∀ {xs : List α} {ys : List β}, ck2 R xs ys → ck2 R' xs ys
  | [], [], _ => True.intro
  | _ :: _, _ :: _, h => ⟨hR _ _ h.1, ck2_mono hR h.2⟩
  | [], _ :: _, h => h.elim
  | _ :: _, [], h => h.elim
theorem ck2_app {α β : Type} {R : α → β → Prop} : ∀ {xs : List α} {ys : List β} {xt : List α} {yt : List β}, ck2 R xs ys → ck2 R xt yt → ck2 R (xs ++ xt) (ys ++ yt)
  | [], [], _, _, _, h => h
  | _ :: _, _ :: _, _, _, h, h1 => ⟨h.1, ck2_app h.2 h1⟩
  | [], _ :: _, _, _, h, _ => h.elim
  | _ :: _, [], _, _, h, _ => h.elim
theorem ck2_set {α β : Type} {R : α → β → Prop} : ∀ {xs : List α} {ys : List β} (k : Nat) {a : α} {b : β}, ck2 R xs ys → R a b → ck2 R (xs.set k a) (ys.set k b)
  | [], [], _, _, _, _, _ => True.intro
  | _ :: _, _ :: _, 0, _, _, h, h1 => ⟨h1, h.2⟩
  | _ :: _, _ :: _, k + 1, _, _, h, h1 => ⟨h.1, ck2_set k h.2 h1⟩
  | [], _ :: _, _, _, _, h, _ => h.elim
  | _ :: _, [], _, _, _, h, _ => h.elim
/-- a new left side at one place -/
theorem ck2_setl {α β : Type} {R : α → β → Prop} : ∀ {xs : List α} {ys : List β} (k : Nat) {a : α}, ck2 R xs ys → (∀ b, ys[k]? = some b → R a b) → ck2 R (xs.set k a) ys
  | [], [], _, _, _, _ => True.intro
  | _ :: _, y :: _, 0, _, h, h1 => ⟨h1 y rfl, h.2⟩
  | _ :: _, _ :: _, k + 1, _, h, h1 => ⟨h.1, ck2_setl k h.2 h1⟩
  | [], _ :: _, _, _, h, _ => h.elim
  | _ :: _, [], _, _, h, _ => h.elim
theorem ck2_of {α β : Type} {R : α → β → Prop} : ∀ {xs : List α} {ys : List β}, xs.length = ys.length → (∀ (k : Nat) (a : α) (b : β), xs[k]? = some a → ys[k]? = some b → R a b) → ck2 R xs ys
  | [], [], _, _ => True.intro
  | x :: xs, y :: ys, h, h1 => ⟨h1 0 x y rfl rfl, ck2_of (by simpa using h) fun k a b ha hb => h1 (k + 1) a b ha hb⟩
  | [], _ :: _, h, _ => by simp at h
  | _ :: _, [], h, _ => by simp at h
def ckHas (I : List Int32) (ad : List Nat) (sa : Nat → Nat) (q : ckV) (v : Value) : Prop := match q.1 with
  | 0 => ∃ x : Int32, v = .int x ∧ I[q.2]? = some x
  | 1 => ∃ a : Nat, v = .ref a ∧ ad[q.2]? = some a
  | 2 => ∃ x : Int64, v = .long x
  | 3 => v = .null
  | 4 => v = .ref (sa q.2)
  | 6 => ∃ (x : Int64) (y : Int32), v = .long x ∧ I[q.2]? = some y ∧ x.toInt = y.toInt
  | 7 => ∃ (x : Int64) (y : Int32), v = .long x ∧ I[q.2]? = some y ∧ y.toInt ≤ x.toInt
  | _ => True
def ckOf (tI : Nat → ClassId) (I : List Int32) (F : List (Nat → Int32)) (ad : List Nat) (sa : Nat → Nat) (c : ckC) (e : va_E) : Prop := match c with
  | .inl (ci, fs) => ∃ vs : List Value, e = .inr (ci, vs) ∧ ck2 (ckHas I ad sa) fs vs
  | .inr (t, ln, fv) => ∃ n : Nat, n < 2 ^ 31 ∧ I[ln]? = some (nI n) ∧ match t with
    | 1 => ∃ f : Nat → Int64, e = .inl (tI 1, n, .inr (.inl f))
    | _ => ∃ f g : Nat → Int32, e = .inl (tI t, n, .inl f) ∧ F[fv]? = some g ∧ ∀ j, j < n → f j = g j
def ckSegOk (f : Nat → Int32) : Nat → List (Nat × ckI) → Prop
  | _, [] => True
  | s, (u, w) :: r => (∀ j, s ≤ j → j < u → ckW w (f j)) ∧ ckSegOk f u r
def ckGok (I : List Int32) (g : ckG) (f : Nat → Int32) : Prop :=
  ckSegOk f 0 g.1 ∧ (∀ q ∈ g.2.1, ∃ x : Int32, I[q.2]? = some x ∧ f q.1 = x) ∧ ∀ q ∈ g.2.2, ∃ i x : Int32, I[q.1]? = some i ∧ I[q.2]? = some x ∧ f i.toNatClampNeg = x
def ckXok (SL : Nat → Nat) (SX : Nat → Nat → Int32) (nk : Nat) (I : List Int32) (F : List (Nat → Int32)) (q : ckX) : Prop :=
  q.1 < nk ∧ SL q.1 < 2 ^ 31 ∧ I[q.2.1]? = some (nI (SL q.1)) ∧ ∃ g : Nat → Int32, F[q.2.2]? = some g ∧ ∀ j, j < SL q.1 → SX q.1 j = g j
/-- commands in a row of the reference's: kind 0 tells a word and a byte, kind 1 a place -/
def ckCmd (f : Nat → Int32) : Prop := ∀ k : Nat, k < 30 → ((f (77 + 4 * k)).toInt = 0 → 0 ≤ (f (78 + 4 * k)).toInt ∧ (f (78 + 4 * k)).toInt ≤ 47) ∧ ((f (77 + 4 * k)).toInt = 1 → 0 ≤ (f (79 + 4 * k)).toInt ∧ (f (79 + 4 * k)).toInt ≤ 47)
def ckAsk (f g h : Nat → Int32) : Prop := ∀ k : Nat, k < 6 → ((f k).toInt = 0 → 0 ≤ (g k).toInt ∧ (g k).toInt ≤ 47) ∧ ((f k).toInt = 1 → 0 ≤ (h k).toInt ∧ (h k).toInt ≤ 47)
def ckKok (I : List Int32) (F : List (Nat → Int32)) (k : ckK) : Prop := match k.1 with
  | 0 => match k.2.2.2.2 with
    | [v, lo, hi] => ∃ x y : Int32, I[k.2.1]? = some x ∧ I[k.2.2.1]? = some y ∧ (x.toInt = v → lo ≤ y.toInt ∧ y.toInt ≤ hi)
    | _ => False
  | 1 => ∃ f : Nat → Int32, F[k.2.1]? = some f ∧ ckCmd f
  | 2 => ∃ f g h : Nat → Int32, F[k.2.1]? = some f ∧ F[k.2.2.1]? = some g ∧ F[k.2.2.2.1]? = some h ∧ ckAsk f g h
  | 3 => match k.2.2.2.2 with
    | [x] => ∃ (f g : Nat → Int32) (j v : Int32), F[k.2.1]? = some f ∧ F[k.2.2.1]? = some g ∧ I[k.2.2.2.1]? = some j ∧ I[x.toNat]? = some v ∧ ∀ t : Nat, f t = if t = j.toNatClampNeg then v else g t
    | _ => False
  | 4 => ∃ (g : Nat → Int32) (j v : Int32), F[k.2.1]? = some g ∧ I[k.2.2.1]? = some j ∧ I[k.2.2.2.1]? = some v ∧ g j.toNatClampNeg = v
  | 5 => match k.2.2.2.2 with
    | [op] => ∃ u v w : Int32, I[k.2.1]? = some u ∧ I[k.2.2.1]? = some v ∧ I[k.2.2.2.1]? = some w ∧ u = (if op = 0 then v + w else if op = 1 then v * w else v - w)
    | _ => False
  | 6 => ∃ (f g : Nat → Int32) (j : Int32), F[k.2.1]? = some f ∧ F[k.2.2.1]? = some g ∧ I[k.2.2.2.1]? = some j ∧ ∀ t : Nat, (t : Int) < j.toInt → f t = g t
  | 7 => ∃ u v w : Int32, I[k.2.1]? = some u ∧ I[k.2.2.1]? = some v ∧ I[k.2.2.2.1]? = some w ∧ u.toInt ≤ v.toInt + w.toInt
  | 8 => match k.2.2.2.2 with
    | [m, c] => ∃ u v : Int32, I[k.2.1]? = some u ∧ I[k.2.2.1]? = some v ∧ u.toInt ≤ m * v.toInt + c
    | _ => False
  | _ => False
def ckEnv (tI : Nat → ClassId) (sa SL : Nat → Nat) (SX : Nat → Nat → Int32) (nk : Nat) (C : List ckC) (T : List ckI) (G : List ckG) (X : List ckX) (Z : List ckZ) (K : List ckK) (I : List Int32) (F : List (Nat → Int32)) (ws : va_W) : Prop :=
  ck2 (ckOf tI I F (ws.map Prod.fst) sa) C (ws.map Prod.snd) ∧ ck2 ckW T I ∧ ck2 (ckGok I) G F ∧ (∀ q ∈ X, ckXok SL SX nk I F q) ∧ (∀ z ∈ Z, ckZok I z) ∧ ∀ k ∈ K, ckKok I F k
def ckRL (nL : Nat) (I : List Int32) (ad : List Nat) (sa : Nat → Nat) (L : List (Nat × ckV)) (ls : Array Slot) : Prop :=
  ∃ lv : List (Nat × Value), lv_has ls nL lv ∧ ∀ q ∈ L, ∃ v : Value, (q.1, v) ∈ lv ∧ ckHas I ad sa q.2 v
/-- a longer list -/
def ckExt {α : Type} (I J : List α) : Prop := ∀ (k : Nat) (x : α), I[k]? = some x → J[k]? = some x
theorem ckExt_rf {α : Type} (I : List α) : ckExt I I := fun _ _ h => h
theorem ckExt_app {α : Type} (I J : List α) : ckExt I (I ++ J) := fun k x h => by
  rw [List.getElem?_append_left (List.getElem?_eq_some_iff.mp h).1]
  exact h
theorem ckExt.trans {α : Type} {I J M : List α} (h : ckExt I J) (h1 : ckExt J M) : ckExt I M := fun k x h2 => h1 k x (h k x h2)
section CKMONO
variable {tI : Nat → ClassId} {sa SL : Nat → Nat} {SX : Nat → Nat → Int32} {nk : Nat} {I I' : List Int32} {F F' : List (Nat → Int32)} {ad ad' : List Nat}
theorem ckHas.mono (hI : ckExt I I') (hA : ckExt ad ad') {q : ckV} {v : Value} (h : ckHas I ad sa q v) : ckHas I' ad' sa q v := by
  unfold ckHas at h ⊢
  split at h
  · obtain ⟨x, h1, h2⟩ := h
    exact ⟨x, h1, hI _ _ h2⟩
  · obtain ⟨x, h1, h2⟩ := h
    exact ⟨x, h1, hA _ _ h2⟩
  · exact h
  · exact h
  · exact h
  · obtain ⟨x, y, h1, h2, h3⟩ := h
    exact ⟨x, y, h1, hI _ _ h2, h3⟩
  · obtain ⟨x, y, h1, h2, h3⟩ := h
    exact ⟨x, y, h1, hI _ _ h2, h3⟩
  · exact True.intro
theorem ckOf.mono (hI : ckExt I I') (hF : ckExt F F') (hA : ckExt ad ad') {c : ckC} {e : va_E} (h : ckOf tI I F ad sa c e) : ckOf tI I' F' ad' sa c e := by
  unfold ckOf at h ⊢
  split at h
  · obtain ⟨vs, h1, h2⟩ := h
    exact ⟨vs, h1, ck2_mono (fun _ _ q => q.mono hI hA) h2⟩
  · obtain ⟨n, h1, h2, h3⟩ := h
    refine ⟨n, h1, hI _ _ h2, ?_⟩
    split at h3
    · exact h3
    · obtain ⟨f, g, h4, h5, h6⟩ := h3
      exact ⟨f, g, h4, hF _ _ h5, h6⟩
theorem ckGok.mono (hI : ckExt I I') {g : ckG} {f : Nat → Int32} (h : ckGok I g f) : ckGok I' g f :=
  ⟨h.1, fun q hq => by obtain ⟨x, h1, h2⟩ := h.2.1 q hq; exact ⟨x, hI _ _ h1, h2⟩, fun q hq => by obtain ⟨i, x, h1, h2, h3⟩ := h.2.2 q hq; exact ⟨i, x, hI _ _ h1, hI _ _ h2, h3⟩⟩
theorem ckXok.mono (hI : ckExt I I') (hF : ckExt F F') {q : ckX} (h : ckXok SL SX nk I F q) : ckXok SL SX nk I' F' q := by
  obtain ⟨h0, h1, h2, g, h3, h4⟩ := h
  exact ⟨h0, h1, hI _ _ h2, g, hF _ _ h3, h4⟩
theorem ckZok.mono (hI : ckExt I I') {z : ckZ} (h : ckZok I z) : ckZok I' z := by
  obtain ⟨x, y, h1, h2, h3⟩ := h
  exact ⟨x, y, hI _ _ h1, hI _ _ h2, h3⟩
theorem ckKok.mono (hI : ckExt I I') (hF : ckExt F F') {k : ckK} (h : ckKok I F k) : ckKok I' F' k := by
  unfold ckKok at h ⊢
  split at h
  · split at h
    · obtain ⟨x, y, h1, h2, h3⟩ := h
      exact ⟨x, y, hI _ _ h1, hI _ _ h2, h3⟩
    · exact h
  · obtain ⟨f, h1, h2⟩ := h
    exact ⟨f, hF _ _ h1, h2⟩
  · obtain ⟨f, g, h, h1, h2, h3, h4⟩ := h
    exact ⟨f, g, h, hF _ _ h1, hF _ _ h2, hF _ _ h3, h4⟩
  · split at h
    · obtain ⟨f, g, j, v, h1, h2, h3, h4, h5⟩ := h
      exact ⟨f, g, j, v, hF _ _ h1, hF _ _ h2, hI _ _ h3, hI _ _ h4, h5⟩
    · exact h
  · obtain ⟨g, j, v, h1, h2, h3, h4⟩ := h
    exact ⟨g, j, v, hF _ _ h1, hI _ _ h2, hI _ _ h3, h4⟩
  · split at h
    · obtain ⟨u, v, w, h1, h2, h3, h4⟩ := h
      exact ⟨u, v, w, hI _ _ h1, hI _ _ h2, hI _ _ h3, h4⟩
    · exact h
  · obtain ⟨f, g, j, h1, h2, h3, h4⟩ := h
    exact ⟨f, g, j, hF _ _ h1, hF _ _ h2, hI _ _ h3, h4⟩
  · obtain ⟨u, v, w, h1, h2, h3, h4⟩ := h
    exact ⟨u, v, w, hI _ _ h1, hI _ _ h2, hI _ _ h3, h4⟩
  · split at h
    · obtain ⟨u, v, h1, h2, h3⟩ := h
      exact ⟨u, v, hI _ _ h1, hI _ _ h2, h3⟩
    · exact h
  · exact h
theorem ckRL.mono {nL : Nat} {L : List (Nat × ckV)} {ls : Array Slot} (hI : ckExt I I') (hA : ckExt ad ad') (h : ckRL nL I ad sa L ls) : ckRL nL I' ad' sa L ls := by
  obtain ⟨lv, h1, h2⟩ := h
  refine ⟨lv, h1, fun q hq => ?_⟩
  obtain ⟨v, h3, h4⟩ := h2 q hq
  exact ⟨v, h3, h4.mono hI hA⟩
end CKMONO
section CKENV
variable {tI : Nat → ClassId} {sa SL : Nat → Nat} {SX : Nat → Nat → Int32} {nk : Nat} {C : List ckC} {T : List ckI} {G : List ckG} {X : List ckX} {Z : List ckZ} {K : List ckK} {I : List Int32} {F : List (Nat → Int32)} {ws : va_W}
theorem ckEnv.len (h : ckEnv tI sa SL SX nk C T G X Z K I F ws) : T.length = I.length := ck2_len h.2.1
theorem ckEnv.lenF (h : ckEnv tI sa SL SX nk C T G X Z K I F ws) : G.length = F.length := ck2_len h.2.2.1
theorem ckEnv.lenC (h : ckEnv tI sa SL SX nk C T G X Z K I F ws) : C.length = ws.length := by
  have := ck2_len h.1
  rwa [List.length_map] at this
theorem ckEnv.addK {ks : List ckK} (h : ckEnv tI sa SL SX nk C T G X Z K I F ws) (hk : ∀ k ∈ ks, ckKok I F k) : ckEnv tI sa SL SX nk C T G X Z (ks ++ K) I F ws :=
  ⟨h.1, h.2.1, h.2.2.1, h.2.2.2.1, h.2.2.2.2.1, fun k q => (List.mem_append.mp q).elim (hk k) (h.2.2.2.2.2 k)⟩
/-- a new number -/
theorem ckEnv.addI (h : ckEnv tI sa SL SX nk C T G X Z K I F ws) {w : ckI} {x : Int32} {zs : List ckZ} (hw : ckW w x) (hz : ∀ z ∈ zs, ckZok (I ++ [x]) z) : ckEnv tI sa SL SX nk C (T ++ [w]) G X (zs ++ Z) K (I ++ [x]) F ws := by
  have hI := ckExt_app I [x]
  refine ⟨ck2_mono (fun _ _ q => q.mono hI (ckExt_rf _) (ckExt_rf _)) h.1, ck2_app h.2.1 ⟨hw, True.intro⟩, ck2_mono (fun _ _ q => q.mono hI) h.2.2.1, fun q hq => (h.2.2.2.1 q hq).mono hI (ckExt_rf _), fun z q => ?_, fun k hk => (h.2.2.2.2.2 k hk).mono hI (ckExt_rf _)⟩
  rcases List.mem_append.mp q with q | q
  · exact hz z q
  · exact (h.2.2.2.2.1 z q).mono hI
theorem ck_last {α : Type} (I : List α) (x : α) : (I ++ [x])[I.length]? = some x := by simp
/-- bounds -/
theorem ckTd_eq : ∀ (T : List ckI) (v : Nat), ckTd T v = T.getD v ckTop
  | [], _ => rfl
  | _ :: _, 0 => rfl
  | _ :: r, v + 1 => by
    show ckTd r v = _
    rw [ckTd_eq r v]
    rfl
theorem ck_getD0 {v : Nat} {x : Int32} (hT : ck2 ckW T I) (hv : I[v]? = some x) : ckW (T.getD v ckTop) x := by
  obtain ⟨w, h1, h2⟩ := ck2_getr hT hv
  rw [List.getD_eq_getElem?_getD, h1]
  exact h2
theorem ck_getD {v : Nat} {x : Int32} (hT : ck2 ckW T I) (hv : I[v]? = some x) : ckW (ckTd T v) x := by
  rw [ckTd_eq]
  exact ck_getD0 hT hv
theorem ckIv_ok {v : Nat} {x : Int32} (hT : ck2 ckW T I) (hv : I[v]? = some x) : ∀ {Z : List ckZ}, (∀ z ∈ Z, ckZok I z) → ckW (ckIv Z T v) x
  | [], _ => ck_getD hT hv
  | z :: Z, hZ => by
    have ih := ckIv_ok hT hv (Z := Z) fun z h => hZ z (List.mem_cons_of_mem _ h)
    obtain ⟨a, b, h1, h2, h3⟩ := hZ z List.mem_cons_self
    show ckW (match Nat.beq z.2.1 v with
      | true => ckMax (ckIv Z T v).1 ((ckTd T z.1).1 - z.2.2)
      | false => (ckIv Z T v).1, match Nat.beq z.1 v with
      | true => ckMin (ckIv Z T v).2 ((ckTd T z.2.1).2 + z.2.2)
      | false => (ckIv Z T v).2) x
    refine ⟨?_, ?_⟩
    · show (match Nat.beq z.2.1 v with
        | true => ckMax (ckIv Z T v).1 ((ckTd T z.1).1 - z.2.2)
        | false => (ckIv Z T v).1) ≤ x.toInt
      cases hb : Nat.beq z.2.1 v with
      | false => exact ih.1
      | true =>
        have e := Nat.eq_of_beq_eq_true hb
        rw [e, hv] at h2
        cases h2
        have g := (ck_getD hT h1).1
        exact ckMax_le ih.1 (by omega)
    · show x.toInt ≤ (match Nat.beq z.1 v with
        | true => ckMin (ckIv Z T v).2 ((ckTd T z.2.1).2 + z.2.2)
        | false => (ckIv Z T v).2)
      cases hb : Nat.beq z.1 v with
      | false => exact ih.2
      | true =>
        have e := Nat.eq_of_beq_eq_true hb
        rw [e, hv] at h1
        cases h1
        have g := (ck_getD hT h2).2
        exact ckMin_ge ih.2 (by omega)
theorem ckZs_ok {nx : Nat → Option Int} {a b : Nat} {x y : Int32} (ha : I[a]? = some x) (hb : I[b]? = some y) (hn : ∀ (k : Nat) (c : Int) (u : Int32), nx k = some c → I[k]? = some u → u.toInt ≤ y.toInt + c) :
    ∀ {Z : List ckZ}, (∀ z ∈ Z, ckZok I z) → ∀ {c : Int}, ckZs nx a Z = some c → x.toInt ≤ y.toInt + c
  | [], _, c, h => by cases h
  | z :: Z, hZ, c, h => by
    have ih := @ckZs_ok nx a b x y ha hb hn Z fun z h => hZ z (List.mem_cons_of_mem _ h)
    unfold ckZs at h
    cases hq : Nat.beq z.1 a with
    | false => rw [hq] at h; exact ih h
    | true =>
      rw [hq] at h
      have e := Nat.eq_of_beq_eq_true hq
      obtain ⟨u, v, h1, h2, h3⟩ := hZ z List.mem_cons_self
      rw [e, ha] at h1
      cases h1
      dsimp only at h
      cases hr : ckZs nx a Z with
      | none =>
        rw [hr] at h
        cases ho : nx z.2.1 with
        | none => rw [ho] at h; cases h
        | some d =>
          rw [ho] at h
          cases h
          have := hn _ _ _ ho h2
          omega
      | some d =>
        rw [hr] at h
        have h4 := ih hr
        cases ho : nx z.2.1 with
        | none => rw [ho] at h; cases h; exact h4
        | some t =>
          rw [ho] at h
          cases h
          have := hn _ _ _ ho h2
          unfold ckMin
          cases ckLe0 (t + z.2.2) d with
          | true => show x.toInt ≤ y.toInt + (t + z.2.2); omega
          | false => exact h4
theorem ckZb_ok (hZ : ∀ z ∈ Z, ckZok I z) {b : Nat} {y : Int32} (hb : I[b]? = some y) : ∀ (d a : Nat) {c : Int} {x : Int32}, ckZb Z b d a = some c → I[a]? = some x → x.toInt ≤ y.toInt + c := by
  intro d
  induction d with
  | zero =>
    intro a c x h ha
    unfold ckZb at h
    cases hq : Nat.beq a b with
    | false => rw [hq] at h; cases h
    | true =>
      rw [hq] at h
      cases h
      have e := Nat.eq_of_beq_eq_true hq
      rw [e, hb] at ha
      cases ha
      omega
  | succ d ih =>
    intro a c x h ha
    unfold ckZb at h
    cases hq : Nat.beq a b with
    | false =>
      rw [hq] at h
      exact ckZs_ok ha hb (fun k c u h1 h2 => ih k h1 h2) hZ h
    | true =>
      rw [hq] at h
      cases h
      have e := Nat.eq_of_beq_eq_true hq
      rw [e, hb] at ha
      cases ha
      omega
theorem ckLeq_ok (hT : ck2 ckW T I) (hZ : ∀ z ∈ Z, ckZok I z) {a b : Nat} {c : Int} {x y : Int32} (h : ckLeq T Z a b c = true) (ha : I[a]? = some x) (hb : I[b]? = some y) : x.toInt ≤ y.toInt + c := by
  unfold ckLeq at h
  cases h1 : ckLe0 (ckIv Z T a).2 ((ckIv Z T b).1 + c) with
  | true =>
    have h2 := ckLe0_t h1
    have h3 := (ckIv_ok hT ha hZ).2
    have h4 := (ckIv_ok hT hb hZ).1
    omega
  | false =>
    rw [h1] at h
    dsimp only at h
    cases h2 : ckZb Z b 3 a with
    | none => rw [h2] at h; cases h
    | some d =>
      rw [h2] at h
      have h3 := ckLe0_t h
      have h4 := ckZb_ok hZ hb 3 a h2 ha
      omega
theorem ckEq_ok (hT : ck2 ckW T I) (hZ : ∀ z ∈ Z, ckZok I z) {a b : Nat} {x y : Int32} (h : ckEq T Z a b = true) (ha : I[a]? = some x) (hb : I[b]? = some y) : x = y := by
  unfold ckEq at h
  cases h1 : Nat.beq a b with
  | true =>
    have e := Nat.eq_of_beq_eq_true h1
    rw [e, hb] at ha
    cases ha
    rfl
  | false =>
    rw [h1] at h
    dsimp only at h
    cases h2 : ckLeq T Z a b 0 with
    | false => rw [h2] at h; cases h
    | true =>
      rw [h2] at h
      have h3 := ckLeq_ok hT hZ h2 ha hb
      have h4 := ckLeq_ok hT hZ h hb ha
      exact Int32.toInt_inj.mp (by omega)
/-- a fact that holds can be put in -/
theorem ckAdd_ok (hT : ck2 ckW T I) (hZ : ∀ z ∈ Z, ckZok I z) {a b : Nat} {c : Int} {x y : Int32} (ha : I[a]? = some x) (hb : I[b]? = some y) (h : x.toInt ≤ y.toInt + c) :
    ∃ T1 Z1, ckAdd T Z a b c = some (T1, Z1) ∧ ck2 ckW T1 I ∧ ∀ z ∈ Z1, ckZok I z := by
  unfold ckAdd
  cases h1 : Nat.beq a b with
  | true =>
    have e := Nat.eq_of_beq_eq_true h1
    rw [e, hb] at ha
    cases ha
    dsimp only
    cases h2 : ckLe0 0 c with
    | true => exact ⟨T, Z, rfl, hT, hZ⟩
    | false =>
      have := ckLe0_f h2
      omega
  | false =>
    dsimp only
    have hc : ckCan Z a b c = true := by
      unfold ckCan
      cases h2 : ckZb Z a 3 b with
      | none => rfl
      | some d =>
        have h3 := ckZb_ok hZ ha 3 b h2 hb
        dsimp only
        cases h4 : ckLe0 0 (d + c) with
        | true => rfl
        | false =>
          have := ckLe0_f h4
          omega
    rw [hc]
    dsimp only
    have wa := ckIv_ok hT ha hZ
    have wb := ckIv_ok hT hb hZ
    have m1 : x.toInt ≤ ckMin (ckIv Z T a).2 ((ckIv Z T b).2 + c) := ckMin_ge wa.2 (by have := wb.2; omega)
    have m2 : ckMax (ckIv Z T b).1 ((ckIv Z T a).1 - c) ≤ y.toInt := ckMax_le wb.1 (by have := wa.1; omega)
    cases h2 : ckLe0 (ckIv Z T a).1 (ckMin (ckIv Z T a).2 ((ckIv Z T b).2 + c)) with
    | false =>
      have h3 := ckLe0_f h2
      have := wa.1
      omega
    | true =>
      dsimp only
      cases h3 : ckLe0 (ckMax (ckIv Z T b).1 ((ckIv Z T a).1 - c)) (ckIv Z T b).2 with
      | false =>
        have h4 := ckLe0_f h3
        have := wb.2
        omega
      | true =>
        refine ⟨_, _, rfl, ck2_setl b (ck2_setl a hT fun u hu => ?_) fun u hu => ?_, fun z hz => ?_⟩
        · rw [ha] at hu
          cases hu
          exact ⟨wa.1, m1⟩
        · rw [hb] at hu
          cases hu
          exact ⟨m2, wb.2⟩
        · rcases List.mem_cons.mp hz with rfl | hz
          · exact ⟨x, y, ha, hb, h⟩
          · exact hZ z hz
theorem ckLim_ok (hT : ck2 ckW T I) (hZ : ∀ z ∈ Z, ckZok I z) {a : Nat} {lo hi : Int} {x : Int32} (ha : I[a]? = some x) (h1 : lo ≤ x.toInt) (h2 : x.toInt ≤ hi) : ∃ T1, ckLim T Z a lo hi = some T1 ∧ ck2 ckW T1 I := by
  have wa := ckIv_ok hT ha hZ
  have m1 : ckMax (ckIv Z T a).1 lo ≤ x.toInt := ckMax_le wa.1 h1
  have m2 : x.toInt ≤ ckMin (ckIv Z T a).2 hi := ckMin_ge wa.2 h2
  unfold ckLim
  cases h3 : ckLe0 (ckMax (ckIv Z T a).1 lo) (ckMin (ckIv Z T a).2 hi) with
  | false =>
    have := ckLe0_f h3
    omega
  | true =>
    refine ⟨_, rfl, ck2_setl a hT fun u hu => ?_⟩
    rw [ha] at hu
    cases hu
    exact ⟨m1, m2⟩
theorem ckNec_ok (hT : ck2 ckW T I) (hZ : ∀ z ∈ Z, ckZok I z) {a : Nat} {c : Int} {x : Int32} (ha : I[a]? = some x) (h : x.toInt ≠ c) : ∃ T1, ckNec T Z a c = some T1 ∧ ck2 ckW T1 I := by
  have wa := ckIv_ok hT ha hZ
  have hr := ck_rng x
  unfold ckNec
  cases h1 : ckLe0 c (ckIv Z T a).1 with
  | true =>
    dsimp only
    cases h2 : ckLe0 (ckIv Z T a).1 c with
    | true =>
      have h3 := ckLe0_t h1
      have h4 := wa.1
      exact ckLim_ok hT hZ ha (by omega) (by omega)
    | false => exact ⟨T, rfl, hT⟩
  | false =>
    dsimp only
    cases h2 : ckLe0 (ckIv Z T a).2 c with
    | true =>
      dsimp only
      cases h3 : ckLe0 c (ckIv Z T a).2 with
      | true =>
        have h4 := ckLe0_t h2
        have h5 := wa.2
        exact ckLim_ok hT hZ ha (by omega) (by omega)
      | false => exact ⟨T, rfl, hT⟩
    | false => exact ⟨T, rfl, hT⟩
theorem ckNe_ok (hT : ck2 ckW T I) (hZ : ∀ z ∈ Z, ckZok I z) {a b : Nat} {x y : Int32} (ha : I[a]? = some x) (hb : I[b]? = some y) (h : ¬ x = y) : ∃ T1, ckNe T Z a b = some T1 ∧ ck2 ckW T1 I := by
  have hn : ¬ x.toInt = y.toInt := fun q => h (Int32.toInt_inj.mp q)
  unfold ckNe
  cases h1 : ckEq T Z a b with
  | true => exact absurd (ckEq_ok hT hZ h1 ha hb) h
  | false =>
    dsimp only
    cases h2 : ckPt (ckIv Z T b) with
    | some c =>
      have h3 := ckPt_s h2 (ckIv_ok hT hb hZ)
      exact ckNec_ok hT hZ ha (by omega)
    | none =>
      dsimp only
      cases h3 : ckPt (ckIv Z T a) with
      | some c =>
        have h4 := ckPt_s h3 (ckIv_ok hT ha hZ)
        exact ckNec_ok hT hZ hb (by omega)
      | none => exact ⟨T, rfl, hT⟩
end CKENV

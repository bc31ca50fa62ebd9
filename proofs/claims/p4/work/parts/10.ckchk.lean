/-! THE CHECKER: one state told by another -/
theorem ckAll_mem {α : Type} {p : α → Bool} : ∀ {l : List α}, ckAll p l = true → ∀ a ∈ l, p a = true
  | [], _, a, h => absurd h List.not_mem_nil
  | x :: r, h, a, ha => by
    unfold ckAll at h
    cases hp : p x with
    | false => rw [hp] at h; cases h
    | true =>
      rw [hp] at h
      rcases List.mem_cons.mp ha with rfl | ha
      · exact hp
      · exact ckAll_mem h a ha
theorem ckAllN_get {α : Type} {p : Nat → α → Bool} : ∀ {l : List α} {n : Nat}, ckAllN p n l = true → ∀ (k : Nat) (a : α), l[k]? = some a → p (n + k) a = true
  | [], _, _, k, a, h => by simp at h
  | x :: r, n, h, k, a, ha => by
    unfold ckAllN at h
    cases hp : p n x with
    | false => rw [hp] at h; cases h
    | true =>
      rw [hp] at h
      cases k with
      | zero => cases ha; exact hp
      | succ k =>
        have := ckAllN_get h k a ha
        rwa [show n + 1 + k = n + (k + 1) by omega] at this
theorem ckAny_mem {α : Type} {p : α → Bool} : ∀ {l : List α}, ckAny p l = true → ∃ a ∈ l, p a = true
  | [], h => by cases h
  | x :: r, h => by
    unfold ckAny at h
    cases hp : p x with
    | true => exact ⟨x, List.mem_cons_self, hp⟩
    | false =>
      rw [hp] at h
      obtain ⟨a, h1, h2⟩ := ckAny_mem h
      exact ⟨a, List.mem_cons_of_mem _ h1, h2⟩
theorem ckAt1_s {nt n v : Nat} {ps : List (Nat × Nat)} {k : Nat → Bool} (h : ckAt1 nt n ps v k = true) : v < nt ∧ k (ckMp n ps v) = true := by
  unfold ckAt1 at h
  cases hb : Nat.ble (v + 1) nt with
  | false => rw [hb] at h; cases h
  | true => rw [hb] at h; exact ⟨Nat.le_of_ble_eq_true hb, h⟩
/-- a list picked out of another -/
def ckPick {α : Type} (f : Nat → Nat) (n : Nat) (l : List α) : List α := (List.range n).filterMap (fun k => l[f k]?)
theorem ckPick_aux {α : Type} (f : Nat → Nat) (l : List α) : ∀ (n : Nat), (∀ k, k < n → ∃ x, l[f k]? = some x) → (ckPick f n l).length = n ∧ ∀ k, k < n → (ckPick f n l)[k]? = l[f k]?
  | 0, _ => ⟨rfl, fun k h => absurd h (Nat.not_lt_zero k)⟩
  | n + 1, h => by
    obtain ⟨h1, h2⟩ := ckPick_aux f l n fun k hk => h k (by omega)
    obtain ⟨x, hx⟩ := h n (by omega)
    have e : ckPick f (n + 1) l = ckPick f n l ++ [x] := by
      unfold ckPick
      rw [List.range_succ, List.filterMap_append]
      simp [hx]
    refine ⟨by rw [e, List.length_append, h1]; rfl, fun k hk => ?_⟩
    rw [e]
    rcases Nat.lt_or_ge k n with q | q
    · rw [List.getElem?_append_left (by omega)]
      exact h2 k q
    · rw [show k = n by omega, hx]
      have h9 := ck_last (ckPick f n l) x
      rw [h1] at h9
      exact h9
/-- other names of rows outside -/
def ckOmOk (ω : List (Nat × ckV)) (ad : List Nat) (sa sa' : Nat → Nat) : Prop := (∀ k, ckLook k ω = none → sa' k = sa k) ∧ ∀ (k : Nat) (q : ckV), ckLook k ω = some q → (q.1 = 1 ∧ ad[q.2]? = some (sa' k)) ∨ (q.1 = 4 ∧ sa' k = sa q.2)
theorem ckOm_nil (ad : List Nat) (sa : Nat → Nat) : ckOmOk [] ad sa sa := ⟨fun _ _ => rfl, fun k q h => by cases h⟩
section CKCHK
variable {ω : List (Nat × ckV)} {sa' : Nat → Nat}
variable {nL : Nat} {tI : Nat → ClassId} {sa SL : Nat → Nat} {SX : Nat → Nat → Int32} {nk : Nat} {I I' : List Int32} {F F' : List (Nat → Int32)} {ad ad' : List Nat} {T : List ckI} {Z : List ckZ} {β ν : ckB} {μ : ckM}
theorem ckSame_ok (hω : ckOmOk ω ad sa sa') (hT : ck2 ckW T I) (hZ : ∀ z ∈ Z, ckZok I z) (hI : ∀ k, k < ν.1 → ∃ x, I[ckMp β.1 μ.1 k]? = some x ∧ I'[k]? = some x) (hA : ∀ k, k < ν.2.2 → ad'[k]? = ad[ckMp β.2.2 μ.2.2 k]?) {t q : ckV} {v : Value} (h : ckSame β ν μ ω T Z t q = true) (hv : ckHas I ad sa q v) : ckHas I' ad' sa' t v := by
  obtain ⟨tt, tn⟩ := t
  obtain ⟨qt, qn⟩ := q
  unfold ckSame at h
  dsimp only at h
  split at h
  · split at h
    · obtain ⟨x, rfl, hx⟩ := hv
      obtain ⟨h1, h2⟩ := ckAt1_s h
      obtain ⟨y, y1, y2⟩ := hI tn h1
      have e := ckEq_ok hT hZ h2 y1 hx
      subst e
      exact ⟨y, rfl, y2⟩
    · cases h
  · split at h
    · obtain ⟨a, rfl, ha⟩ := hv
      obtain ⟨h1, h2⟩ := ckAt1_s h
      have e := Nat.eq_of_beq_eq_true h2
      exact ⟨a, rfl, by show ad'[tn]? = _; rw [hA tn h1, e]; exact ha⟩
    · cases h
  · have e : qt = 2 := Nat.eq_of_beq_eq_true h
    subst e
    exact hv
  · have e : qt = 3 := Nat.eq_of_beq_eq_true h
    subst e
    exact hv
  · split at h
    · rename_i p hp
      obtain ⟨pt, pn⟩ := p
      split at h
      · rename_i hb
        have e1 : pt = qt := Nat.eq_of_beq_eq_true hb
        have e2 : pn = qn := Nat.eq_of_beq_eq_true h
        subst e1; subst e2
        rcases hω.2 _ _ hp with ⟨g1, g2⟩ | ⟨g1, g2⟩
        · dsimp only at g1 g2
          subst g1
          obtain ⟨a, rfl, ha⟩ := hv
          show Value.ref a = .ref (sa' tn)
          dsimp only at ha
          rw [g2] at ha
          cases ha
          rfl
        · dsimp only at g1 g2
          subst g1
          show v = .ref (sa' tn)
          rw [g2]
          exact hv
      · cases h
    · rename_i hp
      cases hb : Nat.beq qt 4 with
      | false => rw [hb] at h; cases h
      | true =>
        rw [hb] at h
        have e : qt = 4 := Nat.eq_of_beq_eq_true hb
        subst e
        have e2 : tn = qn := Nat.eq_of_beq_eq_true h
        subst e2
        show v = .ref (sa' tn)
        rw [hω.1 tn hp]
        exact hv
  · unfold ckHas
    dsimp only
    split <;> first | (exfalso; simp_all; done) | exact True.intro
  · cases h
theorem ckSames_ok (hω : ckOmOk ω ad sa sa') (hT : ck2 ckW T I) (hZ : ∀ z ∈ Z, ckZok I z) (hI : ∀ k, k < ν.1 → ∃ x, I[ckMp β.1 μ.1 k]? = some x ∧ I'[k]? = some x) (hA : ∀ k, k < ν.2.2 → ad'[k]? = ad[ckMp β.2.2 μ.2.2 k]?) : ∀ {ts qs : List ckV} {vs : List Value}, ckSames β ν μ ω T Z ts qs = true → ck2 (ckHas I ad sa) qs vs → ck2 (ckHas I' ad' sa') ts vs
  | [], [], [], _, _ => True.intro
  | t :: ts, q :: qs, v :: vs, h, hv => by
    unfold ckSames at h
    cases hb : ckSame β ν μ ω T Z t q with
    | false => rw [hb] at h; cases h
    | true =>
      rw [hb] at h
      exact ⟨ckSame_ok hω hT hZ hI hA hb hv.1, ckSames_ok hω hT hZ hI hA h hv.2⟩
  | [], [], _ :: _, _, hv => hv.elim
  | [], _ :: _, _, h, _ => by cases h
  | _ :: _, [], _, h, _ => by cases h
  | _ :: _, _ :: _, [], _, hv => hv.elim
theorem ckSameC_ok (hω : ckOmOk ω ad sa sa') (hT : ck2 ckW T I) (hZ : ∀ z ∈ Z, ckZok I z) (hI : ∀ k, k < ν.1 → ∃ x, I[ckMp β.1 μ.1 k]? = some x ∧ I'[k]? = some x) (hF : ∀ k, k < ν.2.1 → ∃ x, F[ckMp β.2.1 μ.2.1 k]? = some x ∧ F'[k]? = some x) (hA : ∀ k, k < ν.2.2 → ad'[k]? = ad[ckMp β.2.2 μ.2.2 k]?) {t q : ckC} {x : va_E} (h : ckSameC β ν μ ω T Z t q = true) (hx : ckOf tI I F ad sa q x) : ckOf tI I' F' ad' sa' t x := by
  unfold ckSameC at h
  cases t with
  | inl t =>
    obtain ⟨ci, ts⟩ := t
    dsimp only at h
    cases q with
    | inr q => cases h
    | inl q =>
      obtain ⟨cj, qs⟩ := q
      dsimp only at h
      cases hb : Nat.beq ci cj with
      | false => rw [hb] at h; cases h
      | true =>
        rw [hb] at h
        have e := Nat.eq_of_beq_eq_true hb
        subst e
        obtain ⟨vs, rfl, h2⟩ := hx
        exact ⟨vs, rfl, ckSames_ok hω hT hZ hI hA h h2⟩
  | inr t =>
    obtain ⟨u, ln, fv⟩ := t
    dsimp only at h
    cases q with
    | inl q => cases h
    | inr q =>
      obtain ⟨w, lm, fw⟩ := q
      dsimp only at h
      cases hb : Nat.beq u w with
      | false => rw [hb] at h; cases h
      | true =>
        rw [hb] at h
        have e := Nat.eq_of_beq_eq_true hb
        subst e
        dsimp only at h
        cases hl : ckAt1 ν.1 β.1 μ.1 ln (fun i => ckEq T Z i lm) with
        | false => rw [hl] at h; cases h
        | true =>
          rw [hl] at h
          obtain ⟨n, n1, n2, n3⟩ := hx
          obtain ⟨l1, l2⟩ := ckAt1_s hl
          obtain ⟨y, y1, y2⟩ := hI ln l1
          have e := ckEq_ok hT hZ l2 y1 n2
          refine ⟨n, n1, by rw [y2, e], ?_⟩
          dsimp only at h
          split at h
          · exact n3
          · rename_i hne
            split at n3
            · exact absurd rfl hne
            · obtain ⟨f, g, rfl, g1, g2⟩ := n3
              obtain ⟨f1, f2⟩ := ckAt1_s h
              have e2 := Nat.eq_of_beq_eq_true f2
              obtain ⟨z, z1, z2⟩ := hF fv f1
              rw [e2, g1] at z1
              cases z1
              exact ⟨f, g, rfl, z2, g2⟩
theorem ckInc_ok {A B : ckI} {x : Int32} (h : ckInc A B = true) (hx : ckW A x) : ckW B x := by
  unfold ckInc at h
  cases h1 : ckLe0 B.1 A.1 with
  | false => rw [h1] at h; cases h
  | true =>
    rw [h1] at h
    exact ⟨Int.le_trans (ckLe0_t h1) hx.1, Int.le_trans hx.2 (ckLe0_t h)⟩
theorem ckSegIn_ok {f : Nat → Int32} {ss : List (Nat × ckI)} (hs : ckSegOk f 0 ss) : ∀ {ts : List (Nat × ckI)} {k : Nat}, ckSegIn ss k ts = true → ckSegOk f k ts
  | [], _, _ => True.intro
  | (u, w) :: r, k, h => by
    unfold ckSegIn at h
    cases hb : Nat.ble (k + 1) u with
    | false =>
      rw [hb] at h
      have hu : ¬ k + 1 ≤ u := fun q => by rw [Nat.ble_eq_true_of_le q] at hb; cases hb
      exact ⟨fun j h1 h2 => by omega, ckSegIn_ok hs h⟩
    | true =>
      rw [hb] at h
      have hu := Nat.le_of_ble_eq_true hb
      dsimp only at h
      have at_ : ∀ j, k ≤ j → j < u → ∃ w, ckHull k (u - 1) 0 ss = some w ∧ ckW w (f j) := fun j h1 h2 => ckHull_ok h1 (by omega) hs (Nat.zero_le _)
      cases hh : ckHull k (u - 1) 0 ss with
      | none =>
        rw [hh] at h
        exact ⟨fun j h1 h2 => (by obtain ⟨w, w1, -⟩ := at_ j h1 h2; rw [hh] at w1; cases w1), ckSegIn_ok hs h⟩
      | some q =>
        rw [hh] at h
        dsimp only at h
        cases hi : ckInc q w with
        | false => rw [hi] at h; cases h
        | true =>
          rw [hi] at h
          exact ⟨fun j h1 h2 => (by obtain ⟨w1, w2, w3⟩ := at_ j h1 h2; rw [hh] at w2; cases w2; exact ckInc_ok hi w3), ckSegIn_ok hs h⟩
theorem ckGIn_ok (hT : ck2 ckW T I) (hZ : ∀ z ∈ Z, ckZok I z) (hI : ∀ k, k < ν.1 → ∃ x, I[ckMp β.1 μ.1 k]? = some x ∧ I'[k]? = some x) {t q : ckG} {f : Nat → Int32} (h : ckGIn β ν μ T Z t q = true) (hq : ckGok I q f) : ckGok I' t f := by
  unfold ckGIn at h
  split at h
  · rename_i hd
    cases hs : ckSegIn q.1 0 t.1 with
    | false => rw [hs] at h; cases h
    | true =>
      rw [hs] at h
      refine ⟨ckSegIn_ok hq.1 hs, fun o ho => ?_, fun o ho => by rw [hd] at ho; exact absurd ho List.not_mem_nil⟩
      have h1 := ckAll_mem h o ho
      cases hov : ckOv o.1 q.2.1 with
      | none => rw [hov] at h1; cases h1
      | some u =>
        rw [hov] at h1
        obtain ⟨a1, a2⟩ := ckAt1_s h1
        obtain ⟨x, x1, x2⟩ := hq.2.1 _ (ckOv_mem hov)
        obtain ⟨y, y1, y2⟩ := hI o.2 a1
        have e := ckEq_ok hT hZ a2 y1 x1
        exact ⟨y, y2, by rw [e]; exact x2⟩
  · cases h
theorem ckInts_s : ∀ {a b : List Int}, ckInts a b = true → a = b
  | [], [], _ => rfl
  | x :: r, y :: q, h => by
    unfold ckInts at h
    split at h
    · rename_i h1
      split at h
      · rename_i h2
        have h1 := ckLe0_t h1
        have h2 := ckLe0_t h2
        rw [show x = y by omega, ckInts_s h]
      · cases h
    · cases h
  | [], _ :: _, h => by cases h
  | _ :: _, [], h => by cases h
theorem ckKeq_ok (hT : ck2 ckW T I) (hZ : ∀ z ∈ Z, ckZok I z) (hI : ∀ k, k < ν.1 → ∃ x, I[ckMp β.1 μ.1 k]? = some x ∧ I'[k]? = some x) (hF : ∀ k, k < ν.2.1 → ∃ x, F[ckMp β.2.1 μ.2.1 k]? = some x ∧ F'[k]? = some x) {t q : ckK} (h : ckKeq β ν μ T Z t q = true) (hq : ckKok I F q) : ckKok I' F' t := by
  obtain ⟨tk, t1, t2, t3, t4⟩ := t
  obtain ⟨qk, q1, q2, q3, q4⟩ := q
  unfold ckKeq at h
  dsimp only at h
  cases hb : Nat.beq tk qk with
  | false => rw [hb] at h; cases h
  | true =>
    rw [hb] at h
    have e := Nat.eq_of_beq_eq_true hb
    subst e
    dsimp only at h
    have getI : ∀ {v w : Nat}, ckAt1 ν.1 β.1 μ.1 v (fun i => ckEq T Z i w) = true → ∀ x, I[w]? = some x → I'[v]? = some x := by
      intro v w g x hx
      obtain ⟨g1, g2⟩ := ckAt1_s g
      obtain ⟨y, y1, y2⟩ := hI v g1
      have e := ckEq_ok hT hZ g2 y1 hx
      rw [y2, e]
    have getF : ∀ {v w : Nat}, ckAt1 ν.2.1 β.2.1 μ.2.1 v (fun i => Nat.beq i w) = true → ∀ x, F[w]? = some x → F'[v]? = some x := by
      intro v w g x hx
      obtain ⟨g1, g2⟩ := ckAt1_s g
      obtain ⟨y, y1, y2⟩ := hF v g1
      rw [Nat.eq_of_beq_eq_true g2, hx] at y1
      cases y1
      exact y2
    split at h
    · split at h
      · rename_i a b c a1 b1 c1
        split at h
        · rename_i h1
          split at h
          · rename_i h2
            split at h
            · rename_i h3
              split at h
              · rename_i h4
                split at h
                · rename_i h5
                  obtain ⟨x, y, x1, y1, xy⟩ := hq
                  have l3 := ckLe0_t h3
                  have l4 := ckLe0_t h4
                  have l5 := ckLe0_t h5
                  have l6 := ckLe0_t h
                  refine ⟨x, y, getI h1 x x1, getI h2 y y1, fun e => ?_⟩
                  have := xy (by omega)
                  omega
                · cases h
              · cases h
            · cases h
          · cases h
        · cases h
      · cases h
    · obtain ⟨f, f1, f2⟩ := hq
      exact ⟨f, getF h f f1, f2⟩
    · split at h
      · rename_i h1
        split at h
        · rename_i h2
          obtain ⟨f, g, k, f1, f2, f3, f4⟩ := hq
          exact ⟨f, g, k, getF h1 f f1, getF h2 g f2, getF h k f3, f4⟩
        · cases h
      · cases h
    · split at h
      · rename_i h1
        split at h
        · rename_i h2
          obtain ⟨f, g, j, f1, f2, f3, f4⟩ := hq
          exact ⟨f, g, j, getF h1 f f1, getF h2 g f2, getI h j f3, f4⟩
        · cases h
      · cases h
    · split at h
      · rename_i h1
        split at h
        · rename_i h2
          obtain ⟨u, v, w, f1, f2, f3, f4⟩ := hq
          exact ⟨u, v, w, getI h1 u f1, getI h2 v f2, getI h w f3, f4⟩
        · cases h
      · cases h
    · split at h
      · rename_i h1
        split at h
        · rename_i h2
          have e4 : t4 = q4 := ckInts_s h
          subst e4
          rcases t4 with _ | ⟨m, _ | ⟨c, _ | ⟨d, r⟩⟩⟩
          · exact False.elim hq
          · exact False.elim hq
          · obtain ⟨u, v, f1, f2, f3⟩ := hq
            exact ⟨u, v, getI h1 u f1, getI h2 v f2, f3⟩
          · exact False.elim hq
        · cases h
      · cases h
    · cases h
end CKCHK
/-- a state that holds, told by another one -/
theorem ckChk_ok {ω : List (Nat × ckV)} {sa' : Nat → Nat} {nL : Nat} {tI : Nat → ClassId} {sa SL : Nat → Nat} {SX : Nat → Nat → Int32} {nk : Nat} {β : ckB} {μ : ckM} {σ τ : ckS} {I : List Int32} {F : List (Nat → Int32)} {ws : va_W} {ls : Array Slot} {st : List Value} (hω : ckOmOk ω (ws.map Prod.fst) sa sa') (h : ckChk β μ ω σ τ = true) (hR : ckRel nL tI sa SL SX nk σ I F ws ls st) :
    ∃ (I' : List Int32) (F' : List (Nat → Int32)) (ws' : va_W), ckRel nL tI sa' SL SX nk τ I' F' ws' ls st ∧ (∀ k, k < I'.length → I'[k]? = I[ckMp β.1 μ.1 k]?) ∧ (∀ k, k < F'.length → F'[k]? = F[ckMp β.2.1 μ.2.1 k]?) ∧ (∀ k, k < ws'.length → ws'[k]? = ws[ckMp β.2.2 μ.2.2 k]?) ∧ ws' = ckPick (ckMp β.2.2 μ.2.2) τ.2.2.1.length ws := by
  obtain ⟨L, S, C, T, G, X, Z, K, nc, ns⟩ := σ
  obtain ⟨L1, S1, C1, T1, G1, X1, Z1, K1, nc1, ns1⟩ := τ
  obtain ⟨⟨lv, hl1, hl2⟩, hS, hE⟩ := hR
  unfold ckChk at h
  dsimp only at h
  generalize hν : (T1.length, G1.length, C1.length) = ν at h
  have n1 : ν.1 = T1.length := by rw [← hν]
  have n2 : ν.2.1 = G1.length := by rw [← hν]
  have n3 : ν.2.2 = C1.length := by rw [← hν]
  split at h
  · cases h
  rename_i cL
  split at h
  · cases h
  rename_i cS
  split at h
  · cases h
  rename_i cC
  split at h
  · cases h
  rename_i cT
  split at h
  · cases h
  rename_i cG
  split at h
  · cases h
  rename_i cX
  split at h
  · cases h
  rename_i cZ
  have pT : ∀ k, k < T1.length → ∃ x, I[ckMp β.1 μ.1 k]? = some x ∧ ∀ w, T1[k]? = some w → ckW w x := by
    intro k hk
    obtain ⟨w, hw⟩ : ∃ w, T1[k]? = some w := ⟨_, List.getElem?_eq_getElem hk⟩
    have h1 := ckAllN_get cT k w hw
    rw [Nat.zero_add] at h1
    cases hb : Nat.ble (ckMp β.1 μ.1 k + 1) T.length with
    | false => rw [hb] at h1; cases h1
    | true =>
      rw [hb] at h1
      have hlt := Nat.le_of_ble_eq_true hb
      have hlen : T.length = I.length := hE.len
      obtain ⟨x, hx⟩ : ∃ x, I[ckMp β.1 μ.1 k]? = some x := ⟨_, List.getElem?_eq_getElem (by omega)⟩
      refine ⟨x, hx, fun w2 hw2 => ?_⟩
      rw [hw] at hw2
      cases hw2
      exact ckInc_ok h1 (ckIv_ok hE.2.1 hx hE.2.2.2.2.1)
  have pG : ∀ k, k < G1.length → ∃ f, F[ckMp β.2.1 μ.2.1 k]? = some f ∧ ∃ q, ckGok I q f ∧ ∀ t, G1[k]? = some t → ckGIn β ν μ T Z t q = true := by
    intro k hk
    obtain ⟨t, ht⟩ : ∃ t, G1[k]? = some t := ⟨_, List.getElem?_eq_getElem hk⟩
    have h1 := ckAllN_get cG k t ht
    rw [Nat.zero_add] at h1
    cases hg : G[ckMp β.2.1 μ.2.1 k]? with
    | none => rw [hg] at h1; cases h1
    | some q =>
      rw [hg] at h1
      obtain ⟨f, f1, f2⟩ := ck2_get hE.2.2.1 hg
      exact ⟨f, f1, q, f2, fun t2 ht2 => by rw [ht] at ht2; cases ht2; exact h1⟩
  have pC : ∀ k, k < C1.length → ∃ x, ws[ckMp β.2.2 μ.2.2 k]? = some x ∧ ∃ q, ckOf tI I F (ws.map Prod.fst) sa q x.2 ∧ ∀ t, C1[k]? = some t → ckSameC β ν μ ω T Z t q = true := by
    intro k hk
    obtain ⟨t, ht⟩ : ∃ t, C1[k]? = some t := ⟨_, List.getElem?_eq_getElem hk⟩
    have h1 := ckAllN_get cC k t ht
    rw [Nat.zero_add] at h1
    cases hg : C[ckMp β.2.2 μ.2.2 k]? with
    | none => rw [hg] at h1; cases h1
    | some q =>
      rw [hg] at h1
      obtain ⟨y, y1, y2⟩ := ck2_get hE.1 hg
      rw [List.getElem?_map] at y1
      cases hw : ws[ckMp β.2.2 μ.2.2 k]? with
      | none => rw [hw] at y1; cases y1
      | some x =>
        rw [hw] at y1
        cases y1
        exact ⟨x, rfl, q, y2, fun t2 ht2 => by rw [ht] at ht2; cases ht2; exact h1⟩
  obtain ⟨lI, gI⟩ := ckPick_aux (ckMp β.1 μ.1) I T1.length fun k hk => by obtain ⟨x, hx, -⟩ := pT k hk; exact ⟨x, hx⟩
  obtain ⟨lF, gF⟩ := ckPick_aux (ckMp β.2.1 μ.2.1) F G1.length fun k hk => by obtain ⟨x, hx, -⟩ := pG k hk; exact ⟨x, hx⟩
  obtain ⟨lW, gW⟩ := ckPick_aux (ckMp β.2.2 μ.2.2) ws C1.length fun k hk => by obtain ⟨x, hx, -⟩ := pC k hk; exact ⟨x, hx⟩
  have hI : ∀ k, k < ν.1 → ∃ x, I[ckMp β.1 μ.1 k]? = some x ∧ (ckPick (ckMp β.1 μ.1) T1.length I)[k]? = some x := by
    intro k hk
    obtain ⟨x, hx, -⟩ := pT k (by omega)
    exact ⟨x, hx, by rw [gI k (by omega)]; exact hx⟩
  have hF : ∀ k, k < ν.2.1 → ∃ x, F[ckMp β.2.1 μ.2.1 k]? = some x ∧ (ckPick (ckMp β.2.1 μ.2.1) G1.length F)[k]? = some x := by
    intro k hk
    obtain ⟨x, hx, -⟩ := pG k (by omega)
    exact ⟨x, hx, by rw [gF k (by omega)]; exact hx⟩
  have hA : ∀ k, k < ν.2.2 → ((ckPick (ckMp β.2.2 μ.2.2) C1.length ws).map Prod.fst)[k]? = (ws.map Prod.fst)[ckMp β.2.2 μ.2.2 k]? := by
    intro k hk
    rw [List.getElem?_map, List.getElem?_map, gW k (by omega)]
  have hT := hE.2.1
  have hZ := hE.2.2.2.2.1
  refine ⟨ckPick (ckMp β.1 μ.1) T1.length I, ckPick (ckMp β.2.1 μ.2.1) G1.length F, ckPick (ckMp β.2.2 μ.2.2) C1.length ws, ⟨⟨lv, hl1, fun q hq => ?_⟩, ckSames_ok hω hT hZ hI hA cS hS, ck2_of ?_ ?_, ck2_of (by rw [lI]) ?_, ck2_of (by rw [lF]) ?_, fun q hq => ?_, fun z hz => ?_, fun k hk => ?_⟩, fun k hk => gI k (by omega), fun k hk => gF k (by omega), fun k hk => gW k (by omega), rfl⟩
  · have h1 := ckAll_mem cL q hq
    cases hk : ckLook q.1 L with
    | none => rw [hk] at h1; cases h1
    | some t =>
      rw [hk] at h1
      obtain ⟨v, v1, v2⟩ := hl2 _ (ckLook_mem hk)
      exact ⟨v, v1, ckSame_ok hω hT hZ hI hA h1 v2⟩
  · rw [List.length_map, lW]
  · intro k t x ht hx
    have hk := (List.getElem?_eq_some_iff.mp ht).1
    obtain ⟨y, y1, q, y2, y3⟩ := pC k hk
    rw [List.getElem?_map, gW k hk, y1] at hx
    cases hx
    exact ckSameC_ok hω hT hZ hI hF hA (y3 t ht) y2
  · intro k w x hw hx
    have hk := (List.getElem?_eq_some_iff.mp hw).1
    obtain ⟨y, y1, y2⟩ := pT k hk
    rw [gI k hk, y1] at hx
    cases hx
    exact y2 w hw
  · intro k t f ht hf
    have hk := (List.getElem?_eq_some_iff.mp ht).1
    obtain ⟨g, g1, q, g2, g3⟩ := pG k hk
    rw [gF k hk, g1] at hf
    cases hf
    exact ckGIn_ok hT hZ hI (g3 t ht) g2
  · have h1 := ckAll_mem cX q hq
    cases hk : ckXlook q.1 X with
    | none => rw [hk] at h1; cases h1
    | some t =>
      rw [hk] at h1
      dsimp only at h1
      cases hl : ckAt1 T1.length β.1 μ.1 q.2.1 (fun i => ckEq T Z i t.1) with
      | false => rw [hl] at h1; cases h1
      | true =>
        rw [hl] at h1
        obtain ⟨a1, a2⟩ := ckAt1_s hl
        obtain ⟨b1, b2⟩ := ckAt1_s h1
        obtain ⟨x0, x1, x2, g, x3, x4⟩ := hE.2.2.2.1 _ (ckXlook_mem hk)
        obtain ⟨y, y1, y2⟩ := hI q.2.1 (by omega)
        have e := ckEq_ok hT hZ a2 y1 x2
        obtain ⟨f, f1, f2⟩ := hF q.2.2 (by omega)
        rw [Nat.eq_of_beq_eq_true b2, x3] at f1
        cases f1
        exact ⟨x0, x1, by rw [y2, e], g, f2, x4⟩
  · have h1 := ckAll_mem cZ z hz
    obtain ⟨a1, a2⟩ := ckAt1_s h1
    obtain ⟨b1, b2⟩ := ckAt1_s a2
    obtain ⟨x, x1, x2⟩ := hI z.1 (by omega)
    obtain ⟨y, y1, y2⟩ := hI z.2.1 (by omega)
    exact ⟨x, y, x2, y2, ckLeq_ok hT hZ b2 x1 y1⟩
  · have h1 := ckAll_mem h k hk
    obtain ⟨q, q1, q2⟩ := ckAny_mem h1
    exact ckKeq_ok hT hZ hI hF q2 (hE.2.2.2.2.2 q q1)
theorem ckAll2_get {α β : Type} {p : α → β → Bool} : ∀ {xs : List α} {ys : List β}, ckAll2 p xs ys = true → ∀ (k : Nat) (x : α), xs[k]? = some x → ∃ y, ys[k]? = some y ∧ p x y = true
  | [], _, _, k, x, hx => by simp at hx
  | _ :: _, [], h, _, _, _ => by cases h
  | a :: r, b :: q, h, k, x, hx => by
    unfold ckAll2 at h
    cases hp : p a b with
    | false => rw [hp] at h; cases h
    | true =>
      rw [hp] at h
      cases k with
      | zero => cases hx; exact ⟨b, rfl, hp⟩
      | succ k => exact ckAll2_get h k x hx
theorem ckAllN_of {α : Type} {p : Nat → α → Bool} : ∀ {xs : List α} {s : Nat}, (∀ (k : Nat) (x : α), xs[k]? = some x → p (s + k) x = true) → ckAllN p s xs = true
  | [], _, _ => rfl
  | a :: r, s, h => by
    unfold ckAllN
    rw [show p s a = true from h 0 a rfl]
    exact ckAllN_of fun k x hx => by rw [Nat.add_assoc, Nat.add_comm 1 k]; exact h (k + 1) x hx
theorem ckChkZ_ok {β : ckB} {μ : ckM} {σ τ : ckS} (h : ckChkZ β μ σ τ = true) (hl : β.2.2 = σ.2.2.1.length) : ckChk β μ [] σ τ = true := by
  obtain ⟨L, S, C, T, G, X, Z, K, nc, ns⟩ := σ
  obtain ⟨L1, S1, C1, T1, G1, X1, Z1, K1, nc1, ns1⟩ := τ
  unfold ckChkZ at h
  unfold ckChk
  dsimp only at h hl ⊢
  split at h
  · cases h
  split at h
  · cases h
  split at h
  · cases h
  rename_i cC
  have e : ckAllN (fun k t => match C[ckMp β.2.2 μ.2.2 k]? with
      | some s => ckSameC β (T1.length, G1.length, C1.length) μ [] T Z t s
      | none => false) 0 C1 = true := ckAllN_of fun k t ht => by
    obtain ⟨s, hs, hp⟩ := ckAll2_get cC k t ht
    have hk : k < C.length := (List.getElem?_eq_some_iff.mp hs).1
    have em : ckMp β.2.2 μ.2.2 (0 + k) = k := by
      unfold ckMp
      rw [Nat.zero_add, Nat.ble_eq_true_of_le (show k + 1 ≤ β.2.2 by omega)]
    rw [em, hs]
    exact hp
  exact (show ∀ (b x : Bool), b = true → x = true → (match b with
    | false => false
    | true => x) = true from fun b x hb hx => by subst hb; exact hx) _ _ e h

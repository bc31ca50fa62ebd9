/-! THE CHECKER: facts out of facts -/
theorem ckAnd_c {b : Bool} {r : List Bool} (h : ckAnd (b :: r) = true) : b = true ∧ ckAnd r = true := by
  cases b with
  | false => cases h
  | true => exact ⟨rfl, h⟩
theorem ckKsm_s {s k : ckK} (h : ckKsm s k = true) : s = k := by
  obtain ⟨a, b, c, d, e⟩ := s
  obtain ⟨a', b', c', d', e'⟩ := k
  unfold ckKsm at h
  split at h
  · cases h
  rename_i h1
  split at h
  · cases h
  rename_i h2
  split at h
  · cases h
  rename_i h3
  split at h
  · cases h
  rename_i h4
  have e1 : a = a' := Nat.eq_of_beq_eq_true h1
  have e2 : b = b' := Nat.eq_of_beq_eq_true h2
  have e3 : c = c' := Nat.eq_of_beq_eq_true h3
  have e4 : d = d' := Nat.eq_of_beq_eq_true h4
  have e5 : e = e' := ckInts_s h
  rw [e1, e2, e3, e4, e5]
theorem ckHasK_s {K : List ckK} {k : ckK} (h : ckHasK K k = true) : k ∈ K := by
  obtain ⟨s, hs, h⟩ := ckAny_mem h
  rw [← ckKsm_s h]
  exact hs
theorem ck_natc {y : Int32} {n : Nat} (h : y.toInt = (n : Int)) : y.toNatClampNeg = n := by
  show y.toInt.toNat = n
  omega
section CKFACT
variable {T : List ckI} {Z : List ckZ} {K : List ckK} {I : List Int32} {F : List (Nat → Int32)}
theorem ckCst_s (hT : ck2 ckW T I) (hZ : ∀ z ∈ Z, ckZok I z) {n : Nat} {v : Int} (h : ckCst T Z n v = true) {x : Int32} (hx : I[n]? = some x) : x.toInt = v := by
  have w := ckIv_ok hT hx hZ
  unfold ckCst at h
  split at h
  · rename_i h1
    have h1 := ckLe0_t h1
    have h2 := ckLe0_t h
    have := w.1
    have := w.2
    omega
  · cases h
theorem ckWin_s (hT : ck2 ckW T I) (hZ : ∀ z ∈ Z, ckZok I z) {n : Nat} {lo hi : Int} (h : ckWin T Z n lo hi = true) {x : Int32} (hx : I[n]? = some x) : lo ≤ x.toInt ∧ x.toInt ≤ hi := by
  have w := ckIv_ok hT hx hZ
  unfold ckWin at h
  split at h
  · rename_i h1
    have h1 := ckLe0_t h1
    have h2 := ckLe0_t h
    have := w.1
    have := w.2
    omega
  · cases h
theorem ckAf0_s (hT : ck2 ckW T I) (hZ : ∀ z ∈ Z, ckZok I z) (hK : ∀ k ∈ K, ckKok I F k) {q m c4 s c77 : Nat} (h : ckAf0 T Z K q m c4 s c77 = true) : ∃ x y : Int32, I[q]? = some x ∧ I[s]? = some y ∧ 0 ≤ x.toInt ∧ x.toInt ≤ 29 ∧ y.toInt = 77 + 4 * x.toInt := by
  unfold ckAf0 at h
  obtain ⟨g1, h⟩ := ckAnd_c h
  obtain ⟨g2, h⟩ := ckAnd_c h
  obtain ⟨g3, h⟩ := ckAnd_c h
  obtain ⟨g4, h⟩ := ckAnd_c h
  obtain ⟨g5, h⟩ := ckAnd_c h
  obtain ⟨u, v, w, a1, a2, a3, a4⟩ := hK _ (ckHasK_s g1)
  obtain ⟨u', v', w', b1, b2, b3, b4⟩ := hK _ (ckHasK_s g3)
  dsimp only at a1 a2 a3 b1 b2 b3
  rw [if_neg (by decide), if_pos rfl] at a4
  rw [if_pos rfl] at b4
  rw [a1] at b3
  cases b3
  have c1 := ckCst_s hT hZ g2 a2
  have c2 := ckCst_s hT hZ g4 b2
  have c3 := ckWin_s hT hZ g5 a3
  have e1 : (v * w).toInt = 4 * w.toInt := by rw [ck_mulI (by rw [c1]; omega) (by rw [c1]; omega), c1]
  refine ⟨w, u', a3, b1, c3.1, c3.2, ?_⟩
  rw [b4, a4, ck_addI (by rw [c2, e1]; omega) (by rw [c2, e1]; omega), c2, e1]
theorem ckAfx_s (hT : ck2 ckW T I) (hZ : ∀ z ∈ Z, ckZok I z) (hK : ∀ k ∈ K, ckKok I F k) {q m c4 s c77 i co : Nat} {off : Int} (h : ckAfx T Z K q m c4 s c77 i co off = true) (h0 : 0 ≤ off) (h3 : off ≤ 3) : ∃ x y : Int32, I[q]? = some x ∧ I[i]? = some y ∧ 0 ≤ x.toInt ∧ x.toInt ≤ 29 ∧ y.toInt = 77 + 4 * x.toInt + off := by
  unfold ckAfx at h
  split at h
  · rename_i hb
    have e := Nat.eq_of_beq_eq_true hb
    subst e
    split at h
    · rename_i hf
      obtain ⟨x, y, a1, a2, a3, a4, a5⟩ := ckAf0_s hT hZ hK hf
      have := ckLe0_t h
      exact ⟨x, y, a1, a2, a3, a4, by omega⟩
    · cases h
  · unfold ckAff at h
    obtain ⟨g1, h⟩ := ckAnd_c h
    obtain ⟨g2, h⟩ := ckAnd_c h
    obtain ⟨g3, h⟩ := ckAnd_c h
    obtain ⟨g4, h⟩ := ckAnd_c h
    obtain ⟨g5, h⟩ := ckAnd_c h
    obtain ⟨g6, h⟩ := ckAnd_c h
    obtain ⟨g7, h⟩ := ckAnd_c h
    have hf : ckAf0 T Z K q m c4 s c77 = true := by
      unfold ckAf0
      rw [g1, g2, g3, g4, g5]
      rfl
    obtain ⟨x, y, a1, a2, a3, a4, a5⟩ := ckAf0_s hT hZ hK hf
    obtain ⟨u, v, w, b1, b2, b3, b4⟩ := hK _ (ckHasK_s g6)
    dsimp only at b1 b2 b3
    rw [if_pos rfl] at b4
    rw [a2] at b2
    cases b2
    have c1 := ckCst_s hT hZ g7 b3
    refine ⟨x, u, a1, b1, a3, a4, ?_⟩
    rw [b4, ck_addI (by omega) (by omega), c1, a5]
theorem ckRgo_s (hT : ck2 ckW T I) (hZ : ∀ z ∈ Z, ckZok I z) {x0 x1 x2 : Nat} (h : ckRgo T Z x0 x1 x2 = true) {a b c : Int32} (ha : I[x0]? = some a) (hb : I[x1]? = some b) (hc : I[x2]? = some c) : (a.toInt = 0 → 0 ≤ b.toInt ∧ b.toInt ≤ 47) ∧ (a.toInt = 1 → 0 ≤ c.toInt ∧ c.toInt ≤ 47) := by
  have w := ckIv_ok hT ha hZ
  have w1 := w.1
  have w2 := w.2
  unfold ckRgo at h
  split at h
  · cases h
  rename_i h1
  refine ⟨fun e => ?_, fun e => ?_⟩
  · split at h1
    · rename_i g
      have := ckLe0_t g
      omega
    · split at h1
      · rename_i g
        have := ckLe0_t g
        omega
      · exact ckWin_s hT hZ h1 hb
  · split at h
    · rename_i g
      have := ckLe0_t g
      omega
    · split at h
      · rename_i g
        have := ckLe0_t g
        omega
      · exact ckWin_s hT hZ h hc
theorem ckBlk_s (hT : ck2 ckW T I) (hZ : ∀ z ∈ Z, ckZok I z) (hK : ∀ k ∈ K, ckKok I F k) {a : Nat → Nat} (h : ckBlk T Z K a = true) : ckKok I F (1, a 25, 0, 0, []) := by
  unfold ckBlk at h
  split at h
  · cases h
  rename_i g
  obtain ⟨g1, g⟩ := ckAnd_c g
  obtain ⟨g2, g⟩ := ckAnd_c g
  obtain ⟨g3, g⟩ := ckAnd_c g
  obtain ⟨g4, g⟩ := ckAnd_c g
  obtain ⟨g5, g⟩ := ckAnd_c g
  obtain ⟨g6, g⟩ := ckAnd_c g
  obtain ⟨g7, g⟩ := ckAnd_c g
  obtain ⟨f0, k1, k2⟩ := hK _ (ckHasK_s g1)
  obtain ⟨x, y0, p1, p2, p3, p4, p5⟩ := ckAfx_s hT hZ hK g2 (by omega) (by omega)
  obtain ⟨x', y1, q1, q2, q3, q4, q5⟩ := ckAfx_s hT hZ hK g4 (by omega) (by omega)
  obtain ⟨x'', y2, r1, r2, r3, r4, r5⟩ := ckAfx_s hT hZ hK g6 (by omega) (by omega)
  rw [p1] at q1 r1
  cases q1; cases r1
  obtain ⟨f1, f0', j0, v0, s1, s2, s3, s4, s5⟩ := hK _ (ckHasK_s g3)
  obtain ⟨f2, f1', j1, v1, t1, t2, t3, t4, t5⟩ := hK _ (ckHasK_s g5)
  obtain ⟨f3, f2', j2, v2, u1, u2, u3, u4, u5⟩ := hK _ (ckHasK_s g7)
  dsimp only at k1 s1 s2 s3 s4 t1 t2 t3 t4 u1 u2 u3 u4
  rw [k1] at s2; cases s2
  rw [s1] at t2; cases t2
  rw [t1] at u2; cases u2
  rw [p2] at s3; cases s3
  rw [q2] at t3; cases t3
  rw [r2] at u3; cases u3
  have s4 : I[a 7]? = some v0 := s4
  have t4 : I[a 14]? = some v1 := t4
  have u4 : I[a 21]? = some v2 := u4
  have e0 : y0.toNatClampNeg = 77 + 4 * x.toInt.toNat := ck_natc (by omega)
  have e1 : y1.toNatClampNeg = 78 + 4 * x.toInt.toNat := ck_natc (by omega)
  have e2 : y2.toNatClampNeg = 79 + 4 * x.toInt.toNat := ck_natc (by omega)
  rw [e0] at s5
  rw [e1] at t5
  rw [e2] at u5
  have hR : (v0.toInt = 0 → 0 ≤ v1.toInt ∧ v1.toInt ≤ 47) ∧ (v0.toInt = 1 → 0 ≤ v2.toInt ∧ v2.toInt ≤ 47) := by
    split at h
    · rename_i hg
      exact ckRgo_s hT hZ hg s4 t4 u4
    · obtain ⟨h1, h⟩ := ckAnd_c h
      obtain ⟨h2, h⟩ := ckAnd_c h
      obtain ⟨h3, h⟩ := ckAnd_c h
      obtain ⟨h4, h⟩ := ckAnd_c h
      obtain ⟨h5, h⟩ := ckAnd_c h
      obtain ⟨h6, h⟩ := ckAnd_c h
      obtain ⟨z, b0, m1, m2, m3, m4, m5⟩ := ckAfx_s hT hZ hK h1 (by omega) (by omega)
      obtain ⟨z', b1, n1, n2, n3, n4, n5⟩ := ckAfx_s hT hZ hK h3 (by omega) (by omega)
      obtain ⟨z'', b2, o1, o2, o3, o4, o5⟩ := ckAfx_s hT hZ hK h5 (by omega) (by omega)
      rw [m1] at n1 o1
      cases n1; cases o1
      obtain ⟨w0, i0, c0, a1, a2, a3, a4⟩ := hK _ (ckHasK_s h2)
      obtain ⟨w1, i1, c1, b1', b2', b3', b4'⟩ := hK _ (ckHasK_s h4)
      obtain ⟨w2, i2, c2, d1, d2, d3, d4⟩ := hK _ (ckHasK_s h6)
      dsimp only at a1 a2 a3 b1' b2' b3' d1 d2 d3
      rw [k1] at a1; cases a1
      rw [s1] at b1'; cases b1'
      rw [t1] at d1; cases d1
      rw [m2] at a2; cases a2
      rw [n2] at b2'; cases b2'
      rw [o2] at d2; cases d2
      rw [s4] at a3; cases a3
      rw [t4] at b3'; cases b3'
      rw [u4] at d3; cases d3
      have i0 : b0.toNatClampNeg = 77 + 4 * z.toInt.toNat := ck_natc (by omega)
      have i1 : b1.toNatClampNeg = 78 + 4 * z.toInt.toNat := ck_natc (by omega)
      have i2 : b2.toNatClampNeg = 79 + 4 * z.toInt.toNat := ck_natc (by omega)
      rw [i0] at a4
      rw [i1, s5, if_neg (by omega)] at b4'
      rw [i2, t5, if_neg (by omega), s5, if_neg (by omega)] at d4
      have := k2 z.toInt.toNat (by omega)
      rw [a4, b4', d4] at this
      exact this
  refine ⟨f3, u1, fun k hk => ?_⟩
  by_cases hkx : k = x.toInt.toNat
  · subst hkx
    rw [u5, if_neg (by omega), t5, if_neg (by omega), s5, if_pos rfl, u5 (78 + 4 * x.toInt.toNat), if_neg (by omega), t5, if_pos rfl, u5 (79 + 4 * x.toInt.toNat), if_pos rfl]
    exact hR
  · have e : ∀ t, t = 77 + 4 * k ∨ t = 78 + 4 * k ∨ t = 79 + 4 * k → f3 t = f0 t := by
      intro t ht
      rw [u5, if_neg (by omega), t5, if_neg (by omega), s5, if_neg (by omega)]
    rw [e _ (by omega), e _ (by omega), e _ (by omega)]
    exact k2 k hk
theorem ckIf1_s {b : Bool} {k k' : ckK} (h : ckIf1 b k = some k') : b = true ∧ k = k' := by
  unfold ckIf1 at h
  split at h
  · cases h; exact ⟨rfl, rfl⟩
  · cases h
theorem ck_len {α : Type} {l : List α} {k n : Nat} (h : Nat.ble (k + 1) n = true) (hl : n = l.length) : ∃ x, l[k]? = some x := ⟨_, List.getElem?_eq_getElem (by have := Nat.le_of_ble_eq_true h; omega)⟩
theorem ckHull_0 {g : ckG} {f : Nat → Int32} {a b : Nat} (hg : ckGok I g f) (h : (match ckHull a b 0 g.1 with
    | none => true
    | some w => match ckLe0 0 w.1 with
      | true => ckLe0 w.2 0
      | false => false) = true) : ∀ j, a ≤ j → j ≤ b → (f j).toInt = 0 := by
  intro j h1 h2
  obtain ⟨w, w1, w2⟩ := ckHull_ok h1 h2 hg.1 (Nat.zero_le j)
  rw [w1] at h
  dsimp only at h
  split at h
  · rename_i h3
    have h3 := ckLe0_t h3
    have h4 := ckLe0_t h
    have := w2.1
    have := w2.2
    omega
  · cases h
end CKFACT
section CKDER
variable {tI : Nat → ClassId} {sa SL : Nat → Nat} {SX : Nat → Nat → Int32} {nk : Nat} {σ : ckS} {I : List Int32} {F : List (Nat → Int32)} {ws : va_W}
theorem ckDer_ok {rule : Nat} {l : List Int} {k : ckK} (hE : ckEnvS tI sa SL SX nk σ I F ws) (h : ckDer σ rule l = some k) : ckKok I F k := by
  obtain ⟨L, S, C, T, G, X, Z, K, nc, ns⟩ := σ
  have hT : ck2 ckW T I := hE.2.1
  have hG : ck2 (ckGok I) G F := hE.2.2.1
  have hZ : ∀ z ∈ Z, ckZok I z := hE.2.2.2.2.1
  have hK : ∀ k ∈ K, ckKok I F k := hE.2.2.2.2.2
  have lT : T.length = I.length := ckEnv.len hE
  have lG : G.length = F.length := ckEnv.lenF hE
  unfold ckDer at h
  dsimp only at h
  split at h
  · -- 1
    obtain ⟨h', rfl⟩ := ckIf1_s h
    clear h
    have h := h'
    exact ckBlk_s hT hZ hK h
  · -- 2
    obtain ⟨h', rfl⟩ := ckIf1_s h
    clear h
    have h := h'
    obtain ⟨g1, h⟩ := ckAnd_c h
    obtain ⟨g2, h⟩ := ckAnd_c h
    obtain ⟨g3, h⟩ := ckAnd_c h
    obtain ⟨f0, k1, k2⟩ := hK _ (ckHasK_s g1)
    obtain ⟨x, y, p1, p2, p3, p4, p5⟩ := ckAfx_s hT hZ hK g2 (by omega) (by omega)
    obtain ⟨f1, f0', j0, v0, s1, s2, s3, s4, s5⟩ := hK _ (ckHasK_s g3)
    dsimp only at k1 s1 s2 s3
    rw [k1] at s2; cases s2
    rw [p2] at s3; cases s3
    have e : y.toNatClampNeg = 80 + 4 * x.toInt.toNat := ck_natc (by omega)
    rw [e] at s5
    refine ⟨f1, s1, fun k hk => ?_⟩
    rw [s5, if_neg (by omega), s5 (78 + 4 * k), if_neg (by omega), s5 (79 + 4 * k), if_neg (by omega)]
    exact k2 k hk
  · -- 3
    obtain ⟨h', rfl⟩ := ckIf1_s h
    clear h
    have h := h'
    obtain ⟨g1, h⟩ := ckAnd_c h
    obtain ⟨g2, h⟩ := ckAnd_c h
    obtain ⟨g3, h⟩ := ckAnd_c h
    obtain ⟨g4, h⟩ := ckAnd_c h
    obtain ⟨g5, h⟩ := ckAnd_c h
    obtain ⟨f0, k1, k2⟩ := hK _ (ckHasK_s g1)
    obtain ⟨x, y, p1, p2, p3, p4, p5⟩ := ckAfx_s hT hZ hK g2 (by omega) (by omega)
    obtain ⟨x', y', q1, q2, q3, q4, q5⟩ := ckAfx_s hT hZ hK g3 (by omega) (by omega)
    rw [p1] at q1; cases q1
    obtain ⟨w0, i0, c0, a1, a2, a3, a4⟩ := hK _ (ckHasK_s g4)
    obtain ⟨w1, i1, c1, b1, b2, b3, b4⟩ := hK _ (ckHasK_s g5)
    dsimp only at k1 a1 a2 a3 b1 b2 b3
    rw [k1] at a1 b1; cases a1; cases b1
    rw [p2] at a2; cases a2
    rw [q2] at b2; cases b2
    rw [show y.toNatClampNeg = 77 + 4 * x.toInt.toNat from ck_natc (by omega)] at a4
    rw [show y'.toNatClampNeg = 78 + 4 * x.toInt.toNat from ck_natc (by omega)] at b4
    have := (k2 x.toInt.toNat (by omega)).1
    rw [a4, b4] at this
    exact ⟨c0, c1, a3, b3, this⟩
  · -- 4
    obtain ⟨h', rfl⟩ := ckIf1_s h
    clear h
    have h := h'
    obtain ⟨g1, h⟩ := ckAnd_c h
    obtain ⟨g2, h⟩ := ckAnd_c h
    obtain ⟨g3, h⟩ := ckAnd_c h
    obtain ⟨g4, h⟩ := ckAnd_c h
    obtain ⟨g5, h⟩ := ckAnd_c h
    obtain ⟨f0, k1, k2⟩ := hK _ (ckHasK_s g1)
    obtain ⟨x, y, p1, p2, p3, p4, p5⟩ := ckAfx_s hT hZ hK g2 (by omega) (by omega)
    obtain ⟨x', y', q1, q2, q3, q4, q5⟩ := ckAfx_s hT hZ hK g3 (by omega) (by omega)
    rw [p1] at q1; cases q1
    obtain ⟨w0, i0, c0, a1, a2, a3, a4⟩ := hK _ (ckHasK_s g4)
    obtain ⟨w1, i1, c1, b1, b2, b3, b4⟩ := hK _ (ckHasK_s g5)
    dsimp only at k1 a1 a2 a3 b1 b2 b3
    rw [k1] at a1 b1; cases a1; cases b1
    rw [p2] at a2; cases a2
    rw [q2] at b2; cases b2
    rw [show y.toNatClampNeg = 77 + 4 * x.toInt.toNat from ck_natc (by omega)] at a4
    rw [show y'.toNatClampNeg = 79 + 4 * x.toInt.toNat from ck_natc (by omega)] at b4
    have := (k2 x.toInt.toNat (by omega)).2
    rw [a4, b4] at this
    exact ⟨c0, c1, a3, b3, this⟩
  · -- 5
    obtain ⟨h', rfl⟩ := ckIf1_s h
    clear h
    have h := h'
    obtain ⟨g1, h⟩ := ckAnd_c h
    obtain ⟨g2, h⟩ := ckAnd_c h
    obtain ⟨g3, h⟩ := ckAnd_c h
    obtain ⟨g4, h⟩ := ckAnd_c h
    obtain ⟨g5, h⟩ := ckAnd_c h
    obtain ⟨f, g, hh, k1, k2, k3, k4⟩ := hK _ (ckHasK_s g1)
    obtain ⟨f1, f0, j0, v0, a1, a2, a3, a4, a5⟩ := hK _ (ckHasK_s g2)
    obtain ⟨f2, f0', j1, v1, b1, b2, b3, b4, b5⟩ := hK _ (ckHasK_s g3)
    obtain ⟨f3, f0'', j2, v2, c1, c2, c3, c4, c5⟩ := hK _ (ckHasK_s g4)
    dsimp only at k1 k2 k3 a1 a2 a3 a4 b1 b2 b3 b4 c1 c2 c3 c4
    rw [k1] at a2; cases a2
    rw [k2] at b2; cases b2
    rw [k3] at c2; cases c2
    rw [a3] at b3 c3; cases b3; cases c3
    have hR := ckRgo_s hT hZ g5 a4 b4 c4
    refine ⟨f1, f2, f3, a1, b1, c1, fun k hk => ?_⟩
    rw [a5, b5, c5]
    by_cases e : k = j0.toNatClampNeg
    · rw [if_pos e, if_pos e, if_pos e]
      exact hR
    · rw [if_neg e, if_neg e, if_neg e]
      exact k4 k hk
  · -- 6
    obtain ⟨h', rfl⟩ := ckIf1_s h
    clear h
    have h := h'
    obtain ⟨g1, h⟩ := ckAnd_c h
    obtain ⟨g2, h⟩ := ckAnd_c h
    obtain ⟨g3, h⟩ := ckAnd_c h
    obtain ⟨g4, h⟩ := ckAnd_c h
    obtain ⟨f, g, hh, k1, k2, k3, k4⟩ := hK _ (ckHasK_s g1)
    obtain ⟨w0, i0, c0, a1, a2, a3, a4⟩ := hK _ (ckHasK_s g3)
    obtain ⟨w1, i1, c1, b1, b2, b3, b4⟩ := hK _ (ckHasK_s g4)
    dsimp only at k1 k2 k3 a1 a2 a3 b1 b2 b3
    rw [k1] at a1; cases a1
    rw [k2] at b1; cases b1
    rw [a2] at b2; cases b2
    have hw := ckWin_s hT hZ g2 a2
    have := (k4 i0.toNatClampNeg (by show i0.toInt.toNat < 6; omega)).1
    rw [a4, b4] at this
    exact ⟨c0, c1, a3, b3, this⟩
  · -- 7
    obtain ⟨h', rfl⟩ := ckIf1_s h
    clear h
    have h := h'
    obtain ⟨g1, h⟩ := ckAnd_c h
    obtain ⟨g2, h⟩ := ckAnd_c h
    obtain ⟨g3, h⟩ := ckAnd_c h
    obtain ⟨g4, h⟩ := ckAnd_c h
    obtain ⟨f, g, hh, k1, k2, k3, k4⟩ := hK _ (ckHasK_s g1)
    obtain ⟨w0, i0, c0, a1, a2, a3, a4⟩ := hK _ (ckHasK_s g3)
    obtain ⟨w1, i1, c1, b1, b2, b3, b4⟩ := hK _ (ckHasK_s g4)
    dsimp only at k1 k2 k3 a1 a2 a3 b1 b2 b3
    rw [k1] at a1; cases a1
    rw [k3] at b1; cases b1
    rw [a2] at b2; cases b2
    have hw := ckWin_s hT hZ g2 a2
    have := (k4 i0.toNatClampNeg (by show i0.toInt.toNat < 6; omega)).2
    rw [a4, b4] at this
    exact ⟨c0, c1, a3, b3, this⟩
  · -- 8
    obtain ⟨h', rfl⟩ := ckIf1_s h
    clear h
    have h := h'
    obtain ⟨g1, h⟩ := ckAnd_c h
    obtain ⟨g2, h⟩ := ckAnd_c h
    obtain ⟨g3, h⟩ := ckAnd_c h
    obtain ⟨g4, h⟩ := ckAnd_c h
    obtain ⟨f, hf⟩ := ck_len g1 lG
    obtain ⟨g, hg⟩ := ck_len g2 lG
    obtain ⟨n, hn⟩ := ck_len g3 lT
    have w := (ckIv_ok hT hn hZ).2
    have g4 := ckLe0_t g4
    exact ⟨f, g, n, hf, hg, hn, fun t ht => by omega⟩
  · -- 9
    obtain ⟨h', rfl⟩ := ckIf1_s h
    clear h
    have h := h'
    obtain ⟨g1, h⟩ := ckAnd_c h
    obtain ⟨g2, h⟩ := ckAnd_c h
    obtain ⟨g3, h⟩ := ckAnd_c h
    obtain ⟨g4, h⟩ := ckAnd_c h
    obtain ⟨g5, h⟩ := ckAnd_c h
    obtain ⟨g6, h⟩ := ckAnd_c h
    obtain ⟨g7, h⟩ := ckAnd_c h
    obtain ⟨f, g, n, k1, k2, k3, k4⟩ := hK _ (ckHasK_s g1)
    obtain ⟨f1, f0, j0, v0, a1, a2, a3, a4, a5⟩ := hK _ (ckHasK_s g2)
    obtain ⟨w1, i1, c1, b1, b2, b3, b4⟩ := hK _ (ckHasK_s g3)
    obtain ⟨n', hn'⟩ := ck_len g6 lT
    dsimp only at k1 k2 k3 a1 a2 a3 a4 b1 b2 b3
    rw [k1] at a2; cases a2
    rw [k2] at b1; cases b1
    have e1 := ckEq_ok hT hZ g4 a3 k3
    have e2 := ckEq_ok hT hZ g5 b2 k3
    subst e1; subst e2
    have a4 : I[ckA l 6]? = some v0 := a4
    rw [a4] at b3; cases b3
    have hl := ckLeq_ok hT hZ g7 hn' k3
    refine ⟨f1, g, n', a1, k2, hn', fun t ht => ?_⟩
    rw [a5]
    by_cases e : t = i1.toNatClampNeg
    · rw [if_pos e, e, b4]
    · rw [if_neg e]
      refine k4 t ?_
      have : t ≠ i1.toInt.toNat := e
      omega
  · -- 10
    obtain ⟨h', rfl⟩ := ckIf1_s h
    clear h
    have h := h'
    obtain ⟨g1, h⟩ := ckAnd_c h
    obtain ⟨g2, h⟩ := ckAnd_c h
    obtain ⟨g3, h⟩ := ckAnd_c h
    obtain ⟨g4, h⟩ := ckAnd_c h
    obtain ⟨g5, h⟩ := ckAnd_c h
    obtain ⟨u, hu⟩ := ck_len g1 lT
    obtain ⟨v, hv⟩ := ck_len g2 lT
    obtain ⟨w, hw⟩ := ck_len g3 lT
    have h1 := ckLeq_ok hT hZ g4 hu hv
    have h2 := (ckIv_ok hT hw hZ).1
    have g5 := ckLe0_t g5
    exact ⟨u, v, w, hu, hv, hw, by omega⟩
  · -- 11
    obtain ⟨h', rfl⟩ := ckIf1_s h
    clear h
    have h := h'
    obtain ⟨g1, h⟩ := ckAnd_c h
    obtain ⟨g2, h⟩ := ckAnd_c h
    obtain ⟨g3, h⟩ := ckAnd_c h
    obtain ⟨g4, h⟩ := ckAnd_c h
    obtain ⟨g5, h⟩ := ckAnd_c h
    obtain ⟨u, v, w, k1, k2, k3, k4⟩ := hK _ (ckHasK_s g1)
    obtain ⟨u', hu⟩ := ck_len g2 lT
    obtain ⟨w', hw⟩ := ck_len g3 lT
    have h1 := ckLeq_ok hT hZ g4 hu k1
    have h2 := ckLeq_ok hT hZ g5 k3 hw
    exact ⟨u', v, w', hu, k2, hw, by omega⟩
  · -- 12
    obtain ⟨h', rfl⟩ := ckIf1_s h
    clear h
    have h := h'
    obtain ⟨g1, h⟩ := ckAnd_c h
    obtain ⟨g2, h⟩ := ckAnd_c h
    obtain ⟨g3, h⟩ := ckAnd_c h
    obtain ⟨g4, h⟩ := ckAnd_c h
    obtain ⟨u, hu⟩ := ck_len g1 lT
    obtain ⟨v, hv⟩ := ck_len g2 lT
    have h1 := (ckIv_ok hT hu hZ).2
    have h2 := (ckIv_ok hT hv hZ).1
    have g3 := ckLe0_t g3
    have g4 := ckLe0_t g4
    have h3 := Int.mul_le_mul_of_nonneg_left h2 g3
    exact ⟨u, v, hu, hv, by omega⟩
  · -- 13
    obtain ⟨h', rfl⟩ := ckIf1_s h
    clear h
    have h := h'
    obtain ⟨g1, h⟩ := ckAnd_c h
    obtain ⟨g2, h⟩ := ckAnd_c h
    obtain ⟨g3, h⟩ := ckAnd_c h
    obtain ⟨g4, h⟩ := ckAnd_c h
    obtain ⟨g5, h⟩ := ckAnd_c h
    obtain ⟨g6, h⟩ := ckAnd_c h
    obtain ⟨g7, h⟩ := ckAnd_c h
    obtain ⟨u, v, k1, k2, k3⟩ := hK _ (ckHasK_s g1)
    obtain ⟨u', hu⟩ := ck_len g2 lT
    obtain ⟨v', hv⟩ := ck_len g3 lT
    have g4 := ckLe0_t g4
    have g7 := ckLe0_t g7
    have h1 := ckLeq_ok hT hZ g5 hu k1
    have h2 := ckLeq_ok hT hZ g6 k2 hv
    have h3 := Int.mul_le_mul_of_nonneg_left (show v.toInt + l.getD 7 0 ≤ v'.toInt by omega) g4
    rw [Int.mul_add] at h3
    exact ⟨u', v', hu, hv, by omega⟩
  · -- 14
    split at h
    · cases h
    rename_i g hg
    obtain ⟨h', rfl⟩ := ckIf1_s h
    clear h
    have h := h'
    obtain ⟨f, f1, f2⟩ := ck2_get hG hg
    have h0 := ckHull_0 f2 h
    refine ⟨f, f1, fun k hk => ⟨fun _ => ?_, fun _ => ?_⟩⟩
    · rw [h0 _ (by omega) (by omega)]; omega
    · rw [h0 _ (by omega) (by omega)]; omega
  · -- 15
    split at h
    · rename_i g0 g h' hg0 hg hh
      obtain ⟨h', rfl⟩ := ckIf1_s h
      clear h
      have h := h'
      split at h
      · cases h
      rename_i h1
      obtain ⟨f0, a1, -⟩ := ck2_get hG hg0
      obtain ⟨f, f1, f2⟩ := ck2_get hG hg
      obtain ⟨f', f1', f2'⟩ := ck2_get hG hh
      have z1 := ckHull_0 f2 h1
      have z2 := ckHull_0 f2' h
      refine ⟨f0, f, f', a1, f1, f1', fun k hk => ⟨fun _ => ?_, fun _ => ?_⟩⟩
      · rw [z1 _ (by omega) (by omega)]; omega
      · rw [z2 _ (by omega) (by omega)]; omega
    · cases h
  · -- 16
    obtain ⟨h', rfl⟩ := ckIf1_s h
    clear h
    have h := h'
    obtain ⟨g1, h⟩ := ckAnd_c h
    obtain ⟨g2, h⟩ := ckAnd_c h
    obtain ⟨g3, h⟩ := ckAnd_c h
    obtain ⟨u, hu⟩ := ck_len g1 lT
    obtain ⟨v, hv⟩ := ck_len g2 lT
    refine ⟨u, v, hu, hv, fun e => ?_⟩
    have wu := ckIv_ok hT hu hZ
    have w1 := wu.1
    have w2 := wu.2
    split at g3
    · rename_i g4
      exact ckWin_s hT hZ g4 hv
    · split at g3
      · rename_i g4
        have := ckLe0_t g4
        omega
      · have := ckLe0_t g3
        omega
  · cases h
theorem ckNr_ok {rule : Nat} {l : List Int} {y : Nat} {lo hi : Int} (hE : ckEnvS tI sa SL SX nk σ I F ws) (h : ckNr σ rule l = some (y, lo, hi)) : ∃ x : Int32, I[y]? = some x ∧ lo ≤ x.toInt ∧ x.toInt ≤ hi := by
  obtain ⟨L, S, C, T, G, X, Z, K, nc, ns⟩ := σ
  have hT : ck2 ckW T I := hE.2.1
  have hZ : ∀ z ∈ Z, ckZok I z := hE.2.2.2.2.1
  have hK : ∀ k ∈ K, ckKok I F k := hE.2.2.2.2.2
  unfold ckNr at h
  dsimp only at h
  split at h
  · split at h
    · rename_i g
      cases h
      obtain ⟨g1, g⟩ := ckAnd_c g
      obtain ⟨g2, g⟩ := ckAnd_c g
      obtain ⟨x, y, x1, y1, xy⟩ := hK _ (ckHasK_s g1)
      have := xy (ckCst_s hT hZ g2 x1)
      exact ⟨y, y1, this.1, this.2⟩
    · cases h
  · split at h
    · rename_i g
      cases h
      obtain ⟨u, v, w, k1, k2, k3, k4⟩ := hK _ (ckHasK_s g)
      dsimp only at k1 k2 k3 k4
      have h1 := (ckIv_ok hT k2 hZ).2
      have h2 := (ckIv_ok hT k3 hZ).2
      exact ⟨u, k1, (ck_rng u).1, by omega⟩
    · cases h
  · split at h
    · rename_i g
      cases h
      obtain ⟨g1, g⟩ := ckAnd_c g
      obtain ⟨g2, g⟩ := ckAnd_c g
      obtain ⟨g3, g⟩ := ckAnd_c g
      obtain ⟨g4, g⟩ := ckAnd_c g
      obtain ⟨g5, g⟩ := ckAnd_c g
      obtain ⟨u, v, w, k1, k2, k3, k4⟩ := hK _ (ckHasK_s g1)
      obtain ⟨d, c, v', m1, m2, m3, m4⟩ := hK _ (ckHasK_s g2)
      dsimp only at k1 k2 k3 m1 m2 m3
      rw [k2] at m3; cases m3
      rw [if_neg (by decide), if_neg (by decide)] at m4
      have c1 := ckCst_s hT hZ g3 m2
      have c2 := ckWin_s hT hZ g4 k2
      have c3 := ckLeq_ok hT hZ g5 k3 m1
      have e : d.toInt = c.toInt - v.toInt := by rw [m4, ck_subI (by omega) (by omega)]
      exact ⟨u, k1, (ck_rng u).1, by omega⟩
    · cases h
  · split at h
    · rename_i g
      cases h
      obtain ⟨g1, g⟩ := ckAnd_c g
      obtain ⟨g2, g⟩ := ckAnd_c g
      obtain ⟨u, v, k1, k2, k3⟩ := hK _ (ckHasK_s g1)
      dsimp only at k1 k2 k3
      have h1 := (ckIv_ok hT k2 hZ).2
      have g2 := ckLe0_t g2
      have h3 := Int.mul_le_mul_of_nonneg_left h1 g2
      exact ⟨u, k1, (ck_rng u).1, by omega⟩
    · cases h
  · cases h
theorem ckZd_ok {l : List Int} {z : ckZ} (hE : ckEnvS tI sa SL SX nk σ I F ws) (h : ckZd σ l = some z) : ckZok I z := by
  obtain ⟨L, S, C, T, G, X, Z, K, nc, ns⟩ := σ
  have hT : ck2 ckW T I := hE.2.1
  have hZ : ∀ z ∈ Z, ckZok I z := hE.2.2.2.2.1
  have hK : ∀ k ∈ K, ckKok I F k := hE.2.2.2.2.2
  unfold ckZd at h
  dsimp only at h
  split at h
  · rename_i g
    cases h
    obtain ⟨g1, g⟩ := ckAnd_c g
    obtain ⟨g2, g⟩ := ckAnd_c g
    obtain ⟨u, v, w, k1, k2, k3, k4⟩ := hK _ (ckHasK_s g1)
    dsimp only at k1 k2 k3 k4
    have h2 := (ckIv_ok hT k3 hZ).2
    have g2 := ckLe0_t g2
    exact ⟨u, v, k1, k2, by dsimp only; omega⟩
  · cases h
variable {nL : Nat} {ls : Array Slot} {st : List Value} {τ : ckS}
theorem ckRep_ok {l : List Int} (hR : ckRel nL tI sa SL SX nk σ I F ws ls st) (h : ckRep σ l = some τ) : ckRel nL tI sa SL SX nk τ I F ws ls st ∧ τ.2.2.2.2.2.2.2.2.1 = σ.2.2.2.2.2.2.2.2.1 ∧ τ.2.2.2.2.2.2.2.2.2 = σ.2.2.2.2.2.2.2.2.2 := by
  obtain ⟨L, S, C, T, G, X, Z, K, nc, ns⟩ := σ
  obtain ⟨hL, hS, hE⟩ := hR
  have hT : ck2 ckW T I := hE.2.1
  have hZ : ∀ z ∈ Z, ckZok I z := hE.2.2.2.2.1
  have hK : ∀ k ∈ K, ckKok I F k := hE.2.2.2.2.2
  unfold ckRep at h
  dsimp only at h
  split at h
  · rename_i u ln fv hc
    split at h
    · cases h
    rename_i hu
    split at h
    · rename_i g
      cases h
      refine ⟨⟨hL, hS, ⟨?_, hE.2⟩⟩, rfl, rfl⟩
      obtain ⟨g1, g⟩ := ckAnd_c g
      obtain ⟨g2, g⟩ := ckAnd_c g
      obtain ⟨f, f', n, k1, k2, k3, k4⟩ := hK _ (ckHasK_s g1)
      dsimp only at k1 k2 k3
      obtain ⟨e, e1, n0, n1, n2, n3⟩ := ck2_get hE.1 hc
      have hl := ckLeq_ok hT hZ g2 n2 k3
      have hset : ck2 (ckOf tI I F (ws.map Prod.fst) sa) (C.set (ckA l 0) (.inr (u, ln, ckA l 1))) ((ws.map Prod.snd).set (ckA l 0) e) := by
        refine ck2_set _ hE.1 ⟨n0, n1, n2, ?_⟩
        split at n3
        · cases hu
        · obtain ⟨f0, g0, r1, r2, r3⟩ := n3
          rw [k1] at r2; cases r2
          refine ⟨f0, f', r1, k2, fun j hj => ?_⟩
          rw [r3 j hj]
          refine k4 j ?_
          rw [nI_toInt n1] at hl
          omega
      have hsame : (ws.map Prod.snd).set (ckA l 0) e = ws.map Prod.snd := by
        apply List.ext_getElem?
        intro i
        rw [List.getElem?_set]
        by_cases hi : ckA l 0 = i
        · subst hi
          rw [if_pos rfl, if_pos (List.getElem?_eq_some_iff.mp e1).1]
          exact e1.symm
        · rw [if_neg hi]
      rw [hsame] at hset
      exact hset
    · cases h
  · cases h
theorem ckNam_ok {l : List Int} (hR : ckRel nL tI sa SL SX nk σ I F ws ls st) (h : ckNam σ l = some τ) : ∃ I1, ckExt I I1 ∧ ckRel nL tI sa SL SX nk τ I1 F ws ls st ∧ τ.2.2.2.2.2.2.2.2.1 = σ.2.2.2.2.2.2.2.2.1 ∧ τ.2.2.2.2.2.2.2.2.2 = σ.2.2.2.2.2.2.2.2.2 := by
  obtain ⟨L, S, C, T, G, X, Z, K, nc, ns⟩ := σ
  obtain ⟨hL, hS, hE⟩ := hR
  have hT : ck2 ckW T I := hE.2.1
  have hG : ck2 (ckGok I) G F := hE.2.2.1
  unfold ckNam at h
  dsimp only at h
  split at h
  · cases h
  rename_i hp
  have hp := Nat.le_of_ble_eq_true hp
  split at h
  · cases h
  rename_i g hg
  cases h
  obtain ⟨f, f1, f2⟩ := ck2_get hG hg
  have hy : ckW (.ofNat (ckA l 1), .ofNat (ckA l 1)) (nI (ckA l 1)) := by
    unfold ckW
    rw [nI_toInt (by omega)]
    exact ⟨Int.le_refl _, Int.le_refl _⟩
  have en : (nI (ckA l 1)).toNatClampNeg = ckA l 1 := by
    show (nI (ckA l 1)).toInt.toNat = _
    rw [nI_toInt (by omega)]
    rfl
  have hI := ckExt_app I [f (nI (ckA l 1)).toNatClampNeg]
  have lst : (I ++ [f (nI (ckA l 1)).toNatClampNeg])[T.length]? = some (f (nI (ckA l 1)).toNatClampNeg) := by rw [ckEnv.len hE]; exact ck_last _ _
  have h2 := ckEnv.addI hE (zs := []) (ckHul_ok f2 hy) (fun z hz => absurd hz List.not_mem_nil)
  have hm := f2.mono hI
  refine ⟨_, hI, ⟨hL.mono hI (ckExt_rf _), ck2_mono (fun _ _ q => q.mono hI (ckExt_rf _)) hS, h2.1, h2.2.1, ck2_setl _ h2.2.2.1 (fun b hb => ?_), h2.2.2.2.1, h2.2.2.2.2.1, h2.2.2.2.2.2⟩, rfl, rfl⟩
  rw [f1] at hb
  cases hb
  refine ⟨hm.1, fun q hq => ?_, hm.2.2⟩
  rcases List.mem_cons.mp hq with rfl | hq
  · exact ⟨_, lst, by rw [en]⟩
  · exact hm.2.1 q hq
end CKDER

/-! THE CHECKER: calls -/
theorem ckMp_0 (ps : List (Nat × Nat)) (v : Nat) : ckMp 0 ps v = ckPr v ps := by
  unfold ckMp
  have : Nat.ble (v + 1) 0 = false := rfl
  rw [this]
theorem ckSetN_map {α β : Type} (f : α → β) (ps : List (Nat × Nat)) : ∀ (k : Nat) (w l : List α), (ckSetN ps k w l).map f = ckSetN ps k (w.map f) (l.map f)
  | _, [], _ => rfl
  | k, a :: r, l => by
    show (ckSetN ps (k + 1) r (l.set (ckPr k ps) a)).map f = ckSetN ps (k + 1) (r.map f) ((l.map f).set (ckPr k ps) (f a))
    rw [ckSetN_map f ps (k + 1) r, List.map_set]
theorem ckPlc_map {α β : Type} (f : α → β) (n : Nat) (ps : List (Nat × Nat)) (w l : List α) : (ckPlc n ps w l).map f = ckPlc n ps (w.map f) (l.map f) := by
  unfold ckPlc
  rw [List.map_append, ckSetN_map, List.map_take, List.map_drop]
theorem ckSetN_at {α : Type} (ps : List (Nat × Nat)) {i : Nat} {q : α} : ∀ {w : List α} {k : Nat} {l : List α}, (ckSetN ps k w l)[i]? = some q → (∃ j, w[j]? = some q ∧ ckPr (k + j) ps = i) ∨ (l[i]? = some q ∧ ∀ j, j < w.length → ckPr (k + j) ps ≠ i)
  | [], _, _, h => Or.inr ⟨h, fun j hj => absurd hj (Nat.not_lt_zero j)⟩
  | a :: r, k, l, h => by
    rcases ckSetN_at ps (w := r) (k := k + 1) h with ⟨j, h1, h2⟩ | ⟨h1, h2⟩
    · exact Or.inl ⟨j + 1, h1, by rw [← h2]; congr 1; omega⟩
    · rw [List.getElem?_set] at h1
      by_cases hi : ckPr k ps = i
      · rw [if_pos hi] at h1
        split at h1
        · cases h1
          exact Or.inl ⟨0, rfl, hi⟩
        · cases h1
      · rw [if_neg hi] at h1
        refine Or.inr ⟨h1, fun j hj => ?_⟩
        cases j with
        | zero => exact hi
        | succ j =>
          have := h2 j (by simpa using hj)
          rwa [show k + 1 + j = k + (j + 1) by omega] at this
theorem ckSetN_same {α : Type} (ps : List (Nat × Nat)) : ∀ {w : List α} {k : Nat} {l : List α}, (∀ (j : Nat) (a : α), w[j]? = some a → l[ckPr (k + j) ps]? = some a) → ckSetN ps k w l = l
  | [], _, _, _ => rfl
  | a :: r, k, l, h => by
    have h0 := h 0 a rfl
    rw [Nat.add_zero] at h0
    have e : l.set (ckPr k ps) a = l := by
      apply List.ext_getElem?
      intro i
      rw [List.getElem?_set]
      by_cases hi : ckPr k ps = i
      · subst hi
        rw [if_pos rfl, if_pos (List.getElem?_eq_some_iff.mp h0).1]
        exact h0.symm
      · rw [if_neg hi]
    show ckSetN ps (k + 1) r (l.set (ckPr k ps) a) = l
    rw [e]
    refine ckSetN_same ps fun j b hb => ?_
    rw [show k + 1 + j = k + (j + 1) by omega]
    exact h (j + 1) b hb
theorem ckSetN_len {α : Type} (ps : List (Nat × Nat)) : ∀ (w : List α) (k : Nat) (l : List α), (ckSetN ps k w l).length = l.length
  | [], _, _ => rfl
  | a :: r, k, l => by
    show (ckSetN ps (k + 1) r (l.set (ckPr k ps) a)).length = l.length
    rw [ckSetN_len ps r, List.length_set]
theorem ckSetN_2 {α β : Type} {P : α → β → Prop} (ps : List (Nat × Nat)) : ∀ {w : List α} {v : List β} {k : Nat} {l : List α} {m : List β}, ck2 P w v → ck2 P l m → ck2 P (ckSetN ps k w l) (ckSetN ps k v m)
  | [], [], _, _, _, _, h => h
  | a :: w, b :: v, k, l, m, h, h1 => ckSetN_2 ps (k := k + 1) h.2 (ck2_set _ h1 h.1)
  | [], _ :: _, _, _, _, h, _ => h.elim
  | _ :: _, [], _, _, _, h, _ => h.elim
theorem ck2_take {α β : Type} {P : α → β → Prop} : ∀ {w : List α} {v : List β} (n : Nat), ck2 P w v → ck2 P (w.take n) (v.take n)
  | [], [], n, _ => by simp; exact True.intro
  | _ :: _, _ :: _, 0, _ => True.intro
  | _ :: _, _ :: _, n + 1, h => ⟨h.1, ck2_take n h.2⟩
  | [], _ :: _, _, h => h.elim
  | _ :: _, [], _, h => h.elim
theorem ck2_drop {α β : Type} {P : α → β → Prop} : ∀ {w : List α} {v : List β} (n : Nat), ck2 P w v → ck2 P (w.drop n) (v.drop n)
  | [], [], n, _ => by simp; exact True.intro
  | _ :: _, _ :: _, 0, h => h
  | _ :: _, _ :: _, n + 1, h => ck2_drop (P := P) n h.2
  | [], _ :: _, _, h => h.elim
  | _ :: _, [], _, h => h.elim
theorem ckPlc_2 {α β : Type} {P : α → β → Prop} (n : Nat) (ps : List (Nat × Nat)) {w : List α} {v : List β} {l : List α} {m : List β} (h : ck2 P w v) (h1 : ck2 P l m) : ck2 P (ckPlc n ps w l) (ckPlc n ps v m) :=
  ck2_app (ckSetN_2 ps (ck2_take n h) h1) (ck2_drop n h)
theorem ckNod_s : ∀ {l : List Nat}, ckNod l = true → ∀ (i j a : Nat), l[i]? = some a → l[j]? = some a → i = j
  | [], _, i, j, a, h, _ => by simp at h
  | x :: r, h, i, j, a, hi, hj => by
    unfold ckNod at h
    cases hb : ckAny (fun b => Nat.beq x b) r with
    | true => rw [hb] at h; cases h
    | false =>
      rw [hb] at h
      have ih := ckNod_s h
      have no : ∀ b, b ∈ r → b ≠ x := by
        intro b hb2 e
        subst e
        clear h ih hi hj
        induction r with
        | nil => exact absurd hb2 List.not_mem_nil
        | cons y r ih2 =>
          unfold ckAny at hb
          cases hy : Nat.beq b y with
          | true => rw [hy] at hb; cases hb
          | false =>
            rw [hy] at hb
            rcases List.mem_cons.mp hb2 with rfl | hb2
            · rw [Nat.beq_refl] at hy; cases hy
            · exact ih2 hb2 hb
      cases i with
      | zero =>
        cases hi
        cases j with
        | zero => rfl
        | succ j => exact absurd rfl (no _ (List.mem_of_getElem? hj))
      | succ i =>
        cases j with
        | zero => cases hj; exact absurd rfl (no _ (List.mem_of_getElem? hi))
        | succ j => rw [ih i j a hi hj]
/-- a world behind a call: the callee's cells, and those of the caller that it hadn't -/
theorem ckPlc_world {A0 : Nat → Prop} {D : va_G} {cl : List vw_C} {ws wc w2 : va_W} {H H1 : Heap} {n : Nat} {ps : List (Nat × Nat)} (hP : va_P D cl ws H) (hD : va_D A0 ws) (hn : wc.length = n) (hc : ∀ k, k < n → wc[k]? = ws[ckPr k ps]?) (hi : ∀ j k, j < n → k < n → ckPr j ps = ckPr k ps → j = k)
    (hk : ∀ q : Nat, q < H.size → ¬ va_A wc H.size q → H1[q]? = H[q]?) (hF : ∀ q, va_A wc H.size q → A0 q) (hP1 : va_P D cl w2 H1) (hD1 : va_D (va_A wc H.size) w2) (hl : n ≤ w2.length) :
    va_P D cl (ckPlc n ps w2 ws) H1 ∧ va_D A0 (ckPlc n ps w2 ws) := by
  have pos : ∀ (i : Nat) (q : Nat × va_E), (ckPlc n ps w2 ws)[i]? = some q → (∃ j, w2[j]? = some q ∧ ((j < n ∧ ckPr j ps = i) ∨ (n ≤ j ∧ i = ws.length + (j - n)))) ∨ (ws[i]? = some q ∧ ∀ j, j < n → ckPr j ps ≠ i) := by
    intro i q h
    unfold ckPlc at h
    have e := ckSetN_len ps (w2.take n) 0 ws
    rcases Nat.lt_or_ge i ws.length with g | g
    · rw [List.getElem?_append_left (by omega)] at h
      rcases ckSetN_at ps h with ⟨j, h1, h2⟩ | ⟨h1, h2⟩
      · have hj := (List.getElem?_eq_some_iff.mp h1).1
        rw [List.length_take] at hj
        rw [List.getElem?_take_of_lt (by omega)] at h1
        rw [Nat.zero_add] at h2
        exact Or.inl ⟨j, h1, Or.inl ⟨by omega, h2⟩⟩
      · refine Or.inr ⟨h1, fun j hj => ?_⟩
        have := h2 j (by rw [List.length_take]; omega)
        rwa [Nat.zero_add] at this
    · rw [List.getElem?_append_right (by omega), e, List.getElem?_drop] at h
      exact Or.inl ⟨n + (i - ws.length), h, Or.inr ⟨by omega, by omega⟩⟩
  have apart : ∀ (i : Nat) (q : Nat × va_E), ws[i]? = some q → (∀ j, j < n → ckPr j ps ≠ i) → q.1 < H.size ∧ ¬ va_A wc H.size q.1 := by
    intro i q h1 h2
    have hlt := (hP i q h1).lt
    refine ⟨hlt, fun h => ?_⟩
    rcases h with ⟨k, e, h⟩ | h
    · have hkn : k < n := by rw [← hn]; exact (List.getElem?_eq_some_iff.mp h).1
      rw [hc k hkn] at h
      exact h2 k hkn (hD.1 _ _ (q.1, e) q h h1 rfl)
    · omega
  refine ⟨fun i q hq => ?_, fun i j x y hx hy hxy => ?_, fun i q hq => ?_⟩
  · rcases pos i q hq with ⟨j, h1, -⟩ | ⟨h1, h2⟩
    · exact hP1 j q h1
    · obtain ⟨g1, g2⟩ := apart i q h1 h2
      exact (hP i q h1).kept (hk q.1 g1 g2)
  · rcases pos i x hx with ⟨a, a1, a2⟩ | ⟨a1, a2⟩ <;> rcases pos j y hy with ⟨b, b1, b2⟩ | ⟨b1, b2⟩
    · have := hD1.1 a b x y a1 b1 hxy
      subst this
      rcases a2 with ⟨a2, a3⟩ | ⟨a2, a3⟩ <;> rcases b2 with ⟨b2, b3⟩ | ⟨b2, b3⟩ <;> omega
    · exact absurd (by rw [← hxy]; exact hD1.2 a x a1) (apart j y b1 b2).2
    · exact absurd (by rw [hxy]; exact hD1.2 b y b1) (apart i x a1 a2).2
    · exact hD.1 i j x y a1 b1 hxy
  · rcases pos i q hq with ⟨j, h1, -⟩ | ⟨h1, -⟩
    · exact hF q.1 (hD1.2 j q h1)
    · exact hD.2 i q h1
/-- names of a callee's numbers in the caller's lists -/
theorem ckTr_ok {α : Type} {I I0 I2 : List α} {n v : Nat} {ps : List (Nat × Nat)} {x : α} (hn : I0.length = n) (h0 : ∀ k, k < n → I0[k]? = I[ckPr k ps]?) (hx : ckExt I0 I2) (hv : I2[v]? = some x) : (I ++ I2.drop n)[ckTr n I.length ps v]? = some x := by
  unfold ckTr
  cases hb : Nat.ble (v + 1) n with
  | true =>
    have hlt : v < n := Nat.le_of_ble_eq_true hb
    have e := ckExt_agr hx (n := n) (by omega) v hlt
    rw [hv, h0 v hlt] at e
    exact ckExt_app _ _ _ _ e.symm
  | false =>
    have hge : ¬ v + 1 ≤ n := fun q => by rw [Nat.ble_eq_true_of_le q] at hb; cases hb
    show (I ++ I2.drop n)[I.length + (v - n)]? = some x
    rw [List.getElem?_append_right (by omega), List.getElem?_drop, show n + (I.length + (v - n) - I.length) = v by omega]
    exact hv
theorem ckMapV_2 {β : Type} {P P' : ckV → β → Prop} {f : ckV → ckV} (h : ∀ a b, P a b → P' (f a) b) : ∀ {xs : List ckV} {ys : List β}, ck2 P xs ys → ck2 P' (ckMapV f xs) ys
  | [], [], _ => True.intro
  | _ :: _, _ :: _, g => ⟨h _ _ g.1, ckMapV_2 h g.2⟩
  | [], _ :: _, g => g.elim
  | _ :: _, [], g => g.elim
theorem ckMapC_2 {β : Type} {P P' : ckC → β → Prop} {f : ckC → ckC} (h : ∀ a b, P a b → P' (f a) b) : ∀ {xs : List ckC} {ys : List β}, ck2 P xs ys → ck2 P' (ckMapC f xs) ys
  | [], [], _ => True.intro
  | _ :: _, _ :: _, g => ⟨h _ _ g.1, ckMapC_2 h g.2⟩
  | [], _ :: _, g => g.elim
  | _ :: _, [], g => g.elim
section CKTR
variable {ω : List (Nat × ckV)} {sa' : Nat → Nat} {tI : Nat → ClassId} {sa : Nat → Nat} {I I0 I2 : List Int32} {F F0 F2 : List (Nat → Int32)} {ad ad0 ad2 : List Nat} {nI nF nC : Nat} {μ : ckM}
theorem ckTrV_ok (hω : ckOmOk ω ad sa sa') (hI0 : I0.length = nI) (hI1 : ∀ k, k < nI → I0[k]? = I[ckPr k μ.1]?) (hI2 : ckExt I0 I2) (hA0 : ad0.length = nC) (hA1 : ∀ k, k < nC → ad0[k]? = ad[ckPr k μ.2.2]?) (hA2 : ckExt ad0 ad2) {q : ckV} {v : Value} (h : ckHas I2 ad2 sa' q v) : ckHas (I ++ I2.drop nI) (ad ++ ad2.drop nC) sa (ckTrV nI nC I.length ad.length μ ω q) v := by
  obtain ⟨t, n⟩ := q
  unfold ckTrV
  dsimp only
  split
  · obtain ⟨x, rfl, hx⟩ := h
    exact ⟨x, rfl, ckTr_ok hI0 hI1 hI2 hx⟩
  · obtain ⟨x, rfl, hx⟩ := h
    exact ⟨x, rfl, ckTr_ok hA0 hA1 hA2 hx⟩
  · have hv : v = .ref (sa' n) := h
    split
    · rename_i p hp
      obtain ⟨pt, pn⟩ := p
      rcases hω.2 _ _ hp with ⟨g1, g2⟩ | ⟨g1, g2⟩
      · dsimp only at g1 g2
        subst g1
        exact ⟨sa' n, hv, ckExt_app _ _ _ _ g2⟩
      · dsimp only at g1 g2
        subst g1
        show v = .ref (sa pn)
        rw [← g2]
        exact hv
    · rename_i hp
      show v = .ref (sa n)
      rw [← hω.1 n hp]
      exact hv
  · exact True.intro
  · exact True.intro
  · rename_i h0 h1 h4 h6 h7
    unfold ckHas at h ⊢
    dsimp only at h ⊢
    split at h
    · exact absurd rfl h0
    · exact absurd rfl h1
    · exact h
    · exact h
    · exact absurd rfl h4
    · exact absurd rfl h6
    · exact absurd rfl h7
    · exact True.intro
theorem ckTrC_ok (hω : ckOmOk ω ad sa sa') (hI0 : I0.length = nI) (hI1 : ∀ k, k < nI → I0[k]? = I[ckPr k μ.1]?) (hI2 : ckExt I0 I2) (hF0 : F0.length = nF) (hF1 : ∀ k, k < nF → F0[k]? = F[ckPr k μ.2.1]?) (hF2 : ckExt F0 F2) (hA0 : ad0.length = nC) (hA1 : ∀ k, k < nC → ad0[k]? = ad[ckPr k μ.2.2]?) (hA2 : ckExt ad0 ad2) {q : ckC} {x : va_E} (h : ckOf tI I2 F2 ad2 sa' q x) : ckOf tI (I ++ I2.drop nI) (F ++ F2.drop nF) (ad ++ ad2.drop nC) sa (ckTrC nI nF nC I.length F.length ad.length μ ω q) x := by
  cases q with
  | inl q =>
    obtain ⟨ci, fs⟩ := q
    obtain ⟨vs, rfl, h2⟩ := h
    exact ⟨vs, rfl, ckMapV_2 (fun a b g => ckTrV_ok hω hI0 hI1 hI2 hA0 hA1 hA2 g) h2⟩
  | inr q =>
    obtain ⟨t, ln, fv⟩ := q
    obtain ⟨n, n1, n2, n3⟩ := h
    refine ⟨n, n1, ckTr_ok hI0 hI1 hI2 n2, ?_⟩
    split at n3
    · exact n3
    · rename_i hne
      obtain ⟨f, g, rfl, g1, g2⟩ := n3
      exact ⟨f, g, rfl, ckTr_ok hF0 hF1 hF2 g1, g2⟩
theorem ckTrG_ok (hI0 : I0.length = nI) (hI1 : ∀ k, k < nI → I0[k]? = I[ckPr k μ.1]?) (hI2 : ckExt I0 I2) : ∀ {gs : List ckG} {fs : List (Nat → Int32)}, ck2 (ckGok I2) gs fs → ck2 (ckGok (I ++ I2.drop nI)) (ckTrG nI I.length μ.1 gs) fs
  | [], [], _ => True.intro
  | g :: gs, f :: fs, h => by
    refine ⟨⟨h.1.1, fun q hq => ?_, fun q hq => absurd hq List.not_mem_nil⟩, ckTrG_ok hI0 hI1 hI2 h.2⟩
    have key : ∀ {os : List (Nat × Nat)}, (∀ q ∈ os, ∃ x, I2[q.2]? = some x ∧ f q.1 = x) → ∀ q ∈ ckTrO nI I.length μ.1 os, ∃ x, (I ++ I2.drop nI)[q.2]? = some x ∧ f q.1 = x := by
      intro os
      induction os with
      | nil => exact fun _ q hq => absurd hq List.not_mem_nil
      | cons o os ih =>
        intro h3 q hq
        rcases List.mem_cons.mp hq with rfl | hq
        · obtain ⟨x, x1, x2⟩ := h3 o List.mem_cons_self
          exact ⟨x, ckTr_ok hI0 hI1 hI2 x1, x2⟩
        · exact ih (fun q hq => h3 q (List.mem_cons_of_mem _ hq)) q hq
    exact key h.1.2.1 q hq
  | [], _ :: _, h => h.elim
  | _ :: _, [], h => h.elim
theorem ckTrZ_ok (hI0 : I0.length = nI) (hI1 : ∀ k, k < nI → I0[k]? = I[ckPr k μ.1]?) (hI2 : ckExt I0 I2) : ∀ {zs : List ckZ}, (∀ z ∈ zs, ckZok I2 z) → ∀ z ∈ ckTrZ nI I.length μ.1 zs, ckZok (I ++ I2.drop nI) z
  | [], _, z, hz => absurd hz List.not_mem_nil
  | y :: zs, h, z, hz => by
    rcases List.mem_cons.mp hz with rfl | hz
    · obtain ⟨a, b, h1, h2, h3⟩ := h y List.mem_cons_self
      exact ⟨a, b, ckTr_ok hI0 hI1 hI2 h1, ckTr_ok hI0 hI1 hI2 h2, h3⟩
    · exact ckTrZ_ok hI0 hI1 hI2 (fun z hz => h z (List.mem_cons_of_mem _ hz)) z hz
theorem ckTrT_ok {Z : List ckZ} {T2 : List ckI} {J : List Int32} (hZ : ∀ z ∈ Z, ckZok I z) (hT2 : ck2 ckW T2 J) (hJ : ∀ k, k < J.length → J[k]? = I[ckPr k μ.1]?) : ∀ {ts : List (Nat × ckI)} {T : List ckI}, ck2 ckW T I → (∀ q ∈ ts, q.1 < J.length) → ∃ T1, ckTrT Z μ.1 T2 ts T = some T1 ∧ ck2 ckW T1 I
  | [], T, h, _ => ⟨T, rfl, h⟩
  | q :: ts, T, h, hq => by
    have hlt := hq q List.mem_cons_self
    obtain ⟨x, hx⟩ : ∃ x, J[q.1]? = some x := ⟨_, List.getElem?_eq_getElem hlt⟩
    have hw := ck_getD0 hT2 hx
    have hx2 : I[ckPr q.1 μ.1]? = some x := by rw [← hJ q.1 hlt]; exact hx
    obtain ⟨T1, h1, h2⟩ := ckLim_ok h hZ hx2 hw.1 hw.2
    show ∃ T1, (match ckLim T Z (ckPr q.1 μ.1) (T2.getD q.1 ckTop).1 (T2.getD q.1 ckTop).2 with
      | none => none
      | some T1 => ckTrT Z μ.1 T2 ts T1) = some T1 ∧ _
    rw [h1]
    exact ckTrT_ok hZ hT2 hJ h2 fun r hr => hq r (List.mem_cons_of_mem _ hr)
theorem ckTrK_ok (hI0 : I0.length = nI) (hI1 : ∀ k, k < nI → I0[k]? = I[ckPr k μ.1]?) (hI2 : ckExt I0 I2) (hF0 : F0.length = nF) (hF1 : ∀ k, k < nF → F0[k]? = F[ckPr k μ.2.1]?) (hF2 : ckExt F0 F2) : ∀ {ks : List ckK}, (∀ k ∈ ks, ckKok I2 F2 k) → ∀ k ∈ ckTrK nI nF I.length F.length μ ks, ckKok (I ++ I2.drop nI) (F ++ F2.drop nF) k
  | [], _, k, hk => absurd hk List.not_mem_nil
  | q :: ks, h, k, hk => by
    have ih := ckTrK_ok hI0 hI1 hI2 hF0 hF1 hF2 (ks := ks) (fun k hk => h k (List.mem_cons_of_mem _ hk)) k
    have hq := h q List.mem_cons_self
    obtain ⟨qk, qa, qb, qc, qi⟩ := q
    unfold ckTrK at hk
    split at hk
    · rename_i e
      dsimp only at e hk
      subst e
      rcases List.mem_cons.mp hk with rfl | hk
      · rcases qi with _ | ⟨v, _ | ⟨lo, _ | ⟨hi, _ | ⟨z, r⟩⟩⟩⟩
        · exact False.elim hq
        · exact False.elim hq
        · exact False.elim hq
        · obtain ⟨x, y, x1, y1, xy⟩ := hq
          exact ⟨x, y, ckTr_ok hI0 hI1 hI2 x1, ckTr_ok hI0 hI1 hI2 y1, xy⟩
        · exact False.elim hq
      · exact ih hk
    · rename_i e
      dsimp only at e hk
      subst e
      rcases List.mem_cons.mp hk with rfl | hk
      · obtain ⟨f, f1, f2⟩ := hq
        exact ⟨f, ckTr_ok hF0 hF1 hF2 f1, f2⟩
      · exact ih hk
    · rename_i e
      dsimp only at e hk
      subst e
      rcases List.mem_cons.mp hk with rfl | hk
      · obtain ⟨f, g, j, f1, f2, f3, f4⟩ := hq
        exact ⟨f, g, j, ckTr_ok hF0 hF1 hF2 f1, ckTr_ok hF0 hF1 hF2 f2, ckTr_ok hF0 hF1 hF2 f3, f4⟩
      · exact ih hk
    · exact ih hk
end CKTR

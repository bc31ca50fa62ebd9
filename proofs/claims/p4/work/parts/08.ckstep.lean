/-! THE CHECKER: an instruction that goes straight on -/
def ckDf : List Nat → List Value
  | [] => []
  | 0 :: r => .int 0 :: ckDf r
  | _ :: r => .null :: ckDf r
section CKH2
variable {k0 s0 : Nat} {p : Program} {l : Launch} {e : Env} {R : Room} {s : State} {m : MethodId} {args : Array Value} {below : List Frame} {meth : Method} {c : Code} {Q : State → Prop} {nL : Nat} {cl : List vw_C} {D : va_G} {tI : Nat → ClassId} {sa SL : Nat → Nat} {SX : Nat → Nat → Int32} {nk : Nat} {A : Nat → Prop}
variable {σ τ : ckS} {pc : Nat} {I : List Int32} {F : List (Nat → Int32)} {ws : va_W} {ls : Array Slot} {st : List Value} {H : Heap} {locs : List Loc}
theorem ckS_len (hs : ckStO SL SX nk) (h : ckLen σ = some τ) (hR : ckRel nL tI sa SL SX nk σ I F ws ls st) (hW : ckWd s D cl A ws H locs) (kk : ckGoal k0 s0 p l e R s m args below meth c Q nL cl D tI sa SL SX nk A τ pc I F ws) :
    (∃ (o a t : Nat) (x : vp_A) (st' : List Value), st = .ref a :: st' ∧ ws[o]? = some (a, .inl (tI t, x)) ∧ t ≤ 2 ∧ W p l e R s m args below meth c H locs (k0 + σ.2.2.2.2.2.2.2.2.1) (s0 + σ.2.2.2.2.2.2.2.2.2) Q (F0 m pc ls (.int (nI x.1) :: st'))) ∨
    ∃ (k : Nat) (st' : List Value), st = .ref (sa k) :: st' ∧ k < nk ∧ W p l e R s m args below meth c H locs (k0 + σ.2.2.2.2.2.2.2.2.1) (s0 + σ.2.2.2.2.2.2.2.2.2) Q (F0 m pc ls (.int (nI (SL k)) :: st')) := by
  obtain ⟨L, S, C, T, G, X, Z, K, nc, ns⟩ := σ
  obtain ⟨hL, hS, hE⟩ := hR
  unfold ckLen at h
  dsimp only at h
  cases S with
  | nil => cases h
  | cons q r =>
    obtain ⟨t, k⟩ := q
    cases st with
    | nil => exact hS.elim
    | cons v st =>
      dsimp only at h
      split at h
      · obtain ⟨a, rfl, ha⟩ := hS.1
        cases hc : C[k]? with
        | none => rw [hc] at h; cases h
        | some q =>
          rw [hc] at h
          cases q with
          | inl q => cases h
          | inr q =>
            obtain ⟨u, ln, fv⟩ := q
            dsimp only at h
            cases hu : Nat.ble u 2 with
            | false => rw [hu] at h; cases h
            | true =>
              rw [hu] at h
              cases h
              have hu2 := Nat.le_of_ble_eq_true hu
              obtain ⟨x, g1, n, n1, n2, g2⟩ := hE.cell ha hc
              left
              split at g2
              · obtain ⟨f, rfl⟩ := g2
                exact ⟨k, a, 1, _, st, rfl, g1, by omega, kk I F ws ls _ H locs (ckExt_rf _) (ckExt_rf _) (ckExt_rf _) ⟨hL, ⟨⟨_, rfl, n2⟩, hS.2⟩, hE⟩ hW⟩
              · obtain ⟨f, g, rfl, -, -⟩ := g2
                exact ⟨k, a, u, _, st, rfl, g1, hu2, kk I F ws ls _ H locs (ckExt_rf _) (ckExt_rf _) (ckExt_rf _) ⟨hL, ⟨⟨_, rfl, n2⟩, hS.2⟩, hE⟩ hW⟩
      · have ev : v = .ref (sa k) := hS.1
        subst ev
        cases hg : ckXget k (L, (4, k) :: r, C, T, G, X, Z, K, nc, ns) with
        | none => rw [hg] at h; cases h
        | some q =>
          obtain ⟨ln, fv, ρ⟩ := q
          obtain ⟨I1, F1, T1, G1, X1, e1, e2, hE1, ⟨k0, k1, k2, g, k3, k4⟩, rfl⟩ := ckXget_ok hs hE hg
          rw [hg] at h
          cases h
          right
          exact ⟨k, st, rfl, k0, kk I1 F1 ws ls _ H locs e1 e2 (ckExt_rf _) ⟨hL.mono e1 (ckExt_rf _), ⟨⟨_, rfl, k2⟩, ck2_mono (fun _ _ q => q.mono e1 (ckExt_rf _)) hS.2⟩, hE1⟩ hW⟩
      · cases h
theorem ckFlds_ok {I : List Int32} {ad : List Nat} {sa : Nat → Nat} {n : Nat} (h : I[n]? = some 0) : ∀ ks : List Nat, ck2 (ckHas I ad sa) (ckFlds n ks) (ckDf ks)
  | [] => True.intro
  | 0 :: r => ⟨⟨0, rfl, h⟩, ckFlds_ok h r⟩
  | (k + 1) :: r => ⟨rfl, ckFlds_ok h r⟩
theorem ckS_new {mc ms ci : Nat} {ks : List Nat} (h : ckNew mc ms ci ks σ = some τ) (hR : ckRel nL tI sa SL SX nk σ I F ws ls st) (kk : ckGoal k0 s0 p l e R s m args below meth c Q nL cl D tI sa SL SX nk A τ pc I F ws) :
    σ.2.2.2.2.2.2.2.2.1 + 1 ≤ mc ∧ σ.2.2.2.2.2.2.2.2.2 + ks.length ≤ ms ∧ ∀ (q : Nat) (H1 : Heap), va_P D cl (ws ++ [(q, .inr (ci, ckDf ks))]) H1 → va_D A (ws ++ [(q, .inr (ci, ckDf ks))]) → va_S A s.heap H1 locs → W p l e R s m args below meth c H1 locs (k0 + σ.2.2.2.2.2.2.2.2.1 + 1) (s0 + σ.2.2.2.2.2.2.2.2.2 + ks.length) Q (F0 m pc ls (.ref q :: st)) := by
  obtain ⟨L, S, C, T, G, X, Z, K, nc, ns⟩ := σ
  obtain ⟨hL, hS, hE⟩ := hR
  unfold ckNew at h
  dsimp only at h
  cases h1 : Nat.ble (nc + 1) mc with
  | false => rw [h1] at h; cases h
  | true =>
    rw [h1] at h
    dsimp only at h
    cases h2 : Nat.ble (ns + ks.length) ms with
    | false => rw [h2] at h; cases h
    | true =>
      rw [h2] at h
      cases h
      refine ⟨Nat.le_of_ble_eq_true h1, Nat.le_of_ble_eq_true h2, fun q H1 hP hD hSS => ?_⟩
      have hI := ckExt_app I [(0 : Int32)]
      have e1 : (ws ++ [(q, (Sum.inr (ci, ckDf ks) : va_E))]).map Prod.fst = ws.map Prod.fst ++ [q] := by rw [List.map_append]; rfl
      have e2 : (ws ++ [(q, (Sum.inr (ci, ckDf ks) : va_E))]).map Prod.snd = ws.map Prod.snd ++ [Sum.inr (ci, ckDf ks)] := by rw [List.map_append]; rfl
      have hA : ckExt (ws.map Prod.fst) (ws.map Prod.fst ++ [q]) := ckExt_app _ _
      have hE1 := hE.addI (w := (0, 0)) (x := 0) (zs := []) ⟨Int.le_refl _, Int.le_refl _⟩ (fun z hz => absurd hz List.not_mem_nil)
      have hlen := hE.lenC
      show W p l e R s m args below meth c H1 locs (k0 + (nc + 1)) (s0 + ns + ks.length) Q _
      rw [Nat.add_assoc s0]
      refine kk (I ++ [0]) F _ ls _ H1 locs hI (ckExt_rf _) (by rw [e1]; exact hA) ⟨by rw [e1]; exact hL.mono hI hA, by rw [e1]; exact ⟨⟨q, rfl, by show (ws.map Prod.fst ++ [q])[C.length]? = some q; rw [hlen]; simp⟩, ck2_mono (fun _ _ q => q.mono hI hA) hS⟩, ⟨?_, hE1.2⟩⟩ ⟨hP, hD, hSS⟩
      rw [e1, e2]
      refine ck2_app (ck2_mono (fun _ _ q => q.mono (ckExt_rf _) (ckExt_rf _) hA) hE1.1) ⟨⟨_, rfl, ckFlds_ok (by rw [hE.len]; exact ck_last _ _) ks⟩, True.intro⟩
theorem ckS_newrow {mc ms t : Nat} (h : ckNewRow mc ms t σ = some τ) (hR : ckRel nL tI sa SL SX nk σ I F ws ls st) (kk : ckGoal k0 s0 p l e R s m args below meth c Q nL cl D tI sa SL SX nk A τ pc I F ws) :
    ∃ (n : Int32) (w : Nat) (st' : List Value), st = .int n :: st' ∧ ¬ n < 0 ∧ n.toNatClampNeg = w ∧ w ≤ 1000000 ∧ σ.2.2.2.2.2.2.2.2.1 + 1 ≤ mc ∧ σ.2.2.2.2.2.2.2.2.2 + w ≤ ms ∧ ∀ (q : Nat) (a0 : vp_A) (H1 : Heap), (t = 1 → a0 = (w, .inr (.inl fun _ => 0))) → (t ≠ 1 → a0 = (w, .inl fun _ => 0)) → va_P D cl (ws ++ [(q, .inl (tI t, a0))]) H1 → va_D A (ws ++ [(q, .inl (tI t, a0))]) → va_S A s.heap H1 locs → W p l e R s m args below meth c H1 locs (k0 + σ.2.2.2.2.2.2.2.2.1 + 1) (s0 + σ.2.2.2.2.2.2.2.2.2 + w) Q (F0 m pc ls (.ref q :: st')) := by
  obtain ⟨L, S, C, T, G, X, Z, K, nc, ns⟩ := σ
  obtain ⟨hL, hS, hE⟩ := hR
  unfold ckNewRow at h
  dsimp only at h
  cases hi : ckTopI S with
  | none => rw [hi] at h; cases h
  | some q =>
    obtain ⟨n, r⟩ := q
    rw [hi] at h
    dsimp only at h
    obtain ⟨x, st', rfl, hx, hS1⟩ := ckTopI_s hi hS
    cases hp : ckPt (ckIv Z T n) with
    | none => rw [hp] at h; cases h
    | some v =>
      rw [hp] at h
      cases v with
      | negSucc v => cases h
      | ofNat w =>
        dsimp only at h
        have hv := ckPt_s hp (ckIv_ok hE.2.1 hx hE.2.2.2.2.1)
        have hv2 : x.toInt = (w : Int) := hv
        cases h0 : Nat.ble w 1000000 with
        | false => rw [h0] at h; cases h
        | true =>
          rw [h0] at h
          dsimp only at h
          have hw := Nat.le_of_ble_eq_true h0
          cases h1 : Nat.ble (nc + 1) mc with
          | false => rw [h1] at h; cases h
          | true =>
            rw [h1] at h
            dsimp only at h
            cases h2 : Nat.ble (ns + w) ms with
            | false => rw [h2] at h; cases h
            | true =>
              rw [h2] at h
              cases h
              have en : x.toNatClampNeg = w := by
                have e : x.toNatClampNeg = x.toInt.toNat := rfl
                rw [e, hv2]
                exact Int.toNat_natCast w
              refine ⟨x, w, st', rfl, fun q => ?_, en, hw, Nat.le_of_ble_eq_true h1, Nat.le_of_ble_eq_true h2, fun q a0 H1 t1 t2 hP hD hSS => ?_⟩
              · have q1 := Int32.lt_iff_toInt_lt.mp q
                have q2 : (0 : Int32).toInt = 0 := rfl
                omega
              · have exn : x = nI w := Int32.toInt_inj.mp (by rw [hv2, nI_toInt (by omega)])
                have e1 : (ws ++ [(q, (Sum.inl (tI t, a0) : va_E))]).map Prod.fst = ws.map Prod.fst ++ [q] := by rw [List.map_append]; rfl
                have e2 : (ws ++ [(q, (Sum.inl (tI t, a0) : va_E))]).map Prod.snd = ws.map Prod.snd ++ [Sum.inl (tI t, a0)] := by rw [List.map_append]; rfl
                have hA : ckExt (ws.map Prod.fst) (ws.map Prod.fst ++ [q]) := ckExt_app _ _
                have hE1 := hE.addF (g := ([(w, (0, 0))], [], [])) (f := fun _ => 0) ⟨⟨fun j _ _ => ⟨Int.le_refl _, Int.le_refl _⟩, True.intro⟩, fun q hq => absurd hq List.not_mem_nil, fun q hq => absurd hq List.not_mem_nil⟩
                have hlen := hE.lenC
                show W p l e R s m args below meth c H1 locs (k0 + (nc + 1)) (s0 + ns + w) Q _
                rw [Nat.add_assoc s0]
                refine kk I (F ++ [fun _ => 0]) _ ls _ H1 locs (ckExt_rf _) (ckExt_app _ _) (by rw [e1]; exact hA) ⟨by rw [e1]; exact hL.mono (ckExt_rf _) hA, by rw [e1]; exact ⟨⟨q, rfl, by show (ws.map Prod.fst ++ [q])[C.length]? = some q; rw [hlen]; simp⟩, ck2_mono (fun _ _ q => q.mono (ckExt_rf _) hA) hS1⟩, ⟨?_, hE1.2⟩⟩ ⟨hP, hD, hSS⟩
                rw [e1, e2]
                refine ck2_app (ck2_mono (fun _ _ q => q.mono (ckExt_rf _) (ckExt_rf _) hA) hE1.1) ⟨⟨w, by omega, by rw [← exn]; exact hx, ?_⟩, True.intro⟩
                split
                · exact ⟨_, by rw [t1 rfl]⟩
                · rename_i hne
                  exact ⟨fun _ => 0, fun _ => 0, by rw [t2 (fun h => hne h)], by rw [hE.lenF]; exact ck_last _ _, fun _ _ => rfl⟩
theorem ckS_mm {mx : Bool} (h : ckMM mx σ = some τ) (hR : ckRel nL tI sa SL SX nk σ I F ws ls st) (hW : ckWd s D cl A ws H locs) (kk : ckGoal k0 s0 p l e R s m args below meth c Q nL cl D tI sa SL SX nk A τ pc I F ws) :
    ∃ (x y : Int32) (st' : List Value), st = .int y :: .int x :: st' ∧ ck2 (fun _ _ => True) (σ.2.1.drop 2) st' ∧ (mx = true → W p l e R s m args below meth c H locs (k0 + σ.2.2.2.2.2.2.2.2.1) (s0 + σ.2.2.2.2.2.2.2.2.2) Q (F0 m pc ls (.int (if x < y then y else x) :: st'))) ∧ (mx = false → W p l e R s m args below meth c H locs (k0 + σ.2.2.2.2.2.2.2.2.1) (s0 + σ.2.2.2.2.2.2.2.2.2) Q (F0 m pc ls (.int (if y < x then y else x) :: st'))) := by
  obtain ⟨L, S, C, T, G, X, Z, K, nc, ns⟩ := σ
  obtain ⟨hL, hS, hE⟩ := hR
  unfold ckMM at h
  dsimp only at h
  cases ht : ckTopI S with
  | none => rw [ht] at h; cases h
  | some q =>
    obtain ⟨b, r⟩ := q
    rw [ht] at h
    dsimp only at h
    cases hu : ckTopI r with
    | none => rw [hu] at h; cases h
    | some q =>
      obtain ⟨a, r'⟩ := q
      rw [hu] at h
      obtain ⟨y, st1, rfl, h2, h3⟩ := ckTopI_s ht hS
      obtain ⟨x, st2, rfl, h4, h5⟩ := ckTopI_s hu h3
      have hrest : ck2 (fun _ _ => True) (S.drop 2) st2 := by
        have e : S.drop 2 = r' := by
          cases S with
          | nil => cases ht
          | cons q S =>
            obtain ⟨t, k⟩ := q
            unfold ckTopI at ht
            dsimp only at ht
            split at ht
            · cases ht
              cases r with
              | nil => cases hu
              | cons q S =>
                obtain ⟨t, k⟩ := q
                unfold ckTopI at hu
                dsimp only at hu
                split at hu
                · cases hu; rfl
                · cases hu
            · cases ht
        rw [e]
        exact ck2_mono (fun _ _ _ => True.intro) h5
      have old : ∀ (k : Nat) (z : Int32), I[k]? = some z → τ = (L, (0, k) :: r', C, T, G, X, Z, K, nc, ns) → W p l e R s m args below meth c H locs (k0 + nc) (s0 + ns) Q (F0 m pc ls (.int z :: st2)) := by
        rintro k z hz rfl
        exact kk I F ws ls _ H locs (ckExt_rf _) (ckExt_rf _) (ckExt_rf _) ⟨hL, ⟨⟨z, rfl, hz⟩, h5⟩, hE⟩ hW
      have new : ∀ (z : Int32) (w : ckI) (z1 z2 : ckZ), ckW w z → ckZok (I ++ [z]) z1 → ckZok (I ++ [z]) z2 → τ = (L, (0, T.length) :: r', C, T ++ [w], G, X, z1 :: z2 :: Z, K, nc, ns) → W p l e R s m args below meth c H locs (k0 + nc) (s0 + ns) Q (F0 m pc ls (.int z :: st2)) := by
        rintro z w z1 z2 hw q1 q2 rfl
        have hI := ckExt_app I [z]
        refine kk (I ++ [z]) F ws ls _ H locs hI (ckExt_rf _) (ckExt_rf _) ⟨hL.mono hI (ckExt_rf _), ⟨⟨z, rfl, by show (I ++ [z])[T.length]? = _; rw [hE.len]; exact ck_last _ _⟩, ck2_mono (fun _ _ q => q.mono hI (ckExt_rf _)) h5⟩, hE.addI (zs := [z1, z2]) hw fun t ht => ?_⟩ hW
        rcases List.mem_cons.mp ht with rfl | ht
        · exact q1
        · rcases List.mem_cons.mp ht with rfl | ht
          · exact q2
          · exact absurd ht List.not_mem_nil
      have wx : ckW (ckIv Z T a) x := ckIv_ok hE.2.1 h4 hE.2.2.2.2.1
      have wy : ckW (ckIv Z T b) y := ckIv_ok hE.2.1 h2 hE.2.2.2.2.1
      refine ⟨x, y, st2, rfl, hrest, ?_, ?_⟩
      · rintro rfl
        dsimp only at h
        cases hq : ckLeq T Z a b 0 with
        | true =>
          rw [hq] at h
          cases h
          have hle := ckLeq_ok hE.2.1 hE.2.2.2.2.1 hq h4 h2
          have e : (if x < y then y else x) = y := by
            by_cases hlt : x < y
            · rw [if_pos hlt]
            · rw [if_neg hlt]
              have hge : ¬ x.toInt < y.toInt := fun q => hlt (Int32.lt_iff_toInt_lt.mpr q)
              exact Int32.toInt_inj.mp (by omega)
          rw [e]
          exact old b y h2 rfl
        | false =>
          rw [hq] at h
          dsimp only at h
          cases hq2 : ckLeq T Z b a 0 with
          | true =>
            rw [hq2] at h
            cases h
            have hle := ckLeq_ok hE.2.1 hE.2.2.2.2.1 hq2 h2 h4
            have e : (if x < y then y else x) = x := by
              rw [if_neg (fun q => by have := Int32.lt_iff_toInt_lt.mp q; omega)]
            rw [e]
            exact old a x h4 rfl
          | false =>
            rw [hq2] at h
            cases h
            have hm : (if x < y then y else x).toInt = max x.toInt y.toInt := by
              by_cases hlt : x < y
              · rw [if_pos hlt]
                have := Int32.lt_iff_toInt_lt.mp hlt
                omega
              · rw [if_neg hlt]
                have hge : ¬ x.toInt < y.toInt := fun q => hlt (Int32.lt_iff_toInt_lt.mpr q)
                omega
            refine new _ _ _ _ ⟨?_, ?_⟩ ?_ ?_ rfl
            · rw [hm]; exact ckMax_le (by have := wx.1; omega) (by have := wy.1; omega)
            · rw [hm]
              have h1 := ckMax_l (ckIv Z T a).2 (ckIv Z T b).2
              have h2 := ckMax_r (ckIv Z T a).2 (ckIv Z T b).2
              have h3 := wx.2
              have h4 := wy.2
              show max x.toInt y.toInt ≤ ckMax (ckIv Z T a).2 (ckIv Z T b).2
              omega
            · exact ⟨x, _, ckExt_app _ _ _ _ h4, by show (I ++ [_])[T.length]? = _; rw [hE.len]; exact ck_last _ _, by rw [hm]; show x.toInt ≤ max x.toInt y.toInt + 0; omega⟩
            · exact ⟨y, _, ckExt_app _ _ _ _ h2, by show (I ++ [_])[T.length]? = _; rw [hE.len]; exact ck_last _ _, by rw [hm]; show y.toInt ≤ max x.toInt y.toInt + 0; omega⟩
      · rintro rfl
        dsimp only at h
        cases hq : ckLeq T Z a b 0 with
        | true =>
          rw [hq] at h
          cases h
          have hle := ckLeq_ok hE.2.1 hE.2.2.2.2.1 hq h4 h2
          have e : (if y < x then y else x) = x := by
            rw [if_neg (fun q => by have := Int32.lt_iff_toInt_lt.mp q; omega)]
          rw [e]
          exact old a x h4 rfl
        | false =>
          rw [hq] at h
          dsimp only at h
          cases hq2 : ckLeq T Z b a 0 with
          | true =>
            rw [hq2] at h
            cases h
            have hle := ckLeq_ok hE.2.1 hE.2.2.2.2.1 hq2 h2 h4
            have e : (if y < x then y else x) = y := by
              by_cases hlt : y < x
              · rw [if_pos hlt]
              · rw [if_neg hlt]
                have hge : ¬ y.toInt < x.toInt := fun q => hlt (Int32.lt_iff_toInt_lt.mpr q)
                exact Int32.toInt_inj.mp (by omega)
            rw [e]
            exact old b y h2 rfl
          | false =>
            rw [hq2] at h
            cases h
            have hm : (if y < x then y else x).toInt = min x.toInt y.toInt := by
              by_cases hlt : y < x
              · rw [if_pos hlt]
                have := Int32.lt_iff_toInt_lt.mp hlt
                omega
              · rw [if_neg hlt]
                have hge : ¬ y.toInt < x.toInt := fun q => hlt (Int32.lt_iff_toInt_lt.mpr q)
                omega
            refine new _ _ _ _ ⟨?_, ?_⟩ ?_ ?_ rfl
            · rw [hm]
              have h1 := ckMin_l (ckIv Z T a).1 (ckIv Z T b).1
              have h2 := ckMin_r (ckIv Z T a).1 (ckIv Z T b).1
              have h3 := wx.1
              have h4 := wy.1
              show ckMin (ckIv Z T a).1 (ckIv Z T b).1 ≤ min x.toInt y.toInt
              omega
            · rw [hm]; exact ckMin_ge (by have := wx.2; omega) (by have := wy.2; omega)
            · exact ⟨_, x, by show (I ++ [_])[T.length]? = _; rw [hE.len]; exact ck_last _ _, ckExt_app _ _ _ _ h4, by rw [hm]; show min x.toInt y.toInt ≤ x.toInt + 0; omega⟩
            · exact ⟨_, y, by show (I ++ [_])[T.length]? = _; rw [hE.len]; exact ck_last _ _, ckExt_app _ _ _ _ h2, by rw [hm]; show min x.toInt y.toInt ≤ y.toInt + 0; omega⟩
theorem ckS_copy (h : ckCopy σ = some τ) (hR : ckRel nL tI sa SL SX nk σ I F ws ls st) (kk : ckGoal k0 s0 p l e R s m args below meth c Q nL cl D tI sa SL SX nk A τ pc I F ws) :
    ∃ (o0 a0 n0 o1 a1 n1 : Nat) (f g : Nat → Int32) (sp dp n : Int32) (st' : List Value), st = .int n :: .int dp :: .ref a1 :: .int sp :: .ref a0 :: st' ∧ ws[o0]? = some (a0, .inl (tI 0, n0, .inl f)) ∧ ws[o1]? = some (a1, .inl (tI 0, n1, .inl g)) ∧ sp = 0 ∧ dp = 0 ∧ ¬ n < 0 ∧ n.toNatClampNeg ≤ n0 ∧ n.toNatClampNeg ≤ n1 ∧
      ∀ (H1 : Heap) (locs1 : List Loc), va_P D cl (ws.set o1 (a1, .inl (tI 0, n1, .inl (va_cpy f g 0 0 n.toNatClampNeg)))) H1 → va_D A (ws.set o1 (a1, .inl (tI 0, n1, .inl (va_cpy f g 0 0 n.toNatClampNeg)))) → va_S A s.heap H1 locs1 → W p l e R s m args below meth c H1 locs1 (k0 + σ.2.2.2.2.2.2.2.2.1) (s0 + σ.2.2.2.2.2.2.2.2.2) Q (F0 m pc ls st') := by
  obtain ⟨L, S, C, T, G, X, Z, K, nc, ns⟩ := σ
  obtain ⟨hL, hS, hE⟩ := hR
  unfold ckCopy at h
  dsimp only at h
  cases q1 : ckTopI S with
  | none => rw [q1] at h; cases h
  | some q =>
    obtain ⟨n, r1⟩ := q
    rw [q1] at h
    dsimp only at h
    obtain ⟨n', st1, rfl, hn, hS1⟩ := ckTopI_s q1 hS
    cases q2 : ckTopI r1 with
    | none => rw [q2] at h; cases h
    | some q =>
      obtain ⟨dp, r2⟩ := q
      rw [q2] at h
      dsimp only at h
      obtain ⟨dp', st2, rfl, hdp, hS2⟩ := ckTopI_s q2 hS1
      cases q3 : ckTopR r2 with
      | none => rw [q3] at h; cases h
      | some q =>
        obtain ⟨o1, r3⟩ := q
        rw [q3] at h
        dsimp only at h
        obtain ⟨a1, st3, rfl, ha1, hS3⟩ := ckTopR_s q3 hS2
        cases q4 : ckTopI r3 with
        | none => rw [q4] at h; cases h
        | some q =>
          obtain ⟨sp, r4⟩ := q
          rw [q4] at h
          dsimp only at h
          obtain ⟨sp', st4, rfl, hsp, hS4⟩ := ckTopI_s q4 hS3
          cases q5 : ckTopR r4 with
          | none => rw [q5] at h; cases h
          | some q =>
            obtain ⟨o0, r5⟩ := q
            rw [q5] at h
            dsimp only at h
            obtain ⟨a0, st5, rfl, ha0, hS5⟩ := ckTopR_s q5 hS4
            split at h
            · rename_i u0 ln0 f0 u1 ln1 f1 c0 c1
              cases hb : (Nat.beq u0 0 && Nat.beq u1 0) with
              | false => rw [hb] at h; cases h
              | true =>
                rw [hb] at h
                have hb2 := Bool.and_eq_true _ _ ▸ hb
                have e0 := Nat.eq_of_beq_eq_true hb2.1
                have e1 := Nat.eq_of_beq_eq_true hb2.2
                subst e0
                subst e1
                dsimp only at h
                split at h
                · rename_i p0 p1
                  have z0 : sp'.toInt = 0 := ckPt_s p0 (ckIv_ok hE.2.1 hsp hE.2.2.2.2.1)
                  have z1 : dp'.toInt = 0 := ckPt_s p1 (ckIv_ok hE.2.1 hdp hE.2.2.2.2.1)
                  have zz : (0 : Int32).toInt = 0 := rfl
                  have es : sp' = 0 := Int32.toInt_inj.mp (by omega)
                  have ed : dp' = 0 := Int32.toInt_inj.mp (by omega)
                  subst es
                  subst ed
                  cases hc : (ckNn (ckIv Z T n) && (ckLeq T Z n ln0 0 && ckLeq T Z n ln1 0)) with
                  | false => rw [hc] at h; cases h
                  | true =>
                    rw [hc] at h
                    dsimp only at h
                    have hc2 := Bool.and_eq_true _ _ ▸ hc
                    have hc3 := Bool.and_eq_true _ _ ▸ hc2.2
                    have n0 := ckNn_t hc2.1 (ckIv_ok hE.2.1 hn hE.2.2.2.2.1)
                    obtain ⟨w0, g0, m0, m01, m02, fa, ga, rfl, ga1, ga2⟩ := hE.cell ha0 c0
                    obtain ⟨w1, g1, m1, m11, m12, fb, gb, rfl, gb1, gb2⟩ := hE.cell ha1 c1
                    have l0 := ckLeq_ok hE.2.1 hE.2.2.2.2.1 hc3.1 hn m02
                    have l1 := ckLeq_ok hE.2.1 hE.2.2.2.2.1 hc3.2 hn m12
                    rw [nI_toInt m01] at l0
                    rw [nI_toInt m11] at l1
                    have en : n'.toNatClampNeg = n'.toInt.toNat := rfl
                    refine ⟨o0, a0, m0, o1, a1, m1, fa, fb, 0, 0, n', st5, rfl, g0, g1, rfl, rfl, fun q => ?_, by omega, by omega, fun H1 locs1 hP hD hSS => ?_⟩
                    · have q1 := Int32.lt_iff_toInt_lt.mp q
                      omega
                    · have e1 := ck_fst_set (y := .inl (tI 0, m1, .inl (va_cpy fa fb 0 0 n'.toNatClampNeg))) g1
                      cases hx : ckLeq T Z ln1 n 0 with
                      | true =>
                        rw [hx] at h
                        cases h
                        have l2 := ckLeq_ok hE.2.1 hE.2.2.2.2.1 hx m12 hn
                        rw [nI_toInt m11] at l2
                        refine kk I F _ ls st5 H1 locs1 (ckExt_rf _) (ckExt_rf _) (by rw [e1]; exact ckExt_rf _) ⟨by rw [e1]; exact hL, by rw [e1]; exact hS5, ⟨?_, hE.2⟩⟩ ⟨hP, hD, hSS⟩
                        rw [e1, ck_snd_set]
                        refine ck2_set o1 hE.1 ⟨m1, m11, m12, _, ga, rfl, ga1, fun j hj => ?_⟩
                        show (if 0 ≤ j ∧ j < 0 + n'.toNatClampNeg then fa (0 + (j - 0)) else fb j) = ga j
                        rw [if_pos ⟨Nat.zero_le _, by omega⟩, show 0 + (j - 0) = j by omega]
                        exact ga2 j (by omega)
                      | false =>
                        rw [hx] at h
                        cases h
                        have hE1 := hE.addF (g := ([], [], [])) (f := va_cpy fa fb 0 0 n'.toNatClampNeg) ⟨True.intro, fun q hq => absurd hq List.not_mem_nil, fun q hq => absurd hq List.not_mem_nil⟩
                        refine kk I (F ++ [va_cpy fa fb 0 0 n'.toNatClampNeg]) _ ls st5 H1 locs1 (ckExt_rf _) (ckExt_app _ _) (by rw [e1]; exact ckExt_rf _) ⟨by rw [e1]; exact hL, by rw [e1]; exact hS5, ⟨?_, hE1.2⟩⟩ ⟨hP, hD, hSS⟩
                        rw [e1, ck_snd_set]
                        exact ck2_set o1 hE1.1 ⟨m1, m11, m12, _, _, rfl, by rw [hE.lenF]; exact ck_last _ _, fun _ _ => rfl⟩
                · cases h
            · cases h
end CKH2

/-! crash -/
theorem jp_res {A a b : Nat → Int32} {n l : Nat} (hA : ∀ i, n ≤ i → A i = 0) (ha : ∀ i, n ≤ i → a i = 0) (h : ∀ i, i < n → b (n * l + i) = a i) : jp_cp A 0 n b (n * l) = a := by
  funext i
  by_cases e : i < n
  · have := jp_cp_in (a := A) (b := b) (lo := 0) (off := n * l) e
    rw [Nat.zero_add] at this
    rw [this, h i e]
  · rw [jp_cp_out (by omega), hA i (by omega), ha i (by omega)]
theorem jr_cut {k l : Nat} {r s : Nat} {d xw yh yt : Int32} {K L P N B V M bk bl bp bn bb bm bh xq ok ol op on ob ov om yc yg yq F T U : Nat → Int32} {S : Nat → jp_FS} (hl : l ≤ r) (hr : r ≤ 24) (hS : S l = (K, L, P, N, B, V, M)) (hS0 : S 0 = (ok, ol, op, on, ob, ov, om)) (hd : d = 0 ∨ (d = 1 ∧ r = 0)) (hLog : jp_Log S r d bk bl bp bn bb bm bh yc yg) :
    i_Rel k (nI l, nI l, d, xw, K, L, jp_pi K P, jp_ro N, B, M, V, bk, bl, bp, bn, bb, bm, bh, F, T, xq, U) (nI l, nI l, d, yh, yt, K, L, P, N, B, V, M, ok, ol, op, on, ob, ov, om, yc, yg, F, yq, U, T) :=
  ⟨S, l, l, d, xw, yh, yt, K, L, P, N, B, V, M, bk, bl, bp, bn, bb, bm, bh, xq, ok, ol, op, on, ob, ov, om, yc, yg, yq, F, T, U, rfl, rfl, hS, hS0, by omega, Nat.le_refl l, hd.elim Or.inl (fun h => Or.inr ⟨h.1, by omega⟩),
   fun j hj => hLog.1 j (by omega), fun h j hj => hLog.2.1 h j (by omega), fun j hj => hLog.2.2.1 j (by omega), fun j hj => hLog.2.2.2 j (by omega)⟩
theorem jy_crash_go {post : Int32 → SY → Prop} {l : Nat} {r s : Nat} {d xw yh yt : Int32} {K L P N B V M bk bl bp bn bb bm bh xq ok ol op on ob ov om yc yg yq F T U : Nat → Int32} {S : Nat → jp_FS} (hl : l ≤ r) (hr : r ≤ 24) (hS : S r = (K, L, P, N, B, V, M)) (hS0 : S 0 = (ok, ol, op, on, ob, ov, om)) (hd : d = 0 ∨ (d = 1 ∧ r = 0)) (hLog : jp_Log S r d bk bl bp bn bb bm bh yc yg)
    (h : ∀ K' L' P' N' B' V' M', S l = (K', L', P', N', B', V', M') → post (nI r - nI l) (nI l, nI l, d, yh, yt, K', L', P', N', B', V', M', ok, ol, op, on, ob, ov, om, yc, yg, F, yq, U, T)) : wY_crash_43 post (nI r) (nI l) (nI r) (nI s) d yh yt K L P N B V M ok ol op on ob ov om yc yg F yq U T := by
  have hI := hLog.1 r (Nat.le_refl r)
  have hI0 := hLog.1 0 (Nat.zero_le r)
  rw [hS] at hI
  rw [hS0] at hI0
  obtain ⟨e1, e2, e3, e4, e5, e6, e7⟩ := jp_cpZ hI.1 hI0.1
  unfold wY_crash_43
  refine jy_cpb_kind ?_
  refine jy_cpb_links ?_
  refine jy_cpb_parent ?_
  refine jy_cpb_named ?_
  refine jy_cpb_block ?_
  refine jy_cpb_value ?_
  refine jy_cpb_mark ?_
  rw [e1, e2, e3, e4, e5, e6, e7]
  have key : ∀ m j K' L' P' N' B' V' M', j + m = l → S j = (K', L', P', N', B', V', M') → wY_crash_129 post (nI r) (nI l) (m + 1) (nI j) (nI j) (nI s) d yh yt K' L' P' N' B' V' M' ok ol op on ob ov om yc yg F yq U T := by
    intro m
    induction m with
    | zero =>
      intro j K' L' P' N' B' V' M' hj hSj
      have : j = l := by omega
      subst this
      exact br_t (nI_le (by omega) (by omega)) (h _ _ _ _ _ _ _ hSj)
    | succ m ih =>
      intro j K' L' P' N' B' V' M' hj hSj
      have hd0 : d = 0 := hd.elim id (fun z => by omega)
      subst hd0
      have hR := hLog.2.2.2 j (by omega)
      rcases hSn : S (j + 1) with ⟨K2, L2, P2, N2, B2, V2, M2⟩
      rw [hSj, hSn] at hR
      refine br_f (nI_ge (by omega) (by omega)) (hR _ _ _ _ _ _ _ _ _ _ _ _ _ _ _ _ _ rfl rfl rfl rfl rfl (nm_r (nI_1 _) (ih (j + 1) K2 L2 P2 N2 B2 V2 M2 (by omega) hSn)))
  exact ⟨l + 1, key l 0 ok ol op on ob ov om (by omega) hS0⟩
theorem i_vc_crash {k : Nat} {u : SX} {v : SY} (I : i_Rel k u v) (hk : k + 5 ≤ 2560) (v1 : Int32) : wpX_crash (fun r u' => wpY_crash (fun r' v' => r' = r ∧ i_Rel (k + 5) u' v') v v1) u v1 := by
  have I' : i_Rel (k + 5) u v := I
  obtain ⟨S, r, s, d, xw, yh, yt, K, L, P, N, B, V, M, bk, bl, bp, bn, bb, bm, bh, xq, ok, ol, op, on, ob, ov, om, yc, yg, yq, F, T, U, rfl, rfl, hS, hS0, hr, hs, hd, hLog⟩ := I
  have hI := hLog.1 r (Nat.le_refl r)
  rw [hS] at hI
  obtain ⟨hZ, hK, hK0, hPR, hP0, hL0, hN, hNE, hEN, hB, hBE, hXN⟩ := hI
  unfold wpX_crash
  rcases pk_ix v1 (n := 25) (by omega) with h | h | ⟨j, hj, rfl⟩
  · refine br_t h ?_
    unfold wpY_crash
    exact jy_in (M := 24) (by omega) (fun j hj e => absurd ⟨j, hj, e⟩ (jv_rn (by omega) (Or.inl h))) (fun _ => br_t rfl ⟨rfl, I'⟩)
  · have h0 : ¬ v1 < 0 := fun z => absurd (Int32.lt_of_le_of_lt h z) (by decide)
    have h1 : ¬ v1 ≤ 24 := fun z => absurd (Int32.le_trans h z) (by decide)
    refine br_f h0 (br_f h1 ?_)
    unfold wpY_crash
    exact jy_in (M := 24) (by omega) (fun j hj e => absurd ⟨j, hj, e⟩ (jv_rn (by omega) (Or.inr h))) (fun _ => br_t rfl ⟨rfl, I'⟩)
  · refine br_f (nI_pos (by omega)) (br_t (nI_le (b := 24) (by omega) (by omega)) (nm_r (pk_sub hs) (pk_le (r - s) j (fun hle => ?_) (fun hlt => ?_))))
    · refine br_t (by decide) ?_
      have fin : wY_crash_43 (fun r' v' => r' = 0 ∧ i_Rel (k + 5) (nI r, nI r, d, xw, K, L, jp_pi K P, jp_ro N, B, M, V, bk, bl, bp, bn, bb, bm, bh, F, T, xq, U) v') (nI r) (nI r) (nI r) (nI s) d yh yt K L P N B V M ok ol op on ob ov om yc yg F yq U T := by
        refine jy_crash_go (xw := xw) (xq := xq) (Nat.le_refl r) hr hS hS0 hd hLog (fun K' L' P' N' B' V' M' e => ?_)
        rw [hS] at e
        cases e
        exact ⟨by rw [pk_sub (Nat.le_refl r), Nat.sub_self]; rfl, jr_cut (s := s) (Nat.le_refl r) hr hS hS0 hd hLog⟩
      unfold wpY_crash
      refine jy_in (M := 24) (by omega) (fun _ _ _ => br_f (by decide) ?_) (fun hno => absurd ⟨j, hj, rfl⟩ hno)
      rw [pk_sub hs, nI_add]
      refine pk_le j (r - s) (fun z => ?_) (fun z => fin)
      rw [show s + j = r from by omega]
      exact fin
    · rw [pk_sub (by omega)]
      refine br_f (nI_nle (by omega) (by omega)) ?_
      rw [pk_sub (by omega)]
      have el : r - (r - s - j) = s + j := by omega
      rw [el]
      have hBe := hLog.2.2.1 (s + j) (by omega)
      have hIl := hLog.1 (s + j) (by omega)
      rcases hSl : S (s + j) with ⟨K', L', P', N', B', V', M'⟩
      rw [hSl] at hBe hIl
      have hZl := hIl.1
      obtain ⟨b1, b2, b3, b4⟩ := hBe
      refine jx_loseRecordsBehind (by omega) ?_
      rw [jp_res (fun i hi => (hZ.1 i hi).1) (fun i hi => (hZl.1 i hi).1) (fun i hi => (b1 i hi).1), jp_res (fun i hi => (hZ.1 i hi).2.1) (fun i hi => (hZl.1 i hi).2.1) (fun i hi => (b1 i hi).2.1), jp_res (jp_pi_z (fun i hi => (hZ.1 i hi).1)) (jp_pi_z (fun i hi => (hZl.1 i hi).1)) (fun i hi => (b1 i hi).2.2), jp_res (jp_ro_z hZ.2.1) (jp_ro_z hZl.2.1) b2, jp_res hZ.2.2.1 hZl.2.2.1 b3, jp_res (fun i hi => (hZ.2.2.2 i hi).2) (fun i hi => (hZl.2.2.2 i hi).2) (fun i hi => (b4 i hi).1), jp_res (fun i hi => (hZ.2.2.2 i hi).1) (fun i hi => (hZl.2.2.2 i hi).1) (fun i hi => (b4 i hi).2)]
      unfold wpY_crash
      refine jy_in (M := 24) (by omega) (fun _ _ _ => br_f (by decide) ?_) (fun hno => absurd ⟨j, hj, rfl⟩ hno)
      rw [pk_sub hs, nI_add]
      refine br_t (nI_le (by omega) (by omega)) (jy_crash_go (xw := xw) (xq := xq) (by omega) hr hS hS0 hd hLog (fun K2 L2 P2 N2 B2 V2 M2 e => ?_))
      rw [hSl] at e
      cases e
      exact ⟨by rw [pk_sub (by omega)]; exact congrArg nI (by omega), jr_cut (s := s) (by omega) hr hSl hS0 hd hLog⟩

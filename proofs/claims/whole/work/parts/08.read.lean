section
variable {yr ys yd yh yt : Int32} {yk yl yp yn yb yv ym ok ol op on ob ov om yc yg yf yq yu ye : Nat → Int32}
theorem jy_ofc {post : Int32 → Prop} {a : Nat} (hB : jp_BR yb) (hN : jp_NR yn) (ha : a < 16) (h1 : yk a = 1 → post (nI (jp_cn (fun h => decide (¬ yb (24 * a + h) = -1)) 24))) (h2 : ¬ yk a = 1 → post (nI (jp_en yn a))) : ∃ n, wY_of_116 post (nI a) yr ys yd yh yt yk yl yp yn yb yv ym ok ol op on ob ov om yc yg yf yq yu ye n 0 (24 * nI a) := by
  rw [jv_c24]
  refine jv_cnt (fun n s i => wY_of_116 post (nI a) yr ys yd yh yt yk yl yp yn yb yv ym ok ol op on ob ov om yc yg yf yq yu ye n (nI s) (nI (24 * a + i))) (fun h => decide (¬ yb (24 * a + h) = -1)) 24 (fun n => br_t ?_ ⟨vp_in_nI ha (by omega), ?_⟩) (fun n i s hi ht hf => br_f ?_ ⟨vp_in_nI (by omega) (by omega), ?_⟩)
  · rw [jv_d24]; exact nI_le (by omega) (by omega)
  · rw [nI_clamp (by omega)]
    exact br_c h1 (fun hk => jy_entries hN ha (h2 hk))
  · rw [jv_d24]; exact nI_ge (by omega) (by omega)
  · rw [nI_clamp (by omega), jp_neg (by omega) (hB (24 * a + i) (by omega))]
    exact br_c (fun hc => nm_r (nI_1 _) (hf (by simp [hc]))) (fun hc => nm_r (nI_1 _) (nm_r (nI_1 _) (ht (by simp [hc]))))
end
section
variable {r s : Nat} {d xw yh yt : Int32} {K L P N B V M bk bl bp bn bb bm bh xq ok ol op on ob ov om yc yg yq F T U : Nat → Int32} {C : Prop}
theorem jr_of (hc : C) (hK : jp_KR K) (hN : jp_NR N) (hB : jp_BR B) (p q : Int32) : wpX_of (fun r' => wpY_of (fun r'' => r'' = r' ∧ C) (nI r, nI s, d, yh, yt, K, L, P, N, B, V, M, ok, ol, op, on, ob, ov, om, yc, yg, F, yq, U, T) p q) (nI r, nI s, d, xw, K, L, jp_pi K P, jp_ro N, B, M, V, bk, bl, bp, bn, bb, bm, bh, F, T, xq, U) p q := by
  unfold wpX_of
  refine jx_isInode (fun a ha e => br_f (by decide) ?_) (fun hno => br_t rfl (by unfold wpY_of; exact jy_in (M := 15) (by omega) (fun a ha e => absurd ⟨a, ha, e⟩ hno) (fun _ => br_t rfl ⟨rfl, hc⟩)))
  subst e
  rw [nI_clamp (n := a) (by omega)]
  have hv : vp_in (nI a) 16 := vp_in_nI ha (by omega)
  have wrap : ∀ x : Int32, (¬ ∃ j, j < 5 ∧ q = nI j) → wpY_of (fun r'' => r'' = -1 ∧ C) (nI r, nI s, d, yh, yt, K, L, P, N, B, V, M, ok, ol, op, on, ob, ov, om, yc, yg, F, yq, U, T) (nI a) q := fun _ hq => by
    unfold wpY_of
    exact jy_in (M := 15) (by omega) (fun _ _ _ => br_f (by decide) (jy_in (M := 4) (by omega) (fun j hj e => absurd ⟨j, hj, e⟩ hq) (fun _ => br_t rfl ⟨rfl, hc⟩))) (fun hno => absurd ⟨a, ha, rfl⟩ hno)
  have go : ∀ (z : Int32) (j : Nat), j < 5 → q = nI j → ((q = 0 → z = K a) ∧ (¬ q = 0 → (K a = 0 → z = -1) ∧ (¬ K a = 0 → (q = 3 → (K a = 1 → wY_of_56 (fun r'' => r'' = z ∧ C) (nI a) q (nI r) (nI s) d yh yt K L P N B V M ok ol op on ob ov om yc yg F yq U T) ∧ (¬ K a = 1 → z = -1)) ∧ (¬ q = 3 → wY_of_56 (fun r'' => r'' = z ∧ C) (nI a) q (nI r) (nI s) d yh yt K L P N B V M ok ol op on ob ov om yc yg F yq U T)))) → wpY_of (fun r'' => r'' = z ∧ C) (nI r, nI s, d, yh, yt, K, L, P, N, B, V, M, ok, ol, op, on, ob, ov, om, yc, yg, F, yq, U, T) (nI a) q := by
    intro z j hj e H
    unfold wpY_of
    refine jy_in (M := 15) (by omega) (fun _ _ _ => br_f (by decide) (jy_in (M := 4) (by omega) (fun _ _ _ => br_f (by decide) ?_) (fun hno => absurd ⟨j, hj, e⟩ hno))) (fun hno => absurd ⟨a, ha, rfl⟩ hno)
    rw [nI_clamp (n := a) (by omega)]
    refine br_c (fun h0 => ⟨hv, (H.1 h0).symm, hc⟩) (fun h0 => ⟨hv, br_c (fun k0 => ⟨((H.2 h0).1 k0).symm, hc⟩) (fun k0 => br_c (fun h3 => ⟨hv, ?_⟩) (fun h3 => ((H.2 h0).2 k0).2 h3))⟩)
    exact br_c (fun k1 => (((H.2 h0).2 k0).1 h3).1 k1) (fun k1 => ⟨((((H.2 h0).2 k0).1 h3).2 k1).symm, hc⟩)
  have h56 : ∀ z : Int32, ¬ q = 4 → wY_of_73 (fun r'' => r'' = z ∧ C) (nI a) q (nI r) (nI s) d yh yt K L P N B V M ok ol op on ob ov om yc yg F yq U T → wY_of_56 (fun r'' => r'' = z ∧ C) (nI a) q (nI r) (nI s) d yh yt K L P N B V M ok ol op on ob ov om yc yg F yq U T := fun z h4 h => br_f h4 h
  rcases pk_ix q (n := 5) (by omega) with h | h | ⟨j, hj, e⟩
  · have q0 : ¬ q = 0 := fun e => absurd h (by rw [e]; decide)
    have q1 : q < 1 := Int32.lt_trans h (by decide)
    refine br_f q0 ⟨hv, br_c (fun _ => wrap 0 (jv_rn (by omega) (Or.inl h))) (fun _ => ⟨hv, br_c (fun _ => br_t q1 (wrap 0 (jv_rn (by omega) (Or.inl h)))) (fun _ => br_t q1 (wrap 0 (jv_rn (by omega) (Or.inl h))))⟩)⟩
  · have q0 : ¬ q = 0 := fun e => absurd h (by rw [e]; decide)
    have q1 : ¬ q < 1 := fun z => absurd (Int32.lt_of_le_of_lt h z) (by decide)
    have q4 : 4 < q := Int32.lt_of_lt_of_le (by decide) h
    refine br_f q0 ⟨hv, br_c (fun _ => wrap 0 (jv_rn (by omega) (Or.inr h))) (fun _ => ⟨hv, br_c (fun _ => br_f q1 (br_t q4 (wrap 0 (jv_rn (by omega) (Or.inr h))))) (fun _ => br_f q1 (br_t q4 (wrap 0 (jv_rn (by omega) (Or.inr h)))))⟩)⟩
  · have go := fun z => go z j hj e
    have e5 : q = 0 ∨ q = 1 ∨ q = 2 ∨ q = 3 ∨ q = 4 := by
      rcases (by omega : j = 0 ∨ j = 1 ∨ j = 2 ∨ j = 3 ∨ j = 4) with rfl | rfl | rfl | rfl | rfl
      · exact Or.inl e
      · exact Or.inr (Or.inl e)
      · exact Or.inr (Or.inr (Or.inl e))
      · exact Or.inr (Or.inr (Or.inr (Or.inl e)))
      · exact Or.inr (Or.inr (Or.inr (Or.inr e)))
    clear e wrap
    rcases e5 with rfl | rfl | rfl | rfl | rfl
    · exact br_t rfl ⟨hv, go _ (br_t rfl rfl)⟩
    all_goals refine br_f (by decide) ⟨hv, br_c (fun k0 => go _ (br_f (by decide) (br_t k0 rfl))) (fun k0 => ⟨hv, br_c (fun k2 => br_f (by decide) (br_f (by decide) ?_)) (fun k2 => br_f (by decide) (br_f (by decide) ?_))⟩)⟩
    · refine br_t rfl ⟨hv, ?_⟩
      rw [nI_clamp (n := a) (by omega)]
      refine go _ (br_f (by decide) (br_f k0 (br_f (by decide) (h56 _ (by decide) (br_t rfl ⟨hv, ?_, hc⟩)))))
      rw [nI_clamp (n := a) (by omega)]
    · refine br_t rfl ⟨hv, ?_⟩
      rw [nI_clamp (n := a) (by omega)]
      refine go _ (br_f (by decide) (br_f k0 (br_f (by decide) (h56 _ (by decide) (br_t rfl ⟨hv, ?_, hc⟩)))))
      rw [nI_clamp (n := a) (by omega)]
    · refine br_f (by decide) (br_t rfl (br_f (by decide) (jx_countEntries' ha (go _ (br_f (by decide) (br_f k0 (br_f (by decide) (h56 _ (by decide) (br_f (by decide) (br_f (by decide) (br_f (by decide) (nm_e (jy_ofc hB hN ha (fun k1 => ?_) (fun k1 => ⟨rfl, hc⟩))))))))))))))
      rw [k2] at k1; exact absurd k1 (by decide)
    · have k1 : K a = 1 := (hK a ha).elim (fun h => absurd h k0) (fun h => h.elim id (fun h => absurd h k2))
      exact br_f (by decide) (br_t rfl (br_t rfl (jx_countMapped ha (go _ (br_f (by decide) (br_f k0 (br_f (by decide) (h56 _ (by decide) (br_f (by decide) (br_f (by decide) (br_f (by decide) (nm_e (jy_ofc hB hN ha (fun _ => ⟨rfl, hc⟩) (fun k => absurd k1 k))))))))))))))
    · refine br_f (by decide) (br_f (by decide) (br_t rfl (br_f (by decide) (go _ (br_f (by decide) (br_f k0 (br_t rfl (br_f ?_ rfl))))))))
      rw [k2]; decide
    · have k1 : K a = 1 := (hK a ha).elim (fun h => absurd h k0) (fun h => h.elim id (fun h => absurd h k2))
      exact br_f (by decide) (br_f (by decide) (br_t rfl (br_t rfl (jx_countExtents ha (go _ (br_f (by decide) (br_f k0 (br_t rfl (br_t k1 (h56 _ (by decide) (br_f (by decide) (br_t rfl (jy_extents hB ha ⟨rfl, hc⟩)))))))))))))
    · refine br_f (by decide) (br_f (by decide) (br_f (by decide) (br_t rfl (br_f (by decide) ⟨hv, ?_⟩))))
      rw [nI_clamp (n := a) (by omega), show jp_pi K P a = P a from if_neg k0]
      refine go _ (br_f (by decide) (br_f k0 (br_f (by decide) (br_t rfl ⟨hv, ?_⟩))))
      rw [nI_clamp (n := a) (by omega)]
      refine br_t k2 (br_f (by decide) (br_f (by decide) (br_t rfl ⟨hv, ?_, hc⟩)))
      rw [nI_clamp (n := a) (by omega)]
    · refine br_f (by decide) (br_f (by decide) (br_f (by decide) (br_t rfl (br_t rfl (go _ (br_f (by decide) (br_f k0 (br_f (by decide) (br_t rfl ⟨hv, ?_⟩)))))))))
      rw [nI_clamp (n := a) (by omega)]
      exact br_f k2 ⟨rfl, hc⟩
theorem jr_read (hc : C) (hB : jp_BR B) (p q : Int32) : wpX_read (fun r' => wpY_read (fun r'' => r'' = r' ∧ C) (nI r, nI s, d, yh, yt, K, L, P, N, B, V, M, ok, ol, op, on, ob, ov, om, yc, yg, F, yq, U, T) p q) (nI r, nI s, d, xw, K, L, jp_pi K P, jp_ro N, B, M, V, bk, bl, bp, bn, bb, bm, bh, F, T, xq, U) p q := by
  unfold wpX_read wpY_read
  refine jx_isFile (fun a ha e hk => br_f (by decide) (jx_isPosition (fun n hn e2 => br_f (by decide) ?_) (fun hno => br_t rfl ?_))) (fun hno => br_t rfl (jy_is (fun a ha e hk => absurd ⟨a, ha, e, hk⟩ hno) (fun _ => br_t rfl ⟨rfl, hc⟩)))
  · subst e e2
    rw [jv_f24]
    refine ⟨vp_in_nI (by omega) (by omega), ?_⟩
    rw [nI_clamp (by omega)]
    have yy : ∀ z : Int32, (B (24 * a + n) = -1 → z = 0) → (∀ b, b < 64 → B (24 * a + n) = nI b → z = V b) → wpY_is (fun r_1 => (r_1 = 0 → (fun r'' => r'' = z ∧ C) 0) ∧ (¬ r_1 = 0 → wpY_in (fun r_28 => (r_28 = 0 → (fun r'' => r'' = z ∧ C) 0) ∧ (¬ r_28 = 0 → vp_in (24 * nI a + nI n) 384 ∧ ((0 ≤ B (24 * nI a + nI n).toNatClampNeg → vp_in (24 * nI a + nI n) 384 ∧ vp_in (B (24 * nI a + nI n).toNatClampNeg) 64 ∧ (fun r'' => r'' = z ∧ C) (V (B (24 * nI a + nI n).toNatClampNeg).toNatClampNeg)) ∧ (¬ 0 ≤ B (24 * nI a + nI n).toNatClampNeg → (fun r'' => r'' = z ∧ C) 0)))) (nI n) 0 23)) (nI r, nI s, d, yh, yt, K, L, P, N, B, V, M, ok, ol, op, on, ob, ov, om, yc, yg, F, yq, U, T) (nI a) 1 := by
      intro z z1 z2
      refine jy_is (fun _ _ _ _ => br_f (by decide) (jy_in (M := 23) (by omega) (fun _ _ _ => br_f (by decide) ?_) (fun hno => absurd ⟨n, hn, rfl⟩ hno))) (fun hno => absurd ⟨a, ha, rfl, hk⟩ hno)
      rw [jv_e24, nI_clamp (by omega)]
      refine ⟨vp_in_nI (by omega) (by omega), ?_⟩
      rcases hB (24 * a + n) (by omega) with z0 | ⟨b, hb, z0⟩
      · rw [z0]; exact br_f (by decide) ⟨(z1 z0).symm, hc⟩
      · rw [z0]
        refine br_t (nI_pos' (by omega)) ⟨vp_in_nI (by omega) (by omega), vp_in_nI hb (by omega), ?_, hc⟩
        rw [nI_clamp (by omega)]; exact (z2 b hb z0).symm
    refine nm_e (br_c (fun hm => yy 0 (fun _ => rfl) (fun b hb z => ?_)) (fun hm => ?_))
    · rw [hm] at z; exact absurd z.symm (jv_m1n b (by omega))
    · rcases hB (24 * a + n) (by omega) with z0 | ⟨b, hb, z0⟩
      · exact absurd z0 hm
      · rw [z0]
        refine ⟨vp_in_nI hb (by omega), ?_⟩
        rw [nI_clamp (by omega)]
        refine yy _ (fun z => absurd z hm) (fun b' hb' z => ?_)
        rw [z0] at z
        rw [jv_inj z (by omega) (by omega)]
  · exact jy_is (fun _ _ _ _ => br_f (by decide) (jy_in (M := 23) (by omega) (fun n hn e => absurd ⟨n, hn, e⟩ hno) (fun _ => br_t rfl ⟨rfl, hc⟩))) (fun _ => br_t rfl ⟨rfl, hc⟩)
theorem jr_extent (hc : C) (hB : jp_BR B) (p k q : Int32) : wpX_extent (fun r' => wpY_extent (fun r'' => r'' = r' ∧ C) (nI r, nI s, d, yh, yt, K, L, P, N, B, V, M, ok, ol, op, on, ob, ov, om, yc, yg, F, yq, U, T) p k q) (nI r, nI s, d, xw, K, L, jp_pi K P, jp_ro N, B, M, V, bk, bl, bp, bn, bb, bm, bh, F, T, xq, U) p k q := by
  unfold wpX_extent
  have neg : wY_extent_23 (fun r'' => r'' = -1 ∧ C) p q (-1) (nI r) (nI s) d yh yt K L P N B V M ok ol op on ob ov om yc yg F yq U T := br_t (by decide) ⟨rfl, hc⟩
  refine jx_isFile (fun a ha e hk => br_f (by decide) ?_) (fun hno => br_t rfl (by unfold wpY_extent; exact jy_is (fun a ha e hk => absurd ⟨a, ha, e, hk⟩ hno) (fun _ => br_t rfl neg)))
  subst e
  refine jx_startOfExtent ha ?_
  cases hkth : jp_kth (jp_be B a) k 24 0 0 with
  | none =>
    refine br_t rfl ?_
    unfold wpY_extent
    refine jy_is (fun b hb e hk2 => br_f (by decide) (br_c (fun _ => neg) (fun _ => jy_extentAt hB ha ?_))) (fun hh => absurd ⟨a, ha, rfl, hk⟩ hh)
    rw [hkth]; exact neg
  | some n =>
    have hs := jp_kth_some _ _ _ _ _ _ hkth
    rw [jp_ov_some]
    refine br_f (jv_m1n _ (by omega)) ?_
    have fin : ∀ z : Int32, (∀ j, j < 3 → q = nI j → (q = 0 → z = nI n) ∧ (¬ q = 0 → (q = 1 → z = B (24 * a + n)) ∧ (¬ q = 1 → wpY_lengthAt (fun r'' => r'' = z ∧ C) (nI r, nI s, d, yh, yt, K, L, P, N, B, V, M, ok, ol, op, on, ob, ov, om, yc, yg, F, yq, U, T) (nI a) (nI n)))) → ((¬ ∃ j, j < 3 ∧ q = nI j) → z = -1) → wpY_extent (fun r'' => r'' = z ∧ C) (nI r, nI s, d, yh, yt, K, L, P, N, B, V, M, ok, ol, op, on, ob, ov, om, yc, yg, F, yq, U, T) (nI a) k q := by
      intro z h1 h2
      unfold wpY_extent
      refine jy_is (fun b hb e hk2 => br_f (by decide) (br_c (fun hneg => ?_) (fun _ => jy_extentAt hB ha ?_))) (fun hh => absurd ⟨a, ha, rfl, hk⟩ hh)
      · rw [jp_kth_neg _ _ hneg _ _ _ (by omega)] at hkth; simp at hkth
      · rw [hkth, jp_ov_some]
        refine br_f (nI_pos (by omega)) (jy_in (M := 2) (by omega) (fun j hj e => br_f (by decide) (br_c (fun e0 => ⟨((h1 j hj e).1 e0).symm, hc⟩) (fun e0 => br_c (fun e1 => ?_) (fun e1 => ((h1 j hj e).2 e0).2 e1)))) (fun hno => br_t rfl ⟨(h2 hno).symm, hc⟩))
        rw [jv_e24, nI_clamp (by omega)]
        exact ⟨vp_in_nI (by omega) (by omega), (((h1 j hj e).2 e0).1 e1).symm, hc⟩
    rcases pk_ix q (n := 3) (by omega) with h | h | ⟨j, hj, e⟩
    · have hno := jv_rn (N := 3) (by omega) (Or.inl h)
      exact br_t h (fin _ (fun j hj e => absurd ⟨j, hj, e⟩ hno) (fun _ => rfl))
    · have hno := jv_rn (N := 3) (by omega) (Or.inr h)
      have q1 : ¬ q < 0 := fun z => absurd (Int32.lt_of_le_of_lt h z) (by decide)
      have q4 : 2 < q := Int32.lt_of_lt_of_le (by decide) h
      exact br_f q1 (br_t q4 (fin _ (fun j hj e => absurd ⟨j, hj, e⟩ hno) (fun _ => rfl)))
    · have hno : ¬ ¬ ∃ j, j < 3 ∧ q = nI j := fun z => z ⟨j, hj, e⟩
      have e3 : q = 0 ∨ q = 1 ∨ q = 2 := by
        rcases (by omega : j = 0 ∨ j = 1 ∨ j = 2) with rfl | rfl | rfl
        · exact Or.inl e
        · exact Or.inr (Or.inl e)
        · exact Or.inr (Or.inr e)
      clear e
      rcases e3 with rfl | rfl | rfl
      · exact br_f (by decide) (br_f (by decide) (br_t rfl (fin _ (fun _ _ _ => br_t rfl rfl) (fun z => absurd z hno))))
      · refine br_f (by decide) (br_f (by decide) (br_f (by decide) (br_t rfl ?_)))
        rw [jv_f24, nI_clamp (by omega)]
        exact ⟨vp_in_nI (by omega) (by omega), fin _ (fun _ _ _ => br_f (by decide) (br_t rfl rfl)) (fun z => absurd z hno)⟩
      · have hbe := hs.2.2
        simp only [jp_be, decide_eq_true_eq] at hbe
        rcases hB (24 * a + n) (by omega) with z0 | ⟨b, hb, z0⟩
        · exact absurd z0 hbe.1
        · refine br_f (by decide) (br_f (by decide) (br_f (by decide) (br_f (by decide) (br_t rfl (jx_lengthOfExtent ha (by omega) hb z0 (fun Ln hL => ?_))))))
          refine fin _ (fun _ _ _ => br_f (by decide) (br_f (by decide) (jy_lengthAt ha (by omega) hb z0 (fun L2 hL2 => ⟨?_, hc⟩)))) (fun z => absurd z hno)
          rw [jp_Len_un hL hL2]
theorem jr_state (hc : C) (hd : d = 0 ∨ d = 1) (q : Int32) : wpX_state (fun r' => wpY_state (fun r'' => r'' = r' ∧ C) (nI r, nI s, d, yh, yt, K, L, P, N, B, V, M, ok, ol, op, on, ob, ov, om, yc, yg, F, yq, U, T) q) (nI r, nI s, d, xw, K, L, jp_pi K P, jp_ro N, B, M, V, bk, bl, bp, bn, bb, bm, bh, F, T, xq, U) q := by
  have yy : ∀ z : Int32, (((q < 0 → z = -1) ∧ (¬ q < 0 → (5 < q → z = -1) ∧ (¬ 5 < q → (q = 0 → z = nI (jp_cn (fun s => decide (M s = 0)) 64)) ∧ (¬ q = 0 → (q = 1 → ∀ L s, jp_LR M 64 L s → z = nI L) ∧ (¬ q = 1 → (q = 2 → z = nI r) ∧ (¬ q = 2 → (q = 3 → z = nI s) ∧ (¬ q = 3 → (q = 4 → z = nI (jp_cn (fun s => decide (¬ K s = 0)) 16)) ∧ (¬ q = 4 → (q = 5 → z = d)))))))))) → wpY_state (fun r'' => r'' = z ∧ C) (nI r, nI s, d, yh, yt, K, L, P, N, B, V, M, ok, ol, op, on, ob, ov, om, yc, yg, F, yq, U, T) q := by
    intro z H
    unfold wpY_state
    refine jv_cnt (fun n c i => wY_state_4 (fun r'' => r'' = z ∧ C) q (nI r) (nI s) d yh yt K L P N B V M ok ol op on ob ov om yc yg F yq U T n (nI c) (nI i)) (fun s => decide (M s = 0)) 64 (fun n => br_t (nI_le (a := 64) (by omega) (by omega)) ?_) (fun n i s hi ht hf => br_f (nI_ge (b := 64) hi (by omega)) ⟨vp_in_nI (by omega) (by omega), ?_⟩)
    · refine jv_cnt (fun n c i => wY_state_33 (fun r'' => r'' = z ∧ C) q _ (nI r) (nI s) d yh yt K L P N B V M ok ol op on ob ov om yc yg F yq U T n (nI c) (nI i)) (fun s => decide (¬ K s = 0)) 16 (fun n => br_t (nI_le (a := 16) (by omega) (by omega)) ?_) (fun n i s hi ht hf => br_f (nI_ge (b := 16) hi (by omega)) ⟨vp_in_nI (by omega) (by omega), ?_⟩)
      · refine br_c (fun h => ⟨(H.1 h).symm, hc⟩) (fun h => ?_)
        have H := H.2 h
        refine br_c (fun h => ⟨(H.1 h).symm, hc⟩) (fun h => ?_)
        have H := H.2 h
        refine br_c (fun h => ⟨(H.1 h).symm, hc⟩) (fun h => ?_)
        have H := H.2 h
        refine br_c (fun h => jy_longest (fun L s hL => br_f (by decide) ⟨(H.1 h L s hL).symm, hc⟩)) (fun h => ?_)
        have H := H.2 h
        refine br_c (fun h => ⟨(H.1 h).symm, hc⟩) (fun h => ?_)
        have H := H.2 h
        refine br_c (fun h => ⟨(H.1 h).symm, hc⟩) (fun h => ?_)
        have H := H.2 h
        refine br_c (fun h => ⟨(H.1 h).symm, hc⟩) (fun h => ?_)
        have H := H.2 h
        refine br_c (fun h => br_c (fun h0 => ⟨?_, hc⟩) (fun h0 => ⟨?_, hc⟩)) (fun h => trivial)
        · rw [H h, h0]
        · rw [H h]
          rcases hd with e | e
          · exact absurd e h0
          · rw [e]
      · rw [nI_clamp (by omega)]
        exact br_c (fun hc => nm_r (nI_1 _) (hf (by simp [hc]))) (fun hc => nm_r (nI_1 _) (nm_r (nI_1 _) (ht (by simp [hc]))))
    · rw [nI_clamp (by omega)]
      exact br_c (fun hc => nm_r (nI_1 _) (nm_r (nI_1 _) (ht (by simp [hc])))) (fun hc => nm_r (nI_1 _) (hf (by simp [hc])))
  unfold wpX_state
  refine br_c (fun h => yy _ (br_t h rfl)) (fun h => ?_)
  have Y1 := fun z H => yy z (br_f h H)
  clear yy
  refine br_c (fun h => Y1 _ (br_t h rfl)) (fun h => ?_)
  have yy := fun z H => Y1 z (br_f h H)
  clear Y1
  refine br_c (fun h => jx_countUnmarked (yy _ (br_t h rfl))) (fun h => ?_)
  have Y1 := fun z H => yy z (br_f h H)
  clear yy
  refine br_c (fun h => jx_lengthOfLongestRow (fun L s hL => Y1 _ (br_t h (fun L' s' hL' => by rw [(jp_LR_un hL hL').1])))) (fun h => ?_)
  have yy := fun z H => Y1 z (br_f h H)
  clear Y1
  refine br_c (fun h => yy _ (br_t h rfl)) (fun h => ?_)
  have Y1 := fun z H => yy z (br_f h H)
  clear yy
  refine br_c (fun h => Y1 _ (br_t h rfl)) (fun h => ?_)
  have yy := fun z H => Y1 z (br_f h H)
  clear Y1
  refine br_c (fun h => jx_countInodes (yy _ (br_t h rfl))) (fun h => ?_)
  have Y1 := fun z H => yy z (br_f h H)
  clear yy
  refine br_c (fun h => br_c (fun h0 => Y1 _ (fun _ => h0.symm)) (fun h0 => Y1 _ (fun _ => ?_))) (fun h => trivial)
  rcases hd with e | e
  · exact absurd e h0
  · rw [e]
end

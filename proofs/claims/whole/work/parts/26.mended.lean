/-! a mended volume -/
theorem jp_fin {V M K L B P N F T R : Nat → Int32} {t : Nat} (Q : jp_Q V M 16 (K, L, B, P, N, F, T, R, t)) : (∀ i, i < 16 → K i = 0 → jp_nc N i = 0) ∧ jp_nc N 0 = 0 ∧ jp_T1 K P N := by
  obtain ⟨hI, ⟨D, J⟩, hT0, hall⟩ := Q
  obtain ⟨hZ, hK, hK0, hPR, hP0, hL0, hN, hNE, hEN, hB, hBE, hXN⟩ := hI
  obtain ⟨j1, j2, j3, j4, j5, j6, j7, j8, rk, j9, j10⟩ := J
  have md : ∀ i, i < 16 → K i = 2 → jp_MD K T i := by
    intro i hi k2
    refine ⟨k2, ?_⟩
    by_cases e : i = 0
    · rw [e]; exact hT0
    · rcases hall i (by omega) hi hi with z | z
      · rw [k2] at z; exact absurd z (by decide)
      · exact z
  have rest : ∀ s, s < 1024 → D s = false → N s = -1 := by
    intro s hs hd
    by_cases k2 : K (s / 64) = 2
    · rcases j5 (s / 64) (by omega) (md _ (by omega) k2) with ⟨j, a1, a2, _⟩ | z | z
      · omega
      · omega
      · have := z (s % 64) (by omega)
        rw [show 64 * (s / 64) + s % 64 = s from by omega, hd] at this
        exact Bool.noConfusion this
    · have := hNE (s / 64) (by omega) k2 (s % 64) (by omega)
      rw [show 64 * (s / 64) + s % 64 = s from by omega] at this
      exact this
  have cnt : ∀ v, v < 16 → jp_cD D N v = jp_nc N v := by
    intro v hv
    apply jp_cn_congr
    intro s hs
    cases hd : D s
    · rw [rest s hs hd, Bool.false_and, decide_eq_false (fun z => jv_m1n v (by omega) z.symm)]
    · rw [Bool.true_and]
  refine ⟨fun i hi k0 => ?_, ?_, rk, fun i h0 hi k2 => ?_⟩
  · rw [← cnt i hi]; exact jp_cD_0 hi j7 (Or.inr (Or.inl k0))
  · rw [← cnt 0 (by omega)]; exact jp_cD_0 (by omega) j7 (Or.inl rfl)
  · refine ⟨by rw [← cnt i hi]; exact j8 i hi (by omega) (md i hi k2), ?_⟩
    obtain ⟨p, q, h1, h2, h3, h4, h5, h6, h7⟩ := j10 i hi (by omega) (md i hi k2)
    exact ⟨p, q, h1, h2, h3, h4, h7⟩
theorem jp_end_I0 {K L P N B V M B' U' F' L' : Nat → Int32} (h : jp_I0 (K, L, P, N, B, V, M)) (hP : jp_PV K 384 (B', U', F')) (hL : ∀ i, L' i = if i < 16 ∧ ¬ K i = 0 then nI (jp_nc N i) else L i) : jp_I0 (K, L', P, N, B', V, jp_cp M 0 64 U' 0) := by
  obtain ⟨hZ, hK, hK0, hPR, hP0, hL0, hN, hNE, hEN, hB, hBE, hXN⟩ := h
  obtain ⟨b1, b2, b3, b4, _⟩ := hP
  refine ⟨⟨fun i hi => ⟨(hZ.1 i hi).1, ?_, (hZ.1 i hi).2.2⟩, hZ.2.1, b3, fun i hi => ⟨(hZ.2.2.2 i hi).1, ?_⟩⟩, hK, hK0, hPR, hP0, fun i hi k0 => ?_, hN, hNE, hEN, b1, b2, b4⟩
  · rw [hL i, if_neg (by omega)]; exact (hZ.1 i hi).2.1
  · rw [jp_cp_out (by omega)]; exact (hZ.2.2.2 i hi).2
  · rw [hL i, if_neg (fun z => z.2 k0)]; exact hL0 i hi k0
theorem jp_end_I1 {K L P N B V M B' U' F' L' F T R : Nat → Int32} {t : Nat} (Q : jp_Q V M 16 (K, L, B, P, N, F, T, R, t)) (hP : jp_PV K 384 (B', U', F')) (hL : ∀ i, L' i = if i < 16 ∧ ¬ K i = 0 then nI (jp_nc N i) else L i) : jp_I1 (K, L', P, N, B', V, jp_cp M 0 64 U' 0) := by
  obtain ⟨f1, f2, f3⟩ := jp_fin Q
  obtain ⟨b1, b2, b3, b4, u1, u2⟩ := hP
  refine ⟨fun i hi => ?_, f2, ⟨fun s t b hs ht hb e1 e2 => u2 s t b hs ht hb e1 e2, fun s b hs hb e => ?_⟩, f3⟩
  · rw [hL i]
    by_cases k0 : K i = 0
    · rw [if_neg (fun z => z.2 k0), f1 i hi k0]; exact Q.1.2.2.2.2.2.1 i hi k0
    · rw [if_pos ⟨hi, k0⟩]
  · have := jp_cp_in (a := M) (b := U') (lo := 0) (off := 0) hb
    rw [Nat.zero_add] at this
    rw [this]
    exact u1 s b hs hb e
theorem jp_PV_0 {K L P N B V M U F : Nat → Int32} (h : jp_I0 (K, L, P, N, B, V, M)) : jp_PV K 0 (B, U, F) := by
  obtain ⟨hZ, hK, hK0, hPR, hP0, hL0, hN, hNE, hEN, hB, hBE, hXN⟩ := h
  exact ⟨hB, hBE, hZ.2.2.1, hXN, fun s b hs => absurd hs (Nat.not_lt_zero s), fun s t b hs => absurd hs (Nat.not_lt_zero s)⟩
/-- the first visit, from the root -/
theorem jp_Q_1 {K L P N B V M F T R : Nat → Int32} {b : jp_BS} (h : jp_I0 (K, L, P, N, B, V, M)) (e : jp_vis K 16 0 (P, N, F, upd (jp_fl T 0 16 0) 0 1, upd R 0 (nI 0), 1) = b) : jp_Q V M 1 (K, L, B, b) := by
  have J := jp_J_root (P := P) (N := N) (F := F) (T := jp_fl T 0 16 0) (R := R) h.2.2.1 (fun i hi => jp_fl_in (by omega) (by omega))
  have E := jp_vis_E 16 0 (upd (jp_fl T 0 16 0) 0 1) _ _ _ _ _ _ _ b rfl J (jp_I0_JI h) (fun w hw => hw) e
  obtain ⟨P2, N2, F2, T2, R2, t2⟩ := b
  obtain ⟨hJ, hI, hm⟩ := E
  exact ⟨jp_I0_of h hI, hJ, hm 0 (by rw [pk_us]; decide), fun v h1 h2 _ => by omega⟩
section
variable {xr xs xd xw : Int32} {xk xl xp xn xb xm xh bk bl bp bn bb bm bh xf xt xq xu : Nat → Int32}
theorem jx_root {post : SX → Prop} {K L P N B V M R : Nat → Int32} (h : jp_I0 (K, L, P, N, B, V, M))
    (hpost : ∀ P' N' F' T' R' t' xw' W', jp_vis K 16 0 (P, N, xf, upd (jp_fl xt 0 16 0) 0 1, upd R 0 (nI 0), 1) = (P', N', F', T', R', t') → post (xr, xs, xd, xw', K, xl, jp_pi K P', jp_ro N', xb, xm, xh, bk, bl, bp, bn, bb, bm, bh, F', T', W', xu)) :
    wpX_meetFromRoot post (xr, xs, xd, xw, K, xl, jp_pi K P, jp_ro N, xb, xm, xh, bk, bl, bp, bn, bb, bm, bh, xf, xt, xq, xu) := by
  unfold wpX_meetFromRoot
  refine pk_loop (σ := Nat → Int32) (fun n i s => wX_meetFromRoot_2 post xr xs xd xw n (nI i) K xl (jp_pi K P) (jp_ro N) xb xm xh bk bl bp bn bb bm bh xf s xq xu) (fun i s => s = jp_fl xt 0 i 0) 16 0 xt (by omega) (jp_fl_0 _ _ _).symm (fun n s hI => br_t (nI_le (a := 16) (by omega) (by omega)) ?_) (fun n i s hi hI ih => br_f (nI_ge (b := 16) hi (by omega)) ⟨vp_in_nI hi (by omega), ?_⟩)
  · subst hI
    have hK0 := h.2.2.1
    have J := jp_J_root (P := P) (N := N) (F := xf) (T := jp_fl xt 0 16 0) (R := R) hK0 (fun i hi => jp_fl_in (by omega) (by omega))
    refine jx_meet (v := 0) (d := 0) (w := 0) (by omega) (fun _ => by omega) (fun _ => ?_) (fun k2 => absurd hK0 k2)
    have ep : upd (jp_pi K P) 0 (nI 0) = jp_pi K P := by
      rw [jp_pi_upd (by rw [hK0]; decide)]
      exact congrArg (jp_pi K) (jp_updI h.2.2.2.2.1)
    rw [ep]
    have := jx_vis (post := fun u => match u with | (xr, xs, xd, xw, xk, xl, xp, xn, xb, xm, xh, bk, bl, bp, bn, bb, bm, bh, xf, xt, xq, xu) => post (xr, xs, xd, xw, xk, xl, xp, xn, xb, xm, xh, bk, bl, bp, bn, bb, bm, bh, xf, xt, xq, xu)) (base := 0) (xr := xr) (xs := xs) (xd := xd) (xl := xl) (xb := xb) (xm := xm) (xh := xh) (bk := bk) (bl := bl) (bp := bp) (bn := bn) (bb := bb) (bm := bm) (bh := bh) (xu := xu) 16 0 _ _ _ _ _ _ (upd xq 0 (nI 0)) _ rfl (Nat.le_refl 0) J (jp_I0_JI h) ⟨by omega, fun i hi => by rw [show i = 0 from by omega, pk_us, Nat.add_zero, pk_us]⟩ (fun P' N' F' T' R' t' W' e => hpost _ _ _ _ _ _ _ _ e)
    exact ⟨_, this⟩
  · rw [nI_clamp (by omega), jv_vn0]
    exact nm_e (nm_r (nI_1 _) (ih _ (by rw [hI, ← jp_fl_s, Nat.zero_add])))
end
section
variable {yr ys yd yh yt : Int32} {yk yl yp yn yb yv ym ok ol op on ob ov om yc yg yf yq yu ye : Nat → Int32}
theorem jy_root {post : Int32 → SY → Prop} {K L P N B V M : Nat → Int32} (h : jp_I0 (K, L, P, N, B, V, M))
    (hpost : ∀ P' N' F' T' R' t', jp_vis K 16 0 (P, N, yf, upd (jp_fl ye 0 16 0) 0 1, upd yq 0 (nI 0), 1) = (P', N', F', T', R', t') → ∃ n, wY_mend_72 post n 1 yr ys yd (nI t') (nI t') K yl P' N' yb yv ym ok ol op on ob ov om yc yg F' R' yu T') :
    ∃ n, wY_mend_31 post yr ys yd yh yt n 0 K yl P N yb yv ym ok ol op on ob ov om yc yg yf yq yu ye := by
  refine pk_loop (σ := Nat → Int32) (fun n i s => wY_mend_31 post yr ys yd yh yt n (nI i) K yl P N yb yv ym ok ol op on ob ov om yc yg yf yq yu s) (fun i s => s = jp_fl ye 0 i 0) 16 0 ye (by omega) (jp_fl_0 _ _ _).symm (fun n s hI => br_t (nI_le (a := 16) (by omega) (by omega)) ?_) (fun n i s hi hI ih => br_f (nI_ge (b := 16) hi (by omega)) ⟨vp_in_nI hi (by omega), ?_⟩)
  · subst hI
    have hK0 := h.2.2.1
    have J := jp_J_root (P := P) (N := N) (F := yf) (T := jp_fl ye 0 16 0) (R := yq) hK0 (fun i hi => jp_fl_in (by omega) (by omega))
    refine jy_meet (v := 0) (d := 0) (t := 0) (by omega) (fun _ => by omega) (fun _ => ?_) (fun k2 => absurd hK0 k2)
    have ep : upd P 0 (nI 0) = P := jp_updI h.2.2.2.2.1
    rw [ep]
    exact ⟨_, jy_vis 16 0 _ _ _ _ _ _ _ rfl J (jp_I0_JI h) (fun P' N' F' T' R' t' e => hpost P' N' F' T' R' t' e)⟩
  · rw [nI_clamp (by omega), jv_vn0]
    exact nm_e (nm_r (nI_1 _) (ih _ (by rw [hI, ← jp_fl_s, Nat.zero_add])))
end

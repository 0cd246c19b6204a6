/-! the loop over what was not met: both sides -/
def jx_C1 (post : Int32 → SX → Prop) : SX → Prop
  | (xr, xs, xd, xw, xk, xl, xp, xn, xb, xm, xh, bk, bl, bp, bn, bb, bm, bh, xf, xt, xq, xu) => ∃ n, wX_mend_91 post xr xs 0 xw xk xl xp xn xb xm xh bk bl bp bn bb bm bh xf xt xq xu n 0 0
def jx_C2 (post : Int32 → SX → Prop) : SX → Prop
  | (xr, xs, xd, xw, xk, xl, xp, xn, xb, xm, xh, bk, bl, bp, bn, bb, bm, bh, xf, xt, xq, xu) => wpX_mendLinks (fun u => jx_C1 post u) (xr, xs, xd, xw, xk, xl, xp, xn, xb, xm, xh, bk, bl, bp, bn, bb, bm, bh, xf, xt, xq, xu)
def jx_C3 (post : Int32 → SX → Prop) : SX → Prop
  | (xr, xs, xd, xw, xk, xl, xp, xn, xb, xm, xh, bk, bl, bp, bn, bb, bm, bh, xf, xt, xq, xu) => wpX_mendMarks (fun u => jx_C2 post u) (xr, xs, xd, xw, xk, xl, xp, xn, xb, xm, xh, bk, bl, bp, bn, bb, bm, bh, xf, xt, xq, xu)
def jy_C1 (post : Int32 → SY → Prop) : SY → Prop
  | (yr, ys, yd, yh, yt, yk, yl, yp, yn, yb, yv, ym, ok, ol, op, on, ob, ov, om, yc, yg, yf, yq, yu, ye) => ∃ n, wY_mend_171 post yr ys yd yh yt n 0 yk yl yp yn yb yv ym ok ol op on ob ov om yc yg yf yq yu ye
theorem jp_Q_n {V M : Nat → Int32} {s0 : jp_MS} (Q : jp_Q V M 1 s0) : ∀ (n : Nat) (s' : jp_MS), n ≤ 15 → jp_fd (fun i => jp_rsc (i + 1)) n s0 = s' → jp_Q V M (n + 1) s' := by
  intro n
  induction n with
  | zero => intro s' _ e; subst e; exact Q
  | succ n ih =>
    intro s' hn e
    generalize em : jp_fd (fun i => jp_rsc (i + 1)) n s0 = sm
    have Qm := ih sm (by omega) em
    refine jp_Q_step (k := n + 1) (by omega) (by omega) Qm ?_
    rw [← em]; exact e
section
variable {xr xs xd xw : Int32} {xk xl xp xn xb xm xh bk bl bp bn bb bm bh xf xt xq xu : Nat → Int32}
theorem jx_rl {post : Int32 → SX → Prop} {V M : Nat → Int32} {s0 : jp_MS} (Q : jp_Q V M 1 s0)
    (hend : ∀ K' L' B' P' N' F' T' R' t' xw' W', jp_fd (fun i => jp_rsc (i + 1)) 15 s0 = (K', L', B', P', N', F', T', R', t') → wpX_dropSharedExtents (fun u => jx_C3 post u) (xr, xs, xd, xw', K', L', jp_pi K' P', jp_ro N', B', xm, xh, bk, bl, bp, bn, bb, bm, bh, F', T', W', xu)) :
    ∃ n, wX_mend_35 post n 1 xr xs xd xw (s0.1) (s0.2.1) (jp_pi s0.1 s0.2.2.2.1) (jp_ro s0.2.2.2.2.1) (s0.2.2.1) xm xh bk bl bp bn bb bm bh (s0.2.2.2.2.2.1) (s0.2.2.2.2.2.2.1) xq xu := by
  refine pk_loop (σ := jp_MS × Int32 × (Nat → Int32)) (fun n i s => wX_mend_35 post n (nI (i + 1)) xr xs xd (s.2.1) (s.1.1) (s.1.2.1) (jp_pi s.1.1 s.1.2.2.2.1) (jp_ro s.1.2.2.2.2.1) (s.1.2.2.1) xm xh bk bl bp bn bb bm bh (s.1.2.2.2.2.2.1) (s.1.2.2.2.2.2.2.1) (s.2.2) xu) (fun i s => jp_fd (fun i => jp_rsc (i + 1)) i s0 = s.1 ∧ jp_Q V M (i + 1) s.1) 15 0 (s0, xw, xq) (by omega) ⟨rfl, Q⟩ (fun n s hI => br_t (nI_le (a := 16) (by omega) (by omega)) ?_) (fun n i s hi hI ih => br_f (nI_ge (b := 16) (by omega) (by omega)) ⟨vp_in_nI (by omega) (by omega), ?_⟩)
  · obtain ⟨⟨K', L', B', P', N', F', T', R', t'⟩, xw', W'⟩ := s
    exact hend K' L' B' P' N' F' T' R' t' xw' W' hI.1
  · obtain ⟨⟨K', L', B', P', N', F', T', R', t'⟩, xw', W'⟩ := s
    obtain ⟨hb, hQ⟩ := hI
    dsimp only at hb hQ ⊢
    have hv : vp_in (nI (i + 1)) 16 := vp_in_nI (by omega) (by omega)
    have next : ∀ K2 L2 B2 P2 N2 F2 T2 R2 t2 xw2 W2, jp_rsc (i + 1) (K', L', B', P', N', F', T', R', t') = (K2, L2, B2, P2, N2, F2, T2, R2, t2) → wX_mend_35 post n (nI (i + 1 + 1)) xr xs xd xw2 K2 L2 (jp_pi K2 P2) (jp_ro N2) B2 xm xh bk bl bp bn bb bm bh F2 T2 W2 xu := by
      intro K2 L2 B2 P2 N2 F2 T2 R2 t2 xw2 W2 e
      refine ih ((K2, L2, B2, P2, N2, F2, T2, R2, t2), xw2, W2) ⟨?_, jp_Q_step (by omega) (by omega) hQ e⟩
      dsimp only
      rw [← e, ← hb]; rfl
    rw [nI_clamp (by omega)]
    refine br_c (fun k0 => nm_r (nI_1 _) (next _ _ _ _ _ _ _ _ _ _ _ (jp_rsc_0 (Or.inl k0)))) (fun k0 => ⟨hv, br_c (fun t0 => ?_) (fun t0 => nm_r (nI_1 _) (next _ _ _ _ _ _ _ _ _ _ _ (jp_rsc_0 (Or.inr t0))))⟩)
    exact jx_rescue hQ (by omega) (by omega) k0 t0 (fun K2 L2 B2 P2 N2 F2 T2 R2 t2 xw2 W2 e => nm_r (nI_1 _) (next K2 L2 B2 P2 N2 F2 T2 R2 t2 xw2 W2 e))
end
section
variable {yr ys yd yh yt : Int32} {yk yl yp yn yb yv ym ok ol op on ob ov om yc yg yf yq yu ye : Nat → Int32}
theorem jy_vanish {post : SY → Prop} {i : Nat} (hi : i < 16) (h : post (yr, ys, yd, yh, yt, upd yk i 0, upd yl i 0, yp, jp_fl yn (64 * i) 64 (-1), jp_fl yb (24 * i) 24 (-1), yv, ym, ok, ol, op, on, ob, ov, om, yc, yg, yf, yq, yu, ye)) : wpY_vanish post (yr, ys, yd, yh, yt, yk, yl, yp, yn, yb, yv, ym, ok, ol, op, on, ob, ov, om, yc, yg, yf, yq, yu, ye) (nI i) := by
  unfold wpY_vanish
  refine ⟨vp_in_nI hi (by omega), ?_⟩
  rw [nI_clamp (n := i) (by omega)]
  refine nm_e ⟨vp_in_nI hi (by omega), nm_e (nm_r (jv_c64 i) ?_)⟩
  refine pk_loop (σ := Nat → Int32) (fun n j s => wY_vanish_19 post (nI i) yr ys yd yh yt n (nI (64 * i + j)) (upd yk i 0) (upd yl i 0) yp s yb yv ym ok ol op on ob ov om yc yg yf yq yu ye) (fun j s => s = jp_fl yn (64 * i) j (-1)) 64 0 yn (by omega) (jp_fl_0 _ _ _).symm (fun n s hI => br_t ?_ (nm_r (jv_c24 i) ?_)) (fun n j s hj hI ih => br_f ?_ ⟨vp_in_nI (by omega) (by omega), ?_⟩)
  · rw [jv_d64]; exact nI_le (by omega) (by omega)
  · subst hI
    refine pk_loop (σ := Nat → Int32) (fun n j s => wY_vanish_48 post (nI i) yr ys yd yh yt n (nI (24 * i + j)) (upd yk i 0) (upd yl i 0) yp (jp_fl yn (64 * i) 64 (-1)) s yv ym ok ol op on ob ov om yc yg yf yq yu ye) (fun j s => s = jp_fl yb (24 * i) j (-1)) 24 0 yb (by omega) (jp_fl_0 _ _ _).symm (fun n s hI => br_t ?_ (by rw [hI]; exact h)) (fun n j s hj hI ih => br_f ?_ ⟨vp_in_nI (by omega) (by omega), ?_⟩)
    · rw [jv_d24]; exact nI_le (by omega) (by omega)
    · rw [jv_d24]; exact nI_ge (by omega) (by omega)
    · rw [nI_clamp (by omega)]
      exact nm_e (nm_r (nI_1 _) (ih _ (by rw [hI, jp_fl_s])))
  · rw [jv_d64]; exact nI_ge (by omega) (by omega)
  · rw [nI_clamp (by omega)]
    exact nm_e (nm_r (nI_1 _) (ih _ (by rw [hI, jp_fl_s])))
theorem jy_rl {post : Int32 → SY → Prop} {V M : Nat → Int32} {s0 : jp_MS} (Q : jp_Q V M 1 s0)
    (hend : ∀ K' L' B' P' N' F' T' R' t', jp_fd (fun i => jp_rsc (i + 1)) 15 s0 = (K', L', B', P', N', F', T', R', t') → wpY_part (fun u => jy_C1 post u) (yr, ys, yd, nI t', nI t', K', L', P', N', B', yv, ym, ok, ol, op, on, ob, ov, om, yc, yg, F', R', yu, T')) :
    ∃ n, wY_mend_72 post n 1 yr ys yd (nI s0.2.2.2.2.2.2.2.2) (nI s0.2.2.2.2.2.2.2.2) (s0.1) (s0.2.1) (s0.2.2.2.1) (s0.2.2.2.2.1) (s0.2.2.1) yv ym ok ol op on ob ov om yc yg (s0.2.2.2.2.2.1) (s0.2.2.2.2.2.2.2.1) yu (s0.2.2.2.2.2.2.1) := by
  refine pk_loop (σ := jp_MS) (fun n i s => wY_mend_72 post n (nI (i + 1)) yr ys yd (nI s.2.2.2.2.2.2.2.2) (nI s.2.2.2.2.2.2.2.2) (s.1) (s.2.1) (s.2.2.2.1) (s.2.2.2.2.1) (s.2.2.1) yv ym ok ol op on ob ov om yc yg (s.2.2.2.2.2.1) (s.2.2.2.2.2.2.2.1) yu (s.2.2.2.2.2.2.1)) (fun i s => jp_fd (fun i => jp_rsc (i + 1)) i s0 = s ∧ jp_Q V M (i + 1) s) 15 0 s0 (by omega) ⟨rfl, Q⟩ (fun n s hI => br_t (nI_le (a := 16) (by omega) (by omega)) ?_) (fun n i s hi hI ih => br_f (nI_ge (b := 16) (by omega) (by omega)) ⟨vp_in_nI (by omega) (by omega), ?_⟩)
  · obtain ⟨K', L', B', P', N', F', T', R', t'⟩ := s
    exact hend K' L' B' P' N' F' T' R' t' hI.1
  · obtain ⟨K', L', B', P', N', F', T', R', t'⟩ := s
    obtain ⟨hb, hQ⟩ := hI
    dsimp only at hb hQ ⊢
    have hv : vp_in (nI (i + 1)) 16 := vp_in_nI (by omega) (by omega)
    have next : ∀ K2 L2 B2 P2 N2 F2 T2 R2 t2, jp_rsc (i + 1) (K', L', B', P', N', F', T', R', t') = (K2, L2, B2, P2, N2, F2, T2, R2, t2) → wY_mend_72 post n (nI (i + 1 + 1)) yr ys yd (nI t2) (nI t2) K2 L2 P2 N2 B2 yv ym ok ol op on ob ov om yc yg F2 R2 yu T2 := by
      intro K2 L2 B2 P2 N2 F2 T2 R2 t2 e
      refine ih (K2, L2, B2, P2, N2, F2, T2, R2, t2) ⟨?_, jp_Q_step (by omega) (by omega) hQ e⟩
      rw [← e, ← hb]; rfl
    rw [nI_clamp (n := i + 1) (by omega)]
    refine br_c (fun k0 => nm_r (nI_1 _) (next _ _ _ _ _ _ _ _ _ (jp_rsc_0 (Or.inl k0)))) (fun k0 => ⟨hv, br_c (fun t0 => nm_e ?_) (fun t0 => nm_r (nI_1 _) (next _ _ _ _ _ _ _ _ _ (jp_rsc_0 (Or.inr t0))))⟩)
    have hNR := hQ.1.2.2.2.2.2.2.1
    have hEN := hQ.1.2.2.2.2.2.2.2.2.1 0 (by omega)
    rw [show (48 : Int32) + nI (i + 1) = nI (48 + (i + 1)) from nI_add 48 (i + 1), nI_clamp (n := 48 + (i + 1)) (by omega), jp_nneg (by omega) (hNR (48 + (i + 1)) (by omega))]
    have hv2 : vp_in (nI (48 + (i + 1))) 1024 := vp_in_nI (by omega) (by omega)
    have gone : ¬ (N' (48 + (i + 1)) = -1 ∧ jp_en N' 0 < 10) → wY_mend_131 post (wY_mend_72 post n) (nI (i + 1)) yr ys yd (nI t') (nI t') K' L' P' N' B' yv ym ok ol op on ob ov om yc yg (upd F' 1 (F' 1 + 1)) R' yu T' := by
      intro h
      unfold wY_mend_131
      exact jy_vanish (by omega) (nm_r (nI_1 _) (next _ _ _ _ _ _ _ _ _ (jp_rsc_2 k0 t0 h)))
    refine ⟨hv2, br_c (fun z => gone (fun q => z q.1)) (fun z => jy_entries hNR (d := 0) (by omega) (pk_eq (jp_en N' 0) 10 (fun e => gone (fun q => by omega)) (fun e => ⟨hv2, nm_e ?_⟩)))⟩
    have hN : N' (48 + (i + 1)) = -1 := Classical.byContradiction z
    have hf : jp_en N' 0 < 10 := by omega
    obtain ⟨D, J, I1, I2, t16, hroom⟩ := jp_Q_link hQ (by omega) (by omega) k0 t0 ⟨hN, hf⟩
    have er := jp_rsc_1 (L := L') (B := B') (P := P') (F := F') (R := R') (t := t') k0 t0 ⟨hN, hf⟩
    refine jy_meet (d := 0) (by omega) hroom (fun k2 => ?_) (fun k2 => ?_)
    · rw [jp_meet_2 k2] at J er
      exact ⟨_, jy_vis (16 - t') t' D _ _ _ _ _ _ (by omega) J I2 (fun P2 N2 F2 T2 R2 t2 e => nm_r (nI_1 _) (next _ _ _ _ _ _ _ _ _ (by rw [er, e])))⟩
    · rw [jp_meet_1 k2] at J er
      exact ⟨_, jy_vis (16 - t') t' D _ _ _ _ _ _ (by omega) J I1 (fun P2 N2 F2 T2 R2 t2 e => nm_r (nI_1 _) (next _ _ _ _ _ _ _ _ _ (by rw [er, e])))⟩
end

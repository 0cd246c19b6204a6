/-! going through the entries: the component's walk and the reference's -/
theorem jv_vn1 : vp_nar .boolean 1 = 1 := by unfold vp_nar; rw [jv_nb1]
theorem jv_vn0 : vp_nar .boolean 0 = 0 := by unfold vp_nar; rw [jv_nb0]
theorem jp_pi_upd {K P : Nat → Int32} {v : Nat} {x : Int32} (h : ¬ K v = 0) : upd (jp_pi K P) v x = jp_pi K (upd P v x) := by
  funext j
  by_cases e : j = v
  · subst e; rw [pk_us]; unfold jp_pi; rw [pk_us, if_neg h]
  · rw [pk_un e]; unfold jp_pi; rw [pk_un e]
def jp_WR (W R : Nat → Int32) (base t : Nat) : Prop := base ≤ t ∧ ∀ i, base + i < t → W i = R (base + i)
theorem jp_WR_put {W R : Nat → Int32} {base t : Nat} {x : Int32} (h : jp_WR W R base t) : jp_WR (upd W (t - base) x) (upd R t x) base (t + 1) := by
  obtain ⟨h1, h2⟩ := h
  refine ⟨by omega, fun i hi => ?_⟩
  by_cases e : base + i = t
  · rw [e, pk_us, show i = t - base from by omega, pk_us]
  · rw [pk_un e, pk_un (by omega)]; exact h2 i (by omega)
/-- a meeting has room in the row -/
theorem jp_J_room {K P N F T R : Nat → Int32} {D : Nat → Bool} {h c t v : Nat} (J : jp_J K D h c (P, N, F, T, R, t)) (hv : v < 16) (hnm : ¬ jp_MD K T v) : t < 16 := by
  rw [J.1.2]
  exact jp_cn_lt hv (decide_eq_false hnm)
section
variable {xr xs xd xw : Int32} {xk xl xp xn xb xm xh bk bl bp bn bb bm bh xf xt xq xu : Nat → Int32}
theorem jx_mustNot {post : Int32 → Prop} {v : Nat} (hv : v < 16) (ht : jp_bad xk xt v → post 1) (hf : ¬ jp_bad xk xt v → post 0) : wpX_mustNotBeNamed post (xr, xs, xd, xw, xk, xl, xp, xn, xb, xm, xh, bk, bl, bp, bn, bb, bm, bh, xf, xt, xq, xu) (nI v) := by
  unfold wpX_mustNotBeNamed
  have hi : vp_in (nI v) 16 := vp_in_nI hv (by omega)
  refine pk_eq v 0 (fun e => ht (Or.inl e)) (fun e => ⟨hi, ?_⟩)
  rw [nI_clamp (by omega)]
  refine br_c (fun k0 => ht (Or.inr (Or.inl k0))) (fun k0 => ⟨hi, br_c (fun k2 => ⟨hi, br_c (fun t0 => hf ?_) (fun t0 => ht (Or.inr (Or.inr ⟨k2, t0⟩)))⟩) (fun k2 => hf ?_)⟩)
  · rintro (z | z | z)
    · exact e z
    · exact k0 z
    · exact z.2 t0
  · rintro (z | z | z)
    · exact e z
    · exact k0 z
    · exact k2 z.1
theorem jx_meet {post : SX → Prop} {v d w : Nat} (hv : v < 16) (hw : xk v = 2 → w < 16) (h2 : xk v = 2 → post (xr, xs, xd, nI (w + 1), xk, xl, upd xp v (nI d), xn, xb, xm, xh, bk, bl, bp, bn, bb, bm, bh, xf, upd xt v 1, upd xq w (nI v), xu)) (h1 : ¬ xk v = 2 → post (xr, xs, xd, nI w, xk, xl, xp, xn, xb, xm, xh, bk, bl, bp, bn, bb, bm, bh, xf, upd xt v 1, xq, xu)) : wpX_meet post (xr, xs, xd, nI w, xk, xl, xp, xn, xb, xm, xh, bk, bl, bp, bn, bb, bm, bh, xf, xt, xq, xu) (nI v) (nI d) := by
  unfold wpX_meet
  have hi : vp_in (nI v) 16 := vp_in_nI hv (by omega)
  refine ⟨hi, ?_⟩
  rw [nI_clamp (n := v) (by omega), jv_vn1]
  refine nm_e ⟨hi, br_c (fun k2 => ⟨hi, nm_e ⟨vp_in_nI (hw k2) (by omega), ?_⟩⟩) (fun k2 => h1 k2)⟩
  rw [nI_clamp (n := w) (by have := hw k2; omega)]
  exact nm_e (nm_r (nI_1 _) (h2 k2))
theorem jx_goThrough {post : SX → Prop} {K P N F T R W T0 : Nat → Int32} {D : Nat → Bool} {h d base t : Nat} (hd : d < 16) (hrow : ∀ n, n < 64 → D (64 * d + n) = false) (G : jp_G K D h d 0 T0 (P, N, F, T, R, t)) (hW : jp_WR W R base t)
    (hpost : ∀ P' N' F' T' R' t' W', jp_gt K d (P, N, F, T, R, t) = (P', N', F', T', R', t') → jp_WR W' R' base t' → post (xr, xs, xd, nI (t' - base), K, xl, jp_pi K P', jp_ro N', xb, xm, xh, bk, bl, bp, bn, bb, bm, bh, F', T', W', xu)) :
    wpX_goThrough post (xr, xs, xd, nI (t - base), K, xl, jp_pi K P, jp_ro N, xb, xm, xh, bk, bl, bp, bn, bb, bm, bh, F, T, W, xu) (nI d) := by
  unfold wpX_goThrough
  refine nm_r (jv_a64 d) (pk_loop (σ := jp_BS × (Nat → Int32)) (fun n i s => wX_goThrough_5 post (nI d) n (nI (64 * d + i)) xr xs xd (nI (jp_tl s.1 - base)) K xl (jp_pi K s.1.1) (jp_ro s.1.2.1) xb xm xh bk bl bp bn bb bm bh (s.1.2.2.1) (s.1.2.2.2.1) (s.2) xu) (fun i s => s.1 = jp_fd (fun h => jp_look K d (jp_t h)) i (P, N, F, T, R, t) ∧ jp_G K D h d i T0 s.1 ∧ jp_WR s.2 (jp_R s.1) base (jp_tl s.1)) 64 0 ((P, N, F, T, R, t), W) (by omega) ⟨rfl, G, hW⟩ (fun n s hI => br_t ?_ ?_) (fun n i s hi hI ih => br_f ?_ ⟨vp_in_nI (by omega) (by omega), ?_⟩))
  · rw [jv_b64]; exact nI_le (by omega) (by omega)
  · obtain ⟨⟨P', N', F', T', R', t'⟩, W'⟩ := s
    exact hpost P' N' F' T' R' t' W' (by unfold jp_gt; exact hI.1.symm) hI.2.2
  · rw [jv_b64]; exact nI_ge (by omega) (by omega)
  · obtain ⟨⟨P', N', F', T', R', t'⟩, W'⟩ := s
    obtain ⟨hb, hG, hWR⟩ := hI
    dsimp only [jp_tl, jp_R] at hb hG hWR ⊢
    have ht := jp_t_lt i
    rw [nI_clamp (by omega), jp_ro_h N' d hi]
    have hG2 := jp_G_step hd hi hrow hG
    have next : ∀ P2 N2 F2 T2 R2 t2 W2, jp_look K d (jp_t i) (P', N', F', T', R', t') = (P2, N2, F2, T2, R2, t2) → jp_WR W2 R2 base t2 → wX_goThrough_5 post (nI d) n (nI (64 * d + i + 1)) xr xs xd (nI (t2 - base)) K xl (jp_pi K P2) (jp_ro N2) xb xm xh bk bl bp bn bb bm bh F2 T2 W2 xu := by
      intro P2 N2 F2 T2 R2 t2 W2 e hw
      refine ih ((P2, N2, F2, T2, R2, t2), W2) ⟨?_, ?_, hw⟩
      · dsimp only; rw [← e, hb]; rfl
      · dsimp only; rw [← e]; exact hG2
    rcases hG.2.1.2.2.2.2.2.1 (64 * d + jp_t i) (by omega) with z | ⟨v, hv, z⟩
    · rw [z]
      exact nm_e (br_t rfl (nm_r (nI_1 _) (next _ _ _ _ _ _ _ (jp_look_0 z) hWR)))
    · rw [z]
      refine nm_e (br_f (jv_m1n v (by omega)) (jx_mustNot hv (fun hb => br_f (by decide) ⟨vp_in_nI (by omega) (by omega), ?_⟩) (fun hb => br_t rfl ?_)))
      · refine nm_r (e' := jp_ro (upd N' (64 * d + jp_t i) (-1))) ?_ (nm_e (nm_r (nI_1 _) (next _ _ _ _ _ _ _ (jp_look_1 hv z hb) hWR)))
        rw [jp_ro_upd N' d ht, jp_st hi]
      · obtain ⟨v0, hk, hnm⟩ := jp_nbad hb
        have hroom := jp_J_room hG.1 hv hnm
        have e := jp_look_2 (P := P') (F := F') (R := R') (t := t') hv z hb
        refine jx_meet hv (fun _ => by omega) (fun k2 => nm_r (nI_1 _) ?_) (fun k2 => nm_r (nI_1 _) ?_)
        · rw [jp_meet_2 k2] at e
          have := next _ _ _ _ _ _ _ e (jp_WR_put (x := nI v) hWR)
          rw [jp_pi_upd hk, show t' - base + 1 = t' + 1 - base from by have := hWR.1; omega]
          exact this
        · rw [jp_meet_1 k2] at e
          exact next _ _ _ _ _ _ _ e hWR
theorem jx_vis {post : SX → Prop} {K : Nat → Int32} {base : Nat} : ∀ (m h : Nat) (D : Nat → Bool) (P N F T R W : Nat → Int32) (t : Nat), h + m = 16 → base ≤ h → jp_J K D h 16 (P, N, F, T, R, t) → jp_JI K P N → jp_WR W R base t →
    (∀ P' N' F' T' R' t' W', jp_vis K m h (P, N, F, T, R, t) = (P', N', F', T', R', t') → post (xr, xs, xd, nI (t' - base), K, xl, jp_pi K P', jp_ro N', xb, xm, xh, bk, bl, bp, bn, bb, bm, bh, F', T', W', xu)) →
    wX_goThroughWaiting_2 post (m + 1) (nI (h - base)) xr xs xd (nI (t - base)) K xl (jp_pi K P) (jp_ro N) xb xm xh bk bl bp bn bb bm bh F T W xu := by
  intro m
  induction m with
  | zero =>
    intro h D P N F T R W t hm hb J I hW hpost
    have h1 := jp_J_le J
    exact br_t (nI_le (by omega) (by omega)) (hpost P N F T R t W rfl)
  | succ m ih =>
    intro h D P N F T R W t hm hb J I hW hpost
    have h1 := jp_J_le J
    unfold jp_vis at hpost
    by_cases hh : h < t
    · rw [show jp_tl (P, N, F, T, R, t) = t from rfl, if_pos hh, show jp_R (P, N, F, T, R, t) h = R h from rfl] at hpost
      obtain ⟨d, hd, e, _⟩ := J.2.1 h hh
      rw [e, nI_clamp (by omega)] at hpost
      obtain ⟨hrow, G⟩ := jp_G_0 J I hd hh e
      refine br_f (nI_ge (by omega) (by omega)) (br_f (nI_ge (b := 16) (by omega) (by omega)) ⟨vp_in_nI (by omega) (by omega), ?_⟩)
      rw [nI_clamp (by omega), hW.2 (h - base) (by omega), show base + (h - base) = h from by omega, e]
      refine jx_goThrough hd hrow G hW (fun P2 N2 F2 T2 R2 t2 W2 e2 hW2 => ?_)
      have G2 := jp_G_gt hd hrow G e2
      rw [e2] at hpost
      obtain ⟨J2, I2, M2⟩ := jp_G_end hd G2
      refine nm_r (e' := nI (h + 1 - base)) (by rw [nI_1]; exact congrArg nI (by omega)) (ih (h + 1) _ P2 N2 F2 T2 R2 W2 t2 (by omega) (by omega) J2 I2 hW2 hpost)
    · rw [show jp_tl (P, N, F, T, R, t) = t from rfl, if_neg hh] at hpost
      exact br_t (nI_le (by omega) (by omega)) (hpost P N F T R t W rfl)
end
section
variable {yr ys yd yh yt : Int32} {yk yl yp yn yb yv ym ok ol op on ob ov om yc yg yf yq yu ye : Nat → Int32}
theorem jy_meet {post : SY → Prop} {v d t : Nat} (hv : v < 16) (hw : yk v = 2 → t < 16) (h2 : yk v = 2 → post (yr, ys, yd, yh, nI (t + 1), yk, yl, upd yp v (nI d), yn, yb, yv, ym, ok, ol, op, on, ob, ov, om, yc, yg, yf, upd yq t (nI v), yu, upd ye v 1)) (h1 : ¬ yk v = 2 → post (yr, ys, yd, yh, nI t, yk, yl, yp, yn, yb, yv, ym, ok, ol, op, on, ob, ov, om, yc, yg, yf, yq, yu, upd ye v 1)) : wpY_meet post (yr, ys, yd, yh, nI t, yk, yl, yp, yn, yb, yv, ym, ok, ol, op, on, ob, ov, om, yc, yg, yf, yq, yu, ye) (nI v) (nI d) := by
  unfold wpY_meet
  have hi : vp_in (nI v) 16 := vp_in_nI hv (by omega)
  refine ⟨hi, ?_⟩
  rw [nI_clamp (n := v) (by omega), jv_vn1]
  refine nm_e ⟨hi, br_c (fun k2 => ⟨hi, nm_e ⟨vp_in_nI (hw k2) (by omega), ?_⟩⟩) (fun k2 => h1 k2)⟩
  rw [nI_clamp (n := t) (by have := hw k2; omega)]
  exact nm_e (nm_r (nI_1 _) (h2 k2))
theorem jy_look {post : SY → Prop} {d n v t : Nat} (hd : d < 16) (hn : n < 64) (hv : v < 16) (he : yn (64 * d + n) = nI v) (hroom : ¬ jp_bad yk ye v → t < 16)
    (hb : jp_bad yk ye v → post (yr, ys, yd, yh, nI t, yk, yl, yp, upd yn (64 * d + n) (-1), yb, yv, ym, ok, ol, op, on, ob, ov, om, yc, yg, upd yf 0 (yf 0 + 1), yq, yu, ye))
    (h2 : ¬ jp_bad yk ye v → yk v = 2 → post (yr, ys, yd, yh, nI (t + 1), yk, yl, upd yp v (nI d), yn, yb, yv, ym, ok, ol, op, on, ob, ov, om, yc, yg, yf, upd yq t (nI v), yu, upd ye v 1)) (h1 : ¬ jp_bad yk ye v → ¬ yk v = 2 → post (yr, ys, yd, yh, nI t, yk, yl, yp, yn, yb, yv, ym, ok, ol, op, on, ob, ov, om, yc, yg, yf, yq, yu, upd ye v 1)) :
    wpY_look post (yr, ys, yd, yh, nI t, yk, yl, yp, yn, yb, yv, ym, ok, ol, op, on, ob, ov, om, yc, yg, yf, yq, yu, ye) (nI d) (nI n) := by
  unfold wpY_look
  rw [jv_e64]
  refine ⟨vp_in_nI (by omega) (by omega), ?_⟩
  rw [nI_clamp (n := 64 * d + n) (by omega), he]
  have hi : vp_in (nI v) 16 := vp_in_nI hv (by omega)
  have bad : jp_bad yk ye v → wY_look_44 post (nI d) (nI n) yr ys yd yh (nI t) yk yl yp yn yb yv ym ok ol op on ob ov om yc yg yf yq yu ye := by
    intro z
    unfold wY_look_44
    rw [jv_e64, nI_clamp (n := 64 * d + n) (by omega)]
    exact ⟨vp_in_nI (by omega) (by omega), nm_e (nm_e (hb z))⟩
  have good : ¬ jp_bad yk ye v → wY_look_69 post (nI d) (nI v) yr ys yd yh (nI t) yk yl yp yn yb yv ym ok ol op on ob ov om yc yg yf yq yu ye := by
    intro z
    unfold wY_look_69
    exact jy_meet hv (fun _ => hroom z) (fun k2 => h2 z k2) (fun k2 => h1 z k2)
  refine nm_e (pk_eq v 0 (fun e => bad (Or.inl e)) (fun e => ⟨hi, ?_⟩))
  rw [nI_clamp (n := v) (by omega)]
  refine br_c (fun k0 => bad (Or.inr (Or.inl k0))) (fun k0 => ⟨hi, br_c (fun k2 => ⟨hi, br_c (fun t0 => good ?_) (fun t0 => bad (Or.inr (Or.inr ⟨k2, t0⟩)))⟩) (fun k2 => good ?_)⟩)
  · rintro (z | z | z)
    · exact e z
    · exact k0 z
    · exact z.2 t0
  · rintro (z | z | z)
    · exact e z
    · exact k0 z
    · exact k2 z.1
theorem jy_gt {post : SY → Prop} {J0 : Int32 → Int32 → Int32 → Int32 → Int32 → (Nat → Int32) → (Nat → Int32) → (Nat → Int32) → (Nat → Int32) → (Nat → Int32) → (Nat → Int32) → (Nat → Int32) → (Nat → Int32) → (Nat → Int32) → (Nat → Int32) → (Nat → Int32) → (Nat → Int32) → (Nat → Int32) → (Nat → Int32) → (Nat → Int32) → (Nat → Int32) → (Nat → Int32) → (Nat → Int32) → (Nat → Int32) → (Nat → Int32) → Prop}
    {K P N F T R T0 : Nat → Int32} {D : Nat → Bool} {h d t : Nat} (hd : d < 16) (hrow : ∀ n, n < 64 → D (64 * d + n) = false) (G : jp_G K D h d 0 T0 (P, N, F, T, R, t))
    (hpost : ∀ P' N' F' T' R' t', jp_gt K d (P, N, F, T, R, t) = (P', N', F', T', R', t') → J0 yr ys yd yh (nI t') K yl P' N' yb yv ym ok ol op on ob ov om yc yg F' R' yu T') :
    ∃ n, wY_visit_33 post J0 (nI d) n 0 yr ys yd yh (nI t) K yl P N yb yv ym ok ol op on ob ov om yc yg F R yu T := by
  refine pk_loop (σ := jp_BS) (fun n i s => wY_visit_33 post J0 (nI d) n (nI i) yr ys yd yh (nI (jp_tl s)) K yl (s.1) (s.2.1) yb yv ym ok ol op on ob ov om yc yg (s.2.2.1) (jp_R s) yu (s.2.2.2.1)) (fun i s => s = jp_fd (fun h => jp_look K d (jp_t h)) i (P, N, F, T, R, t) ∧ jp_G K D h d i T0 s) 64 0 (P, N, F, T, R, t) (by omega) ⟨rfl, G⟩ (fun n s hI => br_t (nI_le (a := 64) (by omega) (by omega)) ?_) (fun n i s hi hI ih => br_f (nI_ge (b := 64) hi (by omega)) ?_)
  · obtain ⟨P', N', F', T', R', t'⟩ := s
    exact hpost P' N' F' T' R' t' (by unfold jp_gt; exact hI.1.symm)
  · obtain ⟨P', N', F', T', R', t'⟩ := s
    obtain ⟨hb, hG⟩ := hI
    have ht := jp_t_lt i
    have hG2 := jp_G_step hd hi hrow hG
    have next : ∀ s2, jp_look K d (jp_t i) (P', N', F', T', R', t') = s2 → wY_visit_33 post J0 (nI d) n (nI (i + 1)) yr ys yd yh (nI (jp_tl s2)) K yl (s2.1) (s2.2.1) yb yv ym ok ol op on ob ov om yc yg (s2.2.2.1) (jp_R s2) yu (s2.2.2.2.1) := by
      intro s2 e
      refine ih s2 ⟨?_, ?_⟩
      · rw [← e, hb]; rfl
      · rw [← e]; exact hG2
    refine jv_scan (σ := jp_BS) (fun m x s => wY_visit_41 post J0 (wY_visit_33 post J0 (nI d) n) (nI d) (nI i) m (nI x) yr ys yd yh (nI (jp_tl s)) K yl (s.1) (s.2.1) yb yv ym ok ol op on ob ov om yc yg (s.2.2.1) (jp_R s) yu (s.2.2.2.1)) i hi (fun s => wY_visit_33 post J0 (nI d) n (nI (i + 1)) yr ys yd yh (nI (jp_tl s)) K yl (s.1) (s.2.1) yb yv ym ok ol op on ob ov om yc yg (s.2.2.1) (jp_R s) yu (s.2.2.2.1)) (P', N', F', T', R', t') (fun m s hJ => br_t (nI_le (a := 64) (by omega) (by omega)) (nm_r (nI_1 _) hJ)) (fun m x s hx hne ihx => br_f (nI_ge (b := 64) hx (by omega)) ⟨by decide, ?_⟩) (fun m hJ => br_f (nI_ge (b := 64) ht (by omega)) ⟨by decide, ?_⟩)
    · rw [jv_hash x hx]
      exact br_f (fun e => hne (jv_inj e (by have := jp_s_lt x; omega) (by omega))) (nm_r (nI_1 _) ihx)
    · rw [jv_hash _ ht, jp_st hi, jv_e64]
      refine br_t rfl ⟨vp_in_nI (by omega) (by omega), ?_⟩
      have hNR := hG.2.1.2.2.2.2.2.1 (64 * d + jp_t i) (by omega)
      rw [nI_clamp (by omega)]
      dsimp only
      rw [jp_neg (by omega) hNR]
      rcases hNR with z | ⟨v, hv, z⟩
      · exact br_t z (nm_r (nI_1 _) (hJ _ (next _ (jp_look_0 z))))
      · have hm1 : ¬ N' (64 * d + jp_t i) = -1 := by rw [z]; exact jv_m1n v (by omega)
        refine br_f hm1 (jy_look hd ht hv z (fun hb => ?_) (fun hb => nm_r (nI_1 _) (hJ _ (next _ (jp_look_1 hv z hb)))) (fun hb k2 => nm_r (nI_1 _) (hJ (upd P' v (nI d), N', F', upd T' v 1, upd R' t' (nI v), t' + 1) (next _ ?_))) (fun hb k2 => nm_r (nI_1 _) (hJ (P', N', F', upd T' v 1, R', t') (next _ ?_))))
        · exact jp_J_room hG.1 hv (jp_nbad hb).2.2
        · rw [jp_look_2 hv z hb, jp_meet_2 k2]
        · rw [jp_look_2 hv z hb, jp_meet_1 k2]
theorem jy_vis {post : SY → Prop} {K : Nat → Int32} : ∀ (m h : Nat) (D : Nat → Bool) (P N F T R : Nat → Int32) (t : Nat), h + m = 16 → jp_J K D h 16 (P, N, F, T, R, t) → jp_JI K P N →
    (∀ P' N' F' T' R' t', jp_vis K m h (P, N, F, T, R, t) = (P', N', F', T', R', t') → post (yr, ys, yd, nI t', nI t', K, yl, P', N', yb, yv, ym, ok, ol, op, on, ob, ov, om, yc, yg, F', R', yu, T')) →
    wY_visit_0 post (m + 1) yr ys yd (nI h) (nI t) K yl P N yb yv ym ok ol op on ob ov om yc yg F R yu T := by
  intro m
  induction m with
  | zero =>
    intro h D P N F T R t hm J I hpost
    have h1 := jp_J_le J
    have h2 := J.1.1
    have : h = t := by omega
    subst this
    exact br_t (nI_le (by omega) (by omega)) (hpost P N F T R h rfl)
  | succ m ih =>
    intro h D P N F T R t hm J I hpost
    have h1 := jp_J_le J
    unfold jp_vis at hpost
    by_cases hh : h < t
    · rw [show jp_tl (P, N, F, T, R, t) = t from rfl, if_pos hh, show jp_R (P, N, F, T, R, t) h = R h from rfl] at hpost
      obtain ⟨d, hd, e, _⟩ := J.2.1 h hh
      rw [e, nI_clamp (by omega)] at hpost
      obtain ⟨hrow, G⟩ := jp_G_0 J I hd hh e
      refine br_f (nI_ge (by omega) (by omega)) ⟨vp_in_nI (by omega) (by omega), ?_⟩
      rw [nI_clamp (by omega), e]
      refine nm_e (nm_r (nI_1 _) (jy_gt hd hrow G (fun P2 N2 F2 T2 R2 t2 e2 => ?_)))
      have G2 := jp_G_gt hd hrow G e2
      rw [e2] at hpost
      obtain ⟨J2, I2, M2⟩ := jp_G_end hd G2
      exact ih (h + 1) _ P2 N2 F2 T2 R2 t2 (by omega) J2 I2 hpost
    · rw [show jp_tl (P, N, F, T, R, t) = t from rfl, if_neg hh] at hpost
      have h2 := J.1.1
      have : h = t := by omega
      subst this
      exact br_t (nI_le (by omega) (by omega)) (hpost P N F T R h rfl)
end

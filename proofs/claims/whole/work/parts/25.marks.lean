/-! marks, links and the sum -/
def jp_mm (U : Nat → Int32) (i : Nat) (s : (Nat → Int32) × (Nat → Int32)) : (Nat → Int32) × (Nat → Int32) := (upd s.1 i (U i), if s.1 i = U i then s.2 else upd s.2 3 (s.2 3 + 1))
def jp_ml (K N : Nat → Int32) (i : Nat) (s : (Nat → Int32) × (Nat → Int32)) : (Nat → Int32) × (Nat → Int32) := if K i = 0 then s else (upd s.1 i (nI (jp_nc N i)), if s.1 i = nI (jp_nc N i) then s.2 else upd s.2 4 (s.2 4 + 1))
theorem jp_mm_1 {U M F : Nat → Int32} : ∀ (n : Nat) (M' F' : Nat → Int32), jp_fd (jp_mm U) n (M, F) = (M', F') → M' = jp_cp M 0 n U 0 := by
  intro n
  induction n with
  | zero => intro M' F' e; rw [jp_cp_0]; cases e; rfl
  | succ n ih =>
    intro M' F' e
    rcases em : jp_fd (jp_mm U) n (M, F) with ⟨M2, F2⟩
    have h := ih M2 F2 em
    have e2 : jp_mm U n (jp_fd (jp_mm U) n (M, F)) = (M', F') := e
    rw [em] at e2
    have e3 : upd M2 n (U n) = M' := congrArg Prod.fst e2
    rw [← e3, h, ← jp_cp_s, Nat.zero_add]
theorem jp_ml_1 {K N L F : Nat → Int32} : ∀ (n : Nat) (L' F' : Nat → Int32), jp_fd (jp_ml K N) n (L, F) = (L', F') → ∀ i, L' i = if i < n ∧ ¬ K i = 0 then nI (jp_nc N i) else L i := by
  intro n
  induction n with
  | zero => intro L' F' e i; cases e; rw [if_neg (fun z => absurd z.1 (Nat.not_lt_zero i))]
  | succ n ih =>
    intro L' F' e i
    rcases em : jp_fd (jp_ml K N) n (L, F) with ⟨L2, F2⟩
    have h := ih L2 F2 em i
    have e2 : jp_ml K N n (jp_fd (jp_ml K N) n (L, F)) = (L', F') := e
    rw [em] at e2
    unfold jp_ml at e2
    by_cases k0 : K n = 0
    · rw [if_pos k0] at e2
      cases e2
      rw [h]
      by_cases q : i < n ∧ ¬ K i = 0
      · rw [if_pos q, if_pos ⟨by omega, q.2⟩]
      · rw [if_neg q, if_neg]
        rintro ⟨z1, z2⟩
        by_cases e : i = n
        · rw [e] at z2; exact z2 k0
        · exact q ⟨by omega, z2⟩
    · rw [if_neg k0] at e2
      have e3 : upd L2 n (nI (jp_nc N n)) = L' := congrArg Prod.fst e2
      rw [← e3]
      by_cases e : i = n
      · subst e; rw [pk_us, if_pos ⟨by omega, k0⟩]
      · rw [pk_un e, h]
        by_cases q : i < n ∧ ¬ K i = 0
        · rw [if_pos q, if_pos ⟨by omega, q.2⟩]
        · rw [if_neg q, if_neg (fun z => q ⟨by omega, z.2⟩)]
section
variable {xr xs xd xw : Int32} {xk xl xp xn xb xm xh bk bl bp bn bb bm bh xf xt xq xu : Nat → Int32}
theorem jx_marks {post : SX → Prop} (h : ∀ M' F', jp_fd (jp_mm xu) 64 (xm, xf) = (M', F') → post (xr, xs, xd, xw, xk, xl, xp, xn, xb, M', xh, bk, bl, bp, bn, bb, bm, bh, F', xt, xq, xu)) : wpX_mendMarks post (xr, xs, xd, xw, xk, xl, xp, xn, xb, xm, xh, bk, bl, bp, bn, bb, bm, bh, xf, xt, xq, xu) := by
  unfold wpX_mendMarks
  refine pk_loop (σ := (Nat → Int32) × (Nat → Int32)) (fun n i s => wX_mendMarks_2 post xr xs xd xw n (nI i) xk xl xp xn xb (s.1) xh bk bl bp bn bb bm bh (s.2) xt xq xu) (fun i s => jp_fd (jp_mm xu) i (xm, xf) = s) 64 0 (xm, xf) (by omega) rfl (fun n s hI => br_t (nI_le (a := 64) (by omega) (by omega)) ?_) (fun n i s hi hI ih => br_f (nI_ge (b := 64) hi (by omega)) ⟨vp_in_nI hi (by omega), vp_in_nI hi (by omega), ?_⟩)
  · obtain ⟨M', F'⟩ := s
    exact h M' F' hI
  · obtain ⟨M', F'⟩ := s
    dsimp only
    rw [nI_clamp (by omega)]
    have next : ∀ M2 F2, jp_mm xu i (M', F') = (M2, F2) → wX_mendMarks_2 post xr xs xd xw n (nI (i + 1)) xk xl xp xn xb M2 xh bk bl bp bn bb bm bh F2 xt xq xu := by
      intro M2 F2 e
      refine ih (M2, F2) ?_
      rw [← e, ← hI]; rfl
    refine br_c (fun q => nm_r (nI_1 _) (next M' F' ?_)) (fun q => ⟨vp_in_nI hi (by omega), vp_in_nI hi (by omega), nm_e (nm_e (nm_r (nI_1 _) (next _ _ ?_)))⟩)
    · unfold jp_mm; dsimp only; rw [jp_updI q, if_pos q]
    · unfold jp_mm; dsimp only; rw [if_neg q]
theorem jx_links {post : SX → Prop} {N : Nat → Int32} (h : ∀ L' F', jp_fd (jp_ml xk N) 16 (xl, xf) = (L', F') → post (xr, xs, xd, xw, xk, L', xp, jp_ro N, xb, xm, xh, bk, bl, bp, bn, bb, bm, bh, F', xt, xq, xu)) : wpX_mendLinks post (xr, xs, xd, xw, xk, xl, xp, jp_ro N, xb, xm, xh, bk, bl, bp, bn, bb, bm, bh, xf, xt, xq, xu) := by
  unfold wpX_mendLinks
  refine pk_loop (σ := (Nat → Int32) × (Nat → Int32)) (fun n i s => wX_mendLinks_2 post xr xs xd xw n (nI i) xk (s.1) xp (jp_ro N) xb xm xh bk bl bp bn bb bm bh (s.2) xt xq xu) (fun i s => jp_fd (jp_ml xk N) i (xl, xf) = s) 16 0 (xl, xf) (by omega) rfl (fun n s hI => br_t (nI_le (a := 16) (by omega) (by omega)) ?_) (fun n i s hi hI ih => br_f (nI_ge (b := 16) hi (by omega)) (jx_countNaming' ⟨vp_in_nI hi (by omega), ?_⟩))
  · obtain ⟨L', F'⟩ := s
    exact h L' F' hI
  · obtain ⟨L', F'⟩ := s
    dsimp only
    rw [nI_clamp (n := i) (by omega)]
    have next : ∀ L2 F2, jp_ml xk N i (L', F') = (L2, F2) → wX_mendLinks_2 post xr xs xd xw n (nI (i + 1)) xk L2 xp (jp_ro N) xb xm xh bk bl bp bn bb bm bh F2 xt xq xu := by
      intro L2 F2 e
      refine ih (L2, F2) ?_
      rw [← e, ← hI]; rfl
    refine br_c (fun k0 => nm_r (nI_1 _) (next L' F' (if_pos k0))) (fun k0 => ⟨vp_in_nI hi (by omega), br_c (fun q => nm_r (nI_1 _) (next L' F' ?_)) (fun q => ⟨vp_in_nI hi (by omega), nm_e (nm_e (nm_r (nI_1 _) (next _ _ ?_)))⟩)⟩)
    · have q2 : L' i = nI (jp_nc N i) := q
      unfold jp_ml; rw [if_neg k0]; dsimp only; rw [jp_updI q2, if_pos q2]
    · have q2 : ¬ L' i = nI (jp_nc N i) := q
      unfold jp_ml; rw [if_neg k0]; dsimp only; rw [if_neg q2]; rfl
theorem jx_sum {post : Int32 → SX → Prop} (h : post ((((xf 0 + xf 1) + xf 2) + xf 3) + xf 4) (xr, xs, xd, xw, xk, xl, xp, xn, xb, xm, xh, bk, bl, bp, bn, bb, bm, bh, xf, xt, xq, xu)) : ∃ n, wX_mend_91 post xr xs xd xw xk xl xp xn xb xm xh bk bl bp bn bb bm bh xf xt xq xu n 0 0 := by
  have hv : ∀ j, j < 5 → vp_in (nI j) 5 := fun j hj => vp_in_nI hj (by omega)
  refine ⟨6, br_f (by decide) ⟨hv 0 (by omega), nm_r (e' := xf 0) ?_ (nm_r (e' := nI 1) rfl (br_f (by decide) ⟨hv 1 (by omega), nm_e (nm_r (e' := nI 2) rfl (br_f (by decide) ⟨hv 2 (by omega), nm_e (nm_r (e' := nI 3) rfl (br_f (by decide) ⟨hv 3 (by omega), nm_e (nm_r (e' := nI 4) rfl (br_f (by decide) ⟨hv 4 (by omega), nm_e (nm_r (e' := nI 5) rfl (br_t (by decide) h))⟩))⟩))⟩))⟩))⟩⟩
  rw [Int32.zero_add]; rfl
end
section
variable {yr ys yd yh yt : Int32} {yk yl yp yn yb yv ym ok ol op on ob ov om yc yg yf yq yu ye : Nat → Int32}
theorem jy_recount {post : SY → Prop} {i : Nat} (hi : i < 16) (h1 : yl i = nI (jp_nc yn i) → post (yr, ys, yd, yh, yt, yk, yl, yp, yn, yb, yv, ym, ok, ol, op, on, ob, ov, om, yc, yg, yf, yq, yu, ye)) (h0 : ¬ yl i = nI (jp_nc yn i) → post (yr, ys, yd, yh, yt, yk, upd yl i (nI (jp_nc yn i)), yp, yn, yb, yv, ym, ok, ol, op, on, ob, ov, om, yc, yg, upd yf 4 (yf 4 + 1), yq, yu, ye)) : wpY_recount post (yr, ys, yd, yh, yt, yk, yl, yp, yn, yb, yv, ym, ok, ol, op, on, ob, ov, om, yc, yg, yf, yq, yu, ye) (nI i) := by
  unfold wpY_recount
  refine jv_cnt (fun n s j => wY_recount_4 post (nI i) yr ys yd yh yt yk yl yp yn yb yv ym ok ol op on ob ov om yc yg yf yq yu ye n (nI s) (nI j)) (fun s => decide (yn s = nI i)) 1024 (fun n => br_t (nI_le (a := 1024) (by omega) (by omega)) ⟨vp_in_nI hi (by omega), ?_⟩) (fun n j s hj ht hf => br_f (nI_ge (b := 1024) hj (by omega)) ⟨vp_in_nI (by omega) (by omega), ?_⟩)
  · rw [nI_clamp (n := i) (by omega)]
    refine br_c (fun q => ⟨vp_in_nI hi (by omega), nm_r (e' := yl) ?_ (h1 q.symm)⟩) (fun q => nm_e ⟨vp_in_nI hi (by omega), nm_e (h0 (fun z => q z.symm))⟩)
    exact jp_updI q.symm
  · rw [nI_clamp (by omega)]
    exact br_c (fun hc => nm_r (nI_1 _) (nm_r (nI_1 _) (ht (by simp [hc])))) (fun hc => nm_r (nI_1 _) (hf (by simp [hc])))
theorem jy_tail {post : Int32 → SY → Prop} (h0 : jp_Z ok ol op on ob ov om) (h1 : ∀ M' F' L' F2, jp_fd (jp_mm yu) 64 (ym, yf) = (M', F') → jp_fd (jp_ml yk yn) 16 (yl, F') = (L', F2) → jp_Z yk L' yp yn yb yv M' ∧ post ((((F2 0 + F2 1) + F2 2) + F2 3) + F2 4) (yr, ys, 0, yh, yt, yk, L', yp, yn, yb, yv, M', yk, L', yp, yn, yb, yv, M', yc, yg, F2, yq, yu, ye)) : jy_C1 post (yr, ys, yd, yh, yt, yk, yl, yp, yn, yb, yv, ym, ok, ol, op, on, ob, ov, om, yc, yg, yf, yq, yu, ye) := by
  unfold jy_C1
  refine pk_loop (σ := (Nat → Int32) × (Nat → Int32)) (fun n i s => wY_mend_171 post yr ys yd yh yt n (nI i) yk yl yp yn yb yv (s.1) ok ol op on ob ov om yc yg (s.2) yq yu ye) (fun i s => jp_fd (jp_mm yu) i (ym, yf) = s) 64 0 (ym, yf) (by omega) rfl (fun n s hI => br_t (nI_le (a := 64) (by omega) (by omega)) ?_) (fun n i s hi hI ih => br_f (nI_ge (b := 64) hi (by omega)) ⟨vp_in_nI hi (by omega), vp_in_nI hi (by omega), ?_⟩)
  · obtain ⟨M', F'⟩ := s
    refine pk_loop (σ := (Nat → Int32) × (Nat → Int32)) (fun n i s => wY_mend_222 post n (nI i) yr ys yd yh yt yk (s.1) yp yn yb yv M' ok ol op on ob ov om yc yg (s.2) yq yu ye) (fun i s => jp_fd (jp_ml yk yn) i (yl, F') = s) 16 0 (yl, F') (by omega) rfl (fun n s hI2 => br_t (nI_le (a := 16) (by omega) (by omega)) ?_) (fun n i s hi hI2 ih => br_f (nI_ge (b := 16) hi (by omega)) ⟨vp_in_nI hi (by omega), ?_⟩)
    · obtain ⟨L', F2⟩ := s
      obtain ⟨hZ, hp⟩ := h1 M' F' L' F2 hI hI2
      exact jy_placeZ h0 hZ hp
    · obtain ⟨L', F2⟩ := s
      dsimp only
      rw [nI_clamp (n := i) (by omega)]
      have next : ∀ L2 F3, jp_ml yk yn i (L', F2) = (L2, F3) → wY_mend_222 post n (nI (i + 1)) yr ys yd yh yt yk L2 yp yn yb yv M' ok ol op on ob ov om yc yg F3 yq yu ye := by
        intro L2 F3 e
        refine ih (L2, F3) ?_
        rw [← e, ← hI2]; rfl
      refine br_c (fun k0 => nm_r (nI_1 _) (next L' F2 (if_pos k0))) (fun k0 => jy_recount hi (fun q => nm_r (nI_1 _) (next L' F2 ?_)) (fun q => nm_r (nI_1 _) (next _ _ ?_)))
      · unfold jp_ml; rw [if_neg k0]; dsimp only; rw [jp_updI q, if_pos q]
      · unfold jp_ml; rw [if_neg k0]; dsimp only; rw [if_neg q]
  · obtain ⟨M', F'⟩ := s
    dsimp only
    rw [nI_clamp (by omega)]
    have next : ∀ M2 F2, jp_mm yu i (M', F') = (M2, F2) → wY_mend_171 post yr ys yd yh yt n (nI (i + 1)) yk yl yp yn yb yv M2 ok ol op on ob ov om yc yg F2 yq yu ye := by
      intro M2 F2 e
      refine ih (M2, F2) ?_
      rw [← e, ← hI]; rfl
    have fin : ∀ F2, jp_mm yu i (M', F') = (upd M' i (yu i), F2) → wY_mend_202 post (wY_mend_171 post yr ys yd yh yt n) (nI i) yr ys yd yh yt yk yl yp yn yb yv M' ok ol op on ob ov om yc yg F2 yq yu ye := by
      intro F2 e
      unfold wY_mend_202
      rw [nI_clamp (by omega)]
      exact ⟨vp_in_nI hi (by omega), vp_in_nI hi (by omega), nm_e (nm_r (nI_1 _) (next _ _ e))⟩
    refine br_c (fun q => fin F' ?_) (fun q => nm_e (fin _ ?_))
    · unfold jp_mm; dsimp only; rw [if_pos q]
    · unfold jp_mm; dsimp only; rw [if_neg q]
end

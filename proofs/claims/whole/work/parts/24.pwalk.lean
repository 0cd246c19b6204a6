/-! extents that share blocks: the walks -/
theorem jp_u1_t {B U F : Nat → Int32} {lo b n : Nat} (h : 0 < jp_sh U b n) : jp_u1 lo b n (B, U, F) = (jp_fl B lo n (-1), U, upd F 2 (F 2 + 1)) := if_pos h
theorem jp_u1_f {B U F : Nat → Int32} {lo b n : Nat} (h : ¬ 0 < jp_sh U b n) : jp_u1 lo b n (B, U, F) = (B, jp_fl U b n 1, F) := if_neg h
section
variable {xr xs xd xw : Int32} {xk xl xp xn xb xm xh bk bl bp bn bb bm bh xf xt xq xu : Nat → Int32}
theorem jx_useOrDrop {post : SX → Prop} {f p b n : Nat} (hf : f < 16) (hp : p < 24) (hB : jp_BR xb) (hb : b < 64) (e : xb (24 * f + p) = nI b) (hL : jp_Len xb f p b n)
    (hpost : ∀ B' U' F', jp_u1 (24 * f + p) b n (xb, xu, xf) = (B', U', F') → post (xr, xs, xd, xw, xk, xl, xp, xn, B', xm, xh, bk, bl, bp, bn, bb, bm, bh, F', xt, xq, U')) : wpX_useOrDrop post (xr, xs, xd, xw, xk, xl, xp, xn, xb, xm, xh, bk, bl, bp, bn, bb, bm, bh, xf, xt, xq, xu) (nI f) (nI p) := by
  have hbn := jp_Len_b hB hf hL hb
  unfold wpX_useOrDrop
  refine nm_r (jv_f24 f p) (jx_lengthOfExtent hf hp hb e (fun n' hL' => ?_))
  rw [jp_Len_un hL' hL]
  obtain ⟨l1, l2, l3, l4⟩ := hL
  -- the second loop, nothing shared
  have keep : ¬ 0 < jp_sh xu b n → ∃ m, wX_useOrDrop_67 post (nI (24 * f + p)) (nI n) 0 xr xs xd xw m 0 xk xl xp xn xb xm xh bk bl bp bn bb bm bh xf xt xq xu := by
    intro hs
    refine pk_loop (σ := Nat → Int32) (fun m i s => wX_useOrDrop_67 post (nI (24 * f + p)) (nI n) 0 xr xs xd xw m (nI i) xk xl xp xn xb xm xh bk bl bp bn bb bm bh xf xt xq s) (fun i s => s = jp_fl xu b i 1) n 0 xu (by omega) (jp_fl_0 _ _ _).symm (fun m s hI => br_t (nI_le (by omega) (by omega)) (br_t rfl ?_)) (fun m i s hi hI ih => br_f (nI_ge hi (by omega)) (br_t rfl ?_))
    · refine hpost _ _ _ ?_
      rw [jp_u1_f hs, hI]
    · rw [nI_add, nI_clamp (n := 24 * f + p + i) (by omega), l3 i hi]
      refine ⟨vp_in_nI (by omega) (by omega), vp_in_nI (by omega) (by omega), ?_⟩
      rw [nI_clamp (by omega)]
      exact nm_e (nm_r (nI_1 _) (ih _ (by rw [hI, jp_fl_s])))
  have drop : 0 < jp_sh xu b n → ∃ m, wX_useOrDrop_67 post (nI (24 * f + p)) (nI n) 1 xr xs xd xw m 0 xk xl xp xn xb xm xh bk bl bp bn bb bm bh xf xt xq xu := by
    intro hs
    refine pk_loop (σ := Nat → Int32) (fun m i s => wX_useOrDrop_67 post (nI (24 * f + p)) (nI n) 1 xr xs xd xw m (nI i) xk xl xp xn s xm xh bk bl bp bn bb bm bh xf xt xq xu) (fun i s => s = jp_fl xb (24 * f + p) i (-1)) n 0 xb (by omega) (jp_fl_0 _ _ _).symm (fun m s hI => br_t (nI_le (by omega) (by omega)) (br_f (by decide) (nm_e ?_))) (fun m i s hi hI ih => br_f (nI_ge hi (by omega)) (br_f (by decide) ?_))
    · refine hpost _ _ _ ?_
      rw [jp_u1_t hs, hI]
    · rw [nI_add, nI_clamp (n := 24 * f + p + i) (by omega)]
      exact ⟨vp_in_nI (by omega) (by omega), nm_e (nm_r (nI_1 _) (ih _ (by rw [hI, jp_fl_s])))⟩
  refine pk_loop (σ := Int32) (fun m i s => wX_useOrDrop_21 post (nI (24 * f + p)) (nI n) xr xs xd xw xk xl xp xn xb xm xh bk bl bp bn bb bm bh xf xt xq xu m s (nI i)) (fun i s => (s = 0 ∧ jp_sh xu b i = 0) ∨ (s = 1 ∧ 0 < jp_sh xu b i)) n 0 0 (by omega) (Or.inl ⟨rfl, rfl⟩) (fun m s hI => br_t (nI_le (by omega) (by omega)) ?_) (fun m i s hi hI ih => br_f (nI_ge hi (by omega)) ?_)
  · rcases hI with ⟨e1, e2⟩ | ⟨e1, e2⟩
    · subst e1; exact keep (by omega)
    · subst e1; exact drop e2
  · have es : jp_sh xu b (i + 1) = jp_sh xu b i + (decide (xu (b + i) = 1)).toNat := rfl
    rcases hI with ⟨e1, e2⟩ | ⟨e1, e2⟩
    · subst e1
      refine br_t rfl ?_
      rw [nI_add, nI_clamp (n := 24 * f + p + i) (by omega), l3 i hi]
      refine ⟨vp_in_nI (by omega) (by omega), vp_in_nI (by omega) (by omega), ?_⟩
      rw [nI_clamp (by omega)]
      refine br_c (fun q => nm_r (nI_1 _) (ih 1 (Or.inr ⟨rfl, ?_⟩))) (fun q => nm_r (nI_1 _) (ih 0 (Or.inl ⟨rfl, ?_⟩)))
      · rw [es, jp_t1 q]; omega
      · rw [es, jp_t0 q]; omega
    · subst e1
      exact br_f (by decide) (nm_r (nI_1 _) (ih 1 (Or.inr ⟨rfl, by omega⟩)))
theorem jx_pfile {post : SX → Prop} {J : Int32 → Int32 → Int32 → Int32 → Int32 → (Nat → Int32) → (Nat → Int32) → (Nat → Int32) → (Nat → Int32) → (Nat → Int32) → (Nat → Int32) → (Nat → Int32) → (Nat → Int32) → (Nat → Int32) → (Nat → Int32) → (Nat → Int32) → (Nat → Int32) → (Nat → Int32) → (Nat → Int32) → (Nat → Int32) → (Nat → Int32) → (Nat → Int32) → (Nat → Int32) → Prop} {f : Nat} (hf : f < 16) (hk : xk f = 1) :
    ∀ (m p q : Nat) (B U F : Nat → Int32), p + q = 24 → q ≤ m → jp_BR B → jp_bd B f p → (∀ B' U' F', jp_pf f m p (B, U, F) = (B', U', F') → J (nI (f + 1)) xr xs xd xw xk xl xp xn B' xm xh bk bl bp bn bb bm bh F' xt xq U') → wX_dropSharedExtents_31 post J (nI f) (q + 1) (nI p) xr xs xd xw xk xl xp xn B xm xh bk bl bp bn bb bm bh F xt xq U := by
  have hv : vp_in (nI f) 16 := vp_in_nI hf (by omega)
  intro m
  induction m with
  | zero =>
    intro p q B U F h1 h2 hB hbd hJ
    exact br_t (nI_le (a := 24) (by omega) (by omega)) (nm_r (nI_1 _) (hJ B U F rfl))
  | succ m ih =>
    intro p q B U F h1 h2 hB hbd hJ
    by_cases h24 : 24 ≤ p
    · rw [jp_pf_e h24] at hJ
      exact br_t (nI_le (a := 24) h24 (by omega)) (nm_r (nI_1 _) (hJ B U F rfl))
    · obtain ⟨q, rfl⟩ : ∃ q', q = q' + 1 := ⟨q - 1, by omega⟩
      refine br_f (nI_ge (b := 24) (by omega) (by omega)) ⟨hv, ?_⟩
      rw [nI_clamp (n := f) (by omega)]
      refine br_t hk ?_
      rcases hB (24 * f + p) (by omega) with z | ⟨b, hb, z⟩
      · rw [jp_pf_h (by omega) z] at hJ
        refine jx_startsExtent hf (by omega) (fun hbe => ?_) (fun hbe => br_t rfl (nm_r (nI_1 _) (ih (p + 1) q B U F (by omega) (by omega) hB (fun a1 a2 => ?_) hJ)))
        · unfold jp_be at hbe; simp only [decide_eq_true_eq] at hbe; exact absurd z hbe.1
        · unfold jp_be; simp only [decide_eq_true_eq]
          exact ⟨a2, Or.inr (Or.inl (by rw [show 24 * f + (p + 1) - 1 = 24 * f + p from by omega]; exact z))⟩
      · have hL := jp_len_Len (B := B) (f := f) (p := p) (b := b) (by omega) z
        generalize jp_len B f p b = n at hL
        rw [jp_pf_m (by omega) hb z hL] at hJ
        have hbe := hbd (by omega) (by rw [z]; exact jv_m1n b (by omega))
        refine jx_startsExtent hf (by omega) (fun _ => br_f (by decide) (jx_useOrDrop hf (by omega) hB hb z hL (fun B' U' F' e => ?_))) (fun hn => by rw [hn] at hbe; exact Bool.noConfusion hbe)
        obtain ⟨b1, b2⟩ := jp_u1_bd (U := U) (F := F) hL hb
        rw [e] at b1 b2 hJ
        dsimp only at b1 b2
        have l1 := hL.1
        have l2 := hL.2.1
        have hB' : jp_BR B' := by
          by_cases hs : 0 < jp_sh U b n
          · rw [jp_u1_t hs] at e; cases e; exact jp_BR_fl hB _ _
          · rw [jp_u1_f hs] at e; cases e; exact hB
        have skip : ∀ i t, p + 1 + t + i = p + n → wX_dropSharedExtents_31 post J (nI f) (23 - (p + t) + 1) (nI (p + 1 + t)) xr xs xd xw xk xl xp xn B' xm xh bk bl bp bn bb bm bh F' xt xq U' := by
          intro i
          induction i with
          | zero =>
            intro t ht
            have := ih (p + n) (24 - (p + n)) B' U' F' (by omega) (by omega) hB' b1 hJ
            rw [show p + 1 + t = p + n from by omega, show 23 - (p + t) = 24 - (p + n) from by omega]
            exact this
          | succ i ih2 =>
            intro t ht
            obtain ⟨w, hw⟩ : ∃ w, 23 - (p + t) = w + 1 := ⟨22 - (p + t), by omega⟩
            rw [hw]
            refine br_f (nI_ge (b := 24) (by omega) (by omega)) ⟨hv, ?_⟩
            rw [nI_clamp (n := f) (by omega)]
            refine br_t hk (jx_startsExtent hf (by omega) (fun hy => ?_) (fun _ => br_t rfl (nm_r (nI_1 _) ?_)))
            · rw [b2 (p + 1 + t) (by omega) (by omega)] at hy; exact Bool.noConfusion hy
            · have := ih2 (t + 1) (by omega)
              rw [show 23 - (p + (t + 1)) = w from by omega] at this
              exact this
        refine nm_r (nI_1 _) ?_
        have := skip (n - 1) 0 (by omega)
        rw [show 23 - (p + 0) = q from by omega] at this
        exact this
theorem jx_pskip {post : SX → Prop} {J : Int32 → Int32 → Int32 → Int32 → Int32 → (Nat → Int32) → (Nat → Int32) → (Nat → Int32) → (Nat → Int32) → (Nat → Int32) → (Nat → Int32) → (Nat → Int32) → (Nat → Int32) → (Nat → Int32) → (Nat → Int32) → (Nat → Int32) → (Nat → Int32) → (Nat → Int32) → (Nat → Int32) → (Nat → Int32) → (Nat → Int32) → (Nat → Int32) → (Nat → Int32) → Prop} {f : Nat} (hf : f < 16) (hk : ¬ xk f = 1) (hJ : J (nI (f + 1)) xr xs xd xw xk xl xp xn xb xm xh bk bl bp bn bb bm bh xf xt xq xu) : ∃ n, wX_dropSharedExtents_31 post J (nI f) n 0 xr xs xd xw xk xl xp xn xb xm xh bk bl bp bn bb bm bh xf xt xq xu := by
  refine pk_loop (σ := Unit) (fun n p _ => wX_dropSharedExtents_31 post J (nI f) n (nI p) xr xs xd xw xk xl xp xn xb xm xh bk bl bp bn bb bm bh xf xt xq xu) (fun _ _ => True) 24 0 () (by omega) trivial (fun n _ _ => br_t (nI_le (a := 24) (by omega) (by omega)) (nm_r (nI_1 _) hJ)) (fun n p _ hp _ ih => br_f (nI_ge (b := 24) hp (by omega)) ⟨vp_in_nI hf (by omega), ?_⟩)
  rw [nI_clamp (n := f) (by omega)]
  exact br_f hk (nm_r (nI_1 _) (ih () trivial))
theorem jx_drop {post : SX → Prop} {c : Nat} (hc : 24 ≤ c) (hPV : jp_PV xk 0 (xb, jp_fl xu 0 64 0, xf))
    (hpost : ∀ B' U' F', jp_fd (fun f => jp_pf f c 0) 16 (xb, jp_fl xu 0 64 0, xf) = (B', U', F') → post (xr, xs, xd, xw, xk, xl, xp, xn, B', xm, xh, bk, bl, bp, bn, bb, bm, bh, F', xt, xq, U')) : wpX_dropSharedExtents post (xr, xs, xd, xw, xk, xl, xp, xn, xb, xm, xh, bk, bl, bp, bn, bb, bm, bh, xf, xt, xq, xu) := by
  unfold wpX_dropSharedExtents
  refine pk_loop (σ := Nat → Int32) (fun n i s => wX_dropSharedExtents_2 post xr xs xd xw n (nI i) xk xl xp xn xb xm xh bk bl bp bn bb bm bh xf xt xq s) (fun i s => s = jp_fl xu 0 i 0) 64 0 xu (by omega) (jp_fl_0 _ _ _).symm (fun n s hI => br_t (nI_le (a := 64) (by omega) (by omega)) ?_) (fun n i s hi hI ih => br_f (nI_ge (b := 64) hi (by omega)) ⟨vp_in_nI hi (by omega), ?_⟩)
  · subst hI
    refine pk_loop (σ := jp_PS) (fun n i s => wX_dropSharedExtents_23 post n (nI i) xr xs xd xw xk xl xp xn (s.1) xm xh bk bl bp bn bb bm bh (s.2.2) xt xq (s.2.1)) (fun i s => jp_fd (fun f => jp_pf f c 0) i (xb, jp_fl xu 0 64 0, xf) = s) 16 0 (xb, jp_fl xu 0 64 0, xf) (by omega) rfl (fun n s hI => br_t (nI_le (a := 16) (by omega) (by omega)) ?_) (fun n i s hi hI ih => br_f (nI_ge (b := 16) hi (by omega)) ?_)
    · obtain ⟨B', U', F'⟩ := s
      exact hpost B' U' F' hI
    · have hP := jp_PV_n hc hPV i s (by omega) hI
      obtain ⟨B', U', F'⟩ := s
      dsimp only
      have next : ∀ B2 U2 F2, jp_pf i c 0 (B', U', F') = (B2, U2, F2) → wX_dropSharedExtents_23 post n (nI (i + 1)) xr xs xd xw xk xl xp xn B2 xm xh bk bl bp bn bb bm bh F2 xt xq U2 := by
        intro B2 U2 F2 e
        refine ih (B2, U2, F2) ?_
        rw [← e, ← hI]; rfl
      by_cases hk : xk i = 1
      · exact ⟨_, jx_pfile hi hk c 0 24 B' U' F' (by omega) hc hP.1 (fun _ a => by unfold jp_be; simp only [decide_eq_true_eq]; exact ⟨a, Or.inl trivial⟩) next⟩
      · exact jx_pskip hi hk (next B' U' F' (jp_pf_row (fun p hp => hP.2.1 i hi hk p hp) c 0))
  · rw [nI_clamp (by omega)]
    exact nm_e (nm_r (nI_1 _) (ih _ (by rw [hI, ← jp_fl_s, Nat.zero_add])))
end
section
variable {yr ys yd yh yt : Int32} {yk yl yp yn yb yv ym ok ol op on ob ov om yc yg yf yq yu ye : Nat → Int32}
theorem jy_puse {post : SY → Prop} {J23 J31 : Int32 → (Nat → Int32) → (Nat → Int32) → (Nat → Int32) → (Nat → Int32) → (Nat → Int32) → (Nat → Int32) → (Nat → Int32) → (Nat → Int32) → (Nat → Int32) → (Nat → Int32) → (Nat → Int32) → (Nat → Int32) → (Nat → Int32) → (Nat → Int32) → (Nat → Int32) → (Nat → Int32) → (Nat → Int32) → (Nat → Int32) → (Nat → Int32) → (Nat → Int32) → Prop}
    {f p b n : Nat} (hf : f < 16) (hB : jp_BR yb) (hb : b < 64) (e : yb (24 * f + p) = nI b) (hL : jp_Len yb f p b n)
    (hpost : ∀ B' U' F', jp_u1 (24 * f + p) b n (yb, yu, yf) = (B', U', F') → J31 (nI (p + n)) yk yl yp yn B' yv ym ok ol op on ob ov om yc yg F' yq U' ye) : ∃ m, wY_part_73 post J23 J31 (nI f) (nI p) (nI (24 * f + p)) (nI n) yr ys yd yh yt yk yl yp yn yb yv ym ok ol op on ob ov om yc yg yf yq yu ye m 0 0 := by
  have hbn := jp_Len_b hB hf hL hb
  obtain ⟨l1, l2, l3, l4⟩ := hL
  have keep : ¬ 0 < jp_sh yu b n → ∃ m, wY_part_132 post J23 J31 (nI f) (nI p) (nI (24 * f + p)) (nI n) 0 yr ys yd yh yt m 0 yk yl yp yn yb yv ym ok ol op on ob ov om yc yg yf yq yu ye := by
    intro hs
    refine pk_loop (σ := Nat → Int32) (fun m i s => wY_part_132 post J23 J31 (nI f) (nI p) (nI (24 * f + p)) (nI n) 0 yr ys yd yh yt m (nI i) yk yl yp yn yb yv ym ok ol op on ob ov om yc yg yf yq s ye) (fun i s => s = jp_fl yu b i 1) n 0 yu (by omega) (jp_fl_0 _ _ _).symm (fun m s hI => br_t (nI_le (by omega) (by omega)) (nm_r (nI_add _ _) ?_)) (fun m i s hi hI ih => br_f (nI_ge hi (by omega)) (br_t rfl ?_))
    · refine hpost _ _ _ ?_
      rw [jp_u1_f hs, hI]
    · rw [nI_add, nI_clamp (n := 24 * f + p + i) (by omega), l3 i hi]
      refine ⟨vp_in_nI (by omega) (by omega), vp_in_nI (by omega) (by omega), ?_⟩
      rw [nI_clamp (by omega)]
      exact nm_e (nm_r (nI_1 _) (ih _ (by rw [hI, jp_fl_s])))
  have drop : 0 < jp_sh yu b n → ∃ m, wY_part_132 post J23 J31 (nI f) (nI p) (nI (24 * f + p)) (nI n) 1 yr ys yd yh yt m 0 yk yl yp yn yb yv ym ok ol op on ob ov om yc yg (upd yf 2 (yf 2 + 1)) yq yu ye := by
    intro hs
    refine pk_loop (σ := Nat → Int32) (fun m i s => wY_part_132 post J23 J31 (nI f) (nI p) (nI (24 * f + p)) (nI n) 1 yr ys yd yh yt m (nI i) yk yl yp yn s yv ym ok ol op on ob ov om yc yg (upd yf 2 (yf 2 + 1)) yq yu ye) (fun i s => s = jp_fl yb (24 * f + p) i (-1)) n 0 yb (by omega) (jp_fl_0 _ _ _).symm (fun m s hI => br_t (nI_le (by omega) (by omega)) (nm_r (nI_add _ _) ?_)) (fun m i s hi hI ih => br_f (nI_ge hi (by omega)) (br_f (by decide) ?_))
    · refine hpost _ _ _ ?_
      rw [jp_u1_t hs, hI]
    · rw [nI_add, nI_clamp (n := 24 * f + p + i) (by omega)]
      exact ⟨vp_in_nI (by omega) (by omega), nm_e (nm_r (nI_1 _) (ih _ (by rw [hI, jp_fl_s])))⟩
  refine pk_loop (σ := Int32) (fun m i s => wY_part_73 post J23 J31 (nI f) (nI p) (nI (24 * f + p)) (nI n) yr ys yd yh yt yk yl yp yn yb yv ym ok ol op on ob ov om yc yg yf yq yu ye m s (nI i)) (fun i s => (s = 0 ∧ jp_sh yu b i = 0) ∨ (s = 1 ∧ 0 < jp_sh yu b i)) n 0 0 (by omega) (Or.inl ⟨rfl, rfl⟩) (fun m s hI => br_t (nI_le (by omega) (by omega)) ?_) (fun m i s hi hI ih => br_f (nI_ge hi (by omega)) ⟨vp_in_nI (by omega) (by omega), ?_⟩)
  · rcases hI with ⟨e1, e2⟩ | ⟨e1, e2⟩
    · subst e1; exact br_t rfl (keep (by omega))
    · subst e1; exact br_f (by decide) (nm_e (drop e2))
  · have es : jp_sh yu b (i + 1) = jp_sh yu b i + (decide (yu (b + i) = 1)).toNat := rfl
    rw [nI_clamp (n := 24 * f + p) (by omega), e, nI_add]
    refine ⟨vp_in_nI (by omega) (by omega), ?_⟩
    rw [nI_clamp (by omega)]
    rcases hI with ⟨e1, e2⟩ | ⟨e1, e2⟩
    · subst e1
      refine br_c (fun q => nm_r (e' := 1) (by decide) (nm_r (nI_1 _) (ih 1 (Or.inr ⟨rfl, ?_⟩)))) (fun q => nm_r (e' := 0) (by decide) (nm_r (nI_1 _) (ih 0 (Or.inl ⟨rfl, ?_⟩))))
      · rw [es, jp_t1 q]; omega
      · rw [es, jp_t0 q]; omega
    · subst e1
      refine br_c (fun q => nm_r (e' := 1) (by decide) (nm_r (nI_1 _) (ih 1 (Or.inr ⟨rfl, by omega⟩)))) (fun q => nm_r (e' := 1) (by decide) (nm_r (nI_1 _) (ih 1 (Or.inr ⟨rfl, by omega⟩))))
theorem jy_pfile {post : SY → Prop} {J23 : Int32 → (Nat → Int32) → (Nat → Int32) → (Nat → Int32) → (Nat → Int32) → (Nat → Int32) → (Nat → Int32) → (Nat → Int32) → (Nat → Int32) → (Nat → Int32) → (Nat → Int32) → (Nat → Int32) → (Nat → Int32) → (Nat → Int32) → (Nat → Int32) → (Nat → Int32) → (Nat → Int32) → (Nat → Int32) → (Nat → Int32) → (Nat → Int32) → (Nat → Int32) → Prop} {f : Nat} (hf : f < 16) :
    ∀ (m p : Nat) (B U F : Nat → Int32), p ≤ 24 → 24 ≤ p + m → jp_BR B → (∀ B' U' F', jp_pf f m p (B, U, F) = (B', U', F') → J23 (nI (f + 1)) yk yl yp yn B' yv ym ok ol op on ob ov om yc yg F' yq U' ye) → wY_part_31 post J23 (nI f) yr ys yd yh yt (m + 1) (nI p) yk yl yp yn B yv ym ok ol op on ob ov om yc yg F yq U ye := by
  intro m
  induction m with
  | zero =>
    intro p B U F h1 h2 hB hJ
    exact br_t (nI_le (a := 24) (by omega) (by omega)) (nm_r (nI_1 _) (hJ B U F rfl))
  | succ m ih =>
    intro p B U F h1 h2 hB hJ
    by_cases h24 : 24 ≤ p
    · rw [jp_pf_e h24] at hJ
      exact br_t (nI_le (a := 24) h24 (by omega)) (nm_r (nI_1 _) (hJ B U F rfl))
    · refine br_f (nI_ge (b := 24) (by omega) (by omega)) (nm_r (jv_e24 f p) ⟨vp_in_nI (by omega) (by omega), ?_⟩)
      rw [nI_clamp (n := 24 * f + p) (by omega)]
      rcases hB (24 * f + p) (by omega) with z | ⟨b, hb, z⟩
      · rw [jp_pf_h (by omega) z] at hJ
        rw [z]
        exact br_f (by decide) (nm_r (nI_1 _) (ih (p + 1) B U F (by omega) (by omega) hB hJ))
      · have hL := jp_len_Len (B := B) (f := f) (p := p) (b := b) (by omega) z
        generalize jp_len B f p b = n at hL
        rw [jp_pf_m (by omega) hb z hL] at hJ
        rw [z]
        refine br_t (nI_pos' (by omega)) (jy_lengthAt hf (by omega) hb z (fun n' hL' => ?_))
        rw [jp_Len_un hL' hL]
        refine jy_puse hf hB hb z hL (fun B' U' F' e => ?_)
        rw [e] at hJ
        have l1 := hL.1
        have l2 := hL.2.1
        have hB' : jp_BR B' := by
          by_cases hs : 0 < jp_sh U b n
          · rw [jp_u1_t hs] at e; cases e; exact jp_BR_fl hB _ _
          · rw [jp_u1_f hs] at e; cases e; exact hB
        exact ih (p + n) B' U' F' (by omega) (by omega) hB' hJ
theorem jy_part {post : SY → Prop} {c : Nat} (hc : 24 ≤ c) (hPV : jp_PV yk 0 (yb, jp_fl yu 0 64 0, yf))
    (hpost : ∀ B' U' F', jp_fd (fun f => jp_pf f c 0) 16 (yb, jp_fl yu 0 64 0, yf) = (B', U', F') → post (yr, ys, yd, yh, yt, yk, yl, yp, yn, B', yv, ym, ok, ol, op, on, ob, ov, om, yc, yg, F', yq, U', ye)) : wpY_part post (yr, ys, yd, yh, yt, yk, yl, yp, yn, yb, yv, ym, ok, ol, op, on, ob, ov, om, yc, yg, yf, yq, yu, ye) := by
  unfold wpY_part
  refine pk_loop (σ := Nat → Int32) (fun n i s => wY_part_2 post yr ys yd yh yt n (nI i) yk yl yp yn yb yv ym ok ol op on ob ov om yc yg yf yq s ye) (fun i s => s = jp_fl yu 0 i 0) 64 0 yu (by omega) (jp_fl_0 _ _ _).symm (fun n s hI => br_t (nI_le (a := 64) (by omega) (by omega)) ?_) (fun n i s hi hI ih => br_f (nI_ge (b := 64) hi (by omega)) ⟨vp_in_nI hi (by omega), ?_⟩)
  · subst hI
    refine pk_loop (σ := jp_PS) (fun n i s => wY_part_23 post yr ys yd yh yt n (nI i) yk yl yp yn (s.1) yv ym ok ol op on ob ov om yc yg (s.2.2) yq (s.2.1) ye) (fun i s => jp_fd (fun f => jp_pf f c 0) i (yb, jp_fl yu 0 64 0, yf) = s) 16 0 (yb, jp_fl yu 0 64 0, yf) (by omega) rfl (fun n s hI => br_t (nI_le (a := 16) (by omega) (by omega)) ?_) (fun n i s hi hI ih => br_f (nI_ge (b := 16) hi (by omega)) ?_)
    · obtain ⟨B', U', F'⟩ := s
      exact hpost B' U' F' hI
    · have hP := jp_PV_n hc hPV i s (by omega) hI
      obtain ⟨B', U', F'⟩ := s
      dsimp only
      refine ⟨_, jy_pfile hi c 0 B' U' F' (by omega) (by omega) hP.1 (fun B2 U2 F2 e => ih (B2, U2, F2) ?_)⟩
      rw [← e, ← hI]; rfl
  · rw [nI_clamp (by omega)]
    exact nm_e (nm_r (nI_1 _) (ih _ (by rw [hI, ← jp_fl_s, Nat.zero_add])))
end

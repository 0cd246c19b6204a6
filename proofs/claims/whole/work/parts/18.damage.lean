/-! damage -/
theorem jv_nb0 : narrow .boolean (.int 0) = .int 0 := lw_bz_n 0
theorem jv_nb1 : narrow .boolean (.int 1) = .int 1 := lw_bz_n 1
section
variable {xr xs xd xw : Int32} {xk xl xp xn xb xm xh bk bl bp bn bb bm bh xf xt xq xu : Nat → Int32}
theorem jx_dam0 {post : Int32 → SX → Prop} (hd : xd = 0 ∨ xd = 1) (h : post 0 (xr, xs, xd, xw, xk, xl, xp, xn, xb, xm, xh, bk, bl, bp, bn, bb, bm, bh, xf, xt, xq, xu)) : wX_damage_106 post 0 xr xs xd xw xk xl xp xn xb xm xh bk bl bp bn bb bm bh xf xt xq xu := by
  rcases hd with e | e <;> subst e
  · exact br_t rfl (br_t rfl ⟨jv_nb0, h⟩)
  · exact br_f (by decide) ⟨jv_nb0, h⟩
theorem jx_dam1 {post : Int32 → SX → Prop} (h : post 1 (xr, xs, 1, xw, xk, xl, xp, xn, xb, xm, xh, bk, bl, bp, bn, bb, bm, bh, xf, xt, xq, xu)) : wX_damage_106 post 1 xr xs xd xw xk xl xp xn xb xm xh bk bl bp bn bb bm bh xf xt xq xu :=
  br_c (fun _ => br_f (by decide) ⟨jv_nb1, h⟩) (fun _ => ⟨jv_nb1, h⟩)
end
theorem jp_links_I0 {K L P N B V M : Nat → Int32} {i : Nat} {v : Int32} (h : jp_I0 (K, L, P, N, B, V, M)) (hi : i < 16) (hk : ¬ K i = 0) : jp_I0 (K, upd L i v, P, N, B, V, M) := by
  obtain ⟨hZ, hK, hK0, hPR, hP0, hL0, h⟩ := h
  refine ⟨⟨fun j hj => ?_, hZ.2⟩, hK, hK0, hPR, hP0, fun j hj hk0 => ?_, h⟩
  · rw [pk_un (by omega)]; exact hZ.1 j hj
  · have : j ≠ i := fun e => hk (by rw [← e]; exact hk0)
    rw [pk_un this]; exact hL0 j hj hk0
theorem jp_mark_I0 {K L P N B V M : Nat → Int32} {b : Nat} {v : Int32} (h : jp_I0 (K, L, P, N, B, V, M)) (hb : b < 64) : jp_I0 (K, L, P, N, B, V, upd M b v) := by
  obtain ⟨hZ, h⟩ := h
  exact ⟨⟨hZ.1, hZ.2.1, hZ.2.2.1, fun i hi => ⟨(hZ.2.2.2 i hi).1, by rw [pk_un (by omega)]; exact (hZ.2.2.2 i hi).2⟩⟩, h⟩
theorem jp_name_I0 {K L P N B V M : Nat → Int32} {a n i : Nat} (h : jp_I0 (K, L, P, N, B, V, M)) (ha : a < 16) (hk : K a = 2) (hn : n < 64) (hi : i < 16) (he : ¬ N (64 * a + n) = -1) : jp_I0 (K, L, P, upd N (64 * a + n) (nI i), B, V, M) := by
  obtain ⟨hZ, hK, hK0, hPR, hP0, hL0, hN, hNE, hEN, h⟩ := h
  refine ⟨⟨hZ.1, fun j hj => ?_, hZ.2.2⟩, hK, hK0, hPR, hP0, hL0, jp_NR_upd hN (Or.inr ⟨i, hi, rfl⟩), fun j hj hk2 q hq => ?_, fun j hj => ?_, h⟩
  · rw [pk_un (by omega)]; exact hZ.2.1 j hj
  · have : j ≠ a := fun e => hk2 (by rw [e]; exact hk)
    rw [pk_un (by omega)]; exact hNE j hj hk2 q hq
  · by_cases e : j = a
    · subst e
      have := jp_en_upd (N := N) (a := j) (n := n) (v := nI i) hn
      rw [jp_t1 he, jp_t1 (jv_m1n i (by omega))] at this
      have := hEN j hj
      omega
    · rw [jp_en_un hn e]; exact hEN j hj
/-- a row of blocks, one behind another -/
def jp_mw (B : Nat → Int32) (lo len t : Nat) : Nat → Int32 := fun s => if lo ≤ s ∧ s < lo + len then nI (t + (s - lo)) else B s
theorem jp_mw_0 (B : Nat → Int32) (lo t : Nat) : jp_mw B lo 0 t = B := by
  funext s; unfold jp_mw; rw [if_neg (by omega)]
theorem jp_mw_s (B : Nat → Int32) (lo k t : Nat) : upd (jp_mw B lo k t) (lo + k) (nI (t + k)) = jp_mw B lo (k + 1) t := by
  funext s; unfold jp_mw upd; dsimp only
  by_cases e : s = lo + k
  · subst e; rw [if_pos rfl, if_pos (by omega), Nat.add_sub_cancel_left]
  · rw [if_neg e]
    by_cases h : lo ≤ s ∧ s < lo + k
    · rw [if_pos h, if_pos (by omega)]
    · rw [if_neg h, if_neg (by omega)]
theorem jp_mw_in {B : Nat → Int32} {lo len t s : Nat} (h1 : lo ≤ s) (h2 : s < lo + len) : jp_mw B lo len t s = nI (t + (s - lo)) := if_pos ⟨h1, h2⟩
theorem jp_mw_out {B : Nat → Int32} {lo len t s : Nat} (h : s < lo ∨ lo + len ≤ s) : jp_mw B lo len t s = B s := if_neg (by omega)
theorem jp_mw_be {B : Nat → Int32} {f p b L t q : Nat} (hb : b < 64) (hL : jp_Len B f p b L) (hbe : jp_be B f p = true) (ht : t + L ≤ 64) (hq : q < 24) (h : jp_be (jp_mw B (24 * f + p) L t) f q = true) : jp_be B f q = true := by
  obtain ⟨l1, l2, l3, l4⟩ := hL
  by_cases e : q = p
  · rw [e]; exact hbe
  · unfold jp_be at h ⊢
    simp only [decide_eq_true_eq] at h ⊢
    by_cases e1 : p < q ∧ q < p + L
    · rw [jp_mw_in (by omega) (by omega), jp_mw_in (by omega) (by omega)] at h
      rcases h.2 with z | z | z
      · omega
      · exact absurd z (jv_m1n _ (by omega))
      · exact absurd (by rw [nI_1]; exact congrArg nI (by omega)) z
    · rw [jp_mw_out (s := 24 * f + q) (by omega)] at h
      refine ⟨h.1, ?_⟩
      by_cases q0 : q = 0
      · exact Or.inl q0
      · by_cases e2 : q = p + L
        · refine Or.inr (Or.inr (fun z => l4 (by omega) ?_))
          have := l3 (L - 1) (by omega)
          rw [show 24 * f + p + (L - 1) = 24 * f + q - 1 from by omega] at this
          rw [this, nI_1] at z
          rw [show 24 * f + p + L = 24 * f + q from by omega, ← z]
          exact congrArg nI (by omega)
        · rw [jp_mw_out (s := 24 * f + q - 1) (by omega)] at h
          exact h.2
theorem jp_mw_I0 {K L P N B V M : Nat → Int32} {f p b n t : Nat} (h : jp_I0 (K, L, P, N, B, V, M)) (hf : f < 16) (hk : K f = 1) (hb : b < 64) (hL : jp_Len B f p b n) (hbe : jp_be B f p = true) (ht : t + n ≤ 64) : jp_I0 (K, L, P, N, jp_mw B (24 * f + p) n t, V, M) := by
  obtain ⟨hZ, hK, hK0, hPR, hP0, hL0, hN, hNE, hEN, hB, hBE, hXN⟩ := h
  have l2 := hL.2.1
  refine ⟨⟨hZ.1, hZ.2.1, fun i hi => ?_, hZ.2.2.2⟩, hK, hK0, hPR, hP0, hL0, hN, hNE, hEN, fun s hs => ?_, fun i hi hk1 q hq => ?_, fun i hi => ?_⟩
  · rw [jp_mw_out (by omega)]; exact hZ.2.2.1 i hi
  · by_cases e : 24 * f + p ≤ s ∧ s < 24 * f + p + n
    · rw [jp_mw_in e.1 e.2]; exact Or.inr ⟨_, by omega, rfl⟩
    · rw [jp_mw_out (by omega)]; exact hB s hs
  · have : i ≠ f := fun e => hk1 (by rw [e]; exact hk)
    rw [jp_mw_out (by omega)]; exact hBE i hi hk1 q hq
  · refine Nat.le_trans (jp_cn_mono (fun q hq hb' => ?_)) (hXN i hi)
    by_cases e : i = f
    · rw [e] at hb' ⊢; exact jp_mw_be hb hL hbe ht hq hb'
    · unfold jp_be at hb' ⊢
      rw [jp_mw_out (by omega)] at hb'
      by_cases q0 : q = 0
      · simp only [decide_eq_true_eq] at hb' ⊢; exact ⟨hb'.1, Or.inl q0⟩
      · rw [jp_mw_out (by omega)] at hb'; exact hb'
section
variable {xr xs xd xw : Int32} {xk xl xp xn xb xm xh bk bl bp bn bb bm bh xf xt xq xu : Nat → Int32}
theorem jx_dmap {post : Int32 → SX → Prop} {f p n t : Nat} (hf : f < 16) (hp : p + n ≤ 24) (ht : t + n ≤ 64) (h : post 1 (xr, xs, xd, xw, xk, xl, xp, xn, jp_mw xb (24 * f + p) n t, xm, xh, bk, bl, bp, bn, bb, bm, bh, xf, xt, xq, xu)) : ∃ m, wX_damageExtent_53 post (nI f) (nI t) (nI p) (nI n) xr xs xd xw m 0 xk xl xp xn xb xm xh bk bl bp bn bb bm bh xf xt xq xu := by
  refine pk_loop (σ := Nat → Int32) (fun m i s => wX_damageExtent_53 post (nI f) (nI t) (nI p) (nI n) xr xs xd xw m (nI i) xk xl xp xn s xm xh bk bl bp bn bb bm bh xf xt xq xu) (fun i s => s = jp_mw xb (24 * f + p) i t) n 0 xb (by omega) (jp_mw_0 _ _ _).symm (fun m s hI => br_t (nI_le (by omega) (by omega)) (by rw [hI]; exact h)) (fun m i s hi hI ih => br_f (nI_ge hi (by omega)) ?_)
  rw [jv_f24, nI_add, nI_add]
  refine ⟨vp_in_nI (by omega) (by omega), ?_⟩
  rw [nI_clamp (by omega)]
  exact nm_e (nm_r (nI_1 _) (ih _ (by rw [hI, jp_mw_s])))
end
section
variable {yr ys yd yh yt : Int32} {yk yl yp yn yb yv ym ok ol op on ob ov om yc yg yf yq yu ye : Nat → Int32}
theorem jy_dmap {post : Int32 → SY → Prop} {f p n t : Nat} (hf : f < 16) (hp : p + n ≤ 24) (ht : t + n ≤ 64) (h : post 1 (yr, ys, yd, yh, yt, yk, yl, yp, yn, jp_mw yb (24 * f + p) n t, yv, ym, ok, ol, op, on, ob, ov, om, yc, yg, yf, yq, yu, ye)) : ∃ m, wY_mapWrong_55 post (nI f) (nI t) (nI p) (nI n) yr ys yd yh yt m 0 yk yl yp yn yb yv ym ok ol op on ob ov om yc yg yf yq yu ye := by
  refine pk_loop (σ := Nat → Int32) (fun m i s => wY_mapWrong_55 post (nI f) (nI t) (nI p) (nI n) yr ys yd yh yt m (nI i) yk yl yp yn s yv ym ok ol op on ob ov om yc yg yf yq yu ye) (fun i s => s = jp_mw yb (24 * f + p) i t) n 0 yb (by omega) (jp_mw_0 _ _ _).symm (fun m s hI => br_t (nI_le (by omega) (by omega)) (by rw [hI]; exact h)) (fun m i s hi hI ih => br_f (nI_ge hi (by omega)) ?_)
  rw [jv_e24, nI_add, nI_add]
  refine ⟨vp_in_nI (by omega) (by omega), ?_⟩
  rw [nI_clamp (by omega)]
  exact nm_e (nm_r (nI_1 _) (ih _ (by rw [hI, jp_mw_s])))
theorem jy_lose {post : Int32 → SY → Prop} {i : Nat} (hi : i < 16) (hi0 : i ≠ 0) (hk : ¬ yk i = 0) (h : post 1 (yr, ys, yd, yh, yt, upd yk i 0, upd yl i 0, yp, jp_fl yn (64 * i) 64 (-1), jp_fl yb (24 * i) 24 (-1), yv, ym, ok, ol, op, on, ob, ov, om, yc, yg, yf, yq, yu, ye)) : wpY_lose post (yr, ys, yd, yh, yt, yk, yl, yp, yn, yb, yv, ym, ok, ol, op, on, ob, ov, om, yc, yg, yf, yq, yu, ye) (nI i) := by
  unfold wpY_lose
  refine br_f (nI_nlt (b := 1) (by omega) (by omega)) (br_f (nI_nlt (a := 15) (by omega) (by omega)) (br_f (by decide) ⟨vp_in_nI hi (by omega), ?_⟩))
  rw [nI_clamp (n := i) (by omega)]
  refine br_f hk ⟨vp_in_nI hi (by omega), nm_e ⟨vp_in_nI hi (by omega), nm_e (nm_r (jv_c64 i) ?_)⟩⟩
  refine pk_loop (σ := Nat → Int32) (fun n j s => wY_lose_40 post (nI i) yr ys yd yh yt n (nI (64 * i + j)) (upd yk i 0) (upd yl i 0) yp s yb yv ym ok ol op on ob ov om yc yg yf yq yu ye) (fun j s => s = jp_fl yn (64 * i) j (-1)) 64 0 yn (by omega) (jp_fl_0 _ _ _).symm (fun n s hI => br_t ?_ (nm_r (jv_c24 i) ?_)) (fun n j s hj hI ih => br_f ?_ ⟨vp_in_nI (by omega) (by omega), ?_⟩)
  · rw [jv_d64]; exact nI_le (by omega) (by omega)
  · subst hI
    refine pk_loop (σ := Nat → Int32) (fun n j s => wY_lose_69 post (nI i) yr ys yd yh yt n (nI (24 * i + j)) (upd yk i 0) (upd yl i 0) yp (jp_fl yn (64 * i) 64 (-1)) s yv ym ok ol op on ob ov om yc yg yf yq yu ye) (fun j s => s = jp_fl yb (24 * i) j (-1)) 24 0 yb (by omega) (jp_fl_0 _ _ _).symm (fun n s hI => br_t ?_ (by rw [hI]; exact h)) (fun n j s hj hI ih => br_f ?_ ⟨vp_in_nI (by omega) (by omega), ?_⟩)
    · rw [jv_d24]; exact nI_le (by omega) (by omega)
    · rw [jv_d24]; exact nI_ge (by omega) (by omega)
    · rw [nI_clamp (by omega)]
      exact nm_e (nm_r (nI_1 _) (ih _ (by rw [hI, jp_fl_s])))
  · rw [jv_d64]; exact nI_ge (by omega) (by omega)
  · rw [nI_clamp (by omega)]
    exact nm_e (nm_r (nI_1 _) (ih _ (by rw [hI, jp_fl_s])))
end
def jy_D (post : Int32 → SY → Prop) (r : Int32) : SY → Prop
  | (yr, ys, yd, yh, yt, yk, yl, yp, yn, yb, yv, ym, ok, ol, op, on, ob, ov, om, yc, yg, yf, yq, yu, ye) => wY_damage_86 post r yr ys yd yh yt yk yl yp yn yb yv ym ok ol op on ob ov om yc yg yf yq yu ye
section
variable {r s : Nat} {d xw yh yt : Int32} {K L P N B V M bk bl bp bn bb bm bh xq ok ol op on ob ov om yc yg yq F T U : Nat → Int32} {k : Nat}
/-- the reference's end of a damage that was done -/
theorem jy_dend {post : Int32 → SY → Prop} {K' L' P' N' B' V' M' : Nat → Int32} (h0 : jp_Z ok ol op on ob ov om) (h1 : jp_Z K' L' P' N' B' V' M')
    (h : post 1 (nI r, nI s, 1, yh, yt, K', L', P', N', B', V', M', K', L', P', N', B', V', M', yc, yg, F, yq, U, T)) : jy_D post 1 (nI r, nI s, d, yh, yt, K', L', P', N', B', V', M', ok, ol, op, on, ob, ov, om, yc, yg, F, yq, U, T) := by
  unfold jy_D
  exact br_f (by decide) (jy_placeZ h0 h1 h)
end
theorem i_vc_damage {k : Nat} {u : SX} {v : SY} (I : i_Rel k u v) (hk : k + 5 ≤ 2560) (v1 : Int32) (v2 : Int32) (v3 : Int32) (v4 : Int32) : wpX_damage (fun r u' => wpY_damage (fun r' v' => r' = r ∧ i_Rel (k + 5) u' v') v v1 v2 v3 v4) u v1 v2 v3 v4 := by
  have I' : i_Rel (k + 5) u v := I
  obtain ⟨S, r, s, d, xw, yh, yt, K, L, P, N, B, V, M, bk, bl, bp, bn, bb, bm, bh, xq, ok, ol, op, on, ob, ov, om, yc, yg, yq, F, T, U, rfl, rfl, hS, hS0, hr, hs, hd, hLog⟩ := I
  have hI := hLog.1 r (Nat.le_refl r)
  have hI0 := hLog.1 0 (Nat.zero_le r)
  rw [hS] at hI
  rw [hS0] at hI0
  have hI2 := hI
  obtain ⟨hZ, hK, hK0, hPR, hP0, hL0, hN, hNE, hEN, hB, hBE, hXN⟩ := hI
  have hZ0 := hI0.1
  have hd' : d = 0 ∨ d = 1 := hd.elim Or.inl (fun h => Or.inr h.1)
  unfold wpX_damage
  refine pk_le r 0 (fun h => ?_) (fun h => ?_)
  · obtain rfl : r = 0 := by omega
    obtain rfl : s = 0 := by omega
    -- what the component does when nothing was done, and when it was
    have no : ∀ post : Int32 → SX → Prop, post 0 (0, 0, d, xw, K, L, jp_pi K P, jp_ro N, B, M, V, bk, bl, bp, bn, bb, bm, bh, F, T, xq, U) → wX_damage_106 post 0 0 0 d xw K L (jp_pi K P) (jp_ro N) B M V bk bl bp bn bb bm bh F T xq U := fun post h => jx_dam0 hd' h
    have yno : ∀ post : Int32 → SY → Prop, post 0 (0, 0, d, yh, yt, K, L, P, N, B, V, M, ok, ol, op, on, ob, ov, om, yc, yg, F, yq, U, T) → jy_D post 0 (0, 0, d, yh, yt, K, L, P, N, B, V, M, ok, ol, op, on, ob, ov, om, yc, yg, F, yq, U, T) := fun post h => by
      unfold jy_D
      exact br_t rfl h
    have new : ∀ K' L' P' N' B' V' M', jp_I0 (K', L', P', N', B', V', M') → i_Rel (k + 5) (0, 0, 1, xw, K', L', jp_pi K' P', jp_ro N', B', M', V', bk, bl, bp, bn, bb, bm, bh, F, T, xq, U) (0, 0, 1, yh, yt, K', L', P', N', B', V', M', K', L', P', N', B', V', M', yc, yg, F, yq, U, T) :=
      fun K' L' P' N' B' V' M' h => jr_new (Or.inr rfl) h (fun z => absurd z (by decide))
    have end0 : v1 < 0 ∨ 4 < v1 → wpY_damage (fun r' v' => r' = 0 ∧ i_Rel (k + 5) (0, 0, d, xw, K, L, jp_pi K P, jp_ro N, B, M, V, bk, bl, bp, bn, bb, bm, bh, F, T, xq, U) v') (0, 0, d, yh, yt, K, L, P, N, B, V, M, ok, ol, op, on, ob, ov, om, yc, yg, F, yq, U, T) v1 v2 v3 v4 := by
      intro hv
      have ne : ∀ j : Nat, j < 5 → ¬ v1 = nI j := by
        intro j hj e
        subst e
        rcases hv with z | z
        · exact nI_pos (by omega) z
        · exact nI_nlt (a := 4) (by omega) (by omega) z
      exact br_t (by decide) (br_f (ne 0 (by omega)) (br_f (ne 1 (by omega)) (br_f (ne 2 (by omega)) (br_f (ne 3 (by omega)) (br_f (ne 4 (by omega)) (br_t rfl ⟨rfl, I'⟩))))))
    refine br_c (fun z => no _ (end0 (Or.inl z))) (fun z => br_c (fun z2 => no _ (end0 (Or.inr z2))) (fun z2 => ?_))
    clear end0
    refine br_c (fun e => ?_) (fun n0 => br_c (fun e => ?_) (fun n1 => br_c (fun e => ?_) (fun n2 => br_c (fun e => ?_) (fun n3 => br_c (fun e => ?_) (fun n4 => trivial)))))
    · -- links
      subst e
      unfold wpX_damageLinks
      have Y : ∀ post : Int32 → SY → Prop, wpY_countWrong (fun r u => jy_D post r u) (0, 0, d, yh, yt, K, L, P, N, B, V, M, ok, ol, op, on, ob, ov, om, yc, yg, F, yq, U, T) v2 v3 → wpY_damage post (0, 0, d, yh, yt, K, L, P, N, B, V, M, ok, ol, op, on, ob, ov, om, yc, yg, F, yq, U, T) 0 v2 v3 v4 := fun post h => br_t (by decide) (br_t rfl h)
      refine jx_isInode (fun a ha e => br_f (by decide) ?_) (fun hno => br_t rfl (no _ (Y _ ?_)))
      · subst e
        have hv : vp_in (nI a) 16 := vp_in_nI ha (by omega)
        refine ⟨hv, ?_⟩
        rw [nI_clamp (n := a) (by omega)]
        have Yr : ∀ post, (K a = 0 → post 0 (0, 0, d, yh, yt, K, L, P, N, B, V, M, ok, ol, op, on, ob, ov, om, yc, yg, F, yq, U, T)) → (¬ K a = 0 → wpY_in (fun r_5 => (r_5 = 0 → post 0 (0, 0, d, yh, yt, K, L, P, N, B, V, M, ok, ol, op, on, ob, ov, om, yc, yg, F, yq, U, T)) ∧ (¬ r_5 = 0 → vp_in (nI a) 16 ∧ ∀ al, al = upd L a v3 → post 1 (0, 0, d, yh, yt, K, al, P, N, B, V, M, ok, ol, op, on, ob, ov, om, yc, yg, F, yq, U, T))) v3 0 9) → wpY_countWrong post (0, 0, d, yh, yt, K, L, P, N, B, V, M, ok, ol, op, on, ob, ov, om, yc, yg, F, yq, U, T) (nI a) v3 := by
          intro post h1 h2
          unfold wpY_countWrong
          refine jy_in (M := 15) (by omega) (fun _ _ _ => br_f (by decide) ⟨hv, ?_⟩) (fun hh => absurd ⟨a, ha, rfl⟩ hh)
          rw [nI_clamp (n := a) (by omega)]
          exact br_c h1 h2
        refine br_c (fun k0 => no _ (Y _ (Yr _ (fun _ => yno _ ⟨rfl, I'⟩) (fun z => absurd k0 z)))) (fun k0 => ?_)
        refine br_c (fun q => no _ (Y _ (Yr _ (fun _ => yno _ ⟨rfl, I'⟩) (fun _ => jy_in (M := 9) (by omega) (fun j hj e => absurd ⟨j, hj, e⟩ (jv_rn (by omega) (Or.inl q))) (fun _ => br_t rfl (yno _ ⟨rfl, I'⟩)))))) (fun q => ?_)
        obtain ⟨j, hj, rfl⟩ := nI_of q
        refine pk_le j 9 (fun q2 => ⟨hv, nm_e (jx_dam1 (Y _ (Yr _ (fun z => absurd z k0) (fun _ => jy_in (M := 9) (by omega) (fun _ _ _ => br_f (by decide) ⟨hv, nm_e ?_⟩) (fun hh => absurd ⟨j, by omega, rfl⟩ hh)))))⟩) (fun q2 => no _ (Y _ (Yr _ (fun _ => yno _ ⟨rfl, I'⟩) (fun _ => jy_in (M := 9) (by omega) (fun j' hj' e => ?_) (fun _ => br_t rfl (yno _ ⟨rfl, I'⟩))))))
        · have hnew := jp_links_I0 (v := nI j) hI2 ha k0
          exact jy_dend hZ0 hnew.1 ⟨rfl, new _ _ _ _ _ _ _ hnew⟩
        · have := jv_inj e (by omega) (by omega)
          omega
      · unfold wpY_countWrong
        exact jy_in (M := 15) (by omega) (fun j hj e => absurd ⟨j, hj, e⟩ hno) (fun _ => br_t rfl (yno _ ⟨rfl, I'⟩))
    · -- marks
      subst e
      unfold wpX_damageMark
      have Y : ∀ post : Int32 → SY → Prop, wpY_markWrong (fun r u => jy_D post r u) (0, 0, d, yh, yt, K, L, P, N, B, V, M, ok, ol, op, on, ob, ov, om, yc, yg, F, yq, U, T) v2 v3 → wpY_damage post (0, 0, d, yh, yt, K, L, P, N, B, V, M, ok, ol, op, on, ob, ov, om, yc, yg, F, yq, U, T) 1 v2 v3 v4 := fun post h => br_t (by decide) (br_f (by decide) (br_t rfl h))
      refine jx_isBlock (fun b hb e => br_f (by decide) ?_) (fun hno => br_t rfl (no _ (Y _ ?_)))
      · subst e
        have hv : vp_in (nI b) 64 := vp_in_nI hb (by omega)
        have Yn : (¬ ∃ j, j < 2 ∧ v3 = nI j) → wpY_markWrong (fun r u => jy_D (fun r' v' => r' = 0 ∧ i_Rel (k + 5) (0, 0, d, xw, K, L, jp_pi K P, jp_ro N, B, M, V, bk, bl, bp, bn, bb, bm, bh, F, T, xq, U) v') r u) (0, 0, d, yh, yt, K, L, P, N, B, V, M, ok, ol, op, on, ob, ov, om, yc, yg, F, yq, U, T) (nI b) v3 := by
          intro hq
          unfold wpY_markWrong
          exact jy_in (M := 63) (by omega) (fun _ _ _ => br_f (by decide) (jy_in (M := 1) (by omega) (fun j hj e => absurd ⟨j, hj, e⟩ hq) (fun _ => br_t rfl (yno _ ⟨rfl, I'⟩)))) (fun hh => absurd ⟨b, hb, rfl⟩ hh)
        refine br_c (fun q => no _ (Y _ (Yn (jv_rn (by omega) (Or.inl q))))) (fun q => ?_)
        obtain ⟨j, hj, rfl⟩ := nI_of q
        refine pk_le j 1 (fun q2 => ⟨hv, nm_e (jx_dam1 (Y _ ?_))⟩) (fun q2 => no _ (Y _ (Yn (jv_rn (by omega) (Or.inr (nI_le (a := 2) (by omega) hj))))))
        unfold wpY_markWrong
        refine jy_in (M := 63) (by omega) (fun _ _ _ => br_f (by decide) (jy_in (M := 1) (by omega) (fun _ _ _ => br_f (by decide) ⟨hv, nm_e ?_⟩) (fun hh => absurd ⟨j, by omega, rfl⟩ hh))) (fun hh => absurd ⟨b, hb, rfl⟩ hh)
        rw [nI_clamp (n := b) (by omega)]
        have hnew := jp_mark_I0 (v := nI j) hI2 hb
        exact jy_dend hZ0 hnew.1 ⟨rfl, new _ _ _ _ _ _ _ hnew⟩
      · unfold wpY_markWrong
        exact jy_in (M := 63) (by omega) (fun j hj e => absurd ⟨j, hj, e⟩ hno) (fun _ => br_t rfl (yno _ ⟨rfl, I'⟩))
    · -- extents
      subst e
      unfold wpX_damageExtent
      have Y : ∀ post : Int32 → SY → Prop, wpY_mapWrong (fun r u => jy_D post r u) (0, 0, d, yh, yt, K, L, P, N, B, V, M, ok, ol, op, on, ob, ov, om, yc, yg, F, yq, U, T) v2 v3 v4 → wpY_damage post (0, 0, d, yh, yt, K, L, P, N, B, V, M, ok, ol, op, on, ob, ov, om, yc, yg, F, yq, U, T) 2 v2 v3 v4 := fun post h => br_t (by decide) (br_f (by decide) (br_f (by decide) (br_t rfl h)))
      refine jx_isFile (fun f hf e hkf => br_f (by decide) ?_) (fun hno => br_t rfl (no _ (Y _ ?_)))
      · subst e
        refine jx_startOfExtent hf ?_
        have Yr : ∀ post, wY_mapWrong_19 post (nI f) v4 (jp_ov (jp_kth (jp_be B f) v3 24 0 0) nI) 0 0 d yh yt K L P N B V M ok ol op on ob ov om yc yg F yq U T → wpY_mapWrong post (0, 0, d, yh, yt, K, L, P, N, B, V, M, ok, ol, op, on, ob, ov, om, yc, yg, F, yq, U, T) (nI f) v3 v4 := by
          intro post h
          unfold wpY_mapWrong
          exact jy_is (fun _ _ _ _ => br_f (by decide) (jy_extentAt hB hf h)) (fun hh => absurd ⟨f, hf, rfl, hkf⟩ hh)
        cases hkth : jp_kth (jp_be B f) v3 24 0 0 with
        | none =>
          rw [hkth] at Yr
          exact br_t rfl (no _ (Y _ (Yr _ (br_f (by decide) (yno _ ⟨rfl, I'⟩)))))
        | some p =>
          rw [hkth, jp_ov_some] at Yr
          rw [jp_ov_some]
          have hps := jp_kth_some _ _ _ _ _ _ hkth
          have hbe := hps.2.2
          have hbe2 := hbe
          simp only [jp_be, decide_eq_true_eq] at hbe2
          rcases hB (24 * f + p) (by omega) with z0 | ⟨b, hb, z0⟩
          · exact absurd z0 hbe2.1
          refine br_f (jv_m1n _ (by omega)) (jx_lengthOfExtent hf (by omega) hb z0 (fun n hL => ?_))
          have l1 := hL.1
          have l2 := hL.2.1
          have Ys : ∀ post, ((¬ ∃ j, j < 64 - n + 1 ∧ v4 = nI j) → post 0 (0, 0, d, yh, yt, K, L, P, N, B, V, M, ok, ol, op, on, ob, ov, om, yc, yg, F, yq, U, T)) → (∀ j, j < 64 - n + 1 → v4 = nI j → post 1 (0, 0, d, yh, yt, K, L, P, N, jp_mw B (24 * f + p) n j, V, M, ok, ol, op, on, ob, ov, om, yc, yg, F, yq, U, T)) → wpY_mapWrong post (0, 0, d, yh, yt, K, L, P, N, B, V, M, ok, ol, op, on, ob, ov, om, yc, yg, F, yq, U, T) (nI f) v3 v4 := by
            intro post h0 h1
            refine Yr _ (br_t (nI_pos' (by omega)) (jy_lengthAt hf (by omega) hb z0 (fun n' hL' => ?_)))
            rw [jp_Len_un hL' hL, jv_64, pk_sub (by omega)]
            refine jy_in (M := 64 - n) (by omega) (fun j hj e => br_f (by decide) ?_) (fun hh => br_t rfl (h0 hh))
            subst e
            exact jy_dmap hf (by omega) (by omega) (h1 j hj rfl)
          refine br_c (fun q => no _ (Y _ (Ys _ (fun _ => yno _ ⟨rfl, I'⟩) (fun j hj e => absurd ⟨j, hj, e⟩ (jv_rn (by omega) (Or.inl q)))))) (fun q => ?_)
          obtain ⟨j, hj, rfl⟩ := nI_of q
          rw [jv_64, pk_sub (by omega)]
          refine pk_le j (64 - n) (fun q2 => jx_dmap hf (by omega) (by omega) (jx_dam1 (Y _ (Ys _ (fun hh => absurd ⟨j, by omega, rfl⟩ hh) (fun j' hj' e => ?_))))) (fun q2 => no _ (Y _ (Ys _ (fun _ => yno _ ⟨rfl, I'⟩) (fun j' hj' e => absurd (jv_inj e (by omega) (by omega)) (by omega)))))
          rw [← jv_inj e (by omega) (by omega)]
          have hnew := jp_mw_I0 (t := j) hI2 hf hkf hb hL hbe (by omega)
          exact jy_dend hZ0 hnew.1 ⟨rfl, new _ _ _ _ _ _ _ hnew⟩
      · unfold wpY_mapWrong
        exact jy_is (fun f hf e hkf => absurd ⟨f, hf, e, hkf⟩ hno) (fun _ => br_t rfl (br_f (by decide) (yno _ ⟨rfl, I'⟩)))
    · -- entries
      subst e
      unfold wpX_damageEntry
      have Y : ∀ post : Int32 → SY → Prop, wpY_nameWrong (fun r u => jy_D post r u) (0, 0, d, yh, yt, K, L, P, N, B, V, M, ok, ol, op, on, ob, ov, om, yc, yg, F, yq, U, T) v2 v3 v4 → wpY_damage post (0, 0, d, yh, yt, K, L, P, N, B, V, M, ok, ol, op, on, ob, ov, om, yc, yg, F, yq, U, T) 3 v2 v3 v4 := fun post h => br_t (by decide) (br_f (by decide) (br_f (by decide) (br_f (by decide) (br_t rfl h))))
      have nn : ∀ z : Int32, (¬ ∃ j, j < 16 ∧ v4 = nI j) → wY_nameWrong_19 (fun r u => jy_D (fun r' v' => r' = 0 ∧ i_Rel (k + 5) (0, 0, d, xw, K, L, jp_pi K P, jp_ro N, B, M, V, bk, bl, bp, bn, bb, bm, bh, F, T, xq, U) v') r u) v2 v4 z 0 0 d yh yt K L P N B V M ok ol op on ob ov om yc yg F yq U T := fun z hno =>
        br_c (fun _ => yno _ ⟨rfl, I'⟩) (fun _ => jy_in (M := 15) (by omega) (fun j hj e => absurd ⟨j, hj, e⟩ hno) (fun _ => br_t rfl (yno _ ⟨rfl, I'⟩)))
      refine jx_isDirectory (fun a ha e hka => br_f (by decide) (jx_isInode (fun i hi e2 => br_f (by decide) ?_) (fun hno => br_t rfl (no _ (Y _ ?_))))) (fun hno => br_t rfl (no _ (Y _ ?_)))
      · subst e e2
        clear nn
        refine jx_spotOfEntry ha ?_
        rw [jp_kth_congr (g := fun h => decide (¬ N (64 * a + jp_t h) = -1)) v3 64 0 0 (fun j _ hj => by rw [jp_ro_h N a (by omega)])]
        have Yr : ∀ post, wY_nameWrong_19 post (nI a) (nI i) (jp_ov (jp_kth (fun h => decide (¬ N (64 * a + jp_t h) = -1)) v3 64 0 0) (fun h => nI (jp_t h))) 0 0 d yh yt K L P N B V M ok ol op on ob ov om yc yg F yq U T → wpY_nameWrong post (0, 0, d, yh, yt, K, L, P, N, B, V, M, ok, ol, op, on, ob, ov, om, yc, yg, F, yq, U, T) (nI a) v3 (nI i) := by
          intro post h
          unfold wpY_nameWrong
          exact jy_is (fun _ _ _ _ => br_f (by decide) (jy_nameOf hN ha h)) (fun hh => absurd ⟨a, ha, rfl, hka⟩ hh)
        cases hkth : jp_kth (fun h => decide (¬ N (64 * a + jp_t h) = -1)) v3 64 0 0 with
        | none =>
          rw [hkth] at Yr
          exact br_t rfl (no _ (Y _ (Yr _ (br_t (by decide) (yno _ ⟨rfl, I'⟩)))))
        | some h =>
          rw [hkth, jp_ov_some] at Yr
          rw [jp_ov_some]
          have hps := jp_kth_some _ _ _ _ _ _ hkth
          have hne := hps.2.2
          simp only [decide_eq_true_eq] at hne
          have ht := jp_t_lt h
          refine br_f (jv_m1n _ (by omega)) ⟨vp_in_nI (by omega) (by omega), ?_⟩
          rw [nI_clamp (by omega)]
          refine nm_e (jx_dam1 (Y _ (Yr _ (br_f (nI_pos (by omega)) (jy_in (M := 15) (by omega) (fun _ _ _ => br_f (by decide) ?_) (fun hh => absurd ⟨i, hi, rfl⟩ hh))))))
          rw [jv_e64]
          refine ⟨vp_in_nI (by omega) (by omega), ?_⟩
          rw [nI_clamp (by omega)]
          have hnew := jp_name_I0 (i := i) hI2 ha hka ht hi hne
          have e1 : upd (jp_ro N) (64 * a + h) (nI i) = jp_ro (upd N (64 * a + jp_t h) (nI i)) := by
            rw [jp_ro_upd N a ht, jp_st (by omega)]
          rw [e1]
          exact nm_e (jy_dend hZ0 hnew.1 ⟨rfl, new _ _ _ _ _ _ _ hnew⟩)
      · subst e
        unfold wpY_nameWrong
        exact jy_is (fun _ _ _ _ => br_f (by decide) (jy_nameOf hN ha (nn _ hno))) (fun _ => br_t rfl (nn _ hno))
      · unfold wpY_nameWrong
        exact jy_is (fun a ha e hka => absurd ⟨a, ha, e, hka⟩ hno) (fun _ => br_t rfl (br_t (by decide) (yno _ ⟨rfl, I'⟩)))
    · -- an inode
      subst e
      unfold wpX_damageInode
      have Y : ∀ post : Int32 → SY → Prop, wpY_lose (fun r u => (r = 0 → jy_D post 0 u) ∧ (¬ r = 0 → jy_D post 1 u)) (0, 0, d, yh, yt, K, L, P, N, B, V, M, ok, ol, op, on, ob, ov, om, yc, yg, F, yq, U, T) v2 → wpY_damage post (0, 0, d, yh, yt, K, L, P, N, B, V, M, ok, ol, op, on, ob, ov, om, yc, yg, F, yq, U, T) 4 v2 v3 v4 := fun post h => br_t (by decide) (br_f (by decide) (br_f (by decide) (br_f (by decide) (br_f (by decide) (br_t rfl h)))))
      have Yn : (¬ ∃ j, j < 16 ∧ v2 = nI j ∧ j ≠ 0) → wpY_damage (fun r' v' => r' = 0 ∧ i_Rel (k + 5) (0, 0, d, xw, K, L, jp_pi K P, jp_ro N, B, M, V, bk, bl, bp, bn, bb, bm, bh, F, T, xq, U) v') (0, 0, d, yh, yt, K, L, P, N, B, V, M, ok, ol, op, on, ob, ov, om, yc, yg, F, yq, U, T) 4 v2 v3 v4 := by
        intro hno
        refine Y _ ?_
        unfold wpY_lose
        refine br_c (fun _ => br_t rfl (br_t rfl (yno _ ⟨rfl, I'⟩))) (fun q => br_c (fun _ => br_t rfl (br_t rfl (yno _ ⟨rfl, I'⟩))) (fun q2 => absurd ?_ hno))
        have q0 : ¬ v2 < 0 := fun z => q (Int32.lt_trans z (by decide))
        obtain ⟨j, hj, rfl⟩ := nI_of q0
        have a1 : 1 ≤ j := Nat.le_of_not_lt (fun z => q (nI_lt (b := 1) z (by omega)))
        have a2 : j ≤ 15 := Nat.le_of_not_lt (fun z => q2 (nI_lt (a := 15) z hj))
        exact ⟨j, by omega, rfl, by omega⟩
      refine jx_isInode (fun i hi e => br_f (by decide) ?_) (fun hno => br_t rfl (no _ (Yn (fun ⟨j, hj, e, _⟩ => hno ⟨j, hj, e⟩))))
      subst e
      have hv : vp_in (nI i) 16 := vp_in_nI hi (by omega)
      refine pk_eq i 0 (fun e0 => no _ (Yn ?_)) (fun e0 => ⟨hv, ?_⟩)
      · rintro ⟨j, hj, e, e1⟩
        exact e1 ((jv_inj e (by omega) (by omega)) ▸ e0)
      · rw [nI_clamp (n := i) (by omega)]
        refine br_c (fun k0 => no _ (Y _ ?_)) (fun k0 => jx_makeFree hi (jx_dam1 (Y _ (jy_lose hi e0 k0 (br_f (by decide) ?_)))))
        · unfold wpY_lose
          refine br_f (nI_nlt (b := 1) (by omega) (by omega)) (br_f (nI_nlt (a := 15) (by omega) (by omega)) (br_f (by decide) ⟨hv, ?_⟩))
          rw [nI_clamp (n := i) (by omega)]
          exact br_t k0 (br_t rfl (yno _ ⟨rfl, I'⟩))
        · have hnew := jp_gone_I0 (M' := M) hI2 hi e0 (fun j hj => (hZ.2.2.2 j hj).2)
          rw [jp_pi_gone, ← jp_ro_fl]
          exact jy_dend hZ0 hnew.1 ⟨rfl, new _ _ _ _ _ _ _ hnew⟩
  · refine br_f (nI_nle h (by omega)) ⟨rfl, I'⟩

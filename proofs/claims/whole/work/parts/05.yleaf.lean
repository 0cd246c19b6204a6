def jp_NR (N : Nat → Int32) : Prop := ∀ s, s < 1024 → N s = -1 ∨ ∃ i, i < 16 ∧ N s = nI i
def jp_en (N : Nat → Int32) (d : Nat) : Nat := jp_cn (fun n => decide (¬ N (64 * d + n) = -1)) 64
theorem jp_en_ro (N : Nat → Int32) (d : Nat) : jp_cn (fun h => decide (¬ jp_ro N (64 * d + h) = -1)) 64 = jp_en N d := by
  unfold jp_en
  rw [← jp_cn_t (fun n => decide (¬ N (64 * d + n) = -1))]
  exact jp_cn_congr (fun h hh => by rw [jp_ro_h N d hh])
theorem jp_neg {x : Int32} {n : Nat} (hn : n < 2 ^ 31) (h : x = -1 ∨ ∃ i, i < n ∧ x = nI i) : x < 0 ↔ x = -1 := by
  constructor
  · intro z
    rcases h with e | ⟨i, hi, e⟩
    · exact e
    · rw [e] at z; exact absurd z (nI_pos (by omega))
  · intro e; rw [e]; decide
theorem jp_nneg {x : Int32} {n : Nat} (hn : n < 2 ^ 31) (h : x = -1 ∨ ∃ i, i < n ∧ x = nI i) : 0 ≤ x ↔ ¬ x = -1 := by
  rw [← jp_neg hn h]
  exact ⟨fun a b => absurd b (Int32.not_lt.mpr a), fun a => Int32.not_lt.mp a⟩
/-- the reference's inner scan over the names: it acts at the one name whose hash is i -/
theorem jv_scan {σ : Type} (W : Nat → Nat → σ → Prop) (i : Nat) (hi : i < 64) (J : σ → Prop) (s0 : σ) (hx : ∀ n s, J s → W (n + 1) 64 s)
    (hn : ∀ n x s, x < 64 → jp_s x ≠ i → W n (x + 1) s → W (n + 1) x s) (hh : ∀ n, (∀ s', J s' → W n (jp_t i + 1) s') → W (n + 1) (jp_t i) s0) : ∃ n, W n 0 s0 := by
  have after : ∀ m x s, x + m = 64 → jp_t i < x → J s → W (m + 1) x s := by
    intro m
    induction m with
    | zero => intro x s h1 _ h3; rw [show x = 64 from by omega]; exact hx 0 s h3
    | succ m ih =>
      intro x s h1 h2 h3
      refine hn _ x s (by omega) (fun e => ?_) (ih (x + 1) s (by omega) (by omega) h3)
      have := jp_ts (n := x) (by omega)
      rw [e] at this
      omega
  have before : ∀ m x, x + m = 64 → x ≤ jp_t i → W (m + 1) x s0 := by
    intro m
    induction m with
    | zero => intro x h1 h2; have := jp_t_lt i; omega
    | succ m ih =>
      intro x h1 h2
      by_cases e : x = jp_t i
      · rw [e]; exact hh _ (fun s' hs => after m _ s' (by omega) (by omega) hs)
      · refine hn _ x s0 (by omega) (fun z => ?_) (ih (x + 1) (by omega) (by omega))
        have := jp_ts (n := x) (by omega)
        rw [z] at this
        omega
  exact ⟨65, before 64 0 rfl (Nat.zero_le _)⟩
section
variable {xr xs xd xw : Int32} {xk xl xp xn xb xm xh bk bl bp bn bb bm bh xf xt xq xu : Nat → Int32}
theorem jx_countEntries' {post : Int32 → Prop} {N : Nat → Int32} {d : Nat} (hd : d < 16) (h : post (nI (jp_en N d))) : wpX_countEntries post (xr, xs, xd, xw, xk, xl, xp, jp_ro N, xb, xm, xh, bk, bl, bp, bn, bb, bm, bh, xf, xt, xq, xu) (nI d) :=
  jx_countEntries hd (by rw [jp_en_ro]; exact h)
theorem jx_isFullDirectory' {post : Int32 → Prop} {N : Nat → Int32} {d : Nat} (hd : d < 16) (ht : 10 ≤ jp_en N d → post 1) (hf : jp_en N d < 10 → post 0) : wpX_isFullDirectory post (xr, xs, xd, xw, xk, xl, xp, jp_ro N, xb, xm, xh, bk, bl, bp, bn, bb, bm, bh, xf, xt, xq, xu) (nI d) :=
  jx_isFullDirectory hd (by rw [jp_en_ro]; exact ht) (by rw [jp_en_ro]; exact hf)
theorem jx_countNaming' {post : Int32 → Prop} {N : Nat → Int32} {p : Int32} (h : post (nI (jp_cn (fun s => decide (N s = p)) 1024))) : wpX_countNaming post (xr, xs, xd, xw, xk, xl, xp, jp_ro N, xb, xm, xh, bk, bl, bp, bn, bb, bm, bh, xf, xt, xq, xu) p :=
  jx_countNaming (by
    have e := jp_cn_rows (fun s => decide (N s = p)) 16
    have e2 : jp_cn (fun s => decide (jp_ro N s = p)) 1024 = jp_cn (fun s => decide (N s = p)) 1024 := e
    rw [e2]; exact h)
end
section
variable {yr ys yd yh yt : Int32} {yk yl yp yn yb yv ym ok ol op on ob ov om yc yg yf yq yu ye : Nat → Int32}
theorem jy_in {post : Int32 → Prop} {p : Int32} {M : Nat} (hM : M + 1 < 2 ^ 31) (ht : ∀ j, j < M + 1 → p = nI j → post 1) (hf : (¬ ∃ j, j < M + 1 ∧ p = nI j) → post 0) : wpY_in post p 0 (nI M) := by
  refine br_c (fun h => hf (jv_rn hM (Or.inl h))) (fun h => ?_)
  obtain ⟨j, hj, e⟩ := nI_of h
  subst e
  refine pk_lt M j (fun h2 => hf (jv_rn hM (Or.inr (nI_le h2 hj)))) (fun h2 => ht j (by omega) rfl)
theorem jy_is {post : Int32 → Prop} {p c : Int32} (ht : ∀ j, j < 16 → p = nI j → yk j = c → post 1) (hf : (¬ ∃ j, j < 16 ∧ p = nI j ∧ yk j = c) → post 0) : wpY_is post (yr, ys, yd, yh, yt, yk, yl, yp, yn, yb, yv, ym, ok, ol, op, on, ob, ov, om, yc, yg, yf, yq, yu, ye) p c := by
  unfold wpY_is
  refine jy_in (M := 15) (by omega) (fun j hj e => ?_) (fun hn => br_t rfl (hf (fun ⟨j, hj, e, _⟩ => hn ⟨j, hj, e⟩)))
  subst e
  refine br_f (by decide) ⟨vp_in_nI hj (by omega), ?_⟩
  rw [nI_clamp (by omega)]
  exact br_c (fun hk => ht j hj rfl hk) (fun hk => hf (fun ⟨i, hi, e, k⟩ => hk (by rw [jv_inj e (by omega) (by omega)]; exact k)))
theorem jy_entries {post : Int32 → Prop} {d : Nat} (hN : jp_NR yn) (hd : d < 16) (h : post (nI (jp_en yn d))) : wpY_entries post (yr, ys, yd, yh, yt, yk, yl, yp, yn, yb, yv, ym, ok, ol, op, on, ob, ov, om, yc, yg, yf, yq, yu, ye) (nI d) := by
  unfold wpY_entries
  refine nm_r (jv_c64 d) (jv_cnt (fun n s i => wY_entries_7 post (nI d) yr ys yd yh yt yk yl yp yn yb yv ym ok ol op on ob ov om yc yg yf yq yu ye n (nI s) (nI (64 * d + i))) (fun h => decide (¬ yn (64 * d + h) = -1)) 64 (fun n => br_t ?_ h) (fun n i s hi ht hf => br_f ?_ ⟨vp_in_nI (by omega) (by omega), ?_⟩))
  · rw [jv_d64]; exact nI_le (by omega) (by omega)
  · rw [jv_d64]; exact nI_ge (by omega) (by omega)
  · rw [nI_clamp (by omega), jp_neg (by omega) (hN (64 * d + i) (by omega))]
    exact br_c (fun hc => nm_r (nI_1 _) (hf (by simp [hc]))) (fun hc => nm_r (nI_1 _) (nm_r (nI_1 _) (ht (by simp [hc]))))
theorem jy_nameOf {post : Int32 → Prop} {d : Nat} {k : Int32} (hN : jp_NR yn) (hd : d < 16) (h : post (jp_ov (jp_kth (fun h => decide (¬ yn (64 * d + jp_t h) = -1)) k 64 0 0) (fun h => nI (jp_t h)))) : wpY_nameOf post (yr, ys, yd, yh, yt, yk, yl, yp, yn, yb, yv, ym, ok, ol, op, on, ob, ov, om, yc, yg, yf, yq, yu, ye) (nI d) k := by
  unfold wpY_nameOf
  have key : ∀ m i c, i + m = 64 → post (jp_ov (jp_kth (fun h => decide (¬ yn (64 * d + jp_t h) = -1)) k m i c) (fun h => nI (jp_t h))) → wY_nameOf_5 post (nI d) k yr ys yd yh yt yk yl yp yn yb yv ym ok ol op on ob ov om yc yg yf yq yu ye (m + 1) (nI c) (nI i) := by
    intro m
    induction m with
    | zero => intro i c hi h; exact br_t (nI_le (a := 64) (by omega) (by omega)) h
    | succ m ih =>
      intro i c hi h
      refine br_f (nI_ge (b := 64) (by omega) (by omega)) ?_
      have ht := jp_t_lt i
      refine jv_scan (σ := Nat) (fun n x s => wY_nameOf_15 post (wY_nameOf_5 post (nI d) k yr ys yd yh yt yk yl yp yn yb yv ym ok ol op on ob ov om yc yg yf yq yu ye (m + 1)) (nI d) k (nI i) yr ys yd yh yt yk yl yp yn yb yv ym ok ol op on ob ov om yc yg yf yq yu ye n (nI s) (nI x)) i (by omega) (fun s => wY_nameOf_5 post (nI d) k yr ys yd yh yt yk yl yp yn yb yv ym ok ol op on ob ov om yc yg yf yq yu ye (m + 1) (nI s) (nI (i + 1))) c (fun n s hJ => br_t (nI_le (a := 64) (by omega) (by omega)) (nm_r (nI_1 _) hJ)) (fun n x s hx hne ihx => br_f (nI_ge (b := 64) hx (by omega)) ⟨by decide, ?_⟩) (fun n hJ => br_f (nI_ge (b := 64) ht (by omega)) ⟨by decide, ?_⟩)
      · rw [jv_hash x hx]
        exact br_f (fun e => hne (jv_inj e (by have := jp_s_lt x; omega) (by omega))) (nm_r (nI_1 _) ihx)
      · rw [jv_hash _ ht, jp_st (by omega), jv_e64]
        refine br_t rfl ⟨vp_in_nI (by omega) (by omega), ?_⟩
        rw [nI_clamp (by omega), jp_nneg (by omega) (hN (64 * d + jp_t i) (by omega))]
        unfold jp_kth at h
        refine br_c (fun hc => br_c (fun hk => ?_) (fun hk => nm_r (nI_1 _) (nm_r (nI_1 _) (hJ _ (ih (i + 1) _ (by omega) ?_))))) (fun hc => nm_r (nI_1 _) (hJ _ (ih (i + 1) _ (by omega) ?_)))
        · rw [if_pos (by simp [hc]), if_pos hk] at h; exact h
        · rw [if_pos (by simp [hc]), if_neg hk] at h; exact h
        · rw [if_neg (by simpa using hc)] at h; exact h
  exact ⟨65, key 64 0 0 rfl h⟩
theorem jy_note {post : SY → Prop} {r : Nat} {c a b x z : Int32} (hr : r < 24) (h : post (nI (r + 1), ys, yd, yh, yt, yk, yl, yp, yn, yb, yv, ym, ok, ol, op, on, ob, ov, om, upd yc r c, upd (upd (upd (upd yg (4 * r) a) (4 * r + 1) b) (4 * r + 2) x) (4 * r + 3) z, yf, yq, yu, ye)) : wpY_note post (nI r, ys, yd, yh, yt, yk, yl, yp, yn, yb, yv, ym, ok, ol, op, on, ob, ov, om, yc, yg, yf, yq, yu, ye) c a b x z := by
  unfold wpY_note
  dsimp only
  have e : (4 : Int32) * nI r = nI (4 * r) := by rw [show (4 : Int32) = nI 4 from rfl, pk_mul]
  rw [e, show (1 : Int32) = nI 1 from rfl, show (2 : Int32) = nI 2 from rfl, show (3 : Int32) = nI 3 from rfl, nI_add, nI_add, nI_add, nI_clamp (n := r) (by omega), nI_clamp (n := 4 * r) (by omega), nI_clamp (n := 4 * r + 1) (by omega), nI_clamp (n := 4 * r + 2) (by omega), nI_clamp (n := 4 * r + 3) (by omega)]
  exact ⟨vp_in_nI (by omega) (by omega), nm_e ⟨vp_in_nI (by omega) (by omega), nm_e ⟨vp_in_nI (by omega) (by omega), nm_e ⟨vp_in_nI (by omega) (by omega), nm_e ⟨vp_in_nI (by omega) (by omega), nm_e (nm_r (nI_add r 1) h)⟩⟩⟩⟩⟩
theorem jy_unmap {post : SY → Prop} {k : Nat} (hk : k < 384) (hB : jp_BR yb) (h : post (yr, ys, yd, yh, yt, yk, yl, yp, yn, (jp_um k (yb, ym)).1, yv, (jp_um k (yb, ym)).2, ok, ol, op, on, ob, ov, om, yc, yg, yf, yq, yu, ye)) : wpY_unmap post (yr, ys, yd, yh, yt, yk, yl, yp, yn, yb, yv, ym, ok, ol, op, on, ob, ov, om, yc, yg, yf, yq, yu, ye) (nI k) := by
  unfold wpY_unmap
  refine ⟨vp_in_nI hk (by omega), ?_⟩
  rw [nI_clamp (by omega), jp_neg (by omega) (hB k hk)]
  unfold jp_um at h
  dsimp only at h
  refine br_c (fun hc => ⟨vp_in_nI hk (by omega), nm_e ?_⟩) (fun hc => ⟨vp_in_nI hk (by omega), ?_⟩)
  · rw [if_pos hc] at h
    rw [jp_upd_id _ _ _ hc]; exact h
  · rw [if_neg hc] at h
    rcases hB k hk with z | ⟨b, hb, z⟩
    · exact absurd z hc
    · exact ⟨by rw [z]; exact vp_in_nI hb (by omega), nm_e ⟨vp_in_nI hk (by omega), nm_e h⟩⟩
theorem jy_free {post : SY → Prop} {i : Nat} (hi : i < 16) (hB : jp_BR yb) (h : post (yr, ys, yd, yh, yt, upd yk i 0, upd yl i 0, yp, jp_fl yn (64 * i) 64 (-1), jp_fl yb (24 * i) 24 (-1), yv, (jp_uh (24 * i) 24 yb ym).2, ok, ol, op, on, ob, ov, om, yc, yg, yf, yq, yu, ye)) : wpY_free post (yr, ys, yd, yh, yt, yk, yl, yp, yn, yb, yv, ym, ok, ol, op, on, ob, ov, om, yc, yg, yf, yq, yu, ye) (nI i) := by
  unfold wpY_free
  refine ⟨vp_in_nI hi (by omega), ?_⟩
  rw [nI_clamp (by omega)]
  refine nm_e ⟨vp_in_nI hi (by omega), nm_e (nm_r (jv_c64 i) ?_)⟩
  refine pk_loop (σ := Nat → Int32) (fun n j s => wY_free_19 post (nI i) yr ys yd yh yt n (nI (64 * i + j)) (upd yk i 0) (upd yl i 0) yp s yb yv ym ok ol op on ob ov om yc yg yf yq yu ye) (fun j s => s = jp_fl yn (64 * i) j (-1)) 64 0 yn (by omega) (jp_fl_0 _ _ _).symm (fun n s hI => br_t ?_ (nm_r (jv_c24 i) ?_)) (fun n j s hj hI ih => br_f ?_ ⟨vp_in_nI (by omega) (by omega), ?_⟩)
  · rw [jv_d64]; exact nI_le (by omega) (by omega)
  · subst hI
    rw [← jp_uh_1 _ _ yb ym] at h
    refine jv_fold (σ := (Nat → Int32) × (Nat → Int32)) (fun n j s => wY_free_48 post (nI i) n (nI (24 * i + j)) yr ys yd yh yt (upd yk i 0) (upd yl i 0) yp (jp_fl yn (64 * i) 64 (-1)) (s.1) yv (s.2) ok ol op on ob ov om yc yg yf yq yu ye) (fun j s => jp_um (24 * i + j) s) 24 (yb, ym) (fun _ s => jp_BR s.1) hB (fun i s hi hJ => by rw [jp_um_1]; exact jp_BR_upd hJ _) (fun n => br_t ?_ h) (fun n j s hj hJ ih => br_f ?_ (jy_unmap (by omega) hJ (nm_r (nI_1 _) ih)))
    · rw [jv_d24]; exact nI_le (by omega) (by omega)
    · rw [jv_d24]; exact nI_ge (by omega) (by omega)
  · rw [jv_d64]; exact nI_ge (by omega) (by omega)
  · rw [nI_clamp (by omega)]
    exact nm_e (nm_r (nI_1 _) (ih _ (by rw [hI, jp_fl_s])))
theorem jy_cpo_kind {post : SY → Prop} (h : post (yr, ys, yd, yh, yt, yk, yl, yp, yn, yb, yv, ym, jp_cp ok 0 16 yk 0, ol, op, on, ob, ov, om, yc, yg, yf, yq, yu, ye)) : wpY_copy__kind_oldKind post (yr, ys, yd, yh, yt, yk, yl, yp, yn, yb, yv, ym, ok, ol, op, on, ob, ov, om, yc, yg, yf, yq, yu, ye) := by
  unfold wpY_copy__kind_oldKind
  refine pk_loop (σ := Nat → Int32) (fun n i s => wY_copy__kind_oldKind_2 post yr ys yd yh yt n (nI i) yk yl yp yn yb yv ym s ol op on ob ov om yc yg yf yq yu ye) (fun i s => s = jp_cp ok 0 i yk 0) 16 0 ok (by omega) (jp_cp_0 _ _ _ _).symm (fun n s hI => br_t (nI_le (a := 16) (by omega) (by omega)) (by rw [hI]; exact h)) (fun n i s hi hI ih => br_f (nI_ge (b := 16) hi (by omega)) ⟨vp_in_nI (by omega) (by omega), vp_in_nI (by omega) (by omega), ?_⟩)
  rw [nI_clamp (by omega)]
  exact nm_e (nm_r (nI_1 _) (ih _ (by rw [hI, ← jp_cp_s, Nat.zero_add])))
theorem jy_cpb_kind {post : SY → Prop} (h : post (yr, ys, yd, yh, yt, jp_cp yk 0 16 ok 0, yl, yp, yn, yb, yv, ym, ok, ol, op, on, ob, ov, om, yc, yg, yf, yq, yu, ye)) : wpY_copy__oldKind_kind post (yr, ys, yd, yh, yt, yk, yl, yp, yn, yb, yv, ym, ok, ol, op, on, ob, ov, om, yc, yg, yf, yq, yu, ye) := by
  unfold wpY_copy__oldKind_kind
  refine pk_loop (σ := Nat → Int32) (fun n i s => wY_copy__oldKind_kind_2 post yr ys yd yh yt n (nI i) s yl yp yn yb yv ym ok ol op on ob ov om yc yg yf yq yu ye) (fun i s => s = jp_cp yk 0 i ok 0) 16 0 yk (by omega) (jp_cp_0 _ _ _ _).symm (fun n s hI => br_t (nI_le (a := 16) (by omega) (by omega)) (by rw [hI]; exact h)) (fun n i s hi hI ih => br_f (nI_ge (b := 16) hi (by omega)) ⟨vp_in_nI (by omega) (by omega), vp_in_nI (by omega) (by omega), ?_⟩)
  rw [nI_clamp (by omega)]
  exact nm_e (nm_r (nI_1 _) (ih _ (by rw [hI, ← jp_cp_s, Nat.zero_add])))
theorem jy_cpo_links {post : SY → Prop} (h : post (yr, ys, yd, yh, yt, yk, yl, yp, yn, yb, yv, ym, ok, jp_cp ol 0 16 yl 0, op, on, ob, ov, om, yc, yg, yf, yq, yu, ye)) : wpY_copy__links_oldLinks post (yr, ys, yd, yh, yt, yk, yl, yp, yn, yb, yv, ym, ok, ol, op, on, ob, ov, om, yc, yg, yf, yq, yu, ye) := by
  unfold wpY_copy__links_oldLinks
  refine pk_loop (σ := Nat → Int32) (fun n i s => wY_copy__links_oldLinks_2 post yr ys yd yh yt n (nI i) yk yl yp yn yb yv ym ok s op on ob ov om yc yg yf yq yu ye) (fun i s => s = jp_cp ol 0 i yl 0) 16 0 ol (by omega) (jp_cp_0 _ _ _ _).symm (fun n s hI => br_t (nI_le (a := 16) (by omega) (by omega)) (by rw [hI]; exact h)) (fun n i s hi hI ih => br_f (nI_ge (b := 16) hi (by omega)) ⟨vp_in_nI (by omega) (by omega), vp_in_nI (by omega) (by omega), ?_⟩)
  rw [nI_clamp (by omega)]
  exact nm_e (nm_r (nI_1 _) (ih _ (by rw [hI, ← jp_cp_s, Nat.zero_add])))
theorem jy_cpb_links {post : SY → Prop} (h : post (yr, ys, yd, yh, yt, yk, jp_cp yl 0 16 ol 0, yp, yn, yb, yv, ym, ok, ol, op, on, ob, ov, om, yc, yg, yf, yq, yu, ye)) : wpY_copy__oldLinks_links post (yr, ys, yd, yh, yt, yk, yl, yp, yn, yb, yv, ym, ok, ol, op, on, ob, ov, om, yc, yg, yf, yq, yu, ye) := by
  unfold wpY_copy__oldLinks_links
  refine pk_loop (σ := Nat → Int32) (fun n i s => wY_copy__oldLinks_links_2 post yr ys yd yh yt n (nI i) yk s yp yn yb yv ym ok ol op on ob ov om yc yg yf yq yu ye) (fun i s => s = jp_cp yl 0 i ol 0) 16 0 yl (by omega) (jp_cp_0 _ _ _ _).symm (fun n s hI => br_t (nI_le (a := 16) (by omega) (by omega)) (by rw [hI]; exact h)) (fun n i s hi hI ih => br_f (nI_ge (b := 16) hi (by omega)) ⟨vp_in_nI (by omega) (by omega), vp_in_nI (by omega) (by omega), ?_⟩)
  rw [nI_clamp (by omega)]
  exact nm_e (nm_r (nI_1 _) (ih _ (by rw [hI, ← jp_cp_s, Nat.zero_add])))
theorem jy_cpo_parent {post : SY → Prop} (h : post (yr, ys, yd, yh, yt, yk, yl, yp, yn, yb, yv, ym, ok, ol, jp_cp op 0 16 yp 0, on, ob, ov, om, yc, yg, yf, yq, yu, ye)) : wpY_copy__parent_oldParent post (yr, ys, yd, yh, yt, yk, yl, yp, yn, yb, yv, ym, ok, ol, op, on, ob, ov, om, yc, yg, yf, yq, yu, ye) := by
  unfold wpY_copy__parent_oldParent
  refine pk_loop (σ := Nat → Int32) (fun n i s => wY_copy__parent_oldParent_2 post yr ys yd yh yt n (nI i) yk yl yp yn yb yv ym ok ol s on ob ov om yc yg yf yq yu ye) (fun i s => s = jp_cp op 0 i yp 0) 16 0 op (by omega) (jp_cp_0 _ _ _ _).symm (fun n s hI => br_t (nI_le (a := 16) (by omega) (by omega)) (by rw [hI]; exact h)) (fun n i s hi hI ih => br_f (nI_ge (b := 16) hi (by omega)) ⟨vp_in_nI (by omega) (by omega), vp_in_nI (by omega) (by omega), ?_⟩)
  rw [nI_clamp (by omega)]
  exact nm_e (nm_r (nI_1 _) (ih _ (by rw [hI, ← jp_cp_s, Nat.zero_add])))
theorem jy_cpb_parent {post : SY → Prop} (h : post (yr, ys, yd, yh, yt, yk, yl, jp_cp yp 0 16 op 0, yn, yb, yv, ym, ok, ol, op, on, ob, ov, om, yc, yg, yf, yq, yu, ye)) : wpY_copy__oldParent_parent post (yr, ys, yd, yh, yt, yk, yl, yp, yn, yb, yv, ym, ok, ol, op, on, ob, ov, om, yc, yg, yf, yq, yu, ye) := by
  unfold wpY_copy__oldParent_parent
  refine pk_loop (σ := Nat → Int32) (fun n i s => wY_copy__oldParent_parent_2 post yr ys yd yh yt n (nI i) yk yl s yn yb yv ym ok ol op on ob ov om yc yg yf yq yu ye) (fun i s => s = jp_cp yp 0 i op 0) 16 0 yp (by omega) (jp_cp_0 _ _ _ _).symm (fun n s hI => br_t (nI_le (a := 16) (by omega) (by omega)) (by rw [hI]; exact h)) (fun n i s hi hI ih => br_f (nI_ge (b := 16) hi (by omega)) ⟨vp_in_nI (by omega) (by omega), vp_in_nI (by omega) (by omega), ?_⟩)
  rw [nI_clamp (by omega)]
  exact nm_e (nm_r (nI_1 _) (ih _ (by rw [hI, ← jp_cp_s, Nat.zero_add])))
theorem jy_cpo_named {post : SY → Prop} (h : post (yr, ys, yd, yh, yt, yk, yl, yp, yn, yb, yv, ym, ok, ol, op, jp_cp on 0 1024 yn 0, ob, ov, om, yc, yg, yf, yq, yu, ye)) : wpY_copy__named_oldNamed post (yr, ys, yd, yh, yt, yk, yl, yp, yn, yb, yv, ym, ok, ol, op, on, ob, ov, om, yc, yg, yf, yq, yu, ye) := by
  unfold wpY_copy__named_oldNamed
  refine pk_loop (σ := Nat → Int32) (fun n i s => wY_copy__named_oldNamed_2 post yr ys yd yh yt n (nI i) yk yl yp yn yb yv ym ok ol op s ob ov om yc yg yf yq yu ye) (fun i s => s = jp_cp on 0 i yn 0) 1024 0 on (by omega) (jp_cp_0 _ _ _ _).symm (fun n s hI => br_t (nI_le (a := 1024) (by omega) (by omega)) (by rw [hI]; exact h)) (fun n i s hi hI ih => br_f (nI_ge (b := 1024) hi (by omega)) ⟨vp_in_nI (by omega) (by omega), vp_in_nI (by omega) (by omega), ?_⟩)
  rw [nI_clamp (by omega)]
  exact nm_e (nm_r (nI_1 _) (ih _ (by rw [hI, ← jp_cp_s, Nat.zero_add])))
theorem jy_cpb_named {post : SY → Prop} (h : post (yr, ys, yd, yh, yt, yk, yl, yp, jp_cp yn 0 1024 on 0, yb, yv, ym, ok, ol, op, on, ob, ov, om, yc, yg, yf, yq, yu, ye)) : wpY_copy__oldNamed_named post (yr, ys, yd, yh, yt, yk, yl, yp, yn, yb, yv, ym, ok, ol, op, on, ob, ov, om, yc, yg, yf, yq, yu, ye) := by
  unfold wpY_copy__oldNamed_named
  refine pk_loop (σ := Nat → Int32) (fun n i s => wY_copy__oldNamed_named_2 post yr ys yd yh yt n (nI i) yk yl yp s yb yv ym ok ol op on ob ov om yc yg yf yq yu ye) (fun i s => s = jp_cp yn 0 i on 0) 1024 0 yn (by omega) (jp_cp_0 _ _ _ _).symm (fun n s hI => br_t (nI_le (a := 1024) (by omega) (by omega)) (by rw [hI]; exact h)) (fun n i s hi hI ih => br_f (nI_ge (b := 1024) hi (by omega)) ⟨vp_in_nI (by omega) (by omega), vp_in_nI (by omega) (by omega), ?_⟩)
  rw [nI_clamp (by omega)]
  exact nm_e (nm_r (nI_1 _) (ih _ (by rw [hI, ← jp_cp_s, Nat.zero_add])))
theorem jy_cpo_block {post : SY → Prop} (h : post (yr, ys, yd, yh, yt, yk, yl, yp, yn, yb, yv, ym, ok, ol, op, on, jp_cp ob 0 384 yb 0, ov, om, yc, yg, yf, yq, yu, ye)) : wpY_copy__block_oldBlock post (yr, ys, yd, yh, yt, yk, yl, yp, yn, yb, yv, ym, ok, ol, op, on, ob, ov, om, yc, yg, yf, yq, yu, ye) := by
  unfold wpY_copy__block_oldBlock
  refine pk_loop (σ := Nat → Int32) (fun n i s => wY_copy__block_oldBlock_2 post yr ys yd yh yt n (nI i) yk yl yp yn yb yv ym ok ol op on s ov om yc yg yf yq yu ye) (fun i s => s = jp_cp ob 0 i yb 0) 384 0 ob (by omega) (jp_cp_0 _ _ _ _).symm (fun n s hI => br_t (nI_le (a := 384) (by omega) (by omega)) (by rw [hI]; exact h)) (fun n i s hi hI ih => br_f (nI_ge (b := 384) hi (by omega)) ⟨vp_in_nI (by omega) (by omega), vp_in_nI (by omega) (by omega), ?_⟩)
  rw [nI_clamp (by omega)]
  exact nm_e (nm_r (nI_1 _) (ih _ (by rw [hI, ← jp_cp_s, Nat.zero_add])))
theorem jy_cpb_block {post : SY → Prop} (h : post (yr, ys, yd, yh, yt, yk, yl, yp, yn, jp_cp yb 0 384 ob 0, yv, ym, ok, ol, op, on, ob, ov, om, yc, yg, yf, yq, yu, ye)) : wpY_copy__oldBlock_block post (yr, ys, yd, yh, yt, yk, yl, yp, yn, yb, yv, ym, ok, ol, op, on, ob, ov, om, yc, yg, yf, yq, yu, ye) := by
  unfold wpY_copy__oldBlock_block
  refine pk_loop (σ := Nat → Int32) (fun n i s => wY_copy__oldBlock_block_2 post yr ys yd yh yt n (nI i) yk yl yp yn s yv ym ok ol op on ob ov om yc yg yf yq yu ye) (fun i s => s = jp_cp yb 0 i ob 0) 384 0 yb (by omega) (jp_cp_0 _ _ _ _).symm (fun n s hI => br_t (nI_le (a := 384) (by omega) (by omega)) (by rw [hI]; exact h)) (fun n i s hi hI ih => br_f (nI_ge (b := 384) hi (by omega)) ⟨vp_in_nI (by omega) (by omega), vp_in_nI (by omega) (by omega), ?_⟩)
  rw [nI_clamp (by omega)]
  exact nm_e (nm_r (nI_1 _) (ih _ (by rw [hI, ← jp_cp_s, Nat.zero_add])))
theorem jy_cpo_value {post : SY → Prop} (h : post (yr, ys, yd, yh, yt, yk, yl, yp, yn, yb, yv, ym, ok, ol, op, on, ob, jp_cp ov 0 64 yv 0, om, yc, yg, yf, yq, yu, ye)) : wpY_copy__value_oldValue post (yr, ys, yd, yh, yt, yk, yl, yp, yn, yb, yv, ym, ok, ol, op, on, ob, ov, om, yc, yg, yf, yq, yu, ye) := by
  unfold wpY_copy__value_oldValue
  refine pk_loop (σ := Nat → Int32) (fun n i s => wY_copy__value_oldValue_2 post yr ys yd yh yt n (nI i) yk yl yp yn yb yv ym ok ol op on ob s om yc yg yf yq yu ye) (fun i s => s = jp_cp ov 0 i yv 0) 64 0 ov (by omega) (jp_cp_0 _ _ _ _).symm (fun n s hI => br_t (nI_le (a := 64) (by omega) (by omega)) (by rw [hI]; exact h)) (fun n i s hi hI ih => br_f (nI_ge (b := 64) hi (by omega)) ⟨vp_in_nI (by omega) (by omega), vp_in_nI (by omega) (by omega), ?_⟩)
  rw [nI_clamp (by omega)]
  exact nm_e (nm_r (nI_1 _) (ih _ (by rw [hI, ← jp_cp_s, Nat.zero_add])))
theorem jy_cpb_value {post : SY → Prop} (h : post (yr, ys, yd, yh, yt, yk, yl, yp, yn, yb, jp_cp yv 0 64 ov 0, ym, ok, ol, op, on, ob, ov, om, yc, yg, yf, yq, yu, ye)) : wpY_copy__oldValue_value post (yr, ys, yd, yh, yt, yk, yl, yp, yn, yb, yv, ym, ok, ol, op, on, ob, ov, om, yc, yg, yf, yq, yu, ye) := by
  unfold wpY_copy__oldValue_value
  refine pk_loop (σ := Nat → Int32) (fun n i s => wY_copy__oldValue_value_2 post yr ys yd yh yt n (nI i) yk yl yp yn yb s ym ok ol op on ob ov om yc yg yf yq yu ye) (fun i s => s = jp_cp yv 0 i ov 0) 64 0 yv (by omega) (jp_cp_0 _ _ _ _).symm (fun n s hI => br_t (nI_le (a := 64) (by omega) (by omega)) (by rw [hI]; exact h)) (fun n i s hi hI ih => br_f (nI_ge (b := 64) hi (by omega)) ⟨vp_in_nI (by omega) (by omega), vp_in_nI (by omega) (by omega), ?_⟩)
  rw [nI_clamp (by omega)]
  exact nm_e (nm_r (nI_1 _) (ih _ (by rw [hI, ← jp_cp_s, Nat.zero_add])))
theorem jy_cpo_mark {post : SY → Prop} (h : post (yr, ys, yd, yh, yt, yk, yl, yp, yn, yb, yv, ym, ok, ol, op, on, ob, ov, jp_cp om 0 64 ym 0, yc, yg, yf, yq, yu, ye)) : wpY_copy__mark_oldMark post (yr, ys, yd, yh, yt, yk, yl, yp, yn, yb, yv, ym, ok, ol, op, on, ob, ov, om, yc, yg, yf, yq, yu, ye) := by
  unfold wpY_copy__mark_oldMark
  refine pk_loop (σ := Nat → Int32) (fun n i s => wY_copy__mark_oldMark_2 post yr ys yd yh yt n (nI i) yk yl yp yn yb yv ym ok ol op on ob ov s yc yg yf yq yu ye) (fun i s => s = jp_cp om 0 i ym 0) 64 0 om (by omega) (jp_cp_0 _ _ _ _).symm (fun n s hI => br_t (nI_le (a := 64) (by omega) (by omega)) (by rw [hI]; exact h)) (fun n i s hi hI ih => br_f (nI_ge (b := 64) hi (by omega)) ⟨vp_in_nI (by omega) (by omega), vp_in_nI (by omega) (by omega), ?_⟩)
  rw [nI_clamp (by omega)]
  exact nm_e (nm_r (nI_1 _) (ih _ (by rw [hI, ← jp_cp_s, Nat.zero_add])))
theorem jy_cpb_mark {post : SY → Prop} (h : post (yr, ys, yd, yh, yt, yk, yl, yp, yn, yb, yv, jp_cp ym 0 64 om 0, ok, ol, op, on, ob, ov, om, yc, yg, yf, yq, yu, ye)) : wpY_copy__oldMark_mark post (yr, ys, yd, yh, yt, yk, yl, yp, yn, yb, yv, ym, ok, ol, op, on, ob, ov, om, yc, yg, yf, yq, yu, ye) := by
  unfold wpY_copy__oldMark_mark
  refine pk_loop (σ := Nat → Int32) (fun n i s => wY_copy__oldMark_mark_2 post yr ys yd yh yt n (nI i) yk yl yp yn yb yv s ok ol op on ob ov om yc yg yf yq yu ye) (fun i s => s = jp_cp ym 0 i om 0) 64 0 ym (by omega) (jp_cp_0 _ _ _ _).symm (fun n s hI => br_t (nI_le (a := 64) (by omega) (by omega)) (by rw [hI]; exact h)) (fun n i s hi hI ih => br_f (nI_ge (b := 64) hi (by omega)) ⟨vp_in_nI (by omega) (by omega), vp_in_nI (by omega) (by omega), ?_⟩)
  rw [nI_clamp (by omega)]
  exact nm_e (nm_r (nI_1 _) (ih _ (by rw [hI, ← jp_cp_s, Nat.zero_add])))
end

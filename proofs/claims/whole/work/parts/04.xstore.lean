section
variable {xr xs xd xw : Int32} {xk xl xp xn xb xm xh bk bl bp bn bb bm bh xf xt xq xu : Nat → Int32}
theorem jx_cpo_kind {post : SX → Prop} {r : Nat} (hr : r < 24) (h : post (xr, xs, xd, xw, xk, xl, xp, xn, xb, xm, xh, jp_cp bk (16 * r) 16 xk 0, bl, bp, bn, bb, bm, bh, xf, xt, xq, xu)) : wpX_copy__kind_kindBefore post (xr, xs, xd, xw, xk, xl, xp, xn, xb, xm, xh, bk, bl, bp, bn, bb, bm, bh, xf, xt, xq, xu) 0 (nI r * 16) 16 := by
  unfold wpX_copy__kind_kindBefore
  rw [show nI r * 16 = nI (16 * r) from by rw [show (16 : Int32) = nI 16 from rfl, pk_mul, Nat.mul_comm]]
  refine pk_loop (σ := Nat → Int32) (fun n i s => wX_copy__kind_kindBefore_3 post 0 (nI (16 * r)) 16 xr xs xd xw n (nI i) xk xl xp xn xb xm xh s bl bp bn bb bm bh xf xt xq xu) (fun i s => s = jp_cp bk (16 * r) i xk 0) 16 0 bk (by omega) (jp_cp_0 _ _ _ _).symm (fun n s hI => br_t (nI_le (a := 16) (by omega) (by omega)) (by rw [hI]; exact h)) (fun n i s hi hI ih => br_f (nI_ge (b := 16) hi (by omega)) ?_)
  rw [Int32.zero_add, nI_add]
  refine ⟨vp_in_nI (by omega) (by omega), vp_in_nI (by omega) (by omega), ?_⟩
  rw [nI_clamp (by omega), nI_clamp (by omega)]
  exact nm_e (nm_r (nI_1 _) (ih _ (by rw [hI, ← jp_cp_s, Nat.zero_add])))
theorem jx_cpb_kind {post : SX → Prop} {r : Nat} (hr : r < 24) (h : post (xr, xs, xd, xw, jp_cp xk 0 16 bk (16 * r), xl, xp, xn, xb, xm, xh, bk, bl, bp, bn, bb, bm, bh, xf, xt, xq, xu)) : wpX_copy__kindBefore_kind post (xr, xs, xd, xw, xk, xl, xp, xn, xb, xm, xh, bk, bl, bp, bn, bb, bm, bh, xf, xt, xq, xu) (nI r * 16) 0 16 := by
  unfold wpX_copy__kindBefore_kind
  rw [show nI r * 16 = nI (16 * r) from by rw [show (16 : Int32) = nI 16 from rfl, pk_mul, Nat.mul_comm]]
  refine pk_loop (σ := Nat → Int32) (fun n i s => wX_copy__kindBefore_kind_3 post (nI (16 * r)) 0 16 xr xs xd xw n (nI i) s xl xp xn xb xm xh bk bl bp bn bb bm bh xf xt xq xu) (fun i s => s = jp_cp xk 0 i bk (16 * r)) 16 0 xk (by omega) (jp_cp_0 _ _ _ _).symm (fun n s hI => br_t (nI_le (a := 16) (by omega) (by omega)) (by rw [hI]; exact h)) (fun n i s hi hI ih => br_f (nI_ge (b := 16) hi (by omega)) ?_)
  rw [Int32.zero_add, nI_add]
  refine ⟨vp_in_nI (by omega) (by omega), vp_in_nI (by omega) (by omega), ?_⟩
  rw [nI_clamp (by omega), nI_clamp (by omega)]
  exact nm_e (nm_r (nI_1 _) (ih _ (by rw [hI, ← jp_cp_s, Nat.zero_add])))
theorem jx_cpo_links {post : SX → Prop} {r : Nat} (hr : r < 24) (h : post (xr, xs, xd, xw, xk, xl, xp, xn, xb, xm, xh, bk, jp_cp bl (16 * r) 16 xl 0, bp, bn, bb, bm, bh, xf, xt, xq, xu)) : wpX_copy__links_linksBefore post (xr, xs, xd, xw, xk, xl, xp, xn, xb, xm, xh, bk, bl, bp, bn, bb, bm, bh, xf, xt, xq, xu) 0 (nI r * 16) 16 := by
  unfold wpX_copy__links_linksBefore
  rw [show nI r * 16 = nI (16 * r) from by rw [show (16 : Int32) = nI 16 from rfl, pk_mul, Nat.mul_comm]]
  refine pk_loop (σ := Nat → Int32) (fun n i s => wX_copy__links_linksBefore_3 post 0 (nI (16 * r)) 16 xr xs xd xw n (nI i) xk xl xp xn xb xm xh bk s bp bn bb bm bh xf xt xq xu) (fun i s => s = jp_cp bl (16 * r) i xl 0) 16 0 bl (by omega) (jp_cp_0 _ _ _ _).symm (fun n s hI => br_t (nI_le (a := 16) (by omega) (by omega)) (by rw [hI]; exact h)) (fun n i s hi hI ih => br_f (nI_ge (b := 16) hi (by omega)) ?_)
  rw [Int32.zero_add, nI_add]
  refine ⟨vp_in_nI (by omega) (by omega), vp_in_nI (by omega) (by omega), ?_⟩
  rw [nI_clamp (by omega), nI_clamp (by omega)]
  exact nm_e (nm_r (nI_1 _) (ih _ (by rw [hI, ← jp_cp_s, Nat.zero_add])))
theorem jx_cpb_links {post : SX → Prop} {r : Nat} (hr : r < 24) (h : post (xr, xs, xd, xw, xk, jp_cp xl 0 16 bl (16 * r), xp, xn, xb, xm, xh, bk, bl, bp, bn, bb, bm, bh, xf, xt, xq, xu)) : wpX_copy__linksBefore_links post (xr, xs, xd, xw, xk, xl, xp, xn, xb, xm, xh, bk, bl, bp, bn, bb, bm, bh, xf, xt, xq, xu) (nI r * 16) 0 16 := by
  unfold wpX_copy__linksBefore_links
  rw [show nI r * 16 = nI (16 * r) from by rw [show (16 : Int32) = nI 16 from rfl, pk_mul, Nat.mul_comm]]
  refine pk_loop (σ := Nat → Int32) (fun n i s => wX_copy__linksBefore_links_3 post (nI (16 * r)) 0 16 xr xs xd xw n (nI i) xk s xp xn xb xm xh bk bl bp bn bb bm bh xf xt xq xu) (fun i s => s = jp_cp xl 0 i bl (16 * r)) 16 0 xl (by omega) (jp_cp_0 _ _ _ _).symm (fun n s hI => br_t (nI_le (a := 16) (by omega) (by omega)) (by rw [hI]; exact h)) (fun n i s hi hI ih => br_f (nI_ge (b := 16) hi (by omega)) ?_)
  rw [Int32.zero_add, nI_add]
  refine ⟨vp_in_nI (by omega) (by omega), vp_in_nI (by omega) (by omega), ?_⟩
  rw [nI_clamp (by omega), nI_clamp (by omega)]
  exact nm_e (nm_r (nI_1 _) (ih _ (by rw [hI, ← jp_cp_s, Nat.zero_add])))
theorem jx_cpo_parent {post : SX → Prop} {r : Nat} (hr : r < 24) (h : post (xr, xs, xd, xw, xk, xl, xp, xn, xb, xm, xh, bk, bl, jp_cp bp (16 * r) 16 xp 0, bn, bb, bm, bh, xf, xt, xq, xu)) : wpX_copy__parent_parentBefore post (xr, xs, xd, xw, xk, xl, xp, xn, xb, xm, xh, bk, bl, bp, bn, bb, bm, bh, xf, xt, xq, xu) 0 (nI r * 16) 16 := by
  unfold wpX_copy__parent_parentBefore
  rw [show nI r * 16 = nI (16 * r) from by rw [show (16 : Int32) = nI 16 from rfl, pk_mul, Nat.mul_comm]]
  refine pk_loop (σ := Nat → Int32) (fun n i s => wX_copy__parent_parentBefore_3 post 0 (nI (16 * r)) 16 xr xs xd xw n (nI i) xk xl xp xn xb xm xh bk bl s bn bb bm bh xf xt xq xu) (fun i s => s = jp_cp bp (16 * r) i xp 0) 16 0 bp (by omega) (jp_cp_0 _ _ _ _).symm (fun n s hI => br_t (nI_le (a := 16) (by omega) (by omega)) (by rw [hI]; exact h)) (fun n i s hi hI ih => br_f (nI_ge (b := 16) hi (by omega)) ?_)
  rw [Int32.zero_add, nI_add]
  refine ⟨vp_in_nI (by omega) (by omega), vp_in_nI (by omega) (by omega), ?_⟩
  rw [nI_clamp (by omega), nI_clamp (by omega)]
  exact nm_e (nm_r (nI_1 _) (ih _ (by rw [hI, ← jp_cp_s, Nat.zero_add])))
theorem jx_cpb_parent {post : SX → Prop} {r : Nat} (hr : r < 24) (h : post (xr, xs, xd, xw, xk, xl, jp_cp xp 0 16 bp (16 * r), xn, xb, xm, xh, bk, bl, bp, bn, bb, bm, bh, xf, xt, xq, xu)) : wpX_copy__parentBefore_parent post (xr, xs, xd, xw, xk, xl, xp, xn, xb, xm, xh, bk, bl, bp, bn, bb, bm, bh, xf, xt, xq, xu) (nI r * 16) 0 16 := by
  unfold wpX_copy__parentBefore_parent
  rw [show nI r * 16 = nI (16 * r) from by rw [show (16 : Int32) = nI 16 from rfl, pk_mul, Nat.mul_comm]]
  refine pk_loop (σ := Nat → Int32) (fun n i s => wX_copy__parentBefore_parent_3 post (nI (16 * r)) 0 16 xr xs xd xw n (nI i) xk xl s xn xb xm xh bk bl bp bn bb bm bh xf xt xq xu) (fun i s => s = jp_cp xp 0 i bp (16 * r)) 16 0 xp (by omega) (jp_cp_0 _ _ _ _).symm (fun n s hI => br_t (nI_le (a := 16) (by omega) (by omega)) (by rw [hI]; exact h)) (fun n i s hi hI ih => br_f (nI_ge (b := 16) hi (by omega)) ?_)
  rw [Int32.zero_add, nI_add]
  refine ⟨vp_in_nI (by omega) (by omega), vp_in_nI (by omega) (by omega), ?_⟩
  rw [nI_clamp (by omega), nI_clamp (by omega)]
  exact nm_e (nm_r (nI_1 _) (ih _ (by rw [hI, ← jp_cp_s, Nat.zero_add])))
theorem jx_cpo_named {post : SX → Prop} {r : Nat} (hr : r < 24) (h : post (xr, xs, xd, xw, xk, xl, xp, xn, xb, xm, xh, bk, bl, bp, jp_cp bn (1024 * r) 1024 xn 0, bb, bm, bh, xf, xt, xq, xu)) : wpX_copy__named_namedBefore post (xr, xs, xd, xw, xk, xl, xp, xn, xb, xm, xh, bk, bl, bp, bn, bb, bm, bh, xf, xt, xq, xu) 0 (nI r * 1024) 1024 := by
  unfold wpX_copy__named_namedBefore
  rw [show nI r * 1024 = nI (1024 * r) from by rw [show (1024 : Int32) = nI 1024 from rfl, pk_mul, Nat.mul_comm]]
  refine pk_loop (σ := Nat → Int32) (fun n i s => wX_copy__named_namedBefore_3 post 0 (nI (1024 * r)) 1024 xr xs xd xw n (nI i) xk xl xp xn xb xm xh bk bl bp s bb bm bh xf xt xq xu) (fun i s => s = jp_cp bn (1024 * r) i xn 0) 1024 0 bn (by omega) (jp_cp_0 _ _ _ _).symm (fun n s hI => br_t (nI_le (a := 1024) (by omega) (by omega)) (by rw [hI]; exact h)) (fun n i s hi hI ih => br_f (nI_ge (b := 1024) hi (by omega)) ?_)
  rw [Int32.zero_add, nI_add]
  refine ⟨vp_in_nI (by omega) (by omega), vp_in_nI (by omega) (by omega), ?_⟩
  rw [nI_clamp (by omega), nI_clamp (by omega)]
  exact nm_e (nm_r (nI_1 _) (ih _ (by rw [hI, ← jp_cp_s, Nat.zero_add])))
theorem jx_cpb_named {post : SX → Prop} {r : Nat} (hr : r < 24) (h : post (xr, xs, xd, xw, xk, xl, xp, jp_cp xn 0 1024 bn (1024 * r), xb, xm, xh, bk, bl, bp, bn, bb, bm, bh, xf, xt, xq, xu)) : wpX_copy__namedBefore_named post (xr, xs, xd, xw, xk, xl, xp, xn, xb, xm, xh, bk, bl, bp, bn, bb, bm, bh, xf, xt, xq, xu) (nI r * 1024) 0 1024 := by
  unfold wpX_copy__namedBefore_named
  rw [show nI r * 1024 = nI (1024 * r) from by rw [show (1024 : Int32) = nI 1024 from rfl, pk_mul, Nat.mul_comm]]
  refine pk_loop (σ := Nat → Int32) (fun n i s => wX_copy__namedBefore_named_3 post (nI (1024 * r)) 0 1024 xr xs xd xw n (nI i) xk xl xp s xb xm xh bk bl bp bn bb bm bh xf xt xq xu) (fun i s => s = jp_cp xn 0 i bn (1024 * r)) 1024 0 xn (by omega) (jp_cp_0 _ _ _ _).symm (fun n s hI => br_t (nI_le (a := 1024) (by omega) (by omega)) (by rw [hI]; exact h)) (fun n i s hi hI ih => br_f (nI_ge (b := 1024) hi (by omega)) ?_)
  rw [Int32.zero_add, nI_add]
  refine ⟨vp_in_nI (by omega) (by omega), vp_in_nI (by omega) (by omega), ?_⟩
  rw [nI_clamp (by omega), nI_clamp (by omega)]
  exact nm_e (nm_r (nI_1 _) (ih _ (by rw [hI, ← jp_cp_s, Nat.zero_add])))
theorem jx_cpo_mapped {post : SX → Prop} {r : Nat} (hr : r < 24) (h : post (xr, xs, xd, xw, xk, xl, xp, xn, xb, xm, xh, bk, bl, bp, bn, jp_cp bb (384 * r) 384 xb 0, bm, bh, xf, xt, xq, xu)) : wpX_copy__mapped_mappedBefore post (xr, xs, xd, xw, xk, xl, xp, xn, xb, xm, xh, bk, bl, bp, bn, bb, bm, bh, xf, xt, xq, xu) 0 (nI r * 384) 384 := by
  unfold wpX_copy__mapped_mappedBefore
  rw [show nI r * 384 = nI (384 * r) from by rw [show (384 : Int32) = nI 384 from rfl, pk_mul, Nat.mul_comm]]
  refine pk_loop (σ := Nat → Int32) (fun n i s => wX_copy__mapped_mappedBefore_3 post 0 (nI (384 * r)) 384 xr xs xd xw n (nI i) xk xl xp xn xb xm xh bk bl bp bn s bm bh xf xt xq xu) (fun i s => s = jp_cp bb (384 * r) i xb 0) 384 0 bb (by omega) (jp_cp_0 _ _ _ _).symm (fun n s hI => br_t (nI_le (a := 384) (by omega) (by omega)) (by rw [hI]; exact h)) (fun n i s hi hI ih => br_f (nI_ge (b := 384) hi (by omega)) ?_)
  rw [Int32.zero_add, nI_add]
  refine ⟨vp_in_nI (by omega) (by omega), vp_in_nI (by omega) (by omega), ?_⟩
  rw [nI_clamp (by omega), nI_clamp (by omega)]
  exact nm_e (nm_r (nI_1 _) (ih _ (by rw [hI, ← jp_cp_s, Nat.zero_add])))
theorem jx_cpb_mapped {post : SX → Prop} {r : Nat} (hr : r < 24) (h : post (xr, xs, xd, xw, xk, xl, xp, xn, jp_cp xb 0 384 bb (384 * r), xm, xh, bk, bl, bp, bn, bb, bm, bh, xf, xt, xq, xu)) : wpX_copy__mappedBefore_mapped post (xr, xs, xd, xw, xk, xl, xp, xn, xb, xm, xh, bk, bl, bp, bn, bb, bm, bh, xf, xt, xq, xu) (nI r * 384) 0 384 := by
  unfold wpX_copy__mappedBefore_mapped
  rw [show nI r * 384 = nI (384 * r) from by rw [show (384 : Int32) = nI 384 from rfl, pk_mul, Nat.mul_comm]]
  refine pk_loop (σ := Nat → Int32) (fun n i s => wX_copy__mappedBefore_mapped_3 post (nI (384 * r)) 0 384 xr xs xd xw n (nI i) xk xl xp xn s xm xh bk bl bp bn bb bm bh xf xt xq xu) (fun i s => s = jp_cp xb 0 i bb (384 * r)) 384 0 xb (by omega) (jp_cp_0 _ _ _ _).symm (fun n s hI => br_t (nI_le (a := 384) (by omega) (by omega)) (by rw [hI]; exact h)) (fun n i s hi hI ih => br_f (nI_ge (b := 384) hi (by omega)) ?_)
  rw [Int32.zero_add, nI_add]
  refine ⟨vp_in_nI (by omega) (by omega), vp_in_nI (by omega) (by omega), ?_⟩
  rw [nI_clamp (by omega), nI_clamp (by omega)]
  exact nm_e (nm_r (nI_1 _) (ih _ (by rw [hI, ← jp_cp_s, Nat.zero_add])))
theorem jx_cpo_marked {post : SX → Prop} {r : Nat} (hr : r < 24) (h : post (xr, xs, xd, xw, xk, xl, xp, xn, xb, xm, xh, bk, bl, bp, bn, bb, jp_cp bm (64 * r) 64 xm 0, bh, xf, xt, xq, xu)) : wpX_copy__marked_markedBefore post (xr, xs, xd, xw, xk, xl, xp, xn, xb, xm, xh, bk, bl, bp, bn, bb, bm, bh, xf, xt, xq, xu) 0 (nI r * 64) 64 := by
  unfold wpX_copy__marked_markedBefore
  rw [show nI r * 64 = nI (64 * r) from by rw [show (64 : Int32) = nI 64 from rfl, pk_mul, Nat.mul_comm]]
  refine pk_loop (σ := Nat → Int32) (fun n i s => wX_copy__marked_markedBefore_3 post 0 (nI (64 * r)) 64 xr xs xd xw n (nI i) xk xl xp xn xb xm xh bk bl bp bn bb s bh xf xt xq xu) (fun i s => s = jp_cp bm (64 * r) i xm 0) 64 0 bm (by omega) (jp_cp_0 _ _ _ _).symm (fun n s hI => br_t (nI_le (a := 64) (by omega) (by omega)) (by rw [hI]; exact h)) (fun n i s hi hI ih => br_f (nI_ge (b := 64) hi (by omega)) ?_)
  rw [Int32.zero_add, nI_add]
  refine ⟨vp_in_nI (by omega) (by omega), vp_in_nI (by omega) (by omega), ?_⟩
  rw [nI_clamp (by omega), nI_clamp (by omega)]
  exact nm_e (nm_r (nI_1 _) (ih _ (by rw [hI, ← jp_cp_s, Nat.zero_add])))
theorem jx_cpb_marked {post : SX → Prop} {r : Nat} (hr : r < 24) (h : post (xr, xs, xd, xw, xk, xl, xp, xn, xb, jp_cp xm 0 64 bm (64 * r), xh, bk, bl, bp, bn, bb, bm, bh, xf, xt, xq, xu)) : wpX_copy__markedBefore_marked post (xr, xs, xd, xw, xk, xl, xp, xn, xb, xm, xh, bk, bl, bp, bn, bb, bm, bh, xf, xt, xq, xu) (nI r * 64) 0 64 := by
  unfold wpX_copy__markedBefore_marked
  rw [show nI r * 64 = nI (64 * r) from by rw [show (64 : Int32) = nI 64 from rfl, pk_mul, Nat.mul_comm]]
  refine pk_loop (σ := Nat → Int32) (fun n i s => wX_copy__markedBefore_marked_3 post (nI (64 * r)) 0 64 xr xs xd xw n (nI i) xk xl xp xn xb s xh bk bl bp bn bb bm bh xf xt xq xu) (fun i s => s = jp_cp xm 0 i bm (64 * r)) 64 0 xm (by omega) (jp_cp_0 _ _ _ _).symm (fun n s hI => br_t (nI_le (a := 64) (by omega) (by omega)) (by rw [hI]; exact h)) (fun n i s hi hI ih => br_f (nI_ge (b := 64) hi (by omega)) ?_)
  rw [Int32.zero_add, nI_add]
  refine ⟨vp_in_nI (by omega) (by omega), vp_in_nI (by omega) (by omega), ?_⟩
  rw [nI_clamp (by omega), nI_clamp (by omega)]
  exact nm_e (nm_r (nI_1 _) (ih _ (by rw [hI, ← jp_cp_s, Nat.zero_add])))
theorem jx_cpo_held {post : SX → Prop} {r : Nat} (hr : r < 24) (h : post (xr, xs, xd, xw, xk, xl, xp, xn, xb, xm, xh, bk, bl, bp, bn, bb, bm, jp_cp bh (64 * r) 64 xh 0, xf, xt, xq, xu)) : wpX_copy__held_heldBefore post (xr, xs, xd, xw, xk, xl, xp, xn, xb, xm, xh, bk, bl, bp, bn, bb, bm, bh, xf, xt, xq, xu) 0 (nI r * 64) 64 := by
  unfold wpX_copy__held_heldBefore
  rw [show nI r * 64 = nI (64 * r) from by rw [show (64 : Int32) = nI 64 from rfl, pk_mul, Nat.mul_comm]]
  refine pk_loop (σ := Nat → Int32) (fun n i s => wX_copy__held_heldBefore_3 post 0 (nI (64 * r)) 64 xr xs xd xw n (nI i) xk xl xp xn xb xm xh bk bl bp bn bb bm s xf xt xq xu) (fun i s => s = jp_cp bh (64 * r) i xh 0) 64 0 bh (by omega) (jp_cp_0 _ _ _ _).symm (fun n s hI => br_t (nI_le (a := 64) (by omega) (by omega)) (by rw [hI]; exact h)) (fun n i s hi hI ih => br_f (nI_ge (b := 64) hi (by omega)) ?_)
  rw [Int32.zero_add, nI_add]
  refine ⟨vp_in_nI (by omega) (by omega), vp_in_nI (by omega) (by omega), ?_⟩
  rw [nI_clamp (by omega), nI_clamp (by omega)]
  exact nm_e (nm_r (nI_1 _) (ih _ (by rw [hI, ← jp_cp_s, Nat.zero_add])))
theorem jx_cpb_held {post : SX → Prop} {r : Nat} (hr : r < 24) (h : post (xr, xs, xd, xw, xk, xl, xp, xn, xb, xm, jp_cp xh 0 64 bh (64 * r), bk, bl, bp, bn, bb, bm, bh, xf, xt, xq, xu)) : wpX_copy__heldBefore_held post (xr, xs, xd, xw, xk, xl, xp, xn, xb, xm, xh, bk, bl, bp, bn, bb, bm, bh, xf, xt, xq, xu) (nI r * 64) 0 64 := by
  unfold wpX_copy__heldBefore_held
  rw [show nI r * 64 = nI (64 * r) from by rw [show (64 : Int32) = nI 64 from rfl, pk_mul, Nat.mul_comm]]
  refine pk_loop (σ := Nat → Int32) (fun n i s => wX_copy__heldBefore_held_3 post (nI (64 * r)) 0 64 xr xs xd xw n (nI i) xk xl xp xn xb xm s bk bl bp bn bb bm bh xf xt xq xu) (fun i s => s = jp_cp xh 0 i bh (64 * r)) 64 0 xh (by omega) (jp_cp_0 _ _ _ _).symm (fun n s hI => br_t (nI_le (a := 64) (by omega) (by omega)) (by rw [hI]; exact h)) (fun n i s hi hI ih => br_f (nI_ge (b := 64) hi (by omega)) ?_)
  rw [Int32.zero_add, nI_add]
  refine ⟨vp_in_nI (by omega) (by omega), vp_in_nI (by omega) (by omega), ?_⟩
  rw [nI_clamp (by omega), nI_clamp (by omega)]
  exact nm_e (nm_r (nI_1 _) (ih _ (by rw [hI, ← jp_cp_s, Nat.zero_add])))
theorem jx_openRecord {post : SX → Prop} {r : Nat} (hr : r < 24) (h : post (nI (r + 1), xs, xd, xw, xk, xl, xp, xn, xb, xm, xh, jp_cp bk (16 * r) 16 xk 0, jp_cp bl (16 * r) 16 xl 0, jp_cp bp (16 * r) 16 xp 0, jp_cp bn (1024 * r) 1024 xn 0, jp_cp bb (384 * r) 384 xb 0, jp_cp bm (64 * r) 64 xm 0, jp_cp bh (64 * r) 64 xh 0, xf, xt, xq, xu)) : wpX_openRecord post (nI r, xs, xd, xw, xk, xl, xp, xn, xb, xm, xh, bk, bl, bp, bn, bb, bm, bh, xf, xt, xq, xu) := by
  unfold wpX_openRecord
  refine jx_cpo_kind hr ?_
  refine jx_cpo_links hr ?_
  refine jx_cpo_parent hr ?_
  refine jx_cpo_named hr ?_
  refine jx_cpo_mapped hr ?_
  refine jx_cpo_marked hr ?_
  refine jx_cpo_held hr ?_
  exact nm_r (nI_1 r) h
theorem jx_loseRecordsBehind {post : SX → Prop} {r : Nat} (hr : r < 24) (h : post (nI r, xs, xd, xw, jp_cp xk 0 16 bk (16 * r), jp_cp xl 0 16 bl (16 * r), jp_cp xp 0 16 bp (16 * r), jp_cp xn 0 1024 bn (1024 * r), jp_cp xb 0 384 bb (384 * r), jp_cp xm 0 64 bm (64 * r), jp_cp xh 0 64 bh (64 * r), bk, bl, bp, bn, bb, bm, bh, xf, xt, xq, xu)) : wpX_loseRecordsBehind post (xr, xs, xd, xw, xk, xl, xp, xn, xb, xm, xh, bk, bl, bp, bn, bb, bm, bh, xf, xt, xq, xu) (nI r) := by
  unfold wpX_loseRecordsBehind
  refine jx_cpb_kind hr ?_
  refine jx_cpb_links hr ?_
  refine jx_cpb_parent hr ?_
  refine jx_cpb_named hr ?_
  refine jx_cpb_mapped hr ?_
  refine jx_cpb_marked hr ?_
  refine jx_cpb_held hr ?_
  exact h
/-! what becomes FREE, what becomes a hole -/
theorem jx_makeFree {post : SX → Prop} {i : Nat} (hi : i < 16) (h : post (xr, xs, xd, xw, upd xk i 0, upd xl i 0, upd xp i 0, jp_fl xn (64 * i) 64 (-1), jp_fl xb (24 * i) 24 (-1), xm, xh, bk, bl, bp, bn, bb, bm, bh, xf, xt, xq, xu)) : wpX_makeFree post (xr, xs, xd, xw, xk, xl, xp, xn, xb, xm, xh, bk, bl, bp, bn, bb, bm, bh, xf, xt, xq, xu) (nI i) := by
  unfold wpX_makeFree
  refine ⟨vp_in_nI hi (by omega), ?_⟩
  rw [nI_clamp (by omega)]
  refine nm_e ⟨vp_in_nI hi (by omega), nm_e ⟨vp_in_nI hi (by omega), nm_e (nm_r (jv_a64 i) ?_)⟩⟩
  refine pk_loop (σ := Nat → Int32) (fun n j s => wX_makeFree_26 post (nI i) xr xs xd xw n (nI (64 * i + j)) (upd xk i 0) (upd xl i 0) (upd xp i 0) s xb xm xh bk bl bp bn bb bm bh xf xt xq xu) (fun j s => s = jp_fl xn (64 * i) j (-1)) 64 0 xn (by omega) (jp_fl_0 _ _ _).symm (fun n s hI => br_t ?_ (nm_r (jv_a24 i) ?_)) (fun n j s hj hI ih => br_f ?_ ⟨vp_in_nI (by omega) (by omega), ?_⟩)
  · rw [jv_b64]; exact nI_le (by omega) (by omega)
  · subst hI
    refine pk_loop (σ := Nat → Int32) (fun n j s => wX_makeFree_54 post (nI i) xr xs xd xw n (nI (24 * i + j)) (upd xk i 0) (upd xl i 0) (upd xp i 0) (jp_fl xn (64 * i) 64 (-1)) s xm xh bk bl bp bn bb bm bh xf xt xq xu) (fun j s => s = jp_fl xb (24 * i) j (-1)) 24 0 xb (by omega) (jp_fl_0 _ _ _).symm (fun n s hI => br_t ?_ (by rw [hI]; exact h)) (fun n j s hj hI ih => br_f ?_ ⟨vp_in_nI (by omega) (by omega), ?_⟩)
    · rw [jv_b24]; exact nI_le (by omega) (by omega)
    · rw [jv_b24]; exact nI_ge (by omega) (by omega)
    · rw [nI_clamp (by omega)]
      exact nm_e (nm_r (nI_1 _) (ih _ (by rw [hI, jp_fl_s])))
  · rw [jv_b64]; exact nI_ge (by omega) (by omega)
  · rw [nI_clamp (by omega)]
    exact nm_e (nm_r (nI_1 _) (ih _ (by rw [hI, jp_fl_s])))
end
/-! a fold that unmaps positions: the map and the marks -/
def jp_um (k : Nat) (s : (Nat → Int32) × (Nat → Int32)) : (Nat → Int32) × (Nat → Int32) := if s.1 k = -1 then s else (upd s.1 k (-1), upd s.2 (s.1 k).toNatClampNeg 0)
def jp_uh (lo n : Nat) (B M : Nat → Int32) : (Nat → Int32) × (Nat → Int32) := jp_fd (fun i s => jp_um (lo + i) s) n (B, M)
def jp_BR (B : Nat → Int32) : Prop := ∀ s, s < 384 → B s = -1 ∨ ∃ b, b < 64 ∧ B s = nI b
theorem jp_upd_id (a : Nat → Int32) (k : Nat) (c : Int32) (h : a k = c) : upd a k c = a := by
  funext j; unfold upd
  by_cases e : j = k
  · rw [if_pos e, e, h]
  · rw [if_neg e]
theorem jp_um_1 (k : Nat) (s : (Nat → Int32) × (Nat → Int32)) : (jp_um k s).1 = upd s.1 k (-1) := by
  unfold jp_um
  by_cases h : s.1 k = -1
  · rw [if_pos h, jp_upd_id _ _ _ h]
  · rw [if_neg h]
theorem jp_uh_1 (lo n : Nat) (B M : Nat → Int32) : (jp_uh lo n B M).1 = jp_fl B lo n (-1) := by
  unfold jp_uh
  induction n with
  | zero => exact (jp_fl_0 _ _ _).symm
  | succ n ih => show (jp_um (lo + n) _).1 = _; rw [jp_um_1, ih, jp_fl_s]
theorem jp_BR_upd {B : Nat → Int32} (h : jp_BR B) (k : Nat) : jp_BR (upd B k (-1)) := by
  intro s hs
  unfold upd
  by_cases e : s = k
  · rw [if_pos e]; exact Or.inl rfl
  · rw [if_neg e]; exact h s hs
theorem jp_uh_z {lo n : Nat} {B M : Nat → Int32} (hB : jp_BR B) (hM : ∀ i, 64 ≤ i → M i = 0) (hn : lo + n ≤ 384) : ∀ i, 64 ≤ i → (jp_uh lo n B M).2 i = 0 := by
  have := jp_fd_inv (fun i s => jp_um (lo + i) s) n (B, M) (fun _ s => jp_BR s.1 ∧ ∀ i, 64 ≤ i → s.2 i = 0) ⟨hB, hM⟩ (fun i s hi hJ => by
    refine ⟨by rw [jp_um_1]; exact jp_BR_upd hJ.1 _, ?_⟩
    unfold jp_um
    by_cases h : s.1 (lo + i) = -1
    · rw [if_pos h]; exact hJ.2
    · rw [if_neg h]
      intro j hj
      rcases hJ.1 (lo + i) (by omega) with z | ⟨b, hb, z⟩
      · exact absurd z h
      · dsimp only; rw [z, nI_clamp (by omega), pk_un (by omega)]; exact hJ.2 j hj)
  exact this.2
section
variable {xr xs xd xw : Int32} {xk xl xp xn xb xm xh bk bl bp bn bb bm bh xf xt xq xu : Nat → Int32}
theorem jx_makeHoles {post : SX → Prop} {f p m : Nat} (hf : f < 16) (hp : p + m ≤ 24) (hB : jp_BR xb) (h : post (xr, xs, xd, xw, xk, xl, xp, xn, jp_fl xb (24 * f + p) m (-1), (jp_uh (24 * f + p) m xb xm).2, xh, bk, bl, bp, bn, bb, bm, bh, xf, xt, xq, xu)) : wpX_makeHoles post (xr, xs, xd, xw, xk, xl, xp, xn, xb, xm, xh, bk, bl, bp, bn, bb, bm, bh, xf, xt, xq, xu) (nI f) (nI p) (nI m) := by
  unfold wpX_makeHoles
  refine nm_r (jv_f24 f p) ?_
  rw [← jp_uh_1 _ _ xb xm] at h
  refine jv_fold (σ := (Nat → Int32) × (Nat → Int32)) (fun n i s => wX_makeHoles_12 post (nI m) (nI (24 * f + p)) xr xs xd xw n (nI (24 * f + p + i)) xk xl xp xn (s.1) (s.2) xh bk bl bp bn bb bm bh xf xt xq xu) (fun i s => jp_um (24 * f + p + i) s) m (xb, xm) (fun _ s => jp_BR s.1) hB (fun i s hi hJ => by rw [jp_um_1]; exact jp_BR_upd hJ _) (fun n => br_t ?_ h) (fun n i s hi hJ ih => br_f ?_ ⟨vp_in_nI (by omega) (by omega), ?_⟩)
  · rw [nI_add]; exact nI_le (by omega) (by omega)
  · rw [nI_add]; exact nI_ge (by omega) (by omega)
  · rw [nI_clamp (by omega)]
    unfold jp_um at ih
    refine br_c (fun hc => nm_r (nI_1 _) ?_) (fun hc => ⟨vp_in_nI (by omega) (by omega), ?_⟩)
    · rw [if_pos hc] at ih; exact ih
    · rw [if_neg hc] at ih
      rcases hJ (24 * f + p + i) (by omega) with z | ⟨b, hb, z⟩
      · exact absurd z hc
      · refine ⟨by rw [z]; exact vp_in_nI hb (by omega), nm_e ⟨vp_in_nI (by omega) (by omega), nm_e (nm_r (nI_1 _) ih)⟩⟩
theorem jx_tookBack {post : Int32 → SX → Prop} {f r : Nat} (hf : f < 16) (hr : r < 24) (h0 : jp_ne xb f ≤ 5 → post 0 (nI (r + 1), xs, xd, xw, xk, xl, xp, xn, xb, xm, xh, bk, bl, bp, bn, bb, bm, bh, xf, xt, xq, xu))
    (h1 : 5 < jp_ne xb f → post 1 (nI r, xs, xd, xw, jp_cp xk 0 16 bk (16 * r), jp_cp xl 0 16 bl (16 * r), jp_cp xp 0 16 bp (16 * r), jp_cp xn 0 1024 bn (1024 * r), jp_cp xb 0 384 bb (384 * r), jp_cp xm 0 64 bm (64 * r), jp_cp xh 0 64 bh (64 * r), bk, bl, bp, bn, bb, bm, bh, xf, xt, xq, xu)) : wpX_tookBackSixthExtent post (nI (r + 1), xs, xd, xw, xk, xl, xp, xn, xb, xm, xh, bk, bl, bp, bn, bb, bm, bh, xf, xt, xq, xu) (nI f) := by
  unfold wpX_tookBackSixthExtent
  refine jx_countExtents hf ?_
  have := jp_cn_le (jp_be xb f) 24
  have e : jp_ne xb f = jp_cn (jp_be xb f) 24 := rfl
  refine pk_lt 5 (jp_ne xb f) (fun hh => ?_) (fun hh => h0 hh)
  rw [nI_pred]
  exact jx_loseRecordsBehind hr (h1 hh)
end

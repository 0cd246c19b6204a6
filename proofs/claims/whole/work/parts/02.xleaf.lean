theorem jv_rt {p : Int32} {N : Nat} (hN : N < 2 ^ 31) (h0 : ¬ p < 0) (h1 : ¬ nI N ≤ p) : ∃ j, j < N ∧ p = nI j := by
  obtain ⟨j, hj, rfl⟩ := nI_of h0
  exact ⟨j, Nat.lt_of_not_le (fun h => h1 (nI_le h hj)), rfl⟩
theorem jv_rn {p : Int32} {N : Nat} (hN : N < 2 ^ 31) (h : p < 0 ∨ nI N ≤ p) : ¬ ∃ j, j < N ∧ p = nI j := by
  rintro ⟨j, hj, rfl⟩
  rcases h with h | h
  · exact nI_pos (by omega) h
  · exact nI_ge hj hN h
theorem jv_inj {i j : Nat} (h : nI i = nI j) (hi : i < 2 ^ 31) (hj : j < 2 ^ 31) : i = j := (nI_eq hi hj).mp h
section
variable {xr xs xd xw : Int32} {xk xl xp xn xb xm xh bk bl bp bn bb bm bh xf xt xq xu : Nat → Int32}
theorem jx_isInode {post : Int32 → Prop} {p : Int32} (ht : ∀ j, j < 16 → p = nI j → post 1) (hf : (¬ ∃ j, j < 16 ∧ p = nI j) → post 0) : wpX_isInode post p :=
  br_c (fun h => hf (jv_rn (by omega) (Or.inl h))) (fun h => br_c (fun h2 => hf (jv_rn (by omega) (Or.inr h2))) (fun h2 => by
    obtain ⟨j, hj, e⟩ := jv_rt (N := 16) (by omega) h h2
    exact ht j hj e))
theorem jx_isName {post : Int32 → Prop} {p : Int32} (ht : ∀ j, j < 64 → p = nI j → post 1) (hf : (¬ ∃ j, j < 64 ∧ p = nI j) → post 0) : wpX_isName post p :=
  br_c (fun h => hf (jv_rn (by omega) (Or.inl h))) (fun h => br_c (fun h2 => hf (jv_rn (by omega) (Or.inr h2))) (fun h2 => by
    obtain ⟨j, hj, e⟩ := jv_rt (N := 64) (by omega) h h2
    exact ht j hj e))
theorem jx_isPosition {post : Int32 → Prop} {p : Int32} (ht : ∀ j, j < 24 → p = nI j → post 1) (hf : (¬ ∃ j, j < 24 ∧ p = nI j) → post 0) : wpX_isPosition post p :=
  br_c (fun h => hf (jv_rn (by omega) (Or.inl h))) (fun h => br_c (fun h2 => hf (jv_rn (by omega) (Or.inr h2))) (fun h2 => by
    obtain ⟨j, hj, e⟩ := jv_rt (N := 24) (by omega) h h2
    exact ht j hj e))
theorem jx_isBlock {post : Int32 → Prop} {p : Int32} (ht : ∀ j, j < 64 → p = nI j → post 1) (hf : (¬ ∃ j, j < 64 ∧ p = nI j) → post 0) : wpX_isBlock post p :=
  br_c (fun h => hf (jv_rn (by omega) (Or.inl h))) (fun h => br_c (fun h2 => hf (jv_rn (by omega) (Or.inr h2))) (fun h2 => by
    obtain ⟨j, hj, e⟩ := jv_rt (N := 64) (by omega) h h2
    exact ht j hj e))
theorem jx_isDirectory {post : Int32 → Prop} {p : Int32} (ht : ∀ j, j < 16 → p = nI j → xk j = 2 → post 1) (hf : (¬ ∃ j, j < 16 ∧ p = nI j ∧ xk j = 2) → post 0) : wpX_isDirectory post (xr, xs, xd, xw, xk, xl, xp, xn, xb, xm, xh, bk, bl, bp, bn, bb, bm, bh, xf, xt, xq, xu) p := by
  unfold wpX_isDirectory
  refine jx_isInode (fun j hj e => ?_) (fun hn => br_t rfl (hf (fun ⟨j, hj, e, _⟩ => hn ⟨j, hj, e⟩)))
  subst e
  refine br_f (by decide) ⟨vp_in_nI hj (by omega), ?_⟩
  rw [nI_clamp (by omega)]
  exact br_c (fun hk => ht j hj rfl hk) (fun hk => hf (fun ⟨i, hi, e, k⟩ => hk (by rw [jv_inj e (by omega) (by omega)]; exact k)))
theorem jx_isFile {post : Int32 → Prop} {p : Int32} (ht : ∀ j, j < 16 → p = nI j → xk j = 1 → post 1) (hf : (¬ ∃ j, j < 16 ∧ p = nI j ∧ xk j = 1) → post 0) : wpX_isFile post (xr, xs, xd, xw, xk, xl, xp, xn, xb, xm, xh, bk, bl, bp, bn, bb, bm, bh, xf, xt, xq, xu) p := by
  unfold wpX_isFile
  refine jx_isInode (fun j hj e => ?_) (fun hn => br_t rfl (hf (fun ⟨j, hj, e, _⟩ => hn ⟨j, hj, e⟩)))
  subst e
  refine br_f (by decide) ⟨vp_in_nI hj (by omega), ?_⟩
  rw [nI_clamp (by omega)]
  exact br_c (fun hk => ht j hj rfl hk) (fun hk => hf (fun ⟨i, hi, e, k⟩ => hk (by rw [jv_inj e (by omega) (by omega)]; exact k)))
theorem jx_spotOf {post : Int32 → Prop} {d n : Nat} (hn : n < 64) (h : post (nI (64 * d + jp_s n))) : wpX_spotOf post (nI d) (nI n) :=
  ⟨by decide, by rw [jv_hash n hn, jv_f64]; exact h⟩
theorem jx_hasEntry {post : Int32 → Prop} {p q : Int32} (ht : ∀ d n, d < 16 → n < 64 → p = nI d → q = nI n → xk d = 2 → ¬ xn (64 * d + jp_s n) = -1 → post 1)
    (hf : (¬ ∃ d n, d < 16 ∧ n < 64 ∧ p = nI d ∧ q = nI n ∧ xk d = 2 ∧ ¬ xn (64 * d + jp_s n) = -1) → post 0) : wpX_hasEntry post (xr, xs, xd, xw, xk, xl, xp, xn, xb, xm, xh, bk, bl, bp, bn, bb, bm, bh, xf, xt, xq, xu) p q := by
  unfold wpX_hasEntry
  refine jx_isDirectory (fun d hd e k => ?_) (fun hn => br_t rfl (hf (fun ⟨d, n, hd, _, e, _, k, _⟩ => hn ⟨d, hd, e, k⟩)))
  refine br_f (by decide) (jx_isName (fun n hn e2 => ?_) (fun hn => br_t rfl (hf (fun ⟨d, n, _, h, _, e2, _⟩ => hn ⟨n, h, e2⟩))))
  subst e e2
  have := jp_s_lt n
  refine br_f (by decide) (jx_spotOf hn ⟨vp_in_nI (by omega) (by omega), ?_⟩)
  rw [nI_clamp (by omega)]
  refine br_c (fun hc => hf ?_) (fun hc => ht d n hd hn rfl rfl k hc)
  rintro ⟨d', n', hd', hn', e, e2, _, k2⟩
  rw [← jv_inj e (by omega) (by omega), ← jv_inj e2 (by omega) (by omega)] at k2
  exact k2 hc
theorem jx_countEntries {post : Int32 → Prop} {d : Nat} (hd : d < 16) (h : post (nI (jp_cn (fun h => decide (¬ xn (64 * d + h) = -1)) 64))) : wpX_countEntries post (xr, xs, xd, xw, xk, xl, xp, xn, xb, xm, xh, bk, bl, bp, bn, bb, bm, bh, xf, xt, xq, xu) (nI d) := by
  unfold wpX_countEntries
  refine nm_r (jv_a64 d) (jv_cnt (fun n s i => wX_countEntries_7 post (nI d) xr xs xd xw xk xl xp xn xb xm xh bk bl bp bn bb bm bh xf xt xq xu n (nI s) (nI (64 * d + i))) (fun h => decide (¬ xn (64 * d + h) = -1)) 64 (fun n => br_t ?_ h) (fun n i s hi ht hf => br_f ?_ ⟨vp_in_nI (by omega) (by omega), ?_⟩))
  · rw [jv_b64]; exact nI_le (by omega) (by omega)
  · rw [jv_b64]; exact nI_ge (by omega) (by omega)
  · rw [nI_clamp (by omega)]
    exact br_c (fun hc => nm_r (nI_1 _) (hf (by simp [hc]))) (fun hc => nm_r (nI_1 _) (nm_r (nI_1 _) (ht (by simp [hc]))))
theorem jx_countNaming {post : Int32 → Prop} {p : Int32} (h : post (nI (jp_cn (fun s => decide (xn s = p)) 1024))) : wpX_countNaming post (xr, xs, xd, xw, xk, xl, xp, xn, xb, xm, xh, bk, bl, bp, bn, bb, bm, bh, xf, xt, xq, xu) p := by
  unfold wpX_countNaming
  refine jv_cnt (fun n s i => wX_countNaming_4 post p xr xs xd xw xk xl xp xn xb xm xh bk bl bp bn bb bm bh xf xt xq xu n (nI s) (nI i)) (fun s => decide (xn s = p)) 1024 (fun n => br_t (nI_le (a := 1024) (by omega) (by omega)) h) (fun n i s hi ht hf => br_f (nI_ge (b := 1024) hi (by omega)) ⟨vp_in_nI (by omega) (by omega), ?_⟩)
  rw [nI_clamp (by omega)]
  exact br_c (fun hc => nm_r (nI_1 _) (nm_r (nI_1 _) (ht (by simp [hc])))) (fun hc => nm_r (nI_1 _) (hf (by simp [hc])))
theorem jx_countMapped {post : Int32 → Prop} {d : Nat} (hd : d < 16) (h : post (nI (jp_cn (fun h => decide (¬ xb (24 * d + h) = -1)) 24))) : wpX_countMapped post (xr, xs, xd, xw, xk, xl, xp, xn, xb, xm, xh, bk, bl, bp, bn, bb, bm, bh, xf, xt, xq, xu) (nI d) := by
  unfold wpX_countMapped
  refine nm_r (jv_a24 d) (jv_cnt (fun n s i => wX_countMapped_7 post (nI d) xr xs xd xw xk xl xp xn xb xm xh bk bl bp bn bb bm bh xf xt xq xu n (nI s) (nI (24 * d + i))) (fun h => decide (¬ xb (24 * d + h) = -1)) 24 (fun n => br_t ?_ h) (fun n i s hi ht hf => br_f ?_ ⟨vp_in_nI (by omega) (by omega), ?_⟩))
  · rw [jv_b24]; exact nI_le (by omega) (by omega)
  · rw [jv_b24]; exact nI_ge (by omega) (by omega)
  · rw [nI_clamp (by omega)]
    exact br_c (fun hc => nm_r (nI_1 _) (hf (by simp [hc]))) (fun hc => nm_r (nI_1 _) (nm_r (nI_1 _) (ht (by simp [hc]))))
theorem jx_countUnmarked {post : Int32 → Prop} (h : post (nI (jp_cn (fun s => decide (xm s = 0)) 64))) : wpX_countUnmarked post (xr, xs, xd, xw, xk, xl, xp, xn, xb, xm, xh, bk, bl, bp, bn, bb, bm, bh, xf, xt, xq, xu) := by
  unfold wpX_countUnmarked
  refine jv_cnt (fun n s i => wX_countUnmarked_4 post xr xs xd xw xk xl xp xn xb xm xh bk bl bp bn bb bm bh xf xt xq xu n (nI s) (nI i)) (fun s => decide (xm s = 0)) 64 (fun n => br_t (nI_le (a := 64) (by omega) (by omega)) h) (fun n i s hi ht hf => br_f (nI_ge (b := 64) hi (by omega)) ⟨vp_in_nI (by omega) (by omega), ?_⟩)
  rw [nI_clamp (by omega)]
  exact br_c (fun hc => nm_r (nI_1 _) (nm_r (nI_1 _) (ht (by simp [hc])))) (fun hc => nm_r (nI_1 _) (hf (by simp [hc])))
theorem jx_countInodes {post : Int32 → Prop} (h : post (nI (jp_cn (fun s => decide (¬ xk s = 0)) 16))) : wpX_countInodes post (xr, xs, xd, xw, xk, xl, xp, xn, xb, xm, xh, bk, bl, bp, bn, bb, bm, bh, xf, xt, xq, xu) := by
  unfold wpX_countInodes
  refine jv_cnt (fun n s i => wX_countInodes_4 post xr xs xd xw xk xl xp xn xb xm xh bk bl bp bn bb bm bh xf xt xq xu n (nI s) (nI i)) (fun s => decide (¬ xk s = 0)) 16 (fun n => br_t (nI_le (a := 16) (by omega) (by omega)) h) (fun n i s hi ht hf => br_f (nI_ge (b := 16) hi (by omega)) ⟨vp_in_nI (by omega) (by omega), ?_⟩)
  rw [nI_clamp (by omega)]
  exact br_c (fun hc => nm_r (nI_1 _) (hf (by simp [hc]))) (fun hc => nm_r (nI_1 _) (nm_r (nI_1 _) (ht (by simp [hc]))))
theorem jx_isFullDirectory {post : Int32 → Prop} {d : Nat} (hd : d < 16) (ht : 10 ≤ jp_cn (fun h => decide (¬ xn (64 * d + h) = -1)) 64 → post 1) (hf : jp_cn (fun h => decide (¬ xn (64 * d + h) = -1)) 64 < 10 → post 0) : wpX_isFullDirectory post (xr, xs, xd, xw, xk, xl, xp, xn, xb, xm, xh, bk, bl, bp, bn, bb, bm, bh, xf, xt, xq, xu) (nI d) := by
  unfold wpX_isFullDirectory
  refine jx_countEntries hd ?_
  have := jp_cn_le (fun h => decide (¬ xn (64 * d + h) = -1)) 64
  exact pk_lt _ 10 hf ht
theorem jx_isFullLog {post : Int32 → Prop} {r : Nat} (hr : r ≤ 24) (ht : r = 24 → post 1) (hf : r < 24 → post 0) : wpX_isFullLog post (nI r, xs, xd, xw, xk, xl, xp, xn, xb, xm, xh, bk, bl, bp, bn, bb, bm, bh, xf, xt, xq, xu) := by
  unfold wpX_isFullLog
  exact pk_lt r 24 hf (fun h => ht (by omega))
theorem jx_firstFree {post : Int32 → Prop} (h1 : ∀ j, j < 16 → xk j = 0 → (∀ i, i < j → ¬ xk i = 0) → post (nI j)) (h2 : (∀ i, i < 16 → ¬ xk i = 0) → post (-1)) : wpX_firstFree post (xr, xs, xd, xw, xk, xl, xp, xn, xb, xm, xh, bk, bl, bp, bn, bb, bm, bh, xf, xt, xq, xu) := by
  unfold wpX_firstFree
  refine pk_loop (σ := Unit) (fun n i _ => wX_firstFree_2 post xr xs xd xw xk xl xp xn xb xm xh bk bl bp bn bb bm bh xf xt xq xu n (nI i)) (fun i _ => ∀ k, k < i → ¬ xk k = 0) 16 0 () (by omega) (fun k hk => absurd hk (Nat.not_lt_zero k)) (fun n _ hI => br_t (nI_le (a := 16) (by omega) (by omega)) (h2 hI)) (fun n i _ hi hI ih => br_f (nI_ge (b := 16) hi (by omega)) ⟨vp_in_nI (by omega) (by omega), ?_⟩)
  rw [nI_clamp (by omega)]
  refine br_c (fun hc => h1 i hi hc hI) (fun hc => nm_r (nI_1 _) (ih () (fun k hk => ?_)))
  by_cases e : k = i
  · subst e; exact hc
  · exact hI k (by omega)
end
/-! the k-th of a row -/
def jp_kth (g : Nat → Bool) (k : Int32) : Nat → Nat → Nat → Option Nat
  | 0, _, _ => none
  | m + 1, i, c => if g i = true then (if nI c = k then some i else jp_kth g k m (i + 1) (c + 1)) else jp_kth g k m (i + 1) c
def jp_ov (o : Option Nat) (v : Nat → Int32) : Int32 := match o with | none => -1 | some i => v i
theorem jp_kth_some (g : Nat → Bool) (k : Int32) : ∀ m i c j, jp_kth g k m i c = some j → i ≤ j ∧ j < i + m ∧ g j = true := by
  intro m
  induction m with
  | zero => intro i c j h; simp [jp_kth] at h
  | succ m ih =>
    intro i c j h
    unfold jp_kth at h
    by_cases hg : g i = true
    · rw [if_pos hg] at h
      by_cases hc : nI c = k
      · rw [if_pos hc] at h
        cases h
        exact ⟨by omega, by omega, hg⟩
      · rw [if_neg hc] at h
        have := ih _ _ _ h
        exact ⟨by omega, by omega, this.2.2⟩
    · rw [if_neg hg] at h
      have := ih _ _ _ h
      exact ⟨by omega, by omega, this.2.2⟩
theorem jp_kth_neg (g : Nat → Bool) (k : Int32) (hk : k < 0) : ∀ m i c, c + m < 2 ^ 31 → jp_kth g k m i c = none := by
  intro m
  induction m with
  | zero => intro i c _; rfl
  | succ m ih =>
    intro i c h
    unfold jp_kth
    rw [if_neg (fun e : nI c = k => nI_pos (n := c) (by omega) (e ▸ hk)), ih _ _ (by omega), ih _ _ (by omega), ite_self]
theorem jp_kth_congr {f g : Nat → Bool} (k : Int32) : ∀ m i c, (∀ j, i ≤ j → j < i + m → f j = g j) → jp_kth f k m i c = jp_kth g k m i c := by
  intro m
  induction m with
  | zero => intro i c _; rfl
  | succ m ih =>
    intro i c h
    unfold jp_kth
    rw [h i (by omega) (by omega), ih _ _ (fun j h1 h2 => h j (by omega) (by omega)), ih _ _ (fun j h1 h2 => h j (by omega) (by omega))]

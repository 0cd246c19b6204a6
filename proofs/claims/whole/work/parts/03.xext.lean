theorem jv_sub1 {i l : Nat} (h : l ≤ i) : nI i - nI (l + 1) + 1 = nI (i - l) := by
  obtain ⟨k, rfl⟩ : ∃ k, i = l + k := ⟨i - l, by omega⟩
  rw [Nat.add_sub_cancel_left, ← nI_add, ← nI_1]
  grind
/-! extents: where one begins, how long it is; the longest row of unmarked blocks -/
def jp_be (B : Nat → Int32) (f p : Nat) : Bool := decide (¬ B (24 * f + p) = -1 ∧ (p = 0 ∨ B (24 * f + p - 1) = -1 ∨ ¬ B (24 * f + p - 1) + 1 = B (24 * f + p)))
def jp_ne (B : Nat → Int32) (f : Nat) : Nat := jp_cn (jp_be B f) 24
def jp_Len (B : Nat → Int32) (f p b L : Nat) : Prop := 1 ≤ L ∧ p + L ≤ 24 ∧ (∀ j, j < L → B (24 * f + p + j) = nI (b + j)) ∧ (p + L < 24 → ¬ B (24 * f + p + L) = nI (b + L))
theorem jp_Len_un {B : Nat → Int32} {f p b L M : Nat} (h1 : jp_Len B f p b L) (h2 : jp_Len B f p b M) : L = M := by
  obtain ⟨a1, a2, a3, a4⟩ := h1
  obtain ⟨b1, b2, b3, b4⟩ := h2
  rcases Nat.lt_trichotomy L M with h | h | h
  · exact absurd (b3 L h) (a4 (by omega))
  · exact h
  · exact absurd (a3 M h) (b4 (by omega))
def jp_Rn (M : Nat → Int32) (e b n : Nat) : Prop := b + n ≤ e ∧ (∀ i, i < n → M (b + i) = 0) ∧ (b + n < e → ¬ M (b + n) = 0)
theorem jp_Rn_un {M : Nat → Int32} {e b n m : Nat} (h1 : jp_Rn M e b n) (h2 : jp_Rn M e b m) : n = m := by
  obtain ⟨a1, a2, a3⟩ := h1
  obtain ⟨b1, b2, b3⟩ := h2
  rcases Nat.lt_trichotomy n m with h | h | h
  · exact absurd (b2 n h) (a3 (by omega))
  · exact h
  · exact absurd (a2 m h) (b3 (by omega))
def jp_LR (M : Nat → Int32) (e L : Nat) (s : Int32) : Prop :=
  (∀ b n, b < e → jp_Rn M e b n → n ≤ L) ∧ ((L = 0 ∧ s = -1) ∨ ∃ b, b < e ∧ s = nI b ∧ jp_Rn M e b L ∧ 0 < L ∧ ∀ c n, c < b → jp_Rn M e c n → n < L)
theorem jp_LR_un {M : Nat → Int32} {e L L' : Nat} {s s' : Int32} (h1 : jp_LR M e L s) (h2 : jp_LR M e L' s') : L = L' ∧ s = s' := by
  obtain ⟨a1, a2⟩ := h1
  obtain ⟨b1, b2⟩ := h2
  rcases a2 with ⟨a0, a3⟩ | ⟨a, ha, a3, a4, a5, a6⟩
  · rcases b2 with ⟨b0, b3⟩ | ⟨b, hb, b3, b4, b5, b6⟩
    · exact ⟨by omega, by rw [a3, b3]⟩
    · have := a1 b L' hb b4; omega
  · rcases b2 with ⟨b0, b3⟩ | ⟨b, hb, b3, b4, b5, b6⟩
    · have := b1 a L ha a4; omega
    · have e1 := a1 b L' hb b4
      have e2 := b1 a L ha a4
      have e3 : L = L' := by omega
      refine ⟨e3, ?_⟩
      rcases Nat.lt_trichotomy a b with h | h | h
      · have := b6 a L h a4; omega
      · rw [a3, b3, h]
      · have := a6 b L' h b4; omega
/-- what the component's scan knows ahead of block m -/
def jp_SC (M : Nat → Int32) (m L : Nat) (s : Int32) (l : Nat) : Prop := jp_LR M m L s ∧ l ≤ m ∧ (∀ i, m - l ≤ i → i < m → M i = 0) ∧ (l < m → ¬ M (m - l - 1) = 0)
theorem jp_Rn_back {M : Nat → Int32} {m l b n : Nat} (hl : l ≤ m) (hz : l < m → ¬ M (m - l - 1) = 0) (hb : b < m - l) (h : jp_Rn M (m + 1) b n) : jp_Rn M m b n ∧ b + n < m - l := by
  obtain ⟨h1, h2, h3⟩ := h
  have : b + n < m - l := by
    apply Nat.lt_of_not_le
    intro hh
    have z := h2 (m - l - 1 - b) (by omega)
    rw [show b + (m - l - 1 - b) = m - l - 1 from by omega] at z
    exact hz (by omega) z
  exact ⟨⟨by omega, h2, fun _ => h3 (by omega)⟩, this⟩
theorem jp_Rn_tail {M : Nat → Int32} {m l b n : Nat} (hz : ∀ i, m - l ≤ i → i < m → M i = 0) (h0 : M m = 0) (hb : m - l ≤ b) (hb2 : b ≤ m) (h : jp_Rn M (m + 1) b n) : n = m + 1 - b := by
  obtain ⟨h1, h2, h3⟩ := h
  apply Nat.le_antisymm (by omega)
  apply Nat.le_of_not_lt
  intro hh
  refine h3 (by omega) ?_
  by_cases e : b + n = m
  · rw [e]; exact h0
  · exact hz _ (by omega) (by omega)
theorem jp_SC_up {M : Nat → Int32} {m L : Nat} {s : Int32} {l : Nat} (h : jp_SC M m L s l) (h0 : M m = 0) (hl : L < l + 1) : jp_SC M (m + 1) (l + 1) (nI (m - l)) (l + 1) := by
  obtain ⟨⟨a1, a2⟩, b1, b2, b3⟩ := h
  refine ⟨⟨?_, Or.inr ⟨m - l, by omega, rfl, ⟨by omega, ?_, by omega⟩, by omega, ?_⟩⟩, by omega, ?_, ?_⟩
  · intro b n hb hn
    by_cases hc : b < m - l
    · have := jp_Rn_back b1 b3 hc hn
      have := a1 b n (by omega) this.1
      omega
    · have := jp_Rn_tail b2 h0 (by omega) (by omega) hn
      omega
  · intro i hi
    by_cases e : m - l + i = m
    · rw [e]; exact h0
    · exact b2 _ (by omega) (by omega)
  · intro c n hc hn
    have := a1 c n (by omega) (jp_Rn_back b1 b3 hc hn).1
    omega
  · intro i hi1 hi2
    by_cases e : i = m
    · rw [e]; exact h0
    · exact b2 _ (by omega) (by omega)
  · intro hh
    rw [show m + 1 - (l + 1) - 1 = m - l - 1 from by omega]
    exact b3 (by omega)
theorem jp_SC_on {M : Nat → Int32} {m L : Nat} {s : Int32} {l : Nat} (h : jp_SC M m L s l) (h0 : M m = 0) (hl : l + 1 ≤ L) : jp_SC M (m + 1) L s (l + 1) := by
  obtain ⟨⟨a1, a2⟩, b1, b2, b3⟩ := h
  refine ⟨⟨?_, ?_⟩, by omega, ?_, ?_⟩
  · intro b n hb hn
    by_cases hc : b < m - l
    · exact a1 b n (by omega) (jp_Rn_back b1 b3 hc hn).1
    · have := jp_Rn_tail b2 h0 (by omega) (by omega) hn
      omega
  · rcases a2 with ⟨a3, _⟩ | ⟨b, hb, a3, a4, a5, a6⟩
    · omega
    · have hbL : b + L < m := by
        apply Nat.lt_of_le_of_ne a4.1
        intro e
        have : l < m := by omega
        have z := a4.2.1 (m - l - 1 - b) (by omega)
        rw [show b + (m - l - 1 - b) = m - l - 1 from by omega] at z
        exact b3 (by omega) z
      refine Or.inr ⟨b, by omega, a3, ⟨by omega, a4.2.1, fun _ => a4.2.2 hbL⟩, a5, ?_⟩
      intro c n hc hn
      by_cases hcm : c < m - l
      · exact a6 c n hc (jp_Rn_back b1 b3 hcm hn).1
      · have := jp_Rn_tail b2 h0 (by omega) (by omega) hn
        omega
  · intro i hi1 hi2
    by_cases e : i = m
    · rw [e]; exact h0
    · exact b2 _ (by omega) (by omega)
  · intro hh
    rw [show m + 1 - (l + 1) - 1 = m - l - 1 from by omega]
    exact b3 (by omega)
theorem jp_SC_no {M : Nat → Int32} {m L : Nat} {s : Int32} {l : Nat} (h : jp_SC M m L s l) (h0 : ¬ M m = 0) : jp_SC M (m + 1) L s 0 := by
  obtain ⟨⟨a1, a2⟩, b1, b2, b3⟩ := h
  have back : ∀ b n, b < m → jp_Rn M (m + 1) b n → jp_Rn M m b n := by
    intro b n hb hn
    obtain ⟨h1, h2, h3⟩ := hn
    have : b + n ≤ m := by
      apply Nat.le_of_not_lt
      intro hh
      have := h2 (m - b) (by omega)
      rw [show b + (m - b) = m from by omega] at this
      exact h0 this
    exact ⟨this, h2, fun _ => h3 (by omega)⟩
  refine ⟨⟨?_, ?_⟩, by omega, fun i h1 h2 => by omega, ?_⟩
  · intro b n hb hn
    by_cases hc : b < m
    · exact a1 b n hc (back b n hc hn)
    · have e : b = m := by omega
      subst e
      apply Nat.le_trans _ (Nat.zero_le L)
      apply Nat.le_of_not_lt
      intro hh
      exact h0 (hn.2.1 0 hh)
  · rcases a2 with h | ⟨b, hb, a3, a4, a5, a6⟩
    · exact Or.inl h
    · refine Or.inr ⟨b, by omega, a3, ⟨by have := a4.1; omega, a4.2.1, fun _ => ?_⟩, a5, fun c n hc hn => a6 c n hc (back c n (by omega) hn)⟩
      by_cases e : b + L = m
      · rw [e]; exact h0
      · exact a4.2.2 (by have := a4.1; omega)
  · intro _
    rw [show m + 1 - 0 - 1 = m from by omega]
    exact h0
section
variable {xr xs xd xw : Int32} {xk xl xp xn xb xm xh bk bl bp bn bb bm bh xf xt xq xu : Nat → Int32}
theorem jx_startsExtent {post : Int32 → Prop} {f p : Nat} (hf : f < 16) (hp : p < 24) (h1 : jp_be xb f p = true → post 1) (h0 : jp_be xb f p = false → post 0) : wpX_startsExtent post (xr, xs, xd, xw, xk, xl, xp, xn, xb, xm, xh, bk, bl, bp, bn, bb, bm, bh, xf, xt, xq, xu) (nI f) (nI p) := by
  unfold wpX_startsExtent
  refine nm_r (jv_f24 f p) ⟨vp_in_nI (by omega) (by omega), ?_⟩
  rw [nI_clamp (by omega)]
  refine br_c (fun hc => h0 (by simp [jp_be, hc])) (fun hc => pk_eq p 0 (fun e => h1 (by simp [jp_be, hc, e] <;> simpa [e] using hc)) (fun e => ?_))
  rw [show nI (24 * f + p) - 1 = nI (24 * f + p - 1) from by rw [show 24 * f + p = (24 * f + p - 1) + 1 from by omega, nI_pred]; rfl]
  refine ⟨vp_in_nI (by omega) (by omega), ?_⟩
  rw [nI_clamp (n := 24 * f + p - 1) (by omega)]
  refine br_c (fun hd => h1 (by simp [jp_be, hc, hd])) (fun hd => ⟨vp_in_nI (by omega) (by omega), vp_in_nI (by omega) (by omega), ?_⟩)
  exact br_c (fun he => h0 (by simp [jp_be, hc, hd, he, e])) (fun he => h1 (by simp [jp_be, hc, he]))
theorem jx_countExtents {post : Int32 → Prop} {f : Nat} (hf : f < 16) (h : post (nI (jp_ne xb f))) : wpX_countExtents post (xr, xs, xd, xw, xk, xl, xp, xn, xb, xm, xh, bk, bl, bp, bn, bb, bm, bh, xf, xt, xq, xu) (nI f) := by
  unfold wpX_countExtents
  refine jv_cnt (fun n s i => wX_countExtents_4 post (nI f) xr xs xd xw xk xl xp xn xb xm xh bk bl bp bn bb bm bh xf xt xq xu n (nI s) (nI i)) (jp_be xb f) 24 (fun n => br_t (nI_le (a := 24) (by omega) (by omega)) h) (fun n i s hi h1 h0 => br_f (nI_ge (b := 24) hi (by omega)) ?_)
  exact jx_startsExtent hf hi (fun hb => br_f (by decide) (nm_r (nI_1 _) (nm_r (nI_1 _) (h1 hb)))) (fun hb => br_t rfl (nm_r (nI_1 _) (h0 hb)))
theorem jx_startOfExtent {post : Int32 → Prop} {f : Nat} {k : Int32} (hf : f < 16) (h : post (jp_ov (jp_kth (jp_be xb f) k 24 0 0) nI)) : wpX_startOfExtent post (xr, xs, xd, xw, xk, xl, xp, xn, xb, xm, xh, bk, bl, bp, bn, bb, bm, bh, xf, xt, xq, xu) (nI f) k := by
  unfold wpX_startOfExtent
  have key : ∀ m i c, i + m = 24 → post (jp_ov (jp_kth (jp_be xb f) k m i c) nI) → wX_startOfExtent_5 post (nI f) k xr xs xd xw xk xl xp xn xb xm xh bk bl bp bn bb bm bh xf xt xq xu (m + 1) (nI c) (nI i) := by
    intro m
    induction m with
    | zero => intro i c hi h; exact br_t (nI_le (a := 24) (by omega) (by omega)) h
    | succ m ih =>
      intro i c hi h
      refine br_f (nI_ge (b := 24) (by omega) (by omega)) (jx_startsExtent hf (by omega) (fun hb => br_f (by decide) (br_c (fun hc => ?_) (fun hc => nm_r (nI_1 _) (nm_r (nI_1 _) (ih _ _ (by omega) ?_))))) (fun hb => br_t rfl (nm_r (nI_1 _) (ih _ _ (by omega) ?_))))
      · unfold jp_kth at h; rw [if_pos hb, if_pos hc] at h; exact h
      · unfold jp_kth at h; rw [if_pos hb, if_neg hc] at h; exact h
      · unfold jp_kth at h; rw [if_neg (by simp [hb])] at h; exact h
  exact ⟨25, key 24 0 0 rfl h⟩
theorem jx_spotOfEntry {post : Int32 → Prop} {d : Nat} {k : Int32} (hd : d < 16) (h : post (jp_ov (jp_kth (fun h => decide (¬ xn (64 * d + h) = -1)) k 64 0 0) (fun h => nI (64 * d + h)))) : wpX_spotOfEntry post (xr, xs, xd, xw, xk, xl, xp, xn, xb, xm, xh, bk, bl, bp, bn, bb, bm, bh, xf, xt, xq, xu) (nI d) k := by
  unfold wpX_spotOfEntry
  have key : ∀ m i c, i + m = 64 → post (jp_ov (jp_kth (fun h => decide (¬ xn (64 * d + h) = -1)) k m i c) (fun h => nI (64 * d + h))) → wX_spotOfEntry_8 post (nI d) k xr xs xd xw xk xl xp xn xb xm xh bk bl bp bn bb bm bh xf xt xq xu (m + 1) (nI c) (nI (64 * d + i)) := by
    intro m
    induction m with
    | zero => intro i c hi h; exact br_t (by rw [jv_b64]; exact nI_le (by omega) (by omega)) h
    | succ m ih =>
      intro i c hi h
      refine br_f (by rw [jv_b64]; exact nI_ge (by omega) (by omega)) ⟨vp_in_nI (by omega) (by omega), ?_⟩
      rw [nI_clamp (by omega)]
      unfold jp_kth at h
      refine br_c (fun hc => nm_r (nI_1 _) (ih (i + 1) _ (by omega) ?_)) (fun hc => br_c (fun hk => ?_) (fun hk => nm_r (nI_1 _) (nm_r (nI_1 _) (ih (i + 1) _ (by omega) ?_))))
      · rw [if_neg (by simp [hc])] at h; exact h
      · rw [if_pos (by simp [hc]), if_pos hk] at h; exact h
      · rw [if_pos (by simp [hc]), if_neg hk] at h; exact h
  exact nm_r (jv_a64 d) ⟨65, key 64 0 0 rfl h⟩
theorem jx_lengthOfExtent {post : Int32 → Prop} {f p b : Nat} (hf : f < 16) (hp : p < 24) (hb : b < 64) (hm : xb (24 * f + p) = nI b) (h : ∀ L, jp_Len xb f p b L → post (nI L)) : wpX_lengthOfExtent post (xr, xs, xd, xw, xk, xl, xp, xn, xb, xm, xh, bk, bl, bp, bn, bb, bm, bh, xf, xt, xq, xu) (nI f) (nI p) := by
  unfold wpX_lengthOfExtent
  refine nm_r (nI_1 p) ?_
  have key : ∀ m L, 1 ≤ L → p + L + m = 24 → (∀ j, j < L → xb (24 * f + p + j) = nI (b + j)) → wX_lengthOfExtent_7 post (nI f) xr xs xd xw xk xl xp xn xb xm xh bk bl bp bn bb bm bh xf xt xq xu (m + 1) (nI L) (nI (p + L)) := by
    intro m
    induction m with
    | zero => intro L h1 h2 h3; exact br_t (nI_le (a := 24) (by omega) (by omega)) (h L ⟨h1, by omega, h3, fun hh => by omega⟩)
    | succ m ih =>
      intro L h1 h2 h3
      have e1 := h3 (L - 1) (by omega)
      rw [show 24 * f + p + (L - 1) = 24 * f + (p + L) - 1 from by omega] at e1
      refine br_f (nI_ge (b := 24) (by omega) (by omega)) ?_
      rw [jv_f24]
      refine ⟨vp_in_nI (by omega) (by omega), ?_⟩
      rw [nI_clamp (by omega)]
      have eb : ∀ n : Nat, n = L → nI (b + (L - 1)) + 1 = nI (b + n) := fun n e => by rw [nI_1]; exact congrArg nI (by omega)
      refine br_c (fun hc => h L ⟨h1, by omega, h3, fun _ => ?_⟩) (fun hc => jx_startsExtent hf (by omega) (fun hs => br_f (by decide) (h L ⟨h1, by omega, h3, fun _ => ?_⟩)) (fun hs => br_t rfl (nm_r (nI_1 _) (nm_r (nI_1 _) (ih (L + 1) (by omega) (by omega) ?_)))))
      · rw [Nat.add_assoc, hc]; exact fun z => jv_m1n _ (by omega) z.symm
      · intro z
        rw [Nat.add_assoc] at z
        simp only [jp_be, decide_eq_true_eq] at hs
        rcases hs.2 with q | q | q
        · omega
        · rw [e1] at q; exact jv_m1n _ (by omega) q
        · rw [e1, z] at q; exact q (eb L rfl)
      · intro j hj
        by_cases e : j < L
        · exact h3 j e
        · have e : j = L := by omega
          subst e
          simp only [jp_be, decide_eq_false_iff_not] at hs
          rw [Nat.add_assoc]
          apply Classical.byContradiction
          intro q
          apply hs
          refine ⟨hc, Or.inr (Or.inr ?_)⟩
          rw [e1, eb j rfl]
          exact fun z => q z.symm
  exact ⟨23 - p + 1, key (23 - p) 1 (by omega) (by omega) (fun j hj => by rw [show j = 0 from by omega]; exact hm)⟩
theorem jx_startOfLongestRow {post : Int32 → Prop} (h : ∀ L s, jp_LR xm 64 L s → post s) : wpX_startOfLongestRow post (xr, xs, xd, xw, xk, xl, xp, xn, xb, xm, xh, bk, bl, bp, bn, bb, bm, bh, xf, xt, xq, xu) := by
  unfold wpX_startOfLongestRow
  refine pk_loop (σ := Int32 × Nat × Nat) (fun n i s => wX_startOfLongestRow_9 post xr xs xd xw xk xl xp xn xb xm xh bk bl bp bn bb bm bh xf xt xq xu n s.1 (nI s.2.1) (nI s.2.2) (nI i)) (fun i s => jp_SC xm i s.2.1 s.1 s.2.2 ∧ s.2.1 ≤ 64) 64 0 (-1, 0, 0) (by omega) ⟨⟨⟨fun b n hb => absurd hb (Nat.not_lt_zero b), Or.inl ⟨rfl, rfl⟩⟩, Nat.le_refl 0, fun i _ hi => absurd hi (Nat.not_lt_zero i), fun hh => absurd hh (Nat.lt_irrefl 0)⟩, by decide⟩ (fun n s hI => br_t (nI_le (a := 64) (by omega) (by omega)) (h _ _ hI.1.1)) (fun n i s hi hI ih => br_f (nI_ge (b := 64) hi (by omega)) ⟨vp_in_nI (by omega) (by omega), ?_⟩)
  obtain ⟨s, L, l⟩ := s
  obtain ⟨hI, hL⟩ := hI
  dsimp only at hI hL ⊢
  rw [nI_clamp (by omega)]
  have hl := hI.2.1
  refine br_c (fun hc => ?_) (fun hc => ?_)
  · rw [nI_1]
    refine pk_le (l + 1) L (fun hle => nm_r (nI_1 _) (ih (s, L, l + 1) ⟨jp_SC_on hI hc hle, hL⟩)) (fun hlt => nm_r (e' := nI (i - l)) ?_ (nm_r (nI_1 _) (ih (nI (i - l), l + 1, l + 1) ⟨jp_SC_up hI hc hlt, by dsimp only; omega⟩)))
    exact jv_sub1 hl
  · exact br_t (nI_le (a := 0) (by omega) (by omega)) (nm_r (nI_1 _) (ih (s, L, 0) ⟨jp_SC_no hI hc, hL⟩))
theorem jx_lengthOfLongestRow {post : Int32 → Prop} (h : ∀ L s, jp_LR xm 64 L s → post (nI L)) : wpX_lengthOfLongestRow post (xr, xs, xd, xw, xk, xl, xp, xn, xb, xm, xh, bk, bl, bp, bn, bb, bm, bh, xf, xt, xq, xu) := by
  unfold wpX_lengthOfLongestRow
  refine jx_startOfLongestRow (fun L s hL => ?_)
  rcases hL.2 with ⟨h0, h1⟩ | ⟨b, hb, e, hr, hp, hm⟩
  · refine br_t h1 ?_
    have := h L s hL
    rw [h0] at this
    exact this
  · refine br_f (by rw [e]; exact jv_m1n _ (by omega)) ?_
    rw [e]
    have key : ∀ m n, n + m = L → wX_lengthOfLongestRow_16 post xr xs xd xw xk xl xp xn xb xm xh bk bl bp bn bb bm bh xf xt xq xu (m + 1) (nI n) (nI (b + n)) := by
      intro m
      induction m with
      | zero =>
        intro n hn
        have : n = L := by omega
        subst this
        by_cases e2 : b + n < 64
        · refine br_f (nI_ge (b := 64) e2 (by omega)) ⟨vp_in_nI (by omega) (by omega), ?_⟩
          rw [nI_clamp (by omega)]
          exact br_f (hr.2.2 e2) (h _ _ hL)
        · exact br_t (nI_le (a := 64) (by omega) (by have := hr.1; omega)) (h _ _ hL)
      | succ m ih =>
        intro n hn
        have := hr.1
        refine br_f (nI_ge (b := 64) (by omega) (by omega)) ⟨vp_in_nI (by omega) (by omega), ?_⟩
        rw [nI_clamp (by omega)]
        exact br_t (hr.2.1 n (by omega)) (nm_r (nI_1 _) (nm_r (nI_1 _) (ih (n + 1) (by omega))))
    exact ⟨L + 1, key L 0 (by omega)⟩
end

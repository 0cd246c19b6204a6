section
variable {yr ys yd yh yt : Int32} {yk yl yp yn yb yv ym ok ol op on ob ov om yc yg yf yq yu ye : Nat → Int32}
theorem jy_place {post : SY → Prop} (h : post (yr, ys, yd, yh, yt, yk, yl, yp, yn, yb, yv, ym, jp_cp ok 0 16 yk 0, jp_cp ol 0 16 yl 0, jp_cp op 0 16 yp 0, jp_cp on 0 1024 yn 0, jp_cp ob 0 384 yb 0, jp_cp ov 0 64 yv 0, jp_cp om 0 64 ym 0, yc, yg, yf, yq, yu, ye)) : wpY_place post (yr, ys, yd, yh, yt, yk, yl, yp, yn, yb, yv, ym, ok, ol, op, on, ob, ov, om, yc, yg, yf, yq, yu, ye) := by
  unfold wpY_place
  refine jy_cpo_kind ?_
  refine jy_cpo_links ?_
  refine jy_cpo_parent ?_
  refine jy_cpo_named ?_
  refine jy_cpo_block ?_
  refine jy_cpo_value ?_
  refine jy_cpo_mark ?_
  exact h
theorem jy_begins {post : Int32 → Prop} {f p : Nat} (hB : jp_BR yb) (hf : f < 16) (hp : p < 24) (h1 : jp_be yb f p = true → post 1) (h0 : jp_be yb f p = false → post 0) : wpY_begins post (yr, ys, yd, yh, yt, yk, yl, yp, yn, yb, yv, ym, ok, ol, op, on, ob, ov, om, yc, yg, yf, yq, yu, ye) (nI f) (nI p) := by
  unfold wpY_begins
  refine nm_r (jv_e24 f p) ⟨vp_in_nI (by omega) (by omega), ?_⟩
  rw [nI_clamp (by omega), jp_neg (by omega) (hB (24 * f + p) (by omega))]
  refine br_c (fun hc => h0 (by simp [jp_be, hc])) (fun hc => pk_eq p 0 (fun e => h1 (by simp [jp_be, hc, e] <;> simpa [e] using hc)) (fun e => ?_))
  rw [show nI (24 * f + p) - 1 = nI (24 * f + p - 1) from by rw [show 24 * f + p = (24 * f + p - 1) + 1 from by omega, nI_pred]; rfl]
  refine ⟨vp_in_nI (by omega) (by omega), ?_⟩
  rw [nI_clamp (n := 24 * f + p - 1) (by omega), jp_neg (by omega) (hB (24 * f + p - 1) (by omega))]
  refine br_c (fun hd => h1 (by simp [jp_be, hc, hd])) (fun hd => ⟨vp_in_nI (by omega) (by omega), vp_in_nI (by omega) (by omega), ?_⟩)
  exact br_c (fun he => h0 (by simp [jp_be, hc, hd, he, e])) (fun he => h1 (by simp [jp_be, hc, he]))
theorem jy_extents {post : Int32 → Prop} {f : Nat} (hB : jp_BR yb) (hf : f < 16) (h : post (nI (jp_ne yb f))) : wpY_extents post (yr, ys, yd, yh, yt, yk, yl, yp, yn, yb, yv, ym, ok, ol, op, on, ob, ov, om, yc, yg, yf, yq, yu, ye) (nI f) := by
  unfold wpY_extents
  refine jv_cnt (fun n s i => wY_extents_4 post (nI f) yr ys yd yh yt yk yl yp yn yb yv ym ok ol op on ob ov om yc yg yf yq yu ye n (nI s) (nI i)) (jp_be yb f) 24 (fun n => br_t (nI_le (a := 24) (by omega) (by omega)) h) (fun n i s hi h1 h0 => br_f (nI_ge (b := 24) hi (by omega)) ?_)
  exact jy_begins hB hf hi (fun hb => br_f (by decide) (nm_r (nI_1 _) (nm_r (nI_1 _) (h1 hb)))) (fun hb => br_t rfl (nm_r (nI_1 _) (h0 hb)))
theorem jy_extentAt {post : Int32 → Prop} {f : Nat} {k : Int32} (hB : jp_BR yb) (hf : f < 16) (h : post (jp_ov (jp_kth (jp_be yb f) k 24 0 0) nI)) : wpY_extentAt post (yr, ys, yd, yh, yt, yk, yl, yp, yn, yb, yv, ym, ok, ol, op, on, ob, ov, om, yc, yg, yf, yq, yu, ye) (nI f) k := by
  unfold wpY_extentAt
  have key : ∀ m i c, i + m = 24 → post (jp_ov (jp_kth (jp_be yb f) k m i c) nI) → wY_extentAt_5 post (nI f) k yr ys yd yh yt yk yl yp yn yb yv ym ok ol op on ob ov om yc yg yf yq yu ye (m + 1) (nI c) (nI i) := by
    intro m
    induction m with
    | zero => intro i c hi h; exact br_t (nI_le (a := 24) (by omega) (by omega)) h
    | succ m ih =>
      intro i c hi h
      refine br_f (nI_ge (b := 24) (by omega) (by omega)) (jy_begins hB hf (by omega) (fun hb => br_f (by decide) (br_c (fun hc => ?_) (fun hc => br_f (by decide) (nm_r (nI_1 _) (nm_r (nI_1 _) (ih _ _ (by omega) ?_)))))) (fun hb => br_t rfl (br_t rfl (nm_r (nI_1 _) (ih _ _ (by omega) ?_)))))
      · unfold jp_kth at h; rw [if_pos hb, if_pos hc] at h; exact h
      · unfold jp_kth at h; rw [if_pos hb, if_neg hc] at h; exact h
      · unfold jp_kth at h; rw [if_neg (by simp [hb])] at h; exact h
  exact ⟨25, key 24 0 0 rfl h⟩
theorem jy_lengthAt {post : Int32 → Prop} {f p b : Nat} (hf : f < 16) (hp : p < 24) (hb : b < 64) (hm : yb (24 * f + p) = nI b) (h : ∀ L, jp_Len yb f p b L → post (nI L)) : wpY_lengthAt post (yr, ys, yd, yh, yt, yk, yl, yp, yn, yb, yv, ym, ok, ol, op, on, ob, ov, om, yc, yg, yf, yq, yu, ye) (nI f) (nI p) := by
  unfold wpY_lengthAt
  have key : ∀ m L, 1 ≤ L → p + L + m = 24 → (∀ j, j < L → yb (24 * f + p + j) = nI (b + j)) → wY_lengthAt_2 post (nI f) (nI p) yr ys yd yh yt yk yl yp yn yb yv ym ok ol op on ob ov om yc yg yf yq yu ye (m + 1) (nI L) := by
    intro m
    induction m with
    | zero => intro L h1 h2 h3; exact br_t (by rw [nI_add]; exact nI_le (a := 24) (by omega) (by omega)) (h L ⟨h1, by omega, h3, fun hh => by omega⟩)
    | succ m ih =>
      intro L h1 h2 h3
      refine br_f (by rw [nI_add]; exact nI_ge (b := 24) (by omega) (by omega)) ?_
      rw [jv_e24, nI_add]
      refine ⟨vp_in_nI (by omega) (by omega), vp_in_nI (by omega) (by omega), ?_⟩
      rw [nI_clamp (by omega), nI_clamp (by omega), hm, nI_add]
      refine br_c (fun hc => nm_r (nI_1 _) (ih (L + 1) (by omega) (by omega) (fun j hj => ?_))) (fun hc => h L ⟨h1, by omega, h3, fun _ => hc⟩)
      by_cases e : j < L
      · exact h3 j e
      · rw [show j = L from by omega]; exact hc
  exact ⟨23 - p + 1, key (23 - p) 1 (by omega) (by omega) (fun j hj => by rw [show j = 0 from by omega]; exact hm)⟩
theorem jy_longest {post : Int32 → Prop} {x : Int32} (h : ∀ L s, jp_LR ym 64 L s → (x = 0 → post s) ∧ (¬ x = 0 → post (nI L))) : wpY_longest post (yr, ys, yd, yh, yt, yk, yl, yp, yn, yb, yv, ym, ok, ol, op, on, ob, ov, om, yc, yg, yf, yq, yu, ye) x := by
  unfold wpY_longest
  refine pk_loop (σ := Nat × Int32) (fun n i s => wY_longest_7 post x yr ys yd yh yt yk yl yp yn yb yv ym ok ol op on ob ov om yc yg yf yq yu ye n (nI s.1) s.2 (nI i)) (fun i s => s.1 ≤ 64 ∧ (∀ b n, b < i → jp_Rn ym 64 b n → n ≤ s.1) ∧ ((s.1 = 0 ∧ s.2 = -1) ∨ ∃ b, b < i ∧ s.2 = nI b ∧ jp_Rn ym 64 b s.1 ∧ 0 < s.1 ∧ ∀ c n, c < b → jp_Rn ym 64 c n → n < s.1)) 64 0 (0, -1) (by omega) ⟨by decide, fun b n hb => absurd hb (Nat.not_lt_zero b), Or.inl ⟨rfl, rfl⟩⟩ (fun n s hI => br_t (nI_le (a := 64) (by omega) (by omega)) (h s.1 s.2 hI.2)) (fun n i s hi hI ih => br_f (nI_ge (b := 64) hi (by omega)) ?_)
  obtain ⟨L, s⟩ := s
  obtain ⟨hL, h1, h2⟩ := hI
  dsimp only at hL h1 h2 ⊢
  have fin : ∀ m, jp_Rn ym 64 i m → wY_longest_46 post (wY_longest_7 post x yr ys yd yh yt yk yl yp yn yb yv ym ok ol op on ob ov om yc yg yf yq yu ye n) x (nI L) s (nI i) (nI m) yr ys yd yh yt yk yl yp yn yb yv ym ok ol op on ob ov om yc yg yf yq yu ye := by
    intro m hm
    have := hm.1
    refine pk_le m L (fun hle => nm_r (nI_1 _) (ih (L, s) ⟨hL, fun b n hb hn => ?_, ?_⟩)) (fun hlt => nm_r (nI_1 _) (ih (m, nI i) ⟨by dsimp only; omega, fun b n hb hn => ?_, Or.inr ⟨i, by omega, rfl, hm, by dsimp only; omega, fun c n hc hn => ?_⟩⟩))
    · by_cases e : b = i
      · subst e; rw [jp_Rn_un hn hm]; exact hle
      · exact h1 b n (by omega) hn
    · rcases h2 with h2 | ⟨b, hb, q⟩
      · exact Or.inl h2
      · exact Or.inr ⟨b, by omega, q⟩
    · dsimp only
      by_cases e : b = i
      · subst e; rw [jp_Rn_un hn hm]; exact Nat.le_refl m
      · have := h1 b n (by omega) hn; omega
    · have := h1 c n hc hn; dsimp only; omega
  refine pk_loop (σ := Unit) (fun k m _ => wY_longest_17 post (wY_longest_7 post x yr ys yd yh yt yk yl yp yn yb yv ym ok ol op on ob ov om yc yg yf yq yu ye n) x (nI L) s (nI i) yr ys yd yh yt yk yl yp yn yb yv ym ok ol op on ob ov om yc yg yf yq yu ye k (nI m)) (fun m _ => ∀ j, j < m → ym (i + j) = 0) (64 - i) 0 () (by omega) (fun j hj => absurd hj (Nat.not_lt_zero j)) (fun k _ hz => br_t ?_ (fin _ ⟨by omega, hz, fun hh => by omega⟩)) (fun k m _ hm hz ihm => br_f ?_ ?_)
  · rw [nI_add]; exact nI_le (a := 64) (by omega) (by omega)
  · rw [nI_add]; exact nI_ge (b := 64) (by omega) (by omega)
  · rw [nI_add]
    refine ⟨vp_in_nI (by omega) (by omega), ?_⟩
    rw [nI_clamp (by omega)]
    refine br_c (fun hc => nm_r (nI_1 _) (ihm () (fun j hj => ?_))) (fun hc => fin m ⟨by omega, hz, fun _ => hc⟩)
    by_cases e : j < m
    · exact hz j e
    · rw [show j = m from by omega]; exact hc
end
/-! the block that a position gets: both sides' choice -/
def jp_CH (B M : Nat → Int32) (k p : Nat) (c : Int32) : Prop :=
  (∃ b, 0 < p ∧ B (k - 1) = nI b ∧ b < 63 ∧ M (b + 1) = 0 ∧ c = nI (b + 1))
  ∨ ((¬ ∃ b, 0 < p ∧ B (k - 1) = nI b ∧ b < 63 ∧ M (b + 1) = 0) ∧ ∃ b, p < 23 ∧ B (k + 1) = nI b ∧ 0 < b ∧ b < 64 ∧ M (b - 1) = 0 ∧ c = nI (b - 1))
  ∨ ((¬ ∃ b, 0 < p ∧ B (k - 1) = nI b ∧ b < 63 ∧ M (b + 1) = 0) ∧ (¬ ∃ b, p < 23 ∧ B (k + 1) = nI b ∧ 0 < b ∧ b < 64 ∧ M (b - 1) = 0) ∧ ∃ L, jp_LR M 64 L c)
theorem jp_CH_un {B M : Nat → Int32} {k p : Nat} {c d : Int32} (h1 : jp_CH B M k p c) (h2 : jp_CH B M k p d) : c = d := by
  rcases h1 with ⟨b, a1, a2, a3, a4, a5⟩ | ⟨an, b, a1, a2, a3, a4, a5, a6⟩ | ⟨an, am, L, a⟩
  · rcases h2 with ⟨b', b1, b2, b3, b4, b5⟩ | ⟨bn, _⟩ | ⟨bn, _⟩
    · rw [a2] at b2
      have := jv_inj b2 (by omega) (by omega)
      subst this; rw [a5, b5]
    · exact absurd ⟨b, a1, a2, a3, a4⟩ bn
    · exact absurd ⟨b, a1, a2, a3, a4⟩ bn
  · rcases h2 with ⟨b', b1, b2, b3, b4, b5⟩ | ⟨bn, b', b1, b2, b3, b4, b5, b6⟩ | ⟨bn, bm, _⟩
    · exact absurd ⟨b', b1, b2, b3, b4⟩ an
    · rw [a2] at b2
      have := jv_inj b2 (by omega) (by omega)
      subst this; rw [a6, b6]
    · exact absurd ⟨b, a1, a2, a3, a4, a5⟩ bm
  · rcases h2 with ⟨b', b1, b2, b3, b4, b5⟩ | ⟨bn, b', b1, b2, b3, b4, b5, b6⟩ | ⟨bn, bm, L', b⟩
    · exact absurd ⟨b', b1, b2, b3, b4⟩ an
    · exact absurd ⟨b', b1, b2, b3, b4, b5⟩ am
    · exact (jp_LR_un a b).2
theorem jp_CH_r {B M : Nat → Int32} {k p : Nat} {c : Int32} (h : jp_CH B M k p c) : c = -1 ∨ ∃ b, b < 64 ∧ c = nI b := by
  rcases h with ⟨b, a1, a2, a3, a4, a5⟩ | ⟨an, b, a1, a2, a3, a4, a5, a6⟩ | ⟨an, am, L, a⟩
  · exact Or.inr ⟨b + 1, by omega, a5⟩
  · exact Or.inr ⟨b - 1, by omega, a6⟩
  · rcases a.2 with ⟨_, h⟩ | ⟨b, hb, e, _⟩
    · exact Or.inl h
    · exact Or.inr ⟨b, hb, e⟩
section
variable {xr xs xd xw : Int32} {xk xl xp xn xb xm xh bk bl bp bn bb bm bh xf xt xq xu : Nat → Int32}
theorem jx_chooseBlock {post : Int32 → Prop} {f p : Nat} (hB : jp_BR xb) (hf : f < 16) (hp : p < 24) (h : ∀ c, jp_CH xb xm (24 * f + p) p c → post c) : wpX_chooseBlock post (xr, xs, xd, xw, xk, xl, xp, xn, xb, xm, xh, bk, bl, bp, bn, bb, bm, bh, xf, xt, xq, xu) (nI f) (nI p) := by
  unfold wpX_chooseBlock
  refine nm_r (jv_f24 f p) ?_
  have s3 : (¬ ∃ b, 0 < p ∧ xb (24 * f + p - 1) = nI b ∧ b < 63 ∧ xm (b + 1) = 0) → (¬ ∃ b, p < 23 ∧ xb (24 * f + p + 1) = nI b ∧ 0 < b ∧ b < 64 ∧ xm (b - 1) = 0) → wX_chooseBlock_107 post xr xs xd xw xk xl xp xn xb xm xh bk bl bp bn bb bm bh xf xt xq xu := by
    intro a b
    unfold wX_chooseBlock_107
    exact jx_startOfLongestRow (fun L s hL => h s (Or.inr (Or.inr ⟨a, b, L, hL⟩)))
  have s2 : (¬ ∃ b, 0 < p ∧ xb (24 * f + p - 1) = nI b ∧ b < 63 ∧ xm (b + 1) = 0) → wX_chooseBlock_56 post (nI p) (nI (24 * f + p)) xr xs xd xw xk xl xp xn xb xm xh bk bl bp bn bb bm bh xf xt xq xu := by
    intro a
    refine pk_le 23 p (fun hh => s3 a (fun ⟨b, h1, _⟩ => by omega)) (fun hh => ?_)
    rw [nI_1]
    refine ⟨vp_in_nI (by omega) (by omega), ?_⟩
    rw [nI_clamp (by omega)]
    refine br_c (fun hc => s3 a (fun ⟨b, _, h2, _, h4, _⟩ => jv_m1n b (by omega) (h2 ▸ hc))) (fun hc => ⟨vp_in_nI (by omega) (by omega), ?_⟩)
    rcases hB (24 * f + p + 1) (by omega) with z | ⟨b, hb, z⟩
    · exact absurd z hc
    · rw [z]
      by_cases e : b = 0
      · subst e
        refine nm_e (jx_isBlock (fun j hj ej => ?_) (fun _ => br_t rfl (s3 a ?_)))
        · exact absurd ej.symm (jv_m1n j (by omega))
        · rintro ⟨b, _, h2, h3, h4, _⟩
          rw [z] at h2
          have := jv_inj h2 (by omega) (by omega)
          omega
      · refine nm_r (show nI b - 1 = nI (b - 1) from by obtain ⟨c, rfl⟩ : ∃ c, b = c + 1 := ⟨b - 1, by omega⟩; rw [nI_pred]; rfl) (jx_isBlock (fun j hj ej => ?_) (fun hn => absurd ⟨b - 1, by omega, rfl⟩ hn))
        refine br_f (by decide) ⟨vp_in_nI (by omega) (by omega), ?_⟩
        rw [nI_clamp (by omega)]
        refine br_c (fun hz => h _ (Or.inr (Or.inl ⟨a, b, by omega, z, by omega, hb, hz, rfl⟩))) (fun hz => s3 a ?_)
        rintro ⟨b', _, h2, h3, h4, h5⟩
        rw [z] at h2
        have := jv_inj h2 (by omega) (by omega)
        subst this
        exact hz h5
  refine pk_le p 0 (fun hh => s2 (fun ⟨b, h1, _⟩ => by omega)) (fun hh => ?_)
  rw [show nI (24 * f + p) - 1 = nI (24 * f + p - 1) from by rw [show 24 * f + p = (24 * f + p - 1) + 1 from by omega, nI_pred]; rfl]
  refine ⟨vp_in_nI (by omega) (by omega), ?_⟩
  rw [nI_clamp (by omega)]
  refine br_c (fun hc => s2 (fun ⟨b, _, h2, h4, _⟩ => jv_m1n b (by omega) (h2 ▸ hc))) (fun hc => ⟨vp_in_nI (by omega) (by omega), ?_⟩)
  rcases hB (24 * f + p - 1) (by omega) with z | ⟨b, hb, z⟩
  · exact absurd z hc
  · rw [z]
    refine nm_r (nI_1 b) (jx_isBlock (fun j hj ej => ?_) (fun hn => br_t rfl (s2 ?_)))
    · have ej := jv_inj ej (by omega) (by omega)
      refine br_f (by decide) ⟨vp_in_nI (by omega) (by omega), ?_⟩
      rw [nI_clamp (by omega)]
      refine br_c (fun hz => h _ (Or.inl ⟨b, by omega, z, by omega, hz, rfl⟩)) (fun hz => s2 ?_)
      rintro ⟨b', _, h2, h3, h4⟩
      rw [z] at h2
      have := jv_inj h2 (by omega) (by omega)
      subst this
      exact hz h4
    · rintro ⟨b', _, h2, h3, h4⟩
      rw [z] at h2
      have := jv_inj h2 (by omega) (by omega)
      exact hn ⟨b + 1, by omega, rfl⟩
end
section
variable {yr ys yd yh yt : Int32} {yk yl yp yn yb yv ym ok ol op on ob ov om yc yg yf yq yu ye : Nat → Int32}
theorem jy_choose {post : Int32 → Prop} {k p : Nat} (hB : jp_BR yb) (hk0 : p ≤ k) (hk : k + (23 - p) < 384) (hp : p < 24) (h : ∀ c, jp_CH yb ym k p c → post c) : wpY_choose post (yr, ys, yd, yh, yt, yk, yl, yp, yn, yb, yv, ym, ok, ol, op, on, ob, ov, om, yc, yg, yf, yq, yu, ye) (nI k) (nI p) := by
  unfold wpY_choose
  have s3 : (¬ ∃ b, 0 < p ∧ yb (k - 1) = nI b ∧ b < 63 ∧ ym (b + 1) = 0) → (¬ ∃ b, p < 23 ∧ yb (k + 1) = nI b ∧ 0 < b ∧ b < 64 ∧ ym (b - 1) = 0) → wY_choose_103 post yr ys yd yh yt yk yl yp yn yb yv ym ok ol op on ob ov om yc yg yf yq yu ye := by
    intro a b
    unfold wY_choose_103
    exact jy_longest (fun L s hL => br_t rfl (h s (Or.inr (Or.inr ⟨a, b, L, hL⟩))))
  have s2 : (¬ ∃ b, 0 < p ∧ yb (k - 1) = nI b ∧ b < 63 ∧ ym (b + 1) = 0) → wY_choose_57 post (nI k) (nI p) yr ys yd yh yt yk yl yp yn yb yv ym ok ol op on ob ov om yc yg yf yq yu ye := by
    intro a
    refine pk_le 23 p (fun hh => s3 a (fun ⟨b, h1, _⟩ => by omega)) (fun hh => ?_)
    rw [nI_1]
    refine ⟨vp_in_nI (by omega) (by omega), ?_⟩
    rw [nI_clamp (by omega)]
    rcases hB (k + 1) (by omega) with z | ⟨b, hb, z⟩
    · rw [z]
      exact br_t (by decide) (s3 a (fun ⟨b, _, h2, _, h4, _⟩ => jv_m1n b (by omega) (by rw [← h2, z])))
    · rw [z]
      refine pk_le b 0 (fun e => s3 a ?_) (fun e => ⟨vp_in_nI (by omega) (by omega), ?_⟩)
      · rintro ⟨b', _, h2, h3, h4, _⟩
        rw [z] at h2
        have := jv_inj h2 (by omega) (by omega)
        omega
      · rw [show nI b - 1 = nI (b - 1) from by obtain ⟨c, rfl⟩ : ∃ c, b = c + 1 := ⟨b - 1, by omega⟩; rw [nI_pred]; rfl]
        refine ⟨vp_in_nI (by omega) (by omega), ?_⟩
        rw [nI_clamp (by omega)]
        refine br_c (fun hz => ⟨vp_in_nI (by omega) (by omega), h _ (Or.inr (Or.inl ⟨a, b, by omega, z, by omega, hb, hz, rfl⟩))⟩) (fun hz => s3 a ?_)
        rintro ⟨b', _, h2, h3, h4, h5⟩
        rw [z] at h2
        have := jv_inj h2 (by omega) (by omega)
        subst this
        exact hz h5
  refine pk_le p 0 (fun hh => s2 (fun ⟨b, h1, _⟩ => by omega)) (fun hh => ?_)
  rw [show nI k - 1 = nI (k - 1) from by obtain ⟨c, rfl⟩ : ∃ c, k = c + 1 := ⟨k - 1, by omega⟩; rw [nI_pred]; rfl]
  refine ⟨vp_in_nI (by omega) (by omega), ?_⟩
  rw [nI_clamp (by omega)]
  rcases hB (k - 1) (by omega) with z | ⟨b, hb, z⟩
  · rw [z]
    exact br_t (by decide) (s2 (fun ⟨b, _, h2, h4, _⟩ => jv_m1n b (by omega) (by rw [← h2, z])))
  · rw [z]
    refine br_f (nI_pos (by omega)) ⟨vp_in_nI (by omega) (by omega), pk_le 63 b (fun e => s2 ?_) (fun e => ⟨vp_in_nI (by omega) (by omega), ?_⟩)⟩
    · rintro ⟨b', _, h2, h3, h4⟩
      rw [z] at h2
      have := jv_inj h2 (by omega) (by omega)
      omega
    · rw [nI_1]
      refine ⟨vp_in_nI (by omega) (by omega), ?_⟩
      rw [nI_clamp (by omega)]
      refine br_c (fun hz => ⟨vp_in_nI (by omega) (by omega), h _ (Or.inl ⟨b, by omega, z, by omega, hz, rfl⟩)⟩) (fun hz => s2 ?_)
      rintro ⟨b', _, h2, h3, h4⟩
      rw [z] at h2
      have := jv_inj h2 (by omega) (by omega)
      subst this
      exact hz h4
end

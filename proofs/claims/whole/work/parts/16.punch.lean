/-! punch -/
def jp_hit (a m p : Nat) : Bool := decide (a ≤ p ∧ p < a + m)
def jp_go (B : Nat → Int32) (f a m p : Nat) : Bool := jp_hit a m p && decide (¬ B (24 * f + p) = -1)
def jp_rs (B : Nat → Int32) (f a m p : Nat) : Bool := !jp_hit a m p && (jp_be B f p || (decide (p = a + m) && decide (¬ B (24 * f + p) = -1)))
theorem jp_rs_ne {B : Nat → Int32} {f a m : Nat} (hm : 1 ≤ m) : jp_ne (jp_fl B (24 * f + a) m (-1)) f = jp_cn (jp_rs B f a m) 24 := by
  apply jp_cn_congr
  intro p hp
  unfold jp_rs jp_hit
  by_cases h : a ≤ p ∧ p < a + m
  · rw [decide_eq_true h]
    unfold jp_be
    rw [jp_fl_in (by omega) (by omega)]
    simp
  · rw [decide_eq_false h]
    unfold jp_be
    rw [jp_fl_out (by omega)]
    by_cases p0 : p = 0
    · subst p0
      by_cases e : 0 = a + m
      · simp [← e]
      · simp [e]
    · by_cases e : p = a + m
      · rw [jp_fl_in (by omega) (by omega)]
        simp [e]
        by_cases q : B (24 * f + (a + m)) = -1 <;> simp [q]
      · rw [jp_fl_out (by omega)]
        simp [e]
theorem jp_cn_split {f g h : Nat → Bool} {n : Nat} (e : ∀ i, i < n → (f i).toNat = (g i).toNat + (h i).toNat) : jp_cn f n = jp_cn g n + jp_cn h n := by
  induction n with
  | zero => rfl
  | succ n ih =>
    rw [jp_cn_1, jp_cn_1, jp_cn_1, ih (fun i hi => e i (by omega)), e n (by omega)]
    omega
theorem jp_go_cn {B : Nat → Int32} {f a m : Nat} : jp_cn (fun p => decide (¬ B (24 * f + p) = -1)) 24 = jp_cn (fun p => decide (¬ jp_fl B (24 * f + a) m (-1) (24 * f + p) = -1)) 24 + jp_cn (jp_go B f a m) 24 := by
  apply jp_cn_split
  intro p hp
  unfold jp_go jp_hit
  by_cases h : a ≤ p ∧ p < a + m
  · rw [decide_eq_true h, jp_fl_in (by omega) (by omega)]
    simp
  · rw [decide_eq_false h, jp_fl_out (by omega)]
    simp
section
variable {yr ys yd yh yt : Int32} {yk yl yp yn yb yv ym ok ol op on ob ov om yc yg yf yq yu ye : Nat → Int32}
theorem jy_punch_go {post : Int32 → SY → Prop} {r f a m : Nat} (hr : r ≤ 24) (hB : jp_BR yb) (hf : f < 16) (hk : yk f = 1) (ha : a < 24) (hm1 : 1 ≤ m) (hm : a + m ≤ 24)
    (hfull : r = 24 → post (-3) (nI r, ys, 0, yh, yt, yk, yl, yp, yn, yb, yv, ym, ok, ol, op, on, ob, ov, om, yc, yg, yf, yq, yu, ye))
    (hext : r < 24 → 5 < jp_cn (jp_rs yb f a m) 24 → post (-3) (nI r, ys, 0, yh, yt, yk, yl, yp, yn, yb, yv, ym, ok, ol, op, on, ob, ov, om, yc, yg, yf, yq, yu, ye))
    (h : r < 24 → jp_cn (jp_rs yb f a m) 24 ≤ 5 → post (nI (jp_cn (jp_go yb f a m) 24)) (nI (r + 1), ys, 0, yh, yt, yk, yl, yp, yn, jp_fl yb (24 * f + a) m (-1), yv, (jp_uh (24 * f + a) m yb ym).2, ok, ol, op, on, ob, ov, om, upd yc r 5, upd (upd (upd (upd yg (4 * r) (nI f)) (4 * r + 1) (nI a)) (4 * r + 2) (nI m)) (4 * r + 3) 0, yf, yq, yu, ye)) :
    wpY_punch post (nI r, ys, 0, yh, yt, yk, yl, yp, yn, yb, yv, ym, ok, ol, op, on, ob, ov, om, yc, yg, yf, yq, yu, ye) (nI f) (nI a) (nI m) := by
  unfold wpY_punch
  refine br_t rfl (jy_is (fun _ _ _ _ => br_f (by decide) (jy_in (M := 23) (by omega) (fun _ _ _ => br_f (by decide) ?_) (fun hh => absurd ⟨a, ha, rfl⟩ hh))) (fun hh => absurd ⟨f, hf, rfl, hk⟩ hh))
  refine br_f (nI_nlt (b := 1) (by omega) (by omega)) (br_t ?_ (pk_eq r 24 hfull (fun hr2 => ?_)))
  · rw [jv_24, pk_sub (by omega)]; exact nI_le (by omega) (by omega)
  have c1 := jp_cn_le (jp_rs yb f a m) 24
  refine pk_loop (σ := Nat × Nat) (fun n i s => wY_punch_62 post (nI f) (nI a) (nI m) (nI r) ys 0 yh yt yk yl yp yn yb yv ym ok ol op on ob ov om yc yg yf yq yu ye n (nI s.1) (nI s.2) (nI i)) (fun i s => s = (jp_cn (jp_go yb f a m) i, jp_cn (jp_rs yb f a m) i)) 24 0 (0, 0) (by omega) rfl (fun n s hI => br_t (nI_le (a := 24) (by omega) (by omega)) ?_) (fun n i s hi hI ih => br_f (nI_ge (b := 24) hi (by omega)) (nm_r (jv_e24 f i) ?_))
  · subst hI
    refine pk_le (jp_cn (jp_rs yb f a m) 24) 5 (fun h5 => ?_) (fun h5 => hext (by omega) h5)
    have h := h (by omega) h5
    rw [← jp_uh_1 _ _ yb ym] at h
    refine jv_fold (σ := (Nat → Int32) × (Nat → Int32)) (fun n j s => wY_punch_183 post (nI f) (nI a) (nI m) (nI (jp_cn (jp_go yb f a m) 24)) n (nI (a + j)) (nI r) ys 0 yh yt yk yl yp yn (s.1) yv (s.2) ok ol op on ob ov om yc yg yf yq yu ye) (fun j s => jp_um (24 * f + a + j) s) m (yb, ym) (fun _ s => jp_BR s.1) hB (fun i s hi hJ => by rw [jp_um_1]; exact jp_BR_upd hJ _) (fun n => br_t ?_ (jy_note (by omega) h)) (fun n j s hj hJ ih => br_f ?_ ?_)
    · rw [nI_add]; exact nI_le (by omega) (by omega)
    · rw [nI_add]; exact nI_ge (by omega) (by omega)
    · rw [jv_e24]
      refine jy_unmap (by omega) hJ (nm_r (nI_1 _) ?_)
      rw [← Nat.add_assoc]
      exact ih
  · subst hI
    have hv : vp_in (nI (24 * f + i)) 384 := vp_in_nI (by omega) (by omega)
    have e1 : jp_cn (jp_go yb f a m) (i + 1) = jp_cn (jp_go yb f a m) i + (jp_go yb f a m i).toNat := rfl
    have e2 : jp_cn (jp_rs yb f a m) (i + 1) = jp_cn (jp_rs yb f a m) i + (jp_rs yb f a m i).toNat := rfl
    have ih := ih _ rfl
    rw [e1, e2] at ih
    generalize jp_cn (jp_go yb f a m) i = g at ih ⊢
    generalize jp_cn (jp_rs yb f a m) i = s at ih ⊢
    dsimp only at ih ⊢
    -- behind the test of 'hit': x8 says it
    have tail : ∀ (x8 : Int32) (g' : Nat), ((x8 = 0 ∧ jp_hit a m i = false) ∨ (x8 = 1 ∧ jp_hit a m i = true)) → g' = g + (jp_go yb f a m i).toNat → wY_punch_117 post (wY_punch_62 post (nI f) (nI a) (nI m) (nI r) ys 0 yh yt yk yl yp yn yb yv ym ok ol op on ob ov om yc yg yf yq yu ye n) (nI f) (nI a) (nI m) (nI g') (nI s) (nI i) (nI (24 * f + i)) x8 (nI r) ys 0 yh yt yk yl yp yn yb yv ym ok ol op on ob ov om yc yg yf yq yu ye := by
      intro x8 g' hx eg
      subst eg
      have one : jp_be yb f i = true ∨ (i = a + m ∧ ¬ yb (24 * f + i) = -1) → wY_punch_145 post (wY_punch_62 post (nI f) (nI a) (nI m) (nI r) ys 0 yh yt yk yl yp yn yb yv ym ok ol op on ob ov om yc yg yf yq yu ye n) (nI f) (nI a) (nI m) (nI (g + (jp_go yb f a m i).toNat)) (nI s) (nI i) x8 (nI r) ys 0 yh yt yk yl yp yn yb yv ym ok ol op on ob ov om yc yg yf yq yu ye := by
        intro hb
        rcases hx with ⟨q, hh⟩ | ⟨q, hh⟩
        · subst q
          refine br_t rfl (br_f (by decide) (nm_r (nI_1 _) (nm_r (nI_1 _) ?_)))
          rw [show jp_rs yb f a m i = true from by unfold jp_rs; rw [hh]; exact hb.elim (fun z => by rw [z]; rfl) (fun z => by rw [decide_eq_true z.1, decide_eq_true z.2]; simp)] at ih
          exact ih
        · subst q
          refine br_f (by decide) (nm_r (nI_1 _) ?_)
          rw [show jp_rs yb f a m i = false from by unfold jp_rs; rw [hh]; rfl] at ih
          exact ih
      have none : jp_be yb f i = false → ¬ (i = a + m ∧ ¬ yb (24 * f + i) = -1) → wY_punch_149 post (wY_punch_62 post (nI f) (nI a) (nI m) (nI r) ys 0 yh yt yk yl yp yn yb yv ym ok ol op on ob ov om yc yg yf yq yu ye n) (nI f) (nI a) (nI m) (nI (g + (jp_go yb f a m i).toNat)) (nI s) (nI i) x8 (nI r) ys 0 yh yt yk yl yp yn yb yv ym ok ol op on ob ov om yc yg yf yq yu ye := by
        intro hb hc
        have hrs : jp_rs yb f a m i = false := by
          unfold jp_rs
          rw [hb]
          by_cases q : i = a + m
          · have : yb (24 * f + i) = -1 := Classical.byContradiction fun z => hc ⟨q, z⟩
            rw [this]; simp
          · simp [q]
        rw [hrs] at ih
        rcases hx with ⟨q, hh⟩ | ⟨q, hh⟩
        · subst q
          exact br_t rfl (br_t rfl (nm_r (nI_1 _) ih))
        · subst q
          exact br_f (by decide) (nm_r (nI_1 _) ih)
      refine jy_begins hB hf hi (fun hb => br_f (by decide) (one (Or.inl hb))) (fun hb => br_t rfl ?_)
      rw [nI_add]
      refine pk_eq i (a + m) (fun e => ⟨hv, ?_⟩) (fun e => none hb (fun z => e z.1))
      rw [nI_clamp (by omega), jp_neg (by omega) (hB (24 * f + i) (by omega))]
      exact br_c (fun z => none hb (fun q => q.2 z)) (fun z => one (Or.inr ⟨e, z⟩))
    have out : jp_hit a m i = false → wY_punch_97 post (wY_punch_62 post (nI f) (nI a) (nI m) (nI r) ys 0 yh yt yk yl yp yn yb yv ym ok ol op on ob ov om yc yg yf yq yu ye n) (nI f) (nI a) (nI m) (nI g) (nI s) (nI i) (nI (24 * f + i)) 0 (nI r) ys 0 yh yt yk yl yp yn yb yv ym ok ol op on ob ov om yc yg yf yq yu ye :=
      fun hh => br_t rfl (tail 0 g (Or.inl ⟨rfl, hh⟩) (by unfold jp_go; rw [hh]; rfl))
    refine pk_lt i a (fun z => out (by unfold jp_hit; simp; omega)) (fun z => ?_)
    rw [nI_add]
    refine pk_le (a + m) i (fun z2 => out (by unfold jp_hit; simp; omega)) (fun z2 => br_f (by decide) ⟨hv, ?_⟩)
    have hh : jp_hit a m i = true := by unfold jp_hit; simp; omega
    rw [nI_clamp (by omega), jp_neg (by omega) (hB (24 * f + i) (by omega))]
    refine br_c (fun q => tail 1 g (Or.inr ⟨rfl, hh⟩) (by unfold jp_go; rw [hh, q]; rfl)) (fun q => nm_r (nI_1 _) (tail 1 (g + 1) (Or.inr ⟨rfl, hh⟩) (by unfold jp_go; rw [hh]; simp [q])))
end
theorem jp_run_punch {K L P N B V M : Nat → Int32} {r f a m : Nat} (hr : r < 24) (hB : jp_BR B) (hf : f < 16) (hk : K f = 1) (ha : a < 24) (hm1 : 1 ≤ m) (hm : a + m ≤ 24) (h5' : jp_cn (jp_rs B f a m) 24 ≤ 5) :
    jp_Run r 5 (nI f) (nI a) (nI m) 0 (K, L, P, N, B, V, M) (K, L, P, N, jp_fl B (24 * f + a) m (-1), V, (jp_uh (24 * f + a) m B M).2) := by
  intro post ys yh yt ok ol op on ob ov om yc yg yf yq yu ye h1 h2 h3 h4 h5 hp'
  refine jy_again hr h1 h2 h3 h4 h5 ⟨fun e => absurd e (by decide), fun e => absurd e (by decide), fun e => absurd e (by decide), fun e => absurd e (by decide), fun e => absurd e (by decide), fun _ => ?_⟩ (Or.inr (Or.inr (Or.inr (Or.inr (Or.inr rfl)))))
  refine jy_punch_go (by omega) hB hf hk ha hm1 hm (fun z => by omega) (fun _ z => by omega) (fun _ _ => ?_)
  rw [jp_updI h1, jp_upd4 h2 h3 h4 h5]
  exact hp'
theorem jp_ne_out {B : Nat → Int32} {f a m j : Nat} (hm : a + m ≤ 24) (h : j ≠ f) : jp_ne (jp_fl B (24 * f + a) m (-1)) j = jp_ne B j := by
  apply jp_cn_congr
  intro q hq
  unfold jp_be
  rw [jp_fl_out (by omega)]
  by_cases e : q = 0
  · simp only [e, true_or, and_true]
  · rw [jp_fl_out (by omega)]
theorem jp_punch_I0 {K L P N B V M : Nat → Int32} {f a m : Nat} (h : jp_I0 (K, L, P, N, B, V, M)) (hf : f < 16) (hm : a + m ≤ 24) (h5 : jp_ne (jp_fl B (24 * f + a) m (-1)) f ≤ 5) :
    jp_I0 (K, L, P, N, jp_fl B (24 * f + a) m (-1), V, (jp_uh (24 * f + a) m B M).2) := by
  obtain ⟨hZ, hK, hK0, hPR, hP0, hL0, hN, hNE, hEN, hB, hBE, hXN⟩ := h
  refine ⟨⟨hZ.1, hZ.2.1, fun i hi => ?_, fun i hi => ⟨(hZ.2.2.2 i hi).1, jp_uh_z hB (fun j hj => (hZ.2.2.2 j hj).2) (by omega) i hi⟩⟩, hK, hK0, hPR, hP0, hL0, hN, hNE, hEN, jp_BR_fl hB _ _, fun i hi hk1 q hq => ?_, fun i hi => ?_⟩
  · rw [jp_fl_out (by omega)]; exact hZ.2.2.1 i hi
  · by_cases e : 24 * f + a ≤ 24 * i + q ∧ 24 * i + q < 24 * f + a + m
    · exact jp_fl_in e.1 e.2
    · rw [jp_fl_out (by omega)]; exact hBE i hi hk1 q hq
  · by_cases e : i = f
    · rw [e]; exact h5
    · rw [jp_ne_out hm e]; exact hXN i hi
theorem i_vc_punch {k : Nat} {u : SX} {v : SY} (I : i_Rel k u v) (hk : k + 5 ≤ 2560) (v1 : Int32) (v2 : Int32) (v3 : Int32) : wpX_punch (fun r u' => wpY_punch (fun r' v' => r' = r ∧ i_Rel (k + 5) u' v') v v1 v2 v3) u v1 v2 v3 := by
  have I' : i_Rel (k + 5) u v := I
  obtain ⟨S, r, s, d, xw, yh, yt, K, L, P, N, B, V, M, bk, bl, bp, bn, bb, bm, bh, xq, ok, ol, op, on, ob, ov, om, yc, yg, yq, F, T, U, rfl, rfl, hS, hS0, hr, hs, hd, hLog⟩ := I
  have hI := hLog.1 r (Nat.le_refl r)
  have hJ := fun h => hLog.2.1 h r (Nat.le_refl r)
  rw [hS] at hI hJ
  have hI2 := hI
  obtain ⟨hZ, hK, hK0, hPR, hP0, hL0, hN, hNE, hEN, hB, hBE, hXN⟩ := hI
  unfold wpX_punch
  refine br_c (fun e => ?_) (fun e => br_f e ⟨rfl, I'⟩)
  subst e
  have hJ := hJ rfl
  refine jx_isFile (fun f hf e hkf => br_f (by decide) (jx_isPosition (fun a ha e2 => br_f (by decide) ?_) (fun hno => br_t rfl ?_))) (fun hno => br_t rfl ?_)
  · subst e e2
    have bad : (v3 < 1 ∨ ¬ v3 ≤ 24 - nI a) → wpY_punch (fun r' v' => r' = -1 ∧ i_Rel (k + 5) (nI r, nI s, 0, xw, K, L, jp_pi K P, jp_ro N, B, M, V, bk, bl, bp, bn, bb, bm, bh, F, T, xq, U) v') (nI r, nI s, 0, yh, yt, K, L, P, N, B, V, M, ok, ol, op, on, ob, ov, om, yc, yg, F, yq, U, T) (nI f) (nI a) v3 := by
      intro hbad
      unfold wpY_punch
      refine br_t rfl (jy_is (fun _ _ _ _ => br_f (by decide) (jy_in (M := 23) (by omega) (fun _ _ _ => br_f (by decide) ?_) (fun hh => absurd ⟨a, ha, rfl⟩ hh))) (fun hh => absurd ⟨f, hf, rfl, hkf⟩ hh))
      refine br_c (fun _ => ⟨rfl, I'⟩) (fun z => ?_)
      rcases hbad with q | q
      · exact absurd q z
      · exact br_f q ⟨rfl, I'⟩
    refine br_c (fun z => bad (Or.inl z)) (fun z => br_c (fun z2 => ?_) (fun z2 => bad (Or.inr z2)))
    clear bad
    have h0 : ¬ v3 < 0 := fun q => z (Int32.lt_trans q (by decide))
    obtain ⟨m, hm, rfl⟩ := nI_of h0
    rw [jv_24, pk_sub (by omega), nI_leI hm (by omega)] at z2
    have hm1 : 1 ≤ m := by
      apply Nat.le_of_not_lt
      intro q
      exact z (nI_lt (b := 1) q (by omega))
    have ham : a + m ≤ 24 := by omega
    have c1 := jp_cn_le (jp_rs B f a m) 24
    refine jx_isFullLog hr (fun hl => br_f (by decide) (jy_punch_go hr hB hf hkf ha hm1 ham (fun _ => ⟨rfl, I'⟩) (fun z => by omega) (fun z => by omega))) (fun hl => br_t rfl (jx_countMapped hf (jx_openRecord hl (jx_makeHoles hf ham hB (jx_tookBack hf hl (fun h5 => br_t rfl (jx_countMapped hf ?_)) (fun h5 => br_f (by decide) ?_))))))
    · have h5' := h5
      rw [jp_rs_ne hm1] at h5
      have e := jp_go_cn (B := B) (f := f) (a := a) (m := m)
      rw [e, pk_sub (by omega), Nat.add_sub_cancel_left]
      refine jy_punch_go hr hB hf hkf ha hm1 ham (fun z => by omega) (fun _ z => by omega) (fun _ _ => ⟨rfl, ?_⟩)
      exact jr_push hS hS0 hl hs rfl hLog (jp_punch_I0 hI2 hf ham h5') ⟨hJ.1, hJ.2.1, jp_UB_uh hB hJ.2.2.1 (by omega), hJ.2.2.2⟩ (jp_run_punch hl hB hf hkf ha hm1 ham h5)
    · rw [jp_rs_ne hm1] at h5
      rw [jp_rb (fun i hi => (hZ.1 i hi).1) (fun i hi => (hZ.1 i hi).1), jp_rb (fun i hi => (hZ.1 i hi).2.1) (fun i hi => (hZ.1 i hi).2.1), jp_rb (jp_pi_z (fun i hi => (hZ.1 i hi).1)) (jp_pi_z (fun i hi => (hZ.1 i hi).1)), jp_rb (jp_ro_z hZ.2.1) (jp_ro_z hZ.2.1), jp_rb (a := B) (fun i hi => by rw [jp_fl_out (by omega)]; exact hZ.2.2.1 i hi) hZ.2.2.1, jp_rb (a := M) (jp_uh_z hB (fun j hj => (hZ.2.2.2 j hj).2) (by omega)) (fun i hi => (hZ.2.2.2 i hi).2), jp_rb (a := V) (fun i hi => (hZ.2.2.2 i hi).1) (fun i hi => (hZ.2.2.2 i hi).1)]
      exact jy_punch_go hr hB hf hkf ha hm1 ham (fun z => by omega) (fun _ _ => ⟨rfl, jr_back hS hS0 hl hs rfl hLog⟩) (fun _ z => by omega)
  · unfold wpY_punch
    exact br_t rfl (jy_is (fun _ _ _ _ => br_f (by decide) (jy_in (M := 23) (by omega) (fun n hn e => absurd ⟨n, hn, e⟩ hno) (fun _ => br_t rfl ⟨rfl, I'⟩))) (fun _ => br_t rfl ⟨rfl, I'⟩))
  · unfold wpY_punch
    exact br_t rfl (jy_is (fun a ha e hk => absurd ⟨a, ha, e, hk⟩ hno) (fun _ => br_t rfl ⟨rfl, I'⟩))

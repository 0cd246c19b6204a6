/-! write -/
section
variable {yr ys yd yh yt : Int32} {yk yl yp yn yb yv ym ok ol op on ob ov om yc yg yf yq yu ye : Nat → Int32}
theorem jy_write_go {post : Int32 → SY → Prop} {r f p : Nat} {v : Int32} (hr : r ≤ 24) (hB : jp_BR yb) (hf : f < 16) (hk : yk f = 1) (hp : p < 24)
    (hfull : r = 24 → post (-3) (nI r, ys, 0, yh, yt, yk, yl, yp, yn, yb, yv, ym, ok, ol, op, on, ob, ov, om, yc, yg, yf, yq, yu, ye))
    (hold : ∀ b, b < 64 → yb (24 * f + p) = nI b → r < 24 → post (nI b) (nI (r + 1), ys, 0, yh, yt, yk, yl, yp, yn, yb, upd yv b v, ym, ok, ol, op, on, ob, ov, om, upd yc r 4, upd (upd (upd (upd yg (4 * r) (nI f)) (4 * r + 1) (nI p)) (4 * r + 2) v) (4 * r + 3) 0, yf, yq, yu, ye))
    (hnone : yb (24 * f + p) = -1 → r < 24 → jp_CH yb ym (24 * f + p) p (-1) → post (-3) (nI r, ys, 0, yh, yt, yk, yl, yp, yn, yb, yv, ym, ok, ol, op, on, ob, ov, om, yc, yg, yf, yq, yu, ye))
    (hext : ∀ b, b < 64 → yb (24 * f + p) = -1 → r < 24 → jp_CH yb ym (24 * f + p) p (nI b) → 5 < jp_ne (upd yb (24 * f + p) (nI b)) f → post (-3) (nI r, ys, 0, yh, yt, yk, yl, yp, yn, yb, yv, ym, ok, ol, op, on, ob, ov, om, yc, yg, yf, yq, yu, ye))
    (hnew : ∀ b, b < 64 → yb (24 * f + p) = -1 → r < 24 → jp_CH yb ym (24 * f + p) p (nI b) → jp_ne (upd yb (24 * f + p) (nI b)) f ≤ 5 → post (nI b) (nI (r + 1), ys, 0, yh, yt, yk, yl, yp, yn, upd yb (24 * f + p) (nI b), upd yv b v, upd ym b 1, ok, ol, op, on, ob, ov, om, upd yc r 4, upd (upd (upd (upd yg (4 * r) (nI f)) (4 * r + 1) (nI p)) (4 * r + 2) v) (4 * r + 3) 0, yf, yq, yu, ye)) :
    wpY_write post (nI r, ys, 0, yh, yt, yk, yl, yp, yn, yb, yv, ym, ok, ol, op, on, ob, ov, om, yc, yg, yf, yq, yu, ye) (nI f) (nI p) v := by
  unfold wpY_write
  refine br_t rfl (jy_is (fun _ _ _ _ => br_f (by decide) (jy_in (M := 23) (by omega) (fun _ _ _ => br_f (by decide) (pk_eq r 24 hfull (fun hr2 => nm_r (jv_e24 f p) ⟨vp_in_nI (by omega) (by omega), ?_⟩))) (fun hh => absurd ⟨p, hp, rfl⟩ hh))) (fun hh => absurd ⟨f, hf, rfl, hk⟩ hh))
  rw [nI_clamp (n := 24 * f + p) (by omega)]
  have hv : vp_in (nI (24 * f + p)) 384 := vp_in_nI (by omega) (by omega)
  rcases hB (24 * f + p) (by omega) with z | ⟨b, hb, z⟩
  · rw [z]
    refine br_f (by decide) (jy_choose hB (by omega) (by omega) hp (fun c hc => ?_))
    rcases jp_CH_r hc with e | ⟨b, hb, e⟩
    · subst e
      exact br_f (by decide) (hnone z (by omega) hc)
    · subst e
      have hB' : jp_BR (upd yb (24 * f + p) (nI b)) := by
        intro s hs
        by_cases e : s = 24 * f + p
        · rw [e, pk_us]; exact Or.inr ⟨b, hb, rfl⟩
        · rw [pk_un e]; exact hB s hs
      refine br_t (nI_pos' (by omega)) ⟨hv, nm_e (jy_extents hB' hf ?_)⟩
      have := jp_cn_le (jp_be (upd yb (24 * f + p) (nI b)) f) 24
      have e : jp_ne (upd yb (24 * f + p) (nI b)) f = jp_cn (jp_be (upd yb (24 * f + p) (nI b)) f) 24 := rfl
      refine pk_le (jp_ne (upd yb (24 * f + p) (nI b)) f) 5 (fun h5 => ⟨vp_in_nI hb (by omega), ?_⟩) (fun h5 => ⟨hv, nm_r (e' := yb) ?_ (hext b hb z (by omega) hc h5)⟩)
      · rw [nI_clamp (n := b) (by omega)]
        refine nm_e ⟨hv, ?_⟩
        rw [nI_clamp (n := 24 * f + p) (by omega), pk_us]
        refine ⟨vp_in_nI hb (by omega), ?_⟩
        rw [nI_clamp (n := b) (by omega)]
        refine nm_e (jy_note (by omega) ⟨hv, ?_⟩)
        rw [pk_us]
        exact hnew b hb z (by omega) hc h5
      · funext j
        by_cases e : j = 24 * f + p
        · rw [e, pk_us, z]
        · rw [pk_un e, pk_un e]
  · rw [z]
    refine br_t (nI_pos' (by omega)) ⟨hv, ?_⟩
    rw [nI_clamp (n := 24 * f + p) (by omega), z]
    refine ⟨vp_in_nI hb (by omega), ?_⟩
    rw [nI_clamp (n := b) (by omega)]
    refine nm_e (jy_note (by omega) ⟨hv, ?_⟩)
    rw [z]
    exact hold b hb z (by omega)
end
theorem jp_run_write1 {K L P N B V M : Nat → Int32} {r f p b : Nat} {v : Int32} (hr : r < 24) (hB : jp_BR B) (hf : f < 16) (hk : K f = 1) (hp : p < 24) (hb : b < 64) (z : B (24 * f + p) = nI b) :
    jp_Run r 4 (nI f) (nI p) v 0 (K, L, P, N, B, V, M) (K, L, P, N, B, upd V b v, M) := by
  intro post ys yh yt ok ol op on ob ov om yc yg yf yq yu ye h1 h2 h3 h4 h5 hp'
  refine jy_again hr h1 h2 h3 h4 h5 ⟨fun e => absurd e (by decide), fun e => absurd e (by decide), fun e => absurd e (by decide), fun e => absurd e (by decide), fun _ => ?_, fun e => absurd e (by decide)⟩ (Or.inr (Or.inr (Or.inr (Or.inr (Or.inl rfl)))))
  have no : ¬ B (24 * f + p) = -1 := fun e => jv_m1n b (by omega) (z.symm.trans e)
  refine jy_write_go (by omega) hB hf hk hp (fun z => by omega) (fun b' hb' z' _ => ?_) (fun z => absurd z no) (fun _ _ z => absurd z no) (fun _ _ z => absurd z no)
  rw [z] at z'
  rw [← jv_inj z' (by omega) (by omega), jp_updI h1, jp_upd4 h2 h3 h4 h5]
  exact hp'
theorem jp_run_write2 {K L P N B V M : Nat → Int32} {r f p b : Nat} {v : Int32} (hr : r < 24) (hB : jp_BR B) (hf : f < 16) (hk : K f = 1) (hp : p < 24) (hb : b < 64) (z : B (24 * f + p) = -1) (hc : jp_CH B M (24 * f + p) p (nI b)) (h5' : jp_ne (upd B (24 * f + p) (nI b)) f ≤ 5) :
    jp_Run r 4 (nI f) (nI p) v 0 (K, L, P, N, B, V, M) (K, L, P, N, upd B (24 * f + p) (nI b), upd V b v, upd M b 1) := by
  intro post ys yh yt ok ol op on ob ov om yc yg yf yq yu ye h1 h2 h3 h4 h5 hp'
  refine jy_again hr h1 h2 h3 h4 h5 ⟨fun e => absurd e (by decide), fun e => absurd e (by decide), fun e => absurd e (by decide), fun e => absurd e (by decide), fun _ => ?_, fun e => absurd e (by decide)⟩ (Or.inr (Or.inr (Or.inr (Or.inr (Or.inl rfl)))))
  have same : ∀ b', b' < 64 → jp_CH B M (24 * f + p) p (nI b') → b' = b := fun b' hb' h => jv_inj (jp_CH_un h hc) (by omega) (by omega)
  refine jy_write_go (by omega) hB hf hk hp (fun z => by omega) (fun b' hb' z' _ => absurd (z'.symm.trans z) (jv_m1n b' (by omega))) (fun _ _ h => absurd (jp_CH_un h hc).symm (jv_m1n b (by omega))) (fun b' hb' _ _ h q => ?_) (fun b' hb' _ _ h q => ?_)
  · rw [same b' hb' h] at q; omega
  · rw [same b' hb' h, jp_updI h1, jp_upd4 h2 h3 h4 h5]
    exact hp'
theorem jp_CH_0 {B M : Nat → Int32} {k p b : Nat} (hb : b < 64) (h : jp_CH B M k p (nI b)) : M b = 0 := by
  rcases h with ⟨c, a1, a2, a3, a4, a5⟩ | ⟨an, c, a1, a2, a3, a4, a5, a6⟩ | ⟨an, am, L, a⟩
  · rw [jv_inj a5 (by omega) (by omega)]; exact a4
  · rw [jv_inj a6 (by omega) (by omega)]; exact a5
  · rcases a.2 with ⟨_, e⟩ | ⟨c, hc, e, hr, hl, _⟩
    · exact absurd e (jv_m1n b (by omega))
    · rw [jv_inj e (by omega) (by omega)]; exact hr.2.1 0 hl
theorem jp_ne_un {B : Nat → Int32} {f p j : Nat} {c : Int32} (hp : p < 24) (h : j ≠ f) : jp_ne (upd B (24 * f + p) c) j = jp_ne B j := by
  apply jp_cn_congr
  intro q hq
  unfold jp_be
  rw [pk_un (by omega)]
  by_cases e : q = 0
  · simp only [e, true_or, and_true]
  · rw [pk_un (by omega)]
theorem jp_write_I0 {K L P N B V M : Nat → Int32} {f p b : Nat} {v : Int32} (h : jp_I0 (K, L, P, N, B, V, M)) (hf : f < 16) (hk : K f = 1) (hp : p < 24) (hb : b < 64) (h5 : jp_ne (upd B (24 * f + p) (nI b)) f ≤ 5) :
    jp_I0 (K, L, P, N, upd B (24 * f + p) (nI b), upd V b v, upd M b 1) := by
  obtain ⟨hZ, hK, hK0, hPR, hP0, hL0, hN, hNE, hEN, hB, hBE, hXN⟩ := h
  refine ⟨⟨hZ.1, hZ.2.1, fun i hi => ?_, fun i hi => ?_⟩, hK, hK0, hPR, hP0, hL0, hN, hNE, hEN, fun s hs => ?_, fun i hi hk1 q hq => ?_, fun i hi => ?_⟩
  · rw [pk_un (by omega)]; exact hZ.2.2.1 i hi
  · rw [pk_un (by omega), pk_un (by omega)]; exact hZ.2.2.2 i hi
  · by_cases e : s = 24 * f + p
    · rw [e, pk_us]; exact Or.inr ⟨b, hb, rfl⟩
    · rw [pk_un e]; exact hB s hs
  · have : i ≠ f := fun e => hk1 (by rw [e]; exact hk)
    rw [pk_un (by omega)]; exact hBE i hi hk1 q hq
  · by_cases e : i = f
    · rw [e]; exact h5
    · rw [jp_ne_un hp e]; exact hXN i hi
theorem jp_write_UB {B M : Nat → Int32} {k b : Nat} (hk : k < 384) (hb : b < 64) (h : jp_UB B M) (h0 : M b = 0) : jp_UB (upd B k (nI b)) (upd M b 1) := by
  have free : ∀ s, s < 384 → ¬ B s = nI b := fun s hs e => by
    have := h.2 s b hs hb e
    rw [h0] at this
    exact absurd this (by decide)
  refine ⟨fun s t c hs ht hc e1 e2 => ?_, fun s c hs hc e => ?_⟩
  · by_cases es : s = k
    · by_cases et : t = k
      · omega
      · rw [es, pk_us] at e1
        rw [pk_un et, ← e1] at e2
        exact absurd e2 (free t ht)
    · by_cases et : t = k
      · rw [et, pk_us] at e2
        rw [pk_un es, ← e2] at e1
        exact absurd e1 (free s hs)
      · rw [pk_un es] at e1
        rw [pk_un et] at e2
        exact h.1 s t c hs ht hc e1 e2
  · by_cases ec : c = b
    · rw [ec, pk_us]
    · rw [pk_un ec]
      by_cases es : s = k
      · rw [es, pk_us] at e
        exact absurd (jv_inj e (by omega) (by omega)).symm ec
      · rw [pk_un es] at e
        exact h.2 s c hs hc e
theorem jp_val_I0 {K L P N B V M : Nat → Int32} {b : Nat} {v : Int32} (h : jp_I0 (K, L, P, N, B, V, M)) (hb : b < 64) : jp_I0 (K, L, P, N, B, upd V b v, M) := by
  obtain ⟨hZ, h⟩ := h
  exact ⟨⟨hZ.1, hZ.2.1, hZ.2.2.1, fun i hi => ⟨by rw [pk_un (by omega)]; exact (hZ.2.2.2 i hi).1, (hZ.2.2.2 i hi).2⟩⟩, h⟩
theorem i_vc_write {k : Nat} {u : SX} {v : SY} (I : i_Rel k u v) (hk : k + 5 ≤ 2560) (v1 : Int32) (v2 : Int32) (v3 : Int32) : wpX_write (fun r u' => wpY_write (fun r' v' => r' = r ∧ i_Rel (k + 5) u' v') v v1 v2 v3) u v1 v2 v3 := by
  have I' : i_Rel (k + 5) u v := I
  obtain ⟨S, r, s, d, xw, yh, yt, K, L, P, N, B, V, M, bk, bl, bp, bn, bb, bm, bh, xq, ok, ol, op, on, ob, ov, om, yc, yg, yq, F, T, U, rfl, rfl, hS, hS0, hr, hs, hd, hLog⟩ := I
  have hI := hLog.1 r (Nat.le_refl r)
  have hJ := fun h => hLog.2.1 h r (Nat.le_refl r)
  rw [hS] at hI hJ
  have hI2 := hI
  obtain ⟨hZ, hK, hK0, hPR, hP0, hL0, hN, hNE, hEN, hB, hBE, hXN⟩ := hI
  unfold wpX_write
  refine br_c (fun e => ?_) (fun e => br_f e ⟨rfl, I'⟩)
  subst e
  have hJ := hJ rfl
  refine jx_isFile (fun f hf e hkf => br_f (by decide) (jx_isPosition (fun p hp e2 => br_f (by decide) ?_) (fun hno => br_t rfl ?_))) (fun hno => br_t rfl ?_)
  · subst e e2
    refine jx_isFullLog hr (fun hl => br_f (by decide) (jy_write_go hr hB hf hkf hp (fun _ => ⟨rfl, I'⟩) (fun _ _ _ z => by omega) (fun _ z => by omega) (fun _ _ _ z => by omega) (fun _ _ _ z => by omega))) (fun hl => br_t rfl (nm_r (jv_f24 f p) ⟨vp_in_nI (by omega) (by omega), ?_⟩))
    rw [nI_clamp (n := 24 * f + p) (by omega)]
    have hv : vp_in (nI (24 * f + p)) 384 := vp_in_nI (by omega) (by omega)
    refine nm_e (br_c (fun z => jx_chooseBlock hB hf hp (fun c hc => ?_)) (fun z => ?_))
    · rcases jp_CH_r hc with e | ⟨b, hb, e⟩
      · subst e
        exact br_t rfl (jy_write_go hr hB hf hkf hp (fun z => by omega) (fun b hb z' => absurd (z'.symm.trans z) (jv_m1n b (by omega))) (fun _ _ _ => ⟨rfl, I'⟩) (fun b hb _ _ h => absurd (jp_CH_un h hc) (jv_m1n b (by omega))) (fun b hb _ _ h => absurd (jp_CH_un h hc) (jv_m1n b (by omega))))
      · subst e
        have same : ∀ b', b' < 64 → jp_CH B M (24 * f + p) p (nI b') → b' = b := fun b' hb' h => jv_inj (jp_CH_un h hc) (by omega) (by omega)
        refine br_f (jv_m1n b (by omega)) (jx_openRecord hl ?_)
        rw [nI_clamp (n := 24 * f + p) (by omega), nI_clamp (n := b) (by omega)]
        refine ⟨hv, nm_e ⟨vp_in_nI hb (by omega), nm_e ⟨vp_in_nI hb (by omega), nm_e (jx_tookBack hf hl (fun h5 => br_t rfl ?_) (fun h5 => br_f (by decide) ?_))⟩⟩⟩
        · refine jy_write_go hr hB hf hkf hp (fun z => by omega) (fun b hb z' => absurd (z'.symm.trans z) (jv_m1n b (by omega))) (fun _ _ h => absurd (jp_CH_un h hc).symm (jv_m1n b (by omega))) (fun b' hb' _ _ h q => ?_) (fun b' hb' _ _ h q => ?_)
          · rw [same b' hb' h] at q; omega
          · rw [same b' hb' h]
            exact ⟨rfl, jr_push hS hS0 hl hs rfl hLog (jp_write_I0 hI2 hf hkf hp hb h5) ⟨hJ.1, hJ.2.1, jp_write_UB (by omega) hb hJ.2.2.1 (jp_CH_0 hb hc), hJ.2.2.2⟩ (jp_run_write2 hl hB hf hkf hp hb z hc h5)⟩
        · rw [jp_rb (fun i hi => (hZ.1 i hi).1) (fun i hi => (hZ.1 i hi).1), jp_rb (fun i hi => (hZ.1 i hi).2.1) (fun i hi => (hZ.1 i hi).2.1), jp_rb (jp_pi_z (fun i hi => (hZ.1 i hi).1)) (jp_pi_z (fun i hi => (hZ.1 i hi).1)), jp_rb (jp_ro_z hZ.2.1) (jp_ro_z hZ.2.1), jp_rb (a := B) (fun i hi => by rw [pk_un (by omega)]; exact hZ.2.2.1 i hi) hZ.2.2.1, jp_rb (a := M) (fun i hi => by rw [pk_un (by omega)]; exact (hZ.2.2.2 i hi).2) (fun i hi => (hZ.2.2.2 i hi).2), jp_rb (a := V) (fun i hi => by rw [pk_un (by omega)]; exact (hZ.2.2.2 i hi).1) (fun i hi => (hZ.2.2.2 i hi).1)]
          refine jy_write_go hr hB hf hkf hp (fun z => by omega) (fun b hb z' => absurd (z'.symm.trans z) (jv_m1n b (by omega))) (fun _ _ h => absurd (jp_CH_un h hc).symm (jv_m1n b (by omega))) (fun b' hb' _ _ h q => ⟨rfl, jr_back hS hS0 hl hs rfl hLog⟩) (fun b' hb' _ _ h q => ?_)
          rw [same b' hb' h] at q; omega
    · rcases hB (24 * f + p) (by omega) with z' | ⟨b, hb, z'⟩
      · exact absurd z' z
      · rw [z']
        refine br_f (jv_m1n b (by omega)) (jx_openRecord hl ?_)
        rw [nI_clamp (n := 24 * f + p) (by omega), nI_clamp (n := b) (by omega)]
        refine ⟨hv, nm_r (jp_updI z') ⟨vp_in_nI hb (by omega), nm_r (jp_updI (hJ.2.2.1.2 _ b (by omega) hb z')) ⟨vp_in_nI hb (by omega), nm_e (jx_tookBack hf hl (fun h5 => br_t rfl ?_) (fun h5 => absurd (hXN f hf) (by omega)))⟩⟩⟩
        refine jy_write_go hr hB hf hkf hp (fun z => by omega) (fun b' hb' z2 _ => ?_) (fun q => absurd q z) (fun _ _ q => absurd q z) (fun _ _ q => absurd q z)
        rw [z'] at z2
        rw [← jv_inj z2 (by omega) (by omega)]
        exact ⟨rfl, jr_push hS hS0 hl hs rfl hLog (jp_val_I0 hI2 hb) hJ (jp_run_write1 hl hB hf hkf hp hb z')⟩
  · unfold wpY_write
    exact br_t rfl (jy_is (fun _ _ _ _ => br_f (by decide) (jy_in (M := 23) (by omega) (fun n hn e => absurd ⟨n, hn, e⟩ hno) (fun _ => br_t rfl ⟨rfl, I'⟩))) (fun _ => br_t rfl ⟨rfl, I'⟩))
  · unfold wpY_write
    exact br_t rfl (jy_is (fun a ha e hk => absurd ⟨a, ha, e, hk⟩ hno) (fun _ => br_t rfl ⟨rfl, I'⟩))

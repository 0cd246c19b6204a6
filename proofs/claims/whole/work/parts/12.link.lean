/-! link -/
section
variable {yr ys yd yh yt : Int32} {yk yl yp yn yb yv ym ok ol op on ob ov om yc yg yf yq yu ye : Nat → Int32}
theorem jy_link_go {post : Int32 → SY → Prop} {r a n f : Nat} (hr : r ≤ 24) (hN : jp_NR yn) (ha : a < 16) (hk : yk a = 2) (hn : n < 64) (hf : f < 16) (hkf : yk f = 1) (hlf : yl f ≤ 8)
    (hex : ¬ yn (64 * a + n) = -1 → post (-2) (nI r, ys, 0, yh, yt, yk, yl, yp, yn, yb, yv, ym, ok, ol, op, on, ob, ov, om, yc, yg, yf, yq, yu, ye)) (hfull : yn (64 * a + n) = -1 → (r = 24 ∨ jp_en yn a = 10) → post (-3) (nI r, ys, 0, yh, yt, yk, yl, yp, yn, yb, yv, ym, ok, ol, op, on, ob, ov, om, yc, yg, yf, yq, yu, ye))
    (h : yn (64 * a + n) = -1 → r < 24 → ¬ jp_en yn a = 10 → post (yl f + 1) (nI (r + 1), ys, 0, yh, yt, yk, upd yl f (yl f + 1), yp, upd yn (64 * a + n) (nI f), yb, yv, ym, ok, ol, op, on, ob, ov, om, upd yc r 1, upd (upd (upd (upd yg (4 * r) (nI a)) (4 * r + 1) (nI n)) (4 * r + 2) (nI f)) (4 * r + 3) 0, yf, yq, yu, ye)) :
    wpY_link post (nI r, ys, 0, yh, yt, yk, yl, yp, yn, yb, yv, ym, ok, ol, op, on, ob, ov, om, yc, yg, yf, yq, yu, ye) (nI a) (nI n) (nI f) := by
  unfold wpY_link
  refine br_t rfl (jy_is (fun _ _ _ _ => br_f (by decide) (jy_in (M := 63) (by omega) (fun _ _ _ => br_f (by decide) (jy_is (fun _ _ _ _ => br_f (by decide) ⟨vp_in_nI hf (by omega), ?_⟩) (fun hh => absurd ⟨f, hf, rfl, hkf⟩ hh))) (fun hh => absurd ⟨n, hn, rfl⟩ hh))) (fun hh => absurd ⟨a, ha, rfl, hk⟩ hh))
  rw [jv_e64, nI_clamp (n := f) (by omega), nI_clamp (n := 64 * a + n) (by omega), jp_neg (by omega) (hN (64 * a + n) (by omega))]
  refine br_t hlf ⟨vp_in_nI (by omega) (by omega), br_c (fun he => pk_eq r 24 (fun e => hfull he (Or.inl e)) (fun hr2 => jy_entries hN ha ?_)) (fun he => hex he)⟩
  have := jp_cn_le (fun n => decide (¬ yn (64 * a + n) = -1)) 64
  have e : jp_en yn a = jp_cn (fun n => decide (¬ yn (64 * a + n) = -1)) 64 := rfl
  refine pk_eq (jp_en yn a) 10 (fun e => hfull he (Or.inr e)) (fun h10 => jy_note (by omega) ⟨vp_in_nI (by omega) (by omega), nm_e ⟨vp_in_nI hf (by omega), vp_in_nI hf (by omega), nm_e ⟨vp_in_nI hf (by omega), ?_⟩⟩⟩)
  rw [pk_us]
  exact h he (by omega) h10
end
theorem jp_run_link {K L P N B V M : Nat → Int32} {r a n f : Nat} (hr : r < 24) (hN : jp_NR N) (ha : a < 16) (hk : K a = 2) (hn : n < 64) (hf : f < 16) (hkf : K f = 1) (hlf : L f ≤ 8) (he : N (64 * a + n) = -1) (hen : ¬ jp_en N a = 10) :
    jp_Run r 1 (nI a) (nI n) (nI f) 0 (K, L, P, N, B, V, M) (K, upd L f (L f + 1), P, upd N (64 * a + n) (nI f), B, V, M) := by
  intro post ys yh yt ok ol op on ob ov om yc yg yf yq yu ye h1 h2 h3 h4 h5 hp
  refine jy_again hr h1 h2 h3 h4 h5 ⟨fun e => absurd e (by decide), fun _ => ?_, fun e => absurd e (by decide), fun e => absurd e (by decide), fun e => absurd e (by decide), fun e => absurd e (by decide)⟩ (Or.inr (Or.inl rfl))
  refine jy_link_go (by omega) hN ha hk hn hf hkf hlf (fun z => absurd he z) (fun _ z => z.elim (fun z => by omega) (fun z => absurd z hen)) (fun _ _ _ => ?_)
  rw [jp_updI h1, jp_upd4 h2 h3 h4 h5]
  exact hp
theorem jp_link_I0 {K L P N B V M : Nat → Int32} {a n f : Nat} {v : Int32} (h : jp_I0 (K, L, P, N, B, V, M)) (ha : a < 16) (hk : K a = 2) (hn : n < 64) (he : N (64 * a + n) = -1) (hf : f < 16) (hkf : K f = 1) (hen : jp_en N a < 10) :
    jp_I0 (K, upd L f v, P, upd N (64 * a + n) (nI f), B, V, M) := by
  obtain ⟨hZ, hK, hK0, hPR, hP0, hL0, hN, hNE, hEN, hB, hBE, hXN⟩ := h
  refine ⟨⟨fun i hi => ?_, fun i hi => ?_, hZ.2.2.1, hZ.2.2.2⟩, hK, hK0, hPR, hP0, fun i hi hk0 => ?_, jp_NR_upd hN (Or.inr ⟨f, hf, rfl⟩), fun i hi hk2 h hh => ?_, fun i hi => ?_, hB, hBE, hXN⟩
  · rw [pk_un (by omega)]; exact hZ.1 i hi
  · rw [pk_un (by omega)]; exact hZ.2.1 i hi
  · have : i ≠ f := fun e => by rw [e, hkf] at hk0; exact absurd hk0 (by decide)
    rw [pk_un this]; exact hL0 i hi hk0
  · have hia : i ≠ a := fun e => hk2 (by rw [e]; exact hk)
    rw [pk_un (by omega)]
    exact hNE i hi hk2 h hh
  · by_cases e : i = a
    · subst e
      have := jp_en_upd (N := N) (a := i) (n := n) (v := nI f) hn
      rw [jp_t0 (fun z => z he), jp_t1 (jv_m1n f (by omega))] at this
      omega
    · rw [jp_en_un hn e]; exact hEN i hi
theorem jp_link_I1 {K L P N B V M : Nat → Int32} {a n f : Nat} (h : jp_I0 (K, L, P, N, B, V, M)) (h1 : jp_I1 (K, L, P, N, B, V, M)) (ha : a < 16) (hn : n < 64) (he : N (64 * a + n) = -1) (hf : f < 16) (hkf : K f = 1) :
    jp_I1 (K, upd L f (L f + 1), P, upd N (64 * a + n) (nI f), B, V, M) := by
  obtain ⟨hZ, hK, hK0, hPR, hP0, hL0, hN, hNE, hEN, hB, hBE, hXN⟩ := h
  obtain ⟨hL, hR0, hUB, rk, hT⟩ := h1
  have hf0 : f ≠ 0 := fun e => by rw [e, hK0] at hkf; exact absurd hkf (by decide)
  have hno : jp_nc (upd N (64 * a + n) (nI f)) f = jp_nc N f + 1 := by
    have := jp_nc_upd (N := N) (v := nI f) (s := 64 * a + n) (by omega) f
    rw [jp_t1 rfl, jp_t0 (fun z => jv_m1n f (by omega) (z.symm.trans he))] at this
    omega
  have hnc : ∀ i, i < 16 → i ≠ f → jp_nc (upd N (64 * a + n) (nI f)) i = jp_nc N i := by
    intro i hi e
    have := jp_nc_upd (N := N) (v := nI f) (s := 64 * a + n) (by omega) i
    rw [jp_t0 (fun z => jv_m1n i (by omega) (z.symm.trans he)), jp_t0 (fun z => e (jv_inj z.symm (by omega) (by omega)))] at this
    omega
  refine ⟨fun i hi => ?_, by rw [hnc 0 (by omega) (by omega)]; exact hR0, hUB, rk, fun i h0 hi hki => ?_⟩
  · by_cases e : i = f
    · subst e; rw [pk_us, hno, hL i hi, nI_1]
    · rw [pk_un e, hnc i hi e]; exact hL i hi
  · have e : i ≠ f := fun e => by rw [e, hkf] at hki; exact absurd hki (by decide)
    obtain ⟨t1, p, h, hp, hh, t2, t3, t4⟩ := hT i h0 hi hki
    have hne : ¬ N (64 * p + h) = -1 := by rw [t3]; exact jv_m1n i (by omega)
    refine ⟨by rw [hnc i hi e]; exact t1, p, h, hp, hh, t2, ?_, t4⟩
    rw [pk_un (fun z => hne (by rw [z]; exact he))]; exact t3
theorem i_vc_link {k : Nat} {u : SX} {v : SY} (I : i_Rel k u v) (hk : k + 5 ≤ 2560) (v1 : Int32) (v2 : Int32) (v3 : Int32) : wpX_link (fun r u' => wpY_link (fun r' v' => r' = r ∧ i_Rel (k + 5) u' v') v v1 v2 v3) u v1 v2 v3 := by
  have I' : i_Rel (k + 5) u v := I
  obtain ⟨S, r, s, d, xw, yh, yt, K, L, P, N, B, V, M, bk, bl, bp, bn, bb, bm, bh, xq, ok, ol, op, on, ob, ov, om, yc, yg, yq, F, T, U, rfl, rfl, hS, hS0, hr, hs, hd, hLog⟩ := I
  have hI := hLog.1 r (Nat.le_refl r)
  have hJ := fun h => hLog.2.1 h r (Nat.le_refl r)
  rw [hS] at hI hJ
  have hI2 := hI
  obtain ⟨hZ, hK, hK0, hPR, hP0, hL0, hN, hNE, hEN, hB, hBE, hXN⟩ := hI
  unfold wpX_link
  refine br_c (fun e => ?_) (fun e => br_f e ⟨rfl, I'⟩)
  subst e
  refine jx_isDirectory (fun a ha e hka => br_f (by decide) (jx_isName (fun n hn e2 => br_f (by decide) (jx_isFile (fun f hf e3 hkf => br_f (by decide) ?_) (fun hno => br_t rfl ?_))) (fun hno => br_t rfl ?_))) (fun hno => br_t rfl ?_)
  · subst e e2 e3
    have hsn := jp_s_lt n
    refine ⟨vp_in_nI hf (by omega), ?_⟩
    rw [nI_clamp (n := f) (by omega)]
    refine br_c (fun hl9 => ?_) (fun hl9 => ?_)
    · have hl8 : L f ≤ 8 := by
        rw [Int32.le_iff_toInt_le, show (8 : Int32).toInt = 8 from by decide]
        rw [Int32.lt_iff_toInt_lt, show (9 : Int32).toInt = 9 from by decide] at hl9
        omega
      refine jx_spotOf hn ⟨vp_in_nI (by omega) (by omega), ?_⟩
      rw [nI_clamp (by omega), jp_ro_n N a hn]
      refine br_c (fun hent => jx_isFullDirectory' ha (fun hfull => br_f (by decide) (jy_link_go hr hN ha hka hn hf hkf hl8 (fun z => absurd hent z) (fun _ _ => ⟨rfl, I'⟩) (fun _ _ z => absurd (by have := hEN a ha; omega) z))) (fun hfull => br_t rfl (jx_isFullLog hr (fun hl => br_f (by decide) (jy_link_go hr hN ha hka hn hf hkf hl8 (fun z => absurd hent z) (fun _ _ => ⟨rfl, I'⟩) (fun _ z _ => by omega))) (fun hl => br_t rfl (jx_openRecord hl ?_))))) (fun hent => jy_link_go hr hN ha hka hn hf hkf hl8 (fun _ => ⟨rfl, I'⟩) (fun z => absurd z hent) (fun z => absurd z hent))
      refine ⟨vp_in_nI (by omega) (by omega), nm_e ⟨vp_in_nI hf (by omega), vp_in_nI hf (by omega), nm_e ⟨vp_in_nI hf (by omega), ?_⟩⟩⟩
      rw [pk_us]
      refine jy_link_go hr hN ha hka hn hf hkf hl8 (fun z => absurd hent z) (fun _ z => z.elim (fun z => by omega) (fun z => by omega)) (fun _ _ h10 => ⟨rfl, ?_⟩)
      rw [← jp_ro_upd N a hn]
      exact jr_push hS hS0 hl hs rfl hLog (jp_link_I0 hI2 ha hka hn hent hf hkf hfull) (jp_link_I1 hI2 (hJ rfl) ha hn hent hf hkf) (jp_run_link hl hN ha hka hn hf hkf hl8 hent h10)
    · have hl8 : ¬ L f ≤ 8 := by
        rw [Int32.le_iff_toInt_le, show (8 : Int32).toInt = 8 from by decide]
        rw [Int32.lt_iff_toInt_lt, show (9 : Int32).toInt = 9 from by decide] at hl9
        omega
      unfold wpY_link
      refine br_t rfl (jy_is (fun _ _ _ _ => br_f (by decide) (jy_in (M := 63) (by omega) (fun _ _ _ => br_f (by decide) (jy_is (fun _ _ _ _ => br_f (by decide) ⟨vp_in_nI hf (by omega), ?_⟩) (fun hh => absurd ⟨f, hf, rfl, hkf⟩ hh))) (fun hh => absurd ⟨n, hn, rfl⟩ hh))) (fun hh => absurd ⟨a, ha, rfl, hka⟩ hh))
      rw [nI_clamp (n := f) (by omega)]
      exact br_f hl8 ⟨rfl, I'⟩
  · unfold wpY_link
    exact br_t rfl (jy_is (fun _ _ _ _ => br_f (by decide) (jy_in (M := 63) (by omega) (fun _ _ _ => br_f (by decide) (jy_is (fun f hf e hkf => absurd ⟨f, hf, e, hkf⟩ hno) (fun _ => br_t rfl ⟨rfl, I'⟩))) (fun _ => br_t rfl ⟨rfl, I'⟩))) (fun _ => br_t rfl ⟨rfl, I'⟩))
  · unfold wpY_link
    exact br_t rfl (jy_is (fun _ _ _ _ => br_f (by decide) (jy_in (M := 63) (by omega) (fun n hn e => absurd ⟨n, hn, e⟩ hno) (fun _ => br_t rfl ⟨rfl, I'⟩))) (fun _ => br_t rfl ⟨rfl, I'⟩))
  · unfold wpY_link
    exact br_t rfl (jy_is (fun a ha e hk => absurd ⟨a, ha, e, hk⟩ hno) (fun _ => br_t rfl ⟨rfl, I'⟩))

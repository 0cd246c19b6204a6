/-! make -/
section
variable {yr ys yd yh yt : Int32} {yk yl yp yn yb yv ym ok ol op on ob ov om yc yg yf yq yu ye : Nat → Int32}
theorem jy_make_loop {post : Int32 → SY → Prop} {x y q : Int32} (h1 : ∀ j, j < 16 → yk j = 0 → (∀ i, i < j → ¬ yk i = 0) → wY_make_71 post x y q (nI j) yr ys yd yh yt yk yl yp yn yb yv ym ok ol op on ob ov om yc yg yf yq yu ye) (h2 : (∀ i, i < 16 → ¬ yk i = 0) → wY_make_71 post x y q (nI 16) yr ys yd yh yt yk yl yp yn yb yv ym ok ol op on ob ov om yc yg yf yq yu ye) : ∃ n, wY_make_48 post x y q yr ys yd yh yt yk yl yp yn yb yv ym ok ol op on ob ov om yc yg yf yq yu ye n 0 := by
  refine pk_loop (σ := Unit) (fun n i _ => wY_make_48 post x y q yr ys yd yh yt yk yl yp yn yb yv ym ok ol op on ob ov om yc yg yf yq yu ye n (nI i)) (fun i _ => ∀ k, k < i → ¬ yk k = 0) 16 0 () (by omega) (fun k hk => absurd hk (Nat.not_lt_zero k)) (fun n _ hI => br_t (nI_le (a := 16) (by omega) (by omega)) (h2 hI)) (fun n i _ hi hI ih => br_f (nI_ge (b := 16) hi (by omega)) ⟨vp_in_nI (by omega) (by omega), ?_⟩)
  rw [nI_clamp (by omega)]
  refine br_c (fun hc => h1 i hi hc hI) (fun hc => nm_r (nI_1 _) (ih () (fun k hk => ?_)))
  by_cases e : k = i
  · subst e; exact hc
  · exact hI k (by omega)
theorem jy_make_head {post : Int32 → SY → Prop} {a n : Nat} {q : Int32} (ha : a < 16) (hk : yk a = 2) (hn : n < 64) (he : yn (64 * a + n) = -1) (h : ∃ m, wY_make_48 post (nI a) (nI n) q yr ys 0 yh yt yk yl yp yn yb yv ym ok ol op on ob ov om yc yg yf yq yu ye m 0) : wpY_make post (yr, ys, 0, yh, yt, yk, yl, yp, yn, yb, yv, ym, ok, ol, op, on, ob, ov, om, yc, yg, yf, yq, yu, ye) (nI a) (nI n) q := by
  unfold wpY_make
  refine br_t rfl (jy_is (fun _ _ _ _ => br_f (by decide) (jy_in (M := 63) (by omega) (fun _ _ _ => br_f (by decide) ?_) (fun hh => absurd ⟨n, hn, rfl⟩ hh))) (fun hh => absurd ⟨a, ha, rfl, hk⟩ hh))
  rw [jv_e64, nI_clamp (by omega), he]
  exact ⟨vp_in_nI (by omega) (by omega), br_t (by decide) h⟩
theorem jy_make_full {post : Int32 → SY → Prop} {r a n : Nat} {q : Int32} (hr : r ≤ 24) (hN : jp_NR yn) (ha : a < 16) (hk : yk a = 2) (hn : n < 64) (he : yn (64 * a + n) = -1) (hfull : (∀ i, i < 16 → ¬ yk i = 0) ∨ r = 24 ∨ jp_en yn a = 10)
    (h : post (-3) (nI r, ys, 0, yh, yt, yk, yl, yp, yn, yb, yv, ym, ok, ol, op, on, ob, ov, om, yc, yg, yf, yq, yu, ye)) : wpY_make post (nI r, ys, 0, yh, yt, yk, yl, yp, yn, yb, yv, ym, ok, ol, op, on, ob, ov, om, yc, yg, yf, yq, yu, ye) (nI a) (nI n) q := by
  refine jy_make_head ha hk hn he (jy_make_loop (fun j hj hz hf => ?_) (fun hf => br_t rfl h))
  refine pk_eq j 16 (fun e => by omega) (fun _ => pk_eq r 24 (fun _ => h) (fun hr2 => jy_entries hN ha ?_))
  have := jp_cn_le (fun n => decide (¬ yn (64 * a + n) = -1)) 64
  have e : jp_en yn a = jp_cn (fun n => decide (¬ yn (64 * a + n) = -1)) 64 := rfl
  refine pk_eq (jp_en yn a) 10 (fun _ => h) (fun h10 => ?_)
  rcases hfull with z | z | z
  · exact absurd hz (z j hj)
  · exact absurd z hr2
  · exact absurd z h10
theorem jy_make_ok {post : Int32 → SY → Prop} {r a n o : Nat} {q kk : Int32} (hr : r < 24) (hN : jp_NR yn) (ha : a < 16) (hk : yk a = 2) (hn : n < 64) (he : yn (64 * a + n) = -1) (ho : o < 16) (hz : yk o = 0) (hf : ∀ i, i < o → ¬ yk i = 0) (hen : jp_en yn a < 10) (hq : (q = 0 ∧ kk = 1) ∨ (q = 1 ∧ kk = 2))
    (h : post (nI o) (nI (r + 1), ys, 0, yh, yt, upd yk o kk, upd yl o 1, upd yp o (nI a), upd yn (64 * a + n) (nI o), yb, yv, ym, ok, ol, op, on, ob, ov, om, upd yc r 0, upd (upd (upd (upd yg (4 * r) (nI a)) (4 * r + 1) (nI n)) (4 * r + 2) q) (4 * r + 3) 0, yf, yq, yu, ye)) :
    wpY_make post (nI r, ys, 0, yh, yt, yk, yl, yp, yn, yb, yv, ym, ok, ol, op, on, ob, ov, om, yc, yg, yf, yq, yu, ye) (nI a) (nI n) q := by
  refine jy_make_head ha hk hn he (jy_make_loop (fun j hj hz2 hf2 => ?_) (fun hf2 => absurd hz (hf2 o ho)))
  have : j = o := by
    rcases Nat.lt_trichotomy j o with e | e | e
    · exact absurd hz2 (hf j e)
    · exact e
    · exact absurd hz (hf2 o e)
  subst this
  refine pk_eq j 16 (fun e => by omega) (fun _ => pk_eq r 24 (fun e => by omega) (fun hr2 => jy_entries hN ha ?_))
  refine pk_eq (jp_en yn a) 10 (fun e => by omega) (fun h10 => ?_)
  have fin : ∀ kk' : Int32, kk' = kk → wY_make_132 post (nI a) (nI n) (nI j) kk' (nI j) (nI (r + 1)) ys 0 yh yt yk yl yp yn yb yv ym ok ol op on ob ov om (upd yc r 0) (upd (upd (upd (upd yg (4 * r) (nI a)) (4 * r + 1) (nI n)) (4 * r + 2) q) (4 * r + 3) 0) yf yq yu ye := by
    intro kk' e
    subst e
    unfold wY_make_132
    rw [jv_e64, nI_clamp (by omega), nI_clamp (by omega)]
    exact ⟨vp_in_nI hj (by omega), nm_e ⟨vp_in_nI hj (by omega), nm_e ⟨vp_in_nI hj (by omega), nm_e ⟨vp_in_nI (by omega) (by omega), nm_e h⟩⟩⟩⟩
  rcases hq with ⟨e1, e2⟩ | ⟨e1, e2⟩
  · subst e1
    refine br_t rfl (jy_note hr (br_t rfl (fin 1 e2.symm)))
  · subst e1
    refine br_f (by decide) (jy_note hr (br_f (by decide) (fin 2 e2.symm)))
theorem jy_4r (r : Nat) : (4 : Int32) * nI r = nI (4 * r) := by rw [show (4 : Int32) = nI 4 from rfl, pk_mul]
/-- the head of 'again': the record's numbers are read -/
theorem jy_again {post : SY → Prop} {r : Nat} {c a b x z : Int32} (hr : r < 24) (h1 : yc r = c) (h2 : yg (4 * r) = a) (h3 : yg (4 * r + 1) = b) (h4 : yg (4 * r + 2) = x) (h5 : yg (4 * r + 3) = z)
    (h : (c = 0 → ((x = 1 → wY_again_67 post 1 b a yr ys yd yh yt yk yl yp yn yb yv ym ok ol op on ob ov om yc yg yf yq yu ye) ∧ (¬ x = 1 → wY_again_67 post 0 b a yr ys yd yh yt yk yl yp yn yb yv ym ok ol op on ob ov om yc yg yf yq yu ye))) ∧
      (c = 1 → wpY_link (fun _ u => post u) (yr, ys, yd, yh, yt, yk, yl, yp, yn, yb, yv, ym, ok, ol, op, on, ob, ov, om, yc, yg, yf, yq, yu, ye) a b x) ∧ (c = 2 → wpY_remove (fun _ u => post u) (yr, ys, yd, yh, yt, yk, yl, yp, yn, yb, yv, ym, ok, ol, op, on, ob, ov, om, yc, yg, yf, yq, yu, ye) a b) ∧ (c = 3 → wpY_move (fun _ u => post u) (yr, ys, yd, yh, yt, yk, yl, yp, yn, yb, yv, ym, ok, ol, op, on, ob, ov, om, yc, yg, yf, yq, yu, ye) a b x z) ∧ (c = 4 → wpY_write (fun _ u => post u) (yr, ys, yd, yh, yt, yk, yl, yp, yn, yb, yv, ym, ok, ol, op, on, ob, ov, om, yc, yg, yf, yq, yu, ye) a b x) ∧ (c = 5 → wpY_punch (fun _ u => post u) (yr, ys, yd, yh, yt, yk, yl, yp, yn, yb, yv, ym, ok, ol, op, on, ob, ov, om, yc, yg, yf, yq, yu, ye) a b x)) (hc : c = 0 ∨ c = 1 ∨ c = 2 ∨ c = 3 ∨ c = 4 ∨ c = 5) : wpY_again post (yr, ys, yd, yh, yt, yk, yl, yp, yn, yb, yv, ym, ok, ol, op, on, ob, ov, om, yc, yg, yf, yq, yu, ye) (nI r) := by
  unfold wpY_again
  dsimp only
  have hv : vp_in (nI r) 24 := vp_in_nI hr (by omega)
  rw [jy_4r, show nI (4 * r) + 1 = nI (4 * r + 1) from nI_1 _, show nI (4 * r) + 2 = nI (4 * r + 2) from nI_add _ 2, show nI (4 * r) + 3 = nI (4 * r + 3) from nI_add _ 3, nI_clamp (n := r) (by omega), nI_clamp (n := 4 * r) (by omega), nI_clamp (n := 4 * r + 1) (by omega), nI_clamp (n := 4 * r + 2) (by omega), nI_clamp (n := 4 * r + 3) (by omega), h1, h2, h3, h4, h5]
  refine ⟨vp_in_nI (by omega) (by omega), nm_e ⟨vp_in_nI (by omega) (by omega), nm_e ⟨vp_in_nI (by omega) (by omega), nm_e ⟨vp_in_nI (by omega) (by omega), nm_e ⟨hv, ?_⟩⟩⟩⟩⟩
  obtain ⟨g0, g1, g2, g3, g4, g5⟩ := h
  refine br_c g0 (fun n0 => ⟨hv, br_c g1 (fun n1 => ⟨hv, br_c g2 (fun n2 => ⟨hv, br_c g3 (fun n3 => ⟨hv, br_c g4 (fun n4 => g5 ?_)⟩)⟩)⟩)⟩)
  rcases hc with e | e | e | e | e | e
  · exact absurd e n0
  · exact absurd e n1
  · exact absurd e n2
  · exact absurd e n3
  · exact absurd e n4
  · exact e
end
theorem jp_updI {a : Nat → Int32} {k : Nat} {v : Int32} (h : a k = v) : upd a k v = a := jp_upd_id a k v h
theorem jp_upd4 {g : Nat → Int32} {r : Nat} {a b x z : Int32} (h2 : g (4 * r) = a) (h3 : g (4 * r + 1) = b) (h4 : g (4 * r + 2) = x) (h5 : g (4 * r + 3) = z) : upd (upd (upd (upd g (4 * r) a) (4 * r + 1) b) (4 * r + 2) x) (4 * r + 3) z = g := by
  rw [jp_updI h2, jp_updI h3, jp_updI h4, jp_updI h5]
theorem jp_run_make {K L P N B V M : Nat → Int32} {r a n o : Nat} {q kk : Int32} (hr : r < 24) (hN : jp_NR N) (ha : a < 16) (hk : K a = 2) (hn : n < 64) (he : N (64 * a + n) = -1) (ho : o < 16) (hz : K o = 0) (hf : ∀ i, i < o → ¬ K i = 0) (hen : jp_en N a < 10) (hq : (q = 0 ∧ kk = 1) ∨ (q = 1 ∧ kk = 2)) :
    jp_Run r 0 (nI a) (nI n) q 0 (K, L, P, N, B, V, M) (upd K o kk, upd L o 1, upd P o (nI a), upd N (64 * a + n) (nI o), B, V, M) := by
  intro post ys yh yt ok ol op on ob ov om yc yg yf yq yu ye h1 h2 h3 h4 h5 hp
  have fin : ∀ q', q' = q → wY_again_67 post q' (nI n) (nI a) (nI r) ys 0 yh yt K L P N B V M ok ol op on ob ov om yc yg yf yq yu ye := by
    intro q' e
    subst e
    unfold wY_again_67
    refine jy_make_ok hr hN ha hk hn he ho hz hf hen hq ?_
    rw [jp_updI h1, jp_upd4 h2 h3 h4 h5]
    exact hp
  refine jy_again hr h1 h2 h3 h4 h5 ⟨fun _ => br_c (fun e => fin 1 e.symm) (fun e => fin 0 ?_), fun e => absurd e (by decide), fun e => absurd e (by decide), fun e => absurd e (by decide), fun e => absurd e (by decide), fun e => absurd e (by decide)⟩ (Or.inl rfl)
  rcases hq with ⟨e1, _⟩ | ⟨e1, _⟩
  · exact e1.symm
  · exact absurd e1 e
theorem jp_make_I0 {K L P N B V M : Nat → Int32} {a n o : Nat} {kk : Int32} (h : jp_I0 (K, L, P, N, B, V, M)) (ha : a < 16) (hk : K a = 2) (hn : n < 64) (he : N (64 * a + n) = -1) (ho : o < 16) (hz : K o = 0) (hen : jp_en N a < 10) (hkk : kk = 1 ∨ kk = 2) :
    jp_I0 (upd K o kk, upd L o 1, upd P o (nI a), upd N (64 * a + n) (nI o), B, V, M) := by
  obtain ⟨hZ, hK, hK0, hPR, hP0, hL0, hN, hNE, hEN, hB, hBE, hXN⟩ := h
  have ho0 : o ≠ 0 := fun e => by rw [e, hK0] at hz; exact absurd hz (by decide)
  have hao : a ≠ o := fun e => by rw [e, hz] at hk; exact absurd hk (by decide)
  refine ⟨⟨fun i hi => ?_, fun i hi => ?_, hZ.2.2.1, hZ.2.2.2⟩, fun i hi => ?_, ?_, fun i hi => ?_, ?_, fun i hi hk0 => ?_, jp_NR_upd hN (Or.inr ⟨o, ho, rfl⟩), fun i hi hk2 h hh => ?_, fun i hi => ?_, hB, fun i hi hk1 p hp => ?_, hXN⟩
  · rw [pk_un (by omega), pk_un (by omega), pk_un (by omega)]; exact hZ.1 i hi
  · rw [pk_un (by omega)]; exact hZ.2.1 i hi
  · by_cases e : i = o
    · subst e; rw [pk_us]; exact Or.inr hkk
    · rw [pk_un e]; exact hK i hi
  · rw [pk_un (by omega)]; exact hK0
  · by_cases e : i = o
    · subst e; rw [pk_us]; exact ⟨a, ha, rfl⟩
    · rw [pk_un e]; exact hPR i hi
  · rw [pk_un (by omega)]; exact hP0
  · by_cases e : i = o
    · subst e; rw [pk_us] at hk0; rcases hkk with z | z <;> rw [z] at hk0 <;> exact absurd hk0 (by decide)
    · rw [pk_un e] at hk0 ⊢; exact hL0 i hi hk0
  · have hia : i ≠ a := fun e => hk2 (by rw [e, pk_un hao]; exact hk)
    rw [pk_un (by omega)]
    by_cases e : i = o
    · subst e; exact hNE i hi (by rw [hz]; decide) h hh
    · rw [pk_un e] at hk2; exact hNE i hi hk2 h hh
  · by_cases e : i = a
    · subst e
      have := jp_en_upd (N := N) (a := i) (n := n) (v := nI o) hn
      rw [jp_t0 (fun z => z he), jp_t1 (jv_m1n o (by omega))] at this
      omega
    · rw [jp_en_un hn e]; exact hEN i hi
  · by_cases e : i = o
    · subst e; exact hBE i hi (by rw [hz]; decide) p hp
    · rw [pk_un e] at hk1; exact hBE i hi hk1 p hp
theorem jp_make_I1 {K L P N B V M : Nat → Int32} {a n o : Nat} {kk : Int32} (h : jp_I0 (K, L, P, N, B, V, M)) (h1 : jp_I1 (K, L, P, N, B, V, M)) (ha : a < 16) (hk : K a = 2) (hn : n < 64) (he : N (64 * a + n) = -1) (ho : o < 16) (hz : K o = 0) :
    jp_I1 (upd K o kk, upd L o 1, upd P o (nI a), upd N (64 * a + n) (nI o), B, V, M) := by
  obtain ⟨hZ, hK, hK0, hPR, hP0, hL0, hN, hNE, hEN, hB, hBE, hXN⟩ := h
  obtain ⟨hL, hR0, hUB, rk, hT⟩ := h1
  have ho0 : o ≠ 0 := fun e => by rw [e, hK0] at hz; exact absurd hz (by decide)
  have hao : a ≠ o := fun e => by rw [e, hz] at hk; exact absurd hk (by decide)
  have hfree := jp_free hL0 hL ho hz
  have hno : jp_nc (upd N (64 * a + n) (nI o)) o = 1 := by
    have := jp_nc_upd (N := N) (v := nI o) (s := 64 * a + n) (by omega) o
    rw [jp_t1 rfl, jp_t0 (fun z => jv_m1n o (by omega) (z.symm.trans he))] at this
    omega
  have hnc : ∀ i, i < 16 → i ≠ o → jp_nc (upd N (64 * a + n) (nI o)) i = jp_nc N i := by
    intro i hi e
    have := jp_nc_upd (N := N) (v := nI o) (s := 64 * a + n) (by omega) i
    rw [jp_t0 (fun z => jv_m1n i (by omega) (z.symm.trans he)), jp_t0 (fun z => e (jv_inj z.symm (by omega) (by omega)))] at this
    omega
  refine ⟨fun i hi => ?_, by rw [hnc 0 (by omega) (by omega)]; exact hR0, hUB, fun i => if i = o then rk a + 1 else rk i, fun i h0 hi hki => ?_⟩
  · by_cases e : i = o
    · subst e; rw [pk_us, hno]; rfl
    · rw [pk_un e, hnc i hi e]; exact hL i hi
  · by_cases e : i = o
    · subst e
      refine ⟨hno, a, n, ha, hn, pk_us, pk_us, ?_⟩
      dsimp only; rw [if_neg hao, if_pos rfl]; omega
    · rw [pk_un e] at hki
      obtain ⟨t1, p, h, hp, hh, t2, t3, t4⟩ := hT i h0 hi hki
      have hne : ¬ N (64 * p + h) = -1 := by rw [t3]; exact jv_m1n i (by omega)
      have hpo : p ≠ o := fun z => by have := jp_dir hNE hp hh hne; rw [z, hz] at this; exact absurd this (by decide)
      refine ⟨by rw [hnc i hi e]; exact t1, p, h, hp, hh, by rw [pk_un e]; exact t2, ?_, by dsimp only; rw [if_neg hpo, if_neg e]; exact t4⟩
      rw [pk_un (fun z => hne (by rw [z]; exact he))]; exact t3
theorem jp_pi_new {K P : Nat → Int32} {o : Nat} {kk v : Int32} (h : ¬ kk = 0) : upd (jp_pi K P) o v = jp_pi (upd K o kk) (upd P o v) := by
  funext i
  by_cases e : i = o
  · subst e; rw [pk_us]; unfold jp_pi; rw [pk_us, pk_us, if_neg h]
  · rw [pk_un e]; unfold jp_pi; rw [pk_un e, pk_un e]
theorem i_vc_make {k : Nat} {u : SX} {v : SY} (I : i_Rel k u v) (hk : k + 5 ≤ 2560) (v1 : Int32) (v2 : Int32) (v3 : Int32) : wpX_make (fun r u' => wpY_make (fun r' v' => r' = r ∧ i_Rel (k + 5) u' v') v v1 v2 (lw_bz v3)) u v1 v2 (lw_bz v3) := by
  have I' : i_Rel (k + 5) u v := I
  obtain ⟨S, r, s, d, xw, yh, yt, K, L, P, N, B, V, M, bk, bl, bp, bn, bb, bm, bh, xq, ok, ol, op, on, ob, ov, om, yc, yg, yq, F, T, U, rfl, rfl, hS, hS0, hr, hs, hd, hLog⟩ := I
  have hI := hLog.1 r (Nat.le_refl r)
  have hJ := fun h => hLog.2.1 h r (Nat.le_refl r)
  rw [hS] at hI hJ
  have hI2 := hI
  obtain ⟨hZ, hK, hK0, hPR, hP0, hL0, hN, hNE, hEN, hB, hBE, hXN⟩ := hI
  have hq := lw_bz_01 v3
  generalize lw_bz v3 = q at hq ⊢
  unfold wpX_make
  refine br_c (fun e => ?_) (fun e => br_f e ⟨rfl, I'⟩)
  subst e
  refine jx_isDirectory (fun a ha e hka => br_f (by decide) (jx_isName (fun n hn e2 => br_f (by decide) ?_) (fun hno => br_t rfl ?_))) (fun hno => br_t rfl ?_)
  · subst e e2
    have hsn := jp_s_lt n
    refine jx_spotOf hn ⟨vp_in_nI (by omega) (by omega), ?_⟩
    rw [nI_clamp (by omega), jp_ro_n N a hn]
    refine br_c (fun hent => ?_) (fun hent => ?_)
    · refine jx_firstFree (fun o ho hz hf => br_f (jv_m1n o (by omega)) (jx_isFullDirectory' ha (fun hfull => br_f (by decide) (jy_make_full hr hN ha hka hn hent (Or.inr (Or.inr (by have := hEN a ha; omega))) ⟨rfl, I'⟩)) (fun hfull => br_t rfl (jx_isFullLog hr (fun hl => br_f (by decide) (jy_make_full hr hN ha hka hn hent (Or.inr (Or.inl hl)) ⟨rfl, I'⟩)) (fun hl => br_t rfl (jx_openRecord hl ?_)))))) (fun hf => br_t rfl (jy_make_full hr hN ha hka hn hent (Or.inl hf) ⟨rfl, I'⟩))
      have fin : ∀ kk, ((q = 0 ∧ kk = 1) ∨ (q = 1 ∧ kk = 2)) → wX_make_94 (fun r1 u' => wpY_make (fun r' v' => r' = r1 ∧ i_Rel (k + 5) u' v') (nI r, nI s, 0, yh, yt, K, L, P, N, B, V, M, ok, ol, op, on, ob, ov, om, yc, yg, F, yq, U, T) (nI a) (nI n) q) (nI a) (nI (64 * a + jp_s n)) (nI o) kk (nI o) (nI (r + 1)) (nI s) 0 xw K L (jp_pi K P) (jp_ro N) B M V (jp_cp bk (16 * r) 16 K 0) (jp_cp bl (16 * r) 16 L 0) (jp_cp bp (16 * r) 16 (jp_pi K P) 0) (jp_cp bn (1024 * r) 1024 (jp_ro N) 0) (jp_cp bb (384 * r) 384 B 0) (jp_cp bm (64 * r) 64 M 0) (jp_cp bh (64 * r) 64 V 0) F T xq U := by
        intro kk hq2
        have hkk : kk = 1 ∨ kk = 2 := hq2.elim (fun h => Or.inl h.2) (fun h => Or.inr h.2)
        have hkk0 : ¬ kk = 0 := by rcases hkk with z | z <;> rw [z] <;> decide
        unfold wX_make_94
        rw [nI_clamp (n := o) (by omega), nI_clamp (n := 64 * a + jp_s n) (by omega)]
        refine ⟨vp_in_nI ho (by omega), nm_e ⟨vp_in_nI ho (by omega), nm_e ⟨vp_in_nI ho (by omega), nm_e ⟨vp_in_nI (by omega) (by omega), nm_e ?_⟩⟩⟩⟩
        refine jy_make_ok hl hN ha hka hn hent ho hz hf hfull hq2 ⟨rfl, ?_⟩
        rw [jp_pi_new hkk0, ← jp_ro_upd N a hn]
        exact jr_push hS hS0 hl hs rfl hLog (jp_make_I0 hI2 ha hka hn hent ho hz hfull hkk) (jp_make_I1 hI2 (hJ rfl) ha hka hn hent ho hz) (jp_run_make hl hN ha hka hn hent ho hz hf hfull hq2)
      refine br_c (fun e => fin 1 (Or.inl ⟨e, rfl⟩)) (fun e => fin 2 (Or.inr ⟨hq.elim (fun z => absurd z e) id, rfl⟩))
    · unfold wpY_make
      refine br_t rfl (jy_is (fun _ _ _ _ => br_f (by decide) (jy_in (M := 63) (by omega) (fun _ _ _ => br_f (by decide) ?_) (fun hh => absurd ⟨n, hn, rfl⟩ hh))) (fun hh => absurd ⟨a, ha, rfl, hka⟩ hh))
      rw [jv_e64, nI_clamp (by omega), jp_neg (by omega) (hN (64 * a + n) (by omega))]
      exact ⟨vp_in_nI (by omega) (by omega), br_f hent ⟨rfl, I'⟩⟩
  · unfold wpY_make
    exact br_t rfl (jy_is (fun _ _ _ _ => br_f (by decide) (jy_in (M := 63) (by omega) (fun n hn e => absurd ⟨n, hn, e⟩ hno) (fun _ => br_t rfl ⟨rfl, I'⟩))) (fun _ => br_t rfl ⟨rfl, I'⟩))
  · unfold wpY_make
    exact br_t rfl (jy_is (fun a ha e hk => absurd ⟨a, ha, e, hk⟩ hno) (fun _ => br_t rfl ⟨rfl, I'⟩))

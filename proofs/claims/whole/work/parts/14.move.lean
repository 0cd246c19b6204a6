/-! the way up -/
def jp_up (P : Nat → Int32) : Nat → Nat → Nat
  | 0 => fun i => i
  | n + 1 => fun i => jp_up P n (P i).toNatClampNeg
theorem jp_up_s {P : Nat → Int32} {i p : Nat} (hp : p < 16) (h : P i = nI p) (n : Nat) : jp_up P (n + 1) i = jp_up P n p := by
  show jp_up P n (P i).toNatClampNeg = _
  rw [h, nI_clamp (by omega)]
theorem jp_cn_strict {f g : Nat → Bool} {n p : Nat} (hp : p < n) (h : ∀ i, i < n → f i = true → g i = true) (h0 : f p = false) (h1 : g p = true) : jp_cn f n < jp_cn g n := by
  have e := jp_cn_upd (f := fun i => f i || decide (i = p)) (g := f) hp (fun j hj hne => by simp [hne])
  have m := jp_cn_mono (f := fun i => f i || decide (i = p)) (g := g) (n := n) (fun i hi hf => by
    by_cases e : i = p
    · rw [e]; exact h1
    · exact h i hi (by simpa [e] using hf))
  simp [h0] at e
  omega
def jp_UT (K P : Nat → Int32) (rk : Nat → Nat) : Prop := (∀ x, x < 16 → rk x ≤ 15) ∧ ∀ x, 0 < x → x < 16 → K x = 2 → ∃ p, p < 16 ∧ P x = nI p ∧ K p = 2 ∧ rk p < rk x
theorem jp_rank {K P N : Nat → Int32} (hNE : jp_NE K N) (h : jp_T1 K P N) : ∃ rk, jp_UT K P rk := by
  obtain ⟨rk, hT⟩ := h
  refine ⟨fun x => jp_cn (fun y => decide (rk y < rk x)) 16, fun x hx => ?_, fun x h0 hx hk => ?_⟩
  · have := jp_cn_lt (f := fun y => decide (rk y < rk x)) hx (by simp)
    dsimp only
    omega
  · obtain ⟨t1, p, h, hp, hh, t2, t3, t4⟩ := hT x h0 hx hk
    refine ⟨p, hp, t2, jp_dir hNE hp hh (by rw [t3]; exact jv_m1n x (by omega)), ?_⟩
    refine jp_cn_strict (p := p) hp (fun y hy hb => ?_) (by simp) (by simpa using t4)
    simp only [decide_eq_true_eq] at hb ⊢
    omega
section
variable {xr xs xd xw : Int32} {xk xl xp xn xb xm xh bk bl bp bn bb bm bh xf xt xq xu : Nat → Int32} {K P : Nat → Int32} {rk : Nat → Nat}
theorem jx_above {post : Int32 → Prop} {i b : Nat} (hU : jp_UT K P rk) (hK0 : K 0 = 2) (hP0 : P 0 = 0) (hi : i < 16) (hi0 : i ≠ 0) (hb : b < 16) (hkb : K b = 2) (ht : (∃ j, jp_up P j b = i) → post 1) (hf : (∀ j, jp_up P j b ≠ i) → post 0) : wpX_isAtOrAbove post (xr, xs, xd, xw, xk, xl, jp_pi K P, xn, xb, xm, xh, bk, bl, bp, bn, bb, bm, bh, xf, xt, xq, xu) (nI i) (nI b) := by
  unfold wpX_isAtOrAbove
  have pi : ∀ x, ¬ K x = 0 → jp_pi K P x = P x := fun x h => if_neg h
  have spin : ∀ q x4, q + x4 = 16 → post 0 → wX_isAtOrAbove_5 post (nI i) xr xs xd xw xk xl (jp_pi K P) xn xb xm xh bk bl bp bn bb bm bh xf xt xq xu (q + 1) 0 (nI x4) := by
    intro q
    induction q with
    | zero => intro x4 h h0; exact br_t (nI_le (a := 16) (by omega) (by omega)) h0
    | succ q ih =>
      intro x4 h h0
      refine br_f (nI_ge (b := 16) (by omega) (by omega)) (br_f (fun z => hi0 (jv_inj (i := 0) z (by omega) (by omega)).symm) ⟨vp_in_nI (n := 0) (by omega) (by omega), nm_r (e' := 0) ?_ (nm_r (nI_1 _) (ih _ (by omega) h0))⟩)
      show jp_pi K P 0 = 0
      rw [pi 0 (by rw [hK0]; decide), hP0]
  have key : ∀ m q at' x4, at' < 16 → K at' = 2 → rk at' ≤ m → q + x4 = 16 → x4 + m ≤ 15 → ((∃ j, jp_up P j at' = i) → post 1) → ((∀ j, jp_up P j at' ≠ i) → post 0) → wX_isAtOrAbove_5 post (nI i) xr xs xd xw xk xl (jp_pi K P) xn xb xm xh bk bl bp bn bb bm bh xf xt xq xu (q + 1) (nI at') (nI x4) := by
    intro m
    induction m with
    | zero =>
      intro q at' x4 ha hka hrk hq hx ht hf
      by_cases e0 : at' = 0
      · subst e0
        refine spin q x4 hq (hf (fun j => ?_))
        induction j with
        | zero => exact fun z => hi0 z.symm
        | succ j ih => rw [jp_up_s (by omega) hP0]; exact ih
      · obtain ⟨p, _, _, _, h⟩ := hU.2 at' (by omega) ha hka
        omega
    | succ m ih =>
      intro q at' x4 ha hka hrk hq hx ht hf
      obtain ⟨q, rfl⟩ : ∃ q', q = q' + 1 := ⟨q - 1, by omega⟩
      by_cases ei : at' = i
      · subst ei
        exact br_f (nI_ge (b := 16) (by omega) (by omega)) (br_t rfl (ht ⟨0, rfl⟩))
      · by_cases e0 : at' = 0
        · subst e0
          refine spin (q + 1) x4 hq (hf (fun j => ?_))
          induction j with
          | zero => exact ei
          | succ j ih => rw [jp_up_s (by omega) hP0]; exact ih
        · obtain ⟨p, hp, e, hkp, h⟩ := hU.2 at' (by omega) ha hka
          refine br_f (nI_ge (b := 16) (by omega) (by omega)) (br_f (fun z => ei (jv_inj z (by omega) (by omega))) ⟨vp_in_nI ha (by omega), ?_⟩)
          rw [nI_clamp (by omega), pi at' (by rw [hka]; decide), e]
          refine nm_e (nm_r (nI_1 _) (ih q p (x4 + 1) hp hkp (by omega) (by omega) (by omega) (fun ⟨j, hj⟩ => ht ⟨j + 1, by rw [jp_up_s hp e]; exact hj⟩) (fun hn => hf (fun j => ?_))))
          cases j with
          | zero => exact ei
          | succ j => rw [jp_up_s hp e]; exact hn j
  exact ⟨17, key 15 16 b 0 hb hkb (hU.1 b hb) rfl (by omega) ht hf⟩
end
section
variable {yr ys yd yh yt : Int32} {yk yl yp yn yb yv ym ok ol op on ob ov om yc yg yf yq yu ye : Nat → Int32} {K P : Nat → Int32} {rk : Nat → Nat}
theorem jy_above {post : Int32 → Prop} {i b : Nat} (hU : jp_UT K P rk) (hP0 : P 0 = 0) (hi : i < 16) (hi0 : i ≠ 0) (hb : b < 16) (hkb : K b = 2) (ht : (∃ j, jp_up P j b = i) → post 1) (hf : (∀ j, jp_up P j b ≠ i) → post 0) : wpY_isAbove post (yr, ys, yd, yh, yt, yk, yl, P, yn, yb, yv, ym, ok, ol, op, on, ob, ov, om, yc, yg, yf, yq, yu, ye) (nI i) (nI b) := by
  unfold wpY_isAbove
  have key : ∀ m at', at' < 16 → K at' = 2 → rk at' ≤ m → ((∃ j, jp_up P j at' = i) → post 1) → ((∀ j, jp_up P j at' ≠ i) → post 0) → wY_isAbove_2 post (nI i) yr ys yd yh yt yk yl P yn yb yv ym ok ol op on ob ov om yc yg yf yq yu ye (m + 1) (nI at') := by
    intro m
    induction m with
    | zero =>
      intro at' ha hka hrk ht hf
      by_cases e0 : at' = 0
      · subst e0
        have ne : ¬ nI 0 = nI i := fun z => hi0 (jv_inj (i := 0) z (by omega) (by omega)).symm
        refine br_f ne (br_t rfl (br_f ne (hf (fun j => ?_))))
        induction j with
        | zero => exact fun z => hi0 z.symm
        | succ j ih => rw [jp_up_s (by omega) hP0]; exact ih
      · obtain ⟨p, _, _, _, h⟩ := hU.2 at' (by omega) ha hka
        omega
    | succ m ih =>
      intro at' ha hka hrk ht hf
      by_cases ei : at' = i
      · subst ei
        exact br_t rfl (br_t rfl (ht ⟨0, rfl⟩))
      · have ne : ¬ nI at' = nI i := fun z => ei (jv_inj z (by omega) (by omega))
        by_cases e0 : at' = 0
        · subst e0
          refine br_f ne (br_t rfl (br_f ne (hf (fun j => ?_))))
          induction j with
          | zero => exact ei
          | succ j ih => rw [jp_up_s (by omega) hP0]; exact ih
        · obtain ⟨p, hp, e, hkp, h⟩ := hU.2 at' (by omega) ha hka
          refine br_f ne (br_f (nI_ne0 (by omega) (by omega)) ⟨vp_in_nI ha (by omega), ?_⟩)
          rw [nI_clamp (by omega), e]
          refine nm_e (ih p hp hkp (by omega) (fun ⟨j, hj⟩ => ht ⟨j + 1, by rw [jp_up_s hp e]; exact hj⟩) (fun hn => hf (fun j => ?_)))
          cases j with
          | zero => exact ei
          | succ j => rw [jp_up_s hp e]; exact hn j
  exact ⟨16, key 15 b hb hkb (hU.1 b hb) ht hf⟩
/-! move -/
theorem jy_move_go {post : Int32 → SY → Prop} {r a n b m i : Nat} (hr : r ≤ 24) (hN : jp_NR yn) (hU : jp_UT yk yp rk) (hP0 : yp 0 = 0) (ha : a < 16) (hk : yk a = 2) (hn : n < 64) (hb : b < 16) (hkb : yk b = 2) (hm : m < 64) (hi : i < 16) (hi0 : i ≠ 0) (he : yn (64 * a + n) = nI i)
    (hex : ¬ yn (64 * b + m) = -1 → post (-2) (nI r, ys, 0, yh, yt, yk, yl, yp, yn, yb, yv, ym, ok, ol, op, on, ob, ov, om, yc, yg, yf, yq, yu, ye))
    (hloop : yn (64 * b + m) = -1 → yk i = 2 → (∃ j, jp_up yp j b = i) → post (-5) (nI r, ys, 0, yh, yt, yk, yl, yp, yn, yb, yv, ym, ok, ol, op, on, ob, ov, om, yc, yg, yf, yq, yu, ye))
    (hfull : yn (64 * b + m) = -1 → (yk i = 2 → ∀ j, jp_up yp j b ≠ i) → (r = 24 ∨ (b ≠ a ∧ jp_en yn b = 10)) → post (-3) (nI r, ys, 0, yh, yt, yk, yl, yp, yn, yb, yv, ym, ok, ol, op, on, ob, ov, om, yc, yg, yf, yq, yu, ye))
    (h : yn (64 * b + m) = -1 → (yk i = 2 → ∀ j, jp_up yp j b ≠ i) → r < 24 → (b ≠ a → ¬ jp_en yn b = 10) → post (nI i) (nI (r + 1), ys, 0, yh, yt, yk, yl, (if yk i = 2 then upd yp i (nI b) else yp), upd (upd yn (64 * a + n) (-1)) (64 * b + m) (nI i), yb, yv, ym, ok, ol, op, on, ob, ov, om, upd yc r 3, upd (upd (upd (upd yg (4 * r) (nI a)) (4 * r + 1) (nI n)) (4 * r + 2) (nI b)) (4 * r + 3) (nI m), yf, yq, yu, ye)) :
    wpY_move post (nI r, ys, 0, yh, yt, yk, yl, yp, yn, yb, yv, ym, ok, ol, op, on, ob, ov, om, yc, yg, yf, yq, yu, ye) (nI a) (nI n) (nI b) (nI m) := by
  unfold wpY_move
  refine br_t rfl (jy_is (fun _ _ _ _ => br_f (by decide) (jy_in (M := 63) (by omega) (fun _ _ _ => br_f (by decide) ?_) (fun hh => absurd ⟨n, hn, rfl⟩ hh))) (fun hh => absurd ⟨a, ha, rfl, hk⟩ hh))
  rw [jv_e64, jv_e64, nI_clamp (n := 64 * a + n) (by omega), nI_clamp (n := 64 * b + m) (by omega), he]
  refine ⟨vp_in_nI (by omega) (by omega), br_f (nI_pos (by omega)) (jy_is (fun _ _ _ _ => br_f (by decide) (jy_in (M := 63) (by omega) (fun _ _ _ => br_f (by decide) ⟨vp_in_nI (by omega) (by omega), ?_⟩) (fun hh => absurd ⟨m, hm, rfl⟩ hh))) (fun hh => absurd ⟨b, hb, rfl, hkb⟩ hh))⟩
  rw [jp_neg (by omega) (hN (64 * b + m) (by omega))]
  refine br_c (fun hent => ⟨vp_in_nI (by omega) (by omega), nm_e ⟨vp_in_nI hi (by omega), ?_⟩⟩) (fun hent => hex hent)
  rw [nI_clamp (n := i) (by omega)]
  have fin : (yk i = 2 → ∀ j, jp_up yp j b ≠ i) → wY_move_117 post (nI a) (nI n) (nI b) (nI m) (nI i) (nI r) ys 0 yh yt yk yl yp yn yb yv ym ok ol op on ob ov om yc yg yf yq yu ye := by
    intro hup
    have last : r < 24 → (b ≠ a → ¬ jp_en yn b = 10) → wY_move_144 post (nI a) (nI n) (nI b) (nI m) (nI i) (nI r) ys 0 yh yt yk yl yp yn yb yv ym ok ol op on ob ov om yc yg yf yq yu ye := by
      intro hr2 h10
      refine jy_note hr2 ?_
      rw [jv_e64, jv_e64, nI_clamp (n := 64 * a + n) (by omega), nI_clamp (n := 64 * b + m) (by omega), nI_clamp (n := i) (by omega)]
      have h := h hent hup hr2 h10
      refine ⟨vp_in_nI (by omega) (by omega), nm_e ⟨vp_in_nI (by omega) (by omega), nm_e ⟨vp_in_nI hi (by omega), br_c (fun k2 => ⟨vp_in_nI hi (by omega), nm_e ?_⟩) (fun k2 => ?_)⟩⟩⟩
      · rw [if_pos k2] at h; exact h
      · rw [if_neg k2] at h; exact h
    refine pk_eq r 24 (fun e => hfull hent hup (Or.inl e)) (fun hr2 => pk_eq b a (fun e => last (by omega) (fun z => absurd e z)) (fun e => jy_entries hN hb ?_))
    have := jp_cn_le (fun n => decide (¬ yn (64 * b + n) = -1)) 64
    have e3 : jp_en yn b = jp_cn (fun n => decide (¬ yn (64 * b + n) = -1)) 64 := rfl
    exact pk_eq (jp_en yn b) 10 (fun z => hfull hent hup (Or.inr ⟨e, z⟩)) (fun z => last (by omega) (fun _ => z))
  exact br_c (fun k2 => jy_above hU hP0 hi hi0 hb hkb (fun z => br_f (by decide) (hloop hent k2 z)) (fun z => br_t rfl (fin (fun _ => z)))) (fun k2 => fin (fun z => absurd z k2))
end
theorem jp_run_move {K L P N B V M : Nat → Int32} {rk : Nat → Nat} {r a n b m i : Nat} (hr : r < 24) (hN : jp_NR N) (hU : jp_UT K P rk) (hP0 : P 0 = 0) (ha : a < 16) (hk : K a = 2) (hn : n < 64) (hb : b < 16) (hkb : K b = 2) (hm : m < 64) (hi : i < 16) (hi0 : i ≠ 0) (he : N (64 * a + n) = nI i)
    (hent : N (64 * b + m) = -1) (hup : K i = 2 → ∀ j, jp_up P j b ≠ i) (h10 : b ≠ a → ¬ jp_en N b = 10) :
    jp_Run r 3 (nI a) (nI n) (nI b) (nI m) (K, L, P, N, B, V, M) (K, L, (if K i = 2 then upd P i (nI b) else P), upd (upd N (64 * a + n) (-1)) (64 * b + m) (nI i), B, V, M) := by
  intro post ys yh yt ok ol op on ob ov om yc yg yf yq yu ye h1 h2 h3 h4 h5 hp
  refine jy_again hr h1 h2 h3 h4 h5 ⟨fun e => absurd e (by decide), fun e => absurd e (by decide), fun e => absurd e (by decide), fun _ => ?_, fun e => absurd e (by decide), fun e => absurd e (by decide)⟩ (Or.inr (Or.inr (Or.inr (Or.inl rfl))))
  refine jy_move_go (by omega) hN hU hP0 ha hk hn hb hkb hm hi hi0 he (fun z => absurd hent z) (fun _ k2 ⟨j, z⟩ => absurd z (hup k2 j)) (fun _ _ z => z.elim (fun z => by omega) (fun z => absurd z.2 (h10 z.1))) (fun _ _ _ _ => ?_)
  rw [jp_updI h1, jp_upd4 h2 h3 h4 h5]
  exact hp
theorem jp_move_I0 {K L P N B V M : Nat → Int32} {a n b m i : Nat} (h : jp_I0 (K, L, P, N, B, V, M)) (ha : a < 16) (hn : n < 64) (hb : b < 16) (hkb : K b = 2) (hm : m < 64) (hi : i < 16) (hi0 : i ≠ 0) (he : N (64 * a + n) = nI i) (hent : N (64 * b + m) = -1) (h10 : b ≠ a → jp_en N b < 10) :
    jp_I0 (K, L, (if K i = 2 then upd P i (nI b) else P), upd (upd N (64 * a + n) (-1)) (64 * b + m) (nI i), B, V, M) := by
  obtain ⟨hZ, hK, hK0, hPR, hP0, hL0, hN, hNE, hEN, hB, hBE, hXN⟩ := h
  have hPif : ∀ j, (if K i = 2 then upd P i (nI b) else P) j = P j ∨ (j = i ∧ (if K i = 2 then upd P i (nI b) else P) j = nI b) := by
    intro j
    by_cases k2 : K i = 2
    · rw [if_pos k2]
      by_cases e : j = i
      · subst e; rw [pk_us]; exact Or.inr ⟨rfl, rfl⟩
      · rw [pk_un e]; exact Or.inl rfl
    · rw [if_neg k2]; exact Or.inl rfl
  refine ⟨⟨fun j hj => ⟨(hZ.1 j hj).1, (hZ.1 j hj).2.1, ?_⟩, fun j hj => ?_, hZ.2.2.1, hZ.2.2.2⟩, hK, hK0, fun j hj => ?_, ?_, hL0, jp_NR_upd (jp_NR_upd hN (Or.inl rfl)) (Or.inr ⟨i, hi, rfl⟩), fun j hj hk2 h hh => ?_, fun j hj => ?_, hB, hBE, hXN⟩
  · rcases hPif j with e | ⟨e, _⟩
    · rw [e]; exact (hZ.1 j hj).2.2
    · omega
  · rw [pk_un (by omega), pk_un (by omega)]; exact hZ.2.1 j hj
  · rcases hPif j with e | ⟨_, e⟩
    · rw [e]; exact hPR j hj
    · exact ⟨b, hb, e⟩
  · rcases hPif 0 with e | ⟨e, _⟩
    · rw [e]; exact hP0
    · exact absurd e.symm hi0
  · have hjb : j ≠ b := fun e => hk2 (by rw [e]; exact hkb)
    rw [pk_un (by omega)]
    by_cases e : 64 * j + h = 64 * a + n
    · rw [e, pk_us]
    · rw [pk_un e]; exact hNE j hj hk2 h hh
  · have hne : 64 * b + m ≠ 64 * a + n := fun z => by rw [z, he] at hent; exact jv_m1n i (by omega) hent
    by_cases e : j = b
    · subst e
      have u1 := jp_en_upd (N := upd N (64 * a + n) (-1)) (a := j) (n := m) (v := nI i) hm
      rw [pk_un hne, jp_t0 (fun z => z hent), jp_t1 (jv_m1n i (by omega))] at u1
      by_cases e2 : j = a
      · subst e2
        have u2 := jp_en_upd (N := N) (a := j) (n := n) (v := -1) hn
        rw [jp_t1 (by rw [he]; exact jv_m1n i (by omega)), jp_t0 (fun z => z rfl)] at u2
        have := hEN j hj
        omega
      · rw [jp_en_un hn e2] at u1
        have := h10 e2
        omega
    · rw [jp_en_un hm e]
      exact Nat.le_trans (jp_en_dec hn) (hEN j hj)
theorem jp_move_nc {N : Nat → Int32} {a n b m i : Nat} (ha : a < 16) (hn : n < 64) (hb : b < 16) (hm : m < 64) (he : N (64 * a + n) = nI i) (hi : i < 16) (hent : N (64 * b + m) = -1) (j : Nat) (hj : j < 16) : jp_nc (upd (upd N (64 * a + n) (-1)) (64 * b + m) (nI i)) j = jp_nc N j := by
  have hne : 64 * b + m ≠ 64 * a + n := fun z => by rw [z, he] at hent; exact jv_m1n i (by omega) hent
  have u1 := jp_nc_upd (N := upd N (64 * a + n) (-1)) (v := nI i) (s := 64 * b + m) (by omega) j
  have u2 := jp_nc_upd (N := N) (v := -1) (s := 64 * a + n) (by omega) j
  rw [pk_un hne, jp_t0 (p := N (64 * b + m) = nI j) (fun z => jv_m1n j (by omega) (z.symm.trans hent))] at u1
  rw [jp_t0 (p := (-1 : Int32) = nI j) (fun z => jv_m1n j (by omega) z.symm), he] at u2
  omega
theorem jp_move_I1 {K L P N B V M : Nat → Int32} {a n b m i : Nat} (h : jp_I0 (K, L, P, N, B, V, M)) (h1 : jp_I1 (K, L, P, N, B, V, M)) (ha : a < 16) (hn : n < 64) (hb : b < 16) (hkb : K b = 2) (hm : m < 64) (hi : i < 16) (hi0 : i ≠ 0) (he : N (64 * a + n) = nI i) (hent : N (64 * b + m) = -1) (hup : K i = 2 → ∀ j, jp_up P j b ≠ i) :
    jp_I1 (K, L, (if K i = 2 then upd P i (nI b) else P), upd (upd N (64 * a + n) (-1)) (64 * b + m) (nI i), B, V, M) := by
  have hnc := jp_move_nc ha hn hb hm he hi hent
  obtain ⟨hZ, hK, hK0, hPR, hP0, hL0, hN, hNE, hEN, hB, hBE, hXN⟩ := h
  obtain ⟨hL, hR0, hUB, rk, hT⟩ := h1
  refine ⟨fun j hj => by rw [hnc j hj]; exact hL j hj, by rw [hnc 0 (by omega)]; exact hR0, hUB, ?_⟩
  have cell : ∀ j p h, j < 16 → j ≠ i → N (64 * p + h) = nI j → upd (upd N (64 * a + n) (-1)) (64 * b + m) (nI i) (64 * p + h) = nI j := by
    intro j p h hj hne e
    have z1 : 64 * p + h ≠ 64 * b + m := fun z => by rw [z, hent] at e; exact jv_m1n j (by omega) e.symm
    have z2 : 64 * p + h ≠ 64 * a + n := fun z => by rw [z, he] at e; exact hne (jv_inj e (by omega) (by omega)).symm
    rw [pk_un z1, pk_un z2]; exact e
  by_cases k2 : K i = 2
  · have hup := hup k2
    rw [if_pos k2]
    have hch : ∀ x, ∃ y, ((∃ j, jp_up P j x = i) → y = rk x + rk b + 1) ∧ ((¬ ∃ j, jp_up P j x = i) → y = rk x) := by
      intro x
      by_cases hx : ∃ j, jp_up P j x = i
      · exact ⟨rk x + rk b + 1, fun _ => rfl, fun z => absurd hx z⟩
      · exact ⟨rk x, fun z => absurd z hx, fun _ => rfl⟩
    obtain ⟨g, hg⟩ := Classical.axiomOfChoice hch
    refine ⟨g, fun j h0 hj hkj => ?_⟩
    by_cases e : j = i
    · subst e
      refine ⟨by rw [hnc j hj]; exact (hT j h0 hj hkj).1, b, m, hb, hm, pk_us, pk_us, ?_⟩
      rw [(hg b).2 (fun ⟨q, z⟩ => hup q z), (hg j).1 ⟨0, rfl⟩]
      omega
    · obtain ⟨t1, p, h, hp, hh, t2, t3, t4⟩ := hT j h0 hj hkj
      refine ⟨by rw [hnc j hj]; exact t1, p, h, hp, hh, by rw [pk_un e]; exact t2, cell j p h hj e t3, ?_⟩
      by_cases hx : ∃ q, jp_up P q j = i
      · obtain ⟨q, hq⟩ := hx
        have hp2 : ∃ q, jp_up P q p = i := by
          cases q with
          | zero => exact absurd hq e
          | succ q => exact ⟨q, by rw [← jp_up_s hp t2]; exact hq⟩
        rw [(hg p).1 hp2, (hg j).1 ⟨q, hq⟩]
        omega
      · have hp2 : ¬ ∃ q, jp_up P q p = i := fun ⟨q, hq⟩ => hx ⟨q + 1, by rw [jp_up_s hp t2]; exact hq⟩
        rw [(hg p).2 hp2, (hg j).2 hx]
        exact t4
  · rw [if_neg k2]
    refine ⟨rk, fun j h0 hj hkj => ?_⟩
    have e : j ≠ i := fun e => k2 (by rw [← e]; exact hkj)
    obtain ⟨t1, p, h, hp, hh, t2, t3, t4⟩ := hT j h0 hj hkj
    exact ⟨by rw [hnc j hj]; exact t1, p, h, hp, hh, t2, cell j p h hj e t3, t4⟩
theorem jp_up_dir {K P : Nat → Int32} {rk : Nat → Nat} (hU : jp_UT K P rk) (hP0 : P 0 = 0) : ∀ j b, b < 16 → K b = 2 → K (jp_up P j b) = 2 := by
  intro j
  induction j with
  | zero => intro b _ h; exact h
  | succ j ih =>
    intro b hb h
    by_cases e : b = 0
    · subst e
      rw [jp_up_s (by omega) hP0]; exact ih 0 hb h
    · obtain ⟨p, hp, e2, hkp, _⟩ := hU.2 b (by omega) hb h
      rw [jp_up_s hp e2]; exact ih p hp hkp
theorem i_vc_move {k : Nat} {u : SX} {v : SY} (I : i_Rel k u v) (hk : k + 5 ≤ 2560) (v1 : Int32) (v2 : Int32) (v3 : Int32) (v4 : Int32) : wpX_move (fun r u' => wpY_move (fun r' v' => r' = r ∧ i_Rel (k + 5) u' v') v v1 v2 v3 v4) u v1 v2 v3 v4 := by
  have I' : i_Rel (k + 5) u v := I
  obtain ⟨S, r, s, d, xw, yh, yt, K, L, P, N, B, V, M, bk, bl, bp, bn, bb, bm, bh, xq, ok, ol, op, on, ob, ov, om, yc, yg, yq, F, T, U, rfl, rfl, hS, hS0, hr, hs, hd, hLog⟩ := I
  have hI := hLog.1 r (Nat.le_refl r)
  have hJ := fun h => hLog.2.1 h r (Nat.le_refl r)
  rw [hS] at hI hJ
  have hI2 := hI
  obtain ⟨hZ, hK, hK0, hPR, hP0, hL0, hN, hNE, hEN, hB, hBE, hXN⟩ := hI
  unfold wpX_move
  refine br_c (fun e => ?_) (fun e => br_f e ⟨rfl, I'⟩)
  subst e
  refine jx_hasEntry (fun a n ha hn e1 e2 hka hent => br_f (by decide) (jx_isDirectory (fun b hb e3 hkb => br_f (by decide) (jx_isName (fun m hm e4 => br_f (by decide) ?_) (fun hno => br_t rfl ?_))) (fun hno => br_t rfl ?_))) (fun hno => br_t rfl ?_)
  · subst e1 e2 e3 e4
    have hsn := jp_s_lt n
    have hsm := jp_s_lt m
    rw [jp_ro_n N a hn] at hent
    refine jx_spotOf hn (jx_spotOf hm ⟨vp_in_nI (by omega) (by omega), ?_⟩)
    rw [nI_clamp (n := 64 * a + jp_s n) (by omega), jp_ro_n N a hn, nI_clamp (n := 64 * b + jp_s m) (by omega), jp_ro_n N b hm]
    rcases hN (64 * a + n) (by omega) with z | ⟨i, hi, he⟩
    · exact absurd z hent
    rw [he]
    have hJ := hJ rfl
    obtain ⟨hi0, _, _⟩ := jp_rm hI2 hJ ha hn hi he
    have hki : ¬ K i = 0 := fun z => by
      have := jp_free hL0 hJ.1 hi z
      have := jp_nc_in (N := N) (s := 64 * a + n) (i := i) (by omega) he
      omega
    obtain ⟨rk, hU⟩ := jp_rank hNE hJ.2.2.2
    refine nm_e ⟨vp_in_nI (by omega) (by omega), br_c (fun hnew => jx_above hU hK0 hP0 hi hi0 hb hkb (fun hab => br_f (by decide) ?_) (fun hab => br_t rfl ?_)) (fun hnew => jy_move_go hr hN hU hP0 ha hka hn hb hkb hm hi hi0 he (fun _ => ⟨rfl, I'⟩) (fun z => absurd z hnew) (fun z => absurd z hnew) (fun z => absurd z hnew))⟩
    · have k2 : K i = 2 := by
        obtain ⟨j, hj⟩ := hab
        rw [← hj]; exact jp_up_dir hU hP0 j b hb hkb
      obtain ⟨j, hj⟩ := hab
      exact jy_move_go hr hN hU hP0 ha hka hn hb hkb hm hi hi0 he (fun z => absurd hnew z) (fun _ _ _ => ⟨rfl, I'⟩) (fun _ z => absurd hj (z k2 j)) (fun _ z => absurd hj (z k2 j))
    · have go : (b ≠ a → jp_en N b < 10) → wX_move_98 (fun r1 u' => wpY_move (fun r' v' => r' = r1 ∧ i_Rel (k + 5) u' v') (nI r, nI s, 0, yh, yt, K, L, P, N, B, V, M, ok, ol, op, on, ob, ov, om, yc, yg, F, yq, U, T) (nI a) (nI n) (nI b) (nI m)) (nI b) (nI (64 * a + jp_s n)) (nI (64 * b + jp_s m)) (nI i) (nI r) (nI s) 0 xw K L (jp_pi K P) (jp_ro N) B M V bk bl bp bn bb bm bh F T xq U := by
        intro h10
        refine jx_isFullLog hr (fun hl => br_f (by decide) (jy_move_go hr hN hU hP0 ha hka hn hb hkb hm hi hi0 he (fun z => absurd hnew z) (fun _ _ ⟨j, z⟩ => absurd z (hab j)) (fun _ _ _ => ⟨rfl, I'⟩) (fun _ _ z => by omega))) (fun hl => br_t rfl (jx_openRecord hl ?_))
        rw [nI_clamp (n := 64 * a + jp_s n) (by omega), nI_clamp (n := 64 * b + jp_s m) (by omega), nI_clamp (n := i) (by omega)]
        have h10' : b ≠ a → ¬ jp_en N b = 10 := fun z => by have := h10 z; omega
        have hrun := jp_run_move (L := L) (B := B) (V := V) (M := M) hl hN hU hP0 ha hka hn hb hkb hm hi hi0 he hnew (fun _ => hab) h10'
        have hi0' := jp_move_I0 hI2 ha hn hb hkb hm hi hi0 he hnew h10
        have hi1' := jp_move_I1 hI2 hJ ha hn hb hkb hm hi hi0 he hnew (fun _ => hab)
        refine ⟨vp_in_nI (by omega) (by omega), nm_e ⟨vp_in_nI (by omega) (by omega), nm_e ⟨vp_in_nI hi (by omega), br_c (fun k2 => ⟨vp_in_nI hi (by omega), nm_e ?_⟩) (fun k2 => ?_)⟩⟩⟩
        · refine jy_move_go hr hN hU hP0 ha hka hn hb hkb hm hi hi0 he (fun z => absurd hnew z) (fun _ _ ⟨j, z⟩ => absurd z (hab j)) (fun _ _ z => z.elim (fun z => by omega) (fun z => absurd z.2 (h10' z.1))) (fun _ _ _ _ => ⟨rfl, ?_⟩)
          have e1 : upd (jp_pi K P) i (nI b) = jp_pi K (if K i = 2 then upd P i (nI b) else P) := by
            rw [if_pos k2]
            funext j
            by_cases e : j = i
            · subst e; rw [pk_us]; unfold jp_pi; rw [pk_us, if_neg hki]
            · rw [pk_un e]; unfold jp_pi; rw [pk_un e]
          rw [← jp_ro_upd N a hn, ← jp_ro_upd _ b hm, e1]
          exact jr_push hS hS0 hl hs rfl hLog hi0' hi1' hrun
        · refine jy_move_go hr hN hU hP0 ha hka hn hb hkb hm hi hi0 he (fun z => absurd hnew z) (fun _ _ ⟨j, z⟩ => absurd z (hab j)) (fun _ _ z => z.elim (fun z => by omega) (fun z => absurd z.2 (h10' z.1))) (fun _ _ _ _ => ⟨rfl, ?_⟩)
          have e1 : jp_pi K P = jp_pi K (if K i = 2 then upd P i (nI b) else P) := by rw [if_neg k2]
          rw [← jp_ro_upd N a hn, ← jp_ro_upd _ b hm]
          have := jr_push (k := k + 5) (xw := xw) (yh := yh) (yt := yt) (xq := xq) (yq := yq) (F := F) (T := T) (U := U) hS hS0 hl hs rfl hLog hi0' hi1' hrun
          rw [← e1] at this
          exact this
      refine pk_eq b a (fun e => go (fun z => absurd e z)) (fun e => jx_isFullDirectory' hb (fun hfull => br_f (by decide) (jy_move_go hr hN hU hP0 ha hka hn hb hkb hm hi hi0 he (fun z => absurd hnew z) (fun _ _ ⟨j, z⟩ => absurd z (hab j)) (fun _ _ _ => ⟨rfl, I'⟩) (fun _ _ _ z => absurd (by have := hEN b hb; omega) (z e)))) (fun hfull => br_t rfl (go (fun _ => hfull))))
  · subst e1 e2 e3
    unfold wpY_move
    refine br_t rfl (jy_is (fun _ _ _ _ => br_f (by decide) (jy_in (M := 63) (by omega) (fun _ _ _ => br_f (by decide) ?_) (fun _ => br_t rfl ⟨rfl, I'⟩))) (fun _ => br_t rfl ⟨rfl, I'⟩))
    rw [jv_e64, nI_clamp (by omega)]
    exact ⟨vp_in_nI (by omega) (by omega), br_c (fun _ => ⟨rfl, I'⟩) (fun _ => jy_is (fun _ _ _ _ => br_f (by decide) (jy_in (M := 63) (by omega) (fun m hm e => absurd ⟨m, hm, e⟩ hno) (fun _ => br_t rfl ⟨rfl, I'⟩))) (fun _ => br_t rfl ⟨rfl, I'⟩))⟩
  · subst e1 e2
    unfold wpY_move
    refine br_t rfl (jy_is (fun _ _ _ _ => br_f (by decide) (jy_in (M := 63) (by omega) (fun _ _ _ => br_f (by decide) ?_) (fun _ => br_t rfl ⟨rfl, I'⟩))) (fun _ => br_t rfl ⟨rfl, I'⟩))
    rw [jv_e64, nI_clamp (by omega)]
    exact ⟨vp_in_nI (by omega) (by omega), br_c (fun _ => ⟨rfl, I'⟩) (fun _ => jy_is (fun b hb e hkb => absurd ⟨b, hb, e, hkb⟩ hno) (fun _ => br_t rfl ⟨rfl, I'⟩))⟩
  · unfold wpY_move
    refine br_t rfl (jy_is (fun a ha e hka => br_f (by decide) (jy_in (M := 63) (by omega) (fun n hn e2 => br_f (by decide) ?_) (fun _ => br_t rfl ⟨rfl, I'⟩))) (fun _ => br_t rfl ⟨rfl, I'⟩))
    subst e e2
    rw [jv_e64, nI_clamp (by omega), jp_neg (by omega) (hN (64 * a + n) (by omega))]
    refine ⟨vp_in_nI (by omega) (by omega), br_t (Classical.byContradiction fun z => hno ⟨a, n, ha, hn, rfl, rfl, hka, by rw [jp_ro_n N a hn]; exact z⟩) ⟨rfl, I'⟩⟩

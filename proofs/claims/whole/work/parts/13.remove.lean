/-! remove -/
section
variable {yr ys yd yh yt : Int32} {yk yl yp yn yb yv ym ok ol op on ob ov om yc yg yf yq yu ye : Nat → Int32}
theorem jy_remove_go {post : Int32 → SY → Prop} {r a n i : Nat} (hr : r ≤ 24) (hN : jp_NR yn) (hB : jp_BR yb) (ha : a < 16) (hk : yk a = 2) (hn : n < 64) (hi : i < 16) (he : yn (64 * a + n) = nI i)
    (hne : yk i = 2 → ¬ jp_en yn i = 0 → post (-4) (nI r, ys, 0, yh, yt, yk, yl, yp, yn, yb, yv, ym, ok, ol, op, on, ob, ov, om, yc, yg, yf, yq, yu, ye)) (hfull : (yk i = 2 → jp_en yn i = 0) → r = 24 → post (-3) (nI r, ys, 0, yh, yt, yk, yl, yp, yn, yb, yv, ym, ok, ol, op, on, ob, ov, om, yc, yg, yf, yq, yu, ye))
    (h1 : (yk i = 2 → jp_en yn i = 0) → r < 24 → ¬ yl i - 1 = 0 → post (nI i) (nI (r + 1), ys, 0, yh, yt, yk, upd yl i (yl i - 1), yp, upd yn (64 * a + n) (-1), yb, yv, ym, ok, ol, op, on, ob, ov, om, upd yc r 2, upd (upd (upd (upd yg (4 * r) (nI a)) (4 * r + 1) (nI n)) (4 * r + 2) 0) (4 * r + 3) 0, yf, yq, yu, ye))
    (h0 : (yk i = 2 → jp_en yn i = 0) → r < 24 → yl i - 1 = 0 → post (nI i) (nI (r + 1), ys, 0, yh, yt, upd yk i 0, upd (upd yl i (yl i - 1)) i 0, yp, jp_fl (upd yn (64 * a + n) (-1)) (64 * i) 64 (-1), jp_fl yb (24 * i) 24 (-1), yv, (jp_uh (24 * i) 24 yb ym).2, ok, ol, op, on, ob, ov, om, upd yc r 2, upd (upd (upd (upd yg (4 * r) (nI a)) (4 * r + 1) (nI n)) (4 * r + 2) 0) (4 * r + 3) 0, yf, yq, yu, ye)) :
    wpY_remove post (nI r, ys, 0, yh, yt, yk, yl, yp, yn, yb, yv, ym, ok, ol, op, on, ob, ov, om, yc, yg, yf, yq, yu, ye) (nI a) (nI n) := by
  unfold wpY_remove
  refine br_t rfl (jy_is (fun _ _ _ _ => br_f (by decide) (jy_in (M := 63) (by omega) (fun _ _ _ => br_f (by decide) ?_) (fun hh => absurd ⟨n, hn, rfl⟩ hh))) (fun hh => absurd ⟨a, ha, rfl, hk⟩ hh))
  rw [jv_e64, nI_clamp (n := 64 * a + n) (by omega), he]
  refine ⟨vp_in_nI (by omega) (by omega), br_t (nI_pos' (by omega)) ⟨vp_in_nI (by omega) (by omega), nm_e ⟨vp_in_nI hi (by omega), ?_⟩⟩⟩
  rw [nI_clamp (n := i) (by omega)]
  have go : (yk i = 2 → jp_en yn i = 0) → wY_remove_75 post (nI a) (nI n) (nI i) (nI r) ys 0 yh yt yk yl yp yn yb yv ym ok ol op on ob ov om yc yg yf yq yu ye := by
    intro hc
    refine pk_eq r 24 (fun e => hfull hc e) (fun hr2 => jy_note (by omega) ?_)
    rw [jv_e64, nI_clamp (n := 64 * a + n) (by omega), nI_clamp (n := i) (by omega)]
    refine ⟨vp_in_nI (by omega) (by omega), nm_e ⟨vp_in_nI hi (by omega), vp_in_nI hi (by omega), nm_e ⟨vp_in_nI hi (by omega), ?_⟩⟩⟩
    rw [pk_us]
    exact br_c (fun z => jy_free hi hB (h0 hc (by omega) z)) (fun z => h1 hc (by omega) z)
  refine br_c (fun k2 => jy_entries hN hi ?_) (fun k2 => go (fun z => absurd z k2))
  have := jp_cn_le (fun n => decide (¬ yn (64 * i + n) = -1)) 64
  have e : jp_en yn i = jp_cn (fun n => decide (¬ yn (64 * i + n) = -1)) 64 := rfl
  exact pk_le (jp_en yn i) 0 (fun z => go (fun _ => by omega)) (fun z => hne k2 (by omega))
end
theorem jp_run_remove1 {K L P N B V M : Nat → Int32} {r a n i : Nat} (hr : r < 24) (hN : jp_NR N) (hB : jp_BR B) (ha : a < 16) (hk : K a = 2) (hn : n < 64) (hi : i < 16) (he : N (64 * a + n) = nI i) (hc : K i = 2 → jp_en N i = 0) (hl : ¬ L i - 1 = 0) :
    jp_Run r 2 (nI a) (nI n) 0 0 (K, L, P, N, B, V, M) (K, upd L i (L i - 1), P, upd N (64 * a + n) (-1), B, V, M) := by
  intro post ys yh yt ok ol op on ob ov om yc yg yf yq yu ye h1 h2 h3 h4 h5 hp
  refine jy_again hr h1 h2 h3 h4 h5 ⟨fun e => absurd e (by decide), fun e => absurd e (by decide), fun _ => ?_, fun e => absurd e (by decide), fun e => absurd e (by decide), fun e => absurd e (by decide)⟩ (Or.inr (Or.inr (Or.inl rfl)))
  refine jy_remove_go (by omega) hN hB ha hk hn hi he (fun k2 z => absurd (hc k2) z) (fun _ z => by omega) (fun _ _ _ => ?_) (fun _ _ z => absurd z hl)
  rw [jp_updI h1, jp_upd4 h2 h3 h4 h5]
  exact hp
theorem jp_run_remove0 {K L P N B V M : Nat → Int32} {r a n i : Nat} (hr : r < 24) (hN : jp_NR N) (hB : jp_BR B) (ha : a < 16) (hk : K a = 2) (hn : n < 64) (hi : i < 16) (he : N (64 * a + n) = nI i) (hc : K i = 2 → jp_en N i = 0) (hl : L i - 1 = 0) :
    jp_Run r 2 (nI a) (nI n) 0 0 (K, L, P, N, B, V, M) (upd K i 0, upd (upd L i (L i - 1)) i 0, P, jp_fl (upd N (64 * a + n) (-1)) (64 * i) 64 (-1), jp_fl B (24 * i) 24 (-1), V, (jp_uh (24 * i) 24 B M).2) := by
  intro post ys yh yt ok ol op on ob ov om yc yg yf yq yu ye h1 h2 h3 h4 h5 hp
  refine jy_again hr h1 h2 h3 h4 h5 ⟨fun e => absurd e (by decide), fun e => absurd e (by decide), fun _ => ?_, fun e => absurd e (by decide), fun e => absurd e (by decide), fun e => absurd e (by decide)⟩ (Or.inr (Or.inr (Or.inl rfl)))
  refine jy_remove_go (by omega) hN hB ha hk hn hi he (fun k2 z => absurd (hc k2) z) (fun _ z => by omega) (fun _ _ z => absurd hl z) (fun _ _ _ => ?_)
  rw [jp_updI h1, jp_upd4 h2 h3 h4 h5]
  exact hp
theorem jp_en_0 {N : Nat → Int32} {i : Nat} (h : jp_en N i = 0) : ∀ n, n < 64 → N (64 * i + n) = -1 := by
  intro n hn
  have := jp_cn_none h n hn
  simpa using this
/-- what removing one entry means for the counts -/
theorem jp_rm {K L P N B V M : Nat → Int32} {a n i : Nat} (h : jp_I0 (K, L, P, N, B, V, M)) (h1 : jp_I1 (K, L, P, N, B, V, M)) (ha : a < 16) (hn : n < 64) (hi : i < 16) (he : N (64 * a + n) = nI i) :
    i ≠ 0 ∧ (∃ c, jp_nc N i = c + 1 ∧ L i - 1 = nI c ∧ c < 1024 ∧ jp_nc (upd N (64 * a + n) (-1)) i = c) ∧ (∀ j, j < 16 → j ≠ i → jp_nc (upd N (64 * a + n) (-1)) j = jp_nc N j) := by
  obtain ⟨hL, hR0, hUB, hT⟩ := h1
  have hp := jp_nc_in (N := N) (s := 64 * a + n) (i := i) (by omega) he
  have hle := jp_nc_le N i
  refine ⟨fun e => ?_, ⟨jp_nc N i - 1, by omega, ?_, by omega, ?_⟩, fun j hj hne => ?_⟩
  · rw [e, hR0] at hp; exact absurd hp (Nat.lt_irrefl 0)
  · rw [hL i hi]
    obtain ⟨c, hc⟩ : ∃ c, jp_nc N i = c + 1 := ⟨jp_nc N i - 1, by omega⟩
    rw [hc, nI_pred]; rfl
  · have := jp_nc_upd (N := N) (v := -1) (s := 64 * a + n) (by omega) i
    rw [jp_t1 he, jp_t0 (fun z => jv_m1n i (by omega) z.symm)] at this
    omega
  · have := jp_nc_upd (N := N) (v := -1) (s := 64 * a + n) (by omega) j
    rw [jp_t0 (fun z => hne (jv_inj (z.symm.trans he) (by omega) (by omega))), jp_t0 (fun z => jv_m1n j (by omega) z.symm)] at this
    omega
theorem jp_en_dec {N : Nat → Int32} {a n d : Nat} (hn : n < 64) : jp_en (upd N (64 * a + n) (-1)) d ≤ jp_en N d := by
  apply jp_cn_mono
  intro j hj h
  by_cases e : 64 * d + j = 64 * a + n
  · rw [e, pk_us] at h; exact absurd h (by decide)
  · rw [pk_un e] at h; exact h
theorem jp_rm1_I0 {K L P N B V M : Nat → Int32} {a n i : Nat} {v : Int32} (h : jp_I0 (K, L, P, N, B, V, M)) (ha : a < 16) (hn : n < 64) (hi : i < 16) (hki : ¬ K i = 0) :
    jp_I0 (K, upd L i v, P, upd N (64 * a + n) (-1), B, V, M) := by
  obtain ⟨hZ, hK, hK0, hPR, hP0, hL0, hN, hNE, hEN, hB, hBE, hXN⟩ := h
  refine ⟨⟨fun j hj => ?_, fun j hj => ?_, hZ.2.2.1, hZ.2.2.2⟩, hK, hK0, hPR, hP0, fun j hj hk0 => ?_, jp_NR_upd hN (Or.inl rfl), fun j hj hk2 h hh => ?_, fun j hj => Nat.le_trans (jp_en_dec hn) (hEN j hj), hB, hBE, hXN⟩
  · rw [pk_un (by omega)]; exact hZ.1 j hj
  · rw [pk_un (by omega)]; exact hZ.2.1 j hj
  · have : j ≠ i := fun e => hki (by rw [← e]; exact hk0)
    rw [pk_un this]; exact hL0 j hj hk0
  · by_cases e : 64 * j + h = 64 * a + n
    · rw [e, pk_us]
    · rw [pk_un e]; exact hNE j hj hk2 h hh
theorem jp_rm1_I1 {K L P N B V M : Nat → Int32} {a n i : Nat} (h : jp_I0 (K, L, P, N, B, V, M)) (h1 : jp_I1 (K, L, P, N, B, V, M)) (ha : a < 16) (hn : n < 64) (hi : i < 16) (he : N (64 * a + n) = nI i) (hl : ¬ L i - 1 = 0) :
    jp_I1 (K, upd L i (L i - 1), P, upd N (64 * a + n) (-1), B, V, M) := by
  obtain ⟨hi0, ⟨c, c1, c2, c3, c4⟩, hnc⟩ := jp_rm h h1 ha hn hi he
  obtain ⟨hL, hR0, hUB, rk, hT⟩ := h1
  refine ⟨fun j hj => ?_, by rw [hnc 0 (by omega) (by omega)]; exact hR0, hUB, rk, fun j h0 hj hkj => ?_⟩
  · by_cases e : j = i
    · subst e; rw [pk_us, c4, c2]
    · rw [pk_un e, hnc j hj e]; exact hL j hj
  · obtain ⟨t1, p, h, hp, hh, t2, t3, t4⟩ := hT j h0 hj hkj
    have e : j ≠ i := fun e => by
      rw [e] at t1
      have : c = 0 := by omega
      rw [this] at c2
      exact hl c2
    refine ⟨by rw [hnc j hj e]; exact t1, p, h, hp, hh, t2, ?_, t4⟩
    have hz : 64 * p + h ≠ 64 * a + n := fun z => e (jv_inj (t3.symm.trans (by rw [z]; exact he)) (by omega) (by omega))
    rw [pk_un hz]; exact t3
theorem jp_fl_id {a : Nat → Int32} {lo len : Nat} {c : Int32} (h : ∀ s, lo ≤ s → s < lo + len → a s = c) : jp_fl a lo len c = a := by
  funext s; unfold jp_fl
  by_cases e : lo ≤ s ∧ s < lo + len
  · rw [if_pos e, h s e.1 e.2]
  · rw [if_neg e]
theorem jp_row0 {K N : Nat → Int32} {i a n : Nat} (hNE : jp_NE K N) (hi : i < 16) (hc : K i = 2 → jp_en N i = 0) : jp_fl (upd N (64 * a + n) (-1)) (64 * i) 64 (-1) = upd N (64 * a + n) (-1) := by
  apply jp_fl_id
  intro s h1 h2
  obtain ⟨h, rfl⟩ : ∃ h, s = 64 * i + h := ⟨s - 64 * i, by omega⟩
  by_cases e : 64 * i + h = 64 * a + n
  · rw [e, pk_us]
  · rw [pk_un e]
    by_cases k2 : K i = 2
    · exact jp_en_0 (hc k2) h (by omega)
    · exact hNE i hi k2 h (by omega)
theorem jp_ne_fl {B : Nat → Int32} {i j : Nat} (h : jp_ne B j ≤ 5) : jp_ne (jp_fl B (24 * i) 24 (-1)) j ≤ 5 := by
  refine Nat.le_trans (jp_cn_mono (fun p hp hb => ?_)) h
  by_cases e : j = i
  · subst e
    unfold jp_be at hb
    rw [jp_fl_in (by omega) (by omega)] at hb
    simp at hb
  · unfold jp_be at hb ⊢
    rw [jp_fl_out (by omega)] at hb
    by_cases p0 : p = 0
    · simp only [decide_eq_true_eq] at hb ⊢; exact ⟨hb.1, Or.inl p0⟩
    · rw [jp_fl_out (by omega)] at hb; exact hb
theorem jp_BR_fl {B : Nat → Int32} (h : jp_BR B) (lo n : Nat) : jp_BR (jp_fl B lo n (-1)) := by
  intro s hs
  by_cases e : lo ≤ s ∧ s < lo + n
  · exact Or.inl (jp_fl_in e.1 e.2)
  · rw [jp_fl_out (by omega)]; exact h s hs
/-- an inode becomes FREE: kinds, links, its rows -/
theorem jp_gone_I0 {K L P N B V M M' : Nat → Int32} {i : Nat} (h : jp_I0 (K, L, P, N, B, V, M)) (hi : i < 16) (hi0 : i ≠ 0) (hM : ∀ j, 64 ≤ j → M' j = 0) :
    jp_I0 (upd K i 0, upd L i 0, P, jp_fl N (64 * i) 64 (-1), jp_fl B (24 * i) 24 (-1), V, M') := by
  obtain ⟨hZ, hK, hK0, hPR, hP0, hL0, hN, hNE, hEN, hB, hBE, hXN⟩ := h
  refine ⟨⟨fun j hj => ?_, fun j hj => ?_, fun j hj => ?_, fun j hj => ⟨(hZ.2.2.2 j hj).1, hM j hj⟩⟩, fun j hj => ?_, ?_, hPR, hP0, fun j hj hk0 => ?_, fun s hs => ?_, fun j hj hk2 h hh => ?_, fun j hj => ?_, jp_BR_fl hB _ _, fun j hj hk1 p hp => ?_, fun j hj => jp_ne_fl (hXN j hj)⟩
  · rw [pk_un (by omega), pk_un (by omega)]; exact hZ.1 j hj
  · rw [jp_fl_out (by omega)]; exact hZ.2.1 j hj
  · rw [jp_fl_out (by omega)]; exact hZ.2.2.1 j hj
  · by_cases e : j = i
    · subst e; rw [pk_us]; exact Or.inl rfl
    · rw [pk_un e]; exact hK j hj
  · rw [pk_un (by omega)]; exact hK0
  · by_cases e : j = i
    · subst e; rw [pk_us]
    · rw [pk_un e] at hk0 ⊢; exact hL0 j hj hk0
  · by_cases e : 64 * i ≤ s ∧ s < 64 * i + 64
    · exact Or.inl (jp_fl_in e.1 e.2)
    · rw [jp_fl_out (by omega)]; exact hN s hs
  · by_cases e : j = i
    · subst e; exact jp_fl_in (by omega) (by omega)
    · rw [pk_un e] at hk2; rw [jp_fl_out (by omega)]; exact hNE j hj hk2 h hh
  · refine Nat.le_trans (jp_cn_mono (fun h hh hb => ?_)) (hEN j hj)
    by_cases e : 64 * i ≤ 64 * j + h ∧ 64 * j + h < 64 * i + 64
    · rw [jp_fl_in e.1 e.2] at hb; exact absurd hb (by decide)
    · rw [jp_fl_out (by omega)] at hb; exact hb
  · by_cases e : j = i
    · subst e; exact jp_fl_in (by omega) (by omega)
    · rw [pk_un e] at hk1; rw [jp_fl_out (by omega)]; exact hBE j hj hk1 p hp
theorem jp_UB_um {k : Nat} {s : (Nat → Int32) × (Nat → Int32)} (hk : k < 384) (hB : jp_BR s.1) (h : jp_UB s.1 s.2) : jp_UB (jp_um k s).1 (jp_um k s).2 := by
  unfold jp_um
  by_cases e : s.1 k = -1
  · rw [if_pos e]; exact h
  · rw [if_neg e]
    rcases hB k hk with z | ⟨b, hb, z⟩
    · exact absurd z e
    · dsimp only
      rw [z, nI_clamp (by omega)]
      have ne : ∀ t c, c < 64 → upd s.1 k (-1) t = nI c → t ≠ k ∧ s.1 t = nI c := by
        intro t c hc et
        by_cases q : t = k
        · rw [q, pk_us] at et; exact absurd et.symm (jv_m1n c (by omega))
        · rw [pk_un q] at et; exact ⟨q, et⟩
      refine ⟨fun t t' c h1 h2 hc e1 e2 => h.1 t t' c h1 h2 hc (ne t c hc e1).2 (ne t' c hc e2).2, fun t c h1 hc e1 => ?_⟩
      obtain ⟨q, et⟩ := ne t c hc e1
      have : c ≠ b := fun z2 => q (h.1 t k c h1 hk hc et (by rw [z, z2]))
      rw [pk_un this]
      exact h.2 t c h1 hc et
theorem jp_UB_uh {lo n : Nat} {B M : Nat → Int32} (hB : jp_BR B) (h : jp_UB B M) (hn : lo + n ≤ 384) : jp_UB (jp_fl B lo n (-1)) (jp_uh lo n B M).2 := by
  have := jp_fd_inv (fun i s => jp_um (lo + i) s) n (B, M) (fun _ s => jp_BR s.1 ∧ jp_UB s.1 s.2) ⟨hB, h⟩ (fun i s hi hJ => ⟨by rw [jp_um_1]; exact jp_BR_upd hJ.1 _, jp_UB_um (by omega) hJ.1 hJ.2⟩)
  rw [← jp_uh_1 lo n B M]
  exact this.2
theorem jp_upd2 (a : Nat → Int32) (k : Nat) (v w : Int32) : upd (upd a k v) k w = upd a k w := by
  funext j; unfold upd
  by_cases e : j = k
  · rw [if_pos e, if_pos e]
  · rw [if_neg e, if_neg e, if_neg e]
theorem jp_rm0_I1 {K L P N B V M B' M' : Nat → Int32} {a n i : Nat} (h : jp_I0 (K, L, P, N, B, V, M)) (h1 : jp_I1 (K, L, P, N, B, V, M)) (ha : a < 16) (hn : n < 64) (hi : i < 16) (he : N (64 * a + n) = nI i) (hc : K i = 2 → jp_en N i = 0) (hl : L i - 1 = 0) (hUB' : jp_UB B' M') :
    jp_I1 (upd K i 0, upd L i 0, P, upd N (64 * a + n) (-1), B', V, M') := by
  obtain ⟨hi0, ⟨c, c1, c2, c3, c4⟩, hnc⟩ := jp_rm h h1 ha hn hi he
  obtain ⟨hZ, hK, hK0, hPR, hP0, hL0, hN, hNE, hEN, hB, hBE, hXN⟩ := h
  obtain ⟨hL, hR0, hUB, rk, hT⟩ := h1
  have hc0 : c = 0 := by rw [hl] at c2; exact (jv_inj (i := 0) c2 (by omega) (by omega)).symm
  refine ⟨fun j hj => ?_, by rw [hnc 0 (by omega) (by omega)]; exact hR0, hUB', rk, fun j h0 hj hkj => ?_⟩
  · by_cases e : j = i
    · subst e; rw [pk_us, c4, hc0]; rfl
    · rw [pk_un e, hnc j hj e]; exact hL j hj
  · have e : j ≠ i := fun e => by rw [e, pk_us] at hkj; exact absurd hkj (by decide)
    rw [pk_un e] at hkj
    obtain ⟨t1, p, h, hp, hh, t2, t3, t4⟩ := hT j h0 hj hkj
    refine ⟨by rw [hnc j hj e]; exact t1, p, h, hp, hh, t2, ?_, t4⟩
    have hz : 64 * p + h ≠ 64 * a + n := fun z => e (jv_inj (t3.symm.trans (by rw [z]; exact he)) (by omega) (by omega))
    rw [pk_un hz]; exact t3
theorem jp_pi_gone {K P : Nat → Int32} {i : Nat} : upd (jp_pi K P) i 0 = jp_pi (upd K i 0) P := by
  funext j
  by_cases e : j = i
  · subst e; rw [pk_us]; unfold jp_pi; rw [pk_us, if_pos rfl]
  · rw [pk_un e]; unfold jp_pi; rw [pk_un e]
theorem jp_fl_fl (a : Nat → Int32) (lo n : Nat) (c : Int32) : jp_fl (jp_fl a lo n c) lo n c = jp_fl a lo n c := jp_fl_id (fun s h1 h2 => jp_fl_in h1 h2)
theorem i_vc_remove {k : Nat} {u : SX} {v : SY} (I : i_Rel k u v) (hk : k + 5 ≤ 2560) (v1 : Int32) (v2 : Int32) : wpX_remove (fun r u' => wpY_remove (fun r' v' => r' = r ∧ i_Rel (k + 5) u' v') v v1 v2) u v1 v2 := by
  have I' : i_Rel (k + 5) u v := I
  obtain ⟨S, r, s, d, xw, yh, yt, K, L, P, N, B, V, M, bk, bl, bp, bn, bb, bm, bh, xq, ok, ol, op, on, ob, ov, om, yc, yg, yq, F, T, U, rfl, rfl, hS, hS0, hr, hs, hd, hLog⟩ := I
  have hI := hLog.1 r (Nat.le_refl r)
  have hJ := fun h => hLog.2.1 h r (Nat.le_refl r)
  rw [hS] at hI hJ
  have hI2 := hI
  obtain ⟨hZ, hK, hK0, hPR, hP0, hL0, hN, hNE, hEN, hB, hBE, hXN⟩ := hI
  unfold wpX_remove
  refine br_c (fun e => ?_) (fun e => br_f e ⟨rfl, I'⟩)
  subst e
  refine jx_hasEntry (fun a n ha hn e1 e2 hka hent => br_f (by decide) ?_) (fun hno => br_t rfl ?_)
  · subst e1 e2
    have hsn := jp_s_lt n
    rw [jp_ro_n N a hn] at hent
    refine jx_spotOf hn ⟨vp_in_nI (by omega) (by omega), ?_⟩
    rw [nI_clamp (by omega), jp_ro_n N a hn]
    rcases hN (64 * a + n) (by omega) with z | ⟨i, hi, he⟩
    · exact absurd z hent
    rw [he]
    have hJ := hJ rfl
    obtain ⟨hi0, ⟨c, c1, c2, c3, c4⟩, hnc⟩ := jp_rm hI2 hJ ha hn hi he
    have hki : ¬ K i = 0 := fun z => by have := jp_free hL0 hJ.1 hi z; omega
    refine nm_e ⟨vp_in_nI hi (by omega), ?_⟩
    rw [nI_clamp (n := i) (by omega)]
    have go : (K i = 2 → jp_en N i = 0) → wX_remove_55 (fun r1 u' => wpY_remove (fun r' v' => r' = r1 ∧ i_Rel (k + 5) u' v') (nI r, nI s, 0, yh, yt, K, L, P, N, B, V, M, ok, ol, op, on, ob, ov, om, yc, yg, F, yq, U, T) (nI a) (nI n)) (nI (64 * a + jp_s n)) (nI i) (nI r) (nI s) 0 xw K L (jp_pi K P) (jp_ro N) B M V bk bl bp bn bb bm bh F T xq U := by
      intro hc
      refine jx_isFullLog hr (fun hl => br_f (by decide) (jy_remove_go hr hN hB ha hka hn hi he (fun k2 z => absurd (hc k2) z) (fun _ _ => ⟨rfl, I'⟩) (fun _ z => by omega) (fun _ z => by omega))) (fun hl => br_t rfl (jx_openRecord hl ?_))
      rw [nI_clamp (n := 64 * a + jp_s n) (by omega), nI_clamp (n := i) (by omega)]
      refine ⟨vp_in_nI (by omega) (by omega), nm_e ⟨vp_in_nI hi (by omega), vp_in_nI hi (by omega), nm_e ⟨vp_in_nI hi (by omega), ?_⟩⟩⟩
      rw [pk_us, c2]
      refine pk_lt 0 c (fun hc0 => ?_) (fun hc0 => jx_makeHoles (p := 0) (m := 24) hi (by omega) hB (jx_makeFree hi ?_))
      · have hl0 : ¬ L i - 1 = 0 := by rw [c2]; exact nI_ne0 hc0 (by omega)
        refine jy_remove_go hr hN hB ha hka hn hi he (fun k2 z => absurd (hc k2) z) (fun _ z => by omega) (fun _ _ _ => ⟨rfl, ?_⟩) (fun _ _ z => absurd z hl0)
        rw [← jp_ro_upd N a hn, ← c2]
        exact jr_push hS hS0 hl hs rfl hLog (jp_rm1_I0 hI2 ha hn hi hki) (jp_rm1_I1 hI2 hJ ha hn hi he hl0) (jp_run_remove1 hl hN hB ha hka hn hi he hc hl0)
      · have hl0 : L i - 1 = 0 := by rw [c2, show c = 0 from by omega]; rfl
        refine jy_remove_go hr hN hB ha hka hn hi he (fun k2 z => absurd (hc k2) z) (fun _ z => by omega) (fun _ _ z => absurd hl0 z) (fun _ _ _ => ⟨rfl, ?_⟩)
        have hrun := jp_run_remove0 (L := L) (P := P) (V := V) (M := M) hl hN hB ha hka hn hi he hc hl0
        rw [← jp_ro_upd N a hn, ← jp_ro_fl, Nat.add_zero (24 * i), jp_fl_fl, jp_pi_gone, ← c2]
        refine jr_push hS hS0 hl hs rfl hLog ?_ ?_ hrun
        · rw [jp_upd2]
          have := jp_gone_I0 (M' := (jp_uh (24 * i) 24 B M).2) (jp_rm1_I0 (v := 0) hI2 ha hn hi hki) hi hi0 (jp_uh_z hB (fun j hj => (hZ.2.2.2 j hj).2) (by omega))
          rw [jp_upd2] at this
          exact this
        · rw [jp_upd2, jp_row0 hNE hi hc]
          exact jp_rm0_I1 hI2 hJ ha hn hi he hc hl0 (jp_UB_uh hB hJ.2.2.1 (by omega))
    refine br_c (fun k2 => jx_countEntries' hi ?_) (fun k2 => go (fun z => absurd z k2))
    have := jp_cn_le (fun n => decide (¬ N (64 * i + n) = -1)) 64
    have e : jp_en N i = jp_cn (fun n => decide (¬ N (64 * i + n) = -1)) 64 := rfl
    exact pk_le (jp_en N i) 0 (fun z => go (fun _ => by omega)) (fun z => jy_remove_go hr hN hB ha hka hn hi he (fun _ _ => ⟨rfl, I'⟩) (fun hc => by have := hc k2; omega) (fun hc => by have := hc k2; omega) (fun hc => by have := hc k2; omega))
  · unfold wpY_remove
    refine br_t rfl (jy_is (fun a ha e hka => br_f (by decide) (jy_in (M := 63) (by omega) (fun n hn e2 => br_f (by decide) ?_) (fun _ => br_t rfl ⟨rfl, I'⟩))) (fun _ => br_t rfl ⟨rfl, I'⟩))
    subst e e2
    rw [jv_e64, nI_clamp (by omega), jp_nneg (by omega) (hN (64 * a + n) (by omega))]
    exact ⟨vp_in_nI (by omega) (by omega), br_f (fun z => hno ⟨a, n, ha, hn, rfl, rfl, hka, by rw [jp_ro_n N a hn]; exact z⟩) ⟨rfl, I'⟩⟩

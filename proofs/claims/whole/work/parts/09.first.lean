theorem jp_cp_all {a b : Nat → Int32} {n : Nat} (ha : ∀ i, n ≤ i → a i = 0) (hb : ∀ i, n ≤ i → b i = 0) : jp_cp a 0 n b 0 = b := by
  funext i
  unfold jp_cp
  by_cases h : 0 ≤ i ∧ i < 0 + n
  · rw [if_pos h, Nat.sub_zero, Nat.zero_add]
  · rw [if_neg h, ha i (by omega), hb i (by omega)]
/-- the reference's 'place': the old state is this one -/
theorem jp_cpZ {ok ol op on ob ov om K L P N B V M : Nat → Int32} (h0 : jp_Z ok ol op on ob ov om) (h1 : jp_Z K L P N B V M) :
    jp_cp ok 0 16 K 0 = K ∧ jp_cp ol 0 16 L 0 = L ∧ jp_cp op 0 16 P 0 = P ∧ jp_cp on 0 1024 N 0 = N ∧ jp_cp ob 0 384 B 0 = B ∧ jp_cp ov 0 64 V 0 = V ∧ jp_cp om 0 64 M 0 = M :=
  ⟨jp_cp_all (fun i hi => (h0.1 i hi).1) (fun i hi => (h1.1 i hi).1), jp_cp_all (fun i hi => (h0.1 i hi).2.1) (fun i hi => (h1.1 i hi).2.1), jp_cp_all (fun i hi => (h0.1 i hi).2.2) (fun i hi => (h1.1 i hi).2.2),
   jp_cp_all h0.2.1 h1.2.1, jp_cp_all h0.2.2.1 h1.2.2.1, jp_cp_all (fun i hi => (h0.2.2.2 i hi).1) (fun i hi => (h1.2.2.2 i hi).1), jp_cp_all (fun i hi => (h0.2.2.2 i hi).2) (fun i hi => (h1.2.2.2 i hi).2)⟩
section
variable {yr ys yd yh yt : Int32} {yk yl yp yn yb yv ym ok ol op on ob ov om yc yg yf yq yu ye : Nat → Int32}
theorem jy_placeZ {post : SY → Prop} (h0 : jp_Z ok ol op on ob ov om) (h1 : jp_Z yk yl yp yn yb yv ym) (h : post (yr, ys, yd, yh, yt, yk, yl, yp, yn, yb, yv, ym, yk, yl, yp, yn, yb, yv, ym, yc, yg, yf, yq, yu, ye)) : wpY_place post (yr, ys, yd, yh, yt, yk, yl, yp, yn, yb, yv, ym, ok, ol, op, on, ob, ov, om, yc, yg, yf, yq, yu, ye) := by
  obtain ⟨e1, e2, e3, e4, e5, e6, e7⟩ := jp_cpZ h0 h1
  refine jy_place ?_
  rw [e1, e2, e3, e4, e5, e6, e7]
  exact h
end
/-- a state with an empty log -/
theorem jr_new {k : Nat} {d xw yh yt : Int32} {K L P N B V M bk bl bp bn bb bm bh xq yc yg yq F T U : Nat → Int32} (hd : d = 0 ∨ d = 1) (h0 : jp_I0 (K, L, P, N, B, V, M)) (h1 : d = 0 → jp_I1 (K, L, P, N, B, V, M)) :
    i_Rel k (0, 0, d, xw, K, L, jp_pi K P, jp_ro N, B, M, V, bk, bl, bp, bn, bb, bm, bh, F, T, xq, U) (0, 0, d, yh, yt, K, L, P, N, B, V, M, K, L, P, N, B, V, M, yc, yg, F, yq, U, T) :=
  ⟨fun _ => (K, L, P, N, B, V, M), 0, 0, d, xw, yh, yt, K, L, P, N, B, V, M, bk, bl, bp, bn, bb, bm, bh, xq, K, L, P, N, B, V, M, yc, yg, yq, F, T, U, rfl, rfl, rfl, rfl, by omega, by omega, hd.elim Or.inl (fun h => Or.inr ⟨h, rfl⟩),
   fun _ _ => h0, fun h _ _ => h1 h, fun j hj => absurd hj (Nat.not_lt_zero j), fun j hj => absurd hj (Nat.not_lt_zero j)⟩
theorem i_vc_mended {k : Nat} {u : SX} {v : SY} (I : i_Rel k u v) (hk : k + 5 ≤ 2560) (v1 : Int32) : wpX_mended (fun r => wpY_mended (fun r' => r' = r ∧ i_Rel (k + 5) u v) v v1) u v1 := by
  have I' : i_Rel (k + 5) u v := I
  obtain ⟨S, r, s, d, xw, yh, yt, K, L, P, N, B, V, M, bk, bl, bp, bn, bb, bm, bh, xq, ok, ol, op, on, ob, ov, om, yc, yg, yq, F, T, U, rfl, rfl, hS, hS0, hr, hs, hd, hLog⟩ := I
  exact jr_mended I' v1
theorem i_vc_find {k : Nat} {u : SX} {v : SY} (I : i_Rel k u v) (hk : k + 5 ≤ 2560) (v1 : Int32) (v2 : Int32) : wpX_find (fun r => wpY_find (fun r' => r' = r ∧ i_Rel (k + 5) u v) v v1 v2) u v1 v2 := by
  have I' : i_Rel (k + 5) u v := I
  obtain ⟨S, r, s, d, xw, yh, yt, K, L, P, N, B, V, M, bk, bl, bp, bn, bb, bm, bh, xq, ok, ol, op, on, ob, ov, om, yc, yg, yq, F, T, U, rfl, rfl, hS, hS0, hr, hs, hd, hLog⟩ := I
  exact jr_find I' v1 v2
theorem i_vc_entry {k : Nat} {u : SX} {v : SY} (I : i_Rel k u v) (hk : k + 5 ≤ 2560) (v1 : Int32) (v2 : Int32) (v3 : Int32) : wpX_entry (fun r => wpY_entry (fun r' => r' = r ∧ i_Rel (k + 5) u v) v v1 v2 v3) u v1 v2 v3 := by
  have I' : i_Rel (k + 5) u v := I
  obtain ⟨S, r, s, d, xw, yh, yt, K, L, P, N, B, V, M, bk, bl, bp, bn, bb, bm, bh, xq, ok, ol, op, on, ob, ov, om, yc, yg, yq, F, T, U, rfl, rfl, hS, hS0, hr, hs, hd, hLog⟩ := I
  have hI := hLog.1 r (Nat.le_refl r)
  rw [hS] at hI
  obtain ⟨hZ, hK, hK0, hPR, hP0, hL0, hN, hNE, hEN, hB, hBE, hXN⟩ := hI
  exact jr_entry I' hN v1 v2 v3
theorem i_vc_of {k : Nat} {u : SX} {v : SY} (I : i_Rel k u v) (hk : k + 5 ≤ 2560) (v1 : Int32) (v2 : Int32) : wpX_of (fun r => wpY_of (fun r' => r' = r ∧ i_Rel (k + 5) u v) v v1 v2) u v1 v2 := by
  have I' : i_Rel (k + 5) u v := I
  obtain ⟨S, r, s, d, xw, yh, yt, K, L, P, N, B, V, M, bk, bl, bp, bn, bb, bm, bh, xq, ok, ol, op, on, ob, ov, om, yc, yg, yq, F, T, U, rfl, rfl, hS, hS0, hr, hs, hd, hLog⟩ := I
  have hI := hLog.1 r (Nat.le_refl r)
  rw [hS] at hI
  obtain ⟨hZ, hK, hK0, hPR, hP0, hL0, hN, hNE, hEN, hB, hBE, hXN⟩ := hI
  exact jr_of I' hK hN hB v1 v2
theorem i_vc_read {k : Nat} {u : SX} {v : SY} (I : i_Rel k u v) (hk : k + 5 ≤ 2560) (v1 : Int32) (v2 : Int32) : wpX_read (fun r => wpY_read (fun r' => r' = r ∧ i_Rel (k + 5) u v) v v1 v2) u v1 v2 := by
  have I' : i_Rel (k + 5) u v := I
  obtain ⟨S, r, s, d, xw, yh, yt, K, L, P, N, B, V, M, bk, bl, bp, bn, bb, bm, bh, xq, ok, ol, op, on, ob, ov, om, yc, yg, yq, F, T, U, rfl, rfl, hS, hS0, hr, hs, hd, hLog⟩ := I
  have hI := hLog.1 r (Nat.le_refl r)
  rw [hS] at hI
  obtain ⟨hZ, hK, hK0, hPR, hP0, hL0, hN, hNE, hEN, hB, hBE, hXN⟩ := hI
  exact jr_read I' hB v1 v2
theorem i_vc_extent {k : Nat} {u : SX} {v : SY} (I : i_Rel k u v) (hk : k + 5 ≤ 2560) (v1 : Int32) (v2 : Int32) (v3 : Int32) : wpX_extent (fun r => wpY_extent (fun r' => r' = r ∧ i_Rel (k + 5) u v) v v1 v2 v3) u v1 v2 v3 := by
  have I' : i_Rel (k + 5) u v := I
  obtain ⟨S, r, s, d, xw, yh, yt, K, L, P, N, B, V, M, bk, bl, bp, bn, bb, bm, bh, xq, ok, ol, op, on, ob, ov, om, yc, yg, yq, F, T, U, rfl, rfl, hS, hS0, hr, hs, hd, hLog⟩ := I
  have hI := hLog.1 r (Nat.le_refl r)
  rw [hS] at hI
  obtain ⟨hZ, hK, hK0, hPR, hP0, hL0, hN, hNE, hEN, hB, hBE, hXN⟩ := hI
  exact jr_extent I' hB v1 v2 v3
theorem i_vc_state {k : Nat} {u : SX} {v : SY} (I : i_Rel k u v) (hk : k + 5 ≤ 2560) (v1 : Int32) : wpX_state (fun r => wpY_state (fun r' => r' = r ∧ i_Rel (k + 5) u v) v v1) u v1 := by
  have I' : i_Rel (k + 5) u v := I
  obtain ⟨S, r, s, d, xw, yh, yt, K, L, P, N, B, V, M, bk, bl, bp, bn, bb, bm, bh, xq, ok, ol, op, on, ob, ov, om, yc, yg, yq, F, T, U, rfl, rfl, hS, hS0, hr, hs, hd, hLog⟩ := I
  exact jr_state I' (hd.elim Or.inl (fun h => Or.inr h.1)) v1
theorem i_vc_sync {k : Nat} {u : SX} {v : SY} (I : i_Rel k u v) (hk : k + 5 ≤ 2560) : wpX_sync (fun r u' => wpY_sync (fun r' v' => r' = r ∧ i_Rel (k + 5) u' v') v) u := by
  obtain ⟨S, r, s, d, xw, yh, yt, K, L, P, N, B, V, M, bk, bl, bp, bn, bb, bm, bh, xq, ok, ol, op, on, ob, ov, om, yc, yg, yq, F, T, U, rfl, rfl, hS, hS0, hr, hs, hd, hLog⟩ := I
  exact nm_e (nm_e ⟨rfl, S, r, r, d, xw, yh, yt, K, L, P, N, B, V, M, bk, bl, bp, bn, bb, bm, bh, xq, ok, ol, op, on, ob, ov, om, yc, yg, yq, F, T, U, rfl, rfl, hS, hS0, hr, Nat.le_refl r, hd, hLog⟩)
theorem i_vc_checkpoint {k : Nat} {u : SX} {v : SY} (I : i_Rel k u v) (hk : k + 5 ≤ 2560) : wpX_checkpoint (fun r u' => wpY_checkpoint (fun r' v' => r' = r ∧ i_Rel (k + 5) u' v') v) u := by
  obtain ⟨S, r, s, d, xw, yh, yt, K, L, P, N, B, V, M, bk, bl, bp, bn, bb, bm, bh, xq, ok, ol, op, on, ob, ov, om, yc, yg, yq, F, T, U, rfl, rfl, hS, hS0, hr, hs, hd, hLog⟩ := I
  have hI := hLog.1 r (Nat.le_refl r)
  have hI0 := hLog.1 0 (Nat.zero_le r)
  have hJ := fun h => hLog.2.1 h r (Nat.le_refl r)
  rw [hS] at hI hJ
  rw [hS0] at hI0
  have hd' : d = 0 ∨ d = 1 := hd.elim Or.inl (fun h => Or.inr h.1)
  unfold wpX_checkpoint wpY_checkpoint
  refine pk_le r 0 (fun h => ⟨rfl, ?_⟩) (fun h => jy_placeZ hI0.1 hI.1 ⟨rfl, jr_new hd' hI hJ⟩)
  have : r = 0 := by omega
  subst this
  rw [hS] at hS0
  cases hS0
  exact jr_new hd' hI hJ
/-! the first state -/
theorem jp_first : jp_I0 (upd (fun _ => 0) 0 2, (fun _ => 0), (fun _ => 0), jp_fl (fun _ => 0) 0 1024 (-1), jp_fl (fun _ => 0) 0 384 (-1), (fun _ => 0), (fun _ => 0)) := by
  have hN : ∀ s, s < 1024 → jp_fl (fun _ => 0) 0 1024 (-1) s = -1 := fun s hs => jp_fl_in (by omega) (by omega)
  have hB : ∀ s, s < 384 → jp_fl (fun _ => 0) 0 384 (-1) s = -1 := fun s hs => jp_fl_in (by omega) (by omega)
  refine ⟨⟨fun i hi => ⟨pk_un (by omega), rfl, rfl⟩, fun i hi => jp_fl_out (by omega), fun i hi => jp_fl_out (by omega), fun i hi => ⟨rfl, rfl⟩⟩, fun i hi => ?_, pk_us, fun i hi => ⟨0, by omega, rfl⟩, rfl, fun i hi _ => rfl, fun s hs => Or.inl (hN s hs), fun i hi _ h hh => hN _ (by omega), fun i hi => ?_, fun s hs => Or.inl (hB s hs), fun i hi _ p hp => hB _ (by omega), fun i hi => ?_⟩
  · by_cases e : i = 0
    · subst e; exact Or.inr (Or.inr pk_us)
    · exact Or.inl (pk_un e)
  · rw [show jp_en (jp_fl (fun _ => 0) 0 1024 (-1)) i = 0 from jp_cn_zero (fun h hh => by rw [hN _ (by omega)]; decide)]; omega
  · rw [show jp_ne (jp_fl (fun _ => 0) 0 384 (-1)) i = 0 from jp_cn_zero (fun p hp => by unfold jp_be; rw [hB _ (by omega)]; simp)]; omega
theorem jp_first1 : jp_I1 (upd (fun _ => 0) 0 2, (fun _ => 0), (fun _ => 0), jp_fl (fun _ => 0) 0 1024 (-1), jp_fl (fun _ => 0) 0 384 (-1), (fun _ => 0), (fun _ => 0)) := by
  have hN : ∀ s, s < 1024 → jp_fl (fun _ => 0) 0 1024 (-1) s = -1 := fun s hs => jp_fl_in (by omega) (by omega)
  have hc : ∀ i, i < 16 → jp_nc (jp_fl (fun _ => 0) 0 1024 (-1)) i = 0 := fun i hi => jp_cn_zero (fun s hs => by
    rw [hN s hs]; exact decide_eq_false (fun z => jv_m1n i (by omega) z.symm))
  have hB : ∀ s, s < 384 → jp_fl (fun _ => 0) 0 384 (-1) s = -1 := fun s hs => jp_fl_in (by omega) (by omega)
  refine ⟨fun i hi => by rw [hc i hi]; rfl, hc 0 (by omega), ⟨fun s t b hs _ hb e _ => absurd (e.symm.trans (hB s hs)) (jv_m1n b (by omega)), fun s b hs hb e => absurd (e.symm.trans (hB s hs)) (jv_m1n b (by omega))⟩, fun _ => 0, fun i h0 hi hk => ?_⟩
  rw [pk_un (by omega)] at hk
  exact absurd hk (by decide)
theorem i_vc0 : wpX_init (fun u => wpY_init (fun v => i_Rel 0 u v)) := by
  unfold wpX_init
  refine pk_loop (σ := Nat → Int32) (fun n i s => wX_init_158 (fun u => wpY_init (fun v => i_Rel 0 u v)) 0 0 0 0 n (nI i) (fun _ => 0) (fun _ => 0) (fun _ => 0) s (fun _ => 0) (fun _ => 0) (fun _ => 0) (fun _ => 0) (fun _ => 0) (fun _ => 0) (fun _ => 0) (fun _ => 0) (fun _ => 0) (fun _ => 0) (fun _ => 0) (fun _ => 0) (fun _ => 0) (fun _ => 0)) (fun i s => s = jp_fl (fun _ => 0) 0 i (-1)) 1024 0 (fun _ => 0) (by omega) (jp_fl_0 _ _ _).symm (fun n s hI => br_t (nI_le (a := 1024) (by omega) (by omega)) ?_) (fun n i s hi hI ih => br_f (nI_ge (b := 1024) hi (by omega)) ⟨vp_in_nI hi (by omega), ?_⟩)
  · refine pk_loop (σ := Nat → Int32) (fun n i q => wX_init_180 (fun u => wpY_init (fun v => i_Rel 0 u v)) 0 0 0 0 n (nI i) (fun _ => 0) (fun _ => 0) (fun _ => 0) s q (fun _ => 0) (fun _ => 0) (fun _ => 0) (fun _ => 0) (fun _ => 0) (fun _ => 0) (fun _ => 0) (fun _ => 0) (fun _ => 0) (fun _ => 0) (fun _ => 0) (fun _ => 0) (fun _ => 0)) (fun i s => s = jp_fl (fun _ => 0) 0 i (-1)) 384 0 (fun _ => 0) (by omega) (jp_fl_0 _ _ _).symm (fun n q hI2 => br_t (nI_le (a := 384) (by omega) (by omega)) ?_) (fun n i q hi hI ih => br_f (nI_ge (b := 384) hi (by omega)) ⟨vp_in_nI hi (by omega), ?_⟩)
    · subst hI hI2
      refine nm_e (nm_e ?_)
      unfold wpY_init
      refine pk_loop (σ := Nat → Int32) (fun n i s => wY_init_169 (fun v => i_Rel 0 _ v) 0 0 0 0 0 n (nI i) (fun _ => 0) (fun _ => 0) (fun _ => 0) s (fun _ => 0) (fun _ => 0) (fun _ => 0) (fun _ => 0) (fun _ => 0) (fun _ => 0) (fun _ => 0) (fun _ => 0) (fun _ => 0) (fun _ => 0) (fun _ => 0) (fun _ => 0) (fun _ => 0) (fun _ => 0) (fun _ => 0) (fun _ => 0)) (fun i s => s = jp_fl (fun _ => 0) 0 i (-1)) 1024 0 (fun _ => 0) (by omega) (jp_fl_0 _ _ _).symm (fun n s hI => br_t (nI_le (a := 1024) (by omega) (by omega)) ?_) (fun n i s hi hI ih => br_f (nI_ge (b := 1024) hi (by omega)) ⟨vp_in_nI hi (by omega), ?_⟩)
      · refine pk_loop (σ := Nat → Int32) (fun n i q => wY_init_191 (fun v => i_Rel 0 _ v) 0 0 0 0 0 n (nI i) (fun _ => 0) (fun _ => 0) (fun _ => 0) s q (fun _ => 0) (fun _ => 0) (fun _ => 0) (fun _ => 0) (fun _ => 0) (fun _ => 0) (fun _ => 0) (fun _ => 0) (fun _ => 0) (fun _ => 0) (fun _ => 0) (fun _ => 0) (fun _ => 0) (fun _ => 0) (fun _ => 0)) (fun i s => s = jp_fl (fun _ => 0) 0 i (-1)) 384 0 (fun _ => 0) (by omega) (jp_fl_0 _ _ _).symm (fun n q hI2 => br_t (nI_le (a := 384) (by omega) (by omega)) ?_) (fun n i q hi hI ih => br_f (nI_ge (b := 384) hi (by omega)) ⟨vp_in_nI hi (by omega), ?_⟩)
        · subst hI hI2
          refine nm_e (jy_placeZ ⟨fun _ _ => ⟨rfl, rfl, rfl⟩, fun _ _ => rfl, fun _ _ => rfl, fun _ _ => ⟨rfl, rfl⟩⟩ jp_first.1 ?_)
          have e1 : upd (fun _ => (0 : Int32)) 0 0 = jp_pi (upd (fun _ => 0) 0 2) (fun _ => 0) := by
            funext i; unfold upd jp_pi; simp
          have e2 : jp_fl (fun _ => (0 : Int32)) 0 1024 (-1) = jp_ro (jp_fl (fun _ => 0) 0 1024 (-1)) := by
            funext i; unfold jp_fl jp_ro; dsimp only
            have := jp_t_lt (i % 64)
            by_cases h : i < 1024
            · rw [if_pos (by omega), if_pos (by omega)]
            · rw [if_neg (by omega), if_neg (by omega)]
          rw [e1]
          have := jr_new (k := 0) (d := 0) (xw := 0) (yh := 0) (yt := 0) (bk := fun _ => 0) (bl := fun _ => 0) (bp := fun _ => 0) (bn := fun _ => 0) (bb := fun _ => 0) (bm := fun _ => 0) (bh := fun _ => 0) (xq := fun _ => 0) (yc := fun _ => 0) (yg := fun _ => 0) (yq := fun _ => 0) (F := fun _ => 0) (T := fun _ => 0) (U := fun _ => 0) (Or.inl rfl) jp_first (fun _ => jp_first1)
          rw [← e2] at this
          exact this
        · rw [nI_clamp (by omega)]
          exact nm_e (nm_r (nI_1 _) (ih _ (by rw [hI, ← jp_fl_s, Nat.zero_add])))
      · rw [nI_clamp (by omega)]
        exact nm_e (nm_r (nI_1 _) (ih _ (by rw [hI, ← jp_fl_s, Nat.zero_add])))
    · rw [nI_clamp (by omega)]
      exact nm_e (nm_r (nI_1 _) (ih _ (by rw [hI, ← jp_fl_s, Nat.zero_add])))
  · rw [nI_clamp (by omega)]
    exact nm_e (nm_r (nI_1 _) (ih _ (by rw [hI, ← jp_fl_s, Nat.zero_add])))

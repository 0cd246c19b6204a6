theorem i_vc_mend {k : Nat} {u : SX} {v : SY} (I : i_Rel k u v) (hk : k + 5 ≤ 2560) : wpX_mend (fun r u' => wpY_mend (fun r' v' => r' = r ∧ i_Rel (k + 5) u' v') v) u := by
  have I' : i_Rel (k + 5) u v := I
  obtain ⟨S, r, s, d, xw, yh, yt, K, L, P, N, B, V, M, bk, bl, bp, bn, bb, bm, bh, xq, ok, ol, op, on, ob, ov, om, yc, yg, yq, F, T, U, rfl, rfl, hS, hS0, hr, hs, hd, hLog⟩ := I
  have hI := hLog.1 r (Nat.le_refl r)
  have hI0 := hLog.1 0 (Nat.zero_le r)
  rw [hS] at hI
  rw [hS0] at hI0
  obtain ⟨c, hc⟩ : ∃ c : Nat, 24 ≤ c := ⟨24, Nat.le_refl 24⟩
  unfold wpX_mend
  refine pk_le r 0 (fun h => ?_) (fun h => by unfold wpY_mend; exact br_f (nI_nle h (by omega)) ⟨rfl, I'⟩)
  obtain rfl : r = 0 := by omega
  obtain rfl : s = 0 := by omega
  clear I'
  refine pk_loop (σ := Nat → Int32) (fun n i q => wX_mend_11 (fun r u' => wpY_mend (fun r' v' => r' = r ∧ i_Rel (k + 5) u' v') (nI 0, nI 0, d, yh, yt, K, L, P, N, B, V, M, ok, ol, op, on, ob, ov, om, yc, yg, F, yq, U, T)) (nI 0) (nI 0) d xw n (nI i) K L (jp_pi K P) (jp_ro N) B M V bk bl bp bn bb bm bh q T xq U) (fun i q => q = jp_fl F 0 i 0) 5 0 F (by omega) (jp_fl_0 _ _ _).symm (fun n q hq => br_t (nI_le (a := 5) (by omega) (by omega)) ?_) (fun n i q hi hq ih => br_f (nI_ge (b := 5) hi (by omega)) ⟨vp_in_nI hi (by omega), ?_⟩)
  · subst hq
    refine jx_root (R := yq) hI (fun P1 N1 F1 T1 R1 t1 xw1 W1 e1 => ?_)
    have Q1 := jp_Q_1 hI e1
    refine jx_rl (s0 := (K, L, B, P1, N1, F1, T1, R1, t1)) Q1 (fun K2 L2 B2 P2 N2 F2 T2 R2 t2 xw2 W2 e2 => ?_)
    have Q2 := jp_Q_n Q1 15 _ (Nat.le_refl 15) e2
    refine jx_drop hc (jp_PV_0 Q2.1) (fun B3 U3 F3 e3 => ?_)
    have hP := jp_PV_n hc (jp_PV_0 Q2.1) 16 _ (Nat.le_refl 16) e3
    unfold jx_C3
    refine jx_marks (fun M4 F4 e4 => ?_)
    unfold jx_C2
    refine jx_links (fun L5 F5 e5 => ?_)
    unfold jx_C1
    refine jx_sum ?_
    have hM := jp_mm_1 64 M4 F4 e4
    have hL := jp_ml_1 16 L5 F5 e5
    have E0 := jp_end_I0 Q2.1 hP hL
    have E1 := jp_end_I1 Q2 hP hL
    rw [← hM] at E0 E1
    unfold wpY_mend
    refine br_t (by decide) ?_
    refine pk_loop (σ := Nat → Int32) (fun n i q => wY_mend_11 _ (nI 0) (nI 0) d yh yt n (nI i) K L P N B V M ok ol op on ob ov om yc yg q yq U T) (fun i q => q = jp_fl F 0 i 0) 5 0 F (by omega) (jp_fl_0 _ _ _).symm (fun n q hq => br_t (nI_le (a := 5) (by omega) (by omega)) ?_) (fun n i q hi hq ih => br_f (nI_ge (b := 5) hi (by omega)) ⟨vp_in_nI hi (by omega), ?_⟩)
    · subst hq
      refine jy_root hI (fun P1' N1' F1' T1' R1' t1' e1' => ?_)
      rw [e1] at e1'
      cases e1'
      refine jy_rl (s0 := (K, L, B, P1, N1, F1, T1, R1, t1)) Q1 (fun K2' L2' B2' P2' N2' F2' T2' R2' t2' e2' => ?_)
      rw [e2] at e2'
      cases e2'
      refine jy_part hc (jp_PV_0 Q2.1) (fun B3' U3' F3' e3' => ?_)
      rw [e3] at e3'
      cases e3'
      refine jy_tail hI0.1 (fun M4' F4' L5' F5' e4' e5' => ?_)
      rw [e4] at e4'
      cases e4'
      rw [e5] at e5'
      cases e5'
      exact ⟨E0.1, rfl, jr_new (Or.inl rfl) E0 (fun _ => E1)⟩
    · rw [nI_clamp (by omega)]
      exact nm_e (nm_r (nI_1 _) (ih _ (by rw [hq, ← jp_fl_s, Nat.zero_add])))
  · rw [nI_clamp (by omega)]
    exact nm_e (nm_r (nI_1 _) (ih _ (by rw [hq, ← jp_fl_s, Nat.zero_add])))

/-! what was not met -/
theorem jp_I0_JI {K L P N B V M : Nat → Int32} (h : jp_I0 (K, L, P, N, B, V, M)) : jp_JI K P N :=
  ⟨fun i hi => (h.1.1 i hi).2.2, h.1.2.1, h.2.2.1, h.2.2.2.1, h.2.2.2.2.1, h.2.2.2.2.2.2.1, h.2.2.2.2.2.2.2.1, h.2.2.2.2.2.2.2.2.1⟩
theorem jp_I0_of {K L P N B V M P' N' : Nat → Int32} (h : jp_I0 (K, L, P, N, B, V, M)) (I : jp_JI K P' N') : jp_I0 (K, L, P', N', B, V, M) := by
  obtain ⟨hZ, hK, hK0, hPR, hP0, hL0, hN, hNE, hEN, hB, hBE, hXN⟩ := h
  obtain ⟨a, b, k0, c, p0, e, f, g⟩ := I
  exact ⟨⟨fun i hi => ⟨(hZ.1 i hi).1, (hZ.1 i hi).2.1, a i hi⟩, b, hZ.2.2⟩, hK, hK0, c, p0, hL0, e, f, g, hB, hBE, hXN⟩
abbrev jp_MS : Type := (Nat → Int32) × (Nat → Int32) × (Nat → Int32) × jp_BS
noncomputable def jp_rsc (k : Nat) : jp_MS → jp_MS
  | (K, L, B, P, N, F, T, R, t) => if K k = 0 then (K, L, B, P, N, F, T, R, t) else if ¬ T k = 0 then (K, L, B, P, N, F, T, R, t) else
      if N (48 + k) = -1 ∧ jp_en N 0 < 10 then (K, L, B, jp_vis K (16 - t) t (jp_meet K k 0 (P, upd N (48 + k) (nI k), upd F 1 (F 1 + 1), T, R, t)))
      else (upd K k 0, upd L k 0, jp_fl B (24 * k) 24 (-1), P, jp_fl N (64 * k) 64 (-1), upd F 1 (F 1 + 1), T, R, t)
theorem jp_rsc_0 {K L B P N F T R : Nat → Int32} {k t : Nat} (h : K k = 0 ∨ ¬ T k = 0) : jp_rsc k (K, L, B, P, N, F, T, R, t) = (K, L, B, P, N, F, T, R, t) := by
  unfold jp_rsc
  dsimp only
  by_cases h0 : K k = 0
  · rw [if_pos h0]
  · rw [if_neg h0, if_pos (h.elim (fun z => absurd z h0) id)]
theorem jp_rsc_1 {K L B P N F T R : Nat → Int32} {k t : Nat} (h0 : ¬ K k = 0) (h1 : T k = 0) (h : N (48 + k) = -1 ∧ jp_en N 0 < 10) : jp_rsc k (K, L, B, P, N, F, T, R, t) = (K, L, B, jp_vis K (16 - t) t (jp_meet K k 0 (P, upd N (48 + k) (nI k), upd F 1 (F 1 + 1), T, R, t))) := by
  unfold jp_rsc
  dsimp only
  rw [if_neg h0, if_neg (fun z => z h1), if_pos h]
theorem jp_rsc_2 {K L B P N F T R : Nat → Int32} {k t : Nat} (h0 : ¬ K k = 0) (h1 : T k = 0) (h : ¬ (N (48 + k) = -1 ∧ jp_en N 0 < 10)) : jp_rsc k (K, L, B, P, N, F, T, R, t) = (upd K k 0, upd L k 0, jp_fl B (24 * k) 24 (-1), P, jp_fl N (64 * k) 64 (-1), upd F 1 (F 1 + 1), T, R, t) := by
  unfold jp_rsc
  dsimp only
  rw [if_neg h0, if_neg (fun z => z h1), if_neg h]
def jp_Q (V M : Nat → Int32) (k : Nat) : jp_MS → Prop
  | (K, L, B, P, N, F, T, R, t) => jp_I0 (K, L, P, N, B, V, M) ∧ (∃ D, jp_J K D t 16 (P, N, F, T, R, t)) ∧ ¬ T 0 = 0 ∧ (∀ v, 0 < v → v < k → v < 16 → K v = 0 ∨ ¬ T v = 0)
/-- the rescued inode's entry, and its meeting -/
theorem jp_Q_link {K L B V M P N F T R : Nat → Int32} {k t : Nat} (Q : jp_Q V M k (K, L, B, P, N, F, T, R, t)) (hk0 : 0 < k) (hk : k < 16) (h0 : ¬ K k = 0) (h1 : T k = 0) (h : N (48 + k) = -1 ∧ jp_en N 0 < 10) :
    ∃ D, jp_J K D t 16 (jp_meet K k 0 (P, upd N (48 + k) (nI k), upd F 1 (F 1 + 1), T, R, t)) ∧ jp_JI K P (upd N (48 + k) (nI k)) ∧ jp_JI K (upd P k (nI 0)) (upd N (48 + k) (nI k)) ∧ t ≤ 16 ∧ (K k = 2 → t < 16) := by
  obtain ⟨hI, ⟨D, J⟩, hT0, hall⟩ := Q
  have I := jp_I0_JI hI
  have hm : jp_MD K T 0 := ⟨hI.2.2.1, hT0⟩
  have e48 : 64 * 0 + (48 + k) = 48 + k := by omega
  have JF : jp_J K D t 16 (P, N, upd F 1 (F 1 + 1), T, R, t) := J
  have J2 := jp_J_meet JF (by omega) (n := 48 + k) (by omega) hm (Or.inr (by rw [e48]; exact h.1)) (fun j h1 h2 => absurd h2 (by omega)) hk (by omega) h0 (fun z => z.2 h1)
  rw [e48] at J2
  have JN : jp_JI K P (upd N (48 + k) (nI k)) := by
    obtain ⟨a, b, k0, c, p0, e, f, g⟩ := I
    refine ⟨a, fun i hi => by rw [pk_un (by omega)]; exact b i hi, k0, c, p0, jp_NR_upd e (Or.inr ⟨k, hk, rfl⟩), fun i hi hk2 q hq => ?_, fun i hi => ?_⟩
    · have : i ≠ 0 := fun z => hk2 (by rw [z]; exact k0)
      rw [pk_un (by omega)]; exact f i hi hk2 q hq
    · by_cases ei : i = 0
      · subst ei
        have := jp_en_upd (N := N) (a := 0) (n := 48 + k) (v := nI k) (by omega)
        rw [e48, jp_t0 (fun z => z h.1), jp_t1 (jv_m1n k (by omega))] at this
        omega
      · have := jp_en_un (N := N) (a := 0) (n := 48 + k) (v := nI k) (by omega) ei
        rw [e48] at this
        rw [this]; exact g i hi
  exact ⟨_, J2, JN, jp_JI_par JN (by omega) hk (by omega), jp_J_le J, fun _ => jp_J_room J hk (fun z => z.2 h1)⟩
theorem jp_J_gone {K P N F F' T R : Nat → Int32} {D : Nat → Bool} {h c t k : Nat} (J : jp_J K D h c (P, N, F, T, R, t)) (hk : k < 16) (h1 : T k = 0) : jp_J (upd K k 0) D h c (P, jp_fl N (64 * k) 64 (-1), F', T, R, t) := by
  obtain ⟨j1, j2, j3, j4, j5, j6, j7, j8, rk, j9, j10⟩ := J
  have hnm : ¬ jp_MD K T k := fun z => z.2 h1
  have same : ∀ w, jp_MD (upd K k 0) T w ↔ jp_MD K T w := by
    intro w
    by_cases e : w = k
    · subst e; exact ⟨fun z => absurd h1 z.2, fun z => absurd h1 z.2⟩
    · unfold jp_MD; rw [pk_un e]
  have off : ∀ s, D s = true → s < 1024 → jp_fl N (64 * k) 64 (-1) s = N s := by
    intro s hs hlt
    by_cases e : 64 * k ≤ s ∧ s < 64 * k + 64
    · have := j6 k hk hnm (s - 64 * k) (by omega)
      rw [show 64 * k + (s - 64 * k) = s from by omega, hs] at this
      exact Bool.noConfusion this
    · exact jp_fl_out (by omega)
  refine ⟨⟨j1.1, ?_⟩, fun j hj => ?_, j3, j4, fun w hw hmw => j5 w hw ((same w).mp hmw), fun w hw hmw => j6 w hw (fun z => hmw ((same w).mpr z)), fun s hs e => ?_, fun w hw w0 hmw => ?_, rk, fun w hw hmw => j9 w hw ((same w).mp hmw), fun w hw w0 hmw => ?_⟩
  · rw [j1.2]
    exact jp_cn_congr (fun w hw => decide_eq_decide.mpr (same w).symm)
  · obtain ⟨w, hw, e1, e2⟩ := j2 j hj
    exact ⟨w, hw, e1, (same w).mpr e2⟩
  · rw [off s e hs]
    rcases j7 s hs e with z | ⟨w, hw, w0, z, k0, t0⟩
    · exact Or.inl z
    · exact Or.inr ⟨w, hw, w0, z, by rw [pk_un (fun q => t0 (by rw [q]; exact h1))]; exact k0, t0⟩
  · rw [← j8 w hw w0 ((same w).mp hmw)]
    apply jp_cn_congr
    intro s hs
    cases hd : D s
    · rfl
    · rw [off s hd hs]
  · obtain ⟨p, q, h1, h2, h3, h4, h5, h6, h7⟩ := j10 w hw w0 ((same w).mp hmw)
    exact ⟨p, q, h1, h2, h3, by rw [off _ h5 (by omega)]; exact h4, h5, (same p).mpr h6, h7⟩
theorem jp_Q_step {V M : Nat → Int32} {k : Nat} {s s' : jp_MS} (hk0 : 0 < k) (hk : k < 16) (Q : jp_Q V M k s) (e : jp_rsc k s = s') : jp_Q V M (k + 1) s' := by
  obtain ⟨K, L, B, P, N, F, T, R, t⟩ := s
  by_cases h0 : K k = 0 ∨ ¬ T k = 0
  · rw [jp_rsc_0 h0] at e
    subst e
    obtain ⟨hI, hJ, hT0, hall⟩ := Q
    refine ⟨hI, hJ, hT0, fun v v0 hv hv2 => ?_⟩
    by_cases ev : v = k
    · rw [ev]; exact h0
    · exact hall v v0 (by omega) hv2
  · have hk1 : ¬ K k = 0 := fun z => h0 (Or.inl z)
    have hT1 : T k = 0 := Classical.byContradiction fun z => h0 (Or.inr z)
    by_cases h2 : N (48 + k) = -1 ∧ jp_en N 0 < 10
    · rw [jp_rsc_1 hk1 hT1 h2] at e
      obtain ⟨D, J, I1, I2, t16, hroom⟩ := jp_Q_link Q hk0 hk hk1 hT1 h2
      obtain ⟨hI, hJ, hT0, hall⟩ := Q
      have tT : ∀ w, ¬ T w = 0 → ¬ upd T k 1 w = 0 := by
        intro w hw
        by_cases e : w = k
        · rw [e, pk_us]; decide
        · rw [pk_un e]; exact hw
      have hTk : ¬ upd T k 1 k = 0 := by rw [pk_us]; decide
      generalize ev : jp_vis K (16 - t) t (jp_meet K k 0 (P, upd N (48 + k) (nI k), upd F 1 (F 1 + 1), T, R, t)) = b at e
      have E : jp_E K (upd T k 1) b := by
        by_cases k2 : K k = 2
        · rw [jp_meet_2 k2] at ev J
          exact jp_vis_E (16 - t) t (upd T k 1) D _ _ _ _ _ _ b (by omega) J I2 (fun w hw => hw) ev
        · rw [jp_meet_1 k2] at ev J
          exact jp_vis_E (16 - t) t (upd T k 1) D _ _ _ _ _ _ b (by omega) J I1 (fun w hw => hw) ev
      obtain ⟨P2, N2, F2, T2, R2, t2⟩ := b
      subst e
      obtain ⟨hJ2, hI2, hmono⟩ := E
      refine ⟨jp_I0_of hI hI2, hJ2, hmono 0 (tT 0 hT0), fun v v0 hv hv2 => ?_⟩
      by_cases ev : v = k
      · rw [ev]; exact Or.inr (hmono k hTk)
      · rcases hall v v0 (by omega) hv2 with z | z
        · exact Or.inl z
        · exact Or.inr (hmono v (tT v z))
    · rw [jp_rsc_2 hk1 hT1 h2] at e
      subst e
      obtain ⟨hI, ⟨D, J⟩, hT0, hall⟩ := Q
      refine ⟨jp_gone_I0 hI hk (by omega) (fun j hj => (hI.1.2.2.2 j hj).2), ⟨D, jp_J_gone J hk hT1⟩, hT0, fun v v0 hv hv2 => ?_⟩
      by_cases ev : v = k
      · rw [ev, pk_us]; exact Or.inl rfl
      · rw [pk_un ev]; exact hall v v0 (by omega) hv2
section
variable {xr xs xd xw : Int32} {xk xl xp xn xb xm xh bk bl bp bn bb bm bh xf xt xq xu : Nat → Int32}
theorem jx_rescue {post : SX → Prop} {K L B V M P N F T R : Nat → Int32} {k t : Nat} (Q : jp_Q V M k (K, L, B, P, N, F, T, R, t)) (hk0 : 0 < k) (hk : k < 16) (h0 : ¬ K k = 0) (h1 : T k = 0)
    (hpost : ∀ K' L' B' P' N' F' T' R' t' xw' W', jp_rsc k (K, L, B, P, N, F, T, R, t) = (K', L', B', P', N', F', T', R', t') → post (xr, xs, xd, xw', K', L', jp_pi K' P', jp_ro N', B', xm, xh, bk, bl, bp, bn, bb, bm, bh, F', T', W', xu)) :
    wpX_rescue post (xr, xs, xd, xw, K, L, jp_pi K P, jp_ro N, B, xm, xh, bk, bl, bp, bn, bb, bm, bh, F, T, xq, xu) (nI k) := by
  unfold wpX_rescue
  have hsl := jp_s_lt (48 + k)
  have e48 : 64 * 0 + (48 + k) = 48 + k := by omega
  have gone : ¬ (N (48 + k) = -1 ∧ jp_en N 0 < 10) → wX_rescue_37 post (nI k) xr xs xd xw K L (jp_pi K P) (jp_ro N) B xm xh bk bl bp bn bb bm bh (upd F 1 (F 1 + 1)) T xq xu := by
    intro h
    unfold wX_rescue_37
    refine jx_makeFree hk ?_
    rw [jp_pi_gone, ← jp_ro_fl]
    exact hpost _ _ _ _ _ _ _ _ _ _ _ (jp_rsc_2 h0 h1 h)
  refine nm_e ?_
  rw [show (48 : Int32) + nI k = nI (48 + k) from nI_add 48 k]
  refine jx_spotOf (d := 0) (by omega) ⟨vp_in_nI (by omega) (by omega), ?_⟩
  rw [nI_clamp (by omega), jp_ro_n N 0 (by omega), e48]
  refine br_c (fun hN => jx_isFullDirectory' (d := 0) (by omega) (fun hf => br_f (by decide) (gone (fun z => by omega))) (fun hf => br_t rfl ?_)) (fun hN => gone (fun z => hN z.1))
  obtain ⟨D, J, I1, I2, t16, hroom⟩ := jp_Q_link Q hk0 hk h0 h1 ⟨hN, hf⟩
  have er := jp_rsc_1 (L := L) (B := B) (P := P) (F := F) (R := R) (t := t) h0 h1 ⟨hN, hf⟩
  refine ⟨vp_in_nI (by omega) (by omega), nm_r (e' := jp_ro (upd N (48 + k) (nI k))) ?_ (jx_meet (w := 0) (d := 0) hk (fun _ => by omega) (fun k2 => ?_) (fun k2 => ?_))⟩
  · have := jp_ro_upd N 0 (n := 48 + k) (by omega) (nI k)
    rw [e48] at this
    exact this.symm
  · rw [jp_meet_2 k2] at J er
    rw [jp_pi_upd h0]
    have := jx_vis (post := fun u => match u with | (xr, xs, xd, xw, xk, xl, xp, xn, xb, xm, xh, bk, bl, bp, bn, bb, bm, bh, xf, xt, xq, xu) => post (xr, xs, xd, xw, xk, xl, xp, xn, xb, xm, xh, bk, bl, bp, bn, bb, bm, bh, xf, xt, xq, xu)) (base := t) (xr := xr) (xs := xs) (xd := xd) (xl := L) (xb := B) (xm := xm) (xh := xh) (bk := bk) (bl := bl) (bp := bp) (bn := bn) (bb := bb) (bm := bm) (bh := bh) (xu := xu) (16 - t) t D _ _ _ _ _ (upd xq 0 (nI k)) _ (by omega) (Nat.le_refl t) J I2 ⟨by omega, fun i hi => by rw [show i = 0 from by omega, pk_us, Nat.add_zero, pk_us]⟩ (fun P' N' F' T' R' t' W' e => hpost _ _ _ _ _ _ _ _ _ _ _ (by rw [er, e]))
    rw [Nat.sub_self, show t + 1 - t = 0 + 1 from by omega] at this
    exact ⟨_, this⟩
  · rw [jp_meet_1 k2] at J er
    have := jx_vis (post := fun u => match u with | (xr, xs, xd, xw, xk, xl, xp, xn, xb, xm, xh, bk, bl, bp, bn, bb, bm, bh, xf, xt, xq, xu) => post (xr, xs, xd, xw, xk, xl, xp, xn, xb, xm, xh, bk, bl, bp, bn, bb, bm, bh, xf, xt, xq, xu)) (base := t) (xr := xr) (xs := xs) (xd := xd) (xl := L) (xb := B) (xm := xm) (xh := xh) (bk := bk) (bl := bl) (bp := bp) (bn := bn) (bb := bb) (bm := bm) (bh := bh) (xu := xu) (16 - t) t D _ _ _ _ _ xq _ (by omega) (Nat.le_refl t) J I1 ⟨by omega, fun i hi => by omega⟩ (fun P' N' F' T' R' t' W' e => hpost _ _ _ _ _ _ _ _ _ _ _ (by rw [er, e]))
    rw [Nat.sub_self] at this
    exact ⟨_, this⟩
end

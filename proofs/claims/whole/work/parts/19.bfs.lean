/-! mending: going through the entries, as a function of parents, entries, counts, met, the row and its length -/
abbrev jp_BS : Type := (Nat → Int32) × (Nat → Int32) × (Nat → Int32) × (Nat → Int32) × (Nat → Int32) × Nat
def jp_meet (K : Nat → Int32) (v d : Nat) : jp_BS → jp_BS
  | (P, N, F, T, R, t) => if K v = 2 then (upd P v (nI d), N, F, upd T v 1, upd R t (nI v), t + 1) else (P, N, F, upd T v 1, R, t)
theorem jp_meet_2 {K P N F T R : Nat → Int32} {v d t : Nat} (h : K v = 2) : jp_meet K v d (P, N, F, T, R, t) = (upd P v (nI d), N, F, upd T v 1, upd R t (nI v), t + 1) := if_pos h
theorem jp_meet_1 {K P N F T R : Nat → Int32} {v d t : Nat} (h : ¬ K v = 2) : jp_meet K v d (P, N, F, T, R, t) = (P, N, F, upd T v 1, R, t) := if_neg h
def jp_bad (K T : Nat → Int32) (v : Nat) : Prop := v = 0 ∨ K v = 0 ∨ (K v = 2 ∧ ¬ T v = 0)
theorem jp_badD (K T : Nat → Int32) (v : Nat) : jp_bad K T v ∨ ¬ jp_bad K T v := Classical.em _
noncomputable def jp_look (K : Nat → Int32) (d n : Nat) : jp_BS → jp_BS
  | (P, N, F, T, R, t) => if N (64 * d + n) = -1 then (P, N, F, T, R, t) else
      @ite _ (jp_bad K T (N (64 * d + n)).toNatClampNeg) (Classical.propDecidable _) (P, upd N (64 * d + n) (-1), upd F 0 (F 0 + 1), T, R, t) (jp_meet K (N (64 * d + n)).toNatClampNeg d (P, N, F, T, R, t))
theorem jp_look_0 {K P N F T R : Nat → Int32} {d n t : Nat} (h : N (64 * d + n) = -1) : jp_look K d n (P, N, F, T, R, t) = (P, N, F, T, R, t) := if_pos h
theorem jp_look_1 {K P N F T R : Nat → Int32} {d n t v : Nat} (hv : v < 16) (h : N (64 * d + n) = nI v) (hb : jp_bad K T v) : jp_look K d n (P, N, F, T, R, t) = (P, upd N (64 * d + n) (-1), upd F 0 (F 0 + 1), T, R, t) := by
  unfold jp_look
  dsimp only
  rw [if_neg (by rw [h]; exact jv_m1n v (by omega)), h, nI_clamp (by omega)]
  exact if_pos hb
theorem jp_look_2 {K P N F T R : Nat → Int32} {d n t v : Nat} (hv : v < 16) (h : N (64 * d + n) = nI v) (hb : ¬ jp_bad K T v) : jp_look K d n (P, N, F, T, R, t) = jp_meet K v d (P, N, F, T, R, t) := by
  unfold jp_look
  dsimp only
  rw [if_neg (by rw [h]; exact jv_m1n v (by omega)), h, nI_clamp (by omega)]
  exact if_neg hb
noncomputable def jp_gt (K : Nat → Int32) (d : Nat) (b : jp_BS) : jp_BS := jp_fd (fun h => jp_look K d (jp_t h)) 64 b
def jp_R (b : jp_BS) : Nat → Int32 := b.2.2.2.2.1
def jp_tl (b : jp_BS) : Nat := b.2.2.2.2.2
noncomputable def jp_vis (K : Nat → Int32) : Nat → Nat → jp_BS → jp_BS
  | 0 => fun _ b => b
  | m + 1 => fun h b => if h < jp_tl b then jp_vis K m (h + 1) (jp_gt K (jp_R b h).toNatClampNeg b) else b
/-- what is known while the entries are gone through: D the cells that were looked at, h the head of the row, c the directory under way (16: none) -/
def jp_cD (D : Nat → Bool) (N : Nat → Int32) (v : Nat) : Nat := jp_cn (fun s => D s && decide (N s = nI v)) 1024
def jp_MD (K T : Nat → Int32) (v : Nat) : Prop := K v = 2 ∧ ¬ T v = 0
def jp_J (K : Nat → Int32) (D : Nat → Bool) (h c : Nat) : jp_BS → Prop
  | (P, N, _, T, R, t) => (h ≤ t ∧ t = jp_cn (fun v => decide (K v = 2 ∧ ¬ T v = 0)) 16) ∧
    (∀ j, j < t → ∃ v, v < 16 ∧ R j = nI v ∧ jp_MD K T v) ∧
    (∀ j v, h ≤ j → j < t → v < 16 → R j = nI v → ∀ n, n < 64 → D (64 * v + n) = false) ∧
    (∀ i j, h ≤ i → i < j → j < t → ¬ R i = R j) ∧
    (∀ v, v < 16 → jp_MD K T v → (∃ j, h ≤ j ∧ j < t ∧ R j = nI v) ∨ v = c ∨ ∀ n, n < 64 → D (64 * v + n) = true) ∧
    (∀ v, v < 16 → ¬ jp_MD K T v → ∀ n, n < 64 → D (64 * v + n) = false) ∧
    (∀ s, s < 1024 → D s = true → N s = -1 ∨ ∃ v, v < 16 ∧ v ≠ 0 ∧ N s = nI v ∧ ¬ K v = 0 ∧ ¬ T v = 0) ∧
    (∀ v, v < 16 → v ≠ 0 → jp_MD K T v → jp_cD D N v = 1) ∧
    (∃ rk : Nat → Nat, (∀ v, v < 16 → jp_MD K T v → rk v < t) ∧ ∀ v, v < 16 → v ≠ 0 → jp_MD K T v → ∃ p q, p < 16 ∧ q < 64 ∧ P v = nI p ∧ N (64 * p + q) = nI v ∧ D (64 * p + q) = true ∧ jp_MD K T p ∧ rk p < rk v)
/-- the volume's own invariant while it is mended -/
def jp_JI (K P N : Nat → Int32) : Prop := (∀ i, 16 ≤ i → P i = 0) ∧ (∀ i, 1024 ≤ i → N i = 0) ∧ K 0 = 2 ∧ jp_PR P ∧ P 0 = 0 ∧ jp_NR N ∧ jp_NE K N ∧ jp_EN N
theorem jp_J_le {K P N F T R : Nat → Int32} {D : Nat → Bool} {h c t : Nat} (J : jp_J K D h c (P, N, F, T, R, t)) : t ≤ 16 := by
  rw [J.1.2]; exact jp_cn_le _ _
theorem jp_cD_0 {K T N : Nat → Int32} {D : Nat → Bool} {v : Nat} (hv : v < 16) (hD : ∀ s, s < 1024 → D s = true → N s = -1 ∨ ∃ v, v < 16 ∧ v ≠ 0 ∧ N s = nI v ∧ ¬ K v = 0 ∧ ¬ T v = 0) (hT : v = 0 ∨ K v = 0 ∨ T v = 0) : jp_cD D N v = 0 := by
  apply jp_cn_zero
  intro s hs
  cases hd : D s
  · rfl
  · rw [Bool.true_and]
    apply decide_eq_false
    intro e
    rcases hD s hs hd with z | ⟨w, hw, w0, z, k0, t0⟩
    · rw [z] at e; exact jv_m1n v (by omega) e.symm
    · rw [z] at e
      rw [jv_inj e (by omega) (by omega)] at w0 k0 t0
      rcases hT with q | q | q
      · exact w0 q
      · exact k0 q
      · exact t0 q
def jp_D1 (D : Nat → Bool) (s0 : Nat) : Nat → Bool := fun s => D s || decide (s = s0)
theorem jp_D1_s {D : Nat → Bool} {s0 : Nat} : jp_D1 D s0 s0 = true := by unfold jp_D1; simp
theorem jp_D1_n {D : Nat → Bool} {s0 s : Nat} (h : s ≠ s0) : jp_D1 D s0 s = D s := by unfold jp_D1; simp [h]
theorem jp_D1_t {D : Nat → Bool} {s0 s : Nat} (h : D s = true) : jp_D1 D s0 s = true := by unfold jp_D1; simp [h]
/-- a cell that is looked at and holds nothing behind that -/
theorem jp_J_skip {K P N F F' T R : Nat → Int32} {D : Nat → Bool} {h c t d n : Nat} (J : jp_J K D h c (P, N, F, T, R, t)) (hd : d < 16) (hn : n < 64) (hm : jp_MD K T d) (hD : D (64 * d + n) = false) (hp : ∀ j, h ≤ j → j < t → ¬ R j = nI d) :
    jp_J K (jp_D1 D (64 * d + n)) h c (P, upd N (64 * d + n) (-1), F', T, R, t) := by
  obtain ⟨j1, j2, j3, j4, j5, j6, j7, j8, rk, j9, j10⟩ := J
  have row : ∀ v q, v < 16 → q < 64 → v ≠ d → jp_D1 D (64 * d + n) (64 * v + q) = D (64 * v + q) := fun v q hv hq hne => jp_D1_n (by omega)
  refine ⟨j1, j2, fun j v h1 h2 hv e q hq => ?_, j4, fun v hv hmv => ?_, fun v hv hmv q hq => ?_, fun s hs e => ?_, fun v hv v0 hmv => ?_, rk, j9, fun v hv v0 hmv => ?_⟩
  · rw [row v q hv hq (fun z => hp j h1 h2 (by rw [e, z]))]; exact j3 j v h1 h2 hv e q hq
  · rcases j5 v hv hmv with z | z | z
    · exact Or.inl z
    · exact Or.inr (Or.inl z)
    · exact Or.inr (Or.inr (fun q hq => jp_D1_t (z q hq)))
  · rw [row v q hv hq (fun z => hmv (by rw [z]; exact hm))]; exact j6 v hv hmv q hq
  · by_cases es : s = 64 * d + n
    · rw [es, pk_us]; exact Or.inl rfl
    · rw [pk_un es]
      rw [jp_D1_n es] at e
      exact j7 s hs e
  · rw [← j8 v hv v0 hmv]
    apply jp_cn_congr
    intro s hs
    by_cases es : s = 64 * d + n
    · rw [es, pk_us, hD, Bool.false_and, decide_eq_false (fun z => jv_m1n v (by omega) z.symm), Bool.and_false]
    · rw [jp_D1_n es, pk_un es]
  · obtain ⟨p, q, h1, h2, h3, h4, h5, h6, h7⟩ := j10 v hv v0 hmv
    have ne : 64 * p + q ≠ 64 * d + n := fun z => by rw [z, hD] at h5; exact Bool.noConfusion h5
    exact ⟨p, q, h1, h2, h3, by rw [pk_un ne]; exact h4, jp_D1_t h5, h6, h7⟩
/-- an inode is met by the cell -/
theorem jp_J_meet {K P N F T R : Nat → Int32} {D : Nat → Bool} {h c t d n v : Nat} (J : jp_J K D h c (P, N, F, T, R, t)) (hd : d < 16) (hn : n < 64) (hm : jp_MD K T d) (hD : D (64 * d + n) = false ∨ N (64 * d + n) = -1) (hp : ∀ j, h ≤ j → j < t → ¬ R j = nI d)
    (hv : v < 16) (v0 : v ≠ 0) (hk : ¬ K v = 0) (hnm : ¬ jp_MD K T v) : jp_J K (jp_D1 D (64 * d + n)) h c (jp_meet K v d (P, upd N (64 * d + n) (nI v), F, T, R, t)) := by
  obtain ⟨j1, j2, j3, j4, j5, j6, j7, j8, rk, j9, j10⟩ := J
  have hvd : v ≠ d := fun z => hnm (by rw [z]; exact hm)
  have row : ∀ w q, w < 16 → q < 64 → w ≠ d → jp_D1 D (64 * d + n) (64 * w + q) = D (64 * w + q) := fun w q hw hq hne => jp_D1_n (by omega)
  have tT : ∀ w, ¬ T w = 0 → ¬ upd T v 1 w = 0 := by
    intro w hw
    by_cases e : w = v
    · rw [e, pk_us]; decide
    · rw [pk_un e]; exact hw
  have seen : ∀ s, s < 1024 → jp_D1 D (64 * d + n) s = true → upd N (64 * d + n) (nI v) s = -1 ∨ ∃ w, w < 16 ∧ w ≠ 0 ∧ upd N (64 * d + n) (nI v) s = nI w ∧ ¬ K w = 0 ∧ ¬ upd T v 1 w = 0 := by
    intro s hs e
    by_cases es : s = 64 * d + n
    · rw [es, pk_us]; exact Or.inr ⟨v, hv, v0, rfl, hk, by rw [pk_us]; decide⟩
    · rw [pk_un es]
      rw [jp_D1_n es] at e
      rcases j7 s hs e with z | ⟨w, hw, w0, z, k0, t0⟩
      · exact Or.inl z
      · exact Or.inr ⟨w, hw, w0, z, k0, tT w t0⟩
  have cnt : ∀ w, w < 16 → w ≠ v → jp_cD (jp_D1 D (64 * d + n)) (upd N (64 * d + n) (nI v)) w = jp_cD D N w := by
    intro w hw e
    apply jp_cn_congr
    intro s hs
    by_cases es : s = 64 * d + n
    · rw [es, pk_us, decide_eq_false (fun z => e (jv_inj z.symm (by omega) (by omega))), Bool.and_false]
      rcases hD with z | z
      · rw [z]; rfl
      · rw [z, decide_eq_false (fun z => jv_m1n w (by omega) z.symm), Bool.and_false]
    · rw [jp_D1_n es, pk_un es]
  have cell : ∀ w p q, w < 16 → N (64 * p + q) = nI w → D (64 * p + q) = true → upd N (64 * d + n) (nI v) (64 * p + q) = nI w := by
    intro w p q hw e1 e2
    have ne : 64 * p + q ≠ 64 * d + n := fun z => by
      rcases hD with y | y
      · rw [z, y] at e2; exact Bool.noConfusion e2
      · rw [z, y] at e1; exact jv_m1n w (by omega) e1.symm
    rw [pk_un ne]; exact e1
  by_cases k2 : K v = 2
  · rw [jp_meet_2 k2]
    have hT0 : T v = 0 := Classical.byContradiction fun z => hnm ⟨k2, z⟩
    have back : ∀ w, w ≠ v → jp_MD K (upd T v 1) w → jp_MD K T w := fun w e ⟨a, b⟩ => ⟨a, by rw [pk_un e] at b; exact b⟩
    have forth : ∀ w, jp_MD K T w → jp_MD K (upd T v 1) w := fun w ⟨a, b⟩ => ⟨a, tT w b⟩
    have inR : ∀ j, j < t → upd R t (nI v) j = R j := fun j hj => pk_un (by omega)
    refine ⟨⟨by omega, ?_⟩, fun j hj => ?_, fun j w h1 h2 hw e q hq => ?_, fun i j h1 h2 h3 => ?_, fun w hw hmw => ?_, fun w hw hmw q hq => ?_, seen, fun w hw w0 hmw => ?_, fun w => if w = v then t else rk w, fun w hw hmw => ?_, fun w hw w0 hmw => ?_⟩
    · have := jp_cn_upd (f := fun w => decide (K w = 2 ∧ ¬ upd T v 1 w = 0)) (g := fun w => decide (K w = 2 ∧ ¬ T w = 0)) hv (fun j hj hne => by rw [pk_un hne])
      rw [pk_us, jp_t0 (p := K v = 2 ∧ ¬ T v = 0) (fun z => z.2 hT0), jp_t1 (p := K v = 2 ∧ ¬ (1 : Int32) = 0) ⟨k2, by decide⟩] at this
      have := j1.2
      omega
    · by_cases e : j = t
      · rw [e, pk_us]; exact ⟨v, hv, rfl, k2, by rw [pk_us]; decide⟩
      · rw [pk_un e]
        obtain ⟨w, hw, e1, e2⟩ := j2 j (by omega)
        exact ⟨w, hw, e1, forth w e2⟩
    · by_cases e1 : j = t
      · rw [e1, pk_us] at e
        have := jv_inj e (by omega) (by omega)
        rw [← this, row v q hv hq hvd]
        exact j6 v hv hnm q hq
      · rw [pk_un e1] at e
        rw [row w q hw hq (fun z => hp j h1 (by omega) (by rw [e, z]))]
        exact j3 j w h1 (by omega) hw e q hq
    · rw [inR i (by omega)]
      by_cases e : j = t
      · rw [e, pk_us]
        obtain ⟨w, hw, e1, e2⟩ := j2 i (by omega)
        intro z
        rw [e1] at z
        exact hnm (by rw [← jv_inj z (by omega) (by omega)]; exact e2)
      · rw [pk_un e]; exact j4 i j h1 h2 (by omega)
    · by_cases e : w = v
      · exact Or.inl ⟨t, by omega, by omega, by rw [pk_us, e]⟩
      · rcases j5 w hw (back w e hmw) with ⟨j, a1, a2, a3⟩ | z | z
        · exact Or.inl ⟨j, a1, by omega, by rw [pk_un (by omega)]; exact a3⟩
        · exact Or.inr (Or.inl z)
        · exact Or.inr (Or.inr (fun q hq => jp_D1_t (z q hq)))
    · have hmw' : ¬ jp_MD K T w := fun z => hmw (forth w z)
      rw [row w q hw hq (fun z => hmw' (by rw [z]; exact hm))]
      exact j6 w hw hmw' q hq
    · by_cases e : w = v
      · subst e
        have z0 := jp_cD_0 hw j7 (Or.inr (Or.inr hT0))
        have := jp_cn_upd (f := fun s => jp_D1 D (64 * d + n) s && decide (upd N (64 * d + n) (nI w) s = nI w)) (g := fun s => D s && decide (N s = nI w)) (n := 1024) (i := 64 * d + n) (by omega) (fun j hj hne => by rw [jp_D1_n hne, pk_un hne])
        rw [jp_D1_s, pk_us, Bool.true_and, jp_t1 rfl] at this
        have e2 : (D (64 * d + n) && decide (N (64 * d + n) = nI w)) = false := by
          rcases hD with y | y
          · rw [y]; rfl
          · rw [y, decide_eq_false (fun z => jv_m1n w (by omega) z.symm), Bool.and_false]
        rw [e2] at this
        unfold jp_cD at z0 ⊢
        simp at this
        omega
      · rw [cnt w hw e]; exact j8 w hw w0 (back w e hmw)
    · dsimp only
      by_cases e : w = v
      · rw [if_pos e]; omega
      · rw [if_neg e]; have := j9 w hw (back w e hmw); omega
    · by_cases e : w = v
      · subst e
        refine ⟨d, n, hd, hn, pk_us, pk_us, jp_D1_s, forth d hm, ?_⟩
        dsimp only
        rw [if_pos rfl, if_neg (fun z => hvd z.symm)]
        exact j9 d hd hm
      · obtain ⟨p, q, h1, h2, h3, h4, h5, h6, h7⟩ := j10 w hw w0 (back w e hmw)
        refine ⟨p, q, h1, h2, by rw [pk_un e]; exact h3, cell w p q hw h4 h5, jp_D1_t h5, forth p h6, ?_⟩
        dsimp only
        rw [if_neg e, if_neg (fun z => hnm (by rw [← z]; exact h6))]
        exact h7
  · rw [jp_meet_1 k2]
    have same : ∀ w, jp_MD K (upd T v 1) w ↔ jp_MD K T w := by
      intro w
      by_cases e : w = v
      · subst e; exact ⟨fun z => absurd z.1 k2, fun z => absurd z.1 k2⟩
      · unfold jp_MD; rw [pk_un e]
    refine ⟨⟨j1.1, ?_⟩, fun j hj => ?_, fun j w h1 h2 hw e q hq => ?_, j4, fun w hw hmw => ?_, fun w hw hmw q hq => ?_, seen, fun w hw w0 hmw => ?_, rk, fun w hw hmw => j9 w hw ((same w).mp hmw), fun w hw w0 hmw => ?_⟩
    · rw [j1.2]
      apply jp_cn_congr
      intro w hw
      exact decide_eq_decide.mpr (same w).symm
    · obtain ⟨w, hw, e1, e2⟩ := j2 j hj
      exact ⟨w, hw, e1, (same w).mpr e2⟩
    · rw [row w q hw hq (fun z => hp j h1 h2 (by rw [e, z]))]; exact j3 j w h1 h2 hw e q hq
    · rcases j5 w hw ((same w).mp hmw) with z | z | z
      · exact Or.inl z
      · exact Or.inr (Or.inl z)
      · exact Or.inr (Or.inr (fun q hq => jp_D1_t (z q hq)))
    · have hmw' : ¬ jp_MD K T w := fun z => hmw ((same w).mpr z)
      rw [row w q hw hq (fun z => hmw' (by rw [z]; exact hm))]
      exact j6 w hw hmw' q hq
    · have e : w ≠ v := fun z => k2 (by rw [← z]; exact hmw.1)
      rw [cnt w hw e]; exact j8 w hw w0 ((same w).mp hmw)
    · obtain ⟨p, q, h1, h2, h3, h4, h5, h6, h7⟩ := j10 w hw w0 ((same w).mp hmw)
      exact ⟨p, q, h1, h2, h3, cell w p q hw h4 h5, jp_D1_t h5, (same p).mpr h6, h7⟩
theorem jp_JI_skip {K P N : Nat → Int32} {d n : Nat} (h : jp_JI K P N) (hd : d < 16) (hn : n < 64) : jp_JI K P (upd N (64 * d + n) (-1)) := by
  obtain ⟨a, b, k0, c, p0, e, f, g⟩ := h
  refine ⟨a, fun i hi => by rw [pk_un (by omega)]; exact b i hi, k0, c, p0, jp_NR_upd e (Or.inl rfl), fun i hi hk q hq => ?_, fun i hi => Nat.le_trans (jp_en_dec hn) (g i hi)⟩
  by_cases z : 64 * i + q = 64 * d + n
  · rw [z, pk_us]
  · rw [pk_un z]; exact f i hi hk q hq
theorem jp_JI_par {K P N : Nat → Int32} {d v : Nat} (h : jp_JI K P N) (hd : d < 16) (hv : v < 16) (v0 : v ≠ 0) : jp_JI K (upd P v (nI d)) N := by
  obtain ⟨a, b, k0, c, p0, r⟩ := h
  refine ⟨fun i hi => by rw [pk_un (by omega)]; exact a i hi, b, k0, fun i hi => ?_, by rw [pk_un (fun z => v0 z.symm)]; exact p0, r⟩
  by_cases e : i = v
  · rw [e, pk_us]; exact ⟨d, hd, rfl⟩
  · rw [pk_un e]; exact c i hi
def jp_Dd (D : Nat → Bool) (d i : Nat) : Nat → Bool := fun s => D s || (decide (s / 64 = d) && decide (jp_s (s % 64) < i))
theorem jp_Dd_0 (D : Nat → Bool) (d : Nat) : jp_Dd D d 0 = D := by
  funext s; unfold jp_Dd; simp
theorem jp_Dd_s (D : Nat → Bool) (d i : Nat) (hi : i < 64) : jp_D1 (jp_Dd D d i) (64 * d + jp_t i) = jp_Dd D d (i + 1) := by
  funext s
  unfold jp_D1 jp_Dd
  have ht := jp_t_lt i
  by_cases e : s = 64 * d + jp_t i
  · have e1 : s / 64 = d := by omega
    have e2 : s % 64 = jp_t i := by omega
    rw [e1, e2, jp_st hi]
    simp [e]
  · have : decide (jp_s (s % 64) < i + 1) = decide (jp_s (s % 64) < i) ∨ ¬ s / 64 = d := by
      by_cases e1 : s / 64 = d
      · left
        have : jp_s (s % 64) ≠ i := fun z => by
          have := jp_ts (n := s % 64) (by omega)
          rw [z] at this
          omega
        apply decide_eq_decide.mpr
        omega
      · exact Or.inr e1
    rcases this with z | z
    · rw [z]; simp [e]
    · simp [z, e]
theorem jp_Dd_f {D : Nat → Bool} {d i : Nat} (hi : i < 64) (h : ∀ n, n < 64 → D (64 * d + n) = false) : jp_Dd D d i (64 * d + jp_t i) = false := by
  have ht := jp_t_lt i
  unfold jp_Dd
  rw [h _ ht, show (64 * d + jp_t i) % 64 = jp_t i from by omega, jp_st hi]
  simp
/-- while directory d is gone through: i of its cells were looked at -/
def jp_G (K : Nat → Int32) (D : Nat → Bool) (h d i : Nat) (T0 : Nat → Int32) : jp_BS → Prop
  | (P, N, F, T, R, t) => jp_J K (jp_Dd D d i) h d (P, N, F, T, R, t) ∧ jp_JI K P N ∧ jp_MD K T d ∧ (∀ j, h ≤ j → j < t → ¬ R j = nI d) ∧ (∀ w, ¬ T0 w = 0 → ¬ T w = 0)
theorem jp_nbad {K T : Nat → Int32} {v : Nat} (h : ¬ jp_bad K T v) : v ≠ 0 ∧ ¬ K v = 0 ∧ ¬ jp_MD K T v :=
  ⟨fun z => h (Or.inl z), fun z => h (Or.inr (Or.inl z)), fun z => h (Or.inr (Or.inr z))⟩
theorem jp_G_step {K T0 : Nat → Int32} {D : Nat → Bool} {h d i : Nat} {b : jp_BS} (hd : d < 16) (hi : i < 64) (hrow : ∀ n, n < 64 → D (64 * d + n) = false) (G : jp_G K D h d i T0 b) : jp_G K D h d (i + 1) T0 (jp_look K d (jp_t i) b) := by
  obtain ⟨P, N, F, T, R, t⟩ := b
  obtain ⟨J, I, hm, hp, hmono⟩ := G
  have ht := jp_t_lt i
  have hD := jp_Dd_f hi hrow
  rcases I.2.2.2.2.2.1 (64 * d + jp_t i) (by omega) with z | ⟨v, hv, z⟩
  · rw [jp_look_0 z]
    have J2 := jp_J_skip (F' := F) J hd ht hm hD hp
    rw [jp_Dd_s D d i hi, jp_updI z] at J2
    exact ⟨J2, I, hm, hp, hmono⟩
  · rcases jp_badD K T v with hb | hb
    · rw [jp_look_1 hv z hb]
      have J2 := jp_J_skip (F' := upd F 0 (F 0 + 1)) J hd ht hm hD hp
      rw [jp_Dd_s D d i hi] at J2
      exact ⟨J2, jp_JI_skip I hd ht, hm, hp, hmono⟩
    · rw [jp_look_2 hv z hb]
      obtain ⟨v0, hk, hnm⟩ := jp_nbad hb
      have J2 := jp_J_meet J hd ht hm (Or.inl hD) hp hv v0 hk hnm
      rw [jp_Dd_s D d i hi, jp_updI z] at J2
      have hT : ∀ w, ¬ T w = 0 → ¬ upd T v 1 w = 0 := by
        intro w hw
        by_cases e : w = v
        · rw [e, pk_us]; decide
        · rw [pk_un e]; exact hw
      have hvd : v ≠ d := fun z => hnm (by rw [z]; exact hm)
      by_cases k2 : K v = 2
      · rw [jp_meet_2 k2] at J2 ⊢
        refine ⟨J2, jp_JI_par I hd hv v0, ⟨hm.1, hT d hm.2⟩, fun j h1 h2 => ?_, fun w hw => hT w (hmono w hw)⟩
        by_cases e : j = t
        · rw [e, pk_us]; exact fun q => hvd (jv_inj q (by omega) (by omega))
        · rw [pk_un e]; exact hp j h1 (by omega)
      · rw [jp_meet_1 k2] at J2 ⊢
        exact ⟨J2, I, ⟨hm.1, hT d hm.2⟩, hp, fun w hw => hT w (hmono w hw)⟩
theorem jp_G_0 {K P N F T R : Nat → Int32} {D : Nat → Bool} {h d t : Nat} (J : jp_J K D h 16 (P, N, F, T, R, t)) (I : jp_JI K P N) (hd : d < 16) (hh : h < t) (e : R h = nI d) : (∀ n, n < 64 → D (64 * d + n) = false) ∧ jp_G K D (h + 1) d 0 T (P, N, F, T, R, t) := by
  obtain ⟨j1, j2, j3, j4, j5, j6, j7, j8, j9⟩ := J
  refine ⟨j3 h d (Nat.le_refl h) hh hd e, ?_, I, ?_, fun j h1 h2 q => j4 h j (Nat.le_refl h) (by omega) h2 (by rw [e, q]), fun w hw => hw⟩
  · rw [jp_Dd_0]
    refine ⟨⟨by omega, j1.2⟩, j2, fun j v h1 h2 => j3 j v (by omega) h2, fun i j h1 h2 h3 => j4 i j (by omega) h2 h3, fun v hv hmv => ?_, j6, j7, j8, j9⟩
    rcases j5 v hv hmv with ⟨j, a1, a2, a3⟩ | z | z
    · by_cases ej : j = h
      · right; left
        rw [ej, e] at a3
        exact (jv_inj a3 (by omega) (by omega)).symm
      · exact Or.inl ⟨j, by omega, a2, a3⟩
    · omega
    · exact Or.inr (Or.inr z)
  · obtain ⟨v, hv, e1, e2⟩ := j2 h hh
    rw [e] at e1
    rw [jv_inj e1 (by omega) (by omega)]; exact e2
theorem jp_G_end {K T0 : Nat → Int32} {D : Nat → Bool} {h d : Nat} {P N F T R : Nat → Int32} {t : Nat} (hd : d < 16) (G : jp_G K D h d 64 T0 (P, N, F, T, R, t)) : jp_J K (jp_Dd D d 64) h 16 (P, N, F, T, R, t) ∧ jp_JI K P N ∧ (∀ w, ¬ T0 w = 0 → ¬ T w = 0) := by
  obtain ⟨⟨j1, j2, j3, j4, j5, j6, j7, j8, j9⟩, I, hm, hp, hmono⟩ := G
  refine ⟨⟨j1, j2, j3, j4, fun v hv hmv => ?_, j6, j7, j8, j9⟩, I, hmono⟩
  rcases j5 v hv hmv with z | z | z
  · exact Or.inl z
  · subst z
    refine Or.inr (Or.inr (fun n hn => ?_))
    unfold jp_Dd
    rw [show (64 * v + n) / 64 = v from by omega]
    simp
    exact Or.inr (jp_s_lt _)
  · exact Or.inr (Or.inr z)

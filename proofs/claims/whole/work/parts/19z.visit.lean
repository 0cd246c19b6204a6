theorem jp_G_e {K T0 : Nat → Int32} {D : Nat → Bool} {h d : Nat} {b : jp_BS} (hd : d < 16) (hrow : ∀ n, n < 64 → D (64 * d + n) = false) (G : jp_G K D h d 0 T0 b) (e : Nat) (he : e ≤ 64) : jp_G K D h d e T0 (jp_fd (fun h => jp_look K d (jp_t h)) e b) := by
  induction e with
  | zero => exact G
  | succ e ih => exact jp_G_step hd (by omega) hrow (ih (by omega))
theorem jp_G_n {K T0 : Nat → Int32} {D : Nat → Bool} {h d : Nat} {b b' : jp_BS} (hd : d < 16) (hrow : ∀ n, n < 64 → D (64 * d + n) = false) (G : jp_G K D h d 0 T0 b) (n : Nat) (hn : n = 64) (e : jp_fd (fun h => jp_look K d (jp_t h)) n b = b') : jp_G K D h d 64 T0 b' := by
  have G2 := jp_G_e hd hrow G n (by omega)
  rw [e, hn] at G2
  exact G2
theorem jp_G_gt {K T0 : Nat → Int32} {D : Nat → Bool} {h d : Nat} {b b' : jp_BS} (hd : d < 16) (hrow : ∀ n, n < 64 → D (64 * d + n) = false) (G : jp_G K D h d 0 T0 b) (e : jp_gt K d b = b') : jp_G K D h d 64 T0 b' := by
  unfold jp_gt at e
  exact jp_G_n hd hrow G 64 rfl e
/-- the whole of a visit -/
def jp_E (K : Nat → Int32) (T0 : Nat → Int32) : jp_BS → Prop
  | (P, N, F, T, R, t) => (∃ D, jp_J K D t 16 (P, N, F, T, R, t)) ∧ jp_JI K P N ∧ (∀ w, ¬ T0 w = 0 → ¬ T w = 0)
theorem jp_vis_E {K : Nat → Int32} : ∀ (m h : Nat) (T0 : Nat → Int32) (D : Nat → Bool) (P N F T R : Nat → Int32) (t : Nat) (b' : jp_BS), h + m = 16 → jp_J K D h 16 (P, N, F, T, R, t) → jp_JI K P N → (∀ w, ¬ T0 w = 0 → ¬ T w = 0) → jp_vis K m h (P, N, F, T, R, t) = b' → jp_E K T0 b' := by
  intro m
  induction m with
  | zero =>
    intro h T0 D P N F T R t b' hm J I hT e
    have h1 := jp_J_le J
    have h2 := J.1.1
    have : h = t := by omega
    subst this
    rw [← e]
    exact ⟨⟨D, J⟩, I, hT⟩
  | succ m ih =>
    intro h T0 D P N F T R t b' hm J I hT e
    unfold jp_vis at e
    by_cases hh : h < t
    · rw [show jp_tl (P, N, F, T, R, t) = t from rfl, if_pos hh, show jp_R (P, N, F, T, R, t) h = R h from rfl] at e
      obtain ⟨d, hd, e1, _⟩ := J.2.1 h hh
      rw [e1, nI_clamp (by omega)] at e
      obtain ⟨hrow, G⟩ := jp_G_0 J I hd hh e1
      generalize eb : jp_gt K d (P, N, F, T, R, t) = b at e
      have G2 := jp_G_gt hd hrow G eb
      obtain ⟨P2, N2, F2, T2, R2, t2⟩ := b
      obtain ⟨J2, I2, M2⟩ := jp_G_end hd G2
      exact ih (h + 1) T0 _ P2 N2 F2 T2 R2 t2 b' (by omega) J2 I2 (fun w hw => M2 w (hT w hw)) e
    · rw [show jp_tl (P, N, F, T, R, t) = t from rfl, if_neg hh] at e
      have h2 := J.1.1
      have : h = t := by omega
      subst this
      rw [← e]
      exact ⟨⟨D, J⟩, I, hT⟩
/-- the root is met first -/
theorem jp_J_root {K P N F T R : Nat → Int32} (hK0 : K 0 = 2) (hT : ∀ i, i < 16 → T i = 0) : jp_J K (fun _ => false) 0 16 (P, N, F, upd T 0 1, upd R 0 (nI 0), 1) := by
  have md : ∀ v, v < 16 → jp_MD K (upd T 0 1) v → v = 0 := by
    intro v hv ⟨_, h⟩
    apply Classical.byContradiction
    intro e
    rw [pk_un e] at h
    exact h (hT v hv)
  have m0 : jp_MD K (upd T 0 1) 0 := ⟨hK0, by rw [pk_us]; decide⟩
  refine ⟨⟨by omega, ?_⟩, fun j hj => ?_, fun _ _ _ _ _ _ _ _ => rfl, fun i j h1 h2 h3 => by omega, fun v hv hmv => Or.inl ⟨0, by omega, by omega, by rw [pk_us, md v hv hmv]⟩, fun _ _ _ _ _ => rfl, fun s hs e => Bool.noConfusion e, fun v hv v0 hmv => absurd (md v hv hmv) v0, fun _ => 0, fun v hv hmv => Nat.zero_lt_one, fun v hv v0 hmv => absurd (md v hv hmv) v0⟩
  · have := jp_cn_upd (f := fun w => decide (K w = 2 ∧ ¬ upd T 0 1 w = 0)) (g := fun w => decide (K w = 2 ∧ ¬ T w = 0)) (n := 16) (i := 0) (by omega) (fun j hj hne => by rw [pk_un hne])
    rw [pk_us, jp_t0 (p := K 0 = 2 ∧ ¬ T 0 = 0) (fun z => z.2 (hT 0 (by omega))), jp_t1 (p := K 0 = 2 ∧ ¬ (1 : Int32) = 0) ⟨hK0, by decide⟩, jp_cn_zero (f := fun w => decide (K w = 2 ∧ ¬ T w = 0)) (fun i hi => decide_eq_false (fun z => z.2 (hT i hi)))] at this
    omega
  · rw [show j = 0 from by omega, pk_us]; exact ⟨0, by omega, rfl, m0⟩

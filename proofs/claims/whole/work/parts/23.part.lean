/-! extents that share blocks -/
def jp_ln (B : Nat → Int32) (f p b : Nat) : Nat → Nat → Nat
  | 0, n => n
  | m + 1, n => if B (24 * f + p + n) = nI (b + n) then jp_ln B f p b m (n + 1) else n
def jp_len (B : Nat → Int32) (f p b : Nat) : Nat := jp_ln B f p b (23 - p) 1
theorem jp_ln_Len {B : Nat → Int32} {f p b : Nat} : ∀ m n, 1 ≤ n → p + n + m = 24 → (∀ j, j < n → B (24 * f + p + j) = nI (b + j)) → jp_Len B f p b (jp_ln B f p b m n) := by
  intro m
  induction m with
  | zero => intro n h1 h2 h3; exact ⟨h1, by unfold jp_ln; omega, h3, fun h => by unfold jp_ln at h; omega⟩
  | succ m ih =>
    intro n h1 h2 h3
    unfold jp_ln
    by_cases e : B (24 * f + p + n) = nI (b + n)
    · rw [if_pos e]
      refine ih (n + 1) (by omega) (by omega) (fun j hj => ?_)
      by_cases q : j < n
      · exact h3 j q
      · rw [show j = n from by omega]; exact e
    · rw [if_neg e]; exact ⟨h1, by omega, h3, fun _ => e⟩
theorem jp_len_Len {B : Nat → Int32} {f p b : Nat} (hp : p < 24) (h : B (24 * f + p) = nI b) : jp_Len B f p b (jp_len B f p b) :=
  jp_ln_Len (23 - p) 1 (Nat.le_refl 1) (by omega) (fun j hj => by rw [show j = 0 from by omega]; exact h)
abbrev jp_PS : Type := (Nat → Int32) × (Nat → Int32) × (Nat → Int32)
def jp_sh (U : Nat → Int32) (b n : Nat) : Nat := jp_cn (fun j => decide (U (b + j) = 1)) n
def jp_u1 (lo b n : Nat) : jp_PS → jp_PS
  | (B, U, F) => if 0 < jp_sh U b n then (jp_fl B lo n (-1), U, upd F 2 (F 2 + 1)) else (B, jp_fl U b n 1, F)
def jp_pf (f : Nat) : Nat → Nat → jp_PS → jp_PS
  | 0, _, s => s
  | m + 1, p, s => if 24 ≤ p then s else if s.1 (24 * f + p) = -1 then jp_pf f m (p + 1) s else
      jp_pf f m (p + jp_len s.1 f p (s.1 (24 * f + p)).toNatClampNeg) (jp_u1 (24 * f + p) (s.1 (24 * f + p)).toNatClampNeg (jp_len s.1 f p (s.1 (24 * f + p)).toNatClampNeg) s)
theorem jp_pf_e {f m p : Nat} {s : jp_PS} (h : 24 ≤ p) : jp_pf f m p s = s := by
  cases m with
  | zero => rfl
  | succ m => unfold jp_pf; rw [if_pos h]
theorem jp_pf_h {f m p : Nat} {s : jp_PS} (h : p < 24) (e : s.1 (24 * f + p) = -1) : jp_pf f (m + 1) p s = jp_pf f m (p + 1) s := by
  rw [jp_pf, if_neg (by omega), if_pos e]
theorem jp_pf_m {f m p b n : Nat} {s : jp_PS} (h : p < 24) (hb : b < 64) (e : s.1 (24 * f + p) = nI b) (hL : jp_Len s.1 f p b n) : jp_pf f (m + 1) p s = jp_pf f m (p + n) (jp_u1 (24 * f + p) b n s) := by
  rw [jp_pf, if_neg (by omega), if_neg (by rw [e]; exact jv_m1n b (by omega)), e, nI_clamp (by omega), jp_Len_un hL (jp_len_Len h e)]
theorem jp_Len_b {B : Nat → Int32} {f p b n : Nat} (hB : jp_BR B) (hf : f < 16) (hL : jp_Len B f p b n) (hb : b < 64) : b + n ≤ 64 := by
  obtain ⟨l1, l2, l3, l4⟩ := hL
  have := l3 (n - 1) (by omega)
  rcases hB (24 * f + p + (n - 1)) (by omega) with z | ⟨c, hc, z⟩
  · rw [this] at z; exact absurd z (jv_m1n _ (by omega))
  · rw [this] at z
    have := jv_inj z (by omega) (by omega)
    omega
/-- where an extent may begin -/
def jp_bd (B : Nat → Int32) (f p : Nat) : Prop := p < 24 → ¬ B (24 * f + p) = -1 → jp_be B f p = true
theorem jp_u1_bd {B U F : Nat → Int32} {f p b n : Nat} (hL : jp_Len B f p b n) (hb : b < 64) : jp_bd (jp_u1 (24 * f + p) b n (B, U, F)).1 f (p + n) ∧ ∀ q, p < q → q < p + n → jp_be (jp_u1 (24 * f + p) b n (B, U, F)).1 f q = false := by
  obtain ⟨l1, l2, l3, l4⟩ := hL
  unfold jp_u1
  dsimp only
  by_cases h : 0 < jp_sh U b n
  · rw [if_pos h]
    dsimp only
    refine ⟨fun h1 h2 => ?_, fun q h1 h2 => ?_⟩
    · unfold jp_be
      rw [jp_fl_in (s := 24 * f + (p + n) - 1) (by omega) (by omega)]
      simp only [decide_eq_true_eq]
      exact ⟨h2, Or.inr (Or.inl trivial)⟩
    · unfold jp_be
      rw [jp_fl_in (s := 24 * f + q) (by omega) (by omega)]
      simp
  · rw [if_neg h]
    dsimp only
    refine ⟨fun h1 h2 => ?_, fun q h1 h2 => ?_⟩
    · unfold jp_be
      simp only [decide_eq_true_eq]
      refine ⟨h2, Or.inr (Or.inr (fun z => l4 h1 ?_))⟩
      have := l3 (n - 1) (by omega)
      rw [show 24 * f + p + (n - 1) = 24 * f + (p + n) - 1 from by omega] at this
      rw [this, nI_1] at z
      rw [show 24 * f + p + n = 24 * f + (p + n) from by omega, ← z]
      exact congrArg nI (by omega)
    · unfold jp_be
      have e1 := l3 (q - p) (by omega)
      have e2 := l3 (q - p - 1) (by omega)
      rw [show 24 * f + p + (q - p) = 24 * f + q from by omega] at e1
      rw [show 24 * f + p + (q - p - 1) = 24 * f + q - 1 from by omega] at e2
      rw [e1, e2]
      apply decide_eq_false
      rintro ⟨_, z | z | z⟩
      · omega
      · exact jv_m1n _ (by omega) z
      · exact z (by rw [nI_1]; exact congrArg nI (by omega))
def jp_UI (g : Nat) (B U : Nat → Int32) : Prop := (∀ s b, s < g → b < 64 → B s = nI b → U b = 1) ∧ (∀ s t b, s < g → t < g → b < 64 → B s = nI b → B t = nI b → s = t)
def jp_PV (K : Nat → Int32) (g : Nat) : jp_PS → Prop
  | (B, U, _) => jp_BR B ∧ jp_BE K B ∧ (∀ i, 384 ≤ i → B i = 0) ∧ jp_XN B ∧ jp_UI g B U
theorem jp_PV_h {K B U F : Nat → Int32} {g : Nat} (h : jp_PV K g (B, U, F)) (e : B g = -1) : jp_PV K (g + 1) (B, U, F) := by
  obtain ⟨a, b, c, d, u1, u2⟩ := h
  refine ⟨a, b, c, d, fun s x hs hx q => ?_, fun s t x hs ht hx q1 q2 => ?_⟩
  · by_cases z : s = g
    · rw [z, e] at q; exact absurd q.symm (jv_m1n x (by omega))
    · exact u1 s x (by omega) hx q
  · have z1 : s ≠ g := fun z => by rw [z, e] at q1; exact absurd q1.symm (jv_m1n x (by omega))
    have z2 : t ≠ g := fun z => by rw [z, e] at q2; exact absurd q2.symm (jv_m1n x (by omega))
    exact u2 s t x (by omega) (by omega) hx q1 q2
theorem jp_fl_be {B : Nat → Int32} {f p b n q : Nat} (hL : jp_Len B f p b n) (hb : b < 64) (h24 : q < 24) (h : jp_be (jp_fl B (24 * f + p) n (-1)) f q = true) : jp_be B f q = true := by
  obtain ⟨l1, l2, l3, l4⟩ := hL
  unfold jp_be at h ⊢
  simp only [decide_eq_true_eq] at h ⊢
  by_cases e1 : p ≤ q ∧ q < p + n
  · rw [jp_fl_in (s := 24 * f + q) (by omega) (by omega)] at h
    exact absurd rfl h.1
  · rw [jp_fl_out (s := 24 * f + q) (by omega)] at h
    refine ⟨h.1, ?_⟩
    by_cases q0 : q = 0
    · exact Or.inl q0
    · by_cases e2 : q = p + n
      · refine Or.inr (Or.inr (fun z => l4 (by omega) ?_))
        have := l3 (n - 1) (by omega)
        rw [show 24 * f + p + (n - 1) = 24 * f + q - 1 from by omega] at this
        rw [this, nI_1] at z
        rw [show 24 * f + p + n = 24 * f + q from by omega, ← z]
        exact congrArg nI (by omega)
      · rw [jp_fl_out (s := 24 * f + q - 1) (by omega)] at h
        exact h.2
theorem jp_PV_m {K B U F : Nat → Int32} {f p b n : Nat} (h : jp_PV K (24 * f + p) (B, U, F)) (hf : f < 16) (hk : K f = 1) (hb : b < 64) (hL : jp_Len B f p b n) : jp_PV K (24 * f + (p + n)) (jp_u1 (24 * f + p) b n (B, U, F)) := by
  obtain ⟨hB, hBE, hZ, hXN, u1, u2⟩ := h
  have hbn := jp_Len_b hB hf hL hb
  have hL2 := hL
  obtain ⟨l1, l2, l3, l4⟩ := hL
  unfold jp_u1
  dsimp only
  by_cases hs : 0 < jp_sh U b n
  · rw [if_pos hs]
    have old : ∀ s x, s < 24 * f + (p + n) → x < 64 → jp_fl B (24 * f + p) n (-1) s = nI x → s < 24 * f + p ∧ B s = nI x := by
      intro s x h1 hx e
      by_cases z : 24 * f + p ≤ s
      · rw [jp_fl_in z (by omega)] at e; exact absurd e.symm (jv_m1n x (by omega))
      · rw [jp_fl_out (by omega)] at e; exact ⟨by omega, e⟩
    refine ⟨jp_BR_fl hB _ _, fun i hi hk1 q hq => ?_, fun i hi => by rw [jp_fl_out (by omega)]; exact hZ i hi, fun i hi => ?_, fun s x h1 hx e => ?_, fun s t x h1 h2 hx e1 e2 => ?_⟩
    · by_cases z : 24 * f + p ≤ 24 * i + q ∧ 24 * i + q < 24 * f + p + n
      · exact jp_fl_in z.1 z.2
      · rw [jp_fl_out (by omega)]; exact hBE i hi hk1 q hq
    · by_cases e : i = f
      · rw [e]
        exact Nat.le_trans (jp_cn_mono (fun q hq hb' => jp_fl_be hL2 hb hq hb')) (hXN f hf)
      · rw [jp_ne_out (by omega) e]; exact hXN i hi
    · obtain ⟨z1, z2⟩ := old s x h1 hx e
      exact u1 s x z1 hx z2
    · obtain ⟨z1, z2⟩ := old s x h1 hx e1
      obtain ⟨y1, y2⟩ := old t x h2 hx e2
      exact u2 s t x z1 y1 hx z2 y2
  · rw [if_neg hs]
    have none : ∀ j, j < n → ¬ U (b + j) = 1 := by
      intro j hj e
      exact hs (jp_cn_pos hj (decide_eq_true e))
    refine ⟨hB, hBE, hZ, hXN, fun s x h1 hx e => ?_, fun s t x h1 h2 hx e1 e2 => ?_⟩
    · by_cases z : s < 24 * f + p
      · have := u1 s x z hx e
        by_cases y : b ≤ x ∧ x < b + n
        · exact jp_fl_in y.1 y.2
        · rw [jp_fl_out (by omega)]; exact this
      · have q := l3 (s - (24 * f + p)) (by omega)
        rw [show 24 * f + p + (s - (24 * f + p)) = s from by omega, e] at q
        have := jv_inj q (by omega) (by omega)
        exact jp_fl_in (by omega) (by omega)
    · have inn : ∀ s, 24 * f + p ≤ s → s < 24 * f + (p + n) → B s = nI x → x = b + (s - (24 * f + p)) := by
        intro s z1 z2 e
        have q := l3 (s - (24 * f + p)) (by omega)
        rw [show 24 * f + p + (s - (24 * f + p)) = s from by omega, e] at q
        exact jv_inj q (by omega) (by omega)
      by_cases zs : s < 24 * f + p
      · by_cases zt : t < 24 * f + p
        · exact u2 s t x zs zt hx e1 e2
        · have q := inn t (by omega) h2 e2
          have := u1 s x zs hx e1
          rw [q] at this
          exact absurd this (none _ (by omega))
      · have q := inn s (by omega) h1 e1
        by_cases zt : t < 24 * f + p
        · have := u1 t x zt hx e2
          rw [q] at this
          exact absurd this (none _ (by omega))
        · have q2 := inn t (by omega) h2 e2
          omega
theorem jp_PV_pf {K : Nat → Int32} {f : Nat} (hf : f < 16) : ∀ (m p : Nat) (s s' : jp_PS), p ≤ 24 → 24 ≤ p + m → jp_PV K (24 * f + p) s → jp_pf f m p s = s' → jp_PV K (24 * f + 24) s' := by
  intro m
  induction m with
  | zero =>
    intro p s s' h1 h2 h e
    rw [jp_pf_e (by omega)] at e
    rw [show p = 24 from by omega] at h
    subst e; exact h
  | succ m ih =>
    intro p s s' h1 h2 h e
    by_cases h24 : 24 ≤ p
    · rw [jp_pf_e h24] at e
      rw [show p = 24 from by omega] at h
      subst e; exact h
    · obtain ⟨B, U, F⟩ := s
      rcases h.1 (24 * f + p) (by omega) with z | ⟨b, hb, z⟩
      · rw [jp_pf_h (by omega) z] at e
        exact ih (p + 1) _ s' (by omega) (by omega) (jp_PV_h h z) e
      · have hL := jp_len_Len (B := B) (f := f) (p := p) (b := b) (by omega) z
        rw [jp_pf_m (by omega) hb z hL] at e
        have hk : K f = 1 := Classical.byContradiction fun q => by
          have := h.2.1 f hf q p (by omega)
          rw [z] at this
          exact jv_m1n b (by omega) this
        have l1 := hL.1
        have l2 := hL.2.1
        exact ih _ _ s' (by omega) (by omega) (jp_PV_m h hf hk hb hL) e
theorem jp_pf_row {f : Nat} {s : jp_PS} (h : ∀ p, p < 24 → s.1 (24 * f + p) = -1) : ∀ m p, jp_pf f m p s = s := by
  intro m
  induction m with
  | zero => intro p; rfl
  | succ m ih =>
    intro p
    by_cases h24 : 24 ≤ p
    · exact jp_pf_e h24
    · rw [jp_pf_h (by omega) (h p (by omega))]; exact ih (p + 1)
theorem jp_PV_n {K : Nat → Int32} {s0 : jp_PS} {c : Nat} (hc : 24 ≤ c) (h : jp_PV K 0 s0) : ∀ (n : Nat) (s' : jp_PS), n ≤ 16 → jp_fd (fun f => jp_pf f c 0) n s0 = s' → jp_PV K (24 * n) s' := by
  intro n
  induction n with
  | zero => intro s' _ e; subst e; exact h
  | succ n ih =>
    intro s' hn e
    generalize em : jp_fd (fun f => jp_pf f c 0) n s0 = sm
    have := jp_PV_pf (f := n) (by omega) c 0 sm s' (by omega) (by omega) (ih sm (by omega) em) (by rw [← em]; exact e)
    rw [show 24 * (n + 1) = 24 * n + 24 from by omega]
    exact this

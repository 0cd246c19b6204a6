theorem pk_us {f : Nat → Int32} {k : Nat} {x : Int32} : upd f k x k = x := if_pos rfl
theorem pk_un {f : Nat → Int32} {k j : Nat} {x : Int32} (h : j ≠ k) : upd f k x j = f j := if_neg h
theorem pk_sub {a b : Nat} (h : b ≤ a) : nI a - nI b = nI (a - b) := by
  obtain ⟨c, rfl⟩ : ∃ c, a = c + b := ⟨a - b, by omega⟩
  rw [← nI_add, Int32.add_sub_cancel, Nat.add_sub_cancel]
theorem pk_m1 (n : Nat) : nI (n + 1) + (-1) = nI n := by
  rw [← nI_1, Int32.add_assoc, show (1 : Int32) + (-1) = 0 from rfl, Int32.add_zero]
theorem pk_mul (a b : Nat) : nI a * nI b = nI (a * b) := (Int32.ofNat_mul a b).symm
theorem pk_div {a d : Nat} (ha : a < 2 ^ 31) (h0 : 0 < d) (hd : d < 2 ^ 31) : nI a / nI d = nI (a / d) := by
  apply Int32.toInt_inj.mp
  rw [lg_idiv_nonneg (by rw [nI_toInt ha]; omega) (by rw [nI_toInt hd]; omega), nI_toInt ha, nI_toInt hd, nI_toInt (Nat.lt_of_le_of_lt (Nat.div_le_self a d) ha)]
  first | rfl | exact (Int.natCast_ediv _ _).symm
theorem pk_rem {a d : Nat} (ha : a < 2 ^ 31) (h0 : 0 < d) (hd : d < 2 ^ 31) : nI a - nI a / nI d * nI d = nI (a % d) := by
  rw [pk_div ha h0 hd, pk_mul, pk_sub (Nat.div_mul_le_self a d)]
  exact congrArg nI (by have := Nat.div_add_mod' a d; omega)
theorem pk_sub_toInt {a b : Nat} (ha : a < 2 ^ 30) (hb : b < 2 ^ 30) : (nI a - nI b).toInt = (a : Int) - b := by
  rw [Int32.toInt_sub, nI_toInt (by omega), nI_toInt (by omega)]
  exact Int.bmod_eq_of_le (by omega) (by omega)
theorem pk_sneg {a b : Nat} (hb : b < 2 ^ 30) (h : a < b) : nI a - nI b < 0 := by
  rw [Int32.lt_iff_toInt_lt, pk_sub_toInt (by omega) hb, show (0 : Int32).toInt = 0 from by decide]
  omega
theorem pk_ix (x : Int32) {n : Nat} (hn : n < 2 ^ 31) : x < 0 ∨ nI n ≤ x ∨ ∃ j : Nat, j < n ∧ x = nI j := by
  by_cases h : x < 0
  · exact Or.inl h
  · obtain ⟨j, hj, rfl⟩ := nI_of h
    by_cases h2 : j < n
    · exact Or.inr (Or.inr ⟨j, h2, rfl⟩)
    · exact Or.inr (Or.inl (nI_le (by omega) hj))
theorem pk_le {x y : Int32} {A B : Prop} (a b : Nat) (f : a ≤ b → A) (g : b < a → B) (hx : x = nI a := by rfl) (hy : y = nI b := by rfl) (ha : a < 2 ^ 31 := by omega) (hb : b < 2 ^ 31 := by omega) : (x ≤ y → A) ∧ (¬ x ≤ y → B) := by
  subst hx hy
  rw [nI_leI ha hb]
  exact ⟨f, fun z => g (by omega)⟩
theorem pk_lt {x y : Int32} {A B : Prop} (a b : Nat) (f : a < b → A) (g : b ≤ a → B) (hx : x = nI a := by rfl) (hy : y = nI b := by rfl) (ha : a < 2 ^ 31 := by omega) (hb : b < 2 ^ 31 := by omega) : (x < y → A) ∧ (¬ x < y → B) := by
  subst hx hy
  rw [nI_ltI ha hb]
  exact ⟨f, fun z => g (by omega)⟩
theorem pk_eq {x y : Int32} {A B : Prop} (a b : Nat) (f : a = b → A) (g : a ≠ b → B) (hx : x = nI a := by rfl) (hy : y = nI b := by rfl) (ha : a < 2 ^ 31 := by omega) (hb : b < 2 ^ 31 := by omega) : (x = y → A) ∧ (¬ x = y → B) := by
  subst hx hy
  rw [nI_eq ha hb]
  exact ⟨f, g⟩
theorem pk_in {x : Int32} (n N : Nat) (h : n < N) (hx : x = nI n := by rfl) (hN : N < 2 ^ 31 := by omega) : vp_in x N := by
  subst hx
  exact vp_in_nI h hN
theorem pk_cl {x : Int32} (n : Nat) (hx : x = nI n := by rfl) (h : n < 2 ^ 31 := by omega) : x.toNatClampNeg = n := by
  subst hx
  exact nI_clamp h
theorem pk_loop {σ : Type} (W : Nat → Nat → σ → Prop) (I : Nat → σ → Prop) (e i0 : Nat) (s : σ) (hi : i0 ≤ e) (h0 : I i0 s) (hx : ∀ n s, I e s → W (n + 1) e s)
    (hs : ∀ n i s, i < e → I i s → (∀ s', I (i + 1) s' → W n (i + 1) s') → W (n + 1) i s) : ∃ n, W n i0 s :=
  ⟨e + 1, loop_i W I e hx hs (e + 1) i0 s hi (by omega) h0⟩
theorem jv_64 : (64 : Int32) = nI 64 := rfl
theorem jv_24 : (24 : Int32) = nI 24 := rfl
theorem jv_a64 (d : Nat) : nI d * 64 = nI (64 * d) := by rw [jv_64, pk_mul, Nat.mul_comm]
theorem jv_b64 (d : Nat) : (nI d + 1) * 64 = nI (64 * d + 64) := by rw [nI_1, jv_64, pk_mul]; exact congrArg nI (by omega)
theorem jv_c64 (d : Nat) : 64 * nI d = nI (64 * d) := by rw [jv_64, pk_mul]
theorem jv_d64 (d : Nat) : 64 * nI d + 64 = nI (64 * d + 64) := by rw [jv_64, pk_mul, nI_add]
theorem jv_e64 (d n : Nat) : 64 * nI d + nI n = nI (64 * d + n) := by rw [jv_c64, nI_add]
theorem jv_f64 (d n : Nat) : nI d * 64 + nI n = nI (64 * d + n) := by rw [jv_a64, nI_add]
theorem jv_a24 (d : Nat) : nI d * 24 = nI (24 * d) := by rw [jv_24, pk_mul, Nat.mul_comm]
theorem jv_b24 (d : Nat) : (nI d + 1) * 24 = nI (24 * d + 24) := by rw [nI_1, jv_24, pk_mul]; exact congrArg nI (by omega)
theorem jv_c24 (d : Nat) : 24 * nI d = nI (24 * d) := by rw [jv_24, pk_mul]
theorem jv_d24 (d : Nat) : 24 * nI d + 24 = nI (24 * d + 24) := by rw [jv_24, pk_mul, nI_add]
theorem jv_e24 (d n : Nat) : 24 * nI d + nI n = nI (24 * d + n) := by rw [jv_c24, nI_add]
theorem jv_f24 (d n : Nat) : nI d * 24 + nI n = nI (24 * d + n) := by rw [jv_a24, nI_add]
theorem jv_m1 : (-1 : Int32) < 0 := by decide
theorem jv_m1n (n : Nat) (h : n < 2 ^ 31) : ¬ nI n = -1 := fun e => nI_pos h (e ▸ jv_m1)
/-! the order of the entries: the hash and its way back -/
def jp_s (n : Nat) : Nat := (37 * n + 11) % 64
def jp_t (h : Nat) : Nat := 45 * (h + 53) % 64
theorem jp_s_lt (n : Nat) : jp_s n < 64 := Nat.mod_lt _ (by omega)
theorem jp_t_lt (n : Nat) : jp_t n < 64 := Nat.mod_lt _ (by omega)
theorem jp_ts {n : Nat} (h : n < 64) : jp_t (jp_s n) = n := by unfold jp_t jp_s; omega
theorem jp_st {n : Nat} (h : n < 64) : jp_s (jp_t n) = n := by unfold jp_t jp_s; omega
theorem jv_hash (n : Nat) (h : n < 64) : (37 * nI n + 11) - (37 * nI n + 11) / 64 * 64 = nI (jp_s n) := by
  rw [show (37 : Int32) * nI n + 11 = nI (37 * n + 11) from by rw [show (37 : Int32) = nI 37 from rfl, pk_mul, show (11 : Int32) = nI 11 from rfl, nI_add], jv_64, pk_rem (by omega) (by omega) (by omega)]
  rfl
/-! counting -/
def jp_cn (f : Nat → Bool) : Nat → Nat
  | 0 => 0
  | n + 1 => jp_cn f n + (f n).toNat
theorem jp_cn_1 (f : Nat → Bool) (n : Nat) : jp_cn f (n + 1) = jp_cn f n + (f n).toNat := rfl
theorem jp_cn_le (f : Nat → Bool) (n : Nat) : jp_cn f n ≤ n := by
  induction n with
  | zero => exact Nat.le_refl 0
  | succ n ih => have : (f n).toNat ≤ 1 := Bool.toNat_le _; rw [jp_cn_1]; omega
theorem jp_cn_congr {f g : Nat → Bool} {n : Nat} (h : ∀ i, i < n → f i = g i) : jp_cn f n = jp_cn g n := by
  induction n with
  | zero => rfl
  | succ n ih => rw [jp_cn_1, jp_cn_1, ih (fun i hi => h i (by omega)), h n (by omega)]
theorem jp_cn_mono {f g : Nat → Bool} {n : Nat} (h : ∀ i, i < n → f i = true → g i = true) : jp_cn f n ≤ jp_cn g n := by
  induction n with
  | zero => exact Nat.le_refl 0
  | succ n ih =>
    have h1 := ih (fun i hi => h i (by omega))
    have h2 := h n (by omega)
    rw [jp_cn_1, jp_cn_1]
    cases hf : f n
    · simp; omega
    · rw [h2 hf]; omega
theorem jp_cn_upd {f g : Nat → Bool} {n i : Nat} (hi : i < n) (h : ∀ j, j < n → j ≠ i → f j = g j) : jp_cn f n + (g i).toNat = jp_cn g n + (f i).toNat := by
  induction n with
  | zero => omega
  | succ n ih =>
    rw [jp_cn_1, jp_cn_1]
    by_cases e : i = n
    · subst e
      rw [jp_cn_congr (f := f) (g := g) (fun j hj => h j (by omega) (by omega))]
      omega
    · have := ih (by omega) (fun j hj => h j (by omega))
      rw [h n (by omega) (by omega)]
      omega
theorem jp_cn_zero {f : Nat → Bool} {n : Nat} (h : ∀ i, i < n → f i = false) : jp_cn f n = 0 := by
  induction n with
  | zero => rfl
  | succ n ih => rw [jp_cn_1, ih (fun i hi => h i (by omega)), h n (by omega)]; rfl
theorem jp_cn_none {f : Nat → Bool} {n : Nat} (h : jp_cn f n = 0) : ∀ i, i < n → f i = false := by
  induction n with
  | zero => intro i hi; omega
  | succ n ih =>
    rw [jp_cn_1] at h
    intro i hi
    by_cases e : i = n
    · subst e; cases hf : f i
      · rfl
      · rw [hf] at h; simp at h
    · exact ih (by omega) i (by omega)
theorem jp_cn_lt {f : Nat → Bool} {n i : Nat} (hi : i < n) (h : f i = false) : jp_cn f n < n := by
  induction n with
  | zero => omega
  | succ n ih =>
    rw [jp_cn_1]
    by_cases e : i = n
    · subst e; rw [h]; have := jp_cn_le f i; simp; omega
    · have := ih (by omega); have : (f n).toNat ≤ 1 := Bool.toNat_le _; omega
theorem jp_cn_some {f : Nat → Bool} {n : Nat} (h : 0 < jp_cn f n) : ∃ i, i < n ∧ f i = true := by
  induction n with
  | zero => exact absurd h (Nat.lt_irrefl 0)
  | succ n ih =>
    rw [jp_cn_1] at h
    cases hf : f n
    · rw [hf] at h
      obtain ⟨i, hi, e⟩ := ih (by simpa using h)
      exact ⟨i, by omega, e⟩
    · exact ⟨n, by omega, hf⟩
theorem jp_cn_pos {f : Nat → Bool} {n i : Nat} (hi : i < n) (h : f i = true) : 0 < jp_cn f n := by
  apply Nat.pos_of_ne_zero
  intro z
  rw [jp_cn_none z i hi] at h
  exact Bool.noConfusion h
theorem jp_cn_add (f : Nat → Bool) (m n : Nat) : jp_cn f (m + n) = jp_cn f m + jp_cn (fun i => f (m + i)) n := by
  induction n with
  | zero => rfl
  | succ n ih => show jp_cn f (m + n) + (f (m + n)).toNat = _; rw [ih, jp_cn_1]; omega
theorem jp_cn_list (f : Nat → Bool) (n : Nat) : jp_cn f n = (List.range n).countP f := by
  induction n with
  | zero => rfl
  | succ n ih =>
    rw [List.range_succ, List.countP_append, ← ih]
    rw [jp_cn_1]
    cases hf : f n <;> simp [hf]
theorem jp_perm : ((List.range 64).map jp_t).Perm (List.range 64) := by decide +kernel
theorem jp_cn_t (f : Nat → Bool) : jp_cn (fun h => f (jp_t h)) 64 = jp_cn f 64 := by
  rw [jp_cn_list, jp_cn_list, ← jp_perm.countP_eq f, List.countP_map]
  rfl
theorem jp_cn_rows (f : Nat → Bool) (m : Nat) : jp_cn (fun s => f (64 * (s / 64) + jp_t (s % 64))) (64 * m) = jp_cn f (64 * m) := by
  induction m with
  | zero => rfl
  | succ m ih =>
    rw [show 64 * (m + 1) = 64 * m + 64 from by omega, jp_cn_add, jp_cn_add, ih]
    congr 1
    rw [← jp_cn_t (fun i => f (64 * m + i))]
    apply jp_cn_congr
    intro i hi
    have e1 : (64 * m + i) / 64 = m := by omega
    have e2 : (64 * m + i) % 64 = i := by omega
    simp only [e1, e2]
/-! the component's row of entries, of the reference's; stores over ranges -/
def jp_ro (N : Nat → Int32) : Nat → Int32 := fun s => N (64 * (s / 64) + jp_t (s % 64))
theorem jp_ro_h (N : Nat → Int32) (d : Nat) {h : Nat} (hh : h < 64) : jp_ro N (64 * d + h) = N (64 * d + jp_t h) := by
  unfold jp_ro
  rw [show (64 * d + h) / 64 = d from by omega, show (64 * d + h) % 64 = h from by omega]
theorem jp_ro_n (N : Nat → Int32) (d : Nat) {n : Nat} (hn : n < 64) : jp_ro N (64 * d + jp_s n) = N (64 * d + n) := by
  rw [jp_ro_h N d (jp_s_lt n), jp_ts hn]
theorem jp_ro_upd (N : Nat → Int32) (d : Nat) {n : Nat} (hn : n < 64) (v : Int32) : jp_ro (upd N (64 * d + n) v) = upd (jp_ro N) (64 * d + jp_s n) v := by
  funext s
  unfold jp_ro upd
  have ht := jp_t_lt (s % 64)
  have hs := jp_s_lt n
  by_cases e : s = 64 * d + jp_s n
  · subst e
    have e1 : (64 * d + jp_s n) / 64 = d := by omega
    have e2 : (64 * d + jp_s n) % 64 = jp_s n := by omega
    simp only [e1, e2, jp_ts hn, if_true]
  · rw [if_neg e, if_neg]
    intro z
    have z1 : s / 64 = d := by omega
    have z2 : jp_t (s % 64) = n := by omega
    have z3 := jp_st (n := s % 64) (by omega)
    rw [z2] at z3
    omega
def jp_fl (a : Nat → Int32) (lo len : Nat) (c : Int32) : Nat → Int32 := fun s => if lo ≤ s ∧ s < lo + len then c else a s
theorem jp_fl_0 (a : Nat → Int32) (lo : Nat) (c : Int32) : jp_fl a lo 0 c = a := by
  funext s; unfold jp_fl; rw [if_neg (by omega)]
theorem jp_fl_s (a : Nat → Int32) (lo k : Nat) (c : Int32) : upd (jp_fl a lo k c) (lo + k) c = jp_fl a lo (k + 1) c := by
  funext s; unfold jp_fl upd; dsimp only
  by_cases e : s = lo + k
  · subst e; rw [if_pos rfl, if_pos (by omega)]
  · rw [if_neg e]
    by_cases h : lo ≤ s ∧ s < lo + k
    · rw [if_pos h, if_pos (by omega)]
    · rw [if_neg h, if_neg (by omega)]
theorem jp_fl_in {a : Nat → Int32} {lo len s : Nat} {c : Int32} (h1 : lo ≤ s) (h2 : s < lo + len) : jp_fl a lo len c s = c := if_pos ⟨h1, h2⟩
theorem jp_fl_out {a : Nat → Int32} {lo len s : Nat} {c : Int32} (h : s < lo ∨ lo + len ≤ s) : jp_fl a lo len c s = a s := if_neg (by omega)
theorem jp_ro_fl (N : Nat → Int32) (d : Nat) (c : Int32) : jp_ro (jp_fl N (64 * d) 64 c) = jp_fl (jp_ro N) (64 * d) 64 c := by
  funext s
  unfold jp_ro jp_fl
  have ht := jp_t_lt (s % 64)
  by_cases e : 64 * d ≤ s ∧ s < 64 * d + 64
  · rw [if_pos e, if_pos (by omega)]
  · rw [if_neg e, if_neg (by omega)]
def jp_cp (a : Nat → Int32) (lo len : Nat) (b : Nat → Int32) (off : Nat) : Nat → Int32 := fun s => if lo ≤ s ∧ s < lo + len then b (off + (s - lo)) else a s
theorem jp_cp_0 (a : Nat → Int32) (lo : Nat) (b : Nat → Int32) (off : Nat) : jp_cp a lo 0 b off = a := by
  funext s; unfold jp_cp; rw [if_neg (by omega)]
theorem jp_cp_s (a : Nat → Int32) (lo k : Nat) (b : Nat → Int32) (off : Nat) : upd (jp_cp a lo k b off) (lo + k) (b (off + k)) = jp_cp a lo (k + 1) b off := by
  funext s; unfold jp_cp upd; dsimp only
  by_cases e : s = lo + k
  · subst e; rw [if_pos rfl, if_pos (by omega), Nat.add_sub_cancel_left]
  · rw [if_neg e]
    by_cases h : lo ≤ s ∧ s < lo + k
    · rw [if_pos h, if_pos (by omega)]
    · rw [if_neg h, if_neg (by omega)]
theorem jp_cp_in {a b : Nat → Int32} {lo len off s : Nat} (h : s < len) : jp_cp a lo len b off (lo + s) = b (off + s) := by
  unfold jp_cp; rw [if_pos (by omega), Nat.add_sub_cancel_left]
theorem jp_cp_out {a b : Nat → Int32} {lo len off s : Nat} (h : s < lo ∨ lo + len ≤ s) : jp_cp a lo len b off s = a s := if_neg (by omega)
def jp_pi (K P : Nat → Int32) : Nat → Int32 := fun i => if K i = 0 then 0 else P i
/-! loops: counting; a fold over a row -/
theorem jv_cnt (W : Nat → Nat → Nat → Prop) (f : Nat → Bool) (e : Nat) (hx : ∀ n, W (n + 1) (jp_cn f e) e)
    (hs : ∀ n i s, i < e → (f i = true → W n (s + 1) (i + 1)) → (f i = false → W n s (i + 1)) → W (n + 1) s i) : ∃ n, W n 0 0 :=
  pk_loop (σ := Nat) (fun n i s => W n s i) (fun i s => s = jp_cn f i) e 0 0 (Nat.zero_le e) rfl (fun n s h => by subst h; exact hx n)
    (fun n i s hi h ih => by
      subst h
      refine hs n i _ hi (fun hf => ih _ ?_) (fun hf => ih _ ?_)
      · rw [jp_cn_1, hf]; rfl
      · rw [jp_cn_1, hf]; rfl)
def jp_fd {σ : Type} (f : Nat → σ → σ) : Nat → σ → σ
  | 0 => fun s => s
  | n + 1 => fun s => f n (jp_fd f n s)
theorem jv_fold {σ : Type} (W : Nat → Nat → σ → Prop) (f : Nat → σ → σ) (e : Nat) (s0 : σ) (J : Nat → σ → Prop) (h0 : J 0 s0)
    (hJ : ∀ i s, i < e → J i s → J (i + 1) (f i s)) (hx : ∀ n, W (n + 1) e (jp_fd f e s0))
    (hs : ∀ n i s, i < e → J i s → W n (i + 1) (f i s) → W (n + 1) i s) : ∃ n, W n 0 s0 :=
  pk_loop W (fun i s => s = jp_fd f i s0 ∧ J i s) e 0 s0 (Nat.zero_le e) ⟨rfl, h0⟩ (fun n s h => by rw [h.1]; exact hx n)
    (fun n i s hi h ih => hs n i s hi h.2 (ih _ ⟨by rw [h.1]; rfl, hJ i s hi h.2⟩))
theorem jp_fd_inv {σ : Type} (f : Nat → σ → σ) (e : Nat) (s0 : σ) (J : Nat → σ → Prop) (h0 : J 0 s0) (hJ : ∀ i s, i < e → J i s → J (i + 1) (f i s)) : J e (jp_fd f e s0) := by
  induction e with
  | zero => exact h0
  | succ e ih => exact hJ e _ (Nat.lt_succ_self e) (ih (fun i s hi h => hJ i s (Nat.lt_succ_of_lt hi) h))

section
theorem pk_us {f : Nat → Int32} {k : Nat} {x : Int32} : upd f k x k = x := if_pos rfl
theorem pk_un {f : Nat → Int32} {k j : Nat} {x : Int32} (h : j ≠ k) : upd f k x j = f j := if_neg h
theorem pk_sub {a b : Nat} (h : b ≤ a) : nI a - nI b = nI (a - b) := by
  obtain ⟨c, rfl⟩ : ∃ c, a = c + b := ⟨a - b, by omega⟩
  rw [← nI_add, Int32.add_sub_cancel, Nat.add_sub_cancel]
theorem pk_m1 (n : Nat) : nI (n + 1) + (-1) = nI n := by
  rw [← nI_1, Int32.add_assoc, show (1 : Int32) + (-1) = 0 from rfl, Int32.add_zero]
theorem pk_mul (a b : Nat) : nI a * nI b = nI (a * b) := (Int32.ofNat_mul a b).symm
theorem pk_div {a d : Nat} (ha : a < 2 ^ 31) (h0 : 0 < d) (hd : d < 2 ^ 31) : nI a / nI d = nI (a / d) := by
  apply Int32.toInt_inj.mp
  rw [lg_idiv_nonneg (by rw [nI_toInt ha]; omega) (by rw [nI_toInt hd]; omega), nI_toInt ha, nI_toInt hd, nI_toInt (Nat.lt_of_le_of_lt (Nat.div_le_self a d) ha)]
  first | rfl | exact (Int.natCast_ediv _ _).symm
theorem pk_rem {a d : Nat} (ha : a < 2 ^ 31) (h0 : 0 < d) (hd : d < 2 ^ 31) : nI a - nI a / nI d * nI d = nI (a % d) := by
  rw [pk_div ha h0 hd, pk_mul, pk_sub (Nat.div_mul_le_self a d)]
  exact congrArg nI (by have := Nat.div_add_mod' a d; omega)
theorem pk_sub_toInt {a b : Nat} (ha : a < 2 ^ 30) (hb : b < 2 ^ 30) : (nI a - nI b).toInt = (a : Int) - b := by
  rw [Int32.toInt_sub, nI_toInt (by omega), nI_toInt (by omega)]
  exact Int.bmod_eq_of_le (by omega) (by omega)
theorem pk_sneg {a b : Nat} (hb : b < 2 ^ 30) (h : a < b) : nI a - nI b < 0 := by
  rw [Int32.lt_iff_toInt_lt, pk_sub_toInt (by omega) hb, show (0 : Int32).toInt = 0 from by decide]
  omega
theorem pk_ix (x : Int32) {n : Nat} (hn : n < 2 ^ 31) : x < 0 ∨ nI n ≤ x ∨ ∃ j : Nat, j < n ∧ x = nI j := by
  by_cases h : x < 0
  · exact Or.inl h
  · obtain ⟨j, hj, rfl⟩ := nI_of h
    by_cases h2 : j < n
    · exact Or.inr (Or.inr ⟨j, h2, rfl⟩)
    · exact Or.inr (Or.inl (nI_le (by omega) hj))
theorem pk_le {x y : Int32} {A B : Prop} (a b : Nat) (f : a ≤ b → A) (g : b < a → B) (hx : x = nI a := by rfl) (hy : y = nI b := by rfl) (ha : a < 2 ^ 31 := by omega) (hb : b < 2 ^ 31 := by omega) : (x ≤ y → A) ∧ (¬ x ≤ y → B) := by
  subst hx hy
  rw [nI_leI ha hb]
  exact ⟨f, fun z => g (by omega)⟩
theorem pk_lt {x y : Int32} {A B : Prop} (a b : Nat) (f : a < b → A) (g : b ≤ a → B) (hx : x = nI a := by rfl) (hy : y = nI b := by rfl) (ha : a < 2 ^ 31 := by omega) (hb : b < 2 ^ 31 := by omega) : (x < y → A) ∧ (¬ x < y → B) := by
  subst hx hy
  rw [nI_ltI ha hb]
  exact ⟨f, fun z => g (by omega)⟩
theorem pk_eq {x y : Int32} {A B : Prop} (a b : Nat) (f : a = b → A) (g : a ≠ b → B) (hx : x = nI a := by rfl) (hy : y = nI b := by rfl) (ha : a < 2 ^ 31 := by omega) (hb : b < 2 ^ 31 := by omega) : (x = y → A) ∧ (¬ x = y → B) := by
  subst hx hy
  rw [nI_eq ha hb]
  exact ⟨f, g⟩
theorem pk_in {x : Int32} (n N : Nat) (h : n < N) (hx : x = nI n := by rfl) (hN : N < 2 ^ 31 := by omega) : vp_in x N := by
  subst hx
  exact vp_in_nI h hN
theorem pk_cl {x : Int32} (n : Nat) (hx : x = nI n := by rfl) (h : n < 2 ^ 31 := by omega) : x.toNatClampNeg = n := by
  subst hx
  exact nI_clamp h
theorem pk_loop {σ : Type} (W : Nat → Nat → σ → Prop) (I : Nat → σ → Prop) (e i0 : Nat) (s : σ) (hi : i0 ≤ e) (h0 : I i0 s) (hx : ∀ n s, I e s → W (n + 1) e s)
    (hs : ∀ n i s, i < e → I i s → (∀ s', I (i + 1) s' → W n (i + 1) s') → W (n + 1) i s) : ∃ n, W n i0 s :=
  ⟨e + 1, loop_i W I e hx hs (e + 1) i0 s hi (by omega) h0⟩
theorem jv_64 : (64 : Int32) = nI 64 := rfl
theorem jv_24 : (24 : Int32) = nI 24 := rfl
theorem jv_a64 (d : Nat) : nI d * 64 = nI (64 * d) := by rw [jv_64, pk_mul, Nat.mul_comm]
theorem jv_b64 (d : Nat) : (nI d + 1) * 64 = nI (64 * d + 64) := by rw [nI_1, jv_64, pk_mul]; exact congrArg nI (by omega)
theorem jv_c64 (d : Nat) : 64 * nI d = nI (64 * d) := by rw [jv_64, pk_mul]
theorem jv_d64 (d : Nat) : 64 * nI d + 64 = nI (64 * d + 64) := by rw [jv_64, pk_mul, nI_add]
theorem jv_e64 (d n : Nat) : 64 * nI d + nI n = nI (64 * d + n) := by rw [jv_c64, nI_add]
theorem jv_f64 (d n : Nat) : nI d * 64 + nI n = nI (64 * d + n) := by rw [jv_a64, nI_add]
theorem jv_a24 (d : Nat) : nI d * 24 = nI (24 * d) := by rw [jv_24, pk_mul, Nat.mul_comm]
theorem jv_b24 (d : Nat) : (nI d + 1) * 24 = nI (24 * d + 24) := by rw [nI_1, jv_24, pk_mul]; exact congrArg nI (by omega)
theorem jv_c24 (d : Nat) : 24 * nI d = nI (24 * d) := by rw [jv_24, pk_mul]
theorem jv_d24 (d : Nat) : 24 * nI d + 24 = nI (24 * d + 24) := by rw [jv_24, pk_mul, nI_add]
theorem jv_e24 (d n : Nat) : 24 * nI d + nI n = nI (24 * d + n) := by rw [jv_c24, nI_add]
theorem jv_f24 (d n : Nat) : nI d * 24 + nI n = nI (24 * d + n) := by rw [jv_a24, nI_add]
theorem jv_m1 : (-1 : Int32) < 0 := by decide
theorem jv_m1n (n : Nat) (h : n < 2 ^ 31) : ¬ nI n = -1 := fun e => nI_pos h (e ▸ jv_m1)
/-! the order of the entries: the hash and its way back -/
def jp_s (n : Nat) : Nat := (37 * n + 11) % 64
def jp_t (h : Nat) : Nat := 45 * (h + 53) % 64
theorem jp_s_lt (n : Nat) : jp_s n < 64 := Nat.mod_lt _ (by omega)
theorem jp_t_lt (n : Nat) : jp_t n < 64 := Nat.mod_lt _ (by omega)
theorem jp_ts {n : Nat} (h : n < 64) : jp_t (jp_s n) = n := by unfold jp_t jp_s; omega
theorem jp_st {n : Nat} (h : n < 64) : jp_s (jp_t n) = n := by unfold jp_t jp_s; omega
theorem jv_hash (n : Nat) (h : n < 64) : (37 * nI n + 11) - (37 * nI n + 11) / 64 * 64 = nI (jp_s n) := by
  rw [show (37 : Int32) * nI n + 11 = nI (37 * n + 11) from by rw [show (37 : Int32) = nI 37 from rfl, pk_mul, show (11 : Int32) = nI 11 from rfl, nI_add], jv_64, pk_rem (by omega) (by omega) (by omega)]
  rfl
/-! counting -/
def jp_cn (f : Nat → Bool) : Nat → Nat
  | 0 => 0
  | n + 1 => jp_cn f n + (f n).toNat
theorem jp_cn_1 (f : Nat → Bool) (n : Nat) : jp_cn f (n + 1) = jp_cn f n + (f n).toNat := rfl
theorem jp_cn_le (f : Nat → Bool) (n : Nat) : jp_cn f n ≤ n := by
  induction n with
  | zero => exact Nat.le_refl 0
  | succ n ih => have : (f n).toNat ≤ 1 := Bool.toNat_le _; rw [jp_cn_1]; omega
theorem jp_cn_congr {f g : Nat → Bool} {n : Nat} (h : ∀ i, i < n → f i = g i) : jp_cn f n = jp_cn g n := by
  induction n with
  | zero => rfl
  | succ n ih => rw [jp_cn_1, jp_cn_1, ih (fun i hi => h i (by omega)), h n (by omega)]
theorem jp_cn_mono {f g : Nat → Bool} {n : Nat} (h : ∀ i, i < n → f i = true → g i = true) : jp_cn f n ≤ jp_cn g n := by
  induction n with
  | zero => exact Nat.le_refl 0
  | succ n ih =>
    have h1 := ih (fun i hi => h i (by omega))
    have h2 := h n (by omega)
    rw [jp_cn_1, jp_cn_1]
    cases hf : f n
    · simp; omega
    · rw [h2 hf]; omega
theorem jp_cn_upd {f g : Nat → Bool} {n i : Nat} (hi : i < n) (h : ∀ j, j < n → j ≠ i → f j = g j) : jp_cn f n + (g i).toNat = jp_cn g n + (f i).toNat := by
  induction n with
  | zero => omega
  | succ n ih =>
    rw [jp_cn_1, jp_cn_1]
    by_cases e : i = n
    · subst e
      rw [jp_cn_congr (f := f) (g := g) (fun j hj => h j (by omega) (by omega))]
      omega
    · have := ih (by omega) (fun j hj => h j (by omega))
      rw [h n (by omega) (by omega)]
      omega
theorem jp_cn_zero {f : Nat → Bool} {n : Nat} (h : ∀ i, i < n → f i = false) : jp_cn f n = 0 := by
  induction n with
  | zero => rfl
  | succ n ih => rw [jp_cn_1, ih (fun i hi => h i (by omega)), h n (by omega)]; rfl
theorem jp_cn_none {f : Nat → Bool} {n : Nat} (h : jp_cn f n = 0) : ∀ i, i < n → f i = false := by
  induction n with
  | zero => intro i hi; omega
  | succ n ih =>
    rw [jp_cn_1] at h
    intro i hi
    by_cases e : i = n
    · subst e; cases hf : f i
      · rfl
      · rw [hf] at h; simp at h
    · exact ih (by omega) i (by omega)
theorem jp_cn_lt {f : Nat → Bool} {n i : Nat} (hi : i < n) (h : f i = false) : jp_cn f n < n := by
  induction n with
  | zero => omega
  | succ n ih =>
    rw [jp_cn_1]
    by_cases e : i = n
    · subst e; rw [h]; have := jp_cn_le f i; simp; omega
    · have := ih (by omega); have : (f n).toNat ≤ 1 := Bool.toNat_le _; omega
theorem jp_cn_some {f : Nat → Bool} {n : Nat} (h : 0 < jp_cn f n) : ∃ i, i < n ∧ f i = true := by
  induction n with
  | zero => exact absurd h (Nat.lt_irrefl 0)
  | succ n ih =>
    rw [jp_cn_1] at h
    cases hf : f n
    · rw [hf] at h
      obtain ⟨i, hi, e⟩ := ih (by simpa using h)
      exact ⟨i, by omega, e⟩
    · exact ⟨n, by omega, hf⟩
theorem jp_cn_pos {f : Nat → Bool} {n i : Nat} (hi : i < n) (h : f i = true) : 0 < jp_cn f n := by
  apply Nat.pos_of_ne_zero
  intro z
  rw [jp_cn_none z i hi] at h
  exact Bool.noConfusion h
theorem jp_cn_add (f : Nat → Bool) (m n : Nat) : jp_cn f (m + n) = jp_cn f m + jp_cn (fun i => f (m + i)) n := by
  induction n with
  | zero => rfl
  | succ n ih => show jp_cn f (m + n) + (f (m + n)).toNat = _; rw [ih, jp_cn_1]; omega
theorem jp_cn_list (f : Nat → Bool) (n : Nat) : jp_cn f n = (List.range n).countP f := by
  induction n with
  | zero => rfl
  | succ n ih =>
    rw [List.range_succ, List.countP_append, ← ih]
    rw [jp_cn_1]
    cases hf : f n <;> simp [hf]
theorem jp_perm : ((List.range 64).map jp_t).Perm (List.range 64) := by decide +kernel
theorem jp_cn_t (f : Nat → Bool) : jp_cn (fun h => f (jp_t h)) 64 = jp_cn f 64 := by
  rw [jp_cn_list, jp_cn_list, ← jp_perm.countP_eq f, List.countP_map]
  rfl
theorem jp_cn_rows (f : Nat → Bool) (m : Nat) : jp_cn (fun s => f (64 * (s / 64) + jp_t (s % 64))) (64 * m) = jp_cn f (64 * m) := by
  induction m with
  | zero => rfl
  | succ m ih =>
    rw [show 64 * (m + 1) = 64 * m + 64 from by omega, jp_cn_add, jp_cn_add, ih]
    congr 1
    rw [← jp_cn_t (fun i => f (64 * m + i))]
    apply jp_cn_congr
    intro i hi
    have e1 : (64 * m + i) / 64 = m := by omega
    have e2 : (64 * m + i) % 64 = i := by omega
    simp only [e1, e2]
/-! the component's row of entries, of the reference's; stores over ranges -/
def jp_ro (N : Nat → Int32) : Nat → Int32 := fun s => N (64 * (s / 64) + jp_t (s % 64))
theorem jp_ro_h (N : Nat → Int32) (d : Nat) {h : Nat} (hh : h < 64) : jp_ro N (64 * d + h) = N (64 * d + jp_t h) := by
  unfold jp_ro
  rw [show (64 * d + h) / 64 = d from by omega, show (64 * d + h) % 64 = h from by omega]
theorem jp_ro_n (N : Nat → Int32) (d : Nat) {n : Nat} (hn : n < 64) : jp_ro N (64 * d + jp_s n) = N (64 * d + n) := by
  rw [jp_ro_h N d (jp_s_lt n), jp_ts hn]
theorem jp_ro_upd (N : Nat → Int32) (d : Nat) {n : Nat} (hn : n < 64) (v : Int32) : jp_ro (upd N (64 * d + n) v) = upd (jp_ro N) (64 * d + jp_s n) v := by
  funext s
  unfold jp_ro upd
  have ht := jp_t_lt (s % 64)
  have hs := jp_s_lt n
  by_cases e : s = 64 * d + jp_s n
  · subst e
    have e1 : (64 * d + jp_s n) / 64 = d := by omega
    have e2 : (64 * d + jp_s n) % 64 = jp_s n := by omega
    simp only [e1, e2, jp_ts hn, if_true]
  · rw [if_neg e, if_neg]
    intro z
    have z1 : s / 64 = d := by omega
    have z2 : jp_t (s % 64) = n := by omega
    have z3 := jp_st (n := s % 64) (by omega)
    rw [z2] at z3
    omega
def jp_fl (a : Nat → Int32) (lo len : Nat) (c : Int32) : Nat → Int32 := fun s => if lo ≤ s ∧ s < lo + len then c else a s
theorem jp_fl_0 (a : Nat → Int32) (lo : Nat) (c : Int32) : jp_fl a lo 0 c = a := by
  funext s; unfold jp_fl; rw [if_neg (by omega)]
theorem jp_fl_s (a : Nat → Int32) (lo k : Nat) (c : Int32) : upd (jp_fl a lo k c) (lo + k) c = jp_fl a lo (k + 1) c := by
  funext s; unfold jp_fl upd; dsimp only
  by_cases e : s = lo + k
  · subst e; rw [if_pos rfl, if_pos (by omega)]
  · rw [if_neg e]
    by_cases h : lo ≤ s ∧ s < lo + k
    · rw [if_pos h, if_pos (by omega)]
    · rw [if_neg h, if_neg (by omega)]
theorem jp_fl_in {a : Nat → Int32} {lo len s : Nat} {c : Int32} (h1 : lo ≤ s) (h2 : s < lo + len) : jp_fl a lo len c s = c := if_pos ⟨h1, h2⟩
theorem jp_fl_out {a : Nat → Int32} {lo len s : Nat} {c : Int32} (h : s < lo ∨ lo + len ≤ s) : jp_fl a lo len c s = a s := if_neg (by omega)
theorem jp_ro_fl (N : Nat → Int32) (d : Nat) (c : Int32) : jp_ro (jp_fl N (64 * d) 64 c) = jp_fl (jp_ro N) (64 * d) 64 c := by
  funext s
  unfold jp_ro jp_fl
  have ht := jp_t_lt (s % 64)
  by_cases e : 64 * d ≤ s ∧ s < 64 * d + 64
  · rw [if_pos e, if_pos (by omega)]
  · rw [if_neg e, if_neg (by omega)]
def jp_cp (a : Nat → Int32) (lo len : Nat) (b : Nat → Int32) (off : Nat) : Nat → Int32 := fun s => if lo ≤ s ∧ s < lo + len then b (off + (s - lo)) else a s
theorem jp_cp_0 (a : Nat → Int32) (lo : Nat) (b : Nat → Int32) (off : Nat) : jp_cp a lo 0 b off = a := by
  funext s; unfold jp_cp; rw [if_neg (by omega)]
theorem jp_cp_s (a : Nat → Int32) (lo k : Nat) (b : Nat → Int32) (off : Nat) : upd (jp_cp a lo k b off) (lo + k) (b (off + k)) = jp_cp a lo (k + 1) b off := by
  funext s; unfold jp_cp upd; dsimp only
  by_cases e : s = lo + k
  · subst e; rw [if_pos rfl, if_pos (by omega), Nat.add_sub_cancel_left]
  · rw [if_neg e]
    by_cases h : lo ≤ s ∧ s < lo + k
    · rw [if_pos h, if_pos (by omega)]
    · rw [if_neg h, if_neg (by omega)]
theorem jp_cp_in {a b : Nat → Int32} {lo len off s : Nat} (h : s < len) : jp_cp a lo len b off (lo + s) = b (off + s) := by
  unfold jp_cp; rw [if_pos (by omega), Nat.add_sub_cancel_left]
theorem jp_cp_out {a b : Nat → Int32} {lo len off s : Nat} (h : s < lo ∨ lo + len ≤ s) : jp_cp a lo len b off s = a s := if_neg (by omega)
def jp_pi (K P : Nat → Int32) : Nat → Int32 := fun i => if K i = 0 then 0 else P i
/-! loops: counting; a fold over a row -/
theorem jv_cnt (W : Nat → Nat → Nat → Prop) (f : Nat → Bool) (e : Nat) (hx : ∀ n, W (n + 1) (jp_cn f e) e)
    (hs : ∀ n i s, i < e → (f i = true → W n (s + 1) (i + 1)) → (f i = false → W n s (i + 1)) → W (n + 1) s i) : ∃ n, W n 0 0 :=
  pk_loop (σ := Nat) (fun n i s => W n s i) (fun i s => s = jp_cn f i) e 0 0 (Nat.zero_le e) rfl (fun n s h => by subst h; exact hx n)
    (fun n i s hi h ih => by
      subst h
      refine hs n i _ hi (fun hf => ih _ ?_) (fun hf => ih _ ?_)
      · rw [jp_cn_1, hf]; rfl
      · rw [jp_cn_1, hf]; rfl)
def jp_fd {σ : Type} (f : Nat → σ → σ) : Nat → σ → σ
  | 0 => fun s => s
  | n + 1 => fun s => f n (jp_fd f n s)
theorem jv_fold {σ : Type} (W : Nat → Nat → σ → Prop) (f : Nat → σ → σ) (e : Nat) (s0 : σ) (J : Nat → σ → Prop) (h0 : J 0 s0)
    (hJ : ∀ i s, i < e → J i s → J (i + 1) (f i s)) (hx : ∀ n, W (n + 1) e (jp_fd f e s0))
    (hs : ∀ n i s, i < e → J i s → W n (i + 1) (f i s) → W (n + 1) i s) : ∃ n, W n 0 s0 :=
  pk_loop W (fun i s => s = jp_fd f i s0 ∧ J i s) e 0 s0 (Nat.zero_le e) ⟨rfl, h0⟩ (fun n s h => by rw [h.1]; exact hx n)
    (fun n i s hi h ih => hs n i s hi h.2 (ih _ ⟨by rw [h.1]; rfl, hJ i s hi h.2⟩))
theorem jp_fd_inv {σ : Type} (f : Nat → σ → σ) (e : Nat) (s0 : σ) (J : Nat → σ → Prop) (h0 : J 0 s0) (hJ : ∀ i s, i < e → J i s → J (i + 1) (f i s)) : J e (jp_fd f e s0) := by
  induction e with
  | zero => exact h0
  | succ e ih => exact hJ e _ (Nat.lt_succ_self e) (ih (fun i s hi h => hJ i s (Nat.lt_succ_of_lt hi) h))
end
section
theorem jv_rt {p : Int32} {N : Nat} (hN : N < 2 ^ 31) (h0 : ¬ p < 0) (h1 : ¬ nI N ≤ p) : ∃ j, j < N ∧ p = nI j := by
  obtain ⟨j, hj, rfl⟩ := nI_of h0
  exact ⟨j, Nat.lt_of_not_le (fun h => h1 (nI_le h hj)), rfl⟩
theorem jv_rn {p : Int32} {N : Nat} (hN : N < 2 ^ 31) (h : p < 0 ∨ nI N ≤ p) : ¬ ∃ j, j < N ∧ p = nI j := by
  rintro ⟨j, hj, rfl⟩
  rcases h with h | h
  · exact nI_pos (by omega) h
  · exact nI_ge hj hN h
theorem jv_inj {i j : Nat} (h : nI i = nI j) (hi : i < 2 ^ 31) (hj : j < 2 ^ 31) : i = j := (nI_eq hi hj).mp h
section
variable {xr xs xd xw : Int32} {xk xl xp xn xb xm xh bk bl bp bn bb bm bh xf xt xq xu : Nat → Int32}
theorem jx_isInode {post : Int32 → Prop} {p : Int32} (ht : ∀ j, j < 16 → p = nI j → post 1) (hf : (¬ ∃ j, j < 16 ∧ p = nI j) → post 0) : wpX_isInode post p :=
  br_c (fun h => hf (jv_rn (by omega) (Or.inl h))) (fun h => br_c (fun h2 => hf (jv_rn (by omega) (Or.inr h2))) (fun h2 => by
    obtain ⟨j, hj, e⟩ := jv_rt (N := 16) (by omega) h h2
    exact ht j hj e))
theorem jx_isName {post : Int32 → Prop} {p : Int32} (ht : ∀ j, j < 64 → p = nI j → post 1) (hf : (¬ ∃ j, j < 64 ∧ p = nI j) → post 0) : wpX_isName post p :=
  br_c (fun h => hf (jv_rn (by omega) (Or.inl h))) (fun h => br_c (fun h2 => hf (jv_rn (by omega) (Or.inr h2))) (fun h2 => by
    obtain ⟨j, hj, e⟩ := jv_rt (N := 64) (by omega) h h2
    exact ht j hj e))
theorem jx_isPosition {post : Int32 → Prop} {p : Int32} (ht : ∀ j, j < 24 → p = nI j → post 1) (hf : (¬ ∃ j, j < 24 ∧ p = nI j) → post 0) : wpX_isPosition post p :=
  br_c (fun h => hf (jv_rn (by omega) (Or.inl h))) (fun h => br_c (fun h2 => hf (jv_rn (by omega) (Or.inr h2))) (fun h2 => by
    obtain ⟨j, hj, e⟩ := jv_rt (N := 24) (by omega) h h2
    exact ht j hj e))
theorem jx_isBlock {post : Int32 → Prop} {p : Int32} (ht : ∀ j, j < 64 → p = nI j → post 1) (hf : (¬ ∃ j, j < 64 ∧ p = nI j) → post 0) : wpX_isBlock post p :=
  br_c (fun h => hf (jv_rn (by omega) (Or.inl h))) (fun h => br_c (fun h2 => hf (jv_rn (by omega) (Or.inr h2))) (fun h2 => by
    obtain ⟨j, hj, e⟩ := jv_rt (N := 64) (by omega) h h2
    exact ht j hj e))
theorem jx_isDirectory {post : Int32 → Prop} {p : Int32} (ht : ∀ j, j < 16 → p = nI j → xk j = 2 → post 1) (hf : (¬ ∃ j, j < 16 ∧ p = nI j ∧ xk j = 2) → post 0) : wpX_isDirectory post (xr, xs, xd, xw, xk, xl, xp, xn, xb, xm, xh, bk, bl, bp, bn, bb, bm, bh, xf, xt, xq, xu) p := by
  unfold wpX_isDirectory
  refine jx_isInode (fun j hj e => ?_) (fun hn => br_t rfl (hf (fun ⟨j, hj, e, _⟩ => hn ⟨j, hj, e⟩)))
  subst e
  refine br_f (by decide) ⟨vp_in_nI hj (by omega), ?_⟩
  rw [nI_clamp (by omega)]
  exact br_c (fun hk => ht j hj rfl hk) (fun hk => hf (fun ⟨i, hi, e, k⟩ => hk (by rw [jv_inj e (by omega) (by omega)]; exact k)))
theorem jx_isFile {post : Int32 → Prop} {p : Int32} (ht : ∀ j, j < 16 → p = nI j → xk j = 1 → post 1) (hf : (¬ ∃ j, j < 16 ∧ p = nI j ∧ xk j = 1) → post 0) : wpX_isFile post (xr, xs, xd, xw, xk, xl, xp, xn, xb, xm, xh, bk, bl, bp, bn, bb, bm, bh, xf, xt, xq, xu) p := by
  unfold wpX_isFile
  refine jx_isInode (fun j hj e => ?_) (fun hn => br_t rfl (hf (fun ⟨j, hj, e, _⟩ => hn ⟨j, hj, e⟩)))
  subst e
  refine br_f (by decide) ⟨vp_in_nI hj (by omega), ?_⟩
  rw [nI_clamp (by omega)]
  exact br_c (fun hk => ht j hj rfl hk) (fun hk => hf (fun ⟨i, hi, e, k⟩ => hk (by rw [jv_inj e (by omega) (by omega)]; exact k)))
theorem jx_spotOf {post : Int32 → Prop} {d n : Nat} (hn : n < 64) (h : post (nI (64 * d + jp_s n))) : wpX_spotOf post (nI d) (nI n) :=
  ⟨by decide, by rw [jv_hash n hn, jv_f64]; exact h⟩
theorem jx_hasEntry {post : Int32 → Prop} {p q : Int32} (ht : ∀ d n, d < 16 → n < 64 → p = nI d → q = nI n → xk d = 2 → ¬ xn (64 * d + jp_s n) = -1 → post 1)
    (hf : (¬ ∃ d n, d < 16 ∧ n < 64 ∧ p = nI d ∧ q = nI n ∧ xk d = 2 ∧ ¬ xn (64 * d + jp_s n) = -1) → post 0) : wpX_hasEntry post (xr, xs, xd, xw, xk, xl, xp, xn, xb, xm, xh, bk, bl, bp, bn, bb, bm, bh, xf, xt, xq, xu) p q := by
  unfold wpX_hasEntry
  refine jx_isDirectory (fun d hd e k => ?_) (fun hn => br_t rfl (hf (fun ⟨d, n, hd, _, e, _, k, _⟩ => hn ⟨d, hd, e, k⟩)))
  refine br_f (by decide) (jx_isName (fun n hn e2 => ?_) (fun hn => br_t rfl (hf (fun ⟨d, n, _, h, _, e2, _⟩ => hn ⟨n, h, e2⟩))))
  subst e e2
  have := jp_s_lt n
  refine br_f (by decide) (jx_spotOf hn ⟨vp_in_nI (by omega) (by omega), ?_⟩)
  rw [nI_clamp (by omega)]
  refine br_c (fun hc => hf ?_) (fun hc => ht d n hd hn rfl rfl k hc)
  rintro ⟨d', n', hd', hn', e, e2, _, k2⟩
  rw [← jv_inj e (by omega) (by omega), ← jv_inj e2 (by omega) (by omega)] at k2
  exact k2 hc
theorem jx_countEntries {post : Int32 → Prop} {d : Nat} (hd : d < 16) (h : post (nI (jp_cn (fun h => decide (¬ xn (64 * d + h) = -1)) 64))) : wpX_countEntries post (xr, xs, xd, xw, xk, xl, xp, xn, xb, xm, xh, bk, bl, bp, bn, bb, bm, bh, xf, xt, xq, xu) (nI d) := by
  unfold wpX_countEntries
  refine nm_r (jv_a64 d) (jv_cnt (fun n s i => wX_countEntries_7 post (nI d) xr xs xd xw xk xl xp xn xb xm xh bk bl bp bn bb bm bh xf xt xq xu n (nI s) (nI (64 * d + i))) (fun h => decide (¬ xn (64 * d + h) = -1)) 64 (fun n => br_t ?_ h) (fun n i s hi ht hf => br_f ?_ ⟨vp_in_nI (by omega) (by omega), ?_⟩))
  · rw [jv_b64]; exact nI_le (by omega) (by omega)
  · rw [jv_b64]; exact nI_ge (by omega) (by omega)
  · rw [nI_clamp (by omega)]
    exact br_c (fun hc => nm_r (nI_1 _) (hf (by simp [hc]))) (fun hc => nm_r (nI_1 _) (nm_r (nI_1 _) (ht (by simp [hc]))))
theorem jx_countNaming {post : Int32 → Prop} {p : Int32} (h : post (nI (jp_cn (fun s => decide (xn s = p)) 1024))) : wpX_countNaming post (xr, xs, xd, xw, xk, xl, xp, xn, xb, xm, xh, bk, bl, bp, bn, bb, bm, bh, xf, xt, xq, xu) p := by
  unfold wpX_countNaming
  refine jv_cnt (fun n s i => wX_countNaming_4 post p xr xs xd xw xk xl xp xn xb xm xh bk bl bp bn bb bm bh xf xt xq xu n (nI s) (nI i)) (fun s => decide (xn s = p)) 1024 (fun n => br_t (nI_le (a := 1024) (by omega) (by omega)) h) (fun n i s hi ht hf => br_f (nI_ge (b := 1024) hi (by omega)) ⟨vp_in_nI (by omega) (by omega), ?_⟩)
  rw [nI_clamp (by omega)]
  exact br_c (fun hc => nm_r (nI_1 _) (nm_r (nI_1 _) (ht (by simp [hc])))) (fun hc => nm_r (nI_1 _) (hf (by simp [hc])))
theorem jx_countMapped {post : Int32 → Prop} {d : Nat} (hd : d < 16) (h : post (nI (jp_cn (fun h => decide (¬ xb (24 * d + h) = -1)) 24))) : wpX_countMapped post (xr, xs, xd, xw, xk, xl, xp, xn, xb, xm, xh, bk, bl, bp, bn, bb, bm, bh, xf, xt, xq, xu) (nI d) := by
  unfold wpX_countMapped
  refine nm_r (jv_a24 d) (jv_cnt (fun n s i => wX_countMapped_7 post (nI d) xr xs xd xw xk xl xp xn xb xm xh bk bl bp bn bb bm bh xf xt xq xu n (nI s) (nI (24 * d + i))) (fun h => decide (¬ xb (24 * d + h) = -1)) 24 (fun n => br_t ?_ h) (fun n i s hi ht hf => br_f ?_ ⟨vp_in_nI (by omega) (by omega), ?_⟩))
  · rw [jv_b24]; exact nI_le (by omega) (by omega)
  · rw [jv_b24]; exact nI_ge (by omega) (by omega)
  · rw [nI_clamp (by omega)]
    exact br_c (fun hc => nm_r (nI_1 _) (hf (by simp [hc]))) (fun hc => nm_r (nI_1 _) (nm_r (nI_1 _) (ht (by simp [hc]))))
theorem jx_countUnmarked {post : Int32 → Prop} (h : post (nI (jp_cn (fun s => decide (xm s = 0)) 64))) : wpX_countUnmarked post (xr, xs, xd, xw, xk, xl, xp, xn, xb, xm, xh, bk, bl, bp, bn, bb, bm, bh, xf, xt, xq, xu) := by
  unfold wpX_countUnmarked
  refine jv_cnt (fun n s i => wX_countUnmarked_4 post xr xs xd xw xk xl xp xn xb xm xh bk bl bp bn bb bm bh xf xt xq xu n (nI s) (nI i)) (fun s => decide (xm s = 0)) 64 (fun n => br_t (nI_le (a := 64) (by omega) (by omega)) h) (fun n i s hi ht hf => br_f (nI_ge (b := 64) hi (by omega)) ⟨vp_in_nI (by omega) (by omega), ?_⟩)
  rw [nI_clamp (by omega)]
  exact br_c (fun hc => nm_r (nI_1 _) (nm_r (nI_1 _) (ht (by simp [hc])))) (fun hc => nm_r (nI_1 _) (hf (by simp [hc])))
theorem jx_countInodes {post : Int32 → Prop} (h : post (nI (jp_cn (fun s => decide (¬ xk s = 0)) 16))) : wpX_countInodes post (xr, xs, xd, xw, xk, xl, xp, xn, xb, xm, xh, bk, bl, bp, bn, bb, bm, bh, xf, xt, xq, xu) := by
  unfold wpX_countInodes
  refine jv_cnt (fun n s i => wX_countInodes_4 post xr xs xd xw xk xl xp xn xb xm xh bk bl bp bn bb bm bh xf xt xq xu n (nI s) (nI i)) (fun s => decide (¬ xk s = 0)) 16 (fun n => br_t (nI_le (a := 16) (by omega) (by omega)) h) (fun n i s hi ht hf => br_f (nI_ge (b := 16) hi (by omega)) ⟨vp_in_nI (by omega) (by omega), ?_⟩)
  rw [nI_clamp (by omega)]
  exact br_c (fun hc => nm_r (nI_1 _) (hf (by simp [hc]))) (fun hc => nm_r (nI_1 _) (nm_r (nI_1 _) (ht (by simp [hc]))))
theorem jx_isFullDirectory {post : Int32 → Prop} {d : Nat} (hd : d < 16) (ht : 10 ≤ jp_cn (fun h => decide (¬ xn (64 * d + h) = -1)) 64 → post 1) (hf : jp_cn (fun h => decide (¬ xn (64 * d + h) = -1)) 64 < 10 → post 0) : wpX_isFullDirectory post (xr, xs, xd, xw, xk, xl, xp, xn, xb, xm, xh, bk, bl, bp, bn, bb, bm, bh, xf, xt, xq, xu) (nI d) := by
  unfold wpX_isFullDirectory
  refine jx_countEntries hd ?_
  have := jp_cn_le (fun h => decide (¬ xn (64 * d + h) = -1)) 64
  exact pk_lt _ 10 hf ht
theorem jx_isFullLog {post : Int32 → Prop} {r : Nat} (hr : r ≤ 24) (ht : r = 24 → post 1) (hf : r < 24 → post 0) : wpX_isFullLog post (nI r, xs, xd, xw, xk, xl, xp, xn, xb, xm, xh, bk, bl, bp, bn, bb, bm, bh, xf, xt, xq, xu) := by
  unfold wpX_isFullLog
  exact pk_lt r 24 hf (fun h => ht (by omega))
theorem jx_firstFree {post : Int32 → Prop} (h1 : ∀ j, j < 16 → xk j = 0 → (∀ i, i < j → ¬ xk i = 0) → post (nI j)) (h2 : (∀ i, i < 16 → ¬ xk i = 0) → post (-1)) : wpX_firstFree post (xr, xs, xd, xw, xk, xl, xp, xn, xb, xm, xh, bk, bl, bp, bn, bb, bm, bh, xf, xt, xq, xu) := by
  unfold wpX_firstFree
  refine pk_loop (σ := Unit) (fun n i _ => wX_firstFree_2 post xr xs xd xw xk xl xp xn xb xm xh bk bl bp bn bb bm bh xf xt xq xu n (nI i)) (fun i _ => ∀ k, k < i → ¬ xk k = 0) 16 0 () (by omega) (fun k hk => absurd hk (Nat.not_lt_zero k)) (fun n _ hI => br_t (nI_le (a := 16) (by omega) (by omega)) (h2 hI)) (fun n i _ hi hI ih => br_f (nI_ge (b := 16) hi (by omega)) ⟨vp_in_nI (by omega) (by omega), ?_⟩)
  rw [nI_clamp (by omega)]
  refine br_c (fun hc => h1 i hi hc hI) (fun hc => nm_r (nI_1 _) (ih () (fun k hk => ?_)))
  by_cases e : k = i
  · subst e; exact hc
  · exact hI k (by omega)
end
/-! the k-th of a row -/
def jp_kth (g : Nat → Bool) (k : Int32) : Nat → Nat → Nat → Option Nat
  | 0, _, _ => none
  | m + 1, i, c => if g i = true then (if nI c = k then some i else jp_kth g k m (i + 1) (c + 1)) else jp_kth g k m (i + 1) c
def jp_ov (o : Option Nat) (v : Nat → Int32) : Int32 := match o with | none => -1 | some i => v i
theorem jp_kth_some (g : Nat → Bool) (k : Int32) : ∀ m i c j, jp_kth g k m i c = some j → i ≤ j ∧ j < i + m ∧ g j = true := by
  intro m
  induction m with
  | zero => intro i c j h; simp [jp_kth] at h
  | succ m ih =>
    intro i c j h
    unfold jp_kth at h
    by_cases hg : g i = true
    · rw [if_pos hg] at h
      by_cases hc : nI c = k
      · rw [if_pos hc] at h
        cases h
        exact ⟨by omega, by omega, hg⟩
      · rw [if_neg hc] at h
        have := ih _ _ _ h
        exact ⟨by omega, by omega, this.2.2⟩
    · rw [if_neg hg] at h
      have := ih _ _ _ h
      exact ⟨by omega, by omega, this.2.2⟩
theorem jp_kth_neg (g : Nat → Bool) (k : Int32) (hk : k < 0) : ∀ m i c, c + m < 2 ^ 31 → jp_kth g k m i c = none := by
  intro m
  induction m with
  | zero => intro i c _; rfl
  | succ m ih =>
    intro i c h
    unfold jp_kth
    rw [if_neg (fun e : nI c = k => nI_pos (n := c) (by omega) (e ▸ hk)), ih _ _ (by omega), ih _ _ (by omega), ite_self]
theorem jp_kth_congr {f g : Nat → Bool} (k : Int32) : ∀ m i c, (∀ j, i ≤ j → j < i + m → f j = g j) → jp_kth f k m i c = jp_kth g k m i c := by
  intro m
  induction m with
  | zero => intro i c _; rfl
  | succ m ih =>
    intro i c h
    unfold jp_kth
    rw [h i (by omega) (by omega), ih _ _ (fun j h1 h2 => h j (by omega) (by omega)), ih _ _ (fun j h1 h2 => h j (by omega) (by omega))]
end
section
theorem jv_sub1 {i l : Nat} (h : l ≤ i) : nI i - nI (l + 1) + 1 = nI (i - l) := by
  obtain ⟨k, rfl⟩ : ∃ k, i = l + k := ⟨i - l, by omega⟩
  rw [Nat.add_sub_cancel_left, ← nI_add, ← nI_1]
  grind
/-! extents: where one begins, how long it is; the longest row of unmarked blocks -/
def jp_be (B : Nat → Int32) (f p : Nat) : Bool := decide (¬ B (24 * f + p) = -1 ∧ (p = 0 ∨ B (24 * f + p - 1) = -1 ∨ ¬ B (24 * f + p - 1) + 1 = B (24 * f + p)))
def jp_ne (B : Nat → Int32) (f : Nat) : Nat := jp_cn (jp_be B f) 24
def jp_Len (B : Nat → Int32) (f p b L : Nat) : Prop := 1 ≤ L ∧ p + L ≤ 24 ∧ (∀ j, j < L → B (24 * f + p + j) = nI (b + j)) ∧ (p + L < 24 → ¬ B (24 * f + p + L) = nI (b + L))
theorem jp_Len_un {B : Nat → Int32} {f p b L M : Nat} (h1 : jp_Len B f p b L) (h2 : jp_Len B f p b M) : L = M := by
  obtain ⟨a1, a2, a3, a4⟩ := h1
  obtain ⟨b1, b2, b3, b4⟩ := h2
  rcases Nat.lt_trichotomy L M with h | h | h
  · exact absurd (b3 L h) (a4 (by omega))
  · exact h
  · exact absurd (a3 M h) (b4 (by omega))
def jp_Rn (M : Nat → Int32) (e b n : Nat) : Prop := b + n ≤ e ∧ (∀ i, i < n → M (b + i) = 0) ∧ (b + n < e → ¬ M (b + n) = 0)
theorem jp_Rn_un {M : Nat → Int32} {e b n m : Nat} (h1 : jp_Rn M e b n) (h2 : jp_Rn M e b m) : n = m := by
  obtain ⟨a1, a2, a3⟩ := h1
  obtain ⟨b1, b2, b3⟩ := h2
  rcases Nat.lt_trichotomy n m with h | h | h
  · exact absurd (b2 n h) (a3 (by omega))
  · exact h
  · exact absurd (a2 m h) (b3 (by omega))
def jp_LR (M : Nat → Int32) (e L : Nat) (s : Int32) : Prop :=
  (∀ b n, b < e → jp_Rn M e b n → n ≤ L) ∧ ((L = 0 ∧ s = -1) ∨ ∃ b, b < e ∧ s = nI b ∧ jp_Rn M e b L ∧ 0 < L ∧ ∀ c n, c < b → jp_Rn M e c n → n < L)
theorem jp_LR_un {M : Nat → Int32} {e L L' : Nat} {s s' : Int32} (h1 : jp_LR M e L s) (h2 : jp_LR M e L' s') : L = L' ∧ s = s' := by
  obtain ⟨a1, a2⟩ := h1
  obtain ⟨b1, b2⟩ := h2
  rcases a2 with ⟨a0, a3⟩ | ⟨a, ha, a3, a4, a5, a6⟩
  · rcases b2 with ⟨b0, b3⟩ | ⟨b, hb, b3, b4, b5, b6⟩
    · exact ⟨by omega, by rw [a3, b3]⟩
    · have := a1 b L' hb b4; omega
  · rcases b2 with ⟨b0, b3⟩ | ⟨b, hb, b3, b4, b5, b6⟩
    · have := b1 a L ha a4; omega
    · have e1 := a1 b L' hb b4
      have e2 := b1 a L ha a4
      have e3 : L = L' := by omega
      refine ⟨e3, ?_⟩
      rcases Nat.lt_trichotomy a b with h | h | h
      · have := b6 a L h a4; omega
      · rw [a3, b3, h]
      · have := a6 b L' h b4; omega
/-- what the component's scan knows ahead of block m -/
def jp_SC (M : Nat → Int32) (m L : Nat) (s : Int32) (l : Nat) : Prop := jp_LR M m L s ∧ l ≤ m ∧ (∀ i, m - l ≤ i → i < m → M i = 0) ∧ (l < m → ¬ M (m - l - 1) = 0)
theorem jp_Rn_back {M : Nat → Int32} {m l b n : Nat} (hl : l ≤ m) (hz : l < m → ¬ M (m - l - 1) = 0) (hb : b < m - l) (h : jp_Rn M (m + 1) b n) : jp_Rn M m b n ∧ b + n < m - l := by
  obtain ⟨h1, h2, h3⟩ := h
  have : b + n < m - l := by
    apply Nat.lt_of_not_le
    intro hh
    have z := h2 (m - l - 1 - b) (by omega)
    rw [show b + (m - l - 1 - b) = m - l - 1 from by omega] at z
    exact hz (by omega) z
  exact ⟨⟨by omega, h2, fun _ => h3 (by omega)⟩, this⟩
theorem jp_Rn_tail {M : Nat → Int32} {m l b n : Nat} (hz : ∀ i, m - l ≤ i → i < m → M i = 0) (h0 : M m = 0) (hb : m - l ≤ b) (hb2 : b ≤ m) (h : jp_Rn M (m + 1) b n) : n = m + 1 - b := by
  obtain ⟨h1, h2, h3⟩ := h
  apply Nat.le_antisymm (by omega)
  apply Nat.le_of_not_lt
  intro hh
  refine h3 (by omega) ?_
  by_cases e : b + n = m
  · rw [e]; exact h0
  · exact hz _ (by omega) (by omega)
theorem jp_SC_up {M : Nat → Int32} {m L : Nat} {s : Int32} {l : Nat} (h : jp_SC M m L s l) (h0 : M m = 0) (hl : L < l + 1) : jp_SC M (m + 1) (l + 1) (nI (m - l)) (l + 1) := by
  obtain ⟨⟨a1, a2⟩, b1, b2, b3⟩ := h
  refine ⟨⟨?_, Or.inr ⟨m - l, by omega, rfl, ⟨by omega, ?_, by omega⟩, by omega, ?_⟩⟩, by omega, ?_, ?_⟩
  · intro b n hb hn
    by_cases hc : b < m - l
    · have := jp_Rn_back b1 b3 hc hn
      have := a1 b n (by omega) this.1
      omega
    · have := jp_Rn_tail b2 h0 (by omega) (by omega) hn
      omega
  · intro i hi
    by_cases e : m - l + i = m
    · rw [e]; exact h0
    · exact b2 _ (by omega) (by omega)
  · intro c n hc hn
    have := a1 c n (by omega) (jp_Rn_back b1 b3 hc hn).1
    omega
  · intro i hi1 hi2
    by_cases e : i = m
    · rw [e]; exact h0
    · exact b2 _ (by omega) (by omega)
  · intro hh
    rw [show m + 1 - (l + 1) - 1 = m - l - 1 from by omega]
    exact b3 (by omega)
theorem jp_SC_on {M : Nat → Int32} {m L : Nat} {s : Int32} {l : Nat} (h : jp_SC M m L s l) (h0 : M m = 0) (hl : l + 1 ≤ L) : jp_SC M (m + 1) L s (l + 1) := by
  obtain ⟨⟨a1, a2⟩, b1, b2, b3⟩ := h
  refine ⟨⟨?_, ?_⟩, by omega, ?_, ?_⟩
  · intro b n hb hn
    by_cases hc : b < m - l
    · exact a1 b n (by omega) (jp_Rn_back b1 b3 hc hn).1
    · have := jp_Rn_tail b2 h0 (by omega) (by omega) hn
      omega
  · rcases a2 with ⟨a3, _⟩ | ⟨b, hb, a3, a4, a5, a6⟩
    · omega
    · have hbL : b + L < m := by
        apply Nat.lt_of_le_of_ne a4.1
        intro e
        have : l < m := by omega
        have z := a4.2.1 (m - l - 1 - b) (by omega)
        rw [show b + (m - l - 1 - b) = m - l - 1 from by omega] at z
        exact b3 (by omega) z
      refine Or.inr ⟨b, by omega, a3, ⟨by omega, a4.2.1, fun _ => a4.2.2 hbL⟩, a5, ?_⟩
      intro c n hc hn
      by_cases hcm : c < m - l
      · exact a6 c n hc (jp_Rn_back b1 b3 hcm hn).1
      · have := jp_Rn_tail b2 h0 (by omega) (by omega) hn
        omega
  · intro i hi1 hi2
    by_cases e : i = m
    · rw [e]; exact h0
    · exact b2 _ (by omega) (by omega)
  · intro hh
    rw [show m + 1 - (l + 1) - 1 = m - l - 1 from by omega]
    exact b3 (by omega)
theorem jp_SC_no {M : Nat → Int32} {m L : Nat} {s : Int32} {l : Nat} (h : jp_SC M m L s l) (h0 : ¬ M m = 0) : jp_SC M (m + 1) L s 0 := by
  obtain ⟨⟨a1, a2⟩, b1, b2, b3⟩ := h
  have back : ∀ b n, b < m → jp_Rn M (m + 1) b n → jp_Rn M m b n := by
    intro b n hb hn
    obtain ⟨h1, h2, h3⟩ := hn
    have : b + n ≤ m := by
      apply Nat.le_of_not_lt
      intro hh
      have := h2 (m - b) (by omega)
      rw [show b + (m - b) = m from by omega] at this
      exact h0 this
    exact ⟨this, h2, fun _ => h3 (by omega)⟩
  refine ⟨⟨?_, ?_⟩, by omega, fun i h1 h2 => by omega, ?_⟩
  · intro b n hb hn
    by_cases hc : b < m
    · exact a1 b n hc (back b n hc hn)
    · have e : b = m := by omega
      subst e
      apply Nat.le_trans _ (Nat.zero_le L)
      apply Nat.le_of_not_lt
      intro hh
      exact h0 (hn.2.1 0 hh)
  · rcases a2 with h | ⟨b, hb, a3, a4, a5, a6⟩
    · exact Or.inl h
    · refine Or.inr ⟨b, by omega, a3, ⟨by have := a4.1; omega, a4.2.1, fun _ => ?_⟩, a5, fun c n hc hn => a6 c n hc (back c n (by omega) hn)⟩
      by_cases e : b + L = m
      · rw [e]; exact h0
      · exact a4.2.2 (by have := a4.1; omega)
  · intro _
    rw [show m + 1 - 0 - 1 = m from by omega]
    exact h0
section
variable {xr xs xd xw : Int32} {xk xl xp xn xb xm xh bk bl bp bn bb bm bh xf xt xq xu : Nat → Int32}
theorem jx_startsExtent {post : Int32 → Prop} {f p : Nat} (hf : f < 16) (hp : p < 24) (h1 : jp_be xb f p = true → post 1) (h0 : jp_be xb f p = false → post 0) : wpX_startsExtent post (xr, xs, xd, xw, xk, xl, xp, xn, xb, xm, xh, bk, bl, bp, bn, bb, bm, bh, xf, xt, xq, xu) (nI f) (nI p) := by
  unfold wpX_startsExtent
  refine nm_r (jv_f24 f p) ⟨vp_in_nI (by omega) (by omega), ?_⟩
  rw [nI_clamp (by omega)]
  refine br_c (fun hc => h0 (by simp [jp_be, hc])) (fun hc => pk_eq p 0 (fun e => h1 (by simp [jp_be, hc, e] <;> simpa [e] using hc)) (fun e => ?_))
  rw [show nI (24 * f + p) - 1 = nI (24 * f + p - 1) from by rw [show 24 * f + p = (24 * f + p - 1) + 1 from by omega, nI_pred]; rfl]
  refine ⟨vp_in_nI (by omega) (by omega), ?_⟩
  rw [nI_clamp (n := 24 * f + p - 1) (by omega)]
  refine br_c (fun hd => h1 (by simp [jp_be, hc, hd])) (fun hd => ⟨vp_in_nI (by omega) (by omega), vp_in_nI (by omega) (by omega), ?_⟩)
  exact br_c (fun he => h0 (by simp [jp_be, hc, hd, he, e])) (fun he => h1 (by simp [jp_be, hc, he]))
theorem jx_countExtents {post : Int32 → Prop} {f : Nat} (hf : f < 16) (h : post (nI (jp_ne xb f))) : wpX_countExtents post (xr, xs, xd, xw, xk, xl, xp, xn, xb, xm, xh, bk, bl, bp, bn, bb, bm, bh, xf, xt, xq, xu) (nI f) := by
  unfold wpX_countExtents
  refine jv_cnt (fun n s i => wX_countExtents_4 post (nI f) xr xs xd xw xk xl xp xn xb xm xh bk bl bp bn bb bm bh xf xt xq xu n (nI s) (nI i)) (jp_be xb f) 24 (fun n => br_t (nI_le (a := 24) (by omega) (by omega)) h) (fun n i s hi h1 h0 => br_f (nI_ge (b := 24) hi (by omega)) ?_)
  exact jx_startsExtent hf hi (fun hb => br_f (by decide) (nm_r (nI_1 _) (nm_r (nI_1 _) (h1 hb)))) (fun hb => br_t rfl (nm_r (nI_1 _) (h0 hb)))
theorem jx_startOfExtent {post : Int32 → Prop} {f : Nat} {k : Int32} (hf : f < 16) (h : post (jp_ov (jp_kth (jp_be xb f) k 24 0 0) nI)) : wpX_startOfExtent post (xr, xs, xd, xw, xk, xl, xp, xn, xb, xm, xh, bk, bl, bp, bn, bb, bm, bh, xf, xt, xq, xu) (nI f) k := by
  unfold wpX_startOfExtent
  have key : ∀ m i c, i + m = 24 → post (jp_ov (jp_kth (jp_be xb f) k m i c) nI) → wX_startOfExtent_5 post (nI f) k xr xs xd xw xk xl xp xn xb xm xh bk bl bp bn bb bm bh xf xt xq xu (m + 1) (nI c) (nI i) := by
    intro m
    induction m with
    | zero => intro i c hi h; exact br_t (nI_le (a := 24) (by omega) (by omega)) h
    | succ m ih =>
      intro i c hi h
      refine br_f (nI_ge (b := 24) (by omega) (by omega)) (jx_startsExtent hf (by omega) (fun hb => br_f (by decide) (br_c (fun hc => ?_) (fun hc => nm_r (nI_1 _) (nm_r (nI_1 _) (ih _ _ (by omega) ?_))))) (fun hb => br_t rfl (nm_r (nI_1 _) (ih _ _ (by omega) ?_))))
      · unfold jp_kth at h; rw [if_pos hb, if_pos hc] at h; exact h
      · unfold jp_kth at h; rw [if_pos hb, if_neg hc] at h; exact h
      · unfold jp_kth at h; rw [if_neg (by simp [hb])] at h; exact h
  exact ⟨25, key 24 0 0 rfl h⟩
theorem jx_spotOfEntry {post : Int32 → Prop} {d : Nat} {k : Int32} (hd : d < 16) (h : post (jp_ov (jp_kth (fun h => decide (¬ xn (64 * d + h) = -1)) k 64 0 0) (fun h => nI (64 * d + h)))) : wpX_spotOfEntry post (xr, xs, xd, xw, xk, xl, xp, xn, xb, xm, xh, bk, bl, bp, bn, bb, bm, bh, xf, xt, xq, xu) (nI d) k := by
  unfold wpX_spotOfEntry
  have key : ∀ m i c, i + m = 64 → post (jp_ov (jp_kth (fun h => decide (¬ xn (64 * d + h) = -1)) k m i c) (fun h => nI (64 * d + h))) → wX_spotOfEntry_8 post (nI d) k xr xs xd xw xk xl xp xn xb xm xh bk bl bp bn bb bm bh xf xt xq xu (m + 1) (nI c) (nI (64 * d + i)) := by
    intro m
    induction m with
    | zero => intro i c hi h; exact br_t (by rw [jv_b64]; exact nI_le (by omega) (by omega)) h
    | succ m ih =>
      intro i c hi h
      refine br_f (by rw [jv_b64]; exact nI_ge (by omega) (by omega)) ⟨vp_in_nI (by omega) (by omega), ?_⟩
      rw [nI_clamp (by omega)]
      unfold jp_kth at h
      refine br_c (fun hc => nm_r (nI_1 _) (ih (i + 1) _ (by omega) ?_)) (fun hc => br_c (fun hk => ?_) (fun hk => nm_r (nI_1 _) (nm_r (nI_1 _) (ih (i + 1) _ (by omega) ?_))))
      · rw [if_neg (by simp [hc])] at h; exact h
      · rw [if_pos (by simp [hc]), if_pos hk] at h; exact h
      · rw [if_pos (by simp [hc]), if_neg hk] at h; exact h
  exact nm_r (jv_a64 d) ⟨65, key 64 0 0 rfl h⟩
theorem jx_lengthOfExtent {post : Int32 → Prop} {f p b : Nat} (hf : f < 16) (hp : p < 24) (hb : b < 64) (hm : xb (24 * f + p) = nI b) (h : ∀ L, jp_Len xb f p b L → post (nI L)) : wpX_lengthOfExtent post (xr, xs, xd, xw, xk, xl, xp, xn, xb, xm, xh, bk, bl, bp, bn, bb, bm, bh, xf, xt, xq, xu) (nI f) (nI p) := by
  unfold wpX_lengthOfExtent
  refine nm_r (nI_1 p) ?_
  have key : ∀ m L, 1 ≤ L → p + L + m = 24 → (∀ j, j < L → xb (24 * f + p + j) = nI (b + j)) → wX_lengthOfExtent_7 post (nI f) xr xs xd xw xk xl xp xn xb xm xh bk bl bp bn bb bm bh xf xt xq xu (m + 1) (nI L) (nI (p + L)) := by
    intro m
    induction m with
    | zero => intro L h1 h2 h3; exact br_t (nI_le (a := 24) (by omega) (by omega)) (h L ⟨h1, by omega, h3, fun hh => by omega⟩)
    | succ m ih =>
      intro L h1 h2 h3
      have e1 := h3 (L - 1) (by omega)
      rw [show 24 * f + p + (L - 1) = 24 * f + (p + L) - 1 from by omega] at e1
      refine br_f (nI_ge (b := 24) (by omega) (by omega)) ?_
      rw [jv_f24]
      refine ⟨vp_in_nI (by omega) (by omega), ?_⟩
      rw [nI_clamp (by omega)]
      have eb : ∀ n : Nat, n = L → nI (b + (L - 1)) + 1 = nI (b + n) := fun n e => by rw [nI_1]; exact congrArg nI (by omega)
      refine br_c (fun hc => h L ⟨h1, by omega, h3, fun _ => ?_⟩) (fun hc => jx_startsExtent hf (by omega) (fun hs => br_f (by decide) (h L ⟨h1, by omega, h3, fun _ => ?_⟩)) (fun hs => br_t rfl (nm_r (nI_1 _) (nm_r (nI_1 _) (ih (L + 1) (by omega) (by omega) ?_)))))
      · rw [Nat.add_assoc, hc]; exact fun z => jv_m1n _ (by omega) z.symm
      · intro z
        rw [Nat.add_assoc] at z
        simp only [jp_be, decide_eq_true_eq] at hs
        rcases hs.2 with q | q | q
        · omega
        · rw [e1] at q; exact jv_m1n _ (by omega) q
        · rw [e1, z] at q; exact q (eb L rfl)
      · intro j hj
        by_cases e : j < L
        · exact h3 j e
        · have e : j = L := by omega
          subst e
          simp only [jp_be, decide_eq_false_iff_not] at hs
          rw [Nat.add_assoc]
          apply Classical.byContradiction
          intro q
          apply hs
          refine ⟨hc, Or.inr (Or.inr ?_)⟩
          rw [e1, eb j rfl]
          exact fun z => q z.symm
  exact ⟨23 - p + 1, key (23 - p) 1 (by omega) (by omega) (fun j hj => by rw [show j = 0 from by omega]; exact hm)⟩
theorem jx_startOfLongestRow {post : Int32 → Prop} (h : ∀ L s, jp_LR xm 64 L s → post s) : wpX_startOfLongestRow post (xr, xs, xd, xw, xk, xl, xp, xn, xb, xm, xh, bk, bl, bp, bn, bb, bm, bh, xf, xt, xq, xu) := by
  unfold wpX_startOfLongestRow
  refine pk_loop (σ := Int32 × Nat × Nat) (fun n i s => wX_startOfLongestRow_9 post xr xs xd xw xk xl xp xn xb xm xh bk bl bp bn bb bm bh xf xt xq xu n s.1 (nI s.2.1) (nI s.2.2) (nI i)) (fun i s => jp_SC xm i s.2.1 s.1 s.2.2 ∧ s.2.1 ≤ 64) 64 0 (-1, 0, 0) (by omega) ⟨⟨⟨fun b n hb => absurd hb (Nat.not_lt_zero b), Or.inl ⟨rfl, rfl⟩⟩, Nat.le_refl 0, fun i _ hi => absurd hi (Nat.not_lt_zero i), fun hh => absurd hh (Nat.lt_irrefl 0)⟩, by decide⟩ (fun n s hI => br_t (nI_le (a := 64) (by omega) (by omega)) (h _ _ hI.1.1)) (fun n i s hi hI ih => br_f (nI_ge (b := 64) hi (by omega)) ⟨vp_in_nI (by omega) (by omega), ?_⟩)
  obtain ⟨s, L, l⟩ := s
  obtain ⟨hI, hL⟩ := hI
  dsimp only at hI hL ⊢
  rw [nI_clamp (by omega)]
  have hl := hI.2.1
  refine br_c (fun hc => ?_) (fun hc => ?_)
  · rw [nI_1]
    refine pk_le (l + 1) L (fun hle => nm_r (nI_1 _) (ih (s, L, l + 1) ⟨jp_SC_on hI hc hle, hL⟩)) (fun hlt => nm_r (e' := nI (i - l)) ?_ (nm_r (nI_1 _) (ih (nI (i - l), l + 1, l + 1) ⟨jp_SC_up hI hc hlt, by dsimp only; omega⟩)))
    exact jv_sub1 hl
  · exact br_t (nI_le (a := 0) (by omega) (by omega)) (nm_r (nI_1 _) (ih (s, L, 0) ⟨jp_SC_no hI hc, hL⟩))
theorem jx_lengthOfLongestRow {post : Int32 → Prop} (h : ∀ L s, jp_LR xm 64 L s → post (nI L)) : wpX_lengthOfLongestRow post (xr, xs, xd, xw, xk, xl, xp, xn, xb, xm, xh, bk, bl, bp, bn, bb, bm, bh, xf, xt, xq, xu) := by
  unfold wpX_lengthOfLongestRow
  refine jx_startOfLongestRow (fun L s hL => ?_)
  rcases hL.2 with ⟨h0, h1⟩ | ⟨b, hb, e, hr, hp, hm⟩
  · refine br_t h1 ?_
    have := h L s hL
    rw [h0] at this
    exact this
  · refine br_f (by rw [e]; exact jv_m1n _ (by omega)) ?_
    rw [e]
    have key : ∀ m n, n + m = L → wX_lengthOfLongestRow_16 post xr xs xd xw xk xl xp xn xb xm xh bk bl bp bn bb bm bh xf xt xq xu (m + 1) (nI n) (nI (b + n)) := by
      intro m
      induction m with
      | zero =>
        intro n hn
        have : n = L := by omega
        subst this
        by_cases e2 : b + n < 64
        · refine br_f (nI_ge (b := 64) e2 (by omega)) ⟨vp_in_nI (by omega) (by omega), ?_⟩
          rw [nI_clamp (by omega)]
          exact br_f (hr.2.2 e2) (h _ _ hL)
        · exact br_t (nI_le (a := 64) (by omega) (by have := hr.1; omega)) (h _ _ hL)
      | succ m ih =>
        intro n hn
        have := hr.1
        refine br_f (nI_ge (b := 64) (by omega) (by omega)) ⟨vp_in_nI (by omega) (by omega), ?_⟩
        rw [nI_clamp (by omega)]
        exact br_t (hr.2.1 n (by omega)) (nm_r (nI_1 _) (nm_r (nI_1 _) (ih (n + 1) (by omega))))
    exact ⟨L + 1, key L 0 (by omega)⟩
end
end
section
section
variable {xr xs xd xw : Int32} {xk xl xp xn xb xm xh bk bl bp bn bb bm bh xf xt xq xu : Nat → Int32}
theorem jx_cpo_kind {post : SX → Prop} {r : Nat} (hr : r < 24) (h : post (xr, xs, xd, xw, xk, xl, xp, xn, xb, xm, xh, jp_cp bk (16 * r) 16 xk 0, bl, bp, bn, bb, bm, bh, xf, xt, xq, xu)) : wpX_copy__kind_kindBefore post (xr, xs, xd, xw, xk, xl, xp, xn, xb, xm, xh, bk, bl, bp, bn, bb, bm, bh, xf, xt, xq, xu) 0 (nI r * 16) 16 := by
  unfold wpX_copy__kind_kindBefore
  rw [show nI r * 16 = nI (16 * r) from by rw [show (16 : Int32) = nI 16 from rfl, pk_mul, Nat.mul_comm]]
  refine pk_loop (σ := Nat → Int32) (fun n i s => wX_copy__kind_kindBefore_3 post 0 (nI (16 * r)) 16 xr xs xd xw n (nI i) xk xl xp xn xb xm xh s bl bp bn bb bm bh xf xt xq xu) (fun i s => s = jp_cp bk (16 * r) i xk 0) 16 0 bk (by omega) (jp_cp_0 _ _ _ _).symm (fun n s hI => br_t (nI_le (a := 16) (by omega) (by omega)) (by rw [hI]; exact h)) (fun n i s hi hI ih => br_f (nI_ge (b := 16) hi (by omega)) ?_)
  rw [Int32.zero_add, nI_add]
  refine ⟨vp_in_nI (by omega) (by omega), vp_in_nI (by omega) (by omega), ?_⟩
  rw [nI_clamp (by omega), nI_clamp (by omega)]
  exact nm_e (nm_r (nI_1 _) (ih _ (by rw [hI, ← jp_cp_s, Nat.zero_add])))
theorem jx_cpb_kind {post : SX → Prop} {r : Nat} (hr : r < 24) (h : post (xr, xs, xd, xw, jp_cp xk 0 16 bk (16 * r), xl, xp, xn, xb, xm, xh, bk, bl, bp, bn, bb, bm, bh, xf, xt, xq, xu)) : wpX_copy__kindBefore_kind post (xr, xs, xd, xw, xk, xl, xp, xn, xb, xm, xh, bk, bl, bp, bn, bb, bm, bh, xf, xt, xq, xu) (nI r * 16) 0 16 := by
  unfold wpX_copy__kindBefore_kind
  rw [show nI r * 16 = nI (16 * r) from by rw [show (16 : Int32) = nI 16 from rfl, pk_mul, Nat.mul_comm]]
  refine pk_loop (σ := Nat → Int32) (fun n i s => wX_copy__kindBefore_kind_3 post (nI (16 * r)) 0 16 xr xs xd xw n (nI i) s xl xp xn xb xm xh bk bl bp bn bb bm bh xf xt xq xu) (fun i s => s = jp_cp xk 0 i bk (16 * r)) 16 0 xk (by omega) (jp_cp_0 _ _ _ _).symm (fun n s hI => br_t (nI_le (a := 16) (by omega) (by omega)) (by rw [hI]; exact h)) (fun n i s hi hI ih => br_f (nI_ge (b := 16) hi (by omega)) ?_)
  rw [Int32.zero_add, nI_add]
  refine ⟨vp_in_nI (by omega) (by omega), vp_in_nI (by omega) (by omega), ?_⟩
  rw [nI_clamp (by omega), nI_clamp (by omega)]
  exact nm_e (nm_r (nI_1 _) (ih _ (by rw [hI, ← jp_cp_s, Nat.zero_add])))
theorem jx_cpo_links {post : SX → Prop} {r : Nat} (hr : r < 24) (h : post (xr, xs, xd, xw, xk, xl, xp, xn, xb, xm, xh, bk, jp_cp bl (16 * r) 16 xl 0, bp, bn, bb, bm, bh, xf, xt, xq, xu)) : wpX_copy__links_linksBefore post (xr, xs, xd, xw, xk, xl, xp, xn, xb, xm, xh, bk, bl, bp, bn, bb, bm, bh, xf, xt, xq, xu) 0 (nI r * 16) 16 := by
  unfold wpX_copy__links_linksBefore
  rw [show nI r * 16 = nI (16 * r) from by rw [show (16 : Int32) = nI 16 from rfl, pk_mul, Nat.mul_comm]]
  refine pk_loop (σ := Nat → Int32) (fun n i s => wX_copy__links_linksBefore_3 post 0 (nI (16 * r)) 16 xr xs xd xw n (nI i) xk xl xp xn xb xm xh bk s bp bn bb bm bh xf xt xq xu) (fun i s => s = jp_cp bl (16 * r) i xl 0) 16 0 bl (by omega) (jp_cp_0 _ _ _ _).symm (fun n s hI => br_t (nI_le (a := 16) (by omega) (by omega)) (by rw [hI]; exact h)) (fun n i s hi hI ih => br_f (nI_ge (b := 16) hi (by omega)) ?_)
  rw [Int32.zero_add, nI_add]
  refine ⟨vp_in_nI (by omega) (by omega), vp_in_nI (by omega) (by omega), ?_⟩
  rw [nI_clamp (by omega), nI_clamp (by omega)]
  exact nm_e (nm_r (nI_1 _) (ih _ (by rw [hI, ← jp_cp_s, Nat.zero_add])))
theorem jx_cpb_links {post : SX → Prop} {r : Nat} (hr : r < 24) (h : post (xr, xs, xd, xw, xk, jp_cp xl 0 16 bl (16 * r), xp, xn, xb, xm, xh, bk, bl, bp, bn, bb, bm, bh, xf, xt, xq, xu)) : wpX_copy__linksBefore_links post (xr, xs, xd, xw, xk, xl, xp, xn, xb, xm, xh, bk, bl, bp, bn, bb, bm, bh, xf, xt, xq, xu) (nI r * 16) 0 16 := by
  unfold wpX_copy__linksBefore_links
  rw [show nI r * 16 = nI (16 * r) from by rw [show (16 : Int32) = nI 16 from rfl, pk_mul, Nat.mul_comm]]
  refine pk_loop (σ := Nat → Int32) (fun n i s => wX_copy__linksBefore_links_3 post (nI (16 * r)) 0 16 xr xs xd xw n (nI i) xk s xp xn xb xm xh bk bl bp bn bb bm bh xf xt xq xu) (fun i s => s = jp_cp xl 0 i bl (16 * r)) 16 0 xl (by omega) (jp_cp_0 _ _ _ _).symm (fun n s hI => br_t (nI_le (a := 16) (by omega) (by omega)) (by rw [hI]; exact h)) (fun n i s hi hI ih => br_f (nI_ge (b := 16) hi (by omega)) ?_)
  rw [Int32.zero_add, nI_add]
  refine ⟨vp_in_nI (by omega) (by omega), vp_in_nI (by omega) (by omega), ?_⟩
  rw [nI_clamp (by omega), nI_clamp (by omega)]
  exact nm_e (nm_r (nI_1 _) (ih _ (by rw [hI, ← jp_cp_s, Nat.zero_add])))
theorem jx_cpo_parent {post : SX → Prop} {r : Nat} (hr : r < 24) (h : post (xr, xs, xd, xw, xk, xl, xp, xn, xb, xm, xh, bk, bl, jp_cp bp (16 * r) 16 xp 0, bn, bb, bm, bh, xf, xt, xq, xu)) : wpX_copy__parent_parentBefore post (xr, xs, xd, xw, xk, xl, xp, xn, xb, xm, xh, bk, bl, bp, bn, bb, bm, bh, xf, xt, xq, xu) 0 (nI r * 16) 16 := by
  unfold wpX_copy__parent_parentBefore
  rw [show nI r * 16 = nI (16 * r) from by rw [show (16 : Int32) = nI 16 from rfl, pk_mul, Nat.mul_comm]]
  refine pk_loop (σ := Nat → Int32) (fun n i s => wX_copy__parent_parentBefore_3 post 0 (nI (16 * r)) 16 xr xs xd xw n (nI i) xk xl xp xn xb xm xh bk bl s bn bb bm bh xf xt xq xu) (fun i s => s = jp_cp bp (16 * r) i xp 0) 16 0 bp (by omega) (jp_cp_0 _ _ _ _).symm (fun n s hI => br_t (nI_le (a := 16) (by omega) (by omega)) (by rw [hI]; exact h)) (fun n i s hi hI ih => br_f (nI_ge (b := 16) hi (by omega)) ?_)
  rw [Int32.zero_add, nI_add]
  refine ⟨vp_in_nI (by omega) (by omega), vp_in_nI (by omega) (by omega), ?_⟩
  rw [nI_clamp (by omega), nI_clamp (by omega)]
  exact nm_e (nm_r (nI_1 _) (ih _ (by rw [hI, ← jp_cp_s, Nat.zero_add])))
theorem jx_cpb_parent {post : SX → Prop} {r : Nat} (hr : r < 24) (h : post (xr, xs, xd, xw, xk, xl, jp_cp xp 0 16 bp (16 * r), xn, xb, xm, xh, bk, bl, bp, bn, bb, bm, bh, xf, xt, xq, xu)) : wpX_copy__parentBefore_parent post (xr, xs, xd, xw, xk, xl, xp, xn, xb, xm, xh, bk, bl, bp, bn, bb, bm, bh, xf, xt, xq, xu) (nI r * 16) 0 16 := by
  unfold wpX_copy__parentBefore_parent
  rw [show nI r * 16 = nI (16 * r) from by rw [show (16 : Int32) = nI 16 from rfl, pk_mul, Nat.mul_comm]]
  refine pk_loop (σ := Nat → Int32) (fun n i s => wX_copy__parentBefore_parent_3 post (nI (16 * r)) 0 16 xr xs xd xw n (nI i) xk xl s xn xb xm xh bk bl bp bn bb bm bh xf xt xq xu) (fun i s => s = jp_cp xp 0 i bp (16 * r)) 16 0 xp (by omega) (jp_cp_0 _ _ _ _).symm (fun n s hI => br_t (nI_le (a := 16) (by omega) (by omega)) (by rw [hI]; exact h)) (fun n i s hi hI ih => br_f (nI_ge (b := 16) hi (by omega)) ?_)
  rw [Int32.zero_add, nI_add]
  refine ⟨vp_in_nI (by omega) (by omega), vp_in_nI (by omega) (by omega), ?_⟩
  rw [nI_clamp (by omega), nI_clamp (by omega)]
  exact nm_e (nm_r (nI_1 _) (ih _ (by rw [hI, ← jp_cp_s, Nat.zero_add])))
theorem jx_cpo_named {post : SX → Prop} {r : Nat} (hr : r < 24) (h : post (xr, xs, xd, xw, xk, xl, xp, xn, xb, xm, xh, bk, bl, bp, jp_cp bn (1024 * r) 1024 xn 0, bb, bm, bh, xf, xt, xq, xu)) : wpX_copy__named_namedBefore post (xr, xs, xd, xw, xk, xl, xp, xn, xb, xm, xh, bk, bl, bp, bn, bb, bm, bh, xf, xt, xq, xu) 0 (nI r * 1024) 1024 := by
  unfold wpX_copy__named_namedBefore
  rw [show nI r * 1024 = nI (1024 * r) from by rw [show (1024 : Int32) = nI 1024 from rfl, pk_mul, Nat.mul_comm]]
  refine pk_loop (σ := Nat → Int32) (fun n i s => wX_copy__named_namedBefore_3 post 0 (nI (1024 * r)) 1024 xr xs xd xw n (nI i) xk xl xp xn xb xm xh bk bl bp s bb bm bh xf xt xq xu) (fun i s => s = jp_cp bn (1024 * r) i xn 0) 1024 0 bn (by omega) (jp_cp_0 _ _ _ _).symm (fun n s hI => br_t (nI_le (a := 1024) (by omega) (by omega)) (by rw [hI]; exact h)) (fun n i s hi hI ih => br_f (nI_ge (b := 1024) hi (by omega)) ?_)
  rw [Int32.zero_add, nI_add]
  refine ⟨vp_in_nI (by omega) (by omega), vp_in_nI (by omega) (by omega), ?_⟩
  rw [nI_clamp (by omega), nI_clamp (by omega)]
  exact nm_e (nm_r (nI_1 _) (ih _ (by rw [hI, ← jp_cp_s, Nat.zero_add])))
theorem jx_cpb_named {post : SX → Prop} {r : Nat} (hr : r < 24) (h : post (xr, xs, xd, xw, xk, xl, xp, jp_cp xn 0 1024 bn (1024 * r), xb, xm, xh, bk, bl, bp, bn, bb, bm, bh, xf, xt, xq, xu)) : wpX_copy__namedBefore_named post (xr, xs, xd, xw, xk, xl, xp, xn, xb, xm, xh, bk, bl, bp, bn, bb, bm, bh, xf, xt, xq, xu) (nI r * 1024) 0 1024 := by
  unfold wpX_copy__namedBefore_named
  rw [show nI r * 1024 = nI (1024 * r) from by rw [show (1024 : Int32) = nI 1024 from rfl, pk_mul, Nat.mul_comm]]
  refine pk_loop (σ := Nat → Int32) (fun n i s => wX_copy__namedBefore_named_3 post (nI (1024 * r)) 0 1024 xr xs xd xw n (nI i) xk xl xp s xb xm xh bk bl bp bn bb bm bh xf xt xq xu) (fun i s => s = jp_cp xn 0 i bn (1024 * r)) 1024 0 xn (by omega) (jp_cp_0 _ _ _ _).symm (fun n s hI => br_t (nI_le (a := 1024) (by omega) (by omega)) (by rw [hI]; exact h)) (fun n i s hi hI ih => br_f (nI_ge (b := 1024) hi (by omega)) ?_)
  rw [Int32.zero_add, nI_add]
  refine ⟨vp_in_nI (by omega) (by omega), vp_in_nI (by omega) (by omega), ?_⟩
  rw [nI_clamp (by omega), nI_clamp (by omega)]
  exact nm_e (nm_r (nI_1 _) (ih _ (by rw [hI, ← jp_cp_s, Nat.zero_add])))
theorem jx_cpo_mapped {post : SX → Prop} {r : Nat} (hr : r < 24) (h : post (xr, xs, xd, xw, xk, xl, xp, xn, xb, xm, xh, bk, bl, bp, bn, jp_cp bb (384 * r) 384 xb 0, bm, bh, xf, xt, xq, xu)) : wpX_copy__mapped_mappedBefore post (xr, xs, xd, xw, xk, xl, xp, xn, xb, xm, xh, bk, bl, bp, bn, bb, bm, bh, xf, xt, xq, xu) 0 (nI r * 384) 384 := by
  unfold wpX_copy__mapped_mappedBefore
  rw [show nI r * 384 = nI (384 * r) from by rw [show (384 : Int32) = nI 384 from rfl, pk_mul, Nat.mul_comm]]
  refine pk_loop (σ := Nat → Int32) (fun n i s => wX_copy__mapped_mappedBefore_3 post 0 (nI (384 * r)) 384 xr xs xd xw n (nI i) xk xl xp xn xb xm xh bk bl bp bn s bm bh xf xt xq xu) (fun i s => s = jp_cp bb (384 * r) i xb 0) 384 0 bb (by omega) (jp_cp_0 _ _ _ _).symm (fun n s hI => br_t (nI_le (a := 384) (by omega) (by omega)) (by rw [hI]; exact h)) (fun n i s hi hI ih => br_f (nI_ge (b := 384) hi (by omega)) ?_)
  rw [Int32.zero_add, nI_add]
  refine ⟨vp_in_nI (by omega) (by omega), vp_in_nI (by omega) (by omega), ?_⟩
  rw [nI_clamp (by omega), nI_clamp (by omega)]
  exact nm_e (nm_r (nI_1 _) (ih _ (by rw [hI, ← jp_cp_s, Nat.zero_add])))
theorem jx_cpb_mapped {post : SX → Prop} {r : Nat} (hr : r < 24) (h : post (xr, xs, xd, xw, xk, xl, xp, xn, jp_cp xb 0 384 bb (384 * r), xm, xh, bk, bl, bp, bn, bb, bm, bh, xf, xt, xq, xu)) : wpX_copy__mappedBefore_mapped post (xr, xs, xd, xw, xk, xl, xp, xn, xb, xm, xh, bk, bl, bp, bn, bb, bm, bh, xf, xt, xq, xu) (nI r * 384) 0 384 := by
  unfold wpX_copy__mappedBefore_mapped
  rw [show nI r * 384 = nI (384 * r) from by rw [show (384 : Int32) = nI 384 from rfl, pk_mul, Nat.mul_comm]]
  refine pk_loop (σ := Nat → Int32) (fun n i s => wX_copy__mappedBefore_mapped_3 post (nI (384 * r)) 0 384 xr xs xd xw n (nI i) xk xl xp xn s xm xh bk bl bp bn bb bm bh xf xt xq xu) (fun i s => s = jp_cp xb 0 i bb (384 * r)) 384 0 xb (by omega) (jp_cp_0 _ _ _ _).symm (fun n s hI => br_t (nI_le (a := 384) (by omega) (by omega)) (by rw [hI]; exact h)) (fun n i s hi hI ih => br_f (nI_ge (b := 384) hi (by omega)) ?_)
  rw [Int32.zero_add, nI_add]
  refine ⟨vp_in_nI (by omega) (by omega), vp_in_nI (by omega) (by omega), ?_⟩
  rw [nI_clamp (by omega), nI_clamp (by omega)]
  exact nm_e (nm_r (nI_1 _) (ih _ (by rw [hI, ← jp_cp_s, Nat.zero_add])))
theorem jx_cpo_marked {post : SX → Prop} {r : Nat} (hr : r < 24) (h : post (xr, xs, xd, xw, xk, xl, xp, xn, xb, xm, xh, bk, bl, bp, bn, bb, jp_cp bm (64 * r) 64 xm 0, bh, xf, xt, xq, xu)) : wpX_copy__marked_markedBefore post (xr, xs, xd, xw, xk, xl, xp, xn, xb, xm, xh, bk, bl, bp, bn, bb, bm, bh, xf, xt, xq, xu) 0 (nI r * 64) 64 := by
  unfold wpX_copy__marked_markedBefore
  rw [show nI r * 64 = nI (64 * r) from by rw [show (64 : Int32) = nI 64 from rfl, pk_mul, Nat.mul_comm]]
  refine pk_loop (σ := Nat → Int32) (fun n i s => wX_copy__marked_markedBefore_3 post 0 (nI (64 * r)) 64 xr xs xd xw n (nI i) xk xl xp xn xb xm xh bk bl bp bn bb s bh xf xt xq xu) (fun i s => s = jp_cp bm (64 * r) i xm 0) 64 0 bm (by omega) (jp_cp_0 _ _ _ _).symm (fun n s hI => br_t (nI_le (a := 64) (by omega) (by omega)) (by rw [hI]; exact h)) (fun n i s hi hI ih => br_f (nI_ge (b := 64) hi (by omega)) ?_)
  rw [Int32.zero_add, nI_add]
  refine ⟨vp_in_nI (by omega) (by omega), vp_in_nI (by omega) (by omega), ?_⟩
  rw [nI_clamp (by omega), nI_clamp (by omega)]
  exact nm_e (nm_r (nI_1 _) (ih _ (by rw [hI, ← jp_cp_s, Nat.zero_add])))
theorem jx_cpb_marked {post : SX → Prop} {r : Nat} (hr : r < 24) (h : post (xr, xs, xd, xw, xk, xl, xp, xn, xb, jp_cp xm 0 64 bm (64 * r), xh, bk, bl, bp, bn, bb, bm, bh, xf, xt, xq, xu)) : wpX_copy__markedBefore_marked post (xr, xs, xd, xw, xk, xl, xp, xn, xb, xm, xh, bk, bl, bp, bn, bb, bm, bh, xf, xt, xq, xu) (nI r * 64) 0 64 := by
  unfold wpX_copy__markedBefore_marked
  rw [show nI r * 64 = nI (64 * r) from by rw [show (64 : Int32) = nI 64 from rfl, pk_mul, Nat.mul_comm]]
  refine pk_loop (σ := Nat → Int32) (fun n i s => wX_copy__markedBefore_marked_3 post (nI (64 * r)) 0 64 xr xs xd xw n (nI i) xk xl xp xn xb s xh bk bl bp bn bb bm bh xf xt xq xu) (fun i s => s = jp_cp xm 0 i bm (64 * r)) 64 0 xm (by omega) (jp_cp_0 _ _ _ _).symm (fun n s hI => br_t (nI_le (a := 64) (by omega) (by omega)) (by rw [hI]; exact h)) (fun n i s hi hI ih => br_f (nI_ge (b := 64) hi (by omega)) ?_)
  rw [Int32.zero_add, nI_add]
  refine ⟨vp_in_nI (by omega) (by omega), vp_in_nI (by omega) (by omega), ?_⟩
  rw [nI_clamp (by omega), nI_clamp (by omega)]
  exact nm_e (nm_r (nI_1 _) (ih _ (by rw [hI, ← jp_cp_s, Nat.zero_add])))
theorem jx_cpo_held {post : SX → Prop} {r : Nat} (hr : r < 24) (h : post (xr, xs, xd, xw, xk, xl, xp, xn, xb, xm, xh, bk, bl, bp, bn, bb, bm, jp_cp bh (64 * r) 64 xh 0, xf, xt, xq, xu)) : wpX_copy__held_heldBefore post (xr, xs, xd, xw, xk, xl, xp, xn, xb, xm, xh, bk, bl, bp, bn, bb, bm, bh, xf, xt, xq, xu) 0 (nI r * 64) 64 := by
  unfold wpX_copy__held_heldBefore
  rw [show nI r * 64 = nI (64 * r) from by rw [show (64 : Int32) = nI 64 from rfl, pk_mul, Nat.mul_comm]]
  refine pk_loop (σ := Nat → Int32) (fun n i s => wX_copy__held_heldBefore_3 post 0 (nI (64 * r)) 64 xr xs xd xw n (nI i) xk xl xp xn xb xm xh bk bl bp bn bb bm s xf xt xq xu) (fun i s => s = jp_cp bh (64 * r) i xh 0) 64 0 bh (by omega) (jp_cp_0 _ _ _ _).symm (fun n s hI => br_t (nI_le (a := 64) (by omega) (by omega)) (by rw [hI]; exact h)) (fun n i s hi hI ih => br_f (nI_ge (b := 64) hi (by omega)) ?_)
  rw [Int32.zero_add, nI_add]
  refine ⟨vp_in_nI (by omega) (by omega), vp_in_nI (by omega) (by omega), ?_⟩
  rw [nI_clamp (by omega), nI_clamp (by omega)]
  exact nm_e (nm_r (nI_1 _) (ih _ (by rw [hI, ← jp_cp_s, Nat.zero_add])))
theorem jx_cpb_held {post : SX → Prop} {r : Nat} (hr : r < 24) (h : post (xr, xs, xd, xw, xk, xl, xp, xn, xb, xm, jp_cp xh 0 64 bh (64 * r), bk, bl, bp, bn, bb, bm, bh, xf, xt, xq, xu)) : wpX_copy__heldBefore_held post (xr, xs, xd, xw, xk, xl, xp, xn, xb, xm, xh, bk, bl, bp, bn, bb, bm, bh, xf, xt, xq, xu) (nI r * 64) 0 64 := by
  unfold wpX_copy__heldBefore_held
  rw [show nI r * 64 = nI (64 * r) from by rw [show (64 : Int32) = nI 64 from rfl, pk_mul, Nat.mul_comm]]
  refine pk_loop (σ := Nat → Int32) (fun n i s => wX_copy__heldBefore_held_3 post (nI (64 * r)) 0 64 xr xs xd xw n (nI i) xk xl xp xn xb xm s bk bl bp bn bb bm bh xf xt xq xu) (fun i s => s = jp_cp xh 0 i bh (64 * r)) 64 0 xh (by omega) (jp_cp_0 _ _ _ _).symm (fun n s hI => br_t (nI_le (a := 64) (by omega) (by omega)) (by rw [hI]; exact h)) (fun n i s hi hI ih => br_f (nI_ge (b := 64) hi (by omega)) ?_)
  rw [Int32.zero_add, nI_add]
  refine ⟨vp_in_nI (by omega) (by omega), vp_in_nI (by omega) (by omega), ?_⟩
  rw [nI_clamp (by omega), nI_clamp (by omega)]
  exact nm_e (nm_r (nI_1 _) (ih _ (by rw [hI, ← jp_cp_s, Nat.zero_add])))
theorem jx_openRecord {post : SX → Prop} {r : Nat} (hr : r < 24) (h : post (nI (r + 1), xs, xd, xw, xk, xl, xp, xn, xb, xm, xh, jp_cp bk (16 * r) 16 xk 0, jp_cp bl (16 * r) 16 xl 0, jp_cp bp (16 * r) 16 xp 0, jp_cp bn (1024 * r) 1024 xn 0, jp_cp bb (384 * r) 384 xb 0, jp_cp bm (64 * r) 64 xm 0, jp_cp bh (64 * r) 64 xh 0, xf, xt, xq, xu)) : wpX_openRecord post (nI r, xs, xd, xw, xk, xl, xp, xn, xb, xm, xh, bk, bl, bp, bn, bb, bm, bh, xf, xt, xq, xu) := by
  unfold wpX_openRecord
  refine jx_cpo_kind hr ?_
  refine jx_cpo_links hr ?_
  refine jx_cpo_parent hr ?_
  refine jx_cpo_named hr ?_
  refine jx_cpo_mapped hr ?_
  refine jx_cpo_marked hr ?_
  refine jx_cpo_held hr ?_
  exact nm_r (nI_1 r) h
theorem jx_loseRecordsBehind {post : SX → Prop} {r : Nat} (hr : r < 24) (h : post (nI r, xs, xd, xw, jp_cp xk 0 16 bk (16 * r), jp_cp xl 0 16 bl (16 * r), jp_cp xp 0 16 bp (16 * r), jp_cp xn 0 1024 bn (1024 * r), jp_cp xb 0 384 bb (384 * r), jp_cp xm 0 64 bm (64 * r), jp_cp xh 0 64 bh (64 * r), bk, bl, bp, bn, bb, bm, bh, xf, xt, xq, xu)) : wpX_loseRecordsBehind post (xr, xs, xd, xw, xk, xl, xp, xn, xb, xm, xh, bk, bl, bp, bn, bb, bm, bh, xf, xt, xq, xu) (nI r) := by
  unfold wpX_loseRecordsBehind
  refine jx_cpb_kind hr ?_
  refine jx_cpb_links hr ?_
  refine jx_cpb_parent hr ?_
  refine jx_cpb_named hr ?_
  refine jx_cpb_mapped hr ?_
  refine jx_cpb_marked hr ?_
  refine jx_cpb_held hr ?_
  exact h
/-! what becomes FREE, what becomes a hole -/
theorem jx_makeFree {post : SX → Prop} {i : Nat} (hi : i < 16) (h : post (xr, xs, xd, xw, upd xk i 0, upd xl i 0, upd xp i 0, jp_fl xn (64 * i) 64 (-1), jp_fl xb (24 * i) 24 (-1), xm, xh, bk, bl, bp, bn, bb, bm, bh, xf, xt, xq, xu)) : wpX_makeFree post (xr, xs, xd, xw, xk, xl, xp, xn, xb, xm, xh, bk, bl, bp, bn, bb, bm, bh, xf, xt, xq, xu) (nI i) := by
  unfold wpX_makeFree
  refine ⟨vp_in_nI hi (by omega), ?_⟩
  rw [nI_clamp (by omega)]
  refine nm_e ⟨vp_in_nI hi (by omega), nm_e ⟨vp_in_nI hi (by omega), nm_e (nm_r (jv_a64 i) ?_)⟩⟩
  refine pk_loop (σ := Nat → Int32) (fun n j s => wX_makeFree_26 post (nI i) xr xs xd xw n (nI (64 * i + j)) (upd xk i 0) (upd xl i 0) (upd xp i 0) s xb xm xh bk bl bp bn bb bm bh xf xt xq xu) (fun j s => s = jp_fl xn (64 * i) j (-1)) 64 0 xn (by omega) (jp_fl_0 _ _ _).symm (fun n s hI => br_t ?_ (nm_r (jv_a24 i) ?_)) (fun n j s hj hI ih => br_f ?_ ⟨vp_in_nI (by omega) (by omega), ?_⟩)
  · rw [jv_b64]; exact nI_le (by omega) (by omega)
  · subst hI
    refine pk_loop (σ := Nat → Int32) (fun n j s => wX_makeFree_54 post (nI i) xr xs xd xw n (nI (24 * i + j)) (upd xk i 0) (upd xl i 0) (upd xp i 0) (jp_fl xn (64 * i) 64 (-1)) s xm xh bk bl bp bn bb bm bh xf xt xq xu) (fun j s => s = jp_fl xb (24 * i) j (-1)) 24 0 xb (by omega) (jp_fl_0 _ _ _).symm (fun n s hI => br_t ?_ (by rw [hI]; exact h)) (fun n j s hj hI ih => br_f ?_ ⟨vp_in_nI (by omega) (by omega), ?_⟩)
    · rw [jv_b24]; exact nI_le (by omega) (by omega)
    · rw [jv_b24]; exact nI_ge (by omega) (by omega)
    · rw [nI_clamp (by omega)]
      exact nm_e (nm_r (nI_1 _) (ih _ (by rw [hI, jp_fl_s])))
  · rw [jv_b64]; exact nI_ge (by omega) (by omega)
  · rw [nI_clamp (by omega)]
    exact nm_e (nm_r (nI_1 _) (ih _ (by rw [hI, jp_fl_s])))
end
/-! a fold that unmaps positions: the map and the marks -/
def jp_um (k : Nat) (s : (Nat → Int32) × (Nat → Int32)) : (Nat → Int32) × (Nat → Int32) := if s.1 k = -1 then s else (upd s.1 k (-1), upd s.2 (s.1 k).toNatClampNeg 0)
def jp_uh (lo n : Nat) (B M : Nat → Int32) : (Nat → Int32) × (Nat → Int32) := jp_fd (fun i s => jp_um (lo + i) s) n (B, M)
def jp_BR (B : Nat → Int32) : Prop := ∀ s, s < 384 → B s = -1 ∨ ∃ b, b < 64 ∧ B s = nI b
theorem jp_upd_id (a : Nat → Int32) (k : Nat) (c : Int32) (h : a k = c) : upd a k c = a := by
  funext j; unfold upd
  by_cases e : j = k
  · rw [if_pos e, e, h]
  · rw [if_neg e]
theorem jp_um_1 (k : Nat) (s : (Nat → Int32) × (Nat → Int32)) : (jp_um k s).1 = upd s.1 k (-1) := by
  unfold jp_um
  by_cases h : s.1 k = -1
  · rw [if_pos h, jp_upd_id _ _ _ h]
  · rw [if_neg h]
theorem jp_uh_1 (lo n : Nat) (B M : Nat → Int32) : (jp_uh lo n B M).1 = jp_fl B lo n (-1) := by
  unfold jp_uh
  induction n with
  | zero => exact (jp_fl_0 _ _ _).symm
  | succ n ih => show (jp_um (lo + n) _).1 = _; rw [jp_um_1, ih, jp_fl_s]
theorem jp_BR_upd {B : Nat → Int32} (h : jp_BR B) (k : Nat) : jp_BR (upd B k (-1)) := by
  intro s hs
  unfold upd
  by_cases e : s = k
  · rw [if_pos e]; exact Or.inl rfl
  · rw [if_neg e]; exact h s hs
theorem jp_uh_z {lo n : Nat} {B M : Nat → Int32} (hB : jp_BR B) (hM : ∀ i, 64 ≤ i → M i = 0) (hn : lo + n ≤ 384) : ∀ i, 64 ≤ i → (jp_uh lo n B M).2 i = 0 := by
  have := jp_fd_inv (fun i s => jp_um (lo + i) s) n (B, M) (fun _ s => jp_BR s.1 ∧ ∀ i, 64 ≤ i → s.2 i = 0) ⟨hB, hM⟩ (fun i s hi hJ => by
    refine ⟨by rw [jp_um_1]; exact jp_BR_upd hJ.1 _, ?_⟩
    unfold jp_um
    by_cases h : s.1 (lo + i) = -1
    · rw [if_pos h]; exact hJ.2
    · rw [if_neg h]
      intro j hj
      rcases hJ.1 (lo + i) (by omega) with z | ⟨b, hb, z⟩
      · exact absurd z h
      · dsimp only; rw [z, nI_clamp (by omega), pk_un (by omega)]; exact hJ.2 j hj)
  exact this.2
section
variable {xr xs xd xw : Int32} {xk xl xp xn xb xm xh bk bl bp bn bb bm bh xf xt xq xu : Nat → Int32}
theorem jx_makeHoles {post : SX → Prop} {f p m : Nat} (hf : f < 16) (hp : p + m ≤ 24) (hB : jp_BR xb) (h : post (xr, xs, xd, xw, xk, xl, xp, xn, jp_fl xb (24 * f + p) m (-1), (jp_uh (24 * f + p) m xb xm).2, xh, bk, bl, bp, bn, bb, bm, bh, xf, xt, xq, xu)) : wpX_makeHoles post (xr, xs, xd, xw, xk, xl, xp, xn, xb, xm, xh, bk, bl, bp, bn, bb, bm, bh, xf, xt, xq, xu) (nI f) (nI p) (nI m) := by
  unfold wpX_makeHoles
  refine nm_r (jv_f24 f p) ?_
  rw [← jp_uh_1 _ _ xb xm] at h
  refine jv_fold (σ := (Nat → Int32) × (Nat → Int32)) (fun n i s => wX_makeHoles_12 post (nI m) (nI (24 * f + p)) xr xs xd xw n (nI (24 * f + p + i)) xk xl xp xn (s.1) (s.2) xh bk bl bp bn bb bm bh xf xt xq xu) (fun i s => jp_um (24 * f + p + i) s) m (xb, xm) (fun _ s => jp_BR s.1) hB (fun i s hi hJ => by rw [jp_um_1]; exact jp_BR_upd hJ _) (fun n => br_t ?_ h) (fun n i s hi hJ ih => br_f ?_ ⟨vp_in_nI (by omega) (by omega), ?_⟩)
  · rw [nI_add]; exact nI_le (by omega) (by omega)
  · rw [nI_add]; exact nI_ge (by omega) (by omega)
  · rw [nI_clamp (by omega)]
    unfold jp_um at ih
    refine br_c (fun hc => nm_r (nI_1 _) ?_) (fun hc => ⟨vp_in_nI (by omega) (by omega), ?_⟩)
    · rw [if_pos hc] at ih; exact ih
    · rw [if_neg hc] at ih
      rcases hJ (24 * f + p + i) (by omega) with z | ⟨b, hb, z⟩
      · exact absurd z hc
      · refine ⟨by rw [z]; exact vp_in_nI hb (by omega), nm_e ⟨vp_in_nI (by omega) (by omega), nm_e (nm_r (nI_1 _) ih)⟩⟩
theorem jx_tookBack {post : Int32 → SX → Prop} {f r : Nat} (hf : f < 16) (hr : r < 24) (h0 : jp_ne xb f ≤ 5 → post 0 (nI (r + 1), xs, xd, xw, xk, xl, xp, xn, xb, xm, xh, bk, bl, bp, bn, bb, bm, bh, xf, xt, xq, xu))
    (h1 : 5 < jp_ne xb f → post 1 (nI r, xs, xd, xw, jp_cp xk 0 16 bk (16 * r), jp_cp xl 0 16 bl (16 * r), jp_cp xp 0 16 bp (16 * r), jp_cp xn 0 1024 bn (1024 * r), jp_cp xb 0 384 bb (384 * r), jp_cp xm 0 64 bm (64 * r), jp_cp xh 0 64 bh (64 * r), bk, bl, bp, bn, bb, bm, bh, xf, xt, xq, xu)) : wpX_tookBackSixthExtent post (nI (r + 1), xs, xd, xw, xk, xl, xp, xn, xb, xm, xh, bk, bl, bp, bn, bb, bm, bh, xf, xt, xq, xu) (nI f) := by
  unfold wpX_tookBackSixthExtent
  refine jx_countExtents hf ?_
  have := jp_cn_le (jp_be xb f) 24
  have e : jp_ne xb f = jp_cn (jp_be xb f) 24 := rfl
  refine pk_lt 5 (jp_ne xb f) (fun hh => ?_) (fun hh => h0 hh)
  rw [nI_pred]
  exact jx_loseRecordsBehind hr (h1 hh)
end
end
section
def jp_NR (N : Nat → Int32) : Prop := ∀ s, s < 1024 → N s = -1 ∨ ∃ i, i < 16 ∧ N s = nI i
def jp_en (N : Nat → Int32) (d : Nat) : Nat := jp_cn (fun n => decide (¬ N (64 * d + n) = -1)) 64
theorem jp_en_ro (N : Nat → Int32) (d : Nat) : jp_cn (fun h => decide (¬ jp_ro N (64 * d + h) = -1)) 64 = jp_en N d := by
  unfold jp_en
  rw [← jp_cn_t (fun n => decide (¬ N (64 * d + n) = -1))]
  exact jp_cn_congr (fun h hh => by rw [jp_ro_h N d hh])
theorem jp_neg {x : Int32} {n : Nat} (hn : n < 2 ^ 31) (h : x = -1 ∨ ∃ i, i < n ∧ x = nI i) : x < 0 ↔ x = -1 := by
  constructor
  · intro z
    rcases h with e | ⟨i, hi, e⟩
    · exact e
    · rw [e] at z; exact absurd z (nI_pos (by omega))
  · intro e; rw [e]; decide
theorem jp_nneg {x : Int32} {n : Nat} (hn : n < 2 ^ 31) (h : x = -1 ∨ ∃ i, i < n ∧ x = nI i) : 0 ≤ x ↔ ¬ x = -1 := by
  rw [← jp_neg hn h]
  exact ⟨fun a b => absurd b (Int32.not_lt.mpr a), fun a => Int32.not_lt.mp a⟩
/-- the reference's inner scan over the names: it acts at the one name whose hash is i -/
theorem jv_scan {σ : Type} (W : Nat → Nat → σ → Prop) (i : Nat) (hi : i < 64) (J : σ → Prop) (s0 : σ) (hx : ∀ n s, J s → W (n + 1) 64 s)
    (hn : ∀ n x s, x < 64 → jp_s x ≠ i → W n (x + 1) s → W (n + 1) x s) (hh : ∀ n, (∀ s', J s' → W n (jp_t i + 1) s') → W (n + 1) (jp_t i) s0) : ∃ n, W n 0 s0 := by
  have after : ∀ m x s, x + m = 64 → jp_t i < x → J s → W (m + 1) x s := by
    intro m
    induction m with
    | zero => intro x s h1 _ h3; rw [show x = 64 from by omega]; exact hx 0 s h3
    | succ m ih =>
      intro x s h1 h2 h3
      refine hn _ x s (by omega) (fun e => ?_) (ih (x + 1) s (by omega) (by omega) h3)
      have := jp_ts (n := x) (by omega)
      rw [e] at this
      omega
  have before : ∀ m x, x + m = 64 → x ≤ jp_t i → W (m + 1) x s0 := by
    intro m
    induction m with
    | zero => intro x h1 h2; have := jp_t_lt i; omega
    | succ m ih =>
      intro x h1 h2
      by_cases e : x = jp_t i
      · rw [e]; exact hh _ (fun s' hs => after m _ s' (by omega) (by omega) hs)
      · refine hn _ x s0 (by omega) (fun z => ?_) (ih (x + 1) (by omega) (by omega))
        have := jp_ts (n := x) (by omega)
        rw [z] at this
        omega
  exact ⟨65, before 64 0 rfl (Nat.zero_le _)⟩
section
variable {xr xs xd xw : Int32} {xk xl xp xn xb xm xh bk bl bp bn bb bm bh xf xt xq xu : Nat → Int32}
theorem jx_countEntries' {post : Int32 → Prop} {N : Nat → Int32} {d : Nat} (hd : d < 16) (h : post (nI (jp_en N d))) : wpX_countEntries post (xr, xs, xd, xw, xk, xl, xp, jp_ro N, xb, xm, xh, bk, bl, bp, bn, bb, bm, bh, xf, xt, xq, xu) (nI d) :=
  jx_countEntries hd (by rw [jp_en_ro]; exact h)
theorem jx_isFullDirectory' {post : Int32 → Prop} {N : Nat → Int32} {d : Nat} (hd : d < 16) (ht : 10 ≤ jp_en N d → post 1) (hf : jp_en N d < 10 → post 0) : wpX_isFullDirectory post (xr, xs, xd, xw, xk, xl, xp, jp_ro N, xb, xm, xh, bk, bl, bp, bn, bb, bm, bh, xf, xt, xq, xu) (nI d) :=
  jx_isFullDirectory hd (by rw [jp_en_ro]; exact ht) (by rw [jp_en_ro]; exact hf)
theorem jx_countNaming' {post : Int32 → Prop} {N : Nat → Int32} {p : Int32} (h : post (nI (jp_cn (fun s => decide (N s = p)) 1024))) : wpX_countNaming post (xr, xs, xd, xw, xk, xl, xp, jp_ro N, xb, xm, xh, bk, bl, bp, bn, bb, bm, bh, xf, xt, xq, xu) p :=
  jx_countNaming (by
    have e := jp_cn_rows (fun s => decide (N s = p)) 16
    have e2 : jp_cn (fun s => decide (jp_ro N s = p)) 1024 = jp_cn (fun s => decide (N s = p)) 1024 := e
    rw [e2]; exact h)
end
section
variable {yr ys yd yh yt : Int32} {yk yl yp yn yb yv ym ok ol op on ob ov om yc yg yf yq yu ye : Nat → Int32}
theorem jy_in {post : Int32 → Prop} {p : Int32} {M : Nat} (hM : M + 1 < 2 ^ 31) (ht : ∀ j, j < M + 1 → p = nI j → post 1) (hf : (¬ ∃ j, j < M + 1 ∧ p = nI j) → post 0) : wpY_in post p 0 (nI M) := by
  refine br_c (fun h => hf (jv_rn hM (Or.inl h))) (fun h => ?_)
  obtain ⟨j, hj, e⟩ := nI_of h
  subst e
  refine pk_lt M j (fun h2 => hf (jv_rn hM (Or.inr (nI_le h2 hj)))) (fun h2 => ht j (by omega) rfl)
theorem jy_is {post : Int32 → Prop} {p c : Int32} (ht : ∀ j, j < 16 → p = nI j → yk j = c → post 1) (hf : (¬ ∃ j, j < 16 ∧ p = nI j ∧ yk j = c) → post 0) : wpY_is post (yr, ys, yd, yh, yt, yk, yl, yp, yn, yb, yv, ym, ok, ol, op, on, ob, ov, om, yc, yg, yf, yq, yu, ye) p c := by
  unfold wpY_is
  refine jy_in (M := 15) (by omega) (fun j hj e => ?_) (fun hn => br_t rfl (hf (fun ⟨j, hj, e, _⟩ => hn ⟨j, hj, e⟩)))
  subst e
  refine br_f (by decide) ⟨vp_in_nI hj (by omega), ?_⟩
  rw [nI_clamp (by omega)]
  exact br_c (fun hk => ht j hj rfl hk) (fun hk => hf (fun ⟨i, hi, e, k⟩ => hk (by rw [jv_inj e (by omega) (by omega)]; exact k)))
theorem jy_entries {post : Int32 → Prop} {d : Nat} (hN : jp_NR yn) (hd : d < 16) (h : post (nI (jp_en yn d))) : wpY_entries post (yr, ys, yd, yh, yt, yk, yl, yp, yn, yb, yv, ym, ok, ol, op, on, ob, ov, om, yc, yg, yf, yq, yu, ye) (nI d) := by
  unfold wpY_entries
  refine nm_r (jv_c64 d) (jv_cnt (fun n s i => wY_entries_7 post (nI d) yr ys yd yh yt yk yl yp yn yb yv ym ok ol op on ob ov om yc yg yf yq yu ye n (nI s) (nI (64 * d + i))) (fun h => decide (¬ yn (64 * d + h) = -1)) 64 (fun n => br_t ?_ h) (fun n i s hi ht hf => br_f ?_ ⟨vp_in_nI (by omega) (by omega), ?_⟩))
  · rw [jv_d64]; exact nI_le (by omega) (by omega)
  · rw [jv_d64]; exact nI_ge (by omega) (by omega)
  · rw [nI_clamp (by omega), jp_neg (by omega) (hN (64 * d + i) (by omega))]
    exact br_c (fun hc => nm_r (nI_1 _) (hf (by simp [hc]))) (fun hc => nm_r (nI_1 _) (nm_r (nI_1 _) (ht (by simp [hc]))))
theorem jy_nameOf {post : Int32 → Prop} {d : Nat} {k : Int32} (hN : jp_NR yn) (hd : d < 16) (h : post (jp_ov (jp_kth (fun h => decide (¬ yn (64 * d + jp_t h) = -1)) k 64 0 0) (fun h => nI (jp_t h)))) : wpY_nameOf post (yr, ys, yd, yh, yt, yk, yl, yp, yn, yb, yv, ym, ok, ol, op, on, ob, ov, om, yc, yg, yf, yq, yu, ye) (nI d) k := by
  unfold wpY_nameOf
  have key : ∀ m i c, i + m = 64 → post (jp_ov (jp_kth (fun h => decide (¬ yn (64 * d + jp_t h) = -1)) k m i c) (fun h => nI (jp_t h))) → wY_nameOf_5 post (nI d) k yr ys yd yh yt yk yl yp yn yb yv ym ok ol op on ob ov om yc yg yf yq yu ye (m + 1) (nI c) (nI i) := by
    intro m
    induction m with
    | zero => intro i c hi h; exact br_t (nI_le (a := 64) (by omega) (by omega)) h
    | succ m ih =>
      intro i c hi h
      refine br_f (nI_ge (b := 64) (by omega) (by omega)) ?_
      have ht := jp_t_lt i
      refine jv_scan (σ := Nat) (fun n x s => wY_nameOf_15 post (wY_nameOf_5 post (nI d) k yr ys yd yh yt yk yl yp yn yb yv ym ok ol op on ob ov om yc yg yf yq yu ye (m + 1)) (nI d) k (nI i) yr ys yd yh yt yk yl yp yn yb yv ym ok ol op on ob ov om yc yg yf yq yu ye n (nI s) (nI x)) i (by omega) (fun s => wY_nameOf_5 post (nI d) k yr ys yd yh yt yk yl yp yn yb yv ym ok ol op on ob ov om yc yg yf yq yu ye (m + 1) (nI s) (nI (i + 1))) c (fun n s hJ => br_t (nI_le (a := 64) (by omega) (by omega)) (nm_r (nI_1 _) hJ)) (fun n x s hx hne ihx => br_f (nI_ge (b := 64) hx (by omega)) ⟨by decide, ?_⟩) (fun n hJ => br_f (nI_ge (b := 64) ht (by omega)) ⟨by decide, ?_⟩)
      · rw [jv_hash x hx]
        exact br_f (fun e => hne (jv_inj e (by have := jp_s_lt x; omega) (by omega))) (nm_r (nI_1 _) ihx)
      · rw [jv_hash _ ht, jp_st (by omega), jv_e64]
        refine br_t rfl ⟨vp_in_nI (by omega) (by omega), ?_⟩
        rw [nI_clamp (by omega), jp_nneg (by omega) (hN (64 * d + jp_t i) (by omega))]
        unfold jp_kth at h
        refine br_c (fun hc => br_c (fun hk => ?_) (fun hk => nm_r (nI_1 _) (nm_r (nI_1 _) (hJ _ (ih (i + 1) _ (by omega) ?_))))) (fun hc => nm_r (nI_1 _) (hJ _ (ih (i + 1) _ (by omega) ?_)))
        · rw [if_pos (by simp [hc]), if_pos hk] at h; exact h
        · rw [if_pos (by simp [hc]), if_neg hk] at h; exact h
        · rw [if_neg (by simpa using hc)] at h; exact h
  exact ⟨65, key 64 0 0 rfl h⟩
theorem jy_note {post : SY → Prop} {r : Nat} {c a b x z : Int32} (hr : r < 24) (h : post (nI (r + 1), ys, yd, yh, yt, yk, yl, yp, yn, yb, yv, ym, ok, ol, op, on, ob, ov, om, upd yc r c, upd (upd (upd (upd yg (4 * r) a) (4 * r + 1) b) (4 * r + 2) x) (4 * r + 3) z, yf, yq, yu, ye)) : wpY_note post (nI r, ys, yd, yh, yt, yk, yl, yp, yn, yb, yv, ym, ok, ol, op, on, ob, ov, om, yc, yg, yf, yq, yu, ye) c a b x z := by
  unfold wpY_note
  dsimp only
  have e : (4 : Int32) * nI r = nI (4 * r) := by rw [show (4 : Int32) = nI 4 from rfl, pk_mul]
  rw [e, show (1 : Int32) = nI 1 from rfl, show (2 : Int32) = nI 2 from rfl, show (3 : Int32) = nI 3 from rfl, nI_add, nI_add, nI_add, nI_clamp (n := r) (by omega), nI_clamp (n := 4 * r) (by omega), nI_clamp (n := 4 * r + 1) (by omega), nI_clamp (n := 4 * r + 2) (by omega), nI_clamp (n := 4 * r + 3) (by omega)]
  exact ⟨vp_in_nI (by omega) (by omega), nm_e ⟨vp_in_nI (by omega) (by omega), nm_e ⟨vp_in_nI (by omega) (by omega), nm_e ⟨vp_in_nI (by omega) (by omega), nm_e ⟨vp_in_nI (by omega) (by omega), nm_e (nm_r (nI_add r 1) h)⟩⟩⟩⟩⟩
theorem jy_unmap {post : SY → Prop} {k : Nat} (hk : k < 384) (hB : jp_BR yb) (h : post (yr, ys, yd, yh, yt, yk, yl, yp, yn, (jp_um k (yb, ym)).1, yv, (jp_um k (yb, ym)).2, ok, ol, op, on, ob, ov, om, yc, yg, yf, yq, yu, ye)) : wpY_unmap post (yr, ys, yd, yh, yt, yk, yl, yp, yn, yb, yv, ym, ok, ol, op, on, ob, ov, om, yc, yg, yf, yq, yu, ye) (nI k) := by
  unfold wpY_unmap
  refine ⟨vp_in_nI hk (by omega), ?_⟩
  rw [nI_clamp (by omega), jp_neg (by omega) (hB k hk)]
  unfold jp_um at h
  dsimp only at h
  refine br_c (fun hc => ⟨vp_in_nI hk (by omega), nm_e ?_⟩) (fun hc => ⟨vp_in_nI hk (by omega), ?_⟩)
  · rw [if_pos hc] at h
    rw [jp_upd_id _ _ _ hc]; exact h
  · rw [if_neg hc] at h
    rcases hB k hk with z | ⟨b, hb, z⟩
    · exact absurd z hc
    · exact ⟨by rw [z]; exact vp_in_nI hb (by omega), nm_e ⟨vp_in_nI hk (by omega), nm_e h⟩⟩
theorem jy_free {post : SY → Prop} {i : Nat} (hi : i < 16) (hB : jp_BR yb) (h : post (yr, ys, yd, yh, yt, upd yk i 0, upd yl i 0, yp, jp_fl yn (64 * i) 64 (-1), jp_fl yb (24 * i) 24 (-1), yv, (jp_uh (24 * i) 24 yb ym).2, ok, ol, op, on, ob, ov, om, yc, yg, yf, yq, yu, ye)) : wpY_free post (yr, ys, yd, yh, yt, yk, yl, yp, yn, yb, yv, ym, ok, ol, op, on, ob, ov, om, yc, yg, yf, yq, yu, ye) (nI i) := by
  unfold wpY_free
  refine ⟨vp_in_nI hi (by omega), ?_⟩
  rw [nI_clamp (by omega)]
  refine nm_e ⟨vp_in_nI hi (by omega), nm_e (nm_r (jv_c64 i) ?_)⟩
  refine pk_loop (σ := Nat → Int32) (fun n j s => wY_free_19 post (nI i) yr ys yd yh yt n (nI (64 * i + j)) (upd yk i 0) (upd yl i 0) yp s yb yv ym ok ol op on ob ov om yc yg yf yq yu ye) (fun j s => s = jp_fl yn (64 * i) j (-1)) 64 0 yn (by omega) (jp_fl_0 _ _ _).symm (fun n s hI => br_t ?_ (nm_r (jv_c24 i) ?_)) (fun n j s hj hI ih => br_f ?_ ⟨vp_in_nI (by omega) (by omega), ?_⟩)
  · rw [jv_d64]; exact nI_le (by omega) (by omega)
  · subst hI
    rw [← jp_uh_1 _ _ yb ym] at h
    refine jv_fold (σ := (Nat → Int32) × (Nat → Int32)) (fun n j s => wY_free_48 post (nI i) n (nI (24 * i + j)) yr ys yd yh yt (upd yk i 0) (upd yl i 0) yp (jp_fl yn (64 * i) 64 (-1)) (s.1) yv (s.2) ok ol op on ob ov om yc yg yf yq yu ye) (fun j s => jp_um (24 * i + j) s) 24 (yb, ym) (fun _ s => jp_BR s.1) hB (fun i s hi hJ => by rw [jp_um_1]; exact jp_BR_upd hJ _) (fun n => br_t ?_ h) (fun n j s hj hJ ih => br_f ?_ (jy_unmap (by omega) hJ (nm_r (nI_1 _) ih)))
    · rw [jv_d24]; exact nI_le (by omega) (by omega)
    · rw [jv_d24]; exact nI_ge (by omega) (by omega)
  · rw [jv_d64]; exact nI_ge (by omega) (by omega)
  · rw [nI_clamp (by omega)]
    exact nm_e (nm_r (nI_1 _) (ih _ (by rw [hI, jp_fl_s])))
theorem jy_cpo_kind {post : SY → Prop} (h : post (yr, ys, yd, yh, yt, yk, yl, yp, yn, yb, yv, ym, jp_cp ok 0 16 yk 0, ol, op, on, ob, ov, om, yc, yg, yf, yq, yu, ye)) : wpY_copy__kind_oldKind post (yr, ys, yd, yh, yt, yk, yl, yp, yn, yb, yv, ym, ok, ol, op, on, ob, ov, om, yc, yg, yf, yq, yu, ye) := by
  unfold wpY_copy__kind_oldKind
  refine pk_loop (σ := Nat → Int32) (fun n i s => wY_copy__kind_oldKind_2 post yr ys yd yh yt n (nI i) yk yl yp yn yb yv ym s ol op on ob ov om yc yg yf yq yu ye) (fun i s => s = jp_cp ok 0 i yk 0) 16 0 ok (by omega) (jp_cp_0 _ _ _ _).symm (fun n s hI => br_t (nI_le (a := 16) (by omega) (by omega)) (by rw [hI]; exact h)) (fun n i s hi hI ih => br_f (nI_ge (b := 16) hi (by omega)) ⟨vp_in_nI (by omega) (by omega), vp_in_nI (by omega) (by omega), ?_⟩)
  rw [nI_clamp (by omega)]
  exact nm_e (nm_r (nI_1 _) (ih _ (by rw [hI, ← jp_cp_s, Nat.zero_add])))
theorem jy_cpb_kind {post : SY → Prop} (h : post (yr, ys, yd, yh, yt, jp_cp yk 0 16 ok 0, yl, yp, yn, yb, yv, ym, ok, ol, op, on, ob, ov, om, yc, yg, yf, yq, yu, ye)) : wpY_copy__oldKind_kind post (yr, ys, yd, yh, yt, yk, yl, yp, yn, yb, yv, ym, ok, ol, op, on, ob, ov, om, yc, yg, yf, yq, yu, ye) := by
  unfold wpY_copy__oldKind_kind
  refine pk_loop (σ := Nat → Int32) (fun n i s => wY_copy__oldKind_kind_2 post yr ys yd yh yt n (nI i) s yl yp yn yb yv ym ok ol op on ob ov om yc yg yf yq yu ye) (fun i s => s = jp_cp yk 0 i ok 0) 16 0 yk (by omega) (jp_cp_0 _ _ _ _).symm (fun n s hI => br_t (nI_le (a := 16) (by omega) (by omega)) (by rw [hI]; exact h)) (fun n i s hi hI ih => br_f (nI_ge (b := 16) hi (by omega)) ⟨vp_in_nI (by omega) (by omega), vp_in_nI (by omega) (by omega), ?_⟩)
  rw [nI_clamp (by omega)]
  exact nm_e (nm_r (nI_1 _) (ih _ (by rw [hI, ← jp_cp_s, Nat.zero_add])))
theorem jy_cpo_links {post : SY → Prop} (h : post (yr, ys, yd, yh, yt, yk, yl, yp, yn, yb, yv, ym, ok, jp_cp ol 0 16 yl 0, op, on, ob, ov, om, yc, yg, yf, yq, yu, ye)) : wpY_copy__links_oldLinks post (yr, ys, yd, yh, yt, yk, yl, yp, yn, yb, yv, ym, ok, ol, op, on, ob, ov, om, yc, yg, yf, yq, yu, ye) := by
  unfold wpY_copy__links_oldLinks
  refine pk_loop (σ := Nat → Int32) (fun n i s => wY_copy__links_oldLinks_2 post yr ys yd yh yt n (nI i) yk yl yp yn yb yv ym ok s op on ob ov om yc yg yf yq yu ye) (fun i s => s = jp_cp ol 0 i yl 0) 16 0 ol (by omega) (jp_cp_0 _ _ _ _).symm (fun n s hI => br_t (nI_le (a := 16) (by omega) (by omega)) (by rw [hI]; exact h)) (fun n i s hi hI ih => br_f (nI_ge (b := 16) hi (by omega)) ⟨vp_in_nI (by omega) (by omega), vp_in_nI (by omega) (by omega), ?_⟩)
  rw [nI_clamp (by omega)]
  exact nm_e (nm_r (nI_1 _) (ih _ (by rw [hI, ← jp_cp_s, Nat.zero_add])))
theorem jy_cpb_links {post : SY → Prop} (h : post (yr, ys, yd, yh, yt, yk, jp_cp yl 0 16 ol 0, yp, yn, yb, yv, ym, ok, ol, op, on, ob, ov, om, yc, yg, yf, yq, yu, ye)) : wpY_copy__oldLinks_links post (yr, ys, yd, yh, yt, yk, yl, yp, yn, yb, yv, ym, ok, ol, op, on, ob, ov, om, yc, yg, yf, yq, yu, ye) := by
  unfold wpY_copy__oldLinks_links
  refine pk_loop (σ := Nat → Int32) (fun n i s => wY_copy__oldLinks_links_2 post yr ys yd yh yt n (nI i) yk s yp yn yb yv ym ok ol op on ob ov om yc yg yf yq yu ye) (fun i s => s = jp_cp yl 0 i ol 0) 16 0 yl (by omega) (jp_cp_0 _ _ _ _).symm (fun n s hI => br_t (nI_le (a := 16) (by omega) (by omega)) (by rw [hI]; exact h)) (fun n i s hi hI ih => br_f (nI_ge (b := 16) hi (by omega)) ⟨vp_in_nI (by omega) (by omega), vp_in_nI (by omega) (by omega), ?_⟩)
  rw [nI_clamp (by omega)]
  exact nm_e (nm_r (nI_1 _) (ih _ (by rw [hI, ← jp_cp_s, Nat.zero_add])))
theorem jy_cpo_parent {post : SY → Prop} (h : post (yr, ys, yd, yh, yt, yk, yl, yp, yn, yb, yv, ym, ok, ol, jp_cp op 0 16 yp 0, on, ob, ov, om, yc, yg, yf, yq, yu, ye)) : wpY_copy__parent_oldParent post (yr, ys, yd, yh, yt, yk, yl, yp, yn, yb, yv, ym, ok, ol, op, on, ob, ov, om, yc, yg, yf, yq, yu, ye) := by
  unfold wpY_copy__parent_oldParent
  refine pk_loop (σ := Nat → Int32) (fun n i s => wY_copy__parent_oldParent_2 post yr ys yd yh yt n (nI i) yk yl yp yn yb yv ym ok ol s on ob ov om yc yg yf yq yu ye) (fun i s => s = jp_cp op 0 i yp 0) 16 0 op (by omega) (jp_cp_0 _ _ _ _).symm (fun n s hI => br_t (nI_le (a := 16) (by omega) (by omega)) (by rw [hI]; exact h)) (fun n i s hi hI ih => br_f (nI_ge (b := 16) hi (by omega)) ⟨vp_in_nI (by omega) (by omega), vp_in_nI (by omega) (by omega), ?_⟩)
  rw [nI_clamp (by omega)]
  exact nm_e (nm_r (nI_1 _) (ih _ (by rw [hI, ← jp_cp_s, Nat.zero_add])))
theorem jy_cpb_parent {post : SY → Prop} (h : post (yr, ys, yd, yh, yt, yk, yl, jp_cp yp 0 16 op 0, yn, yb, yv, ym, ok, ol, op, on, ob, ov, om, yc, yg, yf, yq, yu, ye)) : wpY_copy__oldParent_parent post (yr, ys, yd, yh, yt, yk, yl, yp, yn, yb, yv, ym, ok, ol, op, on, ob, ov, om, yc, yg, yf, yq, yu, ye) := by
  unfold wpY_copy__oldParent_parent
  refine pk_loop (σ := Nat → Int32) (fun n i s => wY_copy__oldParent_parent_2 post yr ys yd yh yt n (nI i) yk yl s yn yb yv ym ok ol op on ob ov om yc yg yf yq yu ye) (fun i s => s = jp_cp yp 0 i op 0) 16 0 yp (by omega) (jp_cp_0 _ _ _ _).symm (fun n s hI => br_t (nI_le (a := 16) (by omega) (by omega)) (by rw [hI]; exact h)) (fun n i s hi hI ih => br_f (nI_ge (b := 16) hi (by omega)) ⟨vp_in_nI (by omega) (by omega), vp_in_nI (by omega) (by omega), ?_⟩)
  rw [nI_clamp (by omega)]
  exact nm_e (nm_r (nI_1 _) (ih _ (by rw [hI, ← jp_cp_s, Nat.zero_add])))
theorem jy_cpo_named {post : SY → Prop} (h : post (yr, ys, yd, yh, yt, yk, yl, yp, yn, yb, yv, ym, ok, ol, op, jp_cp on 0 1024 yn 0, ob, ov, om, yc, yg, yf, yq, yu, ye)) : wpY_copy__named_oldNamed post (yr, ys, yd, yh, yt, yk, yl, yp, yn, yb, yv, ym, ok, ol, op, on, ob, ov, om, yc, yg, yf, yq, yu, ye) := by
  unfold wpY_copy__named_oldNamed
  refine pk_loop (σ := Nat → Int32) (fun n i s => wY_copy__named_oldNamed_2 post yr ys yd yh yt n (nI i) yk yl yp yn yb yv ym ok ol op s ob ov om yc yg yf yq yu ye) (fun i s => s = jp_cp on 0 i yn 0) 1024 0 on (by omega) (jp_cp_0 _ _ _ _).symm (fun n s hI => br_t (nI_le (a := 1024) (by omega) (by omega)) (by rw [hI]; exact h)) (fun n i s hi hI ih => br_f (nI_ge (b := 1024) hi (by omega)) ⟨vp_in_nI (by omega) (by omega), vp_in_nI (by omega) (by omega), ?_⟩)
  rw [nI_clamp (by omega)]
  exact nm_e (nm_r (nI_1 _) (ih _ (by rw [hI, ← jp_cp_s, Nat.zero_add])))
theorem jy_cpb_named {post : SY → Prop} (h : post (yr, ys, yd, yh, yt, yk, yl, yp, jp_cp yn 0 1024 on 0, yb, yv, ym, ok, ol, op, on, ob, ov, om, yc, yg, yf, yq, yu, ye)) : wpY_copy__oldNamed_named post (yr, ys, yd, yh, yt, yk, yl, yp, yn, yb, yv, ym, ok, ol, op, on, ob, ov, om, yc, yg, yf, yq, yu, ye) := by
  unfold wpY_copy__oldNamed_named
  refine pk_loop (σ := Nat → Int32) (fun n i s => wY_copy__oldNamed_named_2 post yr ys yd yh yt n (nI i) yk yl yp s yb yv ym ok ol op on ob ov om yc yg yf yq yu ye) (fun i s => s = jp_cp yn 0 i on 0) 1024 0 yn (by omega) (jp_cp_0 _ _ _ _).symm (fun n s hI => br_t (nI_le (a := 1024) (by omega) (by omega)) (by rw [hI]; exact h)) (fun n i s hi hI ih => br_f (nI_ge (b := 1024) hi (by omega)) ⟨vp_in_nI (by omega) (by omega), vp_in_nI (by omega) (by omega), ?_⟩)
  rw [nI_clamp (by omega)]
  exact nm_e (nm_r (nI_1 _) (ih _ (by rw [hI, ← jp_cp_s, Nat.zero_add])))
theorem jy_cpo_block {post : SY → Prop} (h : post (yr, ys, yd, yh, yt, yk, yl, yp, yn, yb, yv, ym, ok, ol, op, on, jp_cp ob 0 384 yb 0, ov, om, yc, yg, yf, yq, yu, ye)) : wpY_copy__block_oldBlock post (yr, ys, yd, yh, yt, yk, yl, yp, yn, yb, yv, ym, ok, ol, op, on, ob, ov, om, yc, yg, yf, yq, yu, ye) := by
  unfold wpY_copy__block_oldBlock
  refine pk_loop (σ := Nat → Int32) (fun n i s => wY_copy__block_oldBlock_2 post yr ys yd yh yt n (nI i) yk yl yp yn yb yv ym ok ol op on s ov om yc yg yf yq yu ye) (fun i s => s = jp_cp ob 0 i yb 0) 384 0 ob (by omega) (jp_cp_0 _ _ _ _).symm (fun n s hI => br_t (nI_le (a := 384) (by omega) (by omega)) (by rw [hI]; exact h)) (fun n i s hi hI ih => br_f (nI_ge (b := 384) hi (by omega)) ⟨vp_in_nI (by omega) (by omega), vp_in_nI (by omega) (by omega), ?_⟩)
  rw [nI_clamp (by omega)]
  exact nm_e (nm_r (nI_1 _) (ih _ (by rw [hI, ← jp_cp_s, Nat.zero_add])))
theorem jy_cpb_block {post : SY → Prop} (h : post (yr, ys, yd, yh, yt, yk, yl, yp, yn, jp_cp yb 0 384 ob 0, yv, ym, ok, ol, op, on, ob, ov, om, yc, yg, yf, yq, yu, ye)) : wpY_copy__oldBlock_block post (yr, ys, yd, yh, yt, yk, yl, yp, yn, yb, yv, ym, ok, ol, op, on, ob, ov, om, yc, yg, yf, yq, yu, ye) := by
  unfold wpY_copy__oldBlock_block
  refine pk_loop (σ := Nat → Int32) (fun n i s => wY_copy__oldBlock_block_2 post yr ys yd yh yt n (nI i) yk yl yp yn s yv ym ok ol op on ob ov om yc yg yf yq yu ye) (fun i s => s = jp_cp yb 0 i ob 0) 384 0 yb (by omega) (jp_cp_0 _ _ _ _).symm (fun n s hI => br_t (nI_le (a := 384) (by omega) (by omega)) (by rw [hI]; exact h)) (fun n i s hi hI ih => br_f (nI_ge (b := 384) hi (by omega)) ⟨vp_in_nI (by omega) (by omega), vp_in_nI (by omega) (by omega), ?_⟩)
  rw [nI_clamp (by omega)]
  exact nm_e (nm_r (nI_1 _) (ih _ (by rw [hI, ← jp_cp_s, Nat.zero_add])))
theorem jy_cpo_value {post : SY → Prop} (h : post (yr, ys, yd, yh, yt, yk, yl, yp, yn, yb, yv, ym, ok, ol, op, on, ob, jp_cp ov 0 64 yv 0, om, yc, yg, yf, yq, yu, ye)) : wpY_copy__value_oldValue post (yr, ys, yd, yh, yt, yk, yl, yp, yn, yb, yv, ym, ok, ol, op, on, ob, ov, om, yc, yg, yf, yq, yu, ye) := by
  unfold wpY_copy__value_oldValue
  refine pk_loop (σ := Nat → Int32) (fun n i s => wY_copy__value_oldValue_2 post yr ys yd yh yt n (nI i) yk yl yp yn yb yv ym ok ol op on ob s om yc yg yf yq yu ye) (fun i s => s = jp_cp ov 0 i yv 0) 64 0 ov (by omega) (jp_cp_0 _ _ _ _).symm (fun n s hI => br_t (nI_le (a := 64) (by omega) (by omega)) (by rw [hI]; exact h)) (fun n i s hi hI ih => br_f (nI_ge (b := 64) hi (by omega)) ⟨vp_in_nI (by omega) (by omega), vp_in_nI (by omega) (by omega), ?_⟩)
  rw [nI_clamp (by omega)]
  exact nm_e (nm_r (nI_1 _) (ih _ (by rw [hI, ← jp_cp_s, Nat.zero_add])))
theorem jy_cpb_value {post : SY → Prop} (h : post (yr, ys, yd, yh, yt, yk, yl, yp, yn, yb, jp_cp yv 0 64 ov 0, ym, ok, ol, op, on, ob, ov, om, yc, yg, yf, yq, yu, ye)) : wpY_copy__oldValue_value post (yr, ys, yd, yh, yt, yk, yl, yp, yn, yb, yv, ym, ok, ol, op, on, ob, ov, om, yc, yg, yf, yq, yu, ye) := by
  unfold wpY_copy__oldValue_value
  refine pk_loop (σ := Nat → Int32) (fun n i s => wY_copy__oldValue_value_2 post yr ys yd yh yt n (nI i) yk yl yp yn yb s ym ok ol op on ob ov om yc yg yf yq yu ye) (fun i s => s = jp_cp yv 0 i ov 0) 64 0 yv (by omega) (jp_cp_0 _ _ _ _).symm (fun n s hI => br_t (nI_le (a := 64) (by omega) (by omega)) (by rw [hI]; exact h)) (fun n i s hi hI ih => br_f (nI_ge (b := 64) hi (by omega)) ⟨vp_in_nI (by omega) (by omega), vp_in_nI (by omega) (by omega), ?_⟩)
  rw [nI_clamp (by omega)]
  exact nm_e (nm_r (nI_1 _) (ih _ (by rw [hI, ← jp_cp_s, Nat.zero_add])))
theorem jy_cpo_mark {post : SY → Prop} (h : post (yr, ys, yd, yh, yt, yk, yl, yp, yn, yb, yv, ym, ok, ol, op, on, ob, ov, jp_cp om 0 64 ym 0, yc, yg, yf, yq, yu, ye)) : wpY_copy__mark_oldMark post (yr, ys, yd, yh, yt, yk, yl, yp, yn, yb, yv, ym, ok, ol, op, on, ob, ov, om, yc, yg, yf, yq, yu, ye) := by
  unfold wpY_copy__mark_oldMark
  refine pk_loop (σ := Nat → Int32) (fun n i s => wY_copy__mark_oldMark_2 post yr ys yd yh yt n (nI i) yk yl yp yn yb yv ym ok ol op on ob ov s yc yg yf yq yu ye) (fun i s => s = jp_cp om 0 i ym 0) 64 0 om (by omega) (jp_cp_0 _ _ _ _).symm (fun n s hI => br_t (nI_le (a := 64) (by omega) (by omega)) (by rw [hI]; exact h)) (fun n i s hi hI ih => br_f (nI_ge (b := 64) hi (by omega)) ⟨vp_in_nI (by omega) (by omega), vp_in_nI (by omega) (by omega), ?_⟩)
  rw [nI_clamp (by omega)]
  exact nm_e (nm_r (nI_1 _) (ih _ (by rw [hI, ← jp_cp_s, Nat.zero_add])))
theorem jy_cpb_mark {post : SY → Prop} (h : post (yr, ys, yd, yh, yt, yk, yl, yp, yn, yb, yv, jp_cp ym 0 64 om 0, ok, ol, op, on, ob, ov, om, yc, yg, yf, yq, yu, ye)) : wpY_copy__oldMark_mark post (yr, ys, yd, yh, yt, yk, yl, yp, yn, yb, yv, ym, ok, ol, op, on, ob, ov, om, yc, yg, yf, yq, yu, ye) := by
  unfold wpY_copy__oldMark_mark
  refine pk_loop (σ := Nat → Int32) (fun n i s => wY_copy__oldMark_mark_2 post yr ys yd yh yt n (nI i) yk yl yp yn yb yv s ok ol op on ob ov om yc yg yf yq yu ye) (fun i s => s = jp_cp ym 0 i om 0) 64 0 ym (by omega) (jp_cp_0 _ _ _ _).symm (fun n s hI => br_t (nI_le (a := 64) (by omega) (by omega)) (by rw [hI]; exact h)) (fun n i s hi hI ih => br_f (nI_ge (b := 64) hi (by omega)) ⟨vp_in_nI (by omega) (by omega), vp_in_nI (by omega) (by omega), ?_⟩)
  rw [nI_clamp (by omega)]
  exact nm_e (nm_r (nI_1 _) (ih _ (by rw [hI, ← jp_cp_s, Nat.zero_add])))
end
end
section
section
variable {yr ys yd yh yt : Int32} {yk yl yp yn yb yv ym ok ol op on ob ov om yc yg yf yq yu ye : Nat → Int32}
theorem jy_place {post : SY → Prop} (h : post (yr, ys, yd, yh, yt, yk, yl, yp, yn, yb, yv, ym, jp_cp ok 0 16 yk 0, jp_cp ol 0 16 yl 0, jp_cp op 0 16 yp 0, jp_cp on 0 1024 yn 0, jp_cp ob 0 384 yb 0, jp_cp ov 0 64 yv 0, jp_cp om 0 64 ym 0, yc, yg, yf, yq, yu, ye)) : wpY_place post (yr, ys, yd, yh, yt, yk, yl, yp, yn, yb, yv, ym, ok, ol, op, on, ob, ov, om, yc, yg, yf, yq, yu, ye) := by
  unfold wpY_place
  refine jy_cpo_kind ?_
  refine jy_cpo_links ?_
  refine jy_cpo_parent ?_
  refine jy_cpo_named ?_
  refine jy_cpo_block ?_
  refine jy_cpo_value ?_
  refine jy_cpo_mark ?_
  exact h
theorem jy_begins {post : Int32 → Prop} {f p : Nat} (hB : jp_BR yb) (hf : f < 16) (hp : p < 24) (h1 : jp_be yb f p = true → post 1) (h0 : jp_be yb f p = false → post 0) : wpY_begins post (yr, ys, yd, yh, yt, yk, yl, yp, yn, yb, yv, ym, ok, ol, op, on, ob, ov, om, yc, yg, yf, yq, yu, ye) (nI f) (nI p) := by
  unfold wpY_begins
  refine nm_r (jv_e24 f p) ⟨vp_in_nI (by omega) (by omega), ?_⟩
  rw [nI_clamp (by omega), jp_neg (by omega) (hB (24 * f + p) (by omega))]
  refine br_c (fun hc => h0 (by simp [jp_be, hc])) (fun hc => pk_eq p 0 (fun e => h1 (by simp [jp_be, hc, e] <;> simpa [e] using hc)) (fun e => ?_))
  rw [show nI (24 * f + p) - 1 = nI (24 * f + p - 1) from by rw [show 24 * f + p = (24 * f + p - 1) + 1 from by omega, nI_pred]; rfl]
  refine ⟨vp_in_nI (by omega) (by omega), ?_⟩
  rw [nI_clamp (n := 24 * f + p - 1) (by omega), jp_neg (by omega) (hB (24 * f + p - 1) (by omega))]
  refine br_c (fun hd => h1 (by simp [jp_be, hc, hd])) (fun hd => ⟨vp_in_nI (by omega) (by omega), vp_in_nI (by omega) (by omega), ?_⟩)
  exact br_c (fun he => h0 (by simp [jp_be, hc, hd, he, e])) (fun he => h1 (by simp [jp_be, hc, he]))
theorem jy_extents {post : Int32 → Prop} {f : Nat} (hB : jp_BR yb) (hf : f < 16) (h : post (nI (jp_ne yb f))) : wpY_extents post (yr, ys, yd, yh, yt, yk, yl, yp, yn, yb, yv, ym, ok, ol, op, on, ob, ov, om, yc, yg, yf, yq, yu, ye) (nI f) := by
  unfold wpY_extents
  refine jv_cnt (fun n s i => wY_extents_4 post (nI f) yr ys yd yh yt yk yl yp yn yb yv ym ok ol op on ob ov om yc yg yf yq yu ye n (nI s) (nI i)) (jp_be yb f) 24 (fun n => br_t (nI_le (a := 24) (by omega) (by omega)) h) (fun n i s hi h1 h0 => br_f (nI_ge (b := 24) hi (by omega)) ?_)
  exact jy_begins hB hf hi (fun hb => br_f (by decide) (nm_r (nI_1 _) (nm_r (nI_1 _) (h1 hb)))) (fun hb => br_t rfl (nm_r (nI_1 _) (h0 hb)))
theorem jy_extentAt {post : Int32 → Prop} {f : Nat} {k : Int32} (hB : jp_BR yb) (hf : f < 16) (h : post (jp_ov (jp_kth (jp_be yb f) k 24 0 0) nI)) : wpY_extentAt post (yr, ys, yd, yh, yt, yk, yl, yp, yn, yb, yv, ym, ok, ol, op, on, ob, ov, om, yc, yg, yf, yq, yu, ye) (nI f) k := by
  unfold wpY_extentAt
  have key : ∀ m i c, i + m = 24 → post (jp_ov (jp_kth (jp_be yb f) k m i c) nI) → wY_extentAt_5 post (nI f) k yr ys yd yh yt yk yl yp yn yb yv ym ok ol op on ob ov om yc yg yf yq yu ye (m + 1) (nI c) (nI i) := by
    intro m
    induction m with
    | zero => intro i c hi h; exact br_t (nI_le (a := 24) (by omega) (by omega)) h
    | succ m ih =>
      intro i c hi h
      refine br_f (nI_ge (b := 24) (by omega) (by omega)) (jy_begins hB hf (by omega) (fun hb => br_f (by decide) (br_c (fun hc => ?_) (fun hc => br_f (by decide) (nm_r (nI_1 _) (nm_r (nI_1 _) (ih _ _ (by omega) ?_)))))) (fun hb => br_t rfl (br_t rfl (nm_r (nI_1 _) (ih _ _ (by omega) ?_)))))
      · unfold jp_kth at h; rw [if_pos hb, if_pos hc] at h; exact h
      · unfold jp_kth at h; rw [if_pos hb, if_neg hc] at h; exact h
      · unfold jp_kth at h; rw [if_neg (by simp [hb])] at h; exact h
  exact ⟨25, key 24 0 0 rfl h⟩
theorem jy_lengthAt {post : Int32 → Prop} {f p b : Nat} (hf : f < 16) (hp : p < 24) (hb : b < 64) (hm : yb (24 * f + p) = nI b) (h : ∀ L, jp_Len yb f p b L → post (nI L)) : wpY_lengthAt post (yr, ys, yd, yh, yt, yk, yl, yp, yn, yb, yv, ym, ok, ol, op, on, ob, ov, om, yc, yg, yf, yq, yu, ye) (nI f) (nI p) := by
  unfold wpY_lengthAt
  have key : ∀ m L, 1 ≤ L → p + L + m = 24 → (∀ j, j < L → yb (24 * f + p + j) = nI (b + j)) → wY_lengthAt_2 post (nI f) (nI p) yr ys yd yh yt yk yl yp yn yb yv ym ok ol op on ob ov om yc yg yf yq yu ye (m + 1) (nI L) := by
    intro m
    induction m with
    | zero => intro L h1 h2 h3; exact br_t (by rw [nI_add]; exact nI_le (a := 24) (by omega) (by omega)) (h L ⟨h1, by omega, h3, fun hh => by omega⟩)
    | succ m ih =>
      intro L h1 h2 h3
      refine br_f (by rw [nI_add]; exact nI_ge (b := 24) (by omega) (by omega)) ?_
      rw [jv_e24, nI_add]
      refine ⟨vp_in_nI (by omega) (by omega), vp_in_nI (by omega) (by omega), ?_⟩
      rw [nI_clamp (by omega), nI_clamp (by omega), hm, nI_add]
      refine br_c (fun hc => nm_r (nI_1 _) (ih (L + 1) (by omega) (by omega) (fun j hj => ?_))) (fun hc => h L ⟨h1, by omega, h3, fun _ => hc⟩)
      by_cases e : j < L
      · exact h3 j e
      · rw [show j = L from by omega]; exact hc
  exact ⟨23 - p + 1, key (23 - p) 1 (by omega) (by omega) (fun j hj => by rw [show j = 0 from by omega]; exact hm)⟩
theorem jy_longest {post : Int32 → Prop} {x : Int32} (h : ∀ L s, jp_LR ym 64 L s → (x = 0 → post s) ∧ (¬ x = 0 → post (nI L))) : wpY_longest post (yr, ys, yd, yh, yt, yk, yl, yp, yn, yb, yv, ym, ok, ol, op, on, ob, ov, om, yc, yg, yf, yq, yu, ye) x := by
  unfold wpY_longest
  refine pk_loop (σ := Nat × Int32) (fun n i s => wY_longest_7 post x yr ys yd yh yt yk yl yp yn yb yv ym ok ol op on ob ov om yc yg yf yq yu ye n (nI s.1) s.2 (nI i)) (fun i s => s.1 ≤ 64 ∧ (∀ b n, b < i → jp_Rn ym 64 b n → n ≤ s.1) ∧ ((s.1 = 0 ∧ s.2 = -1) ∨ ∃ b, b < i ∧ s.2 = nI b ∧ jp_Rn ym 64 b s.1 ∧ 0 < s.1 ∧ ∀ c n, c < b → jp_Rn ym 64 c n → n < s.1)) 64 0 (0, -1) (by omega) ⟨by decide, fun b n hb => absurd hb (Nat.not_lt_zero b), Or.inl ⟨rfl, rfl⟩⟩ (fun n s hI => br_t (nI_le (a := 64) (by omega) (by omega)) (h s.1 s.2 hI.2)) (fun n i s hi hI ih => br_f (nI_ge (b := 64) hi (by omega)) ?_)
  obtain ⟨L, s⟩ := s
  obtain ⟨hL, h1, h2⟩ := hI
  dsimp only at hL h1 h2 ⊢
  have fin : ∀ m, jp_Rn ym 64 i m → wY_longest_46 post (wY_longest_7 post x yr ys yd yh yt yk yl yp yn yb yv ym ok ol op on ob ov om yc yg yf yq yu ye n) x (nI L) s (nI i) (nI m) yr ys yd yh yt yk yl yp yn yb yv ym ok ol op on ob ov om yc yg yf yq yu ye := by
    intro m hm
    have := hm.1
    refine pk_le m L (fun hle => nm_r (nI_1 _) (ih (L, s) ⟨hL, fun b n hb hn => ?_, ?_⟩)) (fun hlt => nm_r (nI_1 _) (ih (m, nI i) ⟨by dsimp only; omega, fun b n hb hn => ?_, Or.inr ⟨i, by omega, rfl, hm, by dsimp only; omega, fun c n hc hn => ?_⟩⟩))
    · by_cases e : b = i
      · subst e; rw [jp_Rn_un hn hm]; exact hle
      · exact h1 b n (by omega) hn
    · rcases h2 with h2 | ⟨b, hb, q⟩
      · exact Or.inl h2
      · exact Or.inr ⟨b, by omega, q⟩
    · dsimp only
      by_cases e : b = i
      · subst e; rw [jp_Rn_un hn hm]; exact Nat.le_refl m
      · have := h1 b n (by omega) hn; omega
    · have := h1 c n hc hn; dsimp only; omega
  refine pk_loop (σ := Unit) (fun k m _ => wY_longest_17 post (wY_longest_7 post x yr ys yd yh yt yk yl yp yn yb yv ym ok ol op on ob ov om yc yg yf yq yu ye n) x (nI L) s (nI i) yr ys yd yh yt yk yl yp yn yb yv ym ok ol op on ob ov om yc yg yf yq yu ye k (nI m)) (fun m _ => ∀ j, j < m → ym (i + j) = 0) (64 - i) 0 () (by omega) (fun j hj => absurd hj (Nat.not_lt_zero j)) (fun k _ hz => br_t ?_ (fin _ ⟨by omega, hz, fun hh => by omega⟩)) (fun k m _ hm hz ihm => br_f ?_ ?_)
  · rw [nI_add]; exact nI_le (a := 64) (by omega) (by omega)
  · rw [nI_add]; exact nI_ge (b := 64) (by omega) (by omega)
  · rw [nI_add]
    refine ⟨vp_in_nI (by omega) (by omega), ?_⟩
    rw [nI_clamp (by omega)]
    refine br_c (fun hc => nm_r (nI_1 _) (ihm () (fun j hj => ?_))) (fun hc => fin m ⟨by omega, hz, fun _ => hc⟩)
    by_cases e : j < m
    · exact hz j e
    · rw [show j = m from by omega]; exact hc
end
/-! the block that a position gets: both sides' choice -/
def jp_CH (B M : Nat → Int32) (k p : Nat) (c : Int32) : Prop :=
  (∃ b, 0 < p ∧ B (k - 1) = nI b ∧ b < 63 ∧ M (b + 1) = 0 ∧ c = nI (b + 1))
  ∨ ((¬ ∃ b, 0 < p ∧ B (k - 1) = nI b ∧ b < 63 ∧ M (b + 1) = 0) ∧ ∃ b, p < 23 ∧ B (k + 1) = nI b ∧ 0 < b ∧ b < 64 ∧ M (b - 1) = 0 ∧ c = nI (b - 1))
  ∨ ((¬ ∃ b, 0 < p ∧ B (k - 1) = nI b ∧ b < 63 ∧ M (b + 1) = 0) ∧ (¬ ∃ b, p < 23 ∧ B (k + 1) = nI b ∧ 0 < b ∧ b < 64 ∧ M (b - 1) = 0) ∧ ∃ L, jp_LR M 64 L c)
theorem jp_CH_un {B M : Nat → Int32} {k p : Nat} {c d : Int32} (h1 : jp_CH B M k p c) (h2 : jp_CH B M k p d) : c = d := by
  rcases h1 with ⟨b, a1, a2, a3, a4, a5⟩ | ⟨an, b, a1, a2, a3, a4, a5, a6⟩ | ⟨an, am, L, a⟩
  · rcases h2 with ⟨b', b1, b2, b3, b4, b5⟩ | ⟨bn, _⟩ | ⟨bn, _⟩
    · rw [a2] at b2
      have := jv_inj b2 (by omega) (by omega)
      subst this; rw [a5, b5]
    · exact absurd ⟨b, a1, a2, a3, a4⟩ bn
    · exact absurd ⟨b, a1, a2, a3, a4⟩ bn
  · rcases h2 with ⟨b', b1, b2, b3, b4, b5⟩ | ⟨bn, b', b1, b2, b3, b4, b5, b6⟩ | ⟨bn, bm, _⟩
    · exact absurd ⟨b', b1, b2, b3, b4⟩ an
    · rw [a2] at b2
      have := jv_inj b2 (by omega) (by omega)
      subst this; rw [a6, b6]
    · exact absurd ⟨b, a1, a2, a3, a4, a5⟩ bm
  · rcases h2 with ⟨b', b1, b2, b3, b4, b5⟩ | ⟨bn, b', b1, b2, b3, b4, b5, b6⟩ | ⟨bn, bm, L', b⟩
    · exact absurd ⟨b', b1, b2, b3, b4⟩ an
    · exact absurd ⟨b', b1, b2, b3, b4, b5⟩ am
    · exact (jp_LR_un a b).2
theorem jp_CH_r {B M : Nat → Int32} {k p : Nat} {c : Int32} (h : jp_CH B M k p c) : c = -1 ∨ ∃ b, b < 64 ∧ c = nI b := by
  rcases h with ⟨b, a1, a2, a3, a4, a5⟩ | ⟨an, b, a1, a2, a3, a4, a5, a6⟩ | ⟨an, am, L, a⟩
  · exact Or.inr ⟨b + 1, by omega, a5⟩
  · exact Or.inr ⟨b - 1, by omega, a6⟩
  · rcases a.2 with ⟨_, h⟩ | ⟨b, hb, e, _⟩
    · exact Or.inl h
    · exact Or.inr ⟨b, hb, e⟩
section
variable {xr xs xd xw : Int32} {xk xl xp xn xb xm xh bk bl bp bn bb bm bh xf xt xq xu : Nat → Int32}
theorem jx_chooseBlock {post : Int32 → Prop} {f p : Nat} (hB : jp_BR xb) (hf : f < 16) (hp : p < 24) (h : ∀ c, jp_CH xb xm (24 * f + p) p c → post c) : wpX_chooseBlock post (xr, xs, xd, xw, xk, xl, xp, xn, xb, xm, xh, bk, bl, bp, bn, bb, bm, bh, xf, xt, xq, xu) (nI f) (nI p) := by
  unfold wpX_chooseBlock
  refine nm_r (jv_f24 f p) ?_
  have s3 : (¬ ∃ b, 0 < p ∧ xb (24 * f + p - 1) = nI b ∧ b < 63 ∧ xm (b + 1) = 0) → (¬ ∃ b, p < 23 ∧ xb (24 * f + p + 1) = nI b ∧ 0 < b ∧ b < 64 ∧ xm (b - 1) = 0) → wX_chooseBlock_107 post xr xs xd xw xk xl xp xn xb xm xh bk bl bp bn bb bm bh xf xt xq xu := by
    intro a b
    unfold wX_chooseBlock_107
    exact jx_startOfLongestRow (fun L s hL => h s (Or.inr (Or.inr ⟨a, b, L, hL⟩)))
  have s2 : (¬ ∃ b, 0 < p ∧ xb (24 * f + p - 1) = nI b ∧ b < 63 ∧ xm (b + 1) = 0) → wX_chooseBlock_56 post (nI p) (nI (24 * f + p)) xr xs xd xw xk xl xp xn xb xm xh bk bl bp bn bb bm bh xf xt xq xu := by
    intro a
    refine pk_le 23 p (fun hh => s3 a (fun ⟨b, h1, _⟩ => by omega)) (fun hh => ?_)
    rw [nI_1]
    refine ⟨vp_in_nI (by omega) (by omega), ?_⟩
    rw [nI_clamp (by omega)]
    refine br_c (fun hc => s3 a (fun ⟨b, _, h2, _, h4, _⟩ => jv_m1n b (by omega) (h2 ▸ hc))) (fun hc => ⟨vp_in_nI (by omega) (by omega), ?_⟩)
    rcases hB (24 * f + p + 1) (by omega) with z | ⟨b, hb, z⟩
    · exact absurd z hc
    · rw [z]
      by_cases e : b = 0
      · subst e
        refine nm_e (jx_isBlock (fun j hj ej => ?_) (fun _ => br_t rfl (s3 a ?_)))
        · exact absurd ej.symm (jv_m1n j (by omega))
        · rintro ⟨b, _, h2, h3, h4, _⟩
          rw [z] at h2
          have := jv_inj h2 (by omega) (by omega)
          omega
      · refine nm_r (show nI b - 1 = nI (b - 1) from by obtain ⟨c, rfl⟩ : ∃ c, b = c + 1 := ⟨b - 1, by omega⟩; rw [nI_pred]; rfl) (jx_isBlock (fun j hj ej => ?_) (fun hn => absurd ⟨b - 1, by omega, rfl⟩ hn))
        refine br_f (by decide) ⟨vp_in_nI (by omega) (by omega), ?_⟩
        rw [nI_clamp (by omega)]
        refine br_c (fun hz => h _ (Or.inr (Or.inl ⟨a, b, by omega, z, by omega, hb, hz, rfl⟩))) (fun hz => s3 a ?_)
        rintro ⟨b', _, h2, h3, h4, h5⟩
        rw [z] at h2
        have := jv_inj h2 (by omega) (by omega)
        subst this
        exact hz h5
  refine pk_le p 0 (fun hh => s2 (fun ⟨b, h1, _⟩ => by omega)) (fun hh => ?_)
  rw [show nI (24 * f + p) - 1 = nI (24 * f + p - 1) from by rw [show 24 * f + p = (24 * f + p - 1) + 1 from by omega, nI_pred]; rfl]
  refine ⟨vp_in_nI (by omega) (by omega), ?_⟩
  rw [nI_clamp (by omega)]
  refine br_c (fun hc => s2 (fun ⟨b, _, h2, h4, _⟩ => jv_m1n b (by omega) (h2 ▸ hc))) (fun hc => ⟨vp_in_nI (by omega) (by omega), ?_⟩)
  rcases hB (24 * f + p - 1) (by omega) with z | ⟨b, hb, z⟩
  · exact absurd z hc
  · rw [z]
    refine nm_r (nI_1 b) (jx_isBlock (fun j hj ej => ?_) (fun hn => br_t rfl (s2 ?_)))
    · have ej := jv_inj ej (by omega) (by omega)
      refine br_f (by decide) ⟨vp_in_nI (by omega) (by omega), ?_⟩
      rw [nI_clamp (by omega)]
      refine br_c (fun hz => h _ (Or.inl ⟨b, by omega, z, by omega, hz, rfl⟩)) (fun hz => s2 ?_)
      rintro ⟨b', _, h2, h3, h4⟩
      rw [z] at h2
      have := jv_inj h2 (by omega) (by omega)
      subst this
      exact hz h4
    · rintro ⟨b', _, h2, h3, h4⟩
      rw [z] at h2
      have := jv_inj h2 (by omega) (by omega)
      exact hn ⟨b + 1, by omega, rfl⟩
end
section
variable {yr ys yd yh yt : Int32} {yk yl yp yn yb yv ym ok ol op on ob ov om yc yg yf yq yu ye : Nat → Int32}
theorem jy_choose {post : Int32 → Prop} {k p : Nat} (hB : jp_BR yb) (hk0 : p ≤ k) (hk : k + (23 - p) < 384) (hp : p < 24) (h : ∀ c, jp_CH yb ym k p c → post c) : wpY_choose post (yr, ys, yd, yh, yt, yk, yl, yp, yn, yb, yv, ym, ok, ol, op, on, ob, ov, om, yc, yg, yf, yq, yu, ye) (nI k) (nI p) := by
  unfold wpY_choose
  have s3 : (¬ ∃ b, 0 < p ∧ yb (k - 1) = nI b ∧ b < 63 ∧ ym (b + 1) = 0) → (¬ ∃ b, p < 23 ∧ yb (k + 1) = nI b ∧ 0 < b ∧ b < 64 ∧ ym (b - 1) = 0) → wY_choose_103 post yr ys yd yh yt yk yl yp yn yb yv ym ok ol op on ob ov om yc yg yf yq yu ye := by
    intro a b
    unfold wY_choose_103
    exact jy_longest (fun L s hL => br_t rfl (h s (Or.inr (Or.inr ⟨a, b, L, hL⟩))))
  have s2 : (¬ ∃ b, 0 < p ∧ yb (k - 1) = nI b ∧ b < 63 ∧ ym (b + 1) = 0) → wY_choose_57 post (nI k) (nI p) yr ys yd yh yt yk yl yp yn yb yv ym ok ol op on ob ov om yc yg yf yq yu ye := by
    intro a
    refine pk_le 23 p (fun hh => s3 a (fun ⟨b, h1, _⟩ => by omega)) (fun hh => ?_)
    rw [nI_1]
    refine ⟨vp_in_nI (by omega) (by omega), ?_⟩
    rw [nI_clamp (by omega)]
    rcases hB (k + 1) (by omega) with z | ⟨b, hb, z⟩
    · rw [z]
      exact br_t (by decide) (s3 a (fun ⟨b, _, h2, _, h4, _⟩ => jv_m1n b (by omega) (by rw [← h2, z])))
    · rw [z]
      refine pk_le b 0 (fun e => s3 a ?_) (fun e => ⟨vp_in_nI (by omega) (by omega), ?_⟩)
      · rintro ⟨b', _, h2, h3, h4, _⟩
        rw [z] at h2
        have := jv_inj h2 (by omega) (by omega)
        omega
      · rw [show nI b - 1 = nI (b - 1) from by obtain ⟨c, rfl⟩ : ∃ c, b = c + 1 := ⟨b - 1, by omega⟩; rw [nI_pred]; rfl]
        refine ⟨vp_in_nI (by omega) (by omega), ?_⟩
        rw [nI_clamp (by omega)]
        refine br_c (fun hz => ⟨vp_in_nI (by omega) (by omega), h _ (Or.inr (Or.inl ⟨a, b, by omega, z, by omega, hb, hz, rfl⟩))⟩) (fun hz => s3 a ?_)
        rintro ⟨b', _, h2, h3, h4, h5⟩
        rw [z] at h2
        have := jv_inj h2 (by omega) (by omega)
        subst this
        exact hz h5
  refine pk_le p 0 (fun hh => s2 (fun ⟨b, h1, _⟩ => by omega)) (fun hh => ?_)
  rw [show nI k - 1 = nI (k - 1) from by obtain ⟨c, rfl⟩ : ∃ c, k = c + 1 := ⟨k - 1, by omega⟩; rw [nI_pred]; rfl]
  refine ⟨vp_in_nI (by omega) (by omega), ?_⟩
  rw [nI_clamp (by omega)]
  rcases hB (k - 1) (by omega) with z | ⟨b, hb, z⟩
  · rw [z]
    exact br_t (by decide) (s2 (fun ⟨b, _, h2, h4, _⟩ => jv_m1n b (by omega) (by rw [← h2, z])))
  · rw [z]
    refine br_f (nI_pos (by omega)) ⟨vp_in_nI (by omega) (by omega), pk_le 63 b (fun e => s2 ?_) (fun e => ⟨vp_in_nI (by omega) (by omega), ?_⟩)⟩
    · rintro ⟨b', _, h2, h3, h4⟩
      rw [z] at h2
      have := jv_inj h2 (by omega) (by omega)
      omega
    · rw [nI_1]
      refine ⟨vp_in_nI (by omega) (by omega), ?_⟩
      rw [nI_clamp (by omega)]
      refine br_c (fun hz => ⟨vp_in_nI (by omega) (by omega), h _ (Or.inl ⟨b, by omega, z, by omega, hz, rfl⟩)⟩) (fun hz => s2 ?_)
      rintro ⟨b', _, h2, h3, h4⟩
      rw [z] at h2
      have := jv_inj h2 (by omega) (by omega)
      subst this
      exact hz h4
end
end
section
/-! the file system as the reference holds it: kinds, links, parents, entries, blocks, ints, marks -/
abbrev jp_FS : Type := (Nat → Int32) × (Nat → Int32) × (Nat → Int32) × (Nat → Int32) × (Nat → Int32) × (Nat → Int32) × (Nat → Int32)
def jp_nc (N : Nat → Int32) (i : Nat) : Nat := jp_cn (fun s => decide (N s = nI i)) 1024
def jp_Z (K L P N B V M : Nat → Int32) : Prop := (∀ i, 16 ≤ i → K i = 0 ∧ L i = 0 ∧ P i = 0) ∧ (∀ i, 1024 ≤ i → N i = 0) ∧ (∀ i, 384 ≤ i → B i = 0) ∧ (∀ i, 64 ≤ i → V i = 0 ∧ M i = 0)
def jp_KR (K : Nat → Int32) : Prop := ∀ i, i < 16 → K i = 0 ∨ K i = 1 ∨ K i = 2
def jp_PR (P : Nat → Int32) : Prop := ∀ i, i < 16 → ∃ p, p < 16 ∧ P i = nI p
def jp_L0 (K L : Nat → Int32) : Prop := ∀ i, i < 16 → K i = 0 → L i = 0
def jp_NE (K N : Nat → Int32) : Prop := ∀ i, i < 16 → ¬ K i = 2 → ∀ h, h < 64 → N (64 * i + h) = -1
def jp_EN (N : Nat → Int32) : Prop := ∀ i, i < 16 → jp_en N i ≤ 10
def jp_BE (K B : Nat → Int32) : Prop := ∀ i, i < 16 → ¬ K i = 1 → ∀ p, p < 24 → B (24 * i + p) = -1
def jp_XN (B : Nat → Int32) : Prop := ∀ i, i < 16 → jp_ne B i ≤ 5
/-- what holds always -/
def jp_I0 : jp_FS → Prop
  | (K, L, P, N, B, V, M) => jp_Z K L P N B V M ∧ jp_KR K ∧ K 0 = 2 ∧ jp_PR P ∧ P 0 = 0 ∧ jp_L0 K L ∧ jp_NR N ∧ jp_NE K N ∧ jp_EN N ∧ jp_BR B ∧ jp_BE K B ∧ jp_XN B
/-- what holds of a volume that isn't damaged -/
def jp_T1 (K P N : Nat → Int32) : Prop := ∃ rk : Nat → Nat, ∀ i, 0 < i → i < 16 → K i = 2 → jp_nc N i = 1 ∧ ∃ p h, p < 16 ∧ h < 64 ∧ P i = nI p ∧ N (64 * p + h) = nI i ∧ rk p < rk i
def jp_UB (B M : Nat → Int32) : Prop := (∀ s t b, s < 384 → t < 384 → b < 64 → B s = nI b → B t = nI b → s = t) ∧ (∀ s b, s < 384 → b < 64 → B s = nI b → M b = 1)
def jp_I1 : jp_FS → Prop
  | (K, L, P, N, B, _, M) => (∀ i, i < 16 → L i = nI (jp_nc N i)) ∧ jp_nc N 0 = 0 ∧ jp_UB B M ∧ jp_T1 K P N
/-- row j of the component's stack holds this -/
def jp_Bef (j : Nat) (bk bl bp bn bb bm bh : Nat → Int32) : jp_FS → Prop
  | (K, L, P, N, B, V, M) => (∀ i, i < 16 → bk (16 * j + i) = K i ∧ bl (16 * j + i) = L i ∧ bp (16 * j + i) = jp_pi K P i) ∧ (∀ i, i < 1024 → bn (1024 * j + i) = jp_ro N i) ∧ (∀ i, i < 384 → bb (384 * j + i) = B i) ∧ (∀ i, i < 64 → bm (64 * j + i) = M i ∧ bh (64 * j + i) = V i)
/-- record j, done again by the reference, goes from the one to the other -/
def jp_Run (j : Nat) (c a b x z : Int32) : jp_FS → jp_FS → Prop
  | (K, L, P, N, B, V, M), (K', L', P', N', B', V', M') => ∀ (post : SY → Prop) (ys yh yt : Int32) (ok ol op on ob ov om yc yg yf yq yu ye : Nat → Int32),
    yc j = c → yg (4 * j) = a → yg (4 * j + 1) = b → yg (4 * j + 2) = x → yg (4 * j + 3) = z →
    post (nI (j + 1), ys, 0, yh, yt, K', L', P', N', B', V', M', ok, ol, op, on, ob, ov, om, yc, yg, yf, yq, yu, ye) →
    wpY_again post (nI j, ys, 0, yh, yt, K, L, P, N, B, V, M, ok, ol, op, on, ob, ov, om, yc, yg, yf, yq, yu, ye) (nI j)
def jp_Log (S : Nat → jp_FS) (r : Nat) (d : Int32) (bk bl bp bn bb bm bh yc yg : Nat → Int32) : Prop :=
  (∀ j, j ≤ r → jp_I0 (S j)) ∧ (d = 0 → ∀ j, j ≤ r → jp_I1 (S j)) ∧ (∀ j, j < r → jp_Bef j bk bl bp bn bb bm bh (S j)) ∧
  (∀ j, j < r → jp_Run j (yc j) (yg (4 * j)) (yg (4 * j + 1)) (yg (4 * j + 2)) (yg (4 * j + 3)) (S j) (S (j + 1)))
/-- the relation at the head of a turn -/
def i_Rel (_ : Nat) (u : SX) (v : SY) : Prop :=
  ∃ (S : Nat → jp_FS) (r s : Nat) (d xw yh yt : Int32) (K L P N B V M bk bl bp bn bb bm bh xq ok ol op on ob ov om yc yg yq F T U : Nat → Int32),
    u = (nI r, nI s, d, xw, K, L, jp_pi K P, jp_ro N, B, M, V, bk, bl, bp, bn, bb, bm, bh, F, T, xq, U) ∧ v = (nI r, nI s, d, yh, yt, K, L, P, N, B, V, M, ok, ol, op, on, ob, ov, om, yc, yg, F, yq, U, T) ∧ S r = (K, L, P, N, B, V, M) ∧ S 0 = (ok, ol, op, on, ob, ov, om) ∧ r ≤ 24 ∧ s ≤ r ∧ (d = 0 ∨ (d = 1 ∧ r = 0)) ∧ jp_Log S r d bk bl bp bn bb bm bh yc yg
theorem i_up {k : Nat} {u : SX} {v : SY} (h : i_Rel k u v) : i_Rel (k + 5) u v := h
section
variable {r s : Nat} {d xw yh yt : Int32} {K L P N B V M bk bl bp bn bb bm bh xq ok ol op on ob ov om yc yg yq F T U : Nat → Int32} {C : Prop}
theorem jr_mended (hc : C) (p : Int32) : wpX_mended (fun r' => wpY_mended (fun r'' => r'' = r' ∧ C) (nI r, nI s, d, yh, yt, K, L, P, N, B, V, M, ok, ol, op, on, ob, ov, om, yc, yg, F, yq, U, T) p) (nI r, nI s, d, xw, K, L, jp_pi K P, jp_ro N, B, M, V, bk, bl, bp, bn, bb, bm, bh, F, T, xq, U) p := by
  unfold wpX_mended wpY_mended
  rcases pk_ix p (n := 5) (by omega) with h | h | ⟨j, hj, rfl⟩
  · exact br_t h (jy_in (M := 4) (by omega) (fun j hj e => absurd h (by rw [e]; exact nI_pos (by omega))) (fun _ => br_t rfl ⟨rfl, hc⟩))
  · have h0 : ¬ p < 0 := fun z => absurd (Int32.lt_of_le_of_lt h z) (by decide)
    exact br_f h0 (br_t h (jy_in (M := 4) (by omega) (fun j hj e => absurd ⟨j, hj, e⟩ (jv_rn (by omega) (Or.inr h))) (fun _ => br_t rfl ⟨rfl, hc⟩)))
  · exact br_f (nI_pos (by omega)) (br_f (nI_ge (b := 5) hj (by omega)) ⟨vp_in_nI hj (by omega), jy_in (M := 4) (by omega) (fun _ _ _ => br_f (by decide) ⟨vp_in_nI hj (by omega), rfl, hc⟩) (fun hn => absurd ⟨j, hj, rfl⟩ hn)⟩)
theorem jr_find (hc : C) (p q : Int32) : wpX_find (fun r' => wpY_find (fun r'' => r'' = r' ∧ C) (nI r, nI s, d, yh, yt, K, L, P, N, B, V, M, ok, ol, op, on, ob, ov, om, yc, yg, F, yq, U, T) p q) (nI r, nI s, d, xw, K, L, jp_pi K P, jp_ro N, B, M, V, bk, bl, bp, bn, bb, bm, bh, F, T, xq, U) p q := by
  unfold wpX_find wpY_find
  refine jx_hasEntry (fun a n ha hn e1 e2 hk he => br_f (by decide) ?_) (fun hno => br_t rfl (jy_is (fun a ha e1 hk => br_f (by decide) (jy_in (M := 63) (by omega) (fun n hn e2 => br_f (by decide) ?_) (fun _ => br_t rfl ⟨rfl, hc⟩))) (fun _ => br_t rfl ⟨rfl, hc⟩)))
  · subst e1 e2
    have := jp_s_lt n
    refine jx_spotOf hn ⟨vp_in_nI (by omega) (by omega), ?_⟩
    rw [nI_clamp (by omega), jp_ro_n N a hn]
    refine jy_is (fun j hj e _ => br_f (by decide) (jy_in (M := 63) (by omega) (fun m hm e2 => br_f (by decide) ?_) (fun hh => absurd ⟨n, hn, rfl⟩ hh))) (fun hh => absurd ⟨a, ha, rfl, hk⟩ hh)
    rw [jv_e64, nI_clamp (by omega)]
    exact ⟨vp_in_nI (by omega) (by omega), rfl, hc⟩
  · subst e1 e2
    rw [jv_e64, nI_clamp (by omega)]
    refine ⟨vp_in_nI (by omega) (by omega), ?_, hc⟩
    apply Classical.byContradiction
    intro z
    exact hno ⟨a, n, ha, hn, rfl, rfl, hk, by rw [jp_ro_n N a hn]; exact z⟩
theorem jp_ov_some (i : Nat) (v : Nat → Int32) : jp_ov (some i) v = v i := rfl
theorem jv_nameAt {a h : Nat} (ha : a < 16) (hh : h < 64) : (45 * ((nI (64 * a + h) - nI (64 * a + h) / 64 * 64) + 53)) - (45 * ((nI (64 * a + h) - nI (64 * a + h) / 64 * 64) + 53)) / 64 * 64 = nI (jp_t h) := by
  rw [jv_64, pk_rem (by omega) (by omega) (by omega), show (64 * a + h) % 64 = h from by omega, show (53 : Int32) = nI 53 from rfl, nI_add, show (45 : Int32) = nI 45 from rfl, pk_mul, pk_rem (by omega) (by omega) (by omega)]
  rfl
theorem jr_entry (hc : C) (hN : jp_NR N) (p k q : Int32) : wpX_entry (fun r' => wpY_entry (fun r'' => r'' = r' ∧ C) (nI r, nI s, d, yh, yt, K, L, P, N, B, V, M, ok, ol, op, on, ob, ov, om, yc, yg, F, yq, U, T) p k q) (nI r, nI s, d, xw, K, L, jp_pi K P, jp_ro N, B, M, V, bk, bl, bp, bn, bb, bm, bh, F, T, xq, U) p k q := by
  unfold wpX_entry wpY_entry
  have bad : ∀ z : Int32, (¬ ∃ j, j < 2 ∧ q = nI j) → wY_entry_23 (fun r'' => r'' = -1 ∧ C) p q z (nI r) (nI s) d yh yt K L P N B V M ok ol op on ob ov om yc yg F yq U T := by
    intro z hq
    unfold wY_entry_23
    exact br_c (fun _ => ⟨rfl, hc⟩) (fun _ => jy_in (M := 1) (by omega) (fun j hj e => absurd ⟨j, hj, e⟩ hq) (fun _ => br_t rfl ⟨rfl, hc⟩))
  have neg : wY_entry_23 (fun r'' => r'' = -1 ∧ C) p q (-1) (nI r) (nI s) d yh yt K L P N B V M ok ol op on ob ov om yc yg F yq U T := br_t (by decide) ⟨rfl, hc⟩
  have badY : (¬ ∃ j, j < 2 ∧ q = nI j) → wpY_is (fun r_1 => (r_1 = 0 → wY_entry_22 (fun r'' => r'' = -1 ∧ C) p q (nI r) (nI s) d yh yt K L P N B V M ok ol op on ob ov om yc yg F yq U T) ∧ (¬ r_1 = 0 → (k < 0 → wY_entry_22 (fun r'' => r'' = -1 ∧ C) p q (nI r) (nI s) d yh yt K L P N B V M ok ol op on ob ov om yc yg F yq U T) ∧ (¬ k < 0 → wpY_nameOf (fun r_34 => wY_entry_23 (fun r'' => r'' = -1 ∧ C) p q r_34 (nI r) (nI s) d yh yt K L P N B V M ok ol op on ob ov om yc yg F yq U T) (nI r, nI s, d, yh, yt, K, L, P, N, B, V, M, ok, ol, op, on, ob, ov, om, yc, yg, F, yq, U, T) p k))) (nI r, nI s, d, yh, yt, K, L, P, N, B, V, M, ok, ol, op, on, ob, ov, om, yc, yg, F, yq, U, T) p 2 := by
    intro hq
    refine jy_is (fun a ha e hk => br_f (by decide) (br_c (fun _ => neg) (fun _ => ?_))) (fun _ => br_t rfl neg)
    subst e
    exact jy_nameOf hN ha (bad _ hq)
  refine jx_isDirectory (fun a ha e hk => br_f (by decide) ?_) (fun hno => br_t rfl (jy_is (fun a ha e hk => absurd ⟨a, ha, e, hk⟩ hno) (fun _ => br_t rfl neg)))
  rcases pk_ix q (n := 2) (by omega) with h | h | ⟨x, hx, rfl⟩
  · exact br_t h (badY (jv_rn (by omega) (Or.inl h)))
  · have h0 : ¬ q < 0 := fun z => absurd (Int32.lt_of_le_of_lt h z) (by decide)
    have h1 : ¬ q ≤ 1 := fun z => absurd (Int32.le_trans h z) (by decide)
    exact br_f h0 (br_f h1 (badY (jv_rn (by omega) (Or.inr h))))
  · subst e
    refine br_f (nI_pos (by omega)) (br_t (nI_le (b := 1) (by omega) (by omega)) (jx_spotOfEntry ha ?_))
    rw [jp_kth_congr (g := fun h => decide (¬ N (64 * a + jp_t h) = -1)) k 64 0 0 (fun j _ hj => by rw [jp_ro_h N a (by omega)])]
    cases hkth : jp_kth (fun h => decide (¬ N (64 * a + jp_t h) = -1)) k 64 0 0 with
    | none =>
      refine br_t rfl (jy_is (fun b hb e hk2 => br_f (by decide) (br_c (fun _ => neg) (fun _ => jy_nameOf hN ha ?_))) (fun hh => absurd ⟨a, ha, rfl, hk⟩ hh))
      rw [hkth]; exact neg
    | some h =>
      have hs := jp_kth_some _ _ _ _ _ _ hkth
      have hlt := jp_t_lt h
      have fin : ∀ z : Int32, (x = 0 → z = nI (jp_t h)) → (¬ x = 0 → z = N (64 * a + jp_t h)) → wpY_is (fun r_1 => (r_1 = 0 → wY_entry_22 (fun r'' => r'' = z ∧ C) (nI a) (nI x) (nI r) (nI s) d yh yt K L P N B V M ok ol op on ob ov om yc yg F yq U T) ∧ (¬ r_1 = 0 → (k < 0 → wY_entry_22 (fun r'' => r'' = z ∧ C) (nI a) (nI x) (nI r) (nI s) d yh yt K L P N B V M ok ol op on ob ov om yc yg F yq U T) ∧ (¬ k < 0 → wpY_nameOf (fun r_34 => wY_entry_23 (fun r'' => r'' = z ∧ C) (nI a) (nI x) r_34 (nI r) (nI s) d yh yt K L P N B V M ok ol op on ob ov om yc yg F yq U T) (nI r, nI s, d, yh, yt, K, L, P, N, B, V, M, ok, ol, op, on, ob, ov, om, yc, yg, F, yq, U, T) (nI a) k))) (nI r, nI s, d, yh, yt, K, L, P, N, B, V, M, ok, ol, op, on, ob, ov, om, yc, yg, F, yq, U, T) (nI a) 2 := by
        intro z z0 z1
        refine jy_is (fun b hb e hk2 => br_f (by decide) (br_c (fun hneg => ?_) (fun _ => jy_nameOf hN ha ?_))) (fun hh => absurd ⟨a, ha, rfl, hk⟩ hh)
        · rw [jp_kth_neg _ _ hneg _ _ _ (by omega)] at hkth; simp at hkth
        · rw [hkth]
          refine br_f (nI_pos (by omega)) (jy_in (M := 1) (by omega) (fun j hj e => br_f (by decide) (pk_eq x 0 (fun e0 => ⟨(z0 e0).symm, hc⟩) (fun e0 => ?_))) (fun hh => absurd ⟨x, hx, rfl⟩ hh))
          rw [jp_ov_some, jv_e64, nI_clamp (by omega)]
          exact ⟨vp_in_nI (by omega) (by omega), (z1 e0).symm, hc⟩
      rw [jp_ov_some]
      refine br_f (jv_m1n _ (by omega)) (pk_eq x 0 (fun e0 => ⟨by decide, by decide, ?_⟩) (fun e0 => ⟨vp_in_nI (by omega) (by omega), ?_⟩))
      · rw [jv_nameAt ha (by omega)]
        exact fin _ (fun _ => rfl) (fun z => absurd e0 z)
      · rw [nI_clamp (by omega), jp_ro_h N a (by omega)]
        exact fin _ (fun z => absurd z e0) (fun _ => rfl)
end
end
section
section
variable {yr ys yd yh yt : Int32} {yk yl yp yn yb yv ym ok ol op on ob ov om yc yg yf yq yu ye : Nat → Int32}
theorem jy_ofc {post : Int32 → Prop} {a : Nat} (hB : jp_BR yb) (hN : jp_NR yn) (ha : a < 16) (h1 : yk a = 1 → post (nI (jp_cn (fun h => decide (¬ yb (24 * a + h) = -1)) 24))) (h2 : ¬ yk a = 1 → post (nI (jp_en yn a))) : ∃ n, wY_of_116 post (nI a) yr ys yd yh yt yk yl yp yn yb yv ym ok ol op on ob ov om yc yg yf yq yu ye n 0 (24 * nI a) := by
  rw [jv_c24]
  refine jv_cnt (fun n s i => wY_of_116 post (nI a) yr ys yd yh yt yk yl yp yn yb yv ym ok ol op on ob ov om yc yg yf yq yu ye n (nI s) (nI (24 * a + i))) (fun h => decide (¬ yb (24 * a + h) = -1)) 24 (fun n => br_t ?_ ⟨vp_in_nI ha (by omega), ?_⟩) (fun n i s hi ht hf => br_f ?_ ⟨vp_in_nI (by omega) (by omega), ?_⟩)
  · rw [jv_d24]; exact nI_le (by omega) (by omega)
  · rw [nI_clamp (by omega)]
    exact br_c h1 (fun hk => jy_entries hN ha (h2 hk))
  · rw [jv_d24]; exact nI_ge (by omega) (by omega)
  · rw [nI_clamp (by omega), jp_neg (by omega) (hB (24 * a + i) (by omega))]
    exact br_c (fun hc => nm_r (nI_1 _) (hf (by simp [hc]))) (fun hc => nm_r (nI_1 _) (nm_r (nI_1 _) (ht (by simp [hc]))))
end
section
variable {r s : Nat} {d xw yh yt : Int32} {K L P N B V M bk bl bp bn bb bm bh xq ok ol op on ob ov om yc yg yq F T U : Nat → Int32} {C : Prop}
theorem jr_of (hc : C) (hK : jp_KR K) (hN : jp_NR N) (hB : jp_BR B) (p q : Int32) : wpX_of (fun r' => wpY_of (fun r'' => r'' = r' ∧ C) (nI r, nI s, d, yh, yt, K, L, P, N, B, V, M, ok, ol, op, on, ob, ov, om, yc, yg, F, yq, U, T) p q) (nI r, nI s, d, xw, K, L, jp_pi K P, jp_ro N, B, M, V, bk, bl, bp, bn, bb, bm, bh, F, T, xq, U) p q := by
  unfold wpX_of
  refine jx_isInode (fun a ha e => br_f (by decide) ?_) (fun hno => br_t rfl (by unfold wpY_of; exact jy_in (M := 15) (by omega) (fun a ha e => absurd ⟨a, ha, e⟩ hno) (fun _ => br_t rfl ⟨rfl, hc⟩)))
  subst e
  rw [nI_clamp (n := a) (by omega)]
  have hv : vp_in (nI a) 16 := vp_in_nI ha (by omega)
  have wrap : ∀ x : Int32, (¬ ∃ j, j < 5 ∧ q = nI j) → wpY_of (fun r'' => r'' = -1 ∧ C) (nI r, nI s, d, yh, yt, K, L, P, N, B, V, M, ok, ol, op, on, ob, ov, om, yc, yg, F, yq, U, T) (nI a) q := fun _ hq => by
    unfold wpY_of
    exact jy_in (M := 15) (by omega) (fun _ _ _ => br_f (by decide) (jy_in (M := 4) (by omega) (fun j hj e => absurd ⟨j, hj, e⟩ hq) (fun _ => br_t rfl ⟨rfl, hc⟩))) (fun hno => absurd ⟨a, ha, rfl⟩ hno)
  have go : ∀ (z : Int32) (j : Nat), j < 5 → q = nI j → ((q = 0 → z = K a) ∧ (¬ q = 0 → (K a = 0 → z = -1) ∧ (¬ K a = 0 → (q = 3 → (K a = 1 → wY_of_56 (fun r'' => r'' = z ∧ C) (nI a) q (nI r) (nI s) d yh yt K L P N B V M ok ol op on ob ov om yc yg F yq U T) ∧ (¬ K a = 1 → z = -1)) ∧ (¬ q = 3 → wY_of_56 (fun r'' => r'' = z ∧ C) (nI a) q (nI r) (nI s) d yh yt K L P N B V M ok ol op on ob ov om yc yg F yq U T)))) → wpY_of (fun r'' => r'' = z ∧ C) (nI r, nI s, d, yh, yt, K, L, P, N, B, V, M, ok, ol, op, on, ob, ov, om, yc, yg, F, yq, U, T) (nI a) q := by
    intro z j hj e H
    unfold wpY_of
    refine jy_in (M := 15) (by omega) (fun _ _ _ => br_f (by decide) (jy_in (M := 4) (by omega) (fun _ _ _ => br_f (by decide) ?_) (fun hno => absurd ⟨j, hj, e⟩ hno))) (fun hno => absurd ⟨a, ha, rfl⟩ hno)
    rw [nI_clamp (n := a) (by omega)]
    refine br_c (fun h0 => ⟨hv, (H.1 h0).symm, hc⟩) (fun h0 => ⟨hv, br_c (fun k0 => ⟨((H.2 h0).1 k0).symm, hc⟩) (fun k0 => br_c (fun h3 => ⟨hv, ?_⟩) (fun h3 => ((H.2 h0).2 k0).2 h3))⟩)
    exact br_c (fun k1 => (((H.2 h0).2 k0).1 h3).1 k1) (fun k1 => ⟨((((H.2 h0).2 k0).1 h3).2 k1).symm, hc⟩)
  have h56 : ∀ z : Int32, ¬ q = 4 → wY_of_73 (fun r'' => r'' = z ∧ C) (nI a) q (nI r) (nI s) d yh yt K L P N B V M ok ol op on ob ov om yc yg F yq U T → wY_of_56 (fun r'' => r'' = z ∧ C) (nI a) q (nI r) (nI s) d yh yt K L P N B V M ok ol op on ob ov om yc yg F yq U T := fun z h4 h => br_f h4 h
  rcases pk_ix q (n := 5) (by omega) with h | h | ⟨j, hj, e⟩
  · have q0 : ¬ q = 0 := fun e => absurd h (by rw [e]; decide)
    have q1 : q < 1 := Int32.lt_trans h (by decide)
    refine br_f q0 ⟨hv, br_c (fun _ => wrap 0 (jv_rn (by omega) (Or.inl h))) (fun _ => ⟨hv, br_c (fun _ => br_t q1 (wrap 0 (jv_rn (by omega) (Or.inl h)))) (fun _ => br_t q1 (wrap 0 (jv_rn (by omega) (Or.inl h))))⟩)⟩
  · have q0 : ¬ q = 0 := fun e => absurd h (by rw [e]; decide)
    have q1 : ¬ q < 1 := fun z => absurd (Int32.lt_of_le_of_lt h z) (by decide)
    have q4 : 4 < q := Int32.lt_of_lt_of_le (by decide) h
    refine br_f q0 ⟨hv, br_c (fun _ => wrap 0 (jv_rn (by omega) (Or.inr h))) (fun _ => ⟨hv, br_c (fun _ => br_f q1 (br_t q4 (wrap 0 (jv_rn (by omega) (Or.inr h))))) (fun _ => br_f q1 (br_t q4 (wrap 0 (jv_rn (by omega) (Or.inr h)))))⟩)⟩
  · have go := fun z => go z j hj e
    have e5 : q = 0 ∨ q = 1 ∨ q = 2 ∨ q = 3 ∨ q = 4 := by
      rcases (by omega : j = 0 ∨ j = 1 ∨ j = 2 ∨ j = 3 ∨ j = 4) with rfl | rfl | rfl | rfl | rfl
      · exact Or.inl e
      · exact Or.inr (Or.inl e)
      · exact Or.inr (Or.inr (Or.inl e))
      · exact Or.inr (Or.inr (Or.inr (Or.inl e)))
      · exact Or.inr (Or.inr (Or.inr (Or.inr e)))
    clear e wrap
    rcases e5 with rfl | rfl | rfl | rfl | rfl
    · exact br_t rfl ⟨hv, go _ (br_t rfl rfl)⟩
    all_goals refine br_f (by decide) ⟨hv, br_c (fun k0 => go _ (br_f (by decide) (br_t k0 rfl))) (fun k0 => ⟨hv, br_c (fun k2 => br_f (by decide) (br_f (by decide) ?_)) (fun k2 => br_f (by decide) (br_f (by decide) ?_))⟩)⟩
    · refine br_t rfl ⟨hv, ?_⟩
      rw [nI_clamp (n := a) (by omega)]
      refine go _ (br_f (by decide) (br_f k0 (br_f (by decide) (h56 _ (by decide) (br_t rfl ⟨hv, ?_, hc⟩)))))
      rw [nI_clamp (n := a) (by omega)]
    · refine br_t rfl ⟨hv, ?_⟩
      rw [nI_clamp (n := a) (by omega)]
      refine go _ (br_f (by decide) (br_f k0 (br_f (by decide) (h56 _ (by decide) (br_t rfl ⟨hv, ?_, hc⟩)))))
      rw [nI_clamp (n := a) (by omega)]
    · refine br_f (by decide) (br_t rfl (br_f (by decide) (jx_countEntries' ha (go _ (br_f (by decide) (br_f k0 (br_f (by decide) (h56 _ (by decide) (br_f (by decide) (br_f (by decide) (br_f (by decide) (nm_e (jy_ofc hB hN ha (fun k1 => ?_) (fun k1 => ⟨rfl, hc⟩))))))))))))))
      rw [k2] at k1; exact absurd k1 (by decide)
    · have k1 : K a = 1 := (hK a ha).elim (fun h => absurd h k0) (fun h => h.elim id (fun h => absurd h k2))
      exact br_f (by decide) (br_t rfl (br_t rfl (jx_countMapped ha (go _ (br_f (by decide) (br_f k0 (br_f (by decide) (h56 _ (by decide) (br_f (by decide) (br_f (by decide) (br_f (by decide) (nm_e (jy_ofc hB hN ha (fun _ => ⟨rfl, hc⟩) (fun k => absurd k1 k))))))))))))))
    · refine br_f (by decide) (br_f (by decide) (br_t rfl (br_f (by decide) (go _ (br_f (by decide) (br_f k0 (br_t rfl (br_f ?_ rfl))))))))
      rw [k2]; decide
    · have k1 : K a = 1 := (hK a ha).elim (fun h => absurd h k0) (fun h => h.elim id (fun h => absurd h k2))
      exact br_f (by decide) (br_f (by decide) (br_t rfl (br_t rfl (jx_countExtents ha (go _ (br_f (by decide) (br_f k0 (br_t rfl (br_t k1 (h56 _ (by decide) (br_f (by decide) (br_t rfl (jy_extents hB ha ⟨rfl, hc⟩)))))))))))))
    · refine br_f (by decide) (br_f (by decide) (br_f (by decide) (br_t rfl (br_f (by decide) ⟨hv, ?_⟩))))
      rw [nI_clamp (n := a) (by omega), show jp_pi K P a = P a from if_neg k0]
      refine go _ (br_f (by decide) (br_f k0 (br_f (by decide) (br_t rfl ⟨hv, ?_⟩))))
      rw [nI_clamp (n := a) (by omega)]
      refine br_t k2 (br_f (by decide) (br_f (by decide) (br_t rfl ⟨hv, ?_, hc⟩)))
      rw [nI_clamp (n := a) (by omega)]
    · refine br_f (by decide) (br_f (by decide) (br_f (by decide) (br_t rfl (br_t rfl (go _ (br_f (by decide) (br_f k0 (br_f (by decide) (br_t rfl ⟨hv, ?_⟩)))))))))
      rw [nI_clamp (n := a) (by omega)]
      exact br_f k2 ⟨rfl, hc⟩
theorem jr_read (hc : C) (hB : jp_BR B) (p q : Int32) : wpX_read (fun r' => wpY_read (fun r'' => r'' = r' ∧ C) (nI r, nI s, d, yh, yt, K, L, P, N, B, V, M, ok, ol, op, on, ob, ov, om, yc, yg, F, yq, U, T) p q) (nI r, nI s, d, xw, K, L, jp_pi K P, jp_ro N, B, M, V, bk, bl, bp, bn, bb, bm, bh, F, T, xq, U) p q := by
  unfold wpX_read wpY_read
  refine jx_isFile (fun a ha e hk => br_f (by decide) (jx_isPosition (fun n hn e2 => br_f (by decide) ?_) (fun hno => br_t rfl ?_))) (fun hno => br_t rfl (jy_is (fun a ha e hk => absurd ⟨a, ha, e, hk⟩ hno) (fun _ => br_t rfl ⟨rfl, hc⟩)))
  · subst e e2
    rw [jv_f24]
    refine ⟨vp_in_nI (by omega) (by omega), ?_⟩
    rw [nI_clamp (by omega)]
    have yy : ∀ z : Int32, (B (24 * a + n) = -1 → z = 0) → (∀ b, b < 64 → B (24 * a + n) = nI b → z = V b) → wpY_is (fun r_1 => (r_1 = 0 → (fun r'' => r'' = z ∧ C) 0) ∧ (¬ r_1 = 0 → wpY_in (fun r_28 => (r_28 = 0 → (fun r'' => r'' = z ∧ C) 0) ∧ (¬ r_28 = 0 → vp_in (24 * nI a + nI n) 384 ∧ ((0 ≤ B (24 * nI a + nI n).toNatClampNeg → vp_in (24 * nI a + nI n) 384 ∧ vp_in (B (24 * nI a + nI n).toNatClampNeg) 64 ∧ (fun r'' => r'' = z ∧ C) (V (B (24 * nI a + nI n).toNatClampNeg).toNatClampNeg)) ∧ (¬ 0 ≤ B (24 * nI a + nI n).toNatClampNeg → (fun r'' => r'' = z ∧ C) 0)))) (nI n) 0 23)) (nI r, nI s, d, yh, yt, K, L, P, N, B, V, M, ok, ol, op, on, ob, ov, om, yc, yg, F, yq, U, T) (nI a) 1 := by
      intro z z1 z2
      refine jy_is (fun _ _ _ _ => br_f (by decide) (jy_in (M := 23) (by omega) (fun _ _ _ => br_f (by decide) ?_) (fun hno => absurd ⟨n, hn, rfl⟩ hno))) (fun hno => absurd ⟨a, ha, rfl, hk⟩ hno)
      rw [jv_e24, nI_clamp (by omega)]
      refine ⟨vp_in_nI (by omega) (by omega), ?_⟩
      rcases hB (24 * a + n) (by omega) with z0 | ⟨b, hb, z0⟩
      · rw [z0]; exact br_f (by decide) ⟨(z1 z0).symm, hc⟩
      · rw [z0]
        refine br_t (nI_pos' (by omega)) ⟨vp_in_nI (by omega) (by omega), vp_in_nI hb (by omega), ?_, hc⟩
        rw [nI_clamp (by omega)]; exact (z2 b hb z0).symm
    refine nm_e (br_c (fun hm => yy 0 (fun _ => rfl) (fun b hb z => ?_)) (fun hm => ?_))
    · rw [hm] at z; exact absurd z.symm (jv_m1n b (by omega))
    · rcases hB (24 * a + n) (by omega) with z0 | ⟨b, hb, z0⟩
      · exact absurd z0 hm
      · rw [z0]
        refine ⟨vp_in_nI hb (by omega), ?_⟩
        rw [nI_clamp (by omega)]
        refine yy _ (fun z => absurd z hm) (fun b' hb' z => ?_)
        rw [z0] at z
        rw [jv_inj z (by omega) (by omega)]
  · exact jy_is (fun _ _ _ _ => br_f (by decide) (jy_in (M := 23) (by omega) (fun n hn e => absurd ⟨n, hn, e⟩ hno) (fun _ => br_t rfl ⟨rfl, hc⟩))) (fun _ => br_t rfl ⟨rfl, hc⟩)
theorem jr_extent (hc : C) (hB : jp_BR B) (p k q : Int32) : wpX_extent (fun r' => wpY_extent (fun r'' => r'' = r' ∧ C) (nI r, nI s, d, yh, yt, K, L, P, N, B, V, M, ok, ol, op, on, ob, ov, om, yc, yg, F, yq, U, T) p k q) (nI r, nI s, d, xw, K, L, jp_pi K P, jp_ro N, B, M, V, bk, bl, bp, bn, bb, bm, bh, F, T, xq, U) p k q := by
  unfold wpX_extent
  have neg : wY_extent_23 (fun r'' => r'' = -1 ∧ C) p q (-1) (nI r) (nI s) d yh yt K L P N B V M ok ol op on ob ov om yc yg F yq U T := br_t (by decide) ⟨rfl, hc⟩
  refine jx_isFile (fun a ha e hk => br_f (by decide) ?_) (fun hno => br_t rfl (by unfold wpY_extent; exact jy_is (fun a ha e hk => absurd ⟨a, ha, e, hk⟩ hno) (fun _ => br_t rfl neg)))
  subst e
  refine jx_startOfExtent ha ?_
  cases hkth : jp_kth (jp_be B a) k 24 0 0 with
  | none =>
    refine br_t rfl ?_
    unfold wpY_extent
    refine jy_is (fun b hb e hk2 => br_f (by decide) (br_c (fun _ => neg) (fun _ => jy_extentAt hB ha ?_))) (fun hh => absurd ⟨a, ha, rfl, hk⟩ hh)
    rw [hkth]; exact neg
  | some n =>
    have hs := jp_kth_some _ _ _ _ _ _ hkth
    rw [jp_ov_some]
    refine br_f (jv_m1n _ (by omega)) ?_
    have fin : ∀ z : Int32, (∀ j, j < 3 → q = nI j → (q = 0 → z = nI n) ∧ (¬ q = 0 → (q = 1 → z = B (24 * a + n)) ∧ (¬ q = 1 → wpY_lengthAt (fun r'' => r'' = z ∧ C) (nI r, nI s, d, yh, yt, K, L, P, N, B, V, M, ok, ol, op, on, ob, ov, om, yc, yg, F, yq, U, T) (nI a) (nI n)))) → ((¬ ∃ j, j < 3 ∧ q = nI j) → z = -1) → wpY_extent (fun r'' => r'' = z ∧ C) (nI r, nI s, d, yh, yt, K, L, P, N, B, V, M, ok, ol, op, on, ob, ov, om, yc, yg, F, yq, U, T) (nI a) k q := by
      intro z h1 h2
      unfold wpY_extent
      refine jy_is (fun b hb e hk2 => br_f (by decide) (br_c (fun hneg => ?_) (fun _ => jy_extentAt hB ha ?_))) (fun hh => absurd ⟨a, ha, rfl, hk⟩ hh)
      · rw [jp_kth_neg _ _ hneg _ _ _ (by omega)] at hkth; simp at hkth
      · rw [hkth, jp_ov_some]
        refine br_f (nI_pos (by omega)) (jy_in (M := 2) (by omega) (fun j hj e => br_f (by decide) (br_c (fun e0 => ⟨((h1 j hj e).1 e0).symm, hc⟩) (fun e0 => br_c (fun e1 => ?_) (fun e1 => ((h1 j hj e).2 e0).2 e1)))) (fun hno => br_t rfl ⟨(h2 hno).symm, hc⟩))
        rw [jv_e24, nI_clamp (by omega)]
        exact ⟨vp_in_nI (by omega) (by omega), (((h1 j hj e).2 e0).1 e1).symm, hc⟩
    rcases pk_ix q (n := 3) (by omega) with h | h | ⟨j, hj, e⟩
    · have hno := jv_rn (N := 3) (by omega) (Or.inl h)
      exact br_t h (fin _ (fun j hj e => absurd ⟨j, hj, e⟩ hno) (fun _ => rfl))
    · have hno := jv_rn (N := 3) (by omega) (Or.inr h)
      have q1 : ¬ q < 0 := fun z => absurd (Int32.lt_of_le_of_lt h z) (by decide)
      have q4 : 2 < q := Int32.lt_of_lt_of_le (by decide) h
      exact br_f q1 (br_t q4 (fin _ (fun j hj e => absurd ⟨j, hj, e⟩ hno) (fun _ => rfl)))
    · have hno : ¬ ¬ ∃ j, j < 3 ∧ q = nI j := fun z => z ⟨j, hj, e⟩
      have e3 : q = 0 ∨ q = 1 ∨ q = 2 := by
        rcases (by omega : j = 0 ∨ j = 1 ∨ j = 2) with rfl | rfl | rfl
        · exact Or.inl e
        · exact Or.inr (Or.inl e)
        · exact Or.inr (Or.inr e)
      clear e
      rcases e3 with rfl | rfl | rfl
      · exact br_f (by decide) (br_f (by decide) (br_t rfl (fin _ (fun _ _ _ => br_t rfl rfl) (fun z => absurd z hno))))
      · refine br_f (by decide) (br_f (by decide) (br_f (by decide) (br_t rfl ?_)))
        rw [jv_f24, nI_clamp (by omega)]
        exact ⟨vp_in_nI (by omega) (by omega), fin _ (fun _ _ _ => br_f (by decide) (br_t rfl rfl)) (fun z => absurd z hno)⟩
      · have hbe := hs.2.2
        simp only [jp_be, decide_eq_true_eq] at hbe
        rcases hB (24 * a + n) (by omega) with z0 | ⟨b, hb, z0⟩
        · exact absurd z0 hbe.1
        · refine br_f (by decide) (br_f (by decide) (br_f (by decide) (br_f (by decide) (br_t rfl (jx_lengthOfExtent ha (by omega) hb z0 (fun Ln hL => ?_))))))
          refine fin _ (fun _ _ _ => br_f (by decide) (br_f (by decide) (jy_lengthAt ha (by omega) hb z0 (fun L2 hL2 => ⟨?_, hc⟩)))) (fun z => absurd z hno)
          rw [jp_Len_un hL hL2]
theorem jr_state (hc : C) (hd : d = 0 ∨ d = 1) (q : Int32) : wpX_state (fun r' => wpY_state (fun r'' => r'' = r' ∧ C) (nI r, nI s, d, yh, yt, K, L, P, N, B, V, M, ok, ol, op, on, ob, ov, om, yc, yg, F, yq, U, T) q) (nI r, nI s, d, xw, K, L, jp_pi K P, jp_ro N, B, M, V, bk, bl, bp, bn, bb, bm, bh, F, T, xq, U) q := by
  have yy : ∀ z : Int32, (((q < 0 → z = -1) ∧ (¬ q < 0 → (5 < q → z = -1) ∧ (¬ 5 < q → (q = 0 → z = nI (jp_cn (fun s => decide (M s = 0)) 64)) ∧ (¬ q = 0 → (q = 1 → ∀ L s, jp_LR M 64 L s → z = nI L) ∧ (¬ q = 1 → (q = 2 → z = nI r) ∧ (¬ q = 2 → (q = 3 → z = nI s) ∧ (¬ q = 3 → (q = 4 → z = nI (jp_cn (fun s => decide (¬ K s = 0)) 16)) ∧ (¬ q = 4 → (q = 5 → z = d)))))))))) → wpY_state (fun r'' => r'' = z ∧ C) (nI r, nI s, d, yh, yt, K, L, P, N, B, V, M, ok, ol, op, on, ob, ov, om, yc, yg, F, yq, U, T) q := by
    intro z H
    unfold wpY_state
    refine jv_cnt (fun n c i => wY_state_4 (fun r'' => r'' = z ∧ C) q (nI r) (nI s) d yh yt K L P N B V M ok ol op on ob ov om yc yg F yq U T n (nI c) (nI i)) (fun s => decide (M s = 0)) 64 (fun n => br_t (nI_le (a := 64) (by omega) (by omega)) ?_) (fun n i s hi ht hf => br_f (nI_ge (b := 64) hi (by omega)) ⟨vp_in_nI (by omega) (by omega), ?_⟩)
    · refine jv_cnt (fun n c i => wY_state_33 (fun r'' => r'' = z ∧ C) q _ (nI r) (nI s) d yh yt K L P N B V M ok ol op on ob ov om yc yg F yq U T n (nI c) (nI i)) (fun s => decide (¬ K s = 0)) 16 (fun n => br_t (nI_le (a := 16) (by omega) (by omega)) ?_) (fun n i s hi ht hf => br_f (nI_ge (b := 16) hi (by omega)) ⟨vp_in_nI (by omega) (by omega), ?_⟩)
      · refine br_c (fun h => ⟨(H.1 h).symm, hc⟩) (fun h => ?_)
        have H := H.2 h
        refine br_c (fun h => ⟨(H.1 h).symm, hc⟩) (fun h => ?_)
        have H := H.2 h
        refine br_c (fun h => ⟨(H.1 h).symm, hc⟩) (fun h => ?_)
        have H := H.2 h
        refine br_c (fun h => jy_longest (fun L s hL => br_f (by decide) ⟨(H.1 h L s hL).symm, hc⟩)) (fun h => ?_)
        have H := H.2 h
        refine br_c (fun h => ⟨(H.1 h).symm, hc⟩) (fun h => ?_)
        have H := H.2 h
        refine br_c (fun h => ⟨(H.1 h).symm, hc⟩) (fun h => ?_)
        have H := H.2 h
        refine br_c (fun h => ⟨(H.1 h).symm, hc⟩) (fun h => ?_)
        have H := H.2 h
        refine br_c (fun h => br_c (fun h0 => ⟨?_, hc⟩) (fun h0 => ⟨?_, hc⟩)) (fun h => trivial)
        · rw [H h, h0]
        · rw [H h]
          rcases hd with e | e
          · exact absurd e h0
          · rw [e]
      · rw [nI_clamp (by omega)]
        exact br_c (fun hc => nm_r (nI_1 _) (hf (by simp [hc]))) (fun hc => nm_r (nI_1 _) (nm_r (nI_1 _) (ht (by simp [hc]))))
    · rw [nI_clamp (by omega)]
      exact br_c (fun hc => nm_r (nI_1 _) (nm_r (nI_1 _) (ht (by simp [hc])))) (fun hc => nm_r (nI_1 _) (hf (by simp [hc])))
  unfold wpX_state
  refine br_c (fun h => yy _ (br_t h rfl)) (fun h => ?_)
  have Y1 := fun z H => yy z (br_f h H)
  clear yy
  refine br_c (fun h => Y1 _ (br_t h rfl)) (fun h => ?_)
  have yy := fun z H => Y1 z (br_f h H)
  clear Y1
  refine br_c (fun h => jx_countUnmarked (yy _ (br_t h rfl))) (fun h => ?_)
  have Y1 := fun z H => yy z (br_f h H)
  clear yy
  refine br_c (fun h => jx_lengthOfLongestRow (fun L s hL => Y1 _ (br_t h (fun L' s' hL' => by rw [(jp_LR_un hL hL').1])))) (fun h => ?_)
  have yy := fun z H => Y1 z (br_f h H)
  clear Y1
  refine br_c (fun h => yy _ (br_t h rfl)) (fun h => ?_)
  have Y1 := fun z H => yy z (br_f h H)
  clear yy
  refine br_c (fun h => Y1 _ (br_t h rfl)) (fun h => ?_)
  have yy := fun z H => Y1 z (br_f h H)
  clear Y1
  refine br_c (fun h => jx_countInodes (yy _ (br_t h rfl))) (fun h => ?_)
  have Y1 := fun z H => yy z (br_f h H)
  clear yy
  refine br_c (fun h => br_c (fun h0 => Y1 _ (fun _ => h0.symm)) (fun h0 => Y1 _ (fun _ => ?_))) (fun h => trivial)
  rcases hd with e | e
  · exact absurd e h0
  · rw [e]
end
end
section
theorem jp_cp_all {a b : Nat → Int32} {n : Nat} (ha : ∀ i, n ≤ i → a i = 0) (hb : ∀ i, n ≤ i → b i = 0) : jp_cp a 0 n b 0 = b := by
  funext i
  unfold jp_cp
  by_cases h : 0 ≤ i ∧ i < 0 + n
  · rw [if_pos h, Nat.sub_zero, Nat.zero_add]
  · rw [if_neg h, ha i (by omega), hb i (by omega)]
/-- the reference's 'place': the old state is this one -/
theorem jp_cpZ {ok ol op on ob ov om K L P N B V M : Nat → Int32} (h0 : jp_Z ok ol op on ob ov om) (h1 : jp_Z K L P N B V M) :
    jp_cp ok 0 16 K 0 = K ∧ jp_cp ol 0 16 L 0 = L ∧ jp_cp op 0 16 P 0 = P ∧ jp_cp on 0 1024 N 0 = N ∧ jp_cp ob 0 384 B 0 = B ∧ jp_cp ov 0 64 V 0 = V ∧ jp_cp om 0 64 M 0 = M :=
  ⟨jp_cp_all (fun i hi => (h0.1 i hi).1) (fun i hi => (h1.1 i hi).1), jp_cp_all (fun i hi => (h0.1 i hi).2.1) (fun i hi => (h1.1 i hi).2.1), jp_cp_all (fun i hi => (h0.1 i hi).2.2) (fun i hi => (h1.1 i hi).2.2),
   jp_cp_all h0.2.1 h1.2.1, jp_cp_all h0.2.2.1 h1.2.2.1, jp_cp_all (fun i hi => (h0.2.2.2 i hi).1) (fun i hi => (h1.2.2.2 i hi).1), jp_cp_all (fun i hi => (h0.2.2.2 i hi).2) (fun i hi => (h1.2.2.2 i hi).2)⟩
section
variable {yr ys yd yh yt : Int32} {yk yl yp yn yb yv ym ok ol op on ob ov om yc yg yf yq yu ye : Nat → Int32}
theorem jy_placeZ {post : SY → Prop} (h0 : jp_Z ok ol op on ob ov om) (h1 : jp_Z yk yl yp yn yb yv ym) (h : post (yr, ys, yd, yh, yt, yk, yl, yp, yn, yb, yv, ym, yk, yl, yp, yn, yb, yv, ym, yc, yg, yf, yq, yu, ye)) : wpY_place post (yr, ys, yd, yh, yt, yk, yl, yp, yn, yb, yv, ym, ok, ol, op, on, ob, ov, om, yc, yg, yf, yq, yu, ye) := by
  obtain ⟨e1, e2, e3, e4, e5, e6, e7⟩ := jp_cpZ h0 h1
  refine jy_place ?_
  rw [e1, e2, e3, e4, e5, e6, e7]
  exact h
end
/-- a state with an empty log -/
theorem jr_new {k : Nat} {d xw yh yt : Int32} {K L P N B V M bk bl bp bn bb bm bh xq yc yg yq F T U : Nat → Int32} (hd : d = 0 ∨ d = 1) (h0 : jp_I0 (K, L, P, N, B, V, M)) (h1 : d = 0 → jp_I1 (K, L, P, N, B, V, M)) :
    i_Rel k (0, 0, d, xw, K, L, jp_pi K P, jp_ro N, B, M, V, bk, bl, bp, bn, bb, bm, bh, F, T, xq, U) (0, 0, d, yh, yt, K, L, P, N, B, V, M, K, L, P, N, B, V, M, yc, yg, F, yq, U, T) :=
  ⟨fun _ => (K, L, P, N, B, V, M), 0, 0, d, xw, yh, yt, K, L, P, N, B, V, M, bk, bl, bp, bn, bb, bm, bh, xq, K, L, P, N, B, V, M, yc, yg, yq, F, T, U, rfl, rfl, rfl, rfl, by omega, by omega, hd.elim Or.inl (fun h => Or.inr ⟨h, rfl⟩),
   fun _ _ => h0, fun h _ _ => h1 h, fun j hj => absurd hj (Nat.not_lt_zero j), fun j hj => absurd hj (Nat.not_lt_zero j)⟩
theorem i_vc_mended {k : Nat} {u : SX} {v : SY} (I : i_Rel k u v) (hk : k + 5 ≤ 2560) (v1 : Int32) : wpX_mended (fun r => wpY_mended (fun r' => r' = r ∧ i_Rel (k + 5) u v) v v1) u v1 := by
  have I' : i_Rel (k + 5) u v := I
  obtain ⟨S, r, s, d, xw, yh, yt, K, L, P, N, B, V, M, bk, bl, bp, bn, bb, bm, bh, xq, ok, ol, op, on, ob, ov, om, yc, yg, yq, F, T, U, rfl, rfl, hS, hS0, hr, hs, hd, hLog⟩ := I
  exact jr_mended I' v1
theorem i_vc_find {k : Nat} {u : SX} {v : SY} (I : i_Rel k u v) (hk : k + 5 ≤ 2560) (v1 : Int32) (v2 : Int32) : wpX_find (fun r => wpY_find (fun r' => r' = r ∧ i_Rel (k + 5) u v) v v1 v2) u v1 v2 := by
  have I' : i_Rel (k + 5) u v := I
  obtain ⟨S, r, s, d, xw, yh, yt, K, L, P, N, B, V, M, bk, bl, bp, bn, bb, bm, bh, xq, ok, ol, op, on, ob, ov, om, yc, yg, yq, F, T, U, rfl, rfl, hS, hS0, hr, hs, hd, hLog⟩ := I
  exact jr_find I' v1 v2
theorem i_vc_entry {k : Nat} {u : SX} {v : SY} (I : i_Rel k u v) (hk : k + 5 ≤ 2560) (v1 : Int32) (v2 : Int32) (v3 : Int32) : wpX_entry (fun r => wpY_entry (fun r' => r' = r ∧ i_Rel (k + 5) u v) v v1 v2 v3) u v1 v2 v3 := by
  have I' : i_Rel (k + 5) u v := I
  obtain ⟨S, r, s, d, xw, yh, yt, K, L, P, N, B, V, M, bk, bl, bp, bn, bb, bm, bh, xq, ok, ol, op, on, ob, ov, om, yc, yg, yq, F, T, U, rfl, rfl, hS, hS0, hr, hs, hd, hLog⟩ := I
  have hI := hLog.1 r (Nat.le_refl r)
  rw [hS] at hI
  obtain ⟨hZ, hK, hK0, hPR, hP0, hL0, hN, hNE, hEN, hB, hBE, hXN⟩ := hI
  exact jr_entry I' hN v1 v2 v3
theorem i_vc_of {k : Nat} {u : SX} {v : SY} (I : i_Rel k u v) (hk : k + 5 ≤ 2560) (v1 : Int32) (v2 : Int32) : wpX_of (fun r => wpY_of (fun r' => r' = r ∧ i_Rel (k + 5) u v) v v1 v2) u v1 v2 := by
  have I' : i_Rel (k + 5) u v := I
  obtain ⟨S, r, s, d, xw, yh, yt, K, L, P, N, B, V, M, bk, bl, bp, bn, bb, bm, bh, xq, ok, ol, op, on, ob, ov, om, yc, yg, yq, F, T, U, rfl, rfl, hS, hS0, hr, hs, hd, hLog⟩ := I
  have hI := hLog.1 r (Nat.le_refl r)
  rw [hS] at hI
  obtain ⟨hZ, hK, hK0, hPR, hP0, hL0, hN, hNE, hEN, hB, hBE, hXN⟩ := hI
  exact jr_of I' hK hN hB v1 v2
theorem i_vc_read {k : Nat} {u : SX} {v : SY} (I : i_Rel k u v) (hk : k + 5 ≤ 2560) (v1 : Int32) (v2 : Int32) : wpX_read (fun r => wpY_read (fun r' => r' = r ∧ i_Rel (k + 5) u v) v v1 v2) u v1 v2 := by
  have I' : i_Rel (k + 5) u v := I
  obtain ⟨S, r, s, d, xw, yh, yt, K, L, P, N, B, V, M, bk, bl, bp, bn, bb, bm, bh, xq, ok, ol, op, on, ob, ov, om, yc, yg, yq, F, T, U, rfl, rfl, hS, hS0, hr, hs, hd, hLog⟩ := I
  have hI := hLog.1 r (Nat.le_refl r)
  rw [hS] at hI
  obtain ⟨hZ, hK, hK0, hPR, hP0, hL0, hN, hNE, hEN, hB, hBE, hXN⟩ := hI
  exact jr_read I' hB v1 v2
theorem i_vc_extent {k : Nat} {u : SX} {v : SY} (I : i_Rel k u v) (hk : k + 5 ≤ 2560) (v1 : Int32) (v2 : Int32) (v3 : Int32) : wpX_extent (fun r => wpY_extent (fun r' => r' = r ∧ i_Rel (k + 5) u v) v v1 v2 v3) u v1 v2 v3 := by
  have I' : i_Rel (k + 5) u v := I
  obtain ⟨S, r, s, d, xw, yh, yt, K, L, P, N, B, V, M, bk, bl, bp, bn, bb, bm, bh, xq, ok, ol, op, on, ob, ov, om, yc, yg, yq, F, T, U, rfl, rfl, hS, hS0, hr, hs, hd, hLog⟩ := I
  have hI := hLog.1 r (Nat.le_refl r)
  rw [hS] at hI
  obtain ⟨hZ, hK, hK0, hPR, hP0, hL0, hN, hNE, hEN, hB, hBE, hXN⟩ := hI
  exact jr_extent I' hB v1 v2 v3
theorem i_vc_state {k : Nat} {u : SX} {v : SY} (I : i_Rel k u v) (hk : k + 5 ≤ 2560) (v1 : Int32) : wpX_state (fun r => wpY_state (fun r' => r' = r ∧ i_Rel (k + 5) u v) v v1) u v1 := by
  have I' : i_Rel (k + 5) u v := I
  obtain ⟨S, r, s, d, xw, yh, yt, K, L, P, N, B, V, M, bk, bl, bp, bn, bb, bm, bh, xq, ok, ol, op, on, ob, ov, om, yc, yg, yq, F, T, U, rfl, rfl, hS, hS0, hr, hs, hd, hLog⟩ := I
  exact jr_state I' (hd.elim Or.inl (fun h => Or.inr h.1)) v1
theorem i_vc_sync {k : Nat} {u : SX} {v : SY} (I : i_Rel k u v) (hk : k + 5 ≤ 2560) : wpX_sync (fun r u' => wpY_sync (fun r' v' => r' = r ∧ i_Rel (k + 5) u' v') v) u := by
  obtain ⟨S, r, s, d, xw, yh, yt, K, L, P, N, B, V, M, bk, bl, bp, bn, bb, bm, bh, xq, ok, ol, op, on, ob, ov, om, yc, yg, yq, F, T, U, rfl, rfl, hS, hS0, hr, hs, hd, hLog⟩ := I
  exact nm_e (nm_e ⟨rfl, S, r, r, d, xw, yh, yt, K, L, P, N, B, V, M, bk, bl, bp, bn, bb, bm, bh, xq, ok, ol, op, on, ob, ov, om, yc, yg, yq, F, T, U, rfl, rfl, hS, hS0, hr, Nat.le_refl r, hd, hLog⟩)
theorem i_vc_checkpoint {k : Nat} {u : SX} {v : SY} (I : i_Rel k u v) (hk : k + 5 ≤ 2560) : wpX_checkpoint (fun r u' => wpY_checkpoint (fun r' v' => r' = r ∧ i_Rel (k + 5) u' v') v) u := by
  obtain ⟨S, r, s, d, xw, yh, yt, K, L, P, N, B, V, M, bk, bl, bp, bn, bb, bm, bh, xq, ok, ol, op, on, ob, ov, om, yc, yg, yq, F, T, U, rfl, rfl, hS, hS0, hr, hs, hd, hLog⟩ := I
  have hI := hLog.1 r (Nat.le_refl r)
  have hI0 := hLog.1 0 (Nat.zero_le r)
  have hJ := fun h => hLog.2.1 h r (Nat.le_refl r)
  rw [hS] at hI hJ
  rw [hS0] at hI0
  have hd' : d = 0 ∨ d = 1 := hd.elim Or.inl (fun h => Or.inr h.1)
  unfold wpX_checkpoint wpY_checkpoint
  refine pk_le r 0 (fun h => ⟨rfl, ?_⟩) (fun h => jy_placeZ hI0.1 hI.1 ⟨rfl, jr_new hd' hI hJ⟩)
  have : r = 0 := by omega
  subst this
  rw [hS] at hS0
  cases hS0
  exact jr_new hd' hI hJ
/-! the first state -/
theorem jp_first : jp_I0 (upd (fun _ => 0) 0 2, (fun _ => 0), (fun _ => 0), jp_fl (fun _ => 0) 0 1024 (-1), jp_fl (fun _ => 0) 0 384 (-1), (fun _ => 0), (fun _ => 0)) := by
  have hN : ∀ s, s < 1024 → jp_fl (fun _ => 0) 0 1024 (-1) s = -1 := fun s hs => jp_fl_in (by omega) (by omega)
  have hB : ∀ s, s < 384 → jp_fl (fun _ => 0) 0 384 (-1) s = -1 := fun s hs => jp_fl_in (by omega) (by omega)
  refine ⟨⟨fun i hi => ⟨pk_un (by omega), rfl, rfl⟩, fun i hi => jp_fl_out (by omega), fun i hi => jp_fl_out (by omega), fun i hi => ⟨rfl, rfl⟩⟩, fun i hi => ?_, pk_us, fun i hi => ⟨0, by omega, rfl⟩, rfl, fun i hi _ => rfl, fun s hs => Or.inl (hN s hs), fun i hi _ h hh => hN _ (by omega), fun i hi => ?_, fun s hs => Or.inl (hB s hs), fun i hi _ p hp => hB _ (by omega), fun i hi => ?_⟩
  · by_cases e : i = 0
    · subst e; exact Or.inr (Or.inr pk_us)
    · exact Or.inl (pk_un e)
  · rw [show jp_en (jp_fl (fun _ => 0) 0 1024 (-1)) i = 0 from jp_cn_zero (fun h hh => by rw [hN _ (by omega)]; decide)]; omega
  · rw [show jp_ne (jp_fl (fun _ => 0) 0 384 (-1)) i = 0 from jp_cn_zero (fun p hp => by unfold jp_be; rw [hB _ (by omega)]; simp)]; omega
theorem jp_first1 : jp_I1 (upd (fun _ => 0) 0 2, (fun _ => 0), (fun _ => 0), jp_fl (fun _ => 0) 0 1024 (-1), jp_fl (fun _ => 0) 0 384 (-1), (fun _ => 0), (fun _ => 0)) := by
  have hN : ∀ s, s < 1024 → jp_fl (fun _ => 0) 0 1024 (-1) s = -1 := fun s hs => jp_fl_in (by omega) (by omega)
  have hc : ∀ i, i < 16 → jp_nc (jp_fl (fun _ => 0) 0 1024 (-1)) i = 0 := fun i hi => jp_cn_zero (fun s hs => by
    rw [hN s hs]; exact decide_eq_false (fun z => jv_m1n i (by omega) z.symm))
  have hB : ∀ s, s < 384 → jp_fl (fun _ => 0) 0 384 (-1) s = -1 := fun s hs => jp_fl_in (by omega) (by omega)
  refine ⟨fun i hi => by rw [hc i hi]; rfl, hc 0 (by omega), ⟨fun s t b hs _ hb e _ => absurd (e.symm.trans (hB s hs)) (jv_m1n b (by omega)), fun s b hs hb e => absurd (e.symm.trans (hB s hs)) (jv_m1n b (by omega))⟩, fun _ => 0, fun i h0 hi hk => ?_⟩
  rw [pk_un (by omega)] at hk
  exact absurd hk (by decide)
theorem i_vc0 : wpX_init (fun u => wpY_init (fun v => i_Rel 0 u v)) := by
  unfold wpX_init
  refine pk_loop (σ := Nat → Int32) (fun n i s => wX_init_158 (fun u => wpY_init (fun v => i_Rel 0 u v)) 0 0 0 0 n (nI i) (fun _ => 0) (fun _ => 0) (fun _ => 0) s (fun _ => 0) (fun _ => 0) (fun _ => 0) (fun _ => 0) (fun _ => 0) (fun _ => 0) (fun _ => 0) (fun _ => 0) (fun _ => 0) (fun _ => 0) (fun _ => 0) (fun _ => 0) (fun _ => 0) (fun _ => 0)) (fun i s => s = jp_fl (fun _ => 0) 0 i (-1)) 1024 0 (fun _ => 0) (by omega) (jp_fl_0 _ _ _).symm (fun n s hI => br_t (nI_le (a := 1024) (by omega) (by omega)) ?_) (fun n i s hi hI ih => br_f (nI_ge (b := 1024) hi (by omega)) ⟨vp_in_nI hi (by omega), ?_⟩)
  · refine pk_loop (σ := Nat → Int32) (fun n i q => wX_init_180 (fun u => wpY_init (fun v => i_Rel 0 u v)) 0 0 0 0 n (nI i) (fun _ => 0) (fun _ => 0) (fun _ => 0) s q (fun _ => 0) (fun _ => 0) (fun _ => 0) (fun _ => 0) (fun _ => 0) (fun _ => 0) (fun _ => 0) (fun _ => 0) (fun _ => 0) (fun _ => 0) (fun _ => 0) (fun _ => 0) (fun _ => 0)) (fun i s => s = jp_fl (fun _ => 0) 0 i (-1)) 384 0 (fun _ => 0) (by omega) (jp_fl_0 _ _ _).symm (fun n q hI2 => br_t (nI_le (a := 384) (by omega) (by omega)) ?_) (fun n i q hi hI ih => br_f (nI_ge (b := 384) hi (by omega)) ⟨vp_in_nI hi (by omega), ?_⟩)
    · subst hI hI2
      refine nm_e (nm_e ?_)
      unfold wpY_init
      refine pk_loop (σ := Nat → Int32) (fun n i s => wY_init_169 (fun v => i_Rel 0 _ v) 0 0 0 0 0 n (nI i) (fun _ => 0) (fun _ => 0) (fun _ => 0) s (fun _ => 0) (fun _ => 0) (fun _ => 0) (fun _ => 0) (fun _ => 0) (fun _ => 0) (fun _ => 0) (fun _ => 0) (fun _ => 0) (fun _ => 0) (fun _ => 0) (fun _ => 0) (fun _ => 0) (fun _ => 0) (fun _ => 0) (fun _ => 0)) (fun i s => s = jp_fl (fun _ => 0) 0 i (-1)) 1024 0 (fun _ => 0) (by omega) (jp_fl_0 _ _ _).symm (fun n s hI => br_t (nI_le (a := 1024) (by omega) (by omega)) ?_) (fun n i s hi hI ih => br_f (nI_ge (b := 1024) hi (by omega)) ⟨vp_in_nI hi (by omega), ?_⟩)
      · refine pk_loop (σ := Nat → Int32) (fun n i q => wY_init_191 (fun v => i_Rel 0 _ v) 0 0 0 0 0 n (nI i) (fun _ => 0) (fun _ => 0) (fun _ => 0) s q (fun _ => 0) (fun _ => 0) (fun _ => 0) (fun _ => 0) (fun _ => 0) (fun _ => 0) (fun _ => 0) (fun _ => 0) (fun _ => 0) (fun _ => 0) (fun _ => 0) (fun _ => 0) (fun _ => 0) (fun _ => 0) (fun _ => 0)) (fun i s => s = jp_fl (fun _ => 0) 0 i (-1)) 384 0 (fun _ => 0) (by omega) (jp_fl_0 _ _ _).symm (fun n q hI2 => br_t (nI_le (a := 384) (by omega) (by omega)) ?_) (fun n i q hi hI ih => br_f (nI_ge (b := 384) hi (by omega)) ⟨vp_in_nI hi (by omega), ?_⟩)
        · subst hI hI2
          refine nm_e (jy_placeZ ⟨fun _ _ => ⟨rfl, rfl, rfl⟩, fun _ _ => rfl, fun _ _ => rfl, fun _ _ => ⟨rfl, rfl⟩⟩ jp_first.1 ?_)
          have e1 : upd (fun _ => (0 : Int32)) 0 0 = jp_pi (upd (fun _ => 0) 0 2) (fun _ => 0) := by
            funext i; unfold upd jp_pi; simp
          have e2 : jp_fl (fun _ => (0 : Int32)) 0 1024 (-1) = jp_ro (jp_fl (fun _ => 0) 0 1024 (-1)) := by
            funext i; unfold jp_fl jp_ro; dsimp only
            have := jp_t_lt (i % 64)
            by_cases h : i < 1024
            · rw [if_pos (by omega), if_pos (by omega)]
            · rw [if_neg (by omega), if_neg (by omega)]
          rw [e1]
          have := jr_new (k := 0) (d := 0) (xw := 0) (yh := 0) (yt := 0) (bk := fun _ => 0) (bl := fun _ => 0) (bp := fun _ => 0) (bn := fun _ => 0) (bb := fun _ => 0) (bm := fun _ => 0) (bh := fun _ => 0) (xq := fun _ => 0) (yc := fun _ => 0) (yg := fun _ => 0) (yq := fun _ => 0) (F := fun _ => 0) (T := fun _ => 0) (U := fun _ => 0) (Or.inl rfl) jp_first (fun _ => jp_first1)
          rw [← e2] at this
          exact this
        · rw [nI_clamp (by omega)]
          exact nm_e (nm_r (nI_1 _) (ih _ (by rw [hI, ← jp_fl_s, Nat.zero_add])))
      · rw [nI_clamp (by omega)]
        exact nm_e (nm_r (nI_1 _) (ih _ (by rw [hI, ← jp_fl_s, Nat.zero_add])))
    · rw [nI_clamp (by omega)]
      exact nm_e (nm_r (nI_1 _) (ih _ (by rw [hI, ← jp_fl_s, Nat.zero_add])))
  · rw [nI_clamp (by omega)]
    exact nm_e (nm_r (nI_1 _) (ih _ (by rw [hI, ← jp_fl_s, Nat.zero_add])))
end
section
/-! one record more: both logs -/
theorem jp_pi_z {K P : Nat → Int32} (h : ∀ i, 16 ≤ i → K i = 0) : ∀ i, 16 ≤ i → jp_pi K P i = 0 := fun i hi => if_pos (h i hi)
theorem jp_ro_z {N : Nat → Int32} (h : ∀ i, 1024 ≤ i → N i = 0) : ∀ i, 1024 ≤ i → jp_ro N i = 0 := fun i hi => h _ (by omega)
theorem jp_rb {A a b : Nat → Int32} {n r : Nat} (hA : ∀ i, n ≤ i → A i = 0) (ha : ∀ i, n ≤ i → a i = 0) : jp_cp A 0 n (jp_cp b (n * r) n a 0) (n * r) = a := by
  funext i
  by_cases h : i < n
  · have := jp_cp_in (a := A) (b := jp_cp b (n * r) n a 0) (lo := 0) (off := n * r) h
    rw [Nat.zero_add] at this
    rw [this, jp_cp_in h, Nat.zero_add]
  · rw [jp_cp_out (by omega), hA i (by omega), ha i (by omega)]
theorem jp_Bef_old {j r : Nat} (hj : j < r) {bk bl bp bn bb bm bh x1 x2 x3 x4 x5 x6 x7 : Nat → Int32} {s : jp_FS} (h : jp_Bef j bk bl bp bn bb bm bh s) :
    jp_Bef j (jp_cp bk (16 * r) 16 x1 0) (jp_cp bl (16 * r) 16 x2 0) (jp_cp bp (16 * r) 16 x3 0) (jp_cp bn (1024 * r) 1024 x4 0) (jp_cp bb (384 * r) 384 x5 0) (jp_cp bm (64 * r) 64 x6 0) (jp_cp bh (64 * r) 64 x7 0) s := by
  obtain ⟨K, L, P, N, B, V, M⟩ := s
  obtain ⟨h1, h2, h3, h4⟩ := h
  refine ⟨fun i hi => ?_, fun i hi => ?_, fun i hi => ?_, fun i hi => ?_⟩
  · rw [jp_cp_out (by omega), jp_cp_out (by omega), jp_cp_out (by omega)]; exact h1 i hi
  · rw [jp_cp_out (by omega)]; exact h2 i hi
  · rw [jp_cp_out (by omega)]; exact h3 i hi
  · rw [jp_cp_out (by omega), jp_cp_out (by omega)]; exact h4 i hi
theorem jp_Bef_new {r : Nat} {bk bl bp bn bb bm bh K L P N B V M : Nat → Int32} :
    jp_Bef r (jp_cp bk (16 * r) 16 K 0) (jp_cp bl (16 * r) 16 L 0) (jp_cp bp (16 * r) 16 (jp_pi K P) 0) (jp_cp bn (1024 * r) 1024 (jp_ro N) 0) (jp_cp bb (384 * r) 384 B 0) (jp_cp bm (64 * r) 64 M 0) (jp_cp bh (64 * r) 64 V 0) (K, L, P, N, B, V, M) := by
  refine ⟨fun i hi => ?_, fun i hi => ?_, fun i hi => ?_, fun i hi => ?_⟩
  · rw [jp_cp_in hi, jp_cp_in hi, jp_cp_in hi, Nat.zero_add]; exact ⟨rfl, rfl, rfl⟩
  · rw [jp_cp_in hi, Nat.zero_add]
  · rw [jp_cp_in hi, Nat.zero_add]
  · rw [jp_cp_in hi, jp_cp_in hi, Nat.zero_add]; exact ⟨rfl, rfl⟩
theorem jr_push {k : Nat} {r s : Nat} {d xw yh yt : Int32} {K L P N B V M bk bl bp bn bb bm bh xq ok ol op on ob ov om yc yg yq F T U : Nat → Int32} {S : Nat → jp_FS} {K' L' P' N' B' V' M' : Nat → Int32} {c a b x z : Int32}
    (hS : S r = (K, L, P, N, B, V, M)) (hS0 : S 0 = (ok, ol, op, on, ob, ov, om)) (hr : r < 24) (hs : s ≤ r) (hd : d = 0) (hLog : jp_Log S r d bk bl bp bn bb bm bh yc yg)
    (h0 : jp_I0 (K', L', P', N', B', V', M')) (h1 : jp_I1 (K', L', P', N', B', V', M')) (hR : jp_Run r c a b x z (K, L, P, N, B, V, M) (K', L', P', N', B', V', M')) :
    i_Rel k (nI (r + 1), nI s, d, xw, K', L', jp_pi K' P', jp_ro N', B', M', V', jp_cp bk (16 * r) 16 K 0, jp_cp bl (16 * r) 16 L 0, jp_cp bp (16 * r) 16 (jp_pi K P) 0, jp_cp bn (1024 * r) 1024 (jp_ro N) 0, jp_cp bb (384 * r) 384 B 0, jp_cp bm (64 * r) 64 M 0, jp_cp bh (64 * r) 64 V 0, F, T, xq, U)
      (nI (r + 1), nI s, d, yh, yt, K', L', P', N', B', V', M', ok, ol, op, on, ob, ov, om, upd yc r c, upd (upd (upd (upd yg (4 * r) a) (4 * r + 1) b) (4 * r + 2) x) (4 * r + 3) z, F, yq, U, T) := by
  obtain ⟨g0, g1, g2, g3⟩ := hLog
  refine ⟨fun j => if j ≤ r then S j else (K', L', P', N', B', V', M'), r + 1, s, d, xw, yh, yt, K', L', P', N', B', V', M', _, _, _, _, _, _, _, xq, ok, ol, op, on, ob, ov, om, _, _, yq, F, T, U, rfl, rfl, if_neg (by omega), by dsimp only; rw [if_pos (Nat.zero_le r)]; exact hS0, by omega, by omega, Or.inl hd, ?_, ?_, ?_, ?_⟩
  · intro j hj
    by_cases e : j ≤ r
    · dsimp only; rw [if_pos e]; exact g0 j e
    · dsimp only; rw [if_neg e]; exact h0
  · intro _ j hj
    by_cases e : j ≤ r
    · dsimp only; rw [if_pos e]; exact g1 hd j e
    · dsimp only; rw [if_neg e]; exact h1
  · intro j hj
    dsimp only
    rw [if_pos (by omega)]
    by_cases e : j = r
    · subst e; rw [hS]; exact jp_Bef_new
    · exact jp_Bef_old (by omega) (g2 j (by omega))
  · intro j hj
    dsimp only
    rw [if_pos (by omega)]
    by_cases e : j = r
    · subst e
      rw [if_neg (by omega), hS, pk_us, pk_us, pk_un (by omega), pk_un (by omega), pk_un (by omega), pk_us, pk_un (by omega), pk_un (by omega), pk_us, pk_un (by omega), pk_us]
      exact hR
    · rw [if_pos (by omega), pk_un (by omega)]
      rw [pk_un (by omega), pk_un (by omega), pk_un (by omega), pk_un (by omega), pk_un (by omega), pk_un (by omega), pk_un (by omega), pk_un (by omega)]
      rw [pk_un (by omega), pk_un (by omega), pk_un (by omega), pk_un (by omega), pk_un (by omega), pk_un (by omega), pk_un (by omega), pk_un (by omega)]
      exact g3 j (by omega)
/-- a record that was opened and taken back -/
theorem jr_back {k : Nat} {r s : Nat} {d xw yh yt : Int32} {K L P N B V M bk bl bp bn bb bm bh xq ok ol op on ob ov om yc yg yq F T U : Nat → Int32} {S : Nat → jp_FS} (hS : S r = (K, L, P, N, B, V, M)) (hS0 : S 0 = (ok, ol, op, on, ob, ov, om)) (hr : r < 24) (hs : s ≤ r) (hd : d = 0) (hLog : jp_Log S r d bk bl bp bn bb bm bh yc yg) :
    i_Rel k (nI r, nI s, d, xw, K, L, jp_pi K P, jp_ro N, B, M, V, jp_cp bk (16 * r) 16 K 0, jp_cp bl (16 * r) 16 L 0, jp_cp bp (16 * r) 16 (jp_pi K P) 0, jp_cp bn (1024 * r) 1024 (jp_ro N) 0, jp_cp bb (384 * r) 384 B 0, jp_cp bm (64 * r) 64 M 0, jp_cp bh (64 * r) 64 V 0, F, T, xq, U) (nI r, nI s, d, yh, yt, K, L, P, N, B, V, M, ok, ol, op, on, ob, ov, om, yc, yg, F, yq, U, T) :=
  ⟨S, r, s, d, xw, yh, yt, K, L, P, N, B, V, M, _, _, _, _, _, _, _, xq, ok, ol, op, on, ob, ov, om, yc, yg, yq, F, T, U, rfl, rfl, hS, hS0, by omega, hs, Or.inl hd, hLog.1, hLog.2.1, fun j hj => jp_Bef_old hj (hLog.2.2.1 j hj), hLog.2.2.2⟩
/-! counts of a row of entries with one cell changed -/
theorem jp_nc_upd {N : Nat → Int32} {s : Nat} {v : Int32} (hs : s < 1024) (i : Nat) : jp_nc (upd N s v) i + (decide (N s = nI i)).toNat = jp_nc N i + (decide (v = nI i)).toNat := by
  have := jp_cn_upd (f := fun t => decide (upd N s v t = nI i)) (g := fun t => decide (N t = nI i)) hs (fun j hj hne => by rw [pk_un hne])
  rw [pk_us] at this
  exact this
theorem jp_en_upd {N : Nat → Int32} {a n : Nat} {v : Int32} (hn : n < 64) : jp_en (upd N (64 * a + n) v) a + (decide (¬ N (64 * a + n) = -1)).toNat = jp_en N a + (decide (¬ v = -1)).toNat := by
  have := jp_cn_upd (f := fun t => decide (¬ upd N (64 * a + n) v (64 * a + t) = -1)) (g := fun t => decide (¬ N (64 * a + t) = -1)) hn (fun j hj hne => by rw [pk_un (by omega)])
  rw [pk_us] at this
  exact this
theorem jp_en_un {N : Nat → Int32} {a n d : Nat} {v : Int32} (hn : n < 64) (h : d ≠ a) : jp_en (upd N (64 * a + n) v) d = jp_en N d :=
  jp_cn_congr (fun j hj => by rw [pk_un (by omega)])
theorem jp_nc_le (N : Nat → Int32) (i : Nat) : jp_nc N i ≤ 1024 := jp_cn_le _ _
theorem jp_t1 {p : Prop} [Decidable p] (h : p) : (decide p).toNat = 1 := by rw [decide_eq_true h]; rfl
theorem jp_t0 {p : Prop} [Decidable p] (h : ¬ p) : (decide p).toNat = 0 := by rw [decide_eq_false h]; rfl
/-- an entry of an undamaged volume: its inode is not FREE and not the root -/
theorem jp_dir {K N : Nat → Int32} (hNE : jp_NE K N) {p h : Nat} (hp : p < 16) (hh : h < 64) (e : ¬ N (64 * p + h) = -1) : K p = 2 := by
  apply Classical.byContradiction
  intro z
  exact e (hNE p hp z h hh)
theorem jp_nc_in {N : Nat → Int32} {s i : Nat} (hs : s < 1024) (e : N s = nI i) : 0 < jp_nc N i := jp_cn_pos hs (decide_eq_true e)
theorem jp_NR_upd {N : Nat → Int32} (h : jp_NR N) {k : Nat} {v : Int32} (hv : v = -1 ∨ ∃ i, i < 16 ∧ v = nI i) : jp_NR (upd N k v) := by
  intro s hs
  by_cases e : s = k
  · subst e; rw [pk_us]; exact hv
  · rw [pk_un e]; exact h s hs
theorem jp_free {K L N : Nat → Int32} (hL0 : jp_L0 K L) (hL : ∀ i, i < 16 → L i = nI (jp_nc N i)) {i : Nat} (hi : i < 16) (hz : K i = 0) : jp_nc N i = 0 := by
  have := hL0 i hi hz
  rw [hL i hi] at this
  exact jv_inj this (by have := jp_nc_le N i; omega) (by omega)
end
section
/-! make -/
section
variable {yr ys yd yh yt : Int32} {yk yl yp yn yb yv ym ok ol op on ob ov om yc yg yf yq yu ye : Nat → Int32}
theorem jy_make_loop {post : Int32 → SY → Prop} {x y q : Int32} (h1 : ∀ j, j < 16 → yk j = 0 → (∀ i, i < j → ¬ yk i = 0) → wY_make_71 post x y q (nI j) yr ys yd yh yt yk yl yp yn yb yv ym ok ol op on ob ov om yc yg yf yq yu ye) (h2 : (∀ i, i < 16 → ¬ yk i = 0) → wY_make_71 post x y q (nI 16) yr ys yd yh yt yk yl yp yn yb yv ym ok ol op on ob ov om yc yg yf yq yu ye) : ∃ n, wY_make_48 post x y q yr ys yd yh yt yk yl yp yn yb yv ym ok ol op on ob ov om yc yg yf yq yu ye n 0 := by
  refine pk_loop (σ := Unit) (fun n i _ => wY_make_48 post x y q yr ys yd yh yt yk yl yp yn yb yv ym ok ol op on ob ov om yc yg yf yq yu ye n (nI i)) (fun i _ => ∀ k, k < i → ¬ yk k = 0) 16 0 () (by omega) (fun k hk => absurd hk (Nat.not_lt_zero k)) (fun n _ hI => br_t (nI_le (a := 16) (by omega) (by omega)) (h2 hI)) (fun n i _ hi hI ih => br_f (nI_ge (b := 16) hi (by omega)) ⟨vp_in_nI (by omega) (by omega), ?_⟩)
  rw [nI_clamp (by omega)]
  refine br_c (fun hc => h1 i hi hc hI) (fun hc => nm_r (nI_1 _) (ih () (fun k hk => ?_)))
  by_cases e : k = i
  · subst e; exact hc
  · exact hI k (by omega)
theorem jy_make_head {post : Int32 → SY → Prop} {a n : Nat} {q : Int32} (ha : a < 16) (hk : yk a = 2) (hn : n < 64) (he : yn (64 * a + n) = -1) (h : ∃ m, wY_make_48 post (nI a) (nI n) q yr ys 0 yh yt yk yl yp yn yb yv ym ok ol op on ob ov om yc yg yf yq yu ye m 0) : wpY_make post (yr, ys, 0, yh, yt, yk, yl, yp, yn, yb, yv, ym, ok, ol, op, on, ob, ov, om, yc, yg, yf, yq, yu, ye) (nI a) (nI n) q := by
  unfold wpY_make
  refine br_t rfl (jy_is (fun _ _ _ _ => br_f (by decide) (jy_in (M := 63) (by omega) (fun _ _ _ => br_f (by decide) ?_) (fun hh => absurd ⟨n, hn, rfl⟩ hh))) (fun hh => absurd ⟨a, ha, rfl, hk⟩ hh))
  rw [jv_e64, nI_clamp (by omega), he]
  exact ⟨vp_in_nI (by omega) (by omega), br_t (by decide) h⟩
theorem jy_make_full {post : Int32 → SY → Prop} {r a n : Nat} {q : Int32} (hr : r ≤ 24) (hN : jp_NR yn) (ha : a < 16) (hk : yk a = 2) (hn : n < 64) (he : yn (64 * a + n) = -1) (hfull : (∀ i, i < 16 → ¬ yk i = 0) ∨ r = 24 ∨ jp_en yn a = 10)
    (h : post (-3) (nI r, ys, 0, yh, yt, yk, yl, yp, yn, yb, yv, ym, ok, ol, op, on, ob, ov, om, yc, yg, yf, yq, yu, ye)) : wpY_make post (nI r, ys, 0, yh, yt, yk, yl, yp, yn, yb, yv, ym, ok, ol, op, on, ob, ov, om, yc, yg, yf, yq, yu, ye) (nI a) (nI n) q := by
  refine jy_make_head ha hk hn he (jy_make_loop (fun j hj hz hf => ?_) (fun hf => br_t rfl h))
  refine pk_eq j 16 (fun e => by omega) (fun _ => pk_eq r 24 (fun _ => h) (fun hr2 => jy_entries hN ha ?_))
  have := jp_cn_le (fun n => decide (¬ yn (64 * a + n) = -1)) 64
  have e : jp_en yn a = jp_cn (fun n => decide (¬ yn (64 * a + n) = -1)) 64 := rfl
  refine pk_eq (jp_en yn a) 10 (fun _ => h) (fun h10 => ?_)
  rcases hfull with z | z | z
  · exact absurd hz (z j hj)
  · exact absurd z hr2
  · exact absurd z h10
theorem jy_make_ok {post : Int32 → SY → Prop} {r a n o : Nat} {q kk : Int32} (hr : r < 24) (hN : jp_NR yn) (ha : a < 16) (hk : yk a = 2) (hn : n < 64) (he : yn (64 * a + n) = -1) (ho : o < 16) (hz : yk o = 0) (hf : ∀ i, i < o → ¬ yk i = 0) (hen : jp_en yn a < 10) (hq : (q = 0 ∧ kk = 1) ∨ (q = 1 ∧ kk = 2))
    (h : post (nI o) (nI (r + 1), ys, 0, yh, yt, upd yk o kk, upd yl o 1, upd yp o (nI a), upd yn (64 * a + n) (nI o), yb, yv, ym, ok, ol, op, on, ob, ov, om, upd yc r 0, upd (upd (upd (upd yg (4 * r) (nI a)) (4 * r + 1) (nI n)) (4 * r + 2) q) (4 * r + 3) 0, yf, yq, yu, ye)) :
    wpY_make post (nI r, ys, 0, yh, yt, yk, yl, yp, yn, yb, yv, ym, ok, ol, op, on, ob, ov, om, yc, yg, yf, yq, yu, ye) (nI a) (nI n) q := by
  refine jy_make_head ha hk hn he (jy_make_loop (fun j hj hz2 hf2 => ?_) (fun hf2 => absurd hz (hf2 o ho)))
  have : j = o := by
    rcases Nat.lt_trichotomy j o with e | e | e
    · exact absurd hz2 (hf j e)
    · exact e
    · exact absurd hz (hf2 o e)
  subst this
  refine pk_eq j 16 (fun e => by omega) (fun _ => pk_eq r 24 (fun e => by omega) (fun hr2 => jy_entries hN ha ?_))
  refine pk_eq (jp_en yn a) 10 (fun e => by omega) (fun h10 => ?_)
  have fin : ∀ kk' : Int32, kk' = kk → wY_make_132 post (nI a) (nI n) (nI j) kk' (nI j) (nI (r + 1)) ys 0 yh yt yk yl yp yn yb yv ym ok ol op on ob ov om (upd yc r 0) (upd (upd (upd (upd yg (4 * r) (nI a)) (4 * r + 1) (nI n)) (4 * r + 2) q) (4 * r + 3) 0) yf yq yu ye := by
    intro kk' e
    subst e
    unfold wY_make_132
    rw [jv_e64, nI_clamp (by omega), nI_clamp (by omega)]
    exact ⟨vp_in_nI hj (by omega), nm_e ⟨vp_in_nI hj (by omega), nm_e ⟨vp_in_nI hj (by omega), nm_e ⟨vp_in_nI (by omega) (by omega), nm_e h⟩⟩⟩⟩
  rcases hq with ⟨e1, e2⟩ | ⟨e1, e2⟩
  · subst e1
    refine br_t rfl (jy_note hr (br_t rfl (fin 1 e2.symm)))
  · subst e1
    refine br_f (by decide) (jy_note hr (br_f (by decide) (fin 2 e2.symm)))
theorem jy_4r (r : Nat) : (4 : Int32) * nI r = nI (4 * r) := by rw [show (4 : Int32) = nI 4 from rfl, pk_mul]
/-- the head of 'again': the record's numbers are read -/
theorem jy_again {post : SY → Prop} {r : Nat} {c a b x z : Int32} (hr : r < 24) (h1 : yc r = c) (h2 : yg (4 * r) = a) (h3 : yg (4 * r + 1) = b) (h4 : yg (4 * r + 2) = x) (h5 : yg (4 * r + 3) = z)
    (h : (c = 0 → ((x = 1 → wY_again_67 post 1 b a yr ys yd yh yt yk yl yp yn yb yv ym ok ol op on ob ov om yc yg yf yq yu ye) ∧ (¬ x = 1 → wY_again_67 post 0 b a yr ys yd yh yt yk yl yp yn yb yv ym ok ol op on ob ov om yc yg yf yq yu ye))) ∧
      (c = 1 → wpY_link (fun _ u => post u) (yr, ys, yd, yh, yt, yk, yl, yp, yn, yb, yv, ym, ok, ol, op, on, ob, ov, om, yc, yg, yf, yq, yu, ye) a b x) ∧ (c = 2 → wpY_remove (fun _ u => post u) (yr, ys, yd, yh, yt, yk, yl, yp, yn, yb, yv, ym, ok, ol, op, on, ob, ov, om, yc, yg, yf, yq, yu, ye) a b) ∧ (c = 3 → wpY_move (fun _ u => post u) (yr, ys, yd, yh, yt, yk, yl, yp, yn, yb, yv, ym, ok, ol, op, on, ob, ov, om, yc, yg, yf, yq, yu, ye) a b x z) ∧ (c = 4 → wpY_write (fun _ u => post u) (yr, ys, yd, yh, yt, yk, yl, yp, yn, yb, yv, ym, ok, ol, op, on, ob, ov, om, yc, yg, yf, yq, yu, ye) a b x) ∧ (c = 5 → wpY_punch (fun _ u => post u) (yr, ys, yd, yh, yt, yk, yl, yp, yn, yb, yv, ym, ok, ol, op, on, ob, ov, om, yc, yg, yf, yq, yu, ye) a b x)) (hc : c = 0 ∨ c = 1 ∨ c = 2 ∨ c = 3 ∨ c = 4 ∨ c = 5) : wpY_again post (yr, ys, yd, yh, yt, yk, yl, yp, yn, yb, yv, ym, ok, ol, op, on, ob, ov, om, yc, yg, yf, yq, yu, ye) (nI r) := by
  unfold wpY_again
  dsimp only
  have hv : vp_in (nI r) 24 := vp_in_nI hr (by omega)
  rw [jy_4r, show nI (4 * r) + 1 = nI (4 * r + 1) from nI_1 _, show nI (4 * r) + 2 = nI (4 * r + 2) from nI_add _ 2, show nI (4 * r) + 3 = nI (4 * r + 3) from nI_add _ 3, nI_clamp (n := r) (by omega), nI_clamp (n := 4 * r) (by omega), nI_clamp (n := 4 * r + 1) (by omega), nI_clamp (n := 4 * r + 2) (by omega), nI_clamp (n := 4 * r + 3) (by omega), h1, h2, h3, h4, h5]
  refine ⟨vp_in_nI (by omega) (by omega), nm_e ⟨vp_in_nI (by omega) (by omega), nm_e ⟨vp_in_nI (by omega) (by omega), nm_e ⟨vp_in_nI (by omega) (by omega), nm_e ⟨hv, ?_⟩⟩⟩⟩⟩
  obtain ⟨g0, g1, g2, g3, g4, g5⟩ := h
  refine br_c g0 (fun n0 => ⟨hv, br_c g1 (fun n1 => ⟨hv, br_c g2 (fun n2 => ⟨hv, br_c g3 (fun n3 => ⟨hv, br_c g4 (fun n4 => g5 ?_)⟩)⟩)⟩)⟩)
  rcases hc with e | e | e | e | e | e
  · exact absurd e n0
  · exact absurd e n1
  · exact absurd e n2
  · exact absurd e n3
  · exact absurd e n4
  · exact e
end
theorem jp_updI {a : Nat → Int32} {k : Nat} {v : Int32} (h : a k = v) : upd a k v = a := jp_upd_id a k v h
theorem jp_upd4 {g : Nat → Int32} {r : Nat} {a b x z : Int32} (h2 : g (4 * r) = a) (h3 : g (4 * r + 1) = b) (h4 : g (4 * r + 2) = x) (h5 : g (4 * r + 3) = z) : upd (upd (upd (upd g (4 * r) a) (4 * r + 1) b) (4 * r + 2) x) (4 * r + 3) z = g := by
  rw [jp_updI h2, jp_updI h3, jp_updI h4, jp_updI h5]
theorem jp_run_make {K L P N B V M : Nat → Int32} {r a n o : Nat} {q kk : Int32} (hr : r < 24) (hN : jp_NR N) (ha : a < 16) (hk : K a = 2) (hn : n < 64) (he : N (64 * a + n) = -1) (ho : o < 16) (hz : K o = 0) (hf : ∀ i, i < o → ¬ K i = 0) (hen : jp_en N a < 10) (hq : (q = 0 ∧ kk = 1) ∨ (q = 1 ∧ kk = 2)) :
    jp_Run r 0 (nI a) (nI n) q 0 (K, L, P, N, B, V, M) (upd K o kk, upd L o 1, upd P o (nI a), upd N (64 * a + n) (nI o), B, V, M) := by
  intro post ys yh yt ok ol op on ob ov om yc yg yf yq yu ye h1 h2 h3 h4 h5 hp
  have fin : ∀ q', q' = q → wY_again_67 post q' (nI n) (nI a) (nI r) ys 0 yh yt K L P N B V M ok ol op on ob ov om yc yg yf yq yu ye := by
    intro q' e
    subst e
    unfold wY_again_67
    refine jy_make_ok hr hN ha hk hn he ho hz hf hen hq ?_
    rw [jp_updI h1, jp_upd4 h2 h3 h4 h5]
    exact hp
  refine jy_again hr h1 h2 h3 h4 h5 ⟨fun _ => br_c (fun e => fin 1 e.symm) (fun e => fin 0 ?_), fun e => absurd e (by decide), fun e => absurd e (by decide), fun e => absurd e (by decide), fun e => absurd e (by decide), fun e => absurd e (by decide)⟩ (Or.inl rfl)
  rcases hq with ⟨e1, _⟩ | ⟨e1, _⟩
  · exact e1.symm
  · exact absurd e1 e
theorem jp_make_I0 {K L P N B V M : Nat → Int32} {a n o : Nat} {kk : Int32} (h : jp_I0 (K, L, P, N, B, V, M)) (ha : a < 16) (hk : K a = 2) (hn : n < 64) (he : N (64 * a + n) = -1) (ho : o < 16) (hz : K o = 0) (hen : jp_en N a < 10) (hkk : kk = 1 ∨ kk = 2) :
    jp_I0 (upd K o kk, upd L o 1, upd P o (nI a), upd N (64 * a + n) (nI o), B, V, M) := by
  obtain ⟨hZ, hK, hK0, hPR, hP0, hL0, hN, hNE, hEN, hB, hBE, hXN⟩ := h
  have ho0 : o ≠ 0 := fun e => by rw [e, hK0] at hz; exact absurd hz (by decide)
  have hao : a ≠ o := fun e => by rw [e, hz] at hk; exact absurd hk (by decide)
  refine ⟨⟨fun i hi => ?_, fun i hi => ?_, hZ.2.2.1, hZ.2.2.2⟩, fun i hi => ?_, ?_, fun i hi => ?_, ?_, fun i hi hk0 => ?_, jp_NR_upd hN (Or.inr ⟨o, ho, rfl⟩), fun i hi hk2 h hh => ?_, fun i hi => ?_, hB, fun i hi hk1 p hp => ?_, hXN⟩
  · rw [pk_un (by omega), pk_un (by omega), pk_un (by omega)]; exact hZ.1 i hi
  · rw [pk_un (by omega)]; exact hZ.2.1 i hi
  · by_cases e : i = o
    · subst e; rw [pk_us]; exact Or.inr hkk
    · rw [pk_un e]; exact hK i hi
  · rw [pk_un (by omega)]; exact hK0
  · by_cases e : i = o
    · subst e; rw [pk_us]; exact ⟨a, ha, rfl⟩
    · rw [pk_un e]; exact hPR i hi
  · rw [pk_un (by omega)]; exact hP0
  · by_cases e : i = o
    · subst e; rw [pk_us] at hk0; rcases hkk with z | z <;> rw [z] at hk0 <;> exact absurd hk0 (by decide)
    · rw [pk_un e] at hk0 ⊢; exact hL0 i hi hk0
  · have hia : i ≠ a := fun e => hk2 (by rw [e, pk_un hao]; exact hk)
    rw [pk_un (by omega)]
    by_cases e : i = o
    · subst e; exact hNE i hi (by rw [hz]; decide) h hh
    · rw [pk_un e] at hk2; exact hNE i hi hk2 h hh
  · by_cases e : i = a
    · subst e
      have := jp_en_upd (N := N) (a := i) (n := n) (v := nI o) hn
      rw [jp_t0 (fun z => z he), jp_t1 (jv_m1n o (by omega))] at this
      omega
    · rw [jp_en_un hn e]; exact hEN i hi
  · by_cases e : i = o
    · subst e; exact hBE i hi (by rw [hz]; decide) p hp
    · rw [pk_un e] at hk1; exact hBE i hi hk1 p hp
theorem jp_make_I1 {K L P N B V M : Nat → Int32} {a n o : Nat} {kk : Int32} (h : jp_I0 (K, L, P, N, B, V, M)) (h1 : jp_I1 (K, L, P, N, B, V, M)) (ha : a < 16) (hk : K a = 2) (hn : n < 64) (he : N (64 * a + n) = -1) (ho : o < 16) (hz : K o = 0) :
    jp_I1 (upd K o kk, upd L o 1, upd P o (nI a), upd N (64 * a + n) (nI o), B, V, M) := by
  obtain ⟨hZ, hK, hK0, hPR, hP0, hL0, hN, hNE, hEN, hB, hBE, hXN⟩ := h
  obtain ⟨hL, hR0, hUB, rk, hT⟩ := h1
  have ho0 : o ≠ 0 := fun e => by rw [e, hK0] at hz; exact absurd hz (by decide)
  have hao : a ≠ o := fun e => by rw [e, hz] at hk; exact absurd hk (by decide)
  have hfree := jp_free hL0 hL ho hz
  have hno : jp_nc (upd N (64 * a + n) (nI o)) o = 1 := by
    have := jp_nc_upd (N := N) (v := nI o) (s := 64 * a + n) (by omega) o
    rw [jp_t1 rfl, jp_t0 (fun z => jv_m1n o (by omega) (z.symm.trans he))] at this
    omega
  have hnc : ∀ i, i < 16 → i ≠ o → jp_nc (upd N (64 * a + n) (nI o)) i = jp_nc N i := by
    intro i hi e
    have := jp_nc_upd (N := N) (v := nI o) (s := 64 * a + n) (by omega) i
    rw [jp_t0 (fun z => jv_m1n i (by omega) (z.symm.trans he)), jp_t0 (fun z => e (jv_inj z.symm (by omega) (by omega)))] at this
    omega
  refine ⟨fun i hi => ?_, by rw [hnc 0 (by omega) (by omega)]; exact hR0, hUB, fun i => if i = o then rk a + 1 else rk i, fun i h0 hi hki => ?_⟩
  · by_cases e : i = o
    · subst e; rw [pk_us, hno]; rfl
    · rw [pk_un e, hnc i hi e]; exact hL i hi
  · by_cases e : i = o
    · subst e
      refine ⟨hno, a, n, ha, hn, pk_us, pk_us, ?_⟩
      dsimp only; rw [if_neg hao, if_pos rfl]; omega
    · rw [pk_un e] at hki
      obtain ⟨t1, p, h, hp, hh, t2, t3, t4⟩ := hT i h0 hi hki
      have hne : ¬ N (64 * p + h) = -1 := by rw [t3]; exact jv_m1n i (by omega)
      have hpo : p ≠ o := fun z => by have := jp_dir hNE hp hh hne; rw [z, hz] at this; exact absurd this (by decide)
      refine ⟨by rw [hnc i hi e]; exact t1, p, h, hp, hh, by rw [pk_un e]; exact t2, ?_, by dsimp only; rw [if_neg hpo, if_neg e]; exact t4⟩
      rw [pk_un (fun z => hne (by rw [z]; exact he))]; exact t3
theorem jp_pi_new {K P : Nat → Int32} {o : Nat} {kk v : Int32} (h : ¬ kk = 0) : upd (jp_pi K P) o v = jp_pi (upd K o kk) (upd P o v) := by
  funext i
  by_cases e : i = o
  · subst e; rw [pk_us]; unfold jp_pi; rw [pk_us, pk_us, if_neg h]
  · rw [pk_un e]; unfold jp_pi; rw [pk_un e, pk_un e]
theorem i_vc_make {k : Nat} {u : SX} {v : SY} (I : i_Rel k u v) (hk : k + 5 ≤ 2560) (v1 : Int32) (v2 : Int32) (v3 : Int32) : wpX_make (fun r u' => wpY_make (fun r' v' => r' = r ∧ i_Rel (k + 5) u' v') v v1 v2 (lw_bz v3)) u v1 v2 (lw_bz v3) := by
  have I' : i_Rel (k + 5) u v := I
  obtain ⟨S, r, s, d, xw, yh, yt, K, L, P, N, B, V, M, bk, bl, bp, bn, bb, bm, bh, xq, ok, ol, op, on, ob, ov, om, yc, yg, yq, F, T, U, rfl, rfl, hS, hS0, hr, hs, hd, hLog⟩ := I
  have hI := hLog.1 r (Nat.le_refl r)
  have hJ := fun h => hLog.2.1 h r (Nat.le_refl r)
  rw [hS] at hI hJ
  have hI2 := hI
  obtain ⟨hZ, hK, hK0, hPR, hP0, hL0, hN, hNE, hEN, hB, hBE, hXN⟩ := hI
  have hq := lw_bz_01 v3
  generalize lw_bz v3 = q at hq ⊢
  unfold wpX_make
  refine br_c (fun e => ?_) (fun e => br_f e ⟨rfl, I'⟩)
  subst e
  refine jx_isDirectory (fun a ha e hka => br_f (by decide) (jx_isName (fun n hn e2 => br_f (by decide) ?_) (fun hno => br_t rfl ?_))) (fun hno => br_t rfl ?_)
  · subst e e2
    have hsn := jp_s_lt n
    refine jx_spotOf hn ⟨vp_in_nI (by omega) (by omega), ?_⟩
    rw [nI_clamp (by omega), jp_ro_n N a hn]
    refine br_c (fun hent => ?_) (fun hent => ?_)
    · refine jx_firstFree (fun o ho hz hf => br_f (jv_m1n o (by omega)) (jx_isFullDirectory' ha (fun hfull => br_f (by decide) (jy_make_full hr hN ha hka hn hent (Or.inr (Or.inr (by have := hEN a ha; omega))) ⟨rfl, I'⟩)) (fun hfull => br_t rfl (jx_isFullLog hr (fun hl => br_f (by decide) (jy_make_full hr hN ha hka hn hent (Or.inr (Or.inl hl)) ⟨rfl, I'⟩)) (fun hl => br_t rfl (jx_openRecord hl ?_)))))) (fun hf => br_t rfl (jy_make_full hr hN ha hka hn hent (Or.inl hf) ⟨rfl, I'⟩))
      have fin : ∀ kk, ((q = 0 ∧ kk = 1) ∨ (q = 1 ∧ kk = 2)) → wX_make_94 (fun r1 u' => wpY_make (fun r' v' => r' = r1 ∧ i_Rel (k + 5) u' v') (nI r, nI s, 0, yh, yt, K, L, P, N, B, V, M, ok, ol, op, on, ob, ov, om, yc, yg, F, yq, U, T) (nI a) (nI n) q) (nI a) (nI (64 * a + jp_s n)) (nI o) kk (nI o) (nI (r + 1)) (nI s) 0 xw K L (jp_pi K P) (jp_ro N) B M V (jp_cp bk (16 * r) 16 K 0) (jp_cp bl (16 * r) 16 L 0) (jp_cp bp (16 * r) 16 (jp_pi K P) 0) (jp_cp bn (1024 * r) 1024 (jp_ro N) 0) (jp_cp bb (384 * r) 384 B 0) (jp_cp bm (64 * r) 64 M 0) (jp_cp bh (64 * r) 64 V 0) F T xq U := by
        intro kk hq2
        have hkk : kk = 1 ∨ kk = 2 := hq2.elim (fun h => Or.inl h.2) (fun h => Or.inr h.2)
        have hkk0 : ¬ kk = 0 := by rcases hkk with z | z <;> rw [z] <;> decide
        unfold wX_make_94
        rw [nI_clamp (n := o) (by omega), nI_clamp (n := 64 * a + jp_s n) (by omega)]
        refine ⟨vp_in_nI ho (by omega), nm_e ⟨vp_in_nI ho (by omega), nm_e ⟨vp_in_nI ho (by omega), nm_e ⟨vp_in_nI (by omega) (by omega), nm_e ?_⟩⟩⟩⟩
        refine jy_make_ok hl hN ha hka hn hent ho hz hf hfull hq2 ⟨rfl, ?_⟩
        rw [jp_pi_new hkk0, ← jp_ro_upd N a hn]
        exact jr_push hS hS0 hl hs rfl hLog (jp_make_I0 hI2 ha hka hn hent ho hz hfull hkk) (jp_make_I1 hI2 (hJ rfl) ha hka hn hent ho hz) (jp_run_make hl hN ha hka hn hent ho hz hf hfull hq2)
      refine br_c (fun e => fin 1 (Or.inl ⟨e, rfl⟩)) (fun e => fin 2 (Or.inr ⟨hq.elim (fun z => absurd z e) id, rfl⟩))
    · unfold wpY_make
      refine br_t rfl (jy_is (fun _ _ _ _ => br_f (by decide) (jy_in (M := 63) (by omega) (fun _ _ _ => br_f (by decide) ?_) (fun hh => absurd ⟨n, hn, rfl⟩ hh))) (fun hh => absurd ⟨a, ha, rfl, hka⟩ hh))
      rw [jv_e64, nI_clamp (by omega), jp_neg (by omega) (hN (64 * a + n) (by omega))]
      exact ⟨vp_in_nI (by omega) (by omega), br_f hent ⟨rfl, I'⟩⟩
  · unfold wpY_make
    exact br_t rfl (jy_is (fun _ _ _ _ => br_f (by decide) (jy_in (M := 63) (by omega) (fun n hn e => absurd ⟨n, hn, e⟩ hno) (fun _ => br_t rfl ⟨rfl, I'⟩))) (fun _ => br_t rfl ⟨rfl, I'⟩))
  · unfold wpY_make
    exact br_t rfl (jy_is (fun a ha e hk => absurd ⟨a, ha, e, hk⟩ hno) (fun _ => br_t rfl ⟨rfl, I'⟩))
end
section
/-! link -/
section
variable {yr ys yd yh yt : Int32} {yk yl yp yn yb yv ym ok ol op on ob ov om yc yg yf yq yu ye : Nat → Int32}
theorem jy_link_go {post : Int32 → SY → Prop} {r a n f : Nat} (hr : r ≤ 24) (hN : jp_NR yn) (ha : a < 16) (hk : yk a = 2) (hn : n < 64) (hf : f < 16) (hkf : yk f = 1) (hlf : yl f ≤ 8)
    (hex : ¬ yn (64 * a + n) = -1 → post (-2) (nI r, ys, 0, yh, yt, yk, yl, yp, yn, yb, yv, ym, ok, ol, op, on, ob, ov, om, yc, yg, yf, yq, yu, ye)) (hfull : yn (64 * a + n) = -1 → (r = 24 ∨ jp_en yn a = 10) → post (-3) (nI r, ys, 0, yh, yt, yk, yl, yp, yn, yb, yv, ym, ok, ol, op, on, ob, ov, om, yc, yg, yf, yq, yu, ye))
    (h : yn (64 * a + n) = -1 → r < 24 → ¬ jp_en yn a = 10 → post (yl f + 1) (nI (r + 1), ys, 0, yh, yt, yk, upd yl f (yl f + 1), yp, upd yn (64 * a + n) (nI f), yb, yv, ym, ok, ol, op, on, ob, ov, om, upd yc r 1, upd (upd (upd (upd yg (4 * r) (nI a)) (4 * r + 1) (nI n)) (4 * r + 2) (nI f)) (4 * r + 3) 0, yf, yq, yu, ye)) :
    wpY_link post (nI r, ys, 0, yh, yt, yk, yl, yp, yn, yb, yv, ym, ok, ol, op, on, ob, ov, om, yc, yg, yf, yq, yu, ye) (nI a) (nI n) (nI f) := by
  unfold wpY_link
  refine br_t rfl (jy_is (fun _ _ _ _ => br_f (by decide) (jy_in (M := 63) (by omega) (fun _ _ _ => br_f (by decide) (jy_is (fun _ _ _ _ => br_f (by decide) ⟨vp_in_nI hf (by omega), ?_⟩) (fun hh => absurd ⟨f, hf, rfl, hkf⟩ hh))) (fun hh => absurd ⟨n, hn, rfl⟩ hh))) (fun hh => absurd ⟨a, ha, rfl, hk⟩ hh))
  rw [jv_e64, nI_clamp (n := f) (by omega), nI_clamp (n := 64 * a + n) (by omega), jp_neg (by omega) (hN (64 * a + n) (by omega))]
  refine br_t hlf ⟨vp_in_nI (by omega) (by omega), br_c (fun he => pk_eq r 24 (fun e => hfull he (Or.inl e)) (fun hr2 => jy_entries hN ha ?_)) (fun he => hex he)⟩
  have := jp_cn_le (fun n => decide (¬ yn (64 * a + n) = -1)) 64
  have e : jp_en yn a = jp_cn (fun n => decide (¬ yn (64 * a + n) = -1)) 64 := rfl
  refine pk_eq (jp_en yn a) 10 (fun e => hfull he (Or.inr e)) (fun h10 => jy_note (by omega) ⟨vp_in_nI (by omega) (by omega), nm_e ⟨vp_in_nI hf (by omega), vp_in_nI hf (by omega), nm_e ⟨vp_in_nI hf (by omega), ?_⟩⟩⟩)
  rw [pk_us]
  exact h he (by omega) h10
end
theorem jp_run_link {K L P N B V M : Nat → Int32} {r a n f : Nat} (hr : r < 24) (hN : jp_NR N) (ha : a < 16) (hk : K a = 2) (hn : n < 64) (hf : f < 16) (hkf : K f = 1) (hlf : L f ≤ 8) (he : N (64 * a + n) = -1) (hen : ¬ jp_en N a = 10) :
    jp_Run r 1 (nI a) (nI n) (nI f) 0 (K, L, P, N, B, V, M) (K, upd L f (L f + 1), P, upd N (64 * a + n) (nI f), B, V, M) := by
  intro post ys yh yt ok ol op on ob ov om yc yg yf yq yu ye h1 h2 h3 h4 h5 hp
  refine jy_again hr h1 h2 h3 h4 h5 ⟨fun e => absurd e (by decide), fun _ => ?_, fun e => absurd e (by decide), fun e => absurd e (by decide), fun e => absurd e (by decide), fun e => absurd e (by decide)⟩ (Or.inr (Or.inl rfl))
  refine jy_link_go (by omega) hN ha hk hn hf hkf hlf (fun z => absurd he z) (fun _ z => z.elim (fun z => by omega) (fun z => absurd z hen)) (fun _ _ _ => ?_)
  rw [jp_updI h1, jp_upd4 h2 h3 h4 h5]
  exact hp
theorem jp_link_I0 {K L P N B V M : Nat → Int32} {a n f : Nat} {v : Int32} (h : jp_I0 (K, L, P, N, B, V, M)) (ha : a < 16) (hk : K a = 2) (hn : n < 64) (he : N (64 * a + n) = -1) (hf : f < 16) (hkf : K f = 1) (hen : jp_en N a < 10) :
    jp_I0 (K, upd L f v, P, upd N (64 * a + n) (nI f), B, V, M) := by
  obtain ⟨hZ, hK, hK0, hPR, hP0, hL0, hN, hNE, hEN, hB, hBE, hXN⟩ := h
  refine ⟨⟨fun i hi => ?_, fun i hi => ?_, hZ.2.2.1, hZ.2.2.2⟩, hK, hK0, hPR, hP0, fun i hi hk0 => ?_, jp_NR_upd hN (Or.inr ⟨f, hf, rfl⟩), fun i hi hk2 h hh => ?_, fun i hi => ?_, hB, hBE, hXN⟩
  · rw [pk_un (by omega)]; exact hZ.1 i hi
  · rw [pk_un (by omega)]; exact hZ.2.1 i hi
  · have : i ≠ f := fun e => by rw [e, hkf] at hk0; exact absurd hk0 (by decide)
    rw [pk_un this]; exact hL0 i hi hk0
  · have hia : i ≠ a := fun e => hk2 (by rw [e]; exact hk)
    rw [pk_un (by omega)]
    exact hNE i hi hk2 h hh
  · by_cases e : i = a
    · subst e
      have := jp_en_upd (N := N) (a := i) (n := n) (v := nI f) hn
      rw [jp_t0 (fun z => z he), jp_t1 (jv_m1n f (by omega))] at this
      omega
    · rw [jp_en_un hn e]; exact hEN i hi
theorem jp_link_I1 {K L P N B V M : Nat → Int32} {a n f : Nat} (h : jp_I0 (K, L, P, N, B, V, M)) (h1 : jp_I1 (K, L, P, N, B, V, M)) (ha : a < 16) (hn : n < 64) (he : N (64 * a + n) = -1) (hf : f < 16) (hkf : K f = 1) :
    jp_I1 (K, upd L f (L f + 1), P, upd N (64 * a + n) (nI f), B, V, M) := by
  obtain ⟨hZ, hK, hK0, hPR, hP0, hL0, hN, hNE, hEN, hB, hBE, hXN⟩ := h
  obtain ⟨hL, hR0, hUB, rk, hT⟩ := h1
  have hf0 : f ≠ 0 := fun e => by rw [e, hK0] at hkf; exact absurd hkf (by decide)
  have hno : jp_nc (upd N (64 * a + n) (nI f)) f = jp_nc N f + 1 := by
    have := jp_nc_upd (N := N) (v := nI f) (s := 64 * a + n) (by omega) f
    rw [jp_t1 rfl, jp_t0 (fun z => jv_m1n f (by omega) (z.symm.trans he))] at this
    omega
  have hnc : ∀ i, i < 16 → i ≠ f → jp_nc (upd N (64 * a + n) (nI f)) i = jp_nc N i := by
    intro i hi e
    have := jp_nc_upd (N := N) (v := nI f) (s := 64 * a + n) (by omega) i
    rw [jp_t0 (fun z => jv_m1n i (by omega) (z.symm.trans he)), jp_t0 (fun z => e (jv_inj z.symm (by omega) (by omega)))] at this
    omega
  refine ⟨fun i hi => ?_, by rw [hnc 0 (by omega) (by omega)]; exact hR0, hUB, rk, fun i h0 hi hki => ?_⟩
  · by_cases e : i = f
    · subst e; rw [pk_us, hno, hL i hi, nI_1]
    · rw [pk_un e, hnc i hi e]; exact hL i hi
  · have e : i ≠ f := fun e => by rw [e, hkf] at hki; exact absurd hki (by decide)
    obtain ⟨t1, p, h, hp, hh, t2, t3, t4⟩ := hT i h0 hi hki
    have hne : ¬ N (64 * p + h) = -1 := by rw [t3]; exact jv_m1n i (by omega)
    refine ⟨by rw [hnc i hi e]; exact t1, p, h, hp, hh, t2, ?_, t4⟩
    rw [pk_un (fun z => hne (by rw [z]; exact he))]; exact t3
theorem i_vc_link {k : Nat} {u : SX} {v : SY} (I : i_Rel k u v) (hk : k + 5 ≤ 2560) (v1 : Int32) (v2 : Int32) (v3 : Int32) : wpX_link (fun r u' => wpY_link (fun r' v' => r' = r ∧ i_Rel (k + 5) u' v') v v1 v2 v3) u v1 v2 v3 := by
  have I' : i_Rel (k + 5) u v := I
  obtain ⟨S, r, s, d, xw, yh, yt, K, L, P, N, B, V, M, bk, bl, bp, bn, bb, bm, bh, xq, ok, ol, op, on, ob, ov, om, yc, yg, yq, F, T, U, rfl, rfl, hS, hS0, hr, hs, hd, hLog⟩ := I
  have hI := hLog.1 r (Nat.le_refl r)
  have hJ := fun h => hLog.2.1 h r (Nat.le_refl r)
  rw [hS] at hI hJ
  have hI2 := hI
  obtain ⟨hZ, hK, hK0, hPR, hP0, hL0, hN, hNE, hEN, hB, hBE, hXN⟩ := hI
  unfold wpX_link
  refine br_c (fun e => ?_) (fun e => br_f e ⟨rfl, I'⟩)
  subst e
  refine jx_isDirectory (fun a ha e hka => br_f (by decide) (jx_isName (fun n hn e2 => br_f (by decide) (jx_isFile (fun f hf e3 hkf => br_f (by decide) ?_) (fun hno => br_t rfl ?_))) (fun hno => br_t rfl ?_))) (fun hno => br_t rfl ?_)
  · subst e e2 e3
    have hsn := jp_s_lt n
    refine ⟨vp_in_nI hf (by omega), ?_⟩
    rw [nI_clamp (n := f) (by omega)]
    refine br_c (fun hl9 => ?_) (fun hl9 => ?_)
    · have hl8 : L f ≤ 8 := by
        rw [Int32.le_iff_toInt_le, show (8 : Int32).toInt = 8 from by decide]
        rw [Int32.lt_iff_toInt_lt, show (9 : Int32).toInt = 9 from by decide] at hl9
        omega
      refine jx_spotOf hn ⟨vp_in_nI (by omega) (by omega), ?_⟩
      rw [nI_clamp (by omega), jp_ro_n N a hn]
      refine br_c (fun hent => jx_isFullDirectory' ha (fun hfull => br_f (by decide) (jy_link_go hr hN ha hka hn hf hkf hl8 (fun z => absurd hent z) (fun _ _ => ⟨rfl, I'⟩) (fun _ _ z => absurd (by have := hEN a ha; omega) z))) (fun hfull => br_t rfl (jx_isFullLog hr (fun hl => br_f (by decide) (jy_link_go hr hN ha hka hn hf hkf hl8 (fun z => absurd hent z) (fun _ _ => ⟨rfl, I'⟩) (fun _ z _ => by omega))) (fun hl => br_t rfl (jx_openRecord hl ?_))))) (fun hent => jy_link_go hr hN ha hka hn hf hkf hl8 (fun _ => ⟨rfl, I'⟩) (fun z => absurd z hent) (fun z => absurd z hent))
      refine ⟨vp_in_nI (by omega) (by omega), nm_e ⟨vp_in_nI hf (by omega), vp_in_nI hf (by omega), nm_e ⟨vp_in_nI hf (by omega), ?_⟩⟩⟩
      rw [pk_us]
      refine jy_link_go hr hN ha hka hn hf hkf hl8 (fun z => absurd hent z) (fun _ z => z.elim (fun z => by omega) (fun z => by omega)) (fun _ _ h10 => ⟨rfl, ?_⟩)
      rw [← jp_ro_upd N a hn]
      exact jr_push hS hS0 hl hs rfl hLog (jp_link_I0 hI2 ha hka hn hent hf hkf hfull) (jp_link_I1 hI2 (hJ rfl) ha hn hent hf hkf) (jp_run_link hl hN ha hka hn hf hkf hl8 hent h10)
    · have hl8 : ¬ L f ≤ 8 := by
        rw [Int32.le_iff_toInt_le, show (8 : Int32).toInt = 8 from by decide]
        rw [Int32.lt_iff_toInt_lt, show (9 : Int32).toInt = 9 from by decide] at hl9
        omega
      unfold wpY_link
      refine br_t rfl (jy_is (fun _ _ _ _ => br_f (by decide) (jy_in (M := 63) (by omega) (fun _ _ _ => br_f (by decide) (jy_is (fun _ _ _ _ => br_f (by decide) ⟨vp_in_nI hf (by omega), ?_⟩) (fun hh => absurd ⟨f, hf, rfl, hkf⟩ hh))) (fun hh => absurd ⟨n, hn, rfl⟩ hh))) (fun hh => absurd ⟨a, ha, rfl, hka⟩ hh))
      rw [nI_clamp (n := f) (by omega)]
      exact br_f hl8 ⟨rfl, I'⟩
  · unfold wpY_link
    exact br_t rfl (jy_is (fun _ _ _ _ => br_f (by decide) (jy_in (M := 63) (by omega) (fun _ _ _ => br_f (by decide) (jy_is (fun f hf e hkf => absurd ⟨f, hf, e, hkf⟩ hno) (fun _ => br_t rfl ⟨rfl, I'⟩))) (fun _ => br_t rfl ⟨rfl, I'⟩))) (fun _ => br_t rfl ⟨rfl, I'⟩))
  · unfold wpY_link
    exact br_t rfl (jy_is (fun _ _ _ _ => br_f (by decide) (jy_in (M := 63) (by omega) (fun n hn e => absurd ⟨n, hn, e⟩ hno) (fun _ => br_t rfl ⟨rfl, I'⟩))) (fun _ => br_t rfl ⟨rfl, I'⟩))
  · unfold wpY_link
    exact br_t rfl (jy_is (fun a ha e hk => absurd ⟨a, ha, e, hk⟩ hno) (fun _ => br_t rfl ⟨rfl, I'⟩))
end
section
/-! remove -/
section
variable {yr ys yd yh yt : Int32} {yk yl yp yn yb yv ym ok ol op on ob ov om yc yg yf yq yu ye : Nat → Int32}
theorem jy_remove_go {post : Int32 → SY → Prop} {r a n i : Nat} (hr : r ≤ 24) (hN : jp_NR yn) (hB : jp_BR yb) (ha : a < 16) (hk : yk a = 2) (hn : n < 64) (hi : i < 16) (he : yn (64 * a + n) = nI i)
    (hne : yk i = 2 → ¬ jp_en yn i = 0 → post (-4) (nI r, ys, 0, yh, yt, yk, yl, yp, yn, yb, yv, ym, ok, ol, op, on, ob, ov, om, yc, yg, yf, yq, yu, ye)) (hfull : (yk i = 2 → jp_en yn i = 0) → r = 24 → post (-3) (nI r, ys, 0, yh, yt, yk, yl, yp, yn, yb, yv, ym, ok, ol, op, on, ob, ov, om, yc, yg, yf, yq, yu, ye))
    (h1 : (yk i = 2 → jp_en yn i = 0) → r < 24 → ¬ yl i - 1 = 0 → post (nI i) (nI (r + 1), ys, 0, yh, yt, yk, upd yl i (yl i - 1), yp, upd yn (64 * a + n) (-1), yb, yv, ym, ok, ol, op, on, ob, ov, om, upd yc r 2, upd (upd (upd (upd yg (4 * r) (nI a)) (4 * r + 1) (nI n)) (4 * r + 2) 0) (4 * r + 3) 0, yf, yq, yu, ye))
    (h0 : (yk i = 2 → jp_en yn i = 0) → r < 24 → yl i - 1 = 0 → post (nI i) (nI (r + 1), ys, 0, yh, yt, upd yk i 0, upd (upd yl i (yl i - 1)) i 0, yp, jp_fl (upd yn (64 * a + n) (-1)) (64 * i) 64 (-1), jp_fl yb (24 * i) 24 (-1), yv, (jp_uh (24 * i) 24 yb ym).2, ok, ol, op, on, ob, ov, om, upd yc r 2, upd (upd (upd (upd yg (4 * r) (nI a)) (4 * r + 1) (nI n)) (4 * r + 2) 0) (4 * r + 3) 0, yf, yq, yu, ye)) :
    wpY_remove post (nI r, ys, 0, yh, yt, yk, yl, yp, yn, yb, yv, ym, ok, ol, op, on, ob, ov, om, yc, yg, yf, yq, yu, ye) (nI a) (nI n) := by
  unfold wpY_remove
  refine br_t rfl (jy_is (fun _ _ _ _ => br_f (by decide) (jy_in (M := 63) (by omega) (fun _ _ _ => br_f (by decide) ?_) (fun hh => absurd ⟨n, hn, rfl⟩ hh))) (fun hh => absurd ⟨a, ha, rfl, hk⟩ hh))
  rw [jv_e64, nI_clamp (n := 64 * a + n) (by omega), he]
  refine ⟨vp_in_nI (by omega) (by omega), br_t (nI_pos' (by omega)) ⟨vp_in_nI (by omega) (by omega), nm_e ⟨vp_in_nI hi (by omega), ?_⟩⟩⟩
  rw [nI_clamp (n := i) (by omega)]
  have go : (yk i = 2 → jp_en yn i = 0) → wY_remove_75 post (nI a) (nI n) (nI i) (nI r) ys 0 yh yt yk yl yp yn yb yv ym ok ol op on ob ov om yc yg yf yq yu ye := by
    intro hc
    refine pk_eq r 24 (fun e => hfull hc e) (fun hr2 => jy_note (by omega) ?_)
    rw [jv_e64, nI_clamp (n := 64 * a + n) (by omega), nI_clamp (n := i) (by omega)]
    refine ⟨vp_in_nI (by omega) (by omega), nm_e ⟨vp_in_nI hi (by omega), vp_in_nI hi (by omega), nm_e ⟨vp_in_nI hi (by omega), ?_⟩⟩⟩
    rw [pk_us]
    exact br_c (fun z => jy_free hi hB (h0 hc (by omega) z)) (fun z => h1 hc (by omega) z)
  refine br_c (fun k2 => jy_entries hN hi ?_) (fun k2 => go (fun z => absurd z k2))
  have := jp_cn_le (fun n => decide (¬ yn (64 * i + n) = -1)) 64
  have e : jp_en yn i = jp_cn (fun n => decide (¬ yn (64 * i + n) = -1)) 64 := rfl
  exact pk_le (jp_en yn i) 0 (fun z => go (fun _ => by omega)) (fun z => hne k2 (by omega))
end
theorem jp_run_remove1 {K L P N B V M : Nat → Int32} {r a n i : Nat} (hr : r < 24) (hN : jp_NR N) (hB : jp_BR B) (ha : a < 16) (hk : K a = 2) (hn : n < 64) (hi : i < 16) (he : N (64 * a + n) = nI i) (hc : K i = 2 → jp_en N i = 0) (hl : ¬ L i - 1 = 0) :
    jp_Run r 2 (nI a) (nI n) 0 0 (K, L, P, N, B, V, M) (K, upd L i (L i - 1), P, upd N (64 * a + n) (-1), B, V, M) := by
  intro post ys yh yt ok ol op on ob ov om yc yg yf yq yu ye h1 h2 h3 h4 h5 hp
  refine jy_again hr h1 h2 h3 h4 h5 ⟨fun e => absurd e (by decide), fun e => absurd e (by decide), fun _ => ?_, fun e => absurd e (by decide), fun e => absurd e (by decide), fun e => absurd e (by decide)⟩ (Or.inr (Or.inr (Or.inl rfl)))
  refine jy_remove_go (by omega) hN hB ha hk hn hi he (fun k2 z => absurd (hc k2) z) (fun _ z => by omega) (fun _ _ _ => ?_) (fun _ _ z => absurd z hl)
  rw [jp_updI h1, jp_upd4 h2 h3 h4 h5]
  exact hp
theorem jp_run_remove0 {K L P N B V M : Nat → Int32} {r a n i : Nat} (hr : r < 24) (hN : jp_NR N) (hB : jp_BR B) (ha : a < 16) (hk : K a = 2) (hn : n < 64) (hi : i < 16) (he : N (64 * a + n) = nI i) (hc : K i = 2 → jp_en N i = 0) (hl : L i - 1 = 0) :
    jp_Run r 2 (nI a) (nI n) 0 0 (K, L, P, N, B, V, M) (upd K i 0, upd (upd L i (L i - 1)) i 0, P, jp_fl (upd N (64 * a + n) (-1)) (64 * i) 64 (-1), jp_fl B (24 * i) 24 (-1), V, (jp_uh (24 * i) 24 B M).2) := by
  intro post ys yh yt ok ol op on ob ov om yc yg yf yq yu ye h1 h2 h3 h4 h5 hp
  refine jy_again hr h1 h2 h3 h4 h5 ⟨fun e => absurd e (by decide), fun e => absurd e (by decide), fun _ => ?_, fun e => absurd e (by decide), fun e => absurd e (by decide), fun e => absurd e (by decide)⟩ (Or.inr (Or.inr (Or.inl rfl)))
  refine jy_remove_go (by omega) hN hB ha hk hn hi he (fun k2 z => absurd (hc k2) z) (fun _ z => by omega) (fun _ _ z => absurd hl z) (fun _ _ _ => ?_)
  rw [jp_updI h1, jp_upd4 h2 h3 h4 h5]
  exact hp
theorem jp_en_0 {N : Nat → Int32} {i : Nat} (h : jp_en N i = 0) : ∀ n, n < 64 → N (64 * i + n) = -1 := by
  intro n hn
  have := jp_cn_none h n hn
  simpa using this
/-- what removing one entry means for the counts -/
theorem jp_rm {K L P N B V M : Nat → Int32} {a n i : Nat} (h : jp_I0 (K, L, P, N, B, V, M)) (h1 : jp_I1 (K, L, P, N, B, V, M)) (ha : a < 16) (hn : n < 64) (hi : i < 16) (he : N (64 * a + n) = nI i) :
    i ≠ 0 ∧ (∃ c, jp_nc N i = c + 1 ∧ L i - 1 = nI c ∧ c < 1024 ∧ jp_nc (upd N (64 * a + n) (-1)) i = c) ∧ (∀ j, j < 16 → j ≠ i → jp_nc (upd N (64 * a + n) (-1)) j = jp_nc N j) := by
  obtain ⟨hL, hR0, hUB, hT⟩ := h1
  have hp := jp_nc_in (N := N) (s := 64 * a + n) (i := i) (by omega) he
  have hle := jp_nc_le N i
  refine ⟨fun e => ?_, ⟨jp_nc N i - 1, by omega, ?_, by omega, ?_⟩, fun j hj hne => ?_⟩
  · rw [e, hR0] at hp; exact absurd hp (Nat.lt_irrefl 0)
  · rw [hL i hi]
    obtain ⟨c, hc⟩ : ∃ c, jp_nc N i = c + 1 := ⟨jp_nc N i - 1, by omega⟩
    rw [hc, nI_pred]; rfl
  · have := jp_nc_upd (N := N) (v := -1) (s := 64 * a + n) (by omega) i
    rw [jp_t1 he, jp_t0 (fun z => jv_m1n i (by omega) z.symm)] at this
    omega
  · have := jp_nc_upd (N := N) (v := -1) (s := 64 * a + n) (by omega) j
    rw [jp_t0 (fun z => hne (jv_inj (z.symm.trans he) (by omega) (by omega))), jp_t0 (fun z => jv_m1n j (by omega) z.symm)] at this
    omega
theorem jp_en_dec {N : Nat → Int32} {a n d : Nat} (hn : n < 64) : jp_en (upd N (64 * a + n) (-1)) d ≤ jp_en N d := by
  apply jp_cn_mono
  intro j hj h
  by_cases e : 64 * d + j = 64 * a + n
  · rw [e, pk_us] at h; exact absurd h (by decide)
  · rw [pk_un e] at h; exact h
theorem jp_rm1_I0 {K L P N B V M : Nat → Int32} {a n i : Nat} {v : Int32} (h : jp_I0 (K, L, P, N, B, V, M)) (ha : a < 16) (hn : n < 64) (hi : i < 16) (hki : ¬ K i = 0) :
    jp_I0 (K, upd L i v, P, upd N (64 * a + n) (-1), B, V, M) := by
  obtain ⟨hZ, hK, hK0, hPR, hP0, hL0, hN, hNE, hEN, hB, hBE, hXN⟩ := h
  refine ⟨⟨fun j hj => ?_, fun j hj => ?_, hZ.2.2.1, hZ.2.2.2⟩, hK, hK0, hPR, hP0, fun j hj hk0 => ?_, jp_NR_upd hN (Or.inl rfl), fun j hj hk2 h hh => ?_, fun j hj => Nat.le_trans (jp_en_dec hn) (hEN j hj), hB, hBE, hXN⟩
  · rw [pk_un (by omega)]; exact hZ.1 j hj
  · rw [pk_un (by omega)]; exact hZ.2.1 j hj
  · have : j ≠ i := fun e => hki (by rw [← e]; exact hk0)
    rw [pk_un this]; exact hL0 j hj hk0
  · by_cases e : 64 * j + h = 64 * a + n
    · rw [e, pk_us]
    · rw [pk_un e]; exact hNE j hj hk2 h hh
theorem jp_rm1_I1 {K L P N B V M : Nat → Int32} {a n i : Nat} (h : jp_I0 (K, L, P, N, B, V, M)) (h1 : jp_I1 (K, L, P, N, B, V, M)) (ha : a < 16) (hn : n < 64) (hi : i < 16) (he : N (64 * a + n) = nI i) (hl : ¬ L i - 1 = 0) :
    jp_I1 (K, upd L i (L i - 1), P, upd N (64 * a + n) (-1), B, V, M) := by
  obtain ⟨hi0, ⟨c, c1, c2, c3, c4⟩, hnc⟩ := jp_rm h h1 ha hn hi he
  obtain ⟨hL, hR0, hUB, rk, hT⟩ := h1
  refine ⟨fun j hj => ?_, by rw [hnc 0 (by omega) (by omega)]; exact hR0, hUB, rk, fun j h0 hj hkj => ?_⟩
  · by_cases e : j = i
    · subst e; rw [pk_us, c4, c2]
    · rw [pk_un e, hnc j hj e]; exact hL j hj
  · obtain ⟨t1, p, h, hp, hh, t2, t3, t4⟩ := hT j h0 hj hkj
    have e : j ≠ i := fun e => by
      rw [e] at t1
      have : c = 0 := by omega
      rw [this] at c2
      exact hl c2
    refine ⟨by rw [hnc j hj e]; exact t1, p, h, hp, hh, t2, ?_, t4⟩
    have hz : 64 * p + h ≠ 64 * a + n := fun z => e (jv_inj (t3.symm.trans (by rw [z]; exact he)) (by omega) (by omega))
    rw [pk_un hz]; exact t3
theorem jp_fl_id {a : Nat → Int32} {lo len : Nat} {c : Int32} (h : ∀ s, lo ≤ s → s < lo + len → a s = c) : jp_fl a lo len c = a := by
  funext s; unfold jp_fl
  by_cases e : lo ≤ s ∧ s < lo + len
  · rw [if_pos e, h s e.1 e.2]
  · rw [if_neg e]
theorem jp_row0 {K N : Nat → Int32} {i a n : Nat} (hNE : jp_NE K N) (hi : i < 16) (hc : K i = 2 → jp_en N i = 0) : jp_fl (upd N (64 * a + n) (-1)) (64 * i) 64 (-1) = upd N (64 * a + n) (-1) := by
  apply jp_fl_id
  intro s h1 h2
  obtain ⟨h, rfl⟩ : ∃ h, s = 64 * i + h := ⟨s - 64 * i, by omega⟩
  by_cases e : 64 * i + h = 64 * a + n
  · rw [e, pk_us]
  · rw [pk_un e]
    by_cases k2 : K i = 2
    · exact jp_en_0 (hc k2) h (by omega)
    · exact hNE i hi k2 h (by omega)
theorem jp_ne_fl {B : Nat → Int32} {i j : Nat} (h : jp_ne B j ≤ 5) : jp_ne (jp_fl B (24 * i) 24 (-1)) j ≤ 5 := by
  refine Nat.le_trans (jp_cn_mono (fun p hp hb => ?_)) h
  by_cases e : j = i
  · subst e
    unfold jp_be at hb
    rw [jp_fl_in (by omega) (by omega)] at hb
    simp at hb
  · unfold jp_be at hb ⊢
    rw [jp_fl_out (by omega)] at hb
    by_cases p0 : p = 0
    · simp only [decide_eq_true_eq] at hb ⊢; exact ⟨hb.1, Or.inl p0⟩
    · rw [jp_fl_out (by omega)] at hb; exact hb
theorem jp_BR_fl {B : Nat → Int32} (h : jp_BR B) (lo n : Nat) : jp_BR (jp_fl B lo n (-1)) := by
  intro s hs
  by_cases e : lo ≤ s ∧ s < lo + n
  · exact Or.inl (jp_fl_in e.1 e.2)
  · rw [jp_fl_out (by omega)]; exact h s hs
/-- an inode becomes FREE: kinds, links, its rows -/
theorem jp_gone_I0 {K L P N B V M M' : Nat → Int32} {i : Nat} (h : jp_I0 (K, L, P, N, B, V, M)) (hi : i < 16) (hi0 : i ≠ 0) (hM : ∀ j, 64 ≤ j → M' j = 0) :
    jp_I0 (upd K i 0, upd L i 0, P, jp_fl N (64 * i) 64 (-1), jp_fl B (24 * i) 24 (-1), V, M') := by
  obtain ⟨hZ, hK, hK0, hPR, hP0, hL0, hN, hNE, hEN, hB, hBE, hXN⟩ := h
  refine ⟨⟨fun j hj => ?_, fun j hj => ?_, fun j hj => ?_, fun j hj => ⟨(hZ.2.2.2 j hj).1, hM j hj⟩⟩, fun j hj => ?_, ?_, hPR, hP0, fun j hj hk0 => ?_, fun s hs => ?_, fun j hj hk2 h hh => ?_, fun j hj => ?_, jp_BR_fl hB _ _, fun j hj hk1 p hp => ?_, fun j hj => jp_ne_fl (hXN j hj)⟩
  · rw [pk_un (by omega), pk_un (by omega)]; exact hZ.1 j hj
  · rw [jp_fl_out (by omega)]; exact hZ.2.1 j hj
  · rw [jp_fl_out (by omega)]; exact hZ.2.2.1 j hj
  · by_cases e : j = i
    · subst e; rw [pk_us]; exact Or.inl rfl
    · rw [pk_un e]; exact hK j hj
  · rw [pk_un (by omega)]; exact hK0
  · by_cases e : j = i
    · subst e; rw [pk_us]
    · rw [pk_un e] at hk0 ⊢; exact hL0 j hj hk0
  · by_cases e : 64 * i ≤ s ∧ s < 64 * i + 64
    · exact Or.inl (jp_fl_in e.1 e.2)
    · rw [jp_fl_out (by omega)]; exact hN s hs
  · by_cases e : j = i
    · subst e; exact jp_fl_in (by omega) (by omega)
    · rw [pk_un e] at hk2; rw [jp_fl_out (by omega)]; exact hNE j hj hk2 h hh
  · refine Nat.le_trans (jp_cn_mono (fun h hh hb => ?_)) (hEN j hj)
    by_cases e : 64 * i ≤ 64 * j + h ∧ 64 * j + h < 64 * i + 64
    · rw [jp_fl_in e.1 e.2] at hb; exact absurd hb (by decide)
    · rw [jp_fl_out (by omega)] at hb; exact hb
  · by_cases e : j = i
    · subst e; exact jp_fl_in (by omega) (by omega)
    · rw [pk_un e] at hk1; rw [jp_fl_out (by omega)]; exact hBE j hj hk1 p hp
theorem jp_UB_um {k : Nat} {s : (Nat → Int32) × (Nat → Int32)} (hk : k < 384) (hB : jp_BR s.1) (h : jp_UB s.1 s.2) : jp_UB (jp_um k s).1 (jp_um k s).2 := by
  unfold jp_um
  by_cases e : s.1 k = -1
  · rw [if_pos e]; exact h
  · rw [if_neg e]
    rcases hB k hk with z | ⟨b, hb, z⟩
    · exact absurd z e
    · dsimp only
      rw [z, nI_clamp (by omega)]
      have ne : ∀ t c, c < 64 → upd s.1 k (-1) t = nI c → t ≠ k ∧ s.1 t = nI c := by
        intro t c hc et
        by_cases q : t = k
        · rw [q, pk_us] at et; exact absurd et.symm (jv_m1n c (by omega))
        · rw [pk_un q] at et; exact ⟨q, et⟩
      refine ⟨fun t t' c h1 h2 hc e1 e2 => h.1 t t' c h1 h2 hc (ne t c hc e1).2 (ne t' c hc e2).2, fun t c h1 hc e1 => ?_⟩
      obtain ⟨q, et⟩ := ne t c hc e1
      have : c ≠ b := fun z2 => q (h.1 t k c h1 hk hc et (by rw [z, z2]))
      rw [pk_un this]
      exact h.2 t c h1 hc et
theorem jp_UB_uh {lo n : Nat} {B M : Nat → Int32} (hB : jp_BR B) (h : jp_UB B M) (hn : lo + n ≤ 384) : jp_UB (jp_fl B lo n (-1)) (jp_uh lo n B M).2 := by
  have := jp_fd_inv (fun i s => jp_um (lo + i) s) n (B, M) (fun _ s => jp_BR s.1 ∧ jp_UB s.1 s.2) ⟨hB, h⟩ (fun i s hi hJ => ⟨by rw [jp_um_1]; exact jp_BR_upd hJ.1 _, jp_UB_um (by omega) hJ.1 hJ.2⟩)
  rw [← jp_uh_1 lo n B M]
  exact this.2
theorem jp_upd2 (a : Nat → Int32) (k : Nat) (v w : Int32) : upd (upd a k v) k w = upd a k w := by
  funext j; unfold upd
  by_cases e : j = k
  · rw [if_pos e, if_pos e]
  · rw [if_neg e, if_neg e, if_neg e]
theorem jp_rm0_I1 {K L P N B V M B' M' : Nat → Int32} {a n i : Nat} (h : jp_I0 (K, L, P, N, B, V, M)) (h1 : jp_I1 (K, L, P, N, B, V, M)) (ha : a < 16) (hn : n < 64) (hi : i < 16) (he : N (64 * a + n) = nI i) (hc : K i = 2 → jp_en N i = 0) (hl : L i - 1 = 0) (hUB' : jp_UB B' M') :
    jp_I1 (upd K i 0, upd L i 0, P, upd N (64 * a + n) (-1), B', V, M') := by
  obtain ⟨hi0, ⟨c, c1, c2, c3, c4⟩, hnc⟩ := jp_rm h h1 ha hn hi he
  obtain ⟨hZ, hK, hK0, hPR, hP0, hL0, hN, hNE, hEN, hB, hBE, hXN⟩ := h
  obtain ⟨hL, hR0, hUB, rk, hT⟩ := h1
  have hc0 : c = 0 := by rw [hl] at c2; exact (jv_inj (i := 0) c2 (by omega) (by omega)).symm
  refine ⟨fun j hj => ?_, by rw [hnc 0 (by omega) (by omega)]; exact hR0, hUB', rk, fun j h0 hj hkj => ?_⟩
  · by_cases e : j = i
    · subst e; rw [pk_us, c4, hc0]; rfl
    · rw [pk_un e, hnc j hj e]; exact hL j hj
  · have e : j ≠ i := fun e => by rw [e, pk_us] at hkj; exact absurd hkj (by decide)
    rw [pk_un e] at hkj
    obtain ⟨t1, p, h, hp, hh, t2, t3, t4⟩ := hT j h0 hj hkj
    refine ⟨by rw [hnc j hj e]; exact t1, p, h, hp, hh, t2, ?_, t4⟩
    have hz : 64 * p + h ≠ 64 * a + n := fun z => e (jv_inj (t3.symm.trans (by rw [z]; exact he)) (by omega) (by omega))
    rw [pk_un hz]; exact t3
theorem jp_pi_gone {K P : Nat → Int32} {i : Nat} : upd (jp_pi K P) i 0 = jp_pi (upd K i 0) P := by
  funext j
  by_cases e : j = i
  · subst e; rw [pk_us]; unfold jp_pi; rw [pk_us, if_pos rfl]
  · rw [pk_un e]; unfold jp_pi; rw [pk_un e]
theorem jp_fl_fl (a : Nat → Int32) (lo n : Nat) (c : Int32) : jp_fl (jp_fl a lo n c) lo n c = jp_fl a lo n c := jp_fl_id (fun s h1 h2 => jp_fl_in h1 h2)
theorem i_vc_remove {k : Nat} {u : SX} {v : SY} (I : i_Rel k u v) (hk : k + 5 ≤ 2560) (v1 : Int32) (v2 : Int32) : wpX_remove (fun r u' => wpY_remove (fun r' v' => r' = r ∧ i_Rel (k + 5) u' v') v v1 v2) u v1 v2 := by
  have I' : i_Rel (k + 5) u v := I
  obtain ⟨S, r, s, d, xw, yh, yt, K, L, P, N, B, V, M, bk, bl, bp, bn, bb, bm, bh, xq, ok, ol, op, on, ob, ov, om, yc, yg, yq, F, T, U, rfl, rfl, hS, hS0, hr, hs, hd, hLog⟩ := I
  have hI := hLog.1 r (Nat.le_refl r)
  have hJ := fun h => hLog.2.1 h r (Nat.le_refl r)
  rw [hS] at hI hJ
  have hI2 := hI
  obtain ⟨hZ, hK, hK0, hPR, hP0, hL0, hN, hNE, hEN, hB, hBE, hXN⟩ := hI
  unfold wpX_remove
  refine br_c (fun e => ?_) (fun e => br_f e ⟨rfl, I'⟩)
  subst e
  refine jx_hasEntry (fun a n ha hn e1 e2 hka hent => br_f (by decide) ?_) (fun hno => br_t rfl ?_)
  · subst e1 e2
    have hsn := jp_s_lt n
    rw [jp_ro_n N a hn] at hent
    refine jx_spotOf hn ⟨vp_in_nI (by omega) (by omega), ?_⟩
    rw [nI_clamp (by omega), jp_ro_n N a hn]
    rcases hN (64 * a + n) (by omega) with z | ⟨i, hi, he⟩
    · exact absurd z hent
    rw [he]
    have hJ := hJ rfl
    obtain ⟨hi0, ⟨c, c1, c2, c3, c4⟩, hnc⟩ := jp_rm hI2 hJ ha hn hi he
    have hki : ¬ K i = 0 := fun z => by have := jp_free hL0 hJ.1 hi z; omega
    refine nm_e ⟨vp_in_nI hi (by omega), ?_⟩
    rw [nI_clamp (n := i) (by omega)]
    have go : (K i = 2 → jp_en N i = 0) → wX_remove_55 (fun r1 u' => wpY_remove (fun r' v' => r' = r1 ∧ i_Rel (k + 5) u' v') (nI r, nI s, 0, yh, yt, K, L, P, N, B, V, M, ok, ol, op, on, ob, ov, om, yc, yg, F, yq, U, T) (nI a) (nI n)) (nI (64 * a + jp_s n)) (nI i) (nI r) (nI s) 0 xw K L (jp_pi K P) (jp_ro N) B M V bk bl bp bn bb bm bh F T xq U := by
      intro hc
      refine jx_isFullLog hr (fun hl => br_f (by decide) (jy_remove_go hr hN hB ha hka hn hi he (fun k2 z => absurd (hc k2) z) (fun _ _ => ⟨rfl, I'⟩) (fun _ z => by omega) (fun _ z => by omega))) (fun hl => br_t rfl (jx_openRecord hl ?_))
      rw [nI_clamp (n := 64 * a + jp_s n) (by omega), nI_clamp (n := i) (by omega)]
      refine ⟨vp_in_nI (by omega) (by omega), nm_e ⟨vp_in_nI hi (by omega), vp_in_nI hi (by omega), nm_e ⟨vp_in_nI hi (by omega), ?_⟩⟩⟩
      rw [pk_us, c2]
      refine pk_lt 0 c (fun hc0 => ?_) (fun hc0 => jx_makeHoles (p := 0) (m := 24) hi (by omega) hB (jx_makeFree hi ?_))
      · have hl0 : ¬ L i - 1 = 0 := by rw [c2]; exact nI_ne0 hc0 (by omega)
        refine jy_remove_go hr hN hB ha hka hn hi he (fun k2 z => absurd (hc k2) z) (fun _ z => by omega) (fun _ _ _ => ⟨rfl, ?_⟩) (fun _ _ z => absurd z hl0)
        rw [← jp_ro_upd N a hn, ← c2]
        exact jr_push hS hS0 hl hs rfl hLog (jp_rm1_I0 hI2 ha hn hi hki) (jp_rm1_I1 hI2 hJ ha hn hi he hl0) (jp_run_remove1 hl hN hB ha hka hn hi he hc hl0)
      · have hl0 : L i - 1 = 0 := by rw [c2, show c = 0 from by omega]; rfl
        refine jy_remove_go hr hN hB ha hka hn hi he (fun k2 z => absurd (hc k2) z) (fun _ z => by omega) (fun _ _ z => absurd hl0 z) (fun _ _ _ => ⟨rfl, ?_⟩)
        have hrun := jp_run_remove0 (L := L) (P := P) (V := V) (M := M) hl hN hB ha hka hn hi he hc hl0
        rw [← jp_ro_upd N a hn, ← jp_ro_fl, Nat.add_zero (24 * i), jp_fl_fl, jp_pi_gone, ← c2]
        refine jr_push hS hS0 hl hs rfl hLog ?_ ?_ hrun
        · rw [jp_upd2]
          have := jp_gone_I0 (M' := (jp_uh (24 * i) 24 B M).2) (jp_rm1_I0 (v := 0) hI2 ha hn hi hki) hi hi0 (jp_uh_z hB (fun j hj => (hZ.2.2.2 j hj).2) (by omega))
          rw [jp_upd2] at this
          exact this
        · rw [jp_upd2, jp_row0 hNE hi hc]
          exact jp_rm0_I1 hI2 hJ ha hn hi he hc hl0 (jp_UB_uh hB hJ.2.2.1 (by omega))
    refine br_c (fun k2 => jx_countEntries' hi ?_) (fun k2 => go (fun z => absurd z k2))
    have := jp_cn_le (fun n => decide (¬ N (64 * i + n) = -1)) 64
    have e : jp_en N i = jp_cn (fun n => decide (¬ N (64 * i + n) = -1)) 64 := rfl
    exact pk_le (jp_en N i) 0 (fun z => go (fun _ => by omega)) (fun z => jy_remove_go hr hN hB ha hka hn hi he (fun _ _ => ⟨rfl, I'⟩) (fun hc => by have := hc k2; omega) (fun hc => by have := hc k2; omega) (fun hc => by have := hc k2; omega))
  · unfold wpY_remove
    refine br_t rfl (jy_is (fun a ha e hka => br_f (by decide) (jy_in (M := 63) (by omega) (fun n hn e2 => br_f (by decide) ?_) (fun _ => br_t rfl ⟨rfl, I'⟩))) (fun _ => br_t rfl ⟨rfl, I'⟩))
    subst e e2
    rw [jv_e64, nI_clamp (by omega), jp_nneg (by omega) (hN (64 * a + n) (by omega))]
    exact ⟨vp_in_nI (by omega) (by omega), br_f (fun z => hno ⟨a, n, ha, hn, rfl, rfl, hka, by rw [jp_ro_n N a hn]; exact z⟩) ⟨rfl, I'⟩⟩
end
section
/-! the way up -/
def jp_up (P : Nat → Int32) : Nat → Nat → Nat
  | 0 => fun i => i
  | n + 1 => fun i => jp_up P n (P i).toNatClampNeg
theorem jp_up_s {P : Nat → Int32} {i p : Nat} (hp : p < 16) (h : P i = nI p) (n : Nat) : jp_up P (n + 1) i = jp_up P n p := by
  show jp_up P n (P i).toNatClampNeg = _
  rw [h, nI_clamp (by omega)]
theorem jp_cn_strict {f g : Nat → Bool} {n p : Nat} (hp : p < n) (h : ∀ i, i < n → f i = true → g i = true) (h0 : f p = false) (h1 : g p = true) : jp_cn f n < jp_cn g n := by
  have e := jp_cn_upd (f := fun i => f i || decide (i = p)) (g := f) hp (fun j hj hne => by simp [hne])
  have m := jp_cn_mono (f := fun i => f i || decide (i = p)) (g := g) (n := n) (fun i hi hf => by
    by_cases e : i = p
    · rw [e]; exact h1
    · exact h i hi (by simpa [e] using hf))
  simp [h0] at e
  omega
def jp_UT (K P : Nat → Int32) (rk : Nat → Nat) : Prop := (∀ x, x < 16 → rk x ≤ 15) ∧ ∀ x, 0 < x → x < 16 → K x = 2 → ∃ p, p < 16 ∧ P x = nI p ∧ K p = 2 ∧ rk p < rk x
theorem jp_rank {K P N : Nat → Int32} (hNE : jp_NE K N) (h : jp_T1 K P N) : ∃ rk, jp_UT K P rk := by
  obtain ⟨rk, hT⟩ := h
  refine ⟨fun x => jp_cn (fun y => decide (rk y < rk x)) 16, fun x hx => ?_, fun x h0 hx hk => ?_⟩
  · have := jp_cn_lt (f := fun y => decide (rk y < rk x)) hx (by simp)
    dsimp only
    omega
  · obtain ⟨t1, p, h, hp, hh, t2, t3, t4⟩ := hT x h0 hx hk
    refine ⟨p, hp, t2, jp_dir hNE hp hh (by rw [t3]; exact jv_m1n x (by omega)), ?_⟩
    refine jp_cn_strict (p := p) hp (fun y hy hb => ?_) (by simp) (by simpa using t4)
    simp only [decide_eq_true_eq] at hb ⊢
    omega
section
variable {xr xs xd xw : Int32} {xk xl xp xn xb xm xh bk bl bp bn bb bm bh xf xt xq xu : Nat → Int32} {K P : Nat → Int32} {rk : Nat → Nat}
theorem jx_above {post : Int32 → Prop} {i b : Nat} (hU : jp_UT K P rk) (hK0 : K 0 = 2) (hP0 : P 0 = 0) (hi : i < 16) (hi0 : i ≠ 0) (hb : b < 16) (hkb : K b = 2) (ht : (∃ j, jp_up P j b = i) → post 1) (hf : (∀ j, jp_up P j b ≠ i) → post 0) : wpX_isAtOrAbove post (xr, xs, xd, xw, xk, xl, jp_pi K P, xn, xb, xm, xh, bk, bl, bp, bn, bb, bm, bh, xf, xt, xq, xu) (nI i) (nI b) := by
  unfold wpX_isAtOrAbove
  have pi : ∀ x, ¬ K x = 0 → jp_pi K P x = P x := fun x h => if_neg h
  have spin : ∀ q x4, q + x4 = 16 → post 0 → wX_isAtOrAbove_5 post (nI i) xr xs xd xw xk xl (jp_pi K P) xn xb xm xh bk bl bp bn bb bm bh xf xt xq xu (q + 1) 0 (nI x4) := by
    intro q
    induction q with
    | zero => intro x4 h h0; exact br_t (nI_le (a := 16) (by omega) (by omega)) h0
    | succ q ih =>
      intro x4 h h0
      refine br_f (nI_ge (b := 16) (by omega) (by omega)) (br_f (fun z => hi0 (jv_inj (i := 0) z (by omega) (by omega)).symm) ⟨vp_in_nI (n := 0) (by omega) (by omega), nm_r (e' := 0) ?_ (nm_r (nI_1 _) (ih _ (by omega) h0))⟩)
      show jp_pi K P 0 = 0
      rw [pi 0 (by rw [hK0]; decide), hP0]
  have key : ∀ m q at' x4, at' < 16 → K at' = 2 → rk at' ≤ m → q + x4 = 16 → x4 + m ≤ 15 → ((∃ j, jp_up P j at' = i) → post 1) → ((∀ j, jp_up P j at' ≠ i) → post 0) → wX_isAtOrAbove_5 post (nI i) xr xs xd xw xk xl (jp_pi K P) xn xb xm xh bk bl bp bn bb bm bh xf xt xq xu (q + 1) (nI at') (nI x4) := by
    intro m
    induction m with
    | zero =>
      intro q at' x4 ha hka hrk hq hx ht hf
      by_cases e0 : at' = 0
      · subst e0
        refine spin q x4 hq (hf (fun j => ?_))
        induction j with
        | zero => exact fun z => hi0 z.symm
        | succ j ih => rw [jp_up_s (by omega) hP0]; exact ih
      · obtain ⟨p, _, _, _, h⟩ := hU.2 at' (by omega) ha hka
        omega
    | succ m ih =>
      intro q at' x4 ha hka hrk hq hx ht hf
      obtain ⟨q, rfl⟩ : ∃ q', q = q' + 1 := ⟨q - 1, by omega⟩
      by_cases ei : at' = i
      · subst ei
        exact br_f (nI_ge (b := 16) (by omega) (by omega)) (br_t rfl (ht ⟨0, rfl⟩))
      · by_cases e0 : at' = 0
        · subst e0
          refine spin (q + 1) x4 hq (hf (fun j => ?_))
          induction j with
          | zero => exact ei
          | succ j ih => rw [jp_up_s (by omega) hP0]; exact ih
        · obtain ⟨p, hp, e, hkp, h⟩ := hU.2 at' (by omega) ha hka
          refine br_f (nI_ge (b := 16) (by omega) (by omega)) (br_f (fun z => ei (jv_inj z (by omega) (by omega))) ⟨vp_in_nI ha (by omega), ?_⟩)
          rw [nI_clamp (by omega), pi at' (by rw [hka]; decide), e]
          refine nm_e (nm_r (nI_1 _) (ih q p (x4 + 1) hp hkp (by omega) (by omega) (by omega) (fun ⟨j, hj⟩ => ht ⟨j + 1, by rw [jp_up_s hp e]; exact hj⟩) (fun hn => hf (fun j => ?_))))
          cases j with
          | zero => exact ei
          | succ j => rw [jp_up_s hp e]; exact hn j
  exact ⟨17, key 15 16 b 0 hb hkb (hU.1 b hb) rfl (by omega) ht hf⟩
end
section
variable {yr ys yd yh yt : Int32} {yk yl yp yn yb yv ym ok ol op on ob ov om yc yg yf yq yu ye : Nat → Int32} {K P : Nat → Int32} {rk : Nat → Nat}
theorem jy_above {post : Int32 → Prop} {i b : Nat} (hU : jp_UT K P rk) (hP0 : P 0 = 0) (hi : i < 16) (hi0 : i ≠ 0) (hb : b < 16) (hkb : K b = 2) (ht : (∃ j, jp_up P j b = i) → post 1) (hf : (∀ j, jp_up P j b ≠ i) → post 0) : wpY_isAbove post (yr, ys, yd, yh, yt, yk, yl, P, yn, yb, yv, ym, ok, ol, op, on, ob, ov, om, yc, yg, yf, yq, yu, ye) (nI i) (nI b) := by
  unfold wpY_isAbove
  have key : ∀ m at', at' < 16 → K at' = 2 → rk at' ≤ m → ((∃ j, jp_up P j at' = i) → post 1) → ((∀ j, jp_up P j at' ≠ i) → post 0) → wY_isAbove_2 post (nI i) yr ys yd yh yt yk yl P yn yb yv ym ok ol op on ob ov om yc yg yf yq yu ye (m + 1) (nI at') := by
    intro m
    induction m with
    | zero =>
      intro at' ha hka hrk ht hf
      by_cases e0 : at' = 0
      · subst e0
        have ne : ¬ nI 0 = nI i := fun z => hi0 (jv_inj (i := 0) z (by omega) (by omega)).symm
        refine br_f ne (br_t rfl (br_f ne (hf (fun j => ?_))))
        induction j with
        | zero => exact fun z => hi0 z.symm
        | succ j ih => rw [jp_up_s (by omega) hP0]; exact ih
      · obtain ⟨p, _, _, _, h⟩ := hU.2 at' (by omega) ha hka
        omega
    | succ m ih =>
      intro at' ha hka hrk ht hf
      by_cases ei : at' = i
      · subst ei
        exact br_t rfl (br_t rfl (ht ⟨0, rfl⟩))
      · have ne : ¬ nI at' = nI i := fun z => ei (jv_inj z (by omega) (by omega))
        by_cases e0 : at' = 0
        · subst e0
          refine br_f ne (br_t rfl (br_f ne (hf (fun j => ?_))))
          induction j with
          | zero => exact ei
          | succ j ih => rw [jp_up_s (by omega) hP0]; exact ih
        · obtain ⟨p, hp, e, hkp, h⟩ := hU.2 at' (by omega) ha hka
          refine br_f ne (br_f (nI_ne0 (by omega) (by omega)) ⟨vp_in_nI ha (by omega), ?_⟩)
          rw [nI_clamp (by omega), e]
          refine nm_e (ih p hp hkp (by omega) (fun ⟨j, hj⟩ => ht ⟨j + 1, by rw [jp_up_s hp e]; exact hj⟩) (fun hn => hf (fun j => ?_)))
          cases j with
          | zero => exact ei
          | succ j => rw [jp_up_s hp e]; exact hn j
  exact ⟨16, key 15 b hb hkb (hU.1 b hb) ht hf⟩
/-! move -/
theorem jy_move_go {post : Int32 → SY → Prop} {r a n b m i : Nat} (hr : r ≤ 24) (hN : jp_NR yn) (hU : jp_UT yk yp rk) (hP0 : yp 0 = 0) (ha : a < 16) (hk : yk a = 2) (hn : n < 64) (hb : b < 16) (hkb : yk b = 2) (hm : m < 64) (hi : i < 16) (hi0 : i ≠ 0) (he : yn (64 * a + n) = nI i)
    (hex : ¬ yn (64 * b + m) = -1 → post (-2) (nI r, ys, 0, yh, yt, yk, yl, yp, yn, yb, yv, ym, ok, ol, op, on, ob, ov, om, yc, yg, yf, yq, yu, ye))
    (hloop : yn (64 * b + m) = -1 → yk i = 2 → (∃ j, jp_up yp j b = i) → post (-5) (nI r, ys, 0, yh, yt, yk, yl, yp, yn, yb, yv, ym, ok, ol, op, on, ob, ov, om, yc, yg, yf, yq, yu, ye))
    (hfull : yn (64 * b + m) = -1 → (yk i = 2 → ∀ j, jp_up yp j b ≠ i) → (r = 24 ∨ (b ≠ a ∧ jp_en yn b = 10)) → post (-3) (nI r, ys, 0, yh, yt, yk, yl, yp, yn, yb, yv, ym, ok, ol, op, on, ob, ov, om, yc, yg, yf, yq, yu, ye))
    (h : yn (64 * b + m) = -1 → (yk i = 2 → ∀ j, jp_up yp j b ≠ i) → r < 24 → (b ≠ a → ¬ jp_en yn b = 10) → post (nI i) (nI (r + 1), ys, 0, yh, yt, yk, yl, (if yk i = 2 then upd yp i (nI b) else yp), upd (upd yn (64 * a + n) (-1)) (64 * b + m) (nI i), yb, yv, ym, ok, ol, op, on, ob, ov, om, upd yc r 3, upd (upd (upd (upd yg (4 * r) (nI a)) (4 * r + 1) (nI n)) (4 * r + 2) (nI b)) (4 * r + 3) (nI m), yf, yq, yu, ye)) :
    wpY_move post (nI r, ys, 0, yh, yt, yk, yl, yp, yn, yb, yv, ym, ok, ol, op, on, ob, ov, om, yc, yg, yf, yq, yu, ye) (nI a) (nI n) (nI b) (nI m) := by
  unfold wpY_move
  refine br_t rfl (jy_is (fun _ _ _ _ => br_f (by decide) (jy_in (M := 63) (by omega) (fun _ _ _ => br_f (by decide) ?_) (fun hh => absurd ⟨n, hn, rfl⟩ hh))) (fun hh => absurd ⟨a, ha, rfl, hk⟩ hh))
  rw [jv_e64, jv_e64, nI_clamp (n := 64 * a + n) (by omega), nI_clamp (n := 64 * b + m) (by omega), he]
  refine ⟨vp_in_nI (by omega) (by omega), br_f (nI_pos (by omega)) (jy_is (fun _ _ _ _ => br_f (by decide) (jy_in (M := 63) (by omega) (fun _ _ _ => br_f (by decide) ⟨vp_in_nI (by omega) (by omega), ?_⟩) (fun hh => absurd ⟨m, hm, rfl⟩ hh))) (fun hh => absurd ⟨b, hb, rfl, hkb⟩ hh))⟩
  rw [jp_neg (by omega) (hN (64 * b + m) (by omega))]
  refine br_c (fun hent => ⟨vp_in_nI (by omega) (by omega), nm_e ⟨vp_in_nI hi (by omega), ?_⟩⟩) (fun hent => hex hent)
  rw [nI_clamp (n := i) (by omega)]
  have fin : (yk i = 2 → ∀ j, jp_up yp j b ≠ i) → wY_move_117 post (nI a) (nI n) (nI b) (nI m) (nI i) (nI r) ys 0 yh yt yk yl yp yn yb yv ym ok ol op on ob ov om yc yg yf yq yu ye := by
    intro hup
    have last : r < 24 → (b ≠ a → ¬ jp_en yn b = 10) → wY_move_144 post (nI a) (nI n) (nI b) (nI m) (nI i) (nI r) ys 0 yh yt yk yl yp yn yb yv ym ok ol op on ob ov om yc yg yf yq yu ye := by
      intro hr2 h10
      refine jy_note hr2 ?_
      rw [jv_e64, jv_e64, nI_clamp (n := 64 * a + n) (by omega), nI_clamp (n := 64 * b + m) (by omega), nI_clamp (n := i) (by omega)]
      have h := h hent hup hr2 h10
      refine ⟨vp_in_nI (by omega) (by omega), nm_e ⟨vp_in_nI (by omega) (by omega), nm_e ⟨vp_in_nI hi (by omega), br_c (fun k2 => ⟨vp_in_nI hi (by omega), nm_e ?_⟩) (fun k2 => ?_)⟩⟩⟩
      · rw [if_pos k2] at h; exact h
      · rw [if_neg k2] at h; exact h
    refine pk_eq r 24 (fun e => hfull hent hup (Or.inl e)) (fun hr2 => pk_eq b a (fun e => last (by omega) (fun z => absurd e z)) (fun e => jy_entries hN hb ?_))
    have := jp_cn_le (fun n => decide (¬ yn (64 * b + n) = -1)) 64
    have e3 : jp_en yn b = jp_cn (fun n => decide (¬ yn (64 * b + n) = -1)) 64 := rfl
    exact pk_eq (jp_en yn b) 10 (fun z => hfull hent hup (Or.inr ⟨e, z⟩)) (fun z => last (by omega) (fun _ => z))
  exact br_c (fun k2 => jy_above hU hP0 hi hi0 hb hkb (fun z => br_f (by decide) (hloop hent k2 z)) (fun z => br_t rfl (fin (fun _ => z)))) (fun k2 => fin (fun z => absurd z k2))
end
theorem jp_run_move {K L P N B V M : Nat → Int32} {rk : Nat → Nat} {r a n b m i : Nat} (hr : r < 24) (hN : jp_NR N) (hU : jp_UT K P rk) (hP0 : P 0 = 0) (ha : a < 16) (hk : K a = 2) (hn : n < 64) (hb : b < 16) (hkb : K b = 2) (hm : m < 64) (hi : i < 16) (hi0 : i ≠ 0) (he : N (64 * a + n) = nI i)
    (hent : N (64 * b + m) = -1) (hup : K i = 2 → ∀ j, jp_up P j b ≠ i) (h10 : b ≠ a → ¬ jp_en N b = 10) :
    jp_Run r 3 (nI a) (nI n) (nI b) (nI m) (K, L, P, N, B, V, M) (K, L, (if K i = 2 then upd P i (nI b) else P), upd (upd N (64 * a + n) (-1)) (64 * b + m) (nI i), B, V, M) := by
  intro post ys yh yt ok ol op on ob ov om yc yg yf yq yu ye h1 h2 h3 h4 h5 hp
  refine jy_again hr h1 h2 h3 h4 h5 ⟨fun e => absurd e (by decide), fun e => absurd e (by decide), fun e => absurd e (by decide), fun _ => ?_, fun e => absurd e (by decide), fun e => absurd e (by decide)⟩ (Or.inr (Or.inr (Or.inr (Or.inl rfl))))
  refine jy_move_go (by omega) hN hU hP0 ha hk hn hb hkb hm hi hi0 he (fun z => absurd hent z) (fun _ k2 ⟨j, z⟩ => absurd z (hup k2 j)) (fun _ _ z => z.elim (fun z => by omega) (fun z => absurd z.2 (h10 z.1))) (fun _ _ _ _ => ?_)
  rw [jp_updI h1, jp_upd4 h2 h3 h4 h5]
  exact hp
theorem jp_move_I0 {K L P N B V M : Nat → Int32} {a n b m i : Nat} (h : jp_I0 (K, L, P, N, B, V, M)) (ha : a < 16) (hn : n < 64) (hb : b < 16) (hkb : K b = 2) (hm : m < 64) (hi : i < 16) (hi0 : i ≠ 0) (he : N (64 * a + n) = nI i) (hent : N (64 * b + m) = -1) (h10 : b ≠ a → jp_en N b < 10) :
    jp_I0 (K, L, (if K i = 2 then upd P i (nI b) else P), upd (upd N (64 * a + n) (-1)) (64 * b + m) (nI i), B, V, M) := by
  obtain ⟨hZ, hK, hK0, hPR, hP0, hL0, hN, hNE, hEN, hB, hBE, hXN⟩ := h
  have hPif : ∀ j, (if K i = 2 then upd P i (nI b) else P) j = P j ∨ (j = i ∧ (if K i = 2 then upd P i (nI b) else P) j = nI b) := by
    intro j
    by_cases k2 : K i = 2
    · rw [if_pos k2]
      by_cases e : j = i
      · subst e; rw [pk_us]; exact Or.inr ⟨rfl, rfl⟩
      · rw [pk_un e]; exact Or.inl rfl
    · rw [if_neg k2]; exact Or.inl rfl
  refine ⟨⟨fun j hj => ⟨(hZ.1 j hj).1, (hZ.1 j hj).2.1, ?_⟩, fun j hj => ?_, hZ.2.2.1, hZ.2.2.2⟩, hK, hK0, fun j hj => ?_, ?_, hL0, jp_NR_upd (jp_NR_upd hN (Or.inl rfl)) (Or.inr ⟨i, hi, rfl⟩), fun j hj hk2 h hh => ?_, fun j hj => ?_, hB, hBE, hXN⟩
  · rcases hPif j with e | ⟨e, _⟩
    · rw [e]; exact (hZ.1 j hj).2.2
    · omega
  · rw [pk_un (by omega), pk_un (by omega)]; exact hZ.2.1 j hj
  · rcases hPif j with e | ⟨_, e⟩
    · rw [e]; exact hPR j hj
    · exact ⟨b, hb, e⟩
  · rcases hPif 0 with e | ⟨e, _⟩
    · rw [e]; exact hP0
    · exact absurd e.symm hi0
  · have hjb : j ≠ b := fun e => hk2 (by rw [e]; exact hkb)
    rw [pk_un (by omega)]
    by_cases e : 64 * j + h = 64 * a + n
    · rw [e, pk_us]
    · rw [pk_un e]; exact hNE j hj hk2 h hh
  · have hne : 64 * b + m ≠ 64 * a + n := fun z => by rw [z, he] at hent; exact jv_m1n i (by omega) hent
    by_cases e : j = b
    · subst e
      have u1 := jp_en_upd (N := upd N (64 * a + n) (-1)) (a := j) (n := m) (v := nI i) hm
      rw [pk_un hne, jp_t0 (fun z => z hent), jp_t1 (jv_m1n i (by omega))] at u1
      by_cases e2 : j = a
      · subst e2
        have u2 := jp_en_upd (N := N) (a := j) (n := n) (v := -1) hn
        rw [jp_t1 (by rw [he]; exact jv_m1n i (by omega)), jp_t0 (fun z => z rfl)] at u2
        have := hEN j hj
        omega
      · rw [jp_en_un hn e2] at u1
        have := h10 e2
        omega
    · rw [jp_en_un hm e]
      exact Nat.le_trans (jp_en_dec hn) (hEN j hj)
theorem jp_move_nc {N : Nat → Int32} {a n b m i : Nat} (ha : a < 16) (hn : n < 64) (hb : b < 16) (hm : m < 64) (he : N (64 * a + n) = nI i) (hi : i < 16) (hent : N (64 * b + m) = -1) (j : Nat) (hj : j < 16) : jp_nc (upd (upd N (64 * a + n) (-1)) (64 * b + m) (nI i)) j = jp_nc N j := by
  have hne : 64 * b + m ≠ 64 * a + n := fun z => by rw [z, he] at hent; exact jv_m1n i (by omega) hent
  have u1 := jp_nc_upd (N := upd N (64 * a + n) (-1)) (v := nI i) (s := 64 * b + m) (by omega) j
  have u2 := jp_nc_upd (N := N) (v := -1) (s := 64 * a + n) (by omega) j
  rw [pk_un hne, jp_t0 (p := N (64 * b + m) = nI j) (fun z => jv_m1n j (by omega) (z.symm.trans hent))] at u1
  rw [jp_t0 (p := (-1 : Int32) = nI j) (fun z => jv_m1n j (by omega) z.symm), he] at u2
  omega
theorem jp_move_I1 {K L P N B V M : Nat → Int32} {a n b m i : Nat} (h : jp_I0 (K, L, P, N, B, V, M)) (h1 : jp_I1 (K, L, P, N, B, V, M)) (ha : a < 16) (hn : n < 64) (hb : b < 16) (hkb : K b = 2) (hm : m < 64) (hi : i < 16) (hi0 : i ≠ 0) (he : N (64 * a + n) = nI i) (hent : N (64 * b + m) = -1) (hup : K i = 2 → ∀ j, jp_up P j b ≠ i) :
    jp_I1 (K, L, (if K i = 2 then upd P i (nI b) else P), upd (upd N (64 * a + n) (-1)) (64 * b + m) (nI i), B, V, M) := by
  have hnc := jp_move_nc ha hn hb hm he hi hent
  obtain ⟨hZ, hK, hK0, hPR, hP0, hL0, hN, hNE, hEN, hB, hBE, hXN⟩ := h
  obtain ⟨hL, hR0, hUB, rk, hT⟩ := h1
  refine ⟨fun j hj => by rw [hnc j hj]; exact hL j hj, by rw [hnc 0 (by omega)]; exact hR0, hUB, ?_⟩
  have cell : ∀ j p h, j < 16 → j ≠ i → N (64 * p + h) = nI j → upd (upd N (64 * a + n) (-1)) (64 * b + m) (nI i) (64 * p + h) = nI j := by
    intro j p h hj hne e
    have z1 : 64 * p + h ≠ 64 * b + m := fun z => by rw [z, hent] at e; exact jv_m1n j (by omega) e.symm
    have z2 : 64 * p + h ≠ 64 * a + n := fun z => by rw [z, he] at e; exact hne (jv_inj e (by omega) (by omega)).symm
    rw [pk_un z1, pk_un z2]; exact e
  by_cases k2 : K i = 2
  · have hup := hup k2
    rw [if_pos k2]
    have hch : ∀ x, ∃ y, ((∃ j, jp_up P j x = i) → y = rk x + rk b + 1) ∧ ((¬ ∃ j, jp_up P j x = i) → y = rk x) := by
      intro x
      by_cases hx : ∃ j, jp_up P j x = i
      · exact ⟨rk x + rk b + 1, fun _ => rfl, fun z => absurd hx z⟩
      · exact ⟨rk x, fun z => absurd z hx, fun _ => rfl⟩
    obtain ⟨g, hg⟩ := Classical.axiomOfChoice hch
    refine ⟨g, fun j h0 hj hkj => ?_⟩
    by_cases e : j = i
    · subst e
      refine ⟨by rw [hnc j hj]; exact (hT j h0 hj hkj).1, b, m, hb, hm, pk_us, pk_us, ?_⟩
      rw [(hg b).2 (fun ⟨q, z⟩ => hup q z), (hg j).1 ⟨0, rfl⟩]
      omega
    · obtain ⟨t1, p, h, hp, hh, t2, t3, t4⟩ := hT j h0 hj hkj
      refine ⟨by rw [hnc j hj]; exact t1, p, h, hp, hh, by rw [pk_un e]; exact t2, cell j p h hj e t3, ?_⟩
      by_cases hx : ∃ q, jp_up P q j = i
      · obtain ⟨q, hq⟩ := hx
        have hp2 : ∃ q, jp_up P q p = i := by
          cases q with
          | zero => exact absurd hq e
          | succ q => exact ⟨q, by rw [← jp_up_s hp t2]; exact hq⟩
        rw [(hg p).1 hp2, (hg j).1 ⟨q, hq⟩]
        omega
      · have hp2 : ¬ ∃ q, jp_up P q p = i := fun ⟨q, hq⟩ => hx ⟨q + 1, by rw [jp_up_s hp t2]; exact hq⟩
        rw [(hg p).2 hp2, (hg j).2 hx]
        exact t4
  · rw [if_neg k2]
    refine ⟨rk, fun j h0 hj hkj => ?_⟩
    have e : j ≠ i := fun e => k2 (by rw [← e]; exact hkj)
    obtain ⟨t1, p, h, hp, hh, t2, t3, t4⟩ := hT j h0 hj hkj
    exact ⟨by rw [hnc j hj]; exact t1, p, h, hp, hh, t2, cell j p h hj e t3, t4⟩
theorem jp_up_dir {K P : Nat → Int32} {rk : Nat → Nat} (hU : jp_UT K P rk) (hP0 : P 0 = 0) : ∀ j b, b < 16 → K b = 2 → K (jp_up P j b) = 2 := by
  intro j
  induction j with
  | zero => intro b _ h; exact h
  | succ j ih =>
    intro b hb h
    by_cases e : b = 0
    · subst e
      rw [jp_up_s (by omega) hP0]; exact ih 0 hb h
    · obtain ⟨p, hp, e2, hkp, _⟩ := hU.2 b (by omega) hb h
      rw [jp_up_s hp e2]; exact ih p hp hkp
theorem i_vc_move {k : Nat} {u : SX} {v : SY} (I : i_Rel k u v) (hk : k + 5 ≤ 2560) (v1 : Int32) (v2 : Int32) (v3 : Int32) (v4 : Int32) : wpX_move (fun r u' => wpY_move (fun r' v' => r' = r ∧ i_Rel (k + 5) u' v') v v1 v2 v3 v4) u v1 v2 v3 v4 := by
  have I' : i_Rel (k + 5) u v := I
  obtain ⟨S, r, s, d, xw, yh, yt, K, L, P, N, B, V, M, bk, bl, bp, bn, bb, bm, bh, xq, ok, ol, op, on, ob, ov, om, yc, yg, yq, F, T, U, rfl, rfl, hS, hS0, hr, hs, hd, hLog⟩ := I
  have hI := hLog.1 r (Nat.le_refl r)
  have hJ := fun h => hLog.2.1 h r (Nat.le_refl r)
  rw [hS] at hI hJ
  have hI2 := hI
  obtain ⟨hZ, hK, hK0, hPR, hP0, hL0, hN, hNE, hEN, hB, hBE, hXN⟩ := hI
  unfold wpX_move
  refine br_c (fun e => ?_) (fun e => br_f e ⟨rfl, I'⟩)
  subst e
  refine jx_hasEntry (fun a n ha hn e1 e2 hka hent => br_f (by decide) (jx_isDirectory (fun b hb e3 hkb => br_f (by decide) (jx_isName (fun m hm e4 => br_f (by decide) ?_) (fun hno => br_t rfl ?_))) (fun hno => br_t rfl ?_))) (fun hno => br_t rfl ?_)
  · subst e1 e2 e3 e4
    have hsn := jp_s_lt n
    have hsm := jp_s_lt m
    rw [jp_ro_n N a hn] at hent
    refine jx_spotOf hn (jx_spotOf hm ⟨vp_in_nI (by omega) (by omega), ?_⟩)
    rw [nI_clamp (n := 64 * a + jp_s n) (by omega), jp_ro_n N a hn, nI_clamp (n := 64 * b + jp_s m) (by omega), jp_ro_n N b hm]
    rcases hN (64 * a + n) (by omega) with z | ⟨i, hi, he⟩
    · exact absurd z hent
    rw [he]
    have hJ := hJ rfl
    obtain ⟨hi0, _, _⟩ := jp_rm hI2 hJ ha hn hi he
    have hki : ¬ K i = 0 := fun z => by
      have := jp_free hL0 hJ.1 hi z
      have := jp_nc_in (N := N) (s := 64 * a + n) (i := i) (by omega) he
      omega
    obtain ⟨rk, hU⟩ := jp_rank hNE hJ.2.2.2
    refine nm_e ⟨vp_in_nI (by omega) (by omega), br_c (fun hnew => jx_above hU hK0 hP0 hi hi0 hb hkb (fun hab => br_f (by decide) ?_) (fun hab => br_t rfl ?_)) (fun hnew => jy_move_go hr hN hU hP0 ha hka hn hb hkb hm hi hi0 he (fun _ => ⟨rfl, I'⟩) (fun z => absurd z hnew) (fun z => absurd z hnew) (fun z => absurd z hnew))⟩
    · have k2 : K i = 2 := by
        obtain ⟨j, hj⟩ := hab
        rw [← hj]; exact jp_up_dir hU hP0 j b hb hkb
      obtain ⟨j, hj⟩ := hab
      exact jy_move_go hr hN hU hP0 ha hka hn hb hkb hm hi hi0 he (fun z => absurd hnew z) (fun _ _ _ => ⟨rfl, I'⟩) (fun _ z => absurd hj (z k2 j)) (fun _ z => absurd hj (z k2 j))
    · have go : (b ≠ a → jp_en N b < 10) → wX_move_98 (fun r1 u' => wpY_move (fun r' v' => r' = r1 ∧ i_Rel (k + 5) u' v') (nI r, nI s, 0, yh, yt, K, L, P, N, B, V, M, ok, ol, op, on, ob, ov, om, yc, yg, F, yq, U, T) (nI a) (nI n) (nI b) (nI m)) (nI b) (nI (64 * a + jp_s n)) (nI (64 * b + jp_s m)) (nI i) (nI r) (nI s) 0 xw K L (jp_pi K P) (jp_ro N) B M V bk bl bp bn bb bm bh F T xq U := by
        intro h10
        refine jx_isFullLog hr (fun hl => br_f (by decide) (jy_move_go hr hN hU hP0 ha hka hn hb hkb hm hi hi0 he (fun z => absurd hnew z) (fun _ _ ⟨j, z⟩ => absurd z (hab j)) (fun _ _ _ => ⟨rfl, I'⟩) (fun _ _ z => by omega))) (fun hl => br_t rfl (jx_openRecord hl ?_))
        rw [nI_clamp (n := 64 * a + jp_s n) (by omega), nI_clamp (n := 64 * b + jp_s m) (by omega), nI_clamp (n := i) (by omega)]
        have h10' : b ≠ a → ¬ jp_en N b = 10 := fun z => by have := h10 z; omega
        have hrun := jp_run_move (L := L) (B := B) (V := V) (M := M) hl hN hU hP0 ha hka hn hb hkb hm hi hi0 he hnew (fun _ => hab) h10'
        have hi0' := jp_move_I0 hI2 ha hn hb hkb hm hi hi0 he hnew h10
        have hi1' := jp_move_I1 hI2 hJ ha hn hb hkb hm hi hi0 he hnew (fun _ => hab)
        refine ⟨vp_in_nI (by omega) (by omega), nm_e ⟨vp_in_nI (by omega) (by omega), nm_e ⟨vp_in_nI hi (by omega), br_c (fun k2 => ⟨vp_in_nI hi (by omega), nm_e ?_⟩) (fun k2 => ?_)⟩⟩⟩
        · refine jy_move_go hr hN hU hP0 ha hka hn hb hkb hm hi hi0 he (fun z => absurd hnew z) (fun _ _ ⟨j, z⟩ => absurd z (hab j)) (fun _ _ z => z.elim (fun z => by omega) (fun z => absurd z.2 (h10' z.1))) (fun _ _ _ _ => ⟨rfl, ?_⟩)
          have e1 : upd (jp_pi K P) i (nI b) = jp_pi K (if K i = 2 then upd P i (nI b) else P) := by
            rw [if_pos k2]
            funext j
            by_cases e : j = i
            · subst e; rw [pk_us]; unfold jp_pi; rw [pk_us, if_neg hki]
            · rw [pk_un e]; unfold jp_pi; rw [pk_un e]
          rw [← jp_ro_upd N a hn, ← jp_ro_upd _ b hm, e1]
          exact jr_push hS hS0 hl hs rfl hLog hi0' hi1' hrun
        · refine jy_move_go hr hN hU hP0 ha hka hn hb hkb hm hi hi0 he (fun z => absurd hnew z) (fun _ _ ⟨j, z⟩ => absurd z (hab j)) (fun _ _ z => z.elim (fun z => by omega) (fun z => absurd z.2 (h10' z.1))) (fun _ _ _ _ => ⟨rfl, ?_⟩)
          have e1 : jp_pi K P = jp_pi K (if K i = 2 then upd P i (nI b) else P) := by rw [if_neg k2]
          rw [← jp_ro_upd N a hn, ← jp_ro_upd _ b hm]
          have := jr_push (k := k + 5) (xw := xw) (yh := yh) (yt := yt) (xq := xq) (yq := yq) (F := F) (T := T) (U := U) hS hS0 hl hs rfl hLog hi0' hi1' hrun
          rw [← e1] at this
          exact this
      refine pk_eq b a (fun e => go (fun z => absurd e z)) (fun e => jx_isFullDirectory' hb (fun hfull => br_f (by decide) (jy_move_go hr hN hU hP0 ha hka hn hb hkb hm hi hi0 he (fun z => absurd hnew z) (fun _ _ ⟨j, z⟩ => absurd z (hab j)) (fun _ _ _ => ⟨rfl, I'⟩) (fun _ _ _ z => absurd (by have := hEN b hb; omega) (z e)))) (fun hfull => br_t rfl (go (fun _ => hfull))))
  · subst e1 e2 e3
    unfold wpY_move
    refine br_t rfl (jy_is (fun _ _ _ _ => br_f (by decide) (jy_in (M := 63) (by omega) (fun _ _ _ => br_f (by decide) ?_) (fun _ => br_t rfl ⟨rfl, I'⟩))) (fun _ => br_t rfl ⟨rfl, I'⟩))
    rw [jv_e64, nI_clamp (by omega)]
    exact ⟨vp_in_nI (by omega) (by omega), br_c (fun _ => ⟨rfl, I'⟩) (fun _ => jy_is (fun _ _ _ _ => br_f (by decide) (jy_in (M := 63) (by omega) (fun m hm e => absurd ⟨m, hm, e⟩ hno) (fun _ => br_t rfl ⟨rfl, I'⟩))) (fun _ => br_t rfl ⟨rfl, I'⟩))⟩
  · subst e1 e2
    unfold wpY_move
    refine br_t rfl (jy_is (fun _ _ _ _ => br_f (by decide) (jy_in (M := 63) (by omega) (fun _ _ _ => br_f (by decide) ?_) (fun _ => br_t rfl ⟨rfl, I'⟩))) (fun _ => br_t rfl ⟨rfl, I'⟩))
    rw [jv_e64, nI_clamp (by omega)]
    exact ⟨vp_in_nI (by omega) (by omega), br_c (fun _ => ⟨rfl, I'⟩) (fun _ => jy_is (fun b hb e hkb => absurd ⟨b, hb, e, hkb⟩ hno) (fun _ => br_t rfl ⟨rfl, I'⟩))⟩
  · unfold wpY_move
    refine br_t rfl (jy_is (fun a ha e hka => br_f (by decide) (jy_in (M := 63) (by omega) (fun n hn e2 => br_f (by decide) ?_) (fun _ => br_t rfl ⟨rfl, I'⟩))) (fun _ => br_t rfl ⟨rfl, I'⟩))
    subst e e2
    rw [jv_e64, nI_clamp (by omega), jp_neg (by omega) (hN (64 * a + n) (by omega))]
    refine ⟨vp_in_nI (by omega) (by omega), br_t (Classical.byContradiction fun z => hno ⟨a, n, ha, hn, rfl, rfl, hka, by rw [jp_ro_n N a hn]; exact z⟩) ⟨rfl, I'⟩⟩
end
section
/-! write -/
section
variable {yr ys yd yh yt : Int32} {yk yl yp yn yb yv ym ok ol op on ob ov om yc yg yf yq yu ye : Nat → Int32}
theorem jy_write_go {post : Int32 → SY → Prop} {r f p : Nat} {v : Int32} (hr : r ≤ 24) (hB : jp_BR yb) (hf : f < 16) (hk : yk f = 1) (hp : p < 24)
    (hfull : r = 24 → post (-3) (nI r, ys, 0, yh, yt, yk, yl, yp, yn, yb, yv, ym, ok, ol, op, on, ob, ov, om, yc, yg, yf, yq, yu, ye))
    (hold : ∀ b, b < 64 → yb (24 * f + p) = nI b → r < 24 → post (nI b) (nI (r + 1), ys, 0, yh, yt, yk, yl, yp, yn, yb, upd yv b v, ym, ok, ol, op, on, ob, ov, om, upd yc r 4, upd (upd (upd (upd yg (4 * r) (nI f)) (4 * r + 1) (nI p)) (4 * r + 2) v) (4 * r + 3) 0, yf, yq, yu, ye))
    (hnone : yb (24 * f + p) = -1 → r < 24 → jp_CH yb ym (24 * f + p) p (-1) → post (-3) (nI r, ys, 0, yh, yt, yk, yl, yp, yn, yb, yv, ym, ok, ol, op, on, ob, ov, om, yc, yg, yf, yq, yu, ye))
    (hext : ∀ b, b < 64 → yb (24 * f + p) = -1 → r < 24 → jp_CH yb ym (24 * f + p) p (nI b) → 5 < jp_ne (upd yb (24 * f + p) (nI b)) f → post (-3) (nI r, ys, 0, yh, yt, yk, yl, yp, yn, yb, yv, ym, ok, ol, op, on, ob, ov, om, yc, yg, yf, yq, yu, ye))
    (hnew : ∀ b, b < 64 → yb (24 * f + p) = -1 → r < 24 → jp_CH yb ym (24 * f + p) p (nI b) → jp_ne (upd yb (24 * f + p) (nI b)) f ≤ 5 → post (nI b) (nI (r + 1), ys, 0, yh, yt, yk, yl, yp, yn, upd yb (24 * f + p) (nI b), upd yv b v, upd ym b 1, ok, ol, op, on, ob, ov, om, upd yc r 4, upd (upd (upd (upd yg (4 * r) (nI f)) (4 * r + 1) (nI p)) (4 * r + 2) v) (4 * r + 3) 0, yf, yq, yu, ye)) :
    wpY_write post (nI r, ys, 0, yh, yt, yk, yl, yp, yn, yb, yv, ym, ok, ol, op, on, ob, ov, om, yc, yg, yf, yq, yu, ye) (nI f) (nI p) v := by
  unfold wpY_write
  refine br_t rfl (jy_is (fun _ _ _ _ => br_f (by decide) (jy_in (M := 23) (by omega) (fun _ _ _ => br_f (by decide) (pk_eq r 24 hfull (fun hr2 => nm_r (jv_e24 f p) ⟨vp_in_nI (by omega) (by omega), ?_⟩))) (fun hh => absurd ⟨p, hp, rfl⟩ hh))) (fun hh => absurd ⟨f, hf, rfl, hk⟩ hh))
  rw [nI_clamp (n := 24 * f + p) (by omega)]
  have hv : vp_in (nI (24 * f + p)) 384 := vp_in_nI (by omega) (by omega)
  rcases hB (24 * f + p) (by omega) with z | ⟨b, hb, z⟩
  · rw [z]
    refine br_f (by decide) (jy_choose hB (by omega) (by omega) hp (fun c hc => ?_))
    rcases jp_CH_r hc with e | ⟨b, hb, e⟩
    · subst e
      exact br_f (by decide) (hnone z (by omega) hc)
    · subst e
      have hB' : jp_BR (upd yb (24 * f + p) (nI b)) := by
        intro s hs
        by_cases e : s = 24 * f + p
        · rw [e, pk_us]; exact Or.inr ⟨b, hb, rfl⟩
        · rw [pk_un e]; exact hB s hs
      refine br_t (nI_pos' (by omega)) ⟨hv, nm_e (jy_extents hB' hf ?_)⟩
      have := jp_cn_le (jp_be (upd yb (24 * f + p) (nI b)) f) 24
      have e : jp_ne (upd yb (24 * f + p) (nI b)) f = jp_cn (jp_be (upd yb (24 * f + p) (nI b)) f) 24 := rfl
      refine pk_le (jp_ne (upd yb (24 * f + p) (nI b)) f) 5 (fun h5 => ⟨vp_in_nI hb (by omega), ?_⟩) (fun h5 => ⟨hv, nm_r (e' := yb) ?_ (hext b hb z (by omega) hc h5)⟩)
      · rw [nI_clamp (n := b) (by omega)]
        refine nm_e ⟨hv, ?_⟩
        rw [nI_clamp (n := 24 * f + p) (by omega), pk_us]
        refine ⟨vp_in_nI hb (by omega), ?_⟩
        rw [nI_clamp (n := b) (by omega)]
        refine nm_e (jy_note (by omega) ⟨hv, ?_⟩)
        rw [pk_us]
        exact hnew b hb z (by omega) hc h5
      · funext j
        by_cases e : j = 24 * f + p
        · rw [e, pk_us, z]
        · rw [pk_un e, pk_un e]
  · rw [z]
    refine br_t (nI_pos' (by omega)) ⟨hv, ?_⟩
    rw [nI_clamp (n := 24 * f + p) (by omega), z]
    refine ⟨vp_in_nI hb (by omega), ?_⟩
    rw [nI_clamp (n := b) (by omega)]
    refine nm_e (jy_note (by omega) ⟨hv, ?_⟩)
    rw [z]
    exact hold b hb z (by omega)
end
theorem jp_run_write1 {K L P N B V M : Nat → Int32} {r f p b : Nat} {v : Int32} (hr : r < 24) (hB : jp_BR B) (hf : f < 16) (hk : K f = 1) (hp : p < 24) (hb : b < 64) (z : B (24 * f + p) = nI b) :
    jp_Run r 4 (nI f) (nI p) v 0 (K, L, P, N, B, V, M) (K, L, P, N, B, upd V b v, M) := by
  intro post ys yh yt ok ol op on ob ov om yc yg yf yq yu ye h1 h2 h3 h4 h5 hp'
  refine jy_again hr h1 h2 h3 h4 h5 ⟨fun e => absurd e (by decide), fun e => absurd e (by decide), fun e => absurd e (by decide), fun e => absurd e (by decide), fun _ => ?_, fun e => absurd e (by decide)⟩ (Or.inr (Or.inr (Or.inr (Or.inr (Or.inl rfl)))))
  have no : ¬ B (24 * f + p) = -1 := fun e => jv_m1n b (by omega) (z.symm.trans e)
  refine jy_write_go (by omega) hB hf hk hp (fun z => by omega) (fun b' hb' z' _ => ?_) (fun z => absurd z no) (fun _ _ z => absurd z no) (fun _ _ z => absurd z no)
  rw [z] at z'
  rw [← jv_inj z' (by omega) (by omega), jp_updI h1, jp_upd4 h2 h3 h4 h5]
  exact hp'
theorem jp_run_write2 {K L P N B V M : Nat → Int32} {r f p b : Nat} {v : Int32} (hr : r < 24) (hB : jp_BR B) (hf : f < 16) (hk : K f = 1) (hp : p < 24) (hb : b < 64) (z : B (24 * f + p) = -1) (hc : jp_CH B M (24 * f + p) p (nI b)) (h5' : jp_ne (upd B (24 * f + p) (nI b)) f ≤ 5) :
    jp_Run r 4 (nI f) (nI p) v 0 (K, L, P, N, B, V, M) (K, L, P, N, upd B (24 * f + p) (nI b), upd V b v, upd M b 1) := by
  intro post ys yh yt ok ol op on ob ov om yc yg yf yq yu ye h1 h2 h3 h4 h5 hp'
  refine jy_again hr h1 h2 h3 h4 h5 ⟨fun e => absurd e (by decide), fun e => absurd e (by decide), fun e => absurd e (by decide), fun e => absurd e (by decide), fun _ => ?_, fun e => absurd e (by decide)⟩ (Or.inr (Or.inr (Or.inr (Or.inr (Or.inl rfl)))))
  have same : ∀ b', b' < 64 → jp_CH B M (24 * f + p) p (nI b') → b' = b := fun b' hb' h => jv_inj (jp_CH_un h hc) (by omega) (by omega)
  refine jy_write_go (by omega) hB hf hk hp (fun z => by omega) (fun b' hb' z' _ => absurd (z'.symm.trans z) (jv_m1n b' (by omega))) (fun _ _ h => absurd (jp_CH_un h hc).symm (jv_m1n b (by omega))) (fun b' hb' _ _ h q => ?_) (fun b' hb' _ _ h q => ?_)
  · rw [same b' hb' h] at q; omega
  · rw [same b' hb' h, jp_updI h1, jp_upd4 h2 h3 h4 h5]
    exact hp'
theorem jp_CH_0 {B M : Nat → Int32} {k p b : Nat} (hb : b < 64) (h : jp_CH B M k p (nI b)) : M b = 0 := by
  rcases h with ⟨c, a1, a2, a3, a4, a5⟩ | ⟨an, c, a1, a2, a3, a4, a5, a6⟩ | ⟨an, am, L, a⟩
  · rw [jv_inj a5 (by omega) (by omega)]; exact a4
  · rw [jv_inj a6 (by omega) (by omega)]; exact a5
  · rcases a.2 with ⟨_, e⟩ | ⟨c, hc, e, hr, hl, _⟩
    · exact absurd e (jv_m1n b (by omega))
    · rw [jv_inj e (by omega) (by omega)]; exact hr.2.1 0 hl
theorem jp_ne_un {B : Nat → Int32} {f p j : Nat} {c : Int32} (hp : p < 24) (h : j ≠ f) : jp_ne (upd B (24 * f + p) c) j = jp_ne B j := by
  apply jp_cn_congr
  intro q hq
  unfold jp_be
  rw [pk_un (by omega)]
  by_cases e : q = 0
  · simp only [e, true_or, and_true]
  · rw [pk_un (by omega)]
theorem jp_write_I0 {K L P N B V M : Nat → Int32} {f p b : Nat} {v : Int32} (h : jp_I0 (K, L, P, N, B, V, M)) (hf : f < 16) (hk : K f = 1) (hp : p < 24) (hb : b < 64) (h5 : jp_ne (upd B (24 * f + p) (nI b)) f ≤ 5) :
    jp_I0 (K, L, P, N, upd B (24 * f + p) (nI b), upd V b v, upd M b 1) := by
  obtain ⟨hZ, hK, hK0, hPR, hP0, hL0, hN, hNE, hEN, hB, hBE, hXN⟩ := h
  refine ⟨⟨hZ.1, hZ.2.1, fun i hi => ?_, fun i hi => ?_⟩, hK, hK0, hPR, hP0, hL0, hN, hNE, hEN, fun s hs => ?_, fun i hi hk1 q hq => ?_, fun i hi => ?_⟩
  · rw [pk_un (by omega)]; exact hZ.2.2.1 i hi
  · rw [pk_un (by omega), pk_un (by omega)]; exact hZ.2.2.2 i hi
  · by_cases e : s = 24 * f + p
    · rw [e, pk_us]; exact Or.inr ⟨b, hb, rfl⟩
    · rw [pk_un e]; exact hB s hs
  · have : i ≠ f := fun e => hk1 (by rw [e]; exact hk)
    rw [pk_un (by omega)]; exact hBE i hi hk1 q hq
  · by_cases e : i = f
    · rw [e]; exact h5
    · rw [jp_ne_un hp e]; exact hXN i hi
theorem jp_write_UB {B M : Nat → Int32} {k b : Nat} (hk : k < 384) (hb : b < 64) (h : jp_UB B M) (h0 : M b = 0) : jp_UB (upd B k (nI b)) (upd M b 1) := by
  have free : ∀ s, s < 384 → ¬ B s = nI b := fun s hs e => by
    have := h.2 s b hs hb e
    rw [h0] at this
    exact absurd this (by decide)
  refine ⟨fun s t c hs ht hc e1 e2 => ?_, fun s c hs hc e => ?_⟩
  · by_cases es : s = k
    · by_cases et : t = k
      · omega
      · rw [es, pk_us] at e1
        rw [pk_un et, ← e1] at e2
        exact absurd e2 (free t ht)
    · by_cases et : t = k
      · rw [et, pk_us] at e2
        rw [pk_un es, ← e2] at e1
        exact absurd e1 (free s hs)
      · rw [pk_un es] at e1
        rw [pk_un et] at e2
        exact h.1 s t c hs ht hc e1 e2
  · by_cases ec : c = b
    · rw [ec, pk_us]
    · rw [pk_un ec]
      by_cases es : s = k
      · rw [es, pk_us] at e
        exact absurd (jv_inj e (by omega) (by omega)).symm ec
      · rw [pk_un es] at e
        exact h.2 s c hs hc e
theorem jp_val_I0 {K L P N B V M : Nat → Int32} {b : Nat} {v : Int32} (h : jp_I0 (K, L, P, N, B, V, M)) (hb : b < 64) : jp_I0 (K, L, P, N, B, upd V b v, M) := by
  obtain ⟨hZ, h⟩ := h
  exact ⟨⟨hZ.1, hZ.2.1, hZ.2.2.1, fun i hi => ⟨by rw [pk_un (by omega)]; exact (hZ.2.2.2 i hi).1, (hZ.2.2.2 i hi).2⟩⟩, h⟩
theorem i_vc_write {k : Nat} {u : SX} {v : SY} (I : i_Rel k u v) (hk : k + 5 ≤ 2560) (v1 : Int32) (v2 : Int32) (v3 : Int32) : wpX_write (fun r u' => wpY_write (fun r' v' => r' = r ∧ i_Rel (k + 5) u' v') v v1 v2 v3) u v1 v2 v3 := by
  have I' : i_Rel (k + 5) u v := I
  obtain ⟨S, r, s, d, xw, yh, yt, K, L, P, N, B, V, M, bk, bl, bp, bn, bb, bm, bh, xq, ok, ol, op, on, ob, ov, om, yc, yg, yq, F, T, U, rfl, rfl, hS, hS0, hr, hs, hd, hLog⟩ := I
  have hI := hLog.1 r (Nat.le_refl r)
  have hJ := fun h => hLog.2.1 h r (Nat.le_refl r)
  rw [hS] at hI hJ
  have hI2 := hI
  obtain ⟨hZ, hK, hK0, hPR, hP0, hL0, hN, hNE, hEN, hB, hBE, hXN⟩ := hI
  unfold wpX_write
  refine br_c (fun e => ?_) (fun e => br_f e ⟨rfl, I'⟩)
  subst e
  have hJ := hJ rfl
  refine jx_isFile (fun f hf e hkf => br_f (by decide) (jx_isPosition (fun p hp e2 => br_f (by decide) ?_) (fun hno => br_t rfl ?_))) (fun hno => br_t rfl ?_)
  · subst e e2
    refine jx_isFullLog hr (fun hl => br_f (by decide) (jy_write_go hr hB hf hkf hp (fun _ => ⟨rfl, I'⟩) (fun _ _ _ z => by omega) (fun _ z => by omega) (fun _ _ _ z => by omega) (fun _ _ _ z => by omega))) (fun hl => br_t rfl (nm_r (jv_f24 f p) ⟨vp_in_nI (by omega) (by omega), ?_⟩))
    rw [nI_clamp (n := 24 * f + p) (by omega)]
    have hv : vp_in (nI (24 * f + p)) 384 := vp_in_nI (by omega) (by omega)
    refine nm_e (br_c (fun z => jx_chooseBlock hB hf hp (fun c hc => ?_)) (fun z => ?_))
    · rcases jp_CH_r hc with e | ⟨b, hb, e⟩
      · subst e
        exact br_t rfl (jy_write_go hr hB hf hkf hp (fun z => by omega) (fun b hb z' => absurd (z'.symm.trans z) (jv_m1n b (by omega))) (fun _ _ _ => ⟨rfl, I'⟩) (fun b hb _ _ h => absurd (jp_CH_un h hc) (jv_m1n b (by omega))) (fun b hb _ _ h => absurd (jp_CH_un h hc) (jv_m1n b (by omega))))
      · subst e
        have same : ∀ b', b' < 64 → jp_CH B M (24 * f + p) p (nI b') → b' = b := fun b' hb' h => jv_inj (jp_CH_un h hc) (by omega) (by omega)
        refine br_f (jv_m1n b (by omega)) (jx_openRecord hl ?_)
        rw [nI_clamp (n := 24 * f + p) (by omega), nI_clamp (n := b) (by omega)]
        refine ⟨hv, nm_e ⟨vp_in_nI hb (by omega), nm_e ⟨vp_in_nI hb (by omega), nm_e (jx_tookBack hf hl (fun h5 => br_t rfl ?_) (fun h5 => br_f (by decide) ?_))⟩⟩⟩
        · refine jy_write_go hr hB hf hkf hp (fun z => by omega) (fun b hb z' => absurd (z'.symm.trans z) (jv_m1n b (by omega))) (fun _ _ h => absurd (jp_CH_un h hc).symm (jv_m1n b (by omega))) (fun b' hb' _ _ h q => ?_) (fun b' hb' _ _ h q => ?_)
          · rw [same b' hb' h] at q; omega
          · rw [same b' hb' h]
            exact ⟨rfl, jr_push hS hS0 hl hs rfl hLog (jp_write_I0 hI2 hf hkf hp hb h5) ⟨hJ.1, hJ.2.1, jp_write_UB (by omega) hb hJ.2.2.1 (jp_CH_0 hb hc), hJ.2.2.2⟩ (jp_run_write2 hl hB hf hkf hp hb z hc h5)⟩
        · rw [jp_rb (fun i hi => (hZ.1 i hi).1) (fun i hi => (hZ.1 i hi).1), jp_rb (fun i hi => (hZ.1 i hi).2.1) (fun i hi => (hZ.1 i hi).2.1), jp_rb (jp_pi_z (fun i hi => (hZ.1 i hi).1)) (jp_pi_z (fun i hi => (hZ.1 i hi).1)), jp_rb (jp_ro_z hZ.2.1) (jp_ro_z hZ.2.1), jp_rb (a := B) (fun i hi => by rw [pk_un (by omega)]; exact hZ.2.2.1 i hi) hZ.2.2.1, jp_rb (a := M) (fun i hi => by rw [pk_un (by omega)]; exact (hZ.2.2.2 i hi).2) (fun i hi => (hZ.2.2.2 i hi).2), jp_rb (a := V) (fun i hi => by rw [pk_un (by omega)]; exact (hZ.2.2.2 i hi).1) (fun i hi => (hZ.2.2.2 i hi).1)]
          refine jy_write_go hr hB hf hkf hp (fun z => by omega) (fun b hb z' => absurd (z'.symm.trans z) (jv_m1n b (by omega))) (fun _ _ h => absurd (jp_CH_un h hc).symm (jv_m1n b (by omega))) (fun b' hb' _ _ h q => ⟨rfl, jr_back hS hS0 hl hs rfl hLog⟩) (fun b' hb' _ _ h q => ?_)
          rw [same b' hb' h] at q; omega
    · rcases hB (24 * f + p) (by omega) with z' | ⟨b, hb, z'⟩
      · exact absurd z' z
      · rw [z']
        refine br_f (jv_m1n b (by omega)) (jx_openRecord hl ?_)
        rw [nI_clamp (n := 24 * f + p) (by omega), nI_clamp (n := b) (by omega)]
        refine ⟨hv, nm_r (jp_updI z') ⟨vp_in_nI hb (by omega), nm_r (jp_updI (hJ.2.2.1.2 _ b (by omega) hb z')) ⟨vp_in_nI hb (by omega), nm_e (jx_tookBack hf hl (fun h5 => br_t rfl ?_) (fun h5 => absurd (hXN f hf) (by omega)))⟩⟩⟩
        refine jy_write_go hr hB hf hkf hp (fun z => by omega) (fun b' hb' z2 _ => ?_) (fun q => absurd q z) (fun _ _ q => absurd q z) (fun _ _ q => absurd q z)
        rw [z'] at z2
        rw [← jv_inj z2 (by omega) (by omega)]
        exact ⟨rfl, jr_push hS hS0 hl hs rfl hLog (jp_val_I0 hI2 hb) hJ (jp_run_write1 hl hB hf hkf hp hb z')⟩
  · unfold wpY_write
    exact br_t rfl (jy_is (fun _ _ _ _ => br_f (by decide) (jy_in (M := 23) (by omega) (fun n hn e => absurd ⟨n, hn, e⟩ hno) (fun _ => br_t rfl ⟨rfl, I'⟩))) (fun _ => br_t rfl ⟨rfl, I'⟩))
  · unfold wpY_write
    exact br_t rfl (jy_is (fun a ha e hk => absurd ⟨a, ha, e, hk⟩ hno) (fun _ => br_t rfl ⟨rfl, I'⟩))
end
section
/-! punch -/
def jp_hit (a m p : Nat) : Bool := decide (a ≤ p ∧ p < a + m)
def jp_go (B : Nat → Int32) (f a m p : Nat) : Bool := jp_hit a m p && decide (¬ B (24 * f + p) = -1)
def jp_rs (B : Nat → Int32) (f a m p : Nat) : Bool := !jp_hit a m p && (jp_be B f p || (decide (p = a + m) && decide (¬ B (24 * f + p) = -1)))
theorem jp_rs_ne {B : Nat → Int32} {f a m : Nat} (hm : 1 ≤ m) : jp_ne (jp_fl B (24 * f + a) m (-1)) f = jp_cn (jp_rs B f a m) 24 := by
  apply jp_cn_congr
  intro p hp
  unfold jp_rs jp_hit
  by_cases h : a ≤ p ∧ p < a + m
  · rw [decide_eq_true h]
    unfold jp_be
    rw [jp_fl_in (by omega) (by omega)]
    simp
  · rw [decide_eq_false h]
    unfold jp_be
    rw [jp_fl_out (by omega)]
    by_cases p0 : p = 0
    · subst p0
      by_cases e : 0 = a + m
      · simp [← e]
      · simp [e]
    · by_cases e : p = a + m
      · rw [jp_fl_in (by omega) (by omega)]
        simp [e]
        by_cases q : B (24 * f + (a + m)) = -1 <;> simp [q]
      · rw [jp_fl_out (by omega)]
        simp [e]
theorem jp_cn_split {f g h : Nat → Bool} {n : Nat} (e : ∀ i, i < n → (f i).toNat = (g i).toNat + (h i).toNat) : jp_cn f n = jp_cn g n + jp_cn h n := by
  induction n with
  | zero => rfl
  | succ n ih =>
    rw [jp_cn_1, jp_cn_1, jp_cn_1, ih (fun i hi => e i (by omega)), e n (by omega)]
    omega
theorem jp_go_cn {B : Nat → Int32} {f a m : Nat} : jp_cn (fun p => decide (¬ B (24 * f + p) = -1)) 24 = jp_cn (fun p => decide (¬ jp_fl B (24 * f + a) m (-1) (24 * f + p) = -1)) 24 + jp_cn (jp_go B f a m) 24 := by
  apply jp_cn_split
  intro p hp
  unfold jp_go jp_hit
  by_cases h : a ≤ p ∧ p < a + m
  · rw [decide_eq_true h, jp_fl_in (by omega) (by omega)]
    simp
  · rw [decide_eq_false h, jp_fl_out (by omega)]
    simp
section
variable {yr ys yd yh yt : Int32} {yk yl yp yn yb yv ym ok ol op on ob ov om yc yg yf yq yu ye : Nat → Int32}
theorem jy_punch_go {post : Int32 → SY → Prop} {r f a m : Nat} (hr : r ≤ 24) (hB : jp_BR yb) (hf : f < 16) (hk : yk f = 1) (ha : a < 24) (hm1 : 1 ≤ m) (hm : a + m ≤ 24)
    (hfull : r = 24 → post (-3) (nI r, ys, 0, yh, yt, yk, yl, yp, yn, yb, yv, ym, ok, ol, op, on, ob, ov, om, yc, yg, yf, yq, yu, ye))
    (hext : r < 24 → 5 < jp_cn (jp_rs yb f a m) 24 → post (-3) (nI r, ys, 0, yh, yt, yk, yl, yp, yn, yb, yv, ym, ok, ol, op, on, ob, ov, om, yc, yg, yf, yq, yu, ye))
    (h : r < 24 → jp_cn (jp_rs yb f a m) 24 ≤ 5 → post (nI (jp_cn (jp_go yb f a m) 24)) (nI (r + 1), ys, 0, yh, yt, yk, yl, yp, yn, jp_fl yb (24 * f + a) m (-1), yv, (jp_uh (24 * f + a) m yb ym).2, ok, ol, op, on, ob, ov, om, upd yc r 5, upd (upd (upd (upd yg (4 * r) (nI f)) (4 * r + 1) (nI a)) (4 * r + 2) (nI m)) (4 * r + 3) 0, yf, yq, yu, ye)) :
    wpY_punch post (nI r, ys, 0, yh, yt, yk, yl, yp, yn, yb, yv, ym, ok, ol, op, on, ob, ov, om, yc, yg, yf, yq, yu, ye) (nI f) (nI a) (nI m) := by
  unfold wpY_punch
  refine br_t rfl (jy_is (fun _ _ _ _ => br_f (by decide) (jy_in (M := 23) (by omega) (fun _ _ _ => br_f (by decide) ?_) (fun hh => absurd ⟨a, ha, rfl⟩ hh))) (fun hh => absurd ⟨f, hf, rfl, hk⟩ hh))
  refine br_f (nI_nlt (b := 1) (by omega) (by omega)) (br_t ?_ (pk_eq r 24 hfull (fun hr2 => ?_)))
  · rw [jv_24, pk_sub (by omega)]; exact nI_le (by omega) (by omega)
  have c1 := jp_cn_le (jp_rs yb f a m) 24
  refine pk_loop (σ := Nat × Nat) (fun n i s => wY_punch_62 post (nI f) (nI a) (nI m) (nI r) ys 0 yh yt yk yl yp yn yb yv ym ok ol op on ob ov om yc yg yf yq yu ye n (nI s.1) (nI s.2) (nI i)) (fun i s => s = (jp_cn (jp_go yb f a m) i, jp_cn (jp_rs yb f a m) i)) 24 0 (0, 0) (by omega) rfl (fun n s hI => br_t (nI_le (a := 24) (by omega) (by omega)) ?_) (fun n i s hi hI ih => br_f (nI_ge (b := 24) hi (by omega)) (nm_r (jv_e24 f i) ?_))
  · subst hI
    refine pk_le (jp_cn (jp_rs yb f a m) 24) 5 (fun h5 => ?_) (fun h5 => hext (by omega) h5)
    have h := h (by omega) h5
    rw [← jp_uh_1 _ _ yb ym] at h
    refine jv_fold (σ := (Nat → Int32) × (Nat → Int32)) (fun n j s => wY_punch_183 post (nI f) (nI a) (nI m) (nI (jp_cn (jp_go yb f a m) 24)) n (nI (a + j)) (nI r) ys 0 yh yt yk yl yp yn (s.1) yv (s.2) ok ol op on ob ov om yc yg yf yq yu ye) (fun j s => jp_um (24 * f + a + j) s) m (yb, ym) (fun _ s => jp_BR s.1) hB (fun i s hi hJ => by rw [jp_um_1]; exact jp_BR_upd hJ _) (fun n => br_t ?_ (jy_note (by omega) h)) (fun n j s hj hJ ih => br_f ?_ ?_)
    · rw [nI_add]; exact nI_le (by omega) (by omega)
    · rw [nI_add]; exact nI_ge (by omega) (by omega)
    · rw [jv_e24]
      refine jy_unmap (by omega) hJ (nm_r (nI_1 _) ?_)
      rw [← Nat.add_assoc]
      exact ih
  · subst hI
    have hv : vp_in (nI (24 * f + i)) 384 := vp_in_nI (by omega) (by omega)
    have e1 : jp_cn (jp_go yb f a m) (i + 1) = jp_cn (jp_go yb f a m) i + (jp_go yb f a m i).toNat := rfl
    have e2 : jp_cn (jp_rs yb f a m) (i + 1) = jp_cn (jp_rs yb f a m) i + (jp_rs yb f a m i).toNat := rfl
    have ih := ih _ rfl
    rw [e1, e2] at ih
    generalize jp_cn (jp_go yb f a m) i = g at ih ⊢
    generalize jp_cn (jp_rs yb f a m) i = s at ih ⊢
    dsimp only at ih ⊢
    -- behind the test of 'hit': x8 says it
    have tail : ∀ (x8 : Int32) (g' : Nat), ((x8 = 0 ∧ jp_hit a m i = false) ∨ (x8 = 1 ∧ jp_hit a m i = true)) → g' = g + (jp_go yb f a m i).toNat → wY_punch_117 post (wY_punch_62 post (nI f) (nI a) (nI m) (nI r) ys 0 yh yt yk yl yp yn yb yv ym ok ol op on ob ov om yc yg yf yq yu ye n) (nI f) (nI a) (nI m) (nI g') (nI s) (nI i) (nI (24 * f + i)) x8 (nI r) ys 0 yh yt yk yl yp yn yb yv ym ok ol op on ob ov om yc yg yf yq yu ye := by
      intro x8 g' hx eg
      subst eg
      have one : jp_be yb f i = true ∨ (i = a + m ∧ ¬ yb (24 * f + i) = -1) → wY_punch_145 post (wY_punch_62 post (nI f) (nI a) (nI m) (nI r) ys 0 yh yt yk yl yp yn yb yv ym ok ol op on ob ov om yc yg yf yq yu ye n) (nI f) (nI a) (nI m) (nI (g + (jp_go yb f a m i).toNat)) (nI s) (nI i) x8 (nI r) ys 0 yh yt yk yl yp yn yb yv ym ok ol op on ob ov om yc yg yf yq yu ye := by
        intro hb
        rcases hx with ⟨q, hh⟩ | ⟨q, hh⟩
        · subst q
          refine br_t rfl (br_f (by decide) (nm_r (nI_1 _) (nm_r (nI_1 _) ?_)))
          rw [show jp_rs yb f a m i = true from by unfold jp_rs; rw [hh]; exact hb.elim (fun z => by rw [z]; rfl) (fun z => by rw [decide_eq_true z.1, decide_eq_true z.2]; simp)] at ih
          exact ih
        · subst q
          refine br_f (by decide) (nm_r (nI_1 _) ?_)
          rw [show jp_rs yb f a m i = false from by unfold jp_rs; rw [hh]; rfl] at ih
          exact ih
      have none : jp_be yb f i = false → ¬ (i = a + m ∧ ¬ yb (24 * f + i) = -1) → wY_punch_149 post (wY_punch_62 post (nI f) (nI a) (nI m) (nI r) ys 0 yh yt yk yl yp yn yb yv ym ok ol op on ob ov om yc yg yf yq yu ye n) (nI f) (nI a) (nI m) (nI (g + (jp_go yb f a m i).toNat)) (nI s) (nI i) x8 (nI r) ys 0 yh yt yk yl yp yn yb yv ym ok ol op on ob ov om yc yg yf yq yu ye := by
        intro hb hc
        have hrs : jp_rs yb f a m i = false := by
          unfold jp_rs
          rw [hb]
          by_cases q : i = a + m
          · have : yb (24 * f + i) = -1 := Classical.byContradiction fun z => hc ⟨q, z⟩
            rw [this]; simp
          · simp [q]
        rw [hrs] at ih
        rcases hx with ⟨q, hh⟩ | ⟨q, hh⟩
        · subst q
          exact br_t rfl (br_t rfl (nm_r (nI_1 _) ih))
        · subst q
          exact br_f (by decide) (nm_r (nI_1 _) ih)
      refine jy_begins hB hf hi (fun hb => br_f (by decide) (one (Or.inl hb))) (fun hb => br_t rfl ?_)
      rw [nI_add]
      refine pk_eq i (a + m) (fun e => ⟨hv, ?_⟩) (fun e => none hb (fun z => e z.1))
      rw [nI_clamp (by omega), jp_neg (by omega) (hB (24 * f + i) (by omega))]
      exact br_c (fun z => none hb (fun q => q.2 z)) (fun z => one (Or.inr ⟨e, z⟩))
    have out : jp_hit a m i = false → wY_punch_97 post (wY_punch_62 post (nI f) (nI a) (nI m) (nI r) ys 0 yh yt yk yl yp yn yb yv ym ok ol op on ob ov om yc yg yf yq yu ye n) (nI f) (nI a) (nI m) (nI g) (nI s) (nI i) (nI (24 * f + i)) 0 (nI r) ys 0 yh yt yk yl yp yn yb yv ym ok ol op on ob ov om yc yg yf yq yu ye :=
      fun hh => br_t rfl (tail 0 g (Or.inl ⟨rfl, hh⟩) (by unfold jp_go; rw [hh]; rfl))
    refine pk_lt i a (fun z => out (by unfold jp_hit; simp; omega)) (fun z => ?_)
    rw [nI_add]
    refine pk_le (a + m) i (fun z2 => out (by unfold jp_hit; simp; omega)) (fun z2 => br_f (by decide) ⟨hv, ?_⟩)
    have hh : jp_hit a m i = true := by unfold jp_hit; simp; omega
    rw [nI_clamp (by omega), jp_neg (by omega) (hB (24 * f + i) (by omega))]
    refine br_c (fun q => tail 1 g (Or.inr ⟨rfl, hh⟩) (by unfold jp_go; rw [hh, q]; rfl)) (fun q => nm_r (nI_1 _) (tail 1 (g + 1) (Or.inr ⟨rfl, hh⟩) (by unfold jp_go; rw [hh]; simp [q])))
end
theorem jp_run_punch {K L P N B V M : Nat → Int32} {r f a m : Nat} (hr : r < 24) (hB : jp_BR B) (hf : f < 16) (hk : K f = 1) (ha : a < 24) (hm1 : 1 ≤ m) (hm : a + m ≤ 24) (h5' : jp_cn (jp_rs B f a m) 24 ≤ 5) :
    jp_Run r 5 (nI f) (nI a) (nI m) 0 (K, L, P, N, B, V, M) (K, L, P, N, jp_fl B (24 * f + a) m (-1), V, (jp_uh (24 * f + a) m B M).2) := by
  intro post ys yh yt ok ol op on ob ov om yc yg yf yq yu ye h1 h2 h3 h4 h5 hp'
  refine jy_again hr h1 h2 h3 h4 h5 ⟨fun e => absurd e (by decide), fun e => absurd e (by decide), fun e => absurd e (by decide), fun e => absurd e (by decide), fun e => absurd e (by decide), fun _ => ?_⟩ (Or.inr (Or.inr (Or.inr (Or.inr (Or.inr rfl)))))
  refine jy_punch_go (by omega) hB hf hk ha hm1 hm (fun z => by omega) (fun _ z => by omega) (fun _ _ => ?_)
  rw [jp_updI h1, jp_upd4 h2 h3 h4 h5]
  exact hp'
theorem jp_ne_out {B : Nat → Int32} {f a m j : Nat} (hm : a + m ≤ 24) (h : j ≠ f) : jp_ne (jp_fl B (24 * f + a) m (-1)) j = jp_ne B j := by
  apply jp_cn_congr
  intro q hq
  unfold jp_be
  rw [jp_fl_out (by omega)]
  by_cases e : q = 0
  · simp only [e, true_or, and_true]
  · rw [jp_fl_out (by omega)]
theorem jp_punch_I0 {K L P N B V M : Nat → Int32} {f a m : Nat} (h : jp_I0 (K, L, P, N, B, V, M)) (hf : f < 16) (hm : a + m ≤ 24) (h5 : jp_ne (jp_fl B (24 * f + a) m (-1)) f ≤ 5) :
    jp_I0 (K, L, P, N, jp_fl B (24 * f + a) m (-1), V, (jp_uh (24 * f + a) m B M).2) := by
  obtain ⟨hZ, hK, hK0, hPR, hP0, hL0, hN, hNE, hEN, hB, hBE, hXN⟩ := h
  refine ⟨⟨hZ.1, hZ.2.1, fun i hi => ?_, fun i hi => ⟨(hZ.2.2.2 i hi).1, jp_uh_z hB (fun j hj => (hZ.2.2.2 j hj).2) (by omega) i hi⟩⟩, hK, hK0, hPR, hP0, hL0, hN, hNE, hEN, jp_BR_fl hB _ _, fun i hi hk1 q hq => ?_, fun i hi => ?_⟩
  · rw [jp_fl_out (by omega)]; exact hZ.2.2.1 i hi
  · by_cases e : 24 * f + a ≤ 24 * i + q ∧ 24 * i + q < 24 * f + a + m
    · exact jp_fl_in e.1 e.2
    · rw [jp_fl_out (by omega)]; exact hBE i hi hk1 q hq
  · by_cases e : i = f
    · rw [e]; exact h5
    · rw [jp_ne_out hm e]; exact hXN i hi
theorem i_vc_punch {k : Nat} {u : SX} {v : SY} (I : i_Rel k u v) (hk : k + 5 ≤ 2560) (v1 : Int32) (v2 : Int32) (v3 : Int32) : wpX_punch (fun r u' => wpY_punch (fun r' v' => r' = r ∧ i_Rel (k + 5) u' v') v v1 v2 v3) u v1 v2 v3 := by
  have I' : i_Rel (k + 5) u v := I
  obtain ⟨S, r, s, d, xw, yh, yt, K, L, P, N, B, V, M, bk, bl, bp, bn, bb, bm, bh, xq, ok, ol, op, on, ob, ov, om, yc, yg, yq, F, T, U, rfl, rfl, hS, hS0, hr, hs, hd, hLog⟩ := I
  have hI := hLog.1 r (Nat.le_refl r)
  have hJ := fun h => hLog.2.1 h r (Nat.le_refl r)
  rw [hS] at hI hJ
  have hI2 := hI
  obtain ⟨hZ, hK, hK0, hPR, hP0, hL0, hN, hNE, hEN, hB, hBE, hXN⟩ := hI
  unfold wpX_punch
  refine br_c (fun e => ?_) (fun e => br_f e ⟨rfl, I'⟩)
  subst e
  have hJ := hJ rfl
  refine jx_isFile (fun f hf e hkf => br_f (by decide) (jx_isPosition (fun a ha e2 => br_f (by decide) ?_) (fun hno => br_t rfl ?_))) (fun hno => br_t rfl ?_)
  · subst e e2
    have bad : (v3 < 1 ∨ ¬ v3 ≤ 24 - nI a) → wpY_punch (fun r' v' => r' = -1 ∧ i_Rel (k + 5) (nI r, nI s, 0, xw, K, L, jp_pi K P, jp_ro N, B, M, V, bk, bl, bp, bn, bb, bm, bh, F, T, xq, U) v') (nI r, nI s, 0, yh, yt, K, L, P, N, B, V, M, ok, ol, op, on, ob, ov, om, yc, yg, F, yq, U, T) (nI f) (nI a) v3 := by
      intro hbad
      unfold wpY_punch
      refine br_t rfl (jy_is (fun _ _ _ _ => br_f (by decide) (jy_in (M := 23) (by omega) (fun _ _ _ => br_f (by decide) ?_) (fun hh => absurd ⟨a, ha, rfl⟩ hh))) (fun hh => absurd ⟨f, hf, rfl, hkf⟩ hh))
      refine br_c (fun _ => ⟨rfl, I'⟩) (fun z => ?_)
      rcases hbad with q | q
      · exact absurd q z
      · exact br_f q ⟨rfl, I'⟩
    refine br_c (fun z => bad (Or.inl z)) (fun z => br_c (fun z2 => ?_) (fun z2 => bad (Or.inr z2)))
    clear bad
    have h0 : ¬ v3 < 0 := fun q => z (Int32.lt_trans q (by decide))
    obtain ⟨m, hm, rfl⟩ := nI_of h0
    rw [jv_24, pk_sub (by omega), nI_leI hm (by omega)] at z2
    have hm1 : 1 ≤ m := by
      apply Nat.le_of_not_lt
      intro q
      exact z (nI_lt (b := 1) q (by omega))
    have ham : a + m ≤ 24 := by omega
    have c1 := jp_cn_le (jp_rs B f a m) 24
    refine jx_isFullLog hr (fun hl => br_f (by decide) (jy_punch_go hr hB hf hkf ha hm1 ham (fun _ => ⟨rfl, I'⟩) (fun z => by omega) (fun z => by omega))) (fun hl => br_t rfl (jx_countMapped hf (jx_openRecord hl (jx_makeHoles hf ham hB (jx_tookBack hf hl (fun h5 => br_t rfl (jx_countMapped hf ?_)) (fun h5 => br_f (by decide) ?_))))))
    · have h5' := h5
      rw [jp_rs_ne hm1] at h5
      have e := jp_go_cn (B := B) (f := f) (a := a) (m := m)
      rw [e, pk_sub (by omega), Nat.add_sub_cancel_left]
      refine jy_punch_go hr hB hf hkf ha hm1 ham (fun z => by omega) (fun _ z => by omega) (fun _ _ => ⟨rfl, ?_⟩)
      exact jr_push hS hS0 hl hs rfl hLog (jp_punch_I0 hI2 hf ham h5') ⟨hJ.1, hJ.2.1, jp_UB_uh hB hJ.2.2.1 (by omega), hJ.2.2.2⟩ (jp_run_punch hl hB hf hkf ha hm1 ham h5)
    · rw [jp_rs_ne hm1] at h5
      rw [jp_rb (fun i hi => (hZ.1 i hi).1) (fun i hi => (hZ.1 i hi).1), jp_rb (fun i hi => (hZ.1 i hi).2.1) (fun i hi => (hZ.1 i hi).2.1), jp_rb (jp_pi_z (fun i hi => (hZ.1 i hi).1)) (jp_pi_z (fun i hi => (hZ.1 i hi).1)), jp_rb (jp_ro_z hZ.2.1) (jp_ro_z hZ.2.1), jp_rb (a := B) (fun i hi => by rw [jp_fl_out (by omega)]; exact hZ.2.2.1 i hi) hZ.2.2.1, jp_rb (a := M) (jp_uh_z hB (fun j hj => (hZ.2.2.2 j hj).2) (by omega)) (fun i hi => (hZ.2.2.2 i hi).2), jp_rb (a := V) (fun i hi => (hZ.2.2.2 i hi).1) (fun i hi => (hZ.2.2.2 i hi).1)]
      exact jy_punch_go hr hB hf hkf ha hm1 ham (fun z => by omega) (fun _ _ => ⟨rfl, jr_back hS hS0 hl hs rfl hLog⟩) (fun _ z => by omega)
  · unfold wpY_punch
    exact br_t rfl (jy_is (fun _ _ _ _ => br_f (by decide) (jy_in (M := 23) (by omega) (fun n hn e => absurd ⟨n, hn, e⟩ hno) (fun _ => br_t rfl ⟨rfl, I'⟩))) (fun _ => br_t rfl ⟨rfl, I'⟩))
  · unfold wpY_punch
    exact br_t rfl (jy_is (fun a ha e hk => absurd ⟨a, ha, e, hk⟩ hno) (fun _ => br_t rfl ⟨rfl, I'⟩))
end
section
/-! crash -/
theorem jp_res {A a b : Nat → Int32} {n l : Nat} (hA : ∀ i, n ≤ i → A i = 0) (ha : ∀ i, n ≤ i → a i = 0) (h : ∀ i, i < n → b (n * l + i) = a i) : jp_cp A 0 n b (n * l) = a := by
  funext i
  by_cases e : i < n
  · have := jp_cp_in (a := A) (b := b) (lo := 0) (off := n * l) e
    rw [Nat.zero_add] at this
    rw [this, h i e]
  · rw [jp_cp_out (by omega), hA i (by omega), ha i (by omega)]
theorem jr_cut {k l : Nat} {r s : Nat} {d xw yh yt : Int32} {K L P N B V M bk bl bp bn bb bm bh xq ok ol op on ob ov om yc yg yq F T U : Nat → Int32} {S : Nat → jp_FS} (hl : l ≤ r) (hr : r ≤ 24) (hS : S l = (K, L, P, N, B, V, M)) (hS0 : S 0 = (ok, ol, op, on, ob, ov, om)) (hd : d = 0 ∨ (d = 1 ∧ r = 0)) (hLog : jp_Log S r d bk bl bp bn bb bm bh yc yg) :
    i_Rel k (nI l, nI l, d, xw, K, L, jp_pi K P, jp_ro N, B, M, V, bk, bl, bp, bn, bb, bm, bh, F, T, xq, U) (nI l, nI l, d, yh, yt, K, L, P, N, B, V, M, ok, ol, op, on, ob, ov, om, yc, yg, F, yq, U, T) :=
  ⟨S, l, l, d, xw, yh, yt, K, L, P, N, B, V, M, bk, bl, bp, bn, bb, bm, bh, xq, ok, ol, op, on, ob, ov, om, yc, yg, yq, F, T, U, rfl, rfl, hS, hS0, by omega, Nat.le_refl l, hd.elim Or.inl (fun h => Or.inr ⟨h.1, by omega⟩),
   fun j hj => hLog.1 j (by omega), fun h j hj => hLog.2.1 h j (by omega), fun j hj => hLog.2.2.1 j (by omega), fun j hj => hLog.2.2.2 j (by omega)⟩
theorem jy_crash_go {post : Int32 → SY → Prop} {l : Nat} {r s : Nat} {d xw yh yt : Int32} {K L P N B V M bk bl bp bn bb bm bh xq ok ol op on ob ov om yc yg yq F T U : Nat → Int32} {S : Nat → jp_FS} (hl : l ≤ r) (hr : r ≤ 24) (hS : S r = (K, L, P, N, B, V, M)) (hS0 : S 0 = (ok, ol, op, on, ob, ov, om)) (hd : d = 0 ∨ (d = 1 ∧ r = 0)) (hLog : jp_Log S r d bk bl bp bn bb bm bh yc yg)
    (h : ∀ K' L' P' N' B' V' M', S l = (K', L', P', N', B', V', M') → post (nI r - nI l) (nI l, nI l, d, yh, yt, K', L', P', N', B', V', M', ok, ol, op, on, ob, ov, om, yc, yg, F, yq, U, T)) : wY_crash_43 post (nI r) (nI l) (nI r) (nI s) d yh yt K L P N B V M ok ol op on ob ov om yc yg F yq U T := by
  have hI := hLog.1 r (Nat.le_refl r)
  have hI0 := hLog.1 0 (Nat.zero_le r)
  rw [hS] at hI
  rw [hS0] at hI0
  obtain ⟨e1, e2, e3, e4, e5, e6, e7⟩ := jp_cpZ hI.1 hI0.1
  unfold wY_crash_43
  refine jy_cpb_kind ?_
  refine jy_cpb_links ?_
  refine jy_cpb_parent ?_
  refine jy_cpb_named ?_
  refine jy_cpb_block ?_
  refine jy_cpb_value ?_
  refine jy_cpb_mark ?_
  rw [e1, e2, e3, e4, e5, e6, e7]
  have key : ∀ m j K' L' P' N' B' V' M', j + m = l → S j = (K', L', P', N', B', V', M') → wY_crash_129 post (nI r) (nI l) (m + 1) (nI j) (nI j) (nI s) d yh yt K' L' P' N' B' V' M' ok ol op on ob ov om yc yg F yq U T := by
    intro m
    induction m with
    | zero =>
      intro j K' L' P' N' B' V' M' hj hSj
      have : j = l := by omega
      subst this
      exact br_t (nI_le (by omega) (by omega)) (h _ _ _ _ _ _ _ hSj)
    | succ m ih =>
      intro j K' L' P' N' B' V' M' hj hSj
      have hd0 : d = 0 := hd.elim id (fun z => by omega)
      subst hd0
      have hR := hLog.2.2.2 j (by omega)
      rcases hSn : S (j + 1) with ⟨K2, L2, P2, N2, B2, V2, M2⟩
      rw [hSj, hSn] at hR
      refine br_f (nI_ge (by omega) (by omega)) (hR _ _ _ _ _ _ _ _ _ _ _ _ _ _ _ _ _ rfl rfl rfl rfl rfl (nm_r (nI_1 _) (ih (j + 1) K2 L2 P2 N2 B2 V2 M2 (by omega) hSn)))
  exact ⟨l + 1, key l 0 ok ol op on ob ov om (by omega) hS0⟩
theorem i_vc_crash {k : Nat} {u : SX} {v : SY} (I : i_Rel k u v) (hk : k + 5 ≤ 2560) (v1 : Int32) : wpX_crash (fun r u' => wpY_crash (fun r' v' => r' = r ∧ i_Rel (k + 5) u' v') v v1) u v1 := by
  have I' : i_Rel (k + 5) u v := I
  obtain ⟨S, r, s, d, xw, yh, yt, K, L, P, N, B, V, M, bk, bl, bp, bn, bb, bm, bh, xq, ok, ol, op, on, ob, ov, om, yc, yg, yq, F, T, U, rfl, rfl, hS, hS0, hr, hs, hd, hLog⟩ := I
  have hI := hLog.1 r (Nat.le_refl r)
  rw [hS] at hI
  obtain ⟨hZ, hK, hK0, hPR, hP0, hL0, hN, hNE, hEN, hB, hBE, hXN⟩ := hI
  unfold wpX_crash
  rcases pk_ix v1 (n := 25) (by omega) with h | h | ⟨j, hj, rfl⟩
  · refine br_t h ?_
    unfold wpY_crash
    exact jy_in (M := 24) (by omega) (fun j hj e => absurd ⟨j, hj, e⟩ (jv_rn (by omega) (Or.inl h))) (fun _ => br_t rfl ⟨rfl, I'⟩)
  · have h0 : ¬ v1 < 0 := fun z => absurd (Int32.lt_of_le_of_lt h z) (by decide)
    have h1 : ¬ v1 ≤ 24 := fun z => absurd (Int32.le_trans h z) (by decide)
    refine br_f h0 (br_f h1 ?_)
    unfold wpY_crash
    exact jy_in (M := 24) (by omega) (fun j hj e => absurd ⟨j, hj, e⟩ (jv_rn (by omega) (Or.inr h))) (fun _ => br_t rfl ⟨rfl, I'⟩)
  · refine br_f (nI_pos (by omega)) (br_t (nI_le (b := 24) (by omega) (by omega)) (nm_r (pk_sub hs) (pk_le (r - s) j (fun hle => ?_) (fun hlt => ?_))))
    · refine br_t (by decide) ?_
      have fin : wY_crash_43 (fun r' v' => r' = 0 ∧ i_Rel (k + 5) (nI r, nI r, d, xw, K, L, jp_pi K P, jp_ro N, B, M, V, bk, bl, bp, bn, bb, bm, bh, F, T, xq, U) v') (nI r) (nI r) (nI r) (nI s) d yh yt K L P N B V M ok ol op on ob ov om yc yg F yq U T := by
        refine jy_crash_go (xw := xw) (xq := xq) (Nat.le_refl r) hr hS hS0 hd hLog (fun K' L' P' N' B' V' M' e => ?_)
        rw [hS] at e
        cases e
        exact ⟨by rw [pk_sub (Nat.le_refl r), Nat.sub_self]; rfl, jr_cut (s := s) (Nat.le_refl r) hr hS hS0 hd hLog⟩
      unfold wpY_crash
      refine jy_in (M := 24) (by omega) (fun _ _ _ => br_f (by decide) ?_) (fun hno => absurd ⟨j, hj, rfl⟩ hno)
      rw [pk_sub hs, nI_add]
      refine pk_le j (r - s) (fun z => ?_) (fun z => fin)
      rw [show s + j = r from by omega]
      exact fin
    · rw [pk_sub (by omega)]
      refine br_f (nI_nle (by omega) (by omega)) ?_
      rw [pk_sub (by omega)]
      have el : r - (r - s - j) = s + j := by omega
      rw [el]
      have hBe := hLog.2.2.1 (s + j) (by omega)
      have hIl := hLog.1 (s + j) (by omega)
      rcases hSl : S (s + j) with ⟨K', L', P', N', B', V', M'⟩
      rw [hSl] at hBe hIl
      have hZl := hIl.1
      obtain ⟨b1, b2, b3, b4⟩ := hBe
      refine jx_loseRecordsBehind (by omega) ?_
      rw [jp_res (fun i hi => (hZ.1 i hi).1) (fun i hi => (hZl.1 i hi).1) (fun i hi => (b1 i hi).1), jp_res (fun i hi => (hZ.1 i hi).2.1) (fun i hi => (hZl.1 i hi).2.1) (fun i hi => (b1 i hi).2.1), jp_res (jp_pi_z (fun i hi => (hZ.1 i hi).1)) (jp_pi_z (fun i hi => (hZl.1 i hi).1)) (fun i hi => (b1 i hi).2.2), jp_res (jp_ro_z hZ.2.1) (jp_ro_z hZl.2.1) b2, jp_res hZ.2.2.1 hZl.2.2.1 b3, jp_res (fun i hi => (hZ.2.2.2 i hi).2) (fun i hi => (hZl.2.2.2 i hi).2) (fun i hi => (b4 i hi).1), jp_res (fun i hi => (hZ.2.2.2 i hi).1) (fun i hi => (hZl.2.2.2 i hi).1) (fun i hi => (b4 i hi).2)]
      unfold wpY_crash
      refine jy_in (M := 24) (by omega) (fun _ _ _ => br_f (by decide) ?_) (fun hno => absurd ⟨j, hj, rfl⟩ hno)
      rw [pk_sub hs, nI_add]
      refine br_t (nI_le (by omega) (by omega)) (jy_crash_go (xw := xw) (xq := xq) (by omega) hr hS hS0 hd hLog (fun K2 L2 P2 N2 B2 V2 M2 e => ?_))
      rw [hSl] at e
      cases e
      exact ⟨by rw [pk_sub (by omega)]; exact congrArg nI (by omega), jr_cut (s := s) (by omega) hr hSl hS0 hd hLog⟩
end
section
/-! damage -/
theorem jv_nb0 : narrow .boolean (.int 0) = .int 0 := lw_bz_n 0
theorem jv_nb1 : narrow .boolean (.int 1) = .int 1 := lw_bz_n 1
section
variable {xr xs xd xw : Int32} {xk xl xp xn xb xm xh bk bl bp bn bb bm bh xf xt xq xu : Nat → Int32}
theorem jx_dam0 {post : Int32 → SX → Prop} (hd : xd = 0 ∨ xd = 1) (h : post 0 (xr, xs, xd, xw, xk, xl, xp, xn, xb, xm, xh, bk, bl, bp, bn, bb, bm, bh, xf, xt, xq, xu)) : wX_damage_106 post 0 xr xs xd xw xk xl xp xn xb xm xh bk bl bp bn bb bm bh xf xt xq xu := by
  rcases hd with e | e <;> subst e
  · exact br_t rfl (br_t rfl ⟨jv_nb0, h⟩)
  · exact br_f (by decide) ⟨jv_nb0, h⟩
theorem jx_dam1 {post : Int32 → SX → Prop} (h : post 1 (xr, xs, 1, xw, xk, xl, xp, xn, xb, xm, xh, bk, bl, bp, bn, bb, bm, bh, xf, xt, xq, xu)) : wX_damage_106 post 1 xr xs xd xw xk xl xp xn xb xm xh bk bl bp bn bb bm bh xf xt xq xu :=
  br_c (fun _ => br_f (by decide) ⟨jv_nb1, h⟩) (fun _ => ⟨jv_nb1, h⟩)
end
theorem jp_links_I0 {K L P N B V M : Nat → Int32} {i : Nat} {v : Int32} (h : jp_I0 (K, L, P, N, B, V, M)) (hi : i < 16) (hk : ¬ K i = 0) : jp_I0 (K, upd L i v, P, N, B, V, M) := by
  obtain ⟨hZ, hK, hK0, hPR, hP0, hL0, h⟩ := h
  refine ⟨⟨fun j hj => ?_, hZ.2⟩, hK, hK0, hPR, hP0, fun j hj hk0 => ?_, h⟩
  · rw [pk_un (by omega)]; exact hZ.1 j hj
  · have : j ≠ i := fun e => hk (by rw [← e]; exact hk0)
    rw [pk_un this]; exact hL0 j hj hk0
theorem jp_mark_I0 {K L P N B V M : Nat → Int32} {b : Nat} {v : Int32} (h : jp_I0 (K, L, P, N, B, V, M)) (hb : b < 64) : jp_I0 (K, L, P, N, B, V, upd M b v) := by
  obtain ⟨hZ, h⟩ := h
  exact ⟨⟨hZ.1, hZ.2.1, hZ.2.2.1, fun i hi => ⟨(hZ.2.2.2 i hi).1, by rw [pk_un (by omega)]; exact (hZ.2.2.2 i hi).2⟩⟩, h⟩
theorem jp_name_I0 {K L P N B V M : Nat → Int32} {a n i : Nat} (h : jp_I0 (K, L, P, N, B, V, M)) (ha : a < 16) (hk : K a = 2) (hn : n < 64) (hi : i < 16) (he : ¬ N (64 * a + n) = -1) : jp_I0 (K, L, P, upd N (64 * a + n) (nI i), B, V, M) := by
  obtain ⟨hZ, hK, hK0, hPR, hP0, hL0, hN, hNE, hEN, h⟩ := h
  refine ⟨⟨hZ.1, fun j hj => ?_, hZ.2.2⟩, hK, hK0, hPR, hP0, hL0, jp_NR_upd hN (Or.inr ⟨i, hi, rfl⟩), fun j hj hk2 q hq => ?_, fun j hj => ?_, h⟩
  · rw [pk_un (by omega)]; exact hZ.2.1 j hj
  · have : j ≠ a := fun e => hk2 (by rw [e]; exact hk)
    rw [pk_un (by omega)]; exact hNE j hj hk2 q hq
  · by_cases e : j = a
    · subst e
      have := jp_en_upd (N := N) (a := j) (n := n) (v := nI i) hn
      rw [jp_t1 he, jp_t1 (jv_m1n i (by omega))] at this
      have := hEN j hj
      omega
    · rw [jp_en_un hn e]; exact hEN j hj
/-- a row of blocks, one behind another -/
def jp_mw (B : Nat → Int32) (lo len t : Nat) : Nat → Int32 := fun s => if lo ≤ s ∧ s < lo + len then nI (t + (s - lo)) else B s
theorem jp_mw_0 (B : Nat → Int32) (lo t : Nat) : jp_mw B lo 0 t = B := by
  funext s; unfold jp_mw; rw [if_neg (by omega)]
theorem jp_mw_s (B : Nat → Int32) (lo k t : Nat) : upd (jp_mw B lo k t) (lo + k) (nI (t + k)) = jp_mw B lo (k + 1) t := by
  funext s; unfold jp_mw upd; dsimp only
  by_cases e : s = lo + k
  · subst e; rw [if_pos rfl, if_pos (by omega), Nat.add_sub_cancel_left]
  · rw [if_neg e]
    by_cases h : lo ≤ s ∧ s < lo + k
    · rw [if_pos h, if_pos (by omega)]
    · rw [if_neg h, if_neg (by omega)]
theorem jp_mw_in {B : Nat → Int32} {lo len t s : Nat} (h1 : lo ≤ s) (h2 : s < lo + len) : jp_mw B lo len t s = nI (t + (s - lo)) := if_pos ⟨h1, h2⟩
theorem jp_mw_out {B : Nat → Int32} {lo len t s : Nat} (h : s < lo ∨ lo + len ≤ s) : jp_mw B lo len t s = B s := if_neg (by omega)
theorem jp_mw_be {B : Nat → Int32} {f p b L t q : Nat} (hb : b < 64) (hL : jp_Len B f p b L) (hbe : jp_be B f p = true) (ht : t + L ≤ 64) (hq : q < 24) (h : jp_be (jp_mw B (24 * f + p) L t) f q = true) : jp_be B f q = true := by
  obtain ⟨l1, l2, l3, l4⟩ := hL
  by_cases e : q = p
  · rw [e]; exact hbe
  · unfold jp_be at h ⊢
    simp only [decide_eq_true_eq] at h ⊢
    by_cases e1 : p < q ∧ q < p + L
    · rw [jp_mw_in (by omega) (by omega), jp_mw_in (by omega) (by omega)] at h
      rcases h.2 with z | z | z
      · omega
      · exact absurd z (jv_m1n _ (by omega))
      · exact absurd (by rw [nI_1]; exact congrArg nI (by omega)) z
    · rw [jp_mw_out (s := 24 * f + q) (by omega)] at h
      refine ⟨h.1, ?_⟩
      by_cases q0 : q = 0
      · exact Or.inl q0
      · by_cases e2 : q = p + L
        · refine Or.inr (Or.inr (fun z => l4 (by omega) ?_))
          have := l3 (L - 1) (by omega)
          rw [show 24 * f + p + (L - 1) = 24 * f + q - 1 from by omega] at this
          rw [this, nI_1] at z
          rw [show 24 * f + p + L = 24 * f + q from by omega, ← z]
          exact congrArg nI (by omega)
        · rw [jp_mw_out (s := 24 * f + q - 1) (by omega)] at h
          exact h.2
theorem jp_mw_I0 {K L P N B V M : Nat → Int32} {f p b n t : Nat} (h : jp_I0 (K, L, P, N, B, V, M)) (hf : f < 16) (hk : K f = 1) (hb : b < 64) (hL : jp_Len B f p b n) (hbe : jp_be B f p = true) (ht : t + n ≤ 64) : jp_I0 (K, L, P, N, jp_mw B (24 * f + p) n t, V, M) := by
  obtain ⟨hZ, hK, hK0, hPR, hP0, hL0, hN, hNE, hEN, hB, hBE, hXN⟩ := h
  have l2 := hL.2.1
  refine ⟨⟨hZ.1, hZ.2.1, fun i hi => ?_, hZ.2.2.2⟩, hK, hK0, hPR, hP0, hL0, hN, hNE, hEN, fun s hs => ?_, fun i hi hk1 q hq => ?_, fun i hi => ?_⟩
  · rw [jp_mw_out (by omega)]; exact hZ.2.2.1 i hi
  · by_cases e : 24 * f + p ≤ s ∧ s < 24 * f + p + n
    · rw [jp_mw_in e.1 e.2]; exact Or.inr ⟨_, by omega, rfl⟩
    · rw [jp_mw_out (by omega)]; exact hB s hs
  · have : i ≠ f := fun e => hk1 (by rw [e]; exact hk)
    rw [jp_mw_out (by omega)]; exact hBE i hi hk1 q hq
  · refine Nat.le_trans (jp_cn_mono (fun q hq hb' => ?_)) (hXN i hi)
    by_cases e : i = f
    · rw [e] at hb' ⊢; exact jp_mw_be hb hL hbe ht hq hb'
    · unfold jp_be at hb' ⊢
      rw [jp_mw_out (by omega)] at hb'
      by_cases q0 : q = 0
      · simp only [decide_eq_true_eq] at hb' ⊢; exact ⟨hb'.1, Or.inl q0⟩
      · rw [jp_mw_out (by omega)] at hb'; exact hb'
section
variable {xr xs xd xw : Int32} {xk xl xp xn xb xm xh bk bl bp bn bb bm bh xf xt xq xu : Nat → Int32}
theorem jx_dmap {post : Int32 → SX → Prop} {f p n t : Nat} (hf : f < 16) (hp : p + n ≤ 24) (ht : t + n ≤ 64) (h : post 1 (xr, xs, xd, xw, xk, xl, xp, xn, jp_mw xb (24 * f + p) n t, xm, xh, bk, bl, bp, bn, bb, bm, bh, xf, xt, xq, xu)) : ∃ m, wX_damageExtent_53 post (nI f) (nI t) (nI p) (nI n) xr xs xd xw m 0 xk xl xp xn xb xm xh bk bl bp bn bb bm bh xf xt xq xu := by
  refine pk_loop (σ := Nat → Int32) (fun m i s => wX_damageExtent_53 post (nI f) (nI t) (nI p) (nI n) xr xs xd xw m (nI i) xk xl xp xn s xm xh bk bl bp bn bb bm bh xf xt xq xu) (fun i s => s = jp_mw xb (24 * f + p) i t) n 0 xb (by omega) (jp_mw_0 _ _ _).symm (fun m s hI => br_t (nI_le (by omega) (by omega)) (by rw [hI]; exact h)) (fun m i s hi hI ih => br_f (nI_ge hi (by omega)) ?_)
  rw [jv_f24, nI_add, nI_add]
  refine ⟨vp_in_nI (by omega) (by omega), ?_⟩
  rw [nI_clamp (by omega)]
  exact nm_e (nm_r (nI_1 _) (ih _ (by rw [hI, jp_mw_s])))
end
section
variable {yr ys yd yh yt : Int32} {yk yl yp yn yb yv ym ok ol op on ob ov om yc yg yf yq yu ye : Nat → Int32}
theorem jy_dmap {post : Int32 → SY → Prop} {f p n t : Nat} (hf : f < 16) (hp : p + n ≤ 24) (ht : t + n ≤ 64) (h : post 1 (yr, ys, yd, yh, yt, yk, yl, yp, yn, jp_mw yb (24 * f + p) n t, yv, ym, ok, ol, op, on, ob, ov, om, yc, yg, yf, yq, yu, ye)) : ∃ m, wY_mapWrong_55 post (nI f) (nI t) (nI p) (nI n) yr ys yd yh yt m 0 yk yl yp yn yb yv ym ok ol op on ob ov om yc yg yf yq yu ye := by
  refine pk_loop (σ := Nat → Int32) (fun m i s => wY_mapWrong_55 post (nI f) (nI t) (nI p) (nI n) yr ys yd yh yt m (nI i) yk yl yp yn s yv ym ok ol op on ob ov om yc yg yf yq yu ye) (fun i s => s = jp_mw yb (24 * f + p) i t) n 0 yb (by omega) (jp_mw_0 _ _ _).symm (fun m s hI => br_t (nI_le (by omega) (by omega)) (by rw [hI]; exact h)) (fun m i s hi hI ih => br_f (nI_ge hi (by omega)) ?_)
  rw [jv_e24, nI_add, nI_add]
  refine ⟨vp_in_nI (by omega) (by omega), ?_⟩
  rw [nI_clamp (by omega)]
  exact nm_e (nm_r (nI_1 _) (ih _ (by rw [hI, jp_mw_s])))
theorem jy_lose {post : Int32 → SY → Prop} {i : Nat} (hi : i < 16) (hi0 : i ≠ 0) (hk : ¬ yk i = 0) (h : post 1 (yr, ys, yd, yh, yt, upd yk i 0, upd yl i 0, yp, jp_fl yn (64 * i) 64 (-1), jp_fl yb (24 * i) 24 (-1), yv, ym, ok, ol, op, on, ob, ov, om, yc, yg, yf, yq, yu, ye)) : wpY_lose post (yr, ys, yd, yh, yt, yk, yl, yp, yn, yb, yv, ym, ok, ol, op, on, ob, ov, om, yc, yg, yf, yq, yu, ye) (nI i) := by
  unfold wpY_lose
  refine br_f (nI_nlt (b := 1) (by omega) (by omega)) (br_f (nI_nlt (a := 15) (by omega) (by omega)) (br_f (by decide) ⟨vp_in_nI hi (by omega), ?_⟩))
  rw [nI_clamp (n := i) (by omega)]
  refine br_f hk ⟨vp_in_nI hi (by omega), nm_e ⟨vp_in_nI hi (by omega), nm_e (nm_r (jv_c64 i) ?_)⟩⟩
  refine pk_loop (σ := Nat → Int32) (fun n j s => wY_lose_40 post (nI i) yr ys yd yh yt n (nI (64 * i + j)) (upd yk i 0) (upd yl i 0) yp s yb yv ym ok ol op on ob ov om yc yg yf yq yu ye) (fun j s => s = jp_fl yn (64 * i) j (-1)) 64 0 yn (by omega) (jp_fl_0 _ _ _).symm (fun n s hI => br_t ?_ (nm_r (jv_c24 i) ?_)) (fun n j s hj hI ih => br_f ?_ ⟨vp_in_nI (by omega) (by omega), ?_⟩)
  · rw [jv_d64]; exact nI_le (by omega) (by omega)
  · subst hI
    refine pk_loop (σ := Nat → Int32) (fun n j s => wY_lose_69 post (nI i) yr ys yd yh yt n (nI (24 * i + j)) (upd yk i 0) (upd yl i 0) yp (jp_fl yn (64 * i) 64 (-1)) s yv ym ok ol op on ob ov om yc yg yf yq yu ye) (fun j s => s = jp_fl yb (24 * i) j (-1)) 24 0 yb (by omega) (jp_fl_0 _ _ _).symm (fun n s hI => br_t ?_ (by rw [hI]; exact h)) (fun n j s hj hI ih => br_f ?_ ⟨vp_in_nI (by omega) (by omega), ?_⟩)
    · rw [jv_d24]; exact nI_le (by omega) (by omega)
    · rw [jv_d24]; exact nI_ge (by omega) (by omega)
    · rw [nI_clamp (by omega)]
      exact nm_e (nm_r (nI_1 _) (ih _ (by rw [hI, jp_fl_s])))
  · rw [jv_d64]; exact nI_ge (by omega) (by omega)
  · rw [nI_clamp (by omega)]
    exact nm_e (nm_r (nI_1 _) (ih _ (by rw [hI, jp_fl_s])))
end
def jy_D (post : Int32 → SY → Prop) (r : Int32) : SY → Prop
  | (yr, ys, yd, yh, yt, yk, yl, yp, yn, yb, yv, ym, ok, ol, op, on, ob, ov, om, yc, yg, yf, yq, yu, ye) => wY_damage_86 post r yr ys yd yh yt yk yl yp yn yb yv ym ok ol op on ob ov om yc yg yf yq yu ye
section
variable {r s : Nat} {d xw yh yt : Int32} {K L P N B V M bk bl bp bn bb bm bh xq ok ol op on ob ov om yc yg yq F T U : Nat → Int32} {k : Nat}
/-- the reference's end of a damage that was done -/
theorem jy_dend {post : Int32 → SY → Prop} {K' L' P' N' B' V' M' : Nat → Int32} (h0 : jp_Z ok ol op on ob ov om) (h1 : jp_Z K' L' P' N' B' V' M')
    (h : post 1 (nI r, nI s, 1, yh, yt, K', L', P', N', B', V', M', K', L', P', N', B', V', M', yc, yg, F, yq, U, T)) : jy_D post 1 (nI r, nI s, d, yh, yt, K', L', P', N', B', V', M', ok, ol, op, on, ob, ov, om, yc, yg, F, yq, U, T) := by
  unfold jy_D
  exact br_f (by decide) (jy_placeZ h0 h1 h)
end
theorem i_vc_damage {k : Nat} {u : SX} {v : SY} (I : i_Rel k u v) (hk : k + 5 ≤ 2560) (v1 : Int32) (v2 : Int32) (v3 : Int32) (v4 : Int32) : wpX_damage (fun r u' => wpY_damage (fun r' v' => r' = r ∧ i_Rel (k + 5) u' v') v v1 v2 v3 v4) u v1 v2 v3 v4 := by
  have I' : i_Rel (k + 5) u v := I
  obtain ⟨S, r, s, d, xw, yh, yt, K, L, P, N, B, V, M, bk, bl, bp, bn, bb, bm, bh, xq, ok, ol, op, on, ob, ov, om, yc, yg, yq, F, T, U, rfl, rfl, hS, hS0, hr, hs, hd, hLog⟩ := I
  have hI := hLog.1 r (Nat.le_refl r)
  have hI0 := hLog.1 0 (Nat.zero_le r)
  rw [hS] at hI
  rw [hS0] at hI0
  have hI2 := hI
  obtain ⟨hZ, hK, hK0, hPR, hP0, hL0, hN, hNE, hEN, hB, hBE, hXN⟩ := hI
  have hZ0 := hI0.1
  have hd' : d = 0 ∨ d = 1 := hd.elim Or.inl (fun h => Or.inr h.1)
  unfold wpX_damage
  refine pk_le r 0 (fun h => ?_) (fun h => ?_)
  · obtain rfl : r = 0 := by omega
    obtain rfl : s = 0 := by omega
    -- what the component does when nothing was done, and when it was
    have no : ∀ post : Int32 → SX → Prop, post 0 (0, 0, d, xw, K, L, jp_pi K P, jp_ro N, B, M, V, bk, bl, bp, bn, bb, bm, bh, F, T, xq, U) → wX_damage_106 post 0 0 0 d xw K L (jp_pi K P) (jp_ro N) B M V bk bl bp bn bb bm bh F T xq U := fun post h => jx_dam0 hd' h
    have yno : ∀ post : Int32 → SY → Prop, post 0 (0, 0, d, yh, yt, K, L, P, N, B, V, M, ok, ol, op, on, ob, ov, om, yc, yg, F, yq, U, T) → jy_D post 0 (0, 0, d, yh, yt, K, L, P, N, B, V, M, ok, ol, op, on, ob, ov, om, yc, yg, F, yq, U, T) := fun post h => by
      unfold jy_D
      exact br_t rfl h
    have new : ∀ K' L' P' N' B' V' M', jp_I0 (K', L', P', N', B', V', M') → i_Rel (k + 5) (0, 0, 1, xw, K', L', jp_pi K' P', jp_ro N', B', M', V', bk, bl, bp, bn, bb, bm, bh, F, T, xq, U) (0, 0, 1, yh, yt, K', L', P', N', B', V', M', K', L', P', N', B', V', M', yc, yg, F, yq, U, T) :=
      fun K' L' P' N' B' V' M' h => jr_new (Or.inr rfl) h (fun z => absurd z (by decide))
    have end0 : v1 < 0 ∨ 4 < v1 → wpY_damage (fun r' v' => r' = 0 ∧ i_Rel (k + 5) (0, 0, d, xw, K, L, jp_pi K P, jp_ro N, B, M, V, bk, bl, bp, bn, bb, bm, bh, F, T, xq, U) v') (0, 0, d, yh, yt, K, L, P, N, B, V, M, ok, ol, op, on, ob, ov, om, yc, yg, F, yq, U, T) v1 v2 v3 v4 := by
      intro hv
      have ne : ∀ j : Nat, j < 5 → ¬ v1 = nI j := by
        intro j hj e
        subst e
        rcases hv with z | z
        · exact nI_pos (by omega) z
        · exact nI_nlt (a := 4) (by omega) (by omega) z
      exact br_t (by decide) (br_f (ne 0 (by omega)) (br_f (ne 1 (by omega)) (br_f (ne 2 (by omega)) (br_f (ne 3 (by omega)) (br_f (ne 4 (by omega)) (br_t rfl ⟨rfl, I'⟩))))))
    refine br_c (fun z => no _ (end0 (Or.inl z))) (fun z => br_c (fun z2 => no _ (end0 (Or.inr z2))) (fun z2 => ?_))
    clear end0
    refine br_c (fun e => ?_) (fun n0 => br_c (fun e => ?_) (fun n1 => br_c (fun e => ?_) (fun n2 => br_c (fun e => ?_) (fun n3 => br_c (fun e => ?_) (fun n4 => trivial)))))
    · -- links
      subst e
      unfold wpX_damageLinks
      have Y : ∀ post : Int32 → SY → Prop, wpY_countWrong (fun r u => jy_D post r u) (0, 0, d, yh, yt, K, L, P, N, B, V, M, ok, ol, op, on, ob, ov, om, yc, yg, F, yq, U, T) v2 v3 → wpY_damage post (0, 0, d, yh, yt, K, L, P, N, B, V, M, ok, ol, op, on, ob, ov, om, yc, yg, F, yq, U, T) 0 v2 v3 v4 := fun post h => br_t (by decide) (br_t rfl h)
      refine jx_isInode (fun a ha e => br_f (by decide) ?_) (fun hno => br_t rfl (no _ (Y _ ?_)))
      · subst e
        have hv : vp_in (nI a) 16 := vp_in_nI ha (by omega)
        refine ⟨hv, ?_⟩
        rw [nI_clamp (n := a) (by omega)]
        have Yr : ∀ post, (K a = 0 → post 0 (0, 0, d, yh, yt, K, L, P, N, B, V, M, ok, ol, op, on, ob, ov, om, yc, yg, F, yq, U, T)) → (¬ K a = 0 → wpY_in (fun r_5 => (r_5 = 0 → post 0 (0, 0, d, yh, yt, K, L, P, N, B, V, M, ok, ol, op, on, ob, ov, om, yc, yg, F, yq, U, T)) ∧ (¬ r_5 = 0 → vp_in (nI a) 16 ∧ ∀ al, al = upd L a v3 → post 1 (0, 0, d, yh, yt, K, al, P, N, B, V, M, ok, ol, op, on, ob, ov, om, yc, yg, F, yq, U, T))) v3 0 9) → wpY_countWrong post (0, 0, d, yh, yt, K, L, P, N, B, V, M, ok, ol, op, on, ob, ov, om, yc, yg, F, yq, U, T) (nI a) v3 := by
          intro post h1 h2
          unfold wpY_countWrong
          refine jy_in (M := 15) (by omega) (fun _ _ _ => br_f (by decide) ⟨hv, ?_⟩) (fun hh => absurd ⟨a, ha, rfl⟩ hh)
          rw [nI_clamp (n := a) (by omega)]
          exact br_c h1 h2
        refine br_c (fun k0 => no _ (Y _ (Yr _ (fun _ => yno _ ⟨rfl, I'⟩) (fun z => absurd k0 z)))) (fun k0 => ?_)
        refine br_c (fun q => no _ (Y _ (Yr _ (fun _ => yno _ ⟨rfl, I'⟩) (fun _ => jy_in (M := 9) (by omega) (fun j hj e => absurd ⟨j, hj, e⟩ (jv_rn (by omega) (Or.inl q))) (fun _ => br_t rfl (yno _ ⟨rfl, I'⟩)))))) (fun q => ?_)
        obtain ⟨j, hj, rfl⟩ := nI_of q
        refine pk_le j 9 (fun q2 => ⟨hv, nm_e (jx_dam1 (Y _ (Yr _ (fun z => absurd z k0) (fun _ => jy_in (M := 9) (by omega) (fun _ _ _ => br_f (by decide) ⟨hv, nm_e ?_⟩) (fun hh => absurd ⟨j, by omega, rfl⟩ hh)))))⟩) (fun q2 => no _ (Y _ (Yr _ (fun _ => yno _ ⟨rfl, I'⟩) (fun _ => jy_in (M := 9) (by omega) (fun j' hj' e => ?_) (fun _ => br_t rfl (yno _ ⟨rfl, I'⟩))))))
        · have hnew := jp_links_I0 (v := nI j) hI2 ha k0
          exact jy_dend hZ0 hnew.1 ⟨rfl, new _ _ _ _ _ _ _ hnew⟩
        · have := jv_inj e (by omega) (by omega)
          omega
      · unfold wpY_countWrong
        exact jy_in (M := 15) (by omega) (fun j hj e => absurd ⟨j, hj, e⟩ hno) (fun _ => br_t rfl (yno _ ⟨rfl, I'⟩))
    · -- marks
      subst e
      unfold wpX_damageMark
      have Y : ∀ post : Int32 → SY → Prop, wpY_markWrong (fun r u => jy_D post r u) (0, 0, d, yh, yt, K, L, P, N, B, V, M, ok, ol, op, on, ob, ov, om, yc, yg, F, yq, U, T) v2 v3 → wpY_damage post (0, 0, d, yh, yt, K, L, P, N, B, V, M, ok, ol, op, on, ob, ov, om, yc, yg, F, yq, U, T) 1 v2 v3 v4 := fun post h => br_t (by decide) (br_f (by decide) (br_t rfl h))
      refine jx_isBlock (fun b hb e => br_f (by decide) ?_) (fun hno => br_t rfl (no _ (Y _ ?_)))
      · subst e
        have hv : vp_in (nI b) 64 := vp_in_nI hb (by omega)
        have Yn : (¬ ∃ j, j < 2 ∧ v3 = nI j) → wpY_markWrong (fun r u => jy_D (fun r' v' => r' = 0 ∧ i_Rel (k + 5) (0, 0, d, xw, K, L, jp_pi K P, jp_ro N, B, M, V, bk, bl, bp, bn, bb, bm, bh, F, T, xq, U) v') r u) (0, 0, d, yh, yt, K, L, P, N, B, V, M, ok, ol, op, on, ob, ov, om, yc, yg, F, yq, U, T) (nI b) v3 := by
          intro hq
          unfold wpY_markWrong
          exact jy_in (M := 63) (by omega) (fun _ _ _ => br_f (by decide) (jy_in (M := 1) (by omega) (fun j hj e => absurd ⟨j, hj, e⟩ hq) (fun _ => br_t rfl (yno _ ⟨rfl, I'⟩)))) (fun hh => absurd ⟨b, hb, rfl⟩ hh)
        refine br_c (fun q => no _ (Y _ (Yn (jv_rn (by omega) (Or.inl q))))) (fun q => ?_)
        obtain ⟨j, hj, rfl⟩ := nI_of q
        refine pk_le j 1 (fun q2 => ⟨hv, nm_e (jx_dam1 (Y _ ?_))⟩) (fun q2 => no _ (Y _ (Yn (jv_rn (by omega) (Or.inr (nI_le (a := 2) (by omega) hj))))))
        unfold wpY_markWrong
        refine jy_in (M := 63) (by omega) (fun _ _ _ => br_f (by decide) (jy_in (M := 1) (by omega) (fun _ _ _ => br_f (by decide) ⟨hv, nm_e ?_⟩) (fun hh => absurd ⟨j, by omega, rfl⟩ hh))) (fun hh => absurd ⟨b, hb, rfl⟩ hh)
        rw [nI_clamp (n := b) (by omega)]
        have hnew := jp_mark_I0 (v := nI j) hI2 hb
        exact jy_dend hZ0 hnew.1 ⟨rfl, new _ _ _ _ _ _ _ hnew⟩
      · unfold wpY_markWrong
        exact jy_in (M := 63) (by omega) (fun j hj e => absurd ⟨j, hj, e⟩ hno) (fun _ => br_t rfl (yno _ ⟨rfl, I'⟩))
    · -- extents
      subst e
      unfold wpX_damageExtent
      have Y : ∀ post : Int32 → SY → Prop, wpY_mapWrong (fun r u => jy_D post r u) (0, 0, d, yh, yt, K, L, P, N, B, V, M, ok, ol, op, on, ob, ov, om, yc, yg, F, yq, U, T) v2 v3 v4 → wpY_damage post (0, 0, d, yh, yt, K, L, P, N, B, V, M, ok, ol, op, on, ob, ov, om, yc, yg, F, yq, U, T) 2 v2 v3 v4 := fun post h => br_t (by decide) (br_f (by decide) (br_f (by decide) (br_t rfl h)))
      refine jx_isFile (fun f hf e hkf => br_f (by decide) ?_) (fun hno => br_t rfl (no _ (Y _ ?_)))
      · subst e
        refine jx_startOfExtent hf ?_
        have Yr : ∀ post, wY_mapWrong_19 post (nI f) v4 (jp_ov (jp_kth (jp_be B f) v3 24 0 0) nI) 0 0 d yh yt K L P N B V M ok ol op on ob ov om yc yg F yq U T → wpY_mapWrong post (0, 0, d, yh, yt, K, L, P, N, B, V, M, ok, ol, op, on, ob, ov, om, yc, yg, F, yq, U, T) (nI f) v3 v4 := by
          intro post h
          unfold wpY_mapWrong
          exact jy_is (fun _ _ _ _ => br_f (by decide) (jy_extentAt hB hf h)) (fun hh => absurd ⟨f, hf, rfl, hkf⟩ hh)
        cases hkth : jp_kth (jp_be B f) v3 24 0 0 with
        | none =>
          rw [hkth] at Yr
          exact br_t rfl (no _ (Y _ (Yr _ (br_f (by decide) (yno _ ⟨rfl, I'⟩)))))
        | some p =>
          rw [hkth, jp_ov_some] at Yr
          rw [jp_ov_some]
          have hps := jp_kth_some _ _ _ _ _ _ hkth
          have hbe := hps.2.2
          have hbe2 := hbe
          simp only [jp_be, decide_eq_true_eq] at hbe2
          rcases hB (24 * f + p) (by omega) with z0 | ⟨b, hb, z0⟩
          · exact absurd z0 hbe2.1
          refine br_f (jv_m1n _ (by omega)) (jx_lengthOfExtent hf (by omega) hb z0 (fun n hL => ?_))
          have l1 := hL.1
          have l2 := hL.2.1
          have Ys : ∀ post, ((¬ ∃ j, j < 64 - n + 1 ∧ v4 = nI j) → post 0 (0, 0, d, yh, yt, K, L, P, N, B, V, M, ok, ol, op, on, ob, ov, om, yc, yg, F, yq, U, T)) → (∀ j, j < 64 - n + 1 → v4 = nI j → post 1 (0, 0, d, yh, yt, K, L, P, N, jp_mw B (24 * f + p) n j, V, M, ok, ol, op, on, ob, ov, om, yc, yg, F, yq, U, T)) → wpY_mapWrong post (0, 0, d, yh, yt, K, L, P, N, B, V, M, ok, ol, op, on, ob, ov, om, yc, yg, F, yq, U, T) (nI f) v3 v4 := by
            intro post h0 h1
            refine Yr _ (br_t (nI_pos' (by omega)) (jy_lengthAt hf (by omega) hb z0 (fun n' hL' => ?_)))
            rw [jp_Len_un hL' hL, jv_64, pk_sub (by omega)]
            refine jy_in (M := 64 - n) (by omega) (fun j hj e => br_f (by decide) ?_) (fun hh => br_t rfl (h0 hh))
            subst e
            exact jy_dmap hf (by omega) (by omega) (h1 j hj rfl)
          refine br_c (fun q => no _ (Y _ (Ys _ (fun _ => yno _ ⟨rfl, I'⟩) (fun j hj e => absurd ⟨j, hj, e⟩ (jv_rn (by omega) (Or.inl q)))))) (fun q => ?_)
          obtain ⟨j, hj, rfl⟩ := nI_of q
          rw [jv_64, pk_sub (by omega)]
          refine pk_le j (64 - n) (fun q2 => jx_dmap hf (by omega) (by omega) (jx_dam1 (Y _ (Ys _ (fun hh => absurd ⟨j, by omega, rfl⟩ hh) (fun j' hj' e => ?_))))) (fun q2 => no _ (Y _ (Ys _ (fun _ => yno _ ⟨rfl, I'⟩) (fun j' hj' e => absurd (jv_inj e (by omega) (by omega)) (by omega)))))
          rw [← jv_inj e (by omega) (by omega)]
          have hnew := jp_mw_I0 (t := j) hI2 hf hkf hb hL hbe (by omega)
          exact jy_dend hZ0 hnew.1 ⟨rfl, new _ _ _ _ _ _ _ hnew⟩
      · unfold wpY_mapWrong
        exact jy_is (fun f hf e hkf => absurd ⟨f, hf, e, hkf⟩ hno) (fun _ => br_t rfl (br_f (by decide) (yno _ ⟨rfl, I'⟩)))
    · -- entries
      subst e
      unfold wpX_damageEntry
      have Y : ∀ post : Int32 → SY → Prop, wpY_nameWrong (fun r u => jy_D post r u) (0, 0, d, yh, yt, K, L, P, N, B, V, M, ok, ol, op, on, ob, ov, om, yc, yg, F, yq, U, T) v2 v3 v4 → wpY_damage post (0, 0, d, yh, yt, K, L, P, N, B, V, M, ok, ol, op, on, ob, ov, om, yc, yg, F, yq, U, T) 3 v2 v3 v4 := fun post h => br_t (by decide) (br_f (by decide) (br_f (by decide) (br_f (by decide) (br_t rfl h))))
      have nn : ∀ z : Int32, (¬ ∃ j, j < 16 ∧ v4 = nI j) → wY_nameWrong_19 (fun r u => jy_D (fun r' v' => r' = 0 ∧ i_Rel (k + 5) (0, 0, d, xw, K, L, jp_pi K P, jp_ro N, B, M, V, bk, bl, bp, bn, bb, bm, bh, F, T, xq, U) v') r u) v2 v4 z 0 0 d yh yt K L P N B V M ok ol op on ob ov om yc yg F yq U T := fun z hno =>
        br_c (fun _ => yno _ ⟨rfl, I'⟩) (fun _ => jy_in (M := 15) (by omega) (fun j hj e => absurd ⟨j, hj, e⟩ hno) (fun _ => br_t rfl (yno _ ⟨rfl, I'⟩)))
      refine jx_isDirectory (fun a ha e hka => br_f (by decide) (jx_isInode (fun i hi e2 => br_f (by decide) ?_) (fun hno => br_t rfl (no _ (Y _ ?_))))) (fun hno => br_t rfl (no _ (Y _ ?_)))
      · subst e e2
        clear nn
        refine jx_spotOfEntry ha ?_
        rw [jp_kth_congr (g := fun h => decide (¬ N (64 * a + jp_t h) = -1)) v3 64 0 0 (fun j _ hj => by rw [jp_ro_h N a (by omega)])]
        have Yr : ∀ post, wY_nameWrong_19 post (nI a) (nI i) (jp_ov (jp_kth (fun h => decide (¬ N (64 * a + jp_t h) = -1)) v3 64 0 0) (fun h => nI (jp_t h))) 0 0 d yh yt K L P N B V M ok ol op on ob ov om yc yg F yq U T → wpY_nameWrong post (0, 0, d, yh, yt, K, L, P, N, B, V, M, ok, ol, op, on, ob, ov, om, yc, yg, F, yq, U, T) (nI a) v3 (nI i) := by
          intro post h
          unfold wpY_nameWrong
          exact jy_is (fun _ _ _ _ => br_f (by decide) (jy_nameOf hN ha h)) (fun hh => absurd ⟨a, ha, rfl, hka⟩ hh)
        cases hkth : jp_kth (fun h => decide (¬ N (64 * a + jp_t h) = -1)) v3 64 0 0 with
        | none =>
          rw [hkth] at Yr
          exact br_t rfl (no _ (Y _ (Yr _ (br_t (by decide) (yno _ ⟨rfl, I'⟩)))))
        | some h =>
          rw [hkth, jp_ov_some] at Yr
          rw [jp_ov_some]
          have hps := jp_kth_some _ _ _ _ _ _ hkth
          have hne := hps.2.2
          simp only [decide_eq_true_eq] at hne
          have ht := jp_t_lt h
          refine br_f (jv_m1n _ (by omega)) ⟨vp_in_nI (by omega) (by omega), ?_⟩
          rw [nI_clamp (by omega)]
          refine nm_e (jx_dam1 (Y _ (Yr _ (br_f (nI_pos (by omega)) (jy_in (M := 15) (by omega) (fun _ _ _ => br_f (by decide) ?_) (fun hh => absurd ⟨i, hi, rfl⟩ hh))))))
          rw [jv_e64]
          refine ⟨vp_in_nI (by omega) (by omega), ?_⟩
          rw [nI_clamp (by omega)]
          have hnew := jp_name_I0 (i := i) hI2 ha hka ht hi hne
          have e1 : upd (jp_ro N) (64 * a + h) (nI i) = jp_ro (upd N (64 * a + jp_t h) (nI i)) := by
            rw [jp_ro_upd N a ht, jp_st (by omega)]
          rw [e1]
          exact nm_e (jy_dend hZ0 hnew.1 ⟨rfl, new _ _ _ _ _ _ _ hnew⟩)
      · subst e
        unfold wpY_nameWrong
        exact jy_is (fun _ _ _ _ => br_f (by decide) (jy_nameOf hN ha (nn _ hno))) (fun _ => br_t rfl (nn _ hno))
      · unfold wpY_nameWrong
        exact jy_is (fun a ha e hka => absurd ⟨a, ha, e, hka⟩ hno) (fun _ => br_t rfl (br_t (by decide) (yno _ ⟨rfl, I'⟩)))
    · -- an inode
      subst e
      unfold wpX_damageInode
      have Y : ∀ post : Int32 → SY → Prop, wpY_lose (fun r u => (r = 0 → jy_D post 0 u) ∧ (¬ r = 0 → jy_D post 1 u)) (0, 0, d, yh, yt, K, L, P, N, B, V, M, ok, ol, op, on, ob, ov, om, yc, yg, F, yq, U, T) v2 → wpY_damage post (0, 0, d, yh, yt, K, L, P, N, B, V, M, ok, ol, op, on, ob, ov, om, yc, yg, F, yq, U, T) 4 v2 v3 v4 := fun post h => br_t (by decide) (br_f (by decide) (br_f (by decide) (br_f (by decide) (br_f (by decide) (br_t rfl h)))))
      have Yn : (¬ ∃ j, j < 16 ∧ v2 = nI j ∧ j ≠ 0) → wpY_damage (fun r' v' => r' = 0 ∧ i_Rel (k + 5) (0, 0, d, xw, K, L, jp_pi K P, jp_ro N, B, M, V, bk, bl, bp, bn, bb, bm, bh, F, T, xq, U) v') (0, 0, d, yh, yt, K, L, P, N, B, V, M, ok, ol, op, on, ob, ov, om, yc, yg, F, yq, U, T) 4 v2 v3 v4 := by
        intro hno
        refine Y _ ?_
        unfold wpY_lose
        refine br_c (fun _ => br_t rfl (br_t rfl (yno _ ⟨rfl, I'⟩))) (fun q => br_c (fun _ => br_t rfl (br_t rfl (yno _ ⟨rfl, I'⟩))) (fun q2 => absurd ?_ hno))
        have q0 : ¬ v2 < 0 := fun z => q (Int32.lt_trans z (by decide))
        obtain ⟨j, hj, rfl⟩ := nI_of q0
        have a1 : 1 ≤ j := Nat.le_of_not_lt (fun z => q (nI_lt (b := 1) z (by omega)))
        have a2 : j ≤ 15 := Nat.le_of_not_lt (fun z => q2 (nI_lt (a := 15) z hj))
        exact ⟨j, by omega, rfl, by omega⟩
      refine jx_isInode (fun i hi e => br_f (by decide) ?_) (fun hno => br_t rfl (no _ (Yn (fun ⟨j, hj, e, _⟩ => hno ⟨j, hj, e⟩))))
      subst e
      have hv : vp_in (nI i) 16 := vp_in_nI hi (by omega)
      refine pk_eq i 0 (fun e0 => no _ (Yn ?_)) (fun e0 => ⟨hv, ?_⟩)
      · rintro ⟨j, hj, e, e1⟩
        exact e1 ((jv_inj e (by omega) (by omega)) ▸ e0)
      · rw [nI_clamp (n := i) (by omega)]
        refine br_c (fun k0 => no _ (Y _ ?_)) (fun k0 => jx_makeFree hi (jx_dam1 (Y _ (jy_lose hi e0 k0 (br_f (by decide) ?_)))))
        · unfold wpY_lose
          refine br_f (nI_nlt (b := 1) (by omega) (by omega)) (br_f (nI_nlt (a := 15) (by omega) (by omega)) (br_f (by decide) ⟨hv, ?_⟩))
          rw [nI_clamp (n := i) (by omega)]
          exact br_t k0 (br_t rfl (yno _ ⟨rfl, I'⟩))
        · have hnew := jp_gone_I0 (M' := M) hI2 hi e0 (fun j hj => (hZ.2.2.2 j hj).2)
          rw [jp_pi_gone, ← jp_ro_fl]
          exact jy_dend hZ0 hnew.1 ⟨rfl, new _ _ _ _ _ _ _ hnew⟩
  · refine br_f (nI_nle h (by omega)) ⟨rfl, I'⟩
end
section
/-! mending: going through the entries, as a function of parents, entries, counts, met, the row and its length -/
abbrev jp_BS : Type := (Nat → Int32) × (Nat → Int32) × (Nat → Int32) × (Nat → Int32) × (Nat → Int32) × Nat
def jp_meet (K : Nat → Int32) (v d : Nat) : jp_BS → jp_BS
  | (P, N, F, T, R, t) => if K v = 2 then (upd P v (nI d), N, F, upd T v 1, upd R t (nI v), t + 1) else (P, N, F, upd T v 1, R, t)
theorem jp_meet_2 {K P N F T R : Nat → Int32} {v d t : Nat} (h : K v = 2) : jp_meet K v d (P, N, F, T, R, t) = (upd P v (nI d), N, F, upd T v 1, upd R t (nI v), t + 1) := if_pos h
theorem jp_meet_1 {K P N F T R : Nat → Int32} {v d t : Nat} (h : ¬ K v = 2) : jp_meet K v d (P, N, F, T, R, t) = (P, N, F, upd T v 1, R, t) := if_neg h
def jp_bad (K T : Nat → Int32) (v : Nat) : Prop := v = 0 ∨ K v = 0 ∨ (K v = 2 ∧ ¬ T v = 0)
theorem jp_badD (K T : Nat → Int32) (v : Nat) : jp_bad K T v ∨ ¬ jp_bad K T v := Classical.em _
noncomputable def jp_look (K : Nat → Int32) (d n : Nat) : jp_BS → jp_BS
  | (P, N, F, T, R, t) => if N (64 * d + n) = -1 then (P, N, F, T, R, t) else
      @ite _ (jp_bad K T (N (64 * d + n)).toNatClampNeg) (Classical.propDecidable _) (P, upd N (64 * d + n) (-1), upd F 0 (F 0 + 1), T, R, t) (jp_meet K (N (64 * d + n)).toNatClampNeg d (P, N, F, T, R, t))
theorem jp_look_0 {K P N F T R : Nat → Int32} {d n t : Nat} (h : N (64 * d + n) = -1) : jp_look K d n (P, N, F, T, R, t) = (P, N, F, T, R, t) := if_pos h
theorem jp_look_1 {K P N F T R : Nat → Int32} {d n t v : Nat} (hv : v < 16) (h : N (64 * d + n) = nI v) (hb : jp_bad K T v) : jp_look K d n (P, N, F, T, R, t) = (P, upd N (64 * d + n) (-1), upd F 0 (F 0 + 1), T, R, t) := by
  unfold jp_look
  dsimp only
  rw [if_neg (by rw [h]; exact jv_m1n v (by omega)), h, nI_clamp (by omega)]
  exact if_pos hb
theorem jp_look_2 {K P N F T R : Nat → Int32} {d n t v : Nat} (hv : v < 16) (h : N (64 * d + n) = nI v) (hb : ¬ jp_bad K T v) : jp_look K d n (P, N, F, T, R, t) = jp_meet K v d (P, N, F, T, R, t) := by
  unfold jp_look
  dsimp only
  rw [if_neg (by rw [h]; exact jv_m1n v (by omega)), h, nI_clamp (by omega)]
  exact if_neg hb
noncomputable def jp_gt (K : Nat → Int32) (d : Nat) (b : jp_BS) : jp_BS := jp_fd (fun h => jp_look K d (jp_t h)) 64 b
def jp_R (b : jp_BS) : Nat → Int32 := b.2.2.2.2.1
def jp_tl (b : jp_BS) : Nat := b.2.2.2.2.2
noncomputable def jp_vis (K : Nat → Int32) : Nat → Nat → jp_BS → jp_BS
  | 0 => fun _ b => b
  | m + 1 => fun h b => if h < jp_tl b then jp_vis K m (h + 1) (jp_gt K (jp_R b h).toNatClampNeg b) else b
/-- what is known while the entries are gone through: D the cells that were looked at, h the head of the row, c the directory under way (16: none) -/
def jp_cD (D : Nat → Bool) (N : Nat → Int32) (v : Nat) : Nat := jp_cn (fun s => D s && decide (N s = nI v)) 1024
def jp_MD (K T : Nat → Int32) (v : Nat) : Prop := K v = 2 ∧ ¬ T v = 0
def jp_J (K : Nat → Int32) (D : Nat → Bool) (h c : Nat) : jp_BS → Prop
  | (P, N, _, T, R, t) => (h ≤ t ∧ t = jp_cn (fun v => decide (K v = 2 ∧ ¬ T v = 0)) 16) ∧
    (∀ j, j < t → ∃ v, v < 16 ∧ R j = nI v ∧ jp_MD K T v) ∧
    (∀ j v, h ≤ j → j < t → v < 16 → R j = nI v → ∀ n, n < 64 → D (64 * v + n) = false) ∧
    (∀ i j, h ≤ i → i < j → j < t → ¬ R i = R j) ∧
    (∀ v, v < 16 → jp_MD K T v → (∃ j, h ≤ j ∧ j < t ∧ R j = nI v) ∨ v = c ∨ ∀ n, n < 64 → D (64 * v + n) = true) ∧
    (∀ v, v < 16 → ¬ jp_MD K T v → ∀ n, n < 64 → D (64 * v + n) = false) ∧
    (∀ s, s < 1024 → D s = true → N s = -1 ∨ ∃ v, v < 16 ∧ v ≠ 0 ∧ N s = nI v ∧ ¬ K v = 0 ∧ ¬ T v = 0) ∧
    (∀ v, v < 16 → v ≠ 0 → jp_MD K T v → jp_cD D N v = 1) ∧
    (∃ rk : Nat → Nat, (∀ v, v < 16 → jp_MD K T v → rk v < t) ∧ ∀ v, v < 16 → v ≠ 0 → jp_MD K T v → ∃ p q, p < 16 ∧ q < 64 ∧ P v = nI p ∧ N (64 * p + q) = nI v ∧ D (64 * p + q) = true ∧ jp_MD K T p ∧ rk p < rk v)
/-- the volume's own invariant while it is mended -/
def jp_JI (K P N : Nat → Int32) : Prop := (∀ i, 16 ≤ i → P i = 0) ∧ (∀ i, 1024 ≤ i → N i = 0) ∧ K 0 = 2 ∧ jp_PR P ∧ P 0 = 0 ∧ jp_NR N ∧ jp_NE K N ∧ jp_EN N
theorem jp_J_le {K P N F T R : Nat → Int32} {D : Nat → Bool} {h c t : Nat} (J : jp_J K D h c (P, N, F, T, R, t)) : t ≤ 16 := by
  rw [J.1.2]; exact jp_cn_le _ _
theorem jp_cD_0 {K T N : Nat → Int32} {D : Nat → Bool} {v : Nat} (hv : v < 16) (hD : ∀ s, s < 1024 → D s = true → N s = -1 ∨ ∃ v, v < 16 ∧ v ≠ 0 ∧ N s = nI v ∧ ¬ K v = 0 ∧ ¬ T v = 0) (hT : v = 0 ∨ K v = 0 ∨ T v = 0) : jp_cD D N v = 0 := by
  apply jp_cn_zero
  intro s hs
  cases hd : D s
  · rfl
  · rw [Bool.true_and]
    apply decide_eq_false
    intro e
    rcases hD s hs hd with z | ⟨w, hw, w0, z, k0, t0⟩
    · rw [z] at e; exact jv_m1n v (by omega) e.symm
    · rw [z] at e
      rw [jv_inj e (by omega) (by omega)] at w0 k0 t0
      rcases hT with q | q | q
      · exact w0 q
      · exact k0 q
      · exact t0 q
def jp_D1 (D : Nat → Bool) (s0 : Nat) : Nat → Bool := fun s => D s || decide (s = s0)
theorem jp_D1_s {D : Nat → Bool} {s0 : Nat} : jp_D1 D s0 s0 = true := by unfold jp_D1; simp
theorem jp_D1_n {D : Nat → Bool} {s0 s : Nat} (h : s ≠ s0) : jp_D1 D s0 s = D s := by unfold jp_D1; simp [h]
theorem jp_D1_t {D : Nat → Bool} {s0 s : Nat} (h : D s = true) : jp_D1 D s0 s = true := by unfold jp_D1; simp [h]
/-- a cell that is looked at and holds nothing behind that -/
theorem jp_J_skip {K P N F F' T R : Nat → Int32} {D : Nat → Bool} {h c t d n : Nat} (J : jp_J K D h c (P, N, F, T, R, t)) (hd : d < 16) (hn : n < 64) (hm : jp_MD K T d) (hD : D (64 * d + n) = false) (hp : ∀ j, h ≤ j → j < t → ¬ R j = nI d) :
    jp_J K (jp_D1 D (64 * d + n)) h c (P, upd N (64 * d + n) (-1), F', T, R, t) := by
  obtain ⟨j1, j2, j3, j4, j5, j6, j7, j8, rk, j9, j10⟩ := J
  have row : ∀ v q, v < 16 → q < 64 → v ≠ d → jp_D1 D (64 * d + n) (64 * v + q) = D (64 * v + q) := fun v q hv hq hne => jp_D1_n (by omega)
  refine ⟨j1, j2, fun j v h1 h2 hv e q hq => ?_, j4, fun v hv hmv => ?_, fun v hv hmv q hq => ?_, fun s hs e => ?_, fun v hv v0 hmv => ?_, rk, j9, fun v hv v0 hmv => ?_⟩
  · rw [row v q hv hq (fun z => hp j h1 h2 (by rw [e, z]))]; exact j3 j v h1 h2 hv e q hq
  · rcases j5 v hv hmv with z | z | z
    · exact Or.inl z
    · exact Or.inr (Or.inl z)
    · exact Or.inr (Or.inr (fun q hq => jp_D1_t (z q hq)))
  · rw [row v q hv hq (fun z => hmv (by rw [z]; exact hm))]; exact j6 v hv hmv q hq
  · by_cases es : s = 64 * d + n
    · rw [es, pk_us]; exact Or.inl rfl
    · rw [pk_un es]
      rw [jp_D1_n es] at e
      exact j7 s hs e
  · rw [← j8 v hv v0 hmv]
    apply jp_cn_congr
    intro s hs
    by_cases es : s = 64 * d + n
    · rw [es, pk_us, hD, Bool.false_and, decide_eq_false (fun z => jv_m1n v (by omega) z.symm), Bool.and_false]
    · rw [jp_D1_n es, pk_un es]
  · obtain ⟨p, q, h1, h2, h3, h4, h5, h6, h7⟩ := j10 v hv v0 hmv
    have ne : 64 * p + q ≠ 64 * d + n := fun z => by rw [z, hD] at h5; exact Bool.noConfusion h5
    exact ⟨p, q, h1, h2, h3, by rw [pk_un ne]; exact h4, jp_D1_t h5, h6, h7⟩
/-- an inode is met by the cell -/
theorem jp_J_meet {K P N F T R : Nat → Int32} {D : Nat → Bool} {h c t d n v : Nat} (J : jp_J K D h c (P, N, F, T, R, t)) (hd : d < 16) (hn : n < 64) (hm : jp_MD K T d) (hD : D (64 * d + n) = false ∨ N (64 * d + n) = -1) (hp : ∀ j, h ≤ j → j < t → ¬ R j = nI d)
    (hv : v < 16) (v0 : v ≠ 0) (hk : ¬ K v = 0) (hnm : ¬ jp_MD K T v) : jp_J K (jp_D1 D (64 * d + n)) h c (jp_meet K v d (P, upd N (64 * d + n) (nI v), F, T, R, t)) := by
  obtain ⟨j1, j2, j3, j4, j5, j6, j7, j8, rk, j9, j10⟩ := J
  have hvd : v ≠ d := fun z => hnm (by rw [z]; exact hm)
  have row : ∀ w q, w < 16 → q < 64 → w ≠ d → jp_D1 D (64 * d + n) (64 * w + q) = D (64 * w + q) := fun w q hw hq hne => jp_D1_n (by omega)
  have tT : ∀ w, ¬ T w = 0 → ¬ upd T v 1 w = 0 := by
    intro w hw
    by_cases e : w = v
    · rw [e, pk_us]; decide
    · rw [pk_un e]; exact hw
  have seen : ∀ s, s < 1024 → jp_D1 D (64 * d + n) s = true → upd N (64 * d + n) (nI v) s = -1 ∨ ∃ w, w < 16 ∧ w ≠ 0 ∧ upd N (64 * d + n) (nI v) s = nI w ∧ ¬ K w = 0 ∧ ¬ upd T v 1 w = 0 := by
    intro s hs e
    by_cases es : s = 64 * d + n
    · rw [es, pk_us]; exact Or.inr ⟨v, hv, v0, rfl, hk, by rw [pk_us]; decide⟩
    · rw [pk_un es]
      rw [jp_D1_n es] at e
      rcases j7 s hs e with z | ⟨w, hw, w0, z, k0, t0⟩
      · exact Or.inl z
      · exact Or.inr ⟨w, hw, w0, z, k0, tT w t0⟩
  have cnt : ∀ w, w < 16 → w ≠ v → jp_cD (jp_D1 D (64 * d + n)) (upd N (64 * d + n) (nI v)) w = jp_cD D N w := by
    intro w hw e
    apply jp_cn_congr
    intro s hs
    by_cases es : s = 64 * d + n
    · rw [es, pk_us, decide_eq_false (fun z => e (jv_inj z.symm (by omega) (by omega))), Bool.and_false]
      rcases hD with z | z
      · rw [z]; rfl
      · rw [z, decide_eq_false (fun z => jv_m1n w (by omega) z.symm), Bool.and_false]
    · rw [jp_D1_n es, pk_un es]
  have cell : ∀ w p q, w < 16 → N (64 * p + q) = nI w → D (64 * p + q) = true → upd N (64 * d + n) (nI v) (64 * p + q) = nI w := by
    intro w p q hw e1 e2
    have ne : 64 * p + q ≠ 64 * d + n := fun z => by
      rcases hD with y | y
      · rw [z, y] at e2; exact Bool.noConfusion e2
      · rw [z, y] at e1; exact jv_m1n w (by omega) e1.symm
    rw [pk_un ne]; exact e1
  by_cases k2 : K v = 2
  · rw [jp_meet_2 k2]
    have hT0 : T v = 0 := Classical.byContradiction fun z => hnm ⟨k2, z⟩
    have back : ∀ w, w ≠ v → jp_MD K (upd T v 1) w → jp_MD K T w := fun w e ⟨a, b⟩ => ⟨a, by rw [pk_un e] at b; exact b⟩
    have forth : ∀ w, jp_MD K T w → jp_MD K (upd T v 1) w := fun w ⟨a, b⟩ => ⟨a, tT w b⟩
    have inR : ∀ j, j < t → upd R t (nI v) j = R j := fun j hj => pk_un (by omega)
    refine ⟨⟨by omega, ?_⟩, fun j hj => ?_, fun j w h1 h2 hw e q hq => ?_, fun i j h1 h2 h3 => ?_, fun w hw hmw => ?_, fun w hw hmw q hq => ?_, seen, fun w hw w0 hmw => ?_, fun w => if w = v then t else rk w, fun w hw hmw => ?_, fun w hw w0 hmw => ?_⟩
    · have := jp_cn_upd (f := fun w => decide (K w = 2 ∧ ¬ upd T v 1 w = 0)) (g := fun w => decide (K w = 2 ∧ ¬ T w = 0)) hv (fun j hj hne => by rw [pk_un hne])
      rw [pk_us, jp_t0 (p := K v = 2 ∧ ¬ T v = 0) (fun z => z.2 hT0), jp_t1 (p := K v = 2 ∧ ¬ (1 : Int32) = 0) ⟨k2, by decide⟩] at this
      have := j1.2
      omega
    · by_cases e : j = t
      · rw [e, pk_us]; exact ⟨v, hv, rfl, k2, by rw [pk_us]; decide⟩
      · rw [pk_un e]
        obtain ⟨w, hw, e1, e2⟩ := j2 j (by omega)
        exact ⟨w, hw, e1, forth w e2⟩
    · by_cases e1 : j = t
      · rw [e1, pk_us] at e
        have := jv_inj e (by omega) (by omega)
        rw [← this, row v q hv hq hvd]
        exact j6 v hv hnm q hq
      · rw [pk_un e1] at e
        rw [row w q hw hq (fun z => hp j h1 (by omega) (by rw [e, z]))]
        exact j3 j w h1 (by omega) hw e q hq
    · rw [inR i (by omega)]
      by_cases e : j = t
      · rw [e, pk_us]
        obtain ⟨w, hw, e1, e2⟩ := j2 i (by omega)
        intro z
        rw [e1] at z
        exact hnm (by rw [← jv_inj z (by omega) (by omega)]; exact e2)
      · rw [pk_un e]; exact j4 i j h1 h2 (by omega)
    · by_cases e : w = v
      · exact Or.inl ⟨t, by omega, by omega, by rw [pk_us, e]⟩
      · rcases j5 w hw (back w e hmw) with ⟨j, a1, a2, a3⟩ | z | z
        · exact Or.inl ⟨j, a1, by omega, by rw [pk_un (by omega)]; exact a3⟩
        · exact Or.inr (Or.inl z)
        · exact Or.inr (Or.inr (fun q hq => jp_D1_t (z q hq)))
    · have hmw' : ¬ jp_MD K T w := fun z => hmw (forth w z)
      rw [row w q hw hq (fun z => hmw' (by rw [z]; exact hm))]
      exact j6 w hw hmw' q hq
    · by_cases e : w = v
      · subst e
        have z0 := jp_cD_0 hw j7 (Or.inr (Or.inr hT0))
        have := jp_cn_upd (f := fun s => jp_D1 D (64 * d + n) s && decide (upd N (64 * d + n) (nI w) s = nI w)) (g := fun s => D s && decide (N s = nI w)) (n := 1024) (i := 64 * d + n) (by omega) (fun j hj hne => by rw [jp_D1_n hne, pk_un hne])
        rw [jp_D1_s, pk_us, Bool.true_and, jp_t1 rfl] at this
        have e2 : (D (64 * d + n) && decide (N (64 * d + n) = nI w)) = false := by
          rcases hD with y | y
          · rw [y]; rfl
          · rw [y, decide_eq_false (fun z => jv_m1n w (by omega) z.symm), Bool.and_false]
        rw [e2] at this
        unfold jp_cD at z0 ⊢
        simp at this
        omega
      · rw [cnt w hw e]; exact j8 w hw w0 (back w e hmw)
    · dsimp only
      by_cases e : w = v
      · rw [if_pos e]; omega
      · rw [if_neg e]; have := j9 w hw (back w e hmw); omega
    · by_cases e : w = v
      · subst e
        refine ⟨d, n, hd, hn, pk_us, pk_us, jp_D1_s, forth d hm, ?_⟩
        dsimp only
        rw [if_pos rfl, if_neg (fun z => hvd z.symm)]
        exact j9 d hd hm
      · obtain ⟨p, q, h1, h2, h3, h4, h5, h6, h7⟩ := j10 w hw w0 (back w e hmw)
        refine ⟨p, q, h1, h2, by rw [pk_un e]; exact h3, cell w p q hw h4 h5, jp_D1_t h5, forth p h6, ?_⟩
        dsimp only
        rw [if_neg e, if_neg (fun z => hnm (by rw [← z]; exact h6))]
        exact h7
  · rw [jp_meet_1 k2]
    have same : ∀ w, jp_MD K (upd T v 1) w ↔ jp_MD K T w := by
      intro w
      by_cases e : w = v
      · subst e; exact ⟨fun z => absurd z.1 k2, fun z => absurd z.1 k2⟩
      · unfold jp_MD; rw [pk_un e]
    refine ⟨⟨j1.1, ?_⟩, fun j hj => ?_, fun j w h1 h2 hw e q hq => ?_, j4, fun w hw hmw => ?_, fun w hw hmw q hq => ?_, seen, fun w hw w0 hmw => ?_, rk, fun w hw hmw => j9 w hw ((same w).mp hmw), fun w hw w0 hmw => ?_⟩
    · rw [j1.2]
      apply jp_cn_congr
      intro w hw
      exact decide_eq_decide.mpr (same w).symm
    · obtain ⟨w, hw, e1, e2⟩ := j2 j hj
      exact ⟨w, hw, e1, (same w).mpr e2⟩
    · rw [row w q hw hq (fun z => hp j h1 h2 (by rw [e, z]))]; exact j3 j w h1 h2 hw e q hq
    · rcases j5 w hw ((same w).mp hmw) with z | z | z
      · exact Or.inl z
      · exact Or.inr (Or.inl z)
      · exact Or.inr (Or.inr (fun q hq => jp_D1_t (z q hq)))
    · have hmw' : ¬ jp_MD K T w := fun z => hmw ((same w).mpr z)
      rw [row w q hw hq (fun z => hmw' (by rw [z]; exact hm))]
      exact j6 w hw hmw' q hq
    · have e : w ≠ v := fun z => k2 (by rw [← z]; exact hmw.1)
      rw [cnt w hw e]; exact j8 w hw w0 ((same w).mp hmw)
    · obtain ⟨p, q, h1, h2, h3, h4, h5, h6, h7⟩ := j10 w hw w0 ((same w).mp hmw)
      exact ⟨p, q, h1, h2, h3, cell w p q hw h4 h5, jp_D1_t h5, (same p).mpr h6, h7⟩
theorem jp_JI_skip {K P N : Nat → Int32} {d n : Nat} (h : jp_JI K P N) (hd : d < 16) (hn : n < 64) : jp_JI K P (upd N (64 * d + n) (-1)) := by
  obtain ⟨a, b, k0, c, p0, e, f, g⟩ := h
  refine ⟨a, fun i hi => by rw [pk_un (by omega)]; exact b i hi, k0, c, p0, jp_NR_upd e (Or.inl rfl), fun i hi hk q hq => ?_, fun i hi => Nat.le_trans (jp_en_dec hn) (g i hi)⟩
  by_cases z : 64 * i + q = 64 * d + n
  · rw [z, pk_us]
  · rw [pk_un z]; exact f i hi hk q hq
theorem jp_JI_par {K P N : Nat → Int32} {d v : Nat} (h : jp_JI K P N) (hd : d < 16) (hv : v < 16) (v0 : v ≠ 0) : jp_JI K (upd P v (nI d)) N := by
  obtain ⟨a, b, k0, c, p0, r⟩ := h
  refine ⟨fun i hi => by rw [pk_un (by omega)]; exact a i hi, b, k0, fun i hi => ?_, by rw [pk_un (fun z => v0 z.symm)]; exact p0, r⟩
  by_cases e : i = v
  · rw [e, pk_us]; exact ⟨d, hd, rfl⟩
  · rw [pk_un e]; exact c i hi
def jp_Dd (D : Nat → Bool) (d i : Nat) : Nat → Bool := fun s => D s || (decide (s / 64 = d) && decide (jp_s (s % 64) < i))
theorem jp_Dd_0 (D : Nat → Bool) (d : Nat) : jp_Dd D d 0 = D := by
  funext s; unfold jp_Dd; simp
theorem jp_Dd_s (D : Nat → Bool) (d i : Nat) (hi : i < 64) : jp_D1 (jp_Dd D d i) (64 * d + jp_t i) = jp_Dd D d (i + 1) := by
  funext s
  unfold jp_D1 jp_Dd
  have ht := jp_t_lt i
  by_cases e : s = 64 * d + jp_t i
  · have e1 : s / 64 = d := by omega
    have e2 : s % 64 = jp_t i := by omega
    rw [e1, e2, jp_st hi]
    simp [e]
  · have : decide (jp_s (s % 64) < i + 1) = decide (jp_s (s % 64) < i) ∨ ¬ s / 64 = d := by
      by_cases e1 : s / 64 = d
      · left
        have : jp_s (s % 64) ≠ i := fun z => by
          have := jp_ts (n := s % 64) (by omega)
          rw [z] at this
          omega
        apply decide_eq_decide.mpr
        omega
      · exact Or.inr e1
    rcases this with z | z
    · rw [z]; simp [e]
    · simp [z, e]
theorem jp_Dd_f {D : Nat → Bool} {d i : Nat} (hi : i < 64) (h : ∀ n, n < 64 → D (64 * d + n) = false) : jp_Dd D d i (64 * d + jp_t i) = false := by
  have ht := jp_t_lt i
  unfold jp_Dd
  rw [h _ ht, show (64 * d + jp_t i) % 64 = jp_t i from by omega, jp_st hi]
  simp
/-- while directory d is gone through: i of its cells were looked at -/
def jp_G (K : Nat → Int32) (D : Nat → Bool) (h d i : Nat) (T0 : Nat → Int32) : jp_BS → Prop
  | (P, N, F, T, R, t) => jp_J K (jp_Dd D d i) h d (P, N, F, T, R, t) ∧ jp_JI K P N ∧ jp_MD K T d ∧ (∀ j, h ≤ j → j < t → ¬ R j = nI d) ∧ (∀ w, ¬ T0 w = 0 → ¬ T w = 0)
theorem jp_nbad {K T : Nat → Int32} {v : Nat} (h : ¬ jp_bad K T v) : v ≠ 0 ∧ ¬ K v = 0 ∧ ¬ jp_MD K T v :=
  ⟨fun z => h (Or.inl z), fun z => h (Or.inr (Or.inl z)), fun z => h (Or.inr (Or.inr z))⟩
theorem jp_G_step {K T0 : Nat → Int32} {D : Nat → Bool} {h d i : Nat} {b : jp_BS} (hd : d < 16) (hi : i < 64) (hrow : ∀ n, n < 64 → D (64 * d + n) = false) (G : jp_G K D h d i T0 b) : jp_G K D h d (i + 1) T0 (jp_look K d (jp_t i) b) := by
  obtain ⟨P, N, F, T, R, t⟩ := b
  obtain ⟨J, I, hm, hp, hmono⟩ := G
  have ht := jp_t_lt i
  have hD := jp_Dd_f hi hrow
  rcases I.2.2.2.2.2.1 (64 * d + jp_t i) (by omega) with z | ⟨v, hv, z⟩
  · rw [jp_look_0 z]
    have J2 := jp_J_skip (F' := F) J hd ht hm hD hp
    rw [jp_Dd_s D d i hi, jp_updI z] at J2
    exact ⟨J2, I, hm, hp, hmono⟩
  · rcases jp_badD K T v with hb | hb
    · rw [jp_look_1 hv z hb]
      have J2 := jp_J_skip (F' := upd F 0 (F 0 + 1)) J hd ht hm hD hp
      rw [jp_Dd_s D d i hi] at J2
      exact ⟨J2, jp_JI_skip I hd ht, hm, hp, hmono⟩
    · rw [jp_look_2 hv z hb]
      obtain ⟨v0, hk, hnm⟩ := jp_nbad hb
      have J2 := jp_J_meet J hd ht hm (Or.inl hD) hp hv v0 hk hnm
      rw [jp_Dd_s D d i hi, jp_updI z] at J2
      have hT : ∀ w, ¬ T w = 0 → ¬ upd T v 1 w = 0 := by
        intro w hw
        by_cases e : w = v
        · rw [e, pk_us]; decide
        · rw [pk_un e]; exact hw
      have hvd : v ≠ d := fun z => hnm (by rw [z]; exact hm)
      by_cases k2 : K v = 2
      · rw [jp_meet_2 k2] at J2 ⊢
        refine ⟨J2, jp_JI_par I hd hv v0, ⟨hm.1, hT d hm.2⟩, fun j h1 h2 => ?_, fun w hw => hT w (hmono w hw)⟩
        by_cases e : j = t
        · rw [e, pk_us]; exact fun q => hvd (jv_inj q (by omega) (by omega))
        · rw [pk_un e]; exact hp j h1 (by omega)
      · rw [jp_meet_1 k2] at J2 ⊢
        exact ⟨J2, I, ⟨hm.1, hT d hm.2⟩, hp, fun w hw => hT w (hmono w hw)⟩
theorem jp_G_0 {K P N F T R : Nat → Int32} {D : Nat → Bool} {h d t : Nat} (J : jp_J K D h 16 (P, N, F, T, R, t)) (I : jp_JI K P N) (hd : d < 16) (hh : h < t) (e : R h = nI d) : (∀ n, n < 64 → D (64 * d + n) = false) ∧ jp_G K D (h + 1) d 0 T (P, N, F, T, R, t) := by
  obtain ⟨j1, j2, j3, j4, j5, j6, j7, j8, j9⟩ := J
  refine ⟨j3 h d (Nat.le_refl h) hh hd e, ?_, I, ?_, fun j h1 h2 q => j4 h j (Nat.le_refl h) (by omega) h2 (by rw [e, q]), fun w hw => hw⟩
  · rw [jp_Dd_0]
    refine ⟨⟨by omega, j1.2⟩, j2, fun j v h1 h2 => j3 j v (by omega) h2, fun i j h1 h2 h3 => j4 i j (by omega) h2 h3, fun v hv hmv => ?_, j6, j7, j8, j9⟩
    rcases j5 v hv hmv with ⟨j, a1, a2, a3⟩ | z | z
    · by_cases ej : j = h
      · right; left
        rw [ej, e] at a3
        exact (jv_inj a3 (by omega) (by omega)).symm
      · exact Or.inl ⟨j, by omega, a2, a3⟩
    · omega
    · exact Or.inr (Or.inr z)
  · obtain ⟨v, hv, e1, e2⟩ := j2 h hh
    rw [e] at e1
    rw [jv_inj e1 (by omega) (by omega)]; exact e2
theorem jp_G_end {K T0 : Nat → Int32} {D : Nat → Bool} {h d : Nat} {P N F T R : Nat → Int32} {t : Nat} (hd : d < 16) (G : jp_G K D h d 64 T0 (P, N, F, T, R, t)) : jp_J K (jp_Dd D d 64) h 16 (P, N, F, T, R, t) ∧ jp_JI K P N ∧ (∀ w, ¬ T0 w = 0 → ¬ T w = 0) := by
  obtain ⟨⟨j1, j2, j3, j4, j5, j6, j7, j8, j9⟩, I, hm, hp, hmono⟩ := G
  refine ⟨⟨j1, j2, j3, j4, fun v hv hmv => ?_, j6, j7, j8, j9⟩, I, hmono⟩
  rcases j5 v hv hmv with z | z | z
  · exact Or.inl z
  · subst z
    refine Or.inr (Or.inr (fun n hn => ?_))
    unfold jp_Dd
    rw [show (64 * v + n) / 64 = v from by omega]
    simp
    exact Or.inr (jp_s_lt _)
  · exact Or.inr (Or.inr z)
end
section
theorem jp_G_e {K T0 : Nat → Int32} {D : Nat → Bool} {h d : Nat} {b : jp_BS} (hd : d < 16) (hrow : ∀ n, n < 64 → D (64 * d + n) = false) (G : jp_G K D h d 0 T0 b) (e : Nat) (he : e ≤ 64) : jp_G K D h d e T0 (jp_fd (fun h => jp_look K d (jp_t h)) e b) := by
  induction e with
  | zero => exact G
  | succ e ih => exact jp_G_step hd (by omega) hrow (ih (by omega))
theorem jp_G_n {K T0 : Nat → Int32} {D : Nat → Bool} {h d : Nat} {b b' : jp_BS} (hd : d < 16) (hrow : ∀ n, n < 64 → D (64 * d + n) = false) (G : jp_G K D h d 0 T0 b) (n : Nat) (hn : n = 64) (e : jp_fd (fun h => jp_look K d (jp_t h)) n b = b') : jp_G K D h d 64 T0 b' := by
  have G2 := jp_G_e hd hrow G n (by omega)
  rw [e, hn] at G2
  exact G2
theorem jp_G_gt {K T0 : Nat → Int32} {D : Nat → Bool} {h d : Nat} {b b' : jp_BS} (hd : d < 16) (hrow : ∀ n, n < 64 → D (64 * d + n) = false) (G : jp_G K D h d 0 T0 b) (e : jp_gt K d b = b') : jp_G K D h d 64 T0 b' := by
  unfold jp_gt at e
  exact jp_G_n hd hrow G 64 rfl e
/-- the whole of a visit -/
def jp_E (K : Nat → Int32) (T0 : Nat → Int32) : jp_BS → Prop
  | (P, N, F, T, R, t) => (∃ D, jp_J K D t 16 (P, N, F, T, R, t)) ∧ jp_JI K P N ∧ (∀ w, ¬ T0 w = 0 → ¬ T w = 0)
theorem jp_vis_E {K : Nat → Int32} : ∀ (m h : Nat) (T0 : Nat → Int32) (D : Nat → Bool) (P N F T R : Nat → Int32) (t : Nat) (b' : jp_BS), h + m = 16 → jp_J K D h 16 (P, N, F, T, R, t) → jp_JI K P N → (∀ w, ¬ T0 w = 0 → ¬ T w = 0) → jp_vis K m h (P, N, F, T, R, t) = b' → jp_E K T0 b' := by
  intro m
  induction m with
  | zero =>
    intro h T0 D P N F T R t b' hm J I hT e
    have h1 := jp_J_le J
    have h2 := J.1.1
    have : h = t := by omega
    subst this
    rw [← e]
    exact ⟨⟨D, J⟩, I, hT⟩
  | succ m ih =>
    intro h T0 D P N F T R t b' hm J I hT e
    unfold jp_vis at e
    by_cases hh : h < t
    · rw [show jp_tl (P, N, F, T, R, t) = t from rfl, if_pos hh, show jp_R (P, N, F, T, R, t) h = R h from rfl] at e
      obtain ⟨d, hd, e1, _⟩ := J.2.1 h hh
      rw [e1, nI_clamp (by omega)] at e
      obtain ⟨hrow, G⟩ := jp_G_0 J I hd hh e1
      generalize eb : jp_gt K d (P, N, F, T, R, t) = b at e
      have G2 := jp_G_gt hd hrow G eb
      obtain ⟨P2, N2, F2, T2, R2, t2⟩ := b
      obtain ⟨J2, I2, M2⟩ := jp_G_end hd G2
      exact ih (h + 1) T0 _ P2 N2 F2 T2 R2 t2 b' (by omega) J2 I2 (fun w hw => M2 w (hT w hw)) e
    · rw [show jp_tl (P, N, F, T, R, t) = t from rfl, if_neg hh] at e
      have h2 := J.1.1
      have : h = t := by omega
      subst this
      rw [← e]
      exact ⟨⟨D, J⟩, I, hT⟩
/-- the root is met first -/
theorem jp_J_root {K P N F T R : Nat → Int32} (hK0 : K 0 = 2) (hT : ∀ i, i < 16 → T i = 0) : jp_J K (fun _ => false) 0 16 (P, N, F, upd T 0 1, upd R 0 (nI 0), 1) := by
  have md : ∀ v, v < 16 → jp_MD K (upd T 0 1) v → v = 0 := by
    intro v hv ⟨_, h⟩
    apply Classical.byContradiction
    intro e
    rw [pk_un e] at h
    exact h (hT v hv)
  have m0 : jp_MD K (upd T 0 1) 0 := ⟨hK0, by rw [pk_us]; decide⟩
  refine ⟨⟨by omega, ?_⟩, fun j hj => ?_, fun _ _ _ _ _ _ _ _ => rfl, fun i j h1 h2 h3 => by omega, fun v hv hmv => Or.inl ⟨0, by omega, by omega, by rw [pk_us, md v hv hmv]⟩, fun _ _ _ _ _ => rfl, fun s hs e => Bool.noConfusion e, fun v hv v0 hmv => absurd (md v hv hmv) v0, fun _ => 0, fun v hv hmv => Nat.zero_lt_one, fun v hv v0 hmv => absurd (md v hv hmv) v0⟩
  · have := jp_cn_upd (f := fun w => decide (K w = 2 ∧ ¬ upd T 0 1 w = 0)) (g := fun w => decide (K w = 2 ∧ ¬ T w = 0)) (n := 16) (i := 0) (by omega) (fun j hj hne => by rw [pk_un hne])
    rw [pk_us, jp_t0 (p := K 0 = 2 ∧ ¬ T 0 = 0) (fun z => z.2 (hT 0 (by omega))), jp_t1 (p := K 0 = 2 ∧ ¬ (1 : Int32) = 0) ⟨hK0, by decide⟩, jp_cn_zero (f := fun w => decide (K w = 2 ∧ ¬ T w = 0)) (fun i hi => decide_eq_false (fun z => z.2 (hT i hi)))] at this
    omega
  · rw [show j = 0 from by omega, pk_us]; exact ⟨0, by omega, rfl, m0⟩
end
section
/-! going through the entries: the component's walk and the reference's -/
theorem jv_vn1 : vp_nar .boolean 1 = 1 := by unfold vp_nar; rw [jv_nb1]
theorem jv_vn0 : vp_nar .boolean 0 = 0 := by unfold vp_nar; rw [jv_nb0]
theorem jp_pi_upd {K P : Nat → Int32} {v : Nat} {x : Int32} (h : ¬ K v = 0) : upd (jp_pi K P) v x = jp_pi K (upd P v x) := by
  funext j
  by_cases e : j = v
  · subst e; rw [pk_us]; unfold jp_pi; rw [pk_us, if_neg h]
  · rw [pk_un e]; unfold jp_pi; rw [pk_un e]
def jp_WR (W R : Nat → Int32) (base t : Nat) : Prop := base ≤ t ∧ ∀ i, base + i < t → W i = R (base + i)
theorem jp_WR_put {W R : Nat → Int32} {base t : Nat} {x : Int32} (h : jp_WR W R base t) : jp_WR (upd W (t - base) x) (upd R t x) base (t + 1) := by
  obtain ⟨h1, h2⟩ := h
  refine ⟨by omega, fun i hi => ?_⟩
  by_cases e : base + i = t
  · rw [e, pk_us, show i = t - base from by omega, pk_us]
  · rw [pk_un e, pk_un (by omega)]; exact h2 i (by omega)
/-- a meeting has room in the row -/
theorem jp_J_room {K P N F T R : Nat → Int32} {D : Nat → Bool} {h c t v : Nat} (J : jp_J K D h c (P, N, F, T, R, t)) (hv : v < 16) (hnm : ¬ jp_MD K T v) : t < 16 := by
  rw [J.1.2]
  exact jp_cn_lt hv (decide_eq_false hnm)
section
variable {xr xs xd xw : Int32} {xk xl xp xn xb xm xh bk bl bp bn bb bm bh xf xt xq xu : Nat → Int32}
theorem jx_mustNot {post : Int32 → Prop} {v : Nat} (hv : v < 16) (ht : jp_bad xk xt v → post 1) (hf : ¬ jp_bad xk xt v → post 0) : wpX_mustNotBeNamed post (xr, xs, xd, xw, xk, xl, xp, xn, xb, xm, xh, bk, bl, bp, bn, bb, bm, bh, xf, xt, xq, xu) (nI v) := by
  unfold wpX_mustNotBeNamed
  have hi : vp_in (nI v) 16 := vp_in_nI hv (by omega)
  refine pk_eq v 0 (fun e => ht (Or.inl e)) (fun e => ⟨hi, ?_⟩)
  rw [nI_clamp (by omega)]
  refine br_c (fun k0 => ht (Or.inr (Or.inl k0))) (fun k0 => ⟨hi, br_c (fun k2 => ⟨hi, br_c (fun t0 => hf ?_) (fun t0 => ht (Or.inr (Or.inr ⟨k2, t0⟩)))⟩) (fun k2 => hf ?_)⟩)
  · rintro (z | z | z)
    · exact e z
    · exact k0 z
    · exact z.2 t0
  · rintro (z | z | z)
    · exact e z
    · exact k0 z
    · exact k2 z.1
theorem jx_meet {post : SX → Prop} {v d w : Nat} (hv : v < 16) (hw : xk v = 2 → w < 16) (h2 : xk v = 2 → post (xr, xs, xd, nI (w + 1), xk, xl, upd xp v (nI d), xn, xb, xm, xh, bk, bl, bp, bn, bb, bm, bh, xf, upd xt v 1, upd xq w (nI v), xu)) (h1 : ¬ xk v = 2 → post (xr, xs, xd, nI w, xk, xl, xp, xn, xb, xm, xh, bk, bl, bp, bn, bb, bm, bh, xf, upd xt v 1, xq, xu)) : wpX_meet post (xr, xs, xd, nI w, xk, xl, xp, xn, xb, xm, xh, bk, bl, bp, bn, bb, bm, bh, xf, xt, xq, xu) (nI v) (nI d) := by
  unfold wpX_meet
  have hi : vp_in (nI v) 16 := vp_in_nI hv (by omega)
  refine ⟨hi, ?_⟩
  rw [nI_clamp (n := v) (by omega), jv_vn1]
  refine nm_e ⟨hi, br_c (fun k2 => ⟨hi, nm_e ⟨vp_in_nI (hw k2) (by omega), ?_⟩⟩) (fun k2 => h1 k2)⟩
  rw [nI_clamp (n := w) (by have := hw k2; omega)]
  exact nm_e (nm_r (nI_1 _) (h2 k2))
theorem jx_goThrough {post : SX → Prop} {K P N F T R W T0 : Nat → Int32} {D : Nat → Bool} {h d base t : Nat} (hd : d < 16) (hrow : ∀ n, n < 64 → D (64 * d + n) = false) (G : jp_G K D h d 0 T0 (P, N, F, T, R, t)) (hW : jp_WR W R base t)
    (hpost : ∀ P' N' F' T' R' t' W', jp_gt K d (P, N, F, T, R, t) = (P', N', F', T', R', t') → jp_WR W' R' base t' → post (xr, xs, xd, nI (t' - base), K, xl, jp_pi K P', jp_ro N', xb, xm, xh, bk, bl, bp, bn, bb, bm, bh, F', T', W', xu)) :
    wpX_goThrough post (xr, xs, xd, nI (t - base), K, xl, jp_pi K P, jp_ro N, xb, xm, xh, bk, bl, bp, bn, bb, bm, bh, F, T, W, xu) (nI d) := by
  unfold wpX_goThrough
  refine nm_r (jv_a64 d) (pk_loop (σ := jp_BS × (Nat → Int32)) (fun n i s => wX_goThrough_5 post (nI d) n (nI (64 * d + i)) xr xs xd (nI (jp_tl s.1 - base)) K xl (jp_pi K s.1.1) (jp_ro s.1.2.1) xb xm xh bk bl bp bn bb bm bh (s.1.2.2.1) (s.1.2.2.2.1) (s.2) xu) (fun i s => s.1 = jp_fd (fun h => jp_look K d (jp_t h)) i (P, N, F, T, R, t) ∧ jp_G K D h d i T0 s.1 ∧ jp_WR s.2 (jp_R s.1) base (jp_tl s.1)) 64 0 ((P, N, F, T, R, t), W) (by omega) ⟨rfl, G, hW⟩ (fun n s hI => br_t ?_ ?_) (fun n i s hi hI ih => br_f ?_ ⟨vp_in_nI (by omega) (by omega), ?_⟩))
  · rw [jv_b64]; exact nI_le (by omega) (by omega)
  · obtain ⟨⟨P', N', F', T', R', t'⟩, W'⟩ := s
    exact hpost P' N' F' T' R' t' W' (by unfold jp_gt; exact hI.1.symm) hI.2.2
  · rw [jv_b64]; exact nI_ge (by omega) (by omega)
  · obtain ⟨⟨P', N', F', T', R', t'⟩, W'⟩ := s
    obtain ⟨hb, hG, hWR⟩ := hI
    dsimp only [jp_tl, jp_R] at hb hG hWR ⊢
    have ht := jp_t_lt i
    rw [nI_clamp (by omega), jp_ro_h N' d hi]
    have hG2 := jp_G_step hd hi hrow hG
    have next : ∀ P2 N2 F2 T2 R2 t2 W2, jp_look K d (jp_t i) (P', N', F', T', R', t') = (P2, N2, F2, T2, R2, t2) → jp_WR W2 R2 base t2 → wX_goThrough_5 post (nI d) n (nI (64 * d + i + 1)) xr xs xd (nI (t2 - base)) K xl (jp_pi K P2) (jp_ro N2) xb xm xh bk bl bp bn bb bm bh F2 T2 W2 xu := by
      intro P2 N2 F2 T2 R2 t2 W2 e hw
      refine ih ((P2, N2, F2, T2, R2, t2), W2) ⟨?_, ?_, hw⟩
      · dsimp only; rw [← e, hb]; rfl
      · dsimp only; rw [← e]; exact hG2
    rcases hG.2.1.2.2.2.2.2.1 (64 * d + jp_t i) (by omega) with z | ⟨v, hv, z⟩
    · rw [z]
      exact nm_e (br_t rfl (nm_r (nI_1 _) (next _ _ _ _ _ _ _ (jp_look_0 z) hWR)))
    · rw [z]
      refine nm_e (br_f (jv_m1n v (by omega)) (jx_mustNot hv (fun hb => br_f (by decide) ⟨vp_in_nI (by omega) (by omega), ?_⟩) (fun hb => br_t rfl ?_)))
      · refine nm_r (e' := jp_ro (upd N' (64 * d + jp_t i) (-1))) ?_ (nm_e (nm_r (nI_1 _) (next _ _ _ _ _ _ _ (jp_look_1 hv z hb) hWR)))
        rw [jp_ro_upd N' d ht, jp_st hi]
      · obtain ⟨v0, hk, hnm⟩ := jp_nbad hb
        have hroom := jp_J_room hG.1 hv hnm
        have e := jp_look_2 (P := P') (F := F') (R := R') (t := t') hv z hb
        refine jx_meet hv (fun _ => by omega) (fun k2 => nm_r (nI_1 _) ?_) (fun k2 => nm_r (nI_1 _) ?_)
        · rw [jp_meet_2 k2] at e
          have := next _ _ _ _ _ _ _ e (jp_WR_put (x := nI v) hWR)
          rw [jp_pi_upd hk, show t' - base + 1 = t' + 1 - base from by have := hWR.1; omega]
          exact this
        · rw [jp_meet_1 k2] at e
          exact next _ _ _ _ _ _ _ e hWR
theorem jx_vis {post : SX → Prop} {K : Nat → Int32} {base : Nat} : ∀ (m h : Nat) (D : Nat → Bool) (P N F T R W : Nat → Int32) (t : Nat), h + m = 16 → base ≤ h → jp_J K D h 16 (P, N, F, T, R, t) → jp_JI K P N → jp_WR W R base t →
    (∀ P' N' F' T' R' t' W', jp_vis K m h (P, N, F, T, R, t) = (P', N', F', T', R', t') → post (xr, xs, xd, nI (t' - base), K, xl, jp_pi K P', jp_ro N', xb, xm, xh, bk, bl, bp, bn, bb, bm, bh, F', T', W', xu)) →
    wX_goThroughWaiting_2 post (m + 1) (nI (h - base)) xr xs xd (nI (t - base)) K xl (jp_pi K P) (jp_ro N) xb xm xh bk bl bp bn bb bm bh F T W xu := by
  intro m
  induction m with
  | zero =>
    intro h D P N F T R W t hm hb J I hW hpost
    have h1 := jp_J_le J
    exact br_t (nI_le (by omega) (by omega)) (hpost P N F T R t W rfl)
  | succ m ih =>
    intro h D P N F T R W t hm hb J I hW hpost
    have h1 := jp_J_le J
    unfold jp_vis at hpost
    by_cases hh : h < t
    · rw [show jp_tl (P, N, F, T, R, t) = t from rfl, if_pos hh, show jp_R (P, N, F, T, R, t) h = R h from rfl] at hpost
      obtain ⟨d, hd, e, _⟩ := J.2.1 h hh
      rw [e, nI_clamp (by omega)] at hpost
      obtain ⟨hrow, G⟩ := jp_G_0 J I hd hh e
      refine br_f (nI_ge (by omega) (by omega)) (br_f (nI_ge (b := 16) (by omega) (by omega)) ⟨vp_in_nI (by omega) (by omega), ?_⟩)
      rw [nI_clamp (by omega), hW.2 (h - base) (by omega), show base + (h - base) = h from by omega, e]
      refine jx_goThrough hd hrow G hW (fun P2 N2 F2 T2 R2 t2 W2 e2 hW2 => ?_)
      have G2 := jp_G_gt hd hrow G e2
      rw [e2] at hpost
      obtain ⟨J2, I2, M2⟩ := jp_G_end hd G2
      refine nm_r (e' := nI (h + 1 - base)) (by rw [nI_1]; exact congrArg nI (by omega)) (ih (h + 1) _ P2 N2 F2 T2 R2 W2 t2 (by omega) (by omega) J2 I2 hW2 hpost)
    · rw [show jp_tl (P, N, F, T, R, t) = t from rfl, if_neg hh] at hpost
      exact br_t (nI_le (by omega) (by omega)) (hpost P N F T R t W rfl)
end
section
variable {yr ys yd yh yt : Int32} {yk yl yp yn yb yv ym ok ol op on ob ov om yc yg yf yq yu ye : Nat → Int32}
theorem jy_meet {post : SY → Prop} {v d t : Nat} (hv : v < 16) (hw : yk v = 2 → t < 16) (h2 : yk v = 2 → post (yr, ys, yd, yh, nI (t + 1), yk, yl, upd yp v (nI d), yn, yb, yv, ym, ok, ol, op, on, ob, ov, om, yc, yg, yf, upd yq t (nI v), yu, upd ye v 1)) (h1 : ¬ yk v = 2 → post (yr, ys, yd, yh, nI t, yk, yl, yp, yn, yb, yv, ym, ok, ol, op, on, ob, ov, om, yc, yg, yf, yq, yu, upd ye v 1)) : wpY_meet post (yr, ys, yd, yh, nI t, yk, yl, yp, yn, yb, yv, ym, ok, ol, op, on, ob, ov, om, yc, yg, yf, yq, yu, ye) (nI v) (nI d) := by
  unfold wpY_meet
  have hi : vp_in (nI v) 16 := vp_in_nI hv (by omega)
  refine ⟨hi, ?_⟩
  rw [nI_clamp (n := v) (by omega), jv_vn1]
  refine nm_e ⟨hi, br_c (fun k2 => ⟨hi, nm_e ⟨vp_in_nI (hw k2) (by omega), ?_⟩⟩) (fun k2 => h1 k2)⟩
  rw [nI_clamp (n := t) (by have := hw k2; omega)]
  exact nm_e (nm_r (nI_1 _) (h2 k2))
theorem jy_look {post : SY → Prop} {d n v t : Nat} (hd : d < 16) (hn : n < 64) (hv : v < 16) (he : yn (64 * d + n) = nI v) (hroom : ¬ jp_bad yk ye v → t < 16)
    (hb : jp_bad yk ye v → post (yr, ys, yd, yh, nI t, yk, yl, yp, upd yn (64 * d + n) (-1), yb, yv, ym, ok, ol, op, on, ob, ov, om, yc, yg, upd yf 0 (yf 0 + 1), yq, yu, ye))
    (h2 : ¬ jp_bad yk ye v → yk v = 2 → post (yr, ys, yd, yh, nI (t + 1), yk, yl, upd yp v (nI d), yn, yb, yv, ym, ok, ol, op, on, ob, ov, om, yc, yg, yf, upd yq t (nI v), yu, upd ye v 1)) (h1 : ¬ jp_bad yk ye v → ¬ yk v = 2 → post (yr, ys, yd, yh, nI t, yk, yl, yp, yn, yb, yv, ym, ok, ol, op, on, ob, ov, om, yc, yg, yf, yq, yu, upd ye v 1)) :
    wpY_look post (yr, ys, yd, yh, nI t, yk, yl, yp, yn, yb, yv, ym, ok, ol, op, on, ob, ov, om, yc, yg, yf, yq, yu, ye) (nI d) (nI n) := by
  unfold wpY_look
  rw [jv_e64]
  refine ⟨vp_in_nI (by omega) (by omega), ?_⟩
  rw [nI_clamp (n := 64 * d + n) (by omega), he]
  have hi : vp_in (nI v) 16 := vp_in_nI hv (by omega)
  have bad : jp_bad yk ye v → wY_look_44 post (nI d) (nI n) yr ys yd yh (nI t) yk yl yp yn yb yv ym ok ol op on ob ov om yc yg yf yq yu ye := by
    intro z
    unfold wY_look_44
    rw [jv_e64, nI_clamp (n := 64 * d + n) (by omega)]
    exact ⟨vp_in_nI (by omega) (by omega), nm_e (nm_e (hb z))⟩
  have good : ¬ jp_bad yk ye v → wY_look_69 post (nI d) (nI v) yr ys yd yh (nI t) yk yl yp yn yb yv ym ok ol op on ob ov om yc yg yf yq yu ye := by
    intro z
    unfold wY_look_69
    exact jy_meet hv (fun _ => hroom z) (fun k2 => h2 z k2) (fun k2 => h1 z k2)
  refine nm_e (pk_eq v 0 (fun e => bad (Or.inl e)) (fun e => ⟨hi, ?_⟩))
  rw [nI_clamp (n := v) (by omega)]
  refine br_c (fun k0 => bad (Or.inr (Or.inl k0))) (fun k0 => ⟨hi, br_c (fun k2 => ⟨hi, br_c (fun t0 => good ?_) (fun t0 => bad (Or.inr (Or.inr ⟨k2, t0⟩)))⟩) (fun k2 => good ?_)⟩)
  · rintro (z | z | z)
    · exact e z
    · exact k0 z
    · exact z.2 t0
  · rintro (z | z | z)
    · exact e z
    · exact k0 z
    · exact k2 z.1
theorem jy_gt {post : SY → Prop} {J0 : Int32 → Int32 → Int32 → Int32 → Int32 → (Nat → Int32) → (Nat → Int32) → (Nat → Int32) → (Nat → Int32) → (Nat → Int32) → (Nat → Int32) → (Nat → Int32) → (Nat → Int32) → (Nat → Int32) → (Nat → Int32) → (Nat → Int32) → (Nat → Int32) → (Nat → Int32) → (Nat → Int32) → (Nat → Int32) → (Nat → Int32) → (Nat → Int32) → (Nat → Int32) → (Nat → Int32) → (Nat → Int32) → Prop}
    {K P N F T R T0 : Nat → Int32} {D : Nat → Bool} {h d t : Nat} (hd : d < 16) (hrow : ∀ n, n < 64 → D (64 * d + n) = false) (G : jp_G K D h d 0 T0 (P, N, F, T, R, t))
    (hpost : ∀ P' N' F' T' R' t', jp_gt K d (P, N, F, T, R, t) = (P', N', F', T', R', t') → J0 yr ys yd yh (nI t') K yl P' N' yb yv ym ok ol op on ob ov om yc yg F' R' yu T') :
    ∃ n, wY_visit_33 post J0 (nI d) n 0 yr ys yd yh (nI t) K yl P N yb yv ym ok ol op on ob ov om yc yg F R yu T := by
  refine pk_loop (σ := jp_BS) (fun n i s => wY_visit_33 post J0 (nI d) n (nI i) yr ys yd yh (nI (jp_tl s)) K yl (s.1) (s.2.1) yb yv ym ok ol op on ob ov om yc yg (s.2.2.1) (jp_R s) yu (s.2.2.2.1)) (fun i s => s = jp_fd (fun h => jp_look K d (jp_t h)) i (P, N, F, T, R, t) ∧ jp_G K D h d i T0 s) 64 0 (P, N, F, T, R, t) (by omega) ⟨rfl, G⟩ (fun n s hI => br_t (nI_le (a := 64) (by omega) (by omega)) ?_) (fun n i s hi hI ih => br_f (nI_ge (b := 64) hi (by omega)) ?_)
  · obtain ⟨P', N', F', T', R', t'⟩ := s
    exact hpost P' N' F' T' R' t' (by unfold jp_gt; exact hI.1.symm)
  · obtain ⟨P', N', F', T', R', t'⟩ := s
    obtain ⟨hb, hG⟩ := hI
    have ht := jp_t_lt i
    have hG2 := jp_G_step hd hi hrow hG
    have next : ∀ s2, jp_look K d (jp_t i) (P', N', F', T', R', t') = s2 → wY_visit_33 post J0 (nI d) n (nI (i + 1)) yr ys yd yh (nI (jp_tl s2)) K yl (s2.1) (s2.2.1) yb yv ym ok ol op on ob ov om yc yg (s2.2.2.1) (jp_R s2) yu (s2.2.2.2.1) := by
      intro s2 e
      refine ih s2 ⟨?_, ?_⟩
      · rw [← e, hb]; rfl
      · rw [← e]; exact hG2
    refine jv_scan (σ := jp_BS) (fun m x s => wY_visit_41 post J0 (wY_visit_33 post J0 (nI d) n) (nI d) (nI i) m (nI x) yr ys yd yh (nI (jp_tl s)) K yl (s.1) (s.2.1) yb yv ym ok ol op on ob ov om yc yg (s.2.2.1) (jp_R s) yu (s.2.2.2.1)) i hi (fun s => wY_visit_33 post J0 (nI d) n (nI (i + 1)) yr ys yd yh (nI (jp_tl s)) K yl (s.1) (s.2.1) yb yv ym ok ol op on ob ov om yc yg (s.2.2.1) (jp_R s) yu (s.2.2.2.1)) (P', N', F', T', R', t') (fun m s hJ => br_t (nI_le (a := 64) (by omega) (by omega)) (nm_r (nI_1 _) hJ)) (fun m x s hx hne ihx => br_f (nI_ge (b := 64) hx (by omega)) ⟨by decide, ?_⟩) (fun m hJ => br_f (nI_ge (b := 64) ht (by omega)) ⟨by decide, ?_⟩)
    · rw [jv_hash x hx]
      exact br_f (fun e => hne (jv_inj e (by have := jp_s_lt x; omega) (by omega))) (nm_r (nI_1 _) ihx)
    · rw [jv_hash _ ht, jp_st hi, jv_e64]
      refine br_t rfl ⟨vp_in_nI (by omega) (by omega), ?_⟩
      have hNR := hG.2.1.2.2.2.2.2.1 (64 * d + jp_t i) (by omega)
      rw [nI_clamp (by omega)]
      dsimp only
      rw [jp_neg (by omega) hNR]
      rcases hNR with z | ⟨v, hv, z⟩
      · exact br_t z (nm_r (nI_1 _) (hJ _ (next _ (jp_look_0 z))))
      · have hm1 : ¬ N' (64 * d + jp_t i) = -1 := by rw [z]; exact jv_m1n v (by omega)
        refine br_f hm1 (jy_look hd ht hv z (fun hb => ?_) (fun hb => nm_r (nI_1 _) (hJ _ (next _ (jp_look_1 hv z hb)))) (fun hb k2 => nm_r (nI_1 _) (hJ (upd P' v (nI d), N', F', upd T' v 1, upd R' t' (nI v), t' + 1) (next _ ?_))) (fun hb k2 => nm_r (nI_1 _) (hJ (P', N', F', upd T' v 1, R', t') (next _ ?_))))
        · exact jp_J_room hG.1 hv (jp_nbad hb).2.2
        · rw [jp_look_2 hv z hb, jp_meet_2 k2]
        · rw [jp_look_2 hv z hb, jp_meet_1 k2]
theorem jy_vis {post : SY → Prop} {K : Nat → Int32} : ∀ (m h : Nat) (D : Nat → Bool) (P N F T R : Nat → Int32) (t : Nat), h + m = 16 → jp_J K D h 16 (P, N, F, T, R, t) → jp_JI K P N →
    (∀ P' N' F' T' R' t', jp_vis K m h (P, N, F, T, R, t) = (P', N', F', T', R', t') → post (yr, ys, yd, nI t', nI t', K, yl, P', N', yb, yv, ym, ok, ol, op, on, ob, ov, om, yc, yg, F', R', yu, T')) →
    wY_visit_0 post (m + 1) yr ys yd (nI h) (nI t) K yl P N yb yv ym ok ol op on ob ov om yc yg F R yu T := by
  intro m
  induction m with
  | zero =>
    intro h D P N F T R t hm J I hpost
    have h1 := jp_J_le J
    have h2 := J.1.1
    have : h = t := by omega
    subst this
    exact br_t (nI_le (by omega) (by omega)) (hpost P N F T R h rfl)
  | succ m ih =>
    intro h D P N F T R t hm J I hpost
    have h1 := jp_J_le J
    unfold jp_vis at hpost
    by_cases hh : h < t
    · rw [show jp_tl (P, N, F, T, R, t) = t from rfl, if_pos hh, show jp_R (P, N, F, T, R, t) h = R h from rfl] at hpost
      obtain ⟨d, hd, e, _⟩ := J.2.1 h hh
      rw [e, nI_clamp (by omega)] at hpost
      obtain ⟨hrow, G⟩ := jp_G_0 J I hd hh e
      refine br_f (nI_ge (by omega) (by omega)) ⟨vp_in_nI (by omega) (by omega), ?_⟩
      rw [nI_clamp (by omega), e]
      refine nm_e (nm_r (nI_1 _) (jy_gt hd hrow G (fun P2 N2 F2 T2 R2 t2 e2 => ?_)))
      have G2 := jp_G_gt hd hrow G e2
      rw [e2] at hpost
      obtain ⟨J2, I2, M2⟩ := jp_G_end hd G2
      exact ih (h + 1) _ P2 N2 F2 T2 R2 t2 (by omega) J2 I2 hpost
    · rw [show jp_tl (P, N, F, T, R, t) = t from rfl, if_neg hh] at hpost
      have h2 := J.1.1
      have : h = t := by omega
      subst this
      exact br_t (nI_le (by omega) (by omega)) (hpost P N F T R h rfl)
end
end
section
/-! what was not met -/
theorem jp_I0_JI {K L P N B V M : Nat → Int32} (h : jp_I0 (K, L, P, N, B, V, M)) : jp_JI K P N :=
  ⟨fun i hi => (h.1.1 i hi).2.2, h.1.2.1, h.2.2.1, h.2.2.2.1, h.2.2.2.2.1, h.2.2.2.2.2.2.1, h.2.2.2.2.2.2.2.1, h.2.2.2.2.2.2.2.2.1⟩
theorem jp_I0_of {K L P N B V M P' N' : Nat → Int32} (h : jp_I0 (K, L, P, N, B, V, M)) (I : jp_JI K P' N') : jp_I0 (K, L, P', N', B, V, M) := by
  obtain ⟨hZ, hK, hK0, hPR, hP0, hL0, hN, hNE, hEN, hB, hBE, hXN⟩ := h
  obtain ⟨a, b, k0, c, p0, e, f, g⟩ := I
  exact ⟨⟨fun i hi => ⟨(hZ.1 i hi).1, (hZ.1 i hi).2.1, a i hi⟩, b, hZ.2.2⟩, hK, hK0, c, p0, hL0, e, f, g, hB, hBE, hXN⟩
abbrev jp_MS : Type := (Nat → Int32) × (Nat → Int32) × (Nat → Int32) × jp_BS
noncomputable def jp_rsc (k : Nat) : jp_MS → jp_MS
  | (K, L, B, P, N, F, T, R, t) => if K k = 0 then (K, L, B, P, N, F, T, R, t) else if ¬ T k = 0 then (K, L, B, P, N, F, T, R, t) else
      if N (48 + k) = -1 ∧ jp_en N 0 < 10 then (K, L, B, jp_vis K (16 - t) t (jp_meet K k 0 (P, upd N (48 + k) (nI k), upd F 1 (F 1 + 1), T, R, t)))
      else (upd K k 0, upd L k 0, jp_fl B (24 * k) 24 (-1), P, jp_fl N (64 * k) 64 (-1), upd F 1 (F 1 + 1), T, R, t)
theorem jp_rsc_0 {K L B P N F T R : Nat → Int32} {k t : Nat} (h : K k = 0 ∨ ¬ T k = 0) : jp_rsc k (K, L, B, P, N, F, T, R, t) = (K, L, B, P, N, F, T, R, t) := by
  unfold jp_rsc
  dsimp only
  by_cases h0 : K k = 0
  · rw [if_pos h0]
  · rw [if_neg h0, if_pos (h.elim (fun z => absurd z h0) id)]
theorem jp_rsc_1 {K L B P N F T R : Nat → Int32} {k t : Nat} (h0 : ¬ K k = 0) (h1 : T k = 0) (h : N (48 + k) = -1 ∧ jp_en N 0 < 10) : jp_rsc k (K, L, B, P, N, F, T, R, t) = (K, L, B, jp_vis K (16 - t) t (jp_meet K k 0 (P, upd N (48 + k) (nI k), upd F 1 (F 1 + 1), T, R, t))) := by
  unfold jp_rsc
  dsimp only
  rw [if_neg h0, if_neg (fun z => z h1), if_pos h]
theorem jp_rsc_2 {K L B P N F T R : Nat → Int32} {k t : Nat} (h0 : ¬ K k = 0) (h1 : T k = 0) (h : ¬ (N (48 + k) = -1 ∧ jp_en N 0 < 10)) : jp_rsc k (K, L, B, P, N, F, T, R, t) = (upd K k 0, upd L k 0, jp_fl B (24 * k) 24 (-1), P, jp_fl N (64 * k) 64 (-1), upd F 1 (F 1 + 1), T, R, t) := by
  unfold jp_rsc
  dsimp only
  rw [if_neg h0, if_neg (fun z => z h1), if_neg h]
def jp_Q (V M : Nat → Int32) (k : Nat) : jp_MS → Prop
  | (K, L, B, P, N, F, T, R, t) => jp_I0 (K, L, P, N, B, V, M) ∧ (∃ D, jp_J K D t 16 (P, N, F, T, R, t)) ∧ ¬ T 0 = 0 ∧ (∀ v, 0 < v → v < k → v < 16 → K v = 0 ∨ ¬ T v = 0)
/-- the rescued inode's entry, and its meeting -/
theorem jp_Q_link {K L B V M P N F T R : Nat → Int32} {k t : Nat} (Q : jp_Q V M k (K, L, B, P, N, F, T, R, t)) (hk0 : 0 < k) (hk : k < 16) (h0 : ¬ K k = 0) (h1 : T k = 0) (h : N (48 + k) = -1 ∧ jp_en N 0 < 10) :
    ∃ D, jp_J K D t 16 (jp_meet K k 0 (P, upd N (48 + k) (nI k), upd F 1 (F 1 + 1), T, R, t)) ∧ jp_JI K P (upd N (48 + k) (nI k)) ∧ jp_JI K (upd P k (nI 0)) (upd N (48 + k) (nI k)) ∧ t ≤ 16 ∧ (K k = 2 → t < 16) := by
  obtain ⟨hI, ⟨D, J⟩, hT0, hall⟩ := Q
  have I := jp_I0_JI hI
  have hm : jp_MD K T 0 := ⟨hI.2.2.1, hT0⟩
  have e48 : 64 * 0 + (48 + k) = 48 + k := by omega
  have JF : jp_J K D t 16 (P, N, upd F 1 (F 1 + 1), T, R, t) := J
  have J2 := jp_J_meet JF (by omega) (n := 48 + k) (by omega) hm (Or.inr (by rw [e48]; exact h.1)) (fun j h1 h2 => absurd h2 (by omega)) hk (by omega) h0 (fun z => z.2 h1)
  rw [e48] at J2
  have JN : jp_JI K P (upd N (48 + k) (nI k)) := by
    obtain ⟨a, b, k0, c, p0, e, f, g⟩ := I
    refine ⟨a, fun i hi => by rw [pk_un (by omega)]; exact b i hi, k0, c, p0, jp_NR_upd e (Or.inr ⟨k, hk, rfl⟩), fun i hi hk2 q hq => ?_, fun i hi => ?_⟩
    · have : i ≠ 0 := fun z => hk2 (by rw [z]; exact k0)
      rw [pk_un (by omega)]; exact f i hi hk2 q hq
    · by_cases ei : i = 0
      · subst ei
        have := jp_en_upd (N := N) (a := 0) (n := 48 + k) (v := nI k) (by omega)
        rw [e48, jp_t0 (fun z => z h.1), jp_t1 (jv_m1n k (by omega))] at this
        omega
      · have := jp_en_un (N := N) (a := 0) (n := 48 + k) (v := nI k) (by omega) ei
        rw [e48] at this
        rw [this]; exact g i hi
  exact ⟨_, J2, JN, jp_JI_par JN (by omega) hk (by omega), jp_J_le J, fun _ => jp_J_room J hk (fun z => z.2 h1)⟩
theorem jp_J_gone {K P N F F' T R : Nat → Int32} {D : Nat → Bool} {h c t k : Nat} (J : jp_J K D h c (P, N, F, T, R, t)) (hk : k < 16) (h1 : T k = 0) : jp_J (upd K k 0) D h c (P, jp_fl N (64 * k) 64 (-1), F', T, R, t) := by
  obtain ⟨j1, j2, j3, j4, j5, j6, j7, j8, rk, j9, j10⟩ := J
  have hnm : ¬ jp_MD K T k := fun z => z.2 h1
  have same : ∀ w, jp_MD (upd K k 0) T w ↔ jp_MD K T w := by
    intro w
    by_cases e : w = k
    · subst e; exact ⟨fun z => absurd h1 z.2, fun z => absurd h1 z.2⟩
    · unfold jp_MD; rw [pk_un e]
  have off : ∀ s, D s = true → s < 1024 → jp_fl N (64 * k) 64 (-1) s = N s := by
    intro s hs hlt
    by_cases e : 64 * k ≤ s ∧ s < 64 * k + 64
    · have := j6 k hk hnm (s - 64 * k) (by omega)
      rw [show 64 * k + (s - 64 * k) = s from by omega, hs] at this
      exact Bool.noConfusion this
    · exact jp_fl_out (by omega)
  refine ⟨⟨j1.1, ?_⟩, fun j hj => ?_, j3, j4, fun w hw hmw => j5 w hw ((same w).mp hmw), fun w hw hmw => j6 w hw (fun z => hmw ((same w).mpr z)), fun s hs e => ?_, fun w hw w0 hmw => ?_, rk, fun w hw hmw => j9 w hw ((same w).mp hmw), fun w hw w0 hmw => ?_⟩
  · rw [j1.2]
    exact jp_cn_congr (fun w hw => decide_eq_decide.mpr (same w).symm)
  · obtain ⟨w, hw, e1, e2⟩ := j2 j hj
    exact ⟨w, hw, e1, (same w).mpr e2⟩
  · rw [off s e hs]
    rcases j7 s hs e with z | ⟨w, hw, w0, z, k0, t0⟩
    · exact Or.inl z
    · exact Or.inr ⟨w, hw, w0, z, by rw [pk_un (fun q => t0 (by rw [q]; exact h1))]; exact k0, t0⟩
  · rw [← j8 w hw w0 ((same w).mp hmw)]
    apply jp_cn_congr
    intro s hs
    cases hd : D s
    · rfl
    · rw [off s hd hs]
  · obtain ⟨p, q, h1, h2, h3, h4, h5, h6, h7⟩ := j10 w hw w0 ((same w).mp hmw)
    exact ⟨p, q, h1, h2, h3, by rw [off _ h5 (by omega)]; exact h4, h5, (same p).mpr h6, h7⟩
theorem jp_Q_step {V M : Nat → Int32} {k : Nat} {s s' : jp_MS} (hk0 : 0 < k) (hk : k < 16) (Q : jp_Q V M k s) (e : jp_rsc k s = s') : jp_Q V M (k + 1) s' := by
  obtain ⟨K, L, B, P, N, F, T, R, t⟩ := s
  by_cases h0 : K k = 0 ∨ ¬ T k = 0
  · rw [jp_rsc_0 h0] at e
    subst e
    obtain ⟨hI, hJ, hT0, hall⟩ := Q
    refine ⟨hI, hJ, hT0, fun v v0 hv hv2 => ?_⟩
    by_cases ev : v = k
    · rw [ev]; exact h0
    · exact hall v v0 (by omega) hv2
  · have hk1 : ¬ K k = 0 := fun z => h0 (Or.inl z)
    have hT1 : T k = 0 := Classical.byContradiction fun z => h0 (Or.inr z)
    by_cases h2 : N (48 + k) = -1 ∧ jp_en N 0 < 10
    · rw [jp_rsc_1 hk1 hT1 h2] at e
      obtain ⟨D, J, I1, I2, t16, hroom⟩ := jp_Q_link Q hk0 hk hk1 hT1 h2
      obtain ⟨hI, hJ, hT0, hall⟩ := Q
      have tT : ∀ w, ¬ T w = 0 → ¬ upd T k 1 w = 0 := by
        intro w hw
        by_cases e : w = k
        · rw [e, pk_us]; decide
        · rw [pk_un e]; exact hw
      have hTk : ¬ upd T k 1 k = 0 := by rw [pk_us]; decide
      generalize ev : jp_vis K (16 - t) t (jp_meet K k 0 (P, upd N (48 + k) (nI k), upd F 1 (F 1 + 1), T, R, t)) = b at e
      have E : jp_E K (upd T k 1) b := by
        by_cases k2 : K k = 2
        · rw [jp_meet_2 k2] at ev J
          exact jp_vis_E (16 - t) t (upd T k 1) D _ _ _ _ _ _ b (by omega) J I2 (fun w hw => hw) ev
        · rw [jp_meet_1 k2] at ev J
          exact jp_vis_E (16 - t) t (upd T k 1) D _ _ _ _ _ _ b (by omega) J I1 (fun w hw => hw) ev
      obtain ⟨P2, N2, F2, T2, R2, t2⟩ := b
      subst e
      obtain ⟨hJ2, hI2, hmono⟩ := E
      refine ⟨jp_I0_of hI hI2, hJ2, hmono 0 (tT 0 hT0), fun v v0 hv hv2 => ?_⟩
      by_cases ev : v = k
      · rw [ev]; exact Or.inr (hmono k hTk)
      · rcases hall v v0 (by omega) hv2 with z | z
        · exact Or.inl z
        · exact Or.inr (hmono v (tT v z))
    · rw [jp_rsc_2 hk1 hT1 h2] at e
      subst e
      obtain ⟨hI, ⟨D, J⟩, hT0, hall⟩ := Q
      refine ⟨jp_gone_I0 hI hk (by omega) (fun j hj => (hI.1.2.2.2 j hj).2), ⟨D, jp_J_gone J hk hT1⟩, hT0, fun v v0 hv hv2 => ?_⟩
      by_cases ev : v = k
      · rw [ev, pk_us]; exact Or.inl rfl
      · rw [pk_un ev]; exact hall v v0 (by omega) hv2
section
variable {xr xs xd xw : Int32} {xk xl xp xn xb xm xh bk bl bp bn bb bm bh xf xt xq xu : Nat → Int32}
theorem jx_rescue {post : SX → Prop} {K L B V M P N F T R : Nat → Int32} {k t : Nat} (Q : jp_Q V M k (K, L, B, P, N, F, T, R, t)) (hk0 : 0 < k) (hk : k < 16) (h0 : ¬ K k = 0) (h1 : T k = 0)
    (hpost : ∀ K' L' B' P' N' F' T' R' t' xw' W', jp_rsc k (K, L, B, P, N, F, T, R, t) = (K', L', B', P', N', F', T', R', t') → post (xr, xs, xd, xw', K', L', jp_pi K' P', jp_ro N', B', xm, xh, bk, bl, bp, bn, bb, bm, bh, F', T', W', xu)) :
    wpX_rescue post (xr, xs, xd, xw, K, L, jp_pi K P, jp_ro N, B, xm, xh, bk, bl, bp, bn, bb, bm, bh, F, T, xq, xu) (nI k) := by
  unfold wpX_rescue
  have hsl := jp_s_lt (48 + k)
  have e48 : 64 * 0 + (48 + k) = 48 + k := by omega
  have gone : ¬ (N (48 + k) = -1 ∧ jp_en N 0 < 10) → wX_rescue_37 post (nI k) xr xs xd xw K L (jp_pi K P) (jp_ro N) B xm xh bk bl bp bn bb bm bh (upd F 1 (F 1 + 1)) T xq xu := by
    intro h
    unfold wX_rescue_37
    refine jx_makeFree hk ?_
    rw [jp_pi_gone, ← jp_ro_fl]
    exact hpost _ _ _ _ _ _ _ _ _ _ _ (jp_rsc_2 h0 h1 h)
  refine nm_e ?_
  rw [show (48 : Int32) + nI k = nI (48 + k) from nI_add 48 k]
  refine jx_spotOf (d := 0) (by omega) ⟨vp_in_nI (by omega) (by omega), ?_⟩
  rw [nI_clamp (by omega), jp_ro_n N 0 (by omega), e48]
  refine br_c (fun hN => jx_isFullDirectory' (d := 0) (by omega) (fun hf => br_f (by decide) (gone (fun z => by omega))) (fun hf => br_t rfl ?_)) (fun hN => gone (fun z => hN z.1))
  obtain ⟨D, J, I1, I2, t16, hroom⟩ := jp_Q_link Q hk0 hk h0 h1 ⟨hN, hf⟩
  have er := jp_rsc_1 (L := L) (B := B) (P := P) (F := F) (R := R) (t := t) h0 h1 ⟨hN, hf⟩
  refine ⟨vp_in_nI (by omega) (by omega), nm_r (e' := jp_ro (upd N (48 + k) (nI k))) ?_ (jx_meet (w := 0) (d := 0) hk (fun _ => by omega) (fun k2 => ?_) (fun k2 => ?_))⟩
  · have := jp_ro_upd N 0 (n := 48 + k) (by omega) (nI k)
    rw [e48] at this
    exact this.symm
  · rw [jp_meet_2 k2] at J er
    rw [jp_pi_upd h0]
    have := jx_vis (post := fun u => match u with | (xr, xs, xd, xw, xk, xl, xp, xn, xb, xm, xh, bk, bl, bp, bn, bb, bm, bh, xf, xt, xq, xu) => post (xr, xs, xd, xw, xk, xl, xp, xn, xb, xm, xh, bk, bl, bp, bn, bb, bm, bh, xf, xt, xq, xu)) (base := t) (xr := xr) (xs := xs) (xd := xd) (xl := L) (xb := B) (xm := xm) (xh := xh) (bk := bk) (bl := bl) (bp := bp) (bn := bn) (bb := bb) (bm := bm) (bh := bh) (xu := xu) (16 - t) t D _ _ _ _ _ (upd xq 0 (nI k)) _ (by omega) (Nat.le_refl t) J I2 ⟨by omega, fun i hi => by rw [show i = 0 from by omega, pk_us, Nat.add_zero, pk_us]⟩ (fun P' N' F' T' R' t' W' e => hpost _ _ _ _ _ _ _ _ _ _ _ (by rw [er, e]))
    rw [Nat.sub_self, show t + 1 - t = 0 + 1 from by omega] at this
    exact ⟨_, this⟩
  · rw [jp_meet_1 k2] at J er
    have := jx_vis (post := fun u => match u with | (xr, xs, xd, xw, xk, xl, xp, xn, xb, xm, xh, bk, bl, bp, bn, bb, bm, bh, xf, xt, xq, xu) => post (xr, xs, xd, xw, xk, xl, xp, xn, xb, xm, xh, bk, bl, bp, bn, bb, bm, bh, xf, xt, xq, xu)) (base := t) (xr := xr) (xs := xs) (xd := xd) (xl := L) (xb := B) (xm := xm) (xh := xh) (bk := bk) (bl := bl) (bp := bp) (bn := bn) (bb := bb) (bm := bm) (bh := bh) (xu := xu) (16 - t) t D _ _ _ _ _ xq _ (by omega) (Nat.le_refl t) J I1 ⟨by omega, fun i hi => by omega⟩ (fun P' N' F' T' R' t' W' e => hpost _ _ _ _ _ _ _ _ _ _ _ (by rw [er, e]))
    rw [Nat.sub_self] at this
    exact ⟨_, this⟩
end
end
section
/-! the loop over what was not met: both sides -/
def jx_C1 (post : Int32 → SX → Prop) : SX → Prop
  | (xr, xs, xd, xw, xk, xl, xp, xn, xb, xm, xh, bk, bl, bp, bn, bb, bm, bh, xf, xt, xq, xu) => ∃ n, wX_mend_91 post xr xs 0 xw xk xl xp xn xb xm xh bk bl bp bn bb bm bh xf xt xq xu n 0 0
def jx_C2 (post : Int32 → SX → Prop) : SX → Prop
  | (xr, xs, xd, xw, xk, xl, xp, xn, xb, xm, xh, bk, bl, bp, bn, bb, bm, bh, xf, xt, xq, xu) => wpX_mendLinks (fun u => jx_C1 post u) (xr, xs, xd, xw, xk, xl, xp, xn, xb, xm, xh, bk, bl, bp, bn, bb, bm, bh, xf, xt, xq, xu)
def jx_C3 (post : Int32 → SX → Prop) : SX → Prop
  | (xr, xs, xd, xw, xk, xl, xp, xn, xb, xm, xh, bk, bl, bp, bn, bb, bm, bh, xf, xt, xq, xu) => wpX_mendMarks (fun u => jx_C2 post u) (xr, xs, xd, xw, xk, xl, xp, xn, xb, xm, xh, bk, bl, bp, bn, bb, bm, bh, xf, xt, xq, xu)
def jy_C1 (post : Int32 → SY → Prop) : SY → Prop
  | (yr, ys, yd, yh, yt, yk, yl, yp, yn, yb, yv, ym, ok, ol, op, on, ob, ov, om, yc, yg, yf, yq, yu, ye) => ∃ n, wY_mend_171 post yr ys yd yh yt n 0 yk yl yp yn yb yv ym ok ol op on ob ov om yc yg yf yq yu ye
theorem jp_Q_n {V M : Nat → Int32} {s0 : jp_MS} (Q : jp_Q V M 1 s0) : ∀ (n : Nat) (s' : jp_MS), n ≤ 15 → jp_fd (fun i => jp_rsc (i + 1)) n s0 = s' → jp_Q V M (n + 1) s' := by
  intro n
  induction n with
  | zero => intro s' _ e; subst e; exact Q
  | succ n ih =>
    intro s' hn e
    generalize em : jp_fd (fun i => jp_rsc (i + 1)) n s0 = sm
    have Qm := ih sm (by omega) em
    refine jp_Q_step (k := n + 1) (by omega) (by omega) Qm ?_
    rw [← em]; exact e
section
variable {xr xs xd xw : Int32} {xk xl xp xn xb xm xh bk bl bp bn bb bm bh xf xt xq xu : Nat → Int32}
theorem jx_rl {post : Int32 → SX → Prop} {V M : Nat → Int32} {s0 : jp_MS} (Q : jp_Q V M 1 s0)
    (hend : ∀ K' L' B' P' N' F' T' R' t' xw' W', jp_fd (fun i => jp_rsc (i + 1)) 15 s0 = (K', L', B', P', N', F', T', R', t') → wpX_dropSharedExtents (fun u => jx_C3 post u) (xr, xs, xd, xw', K', L', jp_pi K' P', jp_ro N', B', xm, xh, bk, bl, bp, bn, bb, bm, bh, F', T', W', xu)) :
    ∃ n, wX_mend_35 post n 1 xr xs xd xw (s0.1) (s0.2.1) (jp_pi s0.1 s0.2.2.2.1) (jp_ro s0.2.2.2.2.1) (s0.2.2.1) xm xh bk bl bp bn bb bm bh (s0.2.2.2.2.2.1) (s0.2.2.2.2.2.2.1) xq xu := by
  refine pk_loop (σ := jp_MS × Int32 × (Nat → Int32)) (fun n i s => wX_mend_35 post n (nI (i + 1)) xr xs xd (s.2.1) (s.1.1) (s.1.2.1) (jp_pi s.1.1 s.1.2.2.2.1) (jp_ro s.1.2.2.2.2.1) (s.1.2.2.1) xm xh bk bl bp bn bb bm bh (s.1.2.2.2.2.2.1) (s.1.2.2.2.2.2.2.1) (s.2.2) xu) (fun i s => jp_fd (fun i => jp_rsc (i + 1)) i s0 = s.1 ∧ jp_Q V M (i + 1) s.1) 15 0 (s0, xw, xq) (by omega) ⟨rfl, Q⟩ (fun n s hI => br_t (nI_le (a := 16) (by omega) (by omega)) ?_) (fun n i s hi hI ih => br_f (nI_ge (b := 16) (by omega) (by omega)) ⟨vp_in_nI (by omega) (by omega), ?_⟩)
  · obtain ⟨⟨K', L', B', P', N', F', T', R', t'⟩, xw', W'⟩ := s
    exact hend K' L' B' P' N' F' T' R' t' xw' W' hI.1
  · obtain ⟨⟨K', L', B', P', N', F', T', R', t'⟩, xw', W'⟩ := s
    obtain ⟨hb, hQ⟩ := hI
    dsimp only at hb hQ ⊢
    have hv : vp_in (nI (i + 1)) 16 := vp_in_nI (by omega) (by omega)
    have next : ∀ K2 L2 B2 P2 N2 F2 T2 R2 t2 xw2 W2, jp_rsc (i + 1) (K', L', B', P', N', F', T', R', t') = (K2, L2, B2, P2, N2, F2, T2, R2, t2) → wX_mend_35 post n (nI (i + 1 + 1)) xr xs xd xw2 K2 L2 (jp_pi K2 P2) (jp_ro N2) B2 xm xh bk bl bp bn bb bm bh F2 T2 W2 xu := by
      intro K2 L2 B2 P2 N2 F2 T2 R2 t2 xw2 W2 e
      refine ih ((K2, L2, B2, P2, N2, F2, T2, R2, t2), xw2, W2) ⟨?_, jp_Q_step (by omega) (by omega) hQ e⟩
      dsimp only
      rw [← e, ← hb]; rfl
    rw [nI_clamp (by omega)]
    refine br_c (fun k0 => nm_r (nI_1 _) (next _ _ _ _ _ _ _ _ _ _ _ (jp_rsc_0 (Or.inl k0)))) (fun k0 => ⟨hv, br_c (fun t0 => ?_) (fun t0 => nm_r (nI_1 _) (next _ _ _ _ _ _ _ _ _ _ _ (jp_rsc_0 (Or.inr t0))))⟩)
    exact jx_rescue hQ (by omega) (by omega) k0 t0 (fun K2 L2 B2 P2 N2 F2 T2 R2 t2 xw2 W2 e => nm_r (nI_1 _) (next K2 L2 B2 P2 N2 F2 T2 R2 t2 xw2 W2 e))
end
section
variable {yr ys yd yh yt : Int32} {yk yl yp yn yb yv ym ok ol op on ob ov om yc yg yf yq yu ye : Nat → Int32}
theorem jy_vanish {post : SY → Prop} {i : Nat} (hi : i < 16) (h : post (yr, ys, yd, yh, yt, upd yk i 0, upd yl i 0, yp, jp_fl yn (64 * i) 64 (-1), jp_fl yb (24 * i) 24 (-1), yv, ym, ok, ol, op, on, ob, ov, om, yc, yg, yf, yq, yu, ye)) : wpY_vanish post (yr, ys, yd, yh, yt, yk, yl, yp, yn, yb, yv, ym, ok, ol, op, on, ob, ov, om, yc, yg, yf, yq, yu, ye) (nI i) := by
  unfold wpY_vanish
  refine ⟨vp_in_nI hi (by omega), ?_⟩
  rw [nI_clamp (n := i) (by omega)]
  refine nm_e ⟨vp_in_nI hi (by omega), nm_e (nm_r (jv_c64 i) ?_)⟩
  refine pk_loop (σ := Nat → Int32) (fun n j s => wY_vanish_19 post (nI i) yr ys yd yh yt n (nI (64 * i + j)) (upd yk i 0) (upd yl i 0) yp s yb yv ym ok ol op on ob ov om yc yg yf yq yu ye) (fun j s => s = jp_fl yn (64 * i) j (-1)) 64 0 yn (by omega) (jp_fl_0 _ _ _).symm (fun n s hI => br_t ?_ (nm_r (jv_c24 i) ?_)) (fun n j s hj hI ih => br_f ?_ ⟨vp_in_nI (by omega) (by omega), ?_⟩)
  · rw [jv_d64]; exact nI_le (by omega) (by omega)
  · subst hI
    refine pk_loop (σ := Nat → Int32) (fun n j s => wY_vanish_48 post (nI i) yr ys yd yh yt n (nI (24 * i + j)) (upd yk i 0) (upd yl i 0) yp (jp_fl yn (64 * i) 64 (-1)) s yv ym ok ol op on ob ov om yc yg yf yq yu ye) (fun j s => s = jp_fl yb (24 * i) j (-1)) 24 0 yb (by omega) (jp_fl_0 _ _ _).symm (fun n s hI => br_t ?_ (by rw [hI]; exact h)) (fun n j s hj hI ih => br_f ?_ ⟨vp_in_nI (by omega) (by omega), ?_⟩)
    · rw [jv_d24]; exact nI_le (by omega) (by omega)
    · rw [jv_d24]; exact nI_ge (by omega) (by omega)
    · rw [nI_clamp (by omega)]
      exact nm_e (nm_r (nI_1 _) (ih _ (by rw [hI, jp_fl_s])))
  · rw [jv_d64]; exact nI_ge (by omega) (by omega)
  · rw [nI_clamp (by omega)]
    exact nm_e (nm_r (nI_1 _) (ih _ (by rw [hI, jp_fl_s])))
theorem jy_rl {post : Int32 → SY → Prop} {V M : Nat → Int32} {s0 : jp_MS} (Q : jp_Q V M 1 s0)
    (hend : ∀ K' L' B' P' N' F' T' R' t', jp_fd (fun i => jp_rsc (i + 1)) 15 s0 = (K', L', B', P', N', F', T', R', t') → wpY_part (fun u => jy_C1 post u) (yr, ys, yd, nI t', nI t', K', L', P', N', B', yv, ym, ok, ol, op, on, ob, ov, om, yc, yg, F', R', yu, T')) :
    ∃ n, wY_mend_72 post n 1 yr ys yd (nI s0.2.2.2.2.2.2.2.2) (nI s0.2.2.2.2.2.2.2.2) (s0.1) (s0.2.1) (s0.2.2.2.1) (s0.2.2.2.2.1) (s0.2.2.1) yv ym ok ol op on ob ov om yc yg (s0.2.2.2.2.2.1) (s0.2.2.2.2.2.2.2.1) yu (s0.2.2.2.2.2.2.1) := by
  refine pk_loop (σ := jp_MS) (fun n i s => wY_mend_72 post n (nI (i + 1)) yr ys yd (nI s.2.2.2.2.2.2.2.2) (nI s.2.2.2.2.2.2.2.2) (s.1) (s.2.1) (s.2.2.2.1) (s.2.2.2.2.1) (s.2.2.1) yv ym ok ol op on ob ov om yc yg (s.2.2.2.2.2.1) (s.2.2.2.2.2.2.2.1) yu (s.2.2.2.2.2.2.1)) (fun i s => jp_fd (fun i => jp_rsc (i + 1)) i s0 = s ∧ jp_Q V M (i + 1) s) 15 0 s0 (by omega) ⟨rfl, Q⟩ (fun n s hI => br_t (nI_le (a := 16) (by omega) (by omega)) ?_) (fun n i s hi hI ih => br_f (nI_ge (b := 16) (by omega) (by omega)) ⟨vp_in_nI (by omega) (by omega), ?_⟩)
  · obtain ⟨K', L', B', P', N', F', T', R', t'⟩ := s
    exact hend K' L' B' P' N' F' T' R' t' hI.1
  · obtain ⟨K', L', B', P', N', F', T', R', t'⟩ := s
    obtain ⟨hb, hQ⟩ := hI
    dsimp only at hb hQ ⊢
    have hv : vp_in (nI (i + 1)) 16 := vp_in_nI (by omega) (by omega)
    have next : ∀ K2 L2 B2 P2 N2 F2 T2 R2 t2, jp_rsc (i + 1) (K', L', B', P', N', F', T', R', t') = (K2, L2, B2, P2, N2, F2, T2, R2, t2) → wY_mend_72 post n (nI (i + 1 + 1)) yr ys yd (nI t2) (nI t2) K2 L2 P2 N2 B2 yv ym ok ol op on ob ov om yc yg F2 R2 yu T2 := by
      intro K2 L2 B2 P2 N2 F2 T2 R2 t2 e
      refine ih (K2, L2, B2, P2, N2, F2, T2, R2, t2) ⟨?_, jp_Q_step (by omega) (by omega) hQ e⟩
      rw [← e, ← hb]; rfl
    rw [nI_clamp (n := i + 1) (by omega)]
    refine br_c (fun k0 => nm_r (nI_1 _) (next _ _ _ _ _ _ _ _ _ (jp_rsc_0 (Or.inl k0)))) (fun k0 => ⟨hv, br_c (fun t0 => nm_e ?_) (fun t0 => nm_r (nI_1 _) (next _ _ _ _ _ _ _ _ _ (jp_rsc_0 (Or.inr t0))))⟩)
    have hNR := hQ.1.2.2.2.2.2.2.1
    have hEN := hQ.1.2.2.2.2.2.2.2.2.1 0 (by omega)
    rw [show (48 : Int32) + nI (i + 1) = nI (48 + (i + 1)) from nI_add 48 (i + 1), nI_clamp (n := 48 + (i + 1)) (by omega), jp_nneg (by omega) (hNR (48 + (i + 1)) (by omega))]
    have hv2 : vp_in (nI (48 + (i + 1))) 1024 := vp_in_nI (by omega) (by omega)
    have gone : ¬ (N' (48 + (i + 1)) = -1 ∧ jp_en N' 0 < 10) → wY_mend_131 post (wY_mend_72 post n) (nI (i + 1)) yr ys yd (nI t') (nI t') K' L' P' N' B' yv ym ok ol op on ob ov om yc yg (upd F' 1 (F' 1 + 1)) R' yu T' := by
      intro h
      unfold wY_mend_131
      exact jy_vanish (by omega) (nm_r (nI_1 _) (next _ _ _ _ _ _ _ _ _ (jp_rsc_2 k0 t0 h)))
    refine ⟨hv2, br_c (fun z => gone (fun q => z q.1)) (fun z => jy_entries hNR (d := 0) (by omega) (pk_eq (jp_en N' 0) 10 (fun e => gone (fun q => by omega)) (fun e => ⟨hv2, nm_e ?_⟩)))⟩
    have hN : N' (48 + (i + 1)) = -1 := Classical.byContradiction z
    have hf : jp_en N' 0 < 10 := by omega
    obtain ⟨D, J, I1, I2, t16, hroom⟩ := jp_Q_link hQ (by omega) (by omega) k0 t0 ⟨hN, hf⟩
    have er := jp_rsc_1 (L := L') (B := B') (P := P') (F := F') (R := R') (t := t') k0 t0 ⟨hN, hf⟩
    refine jy_meet (d := 0) (by omega) hroom (fun k2 => ?_) (fun k2 => ?_)
    · rw [jp_meet_2 k2] at J er
      exact ⟨_, jy_vis (16 - t') t' D _ _ _ _ _ _ (by omega) J I2 (fun P2 N2 F2 T2 R2 t2 e => nm_r (nI_1 _) (next _ _ _ _ _ _ _ _ _ (by rw [er, e])))⟩
    · rw [jp_meet_1 k2] at J er
      exact ⟨_, jy_vis (16 - t') t' D _ _ _ _ _ _ (by omega) J I1 (fun P2 N2 F2 T2 R2 t2 e => nm_r (nI_1 _) (next _ _ _ _ _ _ _ _ _ (by rw [er, e])))⟩
end
end
section
/-! extents that share blocks -/
def jp_ln (B : Nat → Int32) (f p b : Nat) : Nat → Nat → Nat
  | 0, n => n
  | m + 1, n => if B (24 * f + p + n) = nI (b + n) then jp_ln B f p b m (n + 1) else n
def jp_len (B : Nat → Int32) (f p b : Nat) : Nat := jp_ln B f p b (23 - p) 1
theorem jp_ln_Len {B : Nat → Int32} {f p b : Nat} : ∀ m n, 1 ≤ n → p + n + m = 24 → (∀ j, j < n → B (24 * f + p + j) = nI (b + j)) → jp_Len B f p b (jp_ln B f p b m n) := by
  intro m
  induction m with
  | zero => intro n h1 h2 h3; exact ⟨h1, by unfold jp_ln; omega, h3, fun h => by unfold jp_ln at h; omega⟩
  | succ m ih =>
    intro n h1 h2 h3
    unfold jp_ln
    by_cases e : B (24 * f + p + n) = nI (b + n)
    · rw [if_pos e]
      refine ih (n + 1) (by omega) (by omega) (fun j hj => ?_)
      by_cases q : j < n
      · exact h3 j q
      · rw [show j = n from by omega]; exact e
    · rw [if_neg e]; exact ⟨h1, by omega, h3, fun _ => e⟩
theorem jp_len_Len {B : Nat → Int32} {f p b : Nat} (hp : p < 24) (h : B (24 * f + p) = nI b) : jp_Len B f p b (jp_len B f p b) :=
  jp_ln_Len (23 - p) 1 (Nat.le_refl 1) (by omega) (fun j hj => by rw [show j = 0 from by omega]; exact h)
abbrev jp_PS : Type := (Nat → Int32) × (Nat → Int32) × (Nat → Int32)
def jp_sh (U : Nat → Int32) (b n : Nat) : Nat := jp_cn (fun j => decide (U (b + j) = 1)) n
def jp_u1 (lo b n : Nat) : jp_PS → jp_PS
  | (B, U, F) => if 0 < jp_sh U b n then (jp_fl B lo n (-1), U, upd F 2 (F 2 + 1)) else (B, jp_fl U b n 1, F)
def jp_pf (f : Nat) : Nat → Nat → jp_PS → jp_PS
  | 0, _, s => s
  | m + 1, p, s => if 24 ≤ p then s else if s.1 (24 * f + p) = -1 then jp_pf f m (p + 1) s else
      jp_pf f m (p + jp_len s.1 f p (s.1 (24 * f + p)).toNatClampNeg) (jp_u1 (24 * f + p) (s.1 (24 * f + p)).toNatClampNeg (jp_len s.1 f p (s.1 (24 * f + p)).toNatClampNeg) s)
theorem jp_pf_e {f m p : Nat} {s : jp_PS} (h : 24 ≤ p) : jp_pf f m p s = s := by
  cases m with
  | zero => rfl
  | succ m => unfold jp_pf; rw [if_pos h]
theorem jp_pf_h {f m p : Nat} {s : jp_PS} (h : p < 24) (e : s.1 (24 * f + p) = -1) : jp_pf f (m + 1) p s = jp_pf f m (p + 1) s := by
  rw [jp_pf, if_neg (by omega), if_pos e]
theorem jp_pf_m {f m p b n : Nat} {s : jp_PS} (h : p < 24) (hb : b < 64) (e : s.1 (24 * f + p) = nI b) (hL : jp_Len s.1 f p b n) : jp_pf f (m + 1) p s = jp_pf f m (p + n) (jp_u1 (24 * f + p) b n s) := by
  rw [jp_pf, if_neg (by omega), if_neg (by rw [e]; exact jv_m1n b (by omega)), e, nI_clamp (by omega), jp_Len_un hL (jp_len_Len h e)]
theorem jp_Len_b {B : Nat → Int32} {f p b n : Nat} (hB : jp_BR B) (hf : f < 16) (hL : jp_Len B f p b n) (hb : b < 64) : b + n ≤ 64 := by
  obtain ⟨l1, l2, l3, l4⟩ := hL
  have := l3 (n - 1) (by omega)
  rcases hB (24 * f + p + (n - 1)) (by omega) with z | ⟨c, hc, z⟩
  · rw [this] at z; exact absurd z (jv_m1n _ (by omega))
  · rw [this] at z
    have := jv_inj z (by omega) (by omega)
    omega
/-- where an extent may begin -/
def jp_bd (B : Nat → Int32) (f p : Nat) : Prop := p < 24 → ¬ B (24 * f + p) = -1 → jp_be B f p = true
theorem jp_u1_bd {B U F : Nat → Int32} {f p b n : Nat} (hL : jp_Len B f p b n) (hb : b < 64) : jp_bd (jp_u1 (24 * f + p) b n (B, U, F)).1 f (p + n) ∧ ∀ q, p < q → q < p + n → jp_be (jp_u1 (24 * f + p) b n (B, U, F)).1 f q = false := by
  obtain ⟨l1, l2, l3, l4⟩ := hL
  unfold jp_u1
  dsimp only
  by_cases h : 0 < jp_sh U b n
  · rw [if_pos h]
    dsimp only
    refine ⟨fun h1 h2 => ?_, fun q h1 h2 => ?_⟩
    · unfold jp_be
      rw [jp_fl_in (s := 24 * f + (p + n) - 1) (by omega) (by omega)]
      simp only [decide_eq_true_eq]
      exact ⟨h2, Or.inr (Or.inl trivial)⟩
    · unfold jp_be
      rw [jp_fl_in (s := 24 * f + q) (by omega) (by omega)]
      simp
  · rw [if_neg h]
    dsimp only
    refine ⟨fun h1 h2 => ?_, fun q h1 h2 => ?_⟩
    · unfold jp_be
      simp only [decide_eq_true_eq]
      refine ⟨h2, Or.inr (Or.inr (fun z => l4 h1 ?_))⟩
      have := l3 (n - 1) (by omega)
      rw [show 24 * f + p + (n - 1) = 24 * f + (p + n) - 1 from by omega] at this
      rw [this, nI_1] at z
      rw [show 24 * f + p + n = 24 * f + (p + n) from by omega, ← z]
      exact congrArg nI (by omega)
    · unfold jp_be
      have e1 := l3 (q - p) (by omega)
      have e2 := l3 (q - p - 1) (by omega)
      rw [show 24 * f + p + (q - p) = 24 * f + q from by omega] at e1
      rw [show 24 * f + p + (q - p - 1) = 24 * f + q - 1 from by omega] at e2
      rw [e1, e2]
      apply decide_eq_false
      rintro ⟨_, z | z | z⟩
      · omega
      · exact jv_m1n _ (by omega) z
      · exact z (by rw [nI_1]; exact congrArg nI (by omega))
def jp_UI (g : Nat) (B U : Nat → Int32) : Prop := (∀ s b, s < g → b < 64 → B s = nI b → U b = 1) ∧ (∀ s t b, s < g → t < g → b < 64 → B s = nI b → B t = nI b → s = t)
def jp_PV (K : Nat → Int32) (g : Nat) : jp_PS → Prop
  | (B, U, _) => jp_BR B ∧ jp_BE K B ∧ (∀ i, 384 ≤ i → B i = 0) ∧ jp_XN B ∧ jp_UI g B U
theorem jp_PV_h {K B U F : Nat → Int32} {g : Nat} (h : jp_PV K g (B, U, F)) (e : B g = -1) : jp_PV K (g + 1) (B, U, F) := by
  obtain ⟨a, b, c, d, u1, u2⟩ := h
  refine ⟨a, b, c, d, fun s x hs hx q => ?_, fun s t x hs ht hx q1 q2 => ?_⟩
  · by_cases z : s = g
    · rw [z, e] at q; exact absurd q.symm (jv_m1n x (by omega))
    · exact u1 s x (by omega) hx q
  · have z1 : s ≠ g := fun z => by rw [z, e] at q1; exact absurd q1.symm (jv_m1n x (by omega))
    have z2 : t ≠ g := fun z => by rw [z, e] at q2; exact absurd q2.symm (jv_m1n x (by omega))
    exact u2 s t x (by omega) (by omega) hx q1 q2
theorem jp_fl_be {B : Nat → Int32} {f p b n q : Nat} (hL : jp_Len B f p b n) (hb : b < 64) (h24 : q < 24) (h : jp_be (jp_fl B (24 * f + p) n (-1)) f q = true) : jp_be B f q = true := by
  obtain ⟨l1, l2, l3, l4⟩ := hL
  unfold jp_be at h ⊢
  simp only [decide_eq_true_eq] at h ⊢
  by_cases e1 : p ≤ q ∧ q < p + n
  · rw [jp_fl_in (s := 24 * f + q) (by omega) (by omega)] at h
    exact absurd rfl h.1
  · rw [jp_fl_out (s := 24 * f + q) (by omega)] at h
    refine ⟨h.1, ?_⟩
    by_cases q0 : q = 0
    · exact Or.inl q0
    · by_cases e2 : q = p + n
      · refine Or.inr (Or.inr (fun z => l4 (by omega) ?_))
        have := l3 (n - 1) (by omega)
        rw [show 24 * f + p + (n - 1) = 24 * f + q - 1 from by omega] at this
        rw [this, nI_1] at z
        rw [show 24 * f + p + n = 24 * f + q from by omega, ← z]
        exact congrArg nI (by omega)
      · rw [jp_fl_out (s := 24 * f + q - 1) (by omega)] at h
        exact h.2
theorem jp_PV_m {K B U F : Nat → Int32} {f p b n : Nat} (h : jp_PV K (24 * f + p) (B, U, F)) (hf : f < 16) (hk : K f = 1) (hb : b < 64) (hL : jp_Len B f p b n) : jp_PV K (24 * f + (p + n)) (jp_u1 (24 * f + p) b n (B, U, F)) := by
  obtain ⟨hB, hBE, hZ, hXN, u1, u2⟩ := h
  have hbn := jp_Len_b hB hf hL hb
  have hL2 := hL
  obtain ⟨l1, l2, l3, l4⟩ := hL
  unfold jp_u1
  dsimp only
  by_cases hs : 0 < jp_sh U b n
  · rw [if_pos hs]
    have old : ∀ s x, s < 24 * f + (p + n) → x < 64 → jp_fl B (24 * f + p) n (-1) s = nI x → s < 24 * f + p ∧ B s = nI x := by
      intro s x h1 hx e
      by_cases z : 24 * f + p ≤ s
      · rw [jp_fl_in z (by omega)] at e; exact absurd e.symm (jv_m1n x (by omega))
      · rw [jp_fl_out (by omega)] at e; exact ⟨by omega, e⟩
    refine ⟨jp_BR_fl hB _ _, fun i hi hk1 q hq => ?_, fun i hi => by rw [jp_fl_out (by omega)]; exact hZ i hi, fun i hi => ?_, fun s x h1 hx e => ?_, fun s t x h1 h2 hx e1 e2 => ?_⟩
    · by_cases z : 24 * f + p ≤ 24 * i + q ∧ 24 * i + q < 24 * f + p + n
      · exact jp_fl_in z.1 z.2
      · rw [jp_fl_out (by omega)]; exact hBE i hi hk1 q hq
    · by_cases e : i = f
      · rw [e]
        exact Nat.le_trans (jp_cn_mono (fun q hq hb' => jp_fl_be hL2 hb hq hb')) (hXN f hf)
      · rw [jp_ne_out (by omega) e]; exact hXN i hi
    · obtain ⟨z1, z2⟩ := old s x h1 hx e
      exact u1 s x z1 hx z2
    · obtain ⟨z1, z2⟩ := old s x h1 hx e1
      obtain ⟨y1, y2⟩ := old t x h2 hx e2
      exact u2 s t x z1 y1 hx z2 y2
  · rw [if_neg hs]
    have none : ∀ j, j < n → ¬ U (b + j) = 1 := by
      intro j hj e
      exact hs (jp_cn_pos hj (decide_eq_true e))
    refine ⟨hB, hBE, hZ, hXN, fun s x h1 hx e => ?_, fun s t x h1 h2 hx e1 e2 => ?_⟩
    · by_cases z : s < 24 * f + p
      · have := u1 s x z hx e
        by_cases y : b ≤ x ∧ x < b + n
        · exact jp_fl_in y.1 y.2
        · rw [jp_fl_out (by omega)]; exact this
      · have q := l3 (s - (24 * f + p)) (by omega)
        rw [show 24 * f + p + (s - (24 * f + p)) = s from by omega, e] at q
        have := jv_inj q (by omega) (by omega)
        exact jp_fl_in (by omega) (by omega)
    · have inn : ∀ s, 24 * f + p ≤ s → s < 24 * f + (p + n) → B s = nI x → x = b + (s - (24 * f + p)) := by
        intro s z1 z2 e
        have q := l3 (s - (24 * f + p)) (by omega)
        rw [show 24 * f + p + (s - (24 * f + p)) = s from by omega, e] at q
        exact jv_inj q (by omega) (by omega)
      by_cases zs : s < 24 * f + p
      · by_cases zt : t < 24 * f + p
        · exact u2 s t x zs zt hx e1 e2
        · have q := inn t (by omega) h2 e2
          have := u1 s x zs hx e1
          rw [q] at this
          exact absurd this (none _ (by omega))
      · have q := inn s (by omega) h1 e1
        by_cases zt : t < 24 * f + p
        · have := u1 t x zt hx e2
          rw [q] at this
          exact absurd this (none _ (by omega))
        · have q2 := inn t (by omega) h2 e2
          omega
theorem jp_PV_pf {K : Nat → Int32} {f : Nat} (hf : f < 16) : ∀ (m p : Nat) (s s' : jp_PS), p ≤ 24 → 24 ≤ p + m → jp_PV K (24 * f + p) s → jp_pf f m p s = s' → jp_PV K (24 * f + 24) s' := by
  intro m
  induction m with
  | zero =>
    intro p s s' h1 h2 h e
    rw [jp_pf_e (by omega)] at e
    rw [show p = 24 from by omega] at h
    subst e; exact h
  | succ m ih =>
    intro p s s' h1 h2 h e
    by_cases h24 : 24 ≤ p
    · rw [jp_pf_e h24] at e
      rw [show p = 24 from by omega] at h
      subst e; exact h
    · obtain ⟨B, U, F⟩ := s
      rcases h.1 (24 * f + p) (by omega) with z | ⟨b, hb, z⟩
      · rw [jp_pf_h (by omega) z] at e
        exact ih (p + 1) _ s' (by omega) (by omega) (jp_PV_h h z) e
      · have hL := jp_len_Len (B := B) (f := f) (p := p) (b := b) (by omega) z
        rw [jp_pf_m (by omega) hb z hL] at e
        have hk : K f = 1 := Classical.byContradiction fun q => by
          have := h.2.1 f hf q p (by omega)
          rw [z] at this
          exact jv_m1n b (by omega) this
        have l1 := hL.1
        have l2 := hL.2.1
        exact ih _ _ s' (by omega) (by omega) (jp_PV_m h hf hk hb hL) e
theorem jp_pf_row {f : Nat} {s : jp_PS} (h : ∀ p, p < 24 → s.1 (24 * f + p) = -1) : ∀ m p, jp_pf f m p s = s := by
  intro m
  induction m with
  | zero => intro p; rfl
  | succ m ih =>
    intro p
    by_cases h24 : 24 ≤ p
    · exact jp_pf_e h24
    · rw [jp_pf_h (by omega) (h p (by omega))]; exact ih (p + 1)
theorem jp_PV_n {K : Nat → Int32} {s0 : jp_PS} {c : Nat} (hc : 24 ≤ c) (h : jp_PV K 0 s0) : ∀ (n : Nat) (s' : jp_PS), n ≤ 16 → jp_fd (fun f => jp_pf f c 0) n s0 = s' → jp_PV K (24 * n) s' := by
  intro n
  induction n with
  | zero => intro s' _ e; subst e; exact h
  | succ n ih =>
    intro s' hn e
    generalize em : jp_fd (fun f => jp_pf f c 0) n s0 = sm
    have := jp_PV_pf (f := n) (by omega) c 0 sm s' (by omega) (by omega) (ih sm (by omega) em) (by rw [← em]; exact e)
    rw [show 24 * (n + 1) = 24 * n + 24 from by omega]
    exact this
end
section
/-! extents that share blocks: the walks -/
theorem jp_u1_t {B U F : Nat → Int32} {lo b n : Nat} (h : 0 < jp_sh U b n) : jp_u1 lo b n (B, U, F) = (jp_fl B lo n (-1), U, upd F 2 (F 2 + 1)) := if_pos h
theorem jp_u1_f {B U F : Nat → Int32} {lo b n : Nat} (h : ¬ 0 < jp_sh U b n) : jp_u1 lo b n (B, U, F) = (B, jp_fl U b n 1, F) := if_neg h
section
variable {xr xs xd xw : Int32} {xk xl xp xn xb xm xh bk bl bp bn bb bm bh xf xt xq xu : Nat → Int32}
theorem jx_useOrDrop {post : SX → Prop} {f p b n : Nat} (hf : f < 16) (hp : p < 24) (hB : jp_BR xb) (hb : b < 64) (e : xb (24 * f + p) = nI b) (hL : jp_Len xb f p b n)
    (hpost : ∀ B' U' F', jp_u1 (24 * f + p) b n (xb, xu, xf) = (B', U', F') → post (xr, xs, xd, xw, xk, xl, xp, xn, B', xm, xh, bk, bl, bp, bn, bb, bm, bh, F', xt, xq, U')) : wpX_useOrDrop post (xr, xs, xd, xw, xk, xl, xp, xn, xb, xm, xh, bk, bl, bp, bn, bb, bm, bh, xf, xt, xq, xu) (nI f) (nI p) := by
  have hbn := jp_Len_b hB hf hL hb
  unfold wpX_useOrDrop
  refine nm_r (jv_f24 f p) (jx_lengthOfExtent hf hp hb e (fun n' hL' => ?_))
  rw [jp_Len_un hL' hL]
  obtain ⟨l1, l2, l3, l4⟩ := hL
  -- the second loop, nothing shared
  have keep : ¬ 0 < jp_sh xu b n → ∃ m, wX_useOrDrop_67 post (nI (24 * f + p)) (nI n) 0 xr xs xd xw m 0 xk xl xp xn xb xm xh bk bl bp bn bb bm bh xf xt xq xu := by
    intro hs
    refine pk_loop (σ := Nat → Int32) (fun m i s => wX_useOrDrop_67 post (nI (24 * f + p)) (nI n) 0 xr xs xd xw m (nI i) xk xl xp xn xb xm xh bk bl bp bn bb bm bh xf xt xq s) (fun i s => s = jp_fl xu b i 1) n 0 xu (by omega) (jp_fl_0 _ _ _).symm (fun m s hI => br_t (nI_le (by omega) (by omega)) (br_t rfl ?_)) (fun m i s hi hI ih => br_f (nI_ge hi (by omega)) (br_t rfl ?_))
    · refine hpost _ _ _ ?_
      rw [jp_u1_f hs, hI]
    · rw [nI_add, nI_clamp (n := 24 * f + p + i) (by omega), l3 i hi]
      refine ⟨vp_in_nI (by omega) (by omega), vp_in_nI (by omega) (by omega), ?_⟩
      rw [nI_clamp (by omega)]
      exact nm_e (nm_r (nI_1 _) (ih _ (by rw [hI, jp_fl_s])))
  have drop : 0 < jp_sh xu b n → ∃ m, wX_useOrDrop_67 post (nI (24 * f + p)) (nI n) 1 xr xs xd xw m 0 xk xl xp xn xb xm xh bk bl bp bn bb bm bh xf xt xq xu := by
    intro hs
    refine pk_loop (σ := Nat → Int32) (fun m i s => wX_useOrDrop_67 post (nI (24 * f + p)) (nI n) 1 xr xs xd xw m (nI i) xk xl xp xn s xm xh bk bl bp bn bb bm bh xf xt xq xu) (fun i s => s = jp_fl xb (24 * f + p) i (-1)) n 0 xb (by omega) (jp_fl_0 _ _ _).symm (fun m s hI => br_t (nI_le (by omega) (by omega)) (br_f (by decide) (nm_e ?_))) (fun m i s hi hI ih => br_f (nI_ge hi (by omega)) (br_f (by decide) ?_))
    · refine hpost _ _ _ ?_
      rw [jp_u1_t hs, hI]
    · rw [nI_add, nI_clamp (n := 24 * f + p + i) (by omega)]
      exact ⟨vp_in_nI (by omega) (by omega), nm_e (nm_r (nI_1 _) (ih _ (by rw [hI, jp_fl_s])))⟩
  refine pk_loop (σ := Int32) (fun m i s => wX_useOrDrop_21 post (nI (24 * f + p)) (nI n) xr xs xd xw xk xl xp xn xb xm xh bk bl bp bn bb bm bh xf xt xq xu m s (nI i)) (fun i s => (s = 0 ∧ jp_sh xu b i = 0) ∨ (s = 1 ∧ 0 < jp_sh xu b i)) n 0 0 (by omega) (Or.inl ⟨rfl, rfl⟩) (fun m s hI => br_t (nI_le (by omega) (by omega)) ?_) (fun m i s hi hI ih => br_f (nI_ge hi (by omega)) ?_)
  · rcases hI with ⟨e1, e2⟩ | ⟨e1, e2⟩
    · subst e1; exact keep (by omega)
    · subst e1; exact drop e2
  · have es : jp_sh xu b (i + 1) = jp_sh xu b i + (decide (xu (b + i) = 1)).toNat := rfl
    rcases hI with ⟨e1, e2⟩ | ⟨e1, e2⟩
    · subst e1
      refine br_t rfl ?_
      rw [nI_add, nI_clamp (n := 24 * f + p + i) (by omega), l3 i hi]
      refine ⟨vp_in_nI (by omega) (by omega), vp_in_nI (by omega) (by omega), ?_⟩
      rw [nI_clamp (by omega)]
      refine br_c (fun q => nm_r (nI_1 _) (ih 1 (Or.inr ⟨rfl, ?_⟩))) (fun q => nm_r (nI_1 _) (ih 0 (Or.inl ⟨rfl, ?_⟩)))
      · rw [es, jp_t1 q]; omega
      · rw [es, jp_t0 q]; omega
    · subst e1
      exact br_f (by decide) (nm_r (nI_1 _) (ih 1 (Or.inr ⟨rfl, by omega⟩)))
theorem jx_pfile {post : SX → Prop} {J : Int32 → Int32 → Int32 → Int32 → Int32 → (Nat → Int32) → (Nat → Int32) → (Nat → Int32) → (Nat → Int32) → (Nat → Int32) → (Nat → Int32) → (Nat → Int32) → (Nat → Int32) → (Nat → Int32) → (Nat → Int32) → (Nat → Int32) → (Nat → Int32) → (Nat → Int32) → (Nat → Int32) → (Nat → Int32) → (Nat → Int32) → (Nat → Int32) → (Nat → Int32) → Prop} {f : Nat} (hf : f < 16) (hk : xk f = 1) :
    ∀ (m p q : Nat) (B U F : Nat → Int32), p + q = 24 → q ≤ m → jp_BR B → jp_bd B f p → (∀ B' U' F', jp_pf f m p (B, U, F) = (B', U', F') → J (nI (f + 1)) xr xs xd xw xk xl xp xn B' xm xh bk bl bp bn bb bm bh F' xt xq U') → wX_dropSharedExtents_31 post J (nI f) (q + 1) (nI p) xr xs xd xw xk xl xp xn B xm xh bk bl bp bn bb bm bh F xt xq U := by
  have hv : vp_in (nI f) 16 := vp_in_nI hf (by omega)
  intro m
  induction m with
  | zero =>
    intro p q B U F h1 h2 hB hbd hJ
    exact br_t (nI_le (a := 24) (by omega) (by omega)) (nm_r (nI_1 _) (hJ B U F rfl))
  | succ m ih =>
    intro p q B U F h1 h2 hB hbd hJ
    by_cases h24 : 24 ≤ p
    · rw [jp_pf_e h24] at hJ
      exact br_t (nI_le (a := 24) h24 (by omega)) (nm_r (nI_1 _) (hJ B U F rfl))
    · obtain ⟨q, rfl⟩ : ∃ q', q = q' + 1 := ⟨q - 1, by omega⟩
      refine br_f (nI_ge (b := 24) (by omega) (by omega)) ⟨hv, ?_⟩
      rw [nI_clamp (n := f) (by omega)]
      refine br_t hk ?_
      rcases hB (24 * f + p) (by omega) with z | ⟨b, hb, z⟩
      · rw [jp_pf_h (by omega) z] at hJ
        refine jx_startsExtent hf (by omega) (fun hbe => ?_) (fun hbe => br_t rfl (nm_r (nI_1 _) (ih (p + 1) q B U F (by omega) (by omega) hB (fun a1 a2 => ?_) hJ)))
        · unfold jp_be at hbe; simp only [decide_eq_true_eq] at hbe; exact absurd z hbe.1
        · unfold jp_be; simp only [decide_eq_true_eq]
          exact ⟨a2, Or.inr (Or.inl (by rw [show 24 * f + (p + 1) - 1 = 24 * f + p from by omega]; exact z))⟩
      · have hL := jp_len_Len (B := B) (f := f) (p := p) (b := b) (by omega) z
        generalize jp_len B f p b = n at hL
        rw [jp_pf_m (by omega) hb z hL] at hJ
        have hbe := hbd (by omega) (by rw [z]; exact jv_m1n b (by omega))
        refine jx_startsExtent hf (by omega) (fun _ => br_f (by decide) (jx_useOrDrop hf (by omega) hB hb z hL (fun B' U' F' e => ?_))) (fun hn => by rw [hn] at hbe; exact Bool.noConfusion hbe)
        obtain ⟨b1, b2⟩ := jp_u1_bd (U := U) (F := F) hL hb
        rw [e] at b1 b2 hJ
        dsimp only at b1 b2
        have l1 := hL.1
        have l2 := hL.2.1
        have hB' : jp_BR B' := by
          by_cases hs : 0 < jp_sh U b n
          · rw [jp_u1_t hs] at e; cases e; exact jp_BR_fl hB _ _
          · rw [jp_u1_f hs] at e; cases e; exact hB
        have skip : ∀ i t, p + 1 + t + i = p + n → wX_dropSharedExtents_31 post J (nI f) (23 - (p + t) + 1) (nI (p + 1 + t)) xr xs xd xw xk xl xp xn B' xm xh bk bl bp bn bb bm bh F' xt xq U' := by
          intro i
          induction i with
          | zero =>
            intro t ht
            have := ih (p + n) (24 - (p + n)) B' U' F' (by omega) (by omega) hB' b1 hJ
            rw [show p + 1 + t = p + n from by omega, show 23 - (p + t) = 24 - (p + n) from by omega]
            exact this
          | succ i ih2 =>
            intro t ht
            obtain ⟨w, hw⟩ : ∃ w, 23 - (p + t) = w + 1 := ⟨22 - (p + t), by omega⟩
            rw [hw]
            refine br_f (nI_ge (b := 24) (by omega) (by omega)) ⟨hv, ?_⟩
            rw [nI_clamp (n := f) (by omega)]
            refine br_t hk (jx_startsExtent hf (by omega) (fun hy => ?_) (fun _ => br_t rfl (nm_r (nI_1 _) ?_)))
            · rw [b2 (p + 1 + t) (by omega) (by omega)] at hy; exact Bool.noConfusion hy
            · have := ih2 (t + 1) (by omega)
              rw [show 23 - (p + (t + 1)) = w from by omega] at this
              exact this
        refine nm_r (nI_1 _) ?_
        have := skip (n - 1) 0 (by omega)
        rw [show 23 - (p + 0) = q from by omega] at this
        exact this
theorem jx_pskip {post : SX → Prop} {J : Int32 → Int32 → Int32 → Int32 → Int32 → (Nat → Int32) → (Nat → Int32) → (Nat → Int32) → (Nat → Int32) → (Nat → Int32) → (Nat → Int32) → (Nat → Int32) → (Nat → Int32) → (Nat → Int32) → (Nat → Int32) → (Nat → Int32) → (Nat → Int32) → (Nat → Int32) → (Nat → Int32) → (Nat → Int32) → (Nat → Int32) → (Nat → Int32) → (Nat → Int32) → Prop} {f : Nat} (hf : f < 16) (hk : ¬ xk f = 1) (hJ : J (nI (f + 1)) xr xs xd xw xk xl xp xn xb xm xh bk bl bp bn bb bm bh xf xt xq xu) : ∃ n, wX_dropSharedExtents_31 post J (nI f) n 0 xr xs xd xw xk xl xp xn xb xm xh bk bl bp bn bb bm bh xf xt xq xu := by
  refine pk_loop (σ := Unit) (fun n p _ => wX_dropSharedExtents_31 post J (nI f) n (nI p) xr xs xd xw xk xl xp xn xb xm xh bk bl bp bn bb bm bh xf xt xq xu) (fun _ _ => True) 24 0 () (by omega) trivial (fun n _ _ => br_t (nI_le (a := 24) (by omega) (by omega)) (nm_r (nI_1 _) hJ)) (fun n p _ hp _ ih => br_f (nI_ge (b := 24) hp (by omega)) ⟨vp_in_nI hf (by omega), ?_⟩)
  rw [nI_clamp (n := f) (by omega)]
  exact br_f hk (nm_r (nI_1 _) (ih () trivial))
theorem jx_drop {post : SX → Prop} {c : Nat} (hc : 24 ≤ c) (hPV : jp_PV xk 0 (xb, jp_fl xu 0 64 0, xf))
    (hpost : ∀ B' U' F', jp_fd (fun f => jp_pf f c 0) 16 (xb, jp_fl xu 0 64 0, xf) = (B', U', F') → post (xr, xs, xd, xw, xk, xl, xp, xn, B', xm, xh, bk, bl, bp, bn, bb, bm, bh, F', xt, xq, U')) : wpX_dropSharedExtents post (xr, xs, xd, xw, xk, xl, xp, xn, xb, xm, xh, bk, bl, bp, bn, bb, bm, bh, xf, xt, xq, xu) := by
  unfold wpX_dropSharedExtents
  refine pk_loop (σ := Nat → Int32) (fun n i s => wX_dropSharedExtents_2 post xr xs xd xw n (nI i) xk xl xp xn xb xm xh bk bl bp bn bb bm bh xf xt xq s) (fun i s => s = jp_fl xu 0 i 0) 64 0 xu (by omega) (jp_fl_0 _ _ _).symm (fun n s hI => br_t (nI_le (a := 64) (by omega) (by omega)) ?_) (fun n i s hi hI ih => br_f (nI_ge (b := 64) hi (by omega)) ⟨vp_in_nI hi (by omega), ?_⟩)
  · subst hI
    refine pk_loop (σ := jp_PS) (fun n i s => wX_dropSharedExtents_23 post n (nI i) xr xs xd xw xk xl xp xn (s.1) xm xh bk bl bp bn bb bm bh (s.2.2) xt xq (s.2.1)) (fun i s => jp_fd (fun f => jp_pf f c 0) i (xb, jp_fl xu 0 64 0, xf) = s) 16 0 (xb, jp_fl xu 0 64 0, xf) (by omega) rfl (fun n s hI => br_t (nI_le (a := 16) (by omega) (by omega)) ?_) (fun n i s hi hI ih => br_f (nI_ge (b := 16) hi (by omega)) ?_)
    · obtain ⟨B', U', F'⟩ := s
      exact hpost B' U' F' hI
    · have hP := jp_PV_n hc hPV i s (by omega) hI
      obtain ⟨B', U', F'⟩ := s
      dsimp only
      have next : ∀ B2 U2 F2, jp_pf i c 0 (B', U', F') = (B2, U2, F2) → wX_dropSharedExtents_23 post n (nI (i + 1)) xr xs xd xw xk xl xp xn B2 xm xh bk bl bp bn bb bm bh F2 xt xq U2 := by
        intro B2 U2 F2 e
        refine ih (B2, U2, F2) ?_
        rw [← e, ← hI]; rfl
      by_cases hk : xk i = 1
      · exact ⟨_, jx_pfile hi hk c 0 24 B' U' F' (by omega) hc hP.1 (fun _ a => by unfold jp_be; simp only [decide_eq_true_eq]; exact ⟨a, Or.inl trivial⟩) next⟩
      · exact jx_pskip hi hk (next B' U' F' (jp_pf_row (fun p hp => hP.2.1 i hi hk p hp) c 0))
  · rw [nI_clamp (by omega)]
    exact nm_e (nm_r (nI_1 _) (ih _ (by rw [hI, ← jp_fl_s, Nat.zero_add])))
end
section
variable {yr ys yd yh yt : Int32} {yk yl yp yn yb yv ym ok ol op on ob ov om yc yg yf yq yu ye : Nat → Int32}
theorem jy_puse {post : SY → Prop} {J23 J31 : Int32 → (Nat → Int32) → (Nat → Int32) → (Nat → Int32) → (Nat → Int32) → (Nat → Int32) → (Nat → Int32) → (Nat → Int32) → (Nat → Int32) → (Nat → Int32) → (Nat → Int32) → (Nat → Int32) → (Nat → Int32) → (Nat → Int32) → (Nat → Int32) → (Nat → Int32) → (Nat → Int32) → (Nat → Int32) → (Nat → Int32) → (Nat → Int32) → (Nat → Int32) → Prop}
    {f p b n : Nat} (hf : f < 16) (hB : jp_BR yb) (hb : b < 64) (e : yb (24 * f + p) = nI b) (hL : jp_Len yb f p b n)
    (hpost : ∀ B' U' F', jp_u1 (24 * f + p) b n (yb, yu, yf) = (B', U', F') → J31 (nI (p + n)) yk yl yp yn B' yv ym ok ol op on ob ov om yc yg F' yq U' ye) : ∃ m, wY_part_73 post J23 J31 (nI f) (nI p) (nI (24 * f + p)) (nI n) yr ys yd yh yt yk yl yp yn yb yv ym ok ol op on ob ov om yc yg yf yq yu ye m 0 0 := by
  have hbn := jp_Len_b hB hf hL hb
  obtain ⟨l1, l2, l3, l4⟩ := hL
  have keep : ¬ 0 < jp_sh yu b n → ∃ m, wY_part_132 post J23 J31 (nI f) (nI p) (nI (24 * f + p)) (nI n) 0 yr ys yd yh yt m 0 yk yl yp yn yb yv ym ok ol op on ob ov om yc yg yf yq yu ye := by
    intro hs
    refine pk_loop (σ := Nat → Int32) (fun m i s => wY_part_132 post J23 J31 (nI f) (nI p) (nI (24 * f + p)) (nI n) 0 yr ys yd yh yt m (nI i) yk yl yp yn yb yv ym ok ol op on ob ov om yc yg yf yq s ye) (fun i s => s = jp_fl yu b i 1) n 0 yu (by omega) (jp_fl_0 _ _ _).symm (fun m s hI => br_t (nI_le (by omega) (by omega)) (nm_r (nI_add _ _) ?_)) (fun m i s hi hI ih => br_f (nI_ge hi (by omega)) (br_t rfl ?_))
    · refine hpost _ _ _ ?_
      rw [jp_u1_f hs, hI]
    · rw [nI_add, nI_clamp (n := 24 * f + p + i) (by omega), l3 i hi]
      refine ⟨vp_in_nI (by omega) (by omega), vp_in_nI (by omega) (by omega), ?_⟩
      rw [nI_clamp (by omega)]
      exact nm_e (nm_r (nI_1 _) (ih _ (by rw [hI, jp_fl_s])))
  have drop : 0 < jp_sh yu b n → ∃ m, wY_part_132 post J23 J31 (nI f) (nI p) (nI (24 * f + p)) (nI n) 1 yr ys yd yh yt m 0 yk yl yp yn yb yv ym ok ol op on ob ov om yc yg (upd yf 2 (yf 2 + 1)) yq yu ye := by
    intro hs
    refine pk_loop (σ := Nat → Int32) (fun m i s => wY_part_132 post J23 J31 (nI f) (nI p) (nI (24 * f + p)) (nI n) 1 yr ys yd yh yt m (nI i) yk yl yp yn s yv ym ok ol op on ob ov om yc yg (upd yf 2 (yf 2 + 1)) yq yu ye) (fun i s => s = jp_fl yb (24 * f + p) i (-1)) n 0 yb (by omega) (jp_fl_0 _ _ _).symm (fun m s hI => br_t (nI_le (by omega) (by omega)) (nm_r (nI_add _ _) ?_)) (fun m i s hi hI ih => br_f (nI_ge hi (by omega)) (br_f (by decide) ?_))
    · refine hpost _ _ _ ?_
      rw [jp_u1_t hs, hI]
    · rw [nI_add, nI_clamp (n := 24 * f + p + i) (by omega)]
      exact ⟨vp_in_nI (by omega) (by omega), nm_e (nm_r (nI_1 _) (ih _ (by rw [hI, jp_fl_s])))⟩
  refine pk_loop (σ := Int32) (fun m i s => wY_part_73 post J23 J31 (nI f) (nI p) (nI (24 * f + p)) (nI n) yr ys yd yh yt yk yl yp yn yb yv ym ok ol op on ob ov om yc yg yf yq yu ye m s (nI i)) (fun i s => (s = 0 ∧ jp_sh yu b i = 0) ∨ (s = 1 ∧ 0 < jp_sh yu b i)) n 0 0 (by omega) (Or.inl ⟨rfl, rfl⟩) (fun m s hI => br_t (nI_le (by omega) (by omega)) ?_) (fun m i s hi hI ih => br_f (nI_ge hi (by omega)) ⟨vp_in_nI (by omega) (by omega), ?_⟩)
  · rcases hI with ⟨e1, e2⟩ | ⟨e1, e2⟩
    · subst e1; exact br_t rfl (keep (by omega))
    · subst e1; exact br_f (by decide) (nm_e (drop e2))
  · have es : jp_sh yu b (i + 1) = jp_sh yu b i + (decide (yu (b + i) = 1)).toNat := rfl
    rw [nI_clamp (n := 24 * f + p) (by omega), e, nI_add]
    refine ⟨vp_in_nI (by omega) (by omega), ?_⟩
    rw [nI_clamp (by omega)]
    rcases hI with ⟨e1, e2⟩ | ⟨e1, e2⟩
    · subst e1
      refine br_c (fun q => nm_r (e' := 1) (by decide) (nm_r (nI_1 _) (ih 1 (Or.inr ⟨rfl, ?_⟩)))) (fun q => nm_r (e' := 0) (by decide) (nm_r (nI_1 _) (ih 0 (Or.inl ⟨rfl, ?_⟩))))
      · rw [es, jp_t1 q]; omega
      · rw [es, jp_t0 q]; omega
    · subst e1
      refine br_c (fun q => nm_r (e' := 1) (by decide) (nm_r (nI_1 _) (ih 1 (Or.inr ⟨rfl, by omega⟩)))) (fun q => nm_r (e' := 1) (by decide) (nm_r (nI_1 _) (ih 1 (Or.inr ⟨rfl, by omega⟩))))
theorem jy_pfile {post : SY → Prop} {J23 : Int32 → (Nat → Int32) → (Nat → Int32) → (Nat → Int32) → (Nat → Int32) → (Nat → Int32) → (Nat → Int32) → (Nat → Int32) → (Nat → Int32) → (Nat → Int32) → (Nat → Int32) → (Nat → Int32) → (Nat → Int32) → (Nat → Int32) → (Nat → Int32) → (Nat → Int32) → (Nat → Int32) → (Nat → Int32) → (Nat → Int32) → (Nat → Int32) → (Nat → Int32) → Prop} {f : Nat} (hf : f < 16) :
    ∀ (m p : Nat) (B U F : Nat → Int32), p ≤ 24 → 24 ≤ p + m → jp_BR B → (∀ B' U' F', jp_pf f m p (B, U, F) = (B', U', F') → J23 (nI (f + 1)) yk yl yp yn B' yv ym ok ol op on ob ov om yc yg F' yq U' ye) → wY_part_31 post J23 (nI f) yr ys yd yh yt (m + 1) (nI p) yk yl yp yn B yv ym ok ol op on ob ov om yc yg F yq U ye := by
  intro m
  induction m with
  | zero =>
    intro p B U F h1 h2 hB hJ
    exact br_t (nI_le (a := 24) (by omega) (by omega)) (nm_r (nI_1 _) (hJ B U F rfl))
  | succ m ih =>
    intro p B U F h1 h2 hB hJ
    by_cases h24 : 24 ≤ p
    · rw [jp_pf_e h24] at hJ
      exact br_t (nI_le (a := 24) h24 (by omega)) (nm_r (nI_1 _) (hJ B U F rfl))
    · refine br_f (nI_ge (b := 24) (by omega) (by omega)) (nm_r (jv_e24 f p) ⟨vp_in_nI (by omega) (by omega), ?_⟩)
      rw [nI_clamp (n := 24 * f + p) (by omega)]
      rcases hB (24 * f + p) (by omega) with z | ⟨b, hb, z⟩
      · rw [jp_pf_h (by omega) z] at hJ
        rw [z]
        exact br_f (by decide) (nm_r (nI_1 _) (ih (p + 1) B U F (by omega) (by omega) hB hJ))
      · have hL := jp_len_Len (B := B) (f := f) (p := p) (b := b) (by omega) z
        generalize jp_len B f p b = n at hL
        rw [jp_pf_m (by omega) hb z hL] at hJ
        rw [z]
        refine br_t (nI_pos' (by omega)) (jy_lengthAt hf (by omega) hb z (fun n' hL' => ?_))
        rw [jp_Len_un hL' hL]
        refine jy_puse hf hB hb z hL (fun B' U' F' e => ?_)
        rw [e] at hJ
        have l1 := hL.1
        have l2 := hL.2.1
        have hB' : jp_BR B' := by
          by_cases hs : 0 < jp_sh U b n
          · rw [jp_u1_t hs] at e; cases e; exact jp_BR_fl hB _ _
          · rw [jp_u1_f hs] at e; cases e; exact hB
        exact ih (p + n) B' U' F' (by omega) (by omega) hB' hJ
theorem jy_part {post : SY → Prop} {c : Nat} (hc : 24 ≤ c) (hPV : jp_PV yk 0 (yb, jp_fl yu 0 64 0, yf))
    (hpost : ∀ B' U' F', jp_fd (fun f => jp_pf f c 0) 16 (yb, jp_fl yu 0 64 0, yf) = (B', U', F') → post (yr, ys, yd, yh, yt, yk, yl, yp, yn, B', yv, ym, ok, ol, op, on, ob, ov, om, yc, yg, F', yq, U', ye)) : wpY_part post (yr, ys, yd, yh, yt, yk, yl, yp, yn, yb, yv, ym, ok, ol, op, on, ob, ov, om, yc, yg, yf, yq, yu, ye) := by
  unfold wpY_part
  refine pk_loop (σ := Nat → Int32) (fun n i s => wY_part_2 post yr ys yd yh yt n (nI i) yk yl yp yn yb yv ym ok ol op on ob ov om yc yg yf yq s ye) (fun i s => s = jp_fl yu 0 i 0) 64 0 yu (by omega) (jp_fl_0 _ _ _).symm (fun n s hI => br_t (nI_le (a := 64) (by omega) (by omega)) ?_) (fun n i s hi hI ih => br_f (nI_ge (b := 64) hi (by omega)) ⟨vp_in_nI hi (by omega), ?_⟩)
  · subst hI
    refine pk_loop (σ := jp_PS) (fun n i s => wY_part_23 post yr ys yd yh yt n (nI i) yk yl yp yn (s.1) yv ym ok ol op on ob ov om yc yg (s.2.2) yq (s.2.1) ye) (fun i s => jp_fd (fun f => jp_pf f c 0) i (yb, jp_fl yu 0 64 0, yf) = s) 16 0 (yb, jp_fl yu 0 64 0, yf) (by omega) rfl (fun n s hI => br_t (nI_le (a := 16) (by omega) (by omega)) ?_) (fun n i s hi hI ih => br_f (nI_ge (b := 16) hi (by omega)) ?_)
    · obtain ⟨B', U', F'⟩ := s
      exact hpost B' U' F' hI
    · have hP := jp_PV_n hc hPV i s (by omega) hI
      obtain ⟨B', U', F'⟩ := s
      dsimp only
      refine ⟨_, jy_pfile hi c 0 B' U' F' (by omega) (by omega) hP.1 (fun B2 U2 F2 e => ih (B2, U2, F2) ?_)⟩
      rw [← e, ← hI]; rfl
  · rw [nI_clamp (by omega)]
    exact nm_e (nm_r (nI_1 _) (ih _ (by rw [hI, ← jp_fl_s, Nat.zero_add])))
end
end
section
/-! marks, links and the sum -/
def jp_mm (U : Nat → Int32) (i : Nat) (s : (Nat → Int32) × (Nat → Int32)) : (Nat → Int32) × (Nat → Int32) := (upd s.1 i (U i), if s.1 i = U i then s.2 else upd s.2 3 (s.2 3 + 1))
def jp_ml (K N : Nat → Int32) (i : Nat) (s : (Nat → Int32) × (Nat → Int32)) : (Nat → Int32) × (Nat → Int32) := if K i = 0 then s else (upd s.1 i (nI (jp_nc N i)), if s.1 i = nI (jp_nc N i) then s.2 else upd s.2 4 (s.2 4 + 1))
theorem jp_mm_1 {U M F : Nat → Int32} : ∀ (n : Nat) (M' F' : Nat → Int32), jp_fd (jp_mm U) n (M, F) = (M', F') → M' = jp_cp M 0 n U 0 := by
  intro n
  induction n with
  | zero => intro M' F' e; rw [jp_cp_0]; cases e; rfl
  | succ n ih =>
    intro M' F' e
    rcases em : jp_fd (jp_mm U) n (M, F) with ⟨M2, F2⟩
    have h := ih M2 F2 em
    have e2 : jp_mm U n (jp_fd (jp_mm U) n (M, F)) = (M', F') := e
    rw [em] at e2
    have e3 : upd M2 n (U n) = M' := congrArg Prod.fst e2
    rw [← e3, h, ← jp_cp_s, Nat.zero_add]
theorem jp_ml_1 {K N L F : Nat → Int32} : ∀ (n : Nat) (L' F' : Nat → Int32), jp_fd (jp_ml K N) n (L, F) = (L', F') → ∀ i, L' i = if i < n ∧ ¬ K i = 0 then nI (jp_nc N i) else L i := by
  intro n
  induction n with
  | zero => intro L' F' e i; cases e; rw [if_neg (fun z => absurd z.1 (Nat.not_lt_zero i))]
  | succ n ih =>
    intro L' F' e i
    rcases em : jp_fd (jp_ml K N) n (L, F) with ⟨L2, F2⟩
    have h := ih L2 F2 em i
    have e2 : jp_ml K N n (jp_fd (jp_ml K N) n (L, F)) = (L', F') := e
    rw [em] at e2
    unfold jp_ml at e2
    by_cases k0 : K n = 0
    · rw [if_pos k0] at e2
      cases e2
      rw [h]
      by_cases q : i < n ∧ ¬ K i = 0
      · rw [if_pos q, if_pos ⟨by omega, q.2⟩]
      · rw [if_neg q, if_neg]
        rintro ⟨z1, z2⟩
        by_cases e : i = n
        · rw [e] at z2; exact z2 k0
        · exact q ⟨by omega, z2⟩
    · rw [if_neg k0] at e2
      have e3 : upd L2 n (nI (jp_nc N n)) = L' := congrArg Prod.fst e2
      rw [← e3]
      by_cases e : i = n
      · subst e; rw [pk_us, if_pos ⟨by omega, k0⟩]
      · rw [pk_un e, h]
        by_cases q : i < n ∧ ¬ K i = 0
        · rw [if_pos q, if_pos ⟨by omega, q.2⟩]
        · rw [if_neg q, if_neg (fun z => q ⟨by omega, z.2⟩)]
section
variable {xr xs xd xw : Int32} {xk xl xp xn xb xm xh bk bl bp bn bb bm bh xf xt xq xu : Nat → Int32}
theorem jx_marks {post : SX → Prop} (h : ∀ M' F', jp_fd (jp_mm xu) 64 (xm, xf) = (M', F') → post (xr, xs, xd, xw, xk, xl, xp, xn, xb, M', xh, bk, bl, bp, bn, bb, bm, bh, F', xt, xq, xu)) : wpX_mendMarks post (xr, xs, xd, xw, xk, xl, xp, xn, xb, xm, xh, bk, bl, bp, bn, bb, bm, bh, xf, xt, xq, xu) := by
  unfold wpX_mendMarks
  refine pk_loop (σ := (Nat → Int32) × (Nat → Int32)) (fun n i s => wX_mendMarks_2 post xr xs xd xw n (nI i) xk xl xp xn xb (s.1) xh bk bl bp bn bb bm bh (s.2) xt xq xu) (fun i s => jp_fd (jp_mm xu) i (xm, xf) = s) 64 0 (xm, xf) (by omega) rfl (fun n s hI => br_t (nI_le (a := 64) (by omega) (by omega)) ?_) (fun n i s hi hI ih => br_f (nI_ge (b := 64) hi (by omega)) ⟨vp_in_nI hi (by omega), vp_in_nI hi (by omega), ?_⟩)
  · obtain ⟨M', F'⟩ := s
    exact h M' F' hI
  · obtain ⟨M', F'⟩ := s
    dsimp only
    rw [nI_clamp (by omega)]
    have next : ∀ M2 F2, jp_mm xu i (M', F') = (M2, F2) → wX_mendMarks_2 post xr xs xd xw n (nI (i + 1)) xk xl xp xn xb M2 xh bk bl bp bn bb bm bh F2 xt xq xu := by
      intro M2 F2 e
      refine ih (M2, F2) ?_
      rw [← e, ← hI]; rfl
    refine br_c (fun q => nm_r (nI_1 _) (next M' F' ?_)) (fun q => ⟨vp_in_nI hi (by omega), vp_in_nI hi (by omega), nm_e (nm_e (nm_r (nI_1 _) (next _ _ ?_)))⟩)
    · unfold jp_mm; dsimp only; rw [jp_updI q, if_pos q]
    · unfold jp_mm; dsimp only; rw [if_neg q]
theorem jx_links {post : SX → Prop} {N : Nat → Int32} (h : ∀ L' F', jp_fd (jp_ml xk N) 16 (xl, xf) = (L', F') → post (xr, xs, xd, xw, xk, L', xp, jp_ro N, xb, xm, xh, bk, bl, bp, bn, bb, bm, bh, F', xt, xq, xu)) : wpX_mendLinks post (xr, xs, xd, xw, xk, xl, xp, jp_ro N, xb, xm, xh, bk, bl, bp, bn, bb, bm, bh, xf, xt, xq, xu) := by
  unfold wpX_mendLinks
  refine pk_loop (σ := (Nat → Int32) × (Nat → Int32)) (fun n i s => wX_mendLinks_2 post xr xs xd xw n (nI i) xk (s.1) xp (jp_ro N) xb xm xh bk bl bp bn bb bm bh (s.2) xt xq xu) (fun i s => jp_fd (jp_ml xk N) i (xl, xf) = s) 16 0 (xl, xf) (by omega) rfl (fun n s hI => br_t (nI_le (a := 16) (by omega) (by omega)) ?_) (fun n i s hi hI ih => br_f (nI_ge (b := 16) hi (by omega)) (jx_countNaming' ⟨vp_in_nI hi (by omega), ?_⟩))
  · obtain ⟨L', F'⟩ := s
    exact h L' F' hI
  · obtain ⟨L', F'⟩ := s
    dsimp only
    rw [nI_clamp (n := i) (by omega)]
    have next : ∀ L2 F2, jp_ml xk N i (L', F') = (L2, F2) → wX_mendLinks_2 post xr xs xd xw n (nI (i + 1)) xk L2 xp (jp_ro N) xb xm xh bk bl bp bn bb bm bh F2 xt xq xu := by
      intro L2 F2 e
      refine ih (L2, F2) ?_
      rw [← e, ← hI]; rfl
    refine br_c (fun k0 => nm_r (nI_1 _) (next L' F' (if_pos k0))) (fun k0 => ⟨vp_in_nI hi (by omega), br_c (fun q => nm_r (nI_1 _) (next L' F' ?_)) (fun q => ⟨vp_in_nI hi (by omega), nm_e (nm_e (nm_r (nI_1 _) (next _ _ ?_)))⟩)⟩)
    · have q2 : L' i = nI (jp_nc N i) := q
      unfold jp_ml; rw [if_neg k0]; dsimp only; rw [jp_updI q2, if_pos q2]
    · have q2 : ¬ L' i = nI (jp_nc N i) := q
      unfold jp_ml; rw [if_neg k0]; dsimp only; rw [if_neg q2]; rfl
theorem jx_sum {post : Int32 → SX → Prop} (h : post ((((xf 0 + xf 1) + xf 2) + xf 3) + xf 4) (xr, xs, xd, xw, xk, xl, xp, xn, xb, xm, xh, bk, bl, bp, bn, bb, bm, bh, xf, xt, xq, xu)) : ∃ n, wX_mend_91 post xr xs xd xw xk xl xp xn xb xm xh bk bl bp bn bb bm bh xf xt xq xu n 0 0 := by
  have hv : ∀ j, j < 5 → vp_in (nI j) 5 := fun j hj => vp_in_nI hj (by omega)
  refine ⟨6, br_f (by decide) ⟨hv 0 (by omega), nm_r (e' := xf 0) ?_ (nm_r (e' := nI 1) rfl (br_f (by decide) ⟨hv 1 (by omega), nm_e (nm_r (e' := nI 2) rfl (br_f (by decide) ⟨hv 2 (by omega), nm_e (nm_r (e' := nI 3) rfl (br_f (by decide) ⟨hv 3 (by omega), nm_e (nm_r (e' := nI 4) rfl (br_f (by decide) ⟨hv 4 (by omega), nm_e (nm_r (e' := nI 5) rfl (br_t (by decide) h))⟩))⟩))⟩))⟩))⟩⟩
  rw [Int32.zero_add]; rfl
end
section
variable {yr ys yd yh yt : Int32} {yk yl yp yn yb yv ym ok ol op on ob ov om yc yg yf yq yu ye : Nat → Int32}
theorem jy_recount {post : SY → Prop} {i : Nat} (hi : i < 16) (h1 : yl i = nI (jp_nc yn i) → post (yr, ys, yd, yh, yt, yk, yl, yp, yn, yb, yv, ym, ok, ol, op, on, ob, ov, om, yc, yg, yf, yq, yu, ye)) (h0 : ¬ yl i = nI (jp_nc yn i) → post (yr, ys, yd, yh, yt, yk, upd yl i (nI (jp_nc yn i)), yp, yn, yb, yv, ym, ok, ol, op, on, ob, ov, om, yc, yg, upd yf 4 (yf 4 + 1), yq, yu, ye)) : wpY_recount post (yr, ys, yd, yh, yt, yk, yl, yp, yn, yb, yv, ym, ok, ol, op, on, ob, ov, om, yc, yg, yf, yq, yu, ye) (nI i) := by
  unfold wpY_recount
  refine jv_cnt (fun n s j => wY_recount_4 post (nI i) yr ys yd yh yt yk yl yp yn yb yv ym ok ol op on ob ov om yc yg yf yq yu ye n (nI s) (nI j)) (fun s => decide (yn s = nI i)) 1024 (fun n => br_t (nI_le (a := 1024) (by omega) (by omega)) ⟨vp_in_nI hi (by omega), ?_⟩) (fun n j s hj ht hf => br_f (nI_ge (b := 1024) hj (by omega)) ⟨vp_in_nI (by omega) (by omega), ?_⟩)
  · rw [nI_clamp (n := i) (by omega)]
    refine br_c (fun q => ⟨vp_in_nI hi (by omega), nm_r (e' := yl) ?_ (h1 q.symm)⟩) (fun q => nm_e ⟨vp_in_nI hi (by omega), nm_e (h0 (fun z => q z.symm))⟩)
    exact jp_updI q.symm
  · rw [nI_clamp (by omega)]
    exact br_c (fun hc => nm_r (nI_1 _) (nm_r (nI_1 _) (ht (by simp [hc])))) (fun hc => nm_r (nI_1 _) (hf (by simp [hc])))
theorem jy_tail {post : Int32 → SY → Prop} (h0 : jp_Z ok ol op on ob ov om) (h1 : ∀ M' F' L' F2, jp_fd (jp_mm yu) 64 (ym, yf) = (M', F') → jp_fd (jp_ml yk yn) 16 (yl, F') = (L', F2) → jp_Z yk L' yp yn yb yv M' ∧ post ((((F2 0 + F2 1) + F2 2) + F2 3) + F2 4) (yr, ys, 0, yh, yt, yk, L', yp, yn, yb, yv, M', yk, L', yp, yn, yb, yv, M', yc, yg, F2, yq, yu, ye)) : jy_C1 post (yr, ys, yd, yh, yt, yk, yl, yp, yn, yb, yv, ym, ok, ol, op, on, ob, ov, om, yc, yg, yf, yq, yu, ye) := by
  unfold jy_C1
  refine pk_loop (σ := (Nat → Int32) × (Nat → Int32)) (fun n i s => wY_mend_171 post yr ys yd yh yt n (nI i) yk yl yp yn yb yv (s.1) ok ol op on ob ov om yc yg (s.2) yq yu ye) (fun i s => jp_fd (jp_mm yu) i (ym, yf) = s) 64 0 (ym, yf) (by omega) rfl (fun n s hI => br_t (nI_le (a := 64) (by omega) (by omega)) ?_) (fun n i s hi hI ih => br_f (nI_ge (b := 64) hi (by omega)) ⟨vp_in_nI hi (by omega), vp_in_nI hi (by omega), ?_⟩)
  · obtain ⟨M', F'⟩ := s
    refine pk_loop (σ := (Nat → Int32) × (Nat → Int32)) (fun n i s => wY_mend_222 post n (nI i) yr ys yd yh yt yk (s.1) yp yn yb yv M' ok ol op on ob ov om yc yg (s.2) yq yu ye) (fun i s => jp_fd (jp_ml yk yn) i (yl, F') = s) 16 0 (yl, F') (by omega) rfl (fun n s hI2 => br_t (nI_le (a := 16) (by omega) (by omega)) ?_) (fun n i s hi hI2 ih => br_f (nI_ge (b := 16) hi (by omega)) ⟨vp_in_nI hi (by omega), ?_⟩)
    · obtain ⟨L', F2⟩ := s
      obtain ⟨hZ, hp⟩ := h1 M' F' L' F2 hI hI2
      exact jy_placeZ h0 hZ hp
    · obtain ⟨L', F2⟩ := s
      dsimp only
      rw [nI_clamp (n := i) (by omega)]
      have next : ∀ L2 F3, jp_ml yk yn i (L', F2) = (L2, F3) → wY_mend_222 post n (nI (i + 1)) yr ys yd yh yt yk L2 yp yn yb yv M' ok ol op on ob ov om yc yg F3 yq yu ye := by
        intro L2 F3 e
        refine ih (L2, F3) ?_
        rw [← e, ← hI2]; rfl
      refine br_c (fun k0 => nm_r (nI_1 _) (next L' F2 (if_pos k0))) (fun k0 => jy_recount hi (fun q => nm_r (nI_1 _) (next L' F2 ?_)) (fun q => nm_r (nI_1 _) (next _ _ ?_)))
      · unfold jp_ml; rw [if_neg k0]; dsimp only; rw [jp_updI q, if_pos q]
      · unfold jp_ml; rw [if_neg k0]; dsimp only; rw [if_neg q]
  · obtain ⟨M', F'⟩ := s
    dsimp only
    rw [nI_clamp (by omega)]
    have next : ∀ M2 F2, jp_mm yu i (M', F') = (M2, F2) → wY_mend_171 post yr ys yd yh yt n (nI (i + 1)) yk yl yp yn yb yv M2 ok ol op on ob ov om yc yg F2 yq yu ye := by
      intro M2 F2 e
      refine ih (M2, F2) ?_
      rw [← e, ← hI]; rfl
    have fin : ∀ F2, jp_mm yu i (M', F') = (upd M' i (yu i), F2) → wY_mend_202 post (wY_mend_171 post yr ys yd yh yt n) (nI i) yr ys yd yh yt yk yl yp yn yb yv M' ok ol op on ob ov om yc yg F2 yq yu ye := by
      intro F2 e
      unfold wY_mend_202
      rw [nI_clamp (by omega)]
      exact ⟨vp_in_nI hi (by omega), vp_in_nI hi (by omega), nm_e (nm_r (nI_1 _) (next _ _ e))⟩
    refine br_c (fun q => fin F' ?_) (fun q => nm_e (fin _ ?_))
    · unfold jp_mm; dsimp only; rw [if_pos q]
    · unfold jp_mm; dsimp only; rw [if_neg q]
end
end
section
/-! a mended volume -/
theorem jp_fin {V M K L B P N F T R : Nat → Int32} {t : Nat} (Q : jp_Q V M 16 (K, L, B, P, N, F, T, R, t)) : (∀ i, i < 16 → K i = 0 → jp_nc N i = 0) ∧ jp_nc N 0 = 0 ∧ jp_T1 K P N := by
  obtain ⟨hI, ⟨D, J⟩, hT0, hall⟩ := Q
  obtain ⟨hZ, hK, hK0, hPR, hP0, hL0, hN, hNE, hEN, hB, hBE, hXN⟩ := hI
  obtain ⟨j1, j2, j3, j4, j5, j6, j7, j8, rk, j9, j10⟩ := J
  have md : ∀ i, i < 16 → K i = 2 → jp_MD K T i := by
    intro i hi k2
    refine ⟨k2, ?_⟩
    by_cases e : i = 0
    · rw [e]; exact hT0
    · rcases hall i (by omega) hi hi with z | z
      · rw [k2] at z; exact absurd z (by decide)
      · exact z
  have rest : ∀ s, s < 1024 → D s = false → N s = -1 := by
    intro s hs hd
    by_cases k2 : K (s / 64) = 2
    · rcases j5 (s / 64) (by omega) (md _ (by omega) k2) with ⟨j, a1, a2, _⟩ | z | z
      · omega
      · omega
      · have := z (s % 64) (by omega)
        rw [show 64 * (s / 64) + s % 64 = s from by omega, hd] at this
        exact Bool.noConfusion this
    · have := hNE (s / 64) (by omega) k2 (s % 64) (by omega)
      rw [show 64 * (s / 64) + s % 64 = s from by omega] at this
      exact this
  have cnt : ∀ v, v < 16 → jp_cD D N v = jp_nc N v := by
    intro v hv
    apply jp_cn_congr
    intro s hs
    cases hd : D s
    · rw [rest s hs hd, Bool.false_and, decide_eq_false (fun z => jv_m1n v (by omega) z.symm)]
    · rw [Bool.true_and]
  refine ⟨fun i hi k0 => ?_, ?_, rk, fun i h0 hi k2 => ?_⟩
  · rw [← cnt i hi]; exact jp_cD_0 hi j7 (Or.inr (Or.inl k0))
  · rw [← cnt 0 (by omega)]; exact jp_cD_0 (by omega) j7 (Or.inl rfl)
  · refine ⟨by rw [← cnt i hi]; exact j8 i hi (by omega) (md i hi k2), ?_⟩
    obtain ⟨p, q, h1, h2, h3, h4, h5, h6, h7⟩ := j10 i hi (by omega) (md i hi k2)
    exact ⟨p, q, h1, h2, h3, h4, h7⟩
theorem jp_end_I0 {K L P N B V M B' U' F' L' : Nat → Int32} (h : jp_I0 (K, L, P, N, B, V, M)) (hP : jp_PV K 384 (B', U', F')) (hL : ∀ i, L' i = if i < 16 ∧ ¬ K i = 0 then nI (jp_nc N i) else L i) : jp_I0 (K, L', P, N, B', V, jp_cp M 0 64 U' 0) := by
  obtain ⟨hZ, hK, hK0, hPR, hP0, hL0, hN, hNE, hEN, hB, hBE, hXN⟩ := h
  obtain ⟨b1, b2, b3, b4, _⟩ := hP
  refine ⟨⟨fun i hi => ⟨(hZ.1 i hi).1, ?_, (hZ.1 i hi).2.2⟩, hZ.2.1, b3, fun i hi => ⟨(hZ.2.2.2 i hi).1, ?_⟩⟩, hK, hK0, hPR, hP0, fun i hi k0 => ?_, hN, hNE, hEN, b1, b2, b4⟩
  · rw [hL i, if_neg (by omega)]; exact (hZ.1 i hi).2.1
  · rw [jp_cp_out (by omega)]; exact (hZ.2.2.2 i hi).2
  · rw [hL i, if_neg (fun z => z.2 k0)]; exact hL0 i hi k0
theorem jp_end_I1 {K L P N B V M B' U' F' L' F T R : Nat → Int32} {t : Nat} (Q : jp_Q V M 16 (K, L, B, P, N, F, T, R, t)) (hP : jp_PV K 384 (B', U', F')) (hL : ∀ i, L' i = if i < 16 ∧ ¬ K i = 0 then nI (jp_nc N i) else L i) : jp_I1 (K, L', P, N, B', V, jp_cp M 0 64 U' 0) := by
  obtain ⟨f1, f2, f3⟩ := jp_fin Q
  obtain ⟨b1, b2, b3, b4, u1, u2⟩ := hP
  refine ⟨fun i hi => ?_, f2, ⟨fun s t b hs ht hb e1 e2 => u2 s t b hs ht hb e1 e2, fun s b hs hb e => ?_⟩, f3⟩
  · rw [hL i]
    by_cases k0 : K i = 0
    · rw [if_neg (fun z => z.2 k0), f1 i hi k0]; exact Q.1.2.2.2.2.2.1 i hi k0
    · rw [if_pos ⟨hi, k0⟩]
  · have := jp_cp_in (a := M) (b := U') (lo := 0) (off := 0) hb
    rw [Nat.zero_add] at this
    rw [this]
    exact u1 s b hs hb e
theorem jp_PV_0 {K L P N B V M U F : Nat → Int32} (h : jp_I0 (K, L, P, N, B, V, M)) : jp_PV K 0 (B, U, F) := by
  obtain ⟨hZ, hK, hK0, hPR, hP0, hL0, hN, hNE, hEN, hB, hBE, hXN⟩ := h
  exact ⟨hB, hBE, hZ.2.2.1, hXN, fun s b hs => absurd hs (Nat.not_lt_zero s), fun s t b hs => absurd hs (Nat.not_lt_zero s)⟩
/-- the first visit, from the root -/
theorem jp_Q_1 {K L P N B V M F T R : Nat → Int32} {b : jp_BS} (h : jp_I0 (K, L, P, N, B, V, M)) (e : jp_vis K 16 0 (P, N, F, upd (jp_fl T 0 16 0) 0 1, upd R 0 (nI 0), 1) = b) : jp_Q V M 1 (K, L, B, b) := by
  have J := jp_J_root (P := P) (N := N) (F := F) (T := jp_fl T 0 16 0) (R := R) h.2.2.1 (fun i hi => jp_fl_in (by omega) (by omega))
  have E := jp_vis_E 16 0 (upd (jp_fl T 0 16 0) 0 1) _ _ _ _ _ _ _ b rfl J (jp_I0_JI h) (fun w hw => hw) e
  obtain ⟨P2, N2, F2, T2, R2, t2⟩ := b
  obtain ⟨hJ, hI, hm⟩ := E
  exact ⟨jp_I0_of h hI, hJ, hm 0 (by rw [pk_us]; decide), fun v h1 h2 _ => by omega⟩
section
variable {xr xs xd xw : Int32} {xk xl xp xn xb xm xh bk bl bp bn bb bm bh xf xt xq xu : Nat → Int32}
theorem jx_root {post : SX → Prop} {K L P N B V M R : Nat → Int32} (h : jp_I0 (K, L, P, N, B, V, M))
    (hpost : ∀ P' N' F' T' R' t' xw' W', jp_vis K 16 0 (P, N, xf, upd (jp_fl xt 0 16 0) 0 1, upd R 0 (nI 0), 1) = (P', N', F', T', R', t') → post (xr, xs, xd, xw', K, xl, jp_pi K P', jp_ro N', xb, xm, xh, bk, bl, bp, bn, bb, bm, bh, F', T', W', xu)) :
    wpX_meetFromRoot post (xr, xs, xd, xw, K, xl, jp_pi K P, jp_ro N, xb, xm, xh, bk, bl, bp, bn, bb, bm, bh, xf, xt, xq, xu) := by
  unfold wpX_meetFromRoot
  refine pk_loop (σ := Nat → Int32) (fun n i s => wX_meetFromRoot_2 post xr xs xd xw n (nI i) K xl (jp_pi K P) (jp_ro N) xb xm xh bk bl bp bn bb bm bh xf s xq xu) (fun i s => s = jp_fl xt 0 i 0) 16 0 xt (by omega) (jp_fl_0 _ _ _).symm (fun n s hI => br_t (nI_le (a := 16) (by omega) (by omega)) ?_) (fun n i s hi hI ih => br_f (nI_ge (b := 16) hi (by omega)) ⟨vp_in_nI hi (by omega), ?_⟩)
  · subst hI
    have hK0 := h.2.2.1
    have J := jp_J_root (P := P) (N := N) (F := xf) (T := jp_fl xt 0 16 0) (R := R) hK0 (fun i hi => jp_fl_in (by omega) (by omega))
    refine jx_meet (v := 0) (d := 0) (w := 0) (by omega) (fun _ => by omega) (fun _ => ?_) (fun k2 => absurd hK0 k2)
    have ep : upd (jp_pi K P) 0 (nI 0) = jp_pi K P := by
      rw [jp_pi_upd (by rw [hK0]; decide)]
      exact congrArg (jp_pi K) (jp_updI h.2.2.2.2.1)
    rw [ep]
    have := jx_vis (post := fun u => match u with | (xr, xs, xd, xw, xk, xl, xp, xn, xb, xm, xh, bk, bl, bp, bn, bb, bm, bh, xf, xt, xq, xu) => post (xr, xs, xd, xw, xk, xl, xp, xn, xb, xm, xh, bk, bl, bp, bn, bb, bm, bh, xf, xt, xq, xu)) (base := 0) (xr := xr) (xs := xs) (xd := xd) (xl := xl) (xb := xb) (xm := xm) (xh := xh) (bk := bk) (bl := bl) (bp := bp) (bn := bn) (bb := bb) (bm := bm) (bh := bh) (xu := xu) 16 0 _ _ _ _ _ _ (upd xq 0 (nI 0)) _ rfl (Nat.le_refl 0) J (jp_I0_JI h) ⟨by omega, fun i hi => by rw [show i = 0 from by omega, pk_us, Nat.add_zero, pk_us]⟩ (fun P' N' F' T' R' t' W' e => hpost _ _ _ _ _ _ _ _ e)
    exact ⟨_, this⟩
  · rw [nI_clamp (by omega), jv_vn0]
    exact nm_e (nm_r (nI_1 _) (ih _ (by rw [hI, ← jp_fl_s, Nat.zero_add])))
end
section
variable {yr ys yd yh yt : Int32} {yk yl yp yn yb yv ym ok ol op on ob ov om yc yg yf yq yu ye : Nat → Int32}
theorem jy_root {post : Int32 → SY → Prop} {K L P N B V M : Nat → Int32} (h : jp_I0 (K, L, P, N, B, V, M))
    (hpost : ∀ P' N' F' T' R' t', jp_vis K 16 0 (P, N, yf, upd (jp_fl ye 0 16 0) 0 1, upd yq 0 (nI 0), 1) = (P', N', F', T', R', t') → ∃ n, wY_mend_72 post n 1 yr ys yd (nI t') (nI t') K yl P' N' yb yv ym ok ol op on ob ov om yc yg F' R' yu T') :
    ∃ n, wY_mend_31 post yr ys yd yh yt n 0 K yl P N yb yv ym ok ol op on ob ov om yc yg yf yq yu ye := by
  refine pk_loop (σ := Nat → Int32) (fun n i s => wY_mend_31 post yr ys yd yh yt n (nI i) K yl P N yb yv ym ok ol op on ob ov om yc yg yf yq yu s) (fun i s => s = jp_fl ye 0 i 0) 16 0 ye (by omega) (jp_fl_0 _ _ _).symm (fun n s hI => br_t (nI_le (a := 16) (by omega) (by omega)) ?_) (fun n i s hi hI ih => br_f (nI_ge (b := 16) hi (by omega)) ⟨vp_in_nI hi (by omega), ?_⟩)
  · subst hI
    have hK0 := h.2.2.1
    have J := jp_J_root (P := P) (N := N) (F := yf) (T := jp_fl ye 0 16 0) (R := yq) hK0 (fun i hi => jp_fl_in (by omega) (by omega))
    refine jy_meet (v := 0) (d := 0) (t := 0) (by omega) (fun _ => by omega) (fun _ => ?_) (fun k2 => absurd hK0 k2)
    have ep : upd P 0 (nI 0) = P := jp_updI h.2.2.2.2.1
    rw [ep]
    exact ⟨_, jy_vis 16 0 _ _ _ _ _ _ _ rfl J (jp_I0_JI h) (fun P' N' F' T' R' t' e => hpost P' N' F' T' R' t' e)⟩
  · rw [nI_clamp (by omega), jv_vn0]
    exact nm_e (nm_r (nI_1 _) (ih _ (by rw [hI, ← jp_fl_s, Nat.zero_add])))
end
end
section
theorem i_vc_mend {k : Nat} {u : SX} {v : SY} (I : i_Rel k u v) (hk : k + 5 ≤ 2560) : wpX_mend (fun r u' => wpY_mend (fun r' v' => r' = r ∧ i_Rel (k + 5) u' v') v) u := by
  have I' : i_Rel (k + 5) u v := I
  obtain ⟨S, r, s, d, xw, yh, yt, K, L, P, N, B, V, M, bk, bl, bp, bn, bb, bm, bh, xq, ok, ol, op, on, ob, ov, om, yc, yg, yq, F, T, U, rfl, rfl, hS, hS0, hr, hs, hd, hLog⟩ := I
  have hI := hLog.1 r (Nat.le_refl r)
  have hI0 := hLog.1 0 (Nat.zero_le r)
  rw [hS] at hI
  rw [hS0] at hI0
  obtain ⟨c, hc⟩ : ∃ c : Nat, 24 ≤ c := ⟨24, Nat.le_refl 24⟩
  unfold wpX_mend
  refine pk_le r 0 (fun h => ?_) (fun h => by unfold wpY_mend; exact br_f (nI_nle h (by omega)) ⟨rfl, I'⟩)
  obtain rfl : r = 0 := by omega
  obtain rfl : s = 0 := by omega
  clear I'
  refine pk_loop (σ := Nat → Int32) (fun n i q => wX_mend_11 (fun r u' => wpY_mend (fun r' v' => r' = r ∧ i_Rel (k + 5) u' v') (nI 0, nI 0, d, yh, yt, K, L, P, N, B, V, M, ok, ol, op, on, ob, ov, om, yc, yg, F, yq, U, T)) (nI 0) (nI 0) d xw n (nI i) K L (jp_pi K P) (jp_ro N) B M V bk bl bp bn bb bm bh q T xq U) (fun i q => q = jp_fl F 0 i 0) 5 0 F (by omega) (jp_fl_0 _ _ _).symm (fun n q hq => br_t (nI_le (a := 5) (by omega) (by omega)) ?_) (fun n i q hi hq ih => br_f (nI_ge (b := 5) hi (by omega)) ⟨vp_in_nI hi (by omega), ?_⟩)
  · subst hq
    refine jx_root (R := yq) hI (fun P1 N1 F1 T1 R1 t1 xw1 W1 e1 => ?_)
    have Q1 := jp_Q_1 hI e1
    refine jx_rl (s0 := (K, L, B, P1, N1, F1, T1, R1, t1)) Q1 (fun K2 L2 B2 P2 N2 F2 T2 R2 t2 xw2 W2 e2 => ?_)
    have Q2 := jp_Q_n Q1 15 _ (Nat.le_refl 15) e2
    refine jx_drop hc (jp_PV_0 Q2.1) (fun B3 U3 F3 e3 => ?_)
    have hP := jp_PV_n hc (jp_PV_0 Q2.1) 16 _ (Nat.le_refl 16) e3
    unfold jx_C3
    refine jx_marks (fun M4 F4 e4 => ?_)
    unfold jx_C2
    refine jx_links (fun L5 F5 e5 => ?_)
    unfold jx_C1
    refine jx_sum ?_
    have hM := jp_mm_1 64 M4 F4 e4
    have hL := jp_ml_1 16 L5 F5 e5
    have E0 := jp_end_I0 Q2.1 hP hL
    have E1 := jp_end_I1 Q2 hP hL
    rw [← hM] at E0 E1
    unfold wpY_mend
    refine br_t (by decide) ?_
    refine pk_loop (σ := Nat → Int32) (fun n i q => wY_mend_11 _ (nI 0) (nI 0) d yh yt n (nI i) K L P N B V M ok ol op on ob ov om yc yg q yq U T) (fun i q => q = jp_fl F 0 i 0) 5 0 F (by omega) (jp_fl_0 _ _ _).symm (fun n q hq => br_t (nI_le (a := 5) (by omega) (by omega)) ?_) (fun n i q hi hq ih => br_f (nI_ge (b := 5) hi (by omega)) ⟨vp_in_nI hi (by omega), ?_⟩)
    · subst hq
      refine jy_root hI (fun P1' N1' F1' T1' R1' t1' e1' => ?_)
      rw [e1] at e1'
      cases e1'
      refine jy_rl (s0 := (K, L, B, P1, N1, F1, T1, R1, t1)) Q1 (fun K2' L2' B2' P2' N2' F2' T2' R2' t2' e2' => ?_)
      rw [e2] at e2'
      cases e2'
      refine jy_part hc (jp_PV_0 Q2.1) (fun B3' U3' F3' e3' => ?_)
      rw [e3] at e3'
      cases e3'
      refine jy_tail hI0.1 (fun M4' F4' L5' F5' e4' e5' => ?_)
      rw [e4] at e4'
      cases e4'
      rw [e5] at e5'
      cases e5'
      exact ⟨E0.1, rfl, jr_new (Or.inl rfl) E0 (fun _ => E1)⟩
    · rw [nI_clamp (by omega)]
      exact nm_e (nm_r (nI_1 _) (ih _ (by rw [hq, ← jp_fl_s, Nat.zero_add])))
  · rw [nI_clamp (by omega)]
    exact nm_e (nm_r (nI_1 _) (ih _ (by rw [hq, ← jp_fl_s, Nat.zero_add])))
end

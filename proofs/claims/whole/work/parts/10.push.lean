/-! one record more: both logs -/
theorem jp_pi_z {K P : Nat → Int32} (h : ∀ i, 16 ≤ i → K i = 0) : ∀ i, 16 ≤ i → jp_pi K P i = 0 := fun i hi => if_pos (h i hi)
theorem jp_ro_z {N : Nat → Int32} (h : ∀ i, 1024 ≤ i → N i = 0) : ∀ i, 1024 ≤ i → jp_ro N i = 0 := fun i hi => h _ (by omega)
theorem jp_rb {A a b : Nat → Int32} {n r : Nat} (hA : ∀ i, n ≤ i → A i = 0) (ha : ∀ i, n ≤ i → a i = 0) : jp_cp A 0 n (jp_cp b (n * r) n a 0) (n * r) = a := by
  funext i
  by_cases h : i < n
  · have := jp_cp_in (a := A) (b := jp_cp b (n * r) n a 0) (lo := 0) (off := n * r) h
    rw [Nat.zero_add] at this
    rw [this, jp_cp_in h, Nat.zero_add]
  · rw [jp_cp_out (by omega), hA i (by omega), ha i (by omega)]
theorem jp_Bef_old {j r : Nat} (hj : j < r) {bk bl bp bn bb bm bh x1 x2 x3 x4 x5 x6 x7 : Nat → Int32} {s : jp_FS} (h : jp_Bef j bk bl bp bn bb bm bh s) :
    jp_Bef j (jp_cp bk (16 * r) 16 x1 0) (jp_cp bl (16 * r) 16 x2 0) (jp_cp bp (16 * r) 16 x3 0) (jp_cp bn (1024 * r) 1024 x4 0) (jp_cp bb (384 * r) 384 x5 0) (jp_cp bm (64 * r) 64 x6 0) (jp_cp bh (64 * r) 64 x7 0) s := by
  obtain ⟨K, L, P, N, B, V, M⟩ := s
  obtain ⟨h1, h2, h3, h4⟩ := h
  refine ⟨fun i hi => ?_, fun i hi => ?_, fun i hi => ?_, fun i hi => ?_⟩
  · rw [jp_cp_out (by omega), jp_cp_out (by omega), jp_cp_out (by omega)]; exact h1 i hi
  · rw [jp_cp_out (by omega)]; exact h2 i hi
  · rw [jp_cp_out (by omega)]; exact h3 i hi
  · rw [jp_cp_out (by omega), jp_cp_out (by omega)]; exact h4 i hi
theorem jp_Bef_new {r : Nat} {bk bl bp bn bb bm bh K L P N B V M : Nat → Int32} :
    jp_Bef r (jp_cp bk (16 * r) 16 K 0) (jp_cp bl (16 * r) 16 L 0) (jp_cp bp (16 * r) 16 (jp_pi K P) 0) (jp_cp bn (1024 * r) 1024 (jp_ro N) 0) (jp_cp bb (384 * r) 384 B 0) (jp_cp bm (64 * r) 64 M 0) (jp_cp bh (64 * r) 64 V 0) (K, L, P, N, B, V, M) := by
  refine ⟨fun i hi => ?_, fun i hi => ?_, fun i hi => ?_, fun i hi => ?_⟩
  · rw [jp_cp_in hi, jp_cp_in hi, jp_cp_in hi, Nat.zero_add]; exact ⟨rfl, rfl, rfl⟩
  · rw [jp_cp_in hi, Nat.zero_add]
  · rw [jp_cp_in hi, Nat.zero_add]
  · rw [jp_cp_in hi, jp_cp_in hi, Nat.zero_add]; exact ⟨rfl, rfl⟩
theorem jr_push {k : Nat} {r s : Nat} {d xw yh yt : Int32} {K L P N B V M bk bl bp bn bb bm bh xq ok ol op on ob ov om yc yg yq F T U : Nat → Int32} {S : Nat → jp_FS} {K' L' P' N' B' V' M' : Nat → Int32} {c a b x z : Int32}
    (hS : S r = (K, L, P, N, B, V, M)) (hS0 : S 0 = (ok, ol, op, on, ob, ov, om)) (hr : r < 24) (hs : s ≤ r) (hd : d = 0) (hLog : jp_Log S r d bk bl bp bn bb bm bh yc yg)
    (h0 : jp_I0 (K', L', P', N', B', V', M')) (h1 : jp_I1 (K', L', P', N', B', V', M')) (hR : jp_Run r c a b x z (K, L, P, N, B, V, M) (K', L', P', N', B', V', M')) :
    i_Rel k (nI (r + 1), nI s, d, xw, K', L', jp_pi K' P', jp_ro N', B', M', V', jp_cp bk (16 * r) 16 K 0, jp_cp bl (16 * r) 16 L 0, jp_cp bp (16 * r) 16 (jp_pi K P) 0, jp_cp bn (1024 * r) 1024 (jp_ro N) 0, jp_cp bb (384 * r) 384 B 0, jp_cp bm (64 * r) 64 M 0, jp_cp bh (64 * r) 64 V 0, F, T, xq, U)
      (nI (r + 1), nI s, d, yh, yt, K', L', P', N', B', V', M', ok, ol, op, on, ob, ov, om, upd yc r c, upd (upd (upd (upd yg (4 * r) a) (4 * r + 1) b) (4 * r + 2) x) (4 * r + 3) z, F, yq, U, T) := by
  obtain ⟨g0, g1, g2, g3⟩ := hLog
  refine ⟨fun j => if j ≤ r then S j else (K', L', P', N', B', V', M'), r + 1, s, d, xw, yh, yt, K', L', P', N', B', V', M', _, _, _, _, _, _, _, xq, ok, ol, op, on, ob, ov, om, _, _, yq, F, T, U, rfl, rfl, if_neg (by omega), by dsimp only; rw [if_pos (Nat.zero_le r)]; exact hS0, by omega, by omega, Or.inl hd, ?_, ?_, ?_, ?_⟩
  · intro j hj
    by_cases e : j ≤ r
    · dsimp only; rw [if_pos e]; exact g0 j e
    · dsimp only; rw [if_neg e]; exact h0
  · intro _ j hj
    by_cases e : j ≤ r
    · dsimp only; rw [if_pos e]; exact g1 hd j e
    · dsimp only; rw [if_neg e]; exact h1
  · intro j hj
    dsimp only
    rw [if_pos (by omega)]
    by_cases e : j = r
    · subst e; rw [hS]; exact jp_Bef_new
    · exact jp_Bef_old (by omega) (g2 j (by omega))
  · intro j hj
    dsimp only
    rw [if_pos (by omega)]
    by_cases e : j = r
    · subst e
      rw [if_neg (by omega), hS, pk_us, pk_us, pk_un (by omega), pk_un (by omega), pk_un (by omega), pk_us, pk_un (by omega), pk_un (by omega), pk_us, pk_un (by omega), pk_us]
      exact hR
    · rw [if_pos (by omega), pk_un (by omega)]
      rw [pk_un (by omega), pk_un (by omega), pk_un (by omega), pk_un (by omega), pk_un (by omega), pk_un (by omega), pk_un (by omega), pk_un (by omega)]
      rw [pk_un (by omega), pk_un (by omega), pk_un (by omega), pk_un (by omega), pk_un (by omega), pk_un (by omega), pk_un (by omega), pk_un (by omega)]
      exact g3 j (by omega)
/-- a record that was opened and taken back -/
theorem jr_back {k : Nat} {r s : Nat} {d xw yh yt : Int32} {K L P N B V M bk bl bp bn bb bm bh xq ok ol op on ob ov om yc yg yq F T U : Nat → Int32} {S : Nat → jp_FS} (hS : S r = (K, L, P, N, B, V, M)) (hS0 : S 0 = (ok, ol, op, on, ob, ov, om)) (hr : r < 24) (hs : s ≤ r) (hd : d = 0) (hLog : jp_Log S r d bk bl bp bn bb bm bh yc yg) :
    i_Rel k (nI r, nI s, d, xw, K, L, jp_pi K P, jp_ro N, B, M, V, jp_cp bk (16 * r) 16 K 0, jp_cp bl (16 * r) 16 L 0, jp_cp bp (16 * r) 16 (jp_pi K P) 0, jp_cp bn (1024 * r) 1024 (jp_ro N) 0, jp_cp bb (384 * r) 384 B 0, jp_cp bm (64 * r) 64 M 0, jp_cp bh (64 * r) 64 V 0, F, T, xq, U) (nI r, nI s, d, yh, yt, K, L, P, N, B, V, M, ok, ol, op, on, ob, ov, om, yc, yg, F, yq, U, T) :=
  ⟨S, r, s, d, xw, yh, yt, K, L, P, N, B, V, M, _, _, _, _, _, _, _, xq, ok, ol, op, on, ob, ov, om, yc, yg, yq, F, T, U, rfl, rfl, hS, hS0, by omega, hs, Or.inl hd, hLog.1, hLog.2.1, fun j hj => jp_Bef_old hj (hLog.2.2.1 j hj), hLog.2.2.2⟩
/-! counts of a row of entries with one cell changed -/
theorem jp_nc_upd {N : Nat → Int32} {s : Nat} {v : Int32} (hs : s < 1024) (i : Nat) : jp_nc (upd N s v) i + (decide (N s = nI i)).toNat = jp_nc N i + (decide (v = nI i)).toNat := by
  have := jp_cn_upd (f := fun t => decide (upd N s v t = nI i)) (g := fun t => decide (N t = nI i)) hs (fun j hj hne => by rw [pk_un hne])
  rw [pk_us] at this
  exact this
theorem jp_en_upd {N : Nat → Int32} {a n : Nat} {v : Int32} (hn : n < 64) : jp_en (upd N (64 * a + n) v) a + (decide (¬ N (64 * a + n) = -1)).toNat = jp_en N a + (decide (¬ v = -1)).toNat := by
  have := jp_cn_upd (f := fun t => decide (¬ upd N (64 * a + n) v (64 * a + t) = -1)) (g := fun t => decide (¬ N (64 * a + t) = -1)) hn (fun j hj hne => by rw [pk_un (by omega)])
  rw [pk_us] at this
  exact this
theorem jp_en_un {N : Nat → Int32} {a n d : Nat} {v : Int32} (hn : n < 64) (h : d ≠ a) : jp_en (upd N (64 * a + n) v) d = jp_en N d :=
  jp_cn_congr (fun j hj => by rw [pk_un (by omega)])
theorem jp_nc_le (N : Nat → Int32) (i : Nat) : jp_nc N i ≤ 1024 := jp_cn_le _ _
theorem jp_t1 {p : Prop} [Decidable p] (h : p) : (decide p).toNat = 1 := by rw [decide_eq_true h]; rfl
theorem jp_t0 {p : Prop} [Decidable p] (h : ¬ p) : (decide p).toNat = 0 := by rw [decide_eq_false h]; rfl
/-- an entry of an undamaged volume: its inode is not FREE and not the root -/
theorem jp_dir {K N : Nat → Int32} (hNE : jp_NE K N) {p h : Nat} (hp : p < 16) (hh : h < 64) (e : ¬ N (64 * p + h) = -1) : K p = 2 := by
  apply Classical.byContradiction
  intro z
  exact e (hNE p hp z h hh)
theorem jp_nc_in {N : Nat → Int32} {s i : Nat} (hs : s < 1024) (e : N s = nI i) : 0 < jp_nc N i := jp_cn_pos hs (decide_eq_true e)
theorem jp_NR_upd {N : Nat → Int32} (h : jp_NR N) {k : Nat} {v : Int32} (hv : v = -1 ∨ ∃ i, i < 16 ∧ v = nI i) : jp_NR (upd N k v) := by
  intro s hs
  by_cases e : s = k
  · subst e; rw [pk_us]; exact hv
  · rw [pk_un e]; exact h s hs
theorem jp_free {K L N : Nat → Int32} (hL0 : jp_L0 K L) (hL : ∀ i, i < 16 → L i = nI (jp_nc N i)) {i : Nat} (hi : i < 16) (hz : K i = 0) : jp_nc N i = 0 := by
  have := hL0 i hi hz
  rw [hL i hi] at this
  exact jv_inj this (by have := jp_nc_le N i; omega) (by omega)

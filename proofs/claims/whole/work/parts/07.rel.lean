/-! the file system as the reference holds it: kinds, links, parents, entries, blocks, ints, marks -/
abbrev jp_FS : Type := (Nat → Int32) × (Nat → Int32) × (Nat → Int32) × (Nat → Int32) × (Nat → Int32) × (Nat → Int32) × (Nat → Int32)
def jp_nc (N : Nat → Int32) (i : Nat) : Nat := jp_cn (fun s => decide (N s = nI i)) 1024
def jp_Z (K L P N B V M : Nat → Int32) : Prop := (∀ i, 16 ≤ i → K i = 0 ∧ L i = 0 ∧ P i = 0) ∧ (∀ i, 1024 ≤ i → N i = 0) ∧ (∀ i, 384 ≤ i → B i = 0) ∧ (∀ i, 64 ≤ i → V i = 0 ∧ M i = 0)
def jp_KR (K : Nat → Int32) : Prop := ∀ i, i < 16 → K i = 0 ∨ K i = 1 ∨ K i = 2
def jp_PR (P : Nat → Int32) : Prop := ∀ i, i < 16 → ∃ p, p < 16 ∧ P i = nI p
def jp_L0 (K L : Nat → Int32) : Prop := ∀ i, i < 16 → K i = 0 → L i = 0
def jp_NE (K N : Nat → Int32) : Prop := ∀ i, i < 16 → ¬ K i = 2 → ∀ h, h < 64 → N (64 * i + h) = -1
def jp_EN (N : Nat → Int32) : Prop := ∀ i, i < 16 → jp_en N i ≤ 10
def jp_BE (K B : Nat → Int32) : Prop := ∀ i, i < 16 → ¬ K i = 1 → ∀ p, p < 24 → B (24 * i + p) = -1
def jp_XN (B : Nat → Int32) : Prop := ∀ i, i < 16 → jp_ne B i ≤ 5
/-- what holds always -/
def jp_I0 : jp_FS → Prop
  | (K, L, P, N, B, V, M) => jp_Z K L P N B V M ∧ jp_KR K ∧ K 0 = 2 ∧ jp_PR P ∧ P 0 = 0 ∧ jp_L0 K L ∧ jp_NR N ∧ jp_NE K N ∧ jp_EN N ∧ jp_BR B ∧ jp_BE K B ∧ jp_XN B
/-- what holds of a volume that isn't damaged -/
def jp_T1 (K P N : Nat → Int32) : Prop := ∃ rk : Nat → Nat, ∀ i, 0 < i → i < 16 → K i = 2 → jp_nc N i = 1 ∧ ∃ p h, p < 16 ∧ h < 64 ∧ P i = nI p ∧ N (64 * p + h) = nI i ∧ rk p < rk i
def jp_UB (B M : Nat → Int32) : Prop := (∀ s t b, s < 384 → t < 384 → b < 64 → B s = nI b → B t = nI b → s = t) ∧ (∀ s b, s < 384 → b < 64 → B s = nI b → M b = 1)
def jp_I1 : jp_FS → Prop
  | (K, L, P, N, B, _, M) => (∀ i, i < 16 → L i = nI (jp_nc N i)) ∧ jp_nc N 0 = 0 ∧ jp_UB B M ∧ jp_T1 K P N
/-- row j of the component's stack holds this -/
def jp_Bef (j : Nat) (bk bl bp bn bb bm bh : Nat → Int32) : jp_FS → Prop
  | (K, L, P, N, B, V, M) => (∀ i, i < 16 → bk (16 * j + i) = K i ∧ bl (16 * j + i) = L i ∧ bp (16 * j + i) = jp_pi K P i) ∧ (∀ i, i < 1024 → bn (1024 * j + i) = jp_ro N i) ∧ (∀ i, i < 384 → bb (384 * j + i) = B i) ∧ (∀ i, i < 64 → bm (64 * j + i) = M i ∧ bh (64 * j + i) = V i)
/-- record j, done again by the reference, goes from the one to the other -/
def jp_Run (j : Nat) (c a b x z : Int32) : jp_FS → jp_FS → Prop
  | (K, L, P, N, B, V, M), (K', L', P', N', B', V', M') => ∀ (post : SY → Prop) (ys yh yt : Int32) (ok ol op on ob ov om yc yg yf yq yu ye : Nat → Int32),
    yc j = c → yg (4 * j) = a → yg (4 * j + 1) = b → yg (4 * j + 2) = x → yg (4 * j + 3) = z →
    post (nI (j + 1), ys, 0, yh, yt, K', L', P', N', B', V', M', ok, ol, op, on, ob, ov, om, yc, yg, yf, yq, yu, ye) →
    wpY_again post (nI j, ys, 0, yh, yt, K, L, P, N, B, V, M, ok, ol, op, on, ob, ov, om, yc, yg, yf, yq, yu, ye) (nI j)
def jp_Log (S : Nat → jp_FS) (r : Nat) (d : Int32) (bk bl bp bn bb bm bh yc yg : Nat → Int32) : Prop :=
  (∀ j, j ≤ r → jp_I0 (S j)) ∧ (d = 0 → ∀ j, j ≤ r → jp_I1 (S j)) ∧ (∀ j, j < r → jp_Bef j bk bl bp bn bb bm bh (S j)) ∧
  (∀ j, j < r → jp_Run j (yc j) (yg (4 * j)) (yg (4 * j + 1)) (yg (4 * j + 2)) (yg (4 * j + 3)) (S j) (S (j + 1)))
/-- the relation at the head of a turn -/
def i_Rel (_ : Nat) (u : SX) (v : SY) : Prop :=
  ∃ (S : Nat → jp_FS) (r s : Nat) (d xw yh yt : Int32) (K L P N B V M bk bl bp bn bb bm bh xq ok ol op on ob ov om yc yg yq F T U : Nat → Int32),
    u = (nI r, nI s, d, xw, K, L, jp_pi K P, jp_ro N, B, M, V, bk, bl, bp, bn, bb, bm, bh, F, T, xq, U) ∧ v = (nI r, nI s, d, yh, yt, K, L, P, N, B, V, M, ok, ol, op, on, ob, ov, om, yc, yg, F, yq, U, T) ∧ S r = (K, L, P, N, B, V, M) ∧ S 0 = (ok, ol, op, on, ob, ov, om) ∧ r ≤ 24 ∧ s ≤ r ∧ (d = 0 ∨ (d = 1 ∧ r = 0)) ∧ jp_Log S r d bk bl bp bn bb bm bh yc yg
theorem i_up {k : Nat} {u : SX} {v : SY} (h : i_Rel k u v) : i_Rel (k + 5) u v := h
section
variable {r s : Nat} {d xw yh yt : Int32} {K L P N B V M bk bl bp bn bb bm bh xq ok ol op on ob ov om yc yg yq F T U : Nat → Int32} {C : Prop}
theorem jr_mended (hc : C) (p : Int32) : wpX_mended (fun r' => wpY_mended (fun r'' => r'' = r' ∧ C) (nI r, nI s, d, yh, yt, K, L, P, N, B, V, M, ok, ol, op, on, ob, ov, om, yc, yg, F, yq, U, T) p) (nI r, nI s, d, xw, K, L, jp_pi K P, jp_ro N, B, M, V, bk, bl, bp, bn, bb, bm, bh, F, T, xq, U) p := by
  unfold wpX_mended wpY_mended
  rcases pk_ix p (n := 5) (by omega) with h | h | ⟨j, hj, rfl⟩
  · exact br_t h (jy_in (M := 4) (by omega) (fun j hj e => absurd h (by rw [e]; exact nI_pos (by omega))) (fun _ => br_t rfl ⟨rfl, hc⟩))
  · have h0 : ¬ p < 0 := fun z => absurd (Int32.lt_of_le_of_lt h z) (by decide)
    exact br_f h0 (br_t h (jy_in (M := 4) (by omega) (fun j hj e => absurd ⟨j, hj, e⟩ (jv_rn (by omega) (Or.inr h))) (fun _ => br_t rfl ⟨rfl, hc⟩)))
  · exact br_f (nI_pos (by omega)) (br_f (nI_ge (b := 5) hj (by omega)) ⟨vp_in_nI hj (by omega), jy_in (M := 4) (by omega) (fun _ _ _ => br_f (by decide) ⟨vp_in_nI hj (by omega), rfl, hc⟩) (fun hn => absurd ⟨j, hj, rfl⟩ hn)⟩)
theorem jr_find (hc : C) (p q : Int32) : wpX_find (fun r' => wpY_find (fun r'' => r'' = r' ∧ C) (nI r, nI s, d, yh, yt, K, L, P, N, B, V, M, ok, ol, op, on, ob, ov, om, yc, yg, F, yq, U, T) p q) (nI r, nI s, d, xw, K, L, jp_pi K P, jp_ro N, B, M, V, bk, bl, bp, bn, bb, bm, bh, F, T, xq, U) p q := by
  unfold wpX_find wpY_find
  refine jx_hasEntry (fun a n ha hn e1 e2 hk he => br_f (by decide) ?_) (fun hno => br_t rfl (jy_is (fun a ha e1 hk => br_f (by decide) (jy_in (M := 63) (by omega) (fun n hn e2 => br_f (by decide) ?_) (fun _ => br_t rfl ⟨rfl, hc⟩))) (fun _ => br_t rfl ⟨rfl, hc⟩)))
  · subst e1 e2
    have := jp_s_lt n
    refine jx_spotOf hn ⟨vp_in_nI (by omega) (by omega), ?_⟩
    rw [nI_clamp (by omega), jp_ro_n N a hn]
    refine jy_is (fun j hj e _ => br_f (by decide) (jy_in (M := 63) (by omega) (fun m hm e2 => br_f (by decide) ?_) (fun hh => absurd ⟨n, hn, rfl⟩ hh))) (fun hh => absurd ⟨a, ha, rfl, hk⟩ hh)
    rw [jv_e64, nI_clamp (by omega)]
    exact ⟨vp_in_nI (by omega) (by omega), rfl, hc⟩
  · subst e1 e2
    rw [jv_e64, nI_clamp (by omega)]
    refine ⟨vp_in_nI (by omega) (by omega), ?_, hc⟩
    apply Classical.byContradiction
    intro z
    exact hno ⟨a, n, ha, hn, rfl, rfl, hk, by rw [jp_ro_n N a hn]; exact z⟩
theorem jp_ov_some (i : Nat) (v : Nat → Int32) : jp_ov (some i) v = v i := rfl
theorem jv_nameAt {a h : Nat} (ha : a < 16) (hh : h < 64) : (45 * ((nI (64 * a + h) - nI (64 * a + h) / 64 * 64) + 53)) - (45 * ((nI (64 * a + h) - nI (64 * a + h) / 64 * 64) + 53)) / 64 * 64 = nI (jp_t h) := by
  rw [jv_64, pk_rem (by omega) (by omega) (by omega), show (64 * a + h) % 64 = h from by omega, show (53 : Int32) = nI 53 from rfl, nI_add, show (45 : Int32) = nI 45 from rfl, pk_mul, pk_rem (by omega) (by omega) (by omega)]
  rfl
theorem jr_entry (hc : C) (hN : jp_NR N) (p k q : Int32) : wpX_entry (fun r' => wpY_entry (fun r'' => r'' = r' ∧ C) (nI r, nI s, d, yh, yt, K, L, P, N, B, V, M, ok, ol, op, on, ob, ov, om, yc, yg, F, yq, U, T) p k q) (nI r, nI s, d, xw, K, L, jp_pi K P, jp_ro N, B, M, V, bk, bl, bp, bn, bb, bm, bh, F, T, xq, U) p k q := by
  unfold wpX_entry wpY_entry
  have bad : ∀ z : Int32, (¬ ∃ j, j < 2 ∧ q = nI j) → wY_entry_23 (fun r'' => r'' = -1 ∧ C) p q z (nI r) (nI s) d yh yt K L P N B V M ok ol op on ob ov om yc yg F yq U T := by
    intro z hq
    unfold wY_entry_23
    exact br_c (fun _ => ⟨rfl, hc⟩) (fun _ => jy_in (M := 1) (by omega) (fun j hj e => absurd ⟨j, hj, e⟩ hq) (fun _ => br_t rfl ⟨rfl, hc⟩))
  have neg : wY_entry_23 (fun r'' => r'' = -1 ∧ C) p q (-1) (nI r) (nI s) d yh yt K L P N B V M ok ol op on ob ov om yc yg F yq U T := br_t (by decide) ⟨rfl, hc⟩
  have badY : (¬ ∃ j, j < 2 ∧ q = nI j) → wpY_is (fun r_1 => (r_1 = 0 → wY_entry_22 (fun r'' => r'' = -1 ∧ C) p q (nI r) (nI s) d yh yt K L P N B V M ok ol op on ob ov om yc yg F yq U T) ∧ (¬ r_1 = 0 → (k < 0 → wY_entry_22 (fun r'' => r'' = -1 ∧ C) p q (nI r) (nI s) d yh yt K L P N B V M ok ol op on ob ov om yc yg F yq U T) ∧ (¬ k < 0 → wpY_nameOf (fun r_34 => wY_entry_23 (fun r'' => r'' = -1 ∧ C) p q r_34 (nI r) (nI s) d yh yt K L P N B V M ok ol op on ob ov om yc yg F yq U T) (nI r, nI s, d, yh, yt, K, L, P, N, B, V, M, ok, ol, op, on, ob, ov, om, yc, yg, F, yq, U, T) p k))) (nI r, nI s, d, yh, yt, K, L, P, N, B, V, M, ok, ol, op, on, ob, ov, om, yc, yg, F, yq, U, T) p 2 := by
    intro hq
    refine jy_is (fun a ha e hk => br_f (by decide) (br_c (fun _ => neg) (fun _ => ?_))) (fun _ => br_t rfl neg)
    subst e
    exact jy_nameOf hN ha (bad _ hq)
  refine jx_isDirectory (fun a ha e hk => br_f (by decide) ?_) (fun hno => br_t rfl (jy_is (fun a ha e hk => absurd ⟨a, ha, e, hk⟩ hno) (fun _ => br_t rfl neg)))
  rcases pk_ix q (n := 2) (by omega) with h | h | ⟨x, hx, rfl⟩
  · exact br_t h (badY (jv_rn (by omega) (Or.inl h)))
  · have h0 : ¬ q < 0 := fun z => absurd (Int32.lt_of_le_of_lt h z) (by decide)
    have h1 : ¬ q ≤ 1 := fun z => absurd (Int32.le_trans h z) (by decide)
    exact br_f h0 (br_f h1 (badY (jv_rn (by omega) (Or.inr h))))
  · subst e
    refine br_f (nI_pos (by omega)) (br_t (nI_le (b := 1) (by omega) (by omega)) (jx_spotOfEntry ha ?_))
    rw [jp_kth_congr (g := fun h => decide (¬ N (64 * a + jp_t h) = -1)) k 64 0 0 (fun j _ hj => by rw [jp_ro_h N a (by omega)])]
    cases hkth : jp_kth (fun h => decide (¬ N (64 * a + jp_t h) = -1)) k 64 0 0 with
    | none =>
      refine br_t rfl (jy_is (fun b hb e hk2 => br_f (by decide) (br_c (fun _ => neg) (fun _ => jy_nameOf hN ha ?_))) (fun hh => absurd ⟨a, ha, rfl, hk⟩ hh))
      rw [hkth]; exact neg
    | some h =>
      have hs := jp_kth_some _ _ _ _ _ _ hkth
      have hlt := jp_t_lt h
      have fin : ∀ z : Int32, (x = 0 → z = nI (jp_t h)) → (¬ x = 0 → z = N (64 * a + jp_t h)) → wpY_is (fun r_1 => (r_1 = 0 → wY_entry_22 (fun r'' => r'' = z ∧ C) (nI a) (nI x) (nI r) (nI s) d yh yt K L P N B V M ok ol op on ob ov om yc yg F yq U T) ∧ (¬ r_1 = 0 → (k < 0 → wY_entry_22 (fun r'' => r'' = z ∧ C) (nI a) (nI x) (nI r) (nI s) d yh yt K L P N B V M ok ol op on ob ov om yc yg F yq U T) ∧ (¬ k < 0 → wpY_nameOf (fun r_34 => wY_entry_23 (fun r'' => r'' = z ∧ C) (nI a) (nI x) r_34 (nI r) (nI s) d yh yt K L P N B V M ok ol op on ob ov om yc yg F yq U T) (nI r, nI s, d, yh, yt, K, L, P, N, B, V, M, ok, ol, op, on, ob, ov, om, yc, yg, F, yq, U, T) (nI a) k))) (nI r, nI s, d, yh, yt, K, L, P, N, B, V, M, ok, ol, op, on, ob, ov, om, yc, yg, F, yq, U, T) (nI a) 2 := by
        intro z z0 z1
        refine jy_is (fun b hb e hk2 => br_f (by decide) (br_c (fun hneg => ?_) (fun _ => jy_nameOf hN ha ?_))) (fun hh => absurd ⟨a, ha, rfl, hk⟩ hh)
        · rw [jp_kth_neg _ _ hneg _ _ _ (by omega)] at hkth; simp at hkth
        · rw [hkth]
          refine br_f (nI_pos (by omega)) (jy_in (M := 1) (by omega) (fun j hj e => br_f (by decide) (pk_eq x 0 (fun e0 => ⟨(z0 e0).symm, hc⟩) (fun e0 => ?_))) (fun hh => absurd ⟨x, hx, rfl⟩ hh))
          rw [jp_ov_some, jv_e64, nI_clamp (by omega)]
          exact ⟨vp_in_nI (by omega) (by omega), (z1 e0).symm, hc⟩
      rw [jp_ov_some]
      refine br_f (jv_m1n _ (by omega)) (pk_eq x 0 (fun e0 => ⟨by decide, by decide, ?_⟩) (fun e0 => ⟨vp_in_nI (by omega) (by omega), ?_⟩))
      · rw [jv_nameAt ha (by omega)]
        exact fin _ (fun _ => rfl) (fun z => absurd e0 z)
      · rw [nI_clamp (by omega), jp_ro_h N a (by omega)]
        exact fin _ (fun z => absurd z e0) (fun _ => rfl)
end

/-! numbers as Nat -/
theorem nIle {a b : Nat} (ha : a < 2 ^ 31) (hb : b < 2 ^ 31) : nI a ≤ nI b ↔ a ≤ b := by
  rw [Int32.le_iff_toInt_le, nI_toInt ha, nI_toInt hb]; omega
theorem nIlt {a b : Nat} (ha : a < 2 ^ 31) (hb : b < 2 ^ 31) : nI a < nI b ↔ a < b := by
  rw [Int32.lt_iff_toInt_lt, nI_toInt ha, nI_toInt hb]; omega
theorem nIeq {a b : Nat} (ha : a < 2 ^ 31) (hb : b < 2 ^ 31) : nI a = nI b ↔ a = b := by
  constructor
  · intro h
    have := congrArg Int32.toInt h
    rw [nI_toInt ha, nI_toInt hb] at this
    omega
  · intro h; rw [h]
theorem nI_m1 {a : Nat} (ha : a < 2 ^ 31) : ¬ nI a = -1 := by
  intro h
  have := congrArg Int32.toInt h
  rw [nI_toInt ha] at this
  have e : (-1 : Int32).toInt = -1 := by decide
  omega
theorem nI_ge0 {a : Nat} (ha : a < 2 ^ 31) : ¬ nI a < 0 := nI_pos ha
theorem i32_of {x : Int32} {N : Nat} (hN : N + 1 < 2 ^ 31) (h0 : 0 ≤ x) (h1 : x ≤ nI N) : ∃ k : Nat, k ≤ N ∧ x = nI k := by
  rcases pk_ix x (n := N + 1) hN with h | h | ⟨j, hj, h⟩
  · exact absurd h0 (Int32.not_le.mpr h)
  · exfalso
    have h2 := Int32.le_trans h h1
    rw [nIle (by omega) (by omega)] at h2
    omega
  · exact ⟨j, by omega, h⟩
theorem pow4_le {n : Nat} (h : n ≤ 6) : 4 ^ n ≤ 4096 := by
  have := Nat.pow_le_pow_right (n := 4) (by decide) h
  simpa using this
theorem pow4_pos (n : Nat) : 0 < 4 ^ n := Nat.pow_pos (by decide)
theorem nI_rows {n : Nat} (h : n ≤ 6) : (1 : Int32) <<< ((2 * nI n) &&& 31) = nI (4 ^ n) := by
  have : ∀ n, n < 7 → (1 : Int32) <<< ((2 * nI n) &&& 31) = nI (4 ^ n) := by decide +kernel
  exact this n (by omega)
theorem nI_sets {n : Nat} (h : n ≤ 6) : (1 : Int32) <<< (nI n &&& 31) = nI (2 ^ n) := by
  have : ∀ n, n < 7 → (1 : Int32) <<< (nI n &&& 31) = nI (2 ^ n) := by decide +kernel
  exact this n (by omega)
theorem nI_sub1 {n : Nat} (h : 1 ≤ n) : nI n - 1 = nI (n - 1) := by
  rw [show (1 : Int32) = nI 1 from rfl, pk_sub h]
/-- whether an int is a number below N -/
theorem in_iff {x : Int32} {N : Nat} (h1 : 1 ≤ N) (hN : N < 2 ^ 31) : ((0 : Int32) ≤ x ∧ x ≤ nI N - 1) ↔ ∃ k : Nat, k < N ∧ x = nI k := by
  rw [nI_sub1 h1]
  constructor
  · intro ⟨a, b⟩
    obtain ⟨k, h, e⟩ := i32_of (by omega) a b
    exact ⟨k, by omega, e⟩
  · rintro ⟨k, h, rfl⟩
    exact ⟨nI_pos' (by omega), (nIle (by omega) (by omega)).mpr (by omega)⟩
theorem nIadd (a b : Nat) : nI a + nI b = nI (a + b) := by
  unfold nI
  rw [Int32.ofNat_add]
/-! the statics of the class -/
theorem c_within (w : Wd) (x lo hi : Int32) : Fn 0 87 [vI x, vI lo, vI hi] w w (some (vI (bi (lo ≤ x ∧ x ≤ hi)))) := by
  refine ctr_ev 20 [] rfl rfl ?_
  refine bI (fun h1 => ?_) (fun h1 => bI (fun h2 => ?_) (fun h2 => ?_))
  · refine And.intro rfl (And.intro rfl ?_)
    rw [bi_f (fun z => Int32.not_le.mpr h1 z.1)]
  · refine And.intro rfl (And.intro rfl ?_)
    rw [bi_f (fun z => Int32.not_le.mpr h2 z.2)]
  · refine And.intro rfl (And.intro rfl ?_)
    rw [bi_t ⟨Int32.not_lt.mp h1, Int32.not_lt.mp h2⟩]
theorem c_deed (w : Wd) (x p : Int32) : Fn 0 89 [vI x, vI p] w w (some (vI ((x >>> ((2 * p) &&& 31)) &&& 3))) :=
  ctr_ev 20 [] rfl rfl (And.intro rfl rfl)
theorem c_deedN (w : Wd) {row p : Nat} (hr : row < 2 ^ 31) (hp : p < 16) : Fn 0 89 [vI (nI row), vI (nI p)] w w (some (vI (nI (dd row p)))) := by
  have := c_deed w (nI row) (nI p)
  rw [nI_dd hr hp] at this
  exact this
theorem c_withDeed (w : Wd) (x p d : Int32) : Fn 0 90 [vI x, vI p, vI d] w w (some (vI ((x &&& ((3 : Int32) <<< ((2 * p) &&& 31) ^^^ (-1))) ||| (d <<< ((2 * p) &&& 31))))) :=
  ctr_ev 20 [] rfl rfl (And.intro rfl rfl)
theorem c_withDeedN (w : Wd) {row p d : Nat} (hr : row < 4096) (hp : p < 6) (hd : d < 4) : Fn 0 90 [vI (nI row), vI (nI p), vI (nI d)] w w (some (vI (nI (wdd row p d)))) := by
  have := c_withDeed w (nI row) (nI p) (nI d)
  rw [nI_wdd hr hp hd] at this
  exact this
theorem c_isIn (w : Wd) (x p : Int32) : Fn 0 88 [vI x, vI p] w w (some (vI (bi ((x >>> (p &&& 31)) &&& 1 = 1)))) := by
  refine ctr_ev 20 [] rfl rfl (bI (fun h => ?_) (fun h => ?_))
  · refine And.intro rfl (And.intro rfl ?_)
    rw [bi_t h]
  · refine And.intro rfl (And.intro rfl ?_)
    rw [bi_f h]
theorem nI_bit {s p : Nat} (hs : s < 2 ^ 31) (hp : p < 32) : (nI s >>> (nI p &&& 31)) &&& 1 = nI (s / 2 ^ p % 2) := by
  rw [pk_shrN hs _ p (sh_l p hp), pk_andN (by
    have := Nat.div_le_self s (2 ^ p)
    omega) 1 (by decide)]
theorem nI_bit1 {s p : Nat} (hs : s < 2 ^ 31) (hp : p < 32) : ((nI s >>> (nI p &&& 31)) &&& 1 = 1) ↔ s.testBit p = true := by
  rw [nI_bit hs hp, show (1 : Int32) = nI 1 from rfl, nIeq (by omega) (by decide), Nat.testBit_eq_decide_div_mod_eq, decide_eq_true_eq]
theorem c_isInN (w : Wd) {s p : Nat} (hs : s < 2 ^ 31) (hp : p < 32) : Fn 0 88 [vI (nI s), vI (nI p)] w w (some (vI (bi (s.testBit p = true)))) := by
  have := c_isIn w (nI s) (nI p)
  rw [show bi ((nI s >>> (nI p &&& 31)) &&& 1 = 1) = bi (s.testBit p = true) from by
    by_cases h : s.testBit p = true
    · rw [bi_t h, bi_t ((nI_bit1 hs hp).mpr h)]
    · rw [bi_f h, bi_f (fun z => h ((nI_bit1 hs hp).mp z))]] at this
  exact this
def sumK (row : Nat) : Nat → Nat
  | 0 => 0
  | k + 1 => sumK row k + dd row k
theorem sumK_le (row k : Nat) : sumK row k ≤ 3 * k := by
  induction k with
  | zero => exact Nat.le_refl _
  | succ k ih =>
    have := dd_lt row k
    simp only [sumK]
    omega
theorem c_sum (w : Wd) {row : Nat} (hr : row < 2 ^ 31) : Fn 1 91 [vI (nI row)] w w (some (vI (nI (sumK row 6)))) := by
  have key : ∀ (j k : Nat) (p a : Int32), k + j = 6 → p = nI k → a = nI (sumK row k) → Go 1 91 none 4 [some (vI (nI row)), some (vI a), some (vI p)] [] w (fun w' r' => w' = w ∧ r' = some (vI (nI (sumK row 6)))) := by
    intro j
    induction j with
    | zero =>
      intro k p a hk hp ha
      refine go_ev 20 [4] ?_
      obtain rfl : k = 6 := by omega
      subst hp
      refine bT (by decide) (And.intro rfl ?_)
      rw [ha]
    | succ j ih =>
      intro k p a hk hp ha
      refine go_ev 20 [4] ?_
      subst hp
      refine bF (by rw [show (6 : Int32) = nI 6 from rfl, nIle (by decide) (by omega)]; omega) ?_
      refine iF (c_deedN w hr (by omega)) (by decide) ?_
      exact ih (k + 1) _ _ (by omega) (nI_succ k).symm (by rw [ha, nIadd]; rfl)
  refine ctr_ev 20 [4] rfl rfl ?_
  exact key 6 0 0 0 rfl rfl rfl
theorem c_isFurther (w : Wd) (x a b : Int32) : Fn 0 86 [vI x, vI a, vI b] w w (some (vI (bi (if x = 0 then b < a else a < b)))) := by
  refine ctr_ev 20 [] rfl rfl (bI (fun h => bI (fun h1 => ?_) (fun h1 => ?_)) (fun h => bI (fun h1 => ?_) (fun h1 => ?_)))
  · refine And.intro rfl (And.intro rfl ?_)
    simp only [if_pos h]
    rw [bi_f (Int32.not_lt.mpr h1)]
  · refine And.intro rfl (And.intro rfl ?_)
    simp only [if_pos h]
    rw [bi_t (Int32.not_le.mp h1)]
  · refine And.intro rfl (And.intro rfl ?_)
    simp only [if_neg h]
    rw [bi_f (Int32.not_lt.mpr h1)]
  · refine And.intro rfl (And.intro rfl ?_)
    simp only [if_neg h]
    rw [bi_t (Int32.not_le.mp h1)]

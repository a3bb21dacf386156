/-! what a person keeps: four bits a row -/
def nb (z : Int32) (j : Nat) : Nat := z.toBitVec.toNat / 16 ^ j % 16
theorem p16 (j : Nat) : 16 ^ j = 2 ^ (4 * j) := by rw [Nat.pow_mul]
theorem nb_bit (z : Int32) (j i : Nat) : (nb z j).testBit i = (decide (i < 4) && z.toBitVec.toNat.testBit (4 * j + i)) := by
  unfold nb
  rw [show (16 : Nat) = 2 ^ 4 from rfl, ← Nat.pow_mul, Nat.testBit_mod_two_pow, Nat.testBit_div_two_pow, Nat.add_comm i]
theorem nb_get {z : Int32} {j : Nat} (hj : j < 8) : (z >>> (nI (4 * j) &&& 31)) &&& 15 = nI (nb z j) := by
  rw [pk_and _ 4 (by decide)]
  congr 1
  apply Nat.eq_of_testBit_eq
  intro i
  rw [nb_bit, Nat.testBit_mod_two_pow]
  by_cases hi : i < 4
  · simp only [hi, decide_true, Bool.true_and]
    have h : (z >>> (nI (4 * j) &&& 31)).toBitVec = z.toBitVec.sshiftRight (4 * j) := by
      rw [Int32.toBitVec_shiftRight, BitVec.sshiftRight_eq', sh_l _ (by omega)]
    rw [h, BitVec.testBit_toNat, BitVec.testBit_toNat, BitVec.getLsbD_sshiftRight]
    simp [show i < 32 by omega, show 4 * j + i < 32 by omega]
  · simp [hi]
theorem nb_put {z : Int32} {j v : Nat} (hj : j < 8) (hv : v < 16) (h0 : nb z j = 0) (j' : Nat) : nb (z ||| (nI v <<< (nI (4 * j) &&& 31))) j' = if j' = j then v else nb z j' := by
  have hlt : v * 2 ^ (4 * j) < 2 ^ 32 := by
    have : 2 ^ (4 * j) ≤ 2 ^ 28 := Nat.pow_le_pow_right (by decide) (by omega)
    have h2 : v * 2 ^ (4 * j) ≤ 15 * 2 ^ 28 := Nat.mul_le_mul (by omega) this
    omega
  rw [pk_shlN _ (4 * j) (sh_l _ (by omega)) hlt]
  apply Nat.eq_of_testBit_eq
  intro i
  rw [nb_bit, Int32.toBitVec_or, BitVec.toNat_or, Nat.testBit_or, pk_tn hlt, Nat.testBit_mul_two_pow]
  have hz : ∀ i, i < 4 → z.toBitVec.toNat.testBit (4 * j + i) = false := fun i hi => by
    have := nb_bit z j i
    rw [h0, Nat.zero_testBit, show decide (i < 4) = true from decide_eq_true hi, Bool.true_and] at this
    exact this.symm
  have hvb : ∀ i, 4 ≤ i → v.testBit i = false := fun i hi => Nat.testBit_lt_two_pow (Nat.lt_of_lt_of_le hv (Nat.pow_le_pow_right (n := 2) (by decide) hi))
  by_cases hi : i < 4
  · by_cases hjj : j' = j
    · subst hjj
      rw [if_pos rfl, hz i hi]
      simp [hi]
    · rw [if_neg hjj, nb_bit]
      rcases Nat.lt_or_ge j' j with h | h
      · simp [hi, show ¬ 4 * j ≤ 4 * j' + i by omega]
      · rw [hvb (4 * j' + i - 4 * j) (by omega)]
        simp
  · by_cases hjj : j' = j
    · rw [if_pos hjj, hvb i (by omega)]
      simp [hi]
    · rw [if_neg hjj, nb_bit]
      simp [hi]
/-- a row without the own deed -/
def kyR (row p : Nat) : Nat := row % 4 ^ p + row / 4 ^ (p + 1) * 4 ^ p
theorem kyR_lt {n row p : Nat} (hn : n ≤ 6) (hp : p < n) (hr : row < 4 ^ n) : kyR row p < 1024 := by
  unfold kyR
  have h1 := Nat.mod_lt row (pow4_pos p)
  have h2 : row / 4 ^ (p + 1) < 4 ^ (5 - p) := by
    rw [Nat.div_lt_iff_lt_mul (pow4_pos _), ← Nat.pow_add, show 5 - p + (p + 1) = 6 by omega]
    exact Nat.lt_of_lt_of_le hr (Nat.pow_le_pow_right (by decide) hn)
  have h3 : (row / 4 ^ (p + 1) + 1) * 4 ^ p ≤ 4 ^ (5 - p) * 4 ^ p := Nat.mul_le_mul_right _ h2
  rw [← Nat.pow_add, show 5 - p + p = 5 by omega, Nat.add_mul] at h3
  omega
theorem kyR_same {row row' p : Nat} (h : kyR row p = kyR row' p) : row' = wdd row p (dd row' p) := by
  obtain ⟨h1, h2⟩ := wdd_parts row p (dd row' p)
  obtain ⟨h3, -⟩ := wdd_parts row' p 0
  have hm := Nat.mod_lt row (pow4_pos p)
  have hm' := Nat.mod_lt row' (pow4_pos p)
  unfold kyR at h
  rw [Nat.pow_succ, ← Nat.div_div_eq_div_mul, ← Nat.div_div_eq_div_mul] at h
  have a1 : (row % 4 ^ p + row / 4 ^ p / 4 * 4 ^ p) % 4 ^ p = row % 4 ^ p := by rw [Nat.add_mul_mod_self_right, Nat.mod_mod]
  have a2 : (row' % 4 ^ p + row' / 4 ^ p / 4 * 4 ^ p) % 4 ^ p = row' % 4 ^ p := by rw [Nat.add_mul_mod_self_right, Nat.mod_mod]
  have b1 : (row % 4 ^ p + row / 4 ^ p / 4 * 4 ^ p) / 4 ^ p = row / 4 ^ p / 4 := by rw [Nat.add_mul_div_right _ _ (pow4_pos p), Nat.div_eq_of_lt hm, Nat.zero_add]
  have b2 : (row' % 4 ^ p + row' / 4 ^ p / 4 * 4 ^ p) / 4 ^ p = row' / 4 ^ p / 4 := by rw [Nat.add_mul_div_right _ _ (pow4_pos p), Nat.div_eq_of_lt hm', Nat.zero_add]
  rw [h] at a1 b1
  rw [h2, ← a1.symm.trans a2 |>.symm, ← b1.symm.trans b2 |>.symm]
  exact h3
def kyB (row p : Nat) : Bool := decide ((nI row &&& (((1 : Int32) <<< ((2 * nI p) &&& 31)) - 1)) ||| ((nI row >>> ((2 * nI p + 2) &&& 31)) <<< ((2 * nI p) &&& 31)) = nI (kyR row p))
set_option maxRecDepth 100000 in
theorem kyB_all : (List.range 64).all (fun a => (List.range 64).all (fun b => (List.range 6).all (fun p => kyB (64 * a + b) p))) = true := by decide +kernel
theorem nI_ky {row p : Nat} (hr : row < 4096) (hp : p < 6) : (nI row &&& (((1 : Int32) <<< ((2 * nI p) &&& 31)) - 1)) ||| ((nI row >>> ((2 * nI p + 2) &&& 31)) <<< ((2 * nI p) &&& 31)) = nI (kyR row p) := by
  have h1 := List.all_eq_true.mp kyB_all (row / 64) (List.mem_range.mpr (by omega))
  have h2 := List.all_eq_true.mp h1 (row % 64) (List.mem_range.mpr (by omega))
  have h3 := List.all_eq_true.mp h2 p (List.mem_range.mpr hp)
  rw [show 64 * (row / 64) + row % 64 = row by omega] at h3
  simpa [kyB] using h3

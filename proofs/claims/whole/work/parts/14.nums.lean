/-! numbers: rows of deeds, sets -/
def dd (row p : Nat) : Nat := row / 4 ^ p % 4
def wdd (row p d : Nat) : Nat := row - dd row p * 4 ^ p + d * 4 ^ p
theorem dd_lt (row p : Nat) : dd row p < 4 := Nat.mod_lt _ (by decide)
theorem sh_l : ∀ n, n < 32 → ((nI n &&& 31).toBitVec.smod 32).toNat = n := by decide +kernel
theorem nI_lit (n : Nat) : (OfNat.ofNat n : Int32) = nI n := rfl
theorem nI_dd {row p : Nat} (hr : row < 2 ^ 31) (hp : p < 16) : (nI row >>> ((2 * nI p) &&& 31)) &&& 3 = nI (dd row p) := by
  rw [show (2 : Int32) = nI 2 from rfl, pk_mul, pk_shrN hr _ (2 * p) (sh_l _ (by omega)), pk_andN (by
    have := Nat.div_le_self row (2 ^ (2 * p))
    omega) 2 (by decide)]
  unfold dd
  rw [Nat.pow_mul]
def wddB (row p d : Nat) : Bool := decide ((nI row &&& ((3 : Int32) <<< ((2 * nI p) &&& 31) ^^^ (-1))) ||| (nI d <<< ((2 * nI p) &&& 31)) = nI (wdd row p d))
set_option maxRecDepth 100000 in
theorem wdd_all : (List.range 64).all (fun a => (List.range 64).all (fun b => (List.range 6).all (fun p => (List.range 4).all (fun d => wddB (64 * a + b) p d)))) = true := by decide +kernel
theorem nI_wdd {row p d : Nat} (hr : row < 4096) (hp : p < 6) (hd : d < 4) : (nI row &&& ((3 : Int32) <<< ((2 * nI p) &&& 31) ^^^ (-1))) ||| (nI d <<< ((2 * nI p) &&& 31)) = nI (wdd row p d) := by
  have h1 := List.all_eq_true.mp wdd_all (row / 64) (List.mem_range.mpr (by omega))
  have h2 := List.all_eq_true.mp h1 (row % 64) (List.mem_range.mpr (by omega))
  have h3 := List.all_eq_true.mp h2 p (List.mem_range.mpr hp)
  have h4 := List.all_eq_true.mp h3 d (List.mem_range.mpr hd)
  rw [show 64 * (row / 64) + row % 64 = row by omega] at h4
  simpa [wddB] using h4

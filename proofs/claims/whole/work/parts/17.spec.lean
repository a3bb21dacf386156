/-! what the calls answer: one mathematical value for the class and the model -/
abbrev tN (x : Int32) : Nat := x.toNatClampNeg
abbrev inP (n : Nat) (x : Int32) : Prop := (0 : Int32) ≤ x ∧ x ≤ nI n - 1
abbrev inR (n : Nat) (x : Int32) : Prop := (0 : Int32) ≤ x ∧ x ≤ nI (4 ^ n) - 1
abbrev inS (n : Nat) (x : Int32) : Prop := (0 : Int32) ≤ x ∧ x ≤ nI (2 ^ n) - 1
abbrev inW (a b x : Int32) : Prop := a ≤ x ∧ x ≤ b
def sLets (n : Nat) (l : Nat → Nat → Nat → Nat) (p r d : Int32) : Int32 := if inP n p then (if inR n r ∧ inW 1 9 d then nI (l (tN p) (tN r) (tN d)) else -1002) else -1001
def sJudge (n : Nat) (l : Nat → Nat → Nat → Nat) (r d : Int32) : Int32 := if inR n r ∧ inW 1 9 d then optI (fst (badA l (tN d) (tN r) 0) n 0) else -1002
def sMay (n : Nat) (l : Nat → Nat → Nat → Nat) (s : Nat) (i : Int32) : Int32 := mayF (gd n l s) i (4 ^ n) 0 0
def sPossible (n : Nat) (l : Nat → Nat → Nat → Nat) (s i : Int32) : Int32 := if inS n s then sMay n l (tN s) i else -1001
def sTelling (n : Nat) (l : Nat → Nat → Nat → Nat) (s p : Int32) : Int32 := if inS n s ∧ inP n p then (if (tN s).testBit (tN p) = true then sMay n l (tN s) (-1) - sMay n l (tN s - 2 ^ tN p) (-1) else -1003) else -1001
def endF (g : Nat → Bool) (fur : Nat → Nat → Bool) : Nat → Nat → Option Nat → Option Nat
  | 0, _, b => b
  | k + 1, r, b => endF g fur k (r + 1) (if g r && (match b with
    | none => true
    | some q => fur r q) then some r else b)
def furS (n : Nat) (x : Int32) (r q : Nat) : Bool := if x = 0 then decide (sumK q n < sumK r n) else decide (sumK r n < sumK q n)
def sEnd (n : Nat) (l : Nat → Nat → Nat → Nat) (x : Int32) : Int32 := if inW 0 1 x then optI (endF (gd n l 0) (furS n x) (4 ^ n) 0 none) else -1002
def sureF (g : Nat → Bool) (p : Nat) : Nat → Nat → Option Nat → Option Nat
  | 0, _, b => b
  | k + 1, r, b => if g r then (if b = none ∨ b = some (dd r p) then sureF g p k (r + 1) (some (dd r p)) else none) else sureF g p k (r + 1) b
def sSure (n : Nat) (l : Nat → Nat → Nat → Nat) (s p : Int32) : Int32 := if inS n s ∧ inP n p then optI (sureF (gd n l (tN s)) (tN p) (4 ^ n) 0 none) else -1001
/-- who slips: the first other person whose one more lets less; the first row where one does -/
def slB (n : Nat) (l : Nat → Nat → Nat → Nat) (day p row : Nat) : Option Nat := fst (fun q => q != p && (decide (dd row q < 3) && decide (l p (row + 4 ^ q) day < l p row day))) n 0
def slR (n : Nat) (l : Nat → Nat → Nat → Nat) (day p : Nat) : Option Nat := fst (fun row => decide (dd row p = 0) && (slB n l day p row).isSome) (4 ^ n) 0
def sGrows (n : Nat) (l : Nat → Nat → Nat → Nat) (p d x : Int32) : Int32 := if inP n p then (if inW 1 9 d ∧ inW (-1) 1 x then (match slR n l (tN d) (tN p) with
    | none => if x = -1 then 1 else -1
    | some row => if x = -1 then 0 else if x = 0 then nI row else optI (slB n l (tN d) (tN p) row)) else -1002) else -1001
def cntB (f : Nat → Bool) : Nat → Nat
  | 0 => 0
  | k + 1 => cntB f k + (if f k then 1 else 0)
def growN (n : Nat) (l : Nat → Nat → Nat → Nat) : Nat := cntB (fun p => (slR n l 9 p).isNone) n
def hgOn (l : Nat → Nat → Nat → Nat) (p q row : Nat) : Bool := (fst (fun d => l p (wdd row q d) 9 != l p row 9) 4 0).isSome
def hgF (l : Nat → Nat → Nat → Nat) (p row : Nat) : Nat → Nat
  | 0 => 0
  | k + 1 => hgF l p row k + (if k != p && hgOn l p k row then 2 ^ k else 0)
def sHangs (n : Nat) (l : Nat → Nat → Nat → Nat) (p r : Int32) : Int32 := if inP n p then (if inR n r then nI (hgF l (tN p) (tN r) n) else -1002) else -1001
/-- a row out of digits -/
def digs (f : Nat → Nat) : Nat → Nat
  | 0 => 0
  | k + 1 => digs f k + f k * 4 ^ k
def nday (n : Nat) (l : Nat → Nat → Nat → Nat) (row day : Nat) : Nat := digs (fun p => max (dd row p) (l p row day)) n
def byD (n : Nat) (l : Nat → Nat → Nat → Nat) : Nat → Nat
  | 0 => 0
  | d + 1 => nday n l (byD n l d) (d + 1)
def sByDay (n : Nat) (l : Nat → Nat → Nat → Nat) (d : Int32) : Int32 := if inW 0 9 d then nI (byD n l (tN d)) else -1002
def sDares (n : Nat) (l : Nat → Nat → Nat → Nat) (p : Int32) : Int32 := if inP n p then optI (fst (fun d => decide (0 < dd (byD n l d) (tN p))) 9 1) else -1001
/-! facts of them -/
theorem digs_lt {f : Nat → Nat} (h : ∀ p, f p < 4) (k : Nat) : digs f k < 4 ^ k := by
  induction k with
  | zero => exact Nat.one_pos
  | succ k ih =>
    have h1 := h k
    have h2 : f k * 4 ^ k ≤ 3 * 4 ^ k := Nat.mul_le_mul_right _ (by omega)
    simp only [digs, Nat.pow_succ]
    omega
theorem dd_mix {S R k : Nat} (hS : S < 4 ^ k) : dd (S + R * 4 ^ k) k = R % 4 := by
  unfold dd
  rw [Nat.add_mul_div_right _ _ (pow4_pos k), Nat.div_eq_of_lt hS, Nat.zero_add]
theorem mix_step {S row k d : Nat} (hS : S < 4 ^ k) : wdd (S + row / 4 ^ k * 4 ^ k) k d = S + d * 4 ^ k + row / 4 ^ (k + 1) * 4 ^ (k + 1) := by
  unfold wdd
  rw [dd_mix hS, Nat.pow_succ, ← Nat.div_div_eq_div_mul]
  generalize row / 4 ^ k = R
  generalize 4 ^ k = P
  have h1 : R * P = (R % 4) * P + R / 4 * (P * 4) := by
    have h2 := Nat.div_add_mod R 4
    calc R * P = (4 * (R / 4) + R % 4) * P := by rw [h2]
      _ = R % 4 * P + R / 4 * (P * 4) := by
        rw [Nat.add_mul, Nat.add_comm]
        congr 1
        rw [Nat.mul_comm 4 (R / 4), Nat.mul_assoc, Nat.mul_comm 4 P]
  omega
theorem dd_out {row n p : Nat} (hr : row < 4 ^ n) (hp : n ≤ p) : dd row p = 0 := by
  unfold dd
  rw [Nat.div_eq_of_lt (Nat.lt_of_lt_of_le hr (Nat.pow_le_pow_right (by decide) hp))]
theorem sumK_n {row n : Nat} (hr : row < 4 ^ n) : ∀ k, n ≤ k → sumK row k = sumK row n := by
  intro k
  induction k with
  | zero => intro h; rw [Nat.le_zero.mp h]
  | succ k ih =>
    intro h
    by_cases hk : n = k + 1
    · rw [hk]
    · simp only [sumK]
      rw [ih (by omega), dd_out hr (by omega)]
      rfl
theorem up_lt {row n q : Nat} (hr : row < 4 ^ n) (hq : q < n) (hd : dd row q < 3) : row + 4 ^ q < 4 ^ n := by
  obtain ⟨j, rfl⟩ : ∃ j, n = q + 1 + j := ⟨n - q - 1, by omega⟩
  have e : 4 ^ (q + 1 + j) = 4 ^ q * (4 * 4 ^ j) := by rw [Nat.pow_add, Nat.pow_succ, Nat.mul_assoc]
  rw [e] at hr ⊢
  unfold dd at hd
  have hP := pow4_pos q
  have h1 := Nat.div_add_mod row (4 ^ q)
  have h2 := Nat.mod_lt row hP
  have h3 : row / 4 ^ q < 4 * 4 ^ j := Nat.div_lt_of_lt_mul hr
  have h4 : row / 4 ^ q + 1 < 4 * 4 ^ j := by omega
  have h5 : 4 ^ q * (row / 4 ^ q + 1 + 1) ≤ 4 ^ q * (4 * 4 ^ j) := Nat.mul_le_mul_left _ h4
  rw [Nat.mul_add, Nat.mul_add, Nat.mul_one] at h5
  omega
theorem wdd_lt {row n q d : Nat} (hr : row < 4 ^ n) (hq : q < n) (hd : d < 4) : wdd row q d < 4 ^ n := by
  obtain ⟨j, rfl⟩ : ∃ j, n = q + 1 + j := ⟨n - q - 1, by omega⟩
  have e : 4 ^ (q + 1 + j) = 4 ^ q * (4 * 4 ^ j) := by rw [Nat.pow_add, Nat.pow_succ, Nat.mul_assoc]
  rw [e] at hr ⊢
  unfold wdd dd
  have hP := pow4_pos q
  have h1 := Nat.div_add_mod row (4 ^ q)
  have h2 := Nat.mod_lt row hP
  have h3 : row / 4 ^ q < 4 * 4 ^ j := Nat.div_lt_of_lt_mul hr
  generalize row / 4 ^ q = R at h1 h3 ⊢
  have h4 : R / 4 * 4 + d + 1 ≤ 4 * 4 ^ j := by omega
  have h5 : 4 ^ q * (R / 4 * 4 + d + 1) ≤ 4 ^ q * (4 * 4 ^ j) := Nat.mul_le_mul_left _ h4
  have h6 : 4 ^ q * R = R % 4 * 4 ^ q + 4 ^ q * (R / 4 * 4) := by
    have h7 := Nat.div_add_mod R 4
    calc 4 ^ q * R = 4 ^ q * (R % 4 + R / 4 * 4) := by congr 1; omega
      _ = R % 4 * 4 ^ q + 4 ^ q * (R / 4 * 4) := by rw [Nat.mul_add, Nat.mul_comm (4 ^ q) (R % 4)]
  rw [Nat.mul_add, Nat.mul_add, Nat.mul_one] at h5
  have h8 : 4 ^ q * d = d * 4 ^ q := Nat.mul_comm _ _
  omega
theorem clampP {n : Nat} {x : Int32} (h1 : 1 ≤ n) (hn : n < 2 ^ 31) (h : (0 : Int32) ≤ x ∧ x ≤ nI n - 1) : tN x < n ∧ x = nI (tN x) := by
  obtain ⟨k, hk, rfl⟩ := (in_iff h1 hn).mp h
  rw [show tN (nI k) = k from nI_clamp (by omega)]
  exact ⟨hk, rfl⟩
theorem clampW {x : Int32} {a b : Nat} (hb : b + 1 < 2 ^ 31) (h : nI a ≤ x ∧ x ≤ nI b) (ha : a ≤ b) : a ≤ tN x ∧ tN x ≤ b ∧ x = nI (tN x) := by
  have h0 : (0 : Int32) ≤ x := Int32.le_trans (nI_pos' (by omega)) h.1
  obtain ⟨k, hk, rfl⟩ := i32_of hb h0 h.2
  rw [show tN (nI k) = k from nI_clamp (by omega)]
  exact ⟨(nIle (by omega) (by omega)).mp h.1, hk, rfl⟩
theorem mayF_m1 {g : Nat → Bool} (j row found : Nat) (h : found + j < 2 ^ 31) : mayF g (-1) (j + 1) row found = if g row then mayF g (-1) j (row + 1) (found + 1) else mayF g (-1) j (row + 1) found := by
  have : ¬ nI found = -1 := nI_m1 (by omega)
  simp only [mayF, this, if_false]
theorem mayF_low {g : Nat → Bool} {i : Int32} (hi : i ≠ -1) : ∀ (j row found : Nat), found + j < 2 ^ 31 → i < nI found → mayF g i j row found = -1 := by
  intro j
  induction j with
  | zero =>
    intro row found _ _
    simp only [mayF, if_neg hi]
  | succ j ih =>
    intro row found hb hlt
    have hne : ¬ nI found = i := fun z => by
      rw [z] at hlt
      exact Int32.lt_irrefl hlt
    have hlt2 : i < nI (found + 1) := Int32.lt_trans hlt ((nIlt (by omega) (by omega)).mpr (by omega))
    simp only [mayF, if_neg hne]
    split
    · exact ih _ _ (by omega) hlt2
    · exact ih _ _ (by omega) hlt

/-! the pile of bits -/
def pv : List Bool → Nat
  | [] => 0
  | b :: t => 2 * pv t + b.toNat
theorem pv_lt : ∀ s : List Bool, pv s < 2 ^ s.length
  | [] => by decide
  | b :: t => by
    have := pv_lt t
    have := Bool.toNat_lt b
    simp only [pv, List.length_cons, Nat.pow_succ]
    omega
theorem nI_ofN {x : Int32} {n : Nat} (h : x.toBitVec.toNat = n) (hn : n < 2 ^ 32) : x = nI n := Int32.toBitVec_inj.mp (BitVec.eq_of_toNat_eq (by rw [h, pk_tn hn]))
theorem halves {a b : Nat} (h1 : a / 2 = b / 2) (h2 : a % 2 = b % 2) : a = b := by omega
theorem md2 {a b : Nat} (h : a.testBit 0 = b.testBit 0) : a % 2 = b % 2 := by
  rw [Nat.testBit_zero, Nat.testBit_zero, decide_eq_decide] at h
  omega
theorem tb0 (t : Nat) (b : Bool) : (2 * t + b.toNat).testBit 0 = b := by
  rw [Nat.testBit_zero]
  cases b <;> simp <;> omega
theorem xor1N (t : Nat) (b : Bool) : (2 * t + b.toNat) ^^^ 1 = 2 * t + (!b).toNat := by
  apply halves
  · rw [Nat.xor_div_two]
    cases b <;> simp <;> omega
  · apply md2
    rw [Nat.testBit_xor, tb0, tb0]
    cases b <;> rfl
theorem pile_not (t : Nat) (b : Bool) (h : 2 * t + b.toNat < 2 ^ 31) : nI (2 * t + b.toNat) ^^^ 1 = nI (2 * t + (!b).toNat) := by
  apply nI_ofN
  · rw [Int32.toBitVec_xor, BitVec.toNat_xor, pk_tn (by omega)]
    exact xor1N t b
  · cases b <;> simp at h ⊢ <;> omega
theorem orm2N {x : Nat} (h : x < 2 ^ 31) : x ||| 4294967294 = 4294967294 + x % 2 := by
  apply Nat.eq_of_testBit_eq
  intro i
  rw [Nat.testBit_or]
  cases i with
  | zero =>
    rw [Nat.testBit_zero, Nat.testBit_zero, Nat.testBit_zero]
    have : (4294967294 + x % 2) % 2 = x % 2 := by omega
    rw [this]
    simp
  | succ i =>
    rw [Nat.testBit_succ, Nat.testBit_succ, Nat.testBit_succ]
    have e1 : (4294967294 + x % 2) / 2 = 2 ^ 31 - 1 := by omega
    have e2 : 4294967294 / 2 = 2 ^ 31 - 1 := by decide
    rw [e1, e2, Nat.testBit_two_pow_sub_one]
    by_cases hi : i < 31
    · simp [hi]
    · have : x / 2 < 2 ^ i := Nat.lt_of_lt_of_le (show x / 2 < 2 ^ 31 by omega) (Nat.pow_le_pow_right (by decide) (by omega))
      rw [Nat.testBit_lt_two_pow this]
      rfl
theorem andHi {y : Nat} (a : Bool) (hy : y < 2 ^ 31) : y &&& (4294967294 + a.toNat) = 2 * (y / 2) + (y.testBit 0 && a).toNat := by
  have ha := Bool.toNat_lt a
  apply halves
  · rw [Nat.and_div_two]
    have e1 : (4294967294 + a.toNat) / 2 = 2 ^ 31 - 1 := by omega
    rw [e1, Nat.and_two_pow_sub_one_eq_mod, Nat.mod_eq_of_lt (by omega)]
    have := Bool.toNat_lt (y.testBit 0 && a)
    omega
  · apply md2
    rw [Nat.testBit_and, tb0, show 4294967294 + a.toNat = 2 * 2147483647 + a.toNat from rfl, tb0]
theorem pile_and (t : Nat) (a b : Bool) (h : 2 * (2 * t + b.toNat) + a.toNat < 2 ^ 31) : ((nI (2 * (2 * t + b.toNat) + a.toNat)).toUInt32 >>> (Int32.toUInt32 1 &&& Int32.toUInt32 31)).toInt32 &&& (nI (2 * (2 * t + b.toNat) + a.toNat) ||| (-2)) = nI (2 * t + (b && a).toNat) := by
  have ha := Bool.toNat_lt a
  have hb := Bool.toNat_lt b
  have hc := Bool.toNat_lt (b && a)
  rw [pk_ushrN (by omega) 1 1 (by decide)]
  apply nI_ofN
  · rw [Int32.toBitVec_and, BitVec.toNat_and, Int32.toBitVec_or, BitVec.toNat_or, pk_tn (by omega), pk_tn (by omega)]
    rw [show (2 * (2 * t + b.toNat) + a.toNat) / 2 ^ 1 = 2 * t + b.toNat by omega]
    show (2 * t + b.toNat) &&& ((2 * (2 * t + b.toNat) + a.toNat) ||| 4294967294) = _
    rw [orm2N h, show (2 * (2 * t + b.toNat) + a.toNat) % 2 = a.toNat by omega, andHi a (by omega), tb0]
    omega
  · omega
theorem or1N (y : Nat) (a : Bool) : y ||| a.toNat = 2 * (y / 2) + (y.testBit 0 || a).toNat := by
  have ha := Bool.toNat_lt a
  apply halves
  · rw [Nat.or_div_two, show a.toNat / 2 = 0 by omega, Nat.or_zero]
    have := Bool.toNat_lt (y.testBit 0 || a)
    omega
  · apply md2
    rw [Nat.testBit_or, tb0, show a.toNat = 2 * 0 + a.toNat by omega, tb0]
theorem pile_or (t : Nat) (a b : Bool) (h : 2 * (2 * t + b.toNat) + a.toNat < 2 ^ 31) : ((nI (2 * (2 * t + b.toNat) + a.toNat)).toUInt32 >>> (Int32.toUInt32 1 &&& Int32.toUInt32 31)).toInt32 ||| (nI (2 * (2 * t + b.toNat) + a.toNat) &&& 1) = nI (2 * t + (b || a).toNat) := by
  have ha := Bool.toNat_lt a
  have hb := Bool.toNat_lt b
  have hc := Bool.toNat_lt (b || a)
  rw [pk_ushrN (by omega) 1 1 (by decide), pk_andN (by omega) 1 (by decide)]
  apply nI_ofN
  · rw [Int32.toBitVec_or, BitVec.toNat_or, pk_tn (by omega), pk_tn (by omega)]
    rw [show (2 * (2 * t + b.toNat) + a.toNat) / 2 ^ 1 = 2 * t + b.toNat by omega, show (2 * (2 * t + b.toNat) + a.toNat) % 2 ^ 1 = a.toNat by omega, or1N, tb0]
    omega
  · omega
theorem pile_shl {x : Nat} (h : x < 2 ^ 30) : nI x <<< ((1 : Int32) &&& 31) = nI (2 * x) := by
  rw [pk_shlN ((1 : Int32) &&& 31) 1 (by decide) (by omega), Nat.mul_comm]
theorem pile_or1 {x : Nat} (h : x < 2 ^ 30) : nI (2 * x) ||| 1 = nI (2 * x + 1) := by
  apply nI_ofN
  · rw [Int32.toBitVec_or, BitVec.toNat_or, pk_tn (by omega)]
    show 2 * x ||| (true).toNat = _
    rw [or1N, show 2 * x / 2 = x by omega, Bool.or_true]
    rfl
  · omega
theorem pile_top (t : Nat) (b : Bool) (h : 2 * t + b.toNat < 2 ^ 31) : nI (2 * t + b.toNat) &&& 1 = 1 ↔ b = true := by
  have hb := Bool.toNat_lt b
  rw [pk_andN (by omega) 1 (by decide), show (2 * t + b.toNat) % 2 ^ 1 = b.toNat by omega]
  cases b <;> decide
/-! steps on a stack -/
abbrev eK (e : StpT) : Nat := e.1
def evO (v : StpT → Bool) (e : StpT) : List Bool → List Bool
  | [] => if e.1 < 5 then [v e] else []
  | [a] => if e.1 < 5 then v e :: [a] else if e.1 = 5 then [!a] else [a]
  | a :: b :: t => if e.1 < 5 then v e :: a :: b :: t else if e.1 = 5 then (!a) :: b :: t else if e.1 = 6 then (b && a) :: t else (b || a) :: t
def evS (v : StpT → Bool) : List StpT → List Bool → List Bool
  | [], s => s
  | e :: es, s => evS v es (evO v e s)
def dpO (e : StpT) (d : Nat) : Option Nat := if e.1 < 5 then (if d < 29 then some (d + 1) else none) else if e.1 = 5 then (if d < 1 then none else some d) else (if d < 2 then none else some (d - 1))
def dpS : List StpT → Nat → Option Nat
  | [], d => some d
  | e :: es, d => match dpO e d with
    | none => none
    | some d' => dpS es d'
theorem evO_len {v : StpT → Bool} {e : StpT} {s : List Bool} {d' : Nat} (h : dpO e s.length = some d') : (evO v e s).length = d' ∧ (s.length < 30 → d' < 30) := by
  unfold dpO at h
  unfold evO
  split at h
  · rename_i h5
    split at h
    · cases h
      rcases s with _ | ⟨a, _ | ⟨b, t⟩⟩ <;> simp only [h5, if_true] <;> simp at * <;> omega
    · exact absurd h (by simp)
  · rename_i h5
    split at h
    · rename_i h6
      split at h
      · exact absurd h (by simp)
      · cases h
        rcases s with _ | ⟨a, _ | ⟨b, t⟩⟩ <;> simp [h6] at *
    · rename_i h6
      split at h
      · exact absurd h (by simp)
      · cases h
        rcases s with _ | ⟨a, _ | ⟨b, t⟩⟩ <;> simp [h5, h6] at *
        split <;> simp <;> omega

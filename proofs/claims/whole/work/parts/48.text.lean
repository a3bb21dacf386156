/-! texts: the bytes tx below L; runs, words, numbers -/
def runF (tx : Nat → Nat) (L : Nat) (P : Nat → Bool) : Nat → Nat → Nat
  | 0, i => i
  | f + 1, i => if i < L ∧ P (tx i) = true then runF tx L P f (i + 1) else i
def run (tx : Nat → Nat) (L : Nat) (P : Nat → Bool) (i : Nat) : Nat := runF tx L P (L - i) i
section RUN
variable {tx : Nat → Nat} {L : Nat} {P : Nat → Bool} {i j : Nat}
theorem run_go (h : i < L) (hp : P (tx i) = true) : run tx L P i = run tx L P (i + 1) := by
  unfold run
  obtain ⟨d, hd⟩ : ∃ d, L - i = d + 1 := ⟨L - i - 1, by omega⟩
  rw [hd, show L - (i + 1) = d by omega]
  conv => lhs; unfold runF
  rw [if_pos ⟨h, hp⟩]
theorem run_stop (h : ¬ (i < L ∧ P (tx i) = true)) : run tx L P i = i := by
  unfold run
  cases L - i with
  | zero => rfl
  | succ d =>
    unfold runF
    rw [if_neg h]
theorem runF_ge : ∀ (f i : Nat), i ≤ runF tx L P f i
  | 0, _ => Nat.le_refl _
  | f + 1, i => by
    unfold runF
    split
    · exact Nat.le_trans (Nat.le_succ i) (runF_ge f (i + 1))
    · exact Nat.le_refl _
theorem run_ge (i : Nat) : i ≤ run tx L P i := runF_ge _ _
theorem runF_le : ∀ (f i : Nat), i ≤ L → runF tx L P f i ≤ L
  | 0, _, h => h
  | f + 1, i, h => by
    unfold runF
    split
    · rename_i h2
      exact runF_le f (i + 1) h2.1
    · exact h
theorem run_le (h : i ≤ L) : run tx L P i ≤ L := runF_le _ _ h
theorem runF_in : ∀ (f i j : Nat), i ≤ j → j < runF tx L P f i → j < L ∧ P (tx j) = true
  | 0, i, j, h1, h2 => absurd h2 (by unfold runF; omega)
  | f + 1, i, j, h1, h2 => by
    unfold runF at h2
    split at h2
    · rename_i h3
      rcases Nat.lt_or_ge i j with h4 | h4
      · exact runF_in f (i + 1) j h4 h2
      · rw [show j = i by omega]
        exact h3
    · omega
theorem run_in (h1 : i ≤ j) (h2 : j < run tx L P i) : j < L ∧ P (tx j) = true := runF_in _ _ _ h1 h2
theorem runF_end : ∀ (f i : Nat), L ≤ f + i → ¬ (runF tx L P f i < L ∧ P (tx (runF tx L P f i)) = true)
  | 0, i, h => fun z => by
    have : i < L := z.1
    omega
  | f + 1, i, h => by
    unfold runF
    split
    · exact runF_end f (i + 1) (by omega)
    · assumption
theorem run_end (i : Nat) : ¬ (run tx L P i < L ∧ P (tx (run tx L P i)) = true) := runF_end _ _ (by omega)
theorem run_pos (h : i < L) (hp : P (tx i) = true) : i + 1 ≤ run tx L P i := by
  rw [run_go h hp]
  exact run_ge _
theorem run_id (i : Nat) : run tx L P (run tx L P i) = run tx L P i := run_stop (run_end i)
theorem run_at {e : Nat} (h1 : i ≤ e) (h2 : ∀ j, i ≤ j → j < e → j < L ∧ P (tx j) = true) (h3 : ¬ (e < L ∧ P (tx e) = true)) : run tx L P i = e := by
  rcases Nat.lt_trichotomy (run tx L P i) e with h | h | h
  · exact absurd (h2 _ (run_ge i) h) (run_end i)
  · exact h
  · exact absurd (run_in h1 h) h3
end RUN
def blB (b : Nat) : Bool := decide (b = 32)
def ltB (b : Nat) : Bool := decide (97 ≤ b ∧ b ≤ 122)
def dgB (b : Nat) : Bool := decide (48 ≤ b ∧ b ≤ 57)
def knO (b : Nat) : Nat := if b = 32 then 0 else if ltB b = true then 1 else if dgB b = true then 2 else 3
def sk (tx : Nat → Nat) (L i : Nat) : Nat := run tx L blB i
def wd (tx : Nat → Nat) (L i : Nat) : Nat := run tx L ltB i
def dg (tx : Nat → Nat) (L i : Nat) : Nat := run tx L dgB i
def knd (tx : Nat → Nat) (L i : Nat) : Nat := if i < L then knO (tx i) else 4
def tnd (tx : Nat → Nat) (L i : Nat) : Nat := if i < L then (if knO (tx i) = 1 then wd tx L i else if knO (tx i) = 2 then dg tx L i else i + 1) else L
def pos (tx : Nat → Nat) (L : Nat) : Nat → Nat
  | 0 => sk tx L 0
  | k + 1 => sk tx L (tnd tx L (pos tx L k))
def vld (tx : Nat → Nat) (L k : Nat) : Prop := ∀ j, j < k → pos tx L j < L
theorem knO_lt (b : Nat) : knO b < 4 := by
  unfold knO
  split
  · omega
  · split
    · omega
    · split <;> omega
theorem knO_1 {b : Nat} : knO b = 1 ↔ ltB b = true := by
  unfold knO ltB
  split
  · rename_i h
    subst h
    decide
  · split
    · rename_i h
      exact ⟨fun _ => h, fun _ => rfl⟩
    · rename_i h
      constructor
      · intro z
        split at z <;> omega
      · intro z
        exact absurd z h
theorem knO_2 {b : Nat} : knO b = 2 ↔ dgB b = true := by
  unfold knO ltB dgB
  simp only [decide_eq_true_eq]
  split
  · constructor <;> intro z <;> omega
  · split
    · constructor <;> intro z <;> omega
    · split
      · rename_i h
        exact ⟨fun _ => h, fun _ => rfl⟩
      · rename_i h
        exact ⟨fun z => absurd z (by decide), fun z => absurd z h⟩
theorem knO_0 {b : Nat} : knO b = 0 ↔ blB b = true := by
  unfold knO blB
  simp only [decide_eq_true_eq]
  split
  · rename_i h
    exact ⟨fun _ => h, fun _ => rfl⟩
  · rename_i h
    constructor
    · intro z
      split at z
      · omega
      · split at z <;> omega
    · intro z
      exact absurd z h
section TOK
variable {tx : Nat → Nat} {L : Nat} {i k : Nat}
theorem sk_ge (i : Nat) : i ≤ sk tx L i := run_ge _
theorem sk_le (h : i ≤ L) : sk tx L i ≤ L := run_le h
theorem sk_id (i : Nat) : sk tx L (sk tx L i) = sk tx L i := run_id _
theorem sk_nb (i : Nat) (h : sk tx L i < L) : knO (tx (sk tx L i)) ≠ 0 := fun z => run_end i ⟨h, knO_0.mp z⟩
theorem tnd_gt (h : i < L) : i < tnd tx L i ∧ tnd tx L i ≤ L := by
  unfold tnd
  rw [if_pos h]
  split
  · rename_i h1
    exact ⟨run_pos h (knO_1.mp h1), run_le (by omega)⟩
  · split
    · rename_i h1
      exact ⟨run_pos h (knO_2.mp h1), run_le (by omega)⟩
    · omega
theorem tnd_le (h : i ≤ L) : tnd tx L i ≤ L := by
  rcases Nat.lt_or_ge i L with h1 | h1
  · exact (tnd_gt h1).2
  · unfold tnd
    rw [if_neg (by omega)]
    exact Nat.le_refl _
theorem pos_le : ∀ k, pos tx L k ≤ L
  | 0 => sk_le (Nat.zero_le _)
  | k + 1 => sk_le (tnd_le (pos_le k))
theorem pos_sk : ∀ k, sk tx L (pos tx L k) = pos tx L k
  | 0 => sk_id _
  | k + 1 => sk_id _
theorem pos_step (h : pos tx L k < L) : pos tx L k < pos tx L (k + 1) := Nat.lt_of_lt_of_le (tnd_gt h).1 (sk_ge _)
theorem vld_succ (h : vld tx L k) (h2 : pos tx L k < L) : vld tx L (k + 1) := fun j hj => by
  rcases Nat.lt_or_ge j k with h3 | h3
  · exact h j h3
  · rw [show j = k by omega]
    exact h2
theorem vld_ge : ∀ k, vld tx L k → k ≤ pos tx L k
  | 0, _ => Nat.zero_le _
  | k + 1, h => by
    have h1 := vld_ge k (fun j hj => h j (by omega))
    have h2 := pos_step (h k (by omega))
    omega
theorem vld_le (h : vld tx L k) : k ≤ L := Nat.le_trans (vld_ge k h) (pos_le k)
end TOK
/-! words by number, as the class's constants stand -/
def wB (q : Nat) : List Nat := [[101, 108, 115, 101], [105, 102], [108, 101, 97, 115, 116], [109, 111, 115, 116], [97, 115], [97, 110, 100], [111, 114], [110, 111, 116], [119, 104, 111], [103, 105, 118, 101, 115], [97, 108, 108], [103, 105, 118, 101], [97, 110, 121], [115, 117, 109], [100, 97, 121], [111, 102], [116, 111]].getD q []
theorem wB_len : ∀ q, q < 17 → sLen q = (wB q).length ∧ 2 ≤ (wB q).length ∧ (wB q).length ≤ 5 := by decide +kernel
theorem wB_ch : ∀ q, q < 17 → ∀ j, j < 5 → j < (wB q).length → sCh q j = nI ((wB q).getD j 0) ∧ (wB q).getD j 0 < 123 := by decide +kernel
def chW (tx : Nat → Nat) (i : Nat) : List Nat → Nat → Bool
  | [], _ => true
  | b :: W, k => decide (tx (i + k) = b) && chW tx i W (k + 1)
def isW (tx : Nat → Nat) (L q i : Nat) : Bool := decide (wd tx L i = i + (wB q).length) && chW tx i (wB q) 0
def isS (tx : Nat → Nat) (L b i : Nat) : Bool := decide (i < L) && decide (tx i = b)
theorem isW_lt {tx : Nat → Nat} {L q i : Nat} (hq : q < 17) (h : isW tx L q i = true) : i < L ∧ knO (tx i) = 1 ∧ wd tx L i = i + (wB q).length ∧ tnd tx L i = wd tx L i := by
  unfold isW at h
  rw [Bool.and_eq_true, decide_eq_true_eq] at h
  have h2 := (wB_len q hq).2.1
  have h3 : i < L ∧ ltB (tx i) = true := run_in (j := i) (Nat.le_refl _) (by
    have : wd tx L i = run tx L ltB i := rfl
    omega)
  refine ⟨h3.1, knO_1.mpr h3.2, h.1, ?_⟩
  unfold tnd
  rw [if_pos h3.1, if_pos (knO_1.mpr h3.2)]
/-! the pure reader: faults (number, place) on the left -/
abbrev Rs (α : Type) : Type := (Nat × Nat) ⊕ α
def nuV (tx : Nat → Nat) (L i : Nat) : Nat := if dg tx L i = i + 1 then tx i - 48 else 10 * (tx i - 48) + (tx (i + 1) - 48)
def pNum (tx : Nat → Nat) (L lo hi i : Nat) : Rs (Nat × Nat) := if i < L ∧ dgB (tx i) = true then (if dg tx L i ≤ i + 2 ∧ lo ≤ nuV tx L i ∧ nuV tx L i ≤ hi then .inr (nuV tx L i, sk tx L (dg tx L i)) else .inl (2, i)) else .inl (1, i)
def nx (tx : Nat → Nat) (L i : Nat) : Nat := sk tx L (wd tx L i)
def pGive (tx : Nat → Nat) (L q i : Nat) : Rs (Option Nat × Nat) := if isW tx L q i = true then (match pNum tx L 0 3 (nx tx L i) with
    | .inl x => .inl x
    | .inr (v, j) => .inr (some v, j)) else .inr (none, i)
def pRange (tx : Nat → Nat) (L i : Nat) : Rs (Nat × Nat × Nat) := if isW tx L 15 i = true then (match pNum tx L 0 5 (nx tx L i) with
    | .inl x => .inl x
    | .inr (f, j) => if isW tx L 16 j = true then (match pNum tx L 0 5 (nx tx L j) with
        | .inl x => .inl x
        | .inr (t, l) => if t < f then .inl (3, nx tx L j) else .inr (f, t, l)) else .inl (1, j)) else .inr (0, 5, i)
def giv (g : Option Nat) : Nat := match g with
  | some v => v
  | none => 1
def pSpan (tx : Nat → Nat) (L k many i : Nat) : Rs (StpT × Nat) := match pRange tx L i with
  | .inl x => .inl x
  | .inr (f, t, j) => match pGive tx L 11 j with
    | .inl x => .inl x
    | .inr (g, l) => .inr ((k, f, t, many, giv g, g.isSome), l)
def pCond (tx : Nat → Nat) (L i : Nat) : Rs (StpT × Nat) :=
  if isW tx L 8 i = true then (match pNum tx L 0 5 (nx tx L i) with
    | .inl x => .inl x
    | .inr (f, j) => match pGive tx L 9 j with
      | .inl x => .inl x
      | .inr (g, l) => .inr ((0, f, 5, 1, giv g, g.isSome), l))
  else if isW tx L 10 i = true then pSpan tx L 1 1 (nx tx L i)
  else if isW tx L 12 i = true then (match pNum tx L 0 6 (nx tx L i) with
    | .inl x => .inl x
    | .inr (v, j) => pSpan tx L 2 v j)
  else if isW tx L 13 i = true then (match pNum tx L 0 18 (nx tx L i) with
    | .inl x => .inl x
    | .inr (v, j) => .inr ((3, 0, 5, v, 1, false), j))
  else if isW tx L 14 i = true then (match pNum tx L 1 9 (nx tx L i) with
    | .inl x => .inl x
    | .inr (v, j) => .inr ((4, 0, 5, v, 1, false), j))
  else .inl (1, i)
def opS (k : Nat) : StpT := (k, 0, 0, 1, 1, false)
/-- all that 'and' joins, behind what stands: the steps so far, in fuel -/
def pAnd (tx : Nat → Nat) (L : Nat) (one : Nat → Rs (List StpT × Nat)) : Nat → List StpT → Nat → Rs (List StpT × Nat)
  | 0, S, i => .inr (S, i)
  | f + 1, S, i => if isW tx L 5 i = true then (match one (nx tx L i) with
      | .inl x => .inl x
      | .inr (A, j) => pAnd tx L one f (S ++ A ++ [opS 6]) j) else .inr (S, i)
def pTrm (tx : Nat → Nat) (L : Nat) (one : Nat → Rs (List StpT × Nat)) (i : Nat) : Rs (List StpT × Nat) := match one i with
  | .inl x => .inl x
  | .inr (A, j) => pAnd tx L one (L + 1) A j
def pOrs (tx : Nat → Nat) (L : Nat) (one : Nat → Rs (List StpT × Nat)) : Nat → List StpT → Nat → Rs (List StpT × Nat)
  | 0, S, i => .inr (S, i)
  | f + 1, S, i => if isW tx L 6 i = true then (match pTrm tx L one (nx tx L i) with
      | .inl x => .inl x
      | .inr (A, j) => pOrs tx L one f (S ++ A ++ [opS 7]) j) else .inr (S, i)
def pSome (tx : Nat → Nat) (L : Nat) (one : Nat → Rs (List StpT × Nat)) (i : Nat) : Rs (List StpT × Nat) := match pTrm tx L one i with
  | .inl x => .inl x
  | .inr (A, j) => pOrs tx L one (L + 1) A j
def pBase (tx : Nat → Nat) (L i : Nat) : Rs (List StpT × Nat) := match pCond tx L i with
  | .inl x => .inl x
  | .inr (e, j) => .inr ([e], j)
/-- one condition, with e levels left -/
def pOne (tx : Nat → Nat) (L : Nat) : Nat → Nat → Rs (List StpT × Nat)
  | 0, i => if isW tx L 7 i = true ∨ isS tx L 40 i = true then .inl (4, i) else pBase tx L i
  | e + 1, i => if isW tx L 7 i = true then (match pOne tx L e (nx tx L i) with
      | .inl x => .inl x
      | .inr (A, j) => .inr (A ++ [opS 5], j))
    else if isS tx L 40 i = true then (match pSome tx L (pOne tx L e) (sk tx L (i + 1)) with
      | .inl x => .inl x
      | .inr (A, j) => if isS tx L 41 j = true then .inr (A, sk tx L (j + 1)) else .inl (1, j))
    else pBase tx L i
def pMuch (tx : Nat → Nat) (L i : Nat) : Rs (Nat × Nat × Nat) :=
  if isW tx L 2 i = true then .inr (2, 0, nx tx L i)
  else if isW tx L 3 i = true then .inr (3, 0, nx tx L i)
  else if isW tx L 4 i = true then (match pNum tx L 0 5 (nx tx L i) with
    | .inl x => .inl x
    | .inr (v, j) => .inr (1, v, j))
  else (match pNum tx L 0 3 i with
    | .inl x => .inl x
    | .inr (v, j) => .inr (0, v, j))
/-- a rule: how much, of whom, its steps, the next place -/
def pRule (tx : Nat → Nat) (L i : Nat) : Rs (Nat × Nat × List StpT × Nat) := match pMuch tx L i with
  | .inl x => .inl x
  | .inr (k, o, j) => if isW tx L 1 j = true then (match pSome tx L (pOne tx L 6) (nx tx L j) with
      | .inl x => .inl x
      | .inr (A, l) => .inr (k, o, A, l)) else .inr (k, o, [], j)
def pRules (tx : Nat → Nat) (L : Nat) : Nat → Trm → Nat → Rs Trm
  | 0, T, _ => .inr T
  | f + 1, T, i => match pRule tx L i with
    | .inl x => .inl x
    | .inr (k, o, A, j) => if isW tx L 0 j = true then pRules tx L f (T.1 ++ [(k, o, (T.2 ++ A).length)], T.2 ++ A) (nx tx L j)
      else if j < L then .inl (1, j) else .inr (T.1 ++ [(k, o, (T.2 ++ A).length)], T.2 ++ A)
def pText (tx : Nat → Nat) (L : Nat) : Rs Trm := pRules tx L (L + 1) ([], []) (sk tx L 0)

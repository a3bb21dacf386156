/-! the class above its persons: a village of n whose terms let l p row day, over any invariant I of its side of the world -/
def PQ (I : Sd → Prop) (m : Sd) (r : Int32) : Wd → Option PV → Prop := fun w' r' => ∃ c' : Sd, w' = (c', m) ∧ I c' ∧ r' = some (vI r)
def CH (n : Nat) (l : Nat → Nat → Nat → Nat) (I : Sd → Prop) : Prop :=
  (1 ≤ n ∧ n ≤ 6) ∧ (∀ p row day, l p row day < 4) ∧ (∀ c, I c → c.1 7 0 1 = nI n) ∧
  (∀ c m, I c → ∀ p row day, p < n → row < 4 ^ n → 1 ≤ day → day ≤ 9 → Ctr 3 8 [vR false 9 (nI p).toNatClampNeg, vI (nI row), vI (nI day), vI (c.1 7 0 1)] (c, m) (PQ I m (nI (l p row day)))) ∧
  (∀ c m, I c → ∀ p row day, p < n → row < 4 ^ n → 1 ≤ day → day ≤ 9 → Ctr 3 9 [vR false 9 (nI p).toNatClampNeg, vI (nI row), vI (nI day), vI (c.1 7 0 1)] (c, m) (PQ I m (nI (l p row day)))) ∧
  True
/-- the first number from p on, of k, that is bad -/
def fst (bad : Nat → Bool) : Nat → Nat → Option Nat
  | 0, _ => none
  | k + 1, p => if bad p then some p else fst bad k (p + 1)
def optI : Option Nat → Int32
  | none => -1
  | some k => nI k
def badA (l : Nat → Nat → Nat → Nat) (day row s p : Nat) : Bool := !s.testBit p && dd row p != l p row day
def gd (n : Nat) (l : Nat → Nat → Nat → Nat) (s row : Nat) : Bool := (fst (badA l 9 row s) n 0).isNone
/-- the i-th good row (i = -1: how many) -/
def mayF (g : Nat → Bool) (i : Int32) : Nat → Nat → Nat → Int32
  | 0, _, found => if i = -1 then nI found else -1
  | k + 1, row, found => if g row then (if nI found = i then nI row else mayF g i k (row + 1) (found + 1)) else mayF g i k (row + 1) found
theorem vp6 {k : Nat} (h : k < 6) : vp_in (nI k) 6 := vp_in_nI h (by decide)
section VIL
variable {n : Nat} {l : Nat → Nat → Nat → Nat} {I : Sd → Prop} {c m : Sd}
theorem c_has (hn : c.1 7 0 1 = nI n) (x : Int32) : Fn 1 48 [vR false 7 0, vI x] (c, m) (c, m) (some (vI (bi ((0 : Int32) ≤ x ∧ x ≤ nI n - 1)))) := by
  rw [← hn]
  exact ctr_ev 20 [] rfl rfl (iF (c_within _ _ _ _) (by decide) (And.intro zok_bi (And.intro rfl rfl)))
theorem c_rows (h6 : n ≤ 6) (hn : c.1 7 0 1 = nI n) : Fn 0 51 [vR false 7 0] (c, m) (c, m) (some (vI (nI (4 ^ n)))) := by
  have h : Fn 0 51 [vR false 7 0] (c, m) (c, m) (some (vI ((1 : Int32) <<< ((2 * c.1 7 0 1) &&& 31)))) := ctr_ev 20 [] rfl rfl (And.intro rfl rfl)
  rw [hn, nI_rows h6] at h
  exact h
theorem c_hasRow (h6 : n ≤ 6) (hn : c.1 7 0 1 = nI n) (x : Int32) : Fn 1 50 [vR false 7 0, vI x] (c, m) (c, m) (some (vI (bi ((0 : Int32) ≤ x ∧ x ≤ nI (4 ^ n) - 1)))) :=
  ctr_ev 20 [] rfl rfl (iF (c_rows h6 hn) (by decide) (iF (c_within _ _ _ _) (by decide) (And.intro zok_bi (And.intro rfl rfl))))
theorem c_hasAll (h6 : n ≤ 6) (hn : c.1 7 0 1 = nI n) (x : Int32) : Fn 1 49 [vR false 7 0, vI x] (c, m) (c, m) (some (vI (bi ((0 : Int32) ≤ x ∧ x ≤ nI (2 ^ n) - 1)))) := by
  have h : Fn 1 49 [vR false 7 0, vI x] (c, m) (c, m) (some (vI (bi ((0 : Int32) ≤ x ∧ x ≤ ((1 : Int32) <<< (c.1 7 0 1 &&& 31)) - 1)))) := ctr_ev 20 [] rfl rfl (iF (c_within _ _ _ _) (by decide) (And.intro zok_bi (And.intro rfl rfl)))
  rw [hn, nI_sets h6] at h
  exact h
theorem c_agrees (hH : CH n l I) (hc : I c) {row s : Nat} (hr : row < 4 ^ n) (hs : s < 2 ^ 31) : Ctr 4 56 [vR false 7 0, vI (nI row), vI (nI s)] (c, m) (PQ I m (bi (gd n l s row = true))) := by
  obtain ⟨⟨h1, h6⟩, hl, hn, -, hao, -⟩ := id hH
  have hr6 := pow4_le h6
  have key : ∀ (j k : Nat) (x : Int32) (c : Sd), k + j = n → x = nI k → I c → fst (badA l 9 row s) n 0 = fst (badA l 9 row s) j k → Go 4 56 none 2 [some (vR false 7 0), some (vI (nI row)), some (vI (nI s)), some (vI x)] [] (c, m) (PQ I m (bi (gd n l s row = true))) := by
    intro j
    induction j with
    | zero =>
      intro k x c hk hx hc hf
      refine go_ev 30 [2] (bT (c := c.1 7 0 1 ≤ x) (by rw [hn c hc, hx, nIle (by omega) (by omega)]; omega) ?_)
      refine And.intro rfl (Exists.intro c (And.intro rfl (And.intro hc ?_)))
      rw [bi_t]
      unfold gd
      rw [hf]
      rfl
    | succ j ih =>
      intro k x c hk hx hc hf
      subst hx
      refine go_ev 30 [2] (bF (c := c.1 7 0 1 ≤ nI k) (by rw [hn c hc, nIle (by omega) (by omega)]; omega) ?_)
      refine iF (c_isInN _ hs (by omega)) (by decide) ?_
      refine bI (fun h => ?_) (fun h => ?_)
      · rw [bi_0] at h
        refine dI (vp6 (by omega)) ?_
        refine iC (hao c m hc k row 9 (by omega) hr (by decide) (by decide)) (by decide) ?_
        rintro _ _ ⟨c', rfl, hc', rfl⟩
        refine iF (c_deedN _ (by omega) (by omega)) (by decide) ?_
        have := hl k row 9
        have := dd_lt row k
        refine bI (fun h2 => ?_) (fun h2 => ?_)
        · rw [nIeq (by omega) (by omega)] at h2
          refine ih (k + 1) _ c' (by omega) (nI_succ k).symm hc' ?_
          rw [hf]
          simp [fst, badA, h2]
        · rw [nIeq (by omega) (by omega)] at h2
          refine And.intro rfl (Exists.intro c' (And.intro rfl (And.intro hc' ?_)))
          rw [bi_f]
          unfold gd
          rw [hf]
          simp [fst, badA, h, Ne.symm h2]
      · have h : s.testBit k = true := by
          rw [bi_0] at h
          exact Classical.not_not.mp h
        refine ih (k + 1) _ c (by omega) (nI_succ k).symm hc ?_
        rw [hf]
        simp [fst, badA, h]
  refine ctr_ev 30 [2] rfl rfl ?_
  exact key n 0 0 c (by omega) rfl hc rfl
end VIL

/-! nobody looks at the own deed -/
section OWN
variable {n p row d : Nat}
theorem oth_ne {fr to q : Nat} (h : oth p fr to q = true) : q ≠ p := by
  unfold oth at h
  rw [Bool.and_eq_true] at h
  exact bne_iff_ne.mp h.1
theorem dd_own (hd : d < 4) {q : Nat} (h : q ≠ p) : dd (wdd row p d) q = dd row q := by
  rw [dd_wdd hd, if_neg h]
theorem sumX_own (hd : d < 4) : ∀ k, sumX p (wdd row p d) k = sumX p row k
  | 0 => rfl
  | k + 1 => by
    simp only [sumX, sumX_own hd k]
    by_cases h : k = p
    · rw [if_pos h, if_pos h]
    · rw [if_neg h, if_neg h, dd_own hd h]
theorem lstK_own (hd : d < 4) : ∀ k, lstK p (wdd row p d) k = lstK p row k
  | 0 => rfl
  | k + 1 => by
    simp only [lstK, lstK_own hd k]
    by_cases h : k = p
    · rw [if_pos h, if_pos h]
    · rw [if_neg h, if_neg h, dd_own hd h]
theorem mstK_own (hd : d < 4) : ∀ k, mstK p (wdd row p d) k = mstK p row k
  | 0 => rfl
  | k + 1 => by
    simp only [mstK, mstK_own hd k]
    by_cases h : k = p
    · rw [if_pos h, if_pos h]
    · rw [if_neg h, if_neg h, dd_own hd h]
theorem oth_own (hd : d < 4) (fr to give : Nat) : (fun q => oth p fr to q && decide (give ≤ dd (wdd row p d) q)) = fun q => oth p fr to q && decide (give ≤ dd row q) := by
  funext q
  cases h : oth p fr to q with
  | false => rfl
  | true => rw [dd_own hd (oth_ne h)]
theorem stpV_own (hd : d < 4) (day k fr to many give : Nat) : stpV n p (wdd row p d) day k fr to many give = stpV n p row day k fr to many give := by
  unfold stpV
  rw [sumX_own hd, oth_own hd]
  by_cases h : fr = p
  · rw [if_pos (Or.inl h), if_pos (Or.inl h)]
  · rw [dd_own hd h]
theorem muchV_own (hd : d < 4) (k o : Nat) : muchV n p (wdd row p d) k o = muchV n p row k o := by
  unfold muchV
  rw [lstK_own hd, mstK_own hd]
  by_cases h : o = p
  · rw [if_pos (Or.inl h), if_pos (Or.inl h)]
  · rw [dd_own hd h]
theorem vv_own (hd : d < 4) (day : Nat) : vv n p (wdd row p d) day = vv n p row day := by
  funext e
  exact stpV_own hd _ _ _ _ _ _
theorem letR_own (hd : d < 4) (day : Nat) (S : List StpT) : ∀ (R : List (Nat × Nat × Nat)) (f : Nat), letR n p (wdd row p d) day S R f = letR n p row day S R f
  | [], _ => rfl
  | (k, o, e) :: R, f => by
    unfold letR hldB
    rw [muchV_own hd, vv_own hd, letR_own hd day S R e]
theorem letT_own (hd : d < 4) (day : Nat) (T : Trm) : letT n p (wdd row p d) day T = letT n p row day T := letR_own hd _ _ _ _
end OWN
/-! Arrays.fill -/
theorem upA_s (g : Nat → Nat → Nat → Int32) (k i j : Nat) (v : Int32) : upA g k i j v k i = upd (g k i) j v := by
  unfold upA
  rw [if_pos rfl, if_pos rfl]
theorem upA_n (g : Nat → Nat → Nat → Int32) {k i j : Nat} (v : Int32) {k' i' : Nat} (h : ¬ (k' = k ∧ i' = i)) : upA g k i j v k' i' = g k' i' := by
  unfold upA
  by_cases h1 : k' = k
  · rw [if_pos h1, if_neg (fun z => h ⟨h1, z⟩)]
  · rw [if_neg h1]
theorem c_fill (c m : Sd) (p : Nat) : Ctr 0 166 [vR false 10 p, vI 0] (c, m) (fun w' r' => ∃ a, w' = ((c.1, a, c.2.2), m) ∧ (∀ k i, ¬ (k = 10 ∧ i = p) → a k i = c.2.1 k i) ∧ (∀ j, j < 128 → a 10 p j = 0) ∧ r' = none) := by
  have key : ∀ (j k : Nat) (x : Int32) (a : Nat → Nat → Nat → Int32), k + j = 128 → x = nI k → (∀ k i, ¬ (k = 10 ∧ i = p) → a k i = c.2.1 k i) → (∀ j, j < k → a 10 p j = 0) → Go 0 166 none 5 [some (vR false 10 p), some (vI 0), some (vI x), some (vI (nI 128))] [] ((c.1, a, c.2.2), m) (fun w' r' => ∃ a, w' = ((c.1, a, c.2.2), m) ∧ (∀ k i, ¬ (k = 10 ∧ i = p) → a k i = c.2.1 k i) ∧ (∀ j, j < 128 → a 10 p j = 0) ∧ r' = none) := by
    intro j
    induction j with
    | zero =>
      intro k x a hk hx h1 h2
      refine go_ev 30 [5] (bT (c := nI 128 ≤ x) (by rw [hx, nIle (by omega) (by omega)]; omega) ?_)
      exact Exists.intro a (And.intro rfl (And.intro h1 (And.intro (fun j hj => h2 j (by omega)) rfl)))
    | succ j ih =>
      intro k x a hk hx h1 h2
      subst hx
      have hcl : (nI k).toNatClampNeg = k := pk_cl k
      refine go_ev 30 [5] (bF (c := nI 128 ≤ nI k) (by rw [nIle (by omega) (by omega)]; omega) ?_)
      refine dI (pk_in k 128 (by omega)) ?_
      refine ih (k + 1) _ (upA a 10 p (nI k).toNatClampNeg 0) (by omega) (nI_succ k).symm (fun k' i' h => by rw [upA_n _ _ h, h1 k' i' h]) (fun j' hj' => ?_)
      rw [upA_s, hcl]
      by_cases hjk : j' = k
      · rw [hjk, pk_us]
      · rw [pk_un hjk]
        exact h2 j' (by omega)
  refine ctr_ev 30 [5] rfl rfl ?_
  exact key 128 0 0 c.2.1 (by omega) rfl (fun _ _ _ => rfl) (fun j hj => absurd hj (by omega))

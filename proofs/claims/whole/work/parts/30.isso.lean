/-! whether one condition holds -/
section ISO
variable {n p row day : Nat} {c m : Sd}
theorem c_isSo (hs : Scn c n p row day) (hn : n ≤ 6) (hp : p < n) (hr : row < 4 ^ n) (hday : day ≤ 9) {kk fr to many give : Nat} (hk : kk < 5) (hf : fr < 6) (ht : to < 6) (hm : many < 100) (hg : give < 100) : Fn 0 34 [vR false 19 0, vI (nI (kk + 3)), vI (nI fr), vI (nI to), vI (nI many), vI (nI give)] (c, m) (c, m) (some (vI (bi (stpV n p row day kk fr to many give = true)))) := by
  have e3 : ∀ q, (nI (kk + 3) = nI (q + 3) ∧ q < 5) → kk = q := fun q h => by
    have := (nIeq (by omega) (by omega)).mp h.1
    omega
  have key : ∀ (j k : Nat) (x a g s : Int32) (v10 : Option PV), k + j = n → x = nI k → a = nI (cntB (oth p fr to) k) → g = nI (cntB (fun q => oth p fr to q && decide (give ≤ dd row q)) k) → s = nI (sumX p row k) → kk ≠ 0 → kk ≠ 4 → Go 0 34 none 59 [some (vR false 19 0), some (vI (nI (kk + 3))), some (vI (nI fr)), some (vI (nI to)), some (vI (nI many)), some (vI (nI give)), some (vI a), some (vI g), some (vI s), some (vI x), v10] [] (c, m) (fun w' r' => w' = (c, m) ∧ r' = some (vI (bi (stpV n p row day kk fr to many give = true)))) := by
    intro j
    induction j with
    | zero =>
      intro k x a g s v10 hkn hx ha hgv hsv h0 h4
      have hkn : k = n := by omega
      subst hkn
      have b1 := cntB_le (oth p fr to) k
      have b2 := cntB_le (fun q => oth p fr to q && decide (give ≤ dd row q)) k
      have b3 := sumX_le p row k
      subst hx ha hgv hsv
      refine go_ev 60 [59] (bT (c := c.1 19 0 3 ≤ nI k) (by rw [hs.2.2.2, nIle (by omega) (by omega)]; omega) ?_)
      refine bI (c := nI (kk + 3) = Int32.ofInt 6) (fun h => ?_) (fun h => ?_)
      · have h := e3 3 ⟨h, by decide⟩
        subst h
        refine bI (c := nI (sumX p row k) < nI many) (fun h2 => ?_) (fun h2 => ?_)
        · rw [nIlt (by omega) (by omega)] at h2
          refine And.intro rfl (And.intro rfl ?_)
          rw [bi_f]
          show ¬ decide (many ≤ sumX p row k) = true
          rw [decide_eq_true_eq]
          omega
        · rw [nIlt (by omega) (by omega)] at h2
          refine And.intro rfl (And.intro rfl ?_)
          rw [bi_t]
          show decide (many ≤ sumX p row k) = true
          rw [decide_eq_true_eq]
          omega
      · refine bI (c := nI (kk + 3) = 5) (fun h5 => ?_) (fun h5 => ?_)
        · have h5 := e3 2 ⟨h5, by decide⟩
          subst h5
          refine bI (c := nI (cntB (fun q => oth p fr to q && decide (give ≤ dd row q)) k) < nI many) (fun h2 => ?_) (fun h2 => ?_)
          · rw [nIlt (by omega) (by omega)] at h2
            refine And.intro rfl (And.intro rfl ?_)
            rw [bi_f]
            show ¬ decide (many ≤ cntB (fun q => oth p fr to q && decide (give ≤ dd row q)) k) = true
            rw [decide_eq_true_eq]
            omega
          · rw [nIlt (by omega) (by omega)] at h2
            refine And.intro rfl (And.intro rfl ?_)
            rw [bi_t]
            show decide (many ≤ cntB (fun q => oth p fr to q && decide (give ≤ dd row q)) k) = true
            rw [decide_eq_true_eq]
            omega
        · have h1 : kk = 1 := by
            have a3 : kk ≠ 3 := fun z => h (by rw [z]; rfl)
            have a2 : kk ≠ 2 := fun z => h5 (by rw [z]; rfl)
            omega
          subst h1
          refine bI (c := nI (cntB (fun q => oth p fr to q && decide (give ≤ dd row q)) k) = nI (cntB (oth p fr to) k)) (fun h2 => ?_) (fun h2 => ?_)
          · rw [nIeq (by omega) (by omega)] at h2
            refine And.intro rfl (And.intro rfl ?_)
            rw [bi_t]
            show decide (cntB (fun q => oth p fr to q && decide (give ≤ dd row q)) k = cntB (oth p fr to) k) = true
            rw [decide_eq_true_eq]
            exact h2
          · rw [nIeq (by omega) (by omega)] at h2
            refine And.intro rfl (And.intro rfl ?_)
            rw [bi_f]
            show ¬ decide (cntB (fun q => oth p fr to q && decide (give ≤ dd row q)) k = cntB (oth p fr to) k) = true
            rw [decide_eq_true_eq]
            exact h2
    | succ j ih =>
      intro k x a g s v10 hkn hx ha hgv hsv h0 h4
      subst hx ha hgv hsv
      have hd := dd_lt row k
      have hdg := digit hs hn hp hr (q := k) (by omega)
      have hsum : nI (sumX p row k) + ((c.1 19 0 1 >>> ((2 * nI k) &&& 31)) &&& 3) = nI (sumX p row (k + 1)) := by
        rw [hdg, nIadd]
        rfl
      refine go_ev 60 [59] (bF (c := c.1 19 0 3 ≤ nI k) (by rw [hs.2.2.2, nIle (by omega) (by omega)]; omega) ?_)
      refine bI (c := nI k = c.1 19 0 0) (fun h => ?_) (fun h => ?_)
      · rw [hs.1, nIeq (by omega) (by omega)] at h
        have ho : oth p fr to k = false := by
          unfold oth
          rw [h, bne_self_eq_false, Bool.false_and]
        refine ih (k + 1) _ _ _ _ _ (by omega) (nI_succ k).symm ?_ ?_ hsum h0 h4
        · simp only [cntB, ho]
          rfl
        · simp only [cntB, ho]
          rfl
      · rw [hs.1, nIeq (by omega) (by omega)] at h
        rw [if_neg h] at hdg
        refine bI (c := nI k < nI fr) (fun h1 => ?_) (fun h1 => bI (c := nI to < nI k) (fun h2 => ?_) (fun h2 => ?_))
        · rw [nIlt (by omega) (by omega)] at h1
          have ho : oth p fr to k = false := by
            unfold oth
            rw [show decide (fr ≤ k) = false from decide_eq_false (by omega), Bool.false_and, Bool.and_false]
          refine ih (k + 1) _ _ _ _ _ (by omega) (nI_succ k).symm ?_ ?_ hsum h0 h4
          · simp only [cntB, ho]
            rfl
          · simp only [cntB, ho]
            rfl
        · rw [nIlt (by omega) (by omega)] at h2
          have ho : oth p fr to k = false := by
            unfold oth
            rw [show decide (k ≤ to) = false from decide_eq_false (by omega), Bool.and_false, Bool.and_false]
          refine ih (k + 1) _ _ _ _ _ (by omega) (nI_succ k).symm ?_ ?_ hsum h0 h4
          · simp only [cntB, ho]
            rfl
          · simp only [cntB, ho]
            rfl
        · rw [nIlt (by omega) (by omega)] at h1 h2
          have ho : oth p fr to k = true := by
            unfold oth
            rw [show decide (fr ≤ k) = true from decide_eq_true (by omega), show decide (k ≤ to) = true from decide_eq_true (by omega), bne_iff_ne.mpr h]
            rfl
          refine bI (c := (c.1 19 0 1 >>> ((2 * nI k) &&& 31)) &&& 3 < nI give) (fun h3 => ?_) (fun h3 => ?_)
          · rw [hdg, nIlt (by omega) (by omega)] at h3
            refine ih (k + 1) _ _ _ _ _ (by omega) (nI_succ k).symm ?_ ?_ hsum h0 h4
            · simp only [cntB, ho]
              exact (nI_succ _).symm
            · simp only [cntB, ho, show decide (give ≤ dd row k) = false from decide_eq_false (by omega)]
              exact Int32.add_zero _
          · rw [hdg, nIlt (by omega) (by omega)] at h3
            refine ih (k + 1) _ _ _ _ _ (by omega) (nI_succ k).symm ?_ ?_ hsum h0 h4
            · simp only [cntB, ho]
              exact (nI_succ _).symm
            · simp only [cntB, ho, show decide (give ≤ dd row k) = true from decide_eq_true (by omega)]
              exact (nI_succ _).symm
  refine ctr_ev 60 [59] rfl rfl ?_
  refine bI (c := nI (kk + 3) = Int32.ofInt 7) (fun h => ?_) (fun h => bI (c := nI (kk + 3) = 3) (fun h2 => ?_) (fun h2 => ?_))
  · have h := e3 4 ⟨h, by decide⟩
    subst h
    refine bI (c := nI many < c.1 19 0 2) (fun h2 => ?_) (fun h2 => ?_)
    · rw [hs.2.2.1, nIlt (by omega) (by omega)] at h2
      refine And.intro rfl (And.intro rfl ?_)
      rw [bi_f]
      show ¬ decide (day ≤ many) = true
      rw [decide_eq_true_eq]
      omega
    · rw [hs.2.2.1, nIlt (by omega) (by omega)] at h2
      refine And.intro rfl (And.intro rfl ?_)
      rw [bi_t]
      show decide (day ≤ many) = true
      rw [decide_eq_true_eq]
      omega
  · have h2 := e3 0 ⟨h2, by decide⟩
    subst h2
    have hd := dd_lt row fr
    have hdg := digit hs hn hp hr (q := fr) (by omega)
    have hdg : (c.1 19 0 1 >>> ((2 * nI fr) &&& 31)) &&& 3 = nI (if fr = p ∨ n ≤ fr then 0 else dd row fr) := by
      rw [hdg]
      congr 1
      by_cases hop : fr = p
      · rw [if_pos hop, if_pos (Or.inl hop)]
      · rw [if_neg hop]
        by_cases hon : n ≤ fr
        · rw [if_pos (Or.inr hon), dd_out hr hon]
        · rw [if_neg (show ¬ (fr = p ∨ n ≤ fr) by omega)]
    have hb : (if fr = p ∨ n ≤ fr then 0 else dd row fr) < 4 := by
      split <;> omega
    refine bI (c := (c.1 19 0 1 >>> ((2 * nI fr) &&& 31)) &&& 3 < nI give) (fun h3 => ?_) (fun h3 => ?_)
    · rw [hdg, nIlt (by omega) (by omega)] at h3
      refine And.intro rfl (And.intro rfl ?_)
      rw [bi_f]
      show ¬ decide (give ≤ (if fr = p ∨ n ≤ fr then 0 else dd row fr)) = true
      rw [decide_eq_true_eq]
      omega
    · rw [hdg, nIlt (by omega) (by omega)] at h3
      refine And.intro rfl (And.intro rfl ?_)
      rw [bi_t]
      show decide (give ≤ (if fr = p ∨ n ≤ fr then 0 else dd row fr)) = true
      rw [decide_eq_true_eq]
      omega
  · exact key n 0 0 0 0 0 none (by omega) rfl rfl rfl rfl (fun z => h2 (by rw [z]; rfl)) (fun z => h (by rw [z]; rfl))
end ISO

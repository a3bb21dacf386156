/-! the model: whether one condition holds -/
def effM (m : Sd) (p s : Nat) : Int32 := m.2.1 9 0 (64 * p + s) - (if nI p = m.1 0 0 37 then m.2.1 38 0 s else 0)
def effG (m : Sd) (p s : Nat) : Int32 := m.2.1 10 0 (64 * p + s) - (if nI p = m.1 0 0 37 then m.2.1 39 0 s else 0)
def mStp (m : Sd) (p s : Nat) (e : StpT) : Prop := m.2.1 6 0 (64 * p + s) = nI e.1 ∧ (e.1 < 5 → m.2.1 7 0 (64 * p + s) = nI e.2.1 ∧ m.2.1 8 0 (64 * p + s) = nI e.2.2.1 ∧ effG m p s = nI e.2.2.2.2.1) ∧ (2 ≤ e.1 → e.1 < 5 → effM m p s = nI e.2.2.2.1)
section MON
variable {n p row day : Nat} {c m : Sd}
theorem m_oneHolds (hmn : m.1 0 0 0 = nI n) (hn : n ≤ 6) (hp : p < n) (hr : row < 4 ^ n) (hday : day ≤ 9) {s : Nat} (hs : s < 64) {e : StpT} (he : okE e) (h5 : e.1 < 5) (hE : mStp m p s e) : Fn 1 122 [vR true 0 0, vI (nI p), vI (nI s), vI (nI row), vI (nI day)] (c, m) (c, m) (some (vI (bi (vv n p row day e = true)))) := by
  obtain ⟨kk, fr, to, many, give, tb⟩ := e
  obtain ⟨-, hf6, ht6, hm100, hg100⟩ := he
  have hf6 : fr < 6 := hf6
  have ht6 : to < 6 := ht6
  have hm100 : many < 100 := hm100
  have hg100 : give < 100 := hg100
  have h5 : kk < 5 := h5
  obtain ⟨e0, e1, e4⟩ := hE
  obtain ⟨e1, e2, e3⟩ := e1 h5
  have e4 : 2 ≤ kk → effM m p s = nI many := fun z => e4 z h5
  have hr6 := pow4_le hn
  have hix : (64 : Int32) * nI p + nI s = nI (64 * p + s) := by rw [show (64 : Int32) = nI 64 from rfl, pk_mul, nIadd]
  have hic := pk_cl (64 * p + s) hix
  have hin := pk_in (64 * p + s) 384 (by omega) hix
  have hsc : (nI s).toNatClampNeg = s := pk_cl s
  have hsin : vp_in (nI s) 64 := pk_in s 64 hs
  have f0 : m.2.1 6 0 ((64 : Int32) * nI p + nI s).toNatClampNeg = nI kk := by rw [hic]; exact e0
  have f1 : m.2.1 7 0 ((64 : Int32) * nI p + nI s).toNatClampNeg = nI fr := by rw [hic]; exact e1
  have f2 : m.2.1 8 0 ((64 : Int32) * nI p + nI s).toNatClampNeg = nI to := by rw [hic]; exact e2
  have e3 : effG m p s = nI give := e3
  have key : ∀ (M : Int32), (2 ≤ kk → M = nI many) → ∀ (j k : Nat) (x a g sm : Int32) (v12 : Option PV), k + j = n → x = nI k → a = nI (cntB (oth p fr to) k) → g = nI (cntB (fun q => oth p fr to q && decide (give ≤ dd row q)) k) → sm = nI (sumX p row k) → kk ≠ 0 → kk ≠ 4 → Go 1 122 none 161 [some (vR true 0 0), some (vI (nI p)), some (vI (nI s)), some (vI (nI row)), some (vI (nI day)), some (vI ((64 : Int32) * nI p + nI s)), some (vI M), some (vI (nI give)), some (vI a), some (vI g), some (vI sm), some (vI x), v12] [] (c, m) (fun w' r' => w' = (c, m) ∧ r' = some (vI (bi (vv n p row day (kk, fr, to, many, give, tb) = true)))) := by
    intro M hM j
    induction j with
    | zero =>
      intro k x a g sm v12 hkn hx ha hgv hsv h0 h4
      have hkn : k = n := by omega
      subst hkn
      have b1 := cntB_le (oth p fr to) k
      have b2 := cntB_le (fun q => oth p fr to q && decide (give ≤ dd row q)) k
      have b3 := sumX_le p row k
      subst hx ha hgv hsv
      refine go_ev 80 [161] (bT (c := m.1 0 0 0 ≤ nI k) (by rw [hmn, nIle (by omega) (by omega)]; omega) ?_)
      refine dI hin (bI (c := m.2.1 6 0 ((64 : Int32) * nI p + nI s).toNatClampNeg = 3) (fun h => ?_) (fun h => dI hin (bI (c := m.2.1 6 0 ((64 : Int32) * nI p + nI s).toNatClampNeg = 1) (fun h1 => ?_) (fun h1 => ?_))))
      · rw [f0] at h
        have h : kk = 3 := (nIeq (by omega) (by decide)).mp h
        subst h
        rw [hM (by decide)]
        refine bI (c := nI (sumX p row k) < nI many) (fun h2 => ?_) (fun h2 => ?_)
        · rw [nIlt (by omega) (by omega)] at h2
          refine And.intro rfl (And.intro rfl ?_)
          rw [bi_f]
          show ¬ decide (many ≤ sumX p row k) = true
          rw [decide_eq_true_eq]
          omega
        · rw [nIlt (by omega) (by omega)] at h2
          refine And.intro rfl (And.intro rfl ?_)
          rw [bi_t]
          show decide (many ≤ sumX p row k) = true
          rw [decide_eq_true_eq]
          omega
      · rw [f0] at h1
        have h1 : kk = 1 := (nIeq (by omega) (by decide)).mp h1
        subst h1
        refine bI (c := nI (cntB (fun q => oth p fr to q && decide (give ≤ dd row q)) k) = nI (cntB (oth p fr to) k)) (fun h2 => ?_) (fun h2 => ?_)
        · rw [nIeq (by omega) (by omega)] at h2
          refine And.intro rfl (And.intro rfl ?_)
          rw [bi_t]
          show decide (cntB (fun q => oth p fr to q && decide (give ≤ dd row q)) k = cntB (oth p fr to) k) = true
          rw [decide_eq_true_eq]
          exact h2
        · rw [nIeq (by omega) (by omega)] at h2
          refine And.intro rfl (And.intro rfl ?_)
          rw [bi_f]
          show ¬ decide (cntB (fun q => oth p fr to q && decide (give ≤ dd row q)) k = cntB (oth p fr to) k) = true
          rw [decide_eq_true_eq]
          exact h2
      · have h2 : kk = 2 := by
          have a3 : kk ≠ 3 := fun z => h (by rw [f0, z]; rfl)
          have a1 : kk ≠ 1 := fun z => h1 (by rw [f0, z]; rfl)
          omega
        subst h2
        rw [hM (by decide)]
        refine bI (c := nI (cntB (fun q => oth p fr to q && decide (give ≤ dd row q)) k) < nI many) (fun h2 => ?_) (fun h2 => ?_)
        · rw [nIlt (by omega) (by omega)] at h2
          refine And.intro rfl (And.intro rfl ?_)
          rw [bi_f]
          show ¬ decide (many ≤ cntB (fun q => oth p fr to q && decide (give ≤ dd row q)) k) = true
          rw [decide_eq_true_eq]
          omega
        · rw [nIlt (by omega) (by omega)] at h2
          refine And.intro rfl (And.intro rfl ?_)
          rw [bi_t]
          show decide (many ≤ cntB (fun q => oth p fr to q && decide (give ≤ dd row q)) k) = true
          rw [decide_eq_true_eq]
          omega
    | succ j ih =>
      intro k x a g sm v12 hkn hx ha hgv hsv h0 h4
      subst hx ha hgv hsv
      have hd := dd_lt row k
      refine go_ev 80 [161] (bF (c := m.1 0 0 0 ≤ nI k) (by rw [hmn, nIle (by omega) (by omega)]; omega) ?_)
      refine bI (c := nI k = nI p) (fun h => ?_) (fun h => ?_)
      · rw [nIeq (by omega) (by omega)] at h
        have ho : oth p fr to k = false := by
          unfold oth
          rw [h, bne_self_eq_false, Bool.false_and]
        refine ih (k + 1) _ _ _ _ _ (by omega) (nI_succ k).symm ?_ ?_ ?_ h0 h4
        · simp only [cntB, ho]
          rfl
        · simp only [cntB, ho]
          rfl
        · simp only [sumX, if_pos h]
          rfl
      · rw [nIeq (by omega) (by omega)] at h
        have hsum : nI (sumX p row k) + nI (dd row k) = nI (sumX p row (k + 1)) := by
          rw [nIadd]
          simp only [sumX, if_neg h]
        refine iF (m_deed _ (by omega) (by omega)) (by decide) (dI hin ?_)
        refine bI (c := nI k < m.2.1 7 0 ((64 : Int32) * nI p + nI s).toNatClampNeg) (fun h1 => ?_) (fun h1 => dI hin (bI (c := m.2.1 8 0 ((64 : Int32) * nI p + nI s).toNatClampNeg < nI k) (fun h2 => ?_) (fun h2 => ?_)))
        · rw [f1, nIlt (by omega) (by omega)] at h1
          have ho : oth p fr to k = false := by
            unfold oth
            rw [show decide (fr ≤ k) = false from decide_eq_false (by omega), Bool.false_and, Bool.and_false]
          refine iF (m_one _ _) (by decide) (bT (c := (0 : Int32) = 0) rfl (iF (m_one _ _) (by decide) ?_))
          refine ih (k + 1) _ _ _ _ _ (by omega) (nI_succ k).symm ?_ ?_ hsum h0 h4
          · simp only [cntB, ho]
            exact Int32.add_zero _
          · simp only [cntB, ho]
            exact Int32.add_zero _
        · rw [f2, nIlt (by omega) (by omega)] at h2
          have ho : oth p fr to k = false := by
            unfold oth
            rw [show decide (k ≤ to) = false from decide_eq_false (by omega), Bool.and_false, Bool.and_false]
          refine iF (m_one _ _) (by decide) (bT (c := (0 : Int32) = 0) rfl (iF (m_one _ _) (by decide) ?_))
          refine ih (k + 1) _ _ _ _ _ (by omega) (nI_succ k).symm ?_ ?_ hsum h0 h4
          · simp only [cntB, ho]
            exact Int32.add_zero _
          · simp only [cntB, ho]
            exact Int32.add_zero _
        · rw [f1, nIlt (by omega) (by omega)] at h1
          rw [f2, nIlt (by omega) (by omega)] at h2
          have ho : oth p fr to k = true := by
            unfold oth
            rw [show decide (fr ≤ k) = true from decide_eq_true (by omega), show decide (k ≤ to) = true from decide_eq_true (by omega), bne_iff_ne.mpr h]
            rfl
          refine iF (m_one _ _) (by decide) (bF (c := (1 : Int32) = 0) (by decide) (iF (m_deed _ (by omega) (by omega)) (by decide) ?_))
          refine bI (c := nI (dd row k) < nI give) (fun h3 => ?_) (fun h3 => ?_)
          · rw [nIlt (by omega) (by omega)] at h3
            refine iF (m_one _ _) (by decide) ?_
            refine ih (k + 1) _ _ _ _ _ (by omega) (nI_succ k).symm ?_ ?_ hsum h0 h4
            · simp only [cntB, ho]
              exact (nI_succ _).symm
            · simp only [cntB, ho, show decide (give ≤ dd row k) = false from decide_eq_false (by omega)]
              exact Int32.add_zero _
          · rw [nIlt (by omega) (by omega)] at h3
            refine iF (m_one _ _) (by decide) ?_
            refine ih (k + 1) _ _ _ _ _ (by omega) (nI_succ k).symm ?_ ?_ hsum h0 h4
            · simp only [cntB, ho]
              exact (nI_succ _).symm
            · simp only [cntB, ho, show decide (give ≤ dd row k) = true from decide_eq_true (by omega)]
              exact (nI_succ _).symm
  have k64 : ∀ (M G : Int32), (2 ≤ kk → M = nI many) → G = nI give → Go 1 122 none 64 [some (vR true 0 0), some (vI (nI p)), some (vI (nI s)), some (vI (nI row)), some (vI (nI day)), some (vI ((64 : Int32) * nI p + nI s)), some (vI M), some (vI G), none, none, none, none, none] [] (c, m) (fun w' r' => w' = (c, m) ∧ r' = some (vI (bi (vv n p row day (kk, fr, to, many, give, tb) = true)))) := by
    intro M G hM hG
    subst hG
    refine go_ev 80 [161] (dI hin ?_)
    refine bI (c := m.2.1 6 0 ((64 : Int32) * nI p + nI s).toNatClampNeg = 0) (fun h => ?_) (fun h => dI hin (bI (c := m.2.1 6 0 ((64 : Int32) * nI p + nI s).toNatClampNeg = 4) (fun h2 => ?_) (fun h2 => ?_)))
    · rw [f0] at h
      have h : kk = 0 := (nIeq (by omega) (by decide)).mp h
      subst h
      have hd := dd_lt row fr
      have fin0 : ∀ (v : Nat), v < 4 → v = (if fr = p ∨ n ≤ fr then 0 else dd row fr) → (nI v < nI give → (0 : Int32) = bi (vv n p row day (0, fr, to, many, give, tb) = true)) ∧ (¬ nI v < nI give → (1 : Int32) = bi (vv n p row day (0, fr, to, many, give, tb) = true)) := by
        intro v hv4 hv
        rw [nIlt (by omega) (by omega)]
        constructor
        · intro z
          rw [bi_f]
          show ¬ decide (give ≤ (if fr = p ∨ n ≤ fr then 0 else dd row fr)) = true
          rw [← hv, decide_eq_true_eq]
          omega
        · intro z
          rw [bi_t]
          show decide (give ≤ (if fr = p ∨ n ≤ fr then 0 else dd row fr)) = true
          rw [← hv, decide_eq_true_eq]
          omega
      refine dI hin (bI (c := m.2.1 7 0 ((64 : Int32) * nI p + nI s).toNatClampNeg = nI p) (fun h1 => ?_) (fun h1 => dI hin (bI (c := m.2.1 7 0 ((64 : Int32) * nI p + nI s).toNatClampNeg < m.1 0 0 0) (fun h2 => ?_) (fun h2 => ?_))))
      · rw [f1, nIeq (by omega) (by omega)] at h1
        obtain ⟨g1, g2⟩ := fin0 0 (by decide) (by rw [if_pos (Or.inl h1)])
        exact bI (c := nI 0 < nI give) (fun h3 => And.intro rfl (And.intro rfl (congrArg (fun x => some (vI x)) (g1 h3)))) (fun h3 => And.intro rfl (And.intro rfl (congrArg (fun x => some (vI x)) (g2 h3))))
      · rw [f1, nIeq (by omega) (by omega)] at h1
        rw [f1, hmn, nIlt (by omega) (by omega)] at h2
        obtain ⟨g1, g2⟩ := fin0 (dd row fr) hd (by rw [if_neg (by omega)])
        have hD : Fn 0 121 [vI (nI row), vI (m.2.1 7 0 ((64 : Int32) * nI p + nI s).toNatClampNeg)] (c, m) (c, m) (some (vI (nI (dd row fr)))) := by
          rw [f1]
          exact m_deed _ (by omega) (by omega)
        refine dI hin (iF hD (by decide) ?_)
        exact bI (c := nI (dd row fr) < nI give) (fun h3 => And.intro rfl (And.intro rfl (congrArg (fun x => some (vI x)) (g1 h3)))) (fun h3 => And.intro rfl (And.intro rfl (congrArg (fun x => some (vI x)) (g2 h3))))
      · rw [f1, hmn, nIlt (by omega) (by omega)] at h2
        obtain ⟨g1, g2⟩ := fin0 0 (by decide) (by rw [if_pos (Or.inr (by omega))])
        exact bI (c := nI 0 < nI give) (fun h3 => And.intro rfl (And.intro rfl (congrArg (fun x => some (vI x)) (g1 h3)))) (fun h3 => And.intro rfl (And.intro rfl (congrArg (fun x => some (vI x)) (g2 h3))))
    · rw [f0] at h2
      have h2 : kk = 4 := (nIeq (by omega) (by decide)).mp h2
      subst h2
      rw [hM (by decide)]
      refine bI (c := nI many < nI day) (fun h3 => ?_) (fun h3 => ?_)
      · rw [nIlt (by omega) (by omega)] at h3
        refine And.intro rfl (And.intro rfl ?_)
        rw [bi_f]
        show ¬ decide (day ≤ many) = true
        rw [decide_eq_true_eq]
        omega
      · rw [nIlt (by omega) (by omega)] at h3
        refine And.intro rfl (And.intro rfl ?_)
        rw [bi_t]
        show decide (day ≤ many) = true
        rw [decide_eq_true_eq]
        omega
    · exact key M hM n 0 0 0 0 0 none (by omega) rfl rfl rfl rfl (fun z => h (by rw [f0, z]; rfl)) (fun z => h2 (by rw [f0, z]; rfl))
  refine ctr_ev 80 [64] rfl rfl (dI hin ?_)
  refine bI (c := nI p = m.1 0 0 37) (fun h => ?_) (fun h => ?_)
  · unfold effM at e4
    unfold effG at e3
    rw [if_pos h] at e4 e3
    have e4 : 2 ≤ kk → m.2.1 9 0 ((64 : Int32) * nI p + nI s).toNatClampNeg - m.2.1 38 0 (nI s).toNatClampNeg = nI many := fun z => by
      rw [hic, hsc]
      exact e4 z
    have e3 : m.2.1 10 0 ((64 : Int32) * nI p + nI s).toNatClampNeg - m.2.1 39 0 (nI s).toNatClampNeg = nI give := by
      rw [hic, hsc]
      exact e3
    exact dI hsin (dI hin (bT (c := nI p = m.1 0 0 37) h (dI hsin (k64 _ _ e4 e3))))
  · unfold effM at e4
    unfold effG at e3
    rw [if_neg h, ← hic] at e4 e3
    exact dI hin (bF (c := nI p = m.1 0 0 37) h (k64 _ _ e4 e3))
end MON

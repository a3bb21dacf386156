/-! the model: how much -/
def bsV (p row kd k : Nat) : Option Nat := if k = 0 ∨ (k = 1 ∧ p = 0) then none else some (if kd = 2 then lstK p row k else mstK p row k)
theorem bsV_p {p row kd k : Nat} (h : k = p) : bsV p row kd (k + 1) = bsV p row kd k := by
  unfold bsV
  by_cases h0 : k = 0 ∨ (k = 1 ∧ p = 0)
  · rw [if_pos h0, if_pos (by omega)]
  · rw [if_neg h0, if_neg (by omega)]
    simp only [lstK, mstK, if_pos h]
theorem bsV_n {p row kd k : Nat} (h : ¬ k = p) (hn : bsV p row kd k = none) : bsV p row kd (k + 1) = some (dd row k) := by
  have hd := dd_lt row k
  unfold bsV at hn ⊢
  by_cases h0 : k = 0 ∨ (k = 1 ∧ p = 0)
  · rw [if_neg (by omega)]
    have e1 : lstK p row k = 3 ∧ mstK p row k = 0 := by
      rcases h0 with rfl | ⟨rfl, rfl⟩
      · exact ⟨rfl, rfl⟩
      · exact ⟨rfl, rfl⟩
    congr 1
    simp only [lstK, mstK, if_neg h, e1.1, e1.2]
    split <;> omega
  · rw [if_neg h0] at hn
    cases hn
theorem bsV_s {p row kd k v : Nat} (h : ¬ k = p) (hn : bsV p row kd k = some v) : bsV p row kd (k + 1) = some (if kd = 2 then min v (dd row k) else max v (dd row k)) ∧ v < 4 := by
  have hd := dd_lt row k
  have h1 := lstK_le p row k
  have h2 := mstK_le p row k
  unfold bsV at hn ⊢
  by_cases h0 : k = 0 ∨ (k = 1 ∧ p = 0)
  · rw [if_pos h0] at hn
    cases hn
  · rw [if_neg h0] at hn
    have hn := Option.some.inj hn
    rw [if_neg (by omega)]
    constructor
    · congr 1
      simp only [lstK, mstK, if_neg h]
      split
      · rename_i z
        rw [if_pos z] at hn
        rw [hn]
      · rename_i z
        rw [if_neg z] at hn
        rw [hn]
    · rw [← hn]
      split <;> omega
section MMU
variable {n p row : Nat} {c m : Sd}
theorem m_muchBy (hmn : m.1 0 0 0 = nI n) (hn : n ≤ 6) (hp : p < n) (hr : row < 4 ^ n) {r k o : Nat} (hr25 : r < 25) (hk4 : k < 4) (ho6 : o < 6) (hmk : m.2.1 2 0 (25 * p + r) = nI k) (hmo : m.2.1 3 0 (25 * p + r) = nI o) : Fn 1 124 [vR true 0 0, vI (nI p), vI (nI r), vI (nI row)] (c, m) (c, m) (some (vI (nI (muchV n p row k o)))) := by
  have hr6 := pow4_le hn
  have hix : (25 : Int32) * nI p + nI r = nI (25 * p + r) := by rw [show (25 : Int32) = nI 25 from rfl, pk_mul, nIadd]
  have hic := pk_cl (25 * p + r) hix
  have hin := pk_in (25 * p + r) 150 (by omega) hix
  have fk : m.2.1 2 0 ((25 : Int32) * nI p + nI r).toNatClampNeg = nI k := by rw [hic]; exact hmk
  have fo : m.2.1 3 0 ((25 : Int32) * nI p + nI r).toNatClampNeg = nI o := by rw [hic]; exact hmo
  have key : 2 ≤ k → ∀ (j q : Nat) (x b : Int32) (v8 v9 : Option PV), q + j = n → x = nI q → b = optI (bsV p row k q) → Go 1 124 none 72 [some (vR true 0 0), some (vI (nI p)), some (vI (nI r)), some (vI (nI row)), some (vI (m.2.1 2 0 ((25 : Int32) * nI p + nI r).toNatClampNeg)), some (vI (m.2.1 3 0 ((25 : Int32) * nI p + nI r).toNatClampNeg)), some (vI b), some (vI x), v8, v9] [] (c, m) (fun w' r' => w' = (c, m) ∧ r' = some (vI (nI (muchV n p row k o)))) := by
    intro h2 j
    induction j with
    | zero =>
      intro q x b v8 v9 hq hx hb
      have hq : q = n := by omega
      subst hq hx
      refine go_ev 60 [72] (bT (c := m.1 0 0 0 ≤ nI q) (by rw [hmn]; exact Int32.le_refl _) ?_)
      have hb1 := lstK_le p row q
      have hb2 := mstK_le p row q
      cases hv : bsV p row k q with
      | none =>
        rw [hv] at hb
        subst hb
        refine bF (c := (0 : Int32) ≤ -1) (by decide) (And.intro rfl ?_)
        unfold bsV at hv
        by_cases h0 : q = 0 ∨ (q = 1 ∧ p = 0)
        · obtain ⟨rfl, rfl⟩ : q = 1 ∧ p = 0 := by omega
          have : muchV 1 0 row k o = 0 := by
            unfold muchV
            rw [if_neg (by omega), if_neg (by omega)]
            split
            · rfl
            · rfl
          rw [this]
          rfl
        · rw [if_neg h0] at hv
          cases hv
      | some v =>
        rw [hv] at hb
        have hb : b = nI v := hb
        subst hb
        unfold bsV at hv
        by_cases h0 : q = 0 ∨ (q = 1 ∧ p = 0)
        · rw [if_pos h0] at hv
          cases hv
        · rw [if_neg h0] at hv
          have hv := Option.some.inj hv
          have hv4 : v < 4 := by
            rw [← hv]
            split <;> omega
          refine bT (c := (0 : Int32) ≤ nI v) (by rw [show (0 : Int32) = nI 0 from rfl, nIle (by decide) (by omega)]; omega) (And.intro rfl ?_)
          congr 3
          rw [← hv]
          unfold muchV
          rw [if_neg (show ¬ k = 0 by omega), if_neg (show ¬ k = 1 by omega), if_neg (show ¬ q ≤ 1 by omega)]
    | succ j ih =>
      intro q x b v8 v9 hq hx hb
      subst hx
      have hd := dd_lt row q
      refine go_ev 60 [72] (bF (c := m.1 0 0 0 ≤ nI q) (by rw [hmn, nIle (by omega) (by omega)]; omega) ?_)
      refine iF (m_deed _ (by omega) (by omega)) (by decide) ?_
      have same : ∀ (v8 v9 : Option PV), q = p → Go 1 124 none 72 [some (vR true 0 0), some (vI (nI p)), some (vI (nI r)), some (vI (nI row)), some (vI (m.2.1 2 0 ((25 : Int32) * nI p + nI r).toNatClampNeg)), some (vI (m.2.1 3 0 ((25 : Int32) * nI p + nI r).toNatClampNeg)), some (vI b), some (vI (nI q + 1)), v8, v9] [] (c, m) (fun w' r' => w' = (c, m) ∧ r' = some (vI (nI (muchV n p row k o)))) := fun v8 v9 hqp => ih (q + 1) _ _ v8 v9 (by omega) (nI_succ q).symm (by rw [bsV_p hqp]; exact hb)
      cases hv : bsV p row k q with
      | none =>
        rw [hv] at hb
        have hb' : b = -1 := hb
        refine bT (c := b < 0) (by rw [hb']; decide) ?_
        refine bI (c := nI q = nI p) (fun h => ?_) (fun h => ?_)
        · rw [nIeq (by omega) (by omega)] at h
          exact same _ _ h
        · rw [nIeq (by omega) (by omega)] at h
          refine bF (c := (1 : Int32) = 0) (by decide) ?_
          refine ih (q + 1) _ _ _ _ (by omega) (nI_succ q).symm ?_
          rw [bsV_n h hv]
          rfl
      | some v =>
        rw [hv] at hb
        have hb' : b = nI v := hb
        have hv4 : v < 4 := by
          unfold bsV at hv
          have hb1 := lstK_le p row q
          have hb2 := mstK_le p row q
          by_cases h0 : q = 0 ∨ (q = 1 ∧ p = 0)
          · rw [if_pos h0] at hv
            cases hv
          · rw [if_neg h0] at hv
            have hv := Option.some.inj hv
            rw [← hv]
            split <;> omega
        have worse : ∀ (v8 v9 : Option PV), ¬ q = p → v = (if k = 2 then min v (dd row q) else max v (dd row q)) → Go 1 124 none 72 [some (vR true 0 0), some (vI (nI p)), some (vI (nI r)), some (vI (nI row)), some (vI (m.2.1 2 0 ((25 : Int32) * nI p + nI r).toNatClampNeg)), some (vI (m.2.1 3 0 ((25 : Int32) * nI p + nI r).toNatClampNeg)), some (vI b), some (vI (nI q + 1)), v8, v9] [] (c, m) (fun w' r' => w' = (c, m) ∧ r' = some (vI (nI (muchV n p row k o)))) := fun v8 v9 hqp hm => ih (q + 1) _ _ v8 v9 (by omega) (nI_succ q).symm (by rw [(bsV_s hqp hv).1, ← hm]; exact hb)
        have bett : ∀ (v8 v9 : Option PV), ¬ q = p → dd row q = (if k = 2 then min v (dd row q) else max v (dd row q)) → Go 1 124 none 72 [some (vR true 0 0), some (vI (nI p)), some (vI (nI r)), some (vI (nI row)), some (vI (m.2.1 2 0 ((25 : Int32) * nI p + nI r).toNatClampNeg)), some (vI (m.2.1 3 0 ((25 : Int32) * nI p + nI r).toNatClampNeg)), some (vI (nI (dd row q))), some (vI (nI q + 1)), v8, v9] [] (c, m) (fun w' r' => w' = (c, m) ∧ r' = some (vI (nI (muchV n p row k o)))) := fun v8 v9 hqp hm => ih (q + 1) _ _ v8 v9 (by omega) (nI_succ q).symm (by rw [(bsV_s hqp hv).1, ← hm]; rfl)
        refine bF (c := b < 0) (by rw [hb']; exact nI_ge0 (by omega)) ?_
        refine bI (c := m.2.1 2 0 ((25 : Int32) * nI p + nI r).toNatClampNeg = 2) (fun h => ?_) (fun h => ?_)
        · rw [fk] at h
          have hk2 : k = 2 := (nIeq (by omega) (by decide)).mp h
          refine bI (c := b ≤ nI (dd row q)) (fun h3 => ?_) (fun h3 => ?_)
          · rw [hb', nIle (by omega) (by omega)] at h3
            refine bI (c := nI q = nI p) (fun h4 => ?_) (fun h4 => ?_)
            · rw [nIeq (by omega) (by omega)] at h4
              exact same _ _ h4
            · rw [nIeq (by omega) (by omega)] at h4
              exact bT (c := (0 : Int32) = 0) rfl (worse _ _ h4 (by rw [if_pos hk2]; omega))
          · rw [hb', nIle (by omega) (by omega)] at h3
            refine bI (c := nI q = nI p) (fun h4 => ?_) (fun h4 => ?_)
            · rw [nIeq (by omega) (by omega)] at h4
              exact same _ _ h4
            · rw [nIeq (by omega) (by omega)] at h4
              exact bF (c := (1 : Int32) = 0) (by decide) (bett _ _ h4 (by rw [if_pos hk2]; omega))
        · have hk2 : ¬ k = 2 := fun z => h (by rw [fk, z]; rfl)
          refine bI (c := nI (dd row q) ≤ b) (fun h3 => ?_) (fun h3 => ?_)
          · rw [hb', nIle (by omega) (by omega)] at h3
            refine bI (c := nI q = nI p) (fun h4 => ?_) (fun h4 => ?_)
            · rw [nIeq (by omega) (by omega)] at h4
              exact same _ _ h4
            · rw [nIeq (by omega) (by omega)] at h4
              exact bT (c := (0 : Int32) = 0) rfl (worse _ _ h4 (by rw [if_neg hk2]; omega))
          · rw [hb', nIle (by omega) (by omega)] at h3
            refine bI (c := nI q = nI p) (fun h4 => ?_) (fun h4 => ?_)
            · rw [nIeq (by omega) (by omega)] at h4
              exact same _ _ h4
            · rw [nIeq (by omega) (by omega)] at h4
              exact bF (c := (1 : Int32) = 0) (by decide) (bett _ _ h4 (by rw [if_neg hk2]; omega))
  refine ctr_ev 60 [72] rfl rfl (dI hin (dI hin ?_))
  refine bI (c := m.2.1 2 0 ((25 : Int32) * nI p + nI r).toNatClampNeg = 0) (fun h => ?_) (fun h => bI (c := m.2.1 2 0 ((25 : Int32) * nI p + nI r).toNatClampNeg = 1) (fun h1 => ?_) (fun h1 => ?_))
  · rw [fk] at h
    have h : k = 0 := (nIeq (by omega) (by decide)).mp h
    subst h
    exact And.intro rfl (congrArg (fun x => some (vI x)) fo)
  · rw [fk] at h1
    have h1 : k = 1 := (nIeq (by omega) (by decide)).mp h1
    subst h1
    have hm1 : muchV n p row 1 o = if o = p ∨ n ≤ o then 0 else dd row o := rfl
    rw [hm1]
    refine bI (c := m.2.1 3 0 ((25 : Int32) * nI p + nI r).toNatClampNeg = nI p) (fun h2 => ?_) (fun h2 => bI (c := m.2.1 3 0 ((25 : Int32) * nI p + nI r).toNatClampNeg < m.1 0 0 0) (fun h3 => ?_) (fun h3 => ?_))
    · rw [fo, nIeq (by omega) (by omega)] at h2
      rw [if_pos (Or.inl h2)]
      exact And.intro rfl rfl
    · rw [fo, nIeq (by omega) (by omega)] at h2
      rw [fo, hmn, nIlt (by omega) (by omega)] at h3
      have hD : Fn 0 121 [vI (nI row), vI (m.2.1 3 0 ((25 : Int32) * nI p + nI r).toNatClampNeg)] (c, m) (c, m) (some (vI (nI (dd row o)))) := by
        rw [fo]
        exact m_deed _ (by omega) (by omega)
      rw [if_neg (show ¬ (o = p ∨ n ≤ o) by omega)]
      exact iF hD (by decide) (And.intro rfl rfl)
    · rw [fo, hmn, nIlt (by omega) (by omega)] at h3
      rw [if_pos (Or.inr (show n ≤ o by omega))]
      exact And.intro rfl rfl
  · have a0 : ¬ k = 0 := fun z => h (by rw [fk, z]; rfl)
    have a1 : ¬ k = 1 := fun z => h1 (by rw [fk, z]; rfl)
    exact key (by omega) n 0 0 (-1) none none (by omega) rfl rfl
end MMU

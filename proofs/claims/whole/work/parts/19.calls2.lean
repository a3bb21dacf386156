/-! the class's calls over its persons' terms, second part -/
section CA2
variable {n : Nat} {l : Nat → Nat → Nat → Nat} {I : Sd → Prop} {c m : Sd}
theorem c_max (w : Wd) (a b : Int32) : Fn 0 165 [vI a, vI b] w w (some (vI (if a < b then b else a))) := by
  refine ctr_ev 20 [] rfl rfl (bI (fun h => ?_) (fun h => ?_))
  · exact And.intro rfl (by rw [if_pos h])
  · exact And.intro rfl (by rw [if_neg h])
theorem c_maxN (w : Wd) {a b : Nat} (ha : a < 2 ^ 31) (hb : b < 2 ^ 31) : Fn 0 165 [vI (nI a), vI (nI b)] w w (some (vI (nI (max a b)))) := by
  have h := c_max w (nI a) (nI b)
  rw [show (if nI a < nI b then nI b else nI a) = nI (max a b) from by
    by_cases h : a < b
    · rw [if_pos ((nIlt ha hb).mpr h), Nat.max_eq_right (by omega)]
    · rw [if_neg (fun z => h ((nIlt ha hb).mp z)), Nat.max_eq_left (by omega)]] at h
  exact h
theorem optI_none {o : Option Nat} (h : ∀ k, o = some k → k < 2 ^ 31) : optI o = -1 ↔ o = none := by
  cases o with
  | none => exact ⟨fun _ => rfl, fun _ => rfl⟩
  | some k => exact ⟨fun z => absurd z (nI_m1 (h k rfl)), fun z => by cases z⟩
theorem fst_lt {bad : Nat → Bool} : ∀ (j k q : Nat), fst bad j k = some q → k ≤ q ∧ q < k + j ∧ bad q = true := by
  intro j
  induction j with
  | zero => intro k q h; cases h
  | succ j ih =>
    intro k q h
    simp only [fst] at h
    split at h
    · rename_i hb
      cases h
      exact ⟨Nat.le_refl _, by omega, hb⟩
    · obtain ⟨h1, h2, h3⟩ := ih (k + 1) q h
      exact ⟨by omega, by omega, h3⟩
theorem fst_no {bad : Nat → Bool} : ∀ (j k : Nat), (∀ q, k ≤ q → q < k + j → bad q = false) → fst bad j k = none := by
  intro j
  induction j with
  | zero => intro k _; rfl
  | succ j ih =>
    intro k h
    simp only [fst]
    rw [h k (Nat.le_refl _) (by omega)]
    exact ih (k + 1) (fun q h1 h2 => h q (by omega) (by omega))
theorem c_slipBy (hH : CH n l I) (hc : I c) {p row day : Nat} (hp : p < n) (hr : row < 4 ^ n) (hd1 : 1 ≤ day) (hd9 : day ≤ 9) : Ctr 4 55 [vR false 7 0, vI (nI p), vI (nI row), vI (nI day)] (c, m) (PQ I m (optI (slB n l day p row))) := by
  obtain ⟨⟨h1, h6⟩, hl, hn, -, hao, -⟩ := id hH
  have hr6 := pow4_le h6
  have hnow := hl p row day
  have key : ∀ (j k : Nat) (x : Int32) (c : Sd), k + j = n → x = nI k → I c → slB n l day p row = fst (fun q => q != p && (decide (dd row q < 3) && decide (l p (row + 4 ^ q) day < l p row day))) j k → Go 4 55 none 20 [some (vR false 7 0), some (vI (nI p)), some (vI (nI row)), some (vI (nI day)), some (vI (nI (l p row day))), some (vI x)] [] (c, m) (PQ I m (optI (slB n l day p row))) := by
    intro j
    induction j with
    | zero =>
      intro k x c hk hx hc hf
      refine go_ev 40 [20] (bT (c := c.1 7 0 1 ≤ x) (by rw [hn c hc, hx, nIle (by omega) (by omega)]; omega) ?_)
      refine pqi hc ?_
      rw [hf]
      rfl
    | succ j ih =>
      intro k x c hk hx hc hf
      subst hx
      have hdd := dd_lt row k
      refine go_ev 60 [20] (bF (c := c.1 7 0 1 ≤ nI k) (by rw [hn c hc, nIle (by omega) (by omega)]; omega) ?_)
      refine bI (fun h0 => ?_) (fun h0 => ?_)
      · refine pqi hc ?_
        have h00 : l p row day = 0 := by
          rw [show (0 : Int32) = nI 0 from rfl, nIle (by omega) (by decide)] at h0
          omega
        rw [hf, fst_no _ _ (fun q _ _ => by simp [h00])]
        rfl
      · refine bI (fun h2 => ?_) (fun h2 => ?_)
        · rw [nIeq (by omega) (by omega)] at h2
          refine ih (k + 1) _ c (by omega) (nI_succ k).symm hc ?_
          rw [hf]
          simp [fst, h2]
        · rw [nIeq (by omega) (by omega)] at h2
          refine iF (c_deedN _ (by omega) (by omega)) (by decide) ?_
          refine bI (fun h3 => ?_) (fun h3 => ?_)
          · rw [show (3 : Int32) = nI 3 from rfl, nIle (by decide) (by omega)] at h3
            refine ih (k + 1) _ c (by omega) (nI_succ k).symm hc ?_
            rw [hf]
            simp [fst, Nat.not_lt.mpr h3]
          · rw [show (3 : Int32) = nI 3 from rfl, nIle (by decide) (by omega)] at h3
            refine dI (vp6 (by omega)) ?_
            have hup := up_lt hr (q := k) (by omega) (by omega)
            have hx := hao c m hc p (row + 4 ^ k) day hp hup hd1 hd9
            rw [← nIadd, ← nI_rows (n := k) (by omega)] at hx
            refine iC hx (by decide) ?_
            rintro _ _ ⟨c2, rfl, hc2, rfl⟩
            have := hl p (row + 4 ^ k) day
            refine bI (fun h4 => ?_) (fun h4 => ?_)
            · rw [nIle (by omega) (by omega)] at h4
              refine ih (k + 1) _ c2 (by omega) (nI_succ k).symm hc2 ?_
              rw [hf]
              simp [fst, Nat.not_lt.mpr h4]
            · rw [nIle (by omega) (by omega)] at h4
              refine pqi hc2 ?_
              rw [hf]
              simp only [fst]
              rw [if_pos (by simp [h2]; omega)]
              rfl
  refine ctr_ev 40 [20] rfl rfl (dI (vp6 (by omega)) ?_)
  refine iC (hao c m hc p row day hp hr hd1 hd9) (by decide) ?_
  rintro _ _ ⟨c2, rfl, hc2, rfl⟩
  exact key n 0 0 c2 (by omega) rfl hc2 rfl
theorem slB_lt {n : Nat} {l : Nat → Nat → Nat → Nat} {day p row k : Nat} (h : slB n l day p row = some k) : k < n := by
  have := fst_lt _ _ _ h
  omega
theorem slR_lt {n : Nat} {l : Nat → Nat → Nat → Nat} {day p k : Nat} (h : slR n l day p = some k) : k < 4 ^ n := by
  have := fst_lt _ _ _ h
  omega
theorem c_slipRow (hH : CH n l I) (hc : I c) {p day : Nat} (hp : p < n) (hd1 : 1 ≤ day) (hd9 : day ≤ 9) : Ctr 5 54 [vR false 7 0, vI (nI p), vI (nI day)] (c, m) (PQ I m (optI (slR n l day p))) := by
  obtain ⟨⟨h1, h6⟩, hl, hn, -, hao, -⟩ := id hH
  have hr6 := pow4_le h6
  have key : ∀ (j k : Nat) (x : Int32) (c : Sd), k + j = 4 ^ n → x = nI k → I c → slR n l day p = fst (fun row => decide (dd row p = 0) && (slB n l day p row).isSome) j k → Go 5 54 none 2 [some (vR false 7 0), some (vI (nI p)), some (vI (nI day)), some (vI x)] [] (c, m) (PQ I m (optI (slR n l day p))) := by
    intro j
    induction j with
    | zero =>
      intro k x c hk hx hc hf
      refine go_ev 40 [2] (iF (c_rows h6 (hn c hc)) (by decide) (bT (by rw [hx, nIle (by omega) (by omega)]; omega) ?_))
      refine pqi hc ?_
      rw [hf]
      rfl
    | succ j ih =>
      intro k x c hk hx hc hf
      subst hx
      have hdd := dd_lt k p
      refine go_ev 40 [2] (iF (c_rows h6 (hn c hc)) (by decide) (bF (by rw [nIle (by omega) (by omega)]; omega) ?_))
      refine iF (c_deedN _ (by omega) (by omega)) (by decide) ?_
      refine bI (fun h0 => ?_) (fun h0 => ?_)
      · rw [show (0 : Int32) = nI 0 from rfl, nIeq (by omega) (by decide)] at h0
        refine iC (c_slipBy hH hc (row := k) hp (by omega) hd1 hd9) (by decide) ?_
        rintro _ _ ⟨c2, rfl, hc2, rfl⟩
        refine bI (fun h2 => ?_) (fun h2 => ?_)
        · rw [optI_none (fun q hq => by have := slB_lt hq; omega)] at h2
          refine ih (k + 1) _ c2 (by omega) (nI_succ k).symm hc2 ?_
          rw [hf]
          simp [fst, h2]
        · rw [optI_none (fun q hq => by have := slB_lt hq; omega)] at h2
          refine pqi hc2 ?_
          rw [hf]
          simp only [fst]
          rw [if_pos (by simp [h0, Option.isSome_iff_ne_none.mpr h2])]
          rfl
      · rw [show (0 : Int32) = nI 0 from rfl, nIeq (by omega) (by decide)] at h0
        refine ih (k + 1) _ c (by omega) (nI_succ k).symm hc ?_
        rw [hf]
        simp [fst, h0]
  refine ctr_ev 40 [2] rfl rfl ?_
  exact key (4 ^ n) 0 0 c (by omega) rfl hc rfl
theorem c_growing (hH : CH n l I) (hc : I c) : Ctr 6 53 [vR false 7 0, vI 9] (c, m) (PQ I m (nI (growN n l))) := by
  obtain ⟨⟨h1, h6⟩, hl, hn, -, hao, -⟩ := id hH
  have hr6 := pow4_le h6
  have key : ∀ (j k : Nat) (x a : Int32) (c : Sd), k + j = n → x = nI k → a = nI (cntB (fun p => (slR n l 9 p).isNone) k) → I c → Go 6 53 none 4 [some (vR false 7 0), some (vI 9), some (vI a), some (vI x)] [] (c, m) (PQ I m (nI (growN n l))) := by
    intro j
    induction j with
    | zero =>
      intro k x a c hk hx ha hc
      refine go_ev 40 [4] (bT (c := c.1 7 0 1 ≤ x) (by rw [hn c hc, hx, nIle (by omega) (by omega)]; omega) ?_)
      refine pqi hc ?_
      rw [ha, show k = n by omega]
      rfl
    | succ j ih =>
      intro k x a c hk hx ha hc
      subst hx
      refine go_ev 40 [4] (bF (c := c.1 7 0 1 ≤ nI k) (by rw [hn c hc, nIle (by omega) (by omega)]; omega) ?_)
      refine iC (c_slipRow hH hc (p := k) (day := 9) (by omega) (by decide) (by decide)) (by decide) ?_
      rintro _ _ ⟨c2, rfl, hc2, rfl⟩
      refine bI (fun h2 => ?_) (fun h2 => ?_)
      · rw [optI_none (fun q hq => by have := slR_lt hq; omega)] at h2
        refine ih (k + 1) _ _ c2 (by omega) (nI_succ k).symm ?_ hc2
        rw [ha]
        simp [cntB, h2, nI_succ]
      · rw [optI_none (fun q hq => by have := slR_lt hq; omega)] at h2
        refine ih (k + 1) _ _ c2 (by omega) (nI_succ k).symm ?_ hc2
        rw [ha]
        simp [cntB, h2]
  refine ctr_ev 40 [4] rfl rfl ?_
  exact key n 0 0 0 c (by omega) rfl rfl hc
theorem c_grows (hH : CH n l I) (hc : I c) (p d x : Int32) : Ctr 6 68 [vR false 0 0, vI p, vI d, vI x] (c, m) (PQ I m (sGrows n l p d x)) := by
  obtain ⟨⟨h1, h6⟩, hl, hn, hal, -⟩ := id hH
  have hr6 := pow4_le h6
  refine ctr_ev 60 [] rfl rfl (iF (c_has (hn c hc) p) (by decide) (bI (fun hp => ?_) (fun hp => ?_)))
  · rw [bi_0] at hp
    refine pqi hc ?_
    rw [sGrows, if_neg hp]
  · rw [bi_0, Classical.not_not] at hp
    rw [sGrows, if_pos hp]
    refine iF (c_within _ d 1 9) (by decide) (bI (fun hd => ?_) (fun hd => ?_))
    · rw [bi_0] at hd
      refine pqi hc ?_
      rw [if_neg (fun z => hd z.1)]
    · rw [bi_0, Classical.not_not] at hd
      refine iF (c_within _ x (-1) 1) (by decide) (bI (fun hx => ?_) (fun hx => ?_))
      · rw [bi_0] at hx
        refine pqi hc ?_
        rw [if_neg (fun z => hx z.2)]
      · rw [bi_0, Classical.not_not] at hx
        rw [if_pos ⟨hd, hx⟩]
        obtain ⟨hk, he⟩ := clampP h1 (by omega) hp
        obtain ⟨hk3, hk4, he3⟩ := clampW (a := 1) (b := 9) (by decide) hd (by decide)
        generalize tN p = q at hk he ⊢
        generalize tN d = day at hk3 hk4 he3 ⊢
        subst he he3
        refine iC (c_slipRow hH hc hk hk3 hk4) (by decide) ?_
        rintro _ _ ⟨c2, rfl, hc2, rfl⟩
        cases hs : slR n l day q with
        | none =>
          refine bI (fun h => ?_) (fun h => ?_)
          · refine bT rfl ?_
            refine pqi hc2 ?_
            simp only [if_pos h]
          · refine bT rfl ?_
            refine pqi hc2 ?_
            simp only [if_neg h]
            rfl
        | some row =>
          have hrow := slR_lt hs
          have hne : ¬ optI (some row) = -1 := nI_m1 (by omega)
          refine bI (fun h => ?_) (fun h => ?_)
          · refine bF hne ?_
            refine pqi hc2 ?_
            simp only [if_pos h]
          · refine bF hne ?_
            refine bI (fun h0 => ?_) (fun h0 => ?_)
            · refine pqi hc2 ?_
              simp only [if_neg h, if_pos h0]
              rfl
            · refine iC (c_slipBy hH hc2 hk hrow hk3 hk4) (by decide) ?_
              rintro _ _ ⟨c3, rfl, hc3, rfl⟩
              refine pqi hc3 ?_
              simp only [if_neg h, if_neg h0]
end CA2

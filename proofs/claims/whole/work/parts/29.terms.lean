/-! terms: what one lets. A step: (kind, from, to, many, give, told); kinds 0 who, 1 all, 2 any, 3 sum, 4 day, 5 not, 6 and, 7 or -/
abbrev StpT : Type := Nat × Nat × Nat × Nat × Nat × Bool
def oth (p fr to q : Nat) : Bool := q != p && (decide (fr ≤ q) && decide (q ≤ to))
def sumX (p row : Nat) : Nat → Nat
  | 0 => 0
  | k + 1 => sumX p row k + (if k = p then 0 else dd row k)
def stpV (n p row day k fr to many give : Nat) : Bool :=
  if k = 0 then decide (give ≤ (if fr = p ∨ n ≤ fr then 0 else dd row fr))
  else if k = 4 then decide (day ≤ many)
  else if k = 3 then decide (many ≤ sumX p row n)
  else if k = 1 then decide (cntB (fun q => oth p fr to q && decide (give ≤ dd row q)) n = cntB (oth p fr to) n)
  else decide (many ≤ cntB (fun q => oth p fr to q && decide (give ≤ dd row q)) n)
def lstK (p row : Nat) : Nat → Nat
  | 0 => 3
  | k + 1 => if k = p then lstK p row k else min (lstK p row k) (dd row k)
def mstK (p row : Nat) : Nat → Nat
  | 0 => 0
  | k + 1 => if k = p then mstK p row k else max (mstK p row k) (dd row k)
def muchV (n p row kd of : Nat) : Nat :=
  if kd = 0 then of
  else if kd = 1 then (if of = p ∨ n ≤ of then 0 else dd row of)
  else if kd = 2 then (if n ≤ 1 then 0 else lstK p row n)
  else mstK p row n
theorem cntB_le (f : Nat → Bool) : ∀ k, cntB f k ≤ k
  | 0 => Nat.le_refl _
  | k + 1 => by
    have := cntB_le f k
    simp only [cntB]
    split <;> omega
theorem sumX_le (p row : Nat) : ∀ k, sumX p row k ≤ 3 * k
  | 0 => Nat.le_refl _
  | k + 1 => by
    have := sumX_le p row k
    have := dd_lt row k
    simp only [sumX]
    split <;> omega
theorem lstK_le (p row : Nat) : ∀ k, lstK p row k ≤ 3
  | 0 => Nat.le_refl _
  | k + 1 => by
    have := lstK_le p row k
    simp only [lstK]
    split
    · exact this
    · exact Nat.le_trans (Nat.min_le_left _ _) this
theorem mstK_le (p row : Nat) : ∀ k, mstK p row k ≤ 3
  | 0 => Nat.zero_le _
  | k + 1 => by
    have := mstK_le p row k
    have := dd_lt row k
    simp only [mstK]
    split <;> omega
theorem wdd_parts (row p d : Nat) : row = 4 ^ p * (4 * (row / 4 ^ p / 4) + dd row p) + row % 4 ^ p ∧ wdd row p d = 4 ^ p * (4 * (row / 4 ^ p / 4) + d) + row % 4 ^ p := by
  have h1 := Nat.div_add_mod row (4 ^ p)
  have h2 := Nat.div_add_mod (row / 4 ^ p) 4
  have h3 : 4 * (row / 4 ^ p / 4) + dd row p = row / 4 ^ p := h2
  refine ⟨by rw [h3, h1], ?_⟩
  unfold wdd
  generalize hh : row / 4 ^ p / 4 = h at h3 ⊢
  generalize hP : 4 ^ p = P at h1 h3 ⊢
  rw [Nat.mul_add]
  have h4 : row = P * (4 * h) + P * dd row p + row % P := by rw [← Nat.mul_add, h3, h1]
  rw [Nat.mul_comm (dd row p) P, Nat.mul_comm d P]
  omega
theorem dd_parts_eq {P h d lo p : Nat} (hP : P = 4 ^ p) (hd : d < 4) (hlo : lo < P) : dd (P * (4 * h + d) + lo) p = d := by
  unfold dd
  subst hP
  rw [Nat.mul_add_div (pow4_pos p), Nat.div_eq_of_lt hlo]
  omega
theorem dd_parts_h1 {h d lo p j : Nat} (hd : d < 4) (hlo : lo < 4 ^ p) : (4 ^ p * (4 * h + d) + lo) / (4 ^ p * (4 * 4 ^ j)) = h / 4 ^ j := by
  rw [← Nat.div_div_eq_div_mul, Nat.mul_add_div (pow4_pos p), Nat.div_eq_of_lt hlo, ← Nat.div_div_eq_div_mul]
  have a : (4 * h + d + 0) / 4 = h := by omega
  rw [a]
theorem dd_parts_hi {h d d' lo p q : Nat} (hd : d < 4) (hd' : d' < 4) (hlo : lo < 4 ^ p) (hq : p < q) : dd (4 ^ p * (4 * h + d) + lo) q = dd (4 ^ p * (4 * h + d') + lo) q := by
  obtain ⟨j, rfl⟩ : ∃ j, q = p + 1 + j := ⟨q - p - 1, by omega⟩
  unfold dd
  have e : 4 ^ (p + 1 + j) = 4 ^ p * (4 * 4 ^ j) := by rw [Nat.pow_add, Nat.pow_succ, Nat.mul_assoc]
  rw [e, dd_parts_h1 hd hlo, dd_parts_h1 hd' hlo]
theorem dd_parts_lo {X lo p q : Nat} (hq : q < p) : dd (4 ^ p * X + lo) q = dd lo q := by
  obtain ⟨j, rfl⟩ : ∃ j, p = q + 1 + j := ⟨p - q - 1, by omega⟩
  unfold dd
  have e : 4 ^ (q + 1 + j) * X = 4 ^ q * (4 * (4 ^ j * X)) := by
    rw [Nat.pow_add, Nat.pow_succ]
    simp only [Nat.mul_assoc]
  rw [e, Nat.mul_add_div (pow4_pos q)]
  omega
theorem dd_wdd {row p q d : Nat} (hd : d < 4) : dd (wdd row p d) q = if q = p then d else dd row q := by
  obtain ⟨h1, h2⟩ := wdd_parts row p d
  have hlo := Nat.mod_lt row (pow4_pos p)
  have hd0 := dd_lt row p
  rw [h2]
  by_cases hq : q = p
  · subst hq
    rw [if_pos rfl]
    exact dd_parts_eq rfl hd hlo
  · rw [if_neg hq]
    rcases Nat.lt_or_ge q p with h | h
    · rw [dd_parts_lo h]
      have : dd row q = dd (4 ^ p * (4 * (row / 4 ^ p / 4) + dd row p) + row % 4 ^ p) q := by rw [← h1]
      rw [this, dd_parts_lo h]
    · rw [dd_parts_hi hd hd0 hlo (by omega)]
      rw [← h1]
/-- what one looks at -/
def Scn (c : Sd) (n p row day : Nat) : Prop := c.1 19 0 0 = nI p ∧ c.1 19 0 1 = nI (wdd row p 0) ∧ c.1 19 0 2 = nI day ∧ c.1 19 0 3 = nI n
section SCE
variable {n p row day : Nat} {c m : Sd}
theorem c_look (hp : p < 6) (hr : row < 4096) (d s : Int32) : Fn 1 31 [vR false 19 0, vI (nI p), vI (nI row), vI d, vI s] (c, m) (sF (sF (sF (sF (c, m) false 19 0 0 (nI p)) false 19 0 1 (nI (wdd row p 0))) false 19 0 2 d) false 19 0 3 s) none :=
  ctr_ev 30 [] rfl rfl (iF (c_withDeedN _ hr hp (by decide)) (by decide) (And.intro rfl rfl))
theorem digit (hs : Scn c n p row day) (hn : n ≤ 6) (hp : p < n) (hr : row < 4 ^ n) {q : Nat} (hq : q < 16) : (c.1 19 0 1 >>> ((2 * nI q) &&& 31)) &&& 3 = nI (if q = p then 0 else dd row q) := by
  have h6 := pow4_le hn
  have hw := wdd_lt hr hp (show 0 < 4 by decide)
  rw [hs.2.1, nI_dd (by omega) hq, dd_wdd (by decide)]
theorem c_most (hs : Scn c n p row day) (hn : n ≤ 6) (hp : p < n) (hr : row < 4 ^ n) : Fn 0 33 [vR false 19 0] (c, m) (c, m) (some (vI (nI (mstK p row n)))) := by
  have key : ∀ (j k : Nat) (x a : Int32) (v3 : Option PV), k + j = n → x = nI k → a = nI (mstK p row k) → Go 0 33 none 4 [some (vR false 19 0), some (vI a), some (vI x), v3] [] (c, m) (fun w' r' => w' = (c, m) ∧ r' = some (vI (nI (mstK p row n)))) := by
    intro j
    induction j with
    | zero =>
      intro k x a v3 hk hx ha
      refine go_ev 40 [4] (bT (c := c.1 19 0 3 ≤ x) (by rw [hs.2.2.2, hx, nIle (by omega) (by omega)]; omega) (And.intro rfl ?_))
      rw [ha, show k = n by omega]
    | succ j ih =>
      intro k x a v3 hk hx ha
      subst hx ha
      have hm := mstK_le p row k
      have hd := dd_lt row k
      have hdg := digit hs hn hp hr (q := k) (by omega)
      refine go_ev 40 [4] (bF (c := c.1 19 0 3 ≤ nI k) (by rw [hs.2.2.2, nIle (by omega) (by omega)]; omega) ?_)
      refine bI (c := (c.1 19 0 1 >>> ((2 * nI k) &&& 31)) &&& 3 ≤ nI (mstK p row k)) (fun h => ?_) (fun h => ?_)
      · refine ih (k + 1) _ _ _ (by omega) (nI_succ k).symm ?_
        rw [hdg, nIle (by split <;> omega) (by omega)] at h
        congr 1
        simp only [mstK]
        split
        · rfl
        · rename_i hk
          rw [if_neg hk] at h
          omega
      · refine ih (k + 1) _ _ _ (by omega) (nI_succ k).symm ?_
        show (c.1 19 0 1 >>> ((2 * nI k) &&& 31)) &&& 3 = _
        rw [hdg, nIle (by split <;> omega) (by omega)] at h
        rw [hdg]
        congr 1
        simp only [mstK]
        split
        · rename_i hk
          rw [if_pos hk] at h
          omega
        · rename_i hk
          rw [if_neg hk] at h
          omega
  refine ctr_ev 40 [4] rfl rfl ?_
  exact key n 0 0 0 none (by omega) rfl rfl
theorem c_least (hs : Scn c n p row day) (hn : n ≤ 6) (hp : p < n) (hr : row < 4 ^ n) : Fn 0 32 [vR false 19 0] (c, m) (c, m) (some (vI (nI (if n ≤ 1 then 0 else lstK p row n)))) := by
  have key : ∀ (j k v : Nat) (x a : Int32) (v3 : Option PV), k + j = n → x = nI k → a = nI v → v = (if n ≤ 1 then 0 else lstK p row k) → Go 0 32 none 16 [some (vR false 19 0), some (vI a), some (vI x), v3] [] (c, m) (fun w' r' => w' = (c, m) ∧ r' = some (vI (nI (if n ≤ 1 then 0 else lstK p row n)))) := by
    intro j
    induction j with
    | zero =>
      intro k v x a v3 hk hx ha hv
      refine go_ev 40 [16] (bT (c := c.1 19 0 3 ≤ x) (by rw [hs.2.2.2, hx, nIle (by omega) (by omega)]; omega) (And.intro rfl ?_))
      rw [ha, hv, show k = n by omega]
    | succ j ih =>
      intro k v x a v3 hk hx ha hv
      subst hx ha
      have hm := lstK_le p row k
      have hd := dd_lt row k
      have hv3 : v ≤ 3 := by
        rw [hv]
        split <;> omega
      have hdg := digit hs hn hp hr (q := k) (by omega)
      refine go_ev 40 [16] (bF (c := c.1 19 0 3 ≤ nI k) (by rw [hs.2.2.2, nIle (by omega) (by omega)]; omega) ?_)
      refine bI (c := nI k = c.1 19 0 0) (fun h => ?_) (fun h => ?_)
      · rw [hs.1, nIeq (by omega) (by omega)] at h
        refine ih (k + 1) v _ _ _ (by omega) (nI_succ k).symm rfl ?_
        rw [hv]
        simp only [lstK, if_pos h]
      · rw [hs.1, nIeq (by omega) (by omega)] at h
        rw [if_neg h] at hdg
        refine bI (c := nI v ≤ (c.1 19 0 1 >>> ((2 * nI k) &&& 31)) &&& 3) (fun h2 => ?_) (fun h2 => ?_)
        · rw [hdg, nIle (by omega) (by omega)] at h2
          refine ih (k + 1) v _ _ _ (by omega) (nI_succ k).symm rfl ?_
          rw [hv]
          split
          · rfl
          · rename_i h1
            rw [if_neg h1] at hv
            simp only [lstK, if_neg h]
            omega
        · rw [hdg, nIle (by omega) (by omega)] at h2
          refine ih (k + 1) (dd row k) _ _ _ (by omega) (nI_succ k).symm hdg ?_
          split
          · rename_i h1
            rw [if_pos h1] at hv
            omega
          · rename_i h1
            rw [if_neg h1] at hv
            simp only [lstK, if_neg h]
            omega
  refine ctr_ev 40 [16] rfl rfl (bI (c := c.1 19 0 3 ≤ 1) (fun h => ?_) (fun h => ?_))
  · rw [hs.2.2.2, show (1 : Int32) = nI 1 from rfl, nIle (by omega) (by decide)] at h
    exact key n 0 0 0 0 none (by omega) rfl rfl (by rw [if_pos h])
  · rw [hs.2.2.2, show (1 : Int32) = nI 1 from rfl, nIle (by omega) (by decide)] at h
    exact key n 0 3 0 3 none (by omega) rfl rfl (by rw [if_neg h]; rfl)
theorem c_much (hs : Scn c n p row day) (hn : n ≤ 6) (hp : p < n) (hr : row < 4 ^ n) {kd of : Nat} (hk : kd < 4) (ho : of < 6) : Fn 1 41 [vI (nI kd), vI (nI of), vR false 19 0] (c, m) (c, m) (some (vI (nI (muchV n p row kd of)))) := by
  have h6 := pow4_le hn
  have hw := wdd_lt hr hp (show 0 < 4 by decide)
  have ho1 := hs.2.1
  refine ctr_ev 40 [] rfl rfl ?_
  refine bI (c := nI kd = Int32.ofInt 1) (fun h => ?_) (fun h => bI (c := nI kd = Int32.ofInt 2) (fun h2 => ?_) (fun h2 => bI (c := nI kd = Int32.ofInt 3) (fun h3 => ?_) (fun h3 => ?_)))
  · have h : kd = 1 := (nIeq (by omega) (by decide)).mp h
    subst h
    have hd := c_deedN (c, m) (row := wdd row p 0) (p := of) (by omega) (by omega)
    rw [← ho1, dd_wdd (by decide)] at hd
    refine iF hd (by decide) (And.intro rfl ?_)
    show _ = some (vI (nI (if of = p ∨ n ≤ of then 0 else dd row of)))
    congr 3
    by_cases hop : of = p
    · rw [if_pos hop, if_pos (Or.inl hop)]
    · rw [if_neg hop]
      by_cases hon : n ≤ of
      · rw [if_pos (Or.inr hon), dd_out hr hon]
      · rw [if_neg (show ¬ (of = p ∨ n ≤ of) by omega)]
  · have h2 : kd = 2 := (nIeq (by omega) (by decide)).mp h2
    subst h2
    exact iF (c_least hs hn hp hr) (by decide) (And.intro rfl rfl)
  · have h3 : kd = 3 := (nIeq (by omega) (by decide)).mp h3
    subst h3
    exact iF (c_most hs hn hp hr) (by decide) (And.intro rfl rfl)
  · have h : ¬ kd = 1 := fun z => h (by rw [z]; rfl)
    have h2 : ¬ kd = 2 := fun z => h2 (by rw [z]; rfl)
    have h3 : ¬ kd = 3 := fun z => h3 (by rw [z]; rfl)
    have h0 : kd = 0 := by omega
    subst h0
    exact And.intro rfl rfl
end SCE

/-! the class's calls over its persons' terms, third part -/
section CA3
variable {n : Nat} {l : Nat → Nat → Nat → Nat} {I : Sd → Prop} {c m : Sd}
theorem c_end (hH : CH n l I) (hc : I c) (x : Int32) : Ctr 6 71 [vR false 0 0, vI x] (c, m) (PQ I m (sEnd n l x)) := by
  obtain ⟨⟨h1, h6⟩, hl, hn, hal, -⟩ := id hH
  have hr6 := pow4_le h6
  refine ctr_ev 60 [17] rfl rfl (iF (c_within _ x 0 1) (by decide) (bI (fun hx => ?_) (fun hx => ?_)))
  · rw [bi_0] at hx
    refine pqi hc ?_
    rw [sEnd, if_neg hx]
  · rw [bi_0, Classical.not_not] at hx
    rw [sEnd, if_pos hx]
    have key : ∀ (j k : Nat) (b : Option Nat) (y a : Int32) (c : Sd), k + j = 4 ^ n → y = nI k → a = optI b → (∀ q, b = some q → q < 4 ^ n) → I c → endF (gd n l 0) (furS n x) (4 ^ n) 0 none = endF (gd n l 0) (furS n x) j k b → Go 6 71 none 17 [some (vR false 0 0), some (vI x), some (vI a), some (vI y)] [] (c, m) (PQ I m (optI (endF (gd n l 0) (furS n x) (4 ^ n) 0 none))) := by
      intro j
      induction j with
      | zero =>
        intro k b y a c hk hy ha hb hc hf
        refine go_ev 40 [17] (iF (c_rows h6 (hn c hc)) (by decide) (bT (by rw [hy, nIle (by omega) (by omega)]; omega) ?_))
        refine pqi hc ?_
        rw [hf, ha]
        rfl
      | succ j ih =>
        intro k b y a c hk hy ha hb hc hf
        subst hy ha
        refine go_ev 60 [17] (iF (c_rows h6 (hn c hc)) (by decide) (bF (by rw [nIle (by omega) (by omega)]; omega) ?_))
        refine iC (c_agrees hH hc (row := k) (s := 0) (by omega) (by decide)) (by decide) ?_
        rintro _ _ ⟨c2, rfl, hc2, rfl⟩
        refine bI (fun h => ?_) (fun h => ?_)
        · rw [bi_0] at h
          refine ih (k + 1) b _ _ c2 (by omega) (nI_succ k).symm rfl hb hc2 ?_
          rw [hf]
          simp only [endF]
          rw [if_neg (by simp [h])]
        · rw [bi_0, Classical.not_not] at h
          have hsome : ∀ q, some k = some q → q < 4 ^ n := fun q hq => by cases hq; omega
          refine bI (fun hb0 => ?_) (fun hb0 => ?_)
          · rw [optI_none (fun q hq => by have := hb q hq; omega)] at hb0
            subst hb0
            refine ih (k + 1) (some k) _ _ c2 (by omega) (nI_succ k).symm rfl hsome hc2 ?_
            rw [hf]
            simp only [endF]
            rw [if_pos (by simp [h])]
          · rw [optI_none (fun q hq => by have := hb q hq; omega)] at hb0
            obtain ⟨q, rfl⟩ := Option.ne_none_iff_exists'.mp hb0
            have hq := hb q rfl
            refine iF (c_sum _ (row := k) (by omega)) (by decide) ?_
            refine iF (c_sum _ (row := q) (by omega)) (by decide) ?_
            refine iF (c_isFurther _ _ _ _) (by decide) ?_
            have hs1 := sumK_n (row := k) (n := n) (by omega) 6 h6
            have hs2 := sumK_n (row := q) (n := n) hq 6 h6
            have hb1 := sumK_le k n
            have hb2 := sumK_le q n
            have hiff : (if x = 0 then nI (sumK q 6) < nI (sumK k 6) else nI (sumK k 6) < nI (sumK q 6)) ↔ furS n x k q = true := by
              unfold furS
              rw [hs1, hs2]
              split
              · rw [nIlt (by omega) (by omega), decide_eq_true_eq]
              · rw [nIlt (by omega) (by omega), decide_eq_true_eq]
            refine bI (fun hz => ?_) (fun hz => ?_)
            · rw [bi_0, hiff] at hz
              refine ih (k + 1) (some q) _ _ c2 (by omega) (nI_succ k).symm rfl hb hc2 ?_
              rw [hf]
              simp only [endF]
              rw [if_neg (by simp [h, hz])]
            · rw [bi_0, hiff, Classical.not_not] at hz
              refine ih (k + 1) (some k) _ _ c2 (by omega) (nI_succ k).symm rfl hsome hc2 ?_
              rw [hf]
              simp only [endF]
              rw [if_pos (by simp [h, hz])]
    exact key (4 ^ n) 0 none 0 (-1) c (by omega) rfl rfl (fun q hq => by cases hq) hc rfl
theorem c_sure (hH : CH n l I) (hc : I c) (s p : Int32) : Ctr 6 83 [vR false 0 0, vI s, vI p] (c, m) (PQ I m (sSure n l s p)) := by
  obtain ⟨⟨h1, h6⟩, hl, hn, -⟩ := id hH
  have h64 := pow2_le h6
  have hr6 := pow4_le h6
  refine ctr_ev 60 [31] rfl rfl (iF (c_hasAll h6 (hn c hc) s) (by decide) (bI (fun h => ?_) (fun h => ?_)))
  · rw [bi_0] at h
    refine pqi hc ?_
    rw [sSure, if_neg (fun z => h z.1)]
  · rw [bi_0, Classical.not_not] at h
    refine iF (c_has (hn c hc) p) (by decide) (bI (fun hp => ?_) (fun hp => ?_))
    · rw [bi_0] at hp
      refine pqi hc ?_
      rw [sSure, if_neg (fun z => hp z.2)]
    · rw [bi_0, Classical.not_not] at hp
      rw [sSure, if_pos ⟨h, hp⟩]
      obtain ⟨hk, he⟩ := clampP (pow2_pos n) (by omega) h
      obtain ⟨hk2, he2⟩ := clampP h1 (by omega) hp
      generalize tN s = t at hk he ⊢
      generalize tN p = q at hk2 he2 ⊢
      subst he he2
      have key : ∀ (j k : Nat) (b : Option Nat) (y a : Int32) (c : Sd), k + j = 4 ^ n → y = nI k → a = optI b → (∀ d, b = some d → d < 4) → I c → sureF (gd n l t) q (4 ^ n) 0 none = sureF (gd n l t) q j k b → Go 6 83 none 31 [some (vR false 0 0), some (vI (nI t)), some (vI (nI q)), some (vI a), some (vI y)] [] (c, m) (PQ I m (optI (sureF (gd n l t) q (4 ^ n) 0 none))) := by
        intro j
        induction j with
        | zero =>
          intro k b y a c hk hy ha hb hc hf
          refine go_ev 40 [31] (iF (c_rows h6 (hn c hc)) (by decide) (bT (by rw [hy, nIle (by omega) (by omega)]; omega) ?_))
          refine pqi hc ?_
          rw [hf, ha]
          rfl
        | succ j ih =>
          intro k b y a c hk hy ha hb hc hf
          subst hy ha
          have hdd := dd_lt k q
          refine go_ev 60 [31] (iF (c_rows h6 (hn c hc)) (by decide) (bF (by rw [nIle (by omega) (by omega)]; omega) ?_))
          refine iC (c_agrees hH hc (row := k) (s := t) (by omega) (by omega)) (by decide) ?_
          rintro _ _ ⟨c2, rfl, hc2, rfl⟩
          refine bI (fun h => ?_) (fun h => ?_)
          · rw [bi_0] at h
            refine ih (k + 1) b _ _ c2 (by omega) (nI_succ k).symm rfl hb hc2 ?_
            rw [hf]
            simp only [sureF]
            rw [if_neg h]
          · rw [bi_0, Classical.not_not] at h
            have hsome : ∀ d, some (dd k q) = some d → d < 4 := fun d hd => by cases hd; exact hdd
            refine bI (fun hb0 => ?_) (fun hb0 => ?_)
            · rw [optI_none (fun q hq => by have := hb q hq; omega)] at hb0
              subst hb0
              refine iF (c_deedN _ (by omega) (by omega)) (by decide) ?_
              refine ih (k + 1) (some (dd k q)) _ _ c2 (by omega) (nI_succ k).symm rfl hsome hc2 ?_
              rw [hf]
              simp only [sureF]
              rw [if_pos h, if_pos (Or.inl trivial)]
            · rw [optI_none (fun q hq => by have := hb q hq; omega)] at hb0
              obtain ⟨d, rfl⟩ := Option.ne_none_iff_exists'.mp hb0
              have hd := hb d rfl
              refine iF (c_deedN _ (by omega) (by omega)) (by decide) ?_
              refine bI (fun hz => ?_) (fun hz => ?_)
              · have hz : d = dd k q := (nIeq (by omega) (by omega)).mp hz
                refine iF (c_deedN _ (by omega) (by omega)) (by decide) ?_
                refine ih (k + 1) (some (dd k q)) _ _ c2 (by omega) (nI_succ k).symm rfl hsome hc2 ?_
                rw [hf]
                simp only [sureF]
                rw [if_pos h, if_pos (Or.inr (by rw [hz]))]
              · have hz : ¬ d = dd k q := fun z => hz ((nIeq (by omega) (by omega)).mpr z)
                refine pqi hc2 ?_
                rw [hf]
                simp only [sureF]
                rw [if_pos h, if_neg (by simp [hz])]
                rfl
      exact key (4 ^ n) 0 none 0 (-1) c (by omega) rfl rfl (fun q hq => by cases hq) hc rfl
theorem c_hangsOn (hH : CH n l I) (hc : I c) {p q row : Nat} (hp : p < n) (hq : q < n) (hr : row < 4 ^ n) : Ctr 4 59 [vR false 7 0, vI (nI p), vI (nI q), vI (nI row)] (c, m) (PQ I m (bi (hgOn l p q row = true))) := by
  obtain ⟨⟨h1, h6⟩, hl, hn, -, hao, -⟩ := id hH
  have hr6 := pow4_le h6
  have hnow := hl p row 9
  have key : ∀ (j k : Nat) (x : Int32) (c : Sd), k + j = 4 → x = nI k → I c → fst (fun d => l p (wdd row q d) 9 != l p row 9) 4 0 = fst (fun d => l p (wdd row q d) 9 != l p row 9) j k → Go 4 59 none 21 [some (vR false 7 0), some (vI (nI p)), some (vI (nI q)), some (vI (nI row)), some (vI (nI (l p row 9))), some (vI x)] [] (c, m) (PQ I m (bi (hgOn l p q row = true))) := by
    intro j
    induction j with
    | zero =>
      intro k x c hk hx hc hf
      subst hx
      refine go_ev 40 [21] (bT (by rw [show (3 : Int32) = nI 3 from rfl, nIlt (by decide) (by omega)]; omega) ?_)
      refine And.intro rfl (pqi hc ?_)
      rw [bi_f]
      unfold hgOn
      rw [hf]
      simp [fst]
    | succ j ih =>
      intro k x c hk hx hc hf
      subst hx
      refine go_ev 40 [21] (bF (by rw [show (3 : Int32) = nI 3 from rfl, nIlt (by decide) (by omega)]; omega) ?_)
      refine dI (vp6 (by omega)) ?_
      refine iF (c_withDeedN _ (by omega) (by omega) (by omega)) (by decide) ?_
      refine iC (hao c m hc p (wdd row q k) 9 hp (wdd_lt hr hq (by omega)) (by decide) (by decide)) (by decide) ?_
      rintro _ _ ⟨c2, rfl, hc2, rfl⟩
      have := hl p (wdd row q k) 9
      refine bI (fun h2 => ?_) (fun h2 => ?_)
      · rw [nIeq (by omega) (by omega)] at h2
        refine ih (k + 1) _ c2 (by omega) (nI_succ k).symm hc2 ?_
        rw [hf]
        simp [fst, h2]
      · rw [nIeq (by omega) (by omega)] at h2
        refine And.intro rfl (pqi hc2 ?_)
        rw [bi_t]
        unfold hgOn
        rw [hf]
        simp [fst, h2]
  refine ctr_ev 40 [21] rfl rfl (dI (vp6 (by omega)) ?_)
  refine iC (hao c m hc p row 9 hp hr (by decide) (by decide)) (by decide) ?_
  rintro _ _ ⟨c2, rfl, hc2, rfl⟩
  exact key 4 0 0 c2 rfl rfl hc2 rfl
theorem hgF_lt (l : Nat → Nat → Nat → Nat) (p row : Nat) : ∀ k, hgF l p row k < 2 ^ k := by
  intro k
  induction k with
  | zero => exact Nat.one_pos
  | succ k ih =>
    simp only [hgF, Nat.pow_succ]
    split <;> omega
theorem or_bit : ∀ k, k < 6 → ∀ a, a < 64 → a < 2 ^ k → nI a ||| ((1 : Int32) <<< (nI k &&& 31)) = nI (a + 2 ^ k) := by decide +kernel
theorem c_hangs (hH : CH n l I) (hown : ∀ p row day d, p < n → row < 4 ^ n → d < 4 → l p (wdd row p d) day = l p row day) (hc : I c) (p r : Int32) : Ctr 6 73 [vR false 0 0, vI p, vI r] (c, m) (PQ I m (sHangs n l p r)) := by
  obtain ⟨⟨h1, h6⟩, hl, hn, hal, -⟩ := id hH
  have hr6 := pow4_le h6
  refine ctr_ev 60 [35] rfl rfl (iF (c_has (hn c hc) p) (by decide) (bI (fun hp => ?_) (fun hp => ?_)))
  · rw [bi_0] at hp
    refine pqi hc ?_
    rw [sHangs, if_neg hp]
  · rw [bi_0, Classical.not_not] at hp
    rw [sHangs, if_pos hp]
    refine iF (c_hasRow h6 (hn c hc) r) (by decide) (bI (fun hr => ?_) (fun hr => ?_))
    · rw [bi_0] at hr
      refine pqi hc ?_
      rw [if_neg hr]
    · rw [bi_0, Classical.not_not] at hr
      rw [if_pos hr]
      obtain ⟨hk, he⟩ := clampP h1 (by omega) hp
      obtain ⟨hk2, he2⟩ := clampP (pow4_pos n) (by omega) hr
      generalize tN p = q at hk he ⊢
      generalize tN r = row at hk2 he2 ⊢
      subst he he2
      have hself : hgOn l q q row = false := by
        unfold hgOn
        rw [fst_no]
        · rfl
        · intro d _ hd
          simp [hown q row 9 d hk hk2 (by omega)]
      have key : ∀ (j k : Nat) (x a : Int32) (c : Sd), k + j = n → x = nI k → a = nI (hgF l q row k) → I c → Go 6 73 none 35 [some (vR false 0 0), some (vI (nI q)), some (vI (nI row)), some (vI a), some (vI x)] [] (c, m) (PQ I m (nI (hgF l q row n))) := by
        intro j
        induction j with
        | zero =>
          intro k x a c hk hx ha hc
          refine go_ev 40 [35] (bT (c := c.1 7 0 1 ≤ x) (by rw [hn c hc, hx, nIle (by omega) (by omega)]; omega) ?_)
          refine pqi hc ?_
          rw [ha, show k = n by omega]
        | succ j ih =>
          intro k x a c hk hx ha hc
          subst hx ha
          refine go_ev 40 [35] (bF (c := c.1 7 0 1 ≤ nI k) (by rw [hn c hc, nIle (by omega) (by omega)]; omega) ?_)
          refine iC (c_hangsOn hH hc (p := q) (q := k) (row := row) (by omega) (by omega) hk2) (by decide) ?_
          rintro _ _ ⟨c2, rfl, hc2, rfl⟩
          refine bI (fun h2 => ?_) (fun h2 => ?_)
          · rw [bi_0] at h2
            refine ih (k + 1) _ _ c2 (by omega) (nI_succ k).symm ?_ hc2
            simp [hgF, h2]
          · rw [bi_0, Classical.not_not] at h2
            have hkq : k ≠ q := fun z => by
              rw [z, hself] at h2
              cases h2
            refine ih (k + 1) _ _ c2 (by omega) (nI_succ k).symm ?_ hc2
            have hb := hgF_lt l q row k
            have hb2 : 2 ^ k ≤ 64 := pow2_le (by omega)
            rw [or_bit k (by omega) _ (by omega) hb]
            simp [hgF, h2, hkq]
      exact key n 0 0 0 c (by omega) rfl rfl hc
theorem c_nextDay (hH : CH n l I) (hc : I c) {row day : Nat} (hr : row < 4 ^ n) (hd1 : 1 ≤ day) (hd9 : day ≤ 9) : Ctr 4 61 [vR false 7 0, vI (nI row), vI (nI day)] (c, m) (PQ I m (nI (nday n l row day))) := by
  obtain ⟨⟨h1, h6⟩, hl, hn, hal, -⟩ := id hH
  have hr6 := pow4_le h6
  have hf4 : ∀ p, (fun p => max (dd row p) (l p row day)) p < 4 := fun p => by
    have := dd_lt row p
    have := hl p row day
    show max _ _ < 4
    omega
  have key : ∀ (j k : Nat) (x a : Int32) (c : Sd), k + j = n → x = nI k → a = nI (digs (fun p => max (dd row p) (l p row day)) k + row / 4 ^ k * 4 ^ k) → I c → Go 4 61 none 5 [some (vR false 7 0), some (vI (nI row)), some (vI (nI day)), some (vI a), some (vI x)] [] (c, m) (PQ I m (nI (nday n l row day))) := by
    intro j
    induction j with
    | zero =>
      intro k x a c hk hx ha hc
      refine go_ev 40 [5] (bT (c := c.1 7 0 1 ≤ x) (by rw [hn c hc, hx, nIle (by omega) (by omega)]; omega) ?_)
      refine pqi hc ?_
      rw [ha, show k = n by omega, Nat.div_eq_of_lt hr, Nat.zero_mul]
      rfl
    | succ j ih =>
      intro k x a c hk hx ha hc
      subst hx ha
      have hd := digs_lt hf4 k
      have hdd := dd_lt row k
      have hlk := hl k row day
      have hdm := Nat.div_mul_le_self row (4 ^ k)
      have hlt : digs (fun p => max (dd row p) (l p row day)) k + row / 4 ^ k * 4 ^ k < 4096 := by
        obtain ⟨i, hi⟩ : ∃ i, n = k + i := ⟨n - k, by omega⟩
        have e : 4 ^ n = 4 ^ k * 4 ^ i := by rw [hi, Nat.pow_add]
        have h3 : row / 4 ^ k < 4 ^ i := Nat.div_lt_of_lt_mul (by rw [← e]; exact hr)
        have h4 : (row / 4 ^ k + 1) * 4 ^ k ≤ 4 ^ i * 4 ^ k := Nat.mul_le_mul_right _ h3
        rw [Nat.add_mul, Nat.one_mul, Nat.mul_comm (4 ^ i), ← e] at h4
        omega
      refine go_ev 40 [5] (bF (c := c.1 7 0 1 ≤ nI k) (by rw [hn c hc, nIle (by omega) (by omega)]; omega) ?_)
      refine iF (c_deedN _ (by omega) (by omega)) (by decide) ?_
      refine dI (vp6 (by omega)) ?_
      refine iC (hal c m hc k row day (by omega) hr hd1 hd9) (by decide) ?_
      rintro _ _ ⟨c2, rfl, hc2, rfl⟩
      refine iF (c_maxN _ (by omega) (by omega)) (by decide) ?_
      refine iF (c_withDeedN _ hlt (by omega) (by omega)) (by decide) ?_
      refine ih (k + 1) _ _ c2 (by omega) (nI_succ k).symm ?_ hc2
      rw [mix_step hd]
      rfl
  refine ctr_ev 40 [5] rfl rfl ?_
  exact key n 0 0 (nI row) c (by omega) rfl (by simp [digs]) hc
theorem nday_lt {n : Nat} {l : Nat → Nat → Nat → Nat} (hl : ∀ p row day, l p row day < 4) (row day : Nat) : nday n l row day < 4 ^ n := digs_lt (fun p => by
  have := dd_lt row p
  have := hl p row day
  show max _ _ < 4
  omega) n
theorem byD_lt {n : Nat} {l : Nat → Nat → Nat → Nat} (hl : ∀ p row day, l p row day < 4) : ∀ d, byD n l d < 4 ^ n
  | 0 => pow4_pos n
  | d + 1 => nday_lt hl _ _
theorem c_byDay (hH : CH n l I) (hc : I c) (d : Int32) : Ctr 6 76 [vR false 0 0, vI d] (c, m) (PQ I m (sByDay n l d)) := by
  obtain ⟨⟨h1, h6⟩, hl, hn, hal, -⟩ := id hH
  have hr6 := pow4_le h6
  refine ctr_ev 60 [18] rfl rfl (iF (c_within _ d 0 9) (by decide) (bI (fun hd => ?_) (fun hd => ?_)))
  · rw [bi_0] at hd
    refine pqi hc ?_
    rw [sByDay, if_neg hd]
  · rw [bi_0, Classical.not_not] at hd
    rw [sByDay, if_pos hd]
    obtain ⟨hk3, hk4, he3⟩ := clampW (a := 0) (b := 9) (by decide) hd (by decide)
    generalize tN d = day at hk3 hk4 he3 ⊢
    subst he3
    have key : ∀ (j k : Nat) (x a : Int32) (c : Sd), k + j = day → x = nI (k + 1) → a = nI (byD n l k) → I c → Go 6 76 none 18 [some (vR false 0 0), some (vI (nI day)), some (vI a), some (vI x)] [] (c, m) (PQ I m (nI (byD n l day))) := by
      intro j
      induction j with
      | zero =>
        intro k x a c hk hx ha hc
        subst hx
        refine go_ev 40 [18] (bT (by rw [nIlt (by omega) (by omega)]; omega) ?_)
        refine pqi hc ?_
        rw [ha, show k = day by omega]
      | succ j ih =>
        intro k x a c hk hx ha hc
        subst hx ha
        refine go_ev 40 [18] (bF (by rw [nIlt (by omega) (by omega)]; omega) ?_)
        refine iC (c_nextDay hH hc (row := byD n l k) (day := k + 1) (byD_lt hl k) (by omega) (by omega)) (by decide) ?_
        rintro _ _ ⟨c2, rfl, hc2, rfl⟩
        exact ih (k + 1) _ _ c2 (by omega) (nI_succ (k + 1)).symm rfl hc2
    exact key day 0 1 0 c (by omega) rfl rfl hc
theorem c_dares (hH : CH n l I) (hc : I c) (p : Int32) : Ctr 6 77 [vR false 0 0, vI p] (c, m) (PQ I m (sDares n l p)) := by
  obtain ⟨⟨h1, h6⟩, hl, hn, hal, -⟩ := id hH
  have hr6 := pow4_le h6
  refine ctr_ev 60 [19] rfl rfl (iF (c_has (hn c hc) p) (by decide) (bI (fun hp => ?_) (fun hp => ?_)))
  · rw [bi_0] at hp
    refine pqi hc ?_
    rw [sDares, if_neg hp]
  · rw [bi_0, Classical.not_not] at hp
    rw [sDares, if_pos hp]
    obtain ⟨hk, he⟩ := clampP h1 (by omega) hp
    generalize tN p = q at hk he ⊢
    subst he
    have key : ∀ (j k : Nat) (x a : Int32) (c : Sd), k + j = 9 → x = nI (k + 1) → a = nI (byD n l k) → I c → fst (fun d => decide (0 < dd (byD n l d) q)) 9 1 = fst (fun d => decide (0 < dd (byD n l d) q)) j (k + 1) → Go 6 77 none 19 [some (vR false 0 0), some (vI (nI q)), some (vI a), some (vI x)] [] (c, m) (PQ I m (optI (fst (fun d => decide (0 < dd (byD n l d) q)) 9 1))) := by
      intro j
      induction j with
      | zero =>
        intro k x a c hk hx ha hc hf
        subst hx
        refine go_ev 40 [19] (bT (by rw [show (9 : Int32) = nI 9 from rfl, nIlt (by omega) (by omega)]; omega) ?_)
        refine pqi hc ?_
        rw [hf]
        rfl
      | succ j ih =>
        intro k x a c hk hx ha hc hf
        subst hx ha
        refine go_ev 40 [19] (bF (by rw [show (9 : Int32) = nI 9 from rfl, nIlt (by omega) (by omega)]; omega) ?_)
        refine iC (c_nextDay hH hc (row := byD n l k) (day := k + 1) (byD_lt hl k) (by omega) (by omega)) (by decide) ?_
        rintro _ _ ⟨c2, rfl, hc2, rfl⟩
        have hlt := nday_lt (n := n) hl (byD n l k) (k + 1)
        have hdd := dd_lt (nday n l (byD n l k) (k + 1)) q
        refine iF (c_deedN _ (by omega) (by omega)) (by decide) ?_
        refine bI (fun h2 => ?_) (fun h2 => ?_)
        · rw [show (0 : Int32) = nI 0 from rfl, nIle (by omega) (by decide)] at h2
          refine ih (k + 1) _ _ c2 (by omega) (nI_succ (k + 1)).symm rfl hc2 ?_
          rw [hf]
          simp only [fst]
          rw [if_neg]
          show ¬ decide (0 < dd (nday n l (byD n l k) (k + 1)) q) = true
          simp; omega
        · rw [show (0 : Int32) = nI 0 from rfl, nIle (by omega) (by decide)] at h2
          refine pqi hc2 ?_
          rw [hf]
          simp only [fst]
          rw [if_pos]
          · rfl
          · show decide (0 < dd (nday n l (byD n l k) (k + 1)) q) = true
            simp; omega
    exact key 9 0 1 0 c (by omega) rfl rfl hc rfl
end CA3

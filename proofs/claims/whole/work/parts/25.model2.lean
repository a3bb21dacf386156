/-! the model's calls, second part -/
theorem shl_mul {q : Nat} (hq : q < 6) (x : Int32) : x <<< ((2 * nI q) &&& 31) = x * nI (4 ^ q) := by
  apply Int32.toBitVec_inj.mp
  apply BitVec.eq_of_toNat_eq
  have h1 : 2 * nI q = nI (2 * q) := by rw [show (2 : Int32) = nI 2 from rfl, pk_mul]
  rw [h1, pk_shl _ _ (2 * q) (sh_l _ (by omega)), Int32.toBitVec_mul, BitVec.toNat_mul, pk_tn (n := 4 ^ q) (by
    have := pow4_le (n := q) (by omega)
    omega), Nat.pow_mul]
theorem dd_mul_le (row q : Nat) : dd row q * 4 ^ q ≤ row := by
  unfold dd
  exact Nat.le_trans (Nat.mul_le_mul_right _ (Nat.mod_le _ _)) (Nat.div_mul_le_self _ _)
theorem nI_put {row q d : Nat} (hq : q < 6) : nI row + (nI d - nI (dd row q)) <<< ((2 * nI q) &&& 31) = nI (wdd row q d) := by
  have h := dd_mul_le row q
  rw [shl_mul hq, Int32.sub_mul, pk_mul, pk_mul]
  unfold wdd
  rw [← nIadd]
  have e : nI row = nI (row - dd row q * 4 ^ q) + nI (dd row q * 4 ^ q) := by
    rw [nIadd]
    congr 1
    omega
  rw [e, Int32.add_assoc, Int32.add_comm (nI (dd row q * 4 ^ q)), Int32.sub_add_cancel]
theorem nI_dig {S v q : Nat} (hq : q < 6) : nI S + nI v <<< ((2 * nI q) &&& 31) = nI (S + v * 4 ^ q) := by
  rw [shl_mul hq, pk_mul, nIadd]
section MO2
variable {n : Nat} {l : Nat → Nat → Nat → Nat} {J : Sd → Prop} {c m : Sd}
theorem m_sumOf (h6 : n ≤ 6) (hn : m.1 0 0 0 = nI n) {row : Nat} (hr : row < 2 ^ 31) : Fn 1 136 [vR true 0 0, vI (nI row)] (c, m) (c, m) (some (vI (nI (sumK row n)))) := by
  have key : ∀ (j k : Nat) (p a : Int32), k + j = n → p = nI k → a = nI (sumK row k) → Go 1 136 none 4 [some (vR true 0 0), some (vI (nI row)), some (vI a), some (vI p)] [] (c, m) (fun w' r' => w' = (c, m) ∧ r' = some (vI (nI (sumK row n)))) := by
    intro j
    induction j with
    | zero =>
      intro k p a hk hp ha
      refine go_ev 20 [4] (bT (c := m.1 0 0 0 ≤ p) (by rw [hn, hp, nIle (by omega) (by omega)]; omega) (And.intro rfl ?_))
      rw [ha, show k = n by omega]
    | succ j ih =>
      intro k p a hk hp ha
      subst hp
      refine go_ev 20 [4] (bF (c := m.1 0 0 0 ≤ nI k) (by rw [hn, nIle (by omega) (by omega)]; omega) ?_)
      refine iF (m_deed _ hr (by omega)) (by decide) ?_
      exact ih (k + 1) _ _ (by omega) (nI_succ k).symm (by rw [ha, nIadd]; rfl)
  refine ctr_ev 20 [4] rfl rfl ?_
  exact key n 0 0 0 (by omega) rfl rfl
theorem m_end (hH : MH n l J) (hm : J m) (x : Int32) : Ctr 6 137 [vR true 0 0, vI x] (c, m) (PM J c (sEnd n l x)) := by
  obtain ⟨⟨h1, h6⟩, hl, hn, hle⟩ := id hH
  have hr6 := pow4_le h6
  refine ctr_ev 60 [18] rfl rfl (iF (m_in _ x 0 1) (by decide) (bI (fun hx => ?_) (fun hx => ?_)))
  · rw [bi_0] at hx
    refine mqi hm ?_
    rw [sEnd, if_neg hx]
  · rw [bi_0, Classical.not_not] at hx
    rw [sEnd, if_pos hx]
    have key : ∀ (j k : Nat) (b : Option Nat) (y a : Int32) (v4 : Option PV) (m : Sd), k + j = 4 ^ n → y = nI k → a = optI b → (∀ q, b = some q → q < 4 ^ n) → J m → endF (gd n l 0) (furS n x) (4 ^ n) 0 none = endF (gd n l 0) (furS n x) j k b → Go 6 137 none 18 [some (vR true 0 0), some (vI x), some (vI a), some (vI y), v4] [] (c, m) (PM J c (optI (endF (gd n l 0) (furS n x) (4 ^ n) 0 none))) := by
      intro j
      induction j with
      | zero =>
        intro k b y a v4 m hk hy ha hb hm hf
        refine go_ev 40 [18] (iF (m_allRows h6 (hn m hm)) (by decide) (bT (by rw [hy, nIle (by omega) (by omega)]; omega) ?_))
        refine mqi hm ?_
        rw [hf, ha]
        rfl
      | succ j ih =>
        intro k b y a v4 m hk hy ha hb hm hf
        subst hy ha
        refine go_ev 60 [18] (iF (m_allRows h6 (hn m hm)) (by decide) (bF (by rw [nIle (by omega) (by omega)]; omega) ?_))
        refine iC (m_notSo hH hm (row := k) (day := 9) (s := 0) (by omega) (by decide) (by decide) (by decide)) (by decide) ?_
        rintro _ _ ⟨m2, rfl, hm2, rfl⟩
        refine bI (fun h => ?_) (fun h => ?_)
        · rw [opt_ge (nb_lt h6)] at h
          have h : ¬ gd n l 0 k = true := fun z => gd_iff.mp z h
          refine ih (k + 1) b _ _ _ m2 (by omega) (nI_succ k).symm rfl hb hm2 ?_
          rw [hf]
          simp only [endF]
          rw [if_neg (by simp [h])]
        · rw [opt_ge (nb_lt h6)] at h
          have h := gd_iff.mpr h
          have hsome : ∀ q, some k = some q → q < 4 ^ n := fun q hq => by cases hq; omega
          have hb31 : ∀ q, b = some q → q < 2 ^ 31 := fun q hq => by have := hb q hq; omega
          refine bI (fun hb0 => ?_) (fun hb0 => ?_)
          · rw [opt_lt0 hb31] at hb0
            subst hb0
            refine bF (by decide) ?_
            refine ih (k + 1) (some k) _ _ _ m2 (by omega) (nI_succ k).symm rfl hsome hm2 ?_
            rw [hf]
            simp only [endF]
            rw [if_pos (by simp [h])]
          · rw [opt_lt0 hb31] at hb0
            obtain ⟨q, rfl⟩ := Option.ne_none_iff_exists'.mp hb0
            have hq := hb q rfl
            have hb1 := sumK_le k n
            have hb2 := sumK_le q n
            have hn2 := hn m2 hm2
            have yes : furS n x k q = true → Go 6 137 none 18 [some (vR true 0 0), some (vI x), some (vI (nI k)), some (vI (nI k + 1)), some (vI 1)] [] (c, m2) (PM J c (optI (endF (gd n l 0) (furS n x) (4 ^ n) 0 none))) := by
              intro hz
              refine ih (k + 1) (some k) _ _ _ m2 (by omega) (nI_succ k).symm rfl hsome hm2 ?_
              rw [hf]
              simp only [endF]
              rw [if_pos (by simp [h, hz])]
            have no : ¬ furS n x k q = true → Go 6 137 none 18 [some (vR true 0 0), some (vI x), some (vI (nI q)), some (vI (nI k + 1)), some (vI 0)] [] (c, m2) (PM J c (optI (endF (gd n l 0) (furS n x) (4 ^ n) 0 none))) := by
              intro hz
              refine ih (k + 1) (some q) _ _ _ m2 (by omega) (nI_succ k).symm rfl hb hm2 ?_
              rw [hf]
              simp only [endF]
              rw [if_neg (by simp [h, hz])]
            refine bI (fun hx0 => ?_) (fun hx0 => ?_)
            · refine iF (m_sumOf h6 hn2 (row := k) (by omega)) (by decide) ?_
              refine iF (m_sumOf h6 hn2 (row := q) (by omega)) (by decide) ?_
              refine bI (fun hz => ?_) (fun hz => ?_)
              · rw [nIle (by omega) (by omega)] at hz
                refine bT rfl (no ?_)
                unfold furS
                rw [if_pos hx0]
                simp; omega
              · rw [nIle (by omega) (by omega)] at hz
                refine bF (by decide) (yes ?_)
                unfold furS
                rw [if_pos hx0]
                simp; omega
            · refine iF (m_sumOf h6 hn2 (row := k) (by omega)) (by decide) ?_
              refine iF (m_sumOf h6 hn2 (row := q) (by omega)) (by decide) ?_
              refine bI (fun hz => ?_) (fun hz => ?_)
              · rw [nIle (by omega) (by omega)] at hz
                refine bT rfl (no ?_)
                unfold furS
                rw [if_neg hx0]
                simp; omega
              · rw [nIle (by omega) (by omega)] at hz
                refine bF (by decide) (yes ?_)
                unfold furS
                rw [if_neg hx0]
                simp; omega
    exact key (4 ^ n) 0 none 0 (-1) none m (by omega) rfl rfl (fun q hq => by cases hq) hm rfl
theorem m_sure (hH : MH n l J) (hm : J m) (s p : Int32) : Ctr 6 163 [vR true 0 0, vI s, vI p] (c, m) (PM J c (sSure n l s p)) := by
  obtain ⟨⟨h1, h6⟩, hl, hn, hle⟩ := id hH
  have h64 := pow2_le h6
  have hr6 := pow4_le h6
  refine ctr_ev 60 [25] rfl rfl (iF (m_noSet h6 (hn m hm) s) (by decide) (bI (fun h => ?_) (fun h => ?_)))
  · rw [bi_0, Classical.not_not] at h
    refine iF (m_noPerson (hn m hm) p) (by decide) (bI (fun hp => ?_) (fun hp => ?_))
    · rw [bi_0, Classical.not_not] at hp
      rw [sSure, if_pos ⟨h, hp⟩]
      obtain ⟨hk, he⟩ := clampP (pow2_pos n) (by omega) h
      obtain ⟨hk2, he2⟩ := clampP h1 (by omega) hp
      generalize tN s = t at hk he ⊢
      generalize tN p = q at hk2 he2 ⊢
      subst he he2
      have key : ∀ (j k : Nat) (b : Option Nat) (y a : Int32) (m : Sd), k + j = 4 ^ n → y = nI k → a = optI b → (∀ d, b = some d → d < 4) → J m → sureF (gd n l t) q (4 ^ n) 0 none = sureF (gd n l t) q j k b → Go 6 163 none 25 [some (vR true 0 0), some (vI (nI t)), some (vI (nI q)), some (vI a), some (vI y)] [] (c, m) (PM J c (optI (sureF (gd n l t) q (4 ^ n) 0 none))) := by
        intro j
        induction j with
        | zero =>
          intro k b y a m hk hy ha hb hm hf
          refine go_ev 40 [25] (iF (m_allRows h6 (hn m hm)) (by decide) (bT (by rw [hy, nIle (by omega) (by omega)]; omega) ?_))
          refine mqi hm ?_
          rw [hf, ha]
          rfl
        | succ j ih =>
          intro k b y a m hk hy ha hb hm hf
          subst hy ha
          have hdd := dd_lt k q
          have hb31 : ∀ q, b = some q → q < 2 ^ 31 := fun q hq => by have := hb q hq; omega
          refine go_ev 60 [25] (iF (m_allRows h6 (hn m hm)) (by decide) (bF (by rw [nIle (by omega) (by omega)]; omega) ?_))
          refine iC (m_notSo hH hm (row := k) (day := 9) (s := t) (by omega) (by decide) (by decide) (by omega)) (by decide) ?_
          rintro _ _ ⟨m2, rfl, hm2, rfl⟩
          refine bI (fun h => ?_) (fun h => ?_)
          · rw [opt_ge (nb_lt h6)] at h
            have h : ¬ gd n l t k = true := fun z => gd_iff.mp z h
            refine ih (k + 1) b _ _ m2 (by omega) (nI_succ k).symm rfl hb hm2 ?_
            rw [hf]
            simp only [sureF]
            rw [if_neg h]
          · rw [opt_ge (nb_lt h6)] at h
            have h := gd_iff.mpr h
            have hsome : ∀ d, some (dd k q) = some d → d < 4 := fun d hd => by cases hd; exact hdd
            refine bI (fun hb0 => ?_) (fun hb0 => ?_)
            · rw [opt_lt0 hb31] at hb0
              subst hb0
              refine iF (m_deed _ (by omega) (by omega)) (by decide) ?_
              refine ih (k + 1) (some (dd k q)) _ _ m2 (by omega) (nI_succ k).symm rfl hsome hm2 ?_
              rw [hf]
              simp only [sureF]
              rw [if_pos h, if_pos (Or.inl trivial)]
            · rw [opt_lt0 hb31] at hb0
              obtain ⟨d, rfl⟩ := Option.ne_none_iff_exists'.mp hb0
              have hd := hb d rfl
              refine iF (m_deed _ (by omega) (by omega)) (by decide) ?_
              refine bI (fun hz => ?_) (fun hz => ?_)
              · have hz : d = dd k q := (nIeq (by omega) (by omega)).mp hz
                refine iF (m_deed _ (by omega) (by omega)) (by decide) ?_
                refine ih (k + 1) (some (dd k q)) _ _ m2 (by omega) (nI_succ k).symm rfl hsome hm2 ?_
                rw [hf]
                simp only [sureF]
                rw [if_pos h, if_pos (Or.inr (by rw [hz]))]
              · have hz : ¬ d = dd k q := fun z => hz ((nIeq (by omega) (by omega)).mpr z)
                refine mqi hm2 ?_
                rw [hf]
                simp only [sureF]
                rw [if_pos h, if_neg (by simp [hz])]
                rfl
      exact key (4 ^ n) 0 none 0 (-1) m (by omega) rfl rfl (fun q hq => by cases hq) hm rfl
    · rw [bi_0, Classical.not_not] at hp
      refine mqi hm ?_
      rw [sSure, if_neg (fun z => hp z.2)]
  · rw [bi_0, Classical.not_not] at h
    refine mqi hm ?_
    rw [sSure, if_neg (fun z => h z.1)]
/-- what a row of slips leaves: the row and the person -/
def PSl (J : Sd → Prop) (c : Sd) (n : Nat) (l : Nat → Nat → Nat → Nat) (day p : Nat) : Wd → Option PV → Prop := fun w' r' => ∃ m' : Sd, w' = (c, m') ∧ J m' ∧ r' = some (vI (bi ((slR n l day p).isSome = true))) ∧ ∀ row, slR n l day p = some row → m'.1 0 0 41 = nI row ∧ m'.1 0 0 42 = optI (slB n l day p row)
theorem m_slips (hH : MH n l J) (hz : ∀ c m f x, f = 41 ∨ f = 42 → J m → J (sF (c, m) true 0 0 f x).2) (hm : J m) {p day : Nat} (hp : p < n) (hd1 : 1 ≤ day) (hd9 : day ≤ 9) : Ctr 4 130 [vR true 0 0, vI (nI p), vI (nI day)] (c, m) (PSl J c n l day p) := by
  obtain ⟨⟨h1, h6⟩, hl, hn, hle⟩ := id hH
  have hr6 := pow4_le h6
  have key : ∀ (j k : Nat) (x : Int32) (v4 v5 : Option PV) (m : Sd), k + j = 4 ^ n → x = nI k → J m → slR n l day p = fst (fun row => decide (dd row p = 0) && (slB n l day p row).isSome) j k → Go 4 130 none 2 [some (vR true 0 0), some (vI (nI p)), some (vI (nI day)), some (vI x), v4, v5] [] (c, m) (PSl J c n l day p) := by
    intro j
    induction j with
    | zero =>
      intro k x v4 v5 m hk hx hm hf
      refine go_ev 40 [2] (iF (m_allRows h6 (hn m hm)) (by decide) (bT (by rw [hx, nIle (by omega) (by omega)]; omega) ?_))
      refine And.intro rfl ⟨m, rfl, hm, ?_, fun row hrow => ?_⟩
      · rw [hf, bi_f (by simp [fst])]
      · rw [hf] at hrow
        cases hrow
    | succ j ih =>
      intro k x v4 v5 m hk hx hm hf
      subst hx
      have hdd := dd_lt k p
      refine go_ev 60 [2, 34] (iF (m_allRows h6 (hn m hm)) (by decide) (bF (by rw [nIle (by omega) (by omega)]; omega) ?_))
      refine iF (m_deed _ (by omega) (by omega)) (by decide) ?_
      have skip : ∀ (own : Int32) (q : Int32) (m : Sd), J m → ¬ dd k p = 0 → m.1 0 0 0 = nI n → ∀ y : Nat, q = nI y → y ≤ n → Go 4 130 none 34 [some (vR true 0 0), some (vI (nI p)), some (vI (nI day)), some (vI (nI k)), some (vI own), some (vI q)] [] (c, m) (PSl J c n l day p) := by
        intro own q m hm h0 hnm y hq hy
        subst hq
        have fin : Go 4 130 none 2 [some (vR true 0 0), some (vI (nI p)), some (vI (nI day)), some (vI (nI k + 1)), some (vI own), some (vI (nI y))] [] (c, m) (PSl J c n l day p) := by
          refine ih (k + 1) _ _ _ m (by omega) (nI_succ k).symm hm ?_
          rw [hf]
          simp [fst, h0]
        refine go_ev 40 [2, 34] (bI (c := m.1 0 0 0 ≤ nI y) (fun _ => fin) (fun _ => ?_))
        refine iF (m_deed _ (by omega) (by omega)) (by decide) ?_
        exact bF (by rw [show (0 : Int32) = nI 0 from rfl, nIeq (by omega) (by decide)]; exact h0) fin
      refine bI (fun h0 => ?_) (fun h0 => ?_)
      · rw [show (0 : Int32) = nI 0 from rfl, nIeq (by omega) (by decide)] at h0
        refine iC (hle c m hm p k day hp (by omega) hd1 hd9) (by decide) ?_
        rintro _ _ ⟨m2, rfl, hm2, rfl⟩
        have hnow := hl p k day
        have inner : ∀ (i q : Nat) (y : Int32) (m : Sd), q + i = n → y = nI q → J m → slB n l day p k = fst (fun q => q != p && (decide (dd k q < 3) && decide (l p (k + 4 ^ q) day < l p k day))) i q → Go 4 130 none 34 [some (vR true 0 0), some (vI (nI p)), some (vI (nI day)), some (vI (nI k)), some (vI (nI (l p k day))), some (vI y)] [] (c, m) (PSl J c n l day p) := by
          intro i
          induction i with
          | zero =>
            intro q y m hq hy hm hs
            refine go_ev 40 [2, 34] (bT (c := m.1 0 0 0 ≤ y) (by rw [hn m hm, hy, nIle (by omega) (by omega)]; omega) ?_)
            refine ih (k + 1) _ _ _ m (by omega) (nI_succ k).symm hm ?_
            rw [hf]
            have : slB n l day p k = none := hs
            simp [fst, this]
          | succ i ih2 =>
            intro q y m hq hy hm hs
            subst hy
            have hdq := dd_lt k q
            refine go_ev 60 [2, 34] (bF (c := m.1 0 0 0 ≤ nI q) (by rw [hn m hm, nIle (by omega) (by omega)]; omega) ?_)
            refine iF (m_deed _ (by omega) (by omega)) (by decide) ?_
            refine bT (by rw [h0]; rfl) ?_
            refine bI (fun h2 => ?_) (fun h2 => ?_)
            · rw [nIeq (by omega) (by omega)] at h2
              refine ih2 (q + 1) _ m (by omega) (nI_succ q).symm hm ?_
              rw [hs]
              simp [fst, h2]
            · rw [nIeq (by omega) (by omega)] at h2
              refine iF (m_deed _ (by omega) (by omega)) (by decide) ?_
              refine bI (fun h3 => ?_) (fun h3 => ?_)
              · rw [show (3 : Int32) = nI 3 from rfl, nIle (by decide) (by omega)] at h3
                refine ih2 (q + 1) _ m (by omega) (nI_succ q).symm hm ?_
                rw [hs]
                simp [fst, Nat.not_lt.mpr h3]
              · rw [show (3 : Int32) = nI 3 from rfl, nIle (by decide) (by omega)] at h3
                have hup := up_lt (row := k) (n := n) (q := q) (by omega) (by omega) (by omega)
                have hx := hle c m hm p (k + 4 ^ q) day hp hup hd1 hd9
                rw [← nIadd, ← nI_rows (n := q) (by omega)] at hx
                refine iC hx (by decide) ?_
                rintro _ _ ⟨m3, rfl, hm3, rfl⟩
                have := hl p (k + 4 ^ q) day
                refine bI (fun h4 => ?_) (fun h4 => ?_)
                · rw [nIle (by omega) (by omega)] at h4
                  refine ih2 (q + 1) _ m3 (by omega) (nI_succ q).symm hm3 ?_
                  rw [hs]
                  simp [fst, Nat.not_lt.mpr h4]
                · rw [nIle (by omega) (by omega)] at h4
                  have hq2 : slB n l day p k = some q := by
                    rw [hs]
                    simp only [fst]
                    rw [if_pos (by simp [h2]; omega)]
                  have hrk : slR n l day p = some k := by
                    rw [hf]
                    simp only [fst]
                    rw [if_pos (by simp [h0, hq2])]
                  refine And.intro rfl ⟨_, rfl, hz _ _ 42 _ (Or.inr rfl) (hz c m3 41 _ (Or.inl rfl) hm3), ?_, fun row hrow => ?_⟩
                  · rw [hrk, bi_t (show (some k).isSome = true from rfl)]
                  · rw [hrk] at hrow
                    cases hrow
                    rw [hq2]
                    exact ⟨rfl, rfl⟩
        exact inner n 0 0 m2 (by omega) rfl hm2 rfl
      · rw [show (0 : Int32) = nI 0 from rfl, nIeq (by omega) (by decide)] at h0
        exact skip 0 0 m hm h0 (hn m hm) 0 rfl (by omega)
  refine ctr_ev 40 [2] rfl rfl ?_
  exact key (4 ^ n) 0 0 none none m (by omega) rfl hm rfl
end MO2

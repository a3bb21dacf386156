/-! the model: its numbers, and its calls over what its terms let -/
theorem wide_lt (a b : Int32) : a.toInt64 < b.toInt64 ↔ a < b := by rw [Int64.lt_iff_toInt_lt, Int32.lt_iff_toInt_lt, Int32.toInt_toInt64, Int32.toInt_toInt64]
theorem m_in (w : Wd) (x lo hi : Int32) : Fn 0 92 [vL x.toInt64, vL lo.toInt64, vL hi.toInt64] w w (some (vI (bi (lo ≤ x ∧ x ≤ hi)))) := by
  refine ctr_ev 20 [] rfl rfl (bI (fun h1 => ?_) (fun h1 => bI (fun h2 => ?_) (fun h2 => ?_)))
  · rw [lg_cmp_lt, wide_lt] at h1
    exact And.intro rfl (And.intro rfl (by rw [bi_f (fun z => Int32.not_le.mpr h1 z.1)]))
  · rw [lg_cmp_gt, wide_lt] at h2
    exact And.intro rfl (And.intro rfl (by rw [bi_f (fun z => Int32.not_le.mpr h2 z.2)]))
  · rw [lg_cmp_lt, wide_lt] at h1
    rw [lg_cmp_gt, wide_lt] at h2
    exact And.intro rfl (And.intro rfl (by rw [bi_t ⟨Int32.not_lt.mp h1, Int32.not_lt.mp h2⟩]))
theorem m_one (w : Wd) (x : Int32) : Fn 0 93 [vI x] w w (some (vI (bi (¬ x = 0)))) := by
  refine ctr_ev 20 [] rfl rfl (bI (fun h => ?_) (fun h => ?_))
  · exact And.intro rfl (by rw [bi_f (fun z => z h)])
  · exact And.intro rfl (by rw [bi_t h])
theorem m_deed (w : Wd) {row p : Nat} (hr : row < 2 ^ 31) (hp : p < 6) : Fn 0 121 [vI (nI row), vI (nI p)] w w (some (vI (nI (dd row p)))) := by
  refine ctr_ev 20 [] rfl rfl (bF (nI_ge0 (by omega)) (bT ((nIlt (by omega) (by decide)).mpr hp) ?_))
  refine And.intro rfl ?_
  rw [nI_dd hr (by omega)]
def PM (J : Sd → Prop) (c : Sd) (r : Int32) : Wd → Option PV → Prop := fun w' r' => ∃ m' : Sd, w' = (c, m') ∧ J m' ∧ r' = some (vI r)
theorem mqi {J : Sd → Prop} {c m : Sd} {r r' : Int32} (hm : J m) (h : r' = r) : PM J c r (c, m) (some (vI r')) := ⟨m, rfl, hm, by rw [h]⟩
def MH (n : Nat) (l : Nat → Nat → Nat → Nat) (J : Sd → Prop) : Prop :=
  (1 ≤ n ∧ n ≤ 6) ∧ (∀ p row day, l p row day < 4) ∧ (∀ m, J m → m.1 0 0 0 = nI n) ∧
  (∀ c m, J m → ∀ p row day, p < n → row < 4 ^ n → 1 ≤ day → day ≤ 9 → Ctr 3 125 [vR true 0 0, vI (nI p), vI (nI row), vI (nI day)] (c, m) (PM J c (nI (l p row day))))
section MO1
variable {n : Nat} {l : Nat → Nat → Nat → Nat} {J : Sd → Prop} {c m : Sd}
theorem m_noPerson (hn : m.1 0 0 0 = nI n) (x : Int32) : Fn 1 96 [vR true 0 0, vI x] (c, m) (c, m) (some (vI (bi (¬ inP n x)))) := by
  have h : Fn 0 92 [vL x.toInt64, vL (0 : Int32).toInt64, vL (m.1 0 0 0 - 1).toInt64] (c, m) (c, m) (some (vI (bi (inP n x)))) := by
    rw [hn]
    exact m_in _ _ _ _
  refine ctr_ev 20 [] rfl rfl (iF h (by decide) (bI (fun h => ?_) (fun h => ?_)))
  · rw [bi_0] at h
    exact And.intro rfl (And.intro rfl (by rw [bi_t h]))
  · rw [bi_0] at h
    exact And.intro rfl (And.intro rfl (by rw [bi_f h]))
theorem m_allRows (h6 : n ≤ 6) (hn : m.1 0 0 0 = nI n) : Fn 0 97 [vR true 0 0] (c, m) (c, m) (some (vI (nI (4 ^ n)))) := by
  have h : Fn 0 97 [vR true 0 0] (c, m) (c, m) (some (vI ((1 : Int32) <<< ((2 * m.1 0 0 0) &&& 31)))) := ctr_ev 20 [] rfl rfl (And.intro rfl rfl)
  rw [hn, nI_rows h6] at h
  exact h
theorem m_noRow (h6 : n ≤ 6) (hn : m.1 0 0 0 = nI n) (x : Int32) : Fn 1 98 [vR true 0 0, vI x] (c, m) (c, m) (some (vI (bi (¬ inR n x)))) := by
  refine ctr_ev 20 [] rfl rfl (iF (m_allRows h6 hn) (by decide) (iF (m_in _ _ _ _) (by decide) (bI (fun h => ?_) (fun h => ?_))))
  · rw [bi_0] at h
    exact And.intro rfl (And.intro rfl (by rw [bi_t h]))
  · rw [bi_0] at h
    exact And.intro rfl (And.intro rfl (by rw [bi_f h]))
theorem m_isDay (w : Wd) (x : Int32) : Fn 1 99 [vI x] w w (some (vI (bi (inW 1 9 x)))) :=
  ctr_ev 20 [] rfl rfl (iF (m_in _ x 1 9) (by decide) (And.intro zok_bi (And.intro rfl rfl)))
theorem m_isGoal (w : Wd) (x : Int32) : Fn 1 156 [vI x] w w (some (vI (bi (inW 1 500 x)))) :=
  ctr_ev 20 [] rfl rfl (iF (m_in _ x 1 500) (by decide) (And.intro zok_bi (And.intro rfl rfl)))
theorem m_noSet (h6 : n ≤ 6) (hn : m.1 0 0 0 = nI n) (x : Int32) : Fn 1 161 [vR true 0 0, vI x] (c, m) (c, m) (some (vI (bi (¬ inS n x)))) := by
  have h : Fn 0 92 [vL x.toInt64, vL (0 : Int32).toInt64, vL (((1 : Int32) <<< (m.1 0 0 0 &&& 31)) - 1).toInt64] (c, m) (c, m) (some (vI (bi (inS n x)))) := by
    rw [hn, nI_sets h6]
    exact m_in _ _ _ _
  refine ctr_ev 20 [] rfl rfl (iF h (by decide) (bI (fun h => ?_) (fun h => ?_)))
  · rw [bi_0] at h
    exact And.intro rfl (And.intro rfl (by rw [bi_t h]))
  · rw [bi_0] at h
    exact And.intro rfl (And.intro rfl (by rw [bi_f h]))
theorem m_notSo (hH : MH n l J) (hm : J m) {row day s : Nat} (hr : row < 4 ^ n) (hd1 : 1 ≤ day) (hd9 : day ≤ 9) (hs : s < 2 ^ 31) : Ctr 4 132 [vR true 0 0, vI (nI row), vI (nI day), vI (nI s)] (c, m) (PM J c (optI (fst (badA l day row s) n 0))) := by
  obtain ⟨⟨h1, h6⟩, hl, hn, hle⟩ := id hH
  have hr6 := pow4_le h6
  have key : ∀ (j k : Nat) (x : Int32) (m : Sd), k + j = n → x = nI k → J m → fst (badA l day row s) n 0 = fst (badA l day row s) j k → Go 4 132 none 3 [some (vR true 0 0), some (vI (nI row)), some (vI (nI day)), some (vI (nI s)), some (vI x)] [] (c, m) (PM J c (optI (fst (badA l day row s) n 0))) := by
    intro j
    induction j with
    | zero =>
      intro k x m hk hx hm hf
      refine go_ev 30 [3] (bT (c := m.1 0 0 0 ≤ x) (by rw [hn m hm, hx, nIle (by omega) (by omega)]; omega) ?_)
      refine mqi hm ?_
      rw [hf]
      rfl
    | succ j ih =>
      intro k x m hk hx hm hf
      subst hx
      refine go_ev 30 [3] (bF (c := m.1 0 0 0 ≤ nI k) (by rw [hn m hm, nIle (by omega) (by omega)]; omega) ?_)
      have hbit := nI_bit (s := s) (p := k) hs (by omega)
      refine bI (c := (nI s >>> (nI k &&& 31)) &&& 1 = 0) (fun h => ?_) (fun h => ?_)
      · have h : ¬ s.testBit k = true := by
          rw [hbit, show (0 : Int32) = nI 0 from rfl, nIeq (by omega) (by decide)] at h
          rw [Nat.testBit_eq_decide_div_mod_eq, decide_eq_true_eq]
          omega
        refine iF (m_deed _ (by omega) (by omega)) (by decide) ?_
        refine iC (hle c m hm k row day (by omega) hr hd1 hd9) (by decide) ?_
        rintro _ _ ⟨m', rfl, hm', rfl⟩
        have := hl k row day
        have := dd_lt row k
        refine bI (fun h2 => ?_) (fun h2 => ?_)
        · rw [nIeq (by omega) (by omega)] at h2
          refine ih (k + 1) _ m' (by omega) (nI_succ k).symm hm' ?_
          rw [hf]
          simp [fst, badA, h2]
        · rw [nIeq (by omega) (by omega)] at h2
          refine mqi hm' ?_
          rw [hf]
          simp [fst, badA, h, h2, optI]
      · have h : s.testBit k = true := by
          rw [hbit, show (0 : Int32) = nI 0 from rfl, nIeq (by omega) (by decide)] at h
          rw [Nat.testBit_eq_decide_div_mod_eq, decide_eq_true_eq]
          omega
        refine ih (k + 1) _ m (by omega) (nI_succ k).symm hm ?_
        rw [hf]
        simp [fst, badA, h]
  refine ctr_ev 30 [3] rfl rfl ?_
  exact key n 0 0 m (by omega) rfl hm rfl
theorem opt_ge {o : Option Nat} (h : ∀ k, o = some k → k < 2 ^ 31) : (0 : Int32) ≤ optI o ↔ o.isSome = true := by
  cases o with
  | none => exact ⟨fun z => absurd z (by decide), fun z => by cases z⟩
  | some k => exact ⟨fun _ => rfl, fun _ => nI_pos' (h k rfl)⟩
theorem opt_lt0 {o : Option Nat} (h : ∀ k, o = some k → k < 2 ^ 31) : optI o < 0 ↔ o = none := by
  cases o with
  | none => exact ⟨fun _ => rfl, fun _ => by decide⟩
  | some k => exact ⟨fun z => absurd z (nI_pos (h k rfl)), fun z => by cases z⟩
theorem nb_lt {n : Nat} {l : Nat → Nat → Nat → Nat} (h6 : n ≤ 6) {day row s : Nat} : ∀ k, fst (badA l day row s) n 0 = some k → k < 2 ^ 31 := fun k h => by
  have := fst_lt _ _ _ h
  omega
theorem gd_iff {n : Nat} {l : Nat → Nat → Nat → Nat} {s row : Nat} : gd n l s row = true ↔ ¬ (fst (badA l 9 row s) n 0).isSome = true := by
  unfold gd
  cases fst (badA l 9 row s) n 0 <;> simp
theorem m_mayBe (hH : MH n l J) (hm : J m) {s : Nat} (hs : s < 2 ^ 31) (i : Int32) : Ctr 5 134 [vR true 0 0, vI (nI s), vI i] (c, m) (PM J c (sMay n l s i)) := by
  obtain ⟨⟨h1, h6⟩, hl, hn, hle⟩ := id hH
  have hr6 := pow4_le h6
  have key : ∀ (j k f : Nat) (x a : Int32) (m : Sd), k + j = 4 ^ n → x = nI k → a = nI f → J m → sMay n l s i = mayF (gd n l s) i j k f → Go 5 134 none 5 [some (vR true 0 0), some (vI (nI s)), some (vI i), some (vI a), some (vI x)] [] (c, m) (PM J c (sMay n l s i)) := by
    intro j
    induction j with
    | zero =>
      intro k f x a m hk hx ha hm he
      refine go_ev 30 [5] (iF (m_allRows h6 (hn m hm)) (by decide) (bT (by rw [hx, nIle (by omega) (by omega)]; omega) ?_))
      refine bI (fun h => ?_) (fun h => ?_)
      · refine mqi hm ?_
        rw [he, ha]
        simp only [mayF, if_pos h]
      · refine mqi hm ?_
        rw [he]
        simp only [mayF, if_neg h]
    | succ j ih =>
      intro k f x a m hk hx ha hm he
      subst hx ha
      simp only [mayF] at he
      refine go_ev 40 [5] (iF (m_allRows h6 (hn m hm)) (by decide) (bF (by rw [nIle (by omega) (by omega)]; omega) ?_))
      refine iC (m_notSo hH hm (row := k) (day := 9) (by omega) (by decide) (by decide) hs) (by decide) ?_
      rintro _ _ ⟨m', rfl, hm', rfl⟩
      refine bI (fun h => ?_) (fun h => ?_)
      · rw [opt_ge (nb_lt h6)] at h
        rw [if_neg (fun z => gd_iff.mp z h)] at he
        exact ih (k + 1) f _ _ m' (by omega) (nI_succ k).symm rfl hm' he
      · rw [opt_ge (nb_lt h6)] at h
        rw [if_pos (gd_iff.mpr h)] at he
        refine bI (fun h2 => ?_) (fun h2 => ?_)
        · rw [if_pos h2] at he
          exact mqi hm' he.symm
        · rw [if_neg h2] at he
          exact ih (k + 1) (f + 1) _ _ m' (by omega) (nI_succ k).symm (nI_succ f).symm hm' he
  refine ctr_ev 30 [5] rfl rfl ?_
  exact key (4 ^ n) 0 0 0 0 m (by omega) rfl rfl hm rfl
theorem m_settled (hH : MH n l J) (hm : J m) (i : Int32) : Ctr 6 135 [vR true 0 0, vI i] (c, m) (PM J c (sMay n l 0 i)) := by
  refine ctr_ev 30 [] rfl rfl (iC (m_mayBe hH hm (s := 0) (by decide) i) (by decide) ?_)
  rintro _ _ ⟨m', rfl, hm', rfl⟩
  exact mqi hm' rfl
theorem m_possible (hH : MH n l J) (hm : J m) (s i : Int32) : Ctr 6 162 [vR true 0 0, vI s, vI i] (c, m) (PM J c (sPossible n l s i)) := by
  obtain ⟨⟨h1, h6⟩, hl, hn, -⟩ := id hH
  have h64 := pow2_le h6
  refine ctr_ev 40 [] rfl rfl (iF (m_noSet h6 (hn m hm) s) (by decide) (bI (fun h => ?_) (fun h => ?_)))
  · rw [bi_0, Classical.not_not] at h
    obtain ⟨hk, he⟩ := clampP (pow2_pos n) (by omega) h
    rw [sPossible, if_pos h]
    generalize tN s = k at hk he ⊢
    subst he
    refine iC (m_mayBe hH hm (s := k) (by omega) i) (by decide) ?_
    rintro _ _ ⟨m', rfl, hm', rfl⟩
    exact mqi hm' rfl
  · rw [bi_0, Classical.not_not] at h
    refine mqi hm ?_
    rw [sPossible, if_neg h]
theorem and_bit : ∀ s, s < 64 → ∀ p, p < 6 → s.testBit p = true → nI s &&& (((1 : Int32) <<< (nI p &&& 31)) ^^^ (-1)) = nI (s - 2 ^ p) := by decide +kernel
theorem m_telling (hH : MH n l J) (hm : J m) (s p : Int32) : Ctr 6 164 [vR true 0 0, vI s, vI p] (c, m) (PM J c (sTelling n l s p)) := by
  obtain ⟨⟨h1, h6⟩, hl, hn, -⟩ := id hH
  have h64 := pow2_le h6
  refine ctr_ev 60 [] rfl rfl (iF (m_noSet h6 (hn m hm) s) (by decide) (bI (fun h => ?_) (fun h => ?_)))
  · rw [bi_0, Classical.not_not] at h
    refine iF (m_noPerson (hn m hm) p) (by decide) (bI (fun hp => ?_) (fun hp => ?_))
    · rw [bi_0, Classical.not_not] at hp
      rw [sTelling, if_pos ⟨h, hp⟩]
      obtain ⟨hk, he⟩ := clampP (pow2_pos n) (by omega) h
      obtain ⟨hk2, he2⟩ := clampP h1 (by omega) hp
      generalize tN s = k at hk he ⊢
      generalize tN p = q at hk2 he2 ⊢
      subst he he2
      have hbit := nI_bit (s := k) (p := q) (by omega) (by omega)
      refine bI (c := (nI k >>> (nI q &&& 31)) &&& 1 = 0) (fun hb => ?_) (fun hb => ?_)
      · have hb : ¬ k.testBit q = true := by
          rw [hbit, show (0 : Int32) = nI 0 from rfl, nIeq (by omega) (by decide)] at hb
          rw [Nat.testBit_eq_decide_div_mod_eq, decide_eq_true_eq]
          omega
        refine mqi hm ?_
        rw [if_neg hb]
      · have hb : k.testBit q = true := by
          rw [hbit, show (0 : Int32) = nI 0 from rfl, nIeq (by omega) (by decide)] at hb
          rw [Nat.testBit_eq_decide_div_mod_eq, decide_eq_true_eq]
          omega
        rw [if_pos hb]
        refine iC (m_mayBe hH hm (s := k) (by omega) (-1)) (by decide) ?_
        rintro _ _ ⟨m', rfl, hm', rfl⟩
        have hx := m_mayBe (c := c) hH hm' (s := k - 2 ^ q) (Nat.lt_of_le_of_lt (Nat.sub_le _ _) (by omega)) (-1)
        rw [← and_bit k (by omega) q (by omega) hb] at hx
        refine iC hx (by decide) ?_
        rintro _ _ ⟨m2, rfl, hm2, rfl⟩
        exact mqi hm2 rfl
    · rw [bi_0, Classical.not_not] at hp
      refine mqi hm ?_
      rw [sTelling, if_neg (fun z => hp z.2)]
  · rw [bi_0, Classical.not_not] at h
    refine mqi hm ?_
    rw [sTelling, if_neg (fun z => h z.1)]
theorem m_lets (hH : MH n l J) (hm : J m) (p r d : Int32) : Ctr 6 126 [vR true 0 0, vI p, vI r, vI d] (c, m) (PM J c (sLets n l p r d)) := by
  obtain ⟨⟨h1, h6⟩, hl, hn, hle⟩ := id hH
  have hr6 := pow4_le h6
  refine ctr_ev 60 [] rfl rfl (iF (m_noPerson (hn m hm) p) (by decide) (bI (fun hp => ?_) (fun hp => ?_)))
  · rw [bi_0, Classical.not_not] at hp
    rw [sLets, if_pos hp]
    refine iF (m_noRow h6 (hn m hm) r) (by decide) (bI (fun hr => ?_) (fun hr => ?_))
    · rw [bi_0, Classical.not_not] at hr
      refine iF (m_isDay _ d) (by decide) (bI (fun hd => ?_) (fun hd => ?_))
      · rw [bi_0] at hd
        refine mqi hm ?_
        rw [if_neg (fun z => hd z.2)]
      · rw [bi_0, Classical.not_not] at hd
        rw [if_pos ⟨hr, hd⟩]
        obtain ⟨hk, he⟩ := clampP h1 (by omega) hp
        obtain ⟨hk2, he2⟩ := clampP (pow4_pos n) (by omega) hr
        obtain ⟨hk3, hk4, he3⟩ := clampW (a := 1) (b := 9) (by decide) hd (by decide)
        generalize tN p = q at hk he ⊢
        generalize tN r = row at hk2 he2 ⊢
        generalize tN d = day at hk3 hk4 he3 ⊢
        subst he he2 he3
        refine iC (hle c m hm q row day hk hk2 hk3 hk4) (by decide) ?_
        rintro _ _ ⟨m2, rfl, hm2, rfl⟩
        exact mqi hm2 rfl
    · rw [bi_0, Classical.not_not] at hr
      refine mqi hm ?_
      rw [if_neg (fun z => hr z.1)]
  · rw [bi_0, Classical.not_not] at hp
    refine mqi hm ?_
    rw [sLets, if_neg hp]
theorem m_judge (hH : MH n l J) (hm : J m) (r d : Int32) : Ctr 6 133 [vR true 0 0, vI r, vI d] (c, m) (PM J c (sJudge n l r d)) := by
  obtain ⟨⟨h1, h6⟩, hl, hn, hle⟩ := id hH
  have hr6 := pow4_le h6
  refine ctr_ev 60 [] rfl rfl (iF (m_noRow h6 (hn m hm) r) (by decide) (bI (fun hr => ?_) (fun hr => ?_)))
  · rw [bi_0, Classical.not_not] at hr
    refine iF (m_isDay _ d) (by decide) (bI (fun hd => ?_) (fun hd => ?_))
    · rw [bi_0] at hd
      refine mqi hm ?_
      rw [sJudge, if_neg (fun z => hd z.2)]
    · rw [bi_0, Classical.not_not] at hd
      rw [sJudge, if_pos ⟨hr, hd⟩]
      obtain ⟨hk2, he2⟩ := clampP (pow4_pos n) (by omega) hr
      obtain ⟨hk3, hk4, he3⟩ := clampW (a := 1) (b := 9) (by decide) hd (by decide)
      generalize tN r = row at hk2 he2 ⊢
      generalize tN d = day at hk3 hk4 he3 ⊢
      subst he2 he3
      refine iC (m_notSo hH hm (s := 0) hk2 hk3 hk4 (by decide)) (by decide) ?_
      rintro _ _ ⟨m2, rfl, hm2, rfl⟩
      exact mqi hm2 rfl
  · rw [bi_0, Classical.not_not] at hr
    refine mqi hm ?_
    rw [sJudge, if_neg (fun z => hr z.1)]
end MO1

/-! the class's calls over its persons' terms, first part -/
section CA1
variable {n : Nat} {l : Nat → Nat → Nat → Nat} {I : Sd → Prop} {c m : Sd}
theorem pqi {I : Sd → Prop} {c m : Sd} {r r' : Int32} (hc : I c) (h : r' = r) : PQ I m r (c, m) (some (vI r')) := ⟨c, rfl, hc, by rw [h]⟩
theorem c_possibles (hH : CH n l I) (hc : I c) {s : Nat} (hs : s < 2 ^ 31) : Ctr 5 57 [vR false 7 0, vI (nI s)] (c, m) (PQ I m (sMay n l s (-1))) := by
  obtain ⟨⟨h1, h6⟩, hl, hn, -⟩ := id hH
  have hr6 := pow4_le h6
  have key : ∀ (j k f : Nat) (x a : Int32) (c : Sd), k + j = 4 ^ n → x = nI k → a = nI f → f ≤ k → I c → sMay n l s (-1) = mayF (gd n l s) (-1) j k f → Go 5 57 none 4 [some (vR false 7 0), some (vI (nI s)), some (vI a), some (vI x)] [] (c, m) (PQ I m (sMay n l s (-1))) := by
    intro j
    induction j with
    | zero =>
      intro k f x a c hk hx ha hfk hc he
      refine go_ev 30 [4] (iF (c_rows h6 (hn c hc)) (by decide) (bT (by rw [hx, nIle (by omega) (by omega)]; omega) ?_))
      refine pqi hc ?_
      rw [he, ha]
      rfl
    | succ j ih =>
      intro k f x a c hk hx ha hfk hc he
      subst hx ha
      refine go_ev 30 [4] (iF (c_rows h6 (hn c hc)) (by decide) (bF (by rw [nIle (by omega) (by omega)]; omega) ?_))
      refine iC (c_agrees hH hc (row := k) (by omega) hs) (by decide) ?_
      rintro _ _ ⟨c', rfl, hc', rfl⟩
      rw [mayF_m1 _ _ _ (by omega)] at he
      refine bI (fun h => ?_) (fun h => ?_)
      · rw [bi_0] at h
        rw [if_neg h] at he
        exact ih (k + 1) f _ _ c' (by omega) (nI_succ k).symm rfl (by omega) hc' he
      · rw [bi_0, Classical.not_not] at h
        rw [if_pos h] at he
        exact ih (k + 1) (f + 1) _ _ c' (by omega) (nI_succ k).symm (nI_succ f).symm (by omega) hc' he
  refine ctr_ev 30 [4] rfl rfl ?_
  exact key (4 ^ n) 0 0 0 0 c (by omega) rfl rfl (by omega) hc rfl
theorem c_possibleAt (hH : CH n l I) (hc : I c) {s : Nat} (hs : s < 2 ^ 31) {i : Int32} (hi : i ≠ -1) : Ctr 5 58 [vR false 7 0, vI (nI s), vI i] (c, m) (PQ I m (sMay n l s i)) := by
  obtain ⟨⟨h1, h6⟩, hl, hn, -⟩ := id hH
  have hr6 := pow4_le h6
  have key : ∀ (j k f : Nat) (x a : Int32) (c : Sd), k + j = 4 ^ n → x = nI k → a = nI f → f ≤ k → I c → sMay n l s i = mayF (gd n l s) i j k f → Go 5 58 none 5 [some (vR false 7 0), some (vI (nI s)), some (vI i), some (vI a), some (vI x)] [] (c, m) (PQ I m (sMay n l s i)) := by
    intro j
    induction j with
    | zero =>
      intro k f x a c hk hx ha hfk hc he
      refine go_ev 30 [5] (iF (c_rows h6 (hn c hc)) (by decide) (bT (by rw [hx, nIle (by omega) (by omega)]; omega) ?_))
      refine pqi hc ?_
      rw [he]
      simp only [mayF, if_neg hi]
    | succ j ih =>
      intro k f x a c hk hx ha hfk hc he
      subst hx ha
      refine go_ev 30 [5] (iF (c_rows h6 (hn c hc)) (by decide) (bF (by rw [nIle (by omega) (by omega)]; omega) ?_))
      refine bI (fun h => ?_) (fun h => ?_)
      · refine pqi hc ?_
        rw [he, mayF_low hi _ _ _ (by omega) h]
      refine iC (c_agrees hH hc (row := k) (by omega) hs) (by decide) ?_
      rintro _ _ ⟨c', rfl, hc', rfl⟩
      simp only [mayF] at he
      refine bI (fun h => ?_) (fun h => ?_)
      · rw [bi_0] at h
        rw [if_neg h] at he
        exact ih (k + 1) f _ _ c' (by omega) (nI_succ k).symm rfl (by omega) hc' he
      · rw [bi_0, Classical.not_not] at h
        rw [if_pos h] at he
        refine bI (fun h2 => ?_) (fun h2 => ?_)
        · rw [if_pos h2] at he
          exact pqi hc' he.symm
        · rw [if_neg h2] at he
          exact ih (k + 1) (f + 1) _ _ c' (by omega) (nI_succ k).symm (nI_succ f).symm (by omega) hc' he
  refine ctr_ev 30 [5] rfl rfl ?_
  exact key (4 ^ n) 0 0 0 0 c (by omega) rfl rfl (by omega) hc rfl
theorem c_settled (hH : CH n l I) (hc : I c) (i : Int32) : Ctr 6 70 [vR false 0 0, vI i] (c, m) (PQ I m (sMay n l 0 i)) := by
  refine ctr_ev 30 [] rfl rfl (bI (fun h => ?_) (fun h => ?_))
  · subst h
    refine iC (c_possibles hH hc (s := 0) (by decide)) (by decide) ?_
    rintro _ _ ⟨c', rfl, hc', rfl⟩
    exact pqi hc' rfl
  · refine iC (c_possibleAt hH hc (s := 0) (by decide) h) (by decide) ?_
    rintro _ _ ⟨c', rfl, hc', rfl⟩
    exact pqi hc' rfl
theorem pow2_le {n : Nat} (h : n ≤ 6) : 2 ^ n ≤ 64 := by
  have := Nat.pow_le_pow_right (n := 2) (by decide) h
  simpa using this
theorem pow2_pos (n : Nat) : 1 ≤ 2 ^ n := Nat.pow_pos (by decide)
theorem c_possible (hH : CH n l I) (hc : I c) (s i : Int32) : Ctr 6 82 [vR false 0 0, vI s, vI i] (c, m) (PQ I m (sPossible n l s i)) := by
  obtain ⟨⟨h1, h6⟩, hl, hn, -⟩ := id hH
  have h64 := pow2_le h6
  refine ctr_ev 40 [] rfl rfl (iF (c_hasAll h6 (hn c hc) s) (by decide) (bI (fun h => ?_) (fun h => ?_)))
  · rw [bi_0] at h
    refine pqi hc ?_
    rw [sPossible, if_neg h]
  · rw [bi_0, Classical.not_not] at h
    obtain ⟨hk, he⟩ := clampP (pow2_pos n) (by omega) h
    rw [sPossible, if_pos h]
    generalize tN s = k at hk he ⊢
    subst he
    refine bI (fun hi => ?_) (fun hi => ?_)
    · subst hi
      refine iC (c_possibles hH hc (s := k) (by omega)) (by decide) ?_
      rintro _ _ ⟨c', rfl, hc', rfl⟩
      exact pqi hc' rfl
    · refine iC (c_possibleAt hH hc (s := k) (by omega) hi) (by decide) ?_
      rintro _ _ ⟨c', rfl, hc', rfl⟩
      exact pqi hc' rfl
theorem xor_bit : ∀ s, s < 64 → ∀ p, p < 6 → s.testBit p = true → nI s ^^^ ((1 : Int32) <<< (nI p &&& 31)) = nI (s - 2 ^ p) := by decide +kernel
theorem c_telling (hH : CH n l I) (hc : I c) (s p : Int32) : Ctr 6 84 [vR false 0 0, vI s, vI p] (c, m) (PQ I m (sTelling n l s p)) := by
  obtain ⟨⟨h1, h6⟩, hl, hn, -⟩ := id hH
  have h64 := pow2_le h6
  refine ctr_ev 60 [] rfl rfl (iF (c_hasAll h6 (hn c hc) s) (by decide) (bI (fun h => ?_) (fun h => ?_)))
  · rw [bi_0] at h
    refine pqi hc ?_
    rw [sTelling, if_neg (fun z => h z.1)]
  · rw [bi_0, Classical.not_not] at h
    refine iF (c_has (hn c hc) p) (by decide) (bI (fun hp => ?_) (fun hp => ?_))
    · rw [bi_0] at hp
      refine pqi hc ?_
      rw [sTelling, if_neg (fun z => hp z.2)]
    · rw [bi_0, Classical.not_not] at hp
      rw [sTelling, if_pos ⟨h, hp⟩]
      obtain ⟨hk, he⟩ := clampP (pow2_pos n) (by omega) h
      obtain ⟨hk2, he2⟩ := clampP h1 (by omega) hp
      generalize tN s = k at hk he ⊢
      generalize tN p = q at hk2 he2 ⊢
      subst he he2
      refine iF (c_isInN _ (by omega) (by omega)) (by decide) (bI (fun hb => ?_) (fun hb => ?_))
      · rw [bi_0] at hb
        refine pqi hc ?_
        rw [if_neg hb]
      · rw [bi_0, Classical.not_not] at hb
        rw [if_pos hb]
        refine iC (c_possibles hH hc (s := k) (by omega)) (by decide) ?_
        rintro _ _ ⟨c', rfl, hc', rfl⟩
        have hx := c_possibles (m := m) hH hc' (s := k - 2 ^ q) (Nat.lt_of_le_of_lt (Nat.sub_le _ _) (by omega))
        rw [← xor_bit k (by omega) q (by omega) hb] at hx
        refine iC hx (by decide) ?_
        rintro _ _ ⟨c2, rfl, hc2, rfl⟩
        exact pqi hc2 rfl
theorem c_lets (hH : CH n l I) (hc : I c) (p r d : Int32) : Ctr 6 66 [vR false 0 0, vI p, vI r, vI d] (c, m) (PQ I m (sLets n l p r d)) := by
  obtain ⟨⟨h1, h6⟩, hl, hn, hal, -⟩ := id hH
  have hr6 := pow4_le h6
  refine ctr_ev 60 [] rfl rfl (iF (c_has (hn c hc) p) (by decide) (bI (fun hp => ?_) (fun hp => ?_)))
  · rw [bi_0] at hp
    refine pqi hc ?_
    rw [sLets, if_neg hp]
  · rw [bi_0, Classical.not_not] at hp
    rw [sLets, if_pos hp]
    refine iF (c_hasRow h6 (hn c hc) r) (by decide) (bI (fun hr => ?_) (fun hr => ?_))
    · rw [bi_0] at hr
      refine pqi hc ?_
      rw [if_neg (fun z => hr z.1)]
    · rw [bi_0, Classical.not_not] at hr
      refine iF (c_within _ d 1 9) (by decide) (bI (fun hd => ?_) (fun hd => ?_))
      · rw [bi_0] at hd
        refine pqi hc ?_
        rw [if_neg (fun z => hd z.2)]
      · rw [bi_0, Classical.not_not] at hd
        rw [if_pos ⟨hr, hd⟩]
        obtain ⟨hk, he⟩ := clampP h1 (by omega) hp
        obtain ⟨hk2, he2⟩ := clampP (pow4_pos n) (by omega) hr
        obtain ⟨hk3, hk4, he3⟩ := clampW (a := 1) (b := 9) (by decide) hd (by decide)
        generalize tN p = q at hk he ⊢
        generalize tN r = row at hk2 he2 ⊢
        generalize tN d = day at hk3 hk4 he3 ⊢
        subst he he2 he3
        refine dI (vp6 (by omega)) ?_
        refine iC (hal c m hc q row day hk hk2 hk3 hk4) (by decide) ?_
        rintro _ _ ⟨c2, rfl, hc2, rfl⟩
        exact pqi hc2 rfl
theorem c_judge (hH : CH n l I) (hc : I c) (r d : Int32) : Ctr 6 69 [vR false 0 0, vI r, vI d] (c, m) (PQ I m (sJudge n l r d)) := by
  obtain ⟨⟨h1, h6⟩, hl, hn, hal, -⟩ := id hH
  have hr6 := pow4_le h6
  refine ctr_ev 60 [27] rfl rfl (iF (c_hasRow h6 (hn c hc) r) (by decide) (bI (fun hr => ?_) (fun hr => ?_)))
  · rw [bi_0] at hr
    refine pqi hc ?_
    rw [sJudge, if_neg (fun z => hr z.1)]
  · rw [bi_0, Classical.not_not] at hr
    refine iF (c_within _ d 1 9) (by decide) (bI (fun hd => ?_) (fun hd => ?_))
    · rw [bi_0] at hd
      refine pqi hc ?_
      rw [sJudge, if_neg (fun z => hd z.2)]
    · rw [bi_0, Classical.not_not] at hd
      rw [sJudge, if_pos ⟨hr, hd⟩]
      obtain ⟨hk2, he2⟩ := clampP (pow4_pos n) (by omega) hr
      obtain ⟨hk3, hk4, he3⟩ := clampW (a := 1) (b := 9) (by decide) hd (by decide)
      generalize tN r = row at hk2 he2 ⊢
      generalize tN d = day at hk3 hk4 he3 ⊢
      subst he2 he3
      have key : ∀ (j k : Nat) (x : Int32) (c : Sd), k + j = n → x = nI k → I c → fst (badA l day row 0) n 0 = fst (badA l day row 0) j k → Go 6 69 none 27 [some (vR false 0 0), some (vI (nI row)), some (vI (nI day)), some (vI x)] [] (c, m) (PQ I m (optI (fst (badA l day row 0) n 0))) := by
        intro j
        induction j with
        | zero =>
          intro k x c hk hx hc hf
          refine go_ev 40 [27] (bT (c := c.1 7 0 1 ≤ x) (by rw [hn c hc, hx, nIle (by omega) (by omega)]; omega) ?_)
          refine pqi hc ?_
          rw [hf]
          rfl
        | succ j ih =>
          intro k x c hk hx hc hf
          subst hx
          refine go_ev 40 [27] (bF (c := c.1 7 0 1 ≤ nI k) (by rw [hn c hc, nIle (by omega) (by omega)]; omega) ?_)
          refine dI (vp6 (by omega)) ?_
          refine iC (hal c m hc k row day (by omega) hk2 hk3 hk4) (by decide) ?_
          rintro _ _ ⟨c2, rfl, hc2, rfl⟩
          refine iF (c_deedN _ (by omega) (by omega)) (by decide) ?_
          have := hl k row day
          have := dd_lt row k
          refine bI (fun h2 => ?_) (fun h2 => ?_)
          · rw [nIeq (by omega) (by omega)] at h2
            refine ih (k + 1) _ c2 (by omega) (nI_succ k).symm hc2 ?_
            rw [hf]
            simp [fst, badA, h2]
          · rw [nIeq (by omega) (by omega)] at h2
            refine pqi hc2 ?_
            rw [hf]
            simp [fst, badA, Ne.symm h2, optI]
      exact key n 0 0 c (by omega) rfl hc rfl
end CA1

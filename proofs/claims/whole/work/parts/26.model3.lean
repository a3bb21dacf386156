/-! the model's calls, third part -/
section MO3
variable {n : Nat} {l : Nat → Nat → Nat → Nat} {J : Sd → Prop} {c m : Sd}
theorem m_growing (hH : MH n l J) (hz : ∀ c m f x, f = 41 ∨ f = 42 → J m → J (sF (c, m) true 0 0 f x).2) (hm : J m) : Ctr 5 128 [vR true 0 0] (c, m) (PM J c (nI (growN n l))) := by
  obtain ⟨⟨h1, h6⟩, hl, hn, hle⟩ := id hH
  have key : ∀ (j k : Nat) (x a : Int32) (m : Sd), k + j = n → x = nI k → a = nI (cntB (fun p => (slR n l 9 p).isNone) k) → J m → Go 5 128 none 4 [some (vR true 0 0), some (vI a), some (vI x)] [] (c, m) (PM J c (nI (growN n l))) := by
    intro j
    induction j with
    | zero =>
      intro k x a m hk hx ha hm
      refine go_ev 40 [4] (bT (c := m.1 0 0 0 ≤ x) (by rw [hn m hm, hx, nIle (by omega) (by omega)]; omega) ?_)
      refine mqi hm ?_
      rw [ha, show k = n by omega]
      rfl
    | succ j ih =>
      intro k x a m hk hx ha hm
      subst hx
      refine go_ev 40 [4] (bF (c := m.1 0 0 0 ≤ nI k) (by rw [hn m hm, nIle (by omega) (by omega)]; omega) ?_)
      refine iC (m_slips hH hz hm (p := k) (day := 9) (by omega) (by decide) (by decide)) (by decide) ?_
      rintro _ _ ⟨m2, rfl, hm2, rfl, -⟩
      refine bI (fun h2 => ?_) (fun h2 => ?_)
      · rw [bi_0] at h2
        refine iF (m_one _ 1) (by decide) ?_
        refine ih (k + 1) _ _ m2 (by omega) (nI_succ k).symm ?_ hm2
        have h3 : slR n l 9 k = none := by simpa using h2
        rw [ha, bi_t (by decide)]
        simp [cntB, h3, nI_succ]
      · rw [bi_0, Classical.not_not] at h2
        refine iF (m_one _ 0) (by decide) ?_
        refine ih (k + 1) _ _ m2 (by omega) (nI_succ k).symm ?_ hm2
        have h3 : ¬ slR n l 9 k = none := by
          intro z
          rw [z] at h2
          cases h2
        rw [ha, bi_f (by decide)]
        simp [cntB, h3]
  refine ctr_ev 40 [4] rfl rfl ?_
  exact key n 0 0 0 m (by omega) rfl rfl hm
theorem m_grows (hH : MH n l J) (hz : ∀ c m f x, f = 41 ∨ f = 42 → J m → J (sF (c, m) true 0 0 f x).2) (hm : J m) (p d x : Int32) : Ctr 6 131 [vR true 0 0, vI p, vI d, vI x] (c, m) (PM J c (sGrows n l p d x)) := by
  obtain ⟨⟨h1, h6⟩, hl, hn, hle⟩ := id hH
  have hr6 := pow4_le h6
  refine ctr_ev 60 [] rfl rfl (iF (m_noPerson (hn m hm) p) (by decide) (bI (fun hp => ?_) (fun hp => ?_)))
  · rw [bi_0, Classical.not_not] at hp
    rw [sGrows, if_pos hp]
    refine iF (m_isDay _ d) (by decide) (bI (fun hd => ?_) (fun hd => ?_))
    · rw [bi_0] at hd
      refine mqi hm ?_
      rw [if_neg (fun z => hd z.1)]
    · rw [bi_0, Classical.not_not] at hd
      refine iF (m_in _ x (-1) 1) (by decide) (bI (fun hx => ?_) (fun hx => ?_))
      · rw [bi_0] at hx
        refine mqi hm ?_
        rw [if_neg (fun z => hx z.2)]
      · rw [bi_0, Classical.not_not] at hx
        rw [if_pos ⟨hd, hx⟩]
        obtain ⟨hk, he⟩ := clampP h1 (by omega) hp
        obtain ⟨hk3, hk4, he3⟩ := clampW (a := 1) (b := 9) (by decide) hd (by decide)
        generalize tN p = q at hk he ⊢
        generalize tN d = day at hk3 hk4 he3 ⊢
        subst he he3
        refine iC (m_slips hH hz hm hk hk3 hk4) (by decide) ?_
        rintro _ _ ⟨m2, rfl, hm2, rfl, hv⟩
        cases hs : slR n l day q with
        | none =>
          rw [bi_f (by simp)]
          refine bI (fun h => ?_) (fun h => ?_)
          · refine bT rfl ?_
            refine iF (m_one _ 1) (by decide) ?_
            refine mqi hm2 ?_
            simp only [if_pos h]
            rw [bi_t (by decide)]
          · refine bT rfl ?_
            refine mqi hm2 ?_
            simp only [if_neg h]
        | some row =>
          obtain ⟨hv1, hv2⟩ := hv row hs
          rw [bi_t (by simp)]
          refine bI (fun h => ?_) (fun h => ?_)
          · refine bF (by decide) ?_
            refine iF (m_one _ 0) (by decide) ?_
            refine mqi hm2 ?_
            simp only [if_pos h]
            rw [bi_f (by decide)]
          · refine bF (by decide) ?_
            refine bI (fun h0 => ?_) (fun h0 => ?_)
            · refine mqi hm2 ?_
              simp only [if_neg h, if_pos h0]
              exact hv1
            · refine mqi hm2 ?_
              simp only [if_neg h, if_neg h0]
              exact hv2
  · rw [bi_0, Classical.not_not] at hp
    refine mqi hm ?_
    rw [sGrows, if_neg hp]
/-- the set of whom one hangs on, while a person's deeds are tried -/
theorem or_in : ∀ k, k < 6 → ∀ a, a < 64 → a < 2 ^ (k + 1) → a.testBit k = true → nI a ||| ((1 : Int32) <<< (nI k &&& 31)) = nI a := by decide +kernel
theorem m_hangs (hH : MH n l J) (hm : J m) (p r : Int32) : Ctr 6 141 [vR true 0 0, vI p, vI r] (c, m) (PM J c (sHangs n l p r)) := by
  obtain ⟨⟨h1, h6⟩, hl, hn, hle⟩ := id hH
  have hr6 := pow4_le h6
  refine ctr_ev 60 [39] rfl rfl (iF (m_noPerson (hn m hm) p) (by decide) (bI (fun hp => ?_) (fun hp => ?_)))
  · rw [bi_0, Classical.not_not] at hp
    rw [sHangs, if_pos hp]
    refine iF (m_noRow h6 (hn m hm) r) (by decide) (bI (fun hr => ?_) (fun hr => ?_))
    · rw [bi_0, Classical.not_not] at hr
      rw [if_pos hr]
      obtain ⟨hq0, he⟩ := clampP h1 (by omega) hp
      obtain ⟨hk2, he2⟩ := clampP (pow4_pos n) (by omega) hr
      generalize tN p = q at hq0 he ⊢
      generalize tN r = row at hk2 he2 ⊢
      subst he he2
      have hnow := hl q row 9
      have key : ∀ (j k : Nat) (x a : Int32) (v6 v7 : Option PV) (m : Sd), k + j = n → x = nI k → a = nI (hgF l q row k) → J m → Go 6 141 none 39 [some (vR true 0 0), some (vI (nI q)), some (vI (nI row)), some (vI (nI (l q row 9))), some (vI a), some (vI x), v6, v7] [] (c, m) (PM J c (nI (hgF l q row n))) := by
        intro j
        induction j with
        | zero =>
          intro k x a v6 v7 m hk hx ha hm
          refine go_ev 40 [39] (bT (c := m.1 0 0 0 ≤ x) (by rw [hn m hm, hx, nIle (by omega) (by omega)]; omega) ?_)
          refine mqi hm ?_
          rw [ha, show k = n by omega]
        | succ j ih =>
          intro k x a v6 v7 m hk hx ha hm
          subst hx ha
          have hb := hgF_lt l q row k
          have hb2 : 2 ^ k ≤ 32 := by
            have := Nat.pow_le_pow_right (n := 2) (by decide) (show k ≤ 5 by omega)
            simpa using this
          refine go_ev 40 [39, 51] (bF (c := m.1 0 0 0 ≤ nI k) (by rw [hn m hm, nIle (by omega) (by omega)]; omega) ?_)
          have inner : ∀ (i d : Nat) (y a : Int32) (v7 : Option PV) (m : Sd), d + i = 4 → y = nI d → a = nI (hgF l q row k + (if k != q && (fst (fun d => l q (wdd row k d) 9 != l q row 9) d 0).isSome then 2 ^ k else 0)) → J m → Go 6 141 none 51 [some (vR true 0 0), some (vI (nI q)), some (vI (nI row)), some (vI (nI (l q row 9))), some (vI a), some (vI (nI k)), some (vI y), v7] [] (c, m) (PM J c (nI (hgF l q row n))) := by
            intro i
            induction i with
            | zero =>
              intro d y a v7 m hd hy ha hm
              refine go_ev 40 [39, 51] (bT (by rw [hy, show (4 : Int32) = nI 4 from rfl, nIle (by decide) (by omega)]; omega) ?_)
              refine ih (k + 1) _ _ _ _ m (by omega) (nI_succ k).symm ?_ hm
              rw [ha, show d = 4 by omega]
              rfl
            | succ i ih2 =>
              intro d y a v7 m hd hy ha hm
              subst hy
              refine go_ev 60 [39, 51] (bF (by rw [show (4 : Int32) = nI 4 from rfl, nIle (by decide) (by omega)]; omega) ?_)
              refine bI (fun hkq => ?_) (fun hkq => ?_)
              · rw [nIeq (by omega) (by omega)] at hkq
                refine ih (k + 1) _ _ _ _ m (by omega) (nI_succ k).symm ?_ hm
                rw [ha]
                simp [hgF, hkq]
              · rw [nIeq (by omega) (by omega)] at hkq
                refine iF (m_deed _ (by omega) (by omega)) (by decide) ?_
                have hx := hle c m hm q (wdd row k d) 9 hq0 (wdd_lt hk2 (by omega) (by omega)) (by decide) (by decide)
                rw [← nI_put (row := row) (q := k) (d := d) (by omega)] at hx
                refine iC hx (by decide) ?_
                rintro _ _ ⟨m3, rfl, hm3, rfl⟩
                have hlw := hl q (wdd row k d) 9
                have hsn := fst_snoc (fun d => l q (wdd row k d) 9 != l q row 9) d 0
                rw [Nat.zero_add] at hsn
                refine bI (fun h4 => ?_) (fun h4 => ?_)
                · rw [nIeq (by omega) (by omega)] at h4
                  refine ih2 (d + 1) _ _ _ m3 (by omega) (nI_succ d).symm ?_ hm3
                  show a ||| 0 = _
                  rw [show a ||| 0 = a from Int32.or_zero, ha, hsn]
                  cases fst (fun d => l q (wdd row k d) 9 != l q row 9) d 0 <;> simp [h4]
                · rw [nIeq (by omega) (by omega)] at h4
                  refine ih2 (d + 1) _ _ _ m3 (by omega) (nI_succ d).symm ?_ hm3
                  rw [ha, hsn]
                  cases hf : fst (fun d => l q (wdd row k d) 9 != l q row 9) d 0 with
                  | none =>
                    simp only [Option.isSome_none, Bool.and_false, Bool.false_eq_true, if_false, Nat.add_zero]
                    rw [or_bit k (by omega) _ (by omega) hb]
                    simp [hkq, h4]
                  | some z =>
                    simp only [Option.isSome_some, Bool.and_true]
                    rw [if_pos (by simp [hkq])]
                    rw [or_in k (by omega) _ (by omega) (by rw [Nat.pow_succ]; omega)]
                    rw [Nat.testBit_eq_decide_div_mod_eq, decide_eq_true_eq, Nat.add_div_right _ (Nat.pow_pos (by decide)), Nat.div_eq_of_lt hb]
          exact inner 4 0 0 _ _ m rfl rfl (by simp [fst]) hm
      refine iC (hle c m hm q row 9 hq0 hk2 (by decide) (by decide)) (by decide) ?_
      rintro _ _ ⟨m2, rfl, hm2, rfl⟩
      exact key n 0 0 0 none none m2 (by omega) rfl rfl hm2
    · rw [bi_0, Classical.not_not] at hr
      refine mqi hm ?_
      rw [if_neg hr]
  · rw [bi_0, Classical.not_not] at hp
    refine mqi hm ?_
    rw [sHangs, if_neg hp]
theorem m_rowBy (hH : MH n l J) (hm : J m) {day : Nat} (hd : day ≤ 9) : Ctr 4 149 [vR true 0 0, vI (nI day)] (c, m) (PM J c (nI (byD n l day))) := by
  obtain ⟨⟨h1, h6⟩, hl, hn, hle⟩ := id hH
  have hr6 := pow4_le h6
  have key : ∀ (j k : Nat) (x a : Int32) (v4 v5 v6 : Option PV) (m : Sd), k + j = day → x = nI (k + 1) → a = nI (byD n l k) → J m → Go 4 149 none 4 [some (vR true 0 0), some (vI (nI day)), some (vI a), some (vI x), v4, v5, v6] [] (c, m) (PM J c (nI (byD n l day))) := by
    intro j
    induction j with
    | zero =>
      intro k x a v4 v5 v6 m hk hx ha hm
      subst hx
      refine go_ev 40 [4] (bT (by rw [nIlt (by omega) (by omega)]; omega) ?_)
      refine mqi hm ?_
      rw [ha, show k = day by omega]
    | succ j ih =>
      intro k x a v4 v5 v6 m hk hx ha hm
      subst hx ha
      have hB := byD_lt (n := n) hl k
      have inner : ∀ (i q : Nat) (y t : Int32) (v6 : Option PV) (m : Sd), q + i = n → y = nI q → t = nI (digs (fun p => max (dd (byD n l k) p) (l p (byD n l k) (k + 1))) q) → J m → Go 4 149 none 15 [some (vR true 0 0), some (vI (nI day)), some (vI (nI (byD n l k))), some (vI (nI (k + 1))), some (vI t), some (vI y), v6] [] (c, m) (PM J c (nI (byD n l day))) := by
        intro i
        induction i with
        | zero =>
          intro q y t v6 m hq hy ht hm
          refine go_ev 40 [4, 15] (bT (c := m.1 0 0 0 ≤ y) (by rw [hn m hm, hy, nIle (by omega) (by omega)]; omega) ?_)
          refine ih (k + 1) _ _ _ _ _ m (by omega) (nI_succ (k + 1)).symm ?_ hm
          rw [ht, show q = n by omega]
          rfl
        | succ i ih2 =>
          intro q y t v6 m hq hy ht hm
          subst hy ht
          have hdd := dd_lt (byD n l k) q
          have hlq := hl q (byD n l k) (k + 1)
          refine go_ev 60 [4, 15] (bF (c := m.1 0 0 0 ≤ nI q) (by rw [hn m hm, nIle (by omega) (by omega)]; omega) ?_)
          refine iC (hle c m hm q (byD n l k) (k + 1) (by omega) hB (by omega) (by omega)) (by decide) ?_
          rintro _ _ ⟨m2, rfl, hm2, rfl⟩
          refine iF (m_deed _ (by omega) (by omega)) (by decide) ?_
          refine bI (fun h => ?_) (fun h => ?_)
          · rw [nIle (by omega) (by omega)] at h
            refine iF (m_deed _ (by omega) (by omega)) (by decide) ?_
            refine ih2 (q + 1) _ _ _ m2 (by omega) (nI_succ q).symm ?_ hm2
            rw [nI_dig (by omega)]
            simp only [digs]
            rw [Nat.max_eq_left h]
          · rw [nIle (by omega) (by omega)] at h
            refine ih2 (q + 1) _ _ _ m2 (by omega) (nI_succ q).symm ?_ hm2
            rw [nI_dig (by omega)]
            simp only [digs]
            rw [Nat.max_eq_right (by omega)]
      refine go_ev 40 [4, 15] (bF (by rw [nIlt (by omega) (by omega)]; omega) ?_)
      exact inner n 0 0 0 _ m (by omega) rfl rfl hm
  refine ctr_ev 40 [4] rfl rfl ?_
  exact key day 0 1 0 none none none m (by omega) rfl rfl hm
theorem m_byDay (hH : MH n l J) (hm : J m) (d : Int32) : Ctr 6 150 [vR true 0 0, vI d] (c, m) (PM J c (sByDay n l d)) := by
  refine ctr_ev 60 [] rfl rfl (iF (m_in _ d 0 9) (by decide) (bI (fun hd => ?_) (fun hd => ?_)))
  · rw [bi_0] at hd
    refine mqi hm ?_
    rw [sByDay, if_neg hd]
  · rw [bi_0, Classical.not_not] at hd
    rw [sByDay, if_pos hd]
    obtain ⟨hk3, hk4, he3⟩ := clampW (a := 0) (b := 9) (by decide) hd (by decide)
    generalize tN d = day at hk3 hk4 he3 ⊢
    subst he3
    refine iC (m_rowBy hH hm hk4) (by decide) ?_
    rintro _ _ ⟨m2, rfl, hm2, rfl⟩
    exact mqi hm2 rfl
theorem m_dares (hH : MH n l J) (hm : J m) (p : Int32) : Ctr 6 151 [vR true 0 0, vI p] (c, m) (PM J c (sDares n l p)) := by
  obtain ⟨⟨h1, h6⟩, hl, hn, hle⟩ := id hH
  have hr6 := pow4_le h6
  refine ctr_ev 60 [14] rfl rfl (iF (m_noPerson (hn m hm) p) (by decide) (bI (fun hp => ?_) (fun hp => ?_)))
  · rw [bi_0, Classical.not_not] at hp
    rw [sDares, if_pos hp]
    obtain ⟨hk, he⟩ := clampP h1 (by omega) hp
    generalize tN p = q at hk he ⊢
    subst he
    have key : ∀ (j k : Nat) (x : Int32) (m : Sd), k + j = 9 → x = nI (k + 1) → J m → fst (fun d => decide (0 < dd (byD n l d) q)) 9 1 = fst (fun d => decide (0 < dd (byD n l d) q)) j (k + 1) → Go 6 151 none 14 [some (vR true 0 0), some (vI (nI q)), some (vI x)] [] (c, m) (PM J c (optI (fst (fun d => decide (0 < dd (byD n l d) q)) 9 1))) := by
      intro j
      induction j with
      | zero =>
        intro k x m hk hx hm hf
        subst hx
        refine go_ev 40 [14] (bT (by rw [show (9 : Int32) = nI 9 from rfl, nIlt (by omega) (by omega)]; omega) ?_)
        refine mqi hm ?_
        rw [hf]
        rfl
      | succ j ih =>
        intro k x m hk hx hm hf
        subst hx
        refine go_ev 40 [14] (bF (by rw [show (9 : Int32) = nI 9 from rfl, nIlt (by omega) (by omega)]; omega) ?_)
        refine iC (m_rowBy hH hm (day := k + 1) (by omega)) (by decide) ?_
        rintro _ _ ⟨m2, rfl, hm2, rfl⟩
        have hlt := byD_lt (n := n) hl (k + 1)
        have hdd := dd_lt (byD n l (k + 1)) q
        refine iF (m_deed _ (by omega) (by omega)) (by decide) ?_
        refine bI (fun h2 => ?_) (fun h2 => ?_)
        · rw [show (0 : Int32) = nI 0 from rfl, nIle (by omega) (by decide)] at h2
          refine ih (k + 1) _ m2 (by omega) (nI_succ (k + 1)).symm hm2 ?_
          rw [hf]
          simp only [fst]
          rw [if_neg (by simp; omega)]
        · rw [show (0 : Int32) = nI 0 from rfl, nIle (by omega) (by decide)] at h2
          refine mqi hm2 ?_
          rw [hf]
          simp only [fst]
          rw [if_pos (by simp; omega)]
          rfl
    exact key 9 0 1 m (by omega) rfl hm rfl
  · rw [bi_0, Classical.not_not] at hp
    refine mqi hm ?_
    rw [sDares, if_neg hp]
end MO3

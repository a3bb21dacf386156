/-! softer words: the class's calls -/
def sfA (f : Nat → Option Nat) : Nat → Nat → Nat → Option Nat
  | 0, _, a => some a
  | j + 1, k, a => match f k with
    | none => none
    | some v => sfA f j (k + 1) (a + v)
def sSoft (n : Nat) (Ts : Nat → Trm) (p r : Int32) : Int32 := if p = -1 ∨ inP n p then (if inR n r then (if p = -1 then optI (sfA (fun q => sfN n q (tN r) (Ts q)) n 0 0) else optI (sfN n (tN p) (tN r) (Ts (tN p)))) else -1002) else -1001
theorem sfN_lt {n p row : Nat} {T : Trm} {k : Nat} (h : sfN n p row T = some k) : k < 4 := by
  have := fst_lt _ _ _ h
  omega
theorem sfN_opt {n p row : Nat} {T : Trm} : optI (sfN n p row T) = -1 ↔ sfN n p row T = none := optI_none (fun k h => by
  have := sfN_lt h
  omega)
section SFC
variable {n p row : Nat} {Ts : Nat → Trm} {X I : Sd → Prop} {c m : Sd}
theorem c_pSoft (h6 : n ≤ 6) (hok : ∀ p, okT (Ts p)) (hX : Cls X) (hXs : ∀ c, X c → ∀ p, p < 6 → CSl c (c.2.2 9 p) (slo (Ts p).2)) (hI : ∀ c, I c ↔ CV n Ts c ∧ X c) (hc : I c) (hp : p < n) (hr : row < 4 ^ n) : Ctr 7 10 [vR false 9 p, vI (nI row), vI (nI n)] (c, m) (PQ I m (optI (sfN n p row (Ts p)))) := by
  obtain ⟨hV, hXc⟩ := (hI c).mp hc
  have hr6 := pow4_le h6
  obtain ⟨hnum, hT, -⟩ := hV.2 p (by omega)
  have hc' : I (lkd c n p row 9) := (hI _).mpr ⟨CV_lkd p row 9 hV, hX _ _ (lkd_sam c n p row 9) hXc⟩
  have hL : Fn 1 31 [vR false 19 0, vI (c.1 9 p 0), vI (nI row), vI 9, vI (nI n)] (c, m) (lkd c n p row 9, m) none := by
    rw [hnum]
    exact c_look (by omega) (by omega) _ _
  have h80 : (slo (Ts p).2).length ≤ 80 := by
    have h1 := sloF_len (Ts p).2 0
    have h2 := (hok p).2.1
    unfold slo
    omega
  have hD : Fn 0 89 [vI (nI row), vI (c.1 9 p 0)] (lkd c n p row 9, m) (lkd c n p row 9, m) (some (vI (nI (dd row p)))) := by
    rw [hnum]
    exact c_deedN _ (by omega) (by omega)
  have hS : ∀ k, k ≤ 3 → Fn (3 + k) 43 [vR false 11 (c.2.2 9 p), vI (nI k), vI 0, vI (nI (dd row p)), vR false 19 0] (lkd c n p row 9, m) (lkd c n p row 9, m) (some (vI (bi (sfF (chS n p row (Ts p).1) k (slo (Ts p).2) (Ts p).2 = true)))) := fun k hk =>
    c_softens (t := c.2.2 9 p) (L := slo (Ts p).2) (R := (Ts p).1) h6 hp hr h80 k hk (Ts p).2 (lkd c n p row 9) 0 (lkd_scn c n p row 9) (lkd_CT hT) (hok p) (hXs c hXc p (by omega)) (slo_ok _) (Nat.zero_le _)
  have key : ∀ (j k : Nat) (x : Int32), k + j = 4 → x = nI k → sfN n p row (Ts p) = fst (fun k => sfF (chS n p row (Ts p).1) k (slo (Ts p).2) (Ts p).2) j k → Go 7 10 none 17 [some (vR false 9 p), some (vI (nI row)), some (vI (nI n)), some (vI x)] [] (lkd c n p row 9, m) (PQ I m (optI (sfN n p row (Ts p)))) := by
    intro j
    induction j with
    | zero =>
      intro k x hk hx hf
      refine go_ev 100 [17] (bT (c := (3 : Int32) < x) (by rw [hx, show (3 : Int32) = nI 3 from rfl, nIlt (by decide) (by omega)]; omega) (pqi hc' ?_))
      rw [hf]
      rfl
    | succ j ih =>
      intro k x hk hx hf
      subst hx
      refine go_ev 100 [17] (bF (c := (3 : Int32) < nI k) (by rw [show (3 : Int32) = nI 3 from rfl, nIlt (by decide) (by omega)]; omega) ?_)
      refine iF hD (by decide) (iF (hS k (by omega)) (by omega) (bI (fun h => ?_) (fun h => ?_)))
      · rw [bi_0] at h
        refine ih (k + 1) _ (by omega) (nI_succ k).symm ?_
        rw [hf]
        conv => lhs; unfold fst
        rw [if_neg h]
      · rw [bi_0, Classical.not_not] at h
        refine pqi hc' ?_
        rw [hf]
        unfold fst
        rw [if_pos h]
        rfl
  refine ctr_ev 100 [17] rfl rfl (iF hL (by decide) ?_)
  exact key 4 0 0 rfl rfl rfl
theorem c_vSoft (h6 : n ≤ 6) (hok : ∀ p, okT (Ts p)) (hX : Cls X) (hXs : ∀ c, X c → ∀ p, p < 6 → CSl c (c.2.2 9 p) (slo (Ts p).2)) (hI : ∀ c, I c ↔ CV n Ts c ∧ X c) (hc : I c) (hr : row < 4 ^ n) : Ctr 8 60 [vR false 7 0, vI (nI row)] (c, m) (PQ I m (optI (sfA (fun q => sfN n q row (Ts q)) n 0 0))) := by
  have hn : ∀ c, I c → c.1 7 0 1 = nI n := fun c hc => ((hI c).mp hc).1.1
  have key : ∀ (j k a : Nat) (x ax : Int32) (v4 : Option PV) (c : Sd), k + j = n → x = nI k → ax = nI a → I c → sfA (fun q => sfN n q row (Ts q)) n 0 0 = sfA (fun q => sfN n q row (Ts q)) j k a → Go 8 60 none 4 [some (vR false 7 0), some (vI (nI row)), some (vI ax), some (vI x), v4] [] (c, m) (PQ I m (optI (sfA (fun q => sfN n q row (Ts q)) n 0 0))) := by
    intro j
    induction j with
    | zero =>
      intro k a x ax v4 c hk hx ha hc hf
      refine go_ev 100 [4] (bT (c := c.1 7 0 1 ≤ x) (by rw [hn c hc, hx, nIle (by omega) (by omega)]; omega) (pqi hc ?_))
      rw [hf, ha]
      rfl
    | succ j ih =>
      intro k a x ax v4 c hk hx ha hc hf
      subst hx ha
      refine go_ev 100 [4] (bF (c := c.1 7 0 1 ≤ nI k) (by rw [hn c hc, nIle (by omega) (by omega)]; omega) (dI (vp6 (by omega)) ?_))
      have hP : Ctr 7 10 [vR false 9 (nI k).toNatClampNeg, vI (nI row), vI (c.1 7 0 1)] (c, m) (PQ I m (optI (sfN n k row (Ts k)))) := by
        rw [show (nI k).toNatClampNeg = k from pk_cl k, hn c hc]
        exact c_pSoft h6 hok hX hXs hI hc (by omega) hr
      refine iC hP (by decide) ?_
      rintro _ _ ⟨c', rfl, hc', rfl⟩
      refine bI (c := optI (sfN n k row (Ts k)) = -1) (fun h => ?_) (fun h => ?_)
      · rw [sfN_opt] at h
        refine pqi hc' ?_
        rw [hf]
        unfold sfA
        rw [h]
        rfl
      · rw [sfN_opt] at h
        obtain ⟨v, hv⟩ := Option.ne_none_iff_exists'.mp h
        have hgo := ih (k + 1) (a + v) (nI k + 1) (nI a + optI (sfN n k row (Ts k))) (some (vI (optI (sfN n k row (Ts k))))) c' (by omega) (nI_succ k).symm (by rw [hv]; exact nIadd a v) hc' (by
          rw [hf]
          conv => lhs; unfold sfA
          rw [hv])
        exact hgo
  refine ctr_ev 100 [4] rfl rfl ?_
  exact key n 0 0 0 0 none c (by omega) rfl rfl hc rfl
theorem c_soft (h1 : 1 ≤ n) (h6 : n ≤ 6) (hok : ∀ p, okT (Ts p)) (hX : Cls X) (hXs : ∀ c, X c → ∀ p, p < 6 → CSl c (c.2.2 9 p) (slo (Ts p).2)) (hI : ∀ c, I c ↔ CV n Ts c ∧ X c) (hc : I c) (p r : Int32) : Ctr 9 75 [vR false 0 0, vI p, vI r] (c, m) (PQ I m (sSoft n Ts p r)) := by
  have hn : ∀ c, I c → c.1 7 0 1 = nI n := fun c hc => ((hI c).mp hc).1.1
  have hr6 := pow4_le h6
  have hrow : p = -1 ∨ inP n p → Go 9 75 none 20 [some (vR false 0 0), some (vI p), some (vI r)] [] (c, m) (PQ I m (sSoft n Ts p r)) := by
    intro hp
    refine go_ev 100 [] (iF (c_hasRow h6 (hn c hc) r) (by decide) (bI (fun h => ?_) (fun h => ?_)))
    · rw [bi_0] at h
      refine pqi hc ?_
      rw [sSoft, if_pos hp, if_neg h]
    · rw [bi_0, Classical.not_not] at h
      rw [sSoft, if_pos hp, if_pos h]
      obtain ⟨hk2, he2⟩ := clampP (pow4_pos n) (by omega) h
      generalize tN r = row at hk2 he2 ⊢
      subst he2
      refine bI (c := p = -1) (fun hm => ?_) (fun hm => ?_)
      · rw [if_pos hm]
        refine iC (c_vSoft h6 hok hX hXs hI hc hk2) (by decide) ?_
        rintro _ _ ⟨c', rfl, hc', rfl⟩
        exact pqi hc' rfl
      · rw [if_neg hm]
        obtain ⟨hk1, he1⟩ := clampP h1 (by omega) (hp.resolve_left hm)
        generalize tN p = q at hk1 he1 ⊢
        subst he1
        have hP : Ctr 7 10 [vR false 9 (nI q).toNatClampNeg, vI (nI row), vI (c.1 7 0 1)] (c, m) (PQ I m (optI (sfN n q row (Ts q)))) := by
          rw [show (nI q).toNatClampNeg = q from pk_cl q, hn c hc]
          exact c_pSoft h6 hok hX hXs hI hc hk1 hk2
        refine dI (vp6 (by omega)) (iC hP (by decide) ?_)
        rintro _ _ ⟨c', rfl, hc', rfl⟩
        exact pqi hc' rfl
  refine ctr_ev 100 [20] rfl rfl (bI (c := p = -1) (fun h => hrow (Or.inl h)) (fun h => ?_))
  refine iF (c_has (hn c hc) p) (by decide) (bI (fun h2 => ?_) (fun h2 => ?_))
  · rw [bi_0] at h2
    refine pqi hc ?_
    rw [sSoft, if_neg (fun z => z.elim h h2)]
  · rw [bi_0, Classical.not_not] at h2
    exact hrow (Or.inr h2)
end SFC

/-! the model's offers, and sly -/
def MO (pt wo : Nat → Nat) (J : Sd → Prop) : Prop := (∀ p, pt p ≤ 99 ∧ wo p ≤ 99) ∧ ∀ m, J m → ∀ p, p < 6 → m.2.1 12 0 p = nI (pt p) ∧ m.2.1 13 0 p = nI (wo p)
section MO6
variable {n : Nat} {l : Nat → Nat → Nat → Nat} {JW : Option Nat → Nat → Sd → Prop} {c m : Sd} {pt wo : Nat → Nat}
theorem m_hasByWord (hW : MW n l JW) (hO : ∀ tl wd, MO pt wo (JW tl wd)) {wd : Nat} (hm : JW none wd m) (hn : ∀ tl wd m, JW tl wd m → m.1 0 0 0 = nI n) {p w : Nat} (hp : p < n) (hw : w ≤ 4) (aim : Int32) : Ctr 6 159 [vR true 0 0, vI (nI p), vI (nI w), vI aim] (c, m) (PM (J0 JW) c (gnV n l wo p w aim)) := by
  obtain ⟨⟨h1, h6⟩, hl, hK, hp1, hp2⟩ := id hW
  have hr6 := pow4_le h6
  have hr1 := pow4_pos n
  have main : ∀ tl : Option Nat, tl = (if w = 4 then none else some p) → Go 6 159 none 11 [some (vR true 0 0), some (vI (nI p)), some (vI (nI w)), some (vI aim)] [vI (optI tl), vR true 0 0] (c, m) (PM (J0 JW) c (gnV n l wo p w aim)) := by
    intro tl htl
    have hwt : tl ≠ none → w < 4 := by
      intro z
      rw [htl] at z
      by_cases h4 : w = 4
      · rw [if_pos h4] at z
        exact absurd rfl z
      · omega
    have htq : ∀ q, tl = some q → q < 6 := by
      intro q hq
      rw [htl] at hq
      split at hq
      · cases hq
      · cases hq
        omega
    obtain ⟨-, -, hR⟩ := clM_ok h6 hl hwt 0 (row := 4 ^ n - 1) (by omega)
    have hm1 := hp1 c m none wd tl htq hm
    have hm2 := hp2 c (sF (c, m) true 0 0 35 (optI tl)).2 tl wd w hm1
    have hst := m_goUpM (c := c) hW hwt hm2 (row := 4 ^ n - 1) (by omega) 0
    rw [← nI_sub1 hr1] at hst
    unfold gnV
    rw [← htl]
    refine go_ev 60 [] (iF (m_allRows h6 (hn _ _ _ hm2)) (by decide) (iC hst (by decide) ?_))
    rintro _ _ ⟨m2, rfl, hm2, g1, g2, g3, rfl⟩
    have hm3 := hp1 c m2 tl w none (fun q' hq => by cases hq) hm2
    have hn3 := hn _ _ _ hm3
    have hwo := ((hO none w).2 _ hm3 p (by omega)).2
    by_cases h1' : (clM n l tl w 0 (4 ^ n - 1)).2 = 1
    · rw [if_pos h1'] at g1 ⊢
      refine bT (c := (0 : Int32) ≤ m2.1 0 0 44) (by rw [g1]; exact nI_pos' (by omega)) ?_
      have hz := m_sumOf (c := c) h6 hn3 (row := clR n l tl w 0 (4 ^ n - 1)) (by omega)
      have hd := m_deed (c, (sF (c, m2) true 0 0 35 (optI none)).2) (row := clR n l tl w 0 (4 ^ n - 1)) (p := p) (by omega) (by omega)
      rw [← g1] at hz hd
      refine iF hz (by decide) ?_
      refine bI (fun ha => ?_) (fun ha => ?_)
      · refine iF hd (by decide) ?_
        refine mqi ⟨w, hm3⟩ ?_
        rw [if_neg (Int32.not_le.mpr ha)]
      · refine dI (vp6 (by omega)) ?_
        refine iF hd (by decide) ?_
        refine mqi ⟨w, hm3⟩ ?_
        rw [if_pos (Int32.not_lt.mp ha)]
        show m2.2.1 13 0 (nI p).toNatClampNeg - _ = _
        rw [nI_clamp (by omega)]
        rw [show m2.2.1 13 0 p = nI (wo p) from hwo]
    · rw [if_neg h1'] at g1 ⊢
      refine bF (c := (0 : Int32) ≤ m2.1 0 0 44) (by rw [g1]; decide) ?_
      exact mqi ⟨w, hm3⟩ rfl
  refine ctr_ev 60 [11] rfl rfl ?_
  refine bI (fun h4 => ?_) (fun h4 => ?_)
  · have h4 : w = 4 := by
      rw [show (4 : Int32) = nI 4 from rfl, nIle (by decide) (by omega)] at h4
      omega
    exact main none (by rw [if_pos h4])
  · have h4 : ¬ w = 4 := by
      rw [show (4 : Int32) = nI 4 from rfl, nIle (by decide) (by omega)] at h4
      omega
    exact main (some p) (by rw [if_neg h4])
theorem m_sly (hW : MW n l JW) (hO : ∀ tl wd, MO pt wo (JW tl wd)) (hm : J0 JW m) (hn : ∀ tl wd m, JW tl wd m → m.1 0 0 0 = nI n) (p aim x : Int32) : Ctr 7 160 [vR true 0 0, vI p, vI aim, vI x] (c, m) (PM (J0 JW) c (sSly n l wo p aim x)) := by
  obtain ⟨⟨h1, h6⟩, hl, -⟩ := id hW
  have hn0 : m.1 0 0 0 = nI n := by
    obtain ⟨wd, h⟩ := hm
    exact hn _ _ _ h
  refine ctr_ev 60 [53] rfl rfl (iF (m_noPerson hn0 p) (by decide) (bI (fun hp => ?_) (fun hp => ?_)))
  · rw [bi_0, Classical.not_not] at hp
    rw [sSly, if_pos hp]
    refine iF (m_in _ aim 0 18) (by decide) (bI (fun ha => ?_) (fun ha => ?_))
    · rw [bi_0] at ha
      refine mqi hm ?_
      rw [if_neg (fun z => ha z.1)]
    · rw [bi_0, Classical.not_not] at ha
      refine iF (m_in _ x 0 1) (by decide) (bI (fun hx => ?_) (fun hx => ?_))
      · rw [bi_0] at hx
        refine mqi hm ?_
        rw [if_neg (fun z => hx z.2)]
      · rw [bi_0, Classical.not_not] at hx
        rw [if_pos ⟨ha, hx⟩]
        obtain ⟨hk, he⟩ := clampP h1 (by omega) hp
        generalize tN p = q at hk he ⊢
        subst he
        generalize hg : (fun w => gnV n l wo q w aim) = g
        have hgw : ∀ w, gnV n l wo q w aim = g w := fun w => by rw [← hg]
        rw [hgw 4]
        have call : ∀ (w : Nat) (m : Sd), w ≤ 4 → J0 JW m → Ctr 6 159 [vR true 0 0, vI (nI q), vI (nI w), vI aim] (c, m) (PM (J0 JW) c (g w)) := by
          intro w m hw hm
          obtain ⟨wd, hm⟩ := hm
          have := m_hasByWord (c := c) hW hO hm hn (p := q) (w := w) hk hw aim
          rw [hgw] at this
          exact this
        have key : ∀ (j k : Nat) (y : Int32) (b : Int32 × Int32) (v7 : Option PV) (m : Sd), k + j = 4 → y = nI k → slyF g 4 0 (4, g 4) = slyF g j k b → J0 JW m → Go 7 160 none 53 [some (vR true 0 0), some (vI (nI q)), some (vI aim), some (vI x), some (vI b.1), some (vI b.2), some (vI y), v7] [] (c, m) (PM (J0 JW) c (if x = 0 then (slyF g 4 0 (4, g 4)).1 else 1000 + (slyF g 4 0 (4, g 4)).2)) := by
          intro j
          induction j with
          | zero =>
            intro k y b v7 m hk hy hf hm
            subst hy
            refine go_ev 40 [53] (bT (by rw [show (4 : Int32) = nI 4 from rfl, nIle (by decide) (by omega)]; omega) ?_)
            refine bI (fun h0 => ?_) (fun h0 => ?_)
            · refine mqi hm ?_
              rw [if_pos h0, hf]
              rfl
            · refine mqi hm ?_
              rw [if_neg h0, hf]
              rfl
          | succ j ih =>
            intro k y b v7 m hk hy hf hm
            subst hy
            refine go_ev 60 [53] (bF (by rw [show (4 : Int32) = nI 4 from rfl, nIle (by decide) (by omega)]; omega) ?_)
            refine iC (call k m (by omega) hm) (by decide) ?_
            rintro _ _ ⟨m2, rfl, hm2, rfl⟩
            refine bI (fun h0 => ?_) (fun h0 => ?_)
            · refine bT h0 ?_
              refine ih (k + 1) _ b _ m2 (by omega) (nI_succ k).symm ?_ hm2
              rw [hf]
              simp only [slyF]
              rw [if_neg (Int32.not_lt.mpr h0)]
            · refine bF h0 ?_
              refine ih (k + 1) _ (nI k, g k) _ m2 (by omega) (nI_succ k).symm ?_ hm2
              rw [hf]
              simp only [slyF]
              rw [if_pos (Int32.not_le.mp h0)]
        refine iC (call 4 m (by omega) hm) (by decide) ?_
        rintro _ _ ⟨m2, rfl, hm2, rfl⟩
        exact key 4 0 0 (4, g 4) none m2 (by omega) rfl rfl hm2
  · rw [bi_0, Classical.not_not] at hp
    refine mqi hm ?_
    rw [sSly, if_neg hp]
end MO6
section MO7
variable {n : Nat} {J : Sd → Prop} {c m : Sd} {pt wo : Nat → Nat}
theorem m_comes (h6 : n ≤ 6) (hn : m.1 0 0 0 = nI n) (hO : MO pt wo J) (hm : J m) {s : Nat} (hs : s < 2 ^ 31) (goal : Int32) : Fn 1 153 [vR true 0 0, vI (nI s), vI goal] (c, m) (c, m) (some (vI (bi (goal ≤ nI (plg pt s n))))) := by
  obtain ⟨hb, ho⟩ := hO
  have key : ∀ (j k : Nat) (x a : Int32), k + j = n → x = nI k → a = nI (plg pt s k) → Go 1 153 none 5 [some (vR true 0 0), some (vI (nI s)), some (vI goal), some (vI a), some (vI x)] [] (c, m) (fun w' r' => w' = (c, m) ∧ r' = some (vI (bi (goal ≤ nI (plg pt s n))))) := by
    intro j
    induction j with
    | zero =>
      intro k x a hk hx ha
      refine go_ev 40 [5] (bT (c := m.1 0 0 0 ≤ x) (by rw [hn, hx, nIle (by omega) (by omega)]; omega) ?_)
      rw [show k = n by omega] at ha
      subst ha
      refine bI (fun h => ?_) (fun h => ?_)
      · exact And.intro rfl (And.intro rfl (by rw [bi_f (Int32.not_le.mpr h)]))
      · exact And.intro rfl (And.intro rfl (by rw [bi_t (Int32.not_lt.mp h)]))
    | succ j ih =>
      intro k x a hk hx ha
      subst hx
      refine go_ev 40 [5] (bF (c := m.1 0 0 0 ≤ nI k) (by rw [hn, nIle (by omega) (by omega)]; omega) ?_)
      refine dI (vp6 (by omega)) ?_
      refine ih (k + 1) _ _ (by omega) (nI_succ k).symm ?_
      show a + ((nI s >>> (nI k &&& 31)) &&& 1) * m.2.1 12 0 (nI k).toNatClampNeg = _
      rw [ha, nI_clamp (by omega), (ho m hm k (by omega)).1, nI_bit hs (by omega), pk_mul, nIadd]
      congr 1
      simp only [plg, Nat.testBit_eq_decide_div_mod_eq, decide_eq_true_eq]
      split
      · rename_i h
        rw [h, Nat.one_mul]
      · rename_i h
        have : s / 2 ^ k % 2 = 0 := by omega
        rw [this, Nat.zero_mul]
  refine ctr_ev 40 [5] rfl rfl ?_
  exact key n 0 0 0 (by omega) rfl rfl
theorem m_hasBy (h6 : n ≤ 6) (hn : m.1 0 0 0 = nI n) (hO : MO pt wo J) (hm : J m) {p s : Nat} (hp : p < 6) (hs : s < 2 ^ 31) (goal top : Int32) : Fn 2 154 [vR true 0 0, vI (nI p), vI (nI s), vI goal, vI top] (c, m) (c, m) (some (vI (hbv pt wo n goal top p s))) := by
  have hw := (hO.2 m hm p hp).2
  have hq := (hO.2 m hm p hp).1
  have hcl : (nI p).toNatClampNeg = p := nI_clamp (by omega)
  refine ctr_ev 60 [] rfl rfl (bI (c := (nI s >>> (nI p &&& 31)) &&& 1 = 1) (fun hb => ?_) (fun hb => ?_))
  · rw [nI_bit1 hs (by omega)] at hb
    refine iF (m_comes h6 hn hO hm hs goal) (by decide) (bI (fun hg => ?_) (fun hg => ?_))
    · rw [bi_0] at hg
      refine bF (by decide) (And.intro rfl ?_)
      rw [hbv, if_neg hg, if_pos hb]
    · rw [bi_0, Classical.not_not] at hg
      refine dI (vp6 hp) (bF (by decide) (dI (vp6 hp) (And.intro rfl ?_)))
      rw [hbv, if_pos hg, if_pos hb, ← hw, ← hq]
      show some (vI (m.2.1 13 0 (nI p).toNatClampNeg - m.2.1 12 0 (nI p).toNatClampNeg)) = _
      rw [hcl]
  · rw [nI_bit1 hs (by omega)] at hb
    refine iF (m_comes h6 hn hO hm hs goal) (by decide) (bI (fun hg => ?_) (fun hg => ?_))
    · rw [bi_0] at hg
      refine bT rfl (And.intro rfl ?_)
      rw [hbv, if_neg hg, if_neg hb]
    · rw [bi_0, Classical.not_not] at hg
      refine dI (vp6 hp) (bT rfl (And.intro rfl ?_))
      rw [hbv, if_pos hg, if_neg hb, ← hw]
      show some (vI (m.2.1 13 0 (nI p).toNatClampNeg - 0)) = _
      rw [hcl, Int32.sub_zero]
theorem sx_xor : ∀ s, s < 64 → ∀ p, p < 6 → nI s ^^^ ((1 : Int32) <<< (nI p &&& 31)) = nI (sx s p) := by decide +kernel
theorem sx_lt : ∀ s, s < 64 → ∀ p, p < 6 → sx s p < 128 := by decide +kernel
theorem m_isResting (h6 : n ≤ 6) (hn : m.1 0 0 0 = nI n) (hO : MO pt wo J) (hm : J m) {s : Nat} (hs : s < 64) (goal top : Int32) : Fn 3 155 [vR true 0 0, vI (nI s), vI goal, vI top] (c, m) (c, m) (some (vI (bi (rsB pt wo n goal top s = true)))) := by
  have key : ∀ (j k : Nat) (x a : Int32), k + j = n → x = nI k → (a = 1 ∧ fst (fun p => !decide (hbv pt wo n goal top p (sx s p) ≤ hbv pt wo n goal top p s)) n 0 = fst (fun p => !decide (hbv pt wo n goal top p (sx s p) ≤ hbv pt wo n goal top p s)) j k ∨ a = 0 ∧ fst (fun p => !decide (hbv pt wo n goal top p (sx s p) ≤ hbv pt wo n goal top p s)) n 0 ≠ none) → Go 3 155 none 6 [some (vR true 0 0), some (vI (nI s)), some (vI goal), some (vI top), some (vI a), some (vI x)] [] (c, m) (fun w' r' => w' = (c, m) ∧ r' = some (vI (bi (rsB pt wo n goal top s = true)))) := by
    intro j
    induction j with
    | zero =>
      intro k x a hk hx ha
      refine go_ev 40 [6] (bT (c := m.1 0 0 0 ≤ x) (by rw [hn, hx, nIle (by omega) (by omega)]; omega) ?_)
      rcases ha with ⟨rfl, hf⟩ | ⟨rfl, hf⟩
      · refine And.intro rfl (And.intro rfl ?_)
        rw [bi_t]
        unfold rsB
        rw [hf]
        rfl
      · refine And.intro rfl (And.intro rfl ?_)
        rw [bi_f]
        unfold rsB
        simpa using hf
    | succ j ih =>
      intro k x a hk hx ha
      subst hx
      refine go_ev 60 [6] (bF (c := m.1 0 0 0 ≤ nI k) (by rw [hn, nIle (by omega) (by omega)]; omega) ?_)
      rcases ha with ⟨rfl, hf⟩ | ⟨rfl, hf⟩
      · refine bF (by decide) ?_
        have hsl := sx_lt s hs k (by omega)
        have hx1 := m_hasBy (c := c) h6 hn hO hm (p := k) (s := sx s k) (by omega) (by omega) goal top
        rw [← sx_xor s hs k (by omega)] at hx1
        refine iF hx1 (by decide) ?_
        refine iF (m_hasBy h6 hn hO hm (p := k) (s := s) (by omega) (by omega) goal top) (by decide) ?_
        refine bI (fun h => ?_) (fun h => ?_)
        · refine ih (k + 1) _ _ (by omega) (nI_succ k).symm (Or.inr ⟨rfl, ?_⟩)
          rw [hf]
          simp only [fst]
          rw [if_pos (by simp only [Bool.not_eq_true', decide_eq_false_iff_not]; exact Int32.not_le.mpr h)]
          simp
        · refine ih (k + 1) _ _ (by omega) (nI_succ k).symm (Or.inl ⟨rfl, ?_⟩)
          rw [hf]
          simp only [fst]
          rw [if_neg (by simp only [Bool.not_eq_true', decide_eq_false_iff_not, Classical.not_not]; exact Int32.not_lt.mp h)]
      · refine bT rfl ?_
        refine And.intro rfl (And.intro rfl ?_)
        rw [bi_f]
        unfold rsB
        simpa using hf
  refine ctr_ev 40 [6] rfl rfl ?_
  exact key n 0 0 1 (by omega) rfl (Or.inl ⟨rfl, rfl⟩)
theorem m_rests (h1 : 1 ≤ n) (h6 : n ≤ 6) (hn : ∀ m, J m → m.1 0 0 0 = nI n) (hO : MO pt wo J) (hm : J m) (s goal top : Int32) : Ctr 4 157 [vR true 0 0, vI s, vI goal, vI top] (c, m) (PM J c (sRests pt wo n s goal top)) := by
  have h64 := pow2_le h6
  have h : Fn 0 92 [vL s.toInt64, vL (0 : Int32).toInt64, vL (((1 : Int32) <<< (m.1 0 0 0 &&& 31)) - 1).toInt64] (c, m) (c, m) (some (vI (bi (inS n s)))) := by
    rw [hn m hm, nI_sets h6]
    exact m_in _ _ _ _
  refine ctr_ev 60 [] rfl rfl (iF h (by decide) (bI (fun h => ?_) (fun h => ?_)))
  · rw [bi_0] at h
    refine mqi hm ?_
    rw [sRests, if_neg h]
  · rw [bi_0, Classical.not_not] at h
    rw [sRests, if_pos h]
    refine iF (m_isGoal _ goal) (by decide) (bI (fun hg => ?_) (fun hg => ?_))
    · rw [bi_0] at hg
      refine mqi hm ?_
      rw [if_neg (fun z => hg z.1)]
    · rw [bi_0, Classical.not_not] at hg
      refine iF (m_in _ top 0 99) (by decide) (bI (fun ht => ?_) (fun ht => ?_))
      · rw [bi_0] at ht
        refine mqi hm ?_
        rw [if_neg (fun z => ht z.2)]
      · rw [bi_0, Classical.not_not] at ht
        rw [if_pos ⟨hg, ht⟩]
        obtain ⟨hk, he⟩ := clampP (pow2_pos n) (by omega) h
        generalize tN s = k at hk he ⊢
        subst he
        refine iF (m_isResting h6 (hn m hm) hO hm (by omega) goal top) (by decide) ?_
        refine iF (m_one _ _) (by decide) ?_
        refine mqi hm ?_
        by_cases hb : rsB pt wo n goal top k = true
        · rw [bi_t hb, bi_t (by decide)]
        · rw [bi_f hb, bi_f (by decide)]
theorem m_leastTop (h1 : 1 ≤ n) (h6 : n ≤ 6) (hn : ∀ m, J m → m.1 0 0 0 = nI n) (hO : MO pt wo J) (hm : J m) (goal : Int32) : Ctr 5 158 [vR true 0 0, vI goal] (c, m) (PM J c (sLeastTop pt wo n goal)) := by
  have h64 := pow2_le h6
  have hsz : (1 : Int32) <<< (m.1 0 0 0 &&& 31) = nI (2 ^ n) := by rw [hn m hm, nI_sets h6]
  refine ctr_ev 60 [13] rfl rfl (iF (m_isGoal _ goal) (by decide) (bI (fun hg => ?_) (fun hg => ?_)))
  · rw [bi_0] at hg
    refine mqi hm ?_
    rw [sLeastTop, if_neg hg]
  · rw [bi_0, Classical.not_not] at hg
    rw [sLeastTop, if_pos hg]
    have key : ∀ (j k : Nat) (x : Int32) (v3 v4 v5 : Option PV), k + j = 100 → x = nI k → fst (fun top => rch pt wo n goal (nI top)) 100 0 = fst (fun top => rch pt wo n goal (nI top)) j k → Go 5 158 none 13 [some (vR true 0 0), some (vI goal), some (vI x), v3, v4, v5] [] (c, m) (PM J c (optI (fst (fun top => rch pt wo n goal (nI top)) 100 0))) := by
      intro j
      induction j with
      | zero =>
        intro k x v3 v4 v5 hk hx hf
        subst hx
        refine go_ev 40 [13] (bT (by rw [show (100 : Int32) = nI 100 from rfl, nIle (by decide) (by omega)]; omega) ?_)
        refine mqi hm ?_
        rw [hf]
        rfl
      | succ j ih =>
        intro k x v3 v4 v5 hk hx hf
        subst hx
        refine go_ev 40 [13, 27] (bF (by rw [show (100 : Int32) = nI 100 from rfl, nIle (by decide) (by omega)]; omega) ?_)
        have inner : ∀ (i s : Nat) (y some_ all_ : Int32), s + i = 2 ^ n → y = nI s → some_ = bi ((fst (rsB pt wo n goal (nI k)) s 0).isSome = true) → all_ = bi ((fst (fun s => rsB pt wo n goal (nI k) s && !decide (goal ≤ nI (plg pt s n))) s 0).isNone = true) → Go 5 158 none 27 [some (vR true 0 0), some (vI goal), some (vI (nI k)), some (vI some_), some (vI all_), some (vI y)] [] (c, m) (PM J c (optI (fst (fun top => rch pt wo n goal (nI top)) 100 0))) := by
          intro i
          induction i with
          | zero =>
            intro s y some_ all_ hs hy hso hal
            refine go_ev 40 [13, 27] (bT (c := (1 : Int32) <<< (m.1 0 0 0 &&& 31) ≤ y) (by rw [hsz, hy, nIle (by omega) (by omega)]; omega) ?_)
            subst hso hal
            rw [show s = 2 ^ n by omega]
            have next : ¬ rch pt wo n goal (nI k) = true → ∀ a b d : Option PV, Go 5 158 none 13 [some (vR true 0 0), some (vI goal), some (vI (nI k + 1)), a, b, d] [] (c, m) (PM J c (optI (fst (fun top => rch pt wo n goal (nI top)) 100 0))) := by
              intro hr a b d
              refine ih (k + 1) _ _ _ _ (by omega) (nI_succ k).symm ?_
              rw [hf]
              simp [fst, hr]
            refine bI (fun h => ?_) (fun h => ?_)
            · rw [bi_0] at h
              exact next (by unfold rch; simp [h]) _ _ _
            · rw [bi_0, Classical.not_not] at h
              refine bI (fun h2 => ?_) (fun h2 => ?_)
              · rw [bi_0] at h2
                exact next (by unfold rch; simp [h2]) _ _ _
              · rw [bi_0, Classical.not_not] at h2
                refine mqi hm ?_
                rw [hf]
                simp only [fst]
                rw [if_pos (by unfold rch; simp [h, h2])]
                rfl
          | succ i ih2 =>
            intro s y some_ all_ hs hy hso hal
            subst hy hso hal
            have hs1 := fst_snoc (rsB pt wo n goal (nI k)) s 0
            have hs2 := fst_snoc (fun s => rsB pt wo n goal (nI k) s && !decide (goal ≤ nI (plg pt s n))) s 0
            rw [Nat.zero_add] at hs1 hs2
            refine go_ev 60 [13, 27] (bF (c := (1 : Int32) <<< (m.1 0 0 0 &&& 31) ≤ nI s) (by rw [hsz, nIle (by omega) (by omega)]; omega) ?_)
            refine iF (m_isResting h6 (hn m hm) hO hm (s := s) (by omega) goal (nI k)) (by decide) ?_
            refine bI (fun h => ?_) (fun h => ?_)
            · rw [bi_0] at h
              refine ih2 (s + 1) _ _ _ (by omega) (nI_succ s).symm ?_ ?_
              · rw [hs1]
                cases fst (rsB pt wo n goal (nI k)) s 0 <;> simp [h]
              · rw [hs2]
                cases fst (fun s => rsB pt wo n goal (nI k) s && !decide (goal ≤ nI (plg pt s n))) s 0 <;> simp [h]
            · rw [bi_0, Classical.not_not] at h
              have hsome : (1 : Int32) = bi ((fst (rsB pt wo n goal (nI k)) (s + 1) 0).isSome = true) := by
                rw [bi_t]
                rw [hs1]
                cases fst (rsB pt wo n goal (nI k)) s 0 <;> simp [h]
              refine bI (fun h2 => ?_) (fun h2 => ?_)
              · rw [bi_0] at h2
                refine ih2 (s + 1) _ _ _ (by omega) (nI_succ s).symm hsome ?_
                rw [bi_f]
                rw [hs2]
                cases hq : fst (fun s => rsB pt wo n goal (nI k) s && !decide (goal ≤ nI (plg pt s n))) s 0 with
                | none => rw [hq] at h2; simp at h2
                | some z => simp
              · rw [bi_0, Classical.not_not] at h2
                have hnone := Option.isNone_iff_eq_none.mp h2
                refine iF (m_comes h6 (hn m hm) hO hm (s := s) (by omega) goal) (by decide) ?_
                refine bI (fun h3 => ?_) (fun h3 => ?_)
                · rw [bi_0] at h3
                  refine ih2 (s + 1) _ _ _ (by omega) (nI_succ s).symm hsome ?_
                  rw [bi_f]
                  rw [hs2, hnone]
                  simp [h, h3]
                · rw [bi_0, Classical.not_not] at h3
                  refine ih2 (s + 1) _ _ _ (by omega) (nI_succ s).symm hsome ?_
                  rw [bi_t]
                  rw [hs2, hnone]
                  simp [h3]
        exact inner (2 ^ n) 0 0 0 1 (by omega) rfl (by rw [bi_f (by simp [fst])]) (by rw [bi_t (by simp [fst])])
    exact key 100 0 0 none none none (by omega) rfl rfl
end MO7

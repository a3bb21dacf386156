/-! softer words: the model's loops -/
abbrev lsD (p row : Nat) (cnt f : Int32) (v5 v6 v7 v8 v9 v10 : Option PV) : Ls := [some (vR true 0 0), some (vI (nI p)), some (vI (nI row)), some (vI cnt), some (vI f), v5, v6, v7, v8, v9, v10]
def SBs (n p wd : Nat) (L : List Slt) (m : Sd) : Prop := m.1 0 0 0 = nI n ∧ m.1 0 0 35 = -1 ∧ m.1 0 0 36 = nI wd ∧ m.1 0 0 37 = nI p ∧ MSl m L
theorem SBs_trs {n p wd : Nat} {L : List Slt} {m m' : Sd} (h : TrS m m') (hB : SBs n p wd L m) : SBs n p wd L m' := by
  obtain ⟨h1, h2, h3, h4, h5⟩ := hB
  refine ⟨?_, ?_, ?_, ?_, MSl_trs h h5⟩
  · rw [h.1]; exact h1
  · rw [h.1]; exact h2
  · rw [h.1]; exact h3
  · rw [h.1]; exact h4
theorem SBs_sfU {n p wd : Nat} {L : List Slt} {m : Sd} (sl : Slt) (d : Int32) (hB : SBs n p wd L m) : SBs n p wd L (sfU m sl d) := ⟨hB.1, hB.2.1, hB.2.2.1, hB.2.2.2.1, MSl_sfU sl d hB.2.2.2.2⟩
theorem sfF_step {chk : List StpT → Bool} {k i : Nat} {L : List Slt} {S : List StpT} {sl : Slt} (h : L[i]? = some sl) : sfF chk (k + 1) (L.drop i) S = ((mayS S sl && sfF chk k (L.drop i) (decS S sl)) || sfF chk (k + 1) (L.drop (i + 1)) S) := by
  have hdr : L.drop i = sl :: L.drop (i + 1) := by
    obtain ⟨h1, h2⟩ := List.getElem?_eq_some_iff.mp h
    rw [List.drop_eq_getElem_cons h1, h2]
  rw [hdr]
  rfl
theorem sfF_end {chk : List StpT → Bool} {k i : Nat} {L : List Slt} {S : List StpT} (h : L.length ≤ i) : sfF chk (k + 1) (L.drop i) S = false := by
  rw [List.drop_eq_nil_of_le h]
  rfl
section SFL
variable {n p row wd : Nat} {c m : Sd} {R : List (Nat × Nat × Nat)} {S : List StpT} {L : List Slt} {Q : Wd → Option PV → Prop}
theorem m_softC (hn : n ≤ 6) (hp : p < n) (hr : row < 4 ^ n) (hB : SBs n p wd L m) (hT : MT m p (R, S)) (hok : okT (R, S)) (hSl : ∀ sl ∈ L, okSl S sl) (h80 : L.length ≤ 80) {v5 v6 v7 : Option PV} (k0 : Nat) (hK : ∀ (m2 : Sd) (f : Bool) (x9 : Int32) (v10 : Option PV), TrS m m2 → f = sfF (chS n p row R) 1 (L.drop k0) S → Go 5 146 none 191 (lsD p row (nI 3) (bi (f = true)) v5 v6 v7 (some (vI 1)) (some (vI x9)) v10) [] (c, m2) Q) : ∀ (j i : Nat) (x : Int32) (v10 : Option PV) (m' : Sd), i + j = L.length → x = nI i → TrS m m' → sfF (chS n p row R) 1 (L.drop k0) S = sfF (chS n p row R) 1 (L.drop i) S → Go 5 146 none 124 (lsD p row (nI 3) 0 v5 v6 v7 (some (vI 1)) (some (vI x)) v10) [] (c, m') Q := by
  intro j
  induction j with
  | zero =>
    intro i x v10 m' hi hx hTr hv
    have hB' := SBs_trs hTr hB
    have hend : sfF (chS n p row R) 1 (L.drop k0) S = false := hv.trans (sfF_end (by omega))
    refine go_ev 100 [124, 191] (bT (c := m'.1 0 0 49 ≤ x) (by rw [hB'.2.2.2.2.1, hx, nIle (by omega) (by omega)]; omega) ?_)
    exact hK m' false x v10 hTr hend.symm
  | succ j ih =>
    intro i x v10 m' hi hx hTr hv
    subst hx
    have hB' := SBs_trs hTr hB
    have hT' := MT_trs hTr hT
    obtain ⟨sl, hsl⟩ : ∃ sl, L[i]? = some sl := ⟨_, List.getElem?_eq_getElem (show i < L.length by omega)⟩
    have hoks := hSl sl (List.mem_of_getElem? hsl)
    obtain ⟨hF, hMT⟩ := m_soften1 (c := c) (show p < 6 by omega) (show i < 128 by omega) hB'.2.2.2.2 hsl hT' hB'.2.2.2.1 hok hoks
    have hs64 : sl.1 < 64 := by
      obtain ⟨e, he, -⟩ := hoks
      have h1 : sl.1 < S.length := (List.getElem?_eq_some_iff.mp he).1
      have h2 : S.length ≤ 40 := hok.2.1
      omega
    have hst := sfF_step (chk := chS n p row R) (k := 0) (S := S) hsl
    have h173 : ∀ (f : Bool) (m2 : Sd), TrS (sfU m' sl 1) m2 → f = (mayS S sl && chS n p row R (decS S sl)) → Go 5 146 none 173 (lsD p row (nI 3) 0 v5 v6 v7 (some (vI 1)) (some (vI (nI i))) v10) [vI (bi (f = true))] (c, m2) Q := by
      intro f m2 h2 hf
      have hTr3 := TrS_back (d' := -1) hTr h2 rfl
      have hB2 := SBs_trs h2 (SBs_sfU sl 1 hB')
      have hB3 := SBs_trs hTr3 hB
      have hF2 := m_soften (c := c) (show p < 6 by omega) hs64 (show i < 128 by omega) hB2.2.2.2.2 hsl (-1)
      refine go_ev 100 [124, 191] (iF hF2 (by decide) ?_)
      cases f with
      | false =>
        refine ih (i + 1) _ _ (sfU m2 sl (-1)) (by omega) (nI_succ i).symm hTr3 ?_
        rw [hv, hst]
        show ((mayS S sl && chS n p row R (decS S sl)) || _) = _
        rw [← hf]
        rfl
      | true =>
        have hend : sfF (chS n p row R) 1 (L.drop k0) S = true := by
          rw [hv, hst]
          show ((mayS S sl && chS n p row R (decS S sl)) || _) = _
          rw [← hf]
          rfl
        refine go_ev 100 [124, 191] (bI (c := (sfU m2 sl (-1)).1 0 0 49 ≤ nI i + 1) (fun _ => hK _ true _ _ hTr3 hend.symm) (fun _ => ?_))
        refine bF (c := nI 3 ≤ 2) (by decide) (bF (c := (1 : Int32) = 0) (by decide) (bF (c := (1 : Int32) = 0) (by decide) ?_))
        exact hK _ true _ _ hTr3 hend.symm
    refine go_ev 100 [124, 173, 191] (bF (c := m'.1 0 0 49 ≤ nI i) (by rw [hB'.2.2.2.2.1, nIle (by omega) (by omega)]; omega) ?_)
    refine bF (c := nI 3 ≤ 2) (by decide) (bF (c := (1 : Int32) = 0) (by decide) (bT (c := (0 : Int32) = 0) rfl ?_))
    refine iF hF (by decide) (bI (fun h => ?_) (fun h => ?_))
    · rw [bb0] at h
      exact h173 false _ (TrS_rfl _) (by rw [h]; rfl)
    · rw [bb0, Bool.not_eq_false] at h
      have hB1 := SBs_sfU sl 1 hB'
      refine iC (m_isLet hB1.1 hn hp hr hB1.2.1 hB1.2.2.1 (hMT h) (okT_dec sl hok)) (by decide) ?_
      rintro _ _ ⟨m2, rfl, hTr2, rfl⟩
      refine bI (fun h2 => ?_) (fun h2 => ?_)
      · rw [bb0] at h2
        exact h173 false m2 hTr2 (by rw [h, h2]; rfl)
      · rw [bb0, Bool.not_eq_false] at h2
        exact h173 true m2 hTr2 (by rw [h, h2]; rfl)
theorem m_softB (hn : n ≤ 6) (hp : p < n) (hr : row < 4 ^ n) (hB : SBs n p wd L m) (hT : MT m p (R, S)) (hok : okT (R, S)) (hSl : ∀ sl ∈ L, okSl S sl) (h80 : L.length ≤ 80) {v5 : Option PV} (k0 k : Nat) (hk : k ≤ 1) (hK : ∀ (m2 : Sd) (f : Bool) (x7 : Int32) (v8 v9 v10 : Option PV), TrS m m2 → f = sfF (chS n p row R) (k + 1) (L.drop k0) S → Go 5 146 none 207 (lsD p row (nI (k + 2)) (bi (f = true)) v5 (some (vI 1)) (some (vI x7)) v8 v9 v10) [] (c, m2) Q) : ∀ (j i : Nat) (x : Int32) (v8 v9 v10 : Option PV) (m' : Sd), i + j = L.length → x = nI i → TrS m m' → sfF (chS n p row R) (k + 1) (L.drop k0) S = sfF (chS n p row R) (k + 1) (L.drop i) S → Go 5 146 none 60 (lsD p row (nI (k + 2)) 0 v5 (some (vI 1)) (some (vI x)) v8 v9 v10) [] (c, m') Q := by
  have hk1 : ¬ nI (k + 2) ≤ 1 := by rw [show (1 : Int32) = nI 1 from rfl, nIle (by omega) (by decide)]; omega
  intro j
  induction j with
  | zero =>
    intro i x v8 v9 v10 m' hi hx hTr hv
    have hB' := SBs_trs hTr hB
    have hend : sfF (chS n p row R) (k + 1) (L.drop k0) S = false := hv.trans (sfF_end (by omega))
    refine go_ev 100 [60, 124, 207] (bT (c := m'.1 0 0 49 ≤ x) (by rw [hB'.2.2.2.2.1, hx, nIle (by omega) (by omega)]; omega) ?_)
    exact hK m' false x v8 v9 v10 hTr hend.symm
  | succ j ih =>
    intro i x v8 v9 v10 m' hi hx hTr hv
    subst hx
    have hB' := SBs_trs hTr hB
    have hT' := MT_trs hTr hT
    obtain ⟨sl, hsl⟩ : ∃ sl, L[i]? = some sl := ⟨_, List.getElem?_eq_getElem (show i < L.length by omega)⟩
    have hoks := hSl sl (List.mem_of_getElem? hsl)
    obtain ⟨hF, hMT⟩ := m_soften1 (c := c) (show p < 6 by omega) (show i < 128 by omega) hB'.2.2.2.2 hsl hT' hB'.2.2.2.1 hok hoks
    have hB1 := SBs_sfU sl 1 hB'
    have hs64 : sl.1 < 64 := by
      obtain ⟨e, he, -⟩ := hoks
      have h1 : sl.1 < S.length := (List.getElem?_eq_some_iff.mp he).1
      have h2 : S.length ≤ 40 := hok.2.1
      omega
    have hst := sfF_step (chk := chS n p row R) (k := k) (S := S) hsl
    have h191 : ∀ (f : Bool) (m2 : Sd) (x8 x9 : Int32) (v10 : Option PV), TrS (sfU m' sl 1) m2 → f = (mayS S sl && sfF (chS n p row R) k (L.drop i) (decS S sl)) → Go 5 146 none 191 (lsD p row (nI (k + 2)) (bi (f = true)) v5 (some (vI 1)) (some (vI (nI i))) (some (vI x8)) (some (vI x9)) v10) [] (c, m2) Q := by
      intro f m2 x8 x9 v10 h2 hf
      have hTr3 := TrS_back (d' := -1) hTr h2 rfl
      have hB2 := SBs_trs h2 (SBs_sfU sl 1 hB')
      have hB3 := SBs_trs hTr3 hB
      have hF2 := m_soften (c := c) (show p < 6 by omega) hs64 (show i < 128 by omega) hB2.2.2.2.2 hsl (-1)
      refine go_ev 100 [60, 207] (iF hF2 (by decide) ?_)
      cases f with
      | false =>
        refine ih (i + 1) _ _ _ _ (sfU m2 sl (-1)) (by omega) (nI_succ i).symm hTr3 ?_
        rw [hv, hst, ← hf]
        rfl
      | true =>
        have hend : sfF (chS n p row R) (k + 1) (L.drop k0) S = true := by
          rw [hv, hst, ← hf]
          rfl
        refine go_ev 100 [60, 207] (bI (c := (sfU m2 sl (-1)).1 0 0 49 ≤ nI i + 1) (fun _ => hK _ true _ _ _ _ hTr3 hend.symm) (fun _ => ?_))
        refine bF (c := nI (k + 2) ≤ 1) hk1 (bF (c := (1 : Int32) = 0) (by decide) (bF (c := (1 : Int32) = 0) (by decide) ?_))
        exact hK _ true _ _ _ _ hTr3 hend.symm
    /- count 2: at 120 with the answer -/
    have h118 : k = 0 → ∀ (f : Bool) (m2 : Sd) (x8 : Int32), TrS (sfU m' sl 1) m2 → f = (mayS S sl && sfF (chS n p row R) k (L.drop i) (decS S sl)) → Go 5 146 none 118 (lsD p row (nI (k + 2)) 0 v5 (some (vI 1)) (some (vI (nI i))) (some (vI x8)) v9 v10) [vI (bi (f = true))] (c, m2) Q := by
      intro hk0 f m2 x8 h2 hf
      have hB2 := SBs_trs h2 (SBs_sfU sl 1 hB')
      refine go_ev 100 [191] (bF (c := m2.1 0 0 49 ≤ nI i) (by rw [hB2.2.2.2.2.1, nIle (by omega) (by omega)]; omega) (bT (c := nI (k + 2) ≤ 2) (by rw [hk0]; decide) ?_))
      exact h191 f m2 _ _ _ h2 hf
    refine go_ev 100 [60, 118, 124, 191, 207] (bF (c := m'.1 0 0 49 ≤ nI i) (by rw [hB'.2.2.2.2.1, nIle (by omega) (by omega)]; omega) ?_)
    refine bF (c := nI (k + 2) ≤ 1) hk1 (bF (c := (1 : Int32) = 0) (by decide) (bT (c := (0 : Int32) = 0) rfl ?_))
    refine iF hF (by decide) (bI (c := nI (k + 2) = 2) (fun hc2 => ?_) (fun hc2 => ?_))
    · have hk0 : k = 0 := by
        have := (nIeq (show k + 2 < 2 ^ 31 by omega) (by decide)).mp (show nI (k + 2) = nI 2 from hc2)
        omega
      refine bI (fun h => ?_) (fun h => ?_)
      · rw [bb0] at h
        exact h118 hk0 false _ _ (TrS_rfl _) (by rw [h]; rfl)
      · rw [bb0, Bool.not_eq_false] at h
        refine iC (m_isLet hB1.1 hn hp hr hB1.2.1 hB1.2.2.1 (hMT h) (okT_dec sl hok)) (by decide) ?_
        rintro _ _ ⟨m2, rfl, hTr2, rfl⟩
        refine bI (fun h2 => ?_) (fun h2 => ?_)
        · rw [bb0] at h2
          exact h118 hk0 false m2 _ hTr2 (by rw [h, hk0]; exact h2.symm)
        · rw [bb0, Bool.not_eq_false] at h2
          exact h118 hk0 true m2 _ hTr2 (by rw [h, hk0]; exact h2.symm)
    · have hk0 : k = 1 := by
        rcases (show k = 0 ∨ k = 1 by omega) with h | h
        · exact absurd (by rw [h]; rfl) hc2
        · exact h
      subst hk0
      cases hmy : mayS S sl with
      | false =>
        refine go_ev 100 [191] (bI (c := m'.1 0 0 49 ≤ nI i) (fun _ => ?_) (fun _ => bF (c := nI (1 + 2) ≤ 2) (by decide) (bT (c := (0 : Int32) = 0) rfl ?_)))
        · exact h191 false _ _ _ _ (TrS_rfl _) (by rw [hmy]; rfl)
        · exact h191 false _ _ _ _ (TrS_rfl _) (by rw [hmy]; rfl)
      | true =>
        exact m_softC hn hp hr hB1 (hMT hmy) (okT_dec sl hok) (fun sl' h' => okSl_dec (hSl sl' h')) h80 i (fun m2 f x9 v10 h2 hf => h191 f m2 _ _ _ h2 (by rw [hmy]; exact hf)) (j + 1) i (nI i) v10 (sfU m' sl 1) hi rfl (TrS_rfl _) rfl
theorem m_doesSoft (hn : n ≤ 6) (hp : p < n) (hr : row < 4 ^ n) (hB : SBs n p wd L m) (hT : MT m p (R, S)) (hok : okT (R, S)) (hSl : ∀ sl ∈ L, okSl S sl) (h80 : L.length ≤ 80) (k : Nat) (hk : k ≤ 2) : Ctr 5 146 [vR true 0 0, vI (nI p), vI (nI row), vI (nI (k + 1))] (c, m) (QT m c (bi (sfF (chS n p row R) (k + 1) L S = true))) := by
  have key : ∀ (j i : Nat) (x : Int32) (v6 v7 v8 v9 v10 : Option PV) (m' : Sd), i + j = L.length → x = nI i → TrS m m' → sfF (chS n p row R) (k + 1) L S = sfF (chS n p row R) (k + 1) (L.drop i) S → Go 5 146 none 6 (lsD p row (nI (k + 1)) 0 (some (vI x)) v6 v7 v8 v9 v10) [] (c, m') (QT m c (bi (sfF (chS n p row R) (k + 1) L S = true))) := by
    intro j
    induction j with
    | zero =>
      intro i x v6 v7 v8 v9 v10 m' hi hx hTr hv
      have hB' := SBs_trs hTr hB
      have hend : sfF (chS n p row R) (k + 1) L S = false := hv.trans (sfF_end (by omega))
      refine go_ev 100 [6] (bT (c := m'.1 0 0 49 ≤ x) (by rw [hB'.2.2.2.2.1, hx, nIle (by omega) (by omega)]; omega) (And.intro rfl (qti hTr ?_)))
      rw [hend]
      rfl
    | succ j ih =>
      intro i x v6 v7 v8 v9 v10 m' hi hx hTr hv
      subst hx
      have hB' := SBs_trs hTr hB
      have hT' := MT_trs hTr hT
      obtain ⟨sl, hsl⟩ : ∃ sl, L[i]? = some sl := ⟨_, List.getElem?_eq_getElem (show i < L.length by omega)⟩
      have hoks := hSl sl (List.mem_of_getElem? hsl)
      obtain ⟨hF, hMT⟩ := m_soften1 (c := c) (show p < 6 by omega) (show i < 128 by omega) hB'.2.2.2.2 hsl hT' hB'.2.2.2.1 hok hoks
      have hB1 := SBs_sfU sl 1 hB'
      have hs64 : sl.1 < 64 := by
        obtain ⟨e, he, -⟩ := hoks
        have h1 : sl.1 < S.length := (List.getElem?_eq_some_iff.mp he).1
        have h2 : S.length ≤ 40 := hok.2.1
        omega
      have hst := sfF_step (chk := chS n p row R) (k := k) (S := S) hsl
      have h207 : ∀ (f : Bool) (m2 : Sd) (x6 x7 : Int32) (v8 v9 v10 : Option PV), TrS (sfU m' sl 1) m2 → f = (mayS S sl && sfF (chS n p row R) k (L.drop i) (decS S sl)) → Go 5 146 none 207 (lsD p row (nI (k + 1)) (bi (f = true)) (some (vI (nI i))) (some (vI x6)) (some (vI x7)) v8 v9 v10) [] (c, m2) (QT m c (bi (sfF (chS n p row R) (k + 1) L S = true))) := by
        intro f m2 x6 x7 v8 v9 v10 h2 hf
        have hTr3 := TrS_back (d' := -1) hTr h2 rfl
        have hB2 := SBs_trs h2 (SBs_sfU sl 1 hB')
        have hF2 := m_soften (c := c) (show p < 6 by omega) hs64 (show i < 128 by omega) hB2.2.2.2.2 hsl (-1)
        refine go_ev 100 [6] (iF hF2 (by decide) ?_)
        cases f with
        | false =>
          refine ih (i + 1) _ _ _ _ _ _ (sfU m2 sl (-1)) (by omega) (nI_succ i).symm hTr3 ?_
          rw [hv, hst, ← hf]
          rfl
        | true =>
          have hend : sfF (chS n p row R) (k + 1) L S = true := by
            rw [hv, hst, ← hf]
            rfl
          have hq : (1 : Int32) = bi (sfF (chS n p row R) (k + 1) L S = true) := by rw [hend]; rfl
          exact go_ev 100 [6] (bI (c := (sfU m2 sl (-1)).1 0 0 49 ≤ nI i + 1) (fun _ => And.intro rfl (qti hTr3 hq)) (fun _ => bF (c := (1 : Int32) = 0) (by decide) (And.intro rfl (qti hTr3 hq))))
      have h54 : k = 0 → ∀ (f : Bool) (m2 : Sd) (x6 : Int32), TrS (sfU m' sl 1) m2 → f = (mayS S sl && sfF (chS n p row R) k (L.drop i) (decS S sl)) → Go 5 146 none 54 (lsD p row (nI (k + 1)) 0 (some (vI (nI i))) (some (vI x6)) v7 v8 v9 v10) [vI (bi (f = true))] (c, m2) (QT m c (bi (sfF (chS n p row R) (k + 1) L S = true))) := by
        intro hk0 f m2 x6 h2 hf
        have hB2 := SBs_trs h2 (SBs_sfU sl 1 hB')
        refine go_ev 100 [207] (bF (c := m2.1 0 0 49 ≤ nI i) (by rw [hB2.2.2.2.2.1, nIle (by omega) (by omega)]; omega) (bT (c := nI (k + 1) ≤ 1) (by rw [hk0]; decide) ?_))
        exact h207 f m2 _ _ _ _ _ h2 hf
      refine go_ev 100 [6, 54, 60, 207] (bF (c := m'.1 0 0 49 ≤ nI i) (by rw [hB'.2.2.2.2.1, nIle (by omega) (by omega)]; omega) ?_)
      refine bT (c := (0 : Int32) = 0) rfl ?_
      refine iF hF (by decide) (bI (c := nI (k + 1) = 1) (fun hc2 => ?_) (fun hc2 => ?_))
      · have hk0 : k = 0 := by
          have := (nIeq (show k + 1 < 2 ^ 31 by omega) (by decide)).mp (show nI (k + 1) = nI 1 from hc2)
          omega
        refine bI (fun h => ?_) (fun h => ?_)
        · rw [bb0] at h
          exact h54 hk0 false _ _ (TrS_rfl _) (by rw [h]; rfl)
        · rw [bb0, Bool.not_eq_false] at h
          refine iC (m_isLet hB1.1 hn hp hr hB1.2.1 hB1.2.2.1 (hMT h) (okT_dec sl hok)) (by decide) ?_
          rintro _ _ ⟨m2, rfl, hTr2, rfl⟩
          refine bI (fun h2 => ?_) (fun h2 => ?_)
          · rw [bb0] at h2
            exact h54 hk0 false m2 _ hTr2 (by rw [h, hk0]; exact h2.symm)
          · rw [bb0, Bool.not_eq_false] at h2
            exact h54 hk0 true m2 _ hTr2 (by rw [h, hk0]; exact h2.symm)
      · obtain ⟨k', rfl⟩ : ∃ k', k = k' + 1 := by
          cases k with
          | zero => exact absurd rfl hc2
          | succ k' => exact ⟨k', rfl⟩
        have hk1 : ¬ nI (k' + 1 + 1) ≤ 1 := by rw [show (1 : Int32) = nI 1 from rfl, nIle (by omega) (by decide)]; omega
        cases hmy : mayS S sl with
        | false =>
          refine go_ev 100 [207] (bI (c := m'.1 0 0 49 ≤ nI i) (fun _ => ?_) (fun _ => bF (c := nI (k' + 1 + 1) ≤ 1) hk1 (bT (c := (0 : Int32) = 0) rfl ?_)))
          · exact h207 false _ _ _ _ _ _ (TrS_rfl _) (by rw [hmy]; rfl)
          · exact h207 false _ _ _ _ _ _ (TrS_rfl _) (by rw [hmy]; rfl)
        | true =>
          exact m_softB hn hp hr hB1 (hMT hmy) (okT_dec sl hok) (fun sl' h' => okSl_dec (hSl sl' h')) h80 i k' (by omega) (fun m2 f x7 v8 v9 v10 h2 hf => h207 f m2 _ _ _ _ _ h2 (by rw [hmy]; exact hf)) (j + 1) i (nI i) v8 v9 v10 (sfU m' sl 1) hi rfl (TrS_rfl _) rfl
  refine ctr_ev 100 [6] rfl rfl ?_
  exact key L.length 0 0 none none none none none m (by omega) rfl (TrS_rfl m) rfl
end SFL

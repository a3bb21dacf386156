/-! softer words: the model's slots, and its calls -/
def FSl (m m' : Sd) : Prop := (∀ k i f, ¬ (k = 0 ∧ i = 0 ∧ f = 49) → m'.1 k i f = m.1 k i f) ∧ (∀ k i, k ≠ 47 → k ≠ 48 → m'.2.1 k i = m.2.1 k i) ∧ m'.2.2 = m.2.2
theorem MSl_push {m : Sd} {O : List Slt} (sl : Slt) (hO : MSl m O) {i1 i2 : Nat} (h1 : i1 = O.length) (h2 : i2 = O.length) {x b : Int32} (hx : x = nI sl.1) (hb : b = bi (sl.2 = true)) : MSl (up3 m.1 0 0 49 (m.1 0 0 49 + 1), upA (upA m.2.1 47 0 i1 x) 48 0 i2 b, m.2.2) (O ++ [sl]) := by
  subst h1 h2 hx hb
  refine ⟨?_, fun k sl' hk => ?_⟩
  · show up3 m.1 0 0 49 _ 0 0 49 = _
    rw [up3_s, hO.1, List.length_append]
    exact (nI_succ _).symm
  · show upA (upA m.2.1 47 0 O.length (nI sl.1)) 48 0 O.length (bi (sl.2 = true)) 47 0 k = _ ∧ upA (upA m.2.1 47 0 O.length (nI sl.1)) 48 0 O.length (bi (sl.2 = true)) 48 0 k = _
    rw [upA_n _ _ (fun z => absurd z.1 (by decide)), upA_s, upA_s, upA_n _ _ (fun z => absurd z.1 (by decide))]
    by_cases hkl : k < O.length
    · rw [List.getElem?_append_left hkl] at hk
      rw [pk_un (by omega), pk_un (by omega)]
      exact hO.2 k sl' hk
    · have hlen := (List.getElem?_eq_some_iff.mp hk).1
      rw [List.length_append] at hlen
      have hke : k = O.length := by
        have : ([sl] : List Slt).length = 1 := rfl
        omega
      subst hke
      rw [List.getElem?_append_right (Nat.le_refl _), Nat.sub_self] at hk
      cases hk
      exact ⟨pk_us, pk_us⟩
theorem mRul_last {m : Sd} {p : Nat} : ∀ {R : List (Nat × Nat × Nat)} {r f : Nat}, mRul m p R r f → ∀ {x : Nat × Nat × Nat}, R.getLast? = some x → m.2.1 5 0 (25 * p + r + R.length - 1) = nI x.2.2
  | [], _, _, _, _, h => by cases h
  | [(k, o, e)], r, f, hR, x, h => by
    cases h
    exact hR.1.2.2.2
  | (k, o, e) :: y :: R, r, f, hR, x, h => by
    have h' : (y :: R).getLast? = some x := by
      rw [List.getLast?_cons_cons] at h
      exact h
    have := mRul_last hR.2 h'
    rw [show 25 * p + r + ((k, o, e) :: y :: R).length - 1 = 25 * p + (r + 1) + (y :: R).length - 1 by simp only [List.length_cons]; omega]
    exact this
/-- the last rule ends with the last step -/
def okL (T : Trm) : Prop := ∃ x, T.1.getLast? = some x ∧ x.2.2 = T.2.length
theorem sloF_drop {S : List StpT} {s : Nat} {e : StpT} (h : S[s]? = some e) : sloF (S.drop s) s = sloE s e ++ sloF (S.drop (s + 1)) (s + 1) := by
  have hdr : S.drop s = e :: S.drop (s + 1) := by
    obtain ⟨h1, h2⟩ := List.getElem?_eq_some_iff.mp h
    rw [List.drop_eq_getElem_cons h1, h2]
  rw [hdr]
  rfl
def QFS (m c : Sd) (L : List Slt) : Wd → Option PV → Prop := fun w' r' => ∃ m', w' = (c, m') ∧ FSl m m' ∧ MSl m' L ∧ r' = none
theorem qfi {m c m' : Sd} {L L' : List Slt} (h : FSl m m') (h2 : MSl m' L') (h3 : L' = L) : QFS m c L (c, m') none := ⟨m', rfl, h, by rw [← h3]; exact h2, rfl⟩
section FSL
variable {n p row wd : Nat} {c m : Sd} {T : Trm}
theorem m_findSlots (hp : p < 6) (hT : MT m p T) (hok : okT T) (hl : okL T) (ht : mTld m p T.2) : Ctr 1 143 [vR true 0 0, vI (nI p)] (c, m) (QFS m c (slo T.2)) := by
  obtain ⟨x, hx, hxl⟩ := hl
  have h25 := hok.1
  have h40 := hok.2.1
  have hne : 1 ≤ T.1.length := by
    rcases hT1 : T.1 with _ | ⟨a, R⟩
    · rw [hT1] at hx
      cases hx
    · exact Nat.succ_le_succ (Nat.zero_le _)
  have hlast := mRul_last hT.2.1 hx
  rw [hxl] at hlast
  have key : ∀ (j s : Nat) (y : Int32) (v4 : Option PV) (m' : Sd) (O : List Slt), s + j = T.2.length → y = nI s → FSl m m' → MSl m' O → O.length ≤ 2 * s → slo T.2 = O ++ sloF (T.2.drop s) s → Go 1 143 none 26 [some (vR true 0 0), some (vI (nI p)), some (vI (nI T.2.length)), some (vI y), v4] [] (c, m') (QFS m c (slo T.2)) := by
    intro j
    induction j with
    | zero =>
      intro s y v4 m' O hs hy hF hO hO2 hv
      refine go_ev 100 [26] (bT (c := nI T.2.length ≤ y) (by rw [hy, nIle (by omega) (by omega)]; omega) (qfi hF hO ?_))
      rw [hv, List.drop_eq_nil_of_le (by omega)]
      exact (List.append_nil O).symm
    | succ j ih =>
      intro s y v4 m' O hs hy hF hO hO2 hv
      subst hy
      obtain ⟨e, he⟩ : ∃ e, T.2[s]? = some e := ⟨_, List.getElem?_eq_getElem (show s < T.2.length by omega)⟩
      have hoe := hok.2.2.1 e (List.mem_of_getElem? he)
      rw [sloF_drop he] at hv
      have hix : (64 : Int32) * nI p + nI s = nI (64 * p + s) := by rw [show (64 : Int32) = nI 64 from rfl, pk_mul, nIadd]
      have hic := pk_cl (64 * p + s) hix
      have hin := pk_in (64 * p + s) 384 (by omega) hix
      have hk8 := hoe.1
      have hkk : ∀ m2, FSl m m2 → m2.2.1 6 0 ((64 : Int32) * nI p + nI s).toNatClampNeg = nI e.1 := fun m2 h2 => by
        rw [hic, h2.2.1 6 0 (by decide) (by decide)]
        exact (hT.2.2 s e he).1
      have htt : ∀ m2, FSl m m2 → m2.2.1 11 0 ((64 : Int32) * nI p + nI s).toNatClampNeg = bi (e.2.2.2.2.2 = true) := fun m2 h2 => by
        rw [hic, h2.2.1 11 0 (by decide) (by decide)]
        exact ht s e he
      have hpush : ∀ (m2 : Sd) (i1 i2 : Nat) (x b y : Int32), FSl m m2 → FSl m (up3 m2.1 0 0 49 y, upA (upA m2.2.1 47 0 i1 x) 48 0 i2 b, m2.2.2) := fun m2 i1 i2 x b y h2 => by
        refine ⟨fun k i f hk => ?_, fun k i h47 h48 => ?_, h2.2.2⟩
        · show up3 m2.1 0 0 49 _ k i f = _
          rw [up3_n _ _ hk]
          exact h2.1 k i f hk
        · show upA (upA m2.2.1 47 0 _ _) 48 0 _ _ k i = _
          rw [upA_n _ _ (fun z => h48 z.1), upA_n _ _ (fun z => h47 z.1)]
          exact h2.2.1 k i h47 h48
      have h153 : ∀ (m2 : Sd) (O2 : List Slt), FSl m m2 → MSl m2 O2 → O2.length ≤ 2 * s + 2 → O2 = O ++ sloE s e → Go 1 143 none 153 [some (vR true 0 0), some (vI (nI p)), some (vI (nI T.2.length)), some (vI (nI s)), some (vI ((64 : Int32) * nI p + nI s))] [] (c, m2) (QFS m c (slo T.2)) := by
        intro m2 O2 hF2 hM2 hl2 hO2
        refine go_ev 100 [26] (ih (s + 1) _ _ m2 O2 (by omega) (nI_succ s).symm hF2 hM2 (by omega) ?_)
        rw [hv, hO2, List.append_assoc]
      have h102 : ∀ (m2 : Sd) (O2 : List Slt), FSl m m2 → MSl m2 O2 → O2.length ≤ 2 * s + 1 → O2 = O ++ (if 2 ≤ e.1 ∧ e.1 ≤ 4 then [(s, false)] else []) → Go 1 143 none 102 [some (vR true 0 0), some (vI (nI p)), some (vI (nI T.2.length)), some (vI (nI s)), some (vI ((64 : Int32) * nI p + nI s))] [] (c, m2) (QFS m c (slo T.2)) := by
        intro m2 O2 hF2 hM2 hl2 hO2
        have hskip : ¬ (e.2.2.2.2.2 = true ∧ e.1 ≤ 2) → Go 1 143 none 153 [some (vR true 0 0), some (vI (nI p)), some (vI (nI T.2.length)), some (vI (nI s)), some (vI ((64 : Int32) * nI p + nI s))] [] (c, m2) (QFS m c (slo T.2)) := fun hz => h153 m2 O2 hF2 hM2 (by omega) (by
          unfold sloE
          rw [if_neg hz, List.append_nil]
          exact hO2)
        refine go_ev 100 [26, 153] (dI hin (bI (c := m2.2.1 11 0 ((64 : Int32) * nI p + nI s).toNatClampNeg = 0) (fun h => ?_) (fun h => dI hin (bI (c := (2 : Int32) < m2.2.1 6 0 ((64 : Int32) * nI p + nI s).toNatClampNeg) (fun h2 => ?_) (fun h2 => ?_)))))
        · rw [htt m2 hF2, bb0] at h
          exact hskip (fun z => by rw [h] at z; cases z.1)
        · rw [hkk m2 hF2, show (2 : Int32) = nI 2 from rfl, nIlt (by decide) (by omega)] at h2
          exact hskip (fun z => by omega)
        · rw [htt m2 hF2, bb0, Bool.not_eq_false] at h
          rw [hkk m2 hF2, show (2 : Int32) = nI 2 from rfl, nIlt (by decide) (by omega)] at h2
          have hic2 : (m2.1 0 0 49).toNatClampNeg = O2.length := pk_cl _ hM2.1
          have hin2 : vp_in (m2.1 0 0 49) 128 := pk_in O2.length 128 (by omega) hM2.1
          refine dI hin2 (dI hin2 ?_)
          refine h153 (up3 m2.1 0 0 49 (m2.1 0 0 49 + 1), upA (upA m2.2.1 47 0 (m2.1 0 0 49).toNatClampNeg (nI s)) 48 0 (m2.1 0 0 49).toNatClampNeg (vp_nar .boolean 1), m2.2.2) (O2 ++ [(s, true)]) (hpush _ _ _ _ _ _ hF2) (MSl_push (s, true) hM2 hic2 hic2 rfl rfl) (by rw [List.length_append]; show O2.length + 1 ≤ _; omega) ?_
          unfold sloE
          rw [if_pos (show e.2.2.2.2.2 = true ∧ e.1 ≤ 2 from ⟨h, by omega⟩), hO2, List.append_assoc]
      have h72 : 2 ≤ e.1 ∧ e.1 ≤ 4 → Go 1 143 none 72 [some (vR true 0 0), some (vI (nI p)), some (vI (nI T.2.length)), some (vI (nI s)), some (vI ((64 : Int32) * nI p + nI s))] [] (c, m') (QFS m c (slo T.2)) := by
        intro hk24
        have hic2 : (m'.1 0 0 49).toNatClampNeg = O.length := pk_cl _ hO.1
        have hin2 : vp_in (m'.1 0 0 49) 128 := pk_in O.length 128 (by omega) hO.1
        refine go_ev 100 [26, 102] (dI hin2 (dI hin2 ?_))
        refine h102 (up3 m'.1 0 0 49 (m'.1 0 0 49 + 1), upA (upA m'.2.1 47 0 (m'.1 0 0 49).toNatClampNeg (nI s)) 48 0 (m'.1 0 0 49).toNatClampNeg (vp_nar .boolean 0), m'.2.2) (O ++ [(s, false)]) (hpush _ _ _ _ _ _ hF) (MSl_push (s, false) hO hic2 hic2 rfl rfl) (by rw [List.length_append]; show O.length + 1 ≤ _; omega) ?_
        rw [if_pos hk24]
      refine go_ev 100 [26, 72, 102] (bF (c := nI T.2.length ≤ nI s) (by rw [nIle (by omega) (by omega)]; omega) (dI hin ?_))
      have hkm := hkk m' hF
      refine bI (c := m'.2.1 6 0 ((64 : Int32) * nI p + nI s).toNatClampNeg = 2) (fun h => ?_) (fun h => dI hin (bI (c := m'.2.1 6 0 ((64 : Int32) * nI p + nI s).toNatClampNeg = 3) (fun h3 => ?_) (fun h3 => dI hin (bI (c := m'.2.1 6 0 ((64 : Int32) * nI p + nI s).toNatClampNeg = 4) (fun h4 => ?_) (fun h4 => ?_)))))
      · rw [hkm, show (2 : Int32) = nI 2 from rfl, nIeq (by omega) (by decide)] at h
        exact h72 (by omega)
      · rw [hkm, show (3 : Int32) = nI 3 from rfl, nIeq (by omega) (by decide)] at h3
        exact h72 (by omega)
      · rw [hkm, show (4 : Int32) = nI 4 from rfl, nIeq (by omega) (by decide)] at h4
        exact h72 (by omega)
      · rw [hkm, show (2 : Int32) = nI 2 from rfl, nIeq (by omega) (by decide)] at h
        rw [hkm, show (3 : Int32) = nI 3 from rfl, nIeq (by omega) (by decide)] at h3
        rw [hkm, show (4 : Int32) = nI 4 from rfl, nIeq (by omega) (by decide)] at h4
        refine h102 m' O hF hO (by omega) ?_
        rw [if_neg (by omega), List.append_nil]
  have hpc : (nI p).toNatClampNeg = p := pk_cl p
  have hrl : m.2.1 1 0 (nI p).toNatClampNeg = nI T.1.length := by rw [hpc]; exact hT.1
  have hi5 : (25 : Int32) * nI p + m.2.1 1 0 (nI p).toNatClampNeg - 1 = nI (25 * p + 0 + T.1.length - 1) := by
    rw [hrl, show (25 : Int32) = nI 25 from rfl, pk_mul, nIadd, nI_sub1 (by omega)]
    rfl
  have hic5 := pk_cl (25 * p + 0 + T.1.length - 1) hi5
  have hin5 := pk_in (25 * p + 0 + T.1.length - 1) 150 (by omega) hi5
  have hl5 : m.2.1 5 0 ((25 : Int32) * nI p + m.2.1 1 0 (nI p).toNatClampNeg - 1).toNatClampNeg = nI T.2.length := by rw [hic5]; exact hlast
  have h0 : FSl m (up3 m.1 0 0 49 0, m.2.1, m.2.2) := ⟨fun k i f hk => up3_n _ _ hk, fun _ _ _ _ => rfl, rfl⟩
  have hgo := key T.2.length 0 0 none (up3 m.1 0 0 49 0, m.2.1, m.2.2) [] (by omega) rfl h0 ⟨up3_s m.1 0 0 49 0, fun k sl hk => by cases hk⟩ (Nat.le_refl _) rfl
  rw [← hl5] at hgo
  exact ctr_ev 100 [26] rfl rfl (dI (pk_in p 6 (by omega)) (dI hin5 hgo))
end FSL
/-! one person's softness -/
def SfS (m m' : Sd) : Prop := (∀ k i f, ¬ (k = 0 ∧ i = 0 ∧ f = 49) → m'.1 k i f = m.1 k i f) ∧ (∀ k i, ¬ (38 ≤ k ∧ k ≤ 40) → k ≠ 47 → k ≠ 48 → m'.2.1 k i = m.2.1 k i) ∧ m'.2.2 = m.2.2
theorem SfS_tr {a b c : Sd} (h : SfS a b) (h2 : SfS b c) : SfS a c := ⟨fun k i f h1 => (h2.1 k i f h1).trans (h.1 k i f h1), fun k i h1 h3 h4 => (h2.2.1 k i h1 h3 h4).trans (h.2.1 k i h1 h3 h4), h2.2.2.trans h.2.2⟩
theorem SfS_trs {m m' : Sd} (h : TrS m m') : SfS m m' := ⟨fun k i f _ => by rw [h.1], fun k i h1 _ _ => h.2.1 k i (fun z => h1 (by omega)), h.2.2⟩
theorem SfS_fsl {m m' : Sd} (h : FSl m m') : SfS m m' := ⟨h.1, fun k i _ h1 h2 => h.2.1 k i h1 h2, h.2.2⟩
theorem MT_zero {m m' : Sd} {p : Nat} {T : Trm} (hT : MT m p T) (hp : p < 6) (h64 : T.2.length ≤ 64) (h37 : m.1 0 0 37 = -1) (h37' : m'.1 0 0 37 = nI p) (hA : ∀ k, k ≤ 11 → m'.2.1 k 0 = m.2.1 k 0) (hz : ∀ s, s < 64 → m'.2.1 38 0 s = 0 ∧ m'.2.1 39 0 s = 0) : MT m' p T := by
  refine ⟨by rw [hA 1 (by decide)]; exact hT.1, mRul_arr (fun k hk => hA k (by omega)) hT.2.1, fun s e he => ?_⟩
  have := hT.2.2 s e he
  have hs : s < T.2.length := (List.getElem?_eq_some_iff.mp he).1
  obtain ⟨z1, z2⟩ := hz s (by omega)
  unfold mStp effG effM at this ⊢
  rw [if_neg (by rw [h37]; exact nI_m1 (by omega)), if_neg (by rw [h37]; exact nI_m1 (by omega))] at this
  rw [if_pos h37'.symm, if_pos h37'.symm, z1, z2, hA 6 (by decide), hA 7 (by decide), hA 8 (by decide), hA 9 (by decide), hA 10 (by decide)]
  exact this
theorem MT_soft {m m' : Sd} {p : Nat} {T : Trm} (hT : MT m p T) (hp : p < 6) (h37 : m.1 0 0 37 = -1) (h37' : m'.1 0 0 37 = -1) (hA : ∀ k, k ≤ 11 → m'.2.1 k 0 = m.2.1 k 0) : MT m' p T := by
  refine ⟨by rw [hA 1 (by decide)]; exact hT.1, mRul_arr (fun k hk => hA k (by omega)) hT.2.1, fun s e he => ?_⟩
  have := hT.2.2 s e he
  unfold mStp effG effM at this ⊢
  rw [if_neg (by rw [h37]; exact nI_m1 (by omega)), if_neg (by rw [h37]; exact nI_m1 (by omega))] at this
  rw [if_neg (by rw [h37']; exact nI_m1 (by omega)), if_neg (by rw [h37']; exact nI_m1 (by omega)), hA 6 (by decide), hA 7 (by decide), hA 8 (by decide), hA 9 (by decide), hA 10 (by decide)]
  exact this
def QSf (m c : Sd) (r : Int32) : Wd → Option PV → Prop := fun w' r' => ∃ m', w' = (c, m') ∧ SfS m m' ∧ r' = some (vI r)
theorem qsfi {m c m' : Sd} {r r' : Int32} (h : SfS m m') (h2 : r' = r) : QSf m c r (c, m') (some (vI r')) := ⟨m', rfl, h, by rw [h2]⟩
section SBY
variable {n p row wd : Nat} {c m : Sd} {T : Trm}
theorem m_softBy (hn : n ≤ 6) (hp : p < n) (hr : row < 4 ^ n) (hmn : m.1 0 0 0 = nI n) (h35 : m.1 0 0 35 = -1) (h36 : m.1 0 0 36 = nI wd) (h37 : m.1 0 0 37 = -1) (hT : MT m p T) (hok : okT T) (hl : okL T) (ht : mTld m p T.2) : Ctr 6 147 [vR true 0 0, vI (nI p), vI (nI row)] (c, m) (QSf m c (optI (sfN n p row T))) := by
  obtain ⟨R, S⟩ := T
  have h40 : S.length ≤ 40 := hok.2.1
  have h80 : (slo S).length ≤ 80 := by
    have h1 := sloF_len S 0
    unfold slo
    omega
  refine ctr_ev 100 [18] rfl rfl (iC (m_isLet (p := p) (R := R) (S := S) hmn hn hp hr h35 h36 hT hok) (by decide) ?_)
  rintro _ _ ⟨m1, rfl, hTr1, rfl⟩
  refine bI (fun h => ?_) (fun h => ?_)
  · rw [bb0] at h
    have hf0 : sfN n p row (R, S) = fst (fun k => sfF (chS n p row R) k (slo S) S) 3 1 := by
      unfold sfN
      conv => lhs; unfold fst
      rw [if_neg]
      rw [Bool.not_eq_true]
      exact h
    refine iC (m_findSlots (T := (R, S)) (by omega) (MT_trs hTr1 hT) hok hl (fun s e he => by rw [hTr1.2.1 11 0 (by decide)]; exact ht s e he)) (by decide) ?_
    rintro _ _ ⟨m2, rfl, hF2, hM2, rfl⟩
    have hS2 : SfS m m2 := SfS_tr (SfS_trs hTr1) (SfS_fsl hF2)
    /- the counts -/
    have kC : ∀ (m3 : Sd), SBs n p wd (slo S) m3 → MT m3 p (R, S) → (∀ m4, TrS m3 m4 → SfS m (up3 m4.1 0 0 37 (-1), m4.2.1, m4.2.2)) → ∀ (j k : Nat) (x f : Int32) (m4 : Sd), k + j = 3 → x = nI (k + 1) → f = -1 → TrS m3 m4 → sfN n p row (R, S) = fst (fun k => sfF (chS n p row R) k (slo S) S) j (k + 1) → Go 6 147 none 54 [some (vR true 0 0), some (vI (nI p)), some (vI (nI row)), some (vI f), some (vI x)] [] (c, m4) (QSf m c (optI (sfN n p row (R, S)))) := by
      intro m3 hB3 hT3 hSf j
      induction j with
      | zero =>
        intro k x f m4 hk hx hf h4 hv
        refine go_ev 100 [54] (bT (c := (4 : Int32) ≤ x) (by rw [hx, show k = 3 by omega]; decide) (qsfi (hSf m4 h4) ?_))
        rw [hv, hf]
        rfl
      | succ j ih =>
        intro k x f m4 hk hx hf h4 hv
        subst hx hf
        refine go_ev 100 [54] (bF (c := (4 : Int32) ≤ nI (k + 1)) (by rw [show (4 : Int32) = nI 4 from rfl, nIle (by decide) (by omega)]; omega) (bF (c := (0 : Int32) ≤ -1) (by decide) ?_))
        refine iC (m_doesSoft hn hp hr (SBs_trs h4 hB3) (MT_trs h4 hT3) hok (slo_ok S) h80 k (by omega)) (by decide) ?_
        rintro _ _ ⟨m5, rfl, h5, rfl⟩
        have h45 := TrS_tr h4 h5
        refine bI (fun hz => ?_) (fun hz => ?_)
        · rw [bb0] at hz
          refine ih (k + 1) _ _ m5 (by omega) (nI_succ _).symm rfl h45 ?_
          rw [hv]
          conv => lhs; unfold fst
          rw [if_neg]
          rw [Bool.not_eq_true]
          exact hz
        · rw [bb0, Bool.not_eq_false] at hz
          have hr' : nI (k + 1) = optI (sfN n p row (R, S)) := by
            rw [hv]
            unfold fst
            rw [if_pos hz]
            rfl
          exact go_ev 100 [] (bI (c := (4 : Int32) ≤ nI (k + 1) + 1) (fun _ => qsfi (hSf m5 h45) hr') (fun _ => bT (c := (0 : Int32) ≤ nI (k + 1)) (nI_pos' (by omega)) (qsfi (hSf m5 h45) hr')))
    /- wiping -/
    have kZ : ∀ (j k : Nat) (x : Int32) (m' : Sd), k + j = 64 → x = nI k → (∀ k i f, m'.1 k i f = m2.1 k i f) → (∀ k i, ¬ (38 ≤ k ∧ k ≤ 39) → m'.2.1 k i = m2.2.1 k i) → m'.2.2 = m2.2.2 → (∀ s, s < k → m'.2.1 38 0 s = 0 ∧ m'.2.1 39 0 s = 0) → Go 6 147 none 18 [some (vR true 0 0), some (vI (nI p)), some (vI (nI row)), some (vI x), none] [] (c, m') (QSf m c (optI (sfN n p row (R, S)))) := by
      intro j
      induction j with
      | zero =>
        intro k x m' hk hx hf ha hr' hz
        refine go_ev 100 [18, 54] (bT (c := (64 : Int32) ≤ x) (by rw [hx, show k = 64 by omega]; decide) ?_)
        have hA : ∀ k, ¬ (38 ≤ k ∧ k ≤ 40) → k ≠ 47 → k ≠ 48 → ∀ i, m'.2.1 k i = m.2.1 k i := fun k h1 h2 h3 i => by
          rw [ha k i (by omega)]
          exact hS2.2.1 k i h1 h2 h3
        have hfd : ∀ f, f ≠ 49 → f ≠ 37 → up3 m'.1 0 0 37 (nI p) 0 0 f = m.1 0 0 f := fun f h49 hf37 => by
          rw [up3_n _ _ (fun z => hf37 z.2.2), hf]
          exact hS2.1 0 0 f (fun z => h49 z.2.2)
        refine kC (up3 m'.1 0 0 37 (nI p), m'.2.1, m'.2.2) ⟨(hfd 0 (by decide) (by decide)).trans hmn, (hfd 35 (by decide) (by decide)).trans h35, (hfd 36 (by decide) (by decide)).trans h36, up3_s m'.1 0 0 37 (nI p), ?_, ?_⟩ (MT_zero hT (by omega) (by show S.length ≤ 64; omega) h37 (up3_s m'.1 0 0 37 (nI p)) (fun k hk => hA k (by omega) (by omega) (by omega) 0) (fun s hs => hz s (by omega))) (fun m4 h4 => ?_) 3 0 _ _ _ rfl rfl rfl (TrS_rfl _) hf0
        · show up3 m'.1 0 0 37 (nI p) 0 0 49 = _
          rw [up3_n _ _ (fun z => absurd z.2.2 (by decide)), hf]
          exact hM2.1
        · intro k sl hk
          show m'.2.1 47 0 k = _ ∧ m'.2.1 48 0 k = _
          rw [ha 47 0 (by decide), ha 48 0 (by decide)]
          exact hM2.2 k sl hk
        · refine ⟨fun k i f hk => ?_, fun k i h1 h2 h3 => ?_, ?_⟩
          · show up3 m4.1 0 0 37 (-1) k i f = _
            by_cases h37k : k = 0 ∧ i = 0 ∧ f = 37
            · obtain ⟨rfl, rfl, rfl⟩ := h37k
              rw [up3_s]
              exact h37.symm
            · rw [up3_n _ _ h37k, h4.1]
              show up3 m'.1 0 0 37 (nI p) k i f = _
              rw [up3_n _ _ h37k, hf]
              exact hS2.1 k i f hk
          · show m4.2.1 k i = _
            rw [h4.2.1 k i (by omega)]
            exact hA k h1 h2 h3 i
          · show m4.2.2 = _
            rw [h4.2.2]
            show m'.2.2 = _
            rw [hr']
            exact hS2.2.2
      | succ j ih =>
        intro k x m' hk hx hf ha hr' hz
        subst hx
        have hkc : (nI k).toNatClampNeg = k := pk_cl k
        refine go_ev 100 [18, 54] (bF (c := (64 : Int32) ≤ nI k) (by rw [show (64 : Int32) = nI 64 from rfl, nIle (by decide) (by omega)]; omega) ?_)
        refine dI (pk_in k 64 (by omega)) (dI (pk_in k 64 (by omega)) ?_)
        refine ih (k + 1) _ (m'.1, upA (upA m'.2.1 38 0 (nI k).toNatClampNeg 0) 39 0 (nI k).toNatClampNeg 0, m'.2.2) (by omega) (nI_succ k).symm hf (fun k' i h => ?_) hr' (fun s hs => ?_)
        · show upA (upA m'.2.1 38 0 _ 0) 39 0 _ 0 k' i = _
          rw [upA_n _ _ (fun z => h (by omega)), upA_n _ _ (fun z => h (by omega))]
          exact ha k' i h
        · show upA (upA m'.2.1 38 0 (nI k).toNatClampNeg 0) 39 0 (nI k).toNatClampNeg 0 38 0 s = 0 ∧ upA (upA m'.2.1 38 0 (nI k).toNatClampNeg 0) 39 0 (nI k).toNatClampNeg 0 39 0 s = 0
          rw [upA_n _ _ (fun z => absurd z.1 (by decide)), upA_s, upA_s, upA_n _ _ (fun z => absurd z.1 (by decide)), hkc]
          by_cases hsk : s = k
          · rw [hsk, pk_us, pk_us]
            exact ⟨rfl, rfl⟩
          · rw [pk_un hsk, pk_un hsk]
            exact hz s (by omega)
    exact kZ 64 0 0 m2 (by omega) rfl (fun _ _ _ => rfl) (fun _ _ _ => rfl) rfl (fun s hs => absurd hs (by omega))
  · rw [bb0, Bool.not_eq_false] at h
    refine qsfi (SfS_trs hTr1) ?_
    unfold sfN fst
    rw [if_pos (show sfF (chS n p row (R, S).1) 0 (slo (R, S).2) (R, S).2 = true from h)]
    rfl
end SBY
section MSO
variable {n : Nat} {Ts : Nat → Trm} {Y : Sd → Prop} {c m : Sd} {wd : Nat}
theorem MV_sfs {m m' : Sd} (hY : ∀ m m', SfS m m' → Y m → Y m') (h : SfS m m') (hV : MV n Ts Y none wd m) : MV n Ts Y none wd m' := by
  obtain ⟨⟨a1, a2, a3, a4, a5⟩, h2, h3⟩ := hV
  have e : ∀ f, f ≠ 49 → m'.1 0 0 f = m.1 0 0 f := fun f hf => h.1 0 0 f (fun z => hf z.2.2)
  have e37 := (e 37 (by decide)).trans a5
  exact ⟨⟨(e 0 (by decide)).trans a1, (e 35 (by decide)).trans a2, a3, (e 36 (by decide)).trans a4, e37⟩, fun p hp => MT_soft (h2 p hp) hp a5 e37 (fun k hk => h.2.1 k 0 (by omega) (by omega) (by omega)), hY _ _ h h3⟩
theorem m_soft (h1 : 1 ≤ n) (h6 : n ≤ 6) (hok : ∀ p, okT (Ts p)) (hokl : ∀ p, okL (Ts p)) (hY : ∀ m m', SfS m m' → Y m → Y m') (hYt : ∀ m, Y m → ∀ p, p < 6 → mTld m p (Ts p).2) (hm : MV n Ts Y none wd m) (p r : Int32) : Ctr 7 148 [vR true 0 0, vI p, vI r] (c, m) (PM (MV n Ts Y none wd) c (sSoft n Ts p r)) := by
  have hn : m.1 0 0 0 = nI n := hm.1.1
  have hr6 := pow4_le h6
  have hby : ∀ (m : Sd) (q row : Nat), MV n Ts Y none wd m → q < n → row < 4 ^ n → Ctr 6 147 [vR true 0 0, vI (nI q), vI (nI row)] (c, m) (QSf m c (optI (sfN n q row (Ts q)))) := fun m q row hm hq hr => by
    obtain ⟨⟨a1, a2, a3, a4, a5⟩, h2, h3⟩ := hm
    exact m_softBy h6 hq hr a1 a2 a4 a5 (h2 q (by omega)) (hok q) (hokl q) (hYt m h3 q (by omega))
  have hrow : p = -1 ∨ inP n p → Go 7 148 none 17 [some (vR true 0 0), some (vI p), some (vI r), none, none, none] [] (c, m) (PM (MV n Ts Y none wd) c (sSoft n Ts p r)) := by
    intro hp
    refine go_ev 100 [46] (iF (m_noRow h6 hn r) (by decide) (bI (fun h => ?_) (fun h => ?_)))
    · rw [bi_0, Classical.not_not] at h
      rw [sSoft, if_pos hp, if_pos h]
      obtain ⟨hk2, he2⟩ := clampP (pow4_pos n) (by omega) h
      generalize tN r = row at hk2 he2 ⊢
      subst he2
      refine bI (c := p = -1) (fun hm1 => ?_) (fun hm1 => ?_)
      · rw [if_pos hm1]
        have key : ∀ (j k a : Nat) (x ax : Int32) (v5 : Option PV) (m : Sd), k + j = n → x = nI k → ax = nI a → MV n Ts Y none wd m → sfA (fun q => sfN n q row (Ts q)) n 0 0 = sfA (fun q => sfN n q row (Ts q)) j k a → Go 7 148 none 46 [some (vR true 0 0), some (vI p), some (vI (nI row)), some (vI ax), some (vI x), v5] [] (c, m) (PM (MV n Ts Y none wd) c (optI (sfA (fun q => sfN n q row (Ts q)) n 0 0))) := by
          intro j
          induction j with
          | zero =>
            intro k a x ax v5 m hk hx ha hm hf
            refine go_ev 100 [46] (bT (c := m.1 0 0 0 ≤ x) (by rw [hm.1.1, hx, nIle (by omega) (by omega)]; omega) (mqi hm ?_))
            rw [hf, ha]
            rfl
          | succ j ih =>
            intro k a x ax v5 m hk hx ha hm hf
            subst hx ha
            refine go_ev 100 [46] (bF (c := m.1 0 0 0 ≤ nI k) (by rw [hm.1.1, nIle (by omega) (by omega)]; omega) ?_)
            refine iC (hby m k row hm (by omega) hk2) (by decide) ?_
            rintro _ _ ⟨m', rfl, hS, rfl⟩
            have hm' := MV_sfs hY hS hm
            have hop := opt_ge (o := sfN n k row (Ts k)) (fun q hq => by
              have := sfN_lt hq
              omega)
            refine bI (c := (0 : Int32) ≤ optI (sfN n k row (Ts k))) (fun h => ?_) (fun h => ?_)
            · rw [hop] at h
              obtain ⟨v, hv⟩ := Option.isSome_iff_exists.mp h
              have hgo := ih (k + 1) (a + v) (nI k + 1) (nI a + optI (sfN n k row (Ts k))) (some (vI (optI (sfN n k row (Ts k))))) m' (by omega) (nI_succ k).symm (by rw [hv]; exact nIadd a v) hm' (by
                rw [hf]
                conv => lhs; unfold sfA
                rw [hv])
              exact hgo
            · rw [hop] at h
              refine mqi hm' ?_
              rw [hf]
              unfold sfA
              cases hq : sfN n k row (Ts k) with
              | none => rfl
              | some v =>
                rw [hq] at h
                exact absurd rfl h
        exact key n 0 0 0 0 none m (by omega) rfl rfl hm rfl
      · rw [if_neg hm1]
        obtain ⟨hk1, he1⟩ := clampP h1 (by omega) (hp.resolve_left hm1)
        generalize tN p = q at hk1 he1 ⊢
        subst he1
        refine iC (hby m q row hm hk1 hk2) (by decide) ?_
        rintro _ _ ⟨m', rfl, hS, rfl⟩
        exact mqi (MV_sfs hY hS hm) rfl
    · rw [bi_0, Classical.not_not] at h
      refine mqi hm ?_
      rw [sSoft, if_pos hp, if_neg h]
  refine ctr_ev 100 [17] rfl rfl (bI (c := p = -1) (fun h => hrow (Or.inl h)) (fun h => ?_))
  refine iF (m_noPerson hn p) (by decide) (bI (fun h2 => ?_) (fun h2 => ?_))
  · rw [bi_0, Classical.not_not] at h2
    exact hrow (Or.inr h2)
  · rw [bi_0, Classical.not_not] at h2
    refine mqi hm ?_
    rw [sSoft, if_neg (fun z => z.elim h h2)]
end MSO

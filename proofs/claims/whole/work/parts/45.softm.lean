/-! softer words: the model -/
def sfK (g : Bool) : Nat := if g = true then 39 else 38
def sfU (m : Sd) (sl : Slt) (d : Int32) : Sd := (m.1, upA m.2.1 (sfK sl.2) 0 sl.1 (m.2.1 (sfK sl.2) 0 sl.1 + d), m.2.2)
def MSl (m : Sd) (L : List Slt) : Prop := m.1 0 0 49 = nI L.length ∧ ∀ k sl, L[k]? = some sl → m.2.1 47 0 k = nI sl.1 ∧ m.2.1 48 0 k = bi (sl.2 = true)
def mTld (m : Sd) (p : Nat) (S : List StpT) : Prop := ∀ s e, S[s]? = some e → m.2.1 11 0 (64 * p + s) = bi (e.2.2.2.2.2 = true)
theorem i32_sub3 (a b d : Int32) : a - (b + d) = a - b - d := by
  rw [Int32.sub_eq_add_neg, Int32.neg_add, Int32.sub_eq_add_neg, Int32.sub_eq_add_neg, Int32.sub_eq_add_neg, Int32.add_assoc]
theorem MSl_trs {m m' : Sd} {L : List Slt} (h : TrS m m') (hL : MSl m L) : MSl m' L := by
  refine ⟨by rw [h.1]; exact hL.1, fun k sl hk => ?_⟩
  rw [h.2.1 47 0 (by decide), h.2.1 48 0 (by decide)]
  exact hL.2 k sl hk
theorem sfU_arr (m : Sd) (sl : Slt) (d : Int32) {k : Nat} (hk : k ≠ 38 ∧ k ≠ 39) (i : Nat) : (sfU m sl d).2.1 k i = m.2.1 k i := by
  refine upA_n _ _ (fun z => ?_)
  have := z.1
  unfold sfK at this
  split at this <;> omega
theorem MSl_sfU {m : Sd} {L : List Slt} (sl : Slt) (d : Int32) (hL : MSl m L) : MSl (sfU m sl d) L := by
  refine ⟨hL.1, fun k sl' hk => ?_⟩
  rw [sfU_arr m sl d (by decide), sfU_arr m sl d (by decide)]
  exact hL.2 k sl' hk
theorem TrS_back {m m' m2 : Sd} {sl : Slt} {d d' : Int32} (h : TrS m m') (h2 : TrS (sfU m' sl d) m2) (hd : d + d' = 0) : TrS m (sfU m2 sl d') := by
  have hK : sfK sl.2 ≠ 40 := by
    unfold sfK
    split <;> decide
  refine ⟨h2.1.trans h.1, fun k i hk => ?_, h2.2.2.trans h.2.2⟩
  rw [← h.2.1 k i hk]
  show upA m2.2.1 (sfK sl.2) 0 sl.1 (m2.2.1 (sfK sl.2) 0 sl.1 + d') k i = _
  have e1 := h2.2.1 (sfK sl.2) 0 hK
  by_cases hki : k = sfK sl.2 ∧ i = 0
  · obtain ⟨rfl, rfl⟩ := hki
    rw [upA_s, e1]
    show upd (upA m'.2.1 (sfK sl.2) 0 sl.1 (m'.2.1 (sfK sl.2) 0 sl.1 + d) (sfK sl.2) 0) sl.1 (upA m'.2.1 (sfK sl.2) 0 sl.1 (m'.2.1 (sfK sl.2) 0 sl.1 + d) (sfK sl.2) 0 sl.1 + d') = _
    rw [upA_s, pk_us, Int32.add_assoc, hd, Int32.add_zero]
    funext j
    by_cases hj : j = sl.1
    · rw [hj, pk_us]
    · rw [pk_un hj, pk_un hj]
  · rw [upA_n _ _ hki, h2.2.1 k i hk]
    exact upA_n _ _ hki
theorem mRul_arr {m m' : Sd} {p : Nat} (hA : ∀ k, k ≤ 5 → m'.2.1 k 0 = m.2.1 k 0) : ∀ {R : List (Nat × Nat × Nat)} {r f : Nat}, mRul m p R r f → mRul m' p R r f
  | [], _, _, _ => trivial
  | (k, o, e) :: R, r, f, hR => by
    obtain ⟨h1, h2⟩ := hR
    refine ⟨?_, mRul_arr hA h2⟩
    rw [hA 2 (by decide), hA 3 (by decide), hA 4 (by decide), hA 5 (by decide)]
    exact h1
theorem mStp_val {m : Sd} {p : Nat} {S : List StpT} {sl : Slt} {e : StpT} (hS : mStps m p S) (h37 : m.1 0 0 37 = nI p) (he : S[sl.1]? = some e) (h5 : e.1 < 5) (h2 : sl.2 = false → 2 ≤ e.1) : m.2.1 (if sl.2 = true then 10 else 9) 0 (64 * p + sl.1) - m.2.1 (sfK sl.2) 0 sl.1 = nI (valE sl.2 e) := by
  obtain ⟨s, g⟩ := sl
  obtain ⟨-, q1, q2⟩ := hS s e he
  obtain ⟨-, -, q3⟩ := q1 h5
  cases g with
  | false =>
    have := q2 (h2 rfl) h5
    unfold effM at this
    rw [if_pos h37.symm] at this
    exact this
  | true =>
    unfold effG at q3
    rw [if_pos h37.symm] at q3
    exact q3
theorem MT_dec {m : Sd} {p : Nat} {R : List (Nat × Nat × Nat)} {S : List StpT} {sl : Slt} {e : StpT} (hT : MT m p (R, S)) (h37 : m.1 0 0 37 = nI p) (he : S[sl.1]? = some e) (h5 : e.1 < 5) (h2 : sl.2 = false → 2 ≤ e.1) (hv : 1 ≤ valE sl.2 e) : MT (sfU m sl 1) p (R, decS S sl) := by
  have hval := mStp_val hT.2.2 h37 he h5 h2
  refine ⟨?_, mRul_arr (fun k hk => sfU_arr m sl 1 (by omega) 0) hT.2.1, fun i x hx => ?_⟩
  · rw [sfU_arr m sl 1 (by decide)]
    exact hT.1
  · have hx : (decS S sl)[i]? = some x := hx
    rw [decS_get] at hx
    have e37 : (sfU m sl 1).1 0 0 37 = nI p := h37
    unfold mStp effG effM
    rw [sfU_arr m sl 1 (k := 6) (by decide), sfU_arr m sl 1 (k := 7) (by decide), sfU_arr m sl 1 (k := 8) (by decide), sfU_arr m sl 1 (k := 9) (by decide), sfU_arr m sl 1 (k := 10) (by decide), if_pos e37.symm, if_pos e37.symm]
    obtain ⟨s, g⟩ := sl
    split at hx
    · rename_i hi
      have hi : i = s := hi
      subst hi
      have he : S[i]? = some e := he
      rw [he] at hx
      cases hx
      obtain ⟨q0, q1, q2⟩ := hT.2.2 i e he
      unfold effG at q1
      unfold effM at q2
      rw [if_pos h37.symm] at q1 q2
      refine ⟨q0, fun z => ?_, fun y z => ?_⟩
      · obtain ⟨r1, r2, r3⟩ := q1 z
        refine ⟨r1, r2, ?_⟩
        cases g with
        | false =>
          exact r3
        | true =>
          show m.2.1 10 0 (64 * p + i) - upA m.2.1 39 0 i (m.2.1 39 0 i + 1) 39 0 i = nI (e.2.2.2.2.1 - 1)
          have hv : 1 ≤ e.2.2.2.2.1 := hv
          rw [upA_s, pk_us, i32_sub3, r3, nI_sub1 hv]
      · have r3 := q2 y z
        cases g with
        | false =>
          show m.2.1 9 0 (64 * p + i) - upA m.2.1 38 0 i (m.2.1 38 0 i + 1) 38 0 i = nI (e.2.2.2.1 - 1)
          have hv : 1 ≤ e.2.2.2.1 := hv
          rw [upA_s, pk_us, i32_sub3, r3, nI_sub1 hv]
        | true =>
          exact r3
    · rename_i hi
      have hi : ¬ i = s := hi
      have := hT.2.2 i x hx
      unfold mStp effG effM at this
      rw [if_pos h37.symm, if_pos h37.symm] at this
      have hu : ∀ K, (sfU m (s, g) 1).2.1 K 0 i = m.2.1 K 0 i := fun K => by
        show upA m.2.1 (sfK g) 0 s _ K 0 i = _
        by_cases hK : K = sfK g
        · rw [hK, upA_s, pk_un hi]
        · rw [upA_n _ _ (fun z => hK z.1)]
      rw [hu 38, hu 39]
      exact this
section SFM
variable {n p row : Nat} {c m : Sd} {R : List (Nat × Nat × Nat)} {S : List StpT} {L : List Slt}
theorem m_soften {i : Nat} {sl : Slt} (hp : p < 6) (hs64 : sl.1 < 64) (hi : i < 128) (hL : MSl m L) (hsl : L[i]? = some sl) (d : Int32) : Fn 1 144 [vR true 0 0, vI (nI p), vI (nI i), vI d] (c, m) (c, sfU m sl d) (some (vI (bi (¬ m.2.1 (if sl.2 = true then 10 else 9) 0 (64 * p + sl.1) - (m.2.1 (sfK sl.2) 0 sl.1 + d) < (if sl.2 = true then 0 else bi (m.2.1 6 0 (64 * p + sl.1) = 4)))))) := by
  obtain ⟨s, g⟩ := sl
  obtain ⟨q1, q2⟩ := hL.2 i (s, g) hsl
  have q1 : m.2.1 47 0 (nI i).toNatClampNeg = nI s := by rw [pk_cl i]; exact q1
  have q2 : m.2.1 48 0 (nI i).toNatClampNeg = bi (g = true) := by rw [pk_cl i]; exact q2
  have hs64 : s < 64 := hs64
  have hii : vp_in (nI i) 128 := pk_in i 128 hi
  have hix : (64 : Int32) * nI p + m.2.1 47 0 (nI i).toNatClampNeg = nI (64 * p + s) := by rw [q1, show (64 : Int32) = nI 64 from rfl, pk_mul, nIadd]
  have hic := pk_cl (64 * p + s) hix
  have hin := pk_in (64 * p + s) 384 (by omega) hix
  have hsc := pk_cl s q1
  have hsi := pk_in s 64 hs64 q1
  refine ctr_ev 100 [] rfl rfl (dI hii (dI hii ?_))
  refine bI (c := m.2.1 48 0 (nI i).toNatClampNeg = 0) (fun h => ?_) (fun h => ?_)
  · rw [q2, bb0] at h
    subst h
    refine dI hsi (dI hsi (dI hin (dI hsi (dI hin ?_))))
    have hu : upA m.2.1 38 0 (m.2.1 47 0 (nI i).toNatClampNeg).toNatClampNeg (m.2.1 38 0 (m.2.1 47 0 (nI i).toNatClampNeg).toNatClampNeg + d) 9 0 ((64 : Int32) * nI p + m.2.1 47 0 (nI i).toNatClampNeg).toNatClampNeg - upA m.2.1 38 0 (m.2.1 47 0 (nI i).toNatClampNeg).toNatClampNeg (m.2.1 38 0 (m.2.1 47 0 (nI i).toNatClampNeg).toNatClampNeg + d) 38 0 (m.2.1 47 0 (nI i).toNatClampNeg).toNatClampNeg = m.2.1 9 0 (64 * p + s) - (m.2.1 38 0 s + d) := by
      rw [hsc, hic, upA_s, pk_us, upA_n _ _ (fun z => absurd z.1 (by decide))]
    have hk : upA m.2.1 38 0 (m.2.1 47 0 (nI i).toNatClampNeg).toNatClampNeg (m.2.1 38 0 (m.2.1 47 0 (nI i).toNatClampNeg).toNatClampNeg + d) 6 0 ((64 : Int32) * nI p + m.2.1 47 0 (nI i).toNatClampNeg).toNatClampNeg = m.2.1 6 0 (64 * p + s) := by
      rw [hic, upA_n _ _ (fun z => absurd z.1 (by decide))]
    have hw : ((c, (m.1, upA m.2.1 38 0 (m.2.1 47 0 (nI i).toNatClampNeg).toNatClampNeg (m.2.1 38 0 (m.2.1 47 0 (nI i).toNatClampNeg).toNatClampNeg + d), m.2.2)) : Wd) = (c, sfU m (s, false) d) := by
      rw [hsc]
      rfl
    have fin : ∀ (o : Int32), o = bi (m.2.1 6 0 (64 * p + s) = 4) → Br (upA m.2.1 38 0 (m.2.1 47 0 (nI i).toNatClampNeg).toNatClampNeg (m.2.1 38 0 (m.2.1 47 0 (nI i).toNatClampNeg).toNatClampNeg + d) 9 0 ((64 : Int32) * nI p + m.2.1 47 0 (nI i).toNatClampNeg).toNatClampNeg - upA m.2.1 38 0 (m.2.1 47 0 (nI i).toNatClampNeg).toNatClampNeg (m.2.1 38 0 (m.2.1 47 0 (nI i).toNatClampNeg).toNatClampNeg + d) 38 0 (m.2.1 47 0 (nI i).toNatClampNeg).toNatClampNeg < o) (zok 0 ∧ (((c, (m.1, upA m.2.1 38 0 (m.2.1 47 0 (nI i).toNatClampNeg).toNatClampNeg (m.2.1 38 0 (m.2.1 47 0 (nI i).toNatClampNeg).toNatClampNeg + d), m.2.2)) : Wd) = (c, sfU m (s, false) d) ∧ (some (vI 0) : Option PV) = some (vI (bi (¬ m.2.1 9 0 (64 * p + s) - (m.2.1 38 0 s + d) < bi (m.2.1 6 0 (64 * p + s) = 4)))))) (zok 1 ∧ (((c, (m.1, upA m.2.1 38 0 (m.2.1 47 0 (nI i).toNatClampNeg).toNatClampNeg (m.2.1 38 0 (m.2.1 47 0 (nI i).toNatClampNeg).toNatClampNeg + d), m.2.2)) : Wd) = (c, sfU m (s, false) d) ∧ (some (vI 1) : Option PV) = some (vI (bi (¬ m.2.1 9 0 (64 * p + s) - (m.2.1 38 0 s + d) < bi (m.2.1 6 0 (64 * p + s) = 4)))))) := by
      intro o ho
      rw [hu, ho]
      refine bI (fun h => ⟨rfl, hw, ?_⟩) (fun h => ⟨rfl, hw, ?_⟩)
      · rw [bi_f (fun z => z h)]
      · rw [bi_t h]
    refine bI (c := upA m.2.1 38 0 (m.2.1 47 0 (nI i).toNatClampNeg).toNatClampNeg (m.2.1 38 0 (m.2.1 47 0 (nI i).toNatClampNeg).toNatClampNeg + d) 6 0 ((64 : Int32) * nI p + m.2.1 47 0 (nI i).toNatClampNeg).toNatClampNeg = 4) (fun h => ?_) (fun h => ?_)
    · rw [hk] at h
      exact iF (m_one _ _) (by decide) (fin _ (by rw [bi_t h]; rfl))
    · rw [hk] at h
      exact iF (m_one _ _) (by decide) (fin _ (by rw [bi_f h]; rfl))
  · rw [q2, bb0, Bool.not_eq_false] at h
    subst h
    refine dI hsi (dI hsi (dI hin (dI hsi ?_)))
    have hu : upA m.2.1 39 0 (m.2.1 47 0 (nI i).toNatClampNeg).toNatClampNeg (m.2.1 39 0 (m.2.1 47 0 (nI i).toNatClampNeg).toNatClampNeg + d) 10 0 ((64 : Int32) * nI p + m.2.1 47 0 (nI i).toNatClampNeg).toNatClampNeg - upA m.2.1 39 0 (m.2.1 47 0 (nI i).toNatClampNeg).toNatClampNeg (m.2.1 39 0 (m.2.1 47 0 (nI i).toNatClampNeg).toNatClampNeg + d) 39 0 (m.2.1 47 0 (nI i).toNatClampNeg).toNatClampNeg = m.2.1 10 0 (64 * p + s) - (m.2.1 39 0 s + d) := by
      rw [hsc, hic, upA_s, pk_us, upA_n _ _ (fun z => absurd z.1 (by decide))]
    have hw : ((c, (m.1, upA m.2.1 39 0 (m.2.1 47 0 (nI i).toNatClampNeg).toNatClampNeg (m.2.1 39 0 (m.2.1 47 0 (nI i).toNatClampNeg).toNatClampNeg + d), m.2.2)) : Wd) = (c, sfU m (s, true) d) := by
      rw [hsc]
      rfl
    refine bI (c := upA m.2.1 39 0 (m.2.1 47 0 (nI i).toNatClampNeg).toNatClampNeg (m.2.1 39 0 (m.2.1 47 0 (nI i).toNatClampNeg).toNatClampNeg + d) 10 0 ((64 : Int32) * nI p + m.2.1 47 0 (nI i).toNatClampNeg).toNatClampNeg - upA m.2.1 39 0 (m.2.1 47 0 (nI i).toNatClampNeg).toNatClampNeg (m.2.1 39 0 (m.2.1 47 0 (nI i).toNatClampNeg).toNatClampNeg + d) 39 0 (m.2.1 47 0 (nI i).toNatClampNeg).toNatClampNeg < 0) (fun h => ?_) (fun h => ?_)
    · rw [hu] at h
      refine And.intro rfl (And.intro hw ?_)
      show _ = some (vI (bi (¬ m.2.1 10 0 (64 * p + s) - (m.2.1 39 0 s + d) < 0)))
      rw [bi_f (fun z => z h)]
    · rw [hu] at h
      refine And.intro rfl (And.intro hw ?_)
      show _ = some (vI (bi (¬ m.2.1 10 0 (64 * p + s) - (m.2.1 39 0 s + d) < 0)))
      rw [bi_t h]
/-- one less -/
theorem m_soften1 {i : Nat} {sl : Slt} (hp : p < 6) (hi : i < 128) (hL : MSl m L) (hsl : L[i]? = some sl) (hT : MT m p (R, S)) (h37 : m.1 0 0 37 = nI p) (hok : okT (R, S)) (hSl : okSl S sl) : Fn 1 144 [vR true 0 0, vI (nI p), vI (nI i), vI 1] (c, m) (c, sfU m sl 1) (some (vI (bi (mayS S sl = true)))) ∧ (mayS S sl = true → MT (sfU m sl 1) p (R, decS S sl)) := by
  obtain ⟨e, he, h5, h2⟩ := hSl
  have hs : sl.1 < S.length := (List.getElem?_eq_some_iff.mp he).1
  have h40 : S.length ≤ 40 := hok.2.1
  have hoe := hok.2.2.1 e (List.mem_of_getElem? he)
  have hv100 : valE sl.2 e < 100 := by
    unfold valE
    split
    · exact hoe.2.2.2.2
    · exact hoe.2.2.2.1
  have hmay : mayS S sl = decide (lstE sl.2 e < valE sl.2 e) := by
    unfold mayS
    rw [he]
  have hval := mStp_val hT.2.2 h37 he h5 h2
  have hF := m_soften (c := c) hp (show sl.1 < 64 by omega) hi hL hsl 1
  have hk : m.2.1 6 0 (64 * p + sl.1) = nI e.1 := (hT.2.2 sl.1 e he).1
  have hlst : (if sl.2 = true then (0 : Int32) else bi (m.2.1 6 0 (64 * p + sl.1) = 4)) = nI (lstE sl.2 e) := by
    unfold lstE
    split
    · rfl
    · rw [hk]
      by_cases h4 : e.1 = 4
      · rw [if_pos h4, bi_t (by rw [h4]; rfl)]
        rfl
      · rw [if_neg h4, bi_f (c := nI e.1 = 4) (fun z => h4 ((nIeq (by omega) (by decide)).mp (show nI e.1 = nI 4 from z)))]
        rfl
  have hl1 : lstE sl.2 e ≤ 1 := by
    unfold lstE
    split
    · omega
    · split <;> omega
  have hb : bi (¬ m.2.1 (if sl.2 = true then 10 else 9) 0 (64 * p + sl.1) - (m.2.1 (sfK sl.2) 0 sl.1 + 1) < (if sl.2 = true then 0 else bi (m.2.1 6 0 (64 * p + sl.1) = 4))) = bi (mayS S sl = true) := by
    rw [hlst, i32_sub3, hval, hmay]
    by_cases hv : 1 ≤ valE sl.2 e
    · rw [nI_sub1 hv]
      by_cases hlt : lstE sl.2 e < valE sl.2 e
      · rw [bi_t (c := decide _ = true) (decide_eq_true hlt), bi_t]
        rw [nIlt (by omega) (by omega)]
        omega
      · rw [bi_f (c := decide _ = true) (by rw [decide_eq_true_eq]; exact hlt), bi_f]
        rw [nIlt (by omega) (by omega)]
        omega
    · rw [show valE sl.2 e = 0 by omega, bi_f (c := decide _ = true) (by rw [decide_eq_true_eq]; omega), bi_f]
      intro z
      apply z
      have h1 : nI 0 - 1 < (0 : Int32) := by decide
      exact Int32.lt_of_lt_of_le h1 (nI_pos' (by omega))
  rw [hb] at hF
  refine ⟨hF, fun z => ?_⟩
  rw [hmay, decide_eq_true_eq] at z
  exact MT_dec hT h37 he h5 h2 (by omega)
theorem m_isLet (hmn : m.1 0 0 0 = nI n) (hn : n ≤ 6) (hp : p < n) (hr : row < 4 ^ n) (h35 : m.1 0 0 35 = -1) {wd : Nat} (h36 : m.1 0 0 36 = nI wd) (hT : MT m p (R, S)) (hok : okT (R, S)) : Ctr 4 145 [vR true 0 0, vI (nI p), vI (nI row)] (c, m) (QT m c (bi (chS n p row R S = true))) := by
  have hlt := letT_lt (n := n) (p := p) (row := row) (day := 9) hok
  have hdl := dd_lt row p
  have hr6 := pow4_le hn
  refine ctr_ev 100 [] rfl rfl (iC (m_letBy (Q := QT m c (nI (letT n p row 9 (R, S)))) (tl := none) (wd := wd) (fun w' r' h => h) hmn hn hp hr (by decide) h35 (fun q hq => by cases hq) h36 hT hok) (by decide) ?_)
  rintro _ _ ⟨m', rfl, hTr, rfl⟩
  refine iF (m_deed _ (by omega) (by omega)) (by decide) (bI (fun h => ?_) (fun h => ?_))
  · rw [nIeq (by omega) (by omega)] at h
    refine And.intro rfl (qti hTr ?_)
    rw [bi_t]
    show decide _ = true
    rw [decide_eq_true_eq]
    exact h
  · rw [nIeq (by omega) (by omega)] at h
    refine And.intro rfl (qti hTr ?_)
    rw [bi_f]
    show ¬ decide _ = true
    rw [decide_eq_true_eq]
    exact h
end SFM

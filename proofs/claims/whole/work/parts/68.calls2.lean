/-! persons, offer, count, fault -/
def T0 : Trm := ([(0, 0, 0)], [])
theorem okT0 : okT T0 := ⟨by decide, by decide, fun e he => (by cases he), ⟨⟨by decide, by decide, fun _ => by decide⟩, ⟨by decide, by decide⟩, Or.inl rfl, trivial⟩⟩
theorem okL0 : okL T0 := ⟨(0, 0, 0), rfl, rfl⟩
theorem CT_df {t t' : Nat} {c c' : Sd} {T : Trm} (h : DfS t c c') (ht : t' ≠ t) (hT : CT c t' T) : CT c' t' T := by
  unfold CT cRul cStp at hT ⊢
  rw [h.1 11 t' 3 (fun z => ht z.2), h.1 11 t' 8 (fun z => ht z.2), h.2.1 12 t' (fun z => ht z.2), h.2.1 13 t' (fun z => ht z.2), h.2.1 14 t' (fun z => ht z.2), h.2.1 15 t' (fun z => ht z.2), h.2.1 16 t' (fun z => ht z.2), h.2.1 17 t' (fun z => ht z.2), h.2.1 18 t' (fun z => ht z.2)]
  exact hT
theorem CSl_df {t t' : Nat} {c c' : Sd} {L : List Slt} (h : DfS t c c') (ht : t' ≠ t) (hT : CSl c t' L) : CSl c' t' L := by
  unfold CSl at hT ⊢
  rw [h.1 11 t' 10 (fun z => ht z.2), h.2.1 22 t' (fun z => ht z.2)]
  exact hT
section PER
variable {c m : Sd}
theorem c_becomeZero {t : Nat} : Ctr 1 35 [vR false 11 t] (c, m) (QDf t c m T0) := by
  refine ctr_ev 100 [] rfl rfl (iC c_wipe (by decide) ?_)
  rintro _ _ ⟨c1, rfl, h1, h2, rfl⟩
  refine iC (c_addRule (k := 0) (o := 0) (R := []) (S := []) h2) (by decide) ?_
  rintro _ _ ⟨c2, rfl, h3, h4, rfl⟩
  exact qdi (DfS_tr h1 h3) h4
/-- what beginning may change -/
def BgS (c c' : Sd) : Prop := (∀ k i f, k ≠ 11 → ¬ (k = 9 ∧ (f = 3 ∨ f = 4 ∨ f = 6)) → ¬ (k = 7 ∧ i = 0 ∧ f = 1) → c'.1 k i f = c.1 k i f) ∧ (∀ k i, ¬ (12 ≤ k ∧ k ≤ 22) → c'.2.1 k i = c.2.1 k i) ∧ c'.2.2 = c.2.2
theorem BgS_tr {a b c : Sd} (h : BgS a b) (h2 : BgS b c) : BgS a c := ⟨fun k i f h1 h3 h4 => (h2.1 k i f h1 h3 h4).trans (h.1 k i f h1 h3 h4), fun k i h1 => (h2.2.1 k i h1).trans (h.2.1 k i h1), h2.2.2.trans h.2.2⟩
theorem BgS_df {t : Nat} {c c' : Sd} (h : DfS t c c') : BgS c c' := ⟨fun k i f h1 _ _ => h.1 k i f (fun z => h1 z.1), fun k i h1 => h.2.1 k i (fun z => h1 z.1), h.2.2⟩
def QBg (p : Nat) (c m : Sd) : Wd → Option PV → Prop := fun w' r' => ∃ c', w' = (c', m) ∧ BgS c c' ∧ (CT c' (c.2.2 9 p) T0 ∧ CSl c' (c.2.2 9 p) []) ∧ (c'.1 9 p 3 = 0 ∧ c'.1 9 p 4 = 0 ∧ c'.1 9 p 6 = 0) ∧ (∀ t T, t ≠ c.2.2 9 p → CT c t T → CT c' t T) ∧ (∀ t L, t ≠ c.2.2 9 p → CSl c t L → CSl c' t L) ∧ (∀ q f, q ≠ p → c'.1 9 q f = c.1 9 q f) ∧ c'.1 7 0 1 = c.1 7 0 1 ∧ r' = none
theorem c_pBegin (p : Nat) : Ctr 2 6 [vR false 9 p] (c, m) (QBg p c m) := by
  refine ctr_ev 100 [] rfl rfl (iC (c_becomeZero (t := c.2.2 9 p)) (by decide) ?_)
  rintro _ _ ⟨c1, rfl, h1, h2, rfl⟩
  obtain ⟨hT, hS⟩ := h2.2 ⟨by decide, by decide⟩
  have e : ∀ k i f, ¬ (k = 9 ∧ i = p ∧ (f = 3 ∨ f = 4 ∨ f = 6)) → ((up3 (up3 (up3 c1.1 9 p 3 0) 9 p 4 0) 9 p 6 0, c1.2.1, c1.2.2) : Sd).1 k i f = c1.1 k i f := fun k i f h => by
    show up3 (up3 (up3 c1.1 9 p 3 0) 9 p 4 0) 9 p 6 0 k i f = c1.1 k i f
    rw [up3_n _ _ (fun z => h ⟨z.1, z.2.1, by omega⟩), up3_n _ _ (fun z => h ⟨z.1, z.2.1, by omega⟩), up3_n _ _ (fun z => h ⟨z.1, z.2.1, by omega⟩)]
  refine ⟨(up3 (up3 (up3 c1.1 9 p 3 0) 9 p 4 0) 9 p 6 0, c1.2.1, c1.2.2), rfl, ?_, ⟨?_, ?_⟩, ⟨?_, ?_, ?_⟩, fun t T ht hT' => ?_, fun t L ht hL' => ?_, fun q f hq => ?_, ?_, rfl⟩
  · exact BgS_tr (BgS_df h1) ⟨fun k i f h1 h2 h3 => e k i f (fun z => h2 ⟨z.1, z.2.2⟩), fun _ _ _ => rfl, rfl⟩
  · unfold CT cRul cStp at hT ⊢
    rw [e 11 _ 3 (by omega), e 11 _ 8 (by omega)]
    exact hT
  · unfold CSl at hS ⊢
    rw [e 11 _ 10 (by omega)]
    exact hS
  · show up3 (up3 (up3 c1.1 9 p 3 0) 9 p 4 0) 9 p 6 0 9 p 3 = 0
    rw [up3_n _ _ (fun z => by omega), up3_n _ _ (fun z => by omega), up3_s]
  · show up3 (up3 (up3 c1.1 9 p 3 0) 9 p 4 0) 9 p 6 0 9 p 4 = 0
    rw [up3_n _ _ (fun z => by omega), up3_s]
  · show up3 (up3 (up3 c1.1 9 p 3 0) 9 p 4 0) 9 p 6 0 9 p 6 = 0
    rw [up3_s]
  · have := CT_df h1 ht hT'
    unfold CT cRul cStp at this ⊢
    rw [e 11 _ 3 (by omega), e 11 _ 8 (by omega)]
    exact this
  · have := CSl_df h1 ht hL'
    unfold CSl at this ⊢
    rw [e 11 _ 10 (by omega)]
    exact this
  · rw [e 9 q f (by omega), h1.1 9 q f (by omega)]
  · rw [e 7 0 1 (by omega), h1.1 7 0 1 (by omega)]
def beV (V : Vst) (n : Nat) : Vst := (n, fun _ => T0, fun _ => 0, fun _ => 0, vX V, vLn V, vFa V)
theorem beV_ok {V : Vst} {n : Nat} (h1 : 1 ≤ n) (h6 : n ≤ 6) (h : okV V) : okV (beV V n) := ⟨⟨h1, h6⟩, fun _ => okT0, fun _ => okL0, fun _ => ⟨Nat.zero_le _, Nat.zero_le _⟩, h.2.2.2.2.1, h.2.2.2.2.2⟩
def QVb (V : Vst) (m : Sd) : Wd → Option PV → Prop := fun w' r' => ∃ c', w' = (c', m) ∧ CI V c' ∧ r' = none
theorem c_vBegin {V : Vst} {n : Nat} (hn : n ≤ 6) (hc : CI V c) : Ctr 3 47 [vR false 7 0, vI (nI n)] (c, m) (QVb (beV V n) m) := by
  obtain ⟨⟨b1, b2⟩, a1, a2, a3, a4, a5⟩ := hc
  have key : ∀ (j k : Nat) (x : Int32) (c' : Sd), k + j = 6 → x = nI k → BgS c c' → c'.1 7 0 1 = nI n → (∀ q, q < k → CT c' (c.2.2 9 q) T0 ∧ CSl c' (c.2.2 9 q) [] ∧ c'.1 9 q 3 = 0 ∧ c'.1 9 q 4 = 0 ∧ c'.1 9 q 6 = 0) → Go 3 47 none 7 [some (vR false 7 0), some (vI (nI n)), some (vI x)] [] (c', m) (QVb (beV V n) m) := by
    intro j
    induction j with
    | zero =>
      intro k x c' hj hx hB h7 hq
      refine go_ev 100 [7] (bT (c := (6 : Int32) ≤ x) (by rw [hx, show k = 6 by omega]; decide) ?_)
      refine ⟨c', rfl, ⟨⟨h7, fun p hp => ?_⟩, fun p hp => ?_, fun p hp => ?_, ?_, ?_, ?_⟩, rfl⟩
      · obtain ⟨q1, q2, q3, q4, q5⟩ := hq p (by omega)
        refine ⟨(hB.1 9 p 0 (by decide) (by omega) (by omega)).trans (b2 p hp).1, ?_, Or.inl q5⟩
        rw [hB.2.2]
        exact q1
      · rw [hB.2.2]
        exact (hq p (by omega)).2.1
      · obtain ⟨q1, q2, q3, q4, q5⟩ := hq p (by omega)
        exact ⟨q3, q4⟩
      · show Tx (vX V) (vLn V) c'
        unfold Tx
        rw [hB.1 1 0 1 (by decide) (by omega) (by omega), hB.2.1 2 0 (by decide)]
        exact a3
      · exact (hB.1 3 0 13 (by decide) (by omega) (by omega)).trans a4
      · unfold own
        rw [hB.2.2]
        exact a5
    | succ j ih =>
      intro k x c' hj hx hB h7 hq
      subst hx
      refine go_ev 100 [7] (bF (c := (6 : Int32) ≤ nI k) (by rw [show (6 : Int32) = nI 6 from rfl, nIle (by decide) (by omega)]; omega) (dI (vp6 (by omega)) ?_))
      have hP : Ctr 2 6 [vR false 9 (nI k).toNatClampNeg] (c', m) (QBg k c' m) := by
        rw [show (nI k).toNatClampNeg = k from pk_cl k]
        exact c_pBegin k
      refine iC hP (by decide) ?_
      rintro _ _ ⟨c2, rfl, g1, ⟨g2, g3⟩, g4, g5, g6, g7, g8, rfl⟩
      refine ih (k + 1) _ c2 (by omega) (nI_succ k).symm (BgS_tr hB g1) (g8.trans h7) (fun q hqk => ?_)
      rw [hB.2.2] at g2 g3
      rcases Nat.lt_or_ge q k with hlt | hge
      · obtain ⟨q1, q2, q3, q4, q5⟩ := hq q hlt
        have hne : c.2.2 9 q ≠ c'.2.2 9 k := by
          rw [hB.2.2]
          exact a5.2 q k (by omega) (by omega) (by omega)
        refine ⟨g5 _ _ hne q1, g6 _ _ hne q2, ?_, ?_, ?_⟩
        · rw [g7 q 3 (by omega)]; exact q3
        · rw [g7 q 4 (by omega)]; exact q4
        · rw [g7 q 6 (by omega)]; exact q5
      · have hqe : q = k := by omega
        subst hqe
        exact ⟨g2, g3, g4⟩
  refine ctr_ev 100 [7] rfl rfl ?_
  refine key 6 0 0 (up3 c.1 7 0 1 (nI n), c.2.1, c.2.2) rfl rfl ⟨fun k i f h1 h2 h3 => up3_n c.1 _ (fun z => h3 z), fun _ _ _ => rfl, rfl⟩ (up3_s c.1 7 0 1 (nI n)) (fun q hq => absurd hq (by omega))
def sPersons (x : Int32) : Int32 := if inW 1 6 x then x else -1002
def peV (V : Vst) (x : Int32) : Vst := if inW 1 6 x then beV V (tN x) else V
theorem c_persons {V : Vst} (hc : CI V c) (x : Int32) : Ctr 4 62 [vR false 0 0, vI x] (c, m) (PQ (CI (peV V x)) m (sPersons x)) := by
  refine ctr_ev 100 [] rfl rfl (iF (c_within _ x 1 6) (by decide) (bI (fun h => ?_) (fun h => ?_)))
  · rw [bi_0] at h
    unfold peV sPersons
    rw [if_neg h, if_neg h]
    exact pqi hc rfl
  · rw [bi_0, Classical.not_not] at h
    unfold peV sPersons
    rw [if_pos h, if_pos h]
    obtain ⟨k1, k6, he⟩ := clampW (a := 1) (b := 6) (by decide) h (by decide)
    generalize tN x = n at k1 k6 he ⊢
    subst he
    refine iC (c_vBegin k6 hc) (by decide) ?_
    rintro _ _ ⟨c', rfl, h1, rfl⟩
    exact pqi h1 rfl
theorem m_begin {V : Vst} {n : Nat} {Q : Wd → Option PV → Prop} (hY : YM V m) (h35 : m.1 0 0 35 = -1) {wd : Nat} (h36 : m.1 0 0 36 = nI wd) (h37 : m.1 0 0 37 = -1) (hQ : ∀ m', MI (beV V n) m' → Q (c, m') none) : Ctr 1 94 [vR true 0 0, vI (nI n)] (c, m) Q := by
  have key : ∀ (j k : Nat) (x : Int32) (m' : Sd), k + j = 6 → x = nI k → (∀ k i f, ¬ (k = 0 ∧ i = 0 ∧ f = 0) → m'.1 k i f = m.1 k i f) → m'.1 0 0 0 = nI n → (∀ a i, ¬ (1 ≤ a ∧ a ≤ 5) → a ≠ 12 → a ≠ 13 → m'.2.1 a i = m.2.1 a i) → (∀ q, q < k → m'.2.1 1 0 q = 1 ∧ m'.2.1 2 0 (25 * q) = 0 ∧ m'.2.1 3 0 (25 * q) = 0 ∧ m'.2.1 4 0 (25 * q) = 0 ∧ m'.2.1 5 0 (25 * q) = 0 ∧ m'.2.1 12 0 q = 0 ∧ m'.2.1 13 0 q = 0) → Go 1 94 none 7 [some (vR true 0 0), some (vI (nI n)), some (vI x)] [] (c, m') Q := by
    intro j
    induction j with
    | zero =>
      intro k x m' hj hx hf h0 ha hq
      refine go_ev 100 [7] (bT (c := (6 : Int32) ≤ x) (by rw [hx, show k = 6 by omega]; decide) (hQ m' ?_))
      refine ⟨wd, ⟨h0, (hf 0 0 35 (by decide)).trans h35, fun q z => (by cases z), (hf 0 0 36 (by decide)).trans h36, (hf 0 0 37 (by decide)).trans h37⟩, fun p hp => ?_, ⟨fun p hp s e he => (by cases he), fun p hp => ?_, ?_, (hf 0 0 20 (by decide)).trans hY.2.2.2⟩⟩
      · obtain ⟨q1, q2, q3, q4, q5, q6, q7⟩ := hq p (by omega)
        exact ⟨q1, ⟨⟨q2, q3, q4, q5⟩, trivial⟩, fun s e he => (by cases he)⟩
      · obtain ⟨q1, q2, q3, q4, q5, q6, q7⟩ := hq p (by omega)
        exact ⟨q6, q7⟩
      · show Mx (vX V) (vLn V) m'
        unfold Mx
        rw [hf 0 0 15 (by decide), ha 14 0 (by decide) (by decide) (by decide)]
        exact hY.2.2.1
    | succ j ih =>
      intro k x m' hj hx hf h0 ha hq
      subst hx
      have hkc : (nI k).toNatClampNeg = k := pk_cl k
      have hki : vp_in (nI k) 6 := pk_in k 6 (by omega)
      have hzx : (25 : Int32) * nI k = nI (25 * k) := by rw [show (25 : Int32) = nI 25 from rfl, pk_mul]
      have hzc : ((25 : Int32) * nI k).toNatClampNeg = 25 * k := pk_cl _ hzx
      have hzi : vp_in ((25 : Int32) * nI k) 150 := pk_in (25 * k) 150 (by omega) hzx
      refine go_ev 100 [7] (bF (c := (6 : Int32) ≤ nI k) (by rw [show (6 : Int32) = nI 6 from rfl, nIle (by decide) (by omega)]; omega) ?_)
      refine dI hki (dI hzi (dI hzi (dI hzi (dI hzi (dI hki (dI hki ?_))))))
      refine ih (k + 1) _ (ma (ma (ma (ma (ma (ma (ma m' 1 (nI k).toNatClampNeg 1) 2 ((25 : Int32) * nI k).toNatClampNeg 0) 3 ((25 : Int32) * nI k).toNatClampNeg 0) 4 ((25 : Int32) * nI k).toNatClampNeg 0) 5 ((25 : Int32) * nI k).toNatClampNeg 0) 12 (nI k).toNatClampNeg 0) 13 (nI k).toNatClampNeg 0) (by omega) (nI_succ k).symm hf h0 ?_ ?_
      · intro a i h1 h12 h13
        rw [← ha a i h1 h12 h13]
        show upA (upA (upA (upA (upA (upA (upA m'.2.1 1 0 _ _) 2 0 _ _) 3 0 _ _) 4 0 _ _) 5 0 _ _) 12 0 _ _) 13 0 _ _ a i = _
        rw [upA_n _ _ (fun z => h13 z.1), upA_n _ _ (fun z => h12 z.1), upA_n _ _ (fun z => h1 (by omega)), upA_n _ _ (fun z => h1 (by omega)), upA_n _ _ (fun z => h1 (by omega)), upA_n _ _ (fun z => h1 (by omega)), upA_n _ _ (fun z => h1 (by omega))]
      · intro q hqk
        rw [hkc, hzc]
        have e1 : (ma (ma (ma (ma (ma (ma (ma m' 1 k 1) 2 (25 * k) 0) 3 (25 * k) 0) 4 (25 * k) 0) 5 (25 * k) 0) 12 k 0) 13 k 0).2.1 1 0 = upd (m'.2.1 1 0) k 1 := by
          rw [ma_k _ _ (by decide), ma_k _ _ (by decide), ma_k _ _ (by decide), ma_k _ _ (by decide), ma_k _ _ (by decide), ma_k _ _ (by decide), ma_s]
        have e2 : (ma (ma (ma (ma (ma (ma (ma m' 1 k 1) 2 (25 * k) 0) 3 (25 * k) 0) 4 (25 * k) 0) 5 (25 * k) 0) 12 k 0) 13 k 0).2.1 2 0 = upd (m'.2.1 2 0) (25 * k) 0 := by
          rw [ma_k _ _ (by decide), ma_k _ _ (by decide), ma_k _ _ (by decide), ma_k _ _ (by decide), ma_k _ _ (by decide), ma_s, ma_k _ _ (by decide)]
        have e3 : (ma (ma (ma (ma (ma (ma (ma m' 1 k 1) 2 (25 * k) 0) 3 (25 * k) 0) 4 (25 * k) 0) 5 (25 * k) 0) 12 k 0) 13 k 0).2.1 3 0 = upd (m'.2.1 3 0) (25 * k) 0 := by
          rw [ma_k _ _ (by decide), ma_k _ _ (by decide), ma_k _ _ (by decide), ma_k _ _ (by decide), ma_s, ma_k _ _ (by decide), ma_k _ _ (by decide)]
        have e4 : (ma (ma (ma (ma (ma (ma (ma m' 1 k 1) 2 (25 * k) 0) 3 (25 * k) 0) 4 (25 * k) 0) 5 (25 * k) 0) 12 k 0) 13 k 0).2.1 4 0 = upd (m'.2.1 4 0) (25 * k) 0 := by
          rw [ma_k _ _ (by decide), ma_k _ _ (by decide), ma_k _ _ (by decide), ma_s, ma_k _ _ (by decide), ma_k _ _ (by decide), ma_k _ _ (by decide)]
        have e5 : (ma (ma (ma (ma (ma (ma (ma m' 1 k 1) 2 (25 * k) 0) 3 (25 * k) 0) 4 (25 * k) 0) 5 (25 * k) 0) 12 k 0) 13 k 0).2.1 5 0 = upd (m'.2.1 5 0) (25 * k) 0 := by
          rw [ma_k _ _ (by decide), ma_k _ _ (by decide), ma_s, ma_k _ _ (by decide), ma_k _ _ (by decide), ma_k _ _ (by decide), ma_k _ _ (by decide)]
        have e12 : (ma (ma (ma (ma (ma (ma (ma m' 1 k 1) 2 (25 * k) 0) 3 (25 * k) 0) 4 (25 * k) 0) 5 (25 * k) 0) 12 k 0) 13 k 0).2.1 12 0 = upd (m'.2.1 12 0) k 0 := by
          rw [ma_k _ _ (by decide), ma_s, ma_k _ _ (by decide), ma_k _ _ (by decide), ma_k _ _ (by decide), ma_k _ _ (by decide), ma_k _ _ (by decide)]
        have e13 : (ma (ma (ma (ma (ma (ma (ma m' 1 k 1) 2 (25 * k) 0) 3 (25 * k) 0) 4 (25 * k) 0) 5 (25 * k) 0) 12 k 0) 13 k 0).2.1 13 0 = upd (m'.2.1 13 0) k 0 := by
          rw [ma_s, ma_k _ _ (by decide), ma_k _ _ (by decide), ma_k _ _ (by decide), ma_k _ _ (by decide), ma_k _ _ (by decide), ma_k _ _ (by decide)]
        rw [e1, e2, e3, e4, e5, e12, e13]
        rcases Nat.lt_or_ge q k with hlt | hge
        · rw [pk_un (by omega), pk_un (by omega), pk_un (by omega), pk_un (by omega), pk_un (by omega), pk_un (by omega), pk_un (by omega)]
          exact hq q hlt
        · rw [show q = k by omega, pk_us, pk_us, pk_us, pk_us, pk_us, pk_us, pk_us]
          exact ⟨rfl, rfl, rfl, rfl, rfl, rfl, rfl⟩
  refine ctr_ev 100 [7] rfl rfl ?_
  exact key 6 0 0 (mf m 0 (nI n)) rfl rfl (fun k i f h => up3_n m.1 _ h) (mf_s m 0 (nI n)) (fun _ _ _ _ _ => rfl) (fun q hq => absurd hq (by omega))
theorem m_persons {V : Vst} (hm : MI V m) (x : Int32) : Ctr 2 95 [vR true 0 0, vI x] (c, m) (PM (MI (peV V x)) c (sPersons x)) := by
  obtain ⟨wd, ⟨a1, a2, a3, a4, a5⟩, hMT, hY⟩ := id hm
  refine ctr_ev 100 [] rfl rfl (iF (m_in _ x 1 6) (by decide) (bI (fun h => ?_) (fun h => ?_)))
  · rw [bi_0] at h
    unfold peV sPersons
    rw [if_neg h, if_neg h]
    exact mqi hm rfl
  · rw [bi_0, Classical.not_not] at h
    unfold peV sPersons
    rw [if_pos h, if_pos h]
    obtain ⟨k1, k6, he⟩ := clampW (a := 1) (b := 6) (by decide) h (by decide)
    generalize tN x = n at k1 k6 he ⊢
    subst he
    refine iC (m_begin (Q := fun w' r' => ∃ m', w' = (c, m') ∧ MI (beV V n) m' ∧ r' = none) hY a2 a4 a5 (fun m' h => ⟨m', rfl, h, rfl⟩)) (by decide) ?_
    rintro _ _ ⟨m', rfl, h1, rfl⟩
    exact mqi h1 rfl
theorem cal_persons (x : Int32) : Cal 62 95 [vI x] := fun V c m hV hc hm => ⟨peV V x, sPersons x, by
  unfold peV
  split
  · rename_i h
    obtain ⟨k1, k6, -⟩ := clampW (a := 1) (b := 6) (by decide) h (by decide)
    exact beV_ok k1 k6 hV
  · exact hV, inv_of (c_persons hc x) (by decide), fun c2 => inv_of (m_persons hm x) (by decide)⟩
theorem cal_fault : Cal 65 120 [] := fun V c m hV hc hm => ⟨V, vFa V, hV, inv_of (d' := 0) (ctr_ev 100 [] rfl rfl (pqi hc hc.2.2.2.2.1)) (by decide), fun c2 => inv_of (d' := 0) (ctr_ev 100 [] rfl rfl (mqi hm (by
  obtain ⟨wd, h1, h2, h3⟩ := hm
  exact h3.2.2.2))) (by decide)⟩
end PER

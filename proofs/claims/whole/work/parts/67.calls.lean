/-! all that is kept between calls: n, terms, parts, worths, text, its length, the fault's place -/
abbrev Vst : Type := Nat × (Nat → Trm) × (Nat → Nat) × (Nat → Nat) × (Nat → Nat) × Nat × Int32
abbrev vN (V : Vst) : Nat := V.1
abbrev vT (V : Vst) : Nat → Trm := V.2.1
abbrev vP (V : Vst) : Nat → Nat := V.2.2.1
abbrev vW (V : Vst) : Nat → Nat := V.2.2.2.1
abbrev vX (V : Vst) : Nat → Nat := V.2.2.2.2.1
abbrev vLn (V : Vst) : Nat := V.2.2.2.2.2.1
abbrev vFa (V : Vst) : Int32 := V.2.2.2.2.2.2
def okV (V : Vst) : Prop := (1 ≤ vN V ∧ vN V ≤ 6) ∧ (∀ p, okT (vT V p)) ∧ (∀ p, okL (vT V p)) ∧ (∀ p, vP V p ≤ 99 ∧ vW V p ≤ 99) ∧ vLn V ≤ 120 ∧ ∀ i, vX V i < 256
def own (c : Sd) : Prop := (∀ p, p < 6 → c.2.2 9 p ≠ c.2.2 3 0) ∧ ∀ p q, p < 6 → q < 6 → p ≠ q → c.2.2 9 p ≠ c.2.2 9 q
def XC (V : Vst) (c : Sd) : Prop := (∀ p, p < 6 → CSl c (c.2.2 9 p) (slo (vT V p).2)) ∧ (∀ p, p < 6 → c.1 9 p 3 = nI (vP V p) ∧ c.1 9 p 4 = nI (vW V p)) ∧ Tx (vX V) (vLn V) c ∧ c.1 3 0 13 = vFa V ∧ own c
def CI (V : Vst) (c : Sd) : Prop := CV (vN V) (vT V) c ∧ XC V c
def YM (V : Vst) (m : Sd) : Prop := (∀ p, p < 6 → mTld m p (vT V p).2) ∧ (∀ p, p < 6 → m.2.1 12 0 p = nI (vP V p) ∧ m.2.1 13 0 p = nI (vW V p)) ∧ Mx (vX V) (vLn V) m ∧ m.1 0 0 20 = vFa V
def MI (V : Vst) (m : Sd) : Prop := J0 (MV (vN V) (vT V) (YM V)) m
theorem XC_sam (V : Vst) : Cls (XC V) := by
  intro c c' h hX
  obtain ⟨h1, h2, h3⟩ := h
  obtain ⟨a1, a2, a3, a4, a5⟩ := hX
  refine ⟨fun p hp => ?_, fun p hp => ?_, ?_, ?_, ?_⟩
  · have := a1 p hp
    unfold CSl at this ⊢
    rw [h3, h1 11 _ 10 (by decide) (by decide), h2 22 _ (by decide)]
    exact this
  · rw [h1 9 p 3 (by decide) (by decide), h1 9 p 4 (by decide) (by decide)]
    exact a2 p hp
  · unfold Tx
    rw [h1 1 0 1 (by decide) (by decide), h2 2 0 (by decide)]
    exact a3
  · rw [h1 3 0 13 (by decide) (by decide)]
    exact a4
  · unfold own
    rw [h3]
    exact a5
theorem YM_fr {V : Vst} {m m' : Sd} (hf : m'.1 0 0 15 = m.1 0 0 15 ∧ m'.1 0 0 20 = m.1 0 0 20) (ha : ∀ k, 11 ≤ k → k ≤ 14 → m'.2.1 k 0 = m.2.1 k 0) (h : YM V m) : YM V m' := by
  obtain ⟨a1, a2, a3, a4⟩ := h
  refine ⟨fun p hp => ?_, fun p hp => ?_, ?_, ?_⟩
  · unfold mTld
    rw [ha 11 (by decide) (by decide)]
    exact a1 p hp
  · rw [ha 12 (by decide) (by decide), ha 13 (by decide) (by decide)]
    exact a2 p hp
  · unfold Mx
    rw [hf.1, ha 14 (by decide) (by decide)]
    exact a3
  · rw [hf.2]
    exact a4
theorem YM_YC (V : Vst) : YC (YM V) := by
  refine ⟨fun m m' h hm => YM_fr ⟨by rw [h.1], by rw [h.1]⟩ (fun k h1 h2 => h.2.1 k 0 (by omega)) hm, fun m f x hf hm => YM_fr (m := m) ⟨?_, ?_⟩ (fun _ _ _ => rfl) hm, fun m j x hm => YM_fr (m := m) ⟨rfl, rfl⟩ (fun k h1 h2 => ?_) hm⟩
  · exact up3_n (k := 0) (i := 0) (f := f) (k' := 0) (i' := 0) (f' := 15) m.1 x (fun z => by omega)
  · exact up3_n (k := 0) (i := 0) (f := f) (k' := 0) (i' := 0) (f' := 20) m.1 x (fun z => by omega)
  · exact upA_n m.2.1 x (fun z => by omega)
theorem YM_sfs (V : Vst) : ∀ m m', SfS m m' → YM V m → YM V m' := fun m m' h hm => YM_fr ⟨h.1 0 0 15 (by decide), h.1 0 0 20 (by decide)⟩ (fun k h1 h2 => h.2.1 k 0 (by omega) (by omega) (by omega)) hm
/-! how a call is run: Inv, weakened -/
theorem inv_mono {d y : Nat} {av : List PV} {w : Wd} {K K' : Wd → Option PV → Prop} (h : Inv d y av w K) (hk : ∀ w' r, K w' r → K' w' r) : Inv d y av w K' := by
  obtain ⟨d', Q', h1, h2, h3⟩ := h
  exact ⟨d', Q', h1, h2, fun w' r hq => hk w' r (h3 w' r hq)⟩
theorem inv_of {d d' y : Nat} {av : List PV} {w : Wd} {K : Wd → Option PV → Prop} (h : Ctr d' y av w K) (hd : d' < d) : Inv d y av w K := ⟨d', K, hd, h, fun _ _ z => z⟩
/-- a call on both sides: one answer, one state behind it -/
def Cal (yc ym : Nat) (av : List PV) : Prop := ∀ (V : Vst) (c m : Sd), okV V → CI V c → MI V m → ∃ (V' : Vst) (r : Int32), okV V' ∧ Inv 40 yc (vR false 0 0 :: av) (c, m) (PQ (CI V') m r) ∧ ∀ c2, Inv 40 ym (vR true 0 0 :: av) (c2, m) (PM (MI V') c2 r)
section FED
variable {c m : Sd}
theorem l255 (x : Int64) : (x &&& 255).toInt32 = nI (x.toBitVec.toNat % 256) := by
  have h : x &&& 255 = lN (x.toBitVec.toNat % 256) := by
    apply Int64.toBitVec_inj.mp
    apply BitVec.eq_of_toNat_eq
    rw [Int64.toBitVec_and, BitVec.toNat_and]
    show x.toBitVec.toNat &&& (2 ^ 8 - 1) = (BitVec.ofNat 64 _).toNat
    rw [Nat.and_two_pow_sub_one_eq_mod, BitVec.toNat_ofNat]
    exact (Nat.mod_eq_of_lt (Nat.lt_of_lt_of_le (Nat.mod_lt _ (by decide)) (by decide))).symm
  rw [h, lN_i]
def byt (B : Int64) (k : Nat) : Nat := (B >>> ((8 * nI k).toInt64 &&& 63)).toBitVec.toNat % 256
theorem byt_lt (B : Int64) (k : Nat) : byt B k < 256 := Nat.mod_lt _ (by decide)
theorem byt_eq (B : Int64) (k : Nat) : ((B >>> ((8 * nI k).toInt64 &&& 63)) &&& (255 : Int32).toInt64).toInt32 = nI (byt B k) := l255 _
/-- the text with cnt bytes more, of which j are still to come -/
def fdX (tx : Nat → Nat) (L cnt : Nat) (B : Int64) (i : Nat) : Nat := if L ≤ i ∧ i < L + cnt then byt B (cnt - 1 - (i - L)) else tx i
def fedS (k0 f0 a0 i0 : Nat) (s s' : Sd) : Prop := (∀ k i f, ¬ (k = k0 ∧ i = i0 ∧ f = f0) → s'.1 k i f = s.1 k i f) ∧ (∀ k i, ¬ (k = a0 ∧ i = 0) → s'.2.1 k i = s.2.1 k i) ∧ s'.2.2 = s.2.2
def QFd (m : Sd) (P : Sd → Prop) (r : Option PV) : Wd → Option PV → Prop := fun w' r' => ∃ c', w' = (c', m) ∧ P c' ∧ r' = r
theorem qfdi {m c' : Sd} {P : Sd → Prop} {r : Option PV} (h : P c') : QFd m P r (c', m) r := ⟨c', rfl, h, rfl⟩
theorem c_append {tx : Nat → Nat} {L cnt : Nat} (hc8 : cnt ≤ 8) (hL : L + cnt ≤ 120) (B : Int64) (hX : Tx tx L c) : Ctr 0 46 [vR false 1 0, vI (nI cnt), vL B] (c, m) (QFd m (fun c' => fedS 1 1 2 0 c c' ∧ Tx (fdX tx L cnt B) (L + cnt) c') none) := by
  have key : ∀ (j : Nat) (x : Int32) (c' : Sd), j ≤ cnt → x = nI j - 1 → fedS 1 1 2 0 c c' → c'.1 1 0 1 = nI (L + (cnt - j)) → (∀ i, i < L + (cnt - j) → c'.2.1 2 0 i = nI (fdX tx L cnt B i)) → Go 0 46 none 5 [some (vR false 1 0), some (vI (nI cnt)), some (vL B), none, some (vI x)] [] (c', m) (QFd m (fun c' => fedS 1 1 2 0 c c' ∧ Tx (fdX tx L cnt B) (L + cnt) c') none) := by
    intro j
    induction j with
    | zero =>
      intro x c' hj hx hF hl hb
      exact go_ev 100 [5] (bT (c := x < 0) (by rw [hx]; decide) (qfdi ⟨hF, hl, hb⟩))
    | succ j ih =>
      intro x c' hj hx hF hl hb
      have hx : x = nI j := by rw [hx, nI_succ, Int32.add_sub_cancel]
      subst hx
      have hcl : (c'.1 1 0 1).toNatClampNeg = L + (cnt - (j + 1)) := pk_cl _ hl
      refine go_ev 100 [5] (bF (c := nI j < 0) (nI_ge0 (by omega)) (bF (c := (120 : Int32) ≤ c'.1 1 0 1) (by rw [hl, show (120 : Int32) = nI 120 from rfl, nIle (by decide) (by omega)]; omega) (dI (pk_in (L + (cnt - (j + 1))) 120 (by omega) hl) ?_)))
      refine ih (nI j + (-1)) (up3 c'.1 1 0 1 (c'.1 1 0 1 + 1), upA c'.2.1 2 0 (c'.1 1 0 1).toNatClampNeg ((B >>> ((8 * nI j).toInt64 &&& 63)) &&& (255 : Int32).toInt64).toInt32, c'.2.2) (by omega) (by rw [Int32.sub_eq_add_neg]) ?_ ?_ ?_
      · refine ⟨fun k i f h => (up3_n c'.1 _ h).trans (hF.1 k i f h), fun k i h => (upA_n c'.2.1 _ h).trans (hF.2.1 k i h), hF.2.2⟩
      · show up3 c'.1 1 0 1 (c'.1 1 0 1 + 1) 1 0 1 = _
        rw [up3_s, hl, ← nI_succ]
        congr 1
        omega
      · intro i hi
        show upA c'.2.1 2 0 (c'.1 1 0 1).toNatClampNeg _ 2 0 i = _
        rw [upA_s, hcl, byt_eq]
        by_cases hz : i = L + (cnt - (j + 1))
        · rw [hz, pk_us]
          congr 1
          unfold fdX
          rw [if_pos (by omega)]
          congr 1
          omega
        · rw [pk_un hz]
          exact hb i (by omega)
  refine ctr_ev 100 [5] rfl rfl ?_
  refine key cnt _ c (Nat.le_refl _) rfl ⟨fun _ _ _ _ => rfl, fun _ _ _ => rfl, rfl⟩ (by rw [Nat.sub_self]; exact hX.1) (fun i hi => ?_)
  rw [hX.2 i (by omega)]
  congr 1
  unfold fdX
  rw [if_neg (by omega)]
def sFeed (L : Nat) (x : Int32) : Int32 := if inW 1 8 x then (if L + tN x ≤ 120 then nI (L + tN x) else -1004) else -1002
def feV (V : Vst) (x : Int32) (B : Int64) : Vst := if inW 1 8 x then (if vLn V + tN x ≤ 120 then (vN V, vT V, vP V, vW V, fdX (vX V) (vLn V) (tN x) B, vLn V + tN x, vFa V) else V) else V
theorem feV_ok {V : Vst} (h : okV V) (x : Int32) (B : Int64) : okV (feV V x B) := by
  unfold feV
  split
  · split
    · rename_i hc
      obtain ⟨h1, h2, h3, h4, h5, h6⟩ := h
      refine ⟨h1, h2, h3, h4, hc, fun i => ?_⟩
      show fdX _ _ _ _ i < 256
      unfold fdX
      split
      · exact byt_lt _ _
      · exact h6 i
    · exact h
  · exact h
theorem c_feed {V : Vst} (hV : okV V) (hc : CI V c) (x : Int32) (B : Int64) : Ctr 2 63 [vR false 0 0, vI x, vL B] (c, m) (PQ (CI (feV V x B)) m (sFeed (vLn V) x)) := by
  obtain ⟨h1, h2, h3, h4, h5, h6⟩ := id hV
  have hT := hc.2.2.2.1
  refine ctr_ev 100 [] rfl rfl (iF (c_within _ x 1 8) (by decide) (bI (fun h => ?_) (fun h => ?_)))
  · rw [bi_0] at h
    refine pqi ?_ ?_
    · unfold feV
      rw [if_neg h]
      exact hc
    · unfold sFeed
      rw [if_neg h]
  · rw [bi_0, Classical.not_not] at h
    obtain ⟨k1, k8, he⟩ := clampW (a := 1) (b := 8) (by decide) h (by decide)
    unfold sFeed feV
    rw [if_pos h, if_pos h]
    generalize tN x = cnt at k1 k8 he ⊢
    subst he
    have hR : Fn 0 45 [vR false 1 0, vI (nI cnt)] (c, m) (c, m) (some (vI (bi (vLn V + cnt ≤ 120)))) := by
      refine ctr_ev 100 [] rfl rfl (bI (c := (120 : Int32) < c.1 1 0 1 + nI cnt) (fun hz => ?_) (fun hz => ?_))
      · rw [hT.1, nIadd, show (120 : Int32) = nI 120 from rfl, nIlt (by decide) (by omega)] at hz
        exact And.intro rfl (And.intro rfl (by rw [bi_f (by omega)]))
      · rw [hT.1, nIadd, show (120 : Int32) = nI 120 from rfl, nIlt (by decide) (by omega)] at hz
        exact And.intro rfl (And.intro rfl (by rw [bi_t (by omega)]))
    refine iF hR (by decide) (bI (fun hz => ?_) (fun hz => ?_))
    · rw [bi_0] at hz
      rw [if_neg hz, if_neg hz]
      exact pqi hc rfl
    · rw [bi_0, Classical.not_not] at hz
      rw [if_pos hz, if_pos hz]
      refine iC (c_append k8 hz B hT) (by decide) ?_
      rintro _ _ ⟨c', rfl, ⟨hF, hX'⟩, rfl⟩
      refine pqi (c := c') ?_ hX'.1
      obtain ⟨⟨b1, b2⟩, a1, a2, a3, a4, a5⟩ := hc
      refine ⟨⟨(hF.1 7 0 1 (by decide)).trans b1, fun p hp => ?_⟩, fun p hp => ?_, fun p hp => ?_, hX', (hF.1 3 0 13 (by decide)).trans a4, ?_⟩
      · obtain ⟨b3, b4, b5⟩ := b2 p hp
        refine ⟨(hF.1 9 p 0 (by omega)).trans b3, ?_, ?_⟩
        · rw [hF.2.2]
          have b4 := b4
          unfold CT cRul cStp at b4 ⊢
          rw [hF.1 11 _ 3 (by omega), hF.1 11 _ 8 (by omega), hF.2.1 12 _ (by omega), hF.2.1 13 _ (by omega), hF.2.1 14 _ (by omega), hF.2.1 15 _ (by omega), hF.2.1 16 _ (by omega), hF.2.1 17 _ (by omega), hF.2.1 18 _ (by omega)]
          exact b4
        · unfold KP at b5 ⊢
          rw [hF.1 9 p 6 (by omega), hF.2.1 10 p (by omega)]
          exact b5
      · have := a1 p hp
        unfold CSl at this ⊢
        rw [hF.2.2, hF.1 11 _ 10 (by omega), hF.2.1 22 _ (by omega)]
        exact this
      · rw [hF.1 9 p 3 (by omega), hF.1 9 p 4 (by omega)]
        exact a2 p hp
      · unfold own
        rw [hF.2.2]
        exact a5
theorem MI_fr {V V' : Vst} {m m' : Sd} (hn : vN V' = vN V) (ht : vT V' = vT V) (hf : ∀ f, f = 0 ∨ (35 ≤ f ∧ f ≤ 37) → m'.1 0 0 f = m.1 0 0 f) (ha : ∀ k, k ≤ 10 → m'.2.1 k 0 = m.2.1 k 0) (ha2 : ∀ k, 38 ≤ k → k ≤ 39 → m'.2.1 k 0 = m.2.1 k 0) (hY : YM V' m') (h : MI V m) : MI V' m' := by
  obtain ⟨wd, ⟨a1, a2, a3, a4, a5⟩, b, -⟩ := h
  refine ⟨wd, ⟨?_, (hf 35 (by omega)).trans a2, a3, (hf 36 (by omega)).trans a4, (hf 37 (by omega)).trans a5⟩, fun p hp => ?_, hY⟩
  · rw [hf 0 (by omega), hn]
    exact a1
  · rw [ht]
    have hb := b p hp
    refine ⟨by rw [ha 1 (by decide)]; exact hb.1, mRul_arr (fun k hk => ha k (by omega)) hb.2.1, fun s e he => ?_⟩
    have := hb.2.2 s e he
    unfold mStp effM effG at this ⊢
    rw [hf 37 (by omega), ha 6 (by decide), ha 7 (by decide), ha 8 (by decide), ha 9 (by decide), ha 10 (by decide), ha2 38 (by decide) (by decide), ha2 39 (by decide) (by decide)]
    exact this
theorem m_feed {V : Vst} (hV : okV V) (hm : MI V m) (x : Int32) (B : Int64) : Ctr 2 100 [vR true 0 0, vI x, vL B] (c, m) (PM (MI (feV V x B)) c (sFeed (vLn V) x)) := by
  obtain ⟨h1, h2, h3, h4, h5, h6⟩ := id hV
  obtain ⟨wd, hMV, hMT, hY⟩ := id hm
  have hT := hY.2.2.1
  refine ctr_ev 100 [36] rfl rfl (iF (m_in _ x 1 8) (by decide) (bI (fun h => ?_) (fun h => ?_)))
  · rw [bi_0] at h
    refine mqi ?_ ?_
    · unfold feV
      rw [if_neg h]
      exact hm
    · unfold sFeed
      rw [if_neg h]
  · rw [bi_0, Classical.not_not] at h
    obtain ⟨k1, k8, he⟩ := clampW (a := 1) (b := 8) (by decide) h (by decide)
    unfold sFeed feV
    rw [if_pos h, if_pos h]
    generalize tN x = cnt at k1 k8 he ⊢
    subst he
    refine bI (c := m.1 0 0 15 + nI cnt ≤ 120) (fun hz => ?_) (fun hz => ?_)
    · rw [hT.1, nIadd, show (120 : Int32) = nI 120 from rfl, nIle (by omega) (by decide)] at hz
      rw [if_pos hz, if_pos hz]
      have key : ∀ (j : Nat) (x : Int32) (m' : Sd), j ≤ cnt → x = nI j - 1 → fedS 0 15 14 0 m m' → m'.1 0 0 15 = nI (vLn V + (cnt - j)) → (∀ i, i < vLn V + (cnt - j) → m'.2.1 14 0 i = nI (fdX (vX V) (vLn V) cnt B i)) → Go 2 100 none 36 [some (vR true 0 0), some (vI (nI cnt)), some (vL B), none, some (vI x)] [] (c, m') (PM (MI (vN V, vT V, vP V, vW V, fdX (vX V) (vLn V) cnt B, vLn V + cnt, vFa V)) c (nI (vLn V + cnt))) := by
        intro j
        induction j with
        | zero =>
          intro x m' hj hx hF hl hb
          refine go_ev 100 [36] (bT (c := x < 0) (by rw [hx]; decide) (mqi ?_ hl))
          refine MI_fr (V := V) rfl rfl (fun f hf => hF.1 0 0 f (by omega)) (fun k hk => hF.2.1 k 0 (by omega)) (fun k hk _ => hF.2.1 k 0 (by omega)) ⟨fun p hp => ?_, fun p hp => ?_, ⟨hl, hb⟩, (hF.1 0 0 20 (by decide)).trans hY.2.2.2⟩ hm
          · unfold mTld
            rw [hF.2.1 11 0 (by decide)]
            exact hY.1 p hp
          · rw [hF.2.1 12 0 (by decide), hF.2.1 13 0 (by decide)]
            exact hY.2.1 p hp
        | succ j ih =>
          intro x m' hj hx hF hl hb
          have hx : x = nI j := by rw [hx, nI_succ, Int32.add_sub_cancel]
          subst hx
          have hcl : (m'.1 0 0 15).toNatClampNeg = vLn V + (cnt - (j + 1)) := pk_cl _ hl
          refine go_ev 100 [36] (bF (c := nI j < 0) (nI_ge0 (by omega)) (dI (pk_in (vLn V + (cnt - (j + 1))) 120 (by omega) hl) ?_))
          refine ih (nI j + (-1)) (up3 m'.1 0 0 15 (m'.1 0 0 15 + 1), upA m'.2.1 14 0 (m'.1 0 0 15).toNatClampNeg ((B >>> ((8 * nI j).toInt64 &&& 63)) &&& (255 : Int32).toInt64).toInt32, m'.2.2) (by omega) (by rw [Int32.sub_eq_add_neg]) ?_ ?_ ?_
          · refine ⟨fun k i f h => (up3_n m'.1 _ h).trans (hF.1 k i f h), fun k i h => (upA_n m'.2.1 _ h).trans (hF.2.1 k i h), hF.2.2⟩
          · show up3 m'.1 0 0 15 (m'.1 0 0 15 + 1) 0 0 15 = _
            rw [up3_s, hl, ← nI_succ]
            congr 1
            omega
          · intro i hi
            show upA m'.2.1 14 0 (m'.1 0 0 15).toNatClampNeg _ 14 0 i = _
            rw [upA_s, hcl, byt_eq]
            by_cases hz : i = vLn V + (cnt - (j + 1))
            · rw [hz, pk_us]
              congr 1
              unfold fdX
              rw [if_pos (by omega)]
              congr 1
              omega
            · rw [pk_un hz]
              exact hb i (by omega)
      refine key cnt _ m (Nat.le_refl _) rfl ⟨fun _ _ _ _ => rfl, fun _ _ _ => rfl, rfl⟩ (by rw [Nat.sub_self]; exact hT.1) (fun i hi => ?_)
      rw [hT.2 i (by omega)]
      congr 1
      unfold fdX
      rw [if_neg (by omega)]
    · rw [hT.1, nIadd, show (120 : Int32) = nI 120 from rfl, nIle (by omega) (by decide)] at hz
      rw [if_neg hz, if_neg hz]
      exact mqi hm rfl
theorem cal_feed (x : Int32) (B : Int64) : Cal 63 100 [vI x, vL B] := fun V c m hV hc hm => ⟨feV V x B, sFeed (vLn V) x, feV_ok hV x B, inv_of (c_feed hV hc x B) (by decide), fun c2 => inv_of (m_feed hV hm x B) (by decide)⟩
end FED

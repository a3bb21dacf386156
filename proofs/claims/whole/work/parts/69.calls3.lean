/-! offer, count, term -/
def upN (f : Nat → Nat) (p v : Nat) : Nat → Nat := fun q => if q = p then v else f q
def ofV (V : Vst) (p w v : Int32) : Vst := if inP (vN V) p then (if inW 0 1 w ∧ inW 0 99 v then (if w = 0 then (vN V, vT V, upN (vP V) (tN p) (tN v), vW V, vX V, vLn V, vFa V) else (vN V, vT V, vP V, upN (vW V) (tN p) (tN v), vX V, vLn V, vFa V)) else V) else V
def sOffer (V : Vst) (p w v : Int32) : Int32 := if inP (vN V) p then (if inW 0 1 w ∧ inW 0 99 v then (if w = 0 then nI (vP V (tN p)) else nI (vW V (tN p))) else -1002) else -1001
theorem ofV_ok {V : Vst} (h : okV V) (p w v : Int32) : okV (ofV V p w v) := by
  obtain ⟨h1, h2, h3, h4, h5, h6⟩ := id h
  unfold ofV
  split
  · split
    · rename_i hw
      obtain ⟨-, k99, -⟩ := clampW (a := 0) (b := 99) (by decide) hw.2 (by decide)
      split
      · refine ⟨h1, h2, h3, fun q => ?_, h5, h6⟩
        show upN (vP V) (tN p) (tN v) q ≤ 99 ∧ _
        unfold upN
        split
        · exact ⟨k99, (h4 q).2⟩
        · exact h4 q
      · refine ⟨h1, h2, h3, fun q => ?_, h5, h6⟩
        show _ ∧ upN (vW V) (tN p) (tN v) q ≤ 99
        unfold upN
        split
        · exact ⟨(h4 q).1, k99⟩
        · exact h4 q
    · exact h
  · exact h
theorem CI_fld {V V' : Vst} {c : Sd} {p f : Nat} {x : Int32} (hf : f = 3 ∨ f = 4) (hV : vN V' = vN V ∧ vT V' = vT V ∧ vX V' = vX V ∧ vLn V' = vLn V ∧ vFa V' = vFa V) (ho : ∀ q, q < 6 → up3 c.1 9 p f x 9 q 3 = nI (vP V' q) ∧ up3 c.1 9 p f x 9 q 4 = nI (vW V' q)) (hc : CI V c) : CI V' (up3 c.1 9 p f x, c.2.1, c.2.2) := by
  obtain ⟨⟨b1, b2⟩, a1, a2, a3, a4, a5⟩ := hc
  obtain ⟨v1, v2, v3, v4, v5⟩ := hV
  have e : ∀ k i g, ¬ (k = 9 ∧ (g = 3 ∨ g = 4)) → ((up3 c.1 9 p f x, c.2.1, c.2.2) : Sd).1 k i g = c.1 k i g := fun k i g h => up3_n c.1 x (fun z => h ⟨z.1, by omega⟩)
  refine ⟨⟨?_, fun q hq => ?_⟩, fun q hq => ?_, ho, ?_, ?_, a5⟩
  · rw [e 7 0 1 (by omega), v1]
    exact b1
  · obtain ⟨b3, b4, b5⟩ := b2 q hq
    refine ⟨(e 9 q 0 (by omega)).trans b3, ?_, ?_⟩
    · rw [v2]
      unfold CT cRul cStp at b4 ⊢
      rw [e 11 _ 3 (by omega), e 11 _ 8 (by omega)]
      exact b4
    · rw [v1, v2]
      unfold KP at b5 ⊢
      rw [e 9 q 6 (by omega)]
      exact b5
  · rw [v2]
    have := a1 q hq
    unfold CSl at this ⊢
    rw [e 11 _ 10 (by omega)]
    exact this
  · rw [v3, v4]
    unfold Tx
    rw [e 1 0 1 (by omega)]
    exact a3
  · rw [v5, e 3 0 13 (by omega)]
    exact a4
section OFR
variable {c m : Sd}
theorem c_offer {V : Vst} (hV : okV V) (hc : CI V c) (p w v : Int32) : Ctr 3 78 [vR false 0 0, vI p, vI w, vI v] (c, m) (PQ (CI (ofV V p w v)) m (sOffer V p w v)) := by
  obtain ⟨⟨h1, h6⟩, -⟩ := id hV
  refine ctr_ev 100 [34] rfl rfl (iF (c_has hc.1.1 p) (by decide) (bI (fun hp => ?_) (fun hp => ?_)))
  · rw [bi_0] at hp
    unfold ofV sOffer
    rw [if_neg hp, if_neg hp]
    exact pqi hc rfl
  · rw [bi_0, Classical.not_not] at hp
    have hout : ¬ (inW 0 1 w ∧ inW 0 99 v) → Go 3 78 none 34 [some (vR false 0 0), some (vI p), some (vI w), some (vI v), none, none] [] (c, m) (PQ (CI (ofV V p w v)) m (sOffer V p w v)) := by
      intro hz
      unfold ofV sOffer
      rw [if_pos hp, if_pos hp, if_neg hz, if_neg hz]
      exact go_ev 100 [] (pqi hc rfl)
    refine iF (c_within _ w 0 1) (by decide) (bI (fun hw => ?_) (fun hw => ?_))
    · rw [bi_0] at hw
      exact hout (fun z => hw z.1)
    · rw [bi_0, Classical.not_not] at hw
      refine iF (c_within _ v 0 99) (by decide) (bI (fun hv => ?_) (fun hv => ?_))
      · rw [bi_0] at hv
        exact hout (fun z => hv z.2)
      · rw [bi_0, Classical.not_not] at hv
        unfold ofV sOffer
        have hwv : inW 0 1 w ∧ inW 0 99 v := ⟨hw, hv⟩
        rw [if_pos hp, if_pos hp, if_pos hwv, if_pos hwv]
        clear hwv hout
        obtain ⟨hk, he⟩ := clampP h1 (by omega) hp
        obtain ⟨-, hv99, hev⟩ := clampW (a := 0) (b := 99) (by decide) hv (by decide)
        generalize tN p = q at hk he ⊢
        generalize tN v = z at hv99 hev ⊢
        subst he hev
        have hqc : (nI q).toNatClampNeg = q := pk_cl q
        have ho := hc.2.2.1
        refine dI (vp6 (by omega)) (bI (c := w = 0) (fun h0 => ?_) (fun h0 => ?_))
        · rw [if_pos h0, if_pos h0]
          refine bT (c := w = 0) h0 (pqi (c := (up3 c.1 9 (nI q).toNatClampNeg 3 (nI z), c.2.1, c.2.2)) ?_ ?_)
          · rw [hqc]
            refine CI_fld (V := V) (Or.inl rfl) ⟨rfl, rfl, rfl, rfl, rfl⟩ (fun r hr => ?_) hc
            show _ = nI (upN (vP V) q z r) ∧ _
            rw [up3_n (f' := 4) _ _ (fun z => by omega)]
            refine ⟨?_, (ho r hr).2⟩
            unfold upN
            by_cases hrq : r = q
            · rw [if_pos hrq, hrq, up3_s]
            · rw [if_neg hrq, up3_n _ _ (fun z => hrq z.2.1)]
              exact (ho r hr).1
          · show c.1 9 (nI q).toNatClampNeg 3 = _
            rw [hqc]
            exact (ho q (by omega)).1
        · rw [if_neg h0, if_neg h0]
          refine bF (c := w = 0) h0 (pqi (c := (up3 c.1 9 (nI q).toNatClampNeg 4 (nI z), c.2.1, c.2.2)) ?_ ?_)
          · rw [hqc]
            refine CI_fld (V := V) (Or.inr rfl) ⟨rfl, rfl, rfl, rfl, rfl⟩ (fun r hr => ?_) hc
            show _ ∧ _ = nI (upN (vW V) q z r)
            rw [up3_n (f' := 3) _ _ (fun z => by omega)]
            refine ⟨(ho r hr).1, ?_⟩
            unfold upN
            by_cases hrq : r = q
            · rw [if_pos hrq, hrq, up3_s]
            · rw [if_neg hrq, up3_n _ _ (fun z => hrq z.2.1)]
              exact (ho r hr).2
          · show c.1 9 (nI q).toNatClampNeg 4 = _
            rw [hqc]
            exact (ho q (by omega)).2
theorem m_offer {V : Vst} (hV : okV V) (hm : MI V m) (p w v : Int32) : Ctr 3 152 [vR true 0 0, vI p, vI w, vI v] (c, m) (PM (MI (ofV V p w v)) c (sOffer V p w v)) := by
  obtain ⟨⟨h1, h6⟩, -⟩ := id hV
  obtain ⟨wd, ⟨a1, a2, a3, a4, a5⟩, hMT, hY⟩ := id hm
  have ho := hY.2.1
  have hmi : ∀ (V' : Vst) (k j : Nat) (x : Int32), (k = 12 ∨ k = 13) → (vN V' = vN V ∧ vT V' = vT V ∧ vX V' = vX V ∧ vLn V' = vLn V ∧ vFa V' = vFa V) → (∀ r, r < 6 → (ma m k j x).2.1 12 0 r = nI (vP V' r) ∧ (ma m k j x).2.1 13 0 r = nI (vW V' r)) → MI V' (ma m k j x) := by
    intro V' k j x hk hv hof
    obtain ⟨v1, v2, v3, v4, v5⟩ := hv
    refine MI_fr (V := V) (m := m) v1 v2 (fun _ _ => rfl) (fun a ha => ma_k m x (by omega)) (fun a h1 _ => ma_k m x (by omega)) ⟨fun q hq => ?_, hof, ?_, ?_⟩ hm
    · rw [v2]
      unfold mTld
      rw [ma_k m x (by omega)]
      exact hY.1 q hq
    · rw [v3, v4]
      unfold Mx
      rw [ma_k m x (by omega)]
      exact hY.2.2.1
    · rw [v5]
      exact hY.2.2.2
  refine ctr_ev 100 [34] rfl rfl (iF (m_noPerson a1 p) (by decide) (bI (fun hp => ?_) (fun hp => ?_)))
  · rw [bi_0, Classical.not_not] at hp
    have hout : ¬ (inW 0 1 w ∧ inW 0 99 v) → Go 3 152 none 34 [some (vR true 0 0), some (vI p), some (vI w), some (vI v), none] [] (c, m) (PM (MI (ofV V p w v)) c (sOffer V p w v)) := by
      intro hz
      unfold ofV sOffer
      rw [if_pos hp, if_pos hp, if_neg hz, if_neg hz]
      exact go_ev 100 [] (mqi hm rfl)
    refine iF (m_in _ w 0 1) (by decide) (bI (fun hw => ?_) (fun hw => ?_))
    · rw [bi_0] at hw
      exact hout (fun z => hw z.1)
    · rw [bi_0, Classical.not_not] at hw
      refine iF (m_in _ v 0 99) (by decide) (bI (fun hv => ?_) (fun hv => ?_))
      · rw [bi_0] at hv
        exact hout (fun z => hv z.2)
      · rw [bi_0, Classical.not_not] at hv
        unfold ofV sOffer
        have hwv : inW 0 1 w ∧ inW 0 99 v := ⟨hw, hv⟩
        rw [if_pos hp, if_pos hp, if_pos hwv, if_pos hwv]
        clear hwv hout
        obtain ⟨hk, he⟩ := clampP h1 (by omega) hp
        obtain ⟨-, hv99, hev⟩ := clampW (a := 0) (b := 99) (by decide) hv (by decide)
        generalize tN p = q at hk he ⊢
        generalize tN v = z at hv99 hev ⊢
        subst he hev
        have hqc : (nI q).toNatClampNeg = q := pk_cl q
        have hqi : vp_in (nI q) 6 := pk_in q 6 (by omega)
        refine bI (c := w = 0) (fun h0 => ?_) (fun h0 => ?_)
        · rw [if_pos h0, if_pos h0]
          refine dI hqi (bT (c := w = 0) h0 (dI hqi (mqi (m := ma m 12 (nI q).toNatClampNeg (nI z)) ?_ ?_)))
          · rw [hqc]
            refine hmi _ 12 q (nI z) (Or.inl rfl) ⟨rfl, rfl, rfl, rfl, rfl⟩ (fun r hr => ?_)
            rw [ma_s, ma_k _ _ (by decide)]
            refine ⟨?_, (ho r hr).2⟩
            show _ = nI (upN (vP V) q z r)
            unfold upN
            by_cases hrq : r = q
            · rw [if_pos hrq, hrq, pk_us]
            · rw [if_neg hrq, pk_un hrq]
              exact (ho r hr).1
          · show m.2.1 12 0 (nI q).toNatClampNeg = _
            rw [hqc]
            exact (ho q (by omega)).1
        · rw [if_neg h0, if_neg h0]
          refine dI hqi (bF (c := w = 0) h0 (dI hqi (mqi (m := ma m 13 (nI q).toNatClampNeg (nI z)) ?_ ?_)))
          · rw [hqc]
            refine hmi _ 13 q (nI z) (Or.inr rfl) ⟨rfl, rfl, rfl, rfl, rfl⟩ (fun r hr => ?_)
            rw [ma_s, ma_k _ _ (by decide)]
            refine ⟨(ho r hr).1, ?_⟩
            show _ = nI (upN (vW V) q z r)
            unfold upN
            by_cases hrq : r = q
            · rw [if_pos hrq, hrq, pk_us]
            · rw [if_neg hrq, pk_un hrq]
              exact (ho r hr).2
          · show m.2.1 13 0 (nI q).toNatClampNeg = _
            rw [hqc]
            exact (ho q (by omega)).2
  · rw [bi_0, Classical.not_not] at hp
    unfold ofV sOffer
    rw [if_neg hp, if_neg hp]
    exact mqi hm rfl
theorem cal_offer (p w v : Int32) : Cal 78 152 [vI p, vI w, vI v] := fun V c m hV hc hm => ⟨ofV V p w v, sOffer V p w v, ofV_ok hV p w v, inv_of (c_offer hV hc p w v) (by decide), fun c2 => inv_of (m_offer hV hm p w v) (by decide)⟩
/-! count -/
def sumR (Ts : Nat → Trm) : Nat → Nat
  | 0 => 0
  | k + 1 => sumR Ts k + (Ts k).1.length
theorem c_rules {V : Vst} (hV : okV V) (hc : CI V c) : Fn 0 52 [vR false 7 0] (c, m) (c, m) (some (vI (nI (sumR (vT V) (vN V))))) := by
  obtain ⟨⟨h1, h6⟩, -⟩ := id hV
  obtain ⟨b1, b2⟩ := hc.1
  have key : ∀ (j k : Nat) (x a : Int32), k + j = vN V → x = nI k → a = nI (sumR (vT V) k) → Go 0 52 none 4 [some (vR false 7 0), some (vI a), some (vI x)] [] (c, m) (fun w' r' => w' = (c, m) ∧ r' = some (vI (nI (sumR (vT V) (vN V))))) := by
    intro j
    induction j with
    | zero =>
      intro k x a hj hx ha
      refine go_ev 100 [4] (bT (c := c.1 7 0 1 ≤ x) (by rw [b1, hx, nIle (by omega) (by omega)]; omega) (And.intro rfl ?_))
      rw [ha, show k = vN V by omega]
    | succ j ih =>
      intro k x a hj hx ha
      subst hx ha
      refine go_ev 100 [4] (bF (c := c.1 7 0 1 ≤ nI k) (by rw [b1, nIle (by omega) (by omega)]; omega) (dI (vp6 (by omega)) ?_))
      refine ih (k + 1) _ _ (by omega) (nI_succ k).symm ?_
      show nI (sumR (vT V) k) + c.1 11 (c.2.2 9 (nI k).toNatClampNeg) 3 = _
      rw [show (nI k).toNatClampNeg = k from pk_cl k, (b2 k (by omega)).2.1.1, nIadd]
      rfl
  refine ctr_ev 100 [4] rfl rfl ?_
  exact key (vN V) 0 0 0 (by omega) rfl rfl
theorem m_rulesAll {V : Vst} (hV : okV V) (hm : MI V m) : Fn 0 127 [vR true 0 0] (c, m) (c, m) (some (vI (nI (sumR (vT V) (vN V))))) := by
  obtain ⟨⟨h1, h6⟩, -⟩ := id hV
  obtain ⟨wd, ⟨a1, -⟩, hMT, -⟩ := id hm
  have key : ∀ (j k : Nat) (x a : Int32), k + j = vN V → x = nI k → a = nI (sumR (vT V) k) → Go 0 127 none 4 [some (vR true 0 0), some (vI a), some (vI x)] [] (c, m) (fun w' r' => w' = (c, m) ∧ r' = some (vI (nI (sumR (vT V) (vN V))))) := by
    intro j
    induction j with
    | zero =>
      intro k x a hj hx ha
      refine go_ev 100 [4] (bT (c := m.1 0 0 0 ≤ x) (by rw [a1, hx, nIle (by omega) (by omega)]; omega) (And.intro rfl ?_))
      rw [ha, show k = vN V by omega]
    | succ j ih =>
      intro k x a hj hx ha
      subst hx ha
      refine go_ev 100 [4] (bF (c := m.1 0 0 0 ≤ nI k) (by rw [a1, nIle (by omega) (by omega)]; omega) (dI (vp6 (by omega)) ?_))
      refine ih (k + 1) _ _ (by omega) (nI_succ k).symm ?_
      show nI (sumR (vT V) k) + m.2.1 1 0 (nI k).toNatClampNeg = _
      rw [show (nI k).toNatClampNeg = k from pk_cl k, (hMT k (by omega)).1, nIadd]
      rfl
  refine ctr_ev 100 [4] rfl rfl ?_
  exact key (vN V) 0 0 0 (by omega) rfl rfl
def sCount (V : Vst) (x : Int32) : Int32 := if x = 0 then nI (vN V) else if x = 1 then nI (vLn V) else if x = 2 then nI (sumR (vT V) (vN V)) else if x = 3 then nI (growN (vN V) (lV (vN V) (vT V))) else -1002
theorem V_CH {V : Vst} (hV : okV V) : CH (vN V) (lV (vN V) (vT V)) (CI V) := CH_of hV.1.1 hV.1.2 hV.2.1 (XC_sam V) (fun _ => Iff.rfl)
theorem V_CK {V : Vst} (hV : okV V) : CK (vN V) (lV (vN V) (vT V)) (CI V) := CK_of hV.1.1 hV.1.2 hV.2.1 (XC_sam V) (fun c m f x h => h)
theorem V_OH {V : Vst} (hV : okV V) : OH (vP V) (vW V) (CI V) := ⟨hV.2.2.2.1, fun c hc => hc.2.2.1⟩
theorem lw_none (l : Nat → Nat → Nat → Nat) (wd : Nat) : lw l none wd = l := by
  funext p row day
  unfold lw
  rw [if_neg (fun z => by cases z)]
theorem V_MH {V : Vst} (hV : okV V) (wd : Nat) : MH (vN V) (lV (vN V) (vT V)) (MV (vN V) (vT V) (YM V) none wd) := by
  have := MV_MH (n := vN V) (Ts := vT V) (Y := YM V) (tl := none) (wd := wd) hV.1.1 hV.1.2 hV.2.1 (fun z => absurd rfl z) (YM_YC V).1 (fun _ => Iff.rfl)
  rw [lw_none] at this
  exact this
theorem V_MW {V : Vst} (hV : okV V) : MW (vN V) (lV (vN V) (vT V)) (MV (vN V) (vT V) (YM V)) := MV_MW hV.1.1 hV.1.2 hV.2.1 (YM_YC V)
theorem V_z {V : Vst} (wd : Nat) : ∀ (c m : Sd) f x, f = 41 ∨ f = 42 → MV (vN V) (vT V) (YM V) none wd m → MV (vN V) (vT V) (YM V) none wd (sF (c, m) true 0 0 f x).2 := by
  intro c m f x hf hm
  obtain ⟨⟨a1, a2, a3, a4, a5⟩, h2, h3⟩ := hm
  have e : ∀ g, g ≠ 41 → g ≠ 42 → (mf m f x).1 0 0 g = m.1 0 0 g := fun g h1 h2 => mf_n m x (by omega)
  show MV (vN V) (vT V) (YM V) none wd (mf m f x)
  exact ⟨⟨(e 0 (by decide) (by decide)).trans a1, (e 35 (by decide) (by decide)).trans a2, a3, (e 36 (by decide) (by decide)).trans a4, (e 37 (by decide) (by decide)).trans a5⟩, fun p hp => MT_fr (m := m) (e 37 (by decide) (by decide)) (fun _ _ => rfl) (h2 p hp), YM_fr (m := m) ⟨e 15 (by decide) (by decide), e 20 (by decide) (by decide)⟩ (fun _ _ _ => rfl) h3⟩
theorem pm_up {V : Vst} {wd : Nat} {c : Sd} {r : Int32} : ∀ w' r', PM (MV (vN V) (vT V) (YM V) none wd) c r w' r' → PM (MI V) c r w' r' := fun w' r' ⟨m', e1, e2, e3⟩ => ⟨m', e1, ⟨wd, e2⟩, e3⟩
theorem i32n {x : Int32} {k : Int} {j : Nat} (h : Int32.ofInt k = nI j) : (x = Int32.ofInt k) ↔ x = nI j := by rw [h]
theorem c_count {V : Vst} (hV : okV V) (hc : CI V c) (x : Int32) : Ctr 7 67 [vR false 0 0, vI x] (c, m) (PQ (CI V) m (sCount V x)) := by
  have hB := hc.1.1
  have hT := hc.2.2.2.1
  refine ctr_ev 100 [] rfl rfl ?_
  refine bI (c := x = Int32.ofInt 0) (fun h => ?_) (fun h => bI (c := x = Int32.ofInt 1) (fun h1 => ?_) (fun h1 => bI (c := x = Int32.ofInt 2) (fun h2 => ?_) (fun h2 => bI (c := x = Int32.ofInt 3) (fun h3 => ?_) (fun h3 => ?_))))
  · have h : x = 0 := h
    unfold sCount
    rw [if_pos h]
    exact pqi hc hB
  · have h : ¬ x = 0 := h
    have h1 : x = 1 := h1
    unfold sCount
    rw [if_neg h, if_pos h1]
    exact pqi hc hT.1
  · have h : ¬ x = 0 := h
    have h1 : ¬ x = 1 := h1
    have h2 : x = 2 := h2
    unfold sCount
    rw [if_neg h, if_neg h1, if_pos h2]
    exact iF (c_rules hV hc) (by decide) (pqi hc rfl)
  · have h : ¬ x = 0 := h
    have h1 : ¬ x = 1 := h1
    have h2 : ¬ x = 2 := h2
    have h3 : x = 3 := h3
    unfold sCount
    rw [if_neg h, if_neg h1, if_neg h2, if_pos h3]
    refine iC (c_growing (V_CH hV) hc) (by decide) ?_
    rintro _ _ ⟨c', rfl, hc', rfl⟩
    exact pqi hc' rfl
  · have h : ¬ x = 0 := h
    have h1 : ¬ x = 1 := h1
    have h2 : ¬ x = 2 := h2
    have h3 : ¬ x = 3 := h3
    unfold sCount
    rw [if_neg h, if_neg h1, if_neg h2, if_neg h3]
    exact pqi hc rfl
theorem m_count {V : Vst} (hV : okV V) (hm : MI V m) (x : Int32) : Ctr 6 129 [vR true 0 0, vI x] (c, m) (PM (MI V) c (sCount V x)) := by
  obtain ⟨wd, hmv⟩ := id hm
  have hT := hmv.2.2.2.2.1
  refine ctr_ev 100 [] rfl rfl ?_
  refine bI (c := x = Int32.ofInt 0) (fun h => ?_) (fun h => bI (c := x = Int32.ofInt 1) (fun h1 => ?_) (fun h1 => bI (c := x = Int32.ofInt 2) (fun h2 => ?_) (fun h2 => bI (c := x = Int32.ofInt 3) (fun h3 => ?_) (fun h3 => ?_))))
  · have h : x = 0 := h
    unfold sCount
    rw [if_pos h]
    exact mqi hm hmv.1.1
  · have h : ¬ x = 0 := h
    have h1 : x = 1 := h1
    unfold sCount
    rw [if_neg h, if_pos h1]
    exact mqi hm hT.1
  · have h : ¬ x = 0 := h
    have h1 : ¬ x = 1 := h1
    have h2 : x = 2 := h2
    unfold sCount
    rw [if_neg h, if_neg h1, if_pos h2]
    exact iF (m_rulesAll hV hm) (by decide) (mqi hm rfl)
  · have h : ¬ x = 0 := h
    have h1 : ¬ x = 1 := h1
    have h2 : ¬ x = 2 := h2
    have h3 : x = 3 := h3
    unfold sCount
    rw [if_neg h, if_neg h1, if_neg h2, if_pos h3]
    refine iC (m_growing (V_MH hV wd) (V_z wd) hmv) (by decide) ?_
    rintro _ _ ⟨m', rfl, hm', rfl⟩
    exact mqi ⟨wd, hm'⟩ rfl
  · have h : ¬ x = 0 := h
    have h1 : ¬ x = 1 := h1
    have h2 : ¬ x = 2 := h2
    have h3 : ¬ x = 3 := h3
    unfold sCount
    rw [if_neg h, if_neg h1, if_neg h2, if_neg h3]
    exact mqi hm rfl
theorem cal_count (x : Int32) : Cal 67 129 [vI x] := fun V c m hV hc hm => ⟨V, sCount V x, hV, inv_of (c_count hV hc x) (by decide), fun c2 => inv_of (m_count hV hm x) (by decide)⟩
/-! the calls that change nothing -/
theorem cal_lets (p r d : Int32) : Cal 66 126 [vI p, vI r, vI d] := fun V c m hV hc ⟨wd, hm⟩ => ⟨V, _, hV, inv_of (c_lets (V_CH hV) hc p r d) (by decide), fun c2 => inv_mono (inv_of (m_lets (V_MH hV wd) hm p r d) (by decide)) pm_up⟩
theorem cal_grows (p d x : Int32) : Cal 68 131 [vI p, vI d, vI x] := fun V c m hV hc ⟨wd, hm⟩ => ⟨V, _, hV, inv_of (c_grows (V_CH hV) hc p d x) (by decide), fun c2 => inv_mono (inv_of (m_grows (V_MH hV wd) (V_z wd) hm p d x) (by decide)) pm_up⟩
theorem cal_judge (r d : Int32) : Cal 69 133 [vI r, vI d] := fun V c m hV hc ⟨wd, hm⟩ => ⟨V, _, hV, inv_of (c_judge (V_CH hV) hc r d) (by decide), fun c2 => inv_mono (inv_of (m_judge (V_MH hV wd) hm r d) (by decide)) pm_up⟩
theorem cal_settled (i : Int32) : Cal 70 135 [vI i] := fun V c m hV hc ⟨wd, hm⟩ => ⟨V, _, hV, inv_of (c_settled (V_CH hV) hc i) (by decide), fun c2 => inv_mono (inv_of (m_settled (V_MH hV wd) hm i) (by decide)) pm_up⟩
theorem cal_end (x : Int32) : Cal 71 137 [vI x] := fun V c m hV hc ⟨wd, hm⟩ => ⟨V, _, hV, inv_of (c_end (V_CH hV) hc x) (by decide), fun c2 => inv_mono (inv_of (m_end (V_MH hV wd) hm x) (by decide)) pm_up⟩
theorem cal_climb (r w x : Int32) : Cal 72 140 [vI r, vI w, vI x] := fun V c m hV hc ⟨wd, hm⟩ => ⟨V, _, hV, inv_of (c_climb (V_CK hV) hc r w x) (by decide), fun c2 => inv_mono (inv_of (m_climb (V_MW hV) hm hm.1.1 r w x) (by decide)) pm_up⟩
theorem cal_hangs (p r : Int32) : Cal 73 141 [vI p, vI r] := fun V c m hV hc ⟨wd, hm⟩ => ⟨V, _, hV, inv_of (c_hangs (V_CH hV) (fun p row day d _ _ hd => hown_of p row day d hd) hc p r) (by decide), fun c2 => inv_mono (inv_of (m_hangs (V_MH hV wd) hm p r) (by decide)) pm_up⟩
theorem cal_leaving (p r : Int32) : Cal 74 142 [vI p, vI r] := fun V c m hV hc ⟨wd, hm⟩ => ⟨V, _, hV, inv_of (c_leaving (V_CK hV) hc p r) (by decide), fun c2 => inv_of (m_leaving (V_MW hV) hm (fun tl wd m h => h.1.1) p r) (by decide)⟩
theorem cal_soft (p r : Int32) : Cal 75 148 [vI p, vI r] := fun V c m hV hc ⟨wd, hm⟩ => ⟨V, _, hV, inv_of (c_soft hV.1.1 hV.1.2 hV.2.1 (XC_sam V) (fun c h => h.1) (fun _ => Iff.rfl) hc p r) (by decide), fun c2 => inv_mono (inv_of (m_soft hV.1.1 hV.1.2 hV.2.1 hV.2.2.1 (YM_sfs V) (fun m h => h.1) hm p r) (by decide)) pm_up⟩
theorem cal_byDay (d : Int32) : Cal 76 150 [vI d] := fun V c m hV hc ⟨wd, hm⟩ => ⟨V, _, hV, inv_of (c_byDay (V_CH hV) hc d) (by decide), fun c2 => inv_mono (inv_of (m_byDay (V_MH hV wd) hm d) (by decide)) pm_up⟩
theorem cal_dares (p : Int32) : Cal 77 151 [vI p] := fun V c m hV hc ⟨wd, hm⟩ => ⟨V, _, hV, inv_of (c_dares (V_CH hV) hc p) (by decide), fun c2 => inv_mono (inv_of (m_dares (V_MH hV wd) hm p) (by decide)) pm_up⟩
theorem cal_rests (s g t : Int32) : Cal 79 157 [vI s, vI g, vI t] := fun V c m hV hc hm => ⟨V, _, hV, inv_of (c_rests (V_CH hV) (V_OH hV) hc s g t) (by decide), fun c2 => inv_of (m_rests (J := MI V) hV.1.1 hV.1.2 (fun m ⟨wd, h⟩ => h.1.1) ⟨hV.2.2.2.1, fun m ⟨wd, h⟩ => h.2.2.2.1⟩ hm s g t) (by decide)⟩
theorem cal_leastTop (g : Int32) : Cal 80 158 [vI g] := fun V c m hV hc hm => ⟨V, _, hV, inv_of (c_leastTop (V_CH hV) (V_OH hV) hc g) (by decide), fun c2 => inv_of (m_leastTop (J := MI V) hV.1.1 hV.1.2 (fun m ⟨wd, h⟩ => h.1.1) ⟨hV.2.2.2.1, fun m ⟨wd, h⟩ => h.2.2.2.1⟩ hm g) (by decide)⟩
theorem cal_sly (p a x : Int32) : Cal 81 160 [vI p, vI a, vI x] := fun V c m hV hc hm => ⟨V, _, hV, inv_of (c_sly (V_CK hV) (V_OH hV) hc p a x) (by decide), fun c2 => inv_of (m_sly (V_MW hV) (fun tl wd => ⟨hV.2.2.2.1, fun m h => h.2.2.2.1⟩) hm (fun tl wd m h => h.1.1) p a x) (by decide)⟩
theorem cal_possible (s i : Int32) : Cal 82 162 [vI s, vI i] := fun V c m hV hc ⟨wd, hm⟩ => ⟨V, _, hV, inv_of (c_possible (V_CH hV) hc s i) (by decide), fun c2 => inv_mono (inv_of (m_possible (V_MH hV wd) hm s i) (by decide)) pm_up⟩
theorem cal_sure (s p : Int32) : Cal 83 163 [vI s, vI p] := fun V c m hV hc ⟨wd, hm⟩ => ⟨V, _, hV, inv_of (c_sure (V_CH hV) hc s p) (by decide), fun c2 => inv_mono (inv_of (m_sure (V_MH hV wd) hm s p) (by decide)) pm_up⟩
theorem cal_telling (s p : Int32) : Cal 84 164 [vI s, vI p] := fun V c m hV hc ⟨wd, hm⟩ => ⟨V, _, hV, inv_of (c_telling (V_CH hV) hc s p) (by decide), fun c2 => inv_mono (inv_of (m_telling (V_MH hV wd) hm s p) (by decide)) pm_up⟩
end OFR

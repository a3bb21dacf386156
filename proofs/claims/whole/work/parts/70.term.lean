/-! term, both sides -/
def upT (f : Nat → Trm) (p : Nat) (T : Trm) : Nat → Trm := fun q => if q = p then T else f q
def teV (V : Vst) (p : Int32) : Vst := if inP (vN V) p then (match pText (vX V) (vLn V) with
    | .inl (_, pl) => (vN V, vT V, vP V, vW V, vX V, 0, nI pl)
    | .inr T => (vN V, upT (vT V) (tN p) T, vP V, vW V, vX V, 0, -1)) else V
def sTerm (V : Vst) (p : Int32) : Int32 := if inP (vN V) p then (match pText (vX V) (vLn V) with
    | .inl (f, _) => -10 - nI f
    | .inr T => nI T.1.length) else -1001
theorem pText_ok {tx : Nat → Nat} {L : Nat} (hL : L ≤ 120) {T : Trm} (h : pText tx L = .inr T) : okT T ∧ okL T := pRules_ok hL (L + 1) ([], []) (sk tx L 0) T (by omega) (sk_le (Nat.zero_le _)) ⟨Nat.zero_le _, Nat.zero_le _, fun x hx => (by cases hx), trivial, rfl⟩ h
theorem teV_ok {V : Vst} (h : okV V) (p : Int32) : okV (teV V p) := by
  obtain ⟨h1, h2, h3, h4, h5, h6⟩ := id h
  unfold teV
  split
  · cases ht : pText (vX V) (vLn V) with
    | inl a => exact ⟨h1, h2, h3, h4, Nat.zero_le _, h6⟩
    | inr T =>
      obtain ⟨k1, k2⟩ := pText_ok h5 ht
      refine ⟨h1, fun q => ?_, fun q => ?_, h4, Nat.zero_le _, h6⟩
      · show okT (upT (vT V) (tN p) T q)
        unfold upT
        split
        · exact k1
        · exact h2 q
      · show okL (upT (vT V) (tN p) T q)
        unfold upT
        split
        · exact k2
        · exact h3 q
  · exact h
section TRM2
variable {c m : Sd}
theorem c_exchange (p t : Nat) : Fn 0 7 [vR false 9 p, vR false 11 t] (c, m) ((up3 c.1 9 p 6 0, c.2.1, up2 c.2.2 9 p t), m) (some (vR false 11 (c.2.2 9 p))) := ctr_ev 100 [] rfl rfl (And.intro rfl rfl)
theorem CT_rx {t t' : Nat} {c c' : Sd} {T : Trm} (h : RxS t c c') (ht : t' ≠ t) (hT : CT c t' T) : CT c' t' T := by
  unfold CT cRul cStp at hT ⊢
  rw [h.1 11 t' 3 (by omega) (fun z => ht z.2), h.1 11 t' 8 (by omega) (fun z => ht z.2), h.2.1 12 t' (by decide) (fun z => ht z.2), h.2.1 13 t' (by decide) (fun z => ht z.2), h.2.1 14 t' (by decide) (fun z => ht z.2), h.2.1 15 t' (by decide) (fun z => ht z.2), h.2.1 16 t' (by decide) (fun z => ht z.2), h.2.1 17 t' (by decide) (fun z => ht z.2), h.2.1 18 t' (by decide) (fun z => ht z.2)]
  exact hT
theorem CSl_rx {t t' : Nat} {c c' : Sd} {L : List Slt} (h : RxS t c c') (ht : t' ≠ t) (hT : CSl c t' L) : CSl c' t' L := by
  unfold CSl at hT ⊢
  rw [h.1 11 t' 10 (by omega) (fun z => ht z.2), h.2.1 22 t' (by decide) (fun z => ht z.2)]
  exact hT
theorem c_term {V : Vst} (hV : okV V) (hc : CI V c) (p : Int32) : Ctr 32 64 [vR false 0 0, vI p] (c, m) (PQ (CI (teV V p)) m (sTerm V p)) := by
  obtain ⟨⟨h1, h6⟩, hokT, hokL, h4, h5, h7⟩ := id hV
  obtain ⟨⟨b1, b2⟩, a1, a2, a3, a4, a5⟩ := id hc
  refine ctr_ev 100 [] rfl rfl (iF (c_has b1 p) (by decide) (bI (fun hp => ?_) (fun hp => ?_)))
  · rw [bi_0] at hp
    unfold teV sTerm
    rw [if_neg hp, if_neg hp]
    exact pqi hc rfl
  · rw [bi_0, Classical.not_not] at hp
    unfold teV sTerm
    rw [if_pos hp, if_pos hp]
    obtain ⟨hk, he⟩ := clampP h1 (by omega) hp
    generalize tN p = q at hk he ⊢
    subst he
    have hqc : (nI q).toNatClampNeg = q := pk_cl q
    refine iC (c_read (t := c.2.2 3 0) h5 h7 a3 rfl) (by decide) ?_
    rintro _ _ ⟨c1, rfl, hR, hcase⟩
    /- with the text away -/
    have e : ∀ k i f, ¬ (k = 1 ∧ i = 0 ∧ f = 1) → ((up3 c1.1 1 0 1 0, c1.2.1, c1.2.2) : Sd).1 k i f = c1.1 k i f := fun k i f h => up3_n c1.1 0 h
    have hpers : ∀ r, r < 6 → c1.1 9 r 0 = nI r ∧ CT c1 (c.2.2 9 r) (vT V r) ∧ CSl c1 (c.2.2 9 r) (slo (vT V r).2) ∧ (c1.1 9 r 3 = nI (vP V r) ∧ c1.1 9 r 4 = nI (vW V r)) ∧ c1.1 9 r 6 = c.1 9 r 6 ∧ c1.2.1 10 r = c.2.1 10 r := fun r hr => by
      obtain ⟨b3, b4, b5⟩ := b2 r hr
      refine ⟨(hR.1 9 r 0 (by omega) (by omega)).trans b3, CT_rx hR (a5.1 r hr) b4, CSl_rx hR (a5.1 r hr) (a1 r hr), ?_, hR.1 9 r 6 (by omega) (by omega), hR.2.1 10 r (by omega) (by omega)⟩
      rw [hR.1 9 r 3 (by omega) (by omega), hR.1 9 r 4 (by omega) (by omega)]
      exact a2 r hr
    have h71 : c1.1 7 0 1 = nI (vN V) := (hR.1 7 0 1 (by omega) (by omega)).trans b1
    rcases hcase with ⟨f, pl, hres, g1, g2, g3, rfl⟩ | ⟨T, hres, g1, g2, rfl⟩
    · rw [hres]
      refine bT (c := (0 : Int32) = 0) rfl (pqi (c := (up3 c1.1 1 0 1 0, c1.2.1, c1.2.2)) ?_ ?_)
      · refine ⟨⟨(e 7 0 1 (by omega)).trans h71, fun r hr => ?_⟩, fun r hr => ?_, fun r hr => ?_, ⟨up3_s c1.1 1 0 1 0, fun i hi => absurd hi (Nat.not_lt_zero i)⟩, (e 3 0 13 (by omega)).trans g3, ?_⟩
        · obtain ⟨p1, p2, p3, p4, p5, p6⟩ := hpers r hr
          refine ⟨(e 9 r 0 (by omega)).trans p1, ?_, ?_⟩
          · show CT _ (c1.2.2 9 r) (vT V r)
            rw [hR.2.2]
            unfold CT cRul cStp at p2 ⊢
            rw [e 11 _ 3 (by omega), e 11 _ 8 (by omega)]
            exact p2
          · have b5 := (b2 r hr).2.2
            show KP (vN V) (vT V r) _ r
            unfold KP at b5 ⊢
            rw [e 9 r 6 (by omega), p5]
            show c.1 9 r 6 = 0 ∨ ∃ d, (1 ≤ d ∧ d ≤ 9) ∧ c.1 9 r 6 = nI d ∧ ∀ row, row < 4 ^ vN V → nb (c1.2.1 10 r (kyR row r / 8)) (kyR row r % 8) = 0 ∨ nb (c1.2.1 10 r (kyR row r / 8)) (kyR row r % 8) = letT (vN V) r row d (vT V r) + 1
            rw [p6]
            exact b5
        · obtain ⟨p1, p2, p3, p4, p5, p6⟩ := hpers r hr
          show CSl _ (c1.2.2 9 r) (slo (vT V r).2)
          rw [hR.2.2]
          unfold CSl at p3 ⊢
          rw [e 11 _ 10 (by omega)]
          exact p3
        · obtain ⟨p1, p2, p3, p4, p5, p6⟩ := hpers r hr
          rw [e 9 r 3 (by omega), e 9 r 4 (by omega)]
          exact p4
        · show own (_, _, c1.2.2)
          unfold own
          rw [hR.2.2]
          exact a5
      · show -10 - up3 c1.1 1 0 1 0 3 0 12 = -10 - nI f
        rw [up3_n _ _ (by decide), g2]
    · rw [hres]
      have hok := (pText_ok h5 hres).1
      obtain ⟨hT, hS⟩ := g1.2 ⟨hok.1, hok.2.1⟩
      have hrefs := hR.2.2
      refine bF (c := (1 : Int32) = 0) (by decide) (dI (vp6 (by omega)) ?_)
      refine iF (c_exchange (c := (up3 c1.1 1 0 1 0, c1.2.1, c1.2.2)) (nI q).toNatClampNeg (c1.2.2 3 0)) (by decide) (dI (vp6 (by omega)) ?_)
      have e2 : ∀ k i g, ¬ (k = 1 ∧ i = 0 ∧ g = 1) → ¬ (k = 9 ∧ i = q ∧ g = 6) → up3 (up3 c1.1 1 0 1 0) 9 q 6 0 k i g = c1.1 k i g := fun k i g h h' => by
        rw [up3_n _ _ h', up3_n _ _ h]
      have hup : ∀ r, up2 (up2 c1.2.2 9 q (c1.2.2 3 0)) 3 0 (c1.2.2 9 q) 9 r = (if r = q then c1.2.2 3 0 else c1.2.2 9 r) := fun r => rfl
      have hup3 : up2 (up2 c1.2.2 9 q (c1.2.2 3 0)) 3 0 (c1.2.2 9 q) 3 0 = c1.2.2 9 q := rfl
      have hCTm : ∀ t' T', t' ≠ t' ∨ CT c1 t' T' → CT ((up3 (up3 c1.1 1 0 1 0) 9 q 6 0, c1.2.1, up2 (up2 c1.2.2 9 q (c1.2.2 3 0)) 3 0 (c1.2.2 9 q)) : Sd) t' T' := fun t' T' h => by
        have h := h.resolve_left (fun z => z rfl)
        unfold CT cRul cStp at h ⊢
        show up3 (up3 c1.1 1 0 1 0) 9 q 6 0 11 t' 3 = _ ∧ up3 (up3 c1.1 1 0 1 0) 9 q 6 0 11 t' 8 = _ ∧ _
        rw [e2 11 _ 3 (by omega) (by omega), e2 11 _ 8 (by omega) (by omega)]
        exact h
      have hCSm : ∀ t' L', CSl c1 t' L' → CSl ((up3 (up3 c1.1 1 0 1 0) 9 q 6 0, c1.2.1, up2 (up2 c1.2.2 9 q (c1.2.2 3 0)) 3 0 (c1.2.2 9 q)) : Sd) t' L' := fun t' L' h => by
        unfold CSl at h ⊢
        show up3 (up3 c1.1 1 0 1 0) 9 q 6 0 11 t' 10 = _ ∧ _
        rw [e2 11 _ 10 (by omega) (by omega)]
        exact h
      have hCI : CI (vN V, upT (vT V) q T, vP V, vW V, vX V, 0, -1) (up3 (up3 c1.1 1 0 1 0) 9 q 6 0, c1.2.1, up2 (up2 c1.2.2 9 q (c1.2.2 3 0)) 3 0 (c1.2.2 9 q)) := by
        refine ⟨⟨(e2 7 0 1 (by omega) (by omega)).trans h71, fun r hr => ?_⟩, fun r hr => ?_, fun r hr => ?_, ⟨?_, fun i hi => absurd hi (Nat.not_lt_zero i)⟩, ?_, ?_⟩
        · obtain ⟨p1, p2, p3, p4, p5, p6⟩ := hpers r hr
          refine ⟨(e2 9 r 0 (by omega) (by omega)).trans p1, ?_, ?_⟩
          · show CT _ (up2 (up2 c1.2.2 9 q (c1.2.2 3 0)) 3 0 (c1.2.2 9 q) 9 r) (upT (vT V) q T r)
            rw [hup r]
            unfold upT
            by_cases hrq : r = q
            · rw [if_pos hrq, if_pos hrq, hrefs]
              exact hCTm _ _ (Or.inr hT)
            · rw [if_neg hrq, if_neg hrq, hrefs]
              rw [hrefs] at hCTm
              exact hCTm _ _ (Or.inr p2)
          · show KP (vN V) (upT (vT V) q T r) _ r
            unfold upT
            by_cases hrq : r = q
            · left
              show up3 (up3 c1.1 1 0 1 0) 9 q 6 0 9 r 6 = 0
              rw [hrq, up3_s]
            · rw [if_neg hrq]
              have b5 := (b2 r hr).2.2
              unfold KP at b5 ⊢
              show up3 (up3 c1.1 1 0 1 0) 9 q 6 0 9 r 6 = 0 ∨ ∃ d, (1 ≤ d ∧ d ≤ 9) ∧ up3 (up3 c1.1 1 0 1 0) 9 q 6 0 9 r 6 = nI d ∧ ∀ row, row < 4 ^ vN V → nb (c1.2.1 10 r (kyR row r / 8)) (kyR row r % 8) = 0 ∨ nb (c1.2.1 10 r (kyR row r / 8)) (kyR row r % 8) = letT (vN V) r row d (vT V r) + 1
              rw [e2 9 r 6 (by omega) (by omega), p5, p6]
              exact b5
        · obtain ⟨p1, p2, p3, p4, p5, p6⟩ := hpers r hr
          show CSl _ (up2 (up2 c1.2.2 9 q (c1.2.2 3 0)) 3 0 (c1.2.2 9 q) 9 r) (slo (upT (vT V) q T r).2)
          rw [hup r]
          unfold upT
          by_cases hrq : r = q
          · rw [if_pos hrq, if_pos hrq, hrefs]
            exact hCSm _ _ hS
          · rw [if_neg hrq, if_neg hrq, hrefs]
            rw [hrefs] at hCSm
            exact hCSm _ _ p3
        · obtain ⟨p1, p2, p3, p4, p5, p6⟩ := hpers r hr
          show up3 (up3 c1.1 1 0 1 0) 9 q 6 0 9 r 3 = _ ∧ up3 (up3 c1.1 1 0 1 0) 9 q 6 0 9 r 4 = _
          rw [e2 9 r 3 (by omega) (by omega), e2 9 r 4 (by omega) (by omega)]
          exact p4
        · show up3 (up3 c1.1 1 0 1 0) 9 q 6 0 1 0 1 = 0
          rw [up3_n _ _ (by omega), up3_s]
        · exact (e2 3 0 13 (by omega) (by omega)).trans g2
        · have o1 := a5.1
          have o2 := a5.2
          rw [← hrefs] at o1 o2
          refine ⟨fun r hr => ?_, fun r s hr hs hrs => ?_⟩
          · show up2 (up2 c1.2.2 9 q (c1.2.2 3 0)) 3 0 (c1.2.2 9 q) 9 r ≠ up2 (up2 c1.2.2 9 q (c1.2.2 3 0)) 3 0 (c1.2.2 9 q) 3 0
            rw [hup r, hup3]
            by_cases hrq : r = q
            · rw [if_pos hrq]
              exact (o1 q (by omega)).symm
            · rw [if_neg hrq]
              exact o2 r q hr (by omega) hrq
          · show up2 (up2 c1.2.2 9 q (c1.2.2 3 0)) 3 0 (c1.2.2 9 q) 9 r ≠ up2 (up2 c1.2.2 9 q (c1.2.2 3 0)) 3 0 (c1.2.2 9 q) 9 s
            rw [hup r, hup s]
            by_cases hrq : r = q
            · rw [if_pos hrq, if_neg (by omega)]
              exact (o1 s hs).symm
            · rw [if_neg hrq]
              by_cases hsq : s = q
              · rw [if_pos hsq]
                exact o1 r hr
              · rw [if_neg hsq]
                exact o2 r s hr hs hrs
      refine pqi (c := (up3 (up3 c1.1 1 0 1 0) 9 (nI q).toNatClampNeg 6 0, c1.2.1, up2 (up2 c1.2.2 9 (nI q).toNatClampNeg (c1.2.2 3 0)) 3 0 (c1.2.2 9 (nI q).toNatClampNeg))) ?_ ?_
      · rw [hqc]
        exact hCI
      · show up3 (up3 c1.1 1 0 1 0) 9 (nI q).toNatClampNeg 6 0 11 (up2 (up2 c1.2.2 9 (nI q).toNatClampNeg (c1.2.2 3 0)) 3 0 (c1.2.2 9 (nI q).toNatClampNeg) 9 (nI q).toNatClampNeg) 3 = _
        rw [hqc, hup q, if_pos rfl, e2 11 _ 3 (by omega) (by omega), hrefs]
        exact hT.1
theorem mRul_ot {m m' : Sd} {p q : Nat} (hq : q ≠ p) (ho : OtT p m m') : ∀ {R : List (Nat × Nat × Nat)} {r f : Nat}, r + R.length ≤ 25 → mRul m q R r f → mRul m' q R r f
  | [], _, _, _, _ => trivial
  | (k, o, e) :: R, r, f, hl, h => by
    rw [List.length_cons] at hl
    obtain ⟨h1, h2⟩ := h
    refine ⟨?_, mRul_ot hq ho (by omega) h2⟩
    have hz : ¬ (25 * p ≤ 25 * q + r ∧ 25 * q + r < 25 * p + 25) := by omega
    rw [ho.2.1 2 (by decide) (by decide) _ hz, ho.2.1 3 (by decide) (by decide) _ hz, ho.2.1 4 (by decide) (by decide) _ hz, ho.2.1 5 (by decide) (by decide) _ hz]
    exact h1
theorem m_termC {V : Vst} (hV : okV V) (hm : MI V m) (p : Int32) : Inv 40 119 [vR true 0 0, vI p] (c, m) (PM (MI (teV V p)) c (sTerm V p)) := by
  obtain ⟨⟨h1, h6⟩, hokT, hokL, h4, h5, h7⟩ := id hV
  obtain ⟨wd, ⟨a1, a2, a3, a4, a5⟩, hMT, hY⟩ := id hm
  by_cases hp : inP (vN V) p
  · unfold teV sTerm
    rw [if_pos hp, if_pos hp]
    obtain ⟨hk, he⟩ := clampP h1 (by omega) hp
    generalize tN p = q at hk he ⊢
    subst he
    refine inv_mono (inv_of (m_term (c := c) h5 h7 h6 hk a1 a5 hY.2.2.1) (by decide)) ?_
    rintro w' r' ⟨m', rfl, hT, h15, hcase⟩
    have ef : ∀ f, f = 0 ∨ (35 ≤ f ∧ f ≤ 37) → m'.1 0 0 f = m.1 0 0 f := fun f hf => hT.1 0 0 f (by omega)
    have e12 := hT.2.1 12 0 (by decide) (by decide)
    have e13 := hT.2.1 13 0 (by decide) (by decide)
    rcases hcase with ⟨f, pl, hres, g20, rfl, garr⟩ | ⟨T, hres, g20, rfl, gMT, gTl, gO⟩
    · rw [hres]
      refine ⟨m', rfl, MI_fr (V := V) rfl rfl ef (fun k hk => ?_) (fun k h1 h2 => hT.2.1 k 0 (by omega) (by omega)) ⟨fun r hr => ?_, fun r hr => ?_, ⟨h15, fun i hi => absurd hi (Nat.not_lt_zero i)⟩, g20⟩ hm, rfl⟩
      · rcases Nat.eq_zero_or_pos k with hz | hz
        · rw [hz, hT.2.1 0 0 (by decide) (by decide)]
        · exact garr k hz (by omega)
      · show mTld m' r (vT V r).2
        unfold mTld
        rw [garr 11 (by decide) (by decide)]
        exact hY.1 r hr
      · rw [e12, e13]
        exact hY.2.1 r hr
    · rw [hres]
      refine ⟨m', rfl, ⟨wd, ⟨(ef 0 (by omega)).trans a1, (ef 35 (by omega)).trans a2, fun z hz => (by cases hz), (ef 36 (by omega)).trans a4, (ef 37 (by omega)).trans a5⟩, fun r hr => ?_, ⟨fun r hr => ?_, fun r hr => ?_, ⟨h15, fun i hi => absurd hi (Nat.not_lt_zero i)⟩, g20⟩⟩, rfl⟩
      · show MT m' r (upT (vT V) q T r)
        unfold upT
        by_cases hrq : r = q
        · rw [if_pos hrq, hrq]
          exact gMT
        · rw [if_neg hrq]
          have hb := hMT r hr
          refine ⟨by rw [gO.1 r hrq]; exact hb.1, mRul_ot hrq gO (by have := (hokT r).1; omega) hb.2.1, fun s x hx => ?_⟩
          have hs : s < (vT V r).2.length := (List.getElem?_eq_some_iff.mp hx).1
          have h40 := (hokT r).2.1
          have hz : ¬ (64 * q ≤ 64 * r + s ∧ 64 * r + s < 64 * q + 64) := by omega
          have := hb.2.2 s x hx
          have e37 : m'.1 0 0 37 = -1 := (ef 37 (by omega)).trans a5
          unfold mStp effM effG at this ⊢
          rw [if_neg (by rw [a5]; exact nI_m1 (by omega)), if_neg (by rw [a5]; exact nI_m1 (by omega))] at this
          rw [if_neg (by rw [e37]; exact nI_m1 (by omega)), if_neg (by rw [e37]; exact nI_m1 (by omega)), gO.2.2 6 (by decide) (by decide) _ hz, gO.2.2 7 (by decide) (by decide) _ hz, gO.2.2 8 (by decide) (by decide) _ hz, gO.2.2 9 (by decide) (by decide) _ hz, gO.2.2 10 (by decide) (by decide) _ hz]
          exact this
      · show mTld m' r (upT (vT V) q T r).2
        unfold upT
        by_cases hrq : r = q
        · rw [if_pos hrq, hrq]
          exact gTl
        · rw [if_neg hrq]
          intro s x hx
          have hs : s < (vT V r).2.length := (List.getElem?_eq_some_iff.mp hx).1
          have h40 := (hokT r).2.1
          rw [gO.2.2 11 (by decide) (by decide) _ (by omega)]
          exact hY.1 r hr s x hx
      · rw [e12, e13]
        exact hY.2.1 r hr
  · unfold teV sTerm
    rw [if_neg hp, if_neg hp]
    refine inv_of (d' := 2) (ctr_ev 100 [] rfl rfl (iF (m_noPerson a1 p) (by decide) (bF (c := bi (¬ inP (vN V) p) = 0) ?_ (mqi hm rfl)))) (by decide)
    rw [bi_t hp]
    decide
theorem cal_term (p : Int32) : Cal 64 119 [vI p] := fun V c m hV hc hm => ⟨teV V p, sTerm V p, teV_ok hV p, inv_of (c_term hV hc p) (by decide), fun c2 => m_termC hV hm p⟩
end TRM2

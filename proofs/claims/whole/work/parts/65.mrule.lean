/-! the model: one rule -/
def PuS (m m' : Sd) : Prop := (∀ k i f, ¬ (k = 0 ∧ i = 0 ∧ ((16 ≤ f ∧ f ≤ 22) ∨ f = 34)) → m'.1 k i f = m.1 k i f) ∧ (∀ k i, ¬ (23 ≤ k ∧ k ≤ 33) → m'.2.1 k i = m.2.1 k i) ∧ m'.2.2 = m.2.2
theorem PuS_tr {a b c : Sd} (h : PuS a b) (h2 : PuS b c) : PuS a c := ⟨fun k i f h1 => (h2.1 k i f h1).trans (h.1 k i f h1), fun k i h1 => (h2.2.1 k i h1).trans (h.2.1 k i h1), h2.2.2.trans h.2.2⟩
theorem PuS_rfl (m : Sd) : PuS m m := ⟨fun _ _ _ _ => rfl, fun _ _ _ => rfl, rfl⟩
theorem PuS_pr {m m' : Sd} (h : PrS m m') : PuS m m' := ⟨fun k i f h1 => h.1 k i f (fun z => h1 ⟨z.1, z.2.1, by omega⟩), fun k i h1 => h.2.1 k i (fun z => h1 (by omega)), h.2.2⟩
theorem PuS_ma (m : Sd) {k j : Nat} (x : Int32) (h : 23 ≤ k ∧ k ≤ 33) : PuS m (ma m k j x) := ⟨fun _ _ _ _ => rfl, fun k' i h1 => upA_n m.2.1 x (fun z => h1 (by omega)), rfl⟩
theorem PuS_mf (m : Sd) {f : Nat} (x : Int32) (h : 16 ≤ f ∧ f ≤ 22) : PuS m (mf m f x) := ⟨fun k i g h1 => up3_n m.1 x (fun z => h1 ⟨z.1, z.2.1, by omega⟩), fun _ _ _ => rfl, rfl⟩
theorem Mx_pu {tx : Nat → Nat} {L : Nat} {m m' : Sd} (h : PuS m m') (hM : Mx tx L m) : Mx tx L m' := by
  unfold Mx
  rw [h.1 0 0 15 (by decide), h.2.1 14 0 (by decide)]
  exact hM
/-- rules but the r-th -/
def OtR (r : Nat) (m m' : Sd) : Prop := ∀ k, 23 ≤ k → k ≤ 26 → ∀ s, s ≠ r → m'.2.1 k 0 s = m.2.1 k 0 s
theorem OtR_tr {r : Nat} {a b c : Sd} (h : OtR r a b) (h2 : OtR r b c) : OtR r a c := fun k h3 h4 s hs => (h2 k h3 h4 s hs).trans (h k h3 h4 s hs)
theorem OtR_ma {r : Nat} (m : Sd) (k : Nat) (x : Int32) : OtR r m (ma m k r x) := fun k' _ _ s hs => ma_j m k x hs
theorem OtR_pr {r : Nat} {m m' : Sd} (h : PrS m m') : OtR r m m' := fun k h1 h2 s _ => by rw [h.2.1 k 0 (by omega)]
theorem Sg_ma {m : Sd} {O : List StpT} {k j : Nat} {x : Int32} (hk : k < 27) (h : Sg m O) : Sg (ma m k j x) O := by
  refine ⟨h.1, fun s e he => ?_⟩
  have := h.2 s e he
  unfold sgn at this ⊢
  rw [ma_k _ _ (by omega), ma_k _ _ (by omega), ma_k _ _ (by omega), ma_k _ _ (by omega), ma_k _ _ (by omega), ma_k _ _ (by omega)]
  exact this
def QRu (tx : Nat → Nat) (L : Nat) (c m : Sd) (r : Nat) (O : List StpT) (res : Rs (Nat × Nat × List StpT × Nat)) : Wd → Option PV → Prop := fun w' r' => ∃ m', w' = (c, m') ∧ PuS m m' ∧ OtR r m m' ∧ r' = none ∧ ((∃ f pl, res = .inl (f, pl) ∧ (0 < f ∧ f < 100) ∧ m'.1 0 0 19 = nI f ∧ m'.1 0 0 20 = nI pl) ∨ (∃ k o A j, res = .inr (k, o, A, j) ∧ m'.1 0 0 19 = 0 ∧ m'.1 0 0 20 = m.1 0 0 20 ∧ At tx L j m' ∧ Sg m' (O ++ A) ∧ m'.1 0 0 21 = nI (r + 1) ∧ m'.2.1 23 0 r = nI k ∧ m'.2.1 24 0 r = nI o ∧ m'.2.1 25 0 r = nI O.length ∧ m'.2.1 26 0 r = nI (O ++ A).length))
section MRU
variable {tx : Nat → Nat} {L i r : Nat} {c m : Sd} {O : List StpT}
theorem qrul {m' : Sd} {res : Rs (Nat × Nat × List StpT × Nat)} {f pl : Nat} (h : PuS m m') (h0 : OtR r m m') (h1 : res = .inl (f, pl)) (h2 : 0 < f ∧ f < 100) (h3 : m'.1 0 0 19 = nI f) (h4 : m'.1 0 0 20 = nI pl) : QRu tx L c m r O res (c, m') none := ⟨m', rfl, h, h0, rfl, Or.inl ⟨f, pl, h1, h2, h3, h4⟩⟩
theorem qrur {m' : Sd} {res : Rs (Nat × Nat × List StpT × Nat)} {k o j : Nat} {A : List StpT} (h : PuS m m') (h0 : OtR r m m') (h1 : res = .inr (k, o, A, j)) (h2 : m'.1 0 0 19 = 0 ∧ m'.1 0 0 20 = m.1 0 0 20 ∧ At tx L j m' ∧ Sg m' (O ++ A) ∧ m'.1 0 0 21 = nI (r + 1) ∧ m'.2.1 23 0 r = nI k ∧ m'.2.1 24 0 r = nI o ∧ m'.2.1 25 0 r = nI O.length ∧ m'.2.1 26 0 r = nI (O ++ A).length) : QRu tx L c m r O res (c, m') none := ⟨m', rfl, h, h0, rfl, Or.inr ⟨k, o, A, j, h1, h2⟩⟩
theorem m_takeRule (hL : L ≤ 120) (hb : ∀ i, tx i < 256) (hM : Mx tx L m) (hA : At tx L i m) (h19 : m.1 0 0 19 = 0) (h21 : m.1 0 0 21 = nI r) (hr25 : r < 25) (hG : Sg m O) (hO : 2 * O.length ≤ i) : Ctr 7 118 [vR true 0 0] (c, m) (QRu tx L c m r O (pRule tx L i)) := by
  obtain ⟨hil, hsi⟩ := At_le hA
  have hki : vp_in (m.1 0 0 21) 25 := pk_in r 25 hr25 h21
  have hkc : (m.1 0 0 21).toNatClampNeg = r := pk_cl r h21
  /- with a fault -/
  have hbad : ∀ (m3 : Sd) (x2 : Int32) (v3 : Option PV) (f pl : Nat), PuS m m3 → OtR r m m3 → (0 < f ∧ f < 100) → m3.1 0 0 19 = nI f → m3.1 0 0 20 = nI pl → pRule tx L i = .inl (f, pl) → Go 7 118 none 165 [some (vR true 0 0), some (vI (m.1 0 0 21)), some (vI x2), v3] [] (c, m3) (QRu tx L c m r O (pRule tx L i)) := by
    intro m3 x2 v3 f pl g1 g2 g3 g4 g5 g6
    refine go_ev 100 [] (dI hki (iF (m_takesX (m := ma m3 25 (m.1 0 0 21).toNatClampNeg (m3.1 0 0 22)) g3 g4) (by decide) (bT (c := (0 : Int32) = 0) rfl (dI hki ?_))))
    refine qrul (m' := mf (ma (ma m3 25 (m.1 0 0 21).toNatClampNeg (m3.1 0 0 22)) 26 (m.1 0 0 21).toNatClampNeg (m3.1 0 0 22)) 21 (m3.1 0 0 21 + 1)) ?_ ?_ g6 g3 ((mf_n _ _ (by decide)).trans g4) ((mf_n _ _ (by decide)).trans g5)
    · exact PuS_tr g1 (PuS_tr (PuS_ma _ _ (by decide)) (PuS_tr (PuS_ma _ _ (by decide)) (PuS_mf _ _ (by decide))))
    · rw [hkc]
      exact OtR_tr g2 (OtR_tr (OtR_ma _ _ _) (OtR_tr (OtR_ma (ma m3 25 r (m3.1 0 0 22)) 26 _) (fun _ _ _ _ _ => rfl)))
  /- how much is read -/
  have hgood : ∀ (m3 : Sd) (x2 : Int32) (v3 : Option PV) (k o j : Nat), PuS m m3 → OtR r m m3 → m3.1 0 0 19 = 0 → m3.1 0 0 20 = m.1 0 0 20 → m3.1 0 0 21 = nI r → At tx L j m3 → Sg m3 O → m3.2.1 23 0 r = nI k → m3.2.1 24 0 r = nI o → pMuch tx L i = .inr (k, o, j) → Go 7 118 none 165 [some (vR true 0 0), some (vI (m.1 0 0 21)), some (vI x2), v3] [] (c, m3) (QRu tx L c m r O (pRule tx L i)) := by
    intro m3 x2 v3 k o j g1 g2 g19 g20 g21 gA gG g23 g24 gm
    have hpr : pRule tx L i = (if isW tx L 1 j = true then rb (pSome tx L (pOne tx L 6) (nx tx L j)) (fun r => .inr (k, o, r.1, r.2)) else .inr (k, o, [], j)) := by
      rw [pRule_rb, gm]
      rfl
    have hgt := (pMuch_gt gm).1
    have hp4 : PuS m (ma m3 25 (m.1 0 0 21).toNatClampNeg (m3.1 0 0 22)) := PuS_tr g1 (PuS_ma _ _ (by decide))
    have ho4 : OtR r m (ma m3 25 (m.1 0 0 21).toNatClampNeg (m3.1 0 0 22)) := by
      rw [hkc]
      exact OtR_tr g2 (OtR_ma _ _ _)
    have e23 : (ma m3 25 (m.1 0 0 21).toNatClampNeg (m3.1 0 0 22)).2.1 23 0 r = nI k := by rw [ma_k _ _ (by decide)]; exact g23
    have e24 : (ma m3 25 (m.1 0 0 21).toNatClampNeg (m3.1 0 0 22)).2.1 24 0 r = nI o := by rw [ma_k _ _ (by decide)]; exact g24
    have e25 : (ma m3 25 (m.1 0 0 21).toNatClampNeg (m3.1 0 0 22)).2.1 25 0 r = nI O.length := by rw [ma_s, hkc, pk_us]; exact gG.1
    have hG4 : Sg (ma m3 25 (m.1 0 0 21).toNatClampNeg (m3.1 0 0 22)) O := Sg_ma (by decide) gG
    have hA4 : At tx L j (ma m3 25 (m.1 0 0 21).toNatClampNeg (m3.1 0 0 22)) := gA
    have q19 : (ma m3 25 (m.1 0 0 21).toNatClampNeg (m3.1 0 0 22)).1 0 0 19 = 0 := g19
    have q20 : (ma m3 25 (m.1 0 0 21).toNatClampNeg (m3.1 0 0 22)).1 0 0 20 = m.1 0 0 20 := g20
    have q21 : (ma m3 25 (m.1 0 0 21).toNatClampNeg (m3.1 0 0 22)).1 0 0 21 = nI r := g21
    refine go_ev 100 [194] (dI hki (iC (m_takes (q := 1) hL hb (Mx_pu hp4 hM) hA4 q19 (by decide)) (by decide) ?_))
    generalize ma m3 25 (m.1 0 0 21).toNatClampNeg (m3.1 0 0 22) = m4 at hp4 ho4 e23 e24 e25 hG4 hA4 q19 q20 q21
    rintro _ _ ⟨m5, rfl, hP5, ⟨y16, y17, y18, y19, y20⟩, rfl⟩
    have hA5 := At_takes (q := 1) (by decide) hA4 y16
    have hp5 := PuS_tr hp4 (PuS_pr (PrS_pf hP5))
    have ho5 := OtR_tr ho4 (OtR_pr (r := r) (PrS_pf hP5))
    have h194 : ∀ (m6 : Sd) (A : List StpT) (l : Nat), PrS m4 m6 → m6.1 0 0 19 = 0 → m6.1 0 0 20 = m.1 0 0 20 → At tx L l m6 → Sg m6 (O ++ A) → pRule tx L i = .inr (k, o, A, l) → Go 7 118 none 194 [some (vR true 0 0), some (vI (m.1 0 0 21)), some (vI x2), v3] [] (c, m6) (QRu tx L c m r O (pRule tx L i)) := by
      intro m6 A l hp6 w19 w20 hA6 hG6 hres
      refine go_ev 100 [] (dI hki (qrur (k := k) (o := o) (A := A) (j := l) (m' := mf (ma m6 26 (m.1 0 0 21).toNatClampNeg (m6.1 0 0 22)) 21 (m6.1 0 0 21 + 1)) ?_ ?_ hres ⟨?_, ?_, ?_, ?_, ?_, ?_, ?_, ?_, ?_⟩))
      · exact PuS_tr hp4 (PuS_tr (PuS_pr hp6) (PuS_tr (PuS_ma _ _ (by decide)) (PuS_mf _ _ (by decide))))
      · rw [hkc]
        exact OtR_tr ho4 (OtR_tr (OtR_pr hp6) (OtR_tr (OtR_ma _ _ _) (fun _ _ _ _ _ => rfl)))
      · exact (mf_n _ _ (by decide)).trans w19
      · exact (mf_n _ _ (by decide)).trans w20
      · obtain ⟨a, a1, a2⟩ := hA6
        exact ⟨a, (mf_n _ _ (by decide)).trans a1, a2⟩
      · have h2 : Sg (ma m6 26 (m.1 0 0 21).toNatClampNeg (m6.1 0 0 22)) (O ++ A) := Sg_ma (by decide) hG6
        exact ⟨(mf_n _ _ (by decide)).trans h2.1, h2.2⟩
      · rw [mf_s, hp6.1 0 0 21 (by decide), q21, nI_succ]
      · show (ma m6 26 (m.1 0 0 21).toNatClampNeg (m6.1 0 0 22)).2.1 23 0 r = _
        rw [ma_k _ _ (by decide), hp6.2.1 23 0 (by decide)]
        exact e23
      · show (ma m6 26 (m.1 0 0 21).toNatClampNeg (m6.1 0 0 22)).2.1 24 0 r = _
        rw [ma_k _ _ (by decide), hp6.2.1 24 0 (by decide)]
        exact e24
      · show (ma m6 26 (m.1 0 0 21).toNatClampNeg (m6.1 0 0 22)).2.1 25 0 r = _
        rw [ma_k _ _ (by decide), hp6.2.1 25 0 (by decide)]
        exact e25
      · show (ma m6 26 (m.1 0 0 21).toNatClampNeg (m6.1 0 0 22)).2.1 26 0 r = _
        rw [ma_s, hkc, pk_us]
        exact hG6.1
    cases w1 : isW tx L 1 j with
    | false =>
      rw [w1] at hA5
      have hA5 : At tx L j m5 := hA5
      refine bT (c := (0 : Int32) = 0) rfl (h194 m5 [] j (PrS_pf hP5) (y19.trans q19) (y20.trans q20) hA5 (by rw [List.append_nil]; exact Sg_pf hP5 hG4) ?_)
      rw [hpr, if_neg (by rw [w1]; exact Bool.false_ne_true)]
    | true =>
      rw [w1] at hA5
      have hA5 : At tx L (nx tx L j) m5 := hA5
      have hnx := nx_gt (by decide) w1
      rw [if_pos w1] at hpr
      refine bF (c := (1 : Int32) = 0) (by decide) (iC (m_takeSome (O := O) hL hb (Mx_pu hp5 hM) hA5 (y19.trans q19) ⟨by show 2 * (O.length + 0) ≤ nx tx L j + 0; omega, by decide, fun x hx => by cases hx⟩ (Sg_pf hP5 hG4)) (by decide) ?_)
      rw [top_same]
      rintro _ _ ⟨m6, rfl, hp6, rfl, ⟨f, pl, hr6, hf, w19, w20⟩ | ⟨⟨A, l⟩, hr6, w19, w20, hA6, hG6⟩⟩
      · have hne : pSome tx L (pOne tx L 6) (nx tx L j) = .inl (f, pl) := by
          cases h : pSome tx L (pOne tx L 6) (nx tx L j) with
          | inl x =>
            rw [h] at hr6
            cases hr6
            rfl
          | inr a =>
            rw [h] at hr6
            cases hr6
        refine go_ev 100 [] (dI hki (qrul (f := f) (pl := pl) (m' := mf (ma m6 26 (m.1 0 0 21).toNatClampNeg (m6.1 0 0 22)) 21 (m6.1 0 0 21 + 1)) ?_ ?_ ?_ hf ((mf_n _ _ (by decide)).trans w19) ((mf_n _ _ (by decide)).trans w20)))
        · exact PuS_tr hp5 (PuS_tr (PuS_pr hp6) (PuS_tr (PuS_ma _ _ (by decide)) (PuS_mf _ _ (by decide))))
        · rw [hkc]
          exact OtR_tr ho5 (OtR_tr (OtR_pr hp6) (OtR_tr (OtR_ma _ _ _) (fun _ _ _ _ _ => rfl)))
        · rw [hpr, hne]
          rfl
      · obtain ⟨B, hB, hA2⟩ : ∃ B, pSome tx L (pOne tx L 6) (nx tx L j) = .inr (B, l) ∧ A = O ++ B := by
          cases h : pSome tx L (pOne tx L 6) (nx tx L j) with
          | inl x =>
            rw [h] at hr6
            cases hr6
          | inr a =>
            rw [h] at hr6
            cases hr6
            exact ⟨a.1, rfl, rfl⟩
        subst hA2
        refine h194 m6 B l (PrS_tr (PrS_pf hP5) hp6) w19 (w20.trans (y20.trans q20)) hA6 hG6 ?_
        rw [hpr, hB]
        rfl
  have nop : ∀ q q', q < 17 → q' < 17 → (wB q).length ≠ (wB q').length → isW tx L q i = true → isW tx L q' i = false := fun q q' h1 h2 h3 h4 => Bool.eq_false_iff.mpr (fun z => by
    have e1 := (isW_lt h1 h4).2.2.1
    have e2 := (isW_lt h2 z).2.2.1
    omega)
  have hp1 : PuS m (ma m 24 (m.1 0 0 21).toNatClampNeg 0) := PuS_ma _ _ (by decide)
  have hA1 : At tx L i (ma m 24 (m.1 0 0 21).toNatClampNeg 0) := hA
  refine ctr_ev 200 [165] rfl rfl (dI hki (iC (m_here hL hb (Mx_pu hp1 hM) hA1) (by decide) ?_))
  rintro _ _ ⟨m2, rfl, hP2, ⟨k16, kf⟩, rfl⟩
  have hp2 := PuS_tr hp1 (PuS_pr (PrS_pf hP2))
  have ho2 : OtR r m m2 := by
    have h1 : OtR r m (ma m 24 (m.1 0 0 21).toNatClampNeg 0) := by
      rw [hkc]
      exact OtR_ma _ _ _
    exact OtR_tr h1 (OtR_pr (PrS_pf hP2))
  have k19 : m2.1 0 0 19 = 0 := (kf 19 (by decide)).trans h19
  have k20 : m2.1 0 0 20 = m.1 0 0 20 := kf 20 (by decide)
  have k21 : m2.1 0 0 21 = nI r := (kf 21 (by decide)).trans h21
  have k24 : m2.2.1 24 0 r = 0 := by
    rw [hP2.2]
    show (ma m 24 (m.1 0 0 21).toNatClampNeg 0).2.1 24 0 r = 0
    rw [ma_s, hkc, pk_us]
  have hG2 : Sg m2 O := Sg_pf hP2 (Sg_ma (by decide) hG)
  have hA2 : At tx L i m2 := At_i k16 hsi hil
  have hM2 := Mx_pu hp2 hM
  have hD : Fn 0 92 [vL (hr tx L i).toInt64, vL (48 : Int32).toInt64, vL (57 : Int32).toInt64] (c, m2) (c, m2) (some (vI (bi (i < L ∧ dgB (tx i) = true)))) := by
    unfold hr
    by_cases hl : i < L
    · rw [if_pos hl]
      have := in_dg (c := c) (m := m2) (hb i) rfl
      rw [show bi (dgB (tx i) = true) = bi (i < L ∧ dgB (tx i) = true) from by
        by_cases h : dgB (tx i) = true
        · rw [bi_t h, bi_t ⟨hl, h⟩]
        · rw [bi_f h, bi_f (fun z => h z.2)]] at this
      exact this
    · rw [if_neg hl, bi_f (fun z => hl z.1)]
      exact m_in _ (-1) 48 57
  refine iF hD (by decide) (bI (fun hdg => ?_) (fun hdg => ?_))
  · rw [bi_0] at hdg
    refine iC (m_takeWord hL hb hM2 hA2) (by decide) ?_
    rintro _ _ ⟨m3, rfl, hP3, ⟨y16, y17, y18, y19, y20⟩, rfl⟩
    have hp3 := PuS_tr hp2 (PuS_pr (PrS_pf hP3))
    have ho3 := OtR_tr ho2 (OtR_pr (r := r) (PrS_pf hP3))
    have hM3 := Mx_pu hp3 hM
    have j19 := y19.trans k19
    have j20 := y20.trans k20
    have j21 : m3.1 0 0 21 = nI r := (hP3.1 0 0 21 (by decide)).trans k21
    have j24 : m3.2.1 24 0 r = 0 := by rw [hP3.2]; exact k24
    have hG3 := Sg_pf hP3 hG2
    have hA3 : At tx L (nx tx L i) m3 := ⟨_, y16, rfl, run_le hil⟩
    refine iF (m_isWord (q := 4) hL hb hM3 hil y17 y18 (by decide)) (by decide) (bI (fun w4 => ?_) (fun w4 => ?_))
    · rw [bb0] at w4
      have hW2 : ∀ m', m'.2 = m3.2 ∨ m'.1 = m3.1 ∧ m'.2.1 14 0 = m3.2.1 14 0 → m'.1 = m3.1 → ∀ q, q < 17 → Fn 0 104 [vR true 0 0, vI (nI (wB q).length), vI (nI ((wB q).getD 0 0)), vI (nI ((wB q).getD 1 0)), vI (nI ((wB q).getD 2 0)), vI (nI ((wB q).getD 3 0)), vI (nI ((wB q).getD 4 0))] (c, m') (c, m') (some (vI (bi (isW tx L q i = true)))) := by
        intro m' h1 h2 q hq
        refine m_isWord hL hb ?_ hil (by rw [h2]; exact y17) (by rw [h2]; exact y18) hq
        unfold Mx
        rw [h2]
        rcases h1 with h1 | h1
        · rw [h1]
          exact hM3
        · rw [h1.2]
          exact hM3
      refine iF (hW2 m3 (Or.inl rfl) rfl 2 (by decide)) (by decide) (bI (fun w2 => ?_) (fun w2 => ?_))
      · rw [bb0] at w2
        refine dI hki (dI hki ?_)
        have v23 : (ma m3 23 (m.1 0 0 21).toNatClampNeg 3).2.1 23 0 (m.1 0 0 21).toNatClampNeg = 3 := by rw [ma_s, pk_us]
        refine bF (c := (ma m3 23 (m.1 0 0 21).toNatClampNeg 3).2.1 23 0 (m.1 0 0 21).toNatClampNeg = 2) (by rw [v23]; decide) ?_
        have hp4 : PuS m (ma m3 23 (m.1 0 0 21).toNatClampNeg 3) := PuS_tr hp3 (PuS_ma _ _ (by decide))
        have ho4 : OtR r m (ma m3 23 (m.1 0 0 21).toNatClampNeg 3) := by
          rw [hkc]
          exact OtR_tr ho3 (OtR_ma _ _ _)
        refine iF (hW2 (ma m3 23 (m.1 0 0 21).toNatClampNeg 3) (Or.inr ⟨rfl, ma_k _ _ (by decide)⟩) rfl 3 (by decide)) (by decide) (bI (fun w3 => ?_) (fun w3 => ?_))
        · rw [bb0] at w3
          refine iF (m_wantF (m := ma m3 23 (m.1 0 0 21).toNatClampNeg 3) (f := 1) (by decide) _ j19) (by decide) ?_
          refine hbad (mf (mf (ma m3 23 (m.1 0 0 21).toNatClampNeg 3) 19 (nI 1)) 20 (m3.1 0 0 17)) _ _ 1 i (PuS_tr hp4 (PuS_tr (PuS_mf _ _ (by decide)) (PuS_mf _ _ (by decide)))) (OtR_tr ho4 (fun _ _ _ _ _ => rfl)) (by decide) ?_ ?_ ?_
          · rw [mf_n _ _ (by decide), mf_s]
          · rw [mf_s]
            exact y17
          · rw [pRule_rb]
            have : pMuch tx L i = .inl (1, i) := by
              unfold pMuch
              rw [if_neg (by rw [w2]; exact Bool.false_ne_true), if_neg (by rw [w3]; exact Bool.false_ne_true), if_neg (by rw [w4]; exact Bool.false_ne_true)]
              unfold pNum
              rw [if_neg hdg]
            rw [this]
            rfl
        · rw [bb0, Bool.not_eq_false] at w3
          refine iF (m_wantT (m := ma m3 23 (m.1 0 0 21).toNatClampNeg 3) 1 _ j19) (by decide) ?_
          refine hgood (ma m3 23 (m.1 0 0 21).toNatClampNeg 3) _ _ 3 0 (nx tx L i) hp4 ho4 j19 j20 j21 hA3 (Sg_ma (by decide) hG3) ?_ ?_ ?_
          · rw [ma_s, hkc, pk_us]
            rfl
          · rw [ma_k _ _ (by decide)]
            exact j24
          · unfold pMuch
            rw [if_neg (by rw [w2]; exact Bool.false_ne_true), if_pos w3]
      · rw [bb0, Bool.not_eq_false] at w2
        refine dI hki (dI hki ?_)
        have v23 : (ma m3 23 (m.1 0 0 21).toNatClampNeg 2).2.1 23 0 (m.1 0 0 21).toNatClampNeg = 2 := by rw [ma_s, pk_us]
        refine bT (c := (ma m3 23 (m.1 0 0 21).toNatClampNeg 2).2.1 23 0 (m.1 0 0 21).toNatClampNeg = 2) v23 ?_
        refine iF (m_wantT (m := ma m3 23 (m.1 0 0 21).toNatClampNeg 2) 1 _ j19) (by decide) ?_
        refine hgood (ma m3 23 (m.1 0 0 21).toNatClampNeg 2) _ _ 2 0 (nx tx L i) (PuS_tr hp3 (PuS_ma _ _ (by decide))) ?_ j19 j20 j21 hA3 (Sg_ma (by decide) hG3) ?_ ?_ ?_
        · rw [hkc]
          exact OtR_tr ho3 (OtR_ma _ _ _)
        · rw [ma_s, hkc, pk_us]
          rfl
        · rw [ma_k _ _ (by decide)]
          exact j24
        · unfold pMuch
          rw [if_pos w2]
    · rw [bb0, Bool.not_eq_false] at w4
      have hp4 : PuS m (ma m3 23 (m.1 0 0 21).toNatClampNeg 1) := PuS_tr hp3 (PuS_ma _ _ (by decide))
      have ho4 : OtR r m (ma m3 23 (m.1 0 0 21).toNatClampNeg 1) := by
        rw [hkc]
        exact OtR_tr ho3 (OtR_ma _ _ _)
      have hpm : pMuch tx L i = rb (pNum tx L 0 5 (nx tx L i)) (fun p => .inr (1, p.1, p.2)) := by
        unfold pMuch
        rw [if_neg (by rw [nop 4 2 (by decide) (by decide) (by decide) w4]; exact Bool.false_ne_true), if_neg (by rw [nop 4 3 (by decide) (by decide) (by decide) w4]; exact Bool.false_ne_true), if_pos w4]
        cases pNum tx L 0 5 (nx tx L i) <;> rfl
      refine dI hki (iC (m_takeNumber (m := ma m3 23 (m.1 0 0 21).toNatClampNeg 1) (lo := 0) (hi := 5) hL hb (Mx_pu hp4 hM) hA3 j19 (by decide) (by decide)) (by decide) ?_)
      rintro _ _ ⟨m4, v, rfl, hP4, z17, rfl, ⟨x, pl, hr4, hx, z19, z20⟩ | ⟨x, j4, hr4, rfl, hx, hA4, z19, z20⟩⟩
      · refine dI hki (hbad (ma m4 24 (m.1 0 0 21).toNatClampNeg v) _ _ x pl (PuS_tr hp4 (PuS_tr (PuS_pr (PrS_pf hP4)) (PuS_ma _ _ (by decide)))) ?_ hx z19 z20 ?_)
        · refine OtR_tr ho4 (OtR_tr (OtR_pr (PrS_pf hP4)) ?_)
          rw [hkc]
          exact OtR_ma _ _ _
        · rw [pRule_rb, hpm, hr4]
          rfl
      · refine dI hki (hgood (ma m4 24 (m.1 0 0 21).toNatClampNeg (nI x)) _ _ 1 x j4 (PuS_tr hp4 (PuS_tr (PuS_pr (PrS_pf hP4)) (PuS_ma _ _ (by decide)))) ?_ z19 (z20.trans j20) ((hP4.1 0 0 21 (by decide)).trans j21) hA4 (Sg_ma (by decide) (Sg_pf hP4 (Sg_ma (by decide) hG3))) ?_ ?_ ?_)
        · refine OtR_tr ho4 (OtR_tr (OtR_pr (PrS_pf hP4)) ?_)
          rw [hkc]
          exact OtR_ma _ _ _
        · rw [ma_k _ _ (by decide), hP4.2, ma_s, hkc, pk_us]
          rfl
        · rw [ma_s, hkc, pk_us]
        · rw [hpm, hr4]
          rfl
  · rw [bi_0, Classical.not_not] at hdg
    have hp4 : PuS m (ma m2 23 (m.1 0 0 21).toNatClampNeg 0) := PuS_tr hp2 (PuS_ma _ _ (by decide))
    have ho4 : OtR r m (ma m2 23 (m.1 0 0 21).toNatClampNeg 0) := by
      rw [hkc]
      exact OtR_tr ho2 (OtR_ma _ _ _)
    have hpm : pMuch tx L i = rb (pNum tx L 0 3 i) (fun p => .inr (0, p.1, p.2)) := by
      have hno : ∀ q, q < 17 → ¬ isW tx L q i = true := fun q hq z => by
        have e1 := (isW_lt hq z).2.1
        have e2 := knO_2.mpr hdg.2
        omega
      unfold pMuch
      rw [if_neg (hno 2 (by decide)), if_neg (hno 3 (by decide)), if_neg (hno 4 (by decide))]
      cases pNum tx L 0 3 i <;> rfl
    refine dI hki (iC (m_takeNumber (m := ma m2 23 (m.1 0 0 21).toNatClampNeg 0) (lo := 0) (hi := 3) hL hb (Mx_pu hp4 hM) hA2 k19 (by decide) (by decide)) (by decide) ?_)
    rintro _ _ ⟨m4, v, rfl, hP4, z17, rfl, ⟨x, pl, hr4, hx, z19, z20⟩ | ⟨x, j4, hr4, rfl, hx, hA4, z19, z20⟩⟩
    · refine dI hki (hbad (ma m4 24 (m.1 0 0 21).toNatClampNeg v) _ _ x pl (PuS_tr hp4 (PuS_tr (PuS_pr (PrS_pf hP4)) (PuS_ma _ _ (by decide)))) ?_ hx z19 z20 ?_)
      · refine OtR_tr ho4 (OtR_tr (OtR_pr (PrS_pf hP4)) ?_)
        rw [hkc]
        exact OtR_ma _ _ _
      · rw [pRule_rb, hpm, hr4]
        rfl
    · refine dI hki (hgood (ma m4 24 (m.1 0 0 21).toNatClampNeg (nI x)) _ _ 0 x j4 (PuS_tr hp4 (PuS_tr (PuS_pr (PrS_pf hP4)) (PuS_ma _ _ (by decide)))) ?_ z19 (z20.trans k20) ((hP4.1 0 0 21 (by decide)).trans k21) hA4 (Sg_ma (by decide) (Sg_pf hP4 (Sg_ma (by decide) hG2))) ?_ ?_ ?_)
      · refine OtR_tr ho4 (OtR_tr (OtR_pr (PrS_pf hP4)) ?_)
        rw [hkc]
        exact OtR_ma _ _ _
      · rw [ma_k _ _ (by decide), hP4.2, ma_s, hkc, pk_us]
        rfl
      · rw [ma_s, hkc, pk_us]
      · rw [hpm, hr4]
        rfl
end MRU

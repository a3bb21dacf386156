/-! the model: one condition -/
def ma (m : Sd) (k j : Nat) (x : Int32) : Sd := (m.1, upA m.2.1 k 0 j x, m.2.2)
theorem ma_s (m : Sd) (k j : Nat) (x : Int32) : (ma m k j x).2.1 k 0 = upd (m.2.1 k 0) j x := upA_s m.2.1 k 0 j x
theorem ma_k (m : Sd) {k k' j : Nat} (x : Int32) (h : k' ≠ k) : (ma m k j x).2.1 k' 0 = m.2.1 k' 0 := upA_n (k := k) (i := 0) (j := j) (k' := k') (i' := 0) m.2.1 x (fun z => h z.1)
theorem ma_j (m : Sd) (k : Nat) {k' j s : Nat} (x : Int32) (h : s ≠ j) : (ma m k j x).2.1 k' 0 s = m.2.1 k' 0 s := by
  by_cases hk : k' = k
  · rw [hk, ma_s, pk_un h]
  · rw [ma_k _ _ hk]
theorem ma_gs (m : Sd) {k j : Nat} (x : Int32) (h : 27 ≤ k ∧ k ≤ 33) : GsS m (ma m k j x) := ⟨fun _ _ _ _ => rfl, fun k' i h1 => upA_n m.2.1 x (fun z => h1 (by omega)), rfl⟩
theorem Sg_last {m : Sd} {O : List StpT} {e e' : StpT} {k : Nat} {x : Int32} (h : Sg m (O ++ [e])) (hs : sgn (ma m k O.length x) O.length e') : Sg (ma m k O.length x) (O ++ [e']) := by
  refine ⟨by
    show m.1 0 0 22 = _
    rw [h.1, List.length_append, List.length_append]
    rfl, fun s y hy => ?_⟩
  rcases get_snoc hy with ⟨h1, h2⟩ | ⟨h1, h2⟩
  · have := h.2 s y (by rw [List.getElem?_append_left h1]; exact h2)
    unfold sgn at this ⊢
    rw [ma_j _ _ _ (by omega), ma_j _ _ _ (by omega), ma_j _ _ _ (by omega), ma_j _ _ _ (by omega), ma_j _ _ _ (by omega), ma_j _ _ _ (by omega)]
    exact this
  · subst h1 h2
    exact hs
theorem Sg_top {m : Sd} {O : List StpT} {e : StpT} (h : Sg m (O ++ [e])) : sgn m O.length e := h.2 O.length e (by
  rw [List.getElem?_append_right (Nat.le_refl _), Nat.sub_self]
  rfl)
section MCN
variable {tx : Nat → Nat} {L i : Nat} {c m : Sd} {O : List StpT} {K : List Nat} {kd f u mn g : Nat} {tl : Bool}
theorem Sg_28 (h : Sg m (O ++ [(kd, f, u, mn, g, tl)])) (v : Nat) : Sg (ma m 28 O.length (nI v)) (O ++ [(kd, v, u, mn, g, tl)]) := by
  obtain ⟨s1, s2, s3, s4⟩ := Sg_top h
  refine Sg_last h ?_
  unfold sgn
  rw [ma_s, pk_us, ma_k _ _ (by decide), ma_k _ _ (by decide), ma_k _ _ (by decide), ma_k _ _ (by decide), ma_k _ _ (by decide)]
  exact ⟨s1, fun z => ⟨rfl, (s2 z).2⟩, s3, s4⟩
theorem Sg_29 (h : Sg m (O ++ [(kd, f, u, mn, g, tl)])) (v : Nat) : Sg (ma m 29 O.length (nI v)) (O ++ [(kd, f, v, mn, g, tl)]) := by
  obtain ⟨s1, s2, s3, s4⟩ := Sg_top h
  refine Sg_last h ?_
  unfold sgn
  rw [ma_s, pk_us, ma_k _ _ (by decide), ma_k _ _ (by decide), ma_k _ _ (by decide), ma_k _ _ (by decide), ma_k _ _ (by decide)]
  exact ⟨s1, fun z => ⟨(s2 z).1, rfl, (s2 z).2.2⟩, s3, s4⟩
theorem Sg_30 (h : Sg m (O ++ [(kd, f, u, mn, g, tl)])) (v : Nat) : Sg (ma m 30 O.length (nI v)) (O ++ [(kd, f, u, v, g, tl)]) := by
  obtain ⟨s1, s2, s3, s4⟩ := Sg_top h
  refine Sg_last h ?_
  unfold sgn
  rw [ma_s, pk_us, ma_k _ _ (by decide), ma_k _ _ (by decide), ma_k _ _ (by decide), ma_k _ _ (by decide), ma_k _ _ (by decide)]
  exact ⟨s1, s2, fun _ _ => rfl, s4⟩
theorem Sg_31 (h : Sg m (O ++ [(kd, f, u, mn, g, tl)])) (v : Nat) : Sg (ma m 31 O.length (nI v)) (O ++ [(kd, f, u, mn, v, tl)]) := by
  obtain ⟨s1, s2, s3, s4⟩ := Sg_top h
  refine Sg_last h ?_
  unfold sgn
  rw [ma_s, pk_us, ma_k _ _ (by decide), ma_k _ _ (by decide), ma_k _ _ (by decide), ma_k _ _ (by decide), ma_k _ _ (by decide)]
  exact ⟨s1, fun z => ⟨(s2 z).1, (s2 z).2.1, rfl⟩, s3, s4⟩
theorem Sg_32 (h : Sg m (O ++ [(kd, f, u, mn, g, tl)])) : Sg (ma m 32 O.length 1) (O ++ [(kd, f, u, mn, g, true)]) := by
  obtain ⟨s1, s2, s3, s4⟩ := Sg_top h
  refine Sg_last h ?_
  unfold sgn
  rw [ma_s, pk_us, ma_k _ _ (by decide), ma_k _ _ (by decide), ma_k _ _ (by decide), ma_k _ _ (by decide), ma_k _ _ (by decide)]
  exact ⟨s1, s2, s3, rfl⟩
/-- many of a sign that counts none -/
theorem Sg_mn {kd f u mn mn' g : Nat} {tl : Bool} (hk : kd < 2) (h : Sg m (O ++ [(kd, f, u, mn, g, tl)])) : Sg m (O ++ [(kd, f, u, mn', g, tl)]) := by
  obtain ⟨s1, s2, s3, s4⟩ := Sg_top h
  refine ⟨by rw [h.1, List.length_append, List.length_append]; rfl, fun s y hy => ?_⟩
  rcases get_snoc hy with ⟨h1, h2⟩ | ⟨h1, h2⟩
  · exact h.2 s y (by rw [List.getElem?_append_left h1]; exact h2)
  · subst h1 h2
    exact ⟨s1, s2, fun z => absurd z (by show ¬ 2 ≤ kd; omega), s4⟩
theorem Sk_ma {k j : Nat} {x : Int32} (hk : k ≠ 33) (h : Sk m K) : Sk (ma m k j x) K := by
  unfold Sk
  rw [ma_k _ _ (Ne.symm hk)]
  exact h
def QX {α : Type} (c m : Sd) (res : Rs α) (ok : α → Sd → Prop) : Wd → Option PV → Prop := fun w' r' => ∃ m', w' = (c, m') ∧ PrS m m' ∧ r' = none ∧ ((∃ f pl, res = .inl (f, pl) ∧ (0 < f ∧ f < 100) ∧ m'.1 0 0 19 = nI f ∧ m'.1 0 0 20 = nI pl) ∨ (∃ a, res = .inr a ∧ m'.1 0 0 19 = 0 ∧ m'.1 0 0 20 = m.1 0 0 20 ∧ ok a m'))
theorem qxl {α : Type} {m' : Sd} {res : Rs α} {ok : α → Sd → Prop} {f pl : Nat} (h : PrS m m') (h1 : res = .inl (f, pl)) (h2 : 0 < f ∧ f < 100) (h3 : m'.1 0 0 19 = nI f) (h4 : m'.1 0 0 20 = nI pl) : QX c m res ok (c, m') none := ⟨m', rfl, h, rfl, Or.inl ⟨f, pl, h1, h2, h3, h4⟩⟩
theorem qxr {α : Type} {m' : Sd} {res : Rs α} {ok : α → Sd → Prop} {a : α} (h : PrS m m') (h1 : res = .inr a) (h2 : m'.1 0 0 19 = 0) (h3 : m'.1 0 0 20 = m.1 0 0 20) (h4 : ok a m') : QX c m res ok (c, m') none := ⟨m', rfl, h, rfl, Or.inr ⟨a, h1, h2, h3, h4⟩⟩
theorem m_takeSpan (hk5 : kd < 5) (hL : L ≤ 120) (hb : ∀ i, tx i < 256) (hM : Mx tx L m) (hA : At tx L i m) (h19 : m.1 0 0 19 = 0) (h64 : O.length < 64) (hG : Sg m (O ++ [(kd, 0, 5, mn, 1, false)])) (hS : Sk m K) : Ctr 3 108 [vR true 0 0] (c, m) (QX c m (pSpan tx L kd mn i) (fun a m' => At tx L a.2 m' ∧ Sg m' (O ++ [a.1]) ∧ Sk m' K)) := by
  have h22 : m.1 0 0 22 - 1 = nI O.length := by
    rw [hG.1, List.length_append]
    show nI (O.length + 1) - 1 = _
    rw [nI_succ, Int32.add_sub_cancel]
  have hkc : (m.1 0 0 22 - 1).toNatClampNeg = O.length := pk_cl _ h22
  have hki : vp_in (m.1 0 0 22 - 1) 64 := pk_in O.length 64 h64 h22
  /- a fault ends it -/
  have hbad : ∀ (m' : Sd) (x pl : Nat) (v2 : Option PV), PrS m m' → (0 < x ∧ x < 100) → m'.1 0 0 19 = nI x → m'.1 0 0 20 = nI pl → pSpan tx L kd mn i = .inl (x, pl) → Go 3 108 none 107 [some (vR true 0 0), some (vI (m.1 0 0 22 - 1)), v2] [] (c, m') (QX c m (pSpan tx L kd mn i) (fun a m' => At tx L a.2 m' ∧ Sg m' (O ++ [a.1]) ∧ Sk m' K)) := by
    intro m' x pl v2 g1 g2 g3 g4 g5
    exact go_ev 100 [] (iF (m_takesX g2 g3) (by decide) (bT (c := (0 : Int32) = 0) rfl (qxl g1 g5 g2 g3 g4)))
  have h107 : ∀ (m' : Sd) (j f u : Nat) (v2 : Option PV), PrS m m' → m'.1 0 0 19 = 0 → m'.1 0 0 20 = m.1 0 0 20 → At tx L j m' → Sg m' (O ++ [(kd, f, u, mn, 1, false)]) → Sk m' K → pRange tx L i = .inr (f, u, j) → Go 3 108 none 107 [some (vR true 0 0), some (vI (m.1 0 0 22 - 1)), v2] [] (c, m') (QX c m (pSpan tx L kd mn i) (fun a m' => At tx L a.2 m' ∧ Sg m' (O ++ [a.1]) ∧ Sk m' K)) := by
    intro m' j f u v2 g1 g19 g20 gA gG gS gr
    have hM' := Mx_pr g1 hM
    refine go_ev 100 [] (iC (m_takes (q := 11) hL hb hM' gA g19 (by decide)) (by decide) ?_)
    rintro _ _ ⟨m2, rfl, hP, ⟨w16, w17, w18, w19, w20⟩, rfl⟩
    have hA2 := At_takes (q := 11) (by decide) gA w16
    have hp2 := PrS_tr g1 (PrS_pf hP)
    cases h11 : isW tx L 11 j with
    | false =>
      rw [h11] at hA2
      have hA2 : At tx L j m2 := hA2
      refine bT (c := (0 : Int32) = 0) rfl (qxr (a := ((kd, f, u, mn, giv none, (none : Option Nat).isSome), j)) hp2 ?_ (w19.trans g19) (w20.trans g20) ⟨hA2, Sg_pf hP gG, Sk_pf hP gS⟩)
      exact ps_3 gr (by unfold pGive; rw [if_neg (by rw [h11]; exact Bool.false_ne_true)])
    | true =>
      rw [h11] at hA2
      have hA2 : At tx L (nx tx L j) m2 := hA2
      refine bF (c := (1 : Int32) = 0) (by decide) (iC (m_takeNumber (lo := 0) (hi := 3) hL hb (Mx_pf hP hM') hA2 (w19.trans g19) (by decide) (by decide)) (by decide) ?_)
      have hgv : pGive tx L 11 j = rb (pNum tx L 0 3 (nx tx L j)) (fun p => .inr (some p.1, p.2)) := by
        unfold pGive
        rw [if_pos h11]
        cases pNum tx L 0 3 (nx tx L j) <;> rfl
      rintro _ _ ⟨m3, v, rfl, hP3, k17, rfl, ⟨x, pl, hr, hx, k19, k20⟩ | ⟨x, j2, hr, rfl, hx, hA3, k19, k20⟩⟩
      · refine dI hki (dI hki (qxl (m' := ma (ma m3 31 (m.1 0 0 22 - 1).toNatClampNeg v) 32 (m.1 0 0 22 - 1).toNatClampNeg (vp_nar .boolean 1)) (PrS_tr hp2 (PrS_tr (PrS_pf hP3) (PrS_tr (PrS_gs (ma_gs _ _ (by decide))) (PrS_gs (ma_gs _ _ (by decide)))))) (f := x) (pl := pl) ?_ hx k19 k20))
        exact ps_2 gr (by rw [hgv, hr]; rfl)
      · have hG3 := Sg_32 (Sg_31 (Sg_pf hP3 (Sg_pf hP gG)) x)
        refine dI hki (dI hki (qxr (a := ((kd, f, u, mn, giv (some x), (some x).isSome), j2)) (m' := ma (ma m3 31 (m.1 0 0 22 - 1).toNatClampNeg (nI x)) 32 (m.1 0 0 22 - 1).toNatClampNeg (vp_nar .boolean 1)) (PrS_tr hp2 (PrS_tr (PrS_pf hP3) (PrS_tr (PrS_gs (ma_gs _ _ (by decide))) (PrS_gs (ma_gs _ _ (by decide)))))) ?_ k19 (k20.trans (w20.trans g20)) ?_))
        · exact ps_3 gr (by rw [hgv, hr]; rfl)
        · rw [hkc]
          exact ⟨hA3, hG3, Sk_ma (by decide) (Sk_ma (by decide) (Sk_pf hP3 (Sk_pf hP gS)))⟩
  refine ctr_ev 200 [98, 107] rfl rfl (iC (m_takes (q := 15) hL hb hM hA h19 (by decide)) (by decide) ?_)
  rintro _ _ ⟨m1, rfl, hP, ⟨w16, w17, w18, w19, w20⟩, rfl⟩
  have hA1 := At_takes (q := 15) (by decide) hA w16
  have hM1 := Mx_pf hP hM
  have hp1 := PrS_pf hP
  cases h15 : isW tx L 15 i with
  | false =>
    rw [h15] at hA1
    refine bT (c := (0 : Int32) = 0) rfl (h107 m1 i 0 5 _ hp1 (w19.trans h19) w20 hA1 (Sg_pf hP hG) (Sk_pf hP hS) ?_)
    unfold pRange
    rw [if_neg (by rw [h15]; exact Bool.false_ne_true)]
  | true =>
    rw [h15] at hA1
    have hA1 : At tx L (nx tx L i) m1 := hA1
    have hrg : pRange tx L i = rb (pNum tx L 0 5 (nx tx L i)) (fun p => if isW tx L 16 p.2 = true then rb (pNum tx L 0 5 (nx tx L p.2)) (fun q => if q.1 < p.1 then .inl (3, nx tx L p.2) else .inr (p.1, q.1, q.2)) else .inl (1, p.2)) := by
      unfold pRange
      rw [if_pos h15]
      cases pNum tx L 0 5 (nx tx L i) with
      | inl x => rfl
      | inr p =>
        obtain ⟨f, j⟩ := p
        show (if isW tx L 16 j = true then _ else _) = (if isW tx L 16 j = true then _ else _)
        split
        · cases pNum tx L 0 5 (nx tx L j) <;> rfl
        · rfl
    refine bF (c := (1 : Int32) = 0) (by decide) (iC (m_takeNumber (lo := 0) (hi := 5) hL hb hM1 hA1 (w19.trans h19) (by decide) (by decide)) (by decide) ?_)
    rintro _ _ ⟨m2, v, rfl, hP2, k17, rfl, ⟨x, pl, hr, hx, k19, k20⟩ | ⟨x, j, hr, rfl, hx, hA2, k19, k20⟩⟩
    · refine dI hki (bF (c := m2.1 0 0 19 = 0) (by rw [k19]; exact fun z => absurd ((nIeq (b := 0) (by omega) (by decide)).mp z) (by omega)) ?_)
      exact hbad (ma m2 28 (m.1 0 0 22 - 1).toNatClampNeg v) x pl _ (PrS_tr hp1 (PrS_tr (PrS_pf hP2) (PrS_gs (ma_gs _ _ (by decide))))) hx k19 k20 (ps_1 (by rw [hrg, hr]; rfl))
    · refine dI hki (bT (c := m2.1 0 0 19 = 0) k19 ?_)
      rw [hr] at hrg
      have hrg : pRange tx L i = (if isW tx L 16 j = true then rb (pNum tx L 0 5 (nx tx L j)) (fun q => if q.1 < x then .inl (3, nx tx L j) else .inr (x, q.1, q.2)) else .inl (1, j)) := hrg
      have hp2 : PrS m (ma m2 28 (m.1 0 0 22 - 1).toNatClampNeg (nI x)) := PrS_tr hp1 (PrS_tr (PrS_pf hP2) (PrS_gs (ma_gs _ _ (by decide))))
      have hM2 := Mx_pr hp2 hM
      have hA2' : At tx L j (ma m2 28 (m.1 0 0 22 - 1).toNatClampNeg (nI x)) := hA2
      have hG2 : Sg (ma m2 28 (m.1 0 0 22 - 1).toNatClampNeg (nI x)) (O ++ [(kd, x, 5, mn, 1, false)]) := by
        rw [hkc]
        exact Sg_28 (Sg_pf hP2 (Sg_pf hP hG)) x
      have hS2 : Sk (ma m2 28 (m.1 0 0 22 - 1).toNatClampNeg (nI x)) K := Sk_ma (by decide) (Sk_pf hP2 (Sk_pf hP hS))
      have q19 : (ma m2 28 (m.1 0 0 22 - 1).toNatClampNeg (nI x)).1 0 0 19 = 0 := k19
      have q20 : (ma m2 28 (m.1 0 0 22 - 1).toNatClampNeg (nI x)).1 0 0 20 = m.1 0 0 20 := k20.trans w20
      refine iC (m_takes (q := 16) hL hb hM2 hA2' q19 (by decide)) (by decide) ?_
      generalize ma m2 28 (m.1 0 0 22 - 1).toNatClampNeg (nI x) = m3 at hp2 hM2 hA2' hG2 hS2 q19 q20
      rintro _ _ ⟨m4, rfl, hP4, ⟨y16, y17, y18, y19, y20⟩, rfl⟩
      have hA4 := At_takes (q := 16) (by decide) hA2' y16
      have hp4 := PrS_tr hp2 (PrS_pf hP4)
      cases h16 : isW tx L 16 j with
      | false =>
        refine iF (m_wantF (f := 1) (by decide) _ (y19.trans q19)) (by decide) (bT (c := (0 : Int32) = 0) rfl ?_)
        refine hbad (mf (mf m4 19 (nI 1)) 20 (m4.1 0 0 17)) 1 j _ (PrS_tr hp4 (PrS_pf (PfS_f (by decide) _ (PfS_f (by decide) _ (PfS_rfl m4))))) (by decide) ?_ ?_ (ps_1 ?_)
        · rw [mf_n _ _ (by decide), mf_s]
        · rw [mf_s]
          exact y17
        · rw [hrg, if_neg (by rw [h16]; exact Bool.false_ne_true)]
      | true =>
        rw [h16] at hA4
        have hA4 : At tx L (nx tx L j) m4 := hA4
        rw [if_pos h16] at hrg
        refine iF (m_wantT 1 _ (y19.trans q19)) (by decide) (bF (c := (1 : Int32) = 0) (by decide) ?_)
        refine iC (m_takeNumber (lo := 0) (hi := 5) hL hb (Mx_pf hP4 hM2) hA4 (y19.trans q19) (by decide) (by decide)) (by decide) ?_
        have hup : ∀ (m5 : Sd) (v5 : Int32), PfS m4 m5 → (ma m5 29 (m.1 0 0 22 - 1).toNatClampNeg v5).2.1 29 0 (m.1 0 0 22 - 1).toNatClampNeg = v5 ∧ (ma m5 29 (m.1 0 0 22 - 1).toNatClampNeg v5).2.1 28 0 (m.1 0 0 22 - 1).toNatClampNeg = m4.2.1 28 0 O.length := fun m5 v5 h5 => by
          refine ⟨by rw [ma_s, pk_us], ?_⟩
          rw [ma_k _ _ (by decide), hkc, h5.2]
        rintro _ _ ⟨m5, v5, rfl, hP5, z17, rfl, ⟨x5, pl, hr5, hx5, z19, z20⟩ | ⟨x5, j5, hr5, rfl, hx5, hA5, z19, z20⟩⟩
        · have hp6 : PrS m (ma m5 29 (m.1 0 0 22 - 1).toNatClampNeg v5) := PrS_tr hp4 (PrS_tr (PrS_pf hP5) (PrS_gs (ma_gs _ _ (by decide))))
          have hend : ∀ (b : Int32), Go 3 108 none 98 [some (vR true 0 0), some (vI (m.1 0 0 22 - 1)), none] [vI b, vR true 0 0] (c, ma m5 29 (m.1 0 0 22 - 1).toNatClampNeg v5) (QX c m (pSpan tx L kd mn i) (fun a m' => At tx L a.2 m' ∧ Sg m' (O ++ [a.1]) ∧ Sk m' K)) := by
            intro b
            refine go_ev 100 [107] (iF (m_wantX b 3 _ hx5 z19) (by decide) ?_)
            exact hbad _ x5 pl _ hp6 hx5 z19 z20 (ps_1 (by rw [hrg, hr5]; rfl))
          refine dI hki (dI hki (dI hki ?_))
          exact bI (c := (ma m5 29 (m.1 0 0 22 - 1).toNatClampNeg v5).2.1 29 0 (m.1 0 0 22 - 1).toNatClampNeg < (ma m5 29 (m.1 0 0 22 - 1).toNatClampNeg v5).2.1 28 0 (m.1 0 0 22 - 1).toNatClampNeg) (fun _ => hend 0) (fun _ => hend 1)
        · have hp6 : PrS m (ma m5 29 (m.1 0 0 22 - 1).toNatClampNeg (nI x5)) := PrS_tr hp4 (PrS_tr (PrS_pf hP5) (PrS_gs (ma_gs _ _ (by decide))))
          obtain ⟨u1, u2⟩ := hup m5 (nI x5) hP5
          have hw4 : m4.2.1 28 0 O.length = nI x := by
            exact ((Sg_top (Sg_pf hP4 hG2)).2.1 hk5).1
          rw [hw4] at u2
          refine dI hki (dI hki (dI hki ?_))
          refine bI (c := (ma m5 29 (m.1 0 0 22 - 1).toNatClampNeg (nI x5)).2.1 29 0 (m.1 0 0 22 - 1).toNatClampNeg < (ma m5 29 (m.1 0 0 22 - 1).toNatClampNeg (nI x5)).2.1 28 0 (m.1 0 0 22 - 1).toNatClampNeg) (fun hlt => ?_) (fun hlt => ?_)
          · rw [u1, u2, nIlt (by omega) (by omega)] at hlt
            refine go_ev 100 [107] (iF (m_wantF (f := 3) (by decide) _ z19) (by decide) ?_)
            refine hbad (mf (mf (ma m5 29 (m.1 0 0 22 - 1).toNatClampNeg (nI x5)) 19 (nI 3)) 20 (m5.1 0 0 17)) 3 (nx tx L j) _ (PrS_tr hp6 (PrS_pf (PfS_f (by decide) _ (PfS_f (by decide) _ (PfS_rfl _))))) (by decide) ?_ ?_ (ps_1 ?_)
            · rw [mf_n _ _ (by decide), mf_s]
            · rw [mf_s]
              exact z17
            · rw [hrg, hr5]
              show (if x5 < x then _ else _) = _
              rw [if_pos hlt]
          · rw [u1, u2, nIlt (by omega) (by omega)] at hlt
            refine go_ev 100 [107] (iF (m_wantT 3 _ z19) (by decide) ?_)
            refine h107 (ma m5 29 (m.1 0 0 22 - 1).toNatClampNeg (nI x5)) j5 x x5 _ hp6 z19 (z20.trans (y20.trans q20)) hA5 ?_ (Sk_ma (by decide) (Sk_pf hP5 (Sk_pf hP4 hS2))) ?_
            · rw [hkc]
              exact Sg_29 (Sg_pf hP5 (Sg_pf hP4 hG2)) x5
            · rw [hrg, hr5]
              show (if x5 < x then _ else _) = _
              rw [if_neg hlt]
end MCN

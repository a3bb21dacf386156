/-! the model: the head of a condition -/
section MHE
variable {tx : Nat → Nat} {L i : Nat} {c m : Sd} {O : List StpT} {K : List Nat}
theorem m_takeSpanX {x : Nat} (hx : 0 < x ∧ x < 100) (h19 : m.1 0 0 19 = nI x) : Fn 3 108 [vR true 0 0] (c, m) (c, m) none :=
  ctr_ev 100 [] rfl rfl (iF (m_takesX hx h19) (by decide) (bT (c := (0 : Int32) = 0) rfl (iF (m_takesX hx h19) (by decide) (bT (c := (0 : Int32) = 0) rfl (And.intro rfl rfl)))))
theorem m_takeOne (hL : L ≤ 120) (hb : ∀ i, tx i < 256) (hM : Mx tx L m) (hil : i ≤ L) (h16 : m.1 0 0 16 = nI (wd tx L i)) (h17 : m.1 0 0 17 = nI i) (h18 : m.1 0 0 18 = nI (wd tx L i - i)) (h19 : m.1 0 0 19 = 0) (h64 : O.length < 64) (hG : Sg m O) (hS : Sk m K) : Ctr 4 109 [vR true 0 0, vI (nI i)] (c, m) (QX c m (pBase tx L i) (fun a m' => At tx L a.2 m' ∧ Sg m' (O ++ a.1) ∧ Sk m' K)) := by
  have hA : At tx L (nx tx L i) m := ⟨_, h16, rfl, run_le hil⟩
  have hW : ∀ q, q < 17 → Fn 0 104 [vR true 0 0, vI (nI (wB q).length), vI (nI ((wB q).getD 0 0)), vI (nI ((wB q).getD 1 0)), vI (nI ((wB q).getD 2 0)), vI (nI ((wB q).getD 3 0)), vI (nI ((wB q).getD 4 0))] (c, m) (c, m) (some (vI (bi (isW tx L q i = true)))) := fun q hq => m_isWord hL hb hM hil h17 h18 hq
  have hlast : ∀ (m' : Sd) (e : StpT), Sg m' (O ++ [e]) → m'.1 0 0 22 - 1 = nI O.length := fun m' e hg => by
    rw [hg.1, List.length_append]
    show nI (O.length + 1) - 1 = _
    rw [nI_succ, Int32.add_sub_cancel]
  refine ctr_ev 200 [248] rfl rfl (iF (hW 8 (by decide)) (by decide) (bI (fun w8 => ?_) (fun w8 => ?_)))
  · rw [bb0] at w8
    refine iF (hW 10 (by decide)) (by decide) (bI (fun w10 => ?_) (fun w10 => ?_))
    · rw [bb0] at w10
      refine iF (hW 12 (by decide)) (by decide) (bI (fun w12 => ?_) (fun w12 => ?_))
      · rw [bb0] at w12
        refine iF (hW 13 (by decide)) (by decide) (bI (fun w13 => ?_) (fun w13 => ?_))
        · rw [bb0] at w13
          refine iF (hW 14 (by decide)) (by decide) (bI (fun w14 => ?_) (fun w14 => ?_))
          · rw [bb0] at w14
            refine iF (m_wantF (f := 1) (by decide) _ h19) (by decide) (go_ev 100 [] (qxl (f := 1) (pl := i) (PrS_pf (PfS_f (by decide) _ (PfS_f (by decide) _ (PfS_rfl m)))) (pb_no w8 w10 w12 w13 w14) (by decide) ?_ ?_))
            · rw [mf_n _ _ (by decide), mf_s]
            · rw [mf_s]
          · rw [bb0, Bool.not_eq_false] at w14
            refine iC (m_addSign (e := (4, 0, 5, 0, 1, false)) hG h64 hS ⟨fun _ => ⟨rfl, rfl, rfl⟩, fun _ _ => rfl, rfl⟩) (by decide) ?_
            rintro _ _ ⟨m1, rfl, hg1, ⟨hG1, hS1⟩, rfl⟩
            have h22 := hlast m1 _ hG1
            have hki : vp_in (m1.1 0 0 22 - 1) 64 := pk_in O.length 64 h64 h22
            have hkc : (m1.1 0 0 22 - 1).toNatClampNeg = O.length := pk_cl _ h22
            refine iC (m_takeNumber (lo := 1) (hi := 9) hL hb (Mx_gs hg1 hM) (At_gs hg1 hA) ((hg1.1 0 0 19 (by decide)).trans h19) (by decide) (by decide)) (by decide) ?_
            rintro _ _ ⟨m2, v, rfl, hP2, k17, rfl, ⟨x, pl, hr, hx, k19, k20⟩ | ⟨x, j, hr, rfl, hx, hA2, k19, k20⟩⟩
            · exact dI hki (go_ev 100 [] (qxl (m' := ma m2 30 (m1.1 0 0 22 - 1).toNatClampNeg v) (PrS_tr (PrS_gs hg1) (PrS_tr (PrS_pf hP2) (PrS_gs (ma_gs _ _ (by decide))))) (pb_day1 w8 w10 w12 w13 w14 hr) hx k19 k20))
            · refine dI hki (go_ev 100 [] (qxr (m' := ma m2 30 (m1.1 0 0 22 - 1).toNatClampNeg (nI x)) (PrS_tr (PrS_gs hg1) (PrS_tr (PrS_pf hP2) (PrS_gs (ma_gs _ _ (by decide))))) (pb_day2 w8 w10 w12 w13 w14 hr) k19 (k20.trans (hg1.1 0 0 20 (by decide))) ?_))
              rw [hkc]
              exact ⟨hA2, Sg_30 (Sg_pf hP2 hG1) x, Sk_ma (by decide) (Sk_pf hP2 hS1)⟩
        · rw [bb0, Bool.not_eq_false] at w13
          refine iC (m_addSign (e := (3, 0, 5, 0, 1, false)) hG h64 hS ⟨fun _ => ⟨rfl, rfl, rfl⟩, fun _ _ => rfl, rfl⟩) (by decide) ?_
          rintro _ _ ⟨m1, rfl, hg1, ⟨hG1, hS1⟩, rfl⟩
          have h22 := hlast m1 _ hG1
          have hki : vp_in (m1.1 0 0 22 - 1) 64 := pk_in O.length 64 h64 h22
          have hkc : (m1.1 0 0 22 - 1).toNatClampNeg = O.length := pk_cl _ h22
          refine iC (m_takeNumber (lo := 0) (hi := 18) hL hb (Mx_gs hg1 hM) (At_gs hg1 hA) ((hg1.1 0 0 19 (by decide)).trans h19) (by decide) (by decide)) (by decide) ?_
          rintro _ _ ⟨m2, v, rfl, hP2, k17, rfl, ⟨x, pl, hr, hx, k19, k20⟩ | ⟨x, j, hr, rfl, hx, hA2, k19, k20⟩⟩
          · exact dI hki (go_ev 100 [] (qxl (m' := ma m2 30 (m1.1 0 0 22 - 1).toNatClampNeg v) (PrS_tr (PrS_gs hg1) (PrS_tr (PrS_pf hP2) (PrS_gs (ma_gs _ _ (by decide))))) (pb_sum1 w8 w10 w12 w13 hr) hx k19 k20))
          · refine dI hki (go_ev 100 [] (qxr (m' := ma m2 30 (m1.1 0 0 22 - 1).toNatClampNeg (nI x)) (PrS_tr (PrS_gs hg1) (PrS_tr (PrS_pf hP2) (PrS_gs (ma_gs _ _ (by decide))))) (pb_sum2 w8 w10 w12 w13 hr) k19 (k20.trans (hg1.1 0 0 20 (by decide))) ?_))
            rw [hkc]
            exact ⟨hA2, Sg_30 (Sg_pf hP2 hG1) x, Sk_ma (by decide) (Sk_pf hP2 hS1)⟩
      · rw [bb0, Bool.not_eq_false] at w12
        refine iC (m_addSign (e := (2, 0, 5, 0, 1, false)) hG h64 hS ⟨fun _ => ⟨rfl, rfl, rfl⟩, fun _ _ => rfl, rfl⟩) (by decide) ?_
        rintro _ _ ⟨m1, rfl, hg1, ⟨hG1, hS1⟩, rfl⟩
        have h22 := hlast m1 _ hG1
        have hki : vp_in (m1.1 0 0 22 - 1) 64 := pk_in O.length 64 h64 h22
        have hkc : (m1.1 0 0 22 - 1).toNatClampNeg = O.length := pk_cl _ h22
        refine iC (m_takeNumber (lo := 0) (hi := 6) hL hb (Mx_gs hg1 hM) (At_gs hg1 hA) ((hg1.1 0 0 19 (by decide)).trans h19) (by decide) (by decide)) (by decide) ?_
        rintro _ _ ⟨m2, v, rfl, hP2, k17, rfl, ⟨x, pl, hr, hx, k19, k20⟩ | ⟨x, j, hr, rfl, hx, hA2, k19, k20⟩⟩
        · refine dI hki (iF (m_takeSpanX hx k19) (by decide) ?_)
          exact go_ev 100 [] (qxl (m' := ma m2 30 (m1.1 0 0 22 - 1).toNatClampNeg v) (PrS_tr (PrS_gs hg1) (PrS_tr (PrS_pf hP2) (PrS_gs (ma_gs _ _ (by decide))))) (pb_any1 w8 w10 w12 hr) hx k19 k20)
        · have hp3 : PrS m (ma m2 30 (m1.1 0 0 22 - 1).toNatClampNeg (nI x)) := PrS_tr (PrS_gs hg1) (PrS_tr (PrS_pf hP2) (PrS_gs (ma_gs _ _ (by decide))))
          have hG3 : Sg (ma m2 30 (m1.1 0 0 22 - 1).toNatClampNeg (nI x)) (O ++ [(2, 0, 5, x, 1, false)]) := by
            rw [hkc]
            exact Sg_30 (Sg_pf hP2 hG1) x
          have hA3 : At tx L j (ma m2 30 (m1.1 0 0 22 - 1).toNatClampNeg (nI x)) := hA2
          refine dI hki (iC (m_takeSpan (by decide) hL hb (Mx_pr hp3 hM) hA3 k19 h64 hG3 (Sk_ma (by decide) (Sk_pf hP2 hS1))) (by decide) ?_)
          rintro _ _ ⟨m4, rfl, hp4, rfl, ⟨f, pl, hr4, hf, g19, g20⟩ | ⟨⟨e, l⟩, hr4, g19, g20, hA4, hG4, hS4⟩⟩
          · refine go_ev 100 [] (qxl (PrS_tr hp3 hp4) ?_ hf g19 g20)
            rw [pb_any2 w8 w10 w12 hr, hr4]
          · refine go_ev 100 [] (qxr (a := ([e], l)) (PrS_tr hp3 hp4) ?_ g19 (g20.trans (k20.trans (hg1.1 0 0 20 (by decide)))) ⟨hA4, hG4, hS4⟩)
            rw [pb_any2 w8 w10 w12 hr, hr4]
    · rw [bb0, Bool.not_eq_false] at w10
      refine iC (m_addSign (e := (1, 0, 5, 0, 1, false)) hG h64 hS ⟨fun _ => ⟨rfl, rfl, rfl⟩, fun _ _ => rfl, rfl⟩) (by decide) ?_
      rintro _ _ ⟨m1, rfl, hg1, ⟨hG1, hS1⟩, rfl⟩
      refine iC (m_takeSpan (by decide) hL hb (Mx_gs hg1 hM) (At_gs hg1 hA) ((hg1.1 0 0 19 (by decide)).trans h19) h64 (Sg_mn (mn' := 1) (by decide) hG1) hS1) (by decide) ?_
      rintro _ _ ⟨m4, rfl, hp4, rfl, ⟨f, pl, hr4, hf, g19, g20⟩ | ⟨⟨e, l⟩, hr4, g19, g20, hA4, hG4, hS4⟩⟩
      · refine go_ev 100 [] (qxl (PrS_tr (PrS_gs hg1) hp4) ?_ hf g19 g20)
        rw [pb_all w8 w10, hr4]
      · refine go_ev 100 [] (qxr (a := ([e], l)) (PrS_tr (PrS_gs hg1) hp4) ?_ g19 (g20.trans (hg1.1 0 0 20 (by decide))) ⟨hA4, hG4, hS4⟩)
        rw [pb_all w8 w10, hr4]
  · rw [bb0, Bool.not_eq_false] at w8
    refine iC (m_addSign (e := (0, 0, 5, 0, 1, false)) hG h64 hS ⟨fun _ => ⟨rfl, rfl, rfl⟩, fun _ _ => rfl, rfl⟩) (by decide) ?_
    rintro _ _ ⟨m1, rfl, hg1, ⟨hG1, hS1⟩, rfl⟩
    have h22 := hlast m1 _ hG1
    have hki : vp_in (m1.1 0 0 22 - 1) 64 := pk_in O.length 64 h64 h22
    have hkc : (m1.1 0 0 22 - 1).toNatClampNeg = O.length := pk_cl _ h22
    have hM1 := Mx_gs hg1 hM
    refine iC (m_takeNumber (lo := 0) (hi := 5) hL hb hM1 (At_gs hg1 hA) ((hg1.1 0 0 19 (by decide)).trans h19) (by decide) (by decide)) (by decide) ?_
    rintro _ _ ⟨m2, v, rfl, hP2, k17, rfl, ⟨x, pl, hr, hx, k19, k20⟩ | ⟨x, j, hr, rfl, hx, hA2, k19, k20⟩⟩
    · refine dI hki (iF (m_takesX hx k19) (by decide) (bT (c := (0 : Int32) = 0) rfl ?_))
      exact go_ev 100 [] (qxl (m' := ma m2 28 (m1.1 0 0 22 - 1).toNatClampNeg v) (PrS_tr (PrS_gs hg1) (PrS_tr (PrS_pf hP2) (PrS_gs (ma_gs _ _ (by decide))))) (pb_who1 w8 hr) hx k19 k20)
    · have hp3 : PrS m (ma m2 28 (m1.1 0 0 22 - 1).toNatClampNeg (nI x)) := PrS_tr (PrS_gs hg1) (PrS_tr (PrS_pf hP2) (PrS_gs (ma_gs _ _ (by decide))))
      have hG3 : Sg (ma m2 28 (m1.1 0 0 22 - 1).toNatClampNeg (nI x)) (O ++ [(0, x, 5, 1, 1, false)]) := by
        rw [hkc]
        exact Sg_mn (by decide) (Sg_28 (Sg_pf hP2 hG1) x)
      have hA3 : At tx L j (ma m2 28 (m1.1 0 0 22 - 1).toNatClampNeg (nI x)) := hA2
      have hS3 : Sk (ma m2 28 (m1.1 0 0 22 - 1).toNatClampNeg (nI x)) K := Sk_ma (by decide) (Sk_pf hP2 hS1)
      have q20 : (ma m2 28 (m1.1 0 0 22 - 1).toNatClampNeg (nI x)).1 0 0 20 = m.1 0 0 20 := k20.trans (hg1.1 0 0 20 (by decide))
      have q19 : (ma m2 28 (m1.1 0 0 22 - 1).toNatClampNeg (nI x)).1 0 0 19 = 0 := k19
      refine dI hki (iC (m_takes (q := 9) hL hb (Mx_pr hp3 hM) hA3 q19 (by decide)) (by decide) ?_)
      generalize ma m2 28 (m1.1 0 0 22 - 1).toNatClampNeg (nI x) = m3 at hp3 hG3 hA3 hS3 q20 q19
      rintro _ _ ⟨m4, rfl, hP4, ⟨y16, y17, y18, y19, y20⟩, rfl⟩
      have hA4 := At_takes (q := 9) (by decide) hA3 y16
      have hp4 := PrS_tr hp3 (PrS_pf hP4)
      cases w9 : isW tx L 9 j with
      | false =>
        rw [w9] at hA4
        have hA4 : At tx L j m4 := hA4
        refine bT (c := (0 : Int32) = 0) rfl (go_ev 100 [] (qxr (a := ([(0, x, 5, 1, giv none, (none : Option Nat).isSome)], j)) hp4 ?_ (y19.trans q19) (y20.trans q20) ⟨hA4, Sg_pf hP4 hG3, Sk_pf hP4 hS3⟩))
        exact pb_who3 w8 hr (by unfold pGive; rw [if_neg (by rw [w9]; exact Bool.false_ne_true)])
      | true =>
        rw [w9] at hA4
        have hA4 : At tx L (nx tx L j) m4 := hA4
        have hgv : pGive tx L 9 j = rb (pNum tx L 0 3 (nx tx L j)) (fun p => .inr (some p.1, p.2)) := by
          unfold pGive
          rw [if_pos w9]
          cases pNum tx L 0 3 (nx tx L j) <;> rfl
        refine bF (c := (1 : Int32) = 0) (by decide) (iC (m_takeNumber (lo := 0) (hi := 3) hL hb (Mx_pr hp4 hM) hA4 (y19.trans q19) (by decide) (by decide)) (by decide) ?_)
        rintro _ _ ⟨m5, v, rfl, hP5, z17, rfl, ⟨x5, pl, hr5, hx5, z19, z20⟩ | ⟨x5, j5, hr5, rfl, hx5, hA5, z19, z20⟩⟩
        · refine dI hki (dI hki (go_ev 100 [] (qxl (m' := ma (ma m5 31 (m1.1 0 0 22 - 1).toNatClampNeg v) 32 (m1.1 0 0 22 - 1).toNatClampNeg (vp_nar .boolean 1)) (PrS_tr hp4 (PrS_tr (PrS_pf hP5) (PrS_tr (PrS_gs (ma_gs _ _ (by decide))) (PrS_gs (ma_gs _ _ (by decide)))))) (pb_who2 w8 hr ?_) hx5 z19 z20)))
          rw [hgv, hr5]
          rfl
        · refine dI hki (dI hki (go_ev 100 [] (qxr (a := ([(0, x, 5, 1, giv (some x5), (some x5).isSome)], j5)) (m' := ma (ma m5 31 (m1.1 0 0 22 - 1).toNatClampNeg (nI x5)) 32 (m1.1 0 0 22 - 1).toNatClampNeg (vp_nar .boolean 1)) (PrS_tr hp4 (PrS_tr (PrS_pf hP5) (PrS_tr (PrS_gs (ma_gs _ _ (by decide))) (PrS_gs (ma_gs _ _ (by decide)))))) (pb_who3 w8 hr ?_) z19 (z20.trans (y20.trans q20)) ?_)))
          · rw [hgv, hr5]
            rfl
          · rw [hkc]
            exact ⟨hA5, Sg_32 (Sg_31 (Sg_pf hP5 (Sg_pf hP4 hG3)) x5), Sk_ma (by decide) (Sk_ma (by decide) (Sk_pf hP5 (Sk_pf hP4 hS3)))⟩
/-! the head: pure -/
def hd (tx : Nat → Nat) (L : Nat) : Nat → List Nat → Nat → Rs (List Nat × List StpT × Nat)
  | 0, K, i => if isS tx L 40 i = true ∨ isW tx L 7 i = true then .inl (4, i) else rb (pBase tx L i) (fun p => .inr (K, p.1, p.2))
  | e + 1, K, i => if isS tx L 40 i = true then hd tx L e (8 :: K) (sk tx L (i + 1)) else if isW tx L 7 i = true then hd tx L e (5 :: K) (nx tx L i) else rb (pBase tx L i) (fun p => .inr (K, p.1, p.2))
def w8 : List Nat → Nat
  | [] => 0
  | x :: K => w8 K + (if x = 8 then 1 else 0)
theorem w8_le : ∀ K : List Nat, w8 K ≤ opn K
  | [] => Nat.le_refl _
  | x :: K => by
    have := w8_le K
    simp only [w8, opn]
    split
    · rw [if_pos (by omega)]
      omega
    · omega
def BI (O : List StpT) (K : List Nat) (i : Nat) : Prop := 2 * (O.length + K.length) ≤ i + w8 K ∧ opn K ≤ 6 ∧ okK K
theorem BI_64 (h : BI O K i) (hi : i ≤ 120) : O.length + K.length ≤ 63 := by
  have := w8_le K
  have := h.1
  have := h.2.1
  omega
theorem hr_40 {b : Nat} (hb : ∀ i, tx i < 256) (h2 : b < 256) : hr tx L i = nI b ↔ isS tx L b i = true := by
  unfold hr isS
  rw [Bool.and_eq_true, decide_eq_true_eq, decide_eq_true_eq]
  have := hb i
  by_cases h : i < L
  · rw [if_pos h, nIeq (by omega) (by omega)]
    exact ⟨fun z => ⟨h, z⟩, fun z => z.2⟩
  · rw [if_neg h]
    exact ⟨fun z => absurd z.symm (nI_m1 (by omega)), fun z => absurd z.1 h⟩
theorem m_takeHead (hL : L ≤ 120) (hb : ∀ i, tx i < 256) (hM : Mx tx L m) (hA : At tx L i m) (h19 : m.1 0 0 19 = 0) (hB : BI O K i) {e : Nat} (he : opn K + e = 6) (hG : Sg m O) (hS : Sk m K) : Ctr 5 115 [vR true 0 0] (c, m) (QX c m (hd tx L e K i) (fun a m' => At tx L a.2.2 m' ∧ Sg m' (O ++ a.2.1) ∧ Sk m' a.1)) := by
  have key : ∀ (e : Nat) (K' : List Nat) (i' : Nat) (v2 v3 : Option PV) (m' : Sd), opn K' + e = 6 → BI O K' i' → PrS m m' → m'.1 0 0 19 = 0 → m'.1 0 0 20 = m.1 0 0 20 → At tx L i' m' → Sg m' O → Sk m' K' → ∀ (res : Rs (List Nat × List StpT × Nat)), res = hd tx L e K' i' → Go 5 115 none 2 [some (vR true 0 0), some (vI 1), v2, v3] [] (c, m') (QX c m res (fun a m' => At tx L a.2.2 m' ∧ Sg m' (O ++ a.2.1) ∧ Sk m' a.1)) := by
    intro e
    induction e with
    | zero =>
      intro K' i' v2 v3 m' hop hBI hp h19 h20 hA hG hS res hres
      obtain ⟨hil, hsi⟩ := At_le hA
      have h63 := BI_64 hBI (by omega)
      have hM' := Mx_pr hp hM
      have hop6 : opn K' = 6 := by omega
      /- too deep -/
      have hdeep : ∀ (x2 : Int32) (v1 : Int32) (m2 : Sd), PrS m m2 → m2.1 0 0 19 = 0 → Sk m2 K' → (isS tx L 40 i' = true ∨ isW tx L 7 i' = true) → ∀ (pc : Nat), pc = 29 ∨ pc = 91 → Go 5 115 none pc [some (vR true 0 0), some (vI 1), some (vI x2), some (vI (nI i'))] [] (c, m2) (QX c m res (fun a m' => At tx L a.2.2 m' ∧ Sg m' (O ++ a.2.1) ∧ Sk m' a.1)) := by
        intro x2 v1 m2 g1 g19 gS gz pc hpc
        have hO := m_open (c := c) gS hBI.2.2 (by omega)
        rw [hop6] at hO
        have hne : ¬ (mf (mf m2 19 (nI 4)) 20 (nI i')).1 0 0 19 = 0 := by
          rw [mf_n _ _ (by decide), mf_s]
          decide
        have hfin : QX c m res (fun a m' => At tx L a.2.2 m' ∧ Sg m' (O ++ a.2.1) ∧ Sk m' a.1) (c, mf (mf m2 19 (nI 4)) 20 (nI i')) none := by
          refine qxl (f := 4) (pl := i') (PrS_tr g1 (PrS_pf (PfS_f (by decide) _ (PfS_f (by decide) _ (PfS_rfl m2))))) ?_ (by decide) ?_ ?_
          · rw [hres]
            unfold hd
            rw [if_pos gz]
          · rw [mf_n _ _ (by decide), mf_s]
          · rw [mf_s]
        rcases hpc with rfl | rfl
        · refine go_ev 100 [2] (iF hO (by decide) (bT (c := (6 : Int32) ≤ nI 6) (by decide) (iF (m_wantF (f := 4) (by decide) _ g19) (by decide) (bT (c := (0 : Int32) = 0) rfl ?_))))
          exact go_ev 100 [] (bF (c := (1 : Int32) = 0) (by decide) (bF (c := (mf (mf m2 19 (nI 4)) 20 (nI i')).1 0 0 19 = 0) hne hfin))
        · refine go_ev 100 [2] (iF hO (by decide) (bT (c := (6 : Int32) ≤ nI 6) (by decide) (iF (m_wantF (f := 4) (by decide) _ g19) (by decide) (bT (c := (0 : Int32) = 0) rfl ?_))))
          exact go_ev 100 [] (bF (c := (1 : Int32) = 0) (by decide) (bF (c := (mf (mf m2 19 (nI 4)) 20 (nI i')).1 0 0 19 = 0) hne hfin))
      refine go_ev 100 [2, 23] (bF (c := (1 : Int32) = 0) (by decide) (bT (c := m'.1 0 0 19 = 0) h19 (iC (m_here hL hb hM' hA) (by decide) ?_)))
      rintro _ _ ⟨m2, rfl, hP2, ⟨k16, kf⟩, rfl⟩
      suffices h23 : Go 5 115 none 23 [some (vR true 0 0), some (vI 1), some (vI (hr tx L i')), some (vI (nI i'))] [] (c, m2) (QX c m res (fun a m' => At tx L a.2.2 m' ∧ Sg m' (O ++ a.2.1) ∧ Sk m' a.1)) by
        rw [← k16] at h23
        exact h23
      have hp2 := PrS_tr hp (PrS_pf hP2)
      have k19 := (kf 19 (by decide)).trans h19
      have hS2 := Sk_pf hP2 hS
      refine go_ev 100 [2, 29, 91] (bI (c := hr tx L i' = 40) (fun h => ?_) (fun h => ?_))
      · have h : isS tx L 40 i' = true := (hr_40 (b := 40) hb (by decide)).mp h
        exact hdeep _ 0 m2 hp2 k19 hS2 (Or.inl h) 29 (Or.inl rfl)
      · have h : ¬ isS tx L 40 i' = true := fun z => h ((hr_40 (b := 40) hb (by decide)).mpr z)
        refine iC (m_takeWord hL hb (Mx_pf hP2 hM') (At_i k16 hsi hil)) (by decide) ?_
        rintro _ _ ⟨m3, rfl, hP3, ⟨y16, y17, y18, y19, y20⟩, rfl⟩
        have hp3 := PrS_tr hp2 (PrS_pf hP3)
        refine iF (m_isWord (q := 7) hL hb (Mx_pr hp3 hM) hil y17 y18 (by decide)) (by decide) (bI (fun h7 => ?_) (fun h7 => ?_))
        · rw [bb0] at h7
          refine iC (m_takeOne hL hb (Mx_pr hp3 hM) hil y16 y17 y18 (y19.trans k19) (by omega) (Sg_pf hP3 (Sg_pf hP2 hG)) (Sk_pf hP3 hS2)) (by decide) ?_
          have hres2 : res = rb (pBase tx L i') (fun p => .inr (K', p.1, p.2)) := by
            rw [hres]
            unfold hd
            rw [if_neg (fun z => z.elim h (by rw [h7]; exact Bool.false_ne_true))]
          rintro _ _ ⟨m4, rfl, hp4, rfl, ⟨f, pl, hr4, hf, g19, g20⟩ | ⟨⟨A, l⟩, hr4, g19, g20, hA4, hG4, hS4⟩⟩
          · refine go_ev 100 [] (bT (c := (0 : Int32) = 0) rfl (qxl (PrS_tr hp3 hp4) ?_ hf g19 g20))
            rw [hres2, hr4]
            rfl
          · refine go_ev 100 [] (bT (c := (0 : Int32) = 0) rfl (qxr (a := (K', A, l)) (PrS_tr hp3 hp4) ?_ g19 (g20.trans (y20.trans ((kf 20 (by decide)).trans h20))) ⟨hA4, hG4, hS4⟩))
            rw [hres2, hr4]
            rfl
        · rw [bb0, Bool.not_eq_false] at h7
          exact hdeep _ 0 m3 hp3 (y19.trans k19) (Sk_pf hP3 hS2) (Or.inr h7) 91 (Or.inr rfl)
    | succ e ih =>
      intro K' i' v2 v3 m' hop hBI hp h19 h20 hA hG hS res hres
      obtain ⟨hil, hsi⟩ := At_le hA
      have h63 := BI_64 hBI (by omega)
      have hM' := Mx_pr hp hM
      have hop6 : ¬ (6 : Int32) ≤ nI (opn K') := by rw [show (6 : Int32) = nI 6 from rfl, nIle (by decide) (by omega)]; omega
      refine go_ev 100 [2, 23] (bF (c := (1 : Int32) = 0) (by decide) (bT (c := m'.1 0 0 19 = 0) h19 (iC (m_here hL hb hM' hA) (by decide) ?_)))
      rintro _ _ ⟨m2, rfl, hP2, ⟨k16, kf⟩, rfl⟩
      suffices h23 : Go 5 115 none 23 [some (vR true 0 0), some (vI 1), some (vI (hr tx L i')), some (vI (nI i'))] [] (c, m2) (QX c m res (fun a m' => At tx L a.2.2 m' ∧ Sg m' (O ++ a.2.1) ∧ Sk m' a.1)) by
        rw [← k16] at h23
        exact h23
      have hp2 := PrS_tr hp (PrS_pf hP2)
      have k19 := (kf 19 (by decide)).trans h19
      have k20 := (kf 20 (by decide)).trans h20
      have hS2 := Sk_pf hP2 hS
      have hG2 := Sg_pf hP2 hG
      refine go_ev 100 [2] (bI (c := hr tx L i' = 40) (fun h => ?_) (fun h => ?_))
      · have h : isS tx L 40 i' = true := (hr_40 (b := 40) hb (by decide)).mp h
        have hlt : i' < L := by
          unfold isS at h
          rw [Bool.and_eq_true, decide_eq_true_eq] at h
          exact h.1
        refine iF (m_open hS2 hBI.2.2 (by omega)) (by decide) (bF (c := (6 : Int32) ≤ nI (opn K')) hop6 (iF (m_wantT 4 _ k19) (by decide) (bF (c := (1 : Int32) = 0) (by decide) ?_)))
        refine iC (m_push (x := 8) hS2 (by omega) hG2) (by decide) ?_
        rintro _ _ ⟨m3, rfl, hg3, ⟨hS3, hG3⟩, rfl⟩
        have q16 : m3.1 0 0 16 + 1 = nI (i' + 1) := by rw [hg3.1 0 0 16 (by decide), k16, nI_succ]
        refine ih (8 :: K') (sk tx L (i' + 1)) _ _ (mf m3 16 (m3.1 0 0 16 + 1)) ?_ ?_ (PrS_tr hp2 (PrS_tr (PrS_gs hg3) (PrS_pf (PfS_f (by decide) _ (PfS_rfl m3))))) ?_ ?_ ⟨i' + 1, (mf_s _ _ _).trans q16, rfl, by omega⟩ (Sg_pf (PfS_f (by decide) _ (PfS_rfl m3)) hG3) (Sk_pf (PfS_f (by decide) _ (PfS_rfl m3)) hS3) res ?_
        · show opn K' + (if 8 = 5 ∨ 8 = 8 then 1 else 0) + e = 6
          rw [if_pos (Or.inr rfl)]
          omega
        · have hge := sk_ge (tx := tx) (L := L) (i' + 1)
          refine ⟨?_, ?_, fun x hx => ?_⟩
          · show 2 * (O.length + (K'.length + 1)) ≤ sk tx L (i' + 1) + (w8 K' + (if 8 = 8 then 1 else 0))
            rw [if_pos rfl]
            have := hBI.1
            omega
          · show opn K' + (if 8 = 5 ∨ 8 = 8 then 1 else 0) ≤ 6
            rw [if_pos (Or.inr rfl)]
            omega
          · rcases List.mem_cons.mp hx with rfl | hx
            · decide
            · exact hBI.2.2 x hx
        · rw [mf_n _ _ (by decide), hg3.1 0 0 19 (by decide)]
          exact k19
        · rw [mf_n _ _ (by decide), hg3.1 0 0 20 (by decide)]
          exact k20
        · rw [hres]
          conv => lhs; unfold hd
          rw [if_pos h]
      · have h : ¬ isS tx L 40 i' = true := fun z => h ((hr_40 (b := 40) hb (by decide)).mpr z)
        refine iC (m_takeWord hL hb (Mx_pf hP2 hM') (At_i k16 hsi hil)) (by decide) ?_
        rintro _ _ ⟨m3, rfl, hP3, ⟨y16, y17, y18, y19, y20⟩, rfl⟩
        have hp3 := PrS_tr hp2 (PrS_pf hP3)
        have hS3 := Sk_pf hP3 hS2
        have hG3 := Sg_pf hP3 hG2
        refine iF (m_isWord (q := 7) hL hb (Mx_pr hp3 hM) hil y17 y18 (by decide)) (by decide) (bI (fun h7 => ?_) (fun h7 => ?_))
        · rw [bb0] at h7
          refine iC (m_takeOne hL hb (Mx_pr hp3 hM) hil y16 y17 y18 (y19.trans k19) (by omega) hG3 hS3) (by decide) ?_
          have hres2 : res = rb (pBase tx L i') (fun p => .inr (K', p.1, p.2)) := by
            rw [hres]
            unfold hd
            rw [if_neg h, if_neg (by rw [h7]; exact Bool.false_ne_true)]
          rintro _ _ ⟨m4, rfl, hp4, rfl, ⟨f, pl, hr4, hf, g19, g20⟩ | ⟨⟨A, l⟩, hr4, g19, g20, hA4, hG4, hS4⟩⟩
          · refine go_ev 100 [] (bT (c := (0 : Int32) = 0) rfl (qxl (PrS_tr hp3 hp4) ?_ hf g19 g20))
            rw [hres2, hr4]
            rfl
          · refine go_ev 100 [] (bT (c := (0 : Int32) = 0) rfl (qxr (a := (K', A, l)) (PrS_tr hp3 hp4) ?_ g19 (g20.trans (y20.trans k20)) ⟨hA4, hG4, hS4⟩))
            rw [hres2, hr4]
            rfl
        · rw [bb0, Bool.not_eq_false] at h7
          refine iF (m_open hS3 hBI.2.2 (by omega)) (by decide) (bF (c := (6 : Int32) ≤ nI (opn K')) hop6 (iF (m_wantT 4 _ (y19.trans k19)) (by decide) (bF (c := (1 : Int32) = 0) (by decide) ?_)))
          refine iC (m_push (x := 5) hS3 (by omega) hG3) (by decide) ?_
          rintro _ _ ⟨m4, rfl, hg4, ⟨hS4, hG4⟩, rfl⟩
          have hnx := nx_gt (by decide) h7
          refine ih (5 :: K') (nx tx L i') _ _ m4 ?_ ?_ (PrS_tr hp3 (PrS_gs hg4)) ?_ ?_ ⟨_, (hg4.1 0 0 16 (by decide)).trans y16, rfl, run_le hil⟩ hG4 hS4 res ?_
          · show opn K' + (if 5 = 5 ∨ 5 = 8 then 1 else 0) + e = 6
            rw [if_pos (Or.inl rfl)]
            omega
          · refine ⟨?_, ?_, fun x hx => ?_⟩
            · show 2 * (O.length + (K'.length + 1)) ≤ nx tx L i' + (w8 K' + (if 5 = 8 then 1 else 0))
              rw [if_neg (by decide)]
              have := hBI.1
              omega
            · show opn K' + (if 5 = 5 ∨ 5 = 8 then 1 else 0) ≤ 6
              rw [if_pos (Or.inl rfl)]
              omega
            · rcases List.mem_cons.mp hx with rfl | hx
              · decide
              · exact hBI.2.2 x hx
          · rw [hg4.1 0 0 19 (by decide)]
            exact y19.trans k19
          · rw [hg4.1 0 0 20 (by decide)]
            exact y20.trans k20
          · rw [hres]
            conv => lhs; unfold hd
            rw [if_neg h, if_pos h7]
  refine ctr_ev 100 [2] rfl rfl ?_
  exact key e K i none none m he hB (PrS_rfl m) h19 rfl hA hG hS _ rfl
end MHE

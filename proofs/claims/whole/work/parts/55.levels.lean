/-! the class: what 'and' and 'or' join, level by level -/
theorem tld_op {k : Nat} (h : 5 ≤ k) : tld (opS k) (-1) (-1) := ⟨(if_neg (show ¬ (2 ≤ k ∧ k ≤ 4) by omega)).mpr ⟨rfl, rfl⟩, (if_neg (show ¬ (false = true ∧ k ≤ 2) by simp)).mpr ⟨rfl, rfl⟩⟩
section LEV
variable {tx : Nat → Nat} {L t k d : Nat} {c m : Sd} {Ro : List (Nat × Nat × Nat)} {k0 o0 : Nat} {S : List StpT}
def Sta (tx : Nat → Nat) (L t : Nat) (c : Sd) (Ro : List (Nat × Nat × Nat)) (k0 o0 : Nat) (S : List StpT) (c' : Sd) (k' : Nat) (X : List StpT) : Prop := RdS t c c' ∧ RB tx L t c' ∧ Ar tx L k' c' ∧ Dr c' t (Ro ++ [(k0, o0, (S ++ X).length)], S ++ X) ∧ c'.1 3 0 13 = c.1 3 0 13
theorem Sta_op {c' c2 : Sd} {X : List StpT} {k' op : Nat} (h : Sta tx L t c Ro k0 o0 S c' k' X) (h1 : DfS t c' c2) (h2 : Dr c2 t (Ro ++ [(k0, o0, ((S ++ X) ++ [opS op]).length)], (S ++ X) ++ [opS op])) : Sta tx L t c Ro k0 o0 S c2 k' (X ++ [opS op]) := by
  obtain ⟨a1, a2, a3, a4, a5⟩ := h
  rw [List.append_assoc] at h2
  exact ⟨RdS_tr a1 (RdS_df h1), RB_rd (RdS_df h1) a2, ⟨(h1.1 3 0 5 (fun z => absurd z.1 (by decide))).trans a3.1, a3.2⟩, h2, (h1.1 3 0 13 (fun z => absurd z.1 (by decide))).trans a5⟩
theorem Sta_nw {c' : Sd} {X : List StpT} {k' : Nat} (h : Sta tx L t c Ro k0 o0 S c' k' X) (hl : pos tx L k' < L) : Sta tx L t c Ro k0 o0 S (nw c' k') (k' + 1) X := by
  obtain ⟨a1, a2, a3, a4, a5⟩ := h
  exact ⟨RdS_tr a1 (RdS_rf (nw_rf c' k')), RB_rf (nw_rf c' k') a2, nw_ar a3.2 hl, Dr_rf (nw_rf c' k') a4, (nw_o c' k' (by decide)).trans a5⟩
theorem c_opS {c' : Sd} {X : List StpT} {k' op : Nat} (h : Sta tx L t c Ro k0 o0 S c' k' X) (ho : 5 ≤ op) : Ctr 1 38 [vR false 11 (c'.2.2 3 0), vI (nI (kcd op)), vI 0, vI 0, vI (-1), vI (-1)] (c', m) (QDf t c' m (Ro ++ [(k0, o0, ((S ++ X) ++ [opS op]).length)], (S ++ X) ++ [opS op])) := by
  rw [h.2.1.2.2]
  exact c_addStep (e := opS op) h.2.2.2.1 (tld_op ho)
theorem c_some {one : Nat → Rs (List StpT × Nat)} (hd : 9 ≤ d) (hL : L ≤ 120) (hb : ∀ i, tx i < 256) (hprog : ∀ i A j, one i = .inr (A, j) → i < j) (dp : Int32)
    (hOne : ∀ (c : Sd) (k : Nat) (S : List StpT), RB tx L t c → Ar tx L k c → Dr c t (Ro ++ [(k0, o0, S.length)], S) → Ctr d 18 [vR false 3 0, vI dp] (c, m) (QC tx L t c m Ro k0 o0 S (one (pos tx L k))))
    (hB : RB tx L t c) (hA : Ar tx L k c) (hD : Dr c t (Ro ++ [(k0, o0, S.length)], S)) : Ctr (d + 1) 17 [vR false 3 0, vI dp] (c, m) (QC tx L t c m Ro k0 o0 S (pSome tx L one (pos tx L k))) := by
  have kA : ∀ (cont : List StpT × Nat → Rs (List StpT × Nat)) (kx : Int32) (Y : List StpT) (p0 : Nat), (∀ (k' : Nat) (A : List StpT) (c' : Sd) (jx : Int32), Sta tx L t c Ro k0 o0 S c' k' (Y ++ A) → p0 ≤ pos tx L k' → pSome tx L one (pos tx L k) = cont (A, pos tx L k') → Go (d + 1) 17 none 71 [some (vR false 3 0), some (vI dp), some (vI 1), some (vI kx), some (vI jx)] [] (c', m) (QC tx L t c m Ro k0 o0 S (pSome tx L one (pos tx L k)))) → ∀ (fuel jj k' : Nat) (A : List StpT) (c' : Sd) (x : Int32), x = nI jj → jj ≤ pos tx L k' → L < fuel + pos tx L k' → p0 ≤ pos tx L k' → Sta tx L t c Ro k0 o0 S c' k' (Y ++ A) → pSome tx L one (pos tx L k) = rb (pAnd tx L one fuel A (pos tx L k')) cont → Go (d + 1) 17 none 27 [some (vR false 3 0), some (vI dp), some (vI 1), some (vI kx), some (vI x)] [] (c', m) (QC tx L t c m Ro k0 o0 S (pSome tx L one (pos tx L k))) := by
    intro cont kx Y p0 hK fuel
    induction fuel with
    | zero =>
      intro jj k' A c' x hx hjj hf hp0 hS hres
      have := pos_le (tx := tx) (L := L) k'
      omega
    | succ fuel ih =>
      intro jj k' A c' x hx hjj hf hp0 hS hres
      subst hx
      have hple := pos_le (tx := tx) (L := L) k'
      have h121 : ¬ (121 : Int32) ≤ nI jj := by rw [show (121 : Int32) = nI 121 from rfl, nIle (by decide) (by omega)]; omega
      cases h5 : isW tx L 5 (pos tx L k') with
      | false =>
        refine go_ev 100 [27, 71] (bF (c := (121 : Int32) ≤ nI jj) h121 (iF (c_takesF hL hb hS.2.1 hS.2.2.1 (by decide) h5) (by omega) (bT (c := (0 : Int32) = 0) rfl ?_)))
        exact hK k' A c' _ hS hp0 (by rw [hres, pAnd_n h5]; rfl)
      | true =>
        obtain ⟨hp1, hp2⟩ := pos_nx (by decide) h5
        have hstep := pos_step hp2
        rw [pAnd_s h5, ← hp1] at hres
        have hS1 := Sta_nw hS hp2
        refine go_ev 100 [27, 71] (bF (c := (121 : Int32) ≤ nI jj) h121 (iF (c_takesT hL hb hS.2.1 hS.2.2.1 (by decide) h5) (by omega) (bF (c := (1 : Int32) = 0) (by decide) ?_)))
        refine iC (hOne (nw c' k') (k' + 1) (S ++ (Y ++ A)) hS1.2.1 hS1.2.2.1 hS1.2.2.2.1) (by omega) ?_
        rintro _ _ ⟨c2, rfl, hRd, ⟨f, pl, hr, g1, g2, g3, rfl⟩ | ⟨A2, j2, k2, hr, g1, g2, g3, g4, rfl⟩⟩
        · refine bT (c := (0 : Int32) = 0) rfl (And.intro rfl (qcl ?_ (RdS_tr hS1.1 hRd) g1 g2 g3))
          rw [hres, hr]
          rfl
        · refine bF (c := (1 : Int32) = 0) (by decide) ?_
          have hgt := hprog _ _ _ hr
          subst g2
          rw [List.append_assoc] at g3
          have hS2 : Sta tx L t c Ro k0 o0 S c2 k2 ((Y ++ A) ++ A2) := ⟨RdS_tr hS1.1 hRd, RB_rd hRd hS1.2.1, g1, g3, g4.trans hS1.2.2.2.2⟩
          refine iC (c_opS (op := 6) hS2 (by decide)) (by omega) ?_
          rintro _ _ ⟨c3, rfl, i1, i2, rfl⟩
          have hS3 := Sta_op hS2 i1 i2
          rw [show (Y ++ A ++ A2) ++ [opS 6] = Y ++ (A ++ A2 ++ [opS 6]) by simp only [List.append_assoc]] at hS3
          refine ih (jj + 1) k2 (A ++ A2 ++ [opS 6]) c3 _ (nI_succ jj).symm (by omega) (by omega) (by omega) hS3 ?_
          rw [hres, hr]
          rfl
  have kO : ∀ (fuel kk k' : Nat) (Y : List StpT) (c' : Sd) (x : Int32) (v4 : Option PV), x = nI kk → kk ≤ pos tx L k' → L < fuel + pos tx L k' → Sta tx L t c Ro k0 o0 S c' k' Y → (kk = 0 → Y = []) → pSome tx L one (pos tx L k) = rb (pTrm tx L one (pos tx L k')) (fun p => pOrs tx L one fuel (if kk = 0 then p.1 else Y ++ p.1 ++ [opS 7]) p.2) → Go (d + 1) 17 none 4 [some (vR false 3 0), some (vI dp), some (vI 1), some (vI x), v4] [] (c', m) (QC tx L t c m Ro k0 o0 S (pSome tx L one (pos tx L k))) := by
    intro fuel
    induction fuel with
    | zero =>
      intro kk k' Y c' x v4 hx hkk hf hS hY hres
      have := pos_le (tx := tx) (L := L) k'
      omega
    | succ fuel ih =>
      intro kk k' Y c' x v4 hx hkk hf hS hY hres
      subst hx
      have hple := pos_le (tx := tx) (L := L) k'
      have h121 : ¬ (121 : Int32) ≤ nI kk := by rw [show (121 : Int32) = nI 121 from rfl, nIle (by decide) (by omega)]; omega
      /- behind an or-term -/
      have h87 : ∀ (c4 : Sd) (k4 : Nat) (Z : List StpT) (x4 : Int32), Sta tx L t c Ro k0 o0 S c4 k4 Z → pos tx L k' < pos tx L k4 → pSome tx L one (pos tx L k) = pOrs tx L one (fuel + 1) Z (pos tx L k4) → Go (d + 1) 17 none 87 [some (vR false 3 0), some (vI dp), some (vI 1), some (vI (nI kk)), some (vI x4)] [] (c4, m) (QC tx L t c m Ro k0 o0 S (pSome tx L one (pos tx L k))) := by
        intro c4 k4 Z x4 hS4 hlt hres4
        cases h6 : isW tx L 6 (pos tx L k4) with
        | false =>
          rw [pOrs_n h6] at hres4
          have hend : zok 1 ∧ QC tx L t c m Ro k0 o0 S (pSome tx L one (pos tx L k)) (c4, m) (some (vI 1)) := ⟨rfl, qcr hres4 hS4.1 hS4.2.2.1 rfl hS4.2.2.2.1 hS4.2.2.2.2⟩
          refine go_ev 100 [4] (iF (c_takesF hL hb hS4.2.1 hS4.2.2.1 (by decide) h6) (by omega) ?_)
          exact go_ev 100 [] (bI (c := (121 : Int32) ≤ nI kk + 1) (fun _ => hend) (fun _ => bT (c := (0 : Int32) = 0) rfl hend))
        | true =>
          obtain ⟨hp1, hp2⟩ := pos_nx (by decide) h6
          have hstep := pos_step hp2
          rw [pOrs_s h6, ← hp1] at hres4
          have hS5 := Sta_nw hS4 hp2
          refine go_ev 100 [4] (iF (c_takesT hL hb hS4.2.1 hS4.2.2.1 (by decide) h6) (by omega) ?_)
          refine ih (kk + 1) (k4 + 1) Z (nw c4 k4) _ _ (nI_succ kk).symm (by omega) (by omega) hS5 (fun z => absurd z (Nat.succ_ne_zero kk)) ?_
          rw [hres4]
          congr 1
      refine go_ev 100 [4, 27, 71] (bF (c := (121 : Int32) ≤ nI kk) h121 (bF (c := (1 : Int32) = 0) (by decide) ?_))
      refine iC (hOne c' k' (S ++ Y) hS.2.1 hS.2.2.1 hS.2.2.2.1) (by omega) ?_
      rw [pTrm_rb] at hres
      rintro _ _ ⟨c2, rfl, hRd, ⟨f, pl, hr, g1, g2, g3, rfl⟩ | ⟨A, j2, k2, hr, g1, g2, g3, g4, rfl⟩⟩
      · refine bT (c := (0 : Int32) = 0) rfl (And.intro rfl (qcl ?_ (RdS_tr hS.1 hRd) g1 g2 g3))
        rw [hres, hr]
        rfl
      · refine bF (c := (1 : Int32) = 0) (by decide) ?_
        have hgt := hprog _ _ _ hr
        subst g2
        rw [hr] at hres
        rw [List.append_assoc] at g3
        have hS2 : Sta tx L t c Ro k0 o0 S c2 k2 (Y ++ A) := ⟨RdS_tr hS.1 hRd, RB_rd hRd hS.2.1, g1, g3, g4.trans hS.2.2.2.2⟩
        refine kA (fun p => pOrs tx L one (fuel + 1) (if kk = 0 then p.1 else Y ++ p.1 ++ [opS 7]) p.2) (nI kk) Y (pos tx L k' + 1) ?_ (L + 1) 0 k2 A c2 0 rfl (Nat.zero_le _) (by omega) (by omega) hS2 hres
        intro k3 A3 c3 jx hS3 hp3 hres3
        have hres3 : pSome tx L one (pos tx L k) = pOrs tx L one (fuel + 1) (if kk = 0 then A3 else Y ++ A3 ++ [opS 7]) (pos tx L k3) := hres3
        refine go_ev 100 [87] (bI (c := nI kk ≤ 0) (fun h => ?_) (fun h => ?_))
        · have hk0 : kk = 0 := by
            have := (nIle (b := 0) (by omega) (by decide)).mp h
            omega
          rw [if_pos hk0] at hres3
          rw [hY hk0, List.nil_append] at hS3
          exact h87 c3 k3 A3 jx hS3 (by omega) hres3
        · have hk0 : ¬ kk = 0 := fun z => h (by rw [z]; decide)
          rw [if_neg hk0] at hres3
          refine iC (c_opS (op := 7) hS3 (by decide)) (by omega) ?_
          rintro _ _ ⟨c4, rfl, i1, i2, rfl⟩
          exact h87 c4 k3 (Y ++ A3 ++ [opS 7]) jx (Sta_op hS3 i1 i2) (by omega) hres3
  refine ctr_ev 100 [4] rfl rfl ?_
  refine kO (L + 1) 0 k [] c 0 none rfl (Nat.zero_le _) (by omega) ⟨RdS_rfl t c, hB, hA, by rw [List.append_nil]; exact hD, rfl⟩ (fun _ => rfl) ?_
  rw [pSome_rb]
  rfl
theorem pos_sg {b : Nat} (hb : knO b = 3) (h : isS tx L b (pos tx L k) = true) : pos tx L (k + 1) = sk tx L (pos tx L k + 1) ∧ pos tx L k < L := by
  unfold isS at h
  rw [Bool.and_eq_true, decide_eq_true_eq, decide_eq_true_eq] at h
  refine ⟨?_, h.1⟩
  show sk tx L (tnd tx L (pos tx L k)) = _
  unfold tnd
  rw [if_pos h.1, h.2, hb]
  rfl
/-- one level: 'not' and '(' over the level below -/
theorem c_deeper {e dp : Nat} (hd : 10 ≤ d) (hL : L ≤ 120) (hb : ∀ i, tx i < 256)
    (hOne : ∀ (c : Sd) (k : Nat) (S : List StpT), RB tx L t c → Ar tx L k c → Dr c t (Ro ++ [(k0, o0, S.length)], S) → Ctr d 18 [vR false 3 0, vI (nI dp)] (c, m) (QC tx L t c m Ro k0 o0 S (pOne tx L e (pos tx L k))))
    (hB : RB tx L t c) (hA : Ar tx L k c) (hD : Dr c t (Ro ++ [(k0, o0, S.length)], S)) (hw : isW tx L 7 (pos tx L k) = true ∨ isS tx L 40 (pos tx L k) = true) : Ctr (d + 2) 19 [vR false 3 0, vI (nI dp)] (c, m) (QC tx L t c m Ro k0 o0 S (pOne tx L (e + 1) (pos tx L k))) := by
  have hS0 : Sta tx L t c Ro k0 o0 S c k [] := ⟨RdS_rfl t c, hB, hA, by rw [List.append_nil]; exact hD, rfl⟩
  cases h7 : isW tx L 7 (pos tx L k) with
  | true =>
    obtain ⟨hp1, hp2⟩ := pos_nx (by decide) h7
    rw [pOne_n h7, ← hp1]
    have hS1 := Sta_nw hS0 hp2
    refine ctr_ev 100 [] rfl rfl (iF (c_takesT hL hb hB hA (by decide) h7) (by omega) (bF (c := (1 : Int32) = 0) (by decide) ?_))
    refine iC (hOne (nw c k) (k + 1) (S ++ []) hS1.2.1 hS1.2.2.1 hS1.2.2.2.1) (by omega) ?_
    rintro _ _ ⟨c2, rfl, hRd, ⟨f, pl, hr, g1, g2, g3, rfl⟩ | ⟨A, j2, k2, hr, g1, g2, g3, g4, rfl⟩⟩
    · refine bT (c := (0 : Int32) = 0) rfl (And.intro rfl (qcl ?_ (RdS_tr hS1.1 hRd) g1 g2 g3))
      rw [hr]
      rfl
    · refine bF (c := (1 : Int32) = 0) (by decide) ?_
      rw [List.append_nil] at g3
      have hS2 : Sta tx L t c Ro k0 o0 S c2 k2 A := ⟨RdS_tr hS1.1 hRd, RB_rd hRd hS1.2.1, g1, g3, g4.trans hS1.2.2.2.2⟩
      refine iC (c_opS (op := 5) hS2 (by decide)) (by omega) ?_
      rintro _ _ ⟨c3, rfl, i1, i2, rfl⟩
      have hS3 := Sta_op hS2 i1 i2
      refine And.intro rfl (qcr ?_ hS3.1 hS3.2.2.1 g2 hS3.2.2.2.1 hS3.2.2.2.2)
      rw [hr]
      rfl
  | false =>
    have h40 : isS tx L 40 (pos tx L k) = true := hw.resolve_left (by rw [h7]; exact Bool.false_ne_true)
    obtain ⟨hp1, hp2⟩ := pos_sg (by decide) h40
    rw [pOne_p h7 h40, ← hp1]
    have hS1 := Sta_nw hS0 hp2
    have hw1 : ((up3 c.1 3 0 5 (c.1 3 0 5 + 1), c.2.1, c.2.2) : Sd) = nw c k := by
      rw [hA.1, ← nI_succ]
      rfl
    have hSome := c_some (m := m) (Ro := Ro) (k0 := k0) (o0 := o0) (S := S ++ []) (show 9 ≤ d by omega) hL hb (pOne_gt e) (nI dp) hOne hS1.2.1 hS1.2.2.1 hS1.2.2.2.1
    rw [← hw1] at hSome
    refine ctr_ev 100 [] rfl rfl (iF (c_takesF hL hb hB hA (by decide) h7) (by omega) (bT (c := (0 : Int32) = 0) rfl ?_))
    refine iC hSome (by omega) ?_
    rw [hw1]
    rintro _ _ ⟨c2, rfl, hRd, ⟨f, pl, hr, g1, g2, g3, rfl⟩ | ⟨A, j2, k2, hr, g1, g2, g3, g4, rfl⟩⟩
    · refine bT (c := (0 : Int32) = 0) rfl (And.intro rfl (qcl ?_ (RdS_tr hS1.1 hRd) g1 g2 g3))
      rw [hr]
      rfl
    · refine bF (c := (1 : Int32) = 0) (by decide) ?_
      rw [List.append_nil] at g3
      subst g2
      have hS2 : Sta tx L t c Ro k0 o0 S c2 k2 A := ⟨RdS_tr hS1.1 hRd, RB_rd hRd hS1.2.1, g1, g3, g4.trans hS1.2.2.2.2⟩
      have hsg := c_isSign (m := m) hL hb hS2.2.1 hS2.2.2.1 (b := 41) (by decide) (by decide)
      cases h41 : isS tx L 41 (pos tx L k2) with
      | false =>
        rw [h41] at hsg
        refine iF hsg (by omega) (bT (c := (0 : Int32) = 0) rfl ?_)
        refine iF (c_fails hL hS2.2.1 hS2.2.2.1 1) (by omega) (And.intro rfl (qcl (f := 1) (pl := pos tx L k2) ?_ (RdS_tr hS2.1 (RdS_rf (fl_rf _ _ _))) (Dr_rf (fl_rf _ _ _) hS2.2.2.2.1).1 (fl_at _ _ _).1 (fl_at _ _ _).2))
        rw [hr]
        show (if isS tx L 41 (pos tx L k2) = true then _ else _) = _
        rw [if_neg (by rw [h41]; exact Bool.false_ne_true)]
      | true =>
        obtain ⟨hp3, hp4⟩ := pos_sg (by decide) h41
        rw [h41] at hsg
        refine iF hsg (by omega) (bF (c := (1 : Int32) = 0) (by decide) ?_)
        have hS3 := Sta_nw hS2 hp4
        have hw3 : ((up3 c2.1 3 0 5 (c2.1 3 0 5 + 1), c2.2.1, c2.2.2) : Sd) = nw c2 k2 := by
          rw [hS2.2.2.1.1, ← nI_succ]
          rfl
        refine And.intro rfl (qcr (c' := (up3 c2.1 3 0 5 (c2.1 3 0 5 + 1), c2.2.1, c2.2.2)) (A := A) (j := sk tx L (pos tx L k2 + 1)) (k' := k2 + 1) ?_ ?_ ?_ hp3.symm ?_ ?_)
        · rw [hr]
          show (if isS tx L 41 (pos tx L k2) = true then _ else _) = _
          rw [if_pos h41]
        · rw [hw3]
          exact hS3.1
        · rw [hw3]
          exact hS3.2.2.1
        · rw [hw3]
          exact hS3.2.2.2.1
        · rw [hw3]
          exact hS3.2.2.2.2
theorem c_one (hL : L ≤ 120) (hb : ∀ i, tx i < 256) : ∀ (e : Nat), e ≤ 6 → ∀ (c : Sd) (k : Nat) (S : List StpT), RB tx L t c → Ar tx L k c → Dr c t (Ro ++ [(k0, o0, S.length)], S) → Ctr (10 + 3 * e) 18 [vR false 3 0, vI (nI (6 - e))] (c, m) (QC tx L t c m Ro k0 o0 S (pOne tx L e (pos tx L k))) := by
  intro e
  induction e with
  | zero =>
    intro _ c k S hB hA hD
    have hno := c_isWord (m := m) hL hb hB hA (q := 7) (by decide)
    have hsg := c_isSign (m := m) hL hb hB hA (b := 40) (by decide) (by decide)
    have hdeep : (isW tx L 7 (pos tx L k) = true ∨ isS tx L 40 (pos tx L k) = true) → Go 10 18 none 18 [some (vR false 3 0), some (vI (nI (6 - 0)))] [] (c, m) (QC tx L t c m Ro k0 o0 S (pOne tx L 0 (pos tx L k))) := by
      intro hz
      refine go_ev 100 [] (bT (c := (6 : Int32) ≤ nI (6 - 0)) (by decide) ?_)
      exact iF (c_fails hL hB hA 4) (by decide) (And.intro rfl (qcl (pOne_0 hz) (RdS_rf (fl_rf _ _ _)) (Dr_rf (fl_rf _ _ _) hD).1 (fl_at _ _ _).1 (fl_at _ _ _).2))
    refine ctr_ev 100 [18, 40] rfl rfl (iF hno (by decide) (bI (fun h => ?_) (fun h => ?_)))
    · rw [bb0] at h
      refine iF hsg (by decide) (bI (fun h2 => ?_) (fun h2 => ?_))
      · rw [bb0] at h2
        rw [pOne_b h h2]
        exact c_base (by decide) hL hb hB hA hD _
      · rw [bb0, Bool.not_eq_false] at h2
        exact hdeep (Or.inr h2)
    · rw [bb0, Bool.not_eq_false] at h
      exact hdeep (Or.inl h)
  | succ e ih =>
    intro he c k S hB hA hD
    have hno := c_isWord (m := m) hL hb hB hA (q := 7) (by decide)
    have hsg := c_isSign (m := m) hL hb hB hA (b := 40) (by decide) (by decide)
    have hdp : nI (6 - (e + 1)) + 1 = nI (6 - e) := by
      rw [← nI_succ]
      congr 1
      omega
    have hdeep : (isW tx L 7 (pos tx L k) = true ∨ isS tx L 40 (pos tx L k) = true) → Go (10 + 3 * (e + 1)) 18 none 18 [some (vR false 3 0), some (vI (nI (6 - (e + 1))))] [] (c, m) (QC tx L t c m Ro k0 o0 S (pOne tx L (e + 1) (pos tx L k))) := by
      intro hz
      refine go_ev 100 [] (bF (c := (6 : Int32) ≤ nI (6 - (e + 1))) (by rw [show (6 : Int32) = nI 6 from rfl, nIle (by decide) (by omega)]; omega) ?_)
      have hDp := c_deeper (m := m) (Ro := Ro) (k0 := k0) (o0 := o0) (S := S) (e := e) (dp := 6 - e) (d := 10 + 3 * e) (by omega) hL hb (ih (by omega)) hB hA hD hz
      rw [← hdp] at hDp
      refine iC hDp (by omega) ?_
      rintro _ _ ⟨c2, rfl, hRd, ⟨f, pl, hr, g1, g2, g3, rfl⟩ | ⟨A, j2, k2, hr, g1, g2, g3, g4, rfl⟩⟩
      · exact And.intro rfl (qcl hr hRd g1 g2 g3)
      · exact And.intro rfl (qcr hr hRd g1 g2 g3 g4)
    refine ctr_ev 100 [18, 40] rfl rfl (iF hno (by omega) (bI (fun h => ?_) (fun h => ?_)))
    · rw [bb0] at h
      refine iF hsg (by omega) (bI (fun h2 => ?_) (fun h2 => ?_))
      · rw [bb0] at h2
        rw [pOne_b h h2]
        exact c_base (by omega) hL hb hB hA hD _
      · rw [bb0, Bool.not_eq_false] at h2
        exact hdeep (Or.inr h2)
    · rw [bb0, Bool.not_eq_false] at h
      exact hdeep (Or.inl h)
end LEV

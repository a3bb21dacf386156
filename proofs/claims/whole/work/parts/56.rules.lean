/-! the class: rules, a whole text -/
section PRR
variable {tx : Nat → Nat} {L : Nat}
theorem pMuch_gt {i k o j : Nat} (h : pMuch tx L i = .inr (k, o, j)) : i < j ∧ k < 4 ∧ o < 6 ∧ (k = 0 → o < 4) := by
  unfold pMuch at h
  split at h
  · rename_i h1
    have := nx_gt (by decide) h1
    cases h
    omega
  · split at h
    · rename_i h1
      have := nx_gt (by decide) h1
      cases h
      omega
    · split at h
      · rename_i h1
        have := nx_gt (by decide) h1
        cases h2 : pNum tx L 0 5 (nx tx L i) with
        | inl x =>
          rw [h2] at h
          cases h
        | inr a =>
          obtain ⟨v, l⟩ := a
          rw [h2] at h
          cases h
          have := pNum_gt h2
          omega
      · cases h2 : pNum tx L 0 3 i with
        | inl x =>
          rw [h2] at h
          cases h
        | inr a =>
          obtain ⟨v, l⟩ := a
          rw [h2] at h
          cases h
          have := pNum_gt h2
          omega
theorem pRule_rb (i : Nat) : pRule tx L i = rb (pMuch tx L i) (fun p => if isW tx L 1 p.2.2 = true then rb (pSome tx L (pOne tx L 6) (nx tx L p.2.2)) (fun r => .inr (p.1, p.2.1, r.1, r.2)) else .inr (p.1, p.2.1, [], p.2.2)) := by
  unfold pRule
  cases pMuch tx L i with
  | inl x => rfl
  | inr p =>
    obtain ⟨k, o, j⟩ := p
    show (if isW tx L 1 j = true then _ else _) = (if isW tx L 1 j = true then _ else _)
    split
    · cases pSome tx L (pOne tx L 6) (nx tx L j) <;> rfl
    · rfl
theorem pRule_gt {i k o j : Nat} {A : List StpT} (h : pRule tx L i = .inr (k, o, A, j)) : i < j := by
  rw [pRule_rb] at h
  cases h1 : pMuch tx L i with
  | inl x =>
    rw [h1] at h
    cases h
  | inr p =>
    obtain ⟨k1, o1, j1⟩ := p
    have g1 := pMuch_gt h1
    rw [h1] at h
    have h : (if isW tx L 1 j1 = true then rb (pSome tx L (pOne tx L 6) (nx tx L j1)) (fun r => (.inr (k1, o1, r.1, r.2) : Rs (Nat × Nat × List StpT × Nat))) else .inr (k1, o1, [], j1)) = .inr (k, o, A, j) := h
    split at h
    · rename_i h2
      have g2 := nx_gt (by decide) h2
      cases h3 : pSome tx L (pOne tx L 6) (nx tx L j1) with
      | inl x =>
        rw [h3] at h
        cases h
      | inr r =>
        rw [h3] at h
        have g3 := pSome_gt (pOne_gt 6) h3
        cases h
        omega
    · cases h
      omega
theorem pRules_s (f : Nat) (T : Trm) (i : Nat) : pRules tx L (f + 1) T i = rb (pRule tx L i) (fun p => if isW tx L 0 p.2.2.2 = true then pRules tx L f (T.1 ++ [(p.1, p.2.1, (T.2 ++ p.2.2.1).length)], T.2 ++ p.2.2.1) (nx tx L p.2.2.2) else if p.2.2.2 < L then .inl (1, p.2.2.2) else .inr (T.1 ++ [(p.1, p.2.1, (T.2 ++ p.2.2.1).length)], T.2 ++ p.2.2.1)) := by
  conv => lhs; unfold pRules
  cases pRule tx L i with
  | inl x => rfl
  | inr p => rfl
end PRR
def QM (tx : Nat → Nat) (L t : Nat) (c m : Sd) {α : Type} (res : Rs α) (ps : α → Nat) (T : α → Trm) : Wd → Option PV → Prop := fun w' r' => ∃ c', w' = (c', m) ∧ RdS t c c' ∧ ((∃ f pl, res = .inl (f, pl) ∧ DR c' t ∧ c'.1 3 0 12 = nI f ∧ c'.1 3 0 13 = nI pl ∧ r' = some (vI 0)) ∨ (∃ a k', res = .inr a ∧ Ar tx L k' c' ∧ ps a = pos tx L k' ∧ Dr c' t (T a) ∧ c'.1 3 0 13 = c.1 3 0 13 ∧ r' = some (vI 1)))
section RUL
variable {tx : Nat → Nat} {L t k d : Nat} {c m : Sd} {Ro : List (Nat × Nat × Nat)} {S : List StpT}
theorem qml {α : Type} {c' : Sd} {res : Rs α} {ps : α → Nat} {T : α → Trm} {f pl : Nat} (h : res = .inl (f, pl)) (h1 : RdS t c c') (h2 : DR c' t) (h3 : c'.1 3 0 12 = nI f) (h4 : c'.1 3 0 13 = nI pl) : QM tx L t c m res ps T (c', m) (some (vI 0)) := ⟨c', rfl, h1, Or.inl ⟨f, pl, h, h2, h3, h4, rfl⟩⟩
theorem qmr {α : Type} {c' : Sd} {res : Rs α} {ps : α → Nat} {T : α → Trm} {a : α} {k' : Nat} (h : res = .inr a) (h1 : RdS t c c') (h2 : Ar tx L k' c') (h3 : ps a = pos tx L k') (h4 : Dr c' t (T a)) (h5 : c'.1 3 0 13 = c.1 3 0 13) : QM tx L t c m res ps T (c', m) (some (vI 1)) := ⟨c', rfl, h1, Or.inr ⟨a, k', h, h2, h3, h4, h5, rfl⟩⟩
theorem c_readMuch (hL : L ≤ 120) (hb : ∀ i, tx i < 256) (hB : RB tx L t c) (hA : Ar tx L k c) (hD : Dr c t (Ro, S)) : Ctr 9 16 [vR false 3 0] (c, m) (QM tx L t c m (pMuch tx L (pos tx L k)) (fun p => p.2.2) (fun p => (Ro ++ [(p.1, p.2.1, S.length)], S))) := by
  have hrf : RfS c (nu c 0) := nu_rf c 0
  have hB1 := RB_rf hrf hB
  have hA1 : Ar tx L k (nu c 0) := hA
  have e6 : (nu c 0).1 3 0 6 = nI 0 := rfl
  have e13 : (nu c 0).1 3 0 13 = c.1 3 0 13 := rfl
  have h68 : ∀ (kd o k' j : Nat) (c' : Sd), RfS c c' → Ar tx L k' c' → c'.1 3 0 6 = nI o → c'.1 3 0 13 = c.1 3 0 13 → pMuch tx L (pos tx L k) = .inr (kd, o, j) → j = pos tx L k' → Go 9 16 none 68 [some (vR false 3 0), some (vI (nI kd))] [] (c', m) (QM tx L t c m (pMuch tx L (pos tx L k)) (fun p => p.2.2) (fun p => (Ro ++ [(p.1, p.2.1, S.length)], S))) := by
    intro kd o k' j c' h1 h2 h3 h4 h5 h6
    have hAR : Ctr 0 37 [vR false 11 (c'.2.2 3 0), vI (nI kd), vI (c'.1 3 0 6)] (c', m) (QDf t c' m (Ro ++ [(kd, o, S.length)], S)) := by
      rw [(RB_rf h1 hB).2.2, h3]
      exact c_addRule (Dr_rf h1 hD)
    refine go_ev 100 [] (iC hAR (by decide) ?_)
    rintro _ _ ⟨c2, rfl, i1, i2, rfl⟩
    exact And.intro rfl (qmr h5 (RdS_tr (RdS_rf h1) (RdS_df i1)) ⟨(i1.1 3 0 5 (fun z => absurd z.1 (by decide))).trans h2.1, h2.2⟩ h6 i2 ((i1.1 3 0 13 (fun z => absurd z.1 (by decide))).trans h4))
  refine ctr_ev 100 [68] rfl rfl ?_
  cases w2 : isW tx L 2 (pos tx L k) with
  | true =>
    obtain ⟨hp1, hp2⟩ := pos_nx (by decide) w2
    refine iF (c_takesT hL hb hB1 hA1 (by decide) w2) (by decide) (bF (c := (1 : Int32) = 0) (by decide) ?_)
    refine h68 2 0 (k + 1) (nx tx L (pos tx L k)) (nw (nu c 0) k) (RfS_tr hrf (nw_rf _ _)) (nw_ar hA.2 hp2) ((nw_o _ _ (by decide)).trans e6) ((nw_o _ _ (by decide)).trans e13) ?_ hp1.symm
    unfold pMuch
    rw [if_pos w2]
  | false =>
    refine iF (c_takesF hL hb hB1 hA1 (by decide) w2) (by decide) (bT (c := (0 : Int32) = 0) rfl ?_)
    cases w3 : isW tx L 3 (pos tx L k) with
    | true =>
      obtain ⟨hp1, hp2⟩ := pos_nx (by decide) w3
      refine iF (c_takesT hL hb hB1 hA1 (by decide) w3) (by decide) (bF (c := (1 : Int32) = 0) (by decide) ?_)
      refine h68 3 0 (k + 1) (nx tx L (pos tx L k)) (nw (nu c 0) k) (RfS_tr hrf (nw_rf _ _)) (nw_ar hA.2 hp2) ((nw_o _ _ (by decide)).trans e6) ((nw_o _ _ (by decide)).trans e13) ?_ hp1.symm
      unfold pMuch
      rw [if_neg (by rw [w2]; exact Bool.false_ne_true), if_pos w3]
    | false =>
      refine iF (c_takesF hL hb hB1 hA1 (by decide) w3) (by decide) (bT (c := (0 : Int32) = 0) rfl ?_)
      cases w4 : isW tx L 4 (pos tx L k) with
      | true =>
        obtain ⟨hp1, hp2⟩ := pos_nx (by decide) w4
        have hrf2 := RfS_tr hrf (nw_rf (nu c 0) k)
        refine iF (c_takesT hL hb hB1 hA1 (by decide) w4) (by decide) (bF (c := (1 : Int32) = 0) (by decide) ?_)
        refine iC (c_readNumber (lo := 0) (hi := 5) hL hb (RB_rf hrf2 hB) (nw_ar hA.2 hp2) (by decide) (by decide)) (by decide) ?_
        have hres : pMuch tx L (pos tx L k) = rb (pNum tx L 0 5 (pos tx L (k + 1))) (fun p => .inr (1, p.1, p.2)) := by
          unfold pMuch
          rw [if_neg (by rw [w2]; exact Bool.false_ne_true), if_neg (by rw [w3]; exact Bool.false_ne_true), if_pos w4, hp1]
          cases pNum tx L 0 5 (nx tx L (pos tx L k)) <;> rfl
        rintro _ _ ⟨c2, rfl, ⟨f, pl, hr, ⟨hF, h12, h13⟩, rfl⟩ | ⟨v, j, hr, ⟨h1, h2, h3, h4, h5, h6⟩, rfl⟩⟩
        · refine bT (c := (0 : Int32) = 0) rfl (And.intro rfl (qml ?_ (RdS_rf (RfS_tr hrf2 hF)) (Dr_rf (RfS_tr hrf2 hF) hD).1 h12 h13))
          rw [hres, hr]
          rfl
        · refine bF (c := (1 : Int32) = 0) (by decide) ?_
          refine h68 1 v (k + 1 + 1) j c2 (RfS_tr hrf2 h1) h2 h5 ((h6 13 (by decide) (by decide)).trans ((nw_o _ _ (by decide)).trans e13)) ?_ h3
          rw [hres, hr]
          rfl
      | false =>
        refine iF (c_takesF hL hb hB1 hA1 (by decide) w4) (by decide) (bT (c := (0 : Int32) = 0) rfl ?_)
        refine iC (c_readNumber (lo := 0) (hi := 3) hL hb hB1 hA1 (by decide) (by decide)) (by decide) ?_
        have hres : pMuch tx L (pos tx L k) = rb (pNum tx L 0 3 (pos tx L k)) (fun p => .inr (0, p.1, p.2)) := by
          unfold pMuch
          rw [if_neg (by rw [w2]; exact Bool.false_ne_true), if_neg (by rw [w3]; exact Bool.false_ne_true), if_neg (by rw [w4]; exact Bool.false_ne_true)]
          cases pNum tx L 0 3 (pos tx L k) <;> rfl
        rintro _ _ ⟨c2, rfl, ⟨f, pl, hr, ⟨hF, h12, h13⟩, rfl⟩ | ⟨v, j, hr, ⟨h1, h2, h3, h4, h5, h6⟩, rfl⟩⟩
        · refine bT (c := (0 : Int32) = 0) rfl (And.intro rfl (qml ?_ (RdS_rf (RfS_tr hrf hF)) (Dr_rf (RfS_tr hrf hF) hD).1 h12 h13))
          rw [hres, hr]
          rfl
        · refine bF (c := (1 : Int32) = 0) (by decide) ?_
          refine h68 0 v (k + 1) j c2 (RfS_tr hrf h1) h2 h5 ((h6 13 (by decide) (by decide)).trans e13) ?_ h3
          rw [hres, hr]
          rfl
theorem c_readRule (hL : L ≤ 120) (hb : ∀ i, tx i < 256) (hB : RB tx L t c) (hA : Ar tx L k c) (hD : Dr c t (Ro, S)) : Ctr 30 15 [vR false 3 0] (c, m) (QM tx L t c m (pRule tx L (pos tx L k)) (fun p => p.2.2.2) (fun p => (Ro ++ [(p.1, p.2.1, (S ++ p.2.2.1).length)], S ++ p.2.2.1))) := by
  rw [pRule_rb]
  refine ctr_ev 100 [] rfl rfl (iC (c_readMuch hL hb hB hA hD) (by decide) ?_)
  rintro _ _ ⟨c2, rfl, hRd, ⟨f, pl, hr, g1, g2, g3, rfl⟩ | ⟨⟨kd, o, j⟩, k2, hr, g1, g2, g3, g4, rfl⟩⟩
  · refine bT (c := (0 : Int32) = 0) rfl (And.intro rfl (qml ?_ hRd g1 g2 g3))
    rw [hr]
    rfl
  · refine bF (c := (1 : Int32) = 0) (by decide) ?_
    have g2 : j = pos tx L k2 := g2
    subst g2
    have g3 : Dr c2 t (Ro ++ [(kd, o, S.length)], S) := g3
    have hB2 := RB_rd hRd hB
    rw [hr]
    cases w1 : isW tx L 1 (pos tx L k2) with
    | false =>
      refine iF (c_takesF hL hb hB2 g1 (by decide) w1) (by decide) (bT (c := (0 : Int32) = 0) rfl (And.intro rfl (qmr (a := (kd, o, [], pos tx L k2)) ?_ hRd g1 rfl ?_ g4)))
      · show (if isW tx L 1 (pos tx L k2) = true then _ else _) = _
        rw [if_neg (by rw [w1]; exact Bool.false_ne_true)]
      · show Dr c2 t (Ro ++ [(kd, o, (S ++ []).length)], S ++ [])
        rw [List.append_nil]
        exact g3
    | true =>
      obtain ⟨hp1, hp2⟩ := pos_nx (by decide) w1
      refine iF (c_takesT hL hb hB2 g1 (by decide) w1) (by decide) (bF (c := (1 : Int32) = 0) (by decide) ?_)
      refine iC (c_some (d := 28) (Ro := Ro) (k0 := kd) (o0 := o) (S := S) (by decide) hL hb (pOne_gt 6) (nI 0) (c_one (Ro := Ro) (k0 := kd) (o0 := o) hL hb 6 (Nat.le_refl _)) (RB_rf (nw_rf c2 k2) hB2) (nw_ar g1.2 hp2) (Dr_rf (nw_rf c2 k2) g3)) (by decide) ?_
      have hres : rb (.inr (kd, o, pos tx L k2) : Rs (Nat × Nat × Nat)) (fun p => if isW tx L 1 p.2.2 = true then rb (pSome tx L (pOne tx L 6) (nx tx L p.2.2)) (fun r => (.inr (p.1, p.2.1, r.1, r.2) : Rs (Nat × Nat × List StpT × Nat))) else .inr (p.1, p.2.1, [], p.2.2)) = rb (pSome tx L (pOne tx L 6) (pos tx L (k2 + 1))) (fun r => .inr (kd, o, r.1, r.2)) := by
        show (if isW tx L 1 (pos tx L k2) = true then _ else _) = _
        rw [if_pos w1, hp1]
      rw [hres]
      have hRd2 := RdS_tr hRd (RdS_rf (nw_rf c2 k2))
      rintro _ _ ⟨c3, rfl, hRd3, ⟨f, pl, hr, i1, i2, i3, rfl⟩ | ⟨A, j2, k3, hr, i1, i2, i3, i4, rfl⟩⟩
      · refine bT (c := (0 : Int32) = 0) rfl (And.intro rfl (qml ?_ (RdS_tr hRd2 hRd3) i1 i2 i3))
        rw [hr]
        rfl
      · refine bF (c := (1 : Int32) = 0) (by decide) (And.intro rfl (qmr (a := (kd, o, A, j2)) ?_ (RdS_tr hRd2 hRd3) i1 i2 i3 (i4.trans ((nw_o c2 k2 (by decide)).trans g4))))
        rw [hr]
        rfl
def RxS (t : Nat) (c c' : Sd) : Prop := (∀ k i f, ¬ (k = 3 ∧ i = 0 ∧ 4 ≤ f) → ¬ (k = 11 ∧ i = t) → c'.1 k i f = c.1 k i f) ∧ (∀ k i, ¬ (4 ≤ k ∧ k ≤ 6) → ¬ ((12 ≤ k ∧ k ≤ 22) ∧ i = t) → c'.2.1 k i = c.2.1 k i) ∧ c'.2.2 = c.2.2
theorem RxS_rd {t : Nat} {c c' : Sd} (h : RdS t c c') : RxS t c c' := ⟨fun k i f h1 h2 => h.1 k i f (fun z => h1 ⟨z.1, z.2.1, by omega⟩) h2, fun k i _ h1 => h.2.1 k i h1, h.2.2⟩
theorem RxS_sp {t : Nat} {c c' : Sd} (h : SpS c c') : RxS t c c' := ⟨fun k i f h1 _ => h.1 k i f (fun z => h1 ⟨z.1, z.2.1, by omega⟩), fun k i h1 _ => h.2.1 k i h1, h.2.2⟩
theorem RxS_tr {t : Nat} {a b c : Sd} (h : RxS t a b) (h2 : RxS t b c) : RxS t a c := ⟨fun k i f h1 h3 => (h2.1 k i f h1 h3).trans (h.1 k i f h1 h3), fun k i h1 h3 => (h2.2.1 k i h1 h3).trans (h.2.1 k i h1 h3), h2.2.2.trans h.2.2⟩
def QR (t : Nat) (c m : Sd) (res : Rs Trm) : Wd → Option PV → Prop := fun w' r' => ∃ c', w' = (c', m) ∧ RxS t c c' ∧ ((∃ f pl, res = .inl (f, pl) ∧ DR c' t ∧ c'.1 3 0 12 = nI f ∧ c'.1 3 0 13 = nI pl ∧ r' = some (vI 0)) ∨ (∃ T, res = .inr T ∧ Dr c' t T ∧ c'.1 3 0 13 = -1 ∧ r' = some (vI 1)))
theorem qrl {c' : Sd} {res : Rs Trm} {f pl : Nat} (h : res = .inl (f, pl)) (h1 : RxS t c c') (h2 : DR c' t) (h3 : c'.1 3 0 12 = nI f) (h4 : c'.1 3 0 13 = nI pl) : QR t c m res (c', m) (some (vI 0)) := ⟨c', rfl, h1, Or.inl ⟨f, pl, h, h2, h3, h4, rfl⟩⟩
theorem qrr {c' : Sd} {res : Rs Trm} {T : Trm} (h : res = .inr T) (h1 : RxS t c c') (h2 : Dr c' t T) (h3 : c'.1 3 0 13 = -1) : QR t c m res (c', m) (some (vI 1)) := ⟨c', rfl, h1, Or.inr ⟨T, h, h2, h3, rfl⟩⟩
theorem c_read (hL : L ≤ 120) (hb : ∀ i, tx i < 256) (hX : Tx tx L c) (ht : c.2.2 3 0 = t) : Ctr 31 11 [vR false 3 0] (c, m) (QR t c m (pText tx L)) := by
  /- the end -/
  have h62 : ∀ (c' : Sd) (k' : Nat) (T : Trm) (v1 v2 : Int32), RxS t c c' → RB tx L t c' → Ar tx L k' c' → Dr c' t T → c'.1 3 0 13 = -1 → pText tx L = (if pos tx L k' < L then .inl (1, pos tx L k') else .inr T) → Go 31 11 none 62 [some (vR false 3 0), some (vI v1), some (vI v2)] [] (c', m) (QR t c m (pText tx L)) := by
    intro c' k' T v1 v2 h1 h2 h3 h4 h5 hres
    obtain ⟨t1, t2, t3, t4⟩ := tk_at hL h2 h3
    have hkl := knd_lt (tx := tx) (L := L) (pos tx L k')
    refine go_ev 100 [] (dI t1 (bI (c := c'.2.1 4 0 (c'.1 3 0 5).toNatClampNeg = 4) (fun h => ?_) (fun h => ?_)))
    · rw [t2] at h
      have h : knd tx L (pos tx L k') = 4 := (nIeq (b := 4) (by omega) (by decide)).mp h
      have hnl : ¬ pos tx L k' < L := fun z => by
        unfold knd at h
        rw [if_pos z] at h
        have := knO_lt (tx (pos tx L k'))
        omega
      rw [if_neg hnl] at hres
      exact And.intro rfl (qrr hres h1 h4 h5)
    · rw [t2] at h
      have hnl : pos tx L k' < L := by
        apply Classical.byContradiction
        intro z
        apply h
        unfold knd
        rw [if_neg z]
        rfl
      rw [if_pos hnl] at hres
      refine iF (c_fails hL h2 h3 1) (by decide) (bT (c := (0 : Int32) = 0) rfl (And.intro rfl (qrl hres (RxS_tr h1 (RxS_rd (RdS_rf (fl_rf _ _ _)))) (Dr_rf (fl_rf _ _ _) h4).1 (fl_at _ _ _).1 (fl_at _ _ _).2)))
  have kR : ∀ (fuel r k' : Nat) (T : Trm) (c' : Sd) (x : Int32), x = nI r → r ≤ pos tx L k' → L < fuel + pos tx L k' → RxS t c c' → RB tx L t c' → Ar tx L k' c' → Dr c' t T → c'.1 3 0 13 = -1 → pText tx L = pRules tx L fuel T (pos tx L k') → Go 31 11 none 30 [some (vR false 3 0), some (vI 1), some (vI x)] [] (c', m) (QR t c m (pText tx L)) := by
    intro fuel
    induction fuel with
    | zero =>
      intro r k' T c' x hx hr hf h1 h2 h3 h4 h5 hres
      have := pos_le (tx := tx) (L := L) k'
      omega
    | succ fuel ih =>
      intro r k' T c' x hx hr hf h1 h2 h3 h4 h5 hres
      subst hx
      have hple := pos_le (tx := tx) (L := L) k'
      rw [pRules_s] at hres
      refine go_ev 100 [30, 62] (bF (c := (121 : Int32) ≤ nI r) (by rw [show (121 : Int32) = nI 121 from rfl, nIle (by decide) (by omega)]; omega) (bF (c := (1 : Int32) = 0) (by decide) ?_))
      refine iC (c_readRule (Ro := T.1) (S := T.2) hL hb h2 h3 h4) (by decide) ?_
      rintro _ _ ⟨c2, rfl, hRd, ⟨f, pl, hr, g1, g2, g3, rfl⟩ | ⟨⟨kd, o, A, j⟩, k2, hr, g1, g2, g3, g4, rfl⟩⟩
      · refine bT (c := (0 : Int32) = 0) rfl (And.intro rfl (qrl ?_ (RxS_tr h1 (RxS_rd hRd)) g1 g2 g3))
        rw [hres, hr]
        rfl
      · refine bF (c := (1 : Int32) = 0) (by decide) ?_
        have hgt := pRule_gt hr
        have g2 : j = pos tx L k2 := g2
        subst g2
        have g3 : Dr c2 t (T.1 ++ [(kd, o, (T.2 ++ A).length)], T.2 ++ A) := g3
        have hB2 := RB_rd hRd h2
        have hx2 := RxS_tr h1 (RxS_rd hRd)
        have h13 := g4.trans h5
        rw [hr] at hres
        have hres : pText tx L = (if isW tx L 0 (pos tx L k2) = true then pRules tx L fuel (T.1 ++ [(kd, o, (T.2 ++ A).length)], T.2 ++ A) (nx tx L (pos tx L k2)) else if pos tx L k2 < L then .inl (1, pos tx L k2) else .inr (T.1 ++ [(kd, o, (T.2 ++ A).length)], T.2 ++ A)) := hres
        cases w0 : isW tx L 0 (pos tx L k2) with
        | false =>
          rw [if_neg (by rw [w0]; exact Bool.false_ne_true)] at hres
          refine iF (c_takesF hL hb hB2 g1 (by decide) w0) (by decide) ?_
          have hgo := h62 c2 k2 _ 0 (nI r + 1) hx2 hB2 g1 g3 h13 hres
          exact go_ev 100 [62] (bI (c := (121 : Int32) ≤ nI r + 1) (fun _ => hgo) (fun _ => bT (c := (0 : Int32) = 0) rfl hgo))
        | true =>
          obtain ⟨hp1, hp2⟩ := pos_nx (by decide) w0
          have hstep := pos_step hp2
          rw [if_pos w0, ← hp1] at hres
          refine iF (c_takesT hL hb hB2 g1 (by decide) w0) (by decide) ?_
          exact ih (r + 1) (k2 + 1) _ (nw c2 k2) _ (nI_succ r).symm (by omega) (by omega) (RxS_tr hx2 (RxS_rd (RdS_rf (nw_rf c2 k2)))) (RB_rf (nw_rf c2 k2) hB2) (nw_ar g1.2 hp2) (Dr_rf (nw_rf c2 k2) g3) ((nw_o c2 k2 (by decide)).trans h13) hres
  have hrf1 : RfS c (pf (pf c 12 0) 13 (-1)) := RfS_tr (pf_rf c (by decide) _) (pf_rf _ (by decide) _)
  have hWp : Ctr 0 36 [vR false 11 ((pf (pf c 12 0) 13 (-1)).2.2 3 0)] (pf (pf c 12 0) 13 (-1), m) (QDf t (pf (pf c 12 0) 13 (-1)) m ([], [])) := by
    rw [show (pf (pf c 12 0) 13 (-1)).2.2 3 0 = t from ht]
    exact c_wipe
  refine ctr_ev 100 [30] rfl rfl (iC hWp (by decide) ?_)
  rintro _ _ ⟨c2, rfl, i1, i2, rfl⟩
  have hx2 : RxS t c c2 := RxS_tr (RxS_rd (RdS_rf hrf1)) (RxS_rd (RdS_df i1))
  have hX2 : Tx tx L c2 := by
    unfold Tx
    rw [hx2.1 1 0 1 (by decide) (fun z => absurd z.1 (by decide)), hx2.2.1 2 0 (by decide) (by omega)]
    exact hX
  refine iC (c_split hL hb hX2) (by decide) ?_
  rintro _ _ ⟨c3, rfl, hSp, hTk, rfl⟩
  have hx3 := RxS_tr hx2 (RxS_sp hSp)
  have hX3 : Tx tx L c3 := by
    unfold Tx
    rw [hx3.1 1 0 1 (by decide) (fun z => absurd z.1 (by decide)), hx3.2.1 2 0 (by decide) (by omega)]
    exact hX
  have h13 : c3.1 3 0 13 = -1 := by
    rw [hSp.1 3 0 13 (by decide), i1.1 3 0 13 (fun z => absurd z.1 (by decide)), pf_s]
  have hD3 : Dr c3 t ([], []) := by
    unfold Dr DR CT CSl cRul cStp at i2 ⊢
    have e : ∀ g, c3.1 11 t g = c2.1 11 t g := fun g => hSp.1 11 t g (fun z => absurd z.1 (by decide))
    rw [e 3, e 8, e 10]
    rw [hSp.2.1 12 t (by decide), hSp.2.1 13 t (by decide), hSp.2.1 14 t (by decide), hSp.2.1 15 t (by decide), hSp.2.1 16 t (by decide), hSp.2.1 17 t (by decide), hSp.2.1 18 t (by decide), hSp.2.1 22 t (by decide)]
    exact i2
  have hB3 : RB tx L t c3 := ⟨hX3, hTk, by rw [hx3.2.2]; exact ht⟩
  refine kR (L + 1) 0 0 ([], []) (pf c3 5 0) 0 rfl (Nat.zero_le _) (by omega) (RxS_tr hx3 (RxS_rd (RdS_rf (pf_rf c3 (by decide) 0)))) (RB_rf (pf_rf c3 (by decide) 0) hB3) ⟨pf_s c3 5 0, fun j hj => absurd hj (by omega)⟩ (Dr_rf (pf_rf c3 (by decide) 0) hD3) ((pf_n c3 0 (by decide)).trans h13) rfl
end RUL

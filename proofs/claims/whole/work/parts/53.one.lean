/-! the class: conditions, level by level -/
def RdS (t : Nat) (c c' : Sd) : Prop := (∀ k i f, ¬ (k = 3 ∧ i = 0 ∧ 5 ≤ f) → ¬ (k = 11 ∧ i = t) → c'.1 k i f = c.1 k i f) ∧ (∀ k i, ¬ ((12 ≤ k ∧ k ≤ 22) ∧ i = t) → c'.2.1 k i = c.2.1 k i) ∧ c'.2.2 = c.2.2
theorem RdS_rf {t : Nat} {c c' : Sd} (h : RfS c c') : RdS t c c' := ⟨fun k i f h1 _ => h.1 k i f h1, fun _ _ _ => by rw [h.2], by rw [h.2]⟩
theorem RdS_df {t : Nat} {c c' : Sd} (h : DfS t c c') : RdS t c c' := ⟨fun k i f _ h1 => h.1 k i f h1, h.2.1, h.2.2⟩
theorem RdS_tr {t : Nat} {a b c : Sd} (h : RdS t a b) (h2 : RdS t b c) : RdS t a c := ⟨fun k i f h1 h3 => (h2.1 k i f h1 h3).trans (h.1 k i f h1 h3), fun k i h1 => (h2.2.1 k i h1).trans (h.2.1 k i h1), h2.2.2.trans h.2.2⟩
theorem RdS_rfl (t : Nat) (c : Sd) : RdS t c c := RdS_rf (RfS_rfl c)
theorem RB_rd {tx : Nat → Nat} {L t : Nat} {c c' : Sd} (h : RdS t c c') (hB : RB tx L t c) : RB tx L t c' := by
  obtain ⟨⟨h1, h2⟩, h3, h4⟩ := hB
  unfold RB Tx Tk
  rw [h.2.2, h.1 1 0 1 (by decide) (by omega), h.2.1 2 0 (by omega), h.2.1 4 0 (by omega), h.2.1 5 0 (by omega), h.2.1 6 0 (by omega)]
  exact ⟨⟨h1, h2⟩, h3, h4⟩
def QC (tx : Nat → Nat) (L t : Nat) (c m : Sd) (Ro : List (Nat × Nat × Nat)) (k0 o0 : Nat) (S : List StpT) (res : Rs (List StpT × Nat)) : Wd → Option PV → Prop := fun w' r' => ∃ c', w' = (c', m) ∧ RdS t c c' ∧ ((∃ f pl, res = .inl (f, pl) ∧ DR c' t ∧ c'.1 3 0 12 = nI f ∧ c'.1 3 0 13 = nI pl ∧ r' = some (vI 0)) ∨ (∃ A j k', res = .inr (A, j) ∧ Ar tx L k' c' ∧ j = pos tx L k' ∧ Dr c' t (Ro ++ [(k0, o0, (S ++ A).length)], S ++ A) ∧ c'.1 3 0 13 = c.1 3 0 13 ∧ r' = some (vI 1)))
section ONE
variable {tx : Nat → Nat} {L t k d : Nat} {c m : Sd} {Ro : List (Nat × Nat × Nat)} {k0 o0 : Nat} {S : List StpT}
theorem qcl {c' : Sd} {res : Rs (List StpT × Nat)} {f pl : Nat} (h : res = .inl (f, pl)) (h1 : RdS t c c') (h2 : DR c' t) (h3 : c'.1 3 0 12 = nI f) (h4 : c'.1 3 0 13 = nI pl) : QC tx L t c m Ro k0 o0 S res (c', m) (some (vI 0)) := ⟨c', rfl, h1, Or.inl ⟨f, pl, h, h2, h3, h4, rfl⟩⟩
theorem qcr {c' : Sd} {res : Rs (List StpT × Nat)} {A : List StpT} {j k' : Nat} (h : res = .inr (A, j)) (h1 : RdS t c c') (h2 : Ar tx L k' c') (h3 : j = pos tx L k') (h4 : Dr c' t (Ro ++ [(k0, o0, (S ++ A).length)], S ++ A)) (h5 : c'.1 3 0 13 = c.1 3 0 13) : QC tx L t c m Ro k0 o0 S res (c', m) (some (vI 1)) := ⟨c', rfl, h1, Or.inr ⟨A, j, k', h, h2, h3, h4, h5, rfl⟩⟩
def QA (t : Nat) (c m : Sd) (T : Trm) : Wd → Option PV → Prop := fun w' r' => ∃ c', w' = (c', m) ∧ DfS t c c' ∧ Dr c' t T ∧ r' = some (vI 1)
theorem c_adds {e : StpT} (hB : RB tx L t c) (hD : Dr c t (Ro ++ [(k0, o0, S.length)], S)) (h8 : c.1 3 0 8 = nI e.2.1) (h9 : c.1 3 0 9 = nI e.2.2.1) (ht : tld e (c.1 3 0 7) (c.1 3 0 10)) : Ctr 2 21 [vR false 3 0, vI (nI (kcd e.1))] (c, m) (QA t c m (Ro ++ [(k0, o0, (S ++ [e]).length)], S ++ [e])) := by
  have hAS : Ctr 1 38 [vR false 11 (c.2.2 3 0), vI (nI (kcd e.1)), vI (c.1 3 0 8), vI (c.1 3 0 9), vI (c.1 3 0 7), vI (c.1 3 0 10)] (c, m) (QDf t c m (Ro ++ [(k0, o0, (S ++ [e]).length)], S ++ [e])) := by
    rw [hB.2.2, h8, h9]
    exact c_addStep hD ht
  refine ctr_ev 100 [] rfl rfl (iC hAS (by decide) ?_)
  rintro _ _ ⟨c', rfl, h1, h2, rfl⟩
  exact And.intro rfl ⟨c', rfl, h1, h2, rfl⟩
/-! the pure reader, case by case -/
theorem pb_who1 {i : Nat} {x : Nat × Nat} (h : isW tx L 8 i = true) (h1 : pNum tx L 0 5 (nx tx L i) = .inl x) : pBase tx L i = .inl x := by
  simp [pBase, pCond, h, h1]
theorem pb_who2 {i : Nat} {x : Nat × Nat} {f j : Nat} (h : isW tx L 8 i = true) (h1 : pNum tx L 0 5 (nx tx L i) = .inr (f, j)) (h2 : pGive tx L 9 j = .inl x) : pBase tx L i = .inl x := by
  simp [pBase, pCond, h, h1, h2]
theorem pb_who3 {i : Nat} {f j l : Nat} {g : Option Nat} (h : isW tx L 8 i = true) (h1 : pNum tx L 0 5 (nx tx L i) = .inr (f, j)) (h2 : pGive tx L 9 j = .inr (g, l)) : pBase tx L i = .inr ([(0, f, 5, 1, giv g, g.isSome)], l) := by
  simp [pBase, pCond, h, h1, h2]
theorem pb_all {i : Nat} (h : isW tx L 8 i = false) (h2 : isW tx L 10 i = true) : pBase tx L i = match pSpan tx L 1 1 (nx tx L i) with
    | .inl x => .inl x
    | .inr (e, j) => .inr ([e], j) := by
  simp [pBase, pCond, h, h2]
  rfl
theorem pb_any1 {i : Nat} {x : Nat × Nat} (h : isW tx L 8 i = false) (h2 : isW tx L 10 i = false) (h3 : isW tx L 12 i = true) (h1 : pNum tx L 0 6 (nx tx L i) = .inl x) : pBase tx L i = .inl x := by
  simp [pBase, pCond, h, h2, h3, h1]
theorem pb_any2 {i v j : Nat} (h : isW tx L 8 i = false) (h2 : isW tx L 10 i = false) (h3 : isW tx L 12 i = true) (h1 : pNum tx L 0 6 (nx tx L i) = .inr (v, j)) : pBase tx L i = match pSpan tx L 2 v j with
    | .inl x => .inl x
    | .inr (e, j) => .inr ([e], j) := by
  simp [pBase, pCond, h, h2, h3, h1]
  rfl
theorem pb_sum1 {i : Nat} {x : Nat × Nat} (h : isW tx L 8 i = false) (h2 : isW tx L 10 i = false) (h3 : isW tx L 12 i = false) (h4 : isW tx L 13 i = true) (h1 : pNum tx L 0 18 (nx tx L i) = .inl x) : pBase tx L i = .inl x := by
  simp [pBase, pCond, h, h2, h3, h4, h1]
theorem pb_sum2 {i v j : Nat} (h : isW tx L 8 i = false) (h2 : isW tx L 10 i = false) (h3 : isW tx L 12 i = false) (h4 : isW tx L 13 i = true) (h1 : pNum tx L 0 18 (nx tx L i) = .inr (v, j)) : pBase tx L i = .inr ([(3, 0, 5, v, 1, false)], j) := by
  simp [pBase, pCond, h, h2, h3, h4, h1]
theorem pb_day1 {i : Nat} {x : Nat × Nat} (h : isW tx L 8 i = false) (h2 : isW tx L 10 i = false) (h3 : isW tx L 12 i = false) (h4 : isW tx L 13 i = false) (h5 : isW tx L 14 i = true) (h1 : pNum tx L 1 9 (nx tx L i) = .inl x) : pBase tx L i = .inl x := by
  simp [pBase, pCond, h, h2, h3, h4, h5, h1]
theorem pb_day2 {i v j : Nat} (h : isW tx L 8 i = false) (h2 : isW tx L 10 i = false) (h3 : isW tx L 12 i = false) (h4 : isW tx L 13 i = false) (h5 : isW tx L 14 i = true) (h1 : pNum tx L 1 9 (nx tx L i) = .inr (v, j)) : pBase tx L i = .inr ([(4, 0, 5, v, 1, false)], j) := by
  simp [pBase, pCond, h, h2, h3, h4, h5, h1]
theorem pb_no {i : Nat} (h : isW tx L 8 i = false) (h2 : isW tx L 10 i = false) (h3 : isW tx L 12 i = false) (h4 : isW tx L 13 i = false) (h5 : isW tx L 14 i = false) : pBase tx L i = .inl (1, i) := by
  simp [pBase, pCond, h, h2, h3, h4, h5]
theorem ps_1 {k many i : Nat} {x : Nat × Nat} (h : pRange tx L i = .inl x) : pSpan tx L k many i = .inl x := by
  simp [pSpan, h]
theorem ps_2 {k many i f u j : Nat} {x : Nat × Nat} (h : pRange tx L i = .inr (f, u, j)) (h2 : pGive tx L 11 j = .inl x) : pSpan tx L k many i = .inl x := by
  simp [pSpan, h, h2]
theorem ps_3 {k many i f u j l : Nat} {g : Option Nat} (h : pRange tx L i = .inr (f, u, j)) (h2 : pGive tx L 11 j = .inr (g, l)) : pSpan tx L k many i = .inr ((k, f, u, many, giv g, g.isSome), l) := by
  simp [pSpan, h, h2]
theorem giv_tld {g : Option Nat} {x : Int32} {kd : Nat} (hk : kd ≤ 2) (h : match g with
    | none => x = -1
    | some v => v < 100 ∧ x = nI v) : (if g.isSome = true ∧ kd ≤ 2 then x = nI (giv g) ∧ giv g < 100 else x = -1 ∧ giv g = 1) := by
  cases g with
  | none =>
    rw [if_neg (fun z => by cases z.1)]
    exact ⟨h, rfl⟩
  | some v =>
    rw [if_pos ⟨rfl, hk⟩]
    exact ⟨h.2, h.1⟩
/-- ranges and gifts, the class's tail of 'all' and 'any', from a place on -/
theorem c_base (hd : 10 ≤ d) (hL : L ≤ 120) (hb : ∀ i, tx i < 256) (hB : RB tx L t c) (hA : Ar tx L k c) (hD : Dr c t (Ro ++ [(k0, o0, S.length)], S)) (dp : Int32) : Go d 18 none 40 [some (vR false 3 0), some (vI dp)] [] (c, m) (QC tx L t c m Ro k0 o0 S (pBase tx L (pos tx L k))) := by
  have hrf1 : RfS c (pf (pf (pf (pf c 7 (-1)) 8 0) 9 5) 10 (-1)) := RfS_tr (pf_rf c (by decide) _) (RfS_tr (pf_rf _ (by decide) _) (RfS_tr (pf_rf _ (by decide) _) (pf_rf _ (by decide) _)))
  have e7 : (pf (pf (pf (pf c 7 (-1)) 8 0) 9 5) 10 (-1)).1 3 0 7 = -1 := by rw [pf_n _ _ (by decide), pf_n _ _ (by decide), pf_n _ _ (by decide), pf_s]
  have e8 : (pf (pf (pf (pf c 7 (-1)) 8 0) 9 5) 10 (-1)).1 3 0 8 = nI 0 := by rw [pf_n _ _ (by decide), pf_n _ _ (by decide), pf_s]; rfl
  have e9 : (pf (pf (pf (pf c 7 (-1)) 8 0) 9 5) 10 (-1)).1 3 0 9 = nI 5 := by rw [pf_n _ _ (by decide), pf_s]; rfl
  have e10 : (pf (pf (pf (pf c 7 (-1)) 8 0) 9 5) 10 (-1)).1 3 0 10 = -1 := by rw [pf_s]
  have e13 : (pf (pf (pf (pf c 7 (-1)) 8 0) 9 5) 10 (-1)).1 3 0 13 = c.1 3 0 13 := by rw [pf_n _ _ (by decide), pf_n _ _ (by decide), pf_n _ _ (by decide), pf_n _ _ (by decide)]
  have hA1 : Ar tx L k (pf (pf (pf (pf c 7 (-1)) 8 0) 9 5) 10 (-1)) := pf_ar _ (by decide) (pf_ar _ (by decide) (pf_ar _ (by decide) (pf_ar _ (by decide) hA)))
  refine go_ev 100 [] (iF c_forget (by omega) ?_)
  generalize pf (pf (pf (pf c 7 (-1)) 8 0) 9 5) 10 (-1) = c1 at hrf1 e7 e8 e9 e10 e13 hA1 ⊢
  have hB1 := RB_rf hrf1 hB
  have bad : ∀ {c' : Sd} {f pl : Nat}, RfS c c' → c'.1 3 0 12 = nI f → c'.1 3 0 13 = nI pl → pBase tx L (pos tx L k) = .inl (f, pl) → QC tx L t c m Ro k0 o0 S (pBase tx L (pos tx L k)) (c', m) (some (vI 0)) := fun h1 h2 h3 h4 => qcl h4 (RdS_rf h1) (Dr_rf h1 hD).1 h2 h3
  have good : ∀ {c' c2 : Sd} {e : StpT} {j k' : Nat}, RfS c c' → Ar tx L k' c' → c'.1 3 0 13 = c.1 3 0 13 → DfS t c' c2 → Dr c2 t (Ro ++ [(k0, o0, (S ++ [e]).length)], S ++ [e]) → j = pos tx L k' → pBase tx L (pos tx L k) = .inr ([e], j) → QC tx L t c m Ro k0 o0 S (pBase tx L (pos tx L k)) (c2, m) (some (vI 1)) := fun h1 h2 h3 h4 h5 h6 h7 => qcr h7 (RdS_tr (RdS_rf h1) (RdS_df h4)) ⟨(h4.1 3 0 5 (fun z => absurd z.1 (by decide))).trans h2.1, h2.2⟩ h6 h5 ((h4.1 3 0 13 (fun z => absurd z.1 (by decide))).trans h3)
  cases w8 : isW tx L 8 (pos tx L k) with
  | true =>
    obtain ⟨hp1, hp2⟩ := pos_nx (by decide) w8
    refine iF (c_takesT hL hb hB1 hA1 (by decide) w8) (by omega) (bF (c := (1 : Int32) = 0) (by decide) ?_)
    have hrf2 := RfS_tr hrf1 (nw_rf c1 k)
    refine iC (c_readPerson hL hb (RB_rf hrf2 hB) (nw_ar hA1.2 hp2)) (by omega) ?_
    rintro _ _ ⟨c3, rfl, ⟨f, pl, hr, ⟨hF, h12, h13⟩, rfl⟩ | ⟨⟨v, j⟩, k3, hr, g1, g2, ⟨g3, g4, g5, g6⟩, rfl⟩⟩
    · rw [hp1] at hr
      exact bT (c := (0 : Int32) = 0) rfl (And.intro rfl (bad (RfS_tr hrf2 hF) h12 h13 (pb_who1 w8 hr)))
    · rw [hp1] at hr
      have g3 : j = pos tx L k3 := g3
      have hrf3 := RfS_tr hrf2 g1
      have fx : ∀ f, f ≠ 5 → f ≠ 6 → f ≠ 8 → c3.1 3 0 f = c1.1 3 0 f := fun f a b c => (g6 f a b c).trans (nw_o c1 k a)
      refine bF (c := (1 : Int32) = 0) (by decide) ?_
      refine iC (c_readGive (q := 9) hL hb (RB_rf hrf3 hB) g2 (by decide)) (by omega) ?_
      rintro _ _ ⟨c4, rfl, ⟨f, pl, hr2, ⟨hF, h12, h13⟩, rfl⟩ | ⟨⟨g, l⟩, k4, hr2, i1, i2, ⟨i3, i4, i5⟩, rfl⟩⟩
      · rw [← g3] at hr2
        exact bT (c := (0 : Int32) = 0) rfl (And.intro rfl (bad (RfS_tr hrf3 hF) h12 h13 (pb_who2 w8 hr hr2)))
      · rw [← g3] at hr2
        have hrf4 := RfS_tr hrf3 i1
        have q8 : c4.1 3 0 8 = nI v := (i5 8 (by decide) (by decide) (by decide)).trans g5
        have q9 : c4.1 3 0 9 = nI 5 := (i5 9 (by decide) (by decide) (by decide)).trans ((fx 9 (by decide) (by decide) (by decide)).trans e9)
        have q7 : c4.1 3 0 7 = -1 := (i5 7 (by decide) (by decide) (by decide)).trans ((fx 7 (by decide) (by decide) (by decide)).trans e7)
        have q13 : c4.1 3 0 13 = c.1 3 0 13 := (i5 13 (by decide) (by decide) (by decide)).trans ((fx 13 (by decide) (by decide) (by decide)).trans e13)
        rw [(fx 10 (by decide) (by decide) (by decide)).trans e10] at i4
        refine bF (c := (1 : Int32) = 0) (by decide) ?_
        refine iC (c_adds (e := (0, v, 5, 1, giv g, g.isSome)) (RB_rf hrf4 hB) (Dr_rf hrf4 hD) q8 q9 ⟨(if_neg (show ¬ (2 ≤ 0 ∧ 0 ≤ 4) by decide)).mpr ⟨q7, rfl⟩, giv_tld (kd := 0) (by decide) i4⟩) (by omega) ?_
        rintro _ _ ⟨c5, rfl, j1, j2, rfl⟩
        exact bF (c := (1 : Int32) = 0) (by decide) (And.intro rfl (good hrf4 i2 q13 j1 j2 i3 (pb_who3 w8 hr hr2)))
  | false =>
    refine iF (c_takesF hL hb hB1 hA1 (by decide) w8) (by omega) (bT (c := (0 : Int32) = 0) rfl ?_)
    cases w10 : isW tx L 10 (pos tx L k) with
    | true =>
      obtain ⟨hp1, hp2⟩ := pos_nx (by decide) w10
      refine iF (c_takesT hL hb hB1 hA1 (by decide) w10) (by omega) (bF (c := (1 : Int32) = 0) (by decide) ?_)
      have hrf2 := RfS_tr hrf1 (nw_rf c1 k)
      refine iC (c_readRange hL hb (RB_rf hrf2 hB) (nw_ar hA1.2 hp2) ((nw_o c1 k (by decide)).trans e8) ((nw_o c1 k (by decide)).trans e9)) (by omega) ?_
      rintro _ _ ⟨c3, rfl, ⟨f, pl, hr, ⟨hF, h12, h13⟩, rfl⟩ | ⟨⟨v, u, j⟩, k3, hr, g1, g2, ⟨g3, ⟨g4, g5⟩, g6⟩, rfl⟩⟩
      · rw [hp1] at hr
        exact bT (c := (0 : Int32) = 0) rfl (And.intro rfl (bad (RfS_tr hrf2 hF) h12 h13 (by rw [pb_all w8 w10, ps_1 hr])))
      · rw [hp1] at hr
        have g3 : j = pos tx L k3 := g3
        have hrf3 := RfS_tr hrf2 g1
        have fx : ∀ f, f ≠ 5 → f ≠ 6 → f ≠ 8 → f ≠ 9 → c3.1 3 0 f = c1.1 3 0 f := fun f a b c d => (g6 f a b c d).trans (nw_o c1 k a)
        refine bF (c := (1 : Int32) = 0) (by decide) ?_
        refine iC (c_readGive (q := 11) hL hb (RB_rf hrf3 hB) g2 (by decide)) (by omega) ?_
        rintro _ _ ⟨c4, rfl, ⟨f, pl, hr2, ⟨hF, h12, h13⟩, rfl⟩ | ⟨⟨g, l⟩, k4, hr2, i1, i2, ⟨i3, i4, i5⟩, rfl⟩⟩
        · rw [← g3] at hr2
          exact bT (c := (0 : Int32) = 0) rfl (And.intro rfl (bad (RfS_tr hrf3 hF) h12 h13 (by rw [pb_all w8 w10, ps_2 hr hr2])))
        · rw [← g3] at hr2
          have hrf4 := RfS_tr hrf3 i1
          have q8 : c4.1 3 0 8 = nI v := (i5 8 (by decide) (by decide) (by decide)).trans g4
          have q9 : c4.1 3 0 9 = nI u := (i5 9 (by decide) (by decide) (by decide)).trans g5
          have q7 : c4.1 3 0 7 = -1 := (i5 7 (by decide) (by decide) (by decide)).trans ((fx 7 (by decide) (by decide) (by decide) (by decide)).trans e7)
          have q13 : c4.1 3 0 13 = c.1 3 0 13 := (i5 13 (by decide) (by decide) (by decide)).trans ((fx 13 (by decide) (by decide) (by decide) (by decide)).trans e13)
          rw [(fx 10 (by decide) (by decide) (by decide) (by decide)).trans e10] at i4
          refine bF (c := (1 : Int32) = 0) (by decide) ?_
          refine iC (c_adds (e := (1, v, u, 1, giv g, g.isSome)) (RB_rf hrf4 hB) (Dr_rf hrf4 hD) q8 q9 ⟨(if_neg (show ¬ (2 ≤ 1 ∧ 1 ≤ 4) by decide)).mpr ⟨q7, rfl⟩, giv_tld (kd := 1) (by decide) i4⟩) (by omega) ?_
          rintro _ _ ⟨c5, rfl, j1, j2, rfl⟩
          exact bF (c := (1 : Int32) = 0) (by decide) (And.intro rfl (good hrf4 i2 q13 j1 j2 i3 (by rw [pb_all w8 w10, ps_3 hr hr2])))
    | false =>
      refine iF (c_takesF hL hb hB1 hA1 (by decide) w10) (by omega) (bT (c := (0 : Int32) = 0) rfl ?_)
      cases w12 : isW tx L 12 (pos tx L k) with
      | true =>
        obtain ⟨hp1, hp2⟩ := pos_nx (by decide) w12
        refine iF (c_takesT hL hb hB1 hA1 (by decide) w12) (by omega) (bF (c := (1 : Int32) = 0) (by decide) ?_)
        have hrf2 := RfS_tr hrf1 (nw_rf c1 k)
        refine iC (c_readMany (lo := 0) (hi := 6) hL hb (RB_rf hrf2 hB) (nw_ar hA1.2 hp2) (by decide) (by decide)) (by omega) ?_
        rintro _ _ ⟨c6, rfl, ⟨f, pl, hr0, ⟨hF, h12, h13⟩, rfl⟩ | ⟨⟨mv, j0⟩, k6, hr0, a1, a2, ⟨a3, a4, a5, a6⟩, rfl⟩⟩
        · rw [hp1] at hr0
          exact bT (c := (0 : Int32) = 0) rfl (And.intro rfl (bad (RfS_tr hrf2 hF) h12 h13 (pb_any1 w8 w10 w12 hr0)))
        · rw [hp1] at hr0
          have a3 : j0 = pos tx L k6 := a3
          have hrf6 := RfS_tr hrf2 a1
          have fy : ∀ f, f ≠ 5 → f ≠ 6 → f ≠ 7 → c6.1 3 0 f = c1.1 3 0 f := fun f a b c => (a6 f a b c).trans (nw_o c1 k a)
          refine bF (c := (1 : Int32) = 0) (by decide) ?_
          refine iC (c_readRange hL hb (RB_rf hrf6 hB) a2 ((fy 8 (by decide) (by decide) (by decide)).trans e8) ((fy 9 (by decide) (by decide) (by decide)).trans e9)) (by omega) ?_
          rintro _ _ ⟨c3, rfl, ⟨f, pl, hr, ⟨hF, h12, h13⟩, rfl⟩ | ⟨⟨v, u, j⟩, k3, hr, g1, g2, ⟨g3, ⟨g4, g5⟩, g6⟩, rfl⟩⟩
          · rw [← a3] at hr
            exact bT (c := (0 : Int32) = 0) rfl (And.intro rfl (bad (RfS_tr hrf6 hF) h12 h13 (by rw [pb_any2 w8 w10 w12 hr0, ps_1 hr])))
          · rw [← a3] at hr
            have g3 : j = pos tx L k3 := g3
            have hrf3 := RfS_tr hrf6 g1
            refine bF (c := (1 : Int32) = 0) (by decide) ?_
            refine iC (c_readGive (q := 11) hL hb (RB_rf hrf3 hB) g2 (by decide)) (by omega) ?_
            rintro _ _ ⟨c4, rfl, ⟨f, pl, hr2, ⟨hF, h12, h13⟩, rfl⟩ | ⟨⟨g, l⟩, k4, hr2, i1, i2, ⟨i3, i4, i5⟩, rfl⟩⟩
            · rw [← g3] at hr2
              exact bT (c := (0 : Int32) = 0) rfl (And.intro rfl (bad (RfS_tr hrf3 hF) h12 h13 (by rw [pb_any2 w8 w10 w12 hr0, ps_2 hr hr2])))
            · rw [← g3] at hr2
              have hrf4 := RfS_tr hrf3 i1
              have q8 : c4.1 3 0 8 = nI v := (i5 8 (by decide) (by decide) (by decide)).trans g4
              have q9 : c4.1 3 0 9 = nI u := (i5 9 (by decide) (by decide) (by decide)).trans g5
              have q7 : c4.1 3 0 7 = nI mv := (i5 7 (by decide) (by decide) (by decide)).trans ((g6 7 (by decide) (by decide) (by decide) (by decide)).trans a5)
              have q13 : c4.1 3 0 13 = c.1 3 0 13 := (i5 13 (by decide) (by decide) (by decide)).trans ((g6 13 (by decide) (by decide) (by decide) (by decide)).trans ((fy 13 (by decide) (by decide) (by decide)).trans e13))
              rw [(g6 10 (by decide) (by decide) (by decide) (by decide)).trans ((fy 10 (by decide) (by decide) (by decide)).trans e10)] at i4
              refine bF (c := (1 : Int32) = 0) (by decide) ?_
              refine iC (c_adds (e := (2, v, u, mv, giv g, g.isSome)) (RB_rf hrf4 hB) (Dr_rf hrf4 hD) q8 q9 ⟨(if_pos (show 2 ≤ 2 ∧ 2 ≤ 4 by decide)).mpr ⟨q7, a4⟩, giv_tld (kd := 2) (by decide) i4⟩) (by omega) ?_
              rintro _ _ ⟨c5, rfl, j1, j2, rfl⟩
              exact bF (c := (1 : Int32) = 0) (by decide) (And.intro rfl (good hrf4 i2 q13 j1 j2 i3 (by rw [pb_any2 w8 w10 w12 hr0, ps_3 hr hr2])))
      | false =>
        refine iF (c_takesF hL hb hB1 hA1 (by decide) w12) (by omega) (bT (c := (0 : Int32) = 0) rfl ?_)
        cases w13 : isW tx L 13 (pos tx L k) with
        | true =>
          obtain ⟨hp1, hp2⟩ := pos_nx (by decide) w13
          refine iF (c_takesT hL hb hB1 hA1 (by decide) w13) (by omega) (bF (c := (1 : Int32) = 0) (by decide) ?_)
          have hrf2 := RfS_tr hrf1 (nw_rf c1 k)
          refine iC (c_readMany (lo := 0) (hi := 18) hL hb (RB_rf hrf2 hB) (nw_ar hA1.2 hp2) (by decide) (by decide)) (by omega) ?_
          rintro _ _ ⟨c6, rfl, ⟨f, pl, hr0, ⟨hF, h12, h13⟩, rfl⟩ | ⟨⟨mv, j0⟩, k6, hr0, a1, a2, ⟨a3, a4, a5, a6⟩, rfl⟩⟩
          · rw [hp1] at hr0
            exact bT (c := (0 : Int32) = 0) rfl (And.intro rfl (bad (RfS_tr hrf2 hF) h12 h13 (pb_sum1 w8 w10 w12 w13 hr0)))
          · rw [hp1] at hr0
            have hrf6 := RfS_tr hrf2 a1
            have fy : ∀ f, f ≠ 5 → f ≠ 6 → f ≠ 7 → c6.1 3 0 f = c1.1 3 0 f := fun f a b c => (a6 f a b c).trans (nw_o c1 k a)
            refine bF (c := (1 : Int32) = 0) (by decide) ?_
            refine iC (c_adds (e := (3, 0, 5, mv, 1, false)) (RB_rf hrf6 hB) (Dr_rf hrf6 hD) ((fy 8 (by decide) (by decide) (by decide)).trans e8) ((fy 9 (by decide) (by decide) (by decide)).trans e9) ⟨(if_pos (show 2 ≤ 3 ∧ 3 ≤ 4 by decide)).mpr ⟨a5, a4⟩, (if_neg (show ¬ (false = true ∧ 3 ≤ 2) by decide)).mpr ⟨(fy 10 (by decide) (by decide) (by decide)).trans e10, rfl⟩⟩) (by omega) ?_
            rintro _ _ ⟨c5, rfl, j1, j2, rfl⟩
            exact bF (c := (1 : Int32) = 0) (by decide) (And.intro rfl (good hrf6 a2 ((fy 13 (by decide) (by decide) (by decide)).trans e13) j1 j2 a3 (pb_sum2 w8 w10 w12 w13 hr0)))
        | false =>
          refine iF (c_takesF hL hb hB1 hA1 (by decide) w13) (by omega) (bT (c := (0 : Int32) = 0) rfl ?_)
          cases w14 : isW tx L 14 (pos tx L k) with
          | true =>
            obtain ⟨hp1, hp2⟩ := pos_nx (by decide) w14
            refine iF (c_takesT hL hb hB1 hA1 (by decide) w14) (by omega) (bF (c := (1 : Int32) = 0) (by decide) ?_)
            have hrf2 := RfS_tr hrf1 (nw_rf c1 k)
            refine iC (c_readMany (lo := 1) (hi := 9) hL hb (RB_rf hrf2 hB) (nw_ar hA1.2 hp2) (by decide) (by decide)) (by omega) ?_
            rintro _ _ ⟨c6, rfl, ⟨f, pl, hr0, ⟨hF, h12, h13⟩, rfl⟩ | ⟨⟨mv, j0⟩, k6, hr0, a1, a2, ⟨a3, a4, a5, a6⟩, rfl⟩⟩
            · rw [hp1] at hr0
              exact bT (c := (0 : Int32) = 0) rfl (And.intro rfl (bad (RfS_tr hrf2 hF) h12 h13 (pb_day1 w8 w10 w12 w13 w14 hr0)))
            · rw [hp1] at hr0
              have hrf6 := RfS_tr hrf2 a1
              have fy : ∀ f, f ≠ 5 → f ≠ 6 → f ≠ 7 → c6.1 3 0 f = c1.1 3 0 f := fun f a b c => (a6 f a b c).trans (nw_o c1 k a)
              refine bF (c := (1 : Int32) = 0) (by decide) ?_
              refine iC (c_adds (e := (4, 0, 5, mv, 1, false)) (RB_rf hrf6 hB) (Dr_rf hrf6 hD) ((fy 8 (by decide) (by decide) (by decide)).trans e8) ((fy 9 (by decide) (by decide) (by decide)).trans e9) ⟨(if_pos (show 2 ≤ 4 ∧ 4 ≤ 4 by decide)).mpr ⟨a5, a4⟩, (if_neg (show ¬ (false = true ∧ 4 ≤ 2) by decide)).mpr ⟨(fy 10 (by decide) (by decide) (by decide)).trans e10, rfl⟩⟩) (by omega) ?_
              rintro _ _ ⟨c5, rfl, j1, j2, rfl⟩
              exact bF (c := (1 : Int32) = 0) (by decide) (And.intro rfl (good hrf6 a2 ((fy 13 (by decide) (by decide) (by decide)).trans e13) j1 j2 a3 (pb_day2 w8 w10 w12 w13 w14 hr0)))
          | false =>
            refine iF (c_takesF hL hb hB1 hA1 (by decide) w14) (by omega) (bT (c := (0 : Int32) = 0) rfl ?_)
            refine iF (c_fails hL hB1 hA1 1) (by omega) (And.intro rfl (bad (RfS_tr hrf1 (fl_rf _ _ _)) (fl_at _ _ _).1 (fl_at _ _ _).2 (pb_no w8 w10 w12 w13 w14)))
end ONE

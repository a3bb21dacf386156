/-! the class: one condition -/
def QP {α : Type} (tx : Nat → Nat) (L : Nat) (c m : Sd) (res : Rs α) (ok : α → Nat → Sd → Prop) : Wd → Option PV → Prop := fun w' r' => ∃ c', w' = (c', m) ∧ ((∃ f pl, res = .inl (f, pl) ∧ FA c f pl c' ∧ r' = some (vI 0)) ∨ (∃ a k', res = .inr a ∧ RfS c c' ∧ Ar tx L k' c' ∧ ok a k' c' ∧ r' = some (vI 1)))
theorem qpl {α : Type} {tx : Nat → Nat} {L : Nat} {c m c' : Sd} {res : Rs α} {ok : α → Nat → Sd → Prop} {f pl : Nat} (h : res = .inl (f, pl)) (h2 : FA c f pl c') : QP tx L c m res ok (c', m) (some (vI 0)) := ⟨c', rfl, Or.inl ⟨f, pl, h, h2, rfl⟩⟩
theorem qpr {α : Type} {tx : Nat → Nat} {L : Nat} {c m c' : Sd} {res : Rs α} {ok : α → Nat → Sd → Prop} {a : α} {k' : Nat} (h : res = .inr a) (h1 : RfS c c') (h2 : Ar tx L k' c') (h3 : ok a k' c') : QP tx L c m res ok (c', m) (some (vI 1)) := ⟨c', rfl, Or.inr ⟨a, k', h, h1, h2, h3, rfl⟩⟩
/-- a field of the reader -/
def pf (c : Sd) (f : Nat) (x : Int32) : Sd := (up3 c.1 3 0 f x, c.2.1, c.2.2)
theorem pf_s (c : Sd) (f : Nat) (x : Int32) : (pf c f x).1 3 0 f = x := up3_s c.1 3 0 f x
theorem pf_n (c : Sd) {f g : Nat} (x : Int32) (h : g ≠ f) : (pf c f x).1 3 0 g = c.1 3 0 g := up3_n (k := 3) (i := 0) (f := f) (k' := 3) (i' := 0) (f' := g) c.1 x (fun z => h z.2.2)
theorem pf_rf (c : Sd) {f : Nat} (hf : 5 ≤ f) (x : Int32) : RfS c (pf c f x) := RfS_f hf _ (RfS_rfl c)
theorem pf_ar {tx : Nat → Nat} {L k : Nat} {c : Sd} {f : Nat} (x : Int32) (hf : f ≠ 5) (h : Ar tx L k c) : Ar tx L k (pf c f x) := ⟨(pf_n c x (Ne.symm hf)).trans h.1, h.2⟩
section CND
variable {tx : Nat → Nat} {L t k : Nat} {c m : Sd}
theorem c_forget : Fn 0 20 [vR false 3 0] (c, m) (pf (pf (pf (pf c 7 (-1)) 8 0) 9 5) 10 (-1), m) none := ctr_ev 100 [] rfl rfl (And.intro rfl rfl)
theorem c_readMany (hL : L ≤ 120) (hb : ∀ i, tx i < 256) (hB : RB tx L t c) (hA : Ar tx L k c) {lo hi : Nat} (hlo : lo < 100) (hhi : hi < 100) : Ctr 2 22 [vR false 3 0, vI (nI lo), vI (nI hi)] (c, m) (QP tx L c m (pNum tx L lo hi (pos tx L k)) (fun a k' c' => a.2 = pos tx L k' ∧ a.1 < 100 ∧ c'.1 3 0 7 = nI a.1 ∧ ∀ f, f ≠ 5 → f ≠ 6 → f ≠ 7 → c'.1 3 0 f = c.1 3 0 f)) := by
  refine ctr_ev 100 [] rfl rfl (iC (c_readNumber hL hb hB hA hlo hhi) (by decide) ?_)
  rintro _ _ ⟨c2, rfl, ⟨f, pl, hr, ⟨hF, h12, h13⟩, rfl⟩ | ⟨v, j, hr, ⟨h1, h2, h3, h4, h5, h6⟩, rfl⟩⟩
  · refine And.intro rfl (qpl (c' := pf c2 7 (c2.1 3 0 6)) hr ⟨RfS_tr hF (pf_rf c2 (by decide) _), (pf_n c2 _ (by decide)).trans h12, (pf_n c2 _ (by decide)).trans h13⟩)
  · refine And.intro rfl (qpr (c' := pf c2 7 (c2.1 3 0 6)) hr (RfS_tr h1 (pf_rf c2 (by decide) _)) (pf_ar _ (by decide) h2) ⟨h3, h4, (pf_s c2 7 _).trans h5, fun f f5 f6 f7 => (pf_n c2 _ f7).trans (h6 f f5 f6)⟩)
theorem c_readPerson (hL : L ≤ 120) (hb : ∀ i, tx i < 256) (hB : RB tx L t c) (hA : Ar tx L k c) : Ctr 2 23 [vR false 3 0] (c, m) (QP tx L c m (pNum tx L 0 5 (pos tx L k)) (fun a k' c' => a.2 = pos tx L k' ∧ a.1 < 100 ∧ c'.1 3 0 8 = nI a.1 ∧ ∀ f, f ≠ 5 → f ≠ 6 → f ≠ 8 → c'.1 3 0 f = c.1 3 0 f)) := by
  refine ctr_ev 100 [] rfl rfl (iC (c_readNumber (lo := 0) (hi := 5) hL hb hB hA (by decide) (by decide)) (by decide) ?_)
  rintro _ _ ⟨c2, rfl, ⟨f, pl, hr, ⟨hF, h12, h13⟩, rfl⟩ | ⟨v, j, hr, ⟨h1, h2, h3, h4, h5, h6⟩, rfl⟩⟩
  · refine And.intro rfl (qpl (c' := pf c2 8 (c2.1 3 0 6)) hr ⟨RfS_tr hF (pf_rf c2 (by decide) _), (pf_n c2 _ (by decide)).trans h12, (pf_n c2 _ (by decide)).trans h13⟩)
  · refine And.intro rfl (qpr (c' := pf c2 8 (c2.1 3 0 6)) hr (RfS_tr h1 (pf_rf c2 (by decide) _)) (pf_ar _ (by decide) h2) ⟨h3, h4, (pf_s c2 8 _).trans h5, fun f f5 f6 f7 => (pf_n c2 _ f7).trans (h6 f f5 f6)⟩)
theorem c_readGive (hL : L ≤ 120) (hb : ∀ i, tx i < 256) (hB : RB tx L t c) (hA : Ar tx L k c) {q : Nat} (hq : q < 17) : Ctr 9 25 [vR false 3 0, vS q] (c, m) (QP tx L c m (pGive tx L q (pos tx L k)) (fun a k' c' => a.2 = pos tx L k' ∧ (match a.1 with
    | none => c'.1 3 0 10 = c.1 3 0 10
    | some v => v < 100 ∧ c'.1 3 0 10 = nI v) ∧ ∀ f, f ≠ 5 → f ≠ 6 → f ≠ 10 → c'.1 3 0 f = c.1 3 0 f)) := by
  cases h : isW tx L q (pos tx L k) with
  | false =>
    refine ctr_ev 100 [] rfl rfl (iF (c_takesF hL hb hB hA hq h) (by decide) (bT (c := (0 : Int32) = 0) rfl (And.intro rfl (qpr (a := (none, pos tx L k)) (k' := k) ?_ (RfS_rfl c) hA ⟨rfl, rfl, fun _ _ _ _ => rfl⟩))))
    unfold pGive
    rw [if_neg (by rw [h]; exact Bool.false_ne_true)]
  | true =>
    obtain ⟨hp1, hp2⟩ := pos_nx hq h
    have hg : pGive tx L q (pos tx L k) = (match pNum tx L 0 3 (pos tx L (k + 1)) with
      | .inl x => .inl x
      | .inr (v, j) => .inr (some v, j)) := by
      unfold pGive
      rw [if_pos h, ← hp1]
      rfl
    rw [hg]
    refine ctr_ev 100 [] rfl rfl (iF (c_takesT hL hb hB hA hq h) (by decide) (bF (c := (1 : Int32) = 0) (by decide) ?_))
    refine iC (c_readNumber (lo := 0) (hi := 3) hL hb (RB_rf (nw_rf c k) hB) (nw_ar hA.2 hp2) (by decide) (by decide)) (by decide) ?_
    rintro _ _ ⟨c2, rfl, ⟨f, pl, hr, ⟨hF, h12, h13⟩, rfl⟩ | ⟨v, j, hr, ⟨h1, h2, h3, h4, h5, h6⟩, rfl⟩⟩
    · refine And.intro rfl (qpl (c' := pf c2 10 (c2.1 3 0 6)) (by rw [hr]) ⟨RfS_tr (nw_rf c k) (RfS_tr hF (pf_rf c2 (by decide) _)), (pf_n c2 _ (by decide)).trans h12, (pf_n c2 _ (by decide)).trans h13⟩)
    · refine And.intro rfl (qpr (a := (some v, j)) (c' := pf c2 10 (c2.1 3 0 6)) (by rw [hr]) (RfS_tr (nw_rf c k) (RfS_tr h1 (pf_rf c2 (by decide) _))) (pf_ar _ (by decide) h2) ⟨h3, ⟨h4, (pf_s c2 10 _).trans h5⟩, fun f f5 f6 f7 => (pf_n c2 _ f7).trans ((h6 f f5 f6).trans (nw_o c k f5))⟩)
theorem c_readRange (hL : L ≤ 120) (hb : ∀ i, tx i < 256) (hB : RB tx L t c) (hA : Ar tx L k c) (h8 : c.1 3 0 8 = nI 0) (h9 : c.1 3 0 9 = nI 5) : Ctr 9 24 [vR false 3 0] (c, m) (QP tx L c m (pRange tx L (pos tx L k)) (fun a k' c' => a.2.2 = pos tx L k' ∧ (c'.1 3 0 8 = nI a.1 ∧ c'.1 3 0 9 = nI a.2.1) ∧ ∀ f, f ≠ 5 → f ≠ 6 → f ≠ 8 → f ≠ 9 → c'.1 3 0 f = c.1 3 0 f)) := by
  cases h : isW tx L 15 (pos tx L k) with
  | false =>
    refine ctr_ev 100 [] rfl rfl (iF (c_takesF hL hb hB hA (by decide) h) (by decide) (bT (c := (0 : Int32) = 0) rfl (And.intro rfl (qpr (a := (0, 5, pos tx L k)) (k' := k) ?_ (RfS_rfl c) hA ⟨rfl, ⟨h8, h9⟩, fun _ _ _ _ _ => rfl⟩))))
    unfold pRange
    rw [if_neg (by rw [h]; exact Bool.false_ne_true)]
  | true =>
    obtain ⟨hp1, hp2⟩ := pos_nx (by decide) h
    have hg : pRange tx L (pos tx L k) = (match pNum tx L 0 5 (pos tx L (k + 1)) with
      | .inl x => .inl x
      | .inr (f, j) => if isW tx L 16 j = true then (match pNum tx L 0 5 (nx tx L j) with
          | .inl x => .inl x
          | .inr (t, l) => if t < f then .inl (3, nx tx L j) else .inr (f, t, l)) else .inl (1, j)) := by
      unfold pRange
      rw [if_pos h, ← hp1]
      rfl
    rw [hg]
    refine ctr_ev 100 [] rfl rfl (iF (c_takesT hL hb hB hA (by decide) h) (by decide) (bF (c := (1 : Int32) = 0) (by decide) ?_))
    have hB1 := RB_rf (nw_rf c k) hB
    refine iC (c_readNumber (lo := 0) (hi := 5) hL hb hB1 (nw_ar hA.2 hp2) (by decide) (by decide)) (by decide) ?_
    rintro _ _ ⟨c2, rfl, ⟨f, pl, hr, ⟨hF, h12, h13⟩, rfl⟩ | ⟨v, j, hr, ⟨h1, h2, h3, h4, h5, h6⟩, rfl⟩⟩
    · refine bT (c := (0 : Int32) = 0) rfl (And.intro rfl (qpl (by rw [hr]) ⟨RfS_tr (nw_rf c k) hF, h12, h13⟩))
    · refine bF (c := (1 : Int32) = 0) (by decide) ?_
      subst h3
      have hrf3 : RfS c (pf c2 8 (c2.1 3 0 6)) := RfS_tr (nw_rf c k) (RfS_tr h1 (pf_rf c2 (by decide) _))
      have hB3 := RB_rf hrf3 hB
      have hA3 : Ar tx L (k + 1 + 1) (pf c2 8 (c2.1 3 0 6)) := pf_ar _ (by decide) h2
      cases h16 : isW tx L 16 (pos tx L (k + 1 + 1)) with
      | false =>
        refine iF (c_takesF hL hb hB3 hA3 (by decide) h16) (by decide) (bT (c := (0 : Int32) = 0) rfl ?_)
        refine iF (c_fails hL hB3 hA3 1) (by decide) (And.intro rfl (qpl (f := 1) (pl := pos tx L (k + 1 + 1)) ?_ ⟨RfS_tr hrf3 (fl_rf _ _ _), fl_at _ _ _⟩))
        rw [hr]
        show (if isW tx L 16 (pos tx L (k + 1 + 1)) = true then _ else _) = _
        rw [if_neg (by rw [h16]; exact Bool.false_ne_true)]
      | true =>
        obtain ⟨hp3, hp4⟩ := pos_nx (by decide) h16
        refine iF (c_takesT hL hb hB3 hA3 (by decide) h16) (by decide) (bF (c := (1 : Int32) = 0) (by decide) ?_)
        refine iC (c_readNumber (lo := 0) (hi := 5) hL hb (RB_rf (nw_rf _ _) hB3) (nw_ar hA3.2 hp4) (by decide) (by decide)) (by decide) ?_
        have hres : ∀ r, pNum tx L 0 5 (pos tx L (k + 1 + 1 + 1)) = r → (match pNum tx L 0 5 (pos tx L (k + 1)) with
          | .inl x => (.inl x : Rs (Nat × Nat × Nat))
          | .inr (f, j) => if isW tx L 16 j = true then (match pNum tx L 0 5 (nx tx L j) with
              | .inl x => .inl x
              | .inr (t, l) => if t < f then .inl (3, nx tx L j) else .inr (f, t, l)) else .inl (1, j)) = (match r with
              | .inl x => .inl x
              | .inr (t, l) => if t < v then .inl (3, pos tx L (k + 1 + 1 + 1)) else .inr (v, t, l)) := by
          intro r hr2
          rw [hr]
          show (if isW tx L 16 (pos tx L (k + 1 + 1)) = true then _ else _) = _
          rw [if_pos h16, ← hp3, hr2]
        rintro _ _ ⟨c4, rfl, ⟨f, pl, hr2, ⟨hF, h12, h13⟩, rfl⟩ | ⟨v2, j2, hr2, ⟨g1, g2, g3, g4, g5, g6⟩, rfl⟩⟩
        · refine bT (c := (0 : Int32) = 0) rfl (And.intro rfl (qpl ?_ ⟨RfS_tr hrf3 (RfS_tr (nw_rf _ _) hF), h12, h13⟩))
          rw [hres _ hr2]
        · refine bF (c := (1 : Int32) = 0) (by decide) ?_
          have hrf5 : RfS c (pf c4 9 (c4.1 3 0 6)) := RfS_tr hrf3 (RfS_tr (nw_rf _ _) (RfS_tr g1 (pf_rf c4 (by decide) _)))
          have hB5 := RB_rf hrf5 hB
          have hA5 : Ar tx L (k + 1 + 1 + 1 + 1) (pf c4 9 (c4.1 3 0 6)) := pf_ar _ (by decide) g2
          have e9 : (pf c4 9 (c4.1 3 0 6)).1 3 0 9 = nI v2 := (pf_s c4 9 _).trans g5
          have e8 : (pf c4 9 (c4.1 3 0 6)).1 3 0 8 = nI v := by
            rw [pf_n c4 _ (by decide), g6 8 (by decide) (by decide), nw_o _ _ (by decide), pf_s, h5]
          refine bI (c := (pf c4 9 (c4.1 3 0 6)).1 3 0 8 ≤ (pf c4 9 (c4.1 3 0 6)).1 3 0 9) (fun hle => ?_) (fun hle => ?_)
          · rw [e8, e9, nIle (by omega) (by omega)] at hle
            refine And.intro rfl (qpr (a := (v, v2, j2)) (c' := pf c4 9 (c4.1 3 0 6)) ?_ hrf5 hA5 ⟨g3, ⟨e8, e9⟩, fun f f5 f6 f8 f9 => ?_⟩)
            · rw [hres _ hr2]
              show (if v2 < v then _ else _) = _
              rw [if_neg (by omega)]
            · rw [pf_n c4 _ f9, g6 f f5 f6, nw_o _ _ f5, pf_n c2 _ f8, h6 f f5 f6, nw_o _ _ f5]
          · rw [e8, e9, nIle (by omega) (by omega)] at hle
            have hn1 : (pf c4 9 (c4.1 3 0 6)).1 3 0 5 - 1 = nI (k + 1 + 1 + 1) := by
              rw [hA5.1, nI_sub1 (by omega)]
              rfl
            have hA6 : Ar tx L (k + 1 + 1 + 1) (pf (pf c4 9 (c4.1 3 0 6)) 5 ((pf c4 9 (c4.1 3 0 6)).1 3 0 5 - 1)) := ⟨(pf_s _ 5 _).trans hn1, fun j hj => hA5.2 j (by omega)⟩
            have hrf6 : RfS c (pf (pf c4 9 (c4.1 3 0 6)) 5 ((pf c4 9 (c4.1 3 0 6)).1 3 0 5 - 1)) := RfS_tr hrf5 (pf_rf _ (by decide) _)
            refine iF (c_fails hL (RB_rf hrf6 hB) hA6 3) (by decide) (And.intro rfl (qpl (f := 3) (pl := pos tx L (k + 1 + 1 + 1)) ?_ ⟨RfS_tr hrf6 (fl_rf _ _ _), fl_at _ _ _⟩))
            rw [hres _ hr2]
            show (if v2 < v then _ else _) = _
            rw [if_pos (by omega)]
end CND

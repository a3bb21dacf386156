/-! the class: a draft of a term -/
def DR (c : Sd) (t : Nat) : Prop := ∃ r s f, c.1 11 t 3 = nI r ∧ c.1 11 t 8 = nI s ∧ c.1 11 t 10 = nI f ∧ r ≤ 25 ∧ s ≤ 40 ∧ f ≤ 80
def Dr (c : Sd) (t : Nat) (T : Trm) : Prop := DR c t ∧ (T.1.length ≤ 25 ∧ T.2.length ≤ 40 → CT c t T ∧ CSl c t (slo T.2))
def DfS (t : Nat) (c c' : Sd) : Prop := (∀ k i f, ¬ (k = 11 ∧ i = t) → c'.1 k i f = c.1 k i f) ∧ (∀ k i, ¬ ((12 ≤ k ∧ k ≤ 22) ∧ i = t) → c'.2.1 k i = c.2.1 k i) ∧ c'.2.2 = c.2.2
theorem DfS_rfl (t : Nat) (c : Sd) : DfS t c c := ⟨fun _ _ _ _ => rfl, fun _ _ _ => rfl, rfl⟩
theorem DfS_tr {t : Nat} {a b c : Sd} (h : DfS t a b) (h2 : DfS t b c) : DfS t a c := ⟨fun k i f h1 => (h2.1 k i f h1).trans (h.1 k i f h1), fun k i h1 => (h2.2.1 k i h1).trans (h.2.1 k i h1), h2.2.2.trans h.2.2⟩
def QDf (t : Nat) (c m : Sd) (T : Trm) : Wd → Option PV → Prop := fun w' r' => ∃ c', w' = (c', m) ∧ DfS t c c' ∧ Dr c' t T ∧ r' = none
theorem qdi {t : Nat} {c m c' : Sd} {T : Trm} (h1 : DfS t c c') (h2 : Dr c' t T) : QDf t c m T (c', m) none := ⟨c', rfl, h1, h2, rfl⟩
theorem DfS_f {t f : Nat} {c c' : Sd} (x : Int32) (h : DfS t c c') : DfS t c (up3 c'.1 11 t f x, c'.2.1, c'.2.2) := ⟨fun k i g h1 => (up3_n _ _ (fun z => h1 ⟨z.1, z.2.1⟩)).trans (h.1 k i g h1), h.2.1, h.2.2⟩
theorem DfS_a {t k j : Nat} {c c' : Sd} (x : Int32) (hk : 12 ≤ k ∧ k ≤ 22) (h : DfS t c c') : DfS t c (c'.1, upA c'.2.1 k t j x, c'.2.2) := ⟨h.1, fun k' i h1 => (upA_n _ _ (fun z => h1 ⟨by omega, z.2⟩)).trans (h.2.1 k' i h1), h.2.2⟩
theorem sloF_app : ∀ (S : List StpT) (s : Nat) (e : StpT), sloF (S ++ [e]) s = sloF S s ++ sloE (s + S.length) e
  | [], s, e => by
    show sloE s e ++ [] = _
    rw [List.append_nil]
    rfl
  | a :: S, s, e => by
    show sloE s a ++ sloF (S ++ [e]) (s + 1) = (sloE s a ++ sloF S (s + 1)) ++ _
    rw [sloF_app S (s + 1) e, List.append_assoc, List.length_cons, Nat.add_right_comm, ← Nat.add_assoc]
theorem slo_app (S : List StpT) (e : StpT) : slo (S ++ [e]) = slo S ++ sloE S.length e := by
  unfold slo
  rw [sloF_app, Nat.zero_add]
theorem CSl_snoc {c c' : Sd} {t : Nat} {L : List Slt} {sl : Slt} (h : CSl c t L) (h1 : c'.1 11 t 10 = nI (L.length + 1)) (h2 : c'.2.1 22 t = upd (c.2.1 22 t) L.length (nI (2 * sl.1 + sl.2.toNat))) : CSl c' t (L ++ [sl]) := by
  refine ⟨by rw [h1, List.length_append]; rfl, fun k sl' hk => ?_⟩
  rw [h2]
  by_cases hkl : k < L.length
  · rw [List.getElem?_append_left hkl] at hk
    rw [pk_un (by omega)]
    exact h.2 k sl' hk
  · have hlen := (List.getElem?_eq_some_iff.mp hk).1
    rw [List.length_append] at hlen
    have hke : k = L.length := by
      have : ([sl] : List Slt).length = 1 := rfl
      omega
    subst hke
    rw [List.getElem?_append_right (Nat.le_refl _), Nat.sub_self] at hk
    cases hk
    exact pk_us
theorem get_snoc {α : Type} {l : List α} {x y : α} {k : Nat} (h : (l ++ [x])[k]? = some y) : (k < l.length ∧ l[k]? = some y) ∨ (k = l.length ∧ y = x) := by
  by_cases hk : k < l.length
  · rw [List.getElem?_append_left hk] at h
    exact Or.inl ⟨hk, h⟩
  · have hlen := (List.getElem?_eq_some_iff.mp h).1
    rw [List.length_append] at hlen
    have hke : k = l.length := by
      have : ([x] : List α).length = 1 := rfl
      omega
    subst hke
    rw [List.getElem?_append_right (Nat.le_refl _), Nat.sub_self] at h
    cases h
    exact Or.inr ⟨rfl, rfl⟩
section DRF
variable {t : Nat} {c m : Sd} {R : List (Nat × Nat × Nat)} {S : List StpT}
theorem c_wipe : Ctr 0 36 [vR false 11 t] (c, m) (QDf t c m ([], [])) := by
  refine ctr_ev 100 [] rfl rfl (qdi (c' := (up3 (up3 (up3 c.1 11 t 3 0) 11 t 8 0) 11 t 10 0, c.2.1, c.2.2)) ?_ ?_)
  · exact DfS_f 0 (DfS_f 0 (DfS_f 0 (DfS_rfl t c)))
  · have h10 : up3 (up3 (up3 c.1 11 t 3 0) 11 t 8 0) 11 t 10 0 11 t 10 = 0 := up3_s _ _ _ _ _
    have h8 : up3 (up3 (up3 c.1 11 t 3 0) 11 t 8 0) 11 t 10 0 11 t 8 = 0 := (up3_n _ _ (fun z => absurd z.2.2 (by decide))).trans (up3_s _ _ _ _ _)
    have h3 : up3 (up3 (up3 c.1 11 t 3 0) 11 t 8 0) 11 t 10 0 11 t 3 = 0 := (up3_n _ _ (fun z => absurd z.2.2 (by decide))).trans ((up3_n _ _ (fun z => absurd z.2.2 (by decide))).trans (up3_s _ _ _ _ _))
    refine ⟨⟨0, 0, 0, h3, h8, h10, by decide, by decide, by decide⟩, fun _ => ⟨⟨h3, h8, fun r k hk => (by cases hk), fun s e he => (by cases he)⟩, ⟨h10, fun k sl hk => (by cases hk)⟩⟩⟩
theorem c_addRule {k o : Nat} (hD : Dr c t (R, S)) : Ctr 0 37 [vR false 11 t, vI (nI k), vI (nI o)] (c, m) (QDf t c m (R ++ [(k, o, S.length)], S)) := by
  obtain ⟨⟨r, s, f, h3, h8, h10, hr, hs, hf⟩, hex⟩ := hD
  refine ctr_ev 100 [] rfl rfl (bI (c := (25 : Int32) ≤ c.1 11 t 3) (fun h => ?_) (fun h => ?_))
  · rw [h3, show (25 : Int32) = nI 25 from rfl, nIle (by decide) (by omega)] at h
    refine qdi (DfS_rfl t c) ⟨⟨r, s, f, h3, h8, h10, hr, hs, hf⟩, fun hl => ?_⟩
    have hl : (R ++ [(k, o, S.length)]).length ≤ 25 ∧ S.length ≤ 40 := hl
    rw [List.length_append] at hl
    have hl1 : R.length + 1 ≤ 25 := hl.1
    have := (hex ⟨by show R.length ≤ 25; omega, hl.2⟩).1.1
    rw [h3, nIeq (by omega) (by show R.length < 2 ^ 31; omega)] at this
    have : r = R.length := this
    omega
  · rw [h3, show (25 : Int32) = nI 25 from rfl, nIle (by decide) (by omega)] at h
    have hcl : (c.1 11 t 3).toNatClampNeg = r := pk_cl r h3
    have hin : vp_in (c.1 11 t 3) 25 := pk_in r 25 (by omega) h3
    refine dI hin (dI hin (dI hin ?_))
    refine qdi (c' := (up3 c.1 11 t 3 (c.1 11 t 3 + 1), upA (upA (upA c.2.1 12 t (c.1 11 t 3).toNatClampNeg (nI k)) 13 t (c.1 11 t 3).toNatClampNeg (nI o)) 14 t (c.1 11 t 3).toNatClampNeg (c.1 11 t 8), c.2.2)) ?_ ?_
    · exact DfS_f (c' := (c.1, upA (upA (upA c.2.1 12 t (c.1 11 t 3).toNatClampNeg (nI k)) 13 t (c.1 11 t 3).toNatClampNeg (nI o)) 14 t (c.1 11 t 3).toNatClampNeg (c.1 11 t 8), c.2.2)) _ (DfS_a (k := 14) (c' := (c.1, upA (upA c.2.1 12 t (c.1 11 t 3).toNatClampNeg (nI k)) 13 t (c.1 11 t 3).toNatClampNeg (nI o), c.2.2)) _ (by decide) (DfS_a (k := 13) (c' := (c.1, upA c.2.1 12 t (c.1 11 t 3).toNatClampNeg (nI k), c.2.2)) _ (by decide) (DfS_a (k := 12) _ (by decide) (DfS_rfl t c))))
    · rw [hcl]
      have e3 : up3 c.1 11 t 3 (c.1 11 t 3 + 1) 11 t 3 = nI (r + 1) := by rw [up3_s, h3, nI_succ]
      have e8 : up3 c.1 11 t 3 (c.1 11 t 3 + 1) 11 t 8 = c.1 11 t 8 := up3_n _ _ (fun z => absurd z.2.2 (by decide))
      have e10 : up3 c.1 11 t 3 (c.1 11 t 3 + 1) 11 t 10 = c.1 11 t 10 := up3_n _ _ (fun z => absurd z.2.2 (by decide))
      have a12 : upA (upA (upA c.2.1 12 t r (nI k)) 13 t r (nI o)) 14 t r (c.1 11 t 8) 12 t = upd (c.2.1 12 t) r (nI k) := by
        rw [upA_n _ _ (fun z => absurd z.1 (by decide)), upA_n _ _ (fun z => absurd z.1 (by decide)), upA_s]
      have a13 : upA (upA (upA c.2.1 12 t r (nI k)) 13 t r (nI o)) 14 t r (c.1 11 t 8) 13 t = upd (c.2.1 13 t) r (nI o) := by
        rw [upA_n _ _ (fun z => absurd z.1 (by decide)), upA_s, upA_n _ _ (fun z => absurd z.1 (by decide))]
      have a14 : upA (upA (upA c.2.1 12 t r (nI k)) 13 t r (nI o)) 14 t r (c.1 11 t 8) 14 t = upd (c.2.1 14 t) r (c.1 11 t 8) := by
        rw [upA_s, upA_n _ _ (fun z => absurd z.1 (by decide)), upA_n _ _ (fun z => absurd z.1 (by decide))]
      have ao : ∀ q, 15 ≤ q → upA (upA (upA c.2.1 12 t r (nI k)) 13 t r (nI o)) 14 t r (c.1 11 t 8) q t = c.2.1 q t := fun q hq => by
        rw [upA_n _ _ (fun z => by omega), upA_n _ _ (fun z => by omega), upA_n _ _ (fun z => by omega)]
      refine ⟨⟨r + 1, s, f, e3, e8.trans h8, e10.trans h10, by omega, hs, hf⟩, fun hl => ?_⟩
      have hl : (R ++ [(k, o, S.length)]).length ≤ 25 ∧ S.length ≤ 40 := hl
      rw [List.length_append] at hl
      have hl1 : R.length + 1 ≤ 25 := hl.1
      obtain ⟨hT, hSl⟩ := hex ⟨by show R.length ≤ 25; omega, hl.2⟩
      have hrR : r = R.length := by
        have := hT.1
        rw [h3] at this
        exact (nIeq (by omega) (by show R.length < 2 ^ 31; omega)).mp this
      refine ⟨⟨?_, e8.trans hT.2.1, fun q x hq => ?_, fun q x hq => ?_⟩, ?_⟩
      · show up3 c.1 11 t 3 (c.1 11 t 3 + 1) 11 t 3 = nI (R ++ [(k, o, S.length)]).length
        rw [e3, List.length_append, hrR]
        rfl
      · show upA (upA (upA c.2.1 12 t r (nI k)) 13 t r (nI o)) 14 t r (c.1 11 t 8) 12 t q = _ ∧ upA (upA (upA c.2.1 12 t r (nI k)) 13 t r (nI o)) 14 t r (c.1 11 t 8) 13 t q = _ ∧ upA (upA (upA c.2.1 12 t r (nI k)) 13 t r (nI o)) 14 t r (c.1 11 t 8) 14 t q = _
        rw [a12, a13, a14]
        rcases get_snoc hq with ⟨h1, h2⟩ | ⟨h1, h2⟩
        · rw [pk_un (by omega), pk_un (by omega), pk_un (by omega)]
          exact hT.2.2.1 q x h2
        · subst h1 h2 hrR
          rw [pk_us, pk_us, pk_us]
          exact ⟨rfl, rfl, hT.2.1⟩
      · have := hT.2.2.2 q x hq
        unfold cStp at this ⊢
        show upA (upA (upA c.2.1 12 t r (nI k)) 13 t r (nI o)) 14 t r (c.1 11 t 8) 15 t q = _ ∧ (_ → upA (upA (upA c.2.1 12 t r (nI k)) 13 t r (nI o)) 14 t r (c.1 11 t 8) 16 t q = _ ∧ upA (upA (upA c.2.1 12 t r (nI k)) 13 t r (nI o)) 14 t r (c.1 11 t 8) 17 t q = _ ∧ upA (upA (upA c.2.1 12 t r (nI k)) 13 t r (nI o)) 14 t r (c.1 11 t 8) 18 t (2 * q) = _ ∧ upA (upA (upA c.2.1 12 t r (nI k)) 13 t r (nI o)) 14 t r (c.1 11 t 8) 18 t (2 * q + 1) = _)
        rw [ao 15 (by decide), ao 16 (by decide), ao 17 (by decide), ao 18 (by decide)]
        exact this
      · refine ⟨e10.trans hSl.1, fun q x hq => ?_⟩
        show upA (upA (upA c.2.1 12 t r (nI k)) 13 t r (nI o)) 14 t r (c.1 11 t 8) 22 t q = _
        rw [ao 22 (by decide)]
        exact hSl.2 q x hq
/-- a number that is told, or not -/
def aN (c : Sd) (t f pl : Nat) (x : Int32) : Sd := if x = -1 then (c.1, upA c.2.1 18 t pl 1, c.2.2) else if f < 80 then (up3 c.1 11 t 10 (nI f + 1), upA (upA c.2.1 18 t pl x) 22 t f (nI pl), c.2.2) else (c.1, upA c.2.1 18 t pl x, c.2.2)
theorem c_addNumber {f pl : Nat} (hf : f ≤ 80) (hp : pl < 80) (h10 : c.1 11 t 10 = nI f) (x : Int32) : Fn 0 39 [vR false 11 t, vI (nI pl), vI x] (c, m) (aN c t f pl x, m) none := by
  have hpc : (nI pl).toNatClampNeg = pl := pk_cl pl
  have hpi : vp_in (nI pl) 80 := pk_in pl 80 hp
  have hfc : (c.1 11 t 10).toNatClampNeg = f := pk_cl f h10
  refine ctr_ev 100 [] rfl rfl (bI (c := x = -1) (fun h => ?_) (fun h => ?_))
  · refine dI hpi (bT (c := x = -1) h (And.intro ?_ rfl))
    show ((c.1, upA c.2.1 18 t (nI pl).toNatClampNeg 1, c.2.2), m) = _
    unfold aN
    rw [if_pos h, hpc]
  · refine dI hpi (bF (c := x = -1) h (bI (c := nI 80 ≤ c.1 11 t 10) (fun h2 => And.intro ?_ rfl) (fun h2 => ?_)))
    · rw [h10, nIle (by decide) (by omega)] at h2
      show ((c.1, upA c.2.1 18 t (nI pl).toNatClampNeg x, c.2.2), m) = _
      unfold aN
      rw [if_neg h, if_neg (by omega), hpc]
    · rw [h10, nIle (by decide) (by omega)] at h2
      refine dI (pk_in f 80 (by omega) h10) (And.intro ?_ rfl)
      show ((up3 c.1 11 t 10 (c.1 11 t 10 + 1), upA (upA c.2.1 18 t (nI pl).toNatClampNeg x) 22 t (c.1 11 t 10).toNatClampNeg (nI pl), c.2.2), m) = _
      unfold aN
      rw [if_neg h, if_pos (by omega), hpc, hfc, h10]
theorem aN_spec {f pl : Nat} (hf : f ≤ 80) (h10 : c.1 11 t 10 = nI f) (x : Int32) : DfS t c (aN c t f pl x) ∧ (∃ f', f' ≤ 80 ∧ (aN c t f pl x).1 11 t 10 = nI f') ∧ (∀ g, g ≠ 10 → (aN c t f pl x).1 11 t g = c.1 11 t g) ∧ (aN c t f pl x).2.1 18 t = upd (c.2.1 18 t) pl (if x = -1 then 1 else x) ∧ (∀ k, k ≠ 18 → k ≠ 22 → (aN c t f pl x).2.1 k t = c.2.1 k t) ∧ (x = -1 → (aN c t f pl x).1 11 t 10 = nI f ∧ (aN c t f pl x).2.1 22 t = c.2.1 22 t) ∧ (x ≠ -1 → f < 80 → (aN c t f pl x).1 11 t 10 = nI (f + 1) ∧ (aN c t f pl x).2.1 22 t = upd (c.2.1 22 t) f (nI pl)) := by
  unfold aN
  by_cases h : x = -1
  · rw [if_pos h, if_pos h]
    refine ⟨DfS_a _ (by decide) (DfS_rfl t c), ⟨f, hf, h10⟩, fun _ _ => rfl, upA_s c.2.1 18 t pl 1, fun k h1 _ => upA_n (k := 18) (i := t) (j := pl) c.2.1 _ (fun z => h1 z.1), fun _ => ⟨h10, rfl⟩, fun z => absurd h z⟩
  · rw [if_neg h, if_neg h]
    by_cases h2 : f < 80
    · rw [if_pos h2]
      refine ⟨DfS_f (c' := (c.1, upA (upA c.2.1 18 t pl x) 22 t f (nI pl), c.2.2)) _ (DfS_a (k := 22) (c' := (c.1, upA c.2.1 18 t pl x, c.2.2)) _ (by decide) (DfS_a _ (by decide) (DfS_rfl t c))), ⟨f + 1, h2, (up3_s c.1 11 t 10 (nI f + 1)).trans (nI_succ f).symm⟩, fun g hg => up3_n (k := 11) (i := t) (f := 10) (k' := 11) (i' := t) (f' := g) c.1 (nI f + 1) (fun z => hg z.2.2), ?_, fun k h1 h22 => ?_, fun z => absurd z h, fun _ _ => ⟨(up3_s c.1 11 t 10 (nI f + 1)).trans (nI_succ f).symm, ?_⟩⟩
      · show upA (upA c.2.1 18 t pl x) 22 t f (nI pl) 18 t = _
        rw [upA_n _ _ (fun z => absurd z.1 (by decide)), upA_s]
      · show upA (upA c.2.1 18 t pl x) 22 t f (nI pl) k t = _
        rw [upA_n _ _ (fun z => h22 z.1), upA_n _ _ (fun z => h1 z.1)]
      · show upA (upA c.2.1 18 t pl x) 22 t f (nI pl) 22 t = _
        rw [upA_s, upA_n _ _ (fun z => absurd z.1 (by decide))]
    · rw [if_neg h2]
      exact ⟨DfS_a _ (by decide) (DfS_rfl t c), ⟨f, hf, h10⟩, fun _ _ => rfl, upA_s c.2.1 18 t pl x, fun k h1 _ => upA_n (k := 18) (i := t) (j := pl) c.2.1 _ (fun z => h1 z.1), fun z => absurd z h, fun _ z => absurd z h2⟩
/-- how a step's numbers are handed over -/
def tld (e : StpT) (ma gi : Int32) : Prop := (if 2 ≤ e.1 ∧ e.1 ≤ 4 then ma = nI e.2.2.2.1 ∧ e.2.2.2.1 < 100 else ma = -1 ∧ e.2.2.2.1 = 1) ∧ (if e.2.2.2.2.2 = true ∧ e.1 ≤ 2 then gi = nI e.2.2.2.2.1 ∧ e.2.2.2.2.1 < 100 else gi = -1 ∧ e.2.2.2.2.1 = 1)
theorem c_addStep {k o : Nat} {e : StpT} {ma gi : Int32} (hD : Dr c t (R ++ [(k, o, S.length)], S)) (ht : tld e ma gi) : Ctr 1 38 [vR false 11 t, vI (nI (kcd e.1)), vI (nI e.2.1), vI (nI e.2.2.1), vI ma, vI gi] (c, m) (QDf t c m (R ++ [(k, o, (S ++ [e]).length)], S ++ [e])) := by
  obtain ⟨⟨r, s, f, h3, h8, h10, hr, hs, hf⟩, hex⟩ := hD
  have hlen : ∀ x, (R ++ [(k, o, x)]).length = R.length + 1 := fun x => by rw [List.length_append]; rfl
  have hlen2 : (S ++ [e]).length = S.length + 1 := by rw [List.length_append]; rfl
  have hback : (R ++ [(k, o, (S ++ [e]).length)]).length ≤ 25 ∧ (S ++ [e]).length ≤ 40 → (CT c t (R ++ [(k, o, S.length)], S) ∧ CSl c t (slo S)) ∧ r = R.length + 1 ∧ s = S.length := fun hl => by
    rw [hlen, hlen2] at hl
    have hh := hex ⟨by show (R ++ [(k, o, S.length)]).length ≤ 25; rw [hlen]; exact hl.1, by show S.length ≤ 40; omega⟩
    refine ⟨hh, ?_, ?_⟩
    · have := hh.1.1
      rw [h3, show ((R ++ [(k, o, S.length)], S) : Trm).1.length = R.length + 1 from hlen _] at this
      exact (nIeq (by omega) (by omega)).mp this
    · have := hh.1.2.1
      rw [h8] at this
      exact (nIeq (by omega) (by show S.length < 2 ^ 31; omega)).mp this
  have hstay : ¬ (s < 40 ∧ 0 < r) → QDf t c m (R ++ [(k, o, (S ++ [e]).length)], S ++ [e]) (c, m) none := fun hg => qdi (DfS_rfl t c) ⟨⟨r, s, f, h3, h8, h10, hr, hs, hf⟩, fun hl => by
    obtain ⟨-, q1, q2⟩ := hback hl
    have hl2 : (S ++ [e]).length ≤ 40 := hl.2
    rw [hlen2] at hl2
    exact absurd ⟨by omega, by omega⟩ hg⟩
  refine ctr_ev 100 [] rfl rfl (bI (c := (40 : Int32) ≤ c.1 11 t 8) (fun h => ?_) (fun h => bI (c := c.1 11 t 3 ≤ 0) (fun h0 => ?_) (fun h0 => ?_)))
  · rw [h8, show (40 : Int32) = nI 40 from rfl, nIle (by decide) (by omega)] at h
    exact hstay (fun z => by omega)
  · rw [h3, show (0 : Int32) = nI 0 from rfl, nIle (by omega) (by decide)] at h0
    exact hstay (fun z => by omega)
  · rw [h8, show (40 : Int32) = nI 40 from rfl, nIle (by decide) (by omega)] at h
    rw [h3, show (0 : Int32) = nI 0 from rfl, nIle (by omega) (by decide)] at h0
    have hcl : (c.1 11 t 8).toNatClampNeg = s := pk_cl s h8
    have hin : vp_in (c.1 11 t 8) 40 := pk_in s 40 (by omega) h8
    refine dI hin (dI hin (dI hin ?_))
    have hw1 : ((c.1, upA (upA (upA c.2.1 15 t (c.1 11 t 8).toNatClampNeg (nI (kcd e.1))) 16 t (c.1 11 t 8).toNatClampNeg (nI e.2.1)) 17 t (c.1 11 t 8).toNatClampNeg (nI e.2.2.1), c.2.2) : Sd) = (c.1, upA (upA (upA c.2.1 15 t s (nI (kcd e.1))) 16 t s (nI e.2.1)) 17 t s (nI e.2.2.1), c.2.2) := by rw [hcl]
    generalize hc1 : ((c.1, upA (upA (upA c.2.1 15 t s (nI (kcd e.1))) 16 t s (nI e.2.1)) 17 t s (nI e.2.2.1), c.2.2) : Sd) = c1 at hw1
    have e1 : c1.1 = c.1 := by rw [← hc1]
    have e15 : c1.2.1 15 t = upd (c.2.1 15 t) s (nI (kcd e.1)) := by
      rw [← hc1]
      show upA (upA (upA c.2.1 15 t s (nI (kcd e.1))) 16 t s (nI e.2.1)) 17 t s (nI e.2.2.1) 15 t = _
      rw [upA_n _ _ (fun z => absurd z.1 (by decide)), upA_n _ _ (fun z => absurd z.1 (by decide)), upA_s]
    have e16 : c1.2.1 16 t = upd (c.2.1 16 t) s (nI e.2.1) := by
      rw [← hc1]
      show upA (upA (upA c.2.1 15 t s (nI (kcd e.1))) 16 t s (nI e.2.1)) 17 t s (nI e.2.2.1) 16 t = _
      rw [upA_n _ _ (fun z => absurd z.1 (by decide)), upA_s, upA_n _ _ (fun z => absurd z.1 (by decide))]
    have e17 : c1.2.1 17 t = upd (c.2.1 17 t) s (nI e.2.2.1) := by
      rw [← hc1]
      show upA (upA (upA c.2.1 15 t s (nI (kcd e.1))) 16 t s (nI e.2.1)) 17 t s (nI e.2.2.1) 17 t = _
      rw [upA_s, upA_n _ _ (fun z => absurd z.1 (by decide)), upA_n _ _ (fun z => absurd z.1 (by decide))]
    have eo : ∀ q, ¬ (15 ≤ q ∧ q ≤ 17) → c1.2.1 q t = c.2.1 q t := fun q hq => by
      rw [← hc1]
      show upA (upA (upA c.2.1 15 t s (nI (kcd e.1))) 16 t s (nI e.2.1)) 17 t s (nI e.2.2.1) q t = _
      rw [upA_n _ _ (fun z => hq (by omega)), upA_n _ _ (fun z => hq (by omega)), upA_n _ _ (fun z => hq (by omega))]
    have d1 : DfS t c c1 := by
      rw [← hc1]
      exact DfS_a (k := 17) (c' := (c.1, upA (upA c.2.1 15 t s (nI (kcd e.1))) 16 t s (nI e.2.1), c.2.2)) _ (by decide) (DfS_a (k := 16) (c' := (c.1, upA c.2.1 15 t s (nI (kcd e.1)), c.2.2)) _ (by decide) (DfS_a (k := 15) _ (by decide) (DfS_rfl t c)))
    have h10' : c1.1 11 t 10 = nI f := by rw [e1]; exact h10
    have hA1 := c_addNumber (c := c1) (m := m) (t := t) hf (show 2 * s < 80 by omega) h10' ma
    rw [← hw1] at hA1
    have hi1 : 2 * c.1 11 t 8 = nI (2 * s) := by rw [h8, show (2 : Int32) = nI 2 from rfl, pk_mul]
    rw [← hi1] at hA1
    refine iF hA1 (by decide) ?_
    rw [hw1]
    obtain ⟨d2, ⟨f2, hf2, g10⟩, g2, g18, go, gm1, gm2⟩ := aN_spec (pl := 2 * s) (c := c1) (t := t) hf h10' ma
    generalize hc2 : aN c1 t f (2 * s) ma = c2 at d2 g10 g2 g18 go gm1 gm2
    have h8' : c2.1 11 t 8 = nI s := by rw [g2 8 (by decide), e1]; exact h8
    have hi2 : 2 * c2.1 11 t 8 + 1 = nI (2 * s + 1) := by rw [h8', show (2 : Int32) = nI 2 from rfl, pk_mul, nI_succ]
    have hA2 := c_addNumber (c := c2) (m := m) (t := t) hf2 (show 2 * s + 1 < 80 by omega) g10 gi
    rw [← hi2] at hA2
    refine iF hA2 (by decide) ?_
    obtain ⟨d3, ⟨f3, hf3, k10⟩, k2, k18, ko, km1, km2⟩ := aN_spec (pl := 2 * s + 1) (c := c2) (t := t) hf2 g10 gi
    generalize hc3 : aN c2 t f2 (2 * s + 1) gi = c3 at d3 k10 k2 k18 ko km1 km2
    have h8'' : c3.1 11 t 8 = nI s := by rw [k2 8 (by decide)]; exact h8'
    have h3'' : c3.1 11 t 3 = nI r := by rw [k2 3 (by decide), g2 3 (by decide), e1]; exact h3
    have hi3 : c3.1 11 t 3 - 1 = nI (r - 1) := by rw [h3'', nI_sub1 (by omega)]
    have hi3' : up3 c3.1 11 t 8 (c3.1 11 t 8 + 1) 11 t 3 - 1 = nI (r - 1) := by rw [up3_n _ _ (fun z => absurd z.2.2 (by decide))]; exact hi3
    refine dI (pk_in (r - 1) 25 (by omega) hi3') ?_
    have hcl3 := pk_cl (r - 1) hi3'
    have dd3 := DfS_tr d1 (DfS_tr d2 d3)
    refine qdi (c' := (up3 c3.1 11 t 8 (c3.1 11 t 8 + 1), upA c3.2.1 14 t (up3 c3.1 11 t 8 (c3.1 11 t 8 + 1) 11 t 3 - 1).toNatClampNeg (up3 c3.1 11 t 8 (c3.1 11 t 8 + 1) 11 t 8), c3.2.2)) ?_ ?_
    · exact DfS_f (c' := (c3.1, upA c3.2.1 14 t _ _, c3.2.2)) _ (DfS_a (k := 14) _ (by decide) dd3)
    · have u8 : up3 c3.1 11 t 8 (c3.1 11 t 8 + 1) 11 t 8 = nI (s + 1) := by rw [up3_s, h8'', nI_succ]
      rw [hcl3, u8]
      have u3 : up3 c3.1 11 t 8 (c3.1 11 t 8 + 1) 11 t 3 = nI r := (up3_n _ _ (fun z => absurd z.2.2 (by decide))).trans h3''
      have u10 : up3 c3.1 11 t 8 (c3.1 11 t 8 + 1) 11 t 10 = c3.1 11 t 10 := up3_n _ _ (fun z => absurd z.2.2 (by decide))
      refine ⟨⟨r, s + 1, f3, u3, u8, u10.trans k10, hr, by omega, hf3⟩, fun hl => ?_⟩
      obtain ⟨⟨hT, hSl⟩, hrR, hsS⟩ := hback hl
      have hl2 : (S ++ [e]).length ≤ 40 := hl.2
      rw [hlen2] at hl2
      have hfl : f = (slo S).length := by
        have := hSl.1
        rw [h10] at this
        have h2 := sloF_len S 0
        exact (nIeq (by omega) (by unfold slo; omega)).mp this
      have hsl2 : (slo S).length ≤ 2 * S.length := sloF_len S 0
      have v14 : upA c3.2.1 14 t (r - 1) (nI (s + 1)) 14 t = upd (c.2.1 14 t) (r - 1) (nI (s + 1)) := by
        rw [upA_s, ko 14 (by decide) (by decide), go 14 (by decide) (by decide), eo 14 (by decide)]
      have vo : ∀ q, q ≠ 14 → upA c3.2.1 14 t (r - 1) (nI (s + 1)) q t = c3.2.1 q t := fun q hq => upA_n _ _ (fun z => hq z.1)
      have w12 : c3.2.1 12 t = c.2.1 12 t := by rw [ko 12 (by decide) (by decide), go 12 (by decide) (by decide), eo 12 (by decide)]
      have w13 : c3.2.1 13 t = c.2.1 13 t := by rw [ko 13 (by decide) (by decide), go 13 (by decide) (by decide), eo 13 (by decide)]
      have w15 : c3.2.1 15 t = upd (c.2.1 15 t) s (nI (kcd e.1)) := by rw [ko 15 (by decide) (by decide), go 15 (by decide) (by decide), e15]
      have w16 : c3.2.1 16 t = upd (c.2.1 16 t) s (nI e.2.1) := by rw [ko 16 (by decide) (by decide), go 16 (by decide) (by decide), e16]
      have w17 : c3.2.1 17 t = upd (c.2.1 17 t) s (nI e.2.2.1) := by rw [ko 17 (by decide) (by decide), go 17 (by decide) (by decide), e17]
      have w18 : c3.2.1 18 t = upd (upd (c.2.1 18 t) (2 * s) (if ma = -1 then 1 else ma)) (2 * s + 1) (if gi = -1 then 1 else gi) := by rw [k18, g18, eo 18 (by decide)]
      have hma : (if ma = -1 then 1 else ma) = nI e.2.2.2.1 := by
        have := ht.1
        split at this
        · rw [if_neg (by rw [this.1]; exact nI_m1 (by omega)), this.1]
        · rw [if_pos this.1, this.2]
          rfl
      have hgi : (if gi = -1 then 1 else gi) = nI e.2.2.2.2.1 := by
        have := ht.2
        split at this
        · rw [if_neg (by rw [this.1]; exact nI_m1 (by omega)), this.1]
        · rw [if_pos this.1, this.2]
          rfl
      refine ⟨⟨?_, ?_, fun q x hq => ?_, fun q x hq => ?_⟩, ?_⟩
      · show up3 c3.1 11 t 8 (c3.1 11 t 8 + 1) 11 t 3 = nI (R ++ [(k, o, (S ++ [e]).length)]).length
        rw [u3, hlen, hrR]
      · show up3 c3.1 11 t 8 (c3.1 11 t 8 + 1) 11 t 8 = nI (S ++ [e]).length
        rw [u8, hlen2, hsS]
      · show upA c3.2.1 14 t (r - 1) (nI (s + 1)) 12 t q = _ ∧ upA c3.2.1 14 t (r - 1) (nI (s + 1)) 13 t q = _ ∧ upA c3.2.1 14 t (r - 1) (nI (s + 1)) 14 t q = _
        rw [vo 12 (by decide), vo 13 (by decide), v14, w12, w13]
        rcases get_snoc hq with ⟨p1, p2⟩ | ⟨p1, p2⟩
        · rw [pk_un (by omega)]
          refine hT.2.2.1 q x ?_
          show (R ++ [(k, o, S.length)])[q]? = some x
          rw [List.getElem?_append_left p1]
          exact p2
        · subst p1 p2
          have hold := hT.2.2.1 R.length (k, o, S.length) (by
            show (R ++ [(k, o, S.length)])[R.length]? = _
            rw [List.getElem?_append_right (Nat.le_refl _), Nat.sub_self]
            rfl)
          refine ⟨hold.1, hold.2.1, ?_⟩
          rw [show r - 1 = R.length by omega, pk_us, hlen2, hsS]
      · show upA c3.2.1 14 t (r - 1) (nI (s + 1)) 15 t q = _ ∧ (_ → upA c3.2.1 14 t (r - 1) (nI (s + 1)) 16 t q = _ ∧ upA c3.2.1 14 t (r - 1) (nI (s + 1)) 17 t q = _ ∧ upA c3.2.1 14 t (r - 1) (nI (s + 1)) 18 t (2 * q) = _ ∧ upA c3.2.1 14 t (r - 1) (nI (s + 1)) 18 t (2 * q + 1) = _)
        rw [vo 15 (by decide), vo 16 (by decide), vo 17 (by decide), vo 18 (by decide), w15, w16, w17, w18]
        rcases get_snoc hq with ⟨p1, p2⟩ | ⟨p1, p2⟩
        · rw [pk_un (by omega), pk_un (by omega), pk_un (by omega), pk_un (by omega), pk_un (by omega), pk_un (by omega), pk_un (by omega)]
          exact hT.2.2.2 q x p2
        · subst p1 p2 hsS
          rw [pk_us, pk_us, pk_us, pk_us, pk_un (by omega), pk_us, hma, hgi]
          exact ⟨rfl, fun _ => ⟨rfl, rfl, rfl, rfl⟩⟩
      · show CSl _ t (slo (S ++ [e]))
        rw [slo_app]
        have q1 : CSl c2 t (slo S ++ (if 2 ≤ e.1 ∧ e.1 ≤ 4 then [(S.length, false)] else [])) := by
          have := ht.1
          split at this
          · rename_i hk24
            rw [if_pos hk24]
            have hne : ma ≠ -1 := by rw [this.1]; exact nI_m1 (by omega)
            obtain ⟨z1, z2⟩ := gm2 hne (by omega)
            refine CSl_snoc hSl (by rw [z1, hfl]) ?_
            rw [z2, eo 22 (by decide), hfl, hsS]
            rfl
          · rename_i hk24
            rw [if_neg hk24, List.append_nil]
            obtain ⟨z1, z2⟩ := gm1 this.1
            refine ⟨by rw [z1, hfl], fun q x hq => ?_⟩
            rw [z2, eo 22 (by decide)]
            exact hSl.2 q x hq
        have hf2l : f2 = (slo S ++ (if 2 ≤ e.1 ∧ e.1 ≤ 4 then [(S.length, false)] else [])).length ∧ f2 ≤ 2 * S.length + 1 := by
          have hlen3 : (slo S ++ (if 2 ≤ e.1 ∧ e.1 ≤ 4 then [(S.length, false)] else [])).length ≤ 2 * S.length + 1 := by
            rw [List.length_append]
            split <;> simp <;> omega
          have := q1.1
          rw [g10, nIeq (by omega) (by omega)] at this
          exact ⟨this, by omega⟩
        have q2 : CSl c3 t (slo S ++ sloE S.length e) := by
          unfold sloE
          rw [← List.append_assoc]
          have := ht.2
          split at this
          · rename_i hk24
            rw [if_pos hk24]
            have hne : gi ≠ -1 := by rw [this.1]; exact nI_m1 (by omega)
            obtain ⟨z1, z2⟩ := km2 hne (by omega)
            refine CSl_snoc q1 (by rw [z1, hf2l.1]) ?_
            rw [z2, hf2l.1, hsS]
            rfl
          · rename_i hk24
            rw [if_neg hk24, List.append_nil]
            obtain ⟨z1, z2⟩ := km1 this.1
            refine ⟨by rw [z1, hf2l.1], fun q x hq => ?_⟩
            rw [z2]
            exact q1.2 q x hq
        refine ⟨u10.trans q2.1, fun q x hq => ?_⟩
        show upA c3.2.1 14 t (r - 1) (nI (s + 1)) 22 t q = _
        rw [vo 22 (by decide)]
        exact q2.2 q x hq
end DRF

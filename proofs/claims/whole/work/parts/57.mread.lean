/-! the model: reading words and numbers -/
def mf (m : Sd) (f : Nat) (x : Int32) : Sd := (up3 m.1 0 0 f x, m.2.1, m.2.2)
theorem mf_s (m : Sd) (f : Nat) (x : Int32) : (mf m f x).1 0 0 f = x := up3_s m.1 0 0 f x
theorem mf_n (m : Sd) {f g : Nat} (x : Int32) (h : g ≠ f) : (mf m f x).1 0 0 g = m.1 0 0 g := up3_n (k := 0) (i := 0) (f := f) (k' := 0) (i' := 0) (f' := g) m.1 x (fun z => h z.2.2)
def PfS (m m' : Sd) : Prop := (∀ k i f, ¬ (k = 0 ∧ i = 0 ∧ 16 ≤ f ∧ f ≤ 20) → m'.1 k i f = m.1 k i f) ∧ m'.2 = m.2
theorem PfS_rfl (m : Sd) : PfS m m := ⟨fun _ _ _ _ => rfl, rfl⟩
theorem PfS_tr {a b c : Sd} (h : PfS a b) (h2 : PfS b c) : PfS a c := ⟨fun k i f h1 => (h2.1 k i f h1).trans (h.1 k i f h1), h2.2.trans h.2⟩
theorem PfS_f {m m' : Sd} {f : Nat} (hf : 16 ≤ f ∧ f ≤ 20) (x : Int32) (h : PfS m m') : PfS m (mf m' f x) := ⟨fun k i g h1 => (up3_n m'.1 x (fun z => h1 ⟨z.1, z.2.1, by omega⟩)).trans (h.1 k i g h1), h.2⟩
def Mx (tx : Nat → Nat) (L : Nat) (m : Sd) : Prop := m.1 0 0 15 = nI L ∧ ∀ i, i < L → m.2.1 14 0 i = nI (tx i)
theorem Mx_pf {tx : Nat → Nat} {L : Nat} {m m' : Sd} (h : PfS m m') (hM : Mx tx L m) : Mx tx L m' := by
  unfold Mx
  rw [h.2, h.1 0 0 15 (by decide)]
  exact hM
def hr (tx : Nat → Nat) (L i : Nat) : Int32 := if i < L then nI (tx i) else -1
/-- at a place whose next token begins at i -/
def At (tx : Nat → Nat) (L i : Nat) (m : Sd) : Prop := ∃ a, m.1 0 0 16 = nI a ∧ sk tx L a = i ∧ a ≤ L
theorem At_le {tx : Nat → Nat} {L i : Nat} {m : Sd} (h : At tx L i m) : i ≤ L ∧ sk tx L i = i := by
  obtain ⟨a, -, h2, h3⟩ := h
  rw [← h2]
  exact ⟨sk_le h3, sk_id a⟩
theorem At_i {tx : Nat → Nat} {L i : Nat} {m : Sd} (h : m.1 0 0 16 = nI i) (h2 : sk tx L i = i) (h3 : i ≤ L) : At tx L i m := ⟨i, h, h2, h3⟩
section MRD
variable {tx : Nat → Nat} {L i : Nat} {c m : Sd}
def QH (c m : Sd) (P : Sd → Prop) (r : Int32) : Wd → Option PV → Prop := fun w' r' => ∃ m', w' = (c, m') ∧ PfS m m' ∧ P m' ∧ r' = some (vI r)
theorem qhi {m' : Sd} {P : Sd → Prop} {r r' : Int32} (h1 : PfS m m') (h2 : P m') (h3 : r' = r) : QH c m P r (c, m') (some (vI r')) := ⟨m', rfl, h1, h2, by rw [h3]⟩
theorem m_here (hL : L ≤ 120) (hb : ∀ i, tx i < 256) (hM : Mx tx L m) (hA : At tx L i m) : Ctr 0 101 [vR true 0 0] (c, m) (QH c m (fun m' => m'.1 0 0 16 = nI i ∧ ∀ f, f ≠ 16 → m'.1 0 0 f = m.1 0 0 f) (hr tx L i)) := by
  obtain ⟨a, ha, hs, hal⟩ := hA
  have key : ∀ (j a : Nat) (m' : Sd), a + j = L → m'.1 0 0 16 = nI a → sk tx L a = i → PfS m m' → (∀ f, f ≠ 16 → m'.1 0 0 f = m.1 0 0 f) → Go 0 101 none 0 [some (vR true 0 0)] [] (c, m') (QH c m (fun m' => m'.1 0 0 16 = nI i ∧ ∀ f, f ≠ 16 → m'.1 0 0 f = m.1 0 0 f) (hr tx L i)) := by
    intro j
    induction j with
    | zero =>
      intro a m' hj ha hs hP hf
      have hM' := Mx_pf hP hM
      have hi : i = L := by
        rw [← hs]
        exact Nat.le_antisymm (sk_le (by omega)) (by have := sk_ge (tx := tx) (L := L) a; omega)
      refine go_ev 100 [0] (bT (c := m'.1 0 0 15 ≤ m'.1 0 0 16) (by rw [hM'.1, ha, nIle (by omega) (by omega)]; omega) (bT (c := m'.1 0 0 15 ≤ m'.1 0 0 16) (by rw [hM'.1, ha, nIle (by omega) (by omega)]; omega) (qhi hP ⟨by rw [ha, show a = i by omega], hf⟩ ?_)))
      unfold hr
      rw [if_neg (by omega)]
    | succ j ih =>
      intro a m' hj ha hs hP hf
      have hM' := Mx_pf hP hM
      have hac : (m'.1 0 0 16).toNatClampNeg = a := pk_cl a ha
      have hai : vp_in (m'.1 0 0 16) 120 := pk_in a 120 (by omega) ha
      have hby : m'.2.1 14 0 (m'.1 0 0 16).toNatClampNeg = nI (tx a) := by rw [hac]; exact hM'.2 a (by omega)
      have hba := hb a
      refine go_ev 100 [0] (bF (c := m'.1 0 0 15 ≤ m'.1 0 0 16) (by rw [hM'.1, ha, nIle (by omega) (by omega)]; omega) (dI hai (bI (c := m'.2.1 14 0 (m'.1 0 0 16).toNatClampNeg = 32) (fun h => ?_) (fun h => ?_))))
      · rw [hby] at h
        have h : tx a = 32 := (nIeq (b := 32) (by omega) (by decide)).mp h
        refine ih (a + 1) (mf m' 16 (m'.1 0 0 16 + 1)) (by omega) ?_ ?_ (PfS_f (by decide) _ hP) (fun f hf16 => (mf_n m' _ hf16).trans (hf f hf16))
        · rw [mf_s, ha, nI_succ]
        · rw [← hs]
          exact (run_go (tx := tx) (P := blB) (show a < L by omega) (by unfold blB; rw [h]; rfl)).symm
      · rw [hby] at h
        have h : ¬ tx a = 32 := fun z => h (by rw [z]; rfl)
        have hia : i = a := by
          rw [← hs]
          exact run_stop (fun z => h (by
            have := z.2
            unfold blB at this
            rw [decide_eq_true_eq] at this
            exact this))
        refine bF (c := m'.1 0 0 15 ≤ m'.1 0 0 16) (by rw [hM'.1, ha, nIle (by omega) (by omega)]; omega) (dI hai (qhi hP ⟨by rw [ha, hia], hf⟩ ?_))
        unfold hr
        rw [hia, if_pos (by omega)]
        exact hby
  exact ctr_of (nblt rfl) (Nat.le_of_ble_eq_true rfl) (key (L - a) a m (by omega) ha hs (PfS_rfl m) (fun _ _ => rfl))
/-- what stands after a word was looked at: the place behind it, its beginning, its length -/
def Wo (tx : Nat → Nat) (L i : Nat) (m m' : Sd) : Prop := m'.1 0 0 17 = nI i ∧ m'.1 0 0 18 = nI (wd tx L i - i) ∧ m'.1 0 0 19 = m.1 0 0 19 ∧ m'.1 0 0 20 = m.1 0 0 20
def QV (c m : Sd) (P : Sd → Prop) : Wd → Option PV → Prop := fun w' r' => ∃ m', w' = (c, m') ∧ PfS m m' ∧ P m' ∧ r' = none
theorem qvi {m' : Sd} {P : Sd → Prop} (h1 : PfS m m') (h2 : P m') : QV c m P (c, m') none := ⟨m', rfl, h1, h2, rfl⟩
theorem m_takeWord (hL : L ≤ 120) (hb : ∀ i, tx i < 256) (hM : Mx tx L m) (hA : At tx L i m) : Ctr 1 103 [vR true 0 0] (c, m) (QV c m (fun m' => m'.1 0 0 16 = nI (wd tx L i) ∧ Wo tx L i m m')) := by
  have hil := (At_le hA).1
  have key : ∀ (j a : Nat) (x1 : Int32) (m' : Sd), a + j = L → i ≤ a → m'.1 0 0 16 = nI a → wd tx L a = wd tx L i → PfS m m' → m'.1 0 0 17 = nI i → m'.1 0 0 19 = m.1 0 0 19 → m'.1 0 0 20 = m.1 0 0 20 → Go 1 103 none 13 [some (vR true 0 0), some (vI x1)] [] (c, m') (QV c m (fun m' => m'.1 0 0 16 = nI (wd tx L i) ∧ Wo tx L i m m')) := by
    intro j
    induction j with
    | zero =>
      intro a x1 m' hj hia ha hw hP h17 h19 h20
      have hM' := Mx_pf hP hM
      have hwa : wd tx L i = a := by
        rw [← hw]
        exact Nat.le_antisymm (Nat.le_trans (run_le (by omega)) (by omega)) (run_ge a)
      refine go_ev 100 [13] (bT (c := m'.1 0 0 15 ≤ m'.1 0 0 16) (by rw [hM'.1, ha, nIle (by omega) (by omega)]; omega) (qvi (m' := mf m' 18 (m'.1 0 0 16 - m'.1 0 0 17)) (PfS_f (by decide) _ hP) ⟨?_, ?_, ?_, ?_, ?_⟩))
      · rw [mf_n _ _ (by decide), ha, hwa]
      · rw [mf_n _ _ (by decide)]; exact h17
      · rw [mf_s, ha, h17, pk_sub hia, hwa]
      · rw [mf_n _ _ (by decide)]; exact h19
      · rw [mf_n _ _ (by decide)]; exact h20
    | succ j ih =>
      intro a x1 m' hj hia ha hw hP h17 h19 h20
      have hM' := Mx_pf hP hM
      have hac : (m'.1 0 0 16).toNatClampNeg = a := pk_cl a ha
      have hai : vp_in (m'.1 0 0 16) 120 := pk_in a 120 (by omega) ha
      have hby : m'.2.1 14 0 (m'.1 0 0 16).toNatClampNeg = nI (tx a) := by rw [hac]; exact hM'.2 a (by omega)
      have hba := hb a
      have hin : Fn 0 92 [vL (m'.2.1 14 0 (m'.1 0 0 16).toNatClampNeg).toInt64, vL (97 : Int32).toInt64, vL (122 : Int32).toInt64] (c, m') (c, m') (some (vI (bi (ltB (tx a) = true)))) := by
        have := m_in (c, m') (nI (tx a)) 97 122
        rw [← hby] at this
        have e : bi ((97 : Int32) ≤ m'.2.1 14 0 (m'.1 0 0 16).toNatClampNeg ∧ m'.2.1 14 0 (m'.1 0 0 16).toNatClampNeg ≤ 122) = bi (ltB (tx a) = true) := by
          rw [hby]
          have h1 : (97 : Int32) ≤ nI (tx a) ↔ 97 ≤ tx a := nIle (a := 97) (by decide) (by omega)
          have h2 : nI (tx a) ≤ 122 ↔ tx a ≤ 122 := nIle (b := 122) (by omega) (by decide)
          by_cases h : ltB (tx a) = true
          · rw [bi_t h, bi_t]
            rw [h1, h2]
            exact decide_eq_true_iff.mp h
          · rw [bi_f h, bi_f]
            rw [h1, h2]
            exact fun z => h (decide_eq_true z)
        rw [e] at this
        exact this
      refine go_ev 100 [13] (bF (c := m'.1 0 0 15 ≤ m'.1 0 0 16) (by rw [hM'.1, ha, nIle (by omega) (by omega)]; omega) (dI hai (iF hin (by decide) (bI (fun h => ?_) (fun h => ?_)))))
      · rw [bb0] at h
        have hwa : wd tx L i = a := by
          rw [← hw]
          exact run_stop (fun z => by rw [h] at z; cases z.2)
        refine qvi (m' := mf m' 18 (m'.1 0 0 16 - m'.1 0 0 17)) (PfS_f (by decide) _ hP) ⟨?_, ?_, ?_, ?_, ?_⟩
        · rw [mf_n _ _ (by decide), ha, hwa]
        · rw [mf_n _ _ (by decide)]; exact h17
        · rw [mf_s, ha, h17, pk_sub hia, hwa]
        · rw [mf_n _ _ (by decide)]; exact h19
        · rw [mf_n _ _ (by decide)]; exact h20
      · rw [bb0, Bool.not_eq_false] at h
        refine ih (a + 1) _ (mf m' 16 (m'.1 0 0 16 + 1)) (by omega) (by omega) ?_ ?_ (PfS_f (by decide) _ hP) ((mf_n _ _ (by decide)).trans h17) ((mf_n _ _ (by decide)).trans h19) ((mf_n _ _ (by decide)).trans h20)
        · rw [mf_s, ha, nI_succ]
        · rw [← hw]
          exact (run_go (tx := tx) (P := ltB) (show a < L by omega) h).symm
  refine ctr_ev 100 [13] rfl rfl (iC (m_here hL hb hM hA) (by decide) ?_)
  rintro _ _ ⟨m', rfl, hP, ⟨h16, hf⟩, rfl⟩
  refine key (L - i) i _ (mf m' 17 (m'.1 0 0 16)) (by omega) (Nat.le_refl _) ((mf_n _ _ (by decide)).trans h16) rfl (PfS_f (by decide) _ hP) ((mf_s _ _ _).trans h16) ((mf_n _ _ (by decide)).trans (hf 19 (by decide))) ((mf_n _ _ (by decide)).trans (hf 20 (by decide)))
theorem m_isWord (hL : L ≤ 120) (hb : ∀ i, tx i < 256) (hM : Mx tx L m) (hil : i ≤ L) (h17 : m.1 0 0 17 = nI i) (h18 : m.1 0 0 18 = nI (wd tx L i - i)) {q : Nat} (hq : q < 17) : Fn 0 104 [vR true 0 0, vI (nI (wB q).length), vI (nI ((wB q).getD 0 0)), vI (nI ((wB q).getD 1 0)), vI (nI ((wB q).getD 2 0)), vI (nI ((wB q).getD 3 0)), vI (nI ((wB q).getD 4 0))] (c, m) (c, m) (some (vI (bi (isW tx L q i = true)))) := by
  obtain ⟨-, hs2, hs3⟩ := wB_len q hq
  have hwl : wd tx L i ≤ L := run_le hil
  have hwg : i ≤ wd tx L i := run_ge _
  have key : wd tx L i = i + (wB q).length → ∀ (j kk : Nat) (x f : Int32), kk + j = (wB q).length → x = nI kk → f = 1 → isW tx L q i = chW tx i ((wB q).drop kk) kk → Go 0 104 none 18 [some (vR true 0 0), some (vI (nI (wB q).length)), some (vI (nI ((wB q).getD 0 0))), some (vI (nI ((wB q).getD 1 0))), some (vI (nI ((wB q).getD 2 0))), some (vI (nI ((wB q).getD 3 0))), some (vI (nI ((wB q).getD 4 0))), some (vI f), some (vI x)] [] (c, m) (fun w' r' => w' = (c, m) ∧ r' = some (vI (bi (isW tx L q i = true)))) := by
    intro hwd j
    induction j with
    | zero =>
      intro kk x f hj hx hf hv
      subst hf
      refine go_ev 100 [18] (bT (c := nI (wB q).length ≤ x) (by rw [hx, nIle (by omega) (by omega)]; omega) (And.intro rfl (And.intro rfl ?_)))
      rw [hv, List.drop_eq_nil_of_le (by omega)]
      rfl
    | succ j ih =>
      intro kk x f hj hx hf hv
      subst hx hf
      have g2 := (wB_ch q hq kk (by omega) (by omega)).2
      have hst : m.1 0 0 17 + nI kk = nI (i + kk) := by rw [h17, nIadd]
      have hcl := pk_cl (i + kk) hst
      have hby : m.2.1 14 0 (m.1 0 0 17 + nI kk).toNatClampNeg = nI (tx (i + kk)) := by rw [hcl]; exact hM.2 _ (by omega)
      have hin : vp_in (m.1 0 0 17 + nI kk) 120 := pk_in (i + kk) 120 (by omega) hst
      have hbb := hb (i + kk)
      rw [chW_drop (by omega)] at hv
      have h84 : ∀ (v : Int32), v = nI ((wB q).getD kk 0) → Go 0 104 none 84 [some (vR true 0 0), some (vI (nI (wB q).length)), some (vI (nI ((wB q).getD 0 0))), some (vI (nI ((wB q).getD 1 0))), some (vI (nI ((wB q).getD 2 0))), some (vI (nI ((wB q).getD 3 0))), some (vI (nI ((wB q).getD 4 0))), some (vI 1), some (vI (nI kk))] [vI v, vI (m.2.1 14 0 (m.1 0 0 17 + nI kk).toNatClampNeg)] (c, m) (fun w' r' => w' = (c, m) ∧ r' = some (vI (bi (isW tx L q i = true)))) := by
        intro v hv2
        subst hv2
        refine go_ev 100 [18] (bI (c := m.2.1 14 0 (m.1 0 0 17 + nI kk).toNatClampNeg = nI ((wB q).getD kk 0)) (fun h => ?_) (fun h => ?_))
        · rw [hby, nIeq (by omega) (by omega)] at h
          refine ih (kk + 1) _ _ (by omega) (nI_succ kk).symm rfl ?_
          rw [hv, decide_eq_true h]
          rfl
        · rw [hby, nIeq (by omega) (by omega)] at h
          have hfin : zok 0 ∧ (((c, m) : Wd) = (c, m) ∧ (some (vI 0) : Option PV) = some (vI (bi (isW tx L q i = true)))) := ⟨rfl, rfl, by
            rw [bi_f]
            rw [hv, decide_eq_false h]
            exact Bool.false_ne_true⟩
          exact go_ev 100 [] (bI (c := nI (wB q).length ≤ nI kk + 1) (fun _ => hfin) (fun _ => bT (c := (0 : Int32) = 0) rfl hfin))
      refine go_ev 100 [18, 84] (bF (c := nI (wB q).length ≤ nI kk) (by rw [nIle (by omega) (by omega)]; omega) (bF (c := (1 : Int32) = 0) (by decide) (dI hin ?_)))
      refine bI (c := nI kk = 0) (fun h => ?_) (fun h => bI (c := nI kk = 1) (fun h1 => ?_) (fun h1 => bI (c := nI kk = 2) (fun h2 => ?_) (fun h2 => bI (c := nI kk = 3) (fun h3 => ?_) (fun h3 => ?_))))
      · have : kk = 0 := (nIeq (b := 0) (by omega) (by decide)).mp h
        exact h84 _ (by rw [this])
      · have : kk = 1 := (nIeq (b := 1) (by omega) (by decide)).mp h1
        exact h84 _ (by rw [this])
      · have : kk = 2 := (nIeq (b := 2) (by omega) (by decide)).mp h2
        exact h84 _ (by rw [this])
      · have : kk = 3 := (nIeq (b := 3) (by omega) (by decide)).mp h3
        exact h84 _ (by rw [this])
      · have : kk = 4 := by
          have n0 : ¬ kk = 0 := fun z => h (by rw [z]; rfl)
          have n1 : ¬ kk = 1 := fun z => h1 (by rw [z]; rfl)
          have n2 : ¬ kk = 2 := fun z => h2 (by rw [z]; rfl)
          have n3 : ¬ kk = 3 := fun z => h3 (by rw [z]; rfl)
          omega
        exact h84 _ (by rw [this])
  refine ctr_ev 100 [18] rfl rfl (bI (c := m.1 0 0 18 = nI (wB q).length) (fun h => ?_) (fun h => ?_))
  · rw [h18, nIeq (by omega) (by omega)] at h
    have hwd : wd tx L i = i + (wB q).length := by omega
    refine key hwd (wB q).length 0 0 1 (by omega) rfl rfl ?_
    unfold isW
    rw [decide_eq_true hwd]
    rfl
  · rw [h18, nIeq (by omega) (by omega)] at h
    have hfin : zok 0 ∧ (((c, m) : Wd) = (c, m) ∧ (some (vI 0) : Option PV) = some (vI (bi (isW tx L q i = true)))) := ⟨rfl, rfl, by
      rw [bi_f]
      intro z
      have := (isW_lt hq z).2.2.1
      omega⟩
    exact go_ev 100 [] (bI (c := nI (wB q).length ≤ 0) (fun _ => hfin) (fun _ => bT (c := (0 : Int32) = 0) rfl hfin))
theorem m_takesX {q1 q2 q3 q4 q5 q6 : Int32} {f : Nat} (hf : 0 < f ∧ f < 100) (h19 : m.1 0 0 19 = nI f) : Fn 2 105 [vR true 0 0, vI q1, vI q2, vI q3, vI q4, vI q5, vI q6] (c, m) (c, m) (some (vI 0)) :=
  ctr_ev 100 [] rfl rfl (bF (c := m.1 0 0 19 ≤ 0) (by rw [h19, show (0 : Int32) = nI 0 from rfl, nIle (by omega) (by decide)]; omega) (And.intro rfl (And.intro rfl rfl)))
theorem m_takes (hL : L ≤ 120) (hb : ∀ i, tx i < 256) (hM : Mx tx L m) (hA : At tx L i m) (h19 : m.1 0 0 19 = 0) {q : Nat} (hq : q < 17) : Ctr 2 105 [vR true 0 0, vI (nI (wB q).length), vI (nI ((wB q).getD 0 0)), vI (nI ((wB q).getD 1 0)), vI (nI ((wB q).getD 2 0)), vI (nI ((wB q).getD 3 0)), vI (nI ((wB q).getD 4 0))] (c, m) (QH c m (fun m' => m'.1 0 0 16 = nI (if isW tx L q i = true then wd tx L i else i) ∧ Wo tx L i m m') (bi (isW tx L q i = true))) := by
  obtain ⟨hil, hsi⟩ := At_le hA
  refine ctr_ev 100 [] rfl rfl (bT (c := m.1 0 0 19 ≤ 0) (by rw [h19]; decide) (iC (m_takeWord hL hb hM hA) (by decide) ?_))
  rintro _ _ ⟨m1, rfl, hP, ⟨h16, w17, w18, w19, w20⟩, rfl⟩
  refine iF (m_isWord hL hb (Mx_pf hP hM) hil w17 w18 hq) (by decide) (bI (fun h => ?_) (fun h => ?_))
  · refine And.intro zok_bi (qhi (m' := mf m1 16 (m1.1 0 0 17)) (PfS_f (by decide) _ hP) ⟨?_, ?_, ?_, ?_, ?_⟩ rfl)
    · rw [bb0] at h
      rw [mf_s, w17, if_neg (by rw [h]; exact Bool.false_ne_true)]
    · rw [mf_n _ _ (by decide)]; exact w17
    · rw [mf_n _ _ (by decide)]; exact w18
    · rw [mf_n _ _ (by decide)]; exact w19
    · rw [mf_n _ _ (by decide)]; exact w20
  · refine And.intro zok_bi (qhi (m' := mf m1 16 (m1.1 0 0 16)) (PfS_f (by decide) _ hP) ⟨?_, ?_, ?_, ?_, ?_⟩ rfl)
    · rw [bb0, Bool.not_eq_false] at h
      rw [mf_s, h16, if_pos h]
    · rw [mf_n _ _ (by decide)]; exact w17
    · rw [mf_n _ _ (by decide)]; exact w18
    · rw [mf_n _ _ (by decide)]; exact w19
    · rw [mf_n _ _ (by decide)]; exact w20
/-- after a word was taken, or not -/
theorem At_takes {m' : Sd} {q : Nat} (hq : q < 17) (hA : At tx L i m) (h : m'.1 0 0 16 = nI (if isW tx L q i = true then wd tx L i else i)) : At tx L (if isW tx L q i = true then nx tx L i else i) m' := by
  obtain ⟨hil, hsi⟩ := At_le hA
  by_cases hw : isW tx L q i = true
  · rw [if_pos hw] at h ⊢
    exact ⟨_, h, rfl, run_le hil⟩
  · rw [if_neg hw] at h ⊢
    exact At_i h hsi hil
theorem m_wantT (f pl : Int32) (h19 : m.1 0 0 19 = 0) : Fn 0 102 [vR true 0 0, vI 1, vI f, vI pl] (c, m) (c, m) (some (vI 1)) :=
  ctr_ev 100 [] rfl rfl (bF (c := (1 : Int32) = 0) (by decide) (bT (c := m.1 0 0 19 = 0) h19 (And.intro rfl (And.intro rfl rfl))))
theorem m_wantX (b f pl : Int32) {x : Nat} (hx : 0 < x ∧ x < 100) (h19 : m.1 0 0 19 = nI x) : Fn 0 102 [vR true 0 0, vI b, vI f, vI pl] (c, m) (c, m) (some (vI 0)) := by
  have hne : ¬ m.1 0 0 19 = 0 := by rw [h19]; exact fun z => absurd ((nIeq (b := 0) (by omega) (by decide)).mp z) (by omega)
  exact ctr_ev 100 [] rfl rfl (bI (c := b = 0) (fun _ => bF (c := m.1 0 0 19 = 0) hne (bF (c := m.1 0 0 19 = 0) hne (And.intro rfl (And.intro rfl rfl)))) (fun _ => bF (c := m.1 0 0 19 = 0) hne (And.intro rfl (And.intro rfl rfl))))
theorem m_wantF {f : Nat} (hf : 0 < f ∧ f < 100) (pl : Int32) (h19 : m.1 0 0 19 = 0) : Fn 0 102 [vR true 0 0, vI 0, vI (nI f), vI pl] (c, m) (c, mf (mf m 19 (nI f)) 20 pl) (some (vI 0)) := by
  have hne : ¬ (mf (mf m 19 (nI f)) 20 pl).1 0 0 19 = 0 := by
    rw [mf_n _ _ (by decide), mf_s]
    exact fun z => absurd ((nIeq (b := 0) (by omega) (by decide)).mp z) (by omega)
  exact ctr_ev 100 [] rfl rfl (bT (c := (0 : Int32) = 0) rfl (bT (c := m.1 0 0 19 = 0) h19 (bF (c := (mf (mf m 19 (nI f)) 20 pl).1 0 0 19 = 0) hne (And.intro rfl (And.intro rfl rfl)))))
end MRD

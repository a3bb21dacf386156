/-! the class: reading words, signs, numbers -/
def RfS (c c' : Sd) : Prop := (∀ k i f, ¬ (k = 3 ∧ i = 0 ∧ 5 ≤ f) → c'.1 k i f = c.1 k i f) ∧ c'.2 = c.2
theorem RfS_rfl (c : Sd) : RfS c c := ⟨fun _ _ _ _ => rfl, rfl⟩
theorem RfS_tr {a b c : Sd} (h : RfS a b) (h2 : RfS b c) : RfS a c := ⟨fun k i f h1 => (h2.1 k i f h1).trans (h.1 k i f h1), h2.2.trans h.2⟩
theorem RfS_f {c c' : Sd} {f : Nat} (hf : 5 ≤ f) (x : Int32) (h : RfS c c') : RfS c (up3 c'.1 3 0 f x, c'.2.1, c'.2.2) := ⟨fun k i g h1 => (up3_n c'.1 x (fun z => h1 ⟨z.1, z.2.1, by omega⟩)).trans (h.1 k i g h1), h.2⟩
def RB (tx : Nat → Nat) (L t : Nat) (c : Sd) : Prop := Tx tx L c ∧ Tk tx L c ∧ c.2.2 3 0 = t
theorem RB_rf {tx : Nat → Nat} {L t : Nat} {c c' : Sd} (h : RfS c c') (hB : RB tx L t c) : RB tx L t c' := by
  obtain ⟨⟨h1, h2⟩, h3, h4⟩ := hB
  unfold RB Tx Tk
  rw [h.2, h.1 1 0 1 (by decide)]
  exact ⟨⟨h1, h2⟩, h3, h4⟩
theorem Dr_rf {t : Nat} {c c' : Sd} {T : Trm} (h : RfS c c') (hD : Dr c t T) : Dr c' t T := by
  unfold Dr DR CT CSl cRul cStp at hD ⊢
  rw [h.2]
  have e : ∀ g, c'.1 11 t g = c.1 11 t g := fun g => h.1 11 t g (fun z => absurd z.1 (by decide))
  rw [e 3, e 8, e 10]
  exact hD
/-- at token k -/
def Ar (tx : Nat → Nat) (L k : Nat) (c : Sd) : Prop := c.1 3 0 5 = nI k ∧ vld tx L k
def nw (c : Sd) (k : Nat) : Sd := (up3 c.1 3 0 5 (nI (k + 1)), c.2.1, c.2.2)
theorem nw_rf (c : Sd) (k : Nat) : RfS c (nw c k) := RfS_f (by decide) _ (RfS_rfl c)
theorem nw_ar {tx : Nat → Nat} {L k : Nat} {c : Sd} (h : vld tx L k) (hl : pos tx L k < L) : Ar tx L (k + 1) (nw c k) := ⟨up3_s c.1 3 0 5 _, vld_succ h hl⟩
theorem nw_o (c : Sd) (k : Nat) {f : Nat} (hf : f ≠ 5) : (nw c k).1 3 0 f = c.1 3 0 f := up3_n (k := 3) (i := 0) (f := 5) (k' := 3) (i' := 0) (f' := f) c.1 (nI (k + 1)) (fun z => hf z.2.2)
section RDP
variable {tx : Nat → Nat} {L t k : Nat} {c m : Sd}
theorem tk_at (hL : L ≤ 120) (hB : RB tx L t c) (hA : Ar tx L k c) : vp_in (c.1 3 0 5) 121 ∧ c.2.1 4 0 (c.1 3 0 5).toNatClampNeg = nI (knd tx L (pos tx L k)) ∧ c.2.1 5 0 (c.1 3 0 5).toNatClampNeg = nI (pos tx L k) ∧ c.2.1 6 0 (c.1 3 0 5).toNatClampNeg = nI (tnd tx L (pos tx L k)) := by
  have hk := vld_le hA.2
  rw [pk_cl k hA.1]
  exact ⟨pk_in k 121 (by omega) hA.1, hB.2.1 k hA.2⟩
def fl (c : Sd) (x : Int32) (i : Nat) : Sd := (up3 (up3 c.1 3 0 12 x) 3 0 13 (nI i), c.2.1, c.2.2)
theorem c_fails (hL : L ≤ 120) (hB : RB tx L t c) (hA : Ar tx L k c) (x : Int32) : Fn 0 30 [vR false 3 0, vI x] (c, m) (fl c x (pos tx L k), m) (some (vI 0)) := by
  obtain ⟨h1, h2, h3, h4⟩ := tk_at hL hB hA
  refine ctr_ev 100 [] rfl rfl (dI (show vp_in (c.1 3 0 5) 121 from h1) (And.intro rfl (And.intro ?_ rfl)))
  show ((up3 (up3 c.1 3 0 12 x) 3 0 13 (c.2.1 5 0 (c.1 3 0 5).toNatClampNeg), c.2.1, c.2.2), m) = _
  rw [h3]
  rfl
theorem fl_rf (c : Sd) (x : Int32) (i : Nat) : RfS c (fl c x i) := RfS_f (c' := (up3 c.1 3 0 12 x, c.2.1, c.2.2)) (f := 13) (by decide) _ (RfS_f (by decide) _ (RfS_rfl c))
theorem fl_at (c : Sd) (x : Int32) (i : Nat) : (fl c x i).1 3 0 12 = x ∧ (fl c x i).1 3 0 13 = nI i := ⟨rfl, rfl⟩
theorem knd_lt (i : Nat) : knd tx L i < 5 := by
  unfold knd
  split
  · have := knO_lt (tx i)
    omega
  · omega
theorem c_isSign (hL : L ≤ 120) (hb : ∀ i, tx i < 256) (hB : RB tx L t c) (hA : Ar tx L k c) {b : Nat} (hbk : knO b = 3) (hb2 : b < 256) : Fn 0 29 [vR false 3 0, vI (nI b)] (c, m) (c, m) (some (vI (bi (isS tx L b (pos tx L k) = true)))) := by
  obtain ⟨h1, h2, h3, h4⟩ := tk_at hL hB hA
  have hkl := knd_lt (tx := tx) (L := L) (pos tx L k)
  refine ctr_ev 100 [] rfl rfl (dI h1 (bI (c := c.2.1 4 0 (c.1 3 0 5).toNatClampNeg = 3) (fun h => ?_) (fun h => ?_)))
  · rw [h2] at h
    have h : knd tx L (pos tx L k) = 3 := (nIeq (b := 3) (by omega) (by decide)).mp h
    have hpl : pos tx L k < L := by
      apply Classical.byContradiction
      intro z
      unfold knd at h
      rw [if_neg z] at h
      omega
    have hcl : (c.2.1 5 0 (c.1 3 0 5).toNatClampNeg).toNatClampNeg = pos tx L k := pk_cl _ h3
    have hby : c.2.1 2 0 (c.2.1 5 0 (c.1 3 0 5).toNatClampNeg).toNatClampNeg = nI (tx (pos tx L k)) := by rw [hcl]; exact hB.1.2 _ hpl
    have hbb := hb (pos tx L k)
    refine dI h1 (dI (pk_in (pos tx L k) 120 (by omega) h3) (bI (c := c.2.1 2 0 (c.2.1 5 0 (c.1 3 0 5).toNatClampNeg).toNatClampNeg = nI b) (fun h5 => ?_) (fun h5 => ?_)))
    · rw [hby, nIeq (by omega) (by omega)] at h5
      refine And.intro rfl (And.intro rfl ?_)
      rw [bi_t]
      unfold isS
      rw [h5]
      simp [hpl]
    · rw [hby, nIeq (by omega) (by omega)] at h5
      refine And.intro rfl (And.intro rfl ?_)
      rw [bi_f]
      unfold isS
      simp [h5]
  · rw [h2] at h
    have h : ¬ knd tx L (pos tx L k) = 3 := fun z => h (by rw [z]; rfl)
    refine And.intro rfl (And.intro rfl ?_)
    rw [bi_f]
    unfold isS
    rw [Bool.and_eq_true, decide_eq_true_eq, decide_eq_true_eq]
    rintro ⟨z1, z2⟩
    apply h
    unfold knd
    rw [if_pos z1, z2, hbk]
theorem chW_drop {i q kk : Nat} (h : kk < (wB q).length) : chW tx i ((wB q).drop kk) kk = (decide (tx (i + kk) = (wB q).getD kk 0) && chW tx i ((wB q).drop (kk + 1)) (kk + 1)) := by
  have e : (wB q).getD kk 0 = (wB q)[kk] := by
    rw [List.getD_eq_getElem?_getD, List.getElem?_eq_getElem h]
    rfl
  rw [List.drop_eq_getElem_cons h, e]
  rfl
theorem c_isWord (hL : L ≤ 120) (hb : ∀ i, tx i < 256) (hB : RB tx L t c) (hA : Ar tx L k c) {q : Nat} (hq : q < 17) : Fn 7 28 [vR false 3 0, vS q] (c, m) (c, m) (some (vI (bi (isW tx L q (pos tx L k) = true)))) := by
  obtain ⟨h1, h2, h3, h4⟩ := tk_at hL hB hA
  have hkl := knd_lt (tx := tx) (L := L) (pos tx L k)
  obtain ⟨hs1, hs2, hs3⟩ := wB_len q hq
  have hno : ¬ isW tx L q (pos tx L k) = true → (zok 0 ∧ (((c, m) : Wd) = (c, m) ∧ (some (vI 0) : Option PV) = some (vI (bi (isW tx L q (pos tx L k) = true))))) := fun z => ⟨rfl, rfl, by rw [bi_f z]⟩
  refine ctr_ev 100 [43] rfl rfl (dI h1 (bI (c := c.2.1 4 0 (c.1 3 0 5).toNatClampNeg = 1) (fun h => ?_) (fun h => ?_)))
  · rw [h2] at h
    have h : knd tx L (pos tx L k) = 1 := (nIeq (b := 1) (by omega) (by decide)).mp h
    have hpl : pos tx L k < L := by
      apply Classical.byContradiction
      intro z
      unfold knd at h
      rw [if_neg z] at h
      omega
    have hk1 : knO (tx (pos tx L k)) = 1 := by
      unfold knd at h
      rw [if_pos hpl] at h
      exact h
    have ht : tnd tx L (pos tx L k) = wd tx L (pos tx L k) := by
      unfold tnd
      rw [if_pos hpl, if_pos hk1]
    have hwl : wd tx L (pos tx L k) ≤ L := run_le (by omega)
    have hwg : pos tx L k ≤ wd tx L (pos tx L k) := run_ge _
    refine dI h1 (dI h1 (And.intro hq (And.intro ⟨by decide, Nat.le_of_ble_eq_true rfl⟩ ?_)))
    have hsub : c.2.1 6 0 (c.1 3 0 5).toNatClampNeg - c.2.1 5 0 (c.1 3 0 5).toNatClampNeg = nI (wd tx L (pos tx L k) - pos tx L k) := by
      rw [h3, h4, ht, pk_sub hwg]
    refine bI (c := c.2.1 6 0 (c.1 3 0 5).toNatClampNeg - c.2.1 5 0 (c.1 3 0 5).toNatClampNeg = nI (sLen q)) (fun h5 => ?_) (fun h5 => ?_)
    · rw [hsub, hs1, nIeq (by omega) (by omega)] at h5
      have hwd : wd tx L (pos tx L k) = pos tx L k + (wB q).length := by omega
      have hv : isW tx L q (pos tx L k) = chW tx (pos tx L k) (wB q) 0 := by
        unfold isW
        rw [decide_eq_true hwd]
        rfl
      have key : ∀ (j kk : Nat) (x : Int32), kk + j = (wB q).length → x = nI kk → isW tx L q (pos tx L k) = chW tx (pos tx L k) ((wB q).drop kk) kk → Go 7 28 none 43 [some (vR false 3 0), some (vS q), some (vI x)] [] (c, m) (fun w' r' => w' = (c, m) ∧ r' = some (vI (bi (isW tx L q (pos tx L k) = true)))) := by
        intro j
        induction j with
        | zero =>
          intro kk x hj hx hv
          refine go_ev 100 [43] (And.intro hq (And.intro ⟨by decide, Nat.le_of_ble_eq_true rfl⟩ (bT (c := nI (sLen q) ≤ x) (by rw [hx, hs1, nIle (by omega) (by omega)]; omega) (And.intro rfl (And.intro rfl ?_)))))
          rw [hv, List.drop_eq_nil_of_le (by omega)]
          rfl
        | succ j ih =>
          intro kk x hj hx hv
          subst hx
          obtain ⟨g1, g2⟩ := wB_ch q hq kk (by omega) (by omega)
          have hst : c.2.1 5 0 (c.1 3 0 5).toNatClampNeg + nI kk = nI (pos tx L k + kk) := by rw [h3, nIadd]
          have hcl := pk_cl (pos tx L k + kk) hst
          have hby : c.2.1 2 0 (c.2.1 5 0 (c.1 3 0 5).toNatClampNeg + nI kk).toNatClampNeg = nI (tx (pos tx L k + kk)) := by rw [hcl]; exact hB.1.2 _ (by omega)
          have hch : sCh q (nI kk).toNatClampNeg = nI ((wB q).getD kk 0) := by rw [pk_cl kk]; exact g1
          have hbb := hb (pos tx L k + kk)
          rw [chW_drop (by omega)] at hv
          refine go_ev 100 [43] (And.intro hq (And.intro ⟨by decide, Nat.le_of_ble_eq_true rfl⟩ (bF (c := nI (sLen q) ≤ nI kk) (by rw [hs1, nIle (by omega) (by omega)]; omega) ?_)))
          refine dI h1 (dI (pk_in (pos tx L k + kk) 120 (by omega) hst) (And.intro hq (And.intro ⟨by decide, Nat.le_of_ble_eq_true rfl⟩ (dI (pk_in kk (sLen q) (by omega) rfl (by omega)) ?_))))
          refine bI (c := c.2.1 2 0 (c.2.1 5 0 (c.1 3 0 5).toNatClampNeg + nI kk).toNatClampNeg = sCh q (nI kk).toNatClampNeg) (fun h6 => ?_) (fun h6 => ?_)
          · rw [hby, hch, nIeq (by omega) (by omega)] at h6
            refine ih (kk + 1) _ (by omega) (nI_succ kk).symm ?_
            rw [hv, decide_eq_true h6]
            rfl
          · rw [hby, hch, nIeq (by omega) (by omega)] at h6
            refine And.intro rfl (And.intro rfl ?_)
            rw [bi_f]
            rw [hv, decide_eq_false h6]
            exact Bool.false_ne_true
      exact key (wB q).length 0 0 (by omega) rfl hv
    · rw [hsub, hs1, nIeq (by omega) (by omega)] at h5
      refine hno (fun z => ?_)
      obtain ⟨-, -, z3, -⟩ := isW_lt hq z
      omega
  · rw [h2] at h
    have h : ¬ knd tx L (pos tx L k) = 1 := fun z => h (by rw [z]; rfl)
    refine hno (fun z => h ?_)
    obtain ⟨z1, z2, z3, -⟩ := isW_lt hq z
    unfold knd
    rw [if_pos z1, z2]
theorem c_takesT (hL : L ≤ 120) (hb : ∀ i, tx i < 256) (hB : RB tx L t c) (hA : Ar tx L k c) {q : Nat} (hq : q < 17) (h : isW tx L q (pos tx L k) = true) : Fn 8 27 [vR false 3 0, vS q] (c, m) (nw c k, m) (some (vI 1)) := by
  have hw := c_isWord (m := m) hL hb hB hA hq
  rw [bi_t h] at hw
  refine ctr_ev 100 [] rfl rfl (iF hw (by decide) (bF (c := (1 : Int32) = 0) (by decide) (And.intro rfl (And.intro ?_ rfl))))
  show ((up3 c.1 3 0 5 (c.1 3 0 5 + 1), c.2.1, c.2.2), m) = _
  rw [hA.1, ← nI_succ]
  rfl
theorem c_takesF (hL : L ≤ 120) (hb : ∀ i, tx i < 256) (hB : RB tx L t c) (hA : Ar tx L k c) {q : Nat} (hq : q < 17) (h : isW tx L q (pos tx L k) = false) : Fn 8 27 [vR false 3 0, vS q] (c, m) (c, m) (some (vI 0)) := by
  have hw := c_isWord (m := m) hL hb hB hA hq
  rw [bi_f (by rw [h]; exact Bool.false_ne_true)] at hw
  exact ctr_ev 100 [] rfl rfl (iF hw (by decide) (bT (c := (0 : Int32) = 0) rfl (And.intro rfl (And.intro rfl rfl))))
theorem pos_nx {q : Nat} (hq : q < 17) (h : isW tx L q (pos tx L k) = true) : pos tx L (k + 1) = nx tx L (pos tx L k) ∧ pos tx L k < L := by
  obtain ⟨h1, -, -, h4⟩ := isW_lt hq h
  refine ⟨?_, h1⟩
  show sk tx L (tnd tx L (pos tx L k)) = sk tx L (wd tx L (pos tx L k))
  rw [h4]
/-- what reading a number, or more, leaves: on a fault its number and place; else the parts -/
def FA (c : Sd) (f pl : Nat) (c' : Sd) : Prop := RfS c c' ∧ c'.1 3 0 12 = nI f ∧ c'.1 3 0 13 = nI pl
def QN (tx : Nat → Nat) (L k : Nat) (c m : Sd) (res : Rs (Nat × Nat)) : Wd → Option PV → Prop := fun w' r' => ∃ c', w' = (c', m) ∧ ((∃ f pl, res = .inl (f, pl) ∧ FA c f pl c' ∧ r' = some (vI 0)) ∨ (∃ v j, res = .inr (v, j) ∧ (RfS c c' ∧ Ar tx L (k + 1) c' ∧ j = pos tx L (k + 1) ∧ v < 100 ∧ c'.1 3 0 6 = nI v ∧ ∀ f, f ≠ 5 → f ≠ 6 → c'.1 3 0 f = c.1 3 0 f) ∧ r' = some (vI 1)))
theorem qnl {c' : Sd} {res : Rs (Nat × Nat)} {f pl : Nat} (h : res = .inl (f, pl)) (h2 : FA c f pl c') : QN tx L k c m res (c', m) (some (vI 0)) := ⟨c', rfl, Or.inl ⟨f, pl, h, h2, rfl⟩⟩
theorem qnr {c' : Sd} {res : Rs (Nat × Nat)} {v j : Nat} (h : res = .inr (v, j)) (h2 : RfS c c' ∧ Ar tx L (k + 1) c' ∧ j = pos tx L (k + 1) ∧ v < 100 ∧ c'.1 3 0 6 = nI v ∧ ∀ f, f ≠ 5 → f ≠ 6 → c'.1 3 0 f = c.1 3 0 f) : QN tx L k c m res (c', m) (some (vI 1)) := ⟨c', rfl, Or.inr ⟨v, j, h, h2, rfl⟩⟩
/-- the number's field, over and over -/
def nu (c : Sd) (x : Int32) : Sd := (up3 c.1 3 0 6 x, c.2.1, c.2.2)
theorem nu_nu (c : Sd) (x y : Int32) : nu (nu c x) y = nu c y := by
  unfold nu
  congr 1
  funext k i f
  show up3 (up3 c.1 3 0 6 x) 3 0 6 y k i f = up3 c.1 3 0 6 y k i f
  by_cases h : k = 3 ∧ i = 0 ∧ f = 6
  · obtain ⟨rfl, rfl, rfl⟩ := h
    rw [up3_s, up3_s]
  · rw [up3_n _ _ h, up3_n _ _ h, up3_n _ _ h]
theorem nu_rf (c : Sd) (x : Int32) : RfS c (nu c x) := RfS_f (by decide) _ (RfS_rfl c)
theorem dg2 {i : Nat} (h : dg tx L i ≤ i + 2) (hl : i < L) (hd : dgB (tx i) = true) : dg tx L i = i + 1 ∨ (dg tx L i = i + 2 ∧ i + 1 < L ∧ dgB (tx (i + 1)) = true) := by
  have h1 := run_pos (tx := tx) (P := dgB) hl hd
  have e : dg tx L i = run tx L dgB i := rfl
  rcases (show dg tx L i = i + 1 ∨ dg tx L i = i + 2 by omega) with h2 | h2
  · exact Or.inl h2
  · exact Or.inr ⟨h2, run_in (i := i) (j := i + 1) (by omega) (by omega)⟩
theorem dgB_iff {b : Nat} : dgB b = true ↔ 48 ≤ b ∧ b ≤ 57 := decide_eq_true_iff
theorem nuV_lt {i : Nat} (h : dg tx L i ≤ i + 2) (hl : i < L) (hd : dgB (tx i) = true) : nuV tx L i < 100 := by
  have h0 := dgB_iff.mp hd
  unfold nuV
  rcases dg2 h hl hd with h1 | ⟨h1, h2, h3⟩
  · rw [if_pos h1]
    omega
  · have h4 := dgB_iff.mp h3
    split
    · omega
    · omega
theorem c_readNumber (hL : L ≤ 120) (hb : ∀ i, tx i < 256) (hB : RB tx L t c) (hA : Ar tx L k c) {lo hi : Nat} (hlo : lo < 100) (hhi : hi < 100) : Ctr 1 26 [vR false 3 0, vI (nI lo), vI (nI hi)] (c, m) (QN tx L k c m (pNum tx L lo hi (pos tx L k))) := by
  obtain ⟨h1, h2, h3, h4⟩ := tk_at hL hB hA
  have hkl := knd_lt (tx := tx) (L := L) (pos tx L k)
  have hpl120 := pos_le (tx := tx) (L := L) k
  refine ctr_ev 100 [48] rfl rfl (dI h1 (bI (c := c.2.1 4 0 (c.1 3 0 5).toNatClampNeg = 2) (fun h => ?_) (fun h => ?_)))
  · rw [h2] at h
    have h : knd tx L (pos tx L k) = 2 := (nIeq (b := 2) (by omega) (by decide)).mp h
    have hpl : pos tx L k < L := by
      apply Classical.byContradiction
      intro z
      unfold knd at h
      rw [if_neg z] at h
      omega
    have hk2 : knO (tx (pos tx L k)) = 2 := by
      unfold knd at h
      rw [if_pos hpl] at h
      exact h
    have hd0 : dgB (tx (pos tx L k)) = true := knO_2.mp hk2
    have ht : tnd tx L (pos tx L k) = dg tx L (pos tx L k) := by
      unfold tnd
      rw [if_pos hpl, if_neg (by omega), if_pos hk2]
    have hdl : dg tx L (pos tx L k) ≤ L := run_le (by omega)
    have hdg : pos tx L k < dg tx L (pos tx L k) := run_pos (tx := tx) (P := dgB) hpl hd0
    have hsub : c.2.1 6 0 (c.1 3 0 5).toNatClampNeg - c.2.1 5 0 (c.1 3 0 5).toNatClampNeg = nI (dg tx L (pos tx L k) - pos tx L k) := by
      rw [h3, h4, ht, pk_sub (by omega)]
    have hnx : pos tx L (k + 1) = sk tx L (dg tx L (pos tx L k)) := by
      show sk tx L (tnd tx L (pos tx L k)) = _
      rw [ht]
    refine dI h1 (dI h1 (bI (c := c.2.1 6 0 (c.1 3 0 5).toNatClampNeg - c.2.1 5 0 (c.1 3 0 5).toNatClampNeg ≤ 2) (fun h5 => ?_) (fun h5 => ?_)))
    · rw [hsub, show (2 : Int32) = nI 2 from rfl, nIle (by omega) (by decide)] at h5
      have hd2 : dg tx L (pos tx L k) ≤ pos tx L k + 2 := by omega
      have hv100 := nuV_lt (tx := tx) hd2 hpl hd0
      have hb0 := dgB_iff.mp hd0
      have hcl : (c.2.1 5 0 (c.1 3 0 5).toNatClampNeg).toNatClampNeg = pos tx L k := pk_cl _ h3
      have hby : c.2.1 2 0 (c.2.1 5 0 (c.1 3 0 5).toNatClampNeg).toNatClampNeg = nI (tx (pos tx L k)) := by rw [hcl]; exact hB.1.2 _ hpl
      have hi0 : vp_in (c.2.1 5 0 (c.1 3 0 5).toNatClampNeg) 120 := pk_in (pos tx L k) 120 (by omega) h3
      /- behind the loop -/
      have h106 : ∀ (x3 : Int32) (w : Wd), w = (nu c (nI (nuV tx L (pos tx L k))), m) → Go 1 26 none 106 [some (vR false 3 0), some (vI (nI lo)), some (vI (nI hi)), some (vI x3)] [] w (QN tx L k c m (pNum tx L lo hi (pos tx L k))) := by
        intro x3 w hw
        subst hw
        have hrf := nu_rf c (nI (nuV tx L (pos tx L k)))
        have hA' : Ar tx L k (nu c (nI (nuV tx L (pos tx L k)))) := hA
        have hbad : ¬ (lo ≤ nuV tx L (pos tx L k) ∧ nuV tx L (pos tx L k) ≤ hi) → Go 1 26 none 122 [some (vR false 3 0), some (vI (nI lo)), some (vI (nI hi)), some (vI x3)] [] (nu c (nI (nuV tx L (pos tx L k))), m) (QN tx L k c m (pNum tx L lo hi (pos tx L k))) := by
          intro hz
          refine go_ev 100 [] (iF (c_fails hL (RB_rf hrf hB) hA' 2) (by decide) (And.intro rfl (qnl (f := 2) (pl := pos tx L k) ?_ ⟨RfS_tr hrf (fl_rf _ _ _), fl_at _ _ _⟩)))
          unfold pNum
          rw [if_pos ⟨hpl, hd0⟩, if_neg (fun z => hz z.2)]
        refine go_ev 100 [122] (bI (c := nI (nuV tx L (pos tx L k)) < nI lo) (fun h6 => ?_) (fun h6 => bI (c := nI (nuV tx L (pos tx L k)) ≤ nI hi) (fun h7 => ?_) (fun h7 => ?_)))
        · rw [nIlt (by omega) (by omega)] at h6
          exact hbad (by omega)
        · rw [nIlt (by omega) (by omega)] at h6
          rw [nIle (by omega) (by omega)] at h7
          have hw : ((up3 (nu c (nI (nuV tx L (pos tx L k)))).1 3 0 5 ((nu c (nI (nuV tx L (pos tx L k)))).1 3 0 5 + 1), c.2.1, c.2.2) : Sd) = nw (nu c (nI (nuV tx L (pos tx L k)))) k := by
            rw [hA'.1, ← nI_succ]
            rfl
          refine And.intro rfl (qnr (v := nuV tx L (pos tx L k)) (j := sk tx L (dg tx L (pos tx L k))) (c' := (up3 (nu c (nI (nuV tx L (pos tx L k)))).1 3 0 5 ((nu c (nI (nuV tx L (pos tx L k)))).1 3 0 5 + 1), c.2.1, c.2.2)) ?_ ?_)
          · unfold pNum
            rw [if_pos ⟨hpl, hd0⟩, if_pos ⟨hd2, by omega, by omega⟩]
          · rw [hw]
            refine ⟨RfS_tr hrf (nw_rf _ _), nw_ar hA.2 hpl, hnx.symm, hv100, ?_, fun f hf5 hf6 => ?_⟩
            · rw [nw_o _ _ (by decide)]
              exact up3_s c.1 3 0 6 _
            · rw [nw_o _ _ hf5]
              exact up3_n (k := 3) (i := 0) (f := 6) (k' := 3) (i' := 0) (f' := f) c.1 _ (fun z => hf6 z.2.2)
        · rw [nIle (by omega) (by omega)] at h7
          exact hbad (by omega)
      have hv1 : (10 : Int32) * 0 + nI (tx (pos tx L k)) - 48 = nI (tx (pos tx L k) - 48) := by
        rw [show (10 : Int32) * 0 = 0 from rfl, Int32.zero_add, show (48 : Int32) = nI 48 from rfl, pk_sub (by omega)]
      have hc1 : ¬ c.2.1 6 0 (c.1 3 0 5).toNatClampNeg ≤ c.2.1 5 0 (c.1 3 0 5).toNatClampNeg := by rw [h3, h4, ht, nIle (by omega) (by omega)]; omega
      have hx1 : c.2.1 5 0 (c.1 3 0 5).toNatClampNeg + 1 = nI (pos tx L k + 1) := by rw [h3, nI_succ]
      rcases dg2 hd2 hpl hd0 with hd1 | ⟨hd1, hd3, hd4⟩
      · have hv : nuV tx L (pos tx L k) = tx (pos tx L k) - 48 := by
          unfold nuV
          rw [if_pos hd1]
        refine go_ev 100 [106] (dI h1 (dI h1 (bF (c := c.2.1 6 0 (c.1 3 0 5).toNatClampNeg ≤ c.2.1 5 0 (c.1 3 0 5).toNatClampNeg) hc1 (dI hi0 (dI h1 (bT (c := c.2.1 6 0 (c.1 3 0 5).toNatClampNeg ≤ c.2.1 5 0 (c.1 3 0 5).toNatClampNeg + 1) (by rw [hx1, h4, ht, nIle (by omega) (by omega)]; omega) ?_))))))
        refine h106 _ _ ?_
        show ((nu (nu c 0) ((10 : Int32) * 0 + c.2.1 2 0 (c.2.1 5 0 (c.1 3 0 5).toNatClampNeg).toNatClampNeg - 48), m) : Wd) = _
        rw [nu_nu, hby, hv1, hv]
      · have hb1 := dgB_iff.mp hd4
        have hv : nuV tx L (pos tx L k) = 10 * (tx (pos tx L k) - 48) + (tx (pos tx L k + 1) - 48) := by
          unfold nuV
          rw [if_neg (by omega)]
        have hby1 : c.2.1 2 0 (c.2.1 5 0 (c.1 3 0 5).toNatClampNeg + 1).toNatClampNeg = nI (tx (pos tx L k + 1)) := by rw [pk_cl _ hx1]; exact hB.1.2 _ hd3
        have hv2 : (10 : Int32) * nI (tx (pos tx L k) - 48) + nI (tx (pos tx L k + 1)) - 48 = nI (10 * (tx (pos tx L k) - 48) + (tx (pos tx L k + 1) - 48)) := by
          rw [show (10 : Int32) = nI 10 from rfl, pk_mul, nIadd, show (48 : Int32) = nI 48 from rfl, pk_sub (by omega)]
          congr 1
          omega
        refine go_ev 200 [106] (dI h1 (dI h1 (bF (c := c.2.1 6 0 (c.1 3 0 5).toNatClampNeg ≤ c.2.1 5 0 (c.1 3 0 5).toNatClampNeg) hc1 (dI hi0 (dI h1 (bF (c := c.2.1 6 0 (c.1 3 0 5).toNatClampNeg ≤ c.2.1 5 0 (c.1 3 0 5).toNatClampNeg + 1) (by rw [hx1, h4, ht, nIle (by omega) (by omega)]; omega) ?_))))))
        have hx2 : c.2.1 5 0 (c.1 3 0 5).toNatClampNeg + 1 + 1 = nI (pos tx L k + 2) := by rw [hx1, ← nI_succ]
        refine dI (pk_in (pos tx L k + 1) 120 (by omega) hx1) (dI h1 (bT (c := c.2.1 6 0 (c.1 3 0 5).toNatClampNeg ≤ c.2.1 5 0 (c.1 3 0 5).toNatClampNeg + 1 + 1) (by rw [hx2, h4, ht, nIle (by omega) (by omega)]; omega) ?_))
        refine h106 _ _ ?_
        show ((nu (nu (nu c 0) ((10 : Int32) * 0 + c.2.1 2 0 (c.2.1 5 0 (c.1 3 0 5).toNatClampNeg).toNatClampNeg - 48)) ((10 : Int32) * ((10 : Int32) * 0 + c.2.1 2 0 (c.2.1 5 0 (c.1 3 0 5).toNatClampNeg).toNatClampNeg - 48) + c.2.1 2 0 (c.2.1 5 0 (c.1 3 0 5).toNatClampNeg + 1).toNatClampNeg - 48), m) : Wd) = _
        rw [nu_nu, nu_nu, hby, hv1, hby1, hv2, hv]
    · rw [hsub, show (2 : Int32) = nI 2 from rfl, nIle (by omega) (by decide)] at h5
      refine iF (c_fails hL hB hA 2) (by decide) (And.intro rfl (qnl (f := 2) (pl := pos tx L k) ?_ ⟨fl_rf _ _ _, fl_at _ _ _⟩))
      unfold pNum
      rw [if_pos ⟨hpl, hd0⟩, if_neg (fun z => by omega)]
  · rw [h2] at h
    have h : ¬ knd tx L (pos tx L k) = 2 := fun z => h (by rw [z]; rfl)
    refine iF (c_fails hL hB hA 1) (by decide) (And.intro rfl (qnl (f := 1) (pl := pos tx L k) ?_ ⟨fl_rf _ _ _, fl_at _ _ _⟩))
    unfold pNum
    rw [if_neg]
    rintro ⟨z1, z2⟩
    apply h
    unfold knd
    rw [if_pos z1]
    exact knO_2.mpr z2
end RDP

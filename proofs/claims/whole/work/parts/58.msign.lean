/-! the model: numbers, signs, the stack -/
section MNU
variable {tx : Nat → Nat} {L i : Nat} {c m : Sd}
def QK (tx : Nat → Nat) (L i : Nat) (c m : Sd) (res : Rs (Nat × Nat)) : Wd → Option PV → Prop := fun w' r' => ∃ m' v, w' = (c, m') ∧ PfS m m' ∧ m'.1 0 0 17 = nI i ∧ r' = some (vI v) ∧ ((∃ f pl, res = .inl (f, pl) ∧ (0 < f ∧ f < 100) ∧ m'.1 0 0 19 = nI f ∧ m'.1 0 0 20 = nI pl) ∨ (∃ x j, res = .inr (x, j) ∧ v = nI x ∧ x < 100 ∧ At tx L j m' ∧ m'.1 0 0 19 = 0 ∧ m'.1 0 0 20 = m.1 0 0 20))
theorem qkl {m' : Sd} {res : Rs (Nat × Nat)} {v : Int32} {f pl : Nat} (h : PfS m m') (h1 : m'.1 0 0 17 = nI i) (h2 : res = .inl (f, pl)) (h3 : 0 < f ∧ f < 100) (h4 : m'.1 0 0 19 = nI f) (h5 : m'.1 0 0 20 = nI pl) : QK tx L i c m res (c, m') (some (vI v)) := ⟨m', v, rfl, h, h1, rfl, Or.inl ⟨f, pl, h2, h3, h4, h5⟩⟩
theorem qkr {m' : Sd} {res : Rs (Nat × Nat)} {v : Int32} {x j : Nat} (h : PfS m m') (h1 : m'.1 0 0 17 = nI i) (h2 : res = .inr (x, j)) (h3 : v = nI x) (h4 : x < 100) (h5 : At tx L j m') (h6 : m'.1 0 0 19 = 0) (h7 : m'.1 0 0 20 = m.1 0 0 20) : QK tx L i c m res (c, m') (some (vI v)) := ⟨m', v, rfl, h, h1, rfl, Or.inr ⟨x, j, h2, h3, h4, h5, h6, h7⟩⟩
theorem m_takeNumberX (lo hi : Int32) {f : Nat} (hf : 0 < f ∧ f < 100) (h19 : m.1 0 0 19 = nI f) : Fn 2 106 [vR true 0 0, vI lo, vI hi] (c, m) (c, m) (some (vI 0)) :=
  ctr_ev 100 [] rfl rfl (bF (c := m.1 0 0 19 ≤ 0) (by rw [h19, show (0 : Int32) = nI 0 from rfl, nIle (by omega) (by decide)]; omega) (And.intro rfl rfl))
def vlN (tx : Nat → Nat) (i a : Nat) : Nat := if a = i then 0 else if a = i + 1 then tx i - 48 else 10 * (tx i - 48) + (tx (i + 1) - 48)
theorem in_dg {b : Nat} (hb : b < 256) {x : Int32} (hx : x = nI b) : Fn 0 92 [vL x.toInt64, vL (48 : Int32).toInt64, vL (57 : Int32).toInt64] (c, m) (c, m) (some (vI (bi (dgB b = true)))) := by
  have := m_in (c, m) x 48 57
  have e : bi ((48 : Int32) ≤ x ∧ x ≤ 57) = bi (dgB b = true) := by
    rw [hx]
    have h1 : (48 : Int32) ≤ nI b ↔ 48 ≤ b := nIle (a := 48) (by decide) (by omega)
    have h2 : nI b ≤ 57 ↔ b ≤ 57 := nIle (b := 57) (by omega) (by decide)
    by_cases h : dgB b = true
    · rw [bi_t h, bi_t]
      rw [h1, h2]
      exact dgB_iff.mp h
    · rw [bi_f h, bi_f]
      rw [h1, h2]
      exact fun z => h (dgB_iff.mpr z)
  rw [e] at this
  exact this
theorem m_takeNumber (hL : L ≤ 120) (hb : ∀ i, tx i < 256) (hM : Mx tx L m) (hA : At tx L i m) (h19 : m.1 0 0 19 = 0) {lo hi : Nat} (hlo : lo < 100) (hhi : hi < 100) : Ctr 2 106 [vR true 0 0, vI (nI lo), vI (nI hi)] (c, m) (QK tx L i c m (pNum tx L lo hi i)) := by
  obtain ⟨hil, hsi⟩ := At_le hA
  refine ctr_ev 100 [47] rfl rfl (bT (c := m.1 0 0 19 ≤ 0) (by rw [h19]; decide) (iC (m_here hL hb hM hA) (by decide) ?_))
  rintro _ _ ⟨m1, rfl, hP, ⟨h16, hf⟩, rfl⟩
  have hP2 : PfS m (mf m1 17 (m1.1 0 0 16)) := PfS_f (by decide) _ hP
  have k16 : (mf m1 17 (m1.1 0 0 16)).1 0 0 16 = nI i := (mf_n _ _ (by decide)).trans h16
  have k17 : (mf m1 17 (m1.1 0 0 16)).1 0 0 17 = nI i := (mf_s _ _ _).trans h16
  have k19 : (mf m1 17 (m1.1 0 0 16)).1 0 0 19 = 0 := (mf_n _ _ (by decide)).trans ((hf 19 (by decide)).trans h19)
  have k20 : (mf m1 17 (m1.1 0 0 16)).1 0 0 20 = m.1 0 0 20 := (mf_n _ _ (by decide)).trans (hf 20 (by decide))
  have hD : Fn 0 92 [vL (hr tx L i).toInt64, vL (48 : Int32).toInt64, vL (57 : Int32).toInt64] (c, mf m1 17 (m1.1 0 0 16)) (c, mf m1 17 (m1.1 0 0 16)) (some (vI (bi (i < L ∧ dgB (tx i) = true)))) := by
    unfold hr
    by_cases hl : i < L
    · rw [if_pos hl]
      have := in_dg (c := c) (m := mf m1 17 (m1.1 0 0 16)) (hb i) rfl
      rw [show bi (dgB (tx i) = true) = bi (i < L ∧ dgB (tx i) = true) from by
        by_cases h : dgB (tx i) = true
        · rw [bi_t h, bi_t ⟨hl, h⟩]
        · rw [bi_f h, bi_f (fun z => h z.2)]] at this
      exact this
    · rw [if_neg hl, bi_f (fun z => hl z.1)]
      exact m_in _ (-1) 48 57
  refine iF hD (by decide) ?_
  generalize mf m1 17 (m1.1 0 0 16) = m2 at hP2 k16 k17 k19 k20 hD ⊢
  by_cases hdig : i < L ∧ dgB (tx i) = true
  · rw [bi_t hdig]
    refine iF (m_wantT 1 _ k19) (by decide) (bF (c := (1 : Int32) = 0) (by decide) ?_)
    have hdl : dg tx L i ≤ L := run_le hil
    have hdi : i < dg tx L i := run_pos (tx := tx) (P := dgB) hdig.1 hdig.2
    /- the end -/
    have h129 : ∀ (v x3 : Int32) (m' : Sd), PfS m m' → m'.1 0 0 16 = nI (dg tx L i) → m'.1 0 0 17 = nI i → m'.1 0 0 19 = 0 → m'.1 0 0 20 = m.1 0 0 20 → (dg tx L i ≤ i + 2 → v = nI (nuV tx L i)) → Go 2 106 none 129 [some (vR true 0 0), some (vI (nI lo)), some (vI (nI hi)), some (vI x3), some (vI v), none] [] (c, m') (QK tx L i c m (pNum tx L lo hi i)) := by
      intro v x3 m' g1 g16 g17 g19 g20 gv
      have hsub : m'.1 0 0 16 - m'.1 0 0 17 = nI (dg tx L i - i) := by rw [g16, g17, pk_sub (by omega)]
      have hbad : ¬ (dg tx L i ≤ i + 2 ∧ lo ≤ nuV tx L i ∧ nuV tx L i ≤ hi) → Go 2 106 none 161 [some (vR true 0 0), some (vI (nI lo)), some (vI (nI hi)), some (vI x3), some (vI v), none] [vI 0, vR true 0 0] (c, m') (QK tx L i c m (pNum tx L lo hi i)) := by
        intro hz
        refine go_ev 100 [] (iF (m_wantF (f := 2) (by decide) _ g19) (by decide) (qkl (f := 2) (pl := i) (PfS_f (by decide) _ (PfS_f (by decide) _ g1)) ?_ ?_ (by decide) ?_ ?_))
        · rw [mf_n _ _ (by decide), mf_n _ _ (by decide)]
          exact g17
        · unfold pNum
          rw [if_pos hdig, if_neg hz]
        · rw [mf_n _ _ (by decide), mf_s]
        · rw [mf_s]
          exact g17
      refine go_ev 100 [161] (bI (c := (3 : Int32) ≤ m'.1 0 0 16 - m'.1 0 0 17) (fun h => ?_) (fun h => ?_))
      · rw [hsub, show (3 : Int32) = nI 3 from rfl, nIle (by decide) (by omega)] at h
        exact hbad (fun z => by omega)
      · rw [hsub, show (3 : Int32) = nI 3 from rfl, nIle (by decide) (by omega)] at h
        have hd2 : dg tx L i ≤ i + 2 := by omega
        have hv100 := nuV_lt (tx := tx) hd2 hdig.1 hdig.2
        have gv := gv hd2
        subst gv
        refine iF (m_in _ (nI (nuV tx L i)) (nI lo) (nI hi)) (by decide) (bI (fun h2 => ?_) (fun h2 => ?_))
        · rw [bi_0, nIle (by omega) (by omega), nIle (by omega) (by omega)] at h2
          exact hbad (fun z => h2 z.2)
        · rw [bi_0, Classical.not_not, nIle (by omega) (by omega), nIle (by omega) (by omega)] at h2
          refine go_ev 100 [] (iF (m_wantT 2 _ g19) (by decide) (qkr (x := nuV tx L i) (j := sk tx L (dg tx L i)) g1 g17 ?_ rfl hv100 ⟨_, g16, rfl, hdl⟩ g19 g20))
          unfold pNum
          rw [if_pos hdig, if_pos ⟨hd2, h2⟩]
    have key : ∀ (j a : Nat) (v x3 : Int32) (m' : Sd), a + j = L → i ≤ a → PfS m m' → m'.1 0 0 16 = nI a → m'.1 0 0 17 = nI i → m'.1 0 0 19 = 0 → m'.1 0 0 20 = m.1 0 0 20 → dg tx L a = dg tx L i → (a ≤ i + 2 → v = nI (vlN tx i a)) → (∀ z, i ≤ z → z < a → dgB (tx z) = true) → Go 2 106 none 50 [some (vR true 0 0), some (vI (nI lo)), some (vI (nI hi)), some (vI x3), some (vI v), none] [] (c, m') (QK tx L i c m (pNum tx L lo hi i)) := by
      have hfin : ∀ (a : Nat) (v : Int32), dg tx L i = a → i < a → (a ≤ i + 2 → v = nI (vlN tx i a)) → (dg tx L i ≤ i + 2 → v = nI (nuV tx L i)) := by
        intro a v hda hia hv hd2
        rw [hv (by omega)]
        congr 1
        unfold vlN nuV
        rw [if_neg (by omega)]
        by_cases h1 : a = i + 1
        · rw [if_pos h1, if_pos (by omega)]
        · rw [if_neg h1, if_neg (by omega)]
      intro j
      induction j with
      | zero =>
        intro a v x3 m' hj hia g1 g16 g17 g19 g20 hda hv hall
        have hM' := Mx_pf g1 hM
        have hde : dg tx L i = a := by
          rw [← hda]
          exact Nat.le_antisymm (Nat.le_trans (run_le (by omega)) (by omega)) (run_ge a)
        refine go_ev 100 [50, 129] (bT (c := m'.1 0 0 15 ≤ m'.1 0 0 16) (by rw [hM'.1, g16, nIle (by omega) (by omega)]; omega) ?_)
        exact h129 v x3 m' g1 (by rw [g16, hde]) g17 g19 g20 (hfin a v hde (by omega) hv)
      | succ j ih =>
        intro a v x3 m' hj hia g1 g16 g17 g19 g20 hda hv hall
        have hM' := Mx_pf g1 hM
        have hac : (m'.1 0 0 16).toNatClampNeg = a := pk_cl a g16
        have hai : vp_in (m'.1 0 0 16) 120 := pk_in a 120 (by omega) g16
        have hby : m'.2.1 14 0 (m'.1 0 0 16).toNatClampNeg = nI (tx a) := by rw [hac]; exact hM'.2 a (by omega)
        have hba := hb a
        refine go_ev 100 [50, 114, 129] (bF (c := m'.1 0 0 15 ≤ m'.1 0 0 16) (by rw [hM'.1, g16, nIle (by omega) (by omega)]; omega) (dI hai (iF (in_dg hba hby) (by decide) (bI (fun h => ?_) (fun h => ?_)))))
        · rw [bb0] at h
          have hde : dg tx L i = a := by
            rw [← hda]
            exact run_stop (fun z => by rw [h] at z; cases z.2)
          exact h129 v x3 m' g1 (by rw [g16, hde]) g17 g19 g20 (hfin a v hde (by omega) hv)
        · rw [bb0, Bool.not_eq_false] at h
          have hd0 := dgB_iff.mp h
          have hnext : ∀ (v' : Int32), (a + 1 ≤ i + 2 → v' = nI (vlN tx i (a + 1))) → Go 2 106 none 114 [some (vR true 0 0), some (vI (nI lo)), some (vI (nI hi)), some (vI x3), some (vI v), none] [vI v'] (c, m') (QK tx L i c m (pNum tx L lo hi i)) := by
            intro v' hv'
            refine go_ev 100 [50] (ih (a + 1) v' x3 (mf m' 16 (m'.1 0 0 16 + 1)) (by omega) (by omega) (PfS_f (by decide) _ g1) ?_ ((mf_n _ _ (by decide)).trans g17) ((mf_n _ _ (by decide)).trans g19) ((mf_n _ _ (by decide)).trans g20) ?_ hv' (fun z z1 z2 => ?_))
            · rw [mf_s, g16, nI_succ]
            · rw [← hda]
              exact (run_go (tx := tx) (P := dgB) (show a < L by omega) h).symm
            · rcases Nat.lt_or_ge z a with z3 | z3
              · exact hall z z1 z3
              · rw [show z = a by omega]
                exact h
          have hval : a ≤ i + 1 → (10 : Int32) * v + m'.2.1 14 0 (m'.1 0 0 16).toNatClampNeg - 48 = nI (vlN tx i (a + 1)) ∧ v ≤ 999 := by
            intro hle
            rw [hv (by omega), hby]
            rcases (show a = i ∨ a = i + 1 by omega) with he | he
            · subst he
              have e0 : vlN tx a a = 0 := if_pos rfl
              have e1 : vlN tx a (a + 1) = tx a - 48 := by
                unfold vlN
                rw [if_neg (by omega), if_pos rfl]
              rw [e0, e1]
              refine ⟨?_, by decide⟩
              rw [show (10 : Int32) = nI 10 from rfl, pk_mul, nIadd, show (48 : Int32) = nI 48 from rfl, pk_sub (by omega)]
              congr 1
              omega
            · subst he
              have hd1 := dgB_iff.mp (hall i (Nat.le_refl _) (by omega))
              have e0 : vlN tx i (i + 1) = tx i - 48 := by
                unfold vlN
                rw [if_neg (by omega), if_pos rfl]
              have e1 : vlN tx i (i + 1 + 1) = 10 * (tx i - 48) + (tx (i + 1) - 48) := by
                unfold vlN
                rw [if_neg (by omega), if_neg (by omega)]
              rw [e0, e1]
              refine ⟨?_, by rw [show (999 : Int32) = nI 999 from rfl, nIle (by omega) (by decide)]; omega⟩
              rw [show (10 : Int32) = nI 10 from rfl, pk_mul, nIadd, show (48 : Int32) = nI 48 from rfl, pk_sub (by omega)]
              congr 1
              omega
          refine bI (c := v ≤ 999) (fun hle => dI hai (hnext _ (fun hz => (hval (by omega)).1))) (fun hgt => hnext _ (fun hz => absurd (hval (by omega)).2 hgt))
    refine go_ev 100 [50] (key (L - i) i 0 _ m2 (by omega) (Nat.le_refl _) hP2 k16 k17 k19 k20 rfl (fun _ => ?_) (fun z z1 z2 => absurd z1 (by omega)))
    unfold vlN
    rw [if_pos rfl]
    rfl
  · rw [bi_f hdig]
    refine iF (m_wantF (f := 1) (by decide) _ k19) (by decide) (bT (c := (0 : Int32) = 0) rfl (qkl (f := 1) (pl := i) (PfS_f (by decide) _ (PfS_f (by decide) _ hP2)) ?_ ?_ (by decide) ?_ ?_))
    · rw [mf_n _ _ (by decide), mf_n _ _ (by decide)]
      exact k17
    · unfold pNum
      rw [if_neg hdig]
    · rw [mf_n _ _ (by decide), mf_s]
    · rw [mf_s]
      exact k16
end MNU

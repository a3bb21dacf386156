/-! the model: what a term lets -/
def mRul (m : Sd) (p : Nat) : List (Nat × Nat × Nat) → Nat → Nat → Prop
  | [], _, _ => True
  | (k, o, e) :: R, r, f => (m.2.1 2 0 (25 * p + r) = nI k ∧ m.2.1 3 0 (25 * p + r) = nI o ∧ m.2.1 4 0 (25 * p + r) = nI f ∧ m.2.1 5 0 (25 * p + r) = nI e) ∧ mRul m p R (r + 1) e
theorem mRul_trs {m m' : Sd} {p : Nat} (h : TrS m m') : ∀ {R : List (Nat × Nat × Nat)} {r f : Nat}, mRul m p R r f → mRul m' p R r f
  | [], _, _, _ => trivial
  | (k, o, e) :: R, r, f, hR => by
    obtain ⟨h1, h2⟩ := hR
    refine ⟨?_, mRul_trs h h2⟩
    rw [h.2.1 2 0 (by decide), h.2.1 3 0 (by decide), h.2.1 4 0 (by decide), h.2.1 5 0 (by decide)]
    exact h1
def MT (m : Sd) (p : Nat) (T : Trm) : Prop := m.2.1 1 0 p = nI T.1.length ∧ mRul m p T.1 0 0 ∧ mStps m p T.2
theorem MT_trs {m m' : Sd} {p : Nat} {T : Trm} (h : TrS m m') (hT : MT m p T) : MT m' p T := ⟨by rw [h.2.1 1 0 (by decide)]; exact hT.1, mRul_trs h hT.2.1, mStps_trs h hT.2.2⟩
theorem TrS_tr {a b c : Sd} (h : TrS a b) (h2 : TrS b c) : TrS a c := ⟨h2.1.trans h.1, fun k i hk => (h2.2.1 k i hk).trans (h.2.1 k i hk), h2.2.2.trans h.2.2⟩
section MLE
variable {n p row day : Nat} {c m : Sd} {T : Trm}
theorem m_letBy {Q : Wd → Option PV → Prop} {tl : Option Nat} {wd : Nat} (hQ : ∀ w' r', QT m c (nI (if tl = some p then wd else letT n p row day T)) w' r' → Q w' r') (hmn : m.1 0 0 0 = nI n) (hn : n ≤ 6) (hp : p < n) (hr : row < 4 ^ n) (hday : day ≤ 9) (htl : m.1 0 0 35 = optI tl) (htq : ∀ q, tl = some q → q < 2 ^ 31) (hwd : m.1 0 0 36 = nI wd) (hT : MT m p T) (hok : okT T) : Ctr 3 125 [vR true 0 0, vI (nI p), vI (nI row), vI (nI day)] (c, m) Q := by
  have h25 := hok.1
  have h40 := hok.2.1
  have key : ¬ tl = some p → ∀ (j r f : Nat) (x : Int32) (m' : Sd), r + j = T.1.length → x = nI r → TrS m m' → okR T.2 (T.1.drop r) f → mRul m' p (T.1.drop r) r f → letT n p row day T = letR n p row day T.2 (T.1.drop r) f → Go 3 125 none 16 [some (vR true 0 0), some (vI (nI p)), some (vI (nI row)), some (vI (nI day)), some (vI x)] [] (c, m') (QT m c (nI (if tl = some p then wd else letT n p row day T))) := by
    intro hnt j
    rw [if_neg hnt]
    induction j with
    | zero =>
      intro r f x m' hj hx hTr hR hM hl
      have hT' := MT_trs hTr hT
      have hrl : m'.2.1 1 0 (nI p).toNatClampNeg = nI T.1.length := by rw [pk_cl p]; exact hT'.1
      refine go_ev 60 [16] (dI (pk_in p 6 (by omega)) (bT (c := m'.2.1 1 0 (nI p).toNatClampNeg ≤ x) (by rw [hrl, hx, nIle (by omega) (by omega)]; omega) (qti hTr ?_)))
      rw [hl, List.drop_eq_nil_of_le (by omega)]
      rfl
    | succ j ih =>
      intro r f x m' hj hx hTr hR hM hl
      subst hx
      have hT' := MT_trs hTr hT
      have hrl : m'.2.1 1 0 (nI p).toNatClampNeg = nI T.1.length := by rw [pk_cl p]; exact hT'.1
      have hr1 : r < T.1.length := by omega
      obtain ⟨⟨k, o, e⟩, ha⟩ : ∃ a, T.1[r]? = some a := ⟨_, List.getElem?_eq_getElem hr1⟩
      have hdr : T.1.drop r = (k, o, e) :: T.1.drop (r + 1) := by
        obtain ⟨h1, h2⟩ := List.getElem?_eq_some_iff.mp ha
        rw [List.drop_eq_getElem_cons h1, h2]
      rw [hdr] at hR hl hM
      obtain ⟨⟨hk4, ho6, -⟩, ⟨hfe, hes⟩, hdp, hR'⟩ := hR
      obtain ⟨⟨q1, q2, q3, q4⟩, hM'⟩ := hM
      refine go_ev 60 [16] (dI (pk_in p 6 (by omega)) (bF (c := m'.2.1 1 0 (nI p).toNatClampNeg ≤ nI r) (by rw [hrl, nIle (by omega) (by omega)]; omega) ?_))
      refine iC (m_holds (by rw [hTr.1]; exact hmn) hn hp hr hday hok.2.2.1 (by omega) hT'.2.2 (by omega) q3 q4 hfe hes hdp) (by decide) ?_
      rintro _ _ ⟨m2, rfl, hTr2, rfl⟩
      have hTr3 := TrS_tr hTr hTr2
      refine bI (fun h2 => ?_) (fun h2 => ?_)
      · rw [bi_0] at h2
        refine ih (r + 1) e _ m2 (by omega) (nI_succ r).symm hTr3 hR' (mRul_trs hTr2 hM') ?_
        rw [hl]
        conv => lhs; unfold letR
        rw [if_neg h2]
      · rw [bi_0, Classical.not_not] at h2
        refine iF (m_muchBy (by rw [hTr3.1]; exact hmn) hn hp hr (by omega) hk4 ho6 (by rw [hTr2.2.1 2 0 (by decide)]; exact q1) (by rw [hTr2.2.1 3 0 (by decide)]; exact q2)) (by decide) (qti hTr3 ?_)
        rw [hl]
        unfold letR
        rw [if_pos h2]
  refine ctr_of (nblt rfl) (Nat.le_of_ble_eq_true rfl) (Go_mono (Q := QT m c (nI (if tl = some p then wd else letT n p row day T))) (go_ev 60 [16] ?_) hQ)
  refine bI (c := nI p = m.1 0 0 35) (fun h => ?_) (fun h => ?_)
  · rw [htl, optI_eq htq (by omega)] at h
    refine qti (TrS_rfl m) ?_
    rw [if_pos h]
    exact hwd
  · rw [htl, optI_eq htq (by omega)] at h
    exact key h T.1.length 0 0 0 m (by omega) rfl (TrS_rfl m) hok.2.2.2 hT.2.1 rfl
end MLE

/-! the model: whether a rule holds -/
/-- bits at the bottom of a row, the latest last -/
def tru (a : Nat → Int32) : List Bool → Prop
  | [] => True
  | b :: t => a t.length = bi (b = true) ∧ tru a t
theorem tru_upd {a : Nat → Int32} {x : Int32} : ∀ {st : List Bool} {j : Nat}, st.length ≤ j → tru a st → tru (upd a j x) st
  | [], _, _, _ => trivial
  | _ :: t, j, h, hs => by
    have h : t.length + 1 ≤ j := h
    exact ⟨by rw [pk_un (by omega)]; exact hs.1, tru_upd (by omega) hs.2⟩
theorem tru_last {a : Nat → Int32} {st : List Bool} {b : Bool} (h : tru a (st ++ [b])) : a 0 = bi (b = true) := by
  induction st with
  | nil => exact h.1
  | cons x t ih => exact ih h.2
/-- what holds, over rows of bits that may change -/
def TrS (m m' : Sd) : Prop := m'.1 = m.1 ∧ (∀ k i, k ≠ 40 → m'.2.1 k i = m.2.1 k i) ∧ m'.2.2 = m.2.2
def mStps (m : Sd) (p : Nat) (S : List StpT) : Prop := ∀ s e, S[s]? = some e → mStp m p s e
theorem mStps_trs {m m' : Sd} {p : Nat} {S : List StpT} (h : TrS m m') (hS : mStps m p S) : mStps m' p S := by
  intro s e he
  have := hS s e he
  unfold mStp effM effG at this ⊢
  rw [h.1, h.2.1 6 0 (by decide), h.2.1 7 0 (by decide), h.2.1 8 0 (by decide), h.2.1 9 0 (by decide), h.2.1 10 0 (by decide), h.2.1 38 0 (by decide), h.2.1 39 0 (by decide)]
  exact this
def QT (m c : Sd) (r : Int32) : Wd → Option PV → Prop := fun w' r' => ∃ m', w' = (c, m') ∧ TrS m m' ∧ r' = some (vI r)
theorem qti {m c m' : Sd} {r r' : Int32} (h : TrS m m') (h2 : r' = r) : QT m c r (c, m') (some (vI r')) := ⟨m', rfl, h, by rw [h2]⟩
theorem TrS_rfl (m : Sd) : TrS m m := ⟨rfl, fun _ _ _ => rfl, rfl⟩
theorem TrS_upd {m m' : Sd} (h : TrS m m') (j : Nat) (x : Int32) : TrS m (m'.1, upA m'.2.1 40 0 j x, m'.2.2) := ⟨h.1, fun k i hk => (upA_n _ _ (fun z => hk z.1)).trans (h.2.1 k i hk), h.2.2⟩
theorem nar_bi (b : Prop) [Decidable b] : vp_nar .boolean (bi b) = bi b := by
  by_cases h : b
  · rw [bi_t h]; rfl
  · rw [bi_f h]; rfl
theorem bb0 (b : Bool) : bi (b = true) = 0 ↔ b = false := by
  rw [bi_0]
  exact Bool.not_eq_true b ▸ Iff.rfl
section MHO
variable {n p row day : Nat} {c m : Sd} {S : List StpT}
theorem m_holds (hmn : m.1 0 0 0 = nI n) (hn : n ≤ 6) (hp : p < n) (hr : row < 4 ^ n) (hday : day ≤ 9) (hE : ∀ e ∈ S, okE e) (h64 : S.length ≤ 64) (hS : mStps m p S) {r f e : Nat} (hr25 : r < 25) (hsf : m.2.1 4 0 (25 * p + r) = nI f) (hst : m.2.1 5 0 (25 * p + r) = nI e) (hfe : f ≤ e) (he : e ≤ S.length) (hd : e = f ∨ dpS (seg S f e) 0 = some 1) : Ctr 2 123 [vR true 0 0, vI (nI p), vI (nI r), vI (nI row), vI (nI day)] (c, m) (QT m c (bi (e = f ∨ hldB n p row day S f e = true))) := by
  have hix : (25 : Int32) * nI p + nI r = nI (25 * p + r) := by rw [show (25 : Int32) = nI 25 from rfl, pk_mul, nIadd]
  have hic := pk_cl (25 * p + r) hix
  have hin := pk_in (25 * p + r) 150 (by omega) hix
  have key : ¬ e = f → ∀ (j s : Nat) (x tp : Int32) (st : List Bool) (v7 : Option PV) (m' : Sd), s + j = e → x = nI s → tp = nI st.length → TrS m m' → tru (m'.2.1 40 0) st → st.length < 30 → dpS (seg S s e) st.length = some 1 → evS (vv n p row day) (seg S f e) [] = evS (vv n p row day) (seg S s e) st → Go 2 123 none 16 [some (vR true 0 0), some (vI (nI p)), some (vI (nI r)), some (vI (nI row)), some (vI (nI day)), some (vI tp), some (vI x), v7] [] (c, m') (QT m c (bi (e = f ∨ hldB n p row day S f e = true))) := by
    intro hne j
    induction j with
    | zero =>
      intro s x tp st v7 m' hse hx htp hTr htr h30 hdp hev
      have hse : s = e := by omega
      subst hse
      rw [seg_nil] at hdp hev
      subst hx htp
      have h1 : st.length = 1 := Option.some.inj hdp
      obtain ⟨b, rfl⟩ : ∃ b, st = [b] := by
        rcases st with _ | ⟨b, _ | ⟨b', t'⟩⟩
        · exact absurd h1 (by decide)
        · exact ⟨b, rfl⟩
        · simp at h1
      have hv : hldB n p row day S f s = b := by
        unfold hldB
        rw [hev]
        cases b <;> rfl
      have hto : m'.2.1 5 0 ((25 : Int32) * nI p + nI r).toNatClampNeg = nI s := by
        rw [hic, hTr.2.1 5 0 (by decide)]
        exact hst
      have hb0 : m'.2.1 40 0 0 = bi (b = true) := htr.1
      refine go_ev 80 [16] (dI hin (bT (c := m'.2.1 5 0 ((25 : Int32) * nI p + nI r).toNatClampNeg ≤ nI s) (by rw [hto]; exact Int32.le_refl _) ?_))
      refine bF (c := nI 1 = 0) (by decide) (dI (pk_in 0 64 (by decide)) ?_)
      refine bI (c := m'.2.1 40 0 0 = 0) (fun h => ?_) (fun h => ?_)
      · rw [hb0, bb0] at h
        refine And.intro rfl (qti hTr ?_)
        rw [bi_f]
        rintro (z | z)
        · exact hne z
        · rw [hv, h] at z
          cases z
      · rw [hb0, bb0, Bool.not_eq_false] at h
        refine And.intro rfl (qti hTr ?_)
        rw [bi_t (Or.inr (hv.trans h))]
    | succ j ih =>
      intro s x tp st v7 m' hse hx htp hTr htr h30 hdp hev
      subst hx htp
      have hsl : s < S.length := by omega
      obtain ⟨a, ha⟩ : ∃ a, S[s]? = some a := ⟨_, List.getElem?_eq_getElem hsl⟩
      have hcs := mStps_trs hTr hS s a ha
      have hoe := hE a (List.mem_of_getElem? ha)
      rw [seg_cons ha (by omega)] at hdp hev
      have hdp : (match dpO a st.length with
        | none => none
        | some d' => dpS (seg S (s + 1) e) d') = some 1 := hdp
      obtain ⟨d', hd', hdp2⟩ : ∃ d', dpO a st.length = some d' ∧ dpS (seg S (s + 1) e) d' = some 1 := by
        cases hq : dpO a st.length with
        | none => rw [hq] at hdp; exact absurd hdp (by simp)
        | some d' => rw [hq] at hdp; exact ⟨d', rfl, hdp⟩
      obtain ⟨hl, hl30⟩ := evO_len (v := vv n p row day) hd'
      have hgo : ∀ (tp : Int32) (i : Nat) (x : Int32) (v7 : Option PV), tp = nI (evO (vv n p row day) a st).length → tru (upd (m'.2.1 40 0) i x) (evO (vv n p row day) a st) → Go 2 123 none 16 [some (vR true 0 0), some (vI (nI p)), some (vI (nI r)), some (vI (nI row)), some (vI (nI day)), some (vI tp), some (vI (nI s + 1)), v7] [] (c, (m'.1, upA m'.2.1 40 0 i x, m'.2.2)) (QT m c (bi (e = f ∨ hldB n p row day S f e = true))) := fun tp i x v7 h1 h2 =>
        ih (s + 1) (nI s + 1) tp (evO (vv n p row day) a st) v7 (m'.1, upA m'.2.1 40 0 i x, m'.2.2) (by omega) (nI_succ s).symm h1 (TrS_upd hTr i x) (by
          show tru (upA m'.2.1 40 0 i x 40 0) _
          rw [upA_s]
          exact h2) (by rw [hl]; exact hl30 h30) (by rw [hl]; exact hdp2) hev
      have hix2 : (64 : Int32) * nI p + nI s = nI (64 * p + s) := by rw [show (64 : Int32) = nI 64 from rfl, pk_mul, nIadd]
      have hic2 := pk_cl (64 * p + s) hix2
      have hin2 := pk_in (64 * p + s) 384 (by omega) hix2
      have hk : m'.2.1 6 0 ((64 : Int32) * nI p + nI s).toNatClampNeg = nI a.1 := by rw [hic2]; exact hcs.1
      have hk8 := hoe.1
      have hto : m'.2.1 5 0 ((25 : Int32) * nI p + nI r).toNatClampNeg = nI e := by
        rw [hic, hTr.2.1 5 0 (by decide)]
        exact hst
      refine go_ev 80 [16] (dI hin (bF (c := m'.2.1 5 0 ((25 : Int32) * nI p + nI r).toNatClampNeg ≤ nI s) (by rw [hto, nIle (by omega) (by omega)]; omega) ?_))
      refine dI hin2 ?_
      refine bI (c := m'.2.1 6 0 ((64 : Int32) * nI p + nI s).toNatClampNeg = 5) (fun h => ?_) (fun h => ?_)
      · rw [hk] at h
        have hk5 : a.1 = 5 := (nIeq (by omega) (by decide)).mp h
        obtain ⟨b, t', rfl⟩ : ∃ b t', st = b :: t' := by
          rcases st with _ | ⟨b, t'⟩
          · unfold dpO at hd'
            rw [hk5] at hd'
            exact absurd hd' (by simp)
          · exact ⟨b, t', rfl⟩
        have e1 : evO (vv n p row day) a (b :: t') = (!b) :: t' := by
          cases t' <;> simp [evO, hk5]
        rw [e1] at hgo
        have hi1 : nI (b :: t').length - 1 = nI t'.length := by rw [List.length_cons, nI_succ, Int32.add_sub_cancel]
        have hc1 := pk_cl t'.length hi1 (by simp at h30; omega)
        have hn1 := pk_in t'.length 64 (by simp at h30; omega) hi1
        have hbv : m'.2.1 40 0 (nI (b :: t').length - 1).toNatClampNeg = bi (b = true) := by rw [hc1]; exact htr.1
        refine dI hn1 (bI (c := m'.2.1 40 0 (nI (b :: t').length - 1).toNatClampNeg = 0) (fun h2 => ?_) (fun h2 => ?_))
        · rw [hbv, bb0] at h2
          subst h2
          refine dI hn1 (hgo _ _ _ _ rfl ?_)
          rw [hc1]
          exact ⟨pk_us, tru_upd (Nat.le_refl _) htr.2⟩
        · rw [hbv, bb0, Bool.not_eq_false] at h2
          subst h2
          refine dI hn1 (hgo _ _ _ _ rfl ?_)
          rw [hc1]
          exact ⟨pk_us, tru_upd (Nat.le_refl _) htr.2⟩
      · rw [hk] at h
        have hn5 : ¬ a.1 = 5 := fun z => h (by rw [z]; rfl)
        have bin : a.1 = 6 ∨ a.1 = 7 → ∃ x y t', st = x :: y :: t' := by
          intro z
          rcases st with _ | ⟨x, _ | ⟨y, t'⟩⟩
          · unfold dpO at hd'
            rw [if_neg (by omega), if_neg hn5] at hd'
            exact absurd hd' (by simp)
          · unfold dpO at hd'
            rw [if_neg (by omega), if_neg hn5] at hd'
            exact absurd hd' (by simp)
          · exact ⟨x, y, t', rfl⟩
        have two : ∀ (x y : Bool) (t' : List Bool), st = x :: y :: t' → (nI st.length + (-1) = nI (t'.length + 1) ∧ nI st.length + (-1) - 1 = nI t'.length) := by
          rintro x y t' rfl
          have q1 : nI (x :: y :: t').length + (-1) = nI (t'.length + 1) := pk_m1 (t'.length + 1)
          exact ⟨q1, by rw [q1, nI_succ, Int32.add_sub_cancel]⟩
        refine bI (c := m'.2.1 6 0 ((64 : Int32) * nI p + nI s).toNatClampNeg = Int32.ofInt 6) (fun h6 => ?_) (fun h6 => bI (c := m'.2.1 6 0 ((64 : Int32) * nI p + nI s).toNatClampNeg = Int32.ofInt 7) (fun h7 => ?_) (fun h7 => ?_))
        · rw [hk] at h6
          have hkk : a.1 = 6 := (nIeq (by omega) (by decide)).mp h6
          obtain ⟨x, y, t', rfl⟩ := bin (Or.inl hkk)
          obtain ⟨w1, w2⟩ := two x y t' rfl
          have e1 : evO (vv n p row day) a (x :: y :: t') = (y && x) :: t' := by
            simp [evO, hkk]
          rw [e1] at hgo
          have l30 : t'.length + 1 < 30 := by
            simp at h30
            omega
          have c1 := pk_cl (t'.length + 1) w1 (by omega)
          have c2 := pk_cl t'.length w2 (by omega)
          have n1 := pk_in (t'.length + 1) 64 (by omega) w1
          have n2 := pk_in t'.length 64 (by omega) w2
          have v1 : m'.2.1 40 0 (nI (x :: y :: t').length + (-1)).toNatClampNeg = bi (x = true) := by rw [c1]; exact htr.1
          have v2 : m'.2.1 40 0 (nI (x :: y :: t').length + (-1) - 1).toNatClampNeg = bi (y = true) := by rw [c2]; exact htr.2.1
          have fin : ∀ (z : Bool), tru (upd (m'.2.1 40 0) (nI (x :: y :: t').length + (-1) - 1).toNatClampNeg (bi (z = true))) (z :: t') := fun z => by
            rw [c2]
            exact ⟨pk_us, tru_upd (Nat.le_refl _) htr.2.2⟩
          refine bT (c := m'.2.1 6 0 ((64 : Int32) * nI p + nI s).toNatClampNeg = Int32.ofInt 6) (by rw [hk, hkk]; rfl) (dI n2 ?_)
          refine bI (c := m'.2.1 40 0 (nI (x :: y :: t').length + (-1) - 1).toNatClampNeg = 0) (fun g1 => ?_) (fun g1 => dI n1 (bI (c := m'.2.1 40 0 (nI (x :: y :: t').length + (-1)).toNatClampNeg = 0) (fun g2 => ?_) (fun g2 => ?_)))
          · rw [v2, bb0] at g1
            subst g1
            exact dI n2 (hgo _ _ _ _ w1 (fin false))
          · rw [v2, bb0, Bool.not_eq_false] at g1
            rw [v1, bb0] at g2
            subst g1 g2
            exact dI n2 (hgo _ _ _ _ w1 (fin false))
          · rw [v2, bb0, Bool.not_eq_false] at g1
            rw [v1, bb0, Bool.not_eq_false] at g2
            subst g1 g2
            exact dI n2 (hgo _ _ _ _ w1 (fin true))
        · rw [hk] at h7
          have hkk : a.1 = 7 := (nIeq (by omega) (by decide)).mp h7
          obtain ⟨x, y, t', rfl⟩ := bin (Or.inr hkk)
          obtain ⟨w1, w2⟩ := two x y t' rfl
          have e1 : evO (vv n p row day) a (x :: y :: t') = (y || x) :: t' := by
            simp [evO, hkk]
          rw [e1] at hgo
          have l30 : t'.length + 1 < 30 := by
            simp at h30
            omega
          have c1 := pk_cl (t'.length + 1) w1 (by omega)
          have c2 := pk_cl t'.length w2 (by omega)
          have n1 := pk_in (t'.length + 1) 64 (by omega) w1
          have n2 := pk_in t'.length 64 (by omega) w2
          have v1 : m'.2.1 40 0 (nI (x :: y :: t').length + (-1)).toNatClampNeg = bi (x = true) := by rw [c1]; exact htr.1
          have v2 : m'.2.1 40 0 (nI (x :: y :: t').length + (-1) - 1).toNatClampNeg = bi (y = true) := by rw [c2]; exact htr.2.1
          have fin : ∀ (z : Bool), tru (upd (m'.2.1 40 0) (nI (x :: y :: t').length + (-1) - 1).toNatClampNeg (bi (z = true))) (z :: t') := fun z => by
            rw [c2]
            exact ⟨pk_us, tru_upd (Nat.le_refl _) htr.2.2⟩
          refine bF (c := m'.2.1 6 0 ((64 : Int32) * nI p + nI s).toNatClampNeg = Int32.ofInt 6) h6 (dI n2 ?_)
          refine bI (c := m'.2.1 40 0 (nI (x :: y :: t').length + (-1) - 1).toNatClampNeg = 0) (fun g1 => dI n1 (bI (c := m'.2.1 40 0 (nI (x :: y :: t').length + (-1)).toNatClampNeg = 0) (fun g2 => ?_) (fun g2 => ?_))) (fun g1 => ?_)
          · rw [v2, bb0] at g1
            rw [v1, bb0] at g2
            subst g1 g2
            exact dI n2 (hgo _ _ _ _ w1 (fin false))
          · rw [v2, bb0] at g1
            rw [v1, bb0, Bool.not_eq_false] at g2
            subst g1 g2
            exact dI n2 (hgo _ _ _ _ w1 (fin true))
          · rw [v2, bb0, Bool.not_eq_false] at g1
            subst g1
            exact dI n2 (hgo _ _ _ _ w1 (fin true))
        · have hlt : a.1 < 5 := by
            rw [hk] at h6 h7
            rcases Nat.lt_or_ge a.1 5 with z | z
            · exact z
            · exfalso
              rcases (show a.1 = 5 ∨ a.1 = 6 ∨ a.1 = 7 by omega) with q | q | q
              · exact hn5 q
              · exact h6 (by rw [q]; rfl)
              · exact h7 (by rw [q]; rfl)
          have e1 : evO (vv n p row day) a st = vv n p row day a :: st := by
            rcases st with _ | ⟨x, _ | ⟨y, t'⟩⟩ <;> simp [evO, hlt]
          rw [e1] at hgo
          have hci : (nI st.length).toNatClampNeg = st.length := pk_cl st.length
          refine iF (m_oneHolds (by rw [hTr.1]; exact hmn) hn hp hr hday (by omega) hoe hlt hcs) (by decide) ?_
          refine dI (pk_in st.length 64 (by omega)) (hgo _ _ _ _ (nI_succ _).symm ?_)
          rw [hci, nar_bi]
          exact ⟨pk_us, tru_upd (Nat.le_refl _) htr⟩
  have hf0 : m.2.1 4 0 ((25 : Int32) * nI p + nI r).toNatClampNeg = nI f := by rw [hic]; exact hsf
  have hto : m.2.1 5 0 ((25 : Int32) * nI p + nI r).toNatClampNeg = nI e := by rw [hic]; exact hst
  refine ctr_ev 80 [16] rfl rfl (dI hin ?_)
  by_cases hef : e = f
  · refine go_ev 80 [16] (dI hin (bT (c := m.2.1 5 0 ((25 : Int32) * nI p + nI r).toNatClampNeg ≤ m.2.1 4 0 ((25 : Int32) * nI p + nI r).toNatClampNeg) (by rw [hto, hf0, hef]; exact Int32.le_refl _) ?_))
    refine bT (c := (0 : Int32) = 0) rfl (And.intro rfl (qti (TrS_rfl m) ?_))
    rw [bi_t (Or.inl hef)]
  · exact key hef (e - f) f _ _ [] none m (by omega) hf0 rfl (TrS_rfl m) trivial (by decide) (hd.resolve_left hef) rfl
end MHO

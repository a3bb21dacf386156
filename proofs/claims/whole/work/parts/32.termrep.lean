/-! a term as the class keeps it -/
def seg (S : List StpT) (f e : Nat) : List StpT := (S.drop f).take (e - f)
def okE (e : StpT) : Prop := e.1 < 8 ∧ e.2.1 < 6 ∧ e.2.2.1 < 6 ∧ e.2.2.2.1 < 100 ∧ e.2.2.2.2.1 < 100
def okR (S : List StpT) : List (Nat × Nat × Nat) → Nat → Prop
  | [], _ => True
  | (k, o, e) :: R, f => (k < 4 ∧ o < 6 ∧ (k = 0 → o < 4)) ∧ (f ≤ e ∧ e ≤ S.length) ∧ (e = f ∨ dpS (seg S f e) 0 = some 1) ∧ okR S R e
abbrev Trm : Type := List (Nat × Nat × Nat) × List StpT
def okT (T : Trm) : Prop := T.1.length ≤ 25 ∧ T.2.length ≤ 40 ∧ (∀ e ∈ T.2, okE e) ∧ okR T.2 T.1 0
def vv (n p row day : Nat) (e : StpT) : Bool := stpV n p row day e.1 e.2.1 e.2.2.1 e.2.2.2.1 e.2.2.2.2.1
def hldB (n p row day : Nat) (S : List StpT) (f e : Nat) : Bool := (evS (vv n p row day) (seg S f e) []).head? == some true
def letR (n p row day : Nat) (S : List StpT) : List (Nat × Nat × Nat) → Nat → Nat
  | [], _ => 0
  | (k, o, e) :: R, f => if e = f ∨ hldB n p row day S f e = true then muchV n p row k o else letR n p row day S R e
def letT (n p row day : Nat) (T : Trm) : Nat := letR n p row day T.2 T.1 0
def kcd (k : Nat) : Nat := if k < 5 then k + 3 else k - 5
def cStp (c : Sd) (t s : Nat) (e : StpT) : Prop := c.2.1 15 t s = nI (kcd e.1) ∧ (e.1 < 5 → c.2.1 16 t s = nI e.2.1 ∧ c.2.1 17 t s = nI e.2.2.1 ∧ c.2.1 18 t (2 * s) = nI e.2.2.2.1 ∧ c.2.1 18 t (2 * s + 1) = nI e.2.2.2.2.1)
def cRul (c : Sd) (t r : Nat) (k : Nat × Nat × Nat) : Prop := c.2.1 12 t r = nI k.1 ∧ c.2.1 13 t r = nI k.2.1 ∧ c.2.1 14 t r = nI k.2.2
def CT (c : Sd) (t : Nat) (T : Trm) : Prop := c.1 11 t 3 = nI T.1.length ∧ c.1 11 t 8 = nI T.2.length ∧ (∀ r k, T.1[r]? = some k → cRul c t r k) ∧ ∀ s e, T.2[s]? = some e → cStp c t s e
theorem seg_nil (S : List StpT) (e : Nat) : seg S e e = [] := by
  unfold seg
  rw [Nat.sub_self, List.take_zero]
theorem seg_cons {S : List StpT} {s e : Nat} {x : StpT} (h : S[s]? = some x) (hs : s < e) : seg S s e = x :: seg S (s + 1) e := by
  unfold seg
  obtain ⟨j, hj⟩ : ∃ j, e - s = j + 1 := ⟨e - s - 1, by omega⟩
  rw [hj, show e - (s + 1) = j by omega]
  obtain ⟨h1, h2⟩ := List.getElem?_eq_some_iff.mp h
  rw [List.drop_eq_getElem_cons h1, List.take_succ_cons, h2]
section TRM
variable {n p row day t : Nat} {c m : Sd} {T : Trm}
theorem c_holds (hs : Scn c n p row day) (hn : n ≤ 6) (hp : p < n) (hr : row < 4 ^ n) (hday : day ≤ 9) (hT : CT c t T) (hok : okT T) {f e : Nat} (hfe : f ≤ e) (he : e ≤ T.2.length) (hd : dpS (seg T.2 f e) 0 = some 1) : Fn 1 42 [vR false 11 t, vI (nI f), vI (nI e), vR false 19 0] (c, m) (c, m) (some (vI (bi (hldB n p row day T.2 f e = true)))) := by
  obtain ⟨h25, h40, hE, -⟩ := hok
  have key : ∀ (j s : Nat) (x pl : Int32) (st : List Bool), s + j = e → x = nI s → pl = nI (pv st) → st.length < 30 → dpS (seg T.2 s e) st.length = some 1 → evS (vv n p row day) (seg T.2 f e) [] = evS (vv n p row day) (seg T.2 s e) st → Go 1 42 none 6 [some (vR false 11 t), some (vI (nI f)), some (vI (nI e)), some (vR false 19 0), some (vI pl), some (vI x)] [] (c, m) (fun w' r' => w' = (c, m) ∧ r' = some (vI (bi (hldB n p row day T.2 f e = true)))) := by
    intro j
    induction j with
    | zero =>
      intro s x pl st hse hx hpl h30 hdp hev
      have hse : s = e := by omega
      subst hse
      rw [seg_nil] at hdp hev
      subst hx hpl
      have h1 : st.length = 1 := Option.some.inj hdp
      obtain ⟨b, rfl⟩ : ∃ b, st = [b] := by
        rcases st with _ | ⟨b, _ | ⟨b', t'⟩⟩
        · exact absurd h1 (by decide)
        · exact ⟨b, rfl⟩
        · simp at h1
      have hb := Bool.toNat_lt b
      refine go_ev 60 [6] (bT (c := nI s ≤ nI s) (Int32.le_refl _) ?_)
      have hv : hldB n p row day T.2 f s = b := by
        unfold hldB
        rw [hev]
        cases b <;> rfl
      refine bI (c := nI (pv [b]) &&& 1 = 1) (fun h => ?_) (fun h => ?_)
      · have h := (pile_top 0 b (by omega)).mp h
        exact And.intro rfl (And.intro rfl (by rw [bi_t (hv.trans h)]))
      · have h : ¬ b = true := fun z => h ((pile_top 0 b (by omega)).mpr z)
        exact And.intro rfl (And.intro rfl (by rw [bi_f (fun z => h (hv.symm.trans z))]))
    | succ j ih =>
      intro s x pl st hse hx hpl h30 hdp hev
      subst hx hpl
      have hsl : s < T.2.length := by omega
      obtain ⟨a, ha⟩ : ∃ a, T.2[s]? = some a := ⟨_, List.getElem?_eq_getElem hsl⟩
      have hcs := hT.2.2.2 s a ha
      have hoe := hE a (List.mem_of_getElem? ha)
      rw [seg_cons ha (by omega)] at hdp hev
      have hdp : (match dpO a st.length with
        | none => none
        | some d' => dpS (seg T.2 (s + 1) e) d') = some 1 := hdp
      obtain ⟨d', hd', hdp2⟩ : ∃ d', dpO a st.length = some d' ∧ dpS (seg T.2 (s + 1) e) d' = some 1 := by
        cases hq : dpO a st.length with
        | none => rw [hq] at hdp; exact absurd hdp (by simp)
        | some d' => rw [hq] at hdp; exact ⟨d', rfl, hdp⟩
      obtain ⟨hl, hl30⟩ := evO_len (v := vv n p row day) hd'
      have hgo := ih (s + 1) (nI s + 1) (nI (pv (evO (vv n p row day) a st))) (evO (vv n p row day) a st) (by omega) (nI_succ s).symm rfl (by rw [hl]; exact hl30 h30) (by rw [hl]; exact hdp2) hev
      have hcl : (nI s).toNatClampNeg = s := pk_cl s
      have hk : c.2.1 15 t (nI s).toNatClampNeg = nI (kcd a.1) := by rw [hcl]; exact hcs.1
      have hkl : kcd a.1 < 2 ^ 31 := by
        have := hoe.1
        unfold kcd
        split <;> omega
      have hplt := pv_lt st
      have h230 : pv st < 2 ^ 30 := Nat.lt_of_lt_of_le hplt (Nat.pow_le_pow_right (by decide) (by omega))
      refine go_ev 60 [6] (bF (c := nI e ≤ nI s) (by rw [nIle (by omega) (by omega)]; omega) ?_)
      refine dI (pk_in s 40 (by omega)) ?_
      refine bI (c := c.2.1 15 t (nI s).toNatClampNeg = Int32.ofInt 0) (fun h => ?_) (fun h => bI (c := c.2.1 15 t (nI s).toNatClampNeg = Int32.ofInt 1) (fun h1 => ?_) (fun h1 => bI (c := c.2.1 15 t (nI s).toNatClampNeg = Int32.ofInt 2) (fun h2 => ?_) (fun h2 => ?_)))
      · rw [hk] at h
        have h : kcd a.1 = 0 := (nIeq hkl (by decide)).mp h
        have hk5 : a.1 = 5 := by
          unfold kcd at h
          split at h <;> have := hoe.1 <;> omega
        have hst : st ≠ [] := by
          rintro rfl
          unfold dpO at hd'
          rw [hk5] at hd'
          exact absurd hd' (by simp)
        obtain ⟨b, t', rfl⟩ := List.exists_cons_of_ne_nil hst
        have e1 : pv (evO (vv n p row day) a (b :: t')) = 2 * pv t' + (!b).toNat := by
          cases t' <;> simp [evO, hk5, pv]
        rw [e1, ← pile_not (pv t') b (by simp only [pv] at h230; omega)] at hgo
        exact hgo
      · rw [hk] at h1
        have h1 : kcd a.1 = 1 := (nIeq hkl (by decide)).mp h1
        have hk6 : a.1 = 6 := by
          unfold kcd at h1
          split at h1 <;> have := hoe.1 <;> omega
        obtain ⟨x, y, t', rfl⟩ : ∃ x y t', st = x :: y :: t' := by
          rcases st with _ | ⟨x, _ | ⟨y, t'⟩⟩
          · unfold dpO at hd'
            rw [hk6] at hd'
            exact absurd hd' (by simp)
          · unfold dpO at hd'
            rw [hk6] at hd'
            exact absurd hd' (by simp)
          · exact ⟨x, y, t', rfl⟩
        have e1 : pv (evO (vv n p row day) a (x :: y :: t')) = 2 * pv t' + (y && x).toNat := by
          simp [evO, hk6, pv]
        rw [e1, ← pile_and (pv t') x y (by simp only [pv] at h230; omega)] at hgo
        exact hgo
      · rw [hk] at h2
        have h2 : kcd a.1 = 2 := (nIeq hkl (by decide)).mp h2
        have hk7 : a.1 = 7 := by
          unfold kcd at h2
          split at h2 <;> have := hoe.1 <;> omega
        obtain ⟨x, y, t', rfl⟩ : ∃ x y t', st = x :: y :: t' := by
          rcases st with _ | ⟨x, _ | ⟨y, t'⟩⟩
          · unfold dpO at hd'
            rw [hk7] at hd'
            exact absurd hd' (by simp)
          · unfold dpO at hd'
            rw [hk7] at hd'
            exact absurd hd' (by simp)
          · exact ⟨x, y, t', rfl⟩
        have e1 : pv (evO (vv n p row day) a (x :: y :: t')) = 2 * pv t' + (y || x).toNat := by
          simp [evO, hk7, pv]
        rw [e1, ← pile_or (pv t') x y (by simp only [pv] at h230; omega)] at hgo
        exact hgo
      · have hlt : a.1 < 5 := by
          have := hoe.1
          rcases Nat.lt_or_ge a.1 5 with z | z
          · exact z
          · exfalso
            rcases (show a.1 = 5 ∨ a.1 = 6 ∨ a.1 = 7 by omega) with q | q | q <;> rw [hk, q] at h h1 h2
            · exact h rfl
            · exact h1 rfl
            · exact h2 rfl
        obtain ⟨hc1, hc2⟩ := hcs
        obtain ⟨q1, q2, q3, q4⟩ := hc2 hlt
        have hkc : kcd a.1 = a.1 + 3 := by
          unfold kcd
          rw [if_pos hlt]
        have hc20 : (2 * nI s).toNatClampNeg = 2 * s := pk_cl (2 * s) (by rw [show (2 : Int32) = nI 2 from rfl, pk_mul])
        have hc21 : (2 * nI s + 1).toNatClampNeg = 2 * s + 1 := pk_cl (2 * s + 1) (by rw [show (2 : Int32) = nI 2 from rfl, pk_mul, nI_succ])
        have hI : Fn 0 34 [vR false 19 0, vI (c.2.1 15 t (nI s).toNatClampNeg), vI (c.2.1 16 t (nI s).toNatClampNeg), vI (c.2.1 17 t (nI s).toNatClampNeg), vI (c.2.1 18 t (2 * nI s).toNatClampNeg), vI (c.2.1 18 t (2 * nI s + 1).toNatClampNeg)] (c, m) (c, m) (some (vI (bi (vv n p row day a = true)))) := by
          rw [hcl, hc20, hc21, hc1, q1, q2, q3, q4, hkc]
          exact c_isSo hs hn hp hr hday hlt hoe.2.1 hoe.2.2.1 hoe.2.2.2.1 hoe.2.2.2.2
        have e1 : evO (vv n p row day) a st = vv n p row day a :: st := by
          rcases st with _ | ⟨x, _ | ⟨y, t'⟩⟩ <;> simp [evO, hlt]
        rw [e1] at hgo
        refine dI (pk_in s 40 (by omega)) (dI (pk_in s 40 (by omega)) (dI (pk_in s 40 (by omega)) (dI (pk_in (2 * s) 80 (by omega) (by rw [show (2 : Int32) = nI 2 from rfl, pk_mul])) (dI (pk_in (2 * s + 1) 80 (by omega) (by rw [show (2 : Int32) = nI 2 from rfl, pk_mul, nI_succ])) ?_))))
        refine iF hI (by decide) (bI (c := bi (vv n p row day a = true) = 0) (fun h => ?_) (fun h => ?_))
        · rw [bi_0] at h
          have e2 : nI (pv (vv n p row day a :: st)) = nI (pv st) <<< ((1 : Int32) &&& 31) := by
            rw [pile_shl h230, Bool.eq_false_iff.mpr h]
            rfl
          rw [e2] at hgo
          exact hgo
        · rw [bi_0] at h
          have e2 : nI (pv (vv n p row day a :: st)) = nI (pv st) <<< ((1 : Int32) &&& 31) ||| 1 := by
            rw [pile_shl h230, pile_or1 h230, Classical.not_not.mp h]
            rfl
          rw [e2] at hgo
          exact hgo
  refine ctr_ev 60 [6] rfl rfl ?_
  exact key (e - f) f (nI f) 0 [] (by omega) rfl rfl (by decide) hd rfl
end TRM

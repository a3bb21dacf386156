/-! the model: signs and the stack -/
def sgn (m : Sd) (s : Nat) (e : StpT) : Prop := m.2.1 27 0 s = nI e.1 ∧ (e.1 < 5 → m.2.1 28 0 s = nI e.2.1 ∧ m.2.1 29 0 s = nI e.2.2.1 ∧ m.2.1 31 0 s = nI e.2.2.2.2.1) ∧ (2 ≤ e.1 → e.1 < 5 → m.2.1 30 0 s = nI e.2.2.2.1) ∧ m.2.1 32 0 s = bi (e.2.2.2.2.2 = true)
def Sg (m : Sd) (O : List StpT) : Prop := m.1 0 0 22 = nI O.length ∧ ∀ s e, O[s]? = some e → sgn m s e
def stk (a : Nat → Int32) : List Nat → Prop
  | [] => True
  | x :: K => a K.length = nI x ∧ stk a K
def Sk (m : Sd) (K : List Nat) : Prop := m.1 0 0 34 = nI K.length ∧ stk (m.2.1 33 0) K
def okK (K : List Nat) : Prop := ∀ x ∈ K, 5 ≤ x ∧ x ≤ 8
/-- what signs and stack may change -/
def GsS (m m' : Sd) : Prop := (∀ k i f, ¬ (k = 0 ∧ i = 0 ∧ (f = 22 ∨ f = 34)) → m'.1 k i f = m.1 k i f) ∧ (∀ k i, ¬ (27 ≤ k ∧ k ≤ 33) → m'.2.1 k i = m.2.1 k i) ∧ m'.2.2 = m.2.2
theorem GsS_rfl (m : Sd) : GsS m m := ⟨fun _ _ _ _ => rfl, fun _ _ _ => rfl, rfl⟩
theorem GsS_tr {a b c : Sd} (h : GsS a b) (h2 : GsS b c) : GsS a c := ⟨fun k i f h1 => (h2.1 k i f h1).trans (h.1 k i f h1), fun k i h1 => (h2.2.1 k i h1).trans (h.2.1 k i h1), h2.2.2.trans h.2.2⟩
/-- all that the reading of conditions may change -/
def PrS (m m' : Sd) : Prop := (∀ k i f, ¬ (k = 0 ∧ i = 0 ∧ ((16 ≤ f ∧ f ≤ 20) ∨ f = 22 ∨ f = 34)) → m'.1 k i f = m.1 k i f) ∧ (∀ k i, ¬ (27 ≤ k ∧ k ≤ 33) → m'.2.1 k i = m.2.1 k i) ∧ m'.2.2 = m.2.2
theorem PrS_tr {a b c : Sd} (h : PrS a b) (h2 : PrS b c) : PrS a c := ⟨fun k i f h1 => (h2.1 k i f h1).trans (h.1 k i f h1), fun k i h1 => (h2.2.1 k i h1).trans (h.2.1 k i h1), h2.2.2.trans h.2.2⟩
theorem PrS_pf {m m' : Sd} (h : PfS m m') : PrS m m' := ⟨fun k i f h1 => h.1 k i f (fun z => h1 ⟨z.1, z.2.1, Or.inl z.2.2⟩), fun _ _ _ => by rw [h.2], by rw [h.2]⟩
theorem PrS_gs {m m' : Sd} (h : GsS m m') : PrS m m' := ⟨fun k i f h1 => h.1 k i f (fun z => h1 ⟨z.1, z.2.1, Or.inr z.2.2⟩), h.2.1, h.2.2⟩
theorem PrS_rfl (m : Sd) : PrS m m := PrS_pf (PfS_rfl m)
theorem Mx_gs {tx : Nat → Nat} {L : Nat} {m m' : Sd} (h : GsS m m') (hM : Mx tx L m) : Mx tx L m' := by
  unfold Mx
  rw [h.1 0 0 15 (by decide), h.2.1 14 0 (by decide)]
  exact hM
theorem Mx_pr {tx : Nat → Nat} {L : Nat} {m m' : Sd} (h : PrS m m') (hM : Mx tx L m) : Mx tx L m' := by
  unfold Mx
  rw [h.1 0 0 15 (by decide), h.2.1 14 0 (by decide)]
  exact hM
theorem At_gs {tx : Nat → Nat} {L i : Nat} {m m' : Sd} (h : GsS m m') (hA : At tx L i m) : At tx L i m' := by
  obtain ⟨a, h1, h2⟩ := hA
  exact ⟨a, (h.1 0 0 16 (by decide)).trans h1, h2⟩
theorem Sg_pf {m m' : Sd} {O : List StpT} (h : PfS m m') (hS : Sg m O) : Sg m' O := by
  unfold Sg sgn
  rw [h.2, h.1 0 0 22 (by decide)]
  exact hS
theorem Sk_pf {m m' : Sd} {K : List Nat} (h : PfS m m') (hS : Sk m K) : Sk m' K := by
  unfold Sk
  rw [h.2, h.1 0 0 34 (by decide)]
  exact hS
theorem stk_upd {a : Nat → Int32} {x : Int32} : ∀ {K : List Nat} {j : Nat}, K.length ≤ j → stk a K → stk (upd a j x) K
  | [], _, _, _ => trivial
  | y :: K, j, hj, h => by
    have hj : K.length + 1 ≤ j := hj
    exact ⟨by rw [pk_un (by omega)]; exact h.1, stk_upd (by omega) h.2⟩
theorem stk_at {a : Nat → Int32} : ∀ {K : List Nat} {j : Nat}, stk a K → j < K.length → ∃ x, K.drop (K.length - (j + 1)) = x :: K.drop (K.length - j) ∧ a j = nI x ∧ x ∈ K
  | [], j, _, hj => absurd hj (Nat.not_lt_zero j)
  | y :: K, j, h, hj => by
    have hj : j < K.length + 1 := hj
    rcases (show j = K.length ∨ j < K.length by omega) with h1 | h1
    · subst h1
      refine ⟨y, ?_, h.1, List.mem_cons_self⟩
      rw [List.length_cons, Nat.sub_self, show K.length + 1 - K.length = 1 by omega]
      rfl
    · obtain ⟨x, e1, e2, e3⟩ := stk_at h.2 h1
      refine ⟨x, ?_, e2, List.mem_cons_of_mem _ e3⟩
      rw [List.length_cons, show K.length + 1 - (j + 1) = (K.length - (j + 1)) + 1 by omega, show K.length + 1 - j = (K.length - j) + 1 by omega, List.drop_succ_cons, List.drop_succ_cons]
      exact e1
def opn : List Nat → Nat
  | [] => 0
  | x :: K => opn K + (if x = 5 ∨ x = 8 then 1 else 0)
def hop : List Nat → Bool
  | [] => false
  | x :: K => hop K || decide (x = 8)
theorem opn_le : ∀ K : List Nat, opn K ≤ K.length
  | [] => Nat.le_refl _
  | x :: K => by
    have := opn_le K
    simp only [opn, List.length_cons]
    split <;> omega
def QS2 (c m : Sd) (P : Sd → Prop) : Wd → Option PV → Prop := fun w' r' => ∃ m', w' = (c, m') ∧ GsS m m' ∧ P m' ∧ r' = none
section MSK
variable {c m : Sd} {O : List StpT} {K : List Nat}
theorem qs2i {m' : Sd} {P : Sd → Prop} (h1 : GsS m m') (h2 : P m') : QS2 c m P (c, m') none := ⟨m', rfl, h1, h2, rfl⟩
theorem m_open (hS : Sk m K) (hK : okK K) (h64 : K.length ≤ 64) : Fn 1 110 [vR true 0 0] (c, m) (c, m) (some (vI (nI (opn K)))) := by
  have key : ∀ (j k : Nat) (x a : Int32), k + j = K.length → x = nI k → a = nI (opn (K.drop (K.length - k))) → Go 1 110 none 4 [some (vR true 0 0), some (vI a), some (vI x)] [] (c, m) (fun w' r' => w' = (c, m) ∧ r' = some (vI (nI (opn K)))) := by
    intro j
    induction j with
    | zero =>
      intro k x a hj hx ha
      refine go_ev 100 [4] (bT (c := m.1 0 0 34 ≤ x) (by rw [hS.1, hx, nIle (by omega) (by omega)]; omega) (And.intro rfl ?_))
      rw [ha, show K.length - k = 0 by omega, List.drop_zero]
    | succ j ih =>
      intro k x a hj hx ha
      subst hx ha
      obtain ⟨y, e1, e2, e3⟩ := stk_at hS.2 (show k < K.length by omega)
      have hy := hK y e3
      have hin : vp_in (nI k) 64 := pk_in k 64 (by omega)
      have hv : m.2.1 33 0 (nI k).toNatClampNeg = nI y := by rw [pk_cl k]; exact e2
      have hst : ∀ (b : Bool), (b = true ↔ (y = 5 ∨ y = 8)) → nI (opn (K.drop (K.length - k))) + bi (¬ bi (b = true) = 0) = nI (opn (K.drop (K.length - (k + 1)))) := by
        intro b hb
        rw [e1]
        show _ = nI (opn (K.drop (K.length - k)) + (if y = 5 ∨ y = 8 then 1 else 0))
        cases b with
        | false =>
          rw [if_neg (fun z => by cases hb.mpr z)]
          exact Int32.add_zero _
        | true =>
          rw [if_pos (hb.mp rfl)]
          exact (nI_succ _).symm
      refine go_ev 100 [4] (bF (c := m.1 0 0 34 ≤ nI k) (by rw [hS.1, nIle (by omega) (by omega)]; omega) (dI hin ?_))
      refine bI (c := m.2.1 33 0 (nI k).toNatClampNeg = 5) (fun h => ?_) (fun h => dI hin (bI (c := m.2.1 33 0 (nI k).toNatClampNeg = 8) (fun h2 => ?_) (fun h2 => ?_)))
      · rw [hv] at h
        have h : y = 5 := (nIeq (b := 5) (by omega) (by decide)).mp h
        exact iF (m_one _ _) (by decide) (ih (k + 1) _ _ (by omega) (nI_succ k).symm (hst true ⟨fun _ => Or.inl h, fun _ => rfl⟩))
      · rw [hv] at h2
        have h2 : y = 8 := (nIeq (b := 8) (by omega) (by decide)).mp h2
        exact iF (m_one _ _) (by decide) (ih (k + 1) _ _ (by omega) (nI_succ k).symm (hst true ⟨fun _ => Or.inr h2, fun _ => rfl⟩))
      · rw [hv] at h h2
        have h : ¬ y = 5 := fun z => h (by rw [z]; rfl)
        have h2 : ¬ y = 8 := fun z => h2 (by rw [z]; rfl)
        exact iF (m_one _ _) (by decide) (ih (k + 1) _ _ (by omega) (nI_succ k).symm (hst false ⟨fun z => (by cases z), fun z => (by omega)⟩))
  refine ctr_ev 100 [4] rfl rfl ?_
  exact key K.length 0 0 0 (by omega) rfl (by rw [Nat.sub_zero, List.drop_eq_nil_of_le (Nat.le_refl _)]; rfl)
theorem m_hasOpen (hS : Sk m K) (hK : okK K) (h64 : K.length ≤ 64) : Fn 0 114 [vR true 0 0] (c, m) (c, m) (some (vI (bi (hop K = true)))) := by
  have key : ∀ (j k : Nat) (x a : Int32), k + j = K.length → x = nI k → a = bi (hop (K.drop (K.length - k)) = true) → Go 0 114 none 4 [some (vR true 0 0), some (vI a), some (vI x)] [] (c, m) (fun w' r' => w' = (c, m) ∧ r' = some (vI (bi (hop K = true)))) := by
    intro j
    induction j with
    | zero =>
      intro k x a hj hx ha
      rw [show K.length - k = 0 by omega, List.drop_zero] at ha
      subst ha
      exact go_ev 100 [4] (bT (c := m.1 0 0 34 ≤ x) (by rw [hS.1, hx, nIle (by omega) (by omega)]; omega) (And.intro zok_bi (And.intro rfl rfl)))
    | succ j ih =>
      intro k x a hj hx ha
      subst hx ha
      obtain ⟨y, e1, e2, e3⟩ := stk_at hS.2 (show k < K.length by omega)
      have hy := hK y e3
      have hin : vp_in (nI k) 64 := pk_in k 64 (by omega)
      have hv : m.2.1 33 0 (nI k).toNatClampNeg = nI y := by rw [pk_cl k]; exact e2
      have hst : hop (K.drop (K.length - (k + 1))) = (hop (K.drop (K.length - k)) || decide (y = 8)) := by rw [e1]; rfl
      refine go_ev 100 [4] (bF (c := m.1 0 0 34 ≤ nI k) (by rw [hS.1, nIle (by omega) (by omega)]; omega) ?_)
      refine bI (c := bi (hop (K.drop (K.length - k)) = true) = 0) (fun h => ?_) (fun h => ?_)
      · rw [bb0] at h
        refine dI hin (bI (c := m.2.1 33 0 (nI k).toNatClampNeg = 8) (fun h2 => ?_) (fun h2 => ?_))
        · rw [hv] at h2
          have h2 : y = 8 := (nIeq (b := 8) (by omega) (by decide)).mp h2
          refine ih (k + 1) _ _ (by omega) (nI_succ k).symm ?_
          rw [hst, h, decide_eq_true h2]
          rfl
        · rw [hv] at h2
          have h2 : ¬ y = 8 := fun z => h2 (by rw [z]; rfl)
          refine ih (k + 1) _ _ (by omega) (nI_succ k).symm ?_
          rw [hst, h, decide_eq_false h2]
          rfl
      · rw [bb0, Bool.not_eq_false] at h
        refine ih (k + 1) _ _ (by omega) (nI_succ k).symm ?_
        rw [hst, h]
        rfl
  refine ctr_ev 100 [4] rfl rfl ?_
  exact key K.length 0 0 0 (by omega) rfl (by rw [Nat.sub_zero, List.drop_eq_nil_of_le (Nat.le_refl _)]; rfl)
theorem m_push {x : Nat} (hS : Sk m K) (h64 : K.length < 64) (hG : Sg m O) : Ctr 0 111 [vR true 0 0, vI (nI x)] (c, m) (QS2 c m (fun m' => Sk m' (x :: K) ∧ Sg m' O)) := by
  have hcl : (m.1 0 0 34).toNatClampNeg = K.length := pk_cl _ hS.1
  refine ctr_ev 100 [] rfl rfl (dI (pk_in K.length 64 h64 hS.1) (qs2i (m' := (up3 m.1 0 0 34 (m.1 0 0 34 + 1), upA m.2.1 33 0 (m.1 0 0 34).toNatClampNeg (nI x), m.2.2)) ?_ ⟨⟨?_, ?_⟩, ?_⟩))
  · exact ⟨fun k i f h => up3_n _ _ (fun z => h ⟨z.1, z.2.1, Or.inr z.2.2⟩), fun k i h => upA_n _ _ (fun z => h (by omega)), rfl⟩
  · show up3 m.1 0 0 34 (m.1 0 0 34 + 1) 0 0 34 = _
    rw [up3_s, hS.1, List.length_cons, nI_succ]
  · show stk (upA m.2.1 33 0 (m.1 0 0 34).toNatClampNeg (nI x) 33 0) (x :: K)
    rw [upA_s, hcl]
    exact ⟨pk_us, stk_upd (Nat.le_refl _) hS.2⟩
  · exact hG
/-- a sign as it is first put -/
def frs (e : StpT) : Prop := (e.1 < 5 → e.2.1 = 0 ∧ e.2.2.1 = 5 ∧ e.2.2.2.2.1 = 1) ∧ (2 ≤ e.1 → e.1 < 5 → e.2.2.2.1 = 0) ∧ e.2.2.2.2.2 = false
theorem m_addSign {e : StpT} (hG : Sg m O) (h64 : O.length < 64) (hS : Sk m K) (he : frs e) : Ctr 0 107 [vR true 0 0, vI (nI e.1)] (c, m) (QS2 c m (fun m' => Sg m' (O ++ [e]) ∧ Sk m' K)) := by
  have hcl : (m.1 0 0 22).toNatClampNeg = O.length := pk_cl _ hG.1
  have hin : vp_in (m.1 0 0 22) 64 := pk_in O.length 64 h64 hG.1
  refine ctr_ev 100 [] rfl rfl (dI hin (dI hin (dI hin (dI hin (dI hin (dI hin (qs2i (m' := (up3 m.1 0 0 22 (m.1 0 0 22 + 1), upA (upA (upA (upA (upA (upA m.2.1 27 0 (m.1 0 0 22).toNatClampNeg (nI e.1)) 28 0 (m.1 0 0 22).toNatClampNeg 0) 29 0 (m.1 0 0 22).toNatClampNeg 5) 30 0 (m.1 0 0 22).toNatClampNeg 0) 31 0 (m.1 0 0 22).toNatClampNeg 1) 32 0 (m.1 0 0 22).toNatClampNeg (vp_nar .boolean 0), m.2.2)) ?_ ?_)))))))
  · refine ⟨fun k i f h => up3_n _ _ (fun z => h ⟨z.1, z.2.1, Or.inl z.2.2⟩), fun k i h => ?_, rfl⟩
    show upA (upA (upA (upA (upA (upA m.2.1 27 0 (m.1 0 0 22).toNatClampNeg (nI e.1)) 28 0 (m.1 0 0 22).toNatClampNeg 0) 29 0 (m.1 0 0 22).toNatClampNeg 5) 30 0 (m.1 0 0 22).toNatClampNeg 0) 31 0 (m.1 0 0 22).toNatClampNeg 1) 32 0 (m.1 0 0 22).toNatClampNeg (vp_nar .boolean 0) k i = _
    rw [upA_n _ _ (fun z => h (by omega)), upA_n _ _ (fun z => h (by omega)), upA_n _ _ (fun z => h (by omega)), upA_n _ _ (fun z => h (by omega)), upA_n _ _ (fun z => h (by omega)), upA_n _ _ (fun z => h (by omega))]
  · rw [hcl]
    refine ⟨⟨?_, fun s x hx => ?_⟩, hS⟩
    · show up3 m.1 0 0 22 (m.1 0 0 22 + 1) 0 0 22 = _
      rw [up3_s, hG.1, List.length_append]
      exact (nI_succ _).symm
    · show upd (m.2.1 27 0) O.length (nI e.1) s = _ ∧ (x.1 < 5 → upd (m.2.1 28 0) O.length 0 s = _ ∧ upd (m.2.1 29 0) O.length 5 s = _ ∧ upd (m.2.1 31 0) O.length 1 s = _) ∧ (2 ≤ x.1 → x.1 < 5 → upd (m.2.1 30 0) O.length 0 s = _) ∧ upd (m.2.1 32 0) O.length (vp_nar .boolean 0) s = _
      rcases get_snoc hx with ⟨h1, h2⟩ | ⟨h1, h2⟩
      · rw [pk_un (by omega), pk_un (by omega), pk_un (by omega), pk_un (by omega), pk_un (by omega), pk_un (by omega)]
        exact hG.2 s x h2
      · subst h1 h2
        rw [pk_us, pk_us, pk_us, pk_us, pk_us, pk_us]
        obtain ⟨q1, q2, q3⟩ := he
        refine ⟨rfl, fun z => ?_, fun y z => ?_, ?_⟩
        · obtain ⟨r1, r2, r3⟩ := q1 z
          rw [r1, r2, r3]
          exact ⟨rfl, rfl, rfl⟩
        · rw [q2 y z]
          rfl
        · rw [q3]
          rfl
theorem frs_op {k : Nat} (h : 5 ≤ k) : frs (opS k) := ⟨fun z => absurd z (by show ¬ k < 5; omega), fun _ z => absurd z (by show ¬ k < 5; omega), rfl⟩
theorem m_pop {x : Nat} (hx : 5 ≤ x ∧ x ≤ 8) (hS : Sk m (x :: K)) (hG : Sg m O) (h64 : O.length < 64) (hk : K.length < 64) : Ctr 1 112 [vR true 0 0] (c, m) (QS2 c m (fun m' => Sg m' (O ++ [opS x]) ∧ Sk m' K)) := by
  have h34 : m.1 0 0 34 - 1 = nI K.length := by rw [hS.1, List.length_cons, nI_succ, Int32.add_sub_cancel]
  have e34 : (mf m 34 (m.1 0 0 34 - 1)).1 0 0 34 = nI K.length := (mf_s _ _ _).trans h34
  have hS1 : Sk (mf m 34 (m.1 0 0 34 - 1)) K := ⟨e34, hS.2.2⟩
  have hG1 : Sg (mf m 34 (m.1 0 0 34 - 1)) O := ⟨(mf_n m _ (by decide)).trans hG.1, hG.2⟩
  have hv : m.2.1 33 0 ((mf m 34 (m.1 0 0 34 - 1)).1 0 0 34).toNatClampNeg = nI (opS x).1 := by
    rw [pk_cl _ e34]
    exact hS.2.1
  have hA : Ctr 0 107 [vR true 0 0, vI (m.2.1 33 0 ((mf m 34 (m.1 0 0 34 - 1)).1 0 0 34).toNatClampNeg)] (c, mf m 34 (m.1 0 0 34 - 1)) (QS2 c (mf m 34 (m.1 0 0 34 - 1)) (fun m' => Sg m' (O ++ [opS x]) ∧ Sk m' K)) := by
    rw [hv]
    exact m_addSign hG1 h64 hS1 (frs_op hx.1)
  refine ctr_ev 100 [] rfl rfl (dI (pk_in K.length 64 hk e34) (iC hA (by decide) ?_))
  rintro _ _ ⟨m', rfl, h1, h2, rfl⟩
  have h0 : GsS m (mf m 34 (m.1 0 0 34 - 1)) := ⟨fun k i f h => up3_n _ _ (fun z => h ⟨z.1, z.2.1, Or.inr z.2.2⟩), fun _ _ _ => rfl, rfl⟩
  exact qs2i (GsS_tr h0 h1) h2
/-- popping as long as P holds -/
def popF (P : Nat → Bool) : List Nat → List StpT → List StpT × List Nat
  | [], O => (O, [])
  | x :: K, O => if P x = true then popF P K (O ++ [opS x]) else (O, x :: K)
theorem top_at {x : Nat} (hS : Sk m (x :: K)) : m.1 0 0 34 - 1 = nI K.length ∧ (K.length < 64 → m.2.1 33 0 (m.1 0 0 34 - 1).toNatClampNeg = nI x) := by
  have h34 : m.1 0 0 34 - 1 = nI K.length := by rw [hS.1, List.length_cons, nI_succ, Int32.add_sub_cancel]
  refine ⟨h34, fun h => ?_⟩
  rw [pk_cl _ h34]
  exact hS.2.1
theorem m_endOne : ∀ (K : List Nat) (O : List StpT) (m : Sd), okK K → K.length ≤ 64 → Sk m K → Sg m O → O.length + K.length ≤ 64 → Ctr 2 113 [vR true 0 0] (c, m) (QS2 c m (fun m' => Sg m' (popF (fun x => x == 5) K O).1 ∧ Sk m' (popF (fun x => x == 5) K O).2)) := by
  intro K0 O0 m0 hK0 h640 hS0 hG0 hsum0
  have key : ∀ (K : List Nat) (O : List StpT) (m : Sd), okK K → K.length ≤ 64 → O.length + K.length ≤ 64 → Sk m K → Sg m O → GsS m0 m → popF (fun x => x == 5) K0 O0 = popF (fun x => x == 5) K O → Go 2 113 none 0 [some (vR true 0 0)] [] (c, m) (QS2 c m0 (fun m' => Sg m' (popF (fun x => x == 5) K0 O0).1 ∧ Sk m' (popF (fun x => x == 5) K0 O0).2)) := by
    intro K
    induction K with
    | nil =>
      intro O m hK h64 hsum hS hG hF hv
      refine go_ev 100 [0] (bT (c := m.1 0 0 34 ≤ 0) (by rw [hS.1]; decide) (qs2i hF ?_))
      rw [hv]
      exact ⟨hG, hS⟩
    | cons x K ih =>
      intro O m hK h64 hsum hS hG hF hv
      rw [List.length_cons] at h64 hsum
      obtain ⟨t1, t2⟩ := top_at hS
      have t2 := t2 (by omega)
      have hx := hK x List.mem_cons_self
      refine go_ev 100 [0] (bF (c := m.1 0 0 34 ≤ 0) (by rw [hS.1, show (0 : Int32) = nI 0 from rfl, nIle (by rw [List.length_cons]; omega) (by decide), List.length_cons]; omega) (dI (pk_in K.length 64 (by omega) t1) (bI (c := m.2.1 33 0 (m.1 0 0 34 - 1).toNatClampNeg = 5) (fun h => ?_) (fun h => ?_))))
      · rw [t2] at h
        have h : x = 5 := (nIeq (b := 5) (by omega) (by decide)).mp h
        refine iC (m_pop hx hS hG (by omega) (by omega)) (by decide) ?_
        rintro _ _ ⟨m', rfl, h1, ⟨h2, h3⟩, rfl⟩
        refine ih (O ++ [opS x]) m' (fun y hy => hK y (List.mem_cons_of_mem _ hy)) (by omega) (by rw [List.length_append]; show O.length + 1 + K.length ≤ 64; omega) h3 h2 (GsS_tr hF h1) ?_
        rw [hv]
        conv => lhs; unfold popF
        rw [if_pos (by rw [h]; rfl)]
      · rw [t2] at h
        have h : ¬ x = 5 := fun z => h (by rw [z]; rfl)
        refine qs2i hF ?_
        rw [hv]
        unfold popF
        rw [if_neg (fun z => h (by simpa using z))]
        exact ⟨hG, hS⟩
  exact ctr_of (nblt rfl) (Nat.le_of_ble_eq_true rfl) (key K0 O0 m0 hK0 h640 hsum0 hS0 hG0 (GsS_rfl m0) rfl)
end MSK

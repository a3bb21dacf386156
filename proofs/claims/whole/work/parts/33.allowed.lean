/-! what a term lets: the class -/
theorem muchV_lt {n p row k o : Nat} (hk : k < 4) (h : k = 0 → o < 4) : muchV n p row k o < 4 := by
  unfold muchV
  have h1 := dd_lt row o
  have h2 := lstK_le p row n
  have h3 := mstK_le p row n
  split
  · exact h (by assumption)
  · split
    · split <;> omega
    · split
      · split <;> omega
      · omega
theorem letR_lt {n p row day : Nat} {S : List StpT} : ∀ (R : List (Nat × Nat × Nat)) (f : Nat), okR S R f → letR n p row day S R f < 4
  | [], _, _ => by
    show 0 < 4
    decide
  | (k, o, e) :: R, f, h => by
    unfold letR
    split
    · exact muchV_lt h.1.1 h.1.2.2
    · exact letR_lt R e h.2.2.2
theorem letT_lt {n p row day : Nat} {T : Trm} (h : okT T) : letT n p row day T < 4 := letR_lt _ _ h.2.2.2
section ALW
variable {n p row day t : Nat} {c m : Sd} {T : Trm}
theorem c_tAllowed (hs : Scn c n p row day) (hn : n ≤ 6) (hp : p < n) (hr : row < 4 ^ n) (hday : day ≤ 9) (hT : CT c t T) (hok : okT T) : Fn 2 40 [vR false 11 t, vR false 19 0] (c, m) (c, m) (some (vI (nI (letT n p row day T)))) := by
  have h25 := hok.1
  have h40 := hok.2.1
  have key : ∀ (j r f : Nat) (x fx : Int32), r + j = T.1.length → x = nI r → fx = nI f → okR T.2 (T.1.drop r) f → f ≤ T.2.length → letT n p row day T = letR n p row day T.2 (T.1.drop r) f → Go 2 40 none 4 [some (vR false 11 t), some (vR false 19 0), some (vI fx), some (vI x)] [] (c, m) (fun w' r' => w' = (c, m) ∧ r' = some (vI (nI (letT n p row day T)))) := by
    intro j
    induction j with
    | zero =>
      intro r f x fx hj hx hf hR hfl hl
      refine go_ev 60 [4] (bT (c := c.1 11 t 3 ≤ x) (by rw [hT.1, hx, nIle (by omega) (by omega)]; omega) (And.intro rfl ?_))
      rw [hl, List.drop_eq_nil_of_le (by omega)]
      rfl
    | succ j ih =>
      intro r f x fx hj hx hf hR hfl hl
      subst hx hf
      have hrl : r < T.1.length := by omega
      obtain ⟨⟨k, o, e⟩, ha⟩ : ∃ a, T.1[r]? = some a := ⟨_, List.getElem?_eq_getElem hrl⟩
      have hdr : T.1.drop r = (k, o, e) :: T.1.drop (r + 1) := by
        obtain ⟨h1, h2⟩ := List.getElem?_eq_some_iff.mp ha
        rw [List.drop_eq_getElem_cons h1, h2]
      rw [hdr] at hR hl
      obtain ⟨⟨hk4, ho6, -⟩, ⟨hfe, hes⟩, hdp, hR'⟩ := hR
      obtain ⟨q1, q2, q3⟩ := hT.2.2.1 r _ ha
      have hcl : (nI r).toNatClampNeg = r := pk_cl r
      have q1 : c.2.1 12 t (nI r).toNatClampNeg = nI k := by rw [hcl]; exact q1
      have q2 : c.2.1 13 t (nI r).toNatClampNeg = nI o := by rw [hcl]; exact q2
      have q3 : c.2.1 14 t (nI r).toNatClampNeg = nI e := by rw [hcl]; exact q3
      have hin : vp_in (nI r) 25 := pk_in r 25 (by omega)
      have hM : Fn 1 41 [vI (c.2.1 12 t (nI r).toNatClampNeg), vI (c.2.1 13 t (nI r).toNatClampNeg), vR false 19 0] (c, m) (c, m) (some (vI (nI (muchV n p row k o)))) := by
        rw [q1, q2]
        exact c_much hs hn hp hr hk4 ho6
      refine go_ev 60 [4] (bF (c := c.1 11 t 3 ≤ nI r) (by rw [hT.1, nIle (by omega) (by omega)]; omega) ?_)
      refine dI hin ?_
      refine bI (c := c.2.1 14 t (nI r).toNatClampNeg = nI f) (fun h => ?_) (fun h => ?_)
      · rw [q3, nIeq (by omega) (by omega)] at h
        refine dI hin (dI hin (iF hM (by decide) (And.intro rfl ?_)))
        rw [hl]
        unfold letR
        rw [if_pos (Or.inl h)]
      · rw [q3, nIeq (by omega) (by omega)] at h
        have hdp : dpS (seg T.2 f e) 0 = some 1 := hdp.resolve_left h
        have hH : Fn 1 42 [vR false 11 t, vI (nI f), vI (c.2.1 14 t (nI r).toNatClampNeg), vR false 19 0] (c, m) (c, m) (some (vI (bi (hldB n p row day T.2 f e = true)))) := by
          rw [q3]
          exact c_holds hs hn hp hr hday hT hok hfe hes hdp
        refine dI hin (iF hH (by decide) (bI (fun h2 => ?_) (fun h2 => ?_)))
        · rw [bi_0] at h2
          refine dI hin ?_
          refine ih (r + 1) e _ _ (by omega) (nI_succ r).symm q3 hR' hes ?_
          rw [hl]
          conv => lhs; unfold letR
          rw [if_neg (fun z => z.elim h h2)]
        · rw [bi_0, Classical.not_not] at h2
          refine dI hin (dI hin (iF hM (by decide) (And.intro rfl ?_)))
          rw [hl]
          unfold letR
          rw [if_pos (Or.inr h2)]
  refine ctr_ev 60 [4] rfl rfl ?_
  exact key T.1.length 0 0 0 0 (by omega) rfl rfl hok.2.2.2 (Nat.zero_le _) rfl
/-- what was looked at last -/
def lkd (c : Sd) (n p row day : Nat) : Sd := (up3 (up3 (up3 (up3 c.1 19 0 0 (nI p)) 19 0 1 (nI (wdd row p 0))) 19 0 2 (nI day)) 19 0 3 (nI n), c.2.1, c.2.2)
theorem lkd_scn (c : Sd) (n p row day : Nat) : Scn (lkd c n p row day) n p row day := ⟨rfl, rfl, rfl, rfl⟩
theorem lkd_CT (h : CT c t T) : CT (lkd c n p row day) t T := h
theorem c_pAllowed (hn : n ≤ 6) (hp : p < n) (hr : row < 4 ^ n) (hday : day ≤ 9) (hT : CT c (c.2.2 9 p) T) (hok : okT T) (hnum : c.1 9 p 0 = nI p) : Fn 3 8 [vR false 9 p, vI (nI row), vI (nI day), vI (nI n)] (c, m) (lkd c n p row day, m) (some (vI (nI (letT n p row day T)))) := by
  have h6 := pow4_le hn
  have hL : Fn 1 31 [vR false 19 0, vI (c.1 9 p 0), vI (nI row), vI (nI day), vI (nI n)] (c, m) (lkd c n p row day, m) none := by
    rw [hnum]
    exact c_look (by omega) (by omega) _ _
  refine ctr_ev 40 [] rfl rfl (iF hL (by decide) ?_)
  exact iF (c_tAllowed (lkd_scn c n p row day) hn hp hr hday (lkd_CT hT) hok) (by decide) (And.intro rfl rfl)
end ALW

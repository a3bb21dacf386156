/-! the model's climbs -/
def MS (J : Sd → Prop) (g a : Nat → Int32) : Sd → Prop := fun m => J m ∧ (∀ f, 44 ≤ f → f ≤ 46 → m.1 0 0 f = g f) ∧ m.2.1 43 0 = a
def MK (n : Nat) (l : Nat → Nat → Nat → Nat) (J : Sd → Prop) : Prop := (∀ g a, MH n l (MS J g a)) ∧ (∀ c m f x, 44 ≤ f → f ≤ 46 → J m → J (sF (c, m) true 0 0 f x).2) ∧ ∀ c m j x, J m → J (sA (c, m) true 43 0 j x).2
def QU (J : Sd → Prop) (c : Sd) (r t g : Int32) : Wd → Option PV → Prop := fun w' r' => ∃ m' : Sd, w' = (c, m') ∧ J m' ∧ m'.1 0 0 44 = r ∧ m'.1 0 0 45 = t ∧ m'.1 0 0 46 = g ∧ r' = none
section MO4
variable {n : Nat} {l : Nat → Nat → Nat → Nat} {J : Sd → Prop} {c m : Sd}
theorem m_nextRow (hH : MH n l J) (hm : J m) {row : Nat} (hr : row < 4 ^ n) (way : Int32) : Ctr 4 138 [vR true 0 0, vI (nI row), vI way] (c, m) (PM J c (nI (nxt n (fun p row => l p row 9) way row))) := by
  obtain ⟨⟨h1, h6⟩, hl, hn, hle⟩ := id hH
  have hr6 := pow4_le h6
  have hg : ∀ p row, (fun p row => l p row 9) p row < 4 := fun p row => hl p row 9
  generalize hgg : (fun p row => l p row 9) = g at hg
  have hgl : ∀ p row, l p row 9 = g p row := fun p row => by rw [← hgg]
  have key : ∀ (j k t : Nat) (x a : Int32) (m : Sd), k + j = n → x = nI k → a = nI t → t = (if way = 0 then digs (fun p => g p row) k else ob g row k) → t < 4 ^ n → J m → Go 4 138 none 13 [some (vR true 0 0), some (vI (nI row)), some (vI way), some (vI a), some (vI x)] [] (c, m) (PM J c (nI (nxt n g way row))) := by
    intro j
    induction j with
    | zero =>
      intro k t x a m hk hx ha ht hlt hm
      refine go_ev 40 [13] (bT (c := m.1 0 0 0 ≤ x) (by rw [hn m hm, hx, nIle (by omega) (by omega)]; omega) ?_)
      refine mqi hm ?_
      rw [ha, ht, show k = n by omega]
      rfl
    | succ j ih =>
      intro k t x a m hk hx ha ht hlt hm
      subst hx ha
      refine go_ev 60 [13] (bF (c := m.1 0 0 0 ≤ nI k) (by rw [hn m hm, nIle (by omega) (by omega)]; omega) ?_)
      refine bI (fun hw => ?_) (fun hw => ?_)
      · rw [if_pos hw] at ht
        refine iC (hle c m hm k row 9 (by omega) hr (by decide) (by decide)) (by decide) ?_
        rintro _ _ ⟨m2, rfl, hm2, rfl⟩
        refine ih (k + 1) (t + g k row * 4 ^ k) _ _ m2 (by omega) (nI_succ k).symm ?_ ?_ ?_ hm2
        · rw [nI_dig (by omega), hgl]
        · rw [if_pos hw, ht]
          rfl
        · rw [ht]
          exact Nat.lt_of_lt_of_le (digs_lt (fun p => hg p row) (k + 1)) (Nat.pow_le_pow_right (by decide) (by omega))
      · rw [if_neg hw] at ht
        refine iC (hle c m hm k t 9 (by omega) hlt (by decide) (by decide)) (by decide) ?_
        rintro _ _ ⟨m2, rfl, hm2, rfl⟩
        refine iF (m_deed _ (by omega) (by omega)) (by decide) ?_
        refine ih (k + 1) (wdd t k (g k t)) _ _ m2 (by omega) (nI_succ k).symm ?_ ?_ (wdd_lt hlt (by omega) (hg _ _)) hm2
        · rw [nI_put (by omega), hgl]
        · rw [if_neg hw, ht]
          rfl
  refine ctr_ev 40 [13] rfl rfl (bI (fun hw => ?_) (fun hw => ?_))
  · exact key n 0 0 0 0 m (by omega) rfl rfl (by rw [if_pos hw]; rfl) (pow4_pos n) hm
  · exact key n 0 row 0 _ m (by omega) rfl rfl (by rw [if_neg hw]; rfl) hr hm
theorem upd_at {f : Nat → Int32} {k : Nat} {x : Int32} (j : Nat) : upd f k x j = if j = k then x else f j := rfl
theorem m_goUp (hK : MK n l J) (hm : J m) {row mu la : Nat} (hr : row < 4 ^ n) (way : Int32) (hcy : Cyc (nxt n (fun p row => l p row 9) way) row mu la) : Ctr 5 139 [vR true 0 0, vI (nI row), vI way] (c, m) (QU J c (rstI (nxt n (fun p row => l p row 9) way) row mu la) (nI mu) (nI la)) := by
  obtain ⟨hH, hk1, hk2⟩ := hK
  obtain ⟨⟨h1, h6⟩, hl, -⟩ := id (hH (fun _ => 0) (fun _ => 0))
  have hr6 := pow4_le h6
  have hO := fun k => orb_lt (n := n) (g := fun p row => l p row 9) (fun p row => hl p row 9) (way := way) hr k
  have hla := hcy.1
  generalize hF : nxt n (fun p row => l p row 9) way = F at hcy hO
  have hsum : mu + la ≤ 4096 := by
    rcases Nat.lt_or_ge 4096 (mu + la) with q | q
    · exfalso
      obtain ⟨i, j, a1, a2, a3⟩ := pig (4 ^ n) (orb F row) (fun i _ => hO i)
      exact hcy.2.2 i j a1 (by omega) a3
    · exact q
  have cl : ∀ {k : Nat}, k < 4 ^ n → (nI k).toNatClampNeg = k := fun h => nI_clamp (by omega)
  have put : ∀ {g a : Nat → Int32} {m : Sd} (k : Nat) (x : Int32), k < 4 ^ n → MS J g a m → MS J g (upd a k x) (sA (c, m) true 43 0 (nI k).toNatClampNeg x).2 := by
    intro g a m k x hk h
    refine ⟨hk2 c m _ x h.1, h.2.1, ?_⟩
    rw [cl hk]
    show upd (m.2.1 43 0) k x = _
    rw [h.2.2]
  have k2 : ∀ (j s : Nat) (x y : Int32) (g a : Nat → Int32) (m : Sd), s + j = mu + la → x = nI (orb F row s) → y = nI s → (∀ i, i < s → a (orb F row i) = nI i) → (∀ r, r < 4 ^ n → (∀ i, i < s → orb F row i ≠ r) → a r = -1) → MS J g a m → Go 5 139 none 28 [some (vR true 0 0), some (vI (nI row)), some (vI way), some (vI x), some (vI y)] [] (c, m) (QU J c (rstI F row mu la) (nI mu) (nI la)) := by
    intro j
    induction j with
    | zero =>
      intro s x y g a m hs hx hy h1a h2a hm
      subst hx hy
      have hs : s = mu + la := by omega
      have hb := hO s
      have hmet : m.2.1 43 0 (nI (orb F row s)).toNatClampNeg = nI mu := by
        rw [cl hb, hm.2.2, hs, hcy.2.1]
        exact h1a mu (by omega)
      refine go_ev 40 [28] (dI (vp_in_nI (Nat.lt_of_lt_of_le hb hr6) (by decide)) ?_)
      refine bT (c := (0 : Int32) ≤ m.2.1 43 0 (nI (orb F row s)).toNatClampNeg) (by rw [hmet]; exact nI_pos' (by omega)) ?_
      refine dI (vp_in_nI (Nat.lt_of_lt_of_le hb hr6) (by decide)) ?_
      have hring : nI s - m.2.1 43 0 (nI (orb F row s)).toNatClampNeg = nI la := by
        rw [hmet, pk_sub (by omega), hs]
        congr 1
        omega
      refine bI (c := nI s - m.2.1 43 0 (nI (orb F row s)).toNatClampNeg = 1) (fun h => ?_) (fun h => ?_)
      · rw [hring, show (1 : Int32) = nI 1 from rfl, nIeq (by omega) (by decide)] at h
        refine ⟨_, rfl, hk1 _ _ 44 _ (by decide) (by decide) (hk1 _ _ 46 _ (by decide) (by decide) (hk1 c m 45 _ (by decide) (by decide) hm.1)), ?_, hmet, hring, rfl⟩
        show nI (orb F row s) = _
        rw [rstI, if_pos h, hs, hcy.2.1]
      · rw [hring, show (1 : Int32) = nI 1 from rfl, nIeq (by omega) (by decide)] at h
        refine ⟨_, rfl, hk1 _ _ 44 _ (by decide) (by decide) (hk1 _ _ 46 _ (by decide) (by decide) (hk1 c m 45 _ (by decide) (by decide) hm.1)), ?_, hmet, hring, rfl⟩
        show (-1 : Int32) = _
        rw [rstI, if_neg h]
    | succ j ih =>
      intro s x y g a m hs hx hy h1a h2a hm
      subst hx hy
      have hb := hO s
      have hnew : ∀ i, i < s → orb F row i ≠ orb F row s := fun i hi => hcy.2.2 i s hi (by omega)
      have hmet : m.2.1 43 0 (nI (orb F row s)).toNatClampNeg = -1 := by
        rw [cl hb, hm.2.2]
        exact h2a _ hb hnew
      refine go_ev 40 [28] (dI (vp_in_nI (Nat.lt_of_lt_of_le hb hr6) (by decide)) ?_)
      refine bF (c := (0 : Int32) ≤ m.2.1 43 0 (nI (orb F row s)).toNatClampNeg) (by rw [hmet]; decide) ?_
      refine dI (vp_in_nI (Nat.lt_of_lt_of_le hb hr6) (by decide)) ?_
      have hp := put (orb F row s) (nI s) hb hm
      have hnx := m_nextRow (c := c) (hH g (upd a (orb F row s) (nI s))) hp hb way
      rw [hF] at hnx
      refine iC hnx (by decide) ?_
      rintro _ _ ⟨m2, rfl, hm2, rfl⟩
      refine ih (s + 1) _ _ g _ m2 (by omega) rfl (nI_succ s).symm ?_ ?_ hm2
      · intro i hi
        rw [upd_at]
        by_cases his : i = s
        · rw [his, if_pos rfl]
        · rw [if_neg (hnew i (by omega))]
          exact h1a i (by omega)
      · intro r hr2 hni
        rw [upd_at, if_neg (fun z => hni s (by omega) z.symm)]
        exact h2a r hr2 (fun i hi => hni i (by omega))
  have k1 : ∀ (j k : Nat) (x : Int32) (g a : Nat → Int32) (m : Sd), k + j = 4 ^ n → x = nI k → (∀ r, r < k → a r = -1) → MS J g a m → Go 5 139 none 2 [some (vR true 0 0), some (vI (nI row)), some (vI way), some (vI x), none] [] (c, m) (QU J c (rstI F row mu la) (nI mu) (nI la)) := by
    intro j
    induction j with
    | zero =>
      intro k x g a m hk hx ha hm
      have hn := (hH g a).2.2.1 m hm
      refine go_ev 40 [2, 28] (iF (m_allRows h6 hn) (by decide) (bT (by rw [hx, nIle (by omega) (by omega)]; omega) ?_))
      exact k2 (mu + la) 0 _ _ g a m (by omega) rfl rfl (fun i hi => absurd hi (by omega)) (fun r hr2 _ => ha r (by omega)) hm
    | succ j ih =>
      intro k x g a m hk hx ha hm
      subst hx
      have hn := (hH g a).2.2.1 m hm
      refine go_ev 40 [2, 28] (iF (m_allRows h6 hn) (by decide) (bF (by rw [nIle (by omega) (by omega)]; omega) ?_))
      refine dI (vp_in_nI (by omega) (by decide)) ?_
      have hp := put k (-1) (by omega) hm
      refine ih (k + 1) _ g _ _ (by omega) (nI_succ k).symm ?_ hp
      intro r hr2
      rw [upd_at]
      split
      · rfl
      · exact ha r (by omega)
  refine ctr_ev 40 [2] rfl rfl ?_
  exact k1 (4 ^ n) 0 0 (fun f => m.1 0 0 f) (m.2.1 43 0) m (by omega) rfl (fun r hr2 => absurd hr2 (by omega)) ⟨hm, fun _ _ _ => rfl, rfl⟩
end MO4
/-- the model's side with a told word -/
def lw (l : Nat → Nat → Nat → Nat) (tl : Option Nat) (wd p row day : Nat) : Nat := if tl = some p then wd else l p row day
def MW (n : Nat) (l : Nat → Nat → Nat → Nat) (JW : Option Nat → Nat → Sd → Prop) : Prop := (1 ≤ n ∧ n ≤ 6) ∧ (∀ p row day, l p row day < 4) ∧ (∀ tl wd, (tl ≠ none → wd < 4) → MK n (lw l tl wd) (JW tl wd)) ∧ (∀ c m tl wd tl', (∀ q, tl' = some q → q < 6) → JW tl wd m → JW tl' wd (sF (c, m) true 0 0 35 (optI tl')).2) ∧ ∀ c m tl wd wd', JW tl wd m → JW tl wd' (sF (c, m) true 0 0 36 (nI wd')).2
def J0 (JW : Option Nat → Nat → Sd → Prop) : Sd → Prop := fun m => ∃ wd, JW none wd m
section MO5
variable {n : Nat} {l : Nat → Nat → Nat → Nat} {JW : Option Nat → Nat → Sd → Prop} {c m : Sd}
theorem m_goUpM (hW : MW n l JW) {tl : Option Nat} {wd : Nat} (hw : tl ≠ none → wd < 4) (hm : JW tl wd m) {row : Nat} (hr : row < 4 ^ n) (way : Int32) : Ctr 5 139 [vR true 0 0, vI (nI row), vI way] (c, m) (QU (JW tl wd) c (if (clM n l tl wd way row).2 = 1 then nI (clR n l tl wd way row) else -1) (nI (clM n l tl wd way row).1) (nI (clM n l tl wd way row).2)) := by
  obtain ⟨⟨h1, h6⟩, hl, hK, -⟩ := hW
  obtain ⟨a, b, -⟩ := clM_ok h6 hl hw way hr
  exact m_goUp (hK tl wd hw) hm hr way a
theorem MW.n0 (hW : MW n l JW) (hm : JW none 0 m) : m.1 0 0 0 = nI n := ((hW.2.2.1 none 0 (fun z => absurd rfl z)).1 (fun f => m.1 0 0 f) (m.2.1 43 0)).2.2.1 m ⟨hm, fun _ _ _ => rfl, rfl⟩
theorem m_climb (hW : MW n l JW) {wd : Nat} (hm : JW none wd m) (hn : m.1 0 0 0 = nI n) (r way x : Int32) : Ctr 6 140 [vR true 0 0, vI r, vI way, vI x] (c, m) (PM (JW none wd) c (sClimb n l r way x)) := by
  obtain ⟨⟨h1, h6⟩, hl, -⟩ := id hW
  have hr6 := pow4_le h6
  have e0 : ∀ row, clM n l none wd way row = clM n l none 0 way row := fun row => by
    unfold clM
    congr 1
  have e1 : ∀ row, clR n l none wd way row = clR n l none 0 way row := fun row => by
    unfold clR
    rw [e0]
    congr 1
  refine ctr_ev 60 [] rfl rfl (iF (m_noRow h6 hn r) (by decide) (bI (fun hr => ?_) (fun hr => ?_)))
  · rw [bi_0, Classical.not_not] at hr
    refine iF (m_in _ way 0 1) (by decide) (bI (fun hw => ?_) (fun hw => ?_))
    · rw [bi_0] at hw
      refine mqi hm ?_
      rw [sClimb, if_neg (fun z => hw z.2.1)]
    · rw [bi_0, Classical.not_not] at hw
      refine iF (m_in _ x 0 2) (by decide) (bI (fun hx => ?_) (fun hx => ?_))
      · rw [bi_0] at hx
        refine mqi hm ?_
        rw [sClimb, if_neg (fun z => hx z.2.2)]
      · rw [bi_0, Classical.not_not] at hx
        rw [sClimb, if_pos ⟨hr, hw, hx⟩]
        obtain ⟨hk, he⟩ := clampP (pow4_pos n) (by omega) hr
        generalize tN r = row at hk he ⊢
        subst he
        refine iC (m_goUpM hW (fun z => absurd rfl z) hm hk way) (by decide) ?_
        rintro _ _ ⟨m2, rfl, hm2, g1, g2, g3, rfl⟩
        rw [e0, e1] at g1
        rw [e0] at g2 g3
        refine bI (fun h0 => ?_) (fun h0 => ?_)
        · refine mqi hm2 ?_
          rw [if_pos h0]
          exact g1
        · rw [if_neg h0]
          refine bI (fun h2 => ?_) (fun h2 => ?_)
          · refine mqi hm2 ?_
            rw [if_pos h2]
            exact g2
          · refine mqi hm2 ?_
            rw [if_neg h2]
            exact g3
  · rw [bi_0, Classical.not_not] at hr
    refine mqi hm ?_
    rw [sClimb, if_neg (fun z => hr z.1)]
theorem m_leaving (hW : MW n l JW) {wd : Nat} (hm : JW none wd m) (hn : ∀ tl wd m, JW tl wd m → m.1 0 0 0 = nI n) (p r : Int32) : Ctr 6 142 [vR true 0 0, vI p, vI r] (c, m) (PM (J0 JW) c (sLeaving n l p r)) := by
  obtain ⟨⟨h1, h6⟩, hl, hK, hp1, hp2⟩ := id hW
  have hr6 := pow4_le h6
  refine ctr_ev 60 [] rfl rfl (iF (m_noPerson (hn _ _ m hm) p) (by decide) (bI (fun hp => ?_) (fun hp => ?_)))
  · rw [bi_0, Classical.not_not] at hp
    rw [sLeaving, if_pos hp]
    refine iF (m_noRow h6 (hn _ _ m hm) r) (by decide) (bI (fun hr => ?_) (fun hr => ?_))
    · rw [bi_0, Classical.not_not] at hr
      rw [if_pos hr]
      obtain ⟨hk, he⟩ := clampP h1 (by omega) hp
      obtain ⟨hk2, he2⟩ := clampP (pow4_pos n) (by omega) hr
      generalize tN p = q at hk he ⊢
      generalize tN r = row at hk2 he2 ⊢
      subst he he2
      obtain ⟨-, -, hR⟩ := clM_ok h6 hl (tl := some q) (wd := 0) (fun _ => by decide) 0 hk2
      have hm1 := hp1 c m none wd (some q) (fun q' hq => by cases hq; omega) hm
      have hm2 := hp2 c (sF (c, m) true 0 0 35 (optI (some q))).2 (some q) wd 0 hm1
      refine iC (m_goUpM hW (fun _ => by decide) hm2 hk2 0) (by decide) ?_
      rintro _ _ ⟨m2, rfl, hm2, g1, g2, g3, rfl⟩
      have hm3 := hp1 c m2 (some q) 0 none (fun q' hq => by cases hq) hm2
      have hn3 := hn _ _ _ hm3
      by_cases h1' : (clM n l (some q) 0 0 row).2 = 1
      · rw [if_pos h1'] at g1 ⊢
        refine bT (c := (0 : Int32) ≤ m2.1 0 0 44) (by rw [g1]; exact nI_pos' (by omega)) ?_
        refine iF (m_sumOf h6 hn3 (row := row) (by omega)) (by decide) ?_
        have hz := m_sumOf (c := c) h6 hn3 (row := clR n l (some q) 0 0 row) (by omega)
        rw [← g1] at hz
        refine iF hz (by decide) ?_
        exact mqi ⟨0, hm3⟩ rfl
      · rw [if_neg h1'] at g1 ⊢
        refine bF (c := (0 : Int32) ≤ m2.1 0 0 44) (by rw [g1]; decide) ?_
        exact mqi ⟨0, hm3⟩ rfl
    · rw [bi_0, Classical.not_not] at hr
      refine mqi ⟨wd, hm⟩ ?_
      rw [if_neg hr]
  · rw [bi_0, Classical.not_not] at hp
    refine mqi ⟨wd, hm⟩ ?_
    rw [sLeaving, if_neg hp]
end MO5

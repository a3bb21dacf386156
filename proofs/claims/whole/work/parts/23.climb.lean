/-! where a climb comes round, as a number -/
theorem pig : ∀ (N : Nat) (g : Nat → Nat), (∀ i, i ≤ N → g i < N) → ∃ i j, i < j ∧ j ≤ N ∧ g i = g j := by
  intro N
  induction N with
  | zero => intro g h; exact absurd (h 0 (Nat.le_refl _)) (by omega)
  | succ N ih =>
    intro g h
    by_cases hv : ∃ i, i ≤ N ∧ g i = g (N + 1)
    · obtain ⟨i, hi, e⟩ := hv
      exact ⟨i, N + 1, by omega, Nat.le_refl _, e⟩
    · have hv : ∀ i, i ≤ N → g i ≠ g (N + 1) := fun i hi e => hv ⟨i, hi, e⟩
      have hl := h (N + 1) (Nat.le_refl _)
      obtain ⟨i, j, h1, h2, h3⟩ := ih (fun i => if g i = N then g (N + 1) else g i) (fun i hi => by
        have h1 := h i (by omega)
        have h2 := hv i hi
        show (if g i = N then g (N + 1) else g i) < N
        split <;> omega)
      refine ⟨i, j, h1, by omega, ?_⟩
      have g1 := hv i (by omega)
      have g2 := hv j h2
      have h3 : (if g i = N then g (N + 1) else g i) = (if g j = N then g (N + 1) else g j) := h3
      split at h3 <;> split at h3
      · omega
      · exact absurd h3.symm g2
      · exact absurd h3 g1
      · exact h3
theorem fst_some {bad : Nat → Bool} : ∀ (j k q : Nat), k ≤ q → q < k + j → bad q = true → ∃ r, fst bad j k = some r ∧ r ≤ q := by
  intro j
  induction j with
  | zero => intro k q h1 h2; omega
  | succ j ih =>
    intro k q h1 h2 hb
    simp only [fst]
    by_cases hk : bad k = true
    · rw [if_pos hk]
      exact ⟨k, rfl, h1⟩
    · rw [if_neg hk]
      have : k ≠ q := fun z => hk (z ▸ hb)
      exact ih (k + 1) q (by omega) (by omega) hb
theorem fst_least {bad : Nat → Bool} : ∀ (j k r : Nat), fst bad j k = some r → ∀ q, k ≤ q → q < r → bad q = false := by
  intro j k r h q h1 h2
  cases hb : bad q with
  | false => rfl
  | true =>
    obtain ⟨a, b, -⟩ := fst_lt j k r h
    obtain ⟨r', e, hr⟩ := fst_some j k q h1 (by omega) hb
    rw [h] at e
    cases e
    omega
def dupB (f : Nat → Nat) (x j : Nat) : Bool := (fst (fun i => decide (orb f x i = orb f x j)) j 0).isSome
def cyM (f : Nat → Nat) (x : Nat) : Nat × Nat := match fst (dupB f x) 4097 0 with
  | none => (0, 1)
  | some j => (match fst (fun i => decide (orb f x i = orb f x j)) j 0 with
    | none => (0, 1)
    | some i => (i, j - i))
theorem cyM_ok {f : Nat → Nat} {x N : Nat} (hN : N ≤ 4096) (h : ∀ k, orb f x k < N) : Cyc f x (cyM f x).1 (cyM f x).2 ∧ (cyM f x).1 + (cyM f x).2 ≤ N := by
  obtain ⟨i, j, h1, h2, h3⟩ := pig N (orb f x) (fun i _ => h i)
  have hd : dupB f x j = true := by
    obtain ⟨r, e, -⟩ := fst_some (bad := fun i => decide (orb f x i = orb f x j)) j 0 i (by omega) (by omega) (by simp [h3])
    unfold dupB
    rw [e]
    rfl
  obtain ⟨J, hJ, hJj⟩ := fst_some (bad := dupB f x) 4097 0 j (by omega) (by omega) hd
  have hJd := (fst_lt _ _ _ hJ).2.2
  have hleast := fst_least _ _ _ hJ
  unfold dupB at hJd
  obtain ⟨a, ha⟩ := Option.isSome_iff_exists.mp hJd
  obtain ⟨-, ha2, ha3⟩ := fst_lt _ _ _ ha
  have e : cyM f x = (a, J - a) := by
    unfold cyM
    rw [hJ]
    simp only
    rw [ha]
  rw [e]
  have ha3 : orb f x a = orb f x J := of_decide_eq_true ha3
  refine ⟨⟨by show 1 ≤ J - a; omega, ?_, ?_⟩, by show a + (J - a) ≤ N; omega⟩
  · show orb f x (a + (J - a)) = orb f x a
    rw [show a + (J - a) = J by omega, ha3]
  · intro i' j' hij hj' heq
    have hj' : j' < J := by
      have : j' < a + (J - a) := hj'
      omega
    have := hleast j' (by omega) hj'
    unfold dupB at this
    obtain ⟨r, e, -⟩ := fst_some (bad := fun i => decide (orb f x i = orb f x j')) j' 0 i' (by omega) (by omega) (by simp [heq])
    rw [e] at this
    cases this
/-! the spec of the climbs -/
def clM (n : Nat) (l : Nat → Nat → Nat → Nat) (tl : Option Nat) (wd : Nat) (way : Int32) (row : Nat) : Nat × Nat := cyM (nxt n (lf l tl wd) way) row
def clR (n : Nat) (l : Nat → Nat → Nat → Nat) (tl : Option Nat) (wd : Nat) (way : Int32) (row : Nat) : Nat := orb (nxt n (lf l tl wd) way) row (clM n l tl wd way row).1
def sClimb (n : Nat) (l : Nat → Nat → Nat → Nat) (r way x : Int32) : Int32 := if inR n r ∧ inW 0 1 way ∧ inW 0 2 x then (if x = 0 then (if (clM n l none 0 way (tN r)).2 = 1 then nI (clR n l none 0 way (tN r)) else -1) else if x = 1 then nI (clM n l none 0 way (tN r)).1 else nI (clM n l none 0 way (tN r)).2) else -1002
def sLeaving (n : Nat) (l : Nat → Nat → Nat → Nat) (p r : Int32) : Int32 := if inP n p then (if inR n r then (if (clM n l (some (tN p)) 0 0 (tN r)).2 = 1 then 100 + nI (sumK (tN r) n) - nI (sumK (clR n l (some (tN p)) 0 0 (tN r)) n) else -1) else -1002) else -1001
def gnV (n : Nat) (l : Nat → Nat → Nat → Nat) (wo : Nat → Nat) (p w : Nat) (aim : Int32) : Int32 := if (clM n l (if w = 4 then none else some p) w 0 (4 ^ n - 1)).2 = 1 then (if aim ≤ nI (sumK (clR n l (if w = 4 then none else some p) w 0 (4 ^ n - 1)) n) then nI (wo p) else 0) - 10 * nI (dd (clR n l (if w = 4 then none else some p) w 0 (4 ^ n - 1)) p) else 0
def slyF (g : Nat → Int32) : Nat → Nat → Int32 × Int32 → Int32 × Int32
  | 0, _, b => b
  | k + 1, w, b => slyF g k (w + 1) (if b.2 < g w then (nI w, g w) else b)
def sSly (n : Nat) (l : Nat → Nat → Nat → Nat) (wo : Nat → Nat) (p aim x : Int32) : Int32 := if inP n p then (if inW 0 18 aim ∧ inW 0 1 x then (if x = 0 then (slyF (fun w => gnV n l wo (tN p) w aim) 4 0 (4, gnV n l wo (tN p) 4 aim)).1 else 1000 + (slyF (fun w => gnV n l wo (tN p) w aim) 4 0 (4, gnV n l wo (tN p) 4 aim)).2) else -1002) else -1001
section CLB
variable {n : Nat} {l : Nat → Nat → Nat → Nat} {I : Sd → Prop} {c m : Sd} {pt wo : Nat → Nat}
theorem CK.ch (hK : CK n l I) (hc : I c) : (1 ≤ n ∧ n ≤ 6) ∧ (∀ p row day, l p row day < 4) ∧ c.1 7 0 1 = nI n := by
  obtain ⟨h1, h2, h3, -⟩ := hK.1 (c.1 20 0)
  exact ⟨h1, h2, h3 c ⟨hc, fun _ => rfl⟩⟩
theorem clM_ok (h6 : n ≤ 6) (hl : ∀ p row day, l p row day < 4) {tl : Option Nat} {wd : Nat} (hw : tl ≠ none → wd < 4) (way : Int32) {row : Nat} (hr : row < 4 ^ n) : Cyc (nxt n (lf l tl wd) way) row (clM n l tl wd way row).1 (clM n l tl wd way row).2 ∧ (clM n l tl wd way row).1 + (clM n l tl wd way row).2 ≤ 4096 ∧ clR n l tl wd way row < 4 ^ n := by
  have h := cyM_ok (f := nxt n (lf l tl wd) way) (x := row) (pow4_le h6) (orb_lt (lf_lt hl hw) hr)
  exact ⟨h.1, Nat.le_trans h.2 (pow4_le h6), orb_lt (lf_lt hl hw) hr _⟩
theorem c_startM (hK : CK n l I) (hc : I c) {row wd : Nat} {tl : Option Nat} (hr : row < 4 ^ n) (ht : ∀ q, tl = some q → q < 2 ^ 31) (hw : tl ≠ none → wd < 4) (way : Int32) : Ctr 5 4 [vR false 20 0, vI (nI row), vI way, vI (optI tl), vI (nI wd)] (c, m) (QS I m (if (clM n l tl wd way row).2 = 1 then nI (clR n l tl wd way row) else -1) (nI (clM n l tl wd way row).1) (nI (clM n l tl wd way row).2)) := by
  obtain ⟨⟨h1, h6⟩, hl, -⟩ := hK.ch hc
  obtain ⟨a, b, -⟩ := clM_ok h6 hl hw way hr
  exact c_start hK hc hr ht hw way a b
theorem c_climb (hK : CK n l I) (hc : I c) (r way x : Int32) : Ctr 6 72 [vR false 0 0, vI r, vI way, vI x] (c, m) (PQ I m (sClimb n l r way x)) := by
  obtain ⟨⟨h1, h6⟩, hl, hn⟩ := hK.ch hc
  have hr6 := pow4_le h6
  refine ctr_ev 60 [] rfl rfl (iF (c_hasRow h6 hn r) (by decide) (bI (fun hr => ?_) (fun hr => ?_)))
  · rw [bi_0] at hr
    refine pqi hc ?_
    rw [sClimb, if_neg (fun z => hr z.1)]
  · rw [bi_0, Classical.not_not] at hr
    refine iF (c_within _ way 0 1) (by decide) (bI (fun hw => ?_) (fun hw => ?_))
    · rw [bi_0] at hw
      refine pqi hc ?_
      rw [sClimb, if_neg (fun z => hw z.2.1)]
    · rw [bi_0, Classical.not_not] at hw
      refine iF (c_within _ x 0 2) (by decide) (bI (fun hx => ?_) (fun hx => ?_))
      · rw [bi_0] at hx
        refine pqi hc ?_
        rw [sClimb, if_neg (fun z => hx z.2.2)]
      · rw [bi_0, Classical.not_not] at hx
        rw [sClimb, if_pos ⟨hr, hw, hx⟩]
        obtain ⟨hk, he⟩ := clampP (pow4_pos n) (by omega) hr
        generalize tN r = row at hk he ⊢
        subst he
        refine iC (c_startM hK hc (wd := 0) (tl := none) hk (fun q hq => by cases hq) (fun z => absurd rfl z) way) (by decide) ?_
        rintro _ _ ⟨c2, rfl, hc2, e1, e2, e3, rfl⟩
        refine bI (fun h0 => ?_) (fun h0 => ?_)
        · refine pqi hc2 ?_
          rw [if_pos h0]
          exact e1
        · rw [if_neg h0]
          refine bI (fun h2 => ?_) (fun h2 => ?_)
          · refine pqi hc2 ?_
            rw [if_pos h2]
            exact e2
          · refine pqi hc2 ?_
            rw [if_neg h2]
            exact e3
theorem c_leaving (hK : CK n l I) (hc : I c) (p r : Int32) : Ctr 6 74 [vR false 0 0, vI p, vI r] (c, m) (PQ I m (sLeaving n l p r)) := by
  obtain ⟨⟨h1, h6⟩, hl, hn⟩ := hK.ch hc
  have hr6 := pow4_le h6
  refine ctr_ev 60 [] rfl rfl (iF (c_has hn p) (by decide) (bI (fun hp => ?_) (fun hp => ?_)))
  · rw [bi_0] at hp
    refine pqi hc ?_
    rw [sLeaving, if_neg hp]
  · rw [bi_0, Classical.not_not] at hp
    rw [sLeaving, if_pos hp]
    refine iF (c_hasRow h6 hn r) (by decide) (bI (fun hr => ?_) (fun hr => ?_))
    · rw [bi_0] at hr
      refine pqi hc ?_
      rw [if_neg hr]
    · rw [bi_0, Classical.not_not] at hr
      rw [if_pos hr]
      obtain ⟨hk, he⟩ := clampP h1 (by omega) hp
      obtain ⟨hk2, he2⟩ := clampP (pow4_pos n) (by omega) hr
      generalize tN p = q at hk he ⊢
      generalize tN r = row at hk2 he2 ⊢
      subst he he2
      obtain ⟨-, -, hR⟩ := clM_ok h6 hl (tl := some q) (wd := 0) (fun _ => by decide) 0 hk2
      refine iC (c_startM hK hc (wd := 0) (tl := some q) hk2 (fun q' hq => by cases hq; omega) (fun _ => by decide) 0) (by decide) ?_
      rintro _ _ ⟨c2, rfl, hc2, e1, e2, e3, rfl⟩
      have hs1 := sumK_n (row := row) (n := n) hk2 6 h6
      by_cases h1' : (clM n l (some q) 0 0 row).2 = 1
      · rw [if_pos h1'] at e1 ⊢
        refine bF (c := c2.1 20 0 1 = -1) (by rw [e1]; exact nI_m1 (by omega)) ?_
        refine iF (c_sum _ (row := row) (by omega)) (by decide) ?_
        have hs2 := sumK_n hR 6 h6
        have hz := c_sum (c2, m) (row := clR n l (some q) 0 0 row) (by omega)
        rw [← e1] at hz
        refine iF hz (by decide) ?_
        refine pqi hc2 ?_
        rw [hs1, hs2]
      · rw [if_neg h1'] at e1 ⊢
        refine bT (c := c2.1 20 0 1 = -1) e1 ?_
        exact pqi hc2 rfl
theorem c_gain (hK : CK n l I) (hO : OH pt wo I) (hc : I c) {p w : Nat} (hp : p < n) (hw : w ≤ 4) (aim : Int32) : Ctr 6 85 [vR false 0 0, vI (nI p), vI (nI w), vI aim] (c, m) (PQ I m (gnV n l wo p w aim)) := by
  obtain ⟨⟨h1, h6⟩, hl, hn⟩ := hK.ch hc
  obtain ⟨hb, ho⟩ := hO
  have hr6 := pow4_le h6
  have hr1 := pow4_pos n
  have main : ∀ tl : Option Nat, tl = (if w = 4 then none else some p) → Go 6 85 none 24 [some (vR false 0 0), some (vI (nI p)), some (vI (nI w)), some (vI aim), none] [vI (optI tl), vI 0, vI (nI (4 ^ n) - 1), vR false 20 0] (c, m) (PQ I m (gnV n l wo p w aim)) := by
    intro tl htl
    have hwt : tl ≠ none → w < 4 := by
      intro z
      rw [htl] at z
      by_cases h4 : w = 4
      · rw [if_pos h4] at z
        exact absurd rfl z
      · omega
    have htq : ∀ q, tl = some q → q < 2 ^ 31 := by
      intro q hq
      rw [htl] at hq
      split at hq
      · cases hq
      · cases hq
        omega
    obtain ⟨-, -, hR⟩ := clM_ok h6 hl hwt 0 (row := 4 ^ n - 1) (by omega)
    have hst := c_startM (m := m) hK hc (row := 4 ^ n - 1) (wd := w) (tl := tl) (by omega) htq hwt 0
    rw [← nI_sub1 hr1] at hst
    unfold gnV
    rw [← htl]
    refine go_ev 60 [] (iC hst (by decide) ?_)
    rintro _ _ ⟨c2, rfl, hc2, e1, e2, e3, rfl⟩
    by_cases h1' : (clM n l tl w 0 (4 ^ n - 1)).2 = 1
    · rw [if_pos h1'] at e1 ⊢
      refine bF (c := c2.1 20 0 1 = -1) (by rw [e1]; exact nI_m1 (by omega)) ?_
      have hs2 := sumK_n hR 6 h6
      have hz := c_sum (c2, m) (row := clR n l tl w 0 (4 ^ n - 1)) (by omega)
      rw [← e1, hs2] at hz
      have hd := c_deedN (c2, m) (row := clR n l tl w 0 (4 ^ n - 1)) (p := p) (by omega) (by omega)
      rw [← e1] at hd
      refine iF hz (by decide) ?_
      refine bI (fun ha => ?_) (fun ha => ?_)
      · refine iF hd (by decide) ?_
        refine pqi hc2 ?_
        rw [if_neg (Int32.not_le.mpr ha)]
      · refine dI (vp6 (by omega)) ?_
        refine iF hd (by decide) ?_
        refine pqi hc2 ?_
        rw [if_pos (Int32.not_lt.mp ha)]
        show c2.1 9 (nI p).toNatClampNeg 4 - _ = _
        rw [nI_clamp (by omega), (ho c2 hc2 p (by omega)).2]
    · rw [if_neg h1'] at e1 ⊢
      refine bT (c := c2.1 20 0 1 = -1) e1 ?_
      exact pqi hc2 rfl
  refine ctr_ev 60 [24] rfl rfl (iF (c_rows h6 hn) (by decide) ?_)
  refine bI (fun h4 => ?_) (fun h4 => ?_)
  · have h4 : w = 4 := (nIeq (by omega) (by decide)).mp h4
    exact main none (by rw [if_pos h4])
  · have h4 : ¬ w = 4 := fun z => h4 (by rw [z]; rfl)
    exact main (some p) (by rw [if_neg h4])
theorem c_sly (hK : CK n l I) (hO : OH pt wo I) (hc : I c) (p aim x : Int32) : Ctr 7 81 [vR false 0 0, vI p, vI aim, vI x] (c, m) (PQ I m (sSly n l wo p aim x)) := by
  obtain ⟨⟨h1, h6⟩, hl, hn⟩ := hK.ch hc
  refine ctr_ev 60 [53] rfl rfl (iF (c_has hn p) (by decide) (bI (fun hp => ?_) (fun hp => ?_)))
  · rw [bi_0] at hp
    refine pqi hc ?_
    rw [sSly, if_neg hp]
  · rw [bi_0, Classical.not_not] at hp
    rw [sSly, if_pos hp]
    refine iF (c_within _ aim 0 18) (by decide) (bI (fun ha => ?_) (fun ha => ?_))
    · rw [bi_0] at ha
      refine pqi hc ?_
      rw [if_neg (fun z => ha z.1)]
    · rw [bi_0, Classical.not_not] at ha
      refine iF (c_within _ x 0 1) (by decide) (bI (fun hx => ?_) (fun hx => ?_))
      · rw [bi_0] at hx
        refine pqi hc ?_
        rw [if_neg (fun z => hx z.2)]
      · rw [bi_0, Classical.not_not] at hx
        rw [if_pos ⟨ha, hx⟩]
        obtain ⟨hk, he⟩ := clampP h1 (by omega) hp
        generalize tN p = q at hk he ⊢
        subst he
        generalize hg : (fun w => gnV n l wo q w aim) = g
        have hgw : ∀ w, gnV n l wo q w aim = g w := fun w => by rw [← hg]
        rw [hgw 4]
        have key : ∀ (j k : Nat) (y : Int32) (b : Int32 × Int32) (v7 : Option PV) (c : Sd), k + j = 4 → y = nI k → slyF g 4 0 (4, g 4) = slyF g j k b → I c → Go 7 81 none 53 [some (vR false 0 0), some (vI (nI q)), some (vI aim), some (vI x), some (vI b.1), some (vI b.2), some (vI y), v7] [] (c, m) (PQ I m (if x = 0 then (slyF g 4 0 (4, g 4)).1 else 1000 + (slyF g 4 0 (4, g 4)).2)) := by
          intro j
          induction j with
          | zero =>
            intro k y b v7 c hk hy hf hc
            subst hy
            refine go_ev 40 [53] (bT (by rw [show (3 : Int32) = nI 3 from rfl, nIlt (by decide) (by omega)]; omega) ?_)
            refine bI (fun h0 => ?_) (fun h0 => ?_)
            · refine pqi hc ?_
              rw [if_pos h0, hf]
              rfl
            · refine pqi hc ?_
              rw [if_neg h0, hf]
              rfl
          | succ j ih =>
            intro k y b v7 c hk hy hf hc
            subst hy
            refine go_ev 40 [53] (bF (by rw [show (3 : Int32) = nI 3 from rfl, nIlt (by decide) (by omega)]; omega) ?_)
            have hgn := c_gain (m := m) hK hO hc (p := q) (w := k) (by omega) (by omega) aim
            rw [hgw k] at hgn
            refine iC hgn (by decide) ?_
            rintro _ _ ⟨c2, rfl, hc2, rfl⟩
            refine bI (fun h0 => ?_) (fun h0 => ?_)
            · refine ih (k + 1) _ b _ c2 (by omega) (nI_succ k).symm ?_ hc2
              rw [hf]
              simp only [slyF]
              rw [if_neg (Int32.not_lt.mpr h0)]
            · refine ih (k + 1) _ (nI k, g k) _ c2 (by omega) (nI_succ k).symm ?_ hc2
              rw [hf]
              simp only [slyF]
              rw [if_pos (Int32.not_le.mp h0)]
        have hgn := c_gain (m := m) hK hO hc (p := q) (w := 4) (by omega) (by omega) aim
        rw [hgw 4] at hgn
        refine iC hgn (by decide) ?_
        rintro _ _ ⟨c2, rfl, hc2, rfl⟩
        exact key 4 0 0 (4, g 4) none c2 (by omega) rfl rfl hc2
end CLB

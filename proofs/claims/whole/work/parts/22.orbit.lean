/-! orbits: where a climb comes round -/
def orb (f : Nat → Nat) (x : Nat) : Nat → Nat
  | 0 => x
  | k + 1 => f (orb f x k)
def Cyc (f : Nat → Nat) (x mu la : Nat) : Prop := 1 ≤ la ∧ orb f x (mu + la) = orb f x mu ∧ ∀ i j, i < j → j < mu + la → orb f x i ≠ orb f x j
section ORB
variable {f : Nat → Nat} {x mu la : Nat}
theorem cyc_per (h : Cyc f x mu la) : ∀ d, orb f x (mu + d + la) = orb f x (mu + d)
  | 0 => h.2.1
  | d + 1 => by
    rw [show mu + (d + 1) + la = (mu + d + la) + 1 by omega, show mu + (d + 1) = (mu + d) + 1 by omega]
    simp only [orb]
    rw [cyc_per h d]
theorem cyc_per2 (h : Cyc f x mu la) (d : Nat) : ∀ k, orb f x (mu + d + k * la) = orb f x (mu + d)
  | 0 => by simp
  | k + 1 => by
    have := cyc_per h (d + k * la)
    rw [show mu + d + (k + 1) * la = mu + (d + k * la) + la by rw [Nat.add_mul]; omega, this, show mu + (d + k * la) = mu + d + k * la by omega]
    exact cyc_per2 h d k
theorem cyc_rep (h : Cyc f x mu la) {i : Nat} (hi : mu ≤ i) : orb f x i = orb f x (mu + (i - mu) % la) := by
  have h1 := cyc_per2 h ((i - mu) % la) ((i - mu) / la)
  have h2 := Nat.mod_add_div (i - mu) la
  rw [← h1]
  congr 1
  rw [Nat.mul_comm] at h2
  omega
theorem cyc_iff (h : Cyc f x mu la) {i j : Nat} (hij : i < j) : orb f x i = orb f x j ↔ mu ≤ i ∧ (j - i) % la = 0 := by
  have hl := h.1
  constructor
  · intro he
    have hmi := Nat.mod_lt (i - mu) (show 0 < la by omega)
    have hmj := Nat.mod_lt (j - mu) (show 0 < la by omega)
    have key : ∀ a b, a < mu + la → b < mu + la → orb f x a = orb f x b → a = b := by
      intro a b ha hb hab
      rcases Nat.lt_trichotomy a b with q | q | q
      · exact absurd hab (h.2.2 a b q hb)
      · exact q
      · exact absurd hab.symm (h.2.2 b a q ha)
    by_cases hi : mu ≤ i
    · refine ⟨hi, ?_⟩
      rw [cyc_rep h hi, cyc_rep h (i := j) (by omega)] at he
      have := key _ _ (by omega) (by omega) he
      have h3 : (j - mu) % la = (i - mu) % la := by omega
      have h4 := Nat.sub_mod_eq_zero_of_mod_eq h3
      rw [show j - mu - (i - mu) = j - i by omega] at h4
      exact h4
    · exfalso
      by_cases hj : mu ≤ j
      · rw [cyc_rep h hj] at he
        have := key _ _ (by omega) (by omega) he
        omega
      · have := key _ _ (by omega) (by omega) he
        omega
  · rintro ⟨hi, hm⟩
    have h1 := cyc_per2 h (i - mu) ((j - i) / la)
    have h2 := Nat.mod_add_div (j - i) la
    rw [hm, Nat.zero_add, Nat.mul_comm] at h2
    rw [h2, show mu + (i - mu) = i by omega, show i + (j - i) = j by omega] at h1
    exact h1.symm
theorem cyc_la (h : Cyc f x mu la) {P r : Nat} (hr : 1 ≤ r) (he : orb f x (P + r) = orb f x P) (hno : ∀ r', 1 ≤ r' → r' < r → orb f x (P + r') ≠ orb f x P) : r = la ∧ mu ≤ P := by
  have h1 := (cyc_iff h (i := P) (j := P + r) (by omega)).mp he.symm
  rw [Nat.add_sub_cancel_left] at h1
  have hl := h.1
  have hge : la ≤ r := Nat.le_of_dvd (by omega) (Nat.dvd_of_mod_eq_zero h1.2)
  refine ⟨?_, h1.1⟩
  rcases Nat.lt_or_ge la r with q | q
  · exfalso
    refine hno la hl q ((cyc_iff h (i := P) (j := P + la) (by omega)).mpr ⟨h1.1, ?_⟩).symm
    rw [Nat.add_sub_cancel_left, Nat.mod_self]
  · omega
end ORB
/-- what a step does: at once (way 0) or one by one; tl, wd: one who does a told word -/
def lf (l : Nat → Nat → Nat → Nat) (tl : Option Nat) (wd p row : Nat) : Nat := if tl = some p then wd else l p row 9
def ob (g : Nat → Nat → Nat) (row : Nat) : Nat → Nat
  | 0 => row
  | k + 1 => wdd (ob g row k) k (g k (ob g row k))
def nxt (n : Nat) (g : Nat → Nat → Nat) (way : Int32) (row : Nat) : Nat := if way = 0 then digs (fun p => g p row) n else ob g row n
theorem lf_lt {l : Nat → Nat → Nat → Nat} (hl : ∀ p row day, l p row day < 4) {tl : Option Nat} {wd : Nat} (hw : tl ≠ none → wd < 4) (p row : Nat) : lf l tl wd p row < 4 := by
  unfold lf
  split
  · rename_i h
    exact hw (by rw [h]; simp)
  · exact hl _ _ _
theorem ob_lt {n : Nat} {g : Nat → Nat → Nat} (hg : ∀ p row, g p row < 4) {row : Nat} (hr : row < 4 ^ n) : ∀ k, k ≤ n → ob g row k < 4 ^ n
  | 0, _ => hr
  | k + 1, h => wdd_lt (ob_lt hg hr k (by omega)) (by omega) (hg _ _)
theorem nxt_lt {n : Nat} {g : Nat → Nat → Nat} (hg : ∀ p row, g p row < 4) {way : Int32} {row : Nat} (hr : row < 4 ^ n) : nxt n g way row < 4 ^ n := by
  unfold nxt
  split
  · exact digs_lt (fun p => hg p row) n
  · exact ob_lt hg hr n (Nat.le_refl _)
theorem orb_lt {n : Nat} {g : Nat → Nat → Nat} (hg : ∀ p row, g p row < 4) {way : Int32} {row : Nat} (hr : row < 4 ^ n) : ∀ k, orb (nxt n g way) row k < 4 ^ n
  | 0 => hr
  | k + 1 => nxt_lt hg (orb_lt hg hr k)
/-- the class's side: I holds whatever the climber's own numbers are -/
def CK (n : Nat) (l : Nat → Nat → Nat → Nat) (I : Sd → Prop) : Prop := (∀ g : Nat → Int32, CH n l (fun c => I c ∧ ∀ f, c.1 20 0 f = g f)) ∧ ∀ c m f x, I c → I (sF (c, m) false 20 0 f x).1
section CLI
variable {n : Nat} {l : Nat → Nat → Nat → Nat} {I : Sd → Prop} {c m : Sd}
theorem optI_eq {o : Option Nat} {k : Nat} (h : ∀ q, o = some q → q < 2 ^ 31) (hk : k < 2 ^ 31) : nI k = optI o ↔ o = some k := by
  cases o with
  | none => exact ⟨fun z => absurd z (nI_m1 hk), fun z => by cases z⟩
  | some q =>
    rw [show optI (some q) = nI q from rfl, nIeq hk (h q rfl)]
    exact ⟨fun z => by rw [z], fun z => by cases z; rfl⟩
theorem mix_lt {n row k S : Nat} (hr : row < 4 ^ n) (hk : k ≤ n) (hS : S < 4 ^ k) : S + row / 4 ^ k * 4 ^ k < 4 ^ n := by
  obtain ⟨i, hi⟩ : ∃ i, n = k + i := ⟨n - k, by omega⟩
  have e : 4 ^ n = 4 ^ k * 4 ^ i := by rw [hi, Nat.pow_add]
  have h3 : row / 4 ^ k < 4 ^ i := Nat.div_lt_of_lt_mul (by rw [← e]; exact hr)
  have h4 : (row / 4 ^ k + 1) * 4 ^ k ≤ 4 ^ i * 4 ^ k := Nat.mul_le_mul_right _ h3
  rw [Nat.add_mul, Nat.one_mul, Nat.mul_comm (4 ^ i), ← e] at h4
  omega
theorem c_next (hH : CH n l I) (hc : I c) {row wd : Nat} {tl : Option Nat} (hr : row < 4 ^ n) (ht : ∀ q, tl = some q → q < 2 ^ 31) (hw : tl ≠ none → wd < 4) (way : Int32) : Ctr 4 5 [vR false 20 0, vI (nI row), vI way, vI (optI tl), vI (nI wd)] (c, m) (PQ I m (nI (nxt n (lf l tl wd) way row))) := by
  obtain ⟨⟨h1, h6⟩, hl, hn, -, hao, -⟩ := id hH
  have hr6 := pow4_le h6
  have hg := lf_lt hl hw
  have key : ∀ (j k dn : Nat) (x a : Int32) (v7 v8 : Option PV) (c : Sd), k + j = n → x = nI k → a = nI dn → dn < 4 ^ n → dn = (if way = 0 then digs (fun p => lf l tl wd p row) k + row / 4 ^ k * 4 ^ k else ob (lf l tl wd) row k) → (v7 = none ∨ ∃ z, v7 = some (vI z)) → I c → Go 4 5 none 6 [some (vR false 20 0), some (vI (nI row)), some (vI way), some (vI (optI tl)), some (vI (nI wd)), some (vI a), some (vI x), v7, v8] [] (c, m) (PQ I m (nI (nxt n (lf l tl wd) way row))) := by
    intro j
    induction j with
    | zero =>
      intro k dn x a v7 v8 c hk hx ha hlt hd hv hc
      have hkn : k = n := by omega
      subst hkn
      refine go_ev 40 [6] (bT (c := c.1 7 0 1 ≤ x) (by rw [hn c hc, hx, nIle (by omega) (by omega)]; omega) ?_)
      refine pqi hc ?_
      rw [ha, hd, nxt]
      split
      · rw [Nat.div_eq_of_lt hr, Nat.zero_mul, Nat.add_zero]
      · rfl
    | succ j ih =>
      intro k dn x a v7 v8 c hk hx ha hlt hd hv hc
      subst hx ha
      have hdg := digs_lt (fun p => hg p row) k
      have fin : ∀ (c2 : Sd) (v7 : Int32) (dz : Nat), I c2 → dz < 4 → dz = lf l tl wd k (if way = 0 then row else dn) → Go 4 5 none 67 [some (vR false 20 0), some (vI (nI row)), some (vI way), some (vI (optI tl)), some (vI (nI wd)), some (vI (nI dn)), some (vI (nI k)), some (vI v7), some (vI (nI dz))] [] (c2, m) (PQ I m (nI (nxt n (lf l tl wd) way row))) := by
        intro c2 v7 dz hc2 hdz he
        refine go_ev 20 [6] (iF (c_withDeedN _ (by omega) (by omega) hdz) (by decide) ?_)
        refine ih (k + 1) (wdd dn k dz) _ _ _ _ c2 (by omega) (nI_succ k).symm rfl (wdd_lt hlt (by omega) hdz) ?_ (Or.inr ⟨_, rfl⟩) hc2
        by_cases hway : way = 0
        · rw [if_pos hway] at hd he ⊢
          rw [hd, mix_step hdg, he]
          rfl
        · rw [if_neg hway] at hd he ⊢
          rw [he, hd]
          rfl
      refine go_ev 60 [6, 67] (bF (c := c.1 7 0 1 ≤ nI k) (by rw [hn c hc, nIle (by omega) (by omega)]; omega) ?_)
      refine bI (fun hway => ?_) (fun hway => ?_)
      · refine bI (fun htl => ?_) (fun htl => ?_)
        · rw [optI_eq ht (by omega)] at htl
          exact fin c _ wd hc (hw (by rw [htl]; simp)) (by unfold lf; rw [if_pos htl])
        · rw [optI_eq ht (by omega)] at htl
          refine dI (vp6 (by omega)) ?_
          refine iC (hao c m hc k row 9 (by omega) hr (by decide) (by decide)) (by decide) ?_
          rintro _ _ ⟨c2, rfl, hc2, rfl⟩
          exact fin c2 _ _ hc2 (hl _ _ _) (by unfold lf; rw [if_neg htl, if_pos hway])
      · refine bI (fun htl => ?_) (fun htl => ?_)
        · rw [optI_eq ht (by omega)] at htl
          exact fin c _ wd hc (hw (by rw [htl]; simp)) (by unfold lf; rw [if_pos htl])
        · rw [optI_eq ht (by omega)] at htl
          refine dI (vp6 (by omega)) ?_
          refine iC (hao c m hc k dn 9 (by omega) hlt (by decide) (by decide)) (by decide) ?_
          rintro _ _ ⟨c2, rfl, hc2, rfl⟩
          exact fin c2 _ _ hc2 (hl _ _ _) (by unfold lf; rw [if_neg htl, if_neg hway])
  refine ctr_ev 40 [6] rfl rfl ?_
  exact key n 0 row 0 (nI row) none none c (by omega) rfl rfl hr (by simp [digs, ob]) (Or.inl rfl) hc
/-- the climber's numbers behind a climb -/
def cF (g : Nat → Int32) (f : Nat) (x : Int32) : Nat → Int32 := fun k => if k = f then x else g k
theorem cF_at {c m : Sd} {g : Nat → Int32} {f : Nat} {x : Int32} (h : ∀ k, c.1 20 0 k = g k) : ∀ k, (sF (c, m) false 20 0 f x).1.1 20 0 k = cF g f x k := by
  intro k
  show up3 c.1 20 0 f x 20 0 k = _
  unfold up3 cF
  simp only [if_true]
  rw [h]
def IG (I : Sd → Prop) (g : Nat → Int32) : Sd → Prop := fun c => I c ∧ ∀ f, c.1 20 0 f = g f
theorem ig_put {n : Nat} {l : Nat → Nat → Nat → Nat} (hK : CK n l I) {g : Nat → Int32} (f : Nat) (x : Int32) (hc : IG I g c) : IG I (cF g f x) (sF (c, m) false 20 0 f x).1 := ⟨hK.2 c m f x hc.1, cF_at hc.2⟩
/-- the answer of a climb, by where it comes round -/
def rstI (f : Nat → Nat) (row mu la : Nat) : Int32 := if la = 1 then nI (orb f row mu) else -1
def QS (I : Sd → Prop) (m : Sd) (rst stp rnd : Int32) : Wd → Option PV → Prop := fun w' r' => ∃ c' : Sd, w' = (c', m) ∧ I c' ∧ c'.1 20 0 1 = rst ∧ c'.1 20 0 2 = stp ∧ c'.1 20 0 3 = rnd ∧ r' = none
set_option maxHeartbeats 1000000 in
theorem c_start (hK : CK n l I) (hc : I c) {row wd mu la : Nat} {tl : Option Nat} (hr : row < 4 ^ n) (ht : ∀ q, tl = some q → q < 2 ^ 31) (hw : tl ≠ none → wd < 4) (way : Int32) (hcy : Cyc (nxt n (lf l tl wd) way) row mu la) (hml : mu + la ≤ 4096) : Ctr 5 4 [vR false 20 0, vI (nI row), vI way, vI (optI tl), vI (nI wd)] (c, m) (QS I m (rstI (nxt n (lf l tl wd) way) row mu la) (nI mu) (nI la)) := by
  have hH := hK.1
  obtain ⟨⟨h1, h6⟩, hl, -⟩ := id (hH (fun _ => 0))
  have hr6 := pow4_le h6
  have hg := lf_lt hl hw
  have hO := fun k => orb_lt (n := n) hg (way := way) hr k
  have hla := hcy.1
  generalize hF : nxt n (lf l tl wd) way = F at hcy hO
  have hnx : ∀ {g : Nat → Int32} {c : Sd} (k : Nat), IG I g c → Ctr 4 5 [vR false 20 0, vI (nI (orb F row k)), vI way, vI (optI tl), vI (nI wd)] (c, m) (PQ (IG I g) m (nI (orb F row (k + 1)))) := by
    intro g c k hc
    have := c_next (m := m) (hH g) hc (hO k) ht hw way
    rw [hF] at this
    exact this
  -- third part: the two go on with a round between them
  have k3 : ∀ (j i : Nat) (here ahead : Int32) (v5 v7 : Int32) (g : Nat → Int32) (c : Sd), i + j = mu → here = nI (orb F row i) → ahead = nI (orb F row (i + la)) → g 2 = nI i → g 3 = nI la → IG I g c → Go 5 4 none 133 [some (vR false 20 0), some (vI (nI row)), some (vI way), some (vI (optI tl)), some (vI (nI wd)), some (vI v5), some (vI ahead), some (vI v7), some (vI here)] [] (c, m) (QS I m (rstI F row mu la) (nI mu) (nI la)) := by
    intro j
    induction j with
    | zero =>
      intro i here ahead v5 v7 g c hi hh hah hg2 hg3 hc
      have hmu : i = mu := by omega
      subst hmu
      have heq : here = ahead := by rw [hh, hah, hcy.2.1]
      refine go_ev 40 [133] (bT heq ?_)
      have h3 : c.1 20 0 3 = nI la := by rw [hc.2 3, hg3]
      refine bI (c := c.1 20 0 3 = 1) (fun h => ?_) (fun h => ?_)
      · have h' : la = 1 := by
          rw [h3, show (1 : Int32) = nI 1 from rfl, nIeq (by omega) (by decide)] at h
          exact h
        have hp := ig_put (m := m) hK 1 here hc
        exact ⟨(sF (c, m) false 20 0 1 here).1, rfl, hp.1, (hp.2 1).trans (show here = _ from by rw [rstI, if_pos h', hh]), (hp.2 2).trans hg2, (hp.2 3).trans hg3, rfl⟩
      · have h' : ¬ la = 1 := by
          rw [h3, show (1 : Int32) = nI 1 from rfl, nIeq (by omega) (by decide)] at h
          exact h
        have hp := ig_put (m := m) hK 1 (-1) hc
        exact ⟨(sF (c, m) false 20 0 1 (-1)).1, rfl, hp.1, (hp.2 1).trans (show (-1 : Int32) = _ from by rw [rstI, if_neg h']), (hp.2 2).trans hg2, (hp.2 3).trans hg3, rfl⟩
    | succ j ih =>
      intro i here ahead v5 v7 g c hi hh hah hg2 hg3 hc
      subst hh hah
      have hne : ¬ nI (orb F row i) = nI (orb F row (i + la)) := by
        have := hO i
        have := hO (i + la)
        rw [nIeq (by omega) (by omega), cyc_iff hcy (by omega)]
        omega
      refine go_ev 40 [133] (bF hne ?_)
      have h2 : c.1 20 0 2 = nI i := by rw [hc.2 2, hg2]
      refine bF (c := (16384 : Int32) ≤ c.1 20 0 2) (by rw [h2, show (16384 : Int32) = nI 16384 from rfl, nIle (by decide) (by omega)]; omega) ?_
      refine iC (hnx i hc) (by decide) ?_
      rintro _ _ ⟨c2, rfl, hc2, rfl⟩
      refine iC (hnx (i + la) hc2) (by decide) ?_
      rintro _ _ ⟨c3, rfl, hc3, rfl⟩
      have hp := ig_put (m := m) hK 2 (c3.1 20 0 2 + 1) hc3
      refine ih (i + 1) _ _ _ _ (cF g 2 (c3.1 20 0 2 + 1)) _ (by omega) rfl (by rw [show i + 1 + la = i + la + 1 by omega]) ?_ hg3 hp
      show c3.1 20 0 2 + 1 = _
      rw [hc3.2 2, hg2, nI_succ]
  -- second part: a round ahead
  have k2 : ∀ (j i : Nat) (x ahead : Int32) (v5 v7 : Int32) (g : Nat → Int32) (c : Sd), i + j = la → x = nI i → ahead = nI (orb F row i) → g 3 = nI la → IG I g c → Go 5 4 none 98 [some (vR false 20 0), some (vI (nI row)), some (vI way), some (vI (optI tl)), some (vI (nI wd)), some (vI v5), some (vI ahead), some (vI v7), some (vI x)] [] (c, m) (QS I m (rstI F row mu la) (nI mu) (nI la)) := by
    intro j
    induction j with
    | zero =>
      intro i x ahead v5 v7 g c hi hx hah hg3 hc
      have h3 : c.1 20 0 3 = nI la := by rw [hc.2 3, hg3]
      refine go_ev 40 [98, 133] (bT (c := c.1 20 0 3 ≤ x) (by rw [h3, hx, nIle (by omega) (by omega)]; omega) ?_)
      have hp := ig_put (m := m) hK 2 0 hc
      exact k3 mu 0 _ _ _ _ (cF g 2 0) _ (by omega) rfl (by rw [hah, Nat.zero_add, show i = la by omega]) rfl hg3 hp
    | succ j ih =>
      intro i x ahead v5 v7 g c hi hx hah hg3 hc
      subst hx hah
      have h3 : c.1 20 0 3 = nI la := by rw [hc.2 3, hg3]
      refine go_ev 40 [98] (bF (c := c.1 20 0 3 ≤ nI i) (by rw [h3, nIle (by omega) (by omega)]; omega) ?_)
      refine iC (hnx i hc) (by decide) ?_
      rintro _ _ ⟨c2, rfl, hc2, rfl⟩
      exact ih (i + 1) _ _ _ _ g c2 (by omega) (nI_succ i).symm rfl hg3 hc2
  -- first part: the round is measured
  have k1 : ∀ (fuel e r : Nat) (mark ahead lim x : Int32) (g : Nat → Int32) (c : Sd), 2 ^ e - 1 + r + fuel = 8192 → 1 ≤ r → r ≤ 2 ^ e → e ≤ 12 → mark = nI (orb F row (2 ^ e - 1)) → ahead = nI (orb F row (2 ^ e - 1 + r)) → lim = nI (2 ^ e) → x = nI (2 ^ e - 1 + r - 1) → (∀ r', 1 ≤ r' → r' < r → orb F row (2 ^ e - 1 + r') ≠ orb F row (2 ^ e - 1)) → g 3 = nI r → IG I g c → Go 5 4 none 25 [some (vR false 20 0), some (vI (nI row)), some (vI way), some (vI (optI tl)), some (vI (nI wd)), some (vI mark), some (vI ahead), some (vI lim), some (vI x)] [] (c, m) (QS I m (rstI F row mu la) (nI mu) (nI la)) := by
    intro fuel
    induction fuel with
    | zero =>
      intro e r mark ahead lim x g c hf hr1 hr2 he hmk hah hlm hx hno hg3 hc
      exfalso
      have : 2 ^ e ≤ 2 ^ 12 := Nat.pow_le_pow_right (by decide) he
      omega
    | succ fuel ih =>
      intro e r mark ahead lim x g c hf hr1 hr2 he hmk hah hlm hx hno hg3 hc
      have h12 : 2 ^ e ≤ 2 ^ 12 := Nat.pow_le_pow_right (by decide) he
      have hpe : 1 ≤ 2 ^ e := Nat.pow_pos (by decide)
      subst hmk hah hlm hx
      have hb1 := hO (2 ^ e - 1)
      have hb2 := hO (2 ^ e - 1 + r)
      refine go_ev 60 [25, 98] (bF (by rw [show (16384 : Int32) = nI 16384 from rfl, nIle (by decide) (by omega)]; omega) ?_)
      refine bI (fun hq => ?_) (fun hq => ?_)
      · rw [nIeq (by omega) (by omega)] at hq
        have hrl := (cyc_la hcy hr1 hq hno).1
        exact k2 la 0 _ _ _ _ g c (by omega) rfl rfl (by rw [hg3, hrl]) hc
      · rw [nIeq (by omega) (by omega)] at hq
        have hno' : ∀ r', 1 ≤ r' → r' < r + 1 → orb F row (2 ^ e - 1 + r') ≠ orb F row (2 ^ e - 1) := by
          intro r' ha hb
          by_cases hrr : r' = r
          · rw [hrr]; exact hq
          · exact hno r' ha (by omega)
        have h3 : c.1 20 0 3 = nI r := by rw [hc.2 3, hg3]
        refine bI (c := c.1 20 0 3 = nI (2 ^ e)) (fun hz => ?_) (fun hz => ?_)
        · rw [h3, nIeq (by omega) (by omega)] at hz
          have he12 : e < 12 := by
            rcases Nat.lt_or_ge e 12 with q | q
            · exact q
            · exfalso
              have : e = 12 := by omega
              subst this
              refine hno' la hla (by omega) ?_
              exact ((cyc_iff hcy (i := 2 ^ 12 - 1) (j := 2 ^ 12 - 1 + la) (by omega)).mpr ⟨by omega, by rw [Nat.add_sub_cancel_left, Nat.mod_self]⟩).symm
          have hp := ig_put (m := m) hK 3 0 hc
          refine iC (hnx (2 ^ e - 1 + r) hp) (by decide) ?_
          rintro _ _ ⟨c2, rfl, hc2, rfl⟩
          have hp2 := ig_put (m := m) hK 3 (c2.1 20 0 3 + 1) hc2
          have e2 : 2 ^ (e + 1) = 2 ^ e * 2 := Nat.pow_succ ..
          have hpos : 2 ^ (e + 1) - 1 = 2 ^ e - 1 + r := by omega
          refine ih (e + 1) 1 _ _ _ _ (cF (cF g 3 0) 3 (c2.1 20 0 3 + 1)) _ (by omega) (by omega) (by omega) (by omega) (by rw [hpos]) (by rw [hpos]) (by rw [show (2 : Int32) = nI 2 from rfl, pk_mul, e2]) ?_ (fun r' ha hb => absurd ha (by omega)) ?_ hp2
          · rw [show (1 : Int32) = nI 1 from rfl, nIadd]
            congr 1
            omega
          · show c2.1 20 0 3 + 1 = _
            rw [hc2.2 3]
            rfl
        · rw [h3, nIeq (by omega) (by omega)] at hz
          refine iC (hnx (2 ^ e - 1 + r) hc) (by decide) ?_
          rintro _ _ ⟨c2, rfl, hc2, rfl⟩
          have hp2 := ig_put (m := m) hK 3 (c2.1 20 0 3 + 1) hc2
          refine ih e (r + 1) _ _ _ _ (cF g 3 (c2.1 20 0 3 + 1)) _ (by omega) (by omega) (by omega) he rfl rfl rfl ?_ hno' ?_ hp2
          · rw [show (1 : Int32) = nI 1 from rfl, nIadd]
            congr 1
            omega
          · show c2.1 20 0 3 + 1 = _
            rw [hc2.2 3, hg3, nI_succ]
  refine ctr_ev 60 [25] rfl rfl ?_
  refine iC (hnx (g := c.1 20 0) (c := c) 0 ⟨hc, fun _ => rfl⟩) (by decide) ?_
  rintro _ _ ⟨c2, rfl, hc2, rfl⟩
  have hp := ig_put (m := m) hK 3 1 hc2
  exact k1 8191 0 1 _ _ _ _ (cF (c.1 20 0) 3 1) _ (by decide) (by decide) (by decide) (by decide) rfl rfl rfl rfl (fun r' ha hb => absurd ha (by omega)) rfl hp
end CLI

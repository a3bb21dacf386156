/-! a person of the class, with what it keeps -/
def KP (n : Nat) (T : Trm) (c : Sd) (p : Nat) : Prop := c.1 9 p 6 = 0 ∨ ∃ d, (1 ≤ d ∧ d ≤ 9) ∧ c.1 9 p 6 = nI d ∧ ∀ row, row < 4 ^ n → nb (c.2.1 10 p (kyR row p / 8)) (kyR row p % 8) = 0 ∨ nb (c.2.1 10 p (kyR row p / 8)) (kyR row p % 8) = letT n p row d T + 1
def CV (n : Nat) (Ts : Nat → Trm) (c : Sd) : Prop := c.1 7 0 1 = nI n ∧ ∀ p, p < 6 → c.1 9 p 0 = nI p ∧ CT c (c.2.2 9 p) (Ts p) ∧ KP n (Ts p) c p
def Sam (c c' : Sd) : Prop := (∀ k i f, k ≠ 19 → (k = 9 → f ≠ 6) → c'.1 k i f = c.1 k i f) ∧ (∀ k i, k ≠ 10 → c'.2.1 k i = c.2.1 k i) ∧ c'.2.2 = c.2.2
theorem Sam_rfl (c : Sd) : Sam c c := ⟨fun _ _ _ _ _ => rfl, fun _ _ _ => rfl, rfl⟩
theorem Sam_tr {a b c : Sd} (h : Sam a b) (h2 : Sam b c) : Sam a c := ⟨fun k i f h1 h3 => (h2.1 k i f h1 h3).trans (h.1 k i f h1 h3), fun k i h1 => (h2.2.1 k i h1).trans (h.2.1 k i h1), h2.2.2.trans h.2.2⟩
theorem CT_sam {c c' : Sd} {t : Nat} {T : Trm} (h : Sam c c') (hT : CT c t T) : CT c' t T := by
  obtain ⟨h1, h2, h3⟩ := h
  refine ⟨?_, ?_, fun r k hr => ?_, fun s e he => ?_⟩
  · rw [h1 11 t 3 (by decide) (by decide)]
    exact hT.1
  · rw [h1 11 t 8 (by decide) (by decide)]
    exact hT.2.1
  · have := hT.2.2.1 r k hr
    unfold cRul at this ⊢
    rw [h2 12 t (by decide), h2 13 t (by decide), h2 14 t (by decide)]
    exact this
  · have := hT.2.2.2 s e he
    unfold cStp at this ⊢
    rw [h2 15 t (by decide), h2 16 t (by decide), h2 17 t (by decide), h2 18 t (by decide)]
    exact this
theorem CV_sam {n : Nat} {Ts : Nat → Trm} {c c' : Sd} (h : Sam c c') (hV : CV n Ts c) (hK : ∀ p, p < 6 → KP n (Ts p) c' p) : CV n Ts c' := by
  refine ⟨(h.1 7 0 1 (by decide) (by decide)).trans hV.1, fun p hp => ⟨(h.1 9 p 0 (by decide) (by decide)).trans (hV.2 p hp).1, ?_, hK p hp⟩⟩
  rw [h.2.2]
  exact CT_sam h (hV.2 p hp).2.1
theorem up3_n (g : Nat → Nat → Nat → Int32) {k i f : Nat} (v : Int32) {k' i' f' : Nat} (h : ¬ (k' = k ∧ i' = i ∧ f' = f)) : up3 g k i f v k' i' f' = g k' i' f' := by
  unfold up3
  by_cases h1 : k' = k
  · rw [if_pos h1]
    by_cases h2 : i' = i
    · rw [if_pos h2, if_neg (fun z => h ⟨h1, h2, z⟩)]
    · rw [if_neg h2]
  · rw [if_neg h1]
theorem up3_s (g : Nat → Nat → Nat → Int32) (k i f : Nat) (v : Int32) : up3 g k i f v k i f = v := by
  unfold up3
  rw [if_pos rfl, if_pos rfl, if_pos rfl]
theorem lkd_sam (c : Sd) (n p row day : Nat) : Sam c (lkd c n p row day) := by
  refine ⟨fun k i f h1 h2 => ?_, fun _ _ _ => rfl, rfl⟩
  unfold lkd
  show up3 (up3 (up3 (up3 c.1 19 0 0 _) 19 0 1 _) 19 0 2 _) 19 0 3 _ k i f = _
  rw [up3_n _ _ (fun z => h1 z.1), up3_n _ _ (fun z => h1 z.1), up3_n _ _ (fun z => h1 z.1), up3_n _ _ (fun z => h1 z.1)]
theorem Go_mono {d y pc : Nat} {scr : Option (Nat × (Nat → Int32))} {ls : Ls} {st : List PV} {w : Wd} {Q Q' : Wd → Option PV → Prop} (h : Go d y scr pc ls st w Q) (hq : ∀ w' r, Q w' r → Q' w' r) : Go d y scr pc ls st w Q' := by
  intro p l e R s m args below meth c cells slots Qf D cI cZ cQ sa sv ad ks A h1 h2 h3 h4 h5
  exact h p l e R s m args below meth c cells slots Qf D cI cZ cQ sa sv ad ks A h1 h2 h3 h4 (fun pc' w' r H locs ls' a1 a2 a3 a4 => h5 pc' w' r H locs ls' a1 a2 a3 (hq _ _ a4))
def QO (n : Nat) (Ts : Nat → Trm) (c m : Sd) (r : Int32) : Wd → Option PV → Prop := fun w' r' => ∃ c', w' = (c', m) ∧ (CV n Ts c' ∧ Sam c c') ∧ r' = some (vI r)
theorem qoi {n : Nat} {Ts : Nat → Trm} {c m c' : Sd} {r r' : Int32} (h1 : CV n Ts c' ∧ Sam c c') (h2 : r' = r) : QO n Ts c m r (c', m) (some (vI r')) := ⟨c', rfl, h1, by rw [h2]⟩
section OFT
variable {n : Nat} {Ts : Nat → Trm} {c m : Sd} {p row day : Nat}
theorem ky_places {x : Int32} {k : Nat} (hx : x = nI k) (hk : k < 1024) : (x >>> ((3 : Int32) &&& 31)) &&& 127 = nI (k / 8) ∧ 4 * (x &&& 7) = nI (4 * (k % 8)) := by
  subst hx
  constructor
  · rw [pk_shrN (by omega) _ 3 (by decide), pk_andN (by omega) 7 (by decide), Nat.mod_eq_of_lt (by omega)]
  · rw [pk_andN (by omega) 3 (by decide), show (4 : Int32) = nI 4 from rfl, pk_mul]
theorem c_oftenRest (hn : n ≤ 6) (hp : p < n) (hr : row < 4 ^ n) (hd1 : 1 ≤ day) (hday : day ≤ 9) (hV : CV n Ts c) (hok : okT (Ts p)) (hkd : c.1 9 p 6 = nI day) (hv : ∀ row, row < 4 ^ n → nb (c.2.1 10 p (kyR row p / 8)) (kyR row p % 8) = 0 ∨ nb (c.2.1 10 p (kyR row p / 8)) (kyR row p % 8) = letT n p row day (Ts p) + 1) : Go 3 9 none 21 [some (vR false 9 p), some (vI (nI row)), some (vI (nI day)), some (vI (nI n)), none, none, none, none, none] [] (c, m) (QO n Ts c m (nI (letT n p row day (Ts p)))) := by
  have h6 := pow4_le hn
  obtain ⟨hnum, hT, -⟩ := hV.2 p (by omega)
  have hlt := letT_lt (n := n) (p := p) (row := row) (day := day) hok
  have hky := kyR_lt hn hp hr
  have hAB : (nI row &&& (((1 : Int32) <<< ((2 * c.1 9 p 0) &&& 31)) - 1)) ||| ((nI row >>> ((2 * c.1 9 p 0 + 2) &&& 31)) <<< ((2 * c.1 9 p 0) &&& 31)) = nI (kyR row p) := by
    rw [hnum]
    exact nI_ky (by omega) (by omega)
  obtain ⟨hP, hS⟩ := ky_places hAB hky
  have hPc := pk_cl (kyR row p / 8) hP
  have hin := pk_in (kyR row p / 8) 128 (by omega) hP
  refine go_ev 150 [] (dI hin ?_)
  refine bI (c := (c.2.1 10 p ((((nI row &&& (((1 : Int32) <<< ((2 * c.1 9 p 0) &&& 31)) - 1)) ||| ((nI row >>> ((2 * c.1 9 p 0 + 2) &&& 31)) <<< ((2 * c.1 9 p 0) &&& 31))) >>> ((3 : Int32) &&& 31)) &&& 127).toNatClampNeg >>> ((4 * (((nI row &&& (((1 : Int32) <<< ((2 * c.1 9 p 0) &&& 31)) - 1)) ||| ((nI row >>> ((2 * c.1 9 p 0 + 2) &&& 31)) <<< ((2 * c.1 9 p 0) &&& 31))) &&& 7)) &&& 31)) &&& 15 = 0) (fun h => ?_) (fun h => ?_)
  · rw [hPc, hS, nb_get (by omega)] at h
    have h0 : nb (c.2.1 10 p (kyR row p / 8)) (kyR row p % 8) = 0 := (nIeq (by
      have : nb (c.2.1 10 p (kyR row p / 8)) (kyR row p % 8) < 16 := Nat.mod_lt _ (by decide)
      omega) (by decide)).mp h
    have hL : Fn 1 31 [vR false 19 0, vI (c.1 9 p 0), vI (nI row), vI (nI day), vI (nI n)] (c, m) (lkd c n p row day, m) none := by
      rw [hnum]
      exact c_look (by omega) (by omega) _ _
    have hkp : ∀ (P Sh : Int32), P.toNatClampNeg = kyR row p / 8 → Sh = nI (4 * (kyR row p % 8)) → KP n (Ts p) ((lkd c n p row day).1, upA c.2.1 10 p P.toNatClampNeg (c.2.1 10 p P.toNatClampNeg ||| ((nI (letT n p row day (Ts p)) + 1) <<< (Sh &&& 31))), c.2.2) p := by
      intro P Sh hPc hS
      refine Or.inr ⟨day, ⟨hd1, hday⟩, hkd, fun row2 hr2 => ?_⟩
      rw [hPc, hS, ← nI_succ]
      show nb (upA c.2.1 10 p _ _ 10 p (kyR row2 p / 8)) _ = 0 ∨ nb (upA c.2.1 10 p _ _ 10 p (kyR row2 p / 8)) _ = _
      rw [upA_s]
      by_cases hpl : kyR row2 p / 8 = kyR row p / 8
      · rw [hpl, pk_us, nb_put (by omega) (by omega) h0]
        by_cases hsh : kyR row2 p % 8 = kyR row p % 8
        · rw [if_pos hsh]
          have := kyR_same (show kyR row p = kyR row2 p by omega)
          rw [this, letT_own (dd_lt _ _)]
          exact Or.inr rfl
        · rw [if_neg hsh, ← hpl]
          exact hv row2 hr2
      · rw [pk_un hpl]
        exact hv row2 hr2
    refine iF hL (by decide) ?_
    refine iF (c_tAllowed (lkd_scn c n p row day) hn hp hr hday (lkd_CT hT) hok) (by decide) ?_
    refine dI hin (dI hin ?_)
    refine qoi ?_ ?_
    · have hsam : ∀ (x : Int32) (j : Nat), Sam c ((lkd c n p row day).1, upA c.2.1 10 p j x, c.2.2) := fun x j => ⟨(lkd_sam c n p row day).1, fun k i h1 => upA_n _ _ (fun z => h1 z.1), rfl⟩
      refine And.intro (CV_sam (hsam _ _) hV (fun q hq => ?_)) (hsam _ _)
      by_cases hqp : q = p
      · subst hqp
        exact hkp _ _ hPc hS
      · have := (hV.2 q hq).2.2
        unfold KP at this ⊢
        show c.1 9 q 6 = 0 ∨ ∃ d, (1 ≤ d ∧ d ≤ 9) ∧ c.1 9 q 6 = nI d ∧ ∀ row, row < 4 ^ n → nb (upA c.2.1 10 p _ _ 10 q (kyR row q / 8)) (kyR row q % 8) = 0 ∨ nb (upA c.2.1 10 p _ _ 10 q (kyR row q / 8)) (kyR row q % 8) = letT n q row d (Ts q) + 1
        rw [upA_n _ _ (fun z => hqp z.2)]
        exact this
    · exact Int32.add_sub_cancel _ _
  · have hK := h
    rw [hPc, hS, nb_get (by omega)] at hK
    have h0 : nb (c.2.1 10 p (kyR row p / 8)) (kyR row p % 8) = letT n p row day (Ts p) + 1 := (hv row hr).resolve_left (fun z => hK (by rw [z]; rfl))
    refine qoi (And.intro hV (Sam_rfl c)) ?_
    have e : ((c.2.1 10 p (((((nI row &&& (((1 : Int32) <<< ((2 * c.1 9 p 0) &&& 31)) - 1)) ||| ((nI row >>> ((2 * c.1 9 p 0 + 2) &&& 31)) <<< ((2 * c.1 9 p 0) &&& 31))) >>> ((3 : Int32) &&& 31)) &&& 127).toNatClampNeg) >>> ((4 * (((nI row &&& (((1 : Int32) <<< ((2 * c.1 9 p 0) &&& 31)) - 1)) ||| ((nI row >>> ((2 * c.1 9 p 0 + 2) &&& 31)) <<< ((2 * c.1 9 p 0) &&& 31))) &&& 7)) &&& 31)) &&& 15) - 1 = nI (letT n p row day (Ts p)) := by
      rw [hPc, hS, nb_get (by omega), h0, nI_succ, Int32.add_sub_cancel]
    exact e
theorem c_often {Q : Wd → Option PV → Prop} (hQ : ∀ w' r', QO n Ts c m (nI (letT n p row day (Ts p))) w' r' → Q w' r') (hn : n ≤ 6) (hp : p < n) (hr : row < 4 ^ n) (hd1 : 1 ≤ day) (hday : day ≤ 9) (hV : CV n Ts c) (hok : okT (Ts p)) : Ctr 3 9 [vR false 9 p, vI (nI row), vI (nI day), vI (nI n)] (c, m) Q := by
  refine ctr_of (nblt rfl) (Nat.le_of_ble_eq_true rfl) (Go_mono (Q := QO n Ts c m (nI (letT n p row day (Ts p)))) (go_ev 80 [21] ?_) hQ)
  refine bI (c := c.1 9 p 6 = nI day) (fun h => ?_) (fun h => ?_)
  · rcases (hV.2 p (by omega)).2.2 with h0 | ⟨d, hd, hd2, hv⟩
    · rw [h0] at h
      have := (nIeq (a := 0) (by decide) (by omega)).mp h
      omega
    · have hdd : d = day := by
        rw [h] at hd2
        exact ((nIeq (by omega) (by omega)).mp hd2).symm
      subst hdd
      exact c_oftenRest hn hp hr hd1 hday hV hok h hv
  · refine iC (c_fill c m p) (by decide) ?_
    rintro _ _ ⟨a, rfl, ha1, ha2, rfl⟩
    have hsam : Sam c (up3 c.1 9 p 6 (nI day), a, c.2.2) := ⟨fun k i f h1 h2 => up3_n _ _ (fun z => h2 z.1 z.2.2), fun k i h1 => ha1 k i (fun z => h1 z.1), rfl⟩
    have hz : ∀ row, row < 4 ^ n → nb (a 10 p (kyR row p / 8)) (kyR row p % 8) = 0 := fun row hr => by
      have := kyR_lt hn hp hr
      rw [ha2 _ (by omega)]
      unfold nb
      rw [show (0 : Int32).toBitVec.toNat = 0 from rfl, Nat.zero_div]
    have hV' : CV n Ts (up3 c.1 9 p 6 (nI day), a, c.2.2) := CV_sam hsam hV (fun q hq => by
      by_cases hqp : q = p
      · subst hqp
        exact Or.inr ⟨day, ⟨hd1, hday⟩, up3_s c.1 9 q 6 (nI day), fun row hr => Or.inl (hz row hr)⟩
      · have := (hV.2 q hq).2.2
        unfold KP at this ⊢
        show up3 c.1 9 p 6 (nI day) 9 q 6 = 0 ∨ ∃ d, (1 ≤ d ∧ d ≤ 9) ∧ up3 c.1 9 p 6 (nI day) 9 q 6 = nI d ∧ ∀ row, row < 4 ^ n → nb (a 10 q (kyR row q / 8)) (kyR row q % 8) = 0 ∨ nb (a 10 q (kyR row q / 8)) (kyR row q % 8) = letT n q row d (Ts q) + 1
        rw [up3_n _ _ (fun z => hqp z.2.1), ha1 10 q (fun z => hqp z.2)]
        exact this)
    have hgo := c_oftenRest (m := m) hn hp hr hd1 hday hV' hok (up3_s c.1 9 p 6 (nI day)) (fun row hr => Or.inl (hz row hr))
    exact Go_mono hgo (fun w' r' ⟨c', e1, ⟨e2, e3⟩, e4⟩ => ⟨c', e1, ⟨e2, Sam_tr hsam e3⟩, e4⟩)
end OFT

/-! softer words: which numbers can be softened, and what a softer term lets -/
abbrev Slt : Type := Nat × Bool
def sloE (s : Nat) (e : StpT) : List Slt := (if 2 ≤ e.1 ∧ e.1 ≤ 4 then [(s, false)] else []) ++ (if e.2.2.2.2.2 = true ∧ e.1 ≤ 2 then [(s, true)] else [])
def sloF : List StpT → Nat → List Slt
  | [], _ => []
  | e :: es, s => sloE s e ++ sloF es (s + 1)
def slo (S : List StpT) : List Slt := sloF S 0
def decE (g : Bool) (e : StpT) : StpT := (e.1, e.2.1, e.2.2.1, (if g = true then e.2.2.2.1 else e.2.2.2.1 - 1), (if g = true then e.2.2.2.2.1 - 1 else e.2.2.2.2.1), e.2.2.2.2.2)
def decS (S : List StpT) (sl : Slt) : List StpT := match S[sl.1]? with
  | some e => S.set sl.1 (decE sl.2 e)
  | none => S
def valE (g : Bool) (e : StpT) : Nat := if g = true then e.2.2.2.2.1 else e.2.2.2.1
def lstE (g : Bool) (e : StpT) : Nat := if g = true then 0 else if e.1 = 4 then 1 else 0
def mayS (S : List StpT) (sl : Slt) : Bool := match S[sl.1]? with
  | some e => decide (lstE sl.2 e < valE sl.2 e)
  | none => false
def sfL (g : List Slt → List StpT → Bool) : List Slt → List StpT → Bool
  | [], _ => false
  | sl :: sls, S => (mayS S sl && g (sl :: sls) (decS S sl)) || sfL g sls S
def sfF (chk : List StpT → Bool) : Nat → List Slt → List StpT → Bool
  | 0, _, S => chk S
  | k + 1, L, S => sfL (sfF chk k) L S
def chS (n p row : Nat) (R : List (Nat × Nat × Nat)) (S : List StpT) : Bool := decide (letT n p row 9 (R, S) = dd row p)
def sfN (n p row : Nat) (T : Trm) : Option Nat := fst (fun k => sfF (chS n p row T.1) k (slo T.2) T.2) 4 0
/-- a place that is one: a slot of a list of steps -/
def okSl (S : List StpT) (sl : Slt) : Prop := ∃ e, S[sl.1]? = some e ∧ e.1 < 5 ∧ (sl.2 = false → 2 ≤ e.1)
theorem sloF_ok : ∀ (S : List StpT) (s : Nat) (A : List StpT), A.length = s → ∀ sl ∈ sloF S s, okSl (A ++ S) sl
  | [], _, _, _ => fun _ h => absurd h (List.not_mem_nil)
  | e :: es, s, A, hA => by
    intro sl h
    rcases List.mem_append.mp h with h | h
    · have hg : ∀ g, (A ++ e :: es)[((s, g) : Slt).1]? = some e := fun g => by
        show (A ++ e :: es)[s]? = some e
        rw [← hA, List.getElem?_append_right (Nat.le_refl _), Nat.sub_self]
        rfl
      rcases List.mem_append.mp h with h | h
      · split at h
        · rename_i hk
          rw [List.mem_singleton] at h
          subst h
          exact ⟨e, hg false, by omega, fun _ => hk.1⟩
        · exact absurd h List.not_mem_nil
      · split at h
        · rename_i hk
          rw [List.mem_singleton] at h
          subst h
          exact ⟨e, hg true, by omega, fun z => by cases z⟩
        · exact absurd h List.not_mem_nil
    · have := sloF_ok es (s + 1) (A ++ [e]) (by rw [List.length_append, hA]; rfl) sl h
      rw [List.append_assoc] at this
      exact this
theorem slo_ok (S : List StpT) : ∀ sl ∈ slo S, okSl S sl := sloF_ok S 0 [] rfl
theorem sloE_len (s : Nat) (e : StpT) : (sloE s e).length ≤ 2 := by
  unfold sloE
  rw [List.length_append]
  split <;> split <;> simp
theorem sloF_len : ∀ (S : List StpT) (s : Nat), (sloF S s).length ≤ 2 * S.length
  | [], _ => Nat.le_refl _
  | e :: es, s => by
    have h1 := sloE_len s e
    have h2 := sloF_len es (s + 1)
    simp only [sloF, List.length_append, List.length_cons]
    omega
theorem decS_get (S : List StpT) (sl : Slt) (i : Nat) : (decS S sl)[i]? = if i = sl.1 then (S[i]?).map (decE sl.2) else S[i]? := by
  unfold decS
  cases h : S[sl.1]? with
  | none =>
    show S[i]? = _
    by_cases hi : i = sl.1
    · rw [if_pos hi, hi, h]
      rfl
    · rw [if_neg hi]
  | some e =>
    show (S.set sl.1 (decE sl.2 e))[i]? = _
    obtain ⟨h1, h2⟩ := List.getElem?_eq_some_iff.mp h
    by_cases hi : i = sl.1
    · rw [if_pos hi, hi, h, List.getElem?_set_self h1]
      rfl
    · rw [if_neg hi, List.getElem?_set_ne (fun z => hi z.symm)]
theorem decS_kinds (S : List StpT) (sl : Slt) : (decS S sl).map (fun e => e.1) = S.map (fun e => e.1) := by
  apply List.ext_getElem?
  intro i
  rw [List.getElem?_map, List.getElem?_map, decS_get]
  split
  · cases S[i]? <;> rfl
  · rfl
theorem decS_len (S : List StpT) (sl : Slt) : (decS S sl).length = S.length := by
  have := congrArg List.length (decS_kinds S sl)
  rw [List.length_map, List.length_map] at this
  exact this
theorem dpS_kinds : ∀ (A B : List StpT) (d : Nat), A.map (fun e => e.1) = B.map (fun e => e.1) → dpS A d = dpS B d
  | [], [], _, _ => rfl
  | [], _ :: _, _, h => by simp at h
  | _ :: _, [], _, h => by simp at h
  | a :: A, b :: B, d, h => by
    rw [List.map_cons, List.map_cons, List.cons.injEq] at h
    have hd : dpO a d = dpO b d := by
      unfold dpO
      rw [h.1]
    show (match dpO a d with
      | none => none
      | some d' => dpS A d') = match dpO b d with
      | none => none
      | some d' => dpS B d'
    rw [hd]
    cases dpO b d with
    | none => rfl
    | some d' => exact dpS_kinds A B d' h.2
theorem seg_kinds {A B : List StpT} (h : A.map (fun e => e.1) = B.map (fun e => e.1)) (f e : Nat) : (seg A f e).map (fun e => e.1) = (seg B f e).map (fun e => e.1) := by
  unfold seg
  rw [List.map_take, List.map_take, List.map_drop, List.map_drop, h]
theorem okR_kinds {A B : List StpT} (h : A.map (fun e => e.1) = B.map (fun e => e.1)) : ∀ (R : List (Nat × Nat × Nat)) (f : Nat), okR A R f → okR B R f
  | [], _, _ => trivial
  | (k, o, e) :: R, f, hR => by
    obtain ⟨h1, h2, h3, h4⟩ := hR
    have hl : A.length = B.length := by
      have := congrArg List.length h
      rw [List.length_map, List.length_map] at this
      exact this
    refine ⟨h1, by rw [← hl]; exact h2, ?_, okR_kinds h R e h4⟩
    rw [← dpS_kinds _ _ 0 (seg_kinds h f e)]
    exact h3
theorem okE_dec {g : Bool} {e : StpT} (h : okE e) : okE (decE g e) := by
  obtain ⟨h1, h2, h3, h4, h5⟩ := h
  refine ⟨h1, h2, h3, ?_, ?_⟩
  · show (if g = true then e.2.2.2.1 else e.2.2.2.1 - 1) < 100
    split <;> omega
  · show (if g = true then e.2.2.2.2.1 - 1 else e.2.2.2.2.1) < 100
    split <;> omega
theorem okT_dec {R : List (Nat × Nat × Nat)} {S : List StpT} (sl : Slt) (h : okT (R, S)) : okT (R, decS S sl) := by
  obtain ⟨h1, h2, h3, h4⟩ := h
  refine ⟨h1, by rw [decS_len]; exact h2, fun e he => ?_, okR_kinds (decS_kinds S sl).symm _ _ h4⟩
  obtain ⟨i, hi⟩ := List.mem_iff_getElem?.mp he
  have hi : (decS S sl)[i]? = some e := hi
  rw [decS_get] at hi
  split at hi
  · cases hq : S[i]? with
    | none =>
      rw [hq] at hi
      cases hi
    | some x =>
      rw [hq] at hi
      cases hi
      exact okE_dec (h3 x (List.mem_of_getElem? hq))
  · exact h3 e (List.mem_of_getElem? hi)
theorem okSl_dec {S : List StpT} {sl sl' : Slt} (h : okSl S sl') : okSl (decS S sl) sl' := by
  obtain ⟨e, h1, h2, h3⟩ := h
  by_cases hi : sl'.1 = sl.1
  · refine ⟨decE sl.2 e, ?_, h2, h3⟩
    rw [decS_get, if_pos hi, h1]
    rfl
  · refine ⟨e, ?_, h2, h3⟩
    rw [decS_get, if_neg hi]
    exact h1
theorem upA_back {g : Nat → Nat → Nat → Int32} {k i j : Nat} {v : Int32} {x : Int32} (h : x = g k i j) : upA (upA g k i j v) k i j x = g := by
  funext k' i' j'
  by_cases hk : k' = k ∧ i' = i
  · obtain ⟨rfl, rfl⟩ := hk
    rw [upA_s, upA_s]
    by_cases hj : j' = j
    · rw [hj, pk_us, h]
    · rw [pk_un hj, pk_un hj]
  · rw [upA_n _ _ hk, upA_n _ _ hk]
/-! the class -/
def CSl (c : Sd) (t : Nat) (L : List Slt) : Prop := c.1 11 t 10 = nI L.length ∧ ∀ k sl, L[k]? = some sl → c.2.1 22 t k = nI (2 * sl.1 + sl.2.toNat)
theorem cStp_val {c : Sd} {t : Nat} {T : Trm} {sl : Slt} {e : StpT} (hT : CT c t T) (he : T.2[sl.1]? = some e) (h5 : e.1 < 5) : c.2.1 18 t (2 * sl.1 + sl.2.toNat) = nI (valE sl.2 e) := by
  obtain ⟨s, g⟩ := sl
  obtain ⟨-, h2⟩ := hT.2.2.2 s e he
  obtain ⟨-, -, h3, h4⟩ := h2 h5
  cases g
  · exact h3
  · exact h4
theorem CT_dec {c : Sd} {t : Nat} {R : List (Nat × Nat × Nat)} {S : List StpT} {sl : Slt} {e : StpT} (hT : CT c t (R, S)) (he : S[sl.1]? = some e) (h5 : e.1 < 5) {v : Int32} (hv : v = nI (valE sl.2 e - 1)) : CT (c.1, upA c.2.1 18 t (2 * sl.1 + sl.2.toNat) v, c.2.2) t (R, decS S sl) := by
  obtain ⟨s, g⟩ := sl
  have hg : g.toNat < 2 := Bool.toNat_lt g
  have ho : ∀ k, k ≠ 18 → upA c.2.1 18 t (2 * s + g.toNat) v k t = c.2.1 k t := fun k hk => upA_n _ _ (fun z => hk z.1)
  refine ⟨hT.1, ?_, fun r k hr => ?_, fun i x hx => ?_⟩
  · show c.1 11 t 8 = nI (decS S (s, g)).length
    rw [decS_len]
    exact hT.2.1
  · have := hT.2.2.1 r k hr
    unfold cRul at this ⊢
    show upA c.2.1 18 t (2 * s + g.toNat) v 12 t r = _ ∧ upA c.2.1 18 t (2 * s + g.toNat) v 13 t r = _ ∧ upA c.2.1 18 t (2 * s + g.toNat) v 14 t r = _
    rw [ho 12 (by decide), ho 13 (by decide), ho 14 (by decide)]
    exact this
  · have hx : (decS S (s, g))[i]? = some x := hx
    rw [decS_get] at hx
    show upA c.2.1 18 t (2 * s + g.toNat) v 15 t i = _ ∧ (x.1 < 5 → upA c.2.1 18 t (2 * s + g.toNat) v 16 t i = _ ∧ upA c.2.1 18 t (2 * s + g.toNat) v 17 t i = _ ∧ upA c.2.1 18 t (2 * s + g.toNat) v 18 t (2 * i) = _ ∧ upA c.2.1 18 t (2 * s + g.toNat) v 18 t (2 * i + 1) = _)
    rw [ho 15 (by decide), ho 16 (by decide), ho 17 (by decide), upA_s]
    split at hx
    · rename_i hi
      have hi : i = s := hi
      subst hi
      have he : S[i]? = some e := he
      rw [he] at hx
      cases hx
      obtain ⟨q1, q2⟩ := hT.2.2.2 i e he
      refine ⟨q1, fun z => ?_⟩
      obtain ⟨q3, q4, q5, q6⟩ := q2 z
      refine ⟨q3, q4, ?_, ?_⟩
      · cases g
        · exact (show upd (c.2.1 18 t) (2 * i) v (2 * i) = nI (e.2.2.2.1 - 1) from by rw [pk_us, hv]; rfl)
        · exact (show upd (c.2.1 18 t) (2 * i + 1) v (2 * i) = nI e.2.2.2.1 from by rw [pk_un (by omega), q5])
      · cases g
        · exact (show upd (c.2.1 18 t) (2 * i) v (2 * i + 1) = nI e.2.2.2.2.1 from by rw [pk_un (by omega), q6])
        · exact (show upd (c.2.1 18 t) (2 * i + 1) v (2 * i + 1) = nI (e.2.2.2.2.1 - 1) from by rw [pk_us, hv]; rfl)
    · rename_i hi
      have hi : ¬ i = s := hi
      obtain ⟨q1, q2⟩ := hT.2.2.2 i x hx
      refine ⟨q1, fun z => ?_⟩
      obtain ⟨q3, q4, q5, q6⟩ := q2 z
      exact ⟨q3, q4, by rw [pk_un (by omega)]; exact q5, by rw [pk_un (by omega)]; exact q6⟩
section SFC
variable {n p row t : Nat} {c m : Sd} {R : List (Nat × Nat × Nat)} {S : List StpT} {L : List Slt}
theorem c_leastAt {T : Trm} (hT : CT c t T) (hok : okT T) {sl : Slt} {e : StpT} (he : T.2[sl.1]? = some e) (h5 : e.1 < 5) : Fn 0 44 [vR false 11 t, vI (nI (2 * sl.1 + sl.2.toNat))] (c, m) (c, m) (some (vI (nI (lstE sl.2 e)))) := by
  obtain ⟨s, g⟩ := sl
  have h40 := hok.2.1
  have hs : s < T.2.length := (List.getElem?_eq_some_iff.mp he).1
  have hg : g.toNat < 2 := Bool.toNat_lt g
  have hrem := pk_rem (a := 2 * s + g.toNat) (d := 2) (by omega) (by decide) (by decide)
  have hdiv := pk_div (a := 2 * s + g.toNat) (d := 2) (by omega) (by decide) (by decide)
  rw [show (2 * s + g.toNat) / 2 = s by omega] at hdiv
  rw [show (2 * s + g.toNat) % 2 = g.toNat by omega] at hrem
  have hkd : c.2.1 15 t (nI (2 * s + g.toNat) / 2).toNatClampNeg = nI (e.1 + 3) := by
    rw [show (2 : Int32) = nI 2 from rfl, hdiv, pk_cl s, (hT.2.2.2 s e he).1]
    unfold kcd
    rw [if_pos h5]
  refine ctr_ev 100 [] rfl rfl (And.intro (by decide) ?_)
  refine bI (c := nI (2 * s + g.toNat) - nI (2 * s + g.toNat) / 2 * 2 = 0) (fun h => ?_) (fun h => ?_)
  · rw [show (2 : Int32) = nI 2 from rfl, hrem, show (0 : Int32) = nI 0 from rfl, nIeq (by omega) (by decide)] at h
    have hg0 : g = false := by cases g <;> simp at h ⊢
    subst hg0
    refine And.intro (by decide) (dI (pk_in s 40 (by omega) hdiv) ?_)
    refine bI (c := c.2.1 15 t (nI (2 * s + false.toNat) / 2).toNatClampNeg = 7) (fun h2 => ?_) (fun h2 => ?_)
    · rw [hkd, show (7 : Int32) = nI 7 from rfl, nIeq (by omega) (by decide)] at h2
      refine And.intro rfl ?_
      show _ = some (vI (nI (if e.1 = 4 then 1 else 0)))
      rw [if_pos (by omega)]
      rfl
    · rw [hkd, show (7 : Int32) = nI 7 from rfl, nIeq (by omega) (by decide)] at h2
      refine And.intro rfl ?_
      show _ = some (vI (nI (if e.1 = 4 then 1 else 0)))
      rw [if_neg (by omega)]
      rfl
  · rw [show (2 : Int32) = nI 2 from rfl, hrem, show (0 : Int32) = nI 0 from rfl, nIeq (by omega) (by decide)] at h
    have hg0 : g = true := by cases g <;> simp at h ⊢
    subst hg0
    exact And.intro rfl rfl
theorem c_softens (hn : n ≤ 6) (hp : p < n) (hr : row < 4 ^ n) (hL80 : L.length ≤ 80) : ∀ (ones : Nat), ones ≤ 3 → ∀ (S : List StpT) (c : Sd) (k : Nat), Scn c n p row 9 → CT c t (R, S) → okT (R, S) → CSl c t L → (∀ sl ∈ L, okSl S sl) → k ≤ L.length → Fn (3 + ones) 43 [vR false 11 t, vI (nI ones), vI (nI k), vI (nI (dd row p)), vR false 19 0] (c, m) (c, m) (some (vI (bi (sfF (chS n p row R) ones (L.drop k) S = true)))) := by
  intro ones
  induction ones with
  | zero =>
    intro _ S c k hs hT hok hL hSl hk
    have hlt := letT_lt (n := n) (p := p) (row := row) (day := 9) hok
    have hdl := dd_lt row p
    refine ctr_ev 100 [] rfl rfl (bF (c := (0 : Int32) < nI 0) (by decide) ?_)
    refine iF (c_tAllowed hs hn hp hr (by decide) hT hok) (by decide) (bI (fun h => ?_) (fun h => ?_))
    · rw [nIeq (by omega) (by omega)] at h
      refine And.intro rfl (And.intro rfl ?_)
      rw [bi_t]
      show decide _ = true
      rw [decide_eq_true_eq]
      exact h
    · rw [nIeq (by omega) (by omega)] at h
      refine And.intro rfl (And.intro rfl ?_)
      rw [bi_f]
      show ¬ decide _ = true
      rw [decide_eq_true_eq]
      exact h
  | succ ones IH =>
    intro ho S c k hs hT hok hL hSl hk
    have key : ∀ (j i : Nat) (x f : Int32) (v7 : Option PV) (w : Wd), i + j = L.length → x = nI i → f = 0 → w = (c, m) → sfF (chS n p row R) (ones + 1) (L.drop k) S = sfF (chS n p row R) (ones + 1) (L.drop i) S → Go (3 + (ones + 1)) 43 none 26 [some (vR false 11 t), some (vI (nI (ones + 1))), some (vI (nI k)), some (vI (nI (dd row p))), some (vR false 19 0), some (vI f), some (vI x), v7] [] w (fun w' r' => w' = (c, m) ∧ r' = some (vI (bi (sfF (chS n p row R) (ones + 1) (L.drop k) S = true)))) := by
      intro j
      induction j with
      | zero =>
        intro i x f v7 w hi hx hf hw hv
        subst hw hf
        refine go_ev 100 [26] (bT (c := c.1 11 t 10 ≤ x) (by rw [hL.1, hx, nIle (by omega) (by omega)]; omega) (And.intro rfl (And.intro rfl ?_)))
        rw [hv, List.drop_eq_nil_of_le (by omega)]
        rfl
      | succ j ih =>
        intro i x f v7 w hi hx hf hw hv
        subst hw hf hx
        obtain ⟨sl, hsl⟩ : ∃ sl, L[i]? = some sl := ⟨_, List.getElem?_eq_getElem (show i < L.length by omega)⟩
        have hdr : L.drop i = sl :: L.drop (i + 1) := by
          obtain ⟨h1, h2⟩ := List.getElem?_eq_some_iff.mp hsl
          rw [List.drop_eq_getElem_cons h1, h2]
        obtain ⟨e, he, h5, -⟩ := hSl sl (List.mem_of_getElem? hsl)
        have hoe := hok.2.2.1 e (List.mem_of_getElem? he)
        have hv100 : valE sl.2 e < 100 := by
          unfold valE
          split
          · exact hoe.2.2.2.2
          · exact hoe.2.2.2.1
        have hl1 : lstE sl.2 e ≤ 1 := by
          unfold lstE
          split
          · omega
          · split <;> omega
        have hslt : sl.1 < S.length := (List.getElem?_eq_some_iff.mp he).1
        have h40 : S.length ≤ 40 := hok.2.1
        have hgt := Bool.toNat_lt sl.2
        have hpl : c.2.1 22 t (nI i).toNatClampNeg = nI (2 * sl.1 + sl.2.toNat) := by
          rw [pk_cl i]
          exact hL.2 i sl hsl
        have hpc : (c.2.1 22 t (nI i).toNatClampNeg).toNatClampNeg = 2 * sl.1 + sl.2.toNat := pk_cl _ hpl
        have hpi : vp_in (c.2.1 22 t (nI i).toNatClampNeg) 80 := pk_in (2 * sl.1 + sl.2.toNat) 80 (by omega) hpl
        have hval : c.2.1 18 t (c.2.1 22 t (nI i).toNatClampNeg).toNatClampNeg = nI (valE sl.2 e) := by
          rw [hpc]
          exact cStp_val hT he h5
        have hLA : Fn 0 44 [vR false 11 t, vI (c.2.1 22 t (nI i).toNatClampNeg)] (c, m) (c, m) (some (vI (nI (lstE sl.2 e)))) := by
          rw [hpl]
          exact c_leastAt hT hok he h5
        have hstep : sfF (chS n p row R) (ones + 1) (L.drop i) S = ((mayS S sl && sfF (chS n p row R) ones (L.drop i) (decS S sl)) || sfF (chS n p row R) (ones + 1) (L.drop (i + 1)) S) := by
          rw [hdr]
          rfl
        have hmay : mayS S sl = decide (lstE sl.2 e < valE sl.2 e) := by
          unfold mayS
          rw [he]
        refine go_ev 100 [26] (bF (c := c.1 11 t 10 ≤ nI i) (by rw [hL.1, nIle (by omega) (by omega)]; omega) ?_)
        refine bT (c := (0 : Int32) = 0) rfl ?_
        refine dI (pk_in i 80 (by omega)) (dI hpi (iF hLA (by omega) ?_))
        refine bI (c := c.2.1 18 t (c.2.1 22 t (nI i).toNatClampNeg).toNatClampNeg ≤ nI (lstE sl.2 e)) (fun h => ?_) (fun h => ?_)
        · rw [hval, nIle (by omega) (by omega)] at h
          refine ih (i + 1) _ _ _ _ (by omega) (nI_succ i).symm rfl rfl ?_
          rw [hv, hstep, hmay, decide_eq_false (by omega)]
          rfl
        · rw [hval, nIle (by omega) (by omega)] at h
          have hc1v : c.2.1 18 t (c.2.1 22 t (nI i).toNatClampNeg).toNatClampNeg - 1 = nI (valE sl.2 e - 1) := by
            rw [hval, nI_sub1 (by omega)]
          have hT1 := CT_dec hT he h5 hc1v
          rw [← hpc] at hT1
          have hrec := IH (by omega) (decS S sl) (c.1, upA c.2.1 18 t (c.2.1 22 t (nI i).toNatClampNeg).toNatClampNeg (c.2.1 18 t (c.2.1 22 t (nI i).toNatClampNeg).toNatClampNeg - 1), c.2.2) i hs hT1 (okT_dec sl hok) (show CSl (c.1, upA c.2.1 18 t (c.2.1 22 t (nI i).toNatClampNeg).toNatClampNeg (c.2.1 18 t (c.2.1 22 t (nI i).toNatClampNeg).toNatClampNeg - 1), c.2.2) t L from hL) (fun sl' h' => okSl_dec (hSl sl' h')) (show i ≤ L.length by omega)
          have hone : nI (ones + 1) - 1 = nI ones := by rw [nI_sub1 (by omega)]; rfl
          rw [← hone] at hrec
          refine dI hpi (dI hpi (iF hrec (by omega) (dI hpi (dI hpi ?_))))
          have hback : upA (upA c.2.1 18 t (c.2.1 22 t (nI i).toNatClampNeg).toNatClampNeg (c.2.1 18 t (c.2.1 22 t (nI i).toNatClampNeg).toNatClampNeg - 1)) 18 t (c.2.1 22 t (nI i).toNatClampNeg).toNatClampNeg (upA c.2.1 18 t (c.2.1 22 t (nI i).toNatClampNeg).toNatClampNeg (c.2.1 18 t (c.2.1 22 t (nI i).toNatClampNeg).toNatClampNeg - 1) 18 t (c.2.1 22 t (nI i).toNatClampNeg).toNatClampNeg + 1) = c.2.1 := upA_back (by rw [upA_s, pk_us, Int32.sub_add_cancel])
          have hfin : ∀ w : Wd, w = (c, m) → Go (3 + (ones + 1)) 43 none 26 [some (vR false 11 t), some (vI (nI (ones + 1))), some (vI (nI k)), some (vI (nI (dd row p))), some (vR false 19 0), some (vI (bi (sfF (chS n p row R) ones (L.drop i) (decS S sl) = true))), some (vI (nI i + 1)), some (vI (c.2.1 22 t (nI i).toNatClampNeg))] [] w (fun w' r' => w' = (c, m) ∧ r' = some (vI (bi (sfF (chS n p row R) (ones + 1) (L.drop k) S = true)))) := by
            intro w hw
            cases hb : sfF (chS n p row R) ones (L.drop i) (decS S sl) with
            | false =>
              refine ih (i + 1) _ _ _ _ (by omega) (nI_succ i).symm rfl hw ?_
              rw [hv, hstep, hb, Bool.and_false]
              rfl
            | true =>
              subst hw
              have hfin : bi (sfF (chS n p row R) (ones + 1) (L.drop k) S = true) = 1 := by
                rw [bi_t]
                rw [hv, hstep, hmay, hb, decide_eq_true (by omega)]
                rfl
              have hend : zok (1 : Int32) ∧ (((c, m) : Wd) = (c, m) ∧ (some (vI 1) : Option PV) = some (vI (bi (sfF (chS n p row R) (ones + 1) (L.drop k) S = true)))) := ⟨rfl, rfl, by rw [hfin]⟩
              refine go_ev 100 [26] (bI (c := c.1 11 t 10 ≤ nI i + 1) (fun _ => hend) (fun _ => bF (c := (1 : Int32) = 0) (by decide) hend))
          refine hfin _ ?_
          show (((c.1, upA (upA c.2.1 18 t (c.2.1 22 t (nI i).toNatClampNeg).toNatClampNeg (c.2.1 18 t (c.2.1 22 t (nI i).toNatClampNeg).toNatClampNeg - 1)) 18 t (c.2.1 22 t (nI i).toNatClampNeg).toNatClampNeg (upA c.2.1 18 t (c.2.1 22 t (nI i).toNatClampNeg).toNatClampNeg (c.2.1 18 t (c.2.1 22 t (nI i).toNatClampNeg).toNatClampNeg - 1) 18 t (c.2.1 22 t (nI i).toNatClampNeg).toNatClampNeg + 1), c.2.2), m) : Wd) = (c, m)
          rw [hback]
    refine ctr_ev 100 [26] rfl rfl (bT (c := (0 : Int32) < nI (ones + 1)) (by rw [show (0 : Int32) = nI 0 from rfl, nIlt (by decide) (by omega)]; omega) ?_)
    exact key (L.length - k) k _ _ none _ (by omega) rfl rfl rfl rfl
end SFC

/-! offers: the class's side -/
def OH (pt wo : Nat → Nat) (I : Sd → Prop) : Prop := (∀ p, pt p ≤ 99 ∧ wo p ≤ 99) ∧ ∀ c, I c → ∀ p, p < 6 → c.1 9 p 3 = nI (pt p) ∧ c.1 9 p 4 = nI (wo p)
/-- what all of a set pledge -/
def plg (pt : Nat → Nat) (s : Nat) : Nat → Nat
  | 0 => 0
  | k + 1 => plg pt s k + (if s.testBit k = true then pt k else 0)
/-- the set with one more, or without -/
def sx (s p : Nat) : Nat := if s.testBit p = true then s - 2 ^ p else s + 2 ^ p
def hbv (pt wo : Nat → Nat) (n : Nat) (goal top : Int32) (p s : Nat) : Int32 := if goal ≤ nI (plg pt s n) then (if s.testBit p = true then nI (wo p) - nI (pt p) else nI (wo p)) else (if s.testBit p = true then top else 0)
def rsB (pt wo : Nat → Nat) (n : Nat) (goal top : Int32) (s : Nat) : Bool := (fst (fun p => !decide (hbv pt wo n goal top p (sx s p) ≤ hbv pt wo n goal top p s)) n 0).isNone
def rch (pt wo : Nat → Nat) (n : Nat) (goal top : Int32) : Bool := (fst (fun s => rsB pt wo n goal top s && !decide (goal ≤ nI (plg pt s n))) (2 ^ n) 0).isNone && (fst (rsB pt wo n goal top) (2 ^ n) 0).isSome
def sRests (pt wo : Nat → Nat) (n : Nat) (s goal top : Int32) : Int32 := if inS n s then (if inW 1 500 goal ∧ inW 0 99 top then bi (rsB pt wo n goal top (tN s) = true) else -1002) else -1001
def sLeastTop (pt wo : Nat → Nat) (n : Nat) (goal : Int32) : Int32 := if inW 1 500 goal then optI (fst (fun top => rch pt wo n goal (nI top)) 100 0) else -1002
theorem plg_le {pt : Nat → Nat} (h : ∀ p, pt p ≤ 99) (s : Nat) : ∀ k, plg pt s k ≤ 99 * k
  | 0 => Nat.le_refl _
  | k + 1 => by
    have := plg_le h s k
    have := h k
    simp only [plg]
    split <;> omega
theorem sx_bit : ∀ s, s < 64 → ∀ p, p < 6 → ∀ q, q < 6 → (sx s p).testBit q = (if q = p then !s.testBit q else s.testBit q) := by decide +kernel
theorem plg_low {pt : Nat → Nat} {s p : Nat} (hs : s < 64) (hp : p < 6) : ∀ k, k ≤ p → plg pt (sx s p) k = plg pt s k
  | 0, _ => rfl
  | k + 1, h => by
    simp only [plg]
    rw [plg_low hs hp k (by omega), sx_bit s hs p hp k (by omega), if_neg (show ¬ k = p by omega)]
theorem plg_in {pt : Nat → Nat} {s p : Nat} (hs : s < 64) (hp : p < 6) (hb : s.testBit p = true) : ∀ k, p < k → k ≤ 6 → plg pt (sx s p) k + pt p = plg pt s k
  | 0, h, _ => absurd h (by omega)
  | k + 1, h, h6 => by
    simp only [plg]
    rw [sx_bit s hs p hp k (by omega)]
    by_cases hk : k = p
    · subst hk
      rw [plg_low hs hp k (Nat.le_refl _)]
      simp [hb]
    · rw [if_neg hk]
      have := plg_in (pt := pt) hs hp hb k (by omega) (by omega)
      omega
theorem plg_out {pt : Nat → Nat} {s p : Nat} (hs : s < 64) (hp : p < 6) (hb : ¬ s.testBit p = true) : ∀ k, p < k → k ≤ 6 → plg pt (sx s p) k = plg pt s k + pt p
  | 0, h, _ => absurd h (by omega)
  | k + 1, h, h6 => by
    simp only [plg]
    rw [sx_bit s hs p hp k (by omega)]
    by_cases hk : k = p
    · subst hk
      rw [plg_low hs hp k (Nat.le_refl _)]
      simp [hb]
    · rw [if_neg hk]
      have := plg_out (pt := pt) hs hp hb k (by omega) (by omega)
      omega
theorem fst_snoc (bad : Nat → Bool) : ∀ (j k : Nat), fst bad (j + 1) k = match fst bad j k with
    | some q => some q
    | none => if bad (k + j) then some (k + j) else none := by
  intro j
  induction j with
  | zero => intro k; simp [fst]
  | succ j ih =>
    intro k
    rw [fst]
    split
    · rename_i h
      simp [fst, h]
    · rename_i h
      rw [ih (k + 1), show k + 1 + j = k + (j + 1) by omega]
      simp [fst, h]
section OFF
variable {n : Nat} {l : Nat → Nat → Nat → Nat} {I : Sd → Prop} {c m : Sd} {pt wo : Nat → Nat}
theorem c_pledged (hH : CH n l I) (hO : OH pt wo I) (hc : I c) {s : Nat} (hs : s < 2 ^ 31) : Fn 1 3 [vR false 21 0, vI (nI s)] (c, m) (c, m) (some (vI (nI (plg pt s n)))) := by
  obtain ⟨⟨h1, h6⟩, hl, hn, -⟩ := id hH
  obtain ⟨hb, ho⟩ := hO
  have key : ∀ (j k : Nat) (x a : Int32), k + j = n → x = nI k → a = nI (plg pt s k) → Go 1 3 none 4 [some (vR false 21 0), some (vI (nI s)), some (vI a), some (vI x)] [] (c, m) (fun w' r' => w' = (c, m) ∧ r' = some (vI (nI (plg pt s n)))) := by
    intro j
    induction j with
    | zero =>
      intro k x a hk hx ha
      refine go_ev 40 [4] (bT (c := c.1 7 0 1 ≤ x) (by rw [hn c hc, hx, nIle (by omega) (by omega)]; omega) ?_)
      exact And.intro rfl (by rw [ha, show k = n by omega])
    | succ j ih =>
      intro k x a hk hx ha
      subst hx
      refine go_ev 40 [4] (bF (c := c.1 7 0 1 ≤ nI k) (by rw [hn c hc, nIle (by omega) (by omega)]; omega) ?_)
      refine iF (c_isInN _ hs (by omega)) (by decide) ?_
      refine bI (fun h => ?_) (fun h => ?_)
      · rw [bi_0] at h
        refine ih (k + 1) _ _ (by omega) (nI_succ k).symm ?_
        rw [ha]
        simp [plg, h]
      · rw [bi_0, Classical.not_not] at h
        refine dI (vp6 (by omega)) ?_
        refine ih (k + 1) _ _ (by omega) (nI_succ k).symm ?_
        show a + c.1 9 (nI k).toNatClampNeg 3 = _
        rw [ha, nI_clamp (by omega), (ho c hc k (by omega)).1, nIadd]
        simp [plg, h]
  refine ctr_ev 40 [4] rfl rfl ?_
  exact key n 0 0 0 (by omega) rfl rfl
/-- what one has: b1 whether it pledges, b2 whether it comes to the goal -/
theorem c_outcome (w : Wd) (i : Nat) (b1 b2 top : Int32) : Fn 0 2 [vR false 9 i, vI b1, vI b2, vI top] w w (some (vI (if b2 = 0 then (if b1 = 0 then 0 else top) else (if b1 = 0 then wF w false 9 i 4 else wF w false 9 i 4 - wF w false 9 i 3)))) := by
  refine ctr_ev 20 [] rfl rfl (bI (fun h => bI (fun h1 => ?_) (fun h1 => ?_)) (fun h => bI (fun h1 => ?_) (fun h1 => ?_)))
  · exact And.intro rfl (by rw [if_pos h, if_pos h1])
  · exact And.intro rfl (by rw [if_pos h, if_neg h1])
  · exact And.intro rfl (by rw [if_neg h, if_pos h1])
  · exact And.intro rfl (by rw [if_neg h, if_neg h1])
theorem c_isAtRest (hH : CH n l I) (hO : OH pt wo I) (hc : I c) {s : Nat} (hs : s < 2 ^ n) (goal top : Int32) : Fn 2 0 [vR false 21 0, vI (nI s), vI goal, vI top] (c, m) (c, m) (some (vI (bi (rsB pt wo n goal top s = true)))) := by
  obtain ⟨⟨h1, h6⟩, hl, hn, -⟩ := id hH
  obtain ⟨hb, ho⟩ := id hO
  have h64 := pow2_le h6
  have hall := plg_le (fun p => (hb p).1) s n
  have key : ∀ (j k : Nat) (x : Int32) (v6 v7 v8 : Option PV), k + j = n → x = nI k → fst (fun p => !decide (hbv pt wo n goal top p (sx s p) ≤ hbv pt wo n goal top p s)) n 0 = fst (fun p => !decide (hbv pt wo n goal top p (sx s p) ≤ hbv pt wo n goal top p s)) j k → Go 2 0 none 10 [some (vR false 21 0), some (vI (nI s)), some (vI goal), some (vI top), some (vI (nI (plg pt s n))), some (vI x), v6, v7, v8] [] (c, m) (fun w' r' => w' = (c, m) ∧ r' = some (vI (bi (rsB pt wo n goal top s = true)))) := by
    intro j
    induction j with
    | zero =>
      intro k x v6 v7 v8 hk hx hf
      refine go_ev 40 [10] (bT (c := c.1 7 0 1 ≤ x) (by rw [hn c hc, hx, nIle (by omega) (by omega)]; omega) ?_)
      refine And.intro rfl (And.intro rfl ?_)
      rw [bi_t]
      unfold rsB
      rw [hf]
      rfl
    | succ j ih =>
      intro k x v6 v7 v8 hk hx hf
      subst hx
      have hcl : (nI k).toNatClampNeg = k := nI_clamp (by omega)
      have hpk := (ho c hc k (by omega)).1
      have hwk := (ho c hc k (by omega)).2
      have hp99 := (hb k).1
      refine go_ev 80 [10] (bF (c := c.1 7 0 1 ≤ nI k) (by rw [hn c hc, nIle (by omega) (by omega)]; omega) ?_)
      refine dI (vp6 (by omega)) ?_
      rw [hcl]
      refine iF (c_isInN _ (by omega) (by omega)) (by decide) ?_
      by_cases hbit : s.testBit k = true
      · rw [bi_t hbit]
        have hsb : (sx s k).testBit k = false := by rw [sx_bit s (by omega) k (by omega) k (by omega)]; simp [hbit]
        have hpl := plg_in (pt := pt) (s := s) (p := k) (by omega) (by omega) hbit n (by omega) h6
        have e1 : nI (plg pt s n) - c.1 9 k 3 = nI (plg pt (sx s k) n) := by rw [hpk, pk_sub (by omega)]; congr 1; omega
        refine bF (by decide) ?_
        refine bF (by decide) ?_
        refine bI (c := nI (plg pt s n) - c.1 9 k 3 < goal) (fun h2 => ?_) (fun h2 => ?_)
        · rw [e1] at h2
          have g1 : ¬ goal ≤ nI (plg pt (sx s k) n) := Int32.not_le.mpr h2
          have o1 : Fn 0 2 [vR false 9 k, vI 0, vI 0, vI top] (c, m) (c, m) (some (vI (hbv pt wo n goal top k (sx s k)))) := by
            have z := c_outcome (c, m) k 0 0 top
            have e2 : (if (0 : Int32) = 0 then (if (0 : Int32) = 0 then 0 else top) else (if (0 : Int32) = 0 then c.1 9 k 4 else c.1 9 k 4 - c.1 9 k 3)) = hbv pt wo n goal top k (sx s k) := by
              rw [hpk, hwk, hbv, hsb]
              simp [g1]
            exact e2 ▸ z
          refine iF o1 (by decide) ?_
          refine bI (c := nI (plg pt s n) < goal) (fun h3 => ?_) (fun h3 => ?_)
          · have g2 : ¬ goal ≤ nI (plg pt s n) := Int32.not_le.mpr h3
            have o2 : Fn 0 2 [vR false 9 k, vI 1, vI 0, vI top] (c, m) (c, m) (some (vI (hbv pt wo n goal top k s))) := by
              have z := c_outcome (c, m) k 1 0 top
              have e2 : (if (0 : Int32) = 0 then (if (1 : Int32) = 0 then 0 else top) else (if (1 : Int32) = 0 then c.1 9 k 4 else c.1 9 k 4 - c.1 9 k 3)) = hbv pt wo n goal top k s := by
                rw [hpk, hwk, hbv]
                simp [g2, hbit]
              exact e2 ▸ z
            refine iF o2 (by decide) ?_
            refine bI (fun h5 => ?_) (fun h5 => ?_)
            · refine ih (k + 1) _ _ _ _ (by omega) (nI_succ k).symm ?_
              rw [hf]
              simp only [fst]
              rw [if_neg (by simp [h5])]
            · refine And.intro rfl (And.intro rfl ?_)
              rw [bi_f]
              unfold rsB
              rw [hf]
              simp only [fst]
              rw [if_pos (by simp [h5])]
              simp
          · have g2 : goal ≤ nI (plg pt s n) := Int32.not_lt.mp h3
            have o2 : Fn 0 2 [vR false 9 k, vI 1, vI 1, vI top] (c, m) (c, m) (some (vI (hbv pt wo n goal top k s))) := by
              have z := c_outcome (c, m) k 1 1 top
              have e2 : (if (1 : Int32) = 0 then (if (1 : Int32) = 0 then 0 else top) else (if (1 : Int32) = 0 then c.1 9 k 4 else c.1 9 k 4 - c.1 9 k 3)) = hbv pt wo n goal top k s := by
                rw [hpk, hwk, hbv]
                simp [g2, hbit]
              exact e2 ▸ z
            refine iF o2 (by decide) ?_
            refine bI (fun h5 => ?_) (fun h5 => ?_)
            · refine ih (k + 1) _ _ _ _ (by omega) (nI_succ k).symm ?_
              rw [hf]
              simp only [fst]
              rw [if_neg (by simp [h5])]
            · refine And.intro rfl (And.intro rfl ?_)
              rw [bi_f]
              unfold rsB
              rw [hf]
              simp only [fst]
              rw [if_pos (by simp [h5])]
              simp
        · rw [e1] at h2
          have g1 : goal ≤ nI (plg pt (sx s k) n) := Int32.not_lt.mp h2
          have o1 : Fn 0 2 [vR false 9 k, vI 0, vI 1, vI top] (c, m) (c, m) (some (vI (hbv pt wo n goal top k (sx s k)))) := by
            have z := c_outcome (c, m) k 0 1 top
            have e2 : (if (1 : Int32) = 0 then (if (0 : Int32) = 0 then 0 else top) else (if (0 : Int32) = 0 then c.1 9 k 4 else c.1 9 k 4 - c.1 9 k 3)) = hbv pt wo n goal top k (sx s k) := by
              rw [hpk, hwk, hbv, hsb]
              simp [g1]
            exact e2 ▸ z
          refine iF o1 (by decide) ?_
          refine bI (c := nI (plg pt s n) < goal) (fun h3 => ?_) (fun h3 => ?_)
          · have g2 : ¬ goal ≤ nI (plg pt s n) := Int32.not_le.mpr h3
            have o2 : Fn 0 2 [vR false 9 k, vI 1, vI 0, vI top] (c, m) (c, m) (some (vI (hbv pt wo n goal top k s))) := by
              have z := c_outcome (c, m) k 1 0 top
              have e2 : (if (0 : Int32) = 0 then (if (1 : Int32) = 0 then 0 else top) else (if (1 : Int32) = 0 then c.1 9 k 4 else c.1 9 k 4 - c.1 9 k 3)) = hbv pt wo n goal top k s := by
                rw [hpk, hwk, hbv]
                simp [g2, hbit]
              exact e2 ▸ z
            refine iF o2 (by decide) ?_
            refine bI (fun h5 => ?_) (fun h5 => ?_)
            · refine ih (k + 1) _ _ _ _ (by omega) (nI_succ k).symm ?_
              rw [hf]
              simp only [fst]
              rw [if_neg (by simp [h5])]
            · refine And.intro rfl (And.intro rfl ?_)
              rw [bi_f]
              unfold rsB
              rw [hf]
              simp only [fst]
              rw [if_pos (by simp [h5])]
              simp
          · have g2 : goal ≤ nI (plg pt s n) := Int32.not_lt.mp h3
            have o2 : Fn 0 2 [vR false 9 k, vI 1, vI 1, vI top] (c, m) (c, m) (some (vI (hbv pt wo n goal top k s))) := by
              have z := c_outcome (c, m) k 1 1 top
              have e2 : (if (1 : Int32) = 0 then (if (1 : Int32) = 0 then 0 else top) else (if (1 : Int32) = 0 then c.1 9 k 4 else c.1 9 k 4 - c.1 9 k 3)) = hbv pt wo n goal top k s := by
                rw [hpk, hwk, hbv]
                simp [g2, hbit]
              exact e2 ▸ z
            refine iF o2 (by decide) ?_
            refine bI (fun h5 => ?_) (fun h5 => ?_)
            · refine ih (k + 1) _ _ _ _ (by omega) (nI_succ k).symm ?_
              rw [hf]
              simp only [fst]
              rw [if_neg (by simp [h5])]
            · refine And.intro rfl (And.intro rfl ?_)
              rw [bi_f]
              unfold rsB
              rw [hf]
              simp only [fst]
              rw [if_pos (by simp [h5])]
              simp
      · rw [bi_f hbit]
        have hsb : (sx s k).testBit k = true := by rw [sx_bit s (by omega) k (by omega) k (by omega)]; simp [hbit]
        have hpl := plg_out (pt := pt) (s := s) (p := k) (by omega) (by omega) hbit n (by omega) h6
        have e1 : nI (plg pt s n) + c.1 9 k 3 = nI (plg pt (sx s k) n) := by rw [hpk, nIadd, hpl]
        refine bT rfl ?_
        refine bT rfl ?_
        refine bI (c := nI (plg pt s n) + c.1 9 k 3 < goal) (fun h2 => ?_) (fun h2 => ?_)
        · rw [e1] at h2
          have g1 : ¬ goal ≤ nI (plg pt (sx s k) n) := Int32.not_le.mpr h2
          have o1 : Fn 0 2 [vR false 9 k, vI 1, vI 0, vI top] (c, m) (c, m) (some (vI (hbv pt wo n goal top k (sx s k)))) := by
            have z := c_outcome (c, m) k 1 0 top
            have e2 : (if (0 : Int32) = 0 then (if (1 : Int32) = 0 then 0 else top) else (if (1 : Int32) = 0 then c.1 9 k 4 else c.1 9 k 4 - c.1 9 k 3)) = hbv pt wo n goal top k (sx s k) := by
              rw [hpk, hwk, hbv, hsb]
              simp [g1]
            exact e2 ▸ z
          refine iF o1 (by decide) ?_
          refine bI (c := nI (plg pt s n) < goal) (fun h3 => ?_) (fun h3 => ?_)
          · have g2 : ¬ goal ≤ nI (plg pt s n) := Int32.not_le.mpr h3
            have o2 : Fn 0 2 [vR false 9 k, vI 0, vI 0, vI top] (c, m) (c, m) (some (vI (hbv pt wo n goal top k s))) := by
              have z := c_outcome (c, m) k 0 0 top
              have e2 : (if (0 : Int32) = 0 then (if (0 : Int32) = 0 then 0 else top) else (if (0 : Int32) = 0 then c.1 9 k 4 else c.1 9 k 4 - c.1 9 k 3)) = hbv pt wo n goal top k s := by
                rw [hpk, hwk, hbv]
                simp [g2, hbit]
              exact e2 ▸ z
            refine iF o2 (by decide) ?_
            refine bI (fun h5 => ?_) (fun h5 => ?_)
            · refine ih (k + 1) _ _ _ _ (by omega) (nI_succ k).symm ?_
              rw [hf]
              simp only [fst]
              rw [if_neg (by simp [h5])]
            · refine And.intro rfl (And.intro rfl ?_)
              rw [bi_f]
              unfold rsB
              rw [hf]
              simp only [fst]
              rw [if_pos (by simp [h5])]
              simp
          · have g2 : goal ≤ nI (plg pt s n) := Int32.not_lt.mp h3
            have o2 : Fn 0 2 [vR false 9 k, vI 0, vI 1, vI top] (c, m) (c, m) (some (vI (hbv pt wo n goal top k s))) := by
              have z := c_outcome (c, m) k 0 1 top
              have e2 : (if (1 : Int32) = 0 then (if (0 : Int32) = 0 then 0 else top) else (if (0 : Int32) = 0 then c.1 9 k 4 else c.1 9 k 4 - c.1 9 k 3)) = hbv pt wo n goal top k s := by
                rw [hpk, hwk, hbv]
                simp [g2, hbit]
              exact e2 ▸ z
            refine iF o2 (by decide) ?_
            refine bI (fun h5 => ?_) (fun h5 => ?_)
            · refine ih (k + 1) _ _ _ _ (by omega) (nI_succ k).symm ?_
              rw [hf]
              simp only [fst]
              rw [if_neg (by simp [h5])]
            · refine And.intro rfl (And.intro rfl ?_)
              rw [bi_f]
              unfold rsB
              rw [hf]
              simp only [fst]
              rw [if_pos (by simp [h5])]
              simp
        · rw [e1] at h2
          have g1 : goal ≤ nI (plg pt (sx s k) n) := Int32.not_lt.mp h2
          have o1 : Fn 0 2 [vR false 9 k, vI 1, vI 1, vI top] (c, m) (c, m) (some (vI (hbv pt wo n goal top k (sx s k)))) := by
            have z := c_outcome (c, m) k 1 1 top
            have e2 : (if (1 : Int32) = 0 then (if (1 : Int32) = 0 then 0 else top) else (if (1 : Int32) = 0 then c.1 9 k 4 else c.1 9 k 4 - c.1 9 k 3)) = hbv pt wo n goal top k (sx s k) := by
              rw [hpk, hwk, hbv, hsb]
              simp [g1]
            exact e2 ▸ z
          refine iF o1 (by decide) ?_
          refine bI (c := nI (plg pt s n) < goal) (fun h3 => ?_) (fun h3 => ?_)
          · have g2 : ¬ goal ≤ nI (plg pt s n) := Int32.not_le.mpr h3
            have o2 : Fn 0 2 [vR false 9 k, vI 0, vI 0, vI top] (c, m) (c, m) (some (vI (hbv pt wo n goal top k s))) := by
              have z := c_outcome (c, m) k 0 0 top
              have e2 : (if (0 : Int32) = 0 then (if (0 : Int32) = 0 then 0 else top) else (if (0 : Int32) = 0 then c.1 9 k 4 else c.1 9 k 4 - c.1 9 k 3)) = hbv pt wo n goal top k s := by
                rw [hpk, hwk, hbv]
                simp [g2, hbit]
              exact e2 ▸ z
            refine iF o2 (by decide) ?_
            refine bI (fun h5 => ?_) (fun h5 => ?_)
            · refine ih (k + 1) _ _ _ _ (by omega) (nI_succ k).symm ?_
              rw [hf]
              simp only [fst]
              rw [if_neg (by simp [h5])]
            · refine And.intro rfl (And.intro rfl ?_)
              rw [bi_f]
              unfold rsB
              rw [hf]
              simp only [fst]
              rw [if_pos (by simp [h5])]
              simp
          · have g2 : goal ≤ nI (plg pt s n) := Int32.not_lt.mp h3
            have o2 : Fn 0 2 [vR false 9 k, vI 0, vI 1, vI top] (c, m) (c, m) (some (vI (hbv pt wo n goal top k s))) := by
              have z := c_outcome (c, m) k 0 1 top
              have e2 : (if (1 : Int32) = 0 then (if (0 : Int32) = 0 then 0 else top) else (if (0 : Int32) = 0 then c.1 9 k 4 else c.1 9 k 4 - c.1 9 k 3)) = hbv pt wo n goal top k s := by
                rw [hpk, hwk, hbv]
                simp [g2, hbit]
              exact e2 ▸ z
            refine iF o2 (by decide) ?_
            refine bI (fun h5 => ?_) (fun h5 => ?_)
            · refine ih (k + 1) _ _ _ _ (by omega) (nI_succ k).symm ?_
              rw [hf]
              simp only [fst]
              rw [if_neg (by simp [h5])]
            · refine And.intro rfl (And.intro rfl ?_)
              rw [bi_f]
              unfold rsB
              rw [hf]
              simp only [fst]
              rw [if_pos (by simp [h5])]
              simp
  refine ctr_ev 40 [10] rfl rfl ?_
  refine iF (c_pledged hH hO hc (by omega)) (by decide) ?_
  exact key n 0 0 none none none (by omega) rfl rfl
theorem c_reaches (hH : CH n l I) (hO : OH pt wo I) (hc : I c) (goal top : Int32) : Fn 3 1 [vR false 21 0, vI goal, vI top] (c, m) (c, m) (some (vI (bi (rch pt wo n goal top = true)))) := by
  obtain ⟨⟨h1, h6⟩, hl, hn, -⟩ := id hH
  have h64 := pow2_le h6
  have hsz : (1 : Int32) <<< (c.1 7 0 1 &&& 31) = nI (2 ^ n) := by rw [hn c hc, nI_sets h6]
  have key : ∀ (j k : Nat) (x a : Int32), k + j = 2 ^ n → x = nI k → a = bi ((fst (rsB pt wo n goal top) k 0).isSome = true) → fst (fun s => rsB pt wo n goal top s && !decide (goal ≤ nI (plg pt s n))) (2 ^ n) 0 = fst (fun s => rsB pt wo n goal top s && !decide (goal ≤ nI (plg pt s n))) j k → Go 3 1 none 5 [some (vR false 21 0), some (vI goal), some (vI top), some (vI a), some (vI x)] [] (c, m) (fun w' r' => w' = (c, m) ∧ r' = some (vI (bi (rch pt wo n goal top = true)))) := by
    intro j
    induction j with
    | zero =>
      intro k x a hk hx ha hf
      refine go_ev 40 [5] (bT (c := (1 : Int32) <<< (c.1 7 0 1 &&& 31) ≤ x) (by rw [hsz, hx, nIle (by omega) (by omega)]; omega) ?_)
      have e : bi (rch pt wo n goal top = true) = a := by
        rw [ha, show k = 2 ^ n by omega]
        unfold rch
        rw [hf]
        simp [fst]
      rw [e]
      refine And.intro ?_ (And.intro rfl rfl)
      rw [ha]
      exact zok_bi
    | succ j ih =>
      intro k x a hk hx ha hf
      subst hx
      have hsnoc : fst (rsB pt wo n goal top) (k + 1) 0 = match fst (rsB pt wo n goal top) k 0 with
        | some q => some q
        | none => if rsB pt wo n goal top k then some k else none := by
        have z := fst_snoc (rsB pt wo n goal top) k 0
        rw [Nat.zero_add] at z
        exact z
      refine go_ev 40 [5] (bF (c := (1 : Int32) <<< (c.1 7 0 1 &&& 31) ≤ nI k) (by rw [hsz, nIle (by omega) (by omega)]; omega) ?_)
      refine iF (c_isAtRest hH hO hc (s := k) (by omega) goal top) (by decide) ?_
      refine bI (fun h => ?_) (fun h => ?_)
      · rw [bi_0] at h
        refine ih (k + 1) _ _ (by omega) (nI_succ k).symm ?_ ?_
        · rw [ha, hsnoc]
          cases fst (rsB pt wo n goal top) k 0 <;> simp [h]
        · rw [hf]
          simp [fst, h]
      · rw [bi_0, Classical.not_not] at h
        refine iF (c_pledged hH hO hc (by omega)) (by decide) ?_
        refine bI (fun h2 => ?_) (fun h2 => ?_)
        · refine ih (k + 1) _ _ (by omega) (nI_succ k).symm ?_ ?_
          · rw [bi_t]
            rw [hsnoc]
            cases fst (rsB pt wo n goal top) k 0 <;> simp [h]
          · rw [hf]
            simp [fst, h2]
        · refine And.intro rfl (And.intro rfl ?_)
          rw [bi_f]
          unfold rch
          rw [hf]
          simp [fst, h, h2]
  refine ctr_ev 40 [5] rfl rfl ?_
  exact key (2 ^ n) 0 0 0 (by omega) rfl (by rw [bi_f (by simp [fst])]) rfl
theorem c_rests (hH : CH n l I) (hO : OH pt wo I) (hc : I c) (s goal top : Int32) : Ctr 4 79 [vR false 0 0, vI s, vI goal, vI top] (c, m) (PQ I m (sRests pt wo n s goal top)) := by
  obtain ⟨⟨h1, h6⟩, hl, hn, -⟩ := id hH
  have h64 := pow2_le h6
  refine ctr_ev 60 [] rfl rfl (iF (c_hasAll h6 (hn c hc) s) (by decide) (bI (fun h => ?_) (fun h => ?_)))
  · rw [bi_0] at h
    refine pqi hc ?_
    rw [sRests, if_neg h]
  · rw [bi_0, Classical.not_not] at h
    rw [sRests, if_pos h]
    refine iF (c_within _ goal 1 500) (by decide) (bI (fun hg => ?_) (fun hg => ?_))
    · rw [bi_0] at hg
      refine pqi hc ?_
      rw [if_neg (fun z => hg z.1)]
    · rw [bi_0, Classical.not_not] at hg
      refine iF (c_within _ top 0 99) (by decide) (bI (fun ht => ?_) (fun ht => ?_))
      · rw [bi_0] at ht
        refine pqi hc ?_
        rw [if_neg (fun z => ht z.2)]
      · rw [bi_0, Classical.not_not] at ht
        rw [if_pos ⟨hg, ht⟩]
        obtain ⟨hk, he⟩ := clampP (pow2_pos n) (by omega) h
        generalize tN s = k at hk he ⊢
        subst he
        refine iF (c_isAtRest hH hO hc hk goal top) (by decide) ?_
        refine bI (fun hz => ?_) (fun hz => ?_)
        · exact pqi hc hz.symm
        · rw [bi_0, Classical.not_not] at hz
          exact pqi hc (bi_t hz).symm
theorem c_leastTop (hH : CH n l I) (hO : OH pt wo I) (hc : I c) (goal : Int32) : Ctr 5 80 [vR false 0 0, vI goal] (c, m) (PQ I m (sLeastTop pt wo n goal)) := by
  refine ctr_ev 60 [17] rfl rfl (iF (c_within _ goal 1 500) (by decide) (bI (fun hg => ?_) (fun hg => ?_)))
  · rw [bi_0] at hg
    refine pqi hc ?_
    rw [sLeastTop, if_neg hg]
  · rw [bi_0, Classical.not_not] at hg
    rw [sLeastTop, if_pos hg]
    have key : ∀ (j k : Nat) (x : Int32), k + j = 100 → x = nI k → fst (fun top => rch pt wo n goal (nI top)) 100 0 = fst (fun top => rch pt wo n goal (nI top)) j k → Go 5 80 none 17 [some (vR false 0 0), some (vI goal), some (vI x)] [] (c, m) (PQ I m (optI (fst (fun top => rch pt wo n goal (nI top)) 100 0))) := by
      intro j
      induction j with
      | zero =>
        intro k x hk hx hf
        subst hx
        refine go_ev 40 [17] (bT (by rw [show (99 : Int32) = nI 99 from rfl, nIlt (by omega) (by omega)]; omega) ?_)
        refine pqi hc ?_
        rw [hf]
        rfl
      | succ j ih =>
        intro k x hk hx hf
        subst hx
        refine go_ev 40 [17] (bF (by rw [show (99 : Int32) = nI 99 from rfl, nIlt (by omega) (by omega)]; omega) ?_)
        refine iF (c_reaches hH hO hc goal (nI k)) (by decide) ?_
        refine bI (fun h => ?_) (fun h => ?_)
        · rw [bi_0] at h
          refine ih (k + 1) _ (by omega) (nI_succ k).symm ?_
          rw [hf]
          simp [fst, h]
        · rw [bi_0, Classical.not_not] at h
          refine pqi hc ?_
          rw [hf]
          simp [fst, h, optI]
    exact key 100 0 0 (by omega) rfl rfl
end OFF

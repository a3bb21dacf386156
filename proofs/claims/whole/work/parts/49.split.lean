/-! the class: a text into tokens -/
section TKN
variable {tx : Nat → Nat} {L : Nat} {a t : Nat}
theorem tnd_mid {s j : Nat} (hs : s < L) (h1 : s < j) (h2 : j < tnd tx L s) : (knO (tx s) = 1 ∨ knO (tx s) = 2) ∧ knO (tx j) = knO (tx s) ∧ knO (tx (j - 1)) = knO (tx s) := by
  unfold tnd at h2
  rw [if_pos hs] at h2
  split at h2
  · rename_i h
    rw [h]
    exact ⟨Or.inl rfl, knO_1.mpr (run_in (L := L) (by omega) h2).2, knO_1.mpr (run_in (L := L) (i := s) (j := j - 1) (by omega) (by unfold wd at h2; omega)).2⟩
  · split at h2
    · rename_i h
      rw [h]
      exact ⟨Or.inr rfl, knO_2.mpr (run_in (L := L) (by omega) h2).2, knO_2.mpr (run_in (L := L) (i := s) (j := j - 1) (by omega) (by unfold dg at h2; omega)).2⟩
    · omega
theorem tnd_last {s : Nat} (hs : s < L) (h : tnd tx L s < L) (hk : knO (tx s) = 1 ∨ knO (tx s) = 2) : knO (tx (tnd tx L s)) ≠ knO (tx s) := by
  unfold tnd at h ⊢
  rw [if_pos hs] at h ⊢
  split at h
  · rename_i h1
    rw [if_pos h1, h1]
    exact fun z => run_end s ⟨h, knO_1.mp z⟩
  · rename_i h1
    rw [if_neg h1]
    have h2 : knO (tx s) = 2 := hk.resolve_left h1
    rw [if_pos h2, h2]
    rw [if_pos h2] at h
    exact fun z => run_end s ⟨h, knO_2.mp z⟩
theorem sk_blank {i j : Nat} (h1 : i ≤ j) (h2 : j < sk tx L i) : knO (tx j) = 0 := knO_0.mpr (run_in h1 h2).2
theorem tokA (hv : pos tx L t < L) (ha : a < L) (h4 : a ≤ pos tx L (t + 1)) (h1 : pos tx L t < a) (hk : knO (tx a) = 1 ∨ knO (tx a) = 2) (hb : knO (tx (a - 1)) = knO (tx a)) : a < tnd tx L (pos tx L t) := by
  apply Classical.byContradiction
  intro hn
  have hn : tnd tx L (pos tx L t) ≤ a := Nat.le_of_not_lt hn
  have hg := tnd_gt (tx := tx) hv
  rcases Nat.lt_or_ge (tnd tx L (pos tx L t)) a with h | h
  · have h0 := sk_blank (tx := tx) (L := L) (i := tnd tx L (pos tx L t)) (j := a - 1) (by omega) (by
      have : pos tx L (t + 1) = sk tx L (tnd tx L (pos tx L t)) := rfl
      omega)
    omega
  · have he : tnd tx L (pos tx L t) = a := by omega
    rcases Nat.lt_or_ge (pos tx L t) (a - 1) with h2 | h2
    · obtain ⟨q1, q2, q3⟩ := tnd_mid (tx := tx) hv h2 (by omega)
      have := tnd_last (tx := tx) hv (by omega) q1
      rw [he] at this
      omega
    · have e1 : a - 1 = pos tx L t := by omega
      rw [e1] at hb
      have := tnd_last (tx := tx) hv (by omega) (by omega)
      rw [he] at this
      omega
theorem tokB0 (ha : a < L) (h4 : a ≤ pos tx L 0) (hk : knO (tx a) ≠ 0) : pos tx L 0 = a := by
  show run tx L blB 0 = a
  refine run_at (Nat.zero_le _) (fun j _ hj => run_in (i := 0) (Nat.zero_le _) (by
    have : pos tx L 0 = run tx L blB 0 := rfl
    omega)) (fun z => hk (knO_0.mpr z.2))
theorem tokB (hv : pos tx L t < L) (ha : a < L) (h4 : a ≤ pos tx L (t + 1)) (h1 : pos tx L t < a) (hk : knO (tx a) ≠ 0) (hj : ¬ ((knO (tx a) = 1 ∨ knO (tx a) = 2) ∧ knO (tx (a - 1)) = knO (tx a))) : pos tx L (t + 1) = a ∧ tnd tx L (pos tx L t) ≤ a := by
  have he : tnd tx L (pos tx L t) ≤ a := by
    apply Classical.byContradiction
    intro hn
    obtain ⟨q1, q2, q3⟩ := tnd_mid (tx := tx) hv h1 (by omega)
    exact hj ⟨by omega, by omega⟩
  refine ⟨?_, he⟩
  show run tx L blB (tnd tx L (pos tx L t)) = a
  refine run_at he (fun j hj1 hj2 => run_in hj1 (by
    have : pos tx L (t + 1) = run tx L blB (tnd tx L (pos tx L t)) := rfl
    omega)) (fun z => hk (knO_0.mpr z.2))
theorem tokC (hv : pos tx L t < L) (h1 : pos tx L t < a) (hk : knO (tx a) = 0) : tnd tx L (pos tx L t) ≤ a := by
  apply Classical.byContradiction
  intro hn
  obtain ⟨q1, q2, q3⟩ := tnd_mid (tx := tx) hv h1 (by omega)
  omega
theorem pos_nb (h : pos tx L t < L) : knO (tx (pos tx L t)) ≠ 0 := by
  cases t with
  | zero => exact sk_nb _ h
  | succ t => exact sk_nb _ h
end TKN
def Tx (tx : Nat → Nat) (L : Nat) (c : Sd) : Prop := c.1 1 0 1 = nI L ∧ ∀ i, i < L → c.2.1 2 0 i = nI (tx i)
def Tk (tx : Nat → Nat) (L : Nat) (c : Sd) : Prop := ∀ k, vld tx L k → c.2.1 4 0 k = nI (knd tx L (pos tx L k)) ∧ c.2.1 5 0 k = nI (pos tx L k) ∧ c.2.1 6 0 k = nI (tnd tx L (pos tx L k))
def SpS (c c' : Sd) : Prop := (∀ k i f, ¬ (k = 3 ∧ i = 0 ∧ f = 4) → c'.1 k i f = c.1 k i f) ∧ (∀ k i, ¬ (4 ≤ k ∧ k ≤ 6) → c'.2.1 k i = c.2.1 k i) ∧ c'.2.2 = c.2.2
theorem SpS_rfl (c : Sd) : SpS c c := ⟨fun _ _ _ _ => rfl, fun _ _ _ => rfl, rfl⟩
theorem SpS_tr {a b c : Sd} (h : SpS a b) (h2 : SpS b c) : SpS a c := ⟨fun k i f h1 => (h2.1 k i f h1).trans (h.1 k i f h1), fun k i h1 => (h2.2.1 k i h1).trans (h.2.1 k i h1), h2.2.2.trans h.2.2⟩
def addT (c : Sd) (t : Nat) (a b d : Int32) : Sd := (up3 c.1 3 0 4 (c.1 3 0 4 + 1), upA (upA (upA c.2.1 4 0 t a) 5 0 t b) 6 0 t d, c.2.2)
theorem addT_SpS (c : Sd) (t : Nat) (a b d : Int32) : SpS c (addT c t a b d) := by
  refine ⟨fun k i f h => up3_n _ _ h, fun k i h => ?_, rfl⟩
  show upA (upA (upA c.2.1 4 0 t a) 5 0 t b) 6 0 t d k i = _
  rw [upA_n _ _ (fun z => h (by omega)), upA_n _ _ (fun z => h (by omega)), upA_n _ _ (fun z => h (by omega))]
theorem addT_4 (c : Sd) (t : Nat) (a b d : Int32) : (addT c t a b d).2.1 4 0 = upd (c.2.1 4 0) t a := rfl
theorem addT_5 (c : Sd) (t : Nat) (a b d : Int32) : (addT c t a b d).2.1 5 0 = upd (c.2.1 5 0) t b := rfl
theorem addT_6 (c : Sd) (t : Nat) (a b d : Int32) : (addT c t a b d).2.1 6 0 = upd (c.2.1 6 0) t d := rfl
section SPL
variable {tx : Nat → Nat} {L : Nat} {c m : Sd}
theorem c_kindOf (w : Wd) {b : Nat} (hb : b < 256) : Fn 0 14 [vI (nI b)] w w (some (vI (nI (knO b)))) := by
  have e32 : nI b = 32 ↔ b = 32 := nIeq (a := b) (b := 32) (by omega) (by decide)
  have l97 : nI b < 97 ↔ b < 97 := nIlt (a := b) (b := 97) (by omega) (by decide)
  have g122 : (122 : Int32) < nI b ↔ 122 < b := nIlt (a := 122) (b := b) (by decide) (by omega)
  have l48 : nI b < 48 ↔ b < 48 := nIlt (a := b) (b := 48) (by omega) (by decide)
  have g57 : (57 : Int32) < nI b ↔ 57 < b := nIlt (a := 57) (b := b) (by decide) (by omega)
  have lt_ : ltB b = true ↔ 97 ≤ b ∧ b ≤ 122 := decide_eq_true_iff
  have dg_ : dgB b = true ↔ 48 ≤ b ∧ b ≤ 57 := decide_eq_true_iff
  refine ctr_ev 100 [22] rfl rfl (bI (c := nI b = 32) (fun h => ?_) (fun h => ?_))
  · rw [e32] at h
    refine And.intro rfl ?_
    unfold knO
    rw [if_pos h]
    rfl
  · rw [e32] at h
    have h22 : ¬ (97 ≤ b ∧ b ≤ 122) → Go 0 14 none 22 [some (vI (nI b))] [] w (fun w' r' => w' = w ∧ r' = some (vI (nI (knO b)))) := by
      intro hl
      refine go_ev 100 [] (bI (c := nI b < 48) (fun h1 => ?_) (fun h1 => bI (c := (57 : Int32) < nI b) (fun h2 => ?_) (fun h2 => ?_)))
      · rw [l48] at h1
        refine And.intro rfl ?_
        unfold knO
        rw [if_neg h, if_neg (by rw [lt_]; exact hl), if_neg (by rw [dg_]; omega)]
        rfl
      · rw [g57] at h2
        refine And.intro rfl ?_
        unfold knO
        rw [if_neg h, if_neg (by rw [lt_]; exact hl), if_neg (by rw [dg_]; omega)]
        rfl
      · rw [l48] at h1
        rw [g57] at h2
        refine And.intro rfl ?_
        unfold knO
        rw [if_neg h, if_neg (by rw [lt_]; exact hl), if_pos (by rw [dg_]; omega)]
        rfl
    refine bI (c := nI b < 97) (fun h1 => ?_) (fun h1 => bI (c := (122 : Int32) < nI b) (fun h2 => ?_) (fun h2 => ?_))
    · rw [l97] at h1
      exact h22 (by omega)
    · rw [g122] at h2
      exact h22 (by omega)
    · rw [l97] at h1
      rw [g122] at h2
      refine And.intro rfl ?_
      unfold knO
      rw [if_neg h, if_pos (by rw [lt_]; omega)]
      rfl
theorem c_addToken {t : Nat} (ht : t < 121) (hct : c.1 3 0 4 = nI t) (a b d : Int32) : Fn 0 13 [vR false 3 0, vI a, vI b, vI d] (c, m) (addT c t a b d, m) none := by
  have hcl : (c.1 3 0 4).toNatClampNeg = t := pk_cl t hct
  have hin : vp_in (c.1 3 0 4) 121 := pk_in t 121 ht hct
  have hw : ((up3 c.1 3 0 4 (c.1 3 0 4 + 1), upA (upA (upA c.2.1 4 0 (c.1 3 0 4).toNatClampNeg a) 5 0 (c.1 3 0 4).toNatClampNeg b) 6 0 (c.1 3 0 4).toNatClampNeg d, c.2.2) : Sd) = addT c t a b d := by
    rw [hcl]
    rfl
  refine ctr_ev 100 [] rfl rfl (bF (c := (121 : Int32) ≤ c.1 3 0 4) (by rw [hct, show (121 : Int32) = nI 121 from rfl, nIle (by decide) (by omega)]; omega) (dI hin (dI hin (dI hin ?_))))
  exact And.intro (congrArg (fun z => ((z, m) : Wd)) hw) rfl
def QSp (tx : Nat → Nat) (L : Nat) (c m : Sd) : Wd → Option PV → Prop := fun w' r' => ∃ c', w' = (c', m) ∧ SpS c c' ∧ Tk tx L c' ∧ r' = none
theorem qspi {c' : Sd} (h1 : SpS c c') (h2 : Tk tx L c') : QSp tx L c m (c', m) none := ⟨c', rfl, h1, h2, rfl⟩
/-- tokens so far: t of them, all begun before a -/
def TkI (tx : Nat → Nat) (L a t : Nat) (c : Sd) : Prop := c.1 3 0 4 = nI t ∧ (∀ j, j < t → c.2.1 4 0 j = nI (knO (tx (pos tx L j))) ∧ c.2.1 5 0 j = nI (pos tx L j) ∧ pos tx L j < a ∧ c.2.1 6 0 j = nI (if j + 1 = t then min a (tnd tx L (pos tx L j)) else tnd tx L (pos tx L j))) ∧ a ≤ pos tx L t
theorem TkI_new {a t : Nat} (hI : TkI tx L a t c) (ht : pos tx L t = a) (ha : a < L) (he : ∀ j, j + 1 = t → tnd tx L (pos tx L j) ≤ a) : TkI tx L (a + 1) (t + 1) (addT c t (nI (knO (tx a))) (nI a) (nI (a + 1))) := by
  obtain ⟨h1, h2, h3⟩ := hI
  have hg := tnd_gt (tx := tx) ha
  refine ⟨?_, fun j hj => ?_, ?_⟩
  · show up3 c.1 3 0 4 (c.1 3 0 4 + 1) 3 0 4 = _
    rw [up3_s, h1, nI_succ]
  · rw [addT_4, addT_5, addT_6]
    by_cases hjt : j = t
    · subst hjt
      rw [pk_us, pk_us, pk_us, ht, if_pos rfl]
      refine ⟨rfl, rfl, by omega, ?_⟩
      congr 1
      omega
    · rw [pk_un hjt, pk_un hjt, pk_un hjt]
      obtain ⟨q1, q2, q3, q4⟩ := h2 j (by omega)
      refine ⟨q1, q2, by omega, ?_⟩
      rw [q4, if_neg (show ¬ j + 1 = t + 1 by omega)]
      split
      · rename_i hj2
        have := he j hj2
        congr 1
        omega
      · rfl
  · have := pos_step (tx := tx) (L := L) (k := t) (by omega)
    omega
theorem c_split (hL : L ≤ 120) (hb : ∀ i, tx i < 256) (hX : Tx tx L c) : Ctr 1 12 [vR false 3 0] (c, m) (QSp tx L c m) := by
  have key : ∀ (j a t : Nat) (x bf : Int32) (v3 v4 : Option PV) (c' : Sd), a + j = L → x = nI a → bf = nI (if a = 0 then 0 else knO (tx (a - 1))) → SpS c c' → TkI tx L a t c' → Go 1 12 none 9 [some (vR false 3 0), some (vI bf), some (vI x), v3, v4] [] (c', m) (QSp tx L c m) := by
    intro j
    induction j with
    | zero =>
      intro a t x bf v3 v4 c' ha hx hbf hS hI
      have hLc : c'.1 1 0 1 = nI L := (hS.1 1 0 1 (by decide)).trans hX.1
      have haL : a = L := by omega
      obtain ⟨h1, h2, h3⟩ := id hI
      have hv : vld tx L t := fun j hj => by
        have := (h2 j hj).2.2.1
        omega
      have ht := vld_le hv
      have hpt : pos tx L t = L := Nat.le_antisymm (pos_le t) (by omega)
      refine go_ev 100 [9] (bT (c := c'.1 1 0 1 ≤ x) (by rw [hLc, hx, nIle (by omega) (by omega)]; omega) ?_)
      refine iF (c_addToken (t := t) (by omega) h1 _ _ _) (by decide) ?_
      refine qspi (SpS_tr hS (addT_SpS _ _ _ _ _)) (fun k hk => ?_)
      rw [addT_4, addT_5, addT_6]
      have hkt : k ≤ t := by
        apply Classical.byContradiction
        intro hn
        have := hk t (by omega)
        omega
      by_cases hke : k = t
      · subst hke
        rw [pk_us, pk_us, pk_us, hpt]
        unfold knd tnd
        rw [if_neg (Nat.lt_irrefl _), if_neg (Nat.lt_irrefl _)]
        exact ⟨rfl, hLc, hLc⟩
      · rw [pk_un hke, pk_un hke, pk_un hke]
        obtain ⟨q1, q2, q3, q4⟩ := h2 k (by omega)
        have hg := tnd_gt (tx := tx) (show pos tx L k < L by omega)
        unfold knd
        rw [if_pos (by omega)]
        refine ⟨q1, q2, ?_⟩
        rw [q4]
        split
        · congr 1
          omega
        · rfl
    | succ j ih =>
      intro a t x bf v3 v4 c' ha hx hbf hS hI
      subst hx hbf
      have hLc : c'.1 1 0 1 = nI L := (hS.1 1 0 1 (by decide)).trans hX.1
      have hba := hb a
      have hkl := knO_lt (tx a)
      have hbl : (if a = 0 then 0 else knO (tx (a - 1))) < 4 := by
        split
        · omega
        · exact knO_lt _
      have haL : a < L := by omega
      obtain ⟨h1, h2, h3⟩ := id hI
      have hv : vld tx L t := fun j hj => by
        have := (h2 j hj).2.2.1
        omega
      have ht := vld_le hv
      have hby : c'.2.1 2 0 (nI a).toNatClampNeg = nI (tx a) := by
        rw [pk_cl a, hS.2.1 2 0 (by decide)]
        exact hX.2 a haL
      have hK : Fn 0 14 [vI (c'.2.1 2 0 (nI a).toNatClampNeg)] (c', m) (c', m) (some (vI (nI (knO (tx a))))) := by
        rw [hby]
        exact c_kindOf _ hba
      have hnext : ∀ (t' : Nat) (v4 : Option PV) (c2 : Sd), SpS c c2 → TkI tx L (a + 1) t' c2 → Go 1 12 none 97 [some (vR false 3 0), some (vI (nI (if a = 0 then 0 else knO (tx (a - 1))))), some (vI (nI a)), some (vI (nI (knO (tx a)))), v4] [] (c2, m) (QSp tx L c m) := by
        intro t' v4 c2 hS2 hI2
        refine go_ev 100 [9] (ih (a + 1) t' _ _ _ _ c2 (by omega) (nI_succ a).symm ?_ hS2 hI2)
        rw [if_neg (Nat.succ_ne_zero a)]
        rfl
      have h84 : ∀ (x4 : Int32), ¬ ((knO (tx a) = 1 ∨ knO (tx a) = 2) ∧ knO (tx a) = (if a = 0 then 0 else knO (tx (a - 1))) ∧ 0 < t) → Go 1 12 none 84 [some (vR false 3 0), some (vI (nI (if a = 0 then 0 else knO (tx (a - 1))))), some (vI (nI a)), some (vI (nI (knO (tx a)))), some (vI x4)] [] (c', m) (QSp tx L c m) := by
        intro x4 hnj
        refine go_ev 100 [97] (bI (c := nI (knO (tx a)) = 0) (fun h => ?_) (fun h => ?_))
        · have hk0 : knO (tx a) = 0 := (nIeq (b := 0) (by omega) (by decide)).mp h
          refine hnext t _ c' hS ⟨h1, fun j hj => ?_, ?_⟩
          · obtain ⟨q1, q2, q3, q4⟩ := h2 j hj
            refine ⟨q1, q2, by omega, ?_⟩
            rw [q4]
            split
            · have := tokC (tx := tx) (hv j hj) q3 hk0
              congr 1
              omega
            · rfl
          · have : pos tx L t ≠ a := fun z => pos_nb (tx := tx) (L := L) (t := t) (by omega) (by rw [z]; exact hk0)
            omega
        · have hk0 : knO (tx a) ≠ 0 := fun z => h (by rw [z]; rfl)
          have hst : pos tx L t = a ∧ ∀ j, j + 1 = t → tnd tx L (pos tx L j) ≤ a := by
            cases t with
            | zero => exact ⟨tokB0 haL h3 hk0, fun j hj => absurd hj (by omega)⟩
            | succ t =>
              have hlt := (h2 t (by omega)).2.2.1
              obtain ⟨q1, q2⟩ := tokB (tx := tx) (hv t (by omega)) haL h3 hlt hk0 (fun z => hnj ⟨z.1, by rw [if_neg (by omega)]; exact z.2.symm, by omega⟩)
              exact ⟨q1, fun j hj => by rw [show j = t by omega]; exact q2⟩
          have hnew := TkI_new hI hst.1 haL hst.2
          rw [nI_succ a] at hnew
          refine iF (c_addToken (t := t) (by omega) h1 _ _ _) (by decide) ?_
          exact hnext (t + 1) _ _ (SpS_tr hS (addT_SpS _ _ _ _ _)) hnew
      refine go_ev 100 [9, 48, 84, 97] (bF (c := c'.1 1 0 1 ≤ nI a) (by rw [hLc, nIle (by omega) (by omega)]; omega) (dI (pk_in a 120 (by omega)) (iF hK (by decide) ?_)))
      have hjoin : (knO (tx a) = 1 ∨ knO (tx a) = 2) → Go 1 12 none 48 [some (vR false 3 0), some (vI (nI (if a = 0 then 0 else knO (tx (a - 1))))), some (vI (nI a)), some (vI (nI (knO (tx a)))), v4] [vI 1] (c', m) (QSp tx L c m) := by
        intro hj
        refine go_ev 100 [9, 84, 97] (bF (c := (1 : Int32) = 0) (by decide) (bI (c := nI (knO (tx a)) = nI (if a = 0 then 0 else knO (tx (a - 1)))) (fun h => ?_) (fun h => ?_)))
        · rw [nIeq (by omega) (by omega)] at h
          refine bI (c := c'.1 3 0 4 ≤ 0) (fun h0 => ?_) (fun h0 => ?_)
          · rw [h1, show (0 : Int32) = nI 0 from rfl, nIle (by omega) (by decide)] at h0
            exact h84 _ (fun z => by omega)
          · rw [h1, show (0 : Int32) = nI 0 from rfl, nIle (by omega) (by decide)] at h0
            obtain ⟨t, rfl⟩ : ∃ t', t = t' + 1 := ⟨t - 1, by omega⟩
            have ha0 : ¬ a = 0 := fun z => by
              rw [if_pos z] at h
              omega
            rw [if_neg ha0] at h
            have hlt := (h2 t (by omega)).2.2.1
            have hA := tokA (tx := tx) (hv t (by omega)) haL h3 hlt hj h.symm
            have hi1 : c'.1 3 0 4 - 1 = nI t := by rw [h1, nI_sub1 (by omega)]; rfl
            have hic := pk_cl t hi1
            refine dI (pk_in t 121 (by omega) hi1) (hnext (t + 1) _ (c'.1, upA c'.2.1 6 0 (c'.1 3 0 4 - 1).toNatClampNeg (nI a + 1), c'.2.2) ?_ ?_)
            · exact SpS_tr hS ⟨fun _ _ _ _ => rfl, fun k i hk => upA_n _ _ (fun z => hk (by omega)), rfl⟩
            · refine ⟨h1, fun j hj => ?_, ?_⟩
              · obtain ⟨q1, q2, q3, q4⟩ := h2 j hj
                refine ⟨q1, q2, by omega, ?_⟩
                show upA c'.2.1 6 0 (c'.1 3 0 4 - 1).toNatClampNeg (nI a + 1) 6 0 j = _
                rw [upA_s, hic]
                by_cases hjt : j = t
                · subst hjt
                  rw [pk_us, if_pos rfl, ← nI_succ]
                  congr 1
                  omega
                · rw [pk_un hjt, q4, if_neg (by omega), if_neg (by omega)]
              · have := (tnd_gt (tx := tx) (hv t (by omega))).1
                have := sk_ge (tx := tx) (L := L) (tnd tx L (pos tx L t))
                show a + 1 ≤ sk tx L (tnd tx L (pos tx L t))
                omega
        · rw [nIeq (by omega) (by omega)] at h
          exact h84 _ (fun z => h z.2.1)
      refine bI (c := nI (knO (tx a)) = 1) (fun h => ?_) (fun h => bI (c := nI (knO (tx a)) = 2) (fun h2' => ?_) (fun h2' => ?_))
      · exact hjoin (Or.inl ((nIeq (b := 1) (by omega) (by decide)).mp h))
      · exact hjoin (Or.inr ((nIeq (b := 2) (by omega) (by decide)).mp h2'))
      · refine go_ev 100 [9, 84, 97] (bT (c := (0 : Int32) = 0) rfl (h84 _ (fun z => ?_)))
        rcases z.1 with z1 | z1
        · exact h (by rw [z1]; rfl)
        · exact h2' (by rw [z1]; rfl)
  have h0 : SpS c (up3 c.1 3 0 4 0, c.2.1, c.2.2) := ⟨fun k i f h => up3_n _ _ h, fun _ _ _ => rfl, rfl⟩
  refine ctr_ev 100 [9] rfl rfl ?_
  exact key L 0 0 0 0 none none (up3 c.1 3 0 4 0, c.2.1, c.2.2) (by omega) rfl rfl h0 ⟨up3_s c.1 3 0 4 0, fun j hj => absurd hj (by omega), Nat.zero_le _⟩
end SPL

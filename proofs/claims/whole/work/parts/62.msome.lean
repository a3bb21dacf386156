/-! the model: closing, joining -/
def cls (tx : Nat → Nat) (L : Nat) : Nat → List StpT → List Nat → Nat → List StpT × List Nat × Nat
  | 0, O, K, i => (O, K, i)
  | f + 1, O, K, i => if isS tx L 41 i = true ∧ hop K = true then cls tx L f (popF (fun x => x == 5) (popF (fun x => x != 8) K O).2.tail (popF (fun x => x != 8) K O).1).1 (popF (fun x => x == 5) (popF (fun x => x != 8) K O).2.tail (popF (fun x => x != 8) K O).1).2 (sk tx L (i + 1)) else (O, K, i)
def syA (tx : Nat → Nat) (L : Nat) (g : List StpT → List Nat → Nat → Rs (List StpT × Nat)) (O : List StpT) (K : List Nat) (i : Nat) : Rs (List StpT × Nat) := g (cls tx L (L + 1) (popF (fun x => x == 5) K O).1 (popF (fun x => x == 5) K O).2 i).1 (cls tx L (L + 1) (popF (fun x => x == 5) K O).1 (popF (fun x => x == 5) K O).2 i).2.1 (cls tx L (L + 1) (popF (fun x => x == 5) K O).1 (popF (fun x => x == 5) K O).2 i).2.2
def syH (tx : Nat → Nat) (L : Nat) (g : List StpT → List Nat → Nat → Rs (List StpT × Nat)) (O : List StpT) (K : List Nat) (i : Nat) : Rs (List StpT × Nat) := rb (hd tx L (6 - opn K) K i) (fun p => syA tx L g (O ++ p.2.1) p.1 p.2.2)
def syJ (tx : Nat → Nat) (L : Nat) : Nat → List StpT → List Nat → Nat → Rs (List StpT × Nat)
  | 0, _, _, _ => .inl (0, 0)
  | f + 1, O, K, i => if isW tx L 5 i = true then syH tx L (syJ tx L f) (popF (fun x => x == 6) K O).1 (6 :: (popF (fun x => x == 6) K O).2) (nx tx L i)
    else if isW tx L 6 i = true then syH tx L (syJ tx L f) (popF (fun x => x == 6 || x == 7) K O).1 (7 :: (popF (fun x => x == 6 || x == 7) K O).2) (nx tx L i)
    else if hop K = true then .inl (1, i) else .inr ((popF (fun _ => true) K O).1, i)
section BIS
variable {tx : Nat → Nat} {L i : Nat} {O : List StpT} {K : List Nat}
theorem BI_pop {x : Nat} (h : BI O (x :: K) i) (hx : x ≠ 8) : BI (O ++ [opS x]) K i := by
  obtain ⟨h1, h2, h3⟩ := h
  have h1 : 2 * (O.length + (K.length + 1)) ≤ i + (w8 K + (if x = 8 then 1 else 0)) := h1
  have h2 : opn K + (if x = 5 ∨ x = 8 then 1 else 0) ≤ 6 := h2
  rw [if_neg hx] at h1
  refine ⟨?_, by omega, fun y hy => h3 y (List.mem_cons_of_mem _ hy)⟩
  rw [List.length_append]
  show 2 * (O.length + 1 + K.length) ≤ _
  omega
theorem BI_popF {P : Nat → Bool} (hP : ∀ x, P x = true → x ≠ 8) : ∀ (K : List Nat) (O : List StpT), BI O K i → BI (popF P K O).1 (popF P K O).2 i
  | [], _, h => h
  | x :: K, O, h => by
    unfold popF
    split
    · rename_i hx
      exact BI_popF hP K _ (BI_pop h (hP x hx))
    · exact h
theorem popF_8 : ∀ (K : List Nat) (O : List StpT), hop K = true → ∃ K2, (popF (fun x => x != 8) K O).2 = 8 :: K2
  | [], _, h => by cases h
  | x :: K, O, h => by
    unfold popF
    by_cases hx : x = 8
    · subst hx
      exact ⟨K, rfl⟩
    · rw [if_pos (bne_iff_ne.mpr hx)]
      refine popF_8 K _ ?_
      have h : (hop K || decide (x = 8)) = true := h
      rw [decide_eq_false hx, Bool.or_false] at h
      exact h
theorem BI_drop {j : Nat} (h : BI O (8 :: K) i) (hj : i + 1 ≤ j) : BI O K j := by
  obtain ⟨h1, h2, h3⟩ := h
  have h1 : 2 * (O.length + (K.length + 1)) ≤ i + (w8 K + (if 8 = 8 then 1 else 0)) := h1
  have h2 : opn K + (if 8 = 5 ∨ 8 = 8 then 1 else 0) ≤ 6 := h2
  rw [if_pos rfl] at h1
  exact ⟨by omega, by omega, fun y hy => h3 y (List.mem_cons_of_mem _ hy)⟩
theorem ne8_5 : ∀ x : Nat, (x == 5) = true → x ≠ 8 := fun x h z => by rw [z] at h; cases h
theorem ne8_6 : ∀ x : Nat, (x == 6) = true → x ≠ 8 := fun x h z => by rw [z] at h; cases h
theorem ne8_67 : ∀ x : Nat, (x == 6 || x == 7) = true → x ≠ 8 := fun x h z => by rw [z] at h; cases h
theorem ne8_8 : ∀ x : Nat, (x != 8) = true → x ≠ 8 := fun x h => bne_iff_ne.mp h
theorem cls_BI : ∀ (f : Nat) (O : List StpT) (K : List Nat) (i : Nat), BI O K i → BI (cls tx L f O K i).1 (cls tx L f O K i).2.1 (cls tx L f O K i).2.2 ∧ i ≤ (cls tx L f O K i).2.2
  | 0, _, _, _, h => ⟨h, Nat.le_refl _⟩
  | f + 1, O, K, i, h => by
    unfold cls
    split
    · rename_i hc
      obtain ⟨K2, hK2⟩ := popF_8 K O hc.2
      have h1 := BI_popF ne8_8 K O h
      rw [hK2] at h1 ⊢
      have hge := sk_ge (tx := tx) (L := L) (i + 1)
      have h2 := BI_popF ne8_5 K2 _ (BI_drop h1 hge)
      have h3 := cls_BI f _ _ _ h2
      exact ⟨h3.1, by have := h3.2; show i ≤ _; exact Nat.le_trans (by omega) this⟩
    · exact ⟨h, Nat.le_refl _⟩
theorem BI_push {x j : Nat} (h : BI O K i) (hx : x = 6 ∨ x = 7) (hj : i + 2 ≤ j) : BI O (x :: K) j := by
  obtain ⟨h1, h2, h3⟩ := h
  refine ⟨?_, ?_, fun y hy => ?_⟩
  · show 2 * (O.length + (K.length + 1)) ≤ j + (w8 K + (if x = 8 then 1 else 0))
    rw [if_neg (by omega)]
    omega
  · show opn K + (if x = 5 ∨ x = 8 then 1 else 0) ≤ 6
    rw [if_neg (by omega)]
    omega
  · rcases List.mem_cons.mp hy with rfl | hy
    · omega
    · exact h3 y hy
theorem hd_BI : ∀ (e : Nat) (K : List Nat) (i : Nat) (K1 : List Nat) (A : List StpT) (j : Nat), opn K + e = 6 → BI O K i → hd tx L e K i = .inr (K1, A, j) → BI (O ++ A) K1 j ∧ i < j := by
  have hbase : ∀ (K : List Nat) (i : Nat) (K1 : List Nat) (A : List StpT) (j : Nat), BI O K i → rb (pBase tx L i) (fun p => (.inr (K, p.1, p.2) : Rs (List Nat × List StpT × Nat))) = .inr (K1, A, j) → BI (O ++ A) K1 j ∧ i < j := by
    intro K i K1 A j hB h
    cases h1 : pBase tx L i with
    | inl x =>
      rw [h1] at h
      cases h
    | inr a =>
      obtain ⟨A', j'⟩ := a
      rw [h1] at h
      cases h
      obtain ⟨g1, g2, e, rfl, -, -⟩ := pBase_gt h1
      refine ⟨⟨?_, hB.2.1, hB.2.2⟩, by omega⟩
      have := hB.1
      rw [List.length_append]
      show 2 * (O.length + 1 + K.length) ≤ _
      omega
  intro e
  induction e with
  | zero =>
    intro K i K1 A j ho hB h
    unfold hd at h
    split at h
    · cases h
    · exact hbase K i K1 A j hB h
  | succ e ih =>
    intro K i K1 A j ho hB h
    unfold hd at h
    split at h
    · rename_i h40
      have hge := sk_ge (tx := tx) (L := L) (i + 1)
      have := ih (8 :: K) (sk tx L (i + 1)) K1 A j (by show opn K + (if 8 = 5 ∨ 8 = 8 then 1 else 0) + e = 6; rw [if_pos (Or.inr rfl)]; omega) ⟨by
        show 2 * (O.length + (K.length + 1)) ≤ sk tx L (i + 1) + (w8 K + (if 8 = 8 then 1 else 0))
        rw [if_pos rfl]
        have := hB.1
        omega, by
        show opn K + (if 8 = 5 ∨ 8 = 8 then 1 else 0) ≤ 6
        rw [if_pos (Or.inr rfl)]
        omega, fun y hy => by
        rcases List.mem_cons.mp hy with rfl | hy
        · decide
        · exact hB.2.2 y hy⟩ h
      exact ⟨this.1, by omega⟩
    · split at h
      · rename_i h7
        have hnx := nx_gt (by decide) h7
        have := ih (5 :: K) (nx tx L i) K1 A j (by show opn K + (if 5 = 5 ∨ 5 = 8 then 1 else 0) + e = 6; rw [if_pos (Or.inl rfl)]; omega) ⟨by
          show 2 * (O.length + (K.length + 1)) ≤ nx tx L i + (w8 K + (if 5 = 8 then 1 else 0))
          rw [if_neg (by decide)]
          have := hB.1
          omega, by
          show opn K + (if 5 = 5 ∨ 5 = 8 then 1 else 0) ≤ 6
          rw [if_pos (Or.inl rfl)]
          omega, fun y hy => by
          rcases List.mem_cons.mp hy with rfl | hy
          · decide
          · exact hB.2.2 y hy⟩ h
        exact ⟨this.1, by omega⟩
      · exact hbase K i K1 A j hB h
end BIS
def QY (c m : Sd) (P : Sd → Prop) : Wd → Option PV → Prop := fun w' r' => ∃ m', w' = (c, m') ∧ PrS m m' ∧ m'.1 0 0 19 = 0 ∧ m'.1 0 0 20 = m.1 0 0 20 ∧ P m' ∧ r' = none
section MSM
variable {tx : Nat → Nat} {L i : Nat} {c m : Sd} {O : List StpT} {K : List Nat}
theorem qyi {m' : Sd} {P : Sd → Prop} (h1 : PrS m m') (h2 : m'.1 0 0 19 = 0) (h3 : m'.1 0 0 20 = m.1 0 0 20) (h4 : P m') : QY c m P (c, m') none := ⟨m', rfl, h1, h2, h3, h4, rfl⟩
theorem Sk_drop {x : Nat} (hS : Sk m (x :: K)) : Sk (mf m 34 (m.1 0 0 34 - 1)) K := ⟨(mf_s _ _ _).trans (top_at hS).1, hS.2.2⟩
theorem mf34_gs (m : Sd) (x : Int32) : GsS m (mf m 34 x) := ⟨fun k i f h => up3_n _ _ (fun z => h ⟨z.1, z.2.1, Or.inr z.2.2⟩), fun _ _ _ => rfl, rfl⟩
theorem m_closeAll (hL : L ≤ 120) (hb : ∀ i, tx i < 256) (hM : Mx tx L m) (hA : At tx L i m) (h19 : m.1 0 0 19 = 0) (hB : BI O K i) (hG : Sg m O) (hS : Sk m K) : Ctr 3 116 [vR true 0 0] (c, m) (QY c m (fun m' => At tx L (cls tx L (L + 1) O K i).2.2 m' ∧ Sg m' (cls tx L (L + 1) O K i).1 ∧ Sk m' (cls tx L (L + 1) O K i).2.1)) := by
  have key : ∀ (f : Nat) (O' : List StpT) (K' : List Nat) (i' : Nat) (m' : Sd), L < f + i' → BI O' K' i' → PrS m m' → m'.1 0 0 19 = 0 → m'.1 0 0 20 = m.1 0 0 20 → At tx L i' m' → Sg m' O' → Sk m' K' → cls tx L (L + 1) O K i = cls tx L f O' K' i' → Go 3 116 none 0 [some (vR true 0 0)] [] (c, m') (QY c m (fun m' => At tx L (cls tx L (L + 1) O K i).2.2 m' ∧ Sg m' (cls tx L (L + 1) O K i).1 ∧ Sk m' (cls tx L (L + 1) O K i).2.1)) := by
    intro f
    induction f with
    | zero =>
      intro O' K' i' m' hf hBI hp h19 h20 hA hG hS hv
      have := (At_le hA).1
      omega
    | succ f ih =>
      intro O' K' i' m' hf hBI hp h19 h20 hA hG hS hv
      obtain ⟨hil, hsi⟩ := At_le hA
      have h63 := BI_64 hBI (by omega)
      have hM' := Mx_pr hp hM
      refine go_ev 100 [0, 23] (bT (c := m'.1 0 0 19 = 0) h19 (iC (m_here hL hb hM' hA) (by decide) ?_))
      rintro _ _ ⟨m2, rfl, hP2, ⟨k16, kf⟩, rfl⟩
      have hp2 := PrS_tr hp (PrS_pf hP2)
      have k19 := (kf 19 (by decide)).trans h19
      have k20 := (kf 20 (by decide)).trans h20
      have hS2 := Sk_pf hP2 hS
      have hG2 := Sg_pf hP2 hG
      have hstop : ¬ (isS tx L 41 i' = true ∧ hop K' = true) → QY c m (fun m' => At tx L (cls tx L (L + 1) O K i).2.2 m' ∧ Sg m' (cls tx L (L + 1) O K i).1 ∧ Sk m' (cls tx L (L + 1) O K i).2.1) (c, m2) none := fun hz => by
        refine qyi hp2 k19 k20 ?_
        rw [hv]
        unfold cls
        rw [if_neg hz]
        exact ⟨At_i k16 hsi hil, hG2, hS2⟩
      refine bI (c := hr tx L i' = 41) (fun h => ?_) (fun h => ?_)
      · have h : isS tx L 41 i' = true := (hr_40 (b := 41) hb (by decide)).mp h
        have hlt : i' < L := by
          unfold isS at h
          rw [Bool.and_eq_true, decide_eq_true_eq] at h
          exact h.1
        refine iF (m_hasOpen hS2 hBI.2.2 (by omega)) (by decide) (bI (fun ho => ?_) (fun ho => ?_))
        · rw [bb0] at ho
          exact hstop (fun z => by rw [ho] at z; cases z.2)
        · rw [bb0, Bool.not_eq_false] at ho
          /- popping up to the bracket -/
          have pops : ∀ (K2 : List Nat) (O2 : List StpT) (m3 : Sd), hop K2 = true → BI O2 K2 i' → GsS m2 m3 → Sg m3 O2 → Sk m3 K2 → popF (fun x => x != 8) K' O' = popF (fun x => x != 8) K2 O2 → Go 3 116 none 23 [some (vR true 0 0)] [] (c, m3) (QY c m (fun m' => At tx L (cls tx L (L + 1) O K i).2.2 m' ∧ Sg m' (cls tx L (L + 1) O K i).1 ∧ Sk m' (cls tx L (L + 1) O K i).2.1)) := by
            intro K2
            induction K2 with
            | nil =>
              intro O2 m3 hz
              cases hz
            | cons x K2 ihp =>
              intro O2 m3 hz hB2 hg3 hG3 hS3 hpv
              have h63b := BI_64 hB2 (by omega)
              rw [List.length_cons] at h63b
              obtain ⟨t1, t2⟩ := top_at hS3
              have t2 := t2 (by omega)
              have hx := hB2.2.2 x List.mem_cons_self
              refine go_ev 100 [0, 23] (dI (pk_in K2.length 64 (by omega) t1) (bI (c := m3.2.1 33 0 (m3.1 0 0 34 - 1).toNatClampNeg = 8) (fun h8 => ?_) (fun h8 => ?_)))
              · rw [t2] at h8
                have h8 : x = 8 := (nIeq (b := 8) (by omega) (by decide)).mp h8
                subst h8
                have hpv : popF (fun x => x != 8) K' O' = (O2, 8 :: K2) := by
                  rw [hpv]
                  rfl
                have q16 : (mf m3 34 (m3.1 0 0 34 - 1)).1 0 0 16 + 1 = nI (i' + 1) := by rw [mf_n _ _ (by decide), hg3.1 0 0 16 (by decide), k16, nI_succ]
                have hPx : PfS (mf m3 34 (m3.1 0 0 34 - 1)) (mf (mf m3 34 (m3.1 0 0 34 - 1)) 16 ((mf m3 34 (m3.1 0 0 34 - 1)).1 0 0 16 + 1)) := PfS_f (by decide) _ (PfS_rfl _)
                have hS4 : Sk (mf (mf m3 34 (m3.1 0 0 34 - 1)) 16 ((mf m3 34 (m3.1 0 0 34 - 1)).1 0 0 16 + 1)) K2 := Sk_pf hPx (Sk_drop hS3)
                have hG4 : Sg (mf (mf m3 34 (m3.1 0 0 34 - 1)) 16 ((mf m3 34 (m3.1 0 0 34 - 1)).1 0 0 16 + 1)) O2 := Sg_pf hPx ⟨(mf_n m3 _ (by decide)).trans hG3.1, hG3.2⟩
                have hA4 : At tx L (sk tx L (i' + 1)) (mf (mf m3 34 (m3.1 0 0 34 - 1)) 16 ((mf m3 34 (m3.1 0 0 34 - 1)).1 0 0 16 + 1)) := ⟨i' + 1, (mf_s _ _ _).trans q16, rfl, by omega⟩
                have hp4 : PrS m (mf (mf m3 34 (m3.1 0 0 34 - 1)) 16 ((mf m3 34 (m3.1 0 0 34 - 1)).1 0 0 16 + 1)) := PrS_tr hp2 (PrS_tr (PrS_gs hg3) (PrS_tr (PrS_gs (mf34_gs m3 _)) (PrS_pf hPx)))
                have e19 : (mf (mf m3 34 (m3.1 0 0 34 - 1)) 16 ((mf m3 34 (m3.1 0 0 34 - 1)).1 0 0 16 + 1)).1 0 0 19 = 0 := by
                  rw [mf_n _ _ (by decide), mf_n _ _ (by decide), hg3.1 0 0 19 (by decide)]
                  exact k19
                have e20 : (mf (mf m3 34 (m3.1 0 0 34 - 1)) 16 ((mf m3 34 (m3.1 0 0 34 - 1)).1 0 0 16 + 1)).1 0 0 20 = m.1 0 0 20 := by
                  rw [mf_n _ _ (by decide), mf_n _ _ (by decide), hg3.1 0 0 20 (by decide)]
                  exact k20
                have hBd := BI_drop hB2 (sk_ge (tx := tx) (L := L) (i' + 1))
                refine iC (m_endOne K2 O2 _ hBd.2.2 (by omega) hS4 hG4 (by omega)) (by decide) ?_
                rintro _ _ ⟨m5, rfl, hg5, ⟨hG5, hS5⟩, rfl⟩
                refine ih _ _ (sk tx L (i' + 1)) m5 ?_ (BI_popF ne8_5 K2 O2 hBd) (PrS_tr hp4 (PrS_gs hg5)) ((hg5.1 0 0 19 (by decide)).trans e19) ((hg5.1 0 0 20 (by decide)).trans e20) (At_gs hg5 hA4) hG5 hS5 ?_
                · have := sk_ge (tx := tx) (L := L) (i' + 1)
                  omega
                · rw [hv]
                  conv => lhs; unfold cls
                  rw [if_pos ⟨h, ho⟩, hpv]
                  rfl
              · rw [t2] at h8
                have h8 : ¬ x = 8 := fun z => h8 (by rw [z]; rfl)
                refine iC (m_pop hx hS3 hG3 (by omega) (by omega)) (by decide) ?_
                rintro _ _ ⟨m4, rfl, hg4, ⟨hG4, hS4⟩, rfl⟩
                refine ihp (O2 ++ [opS x]) m4 ?_ (BI_pop hB2 h8) (GsS_tr hg3 hg4) hG4 hS4 ?_
                · have hz : (hop K2 || decide (x = 8)) = true := hz
                  rw [decide_eq_false h8, Bool.or_false] at hz
                  exact hz
                · rw [hpv]
                  conv => lhs; unfold popF
                  rw [if_pos (bne_iff_ne.mpr h8)]
          exact pops K' O' m2 ho hBI (GsS_rfl m2) hG2 hS2 rfl
      · have h : ¬ isS tx L 41 i' = true := fun z => h ((hr_40 (b := 41) hb (by decide)).mpr z)
        exact hstop (fun z => h z.1)
  exact ctr_of (nblt rfl) (Nat.le_of_ble_eq_true rfl) (key (L + 1) O K i m (by omega) hB (PrS_rfl m) h19 rfl hA hG hS rfl)
theorem m_takeSome (hL : L ≤ 120) (hb : ∀ i, tx i < 256) (hM : Mx tx L m) (hA : At tx L i m) (h19 : m.1 0 0 19 = 0) (hB : BI O [] i) (hG : Sg m O) : Ctr 6 117 [vR true 0 0] (c, m) (QX c m (syH tx L (syJ tx L (L + 1)) O [] i) (fun a m' => At tx L a.2 m' ∧ Sg m' a.1)) := by
  /- out with a fault -/
  have hout : ∀ (m' : Sd) (x pl : Nat) (v1 : Int32) (v2 v3 : Option PV) (res : Rs (List StpT × Nat)), PrS m m' → (0 < x ∧ x < 100) → m'.1 0 0 19 = nI x → m'.1 0 0 20 = nI pl → res = .inl (x, pl) → Go 6 117 none 7 [some (vR true 0 0), some (vI v1), v2, v3] [] (c, m') (QX c m res (fun a m' => At tx L a.2 m' ∧ Sg m' a.1)) := by
    intro m' x pl v1 v2 v3 res g1 g2 g3 g4 g5
    have hne : ¬ m'.1 0 0 19 = 0 := by rw [g3]; exact fun z => absurd ((nIeq (b := 0) (by omega) (by decide)).mp z) (by omega)
    have hfin := qxl (c := c) (ok := fun a m' => At tx L a.2 m' ∧ Sg m' a.1) g1 g5 g2 g3 g4
    exact go_ev 100 [] (bI (c := v1 = 0) (fun _ => bF (c := m'.1 0 0 19 = 0) hne hfin) (fun _ => bF (c := m'.1 0 0 19 = 0) hne (bF (c := m'.1 0 0 19 = 0) hne hfin)))
  have key : ∀ (fuel : Nat) (O' : List StpT) (K' : List Nat) (i' : Nat) (v2 v3 : Option PV) (m' : Sd), L < fuel + i' → BI O' K' i' → PrS m m' → m'.1 0 0 19 = 0 → m'.1 0 0 20 = m.1 0 0 20 → At tx L i' m' → Sg m' O' → Sk m' K' → ∀ (res : Rs (List StpT × Nat)), res = syH tx L (syJ tx L fuel) O' K' i' → Go 6 117 none 7 [some (vR true 0 0), some (vI 1), v2, v3] [] (c, m') (QX c m res (fun a m' => At tx L a.2 m' ∧ Sg m' a.1)) := by
    intro fuel
    induction fuel with
    | zero =>
      intro O' K' i' v2 v3 m' hf hBI hp h19 h20 hA hG hS res hres
      have := (At_le hA).1
      omega
    | succ fuel ih =>
      intro O' K' i' v2 v3 m' hf hBI hp h19 h20 hA hG hS res hres
      obtain ⟨hil, hsi⟩ := At_le hA
      have hM' := Mx_pr hp hM
      have ho6 := hBI.2.1
      refine go_ev 100 [7, 37] (bF (c := (1 : Int32) = 0) (by decide) (bT (c := m'.1 0 0 19 = 0) h19 (iC (m_takeHead (e := 6 - opn K') hL hb hM' hA h19 hBI (by omega) hG hS) (by decide) ?_)))
      rintro _ _ ⟨m1, rfl, hp1, rfl, ⟨f, pl, hr1, hf1, g19, g20⟩ | ⟨⟨K1, A, j⟩, hr1, g19, g20, hA1, hG1, hS1⟩⟩
      · refine bF (c := m1.1 0 0 19 = 0) (by rw [g19]; exact fun z => absurd ((nIeq (b := 0) (by omega) (by decide)).mp z) (by omega)) ?_
        refine hout m1 f pl _ _ _ res (PrS_tr hp hp1) hf1 g19 g20 ?_
        rw [hres]
        unfold syH
        rw [hr1]
        rfl
      · obtain ⟨hB1, hij⟩ := hd_BI (O := O') (6 - opn K') K' i' K1 A j (by omega) hBI hr1
        have hA1 : At tx L j m1 := hA1
        have hG1 : Sg m1 (O' ++ A) := hG1
        have hS1 : Sk m1 K1 := hS1
        have hjl := (At_le hA1).1
        have h63 := BI_64 hB1 (by omega)
        have hp1 := PrS_tr hp hp1
        refine bT (c := m1.1 0 0 19 = 0) g19 (iC (m_endOne K1 (O' ++ A) m1 hB1.2.2 (by omega) hS1 hG1 (by omega)) (by decide) ?_)
        rintro _ _ ⟨m2, rfl, hg2, ⟨hG2, hS2⟩, rfl⟩
        have hB2 := BI_popF ne8_5 K1 (O' ++ A) hB1
        have hp2 := PrS_tr hp1 (PrS_gs hg2)
        refine iC (m_closeAll hL hb (Mx_pr hp2 hM) (At_gs hg2 hA1) ((hg2.1 0 0 19 (by decide)).trans g19) hB2 hG2 hS2) (by decide) ?_
        rintro _ _ ⟨m3, rfl, hp3, k19, k20, ⟨hA3, hG3, hS3⟩, rfl⟩
        have hres : res = syJ tx L (fuel + 1) (cls tx L (L + 1) (popF (fun x => x == 5) K1 (O' ++ A)).1 (popF (fun x => x == 5) K1 (O' ++ A)).2 j).1 (cls tx L (L + 1) (popF (fun x => x == 5) K1 (O' ++ A)).1 (popF (fun x => x == 5) K1 (O' ++ A)).2 j).2.1 (cls tx L (L + 1) (popF (fun x => x == 5) K1 (O' ++ A)).1 (popF (fun x => x == 5) K1 (O' ++ A)).2 j).2.2 := by
          rw [hres]
          unfold syH
          rw [hr1]
          rfl
        obtain ⟨hB3, hge3⟩ := cls_BI (tx := tx) (L := L) (L + 1) _ _ _ hB2
        generalize (cls tx L (L + 1) (popF (fun x => x == 5) K1 (O' ++ A)).1 (popF (fun x => x == 5) K1 (O' ++ A)).2 j) = r at hres hA3 hG3 hS3 hB3 hge3
        obtain ⟨O3, K3, j3⟩ := r
        have hA3 : At tx L j3 m3 := hA3
        have hG3 : Sg m3 O3 := hG3
        have hS3 : Sk m3 K3 := hS3
        have hB3 : BI O3 K3 j3 := hB3
        have hge3 : j ≤ j3 := hge3
        have hres : res = syJ tx L (fuel + 1) O3 K3 j3 := hres
        have hp3 := PrS_tr hp2 hp3
        have k20 : m3.1 0 0 20 = m.1 0 0 20 := k20.trans ((hg2.1 0 0 20 (by decide)).trans (g20.trans h20))
        obtain ⟨hj3l, hj3s⟩ := At_le hA3
        have h63c := BI_64 hB3 (by omega)
        have hM3 := Mx_pr hp3 hM
        /- popping for 'and' or 'or' -/
        have pops : ∀ (b : Bool) (m4 : Sd), PrS m m4 → m4.1 0 0 19 = 0 → m4.1 0 0 20 = m.1 0 0 20 → m4.1 0 0 16 = nI (wd tx L j3) → (j3 + 2 ≤ nx tx L j3) → res = syH tx L (syJ tx L fuel) (popF (fun x => x == 6 || (!b && x == 7)) K3 O3).1 ((if b = true then 6 else 7) :: (popF (fun x => x == 6 || (!b && x == 7)) K3 O3).2) (nx tx L j3) → ∀ (K4 : List Nat) (O4 : List StpT) (m5 : Sd), GsS m4 m5 → BI O4 K4 j3 → Sg m5 O4 → Sk m5 K4 → popF (fun x => x == 6 || (!b && x == 7)) K3 O3 = popF (fun x => x == 6 || (!b && x == 7)) K4 O4 → Go 6 117 none 76 [some (vR true 0 0), some (vI 1), some (vI (bi (b = true))), some (vI (bi ((!b) = true)))] [] (c, m5) (QX c m res (fun a m' => At tx L a.2 m' ∧ Sg m' a.1)) := by
          intro b m4 e1 e19 e20 e16 e2 eres K4
          have h134 : ∀ (K4 : List Nat) (O4 : List StpT) (m5 : Sd), GsS m4 m5 → BI O4 K4 j3 → Sg m5 O4 → Sk m5 K4 → popF (fun x => x == 6 || (!b && x == 7)) K3 O3 = (O4, K4) → Go 6 117 none 134 [some (vR true 0 0), some (vI 1), some (vI (bi (b = true))), some (vI (bi ((!b) = true)))] [] (c, m5) (QX c m res (fun a m' => At tx L a.2 m' ∧ Sg m' a.1)) := by
            intro K4 O4 m5 hg5 hB5 hG5 hS5 hpv
            rw [hpv] at eres
            have h63d := BI_64 hB5 (by omega)
            have hfin : ∀ m6, GsS m5 m6 → Sk m6 ((if b = true then 6 else 7) :: K4) → Sg m6 O4 → Go 6 117 none 7 [some (vR true 0 0), some (vI 1), some (vI (bi (b = true))), some (vI (bi ((!b) = true)))] [] (c, m6) (QX c m res (fun a m' => At tx L a.2 m' ∧ Sg m' a.1)) := by
              intro m6 hg6 hS6 hG6
              have hg46 := GsS_tr hg5 hg6
              refine ih O4 ((if b = true then 6 else 7) :: K4) (nx tx L j3) _ _ m6 (by omega) (BI_push hB5 (by split <;> simp) e2) (PrS_tr e1 (PrS_gs hg46)) ((hg46.1 0 0 19 (by decide)).trans e19) ((hg46.1 0 0 20 (by decide)).trans e20) ⟨_, (hg46.1 0 0 16 (by decide)).trans e16, rfl, run_le hj3l⟩ hG6 hS6 res eres
            cases b with
            | true =>
              refine go_ev 100 [7] (bF (c := (1 : Int32) = 0) (by decide) (bF (c := (1 : Int32) = 0) (by decide) (iC (m_push (x := 6) hS5 (by omega) hG5) (by decide) ?_)))
              rintro _ _ ⟨m6, rfl, hg6, ⟨hS6, hG6⟩, rfl⟩
              exact bF (c := (1 : Int32) = 0) (by decide) (hfin m6 hg6 hS6 hG6)
            | false =>
              refine go_ev 100 [7] (bT (c := (0 : Int32) = 0) rfl (bF (c := (1 : Int32) = 0) (by decide) (bT (c := (0 : Int32) = 0) rfl (iC (m_push (x := 7) hS5 (by omega) hG5) (by decide) ?_))))
              rintro _ _ ⟨m6, rfl, hg6, ⟨hS6, hG6⟩, rfl⟩
              exact bT (c := (0 : Int32) = 0) rfl (bF (c := (1 : Int32) = 0) (by decide) (hfin m6 hg6 hS6 hG6))
          induction K4 with
          | nil =>
            intro O4 m5 hg5 hB5 hG5 hS5 hpv
            exact go_ev 100 [76, 134] (bT (c := m5.1 0 0 34 ≤ 0) (by rw [hS5.1]; decide) (h134 [] O4 m5 hg5 hB5 hG5 hS5 hpv))
          | cons x K4 ihp =>
            intro O4 m5 hg5 hB5 hG5 hS5 hpv
            have h63d := BI_64 hB5 (by omega)
            rw [List.length_cons] at h63d
            obtain ⟨t1, t2⟩ := top_at hS5
            have t2 := t2 (by omega)
            have hx := hB5.2.2 x List.mem_cons_self
            have hin : vp_in (m5.1 0 0 34 - 1) 64 := pk_in K4.length 64 (by omega) t1
            have hpop : (x == 6 || (!b && x == 7)) = true → Go 6 117 none 127 [some (vR true 0 0), some (vI 1), some (vI (bi (b = true))), some (vI (bi ((!b) = true)))] [] (c, m5) (QX c m res (fun a m' => At tx L a.2 m' ∧ Sg m' a.1)) := by
              intro hxx
              have hx8 : x ≠ 8 := fun z => by
                rw [z] at hxx
                cases b <;> cases hxx
              refine go_ev 100 [76] (iC (m_pop hx hS5 hG5 (by omega) (by omega)) (by decide) ?_)
              rintro _ _ ⟨m6, rfl, hg6, ⟨hG6, hS6⟩, rfl⟩
              refine ihp (O4 ++ [opS x]) m6 (GsS_tr hg5 hg6) (BI_pop hB5 hx8) hG6 hS6 ?_
              rw [hpv]
              conv => lhs; unfold popF
              rw [if_pos hxx]
            have hstay : ¬ (x == 6 || (!b && x == 7)) = true → Go 6 117 none 134 [some (vR true 0 0), some (vI 1), some (vI (bi (b = true))), some (vI (bi ((!b) = true)))] [] (c, m5) (QX c m res (fun a m' => At tx L a.2 m' ∧ Sg m' a.1)) := by
              intro hxx
              refine h134 (x :: K4) O4 m5 hg5 hB5 hG5 hS5 ?_
              rw [hpv]
              unfold popF
              rw [if_neg hxx]
            have h91 : Go 6 117 none 91 [some (vR true 0 0), some (vI 1), some (vI (bi (b = true))), some (vI (bi ((!b) = true)))] [] (c, m5) (QX c m res (fun a m' => At tx L a.2 m' ∧ Sg m' a.1)) := by
              refine go_ev 100 [127, 134] (dI hin (bI (c := m5.2.1 33 0 (m5.1 0 0 34 - 1).toNatClampNeg = 6) (fun h6 => ?_) (fun h6 => ?_)))
              · rw [t2] at h6
                have h6 : x = 6 := (nIeq (b := 6) (by omega) (by decide)).mp h6
                exact hpop (by rw [h6]; rfl)
              · rw [t2] at h6
                have h6 : ¬ x = 6 := fun z => h6 (by rw [z]; rfl)
                refine bI (c := bi ((!b) = true) = 0) (fun hb0 => ?_) (fun hb0 => dI hin (bI (c := m5.2.1 33 0 (m5.1 0 0 34 - 1).toNatClampNeg = 7) (fun h7 => ?_) (fun h7 => ?_)))
                · rw [bb0] at hb0
                  refine hstay (fun z => ?_)
                  rw [hb0, Bool.false_and, Bool.or_false] at z
                  exact h6 (by simpa using z)
                · rw [bb0, Bool.not_eq_false] at hb0
                  rw [t2] at h7
                  have h7 : x = 7 := (nIeq (b := 7) (by omega) (by decide)).mp h7
                  exact hpop (by rw [hb0, h7]; rfl)
                · rw [t2] at h7
                  have h7 : ¬ x = 7 := fun z => h7 (by rw [z]; rfl)
                  refine hstay (fun z => ?_)
                  rw [Bool.or_eq_true, Bool.and_eq_true] at z
                  rcases z with z | z
                  · exact h6 (by simpa using z)
                  · exact h7 (by simpa using z.2)
            refine go_ev 100 [76, 91, 134] (bF (c := m5.1 0 0 34 ≤ 0) (by rw [hS5.1, show (0 : Int32) = nI 0 from rfl, nIle (by rw [List.length_cons]; omega) (by decide), List.length_cons]; omega) ?_)
            cases b with
            | true => exact bF (c := (1 : Int32) = 0) (by decide) h91
            | false => exact bT (c := (0 : Int32) = 0) rfl (bF (c := (1 : Int32) = 0) (by decide) h91)
        refine go_ev 100 [7, 76] (iC (m_takes (q := 5) hL hb hM3 hA3 k19 (by decide)) (by decide) ?_)
        rintro _ _ ⟨m4, rfl, hP4, ⟨y16, y17, y18, y19, y20⟩, rfl⟩
        have hp4 := PrS_tr hp3 (PrS_pf hP4)
        cases w5 : isW tx L 5 j3 with
        | true =>
          rw [w5] at y16
          refine bF (c := (1 : Int32) = 0) (by decide) ?_
          refine pops true m4 hp4 (y19.trans k19) (y20.trans k20) y16 (nx_gt (by decide) w5).1 ?_ K3 O3 m4 (GsS_rfl m4) hB3 (Sg_pf hP4 hG3) (Sk_pf hP4 hS3) rfl
          rw [hres]
          conv => lhs; unfold syJ
          rw [if_pos w5]
          have e : (fun x : Nat => x == 6 || (!true && x == 7)) = (fun x => x == 6) := by
            funext x
            simp
          rw [e]
          rfl
        | false =>
          rw [w5] at y16
          refine bT (c := (0 : Int32) = 0) rfl ?_
          have hA4 : At tx L j3 m4 := At_i y16 hj3s hj3l
          refine iC (m_takes (q := 6) hL hb (Mx_pr hp4 hM) hA4 (y19.trans k19) (by decide)) (by decide) ?_
          rintro _ _ ⟨m5, rfl, hP5, ⟨z16, z17, z18, z19, z20⟩, rfl⟩
          have hp5 := PrS_tr hp4 (PrS_pf hP5)
          have q19 := z19.trans (y19.trans k19)
          have q20 := z20.trans (y20.trans k20)
          have hG5 := Sg_pf hP5 (Sg_pf hP4 hG3)
          have hS5 := Sk_pf hP5 (Sk_pf hP4 hS3)
          cases w6 : isW tx L 6 j3 with
          | true =>
            rw [w6] at z16
            refine bF (c := (1 : Int32) = 0) (by decide) ?_
            refine pops false m5 hp5 q19 q20 z16 (nx_gt (by decide) w6).1 ?_ K3 O3 m5 (GsS_rfl m5) hB3 hG5 hS5 rfl
            rw [hres]
            conv => lhs; unfold syJ
            rw [if_neg (by rw [w5]; exact Bool.false_ne_true), if_pos w6]
            rfl
          | false =>
            rw [w6] at z16
            have hA5 : At tx L j3 m5 := At_i z16 hj3s hj3l
            refine bT (c := (0 : Int32) = 0) rfl ?_
            have hres : res = (if hop K3 = true then .inl (1, j3) else .inr ((popF (fun _ => true) K3 O3).1, j3)) := by
              rw [hres]
              conv => lhs; unfold syJ
              rw [if_neg (by rw [w5]; exact Bool.false_ne_true), if_neg (by rw [w6]; exact Bool.false_ne_true)]
            /- the end -/
            have h208 : hop K3 = false → ∀ (x2 : Int32) (m8 : Sd), PrS m m8 → m8.1 0 0 19 = 0 → m8.1 0 0 20 = m.1 0 0 20 → At tx L j3 m8 → ∀ (K4 : List Nat) (O4 : List StpT) (m9 : Sd), GsS m8 m9 → okK K4 → O4.length + K4.length ≤ 63 → Sg m9 O4 → Sk m9 K4 → popF (fun _ => true) K3 O3 = popF (fun _ => true) K4 O4 → Go 6 117 none 208 [some (vR true 0 0), some (vI 0), some (vI x2), some (vI 1)] [] (c, m9) (QX c m res (fun a m' => At tx L a.2 m' ∧ Sg m' a.1)) := by
              intro hh x2 m8 e1 e19 e20 eA K4
              induction K4 with
              | nil =>
                intro O4 m9 hg9 hK9 hl9 hG9 hS9 hpv
                refine go_ev 100 [208] (bF (c := (1 : Int32) = 0) (by decide) (bT (c := m9.1 0 0 34 ≤ 0) (by rw [hS9.1]; decide) (qxr (a := (O4, j3)) (PrS_tr e1 (PrS_gs hg9)) ?_ ((hg9.1 0 0 19 (by decide)).trans e19) ((hg9.1 0 0 20 (by decide)).trans e20) ⟨At_gs hg9 eA, hG9⟩)))
                rw [hres, if_neg (by rw [hh]; exact Bool.false_ne_true), hpv]
                rfl
              | cons x K4 ihp =>
                intro O4 m9 hg9 hK9 hl9 hG9 hS9 hpv
                rw [List.length_cons] at hl9
                refine go_ev 100 [208] (bF (c := (1 : Int32) = 0) (by decide) (bF (c := m9.1 0 0 34 ≤ 0) (by rw [hS9.1, show (0 : Int32) = nI 0 from rfl, nIle (by rw [List.length_cons]; omega) (by decide), List.length_cons]; omega) (iC (m_pop (hK9 x List.mem_cons_self) hS9 hG9 (by omega) (by omega)) (by decide) ?_)))
                rintro _ _ ⟨m10, rfl, hg10, ⟨hG10, hS10⟩, rfl⟩
                refine ihp (O4 ++ [opS x]) m10 (GsS_tr hg9 hg10) (fun y hy => hK9 y (List.mem_cons_of_mem _ hy)) (by rw [List.length_append]; show O4.length + 1 + K4.length ≤ 63; omega) hG10 hS10 ?_
                rw [hpv]
                conv => lhs; unfold popF
                rw [if_pos rfl]
            have h174 : Go 6 117 none 174 [some (vR true 0 0), some (vI 0), some (vI 0), some (vI 0)] [] (c, m5) (QX c m res (fun a m' => At tx L a.2 m' ∧ Sg m' a.1)) := by
              refine go_ev 100 [208] (bT (c := m5.1 0 0 19 = 0) q19 (iC (m_here hL hb (Mx_pr hp5 hM) hA5) (by decide) ?_))
              rintro _ _ ⟨m6, rfl, hP6, ⟨u16, uf⟩, rfl⟩
              have hp6 := PrS_tr hp5 (PrS_pf hP6)
              have u19 := (uf 19 (by decide)).trans q19
              have u20 := (uf 20 (by decide)).trans q20
              have hS6 := Sk_pf hP6 hS5
              refine iF (m_hasOpen hS6 hB3.2.2 (by omega)) (by decide) (bI (fun ho => ?_) (fun ho => ?_))
              · rw [bb0] at ho
                refine iF (m_wantT 1 _ u19) (by decide) ?_
                exact h208 ho _ m6 hp6 u19 u20 (At_i u16 hj3s hj3l) K3 O3 m6 (GsS_rfl m6) hB3.2.2 h63c (Sg_pf hP6 hG5) hS6 rfl
              · rw [bb0, Bool.not_eq_false] at ho
                refine iF (m_wantF (f := 1) (by decide) _ u19) (by decide) (go_ev 100 [] (bT (c := (0 : Int32) = 0) rfl (qxl (f := 1) (pl := j3) (PrS_tr hp6 (PrS_pf (PfS_f (by decide) _ (PfS_f (by decide) _ (PfS_rfl m6))))) ?_ (by decide) ?_ ?_)))
                · rw [hres, if_pos ho]
                · rw [mf_n _ _ (by decide), mf_s]
                · rw [mf_s]
                  exact u16
            have h134 : Go 6 117 none 134 [some (vR true 0 0), some (vI 1), some (vI 0), some (vI 0)] [] (c, m5) (QX c m res (fun a m' => At tx L a.2 m' ∧ Sg m' a.1)) := by
              refine go_ev 100 [7] (bT (c := (0 : Int32) = 0) rfl (bT (c := (0 : Int32) = 0) rfl (bT (c := (0 : Int32) = 0) rfl (bT (c := (0 : Int32) = 0) rfl ?_))))
              exact go_ev 100 [174] (bT (c := (0 : Int32) = 0) rfl h174)
            refine go_ev 100 [134] (bI (c := m5.1 0 0 34 ≤ 0) (fun _ => h134) (fun _ => bT (c := (0 : Int32) = 0) rfl (bT (c := (0 : Int32) = 0) rfl h134)))
  have hg0 := mf34_gs m 0
  have hS0 : Sk (mf m 34 0) [] := ⟨mf_s m 34 0, trivial⟩
  have hG0 : Sg (mf m 34 0) O := ⟨(mf_n m _ (by decide)).trans hG.1, hG.2⟩
  refine ctr_ev 100 [7] rfl rfl ?_
  exact key (L + 1) O [] i none none (mf m 34 0) (by omega) hB (PrS_gs hg0) ((hg0.1 0 0 19 (by decide)).trans h19) (hg0.1 0 0 20 (by decide)) (At_gs hg0 hA) hG0 hS0 _ rfl
end MSM

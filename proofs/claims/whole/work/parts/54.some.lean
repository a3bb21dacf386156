/-! the pure reader goes on -/
def rb {α β : Type} (r : Rs α) (f : α → Rs β) : Rs β := match r with
  | .inl x => .inl x
  | .inr a => f a
theorem okE_mk {k f u m g : Nat} {b : Bool} (h1 : k < 8) (h2 : f < 6) (h3 : u < 6) (h4 : m < 100) (h5 : g < 100) : okE (k, f, u, m, g, b) := ⟨h1, h2, h3, h4, h5⟩
section PRO
variable {tx : Nat → Nat} {L : Nat}
theorem nx_gt {q i : Nat} (hq : q < 17) (h : isW tx L q i = true) : i + 2 ≤ nx tx L i ∧ i < L := by
  obtain ⟨h1, -, h3, -⟩ := isW_lt hq h
  have h4 := (wB_len q hq).2.1
  have h5 := sk_ge (tx := tx) (L := L) (wd tx L i)
  unfold nx
  omega
theorem pNum_gt {lo hi i v j : Nat} (h : pNum tx L lo hi i = .inr (v, j)) : i < j ∧ lo ≤ v ∧ v ≤ hi := by
  unfold pNum at h
  split at h
  · rename_i h1
    split at h
    · rename_i h2
      cases h
      have h3 := run_pos (tx := tx) (P := dgB) h1.1 h1.2
      have h4 := sk_ge (tx := tx) (L := L) (dg tx L i)
      have e : dg tx L i = run tx L dgB i := rfl
      omega
    · cases h
  · cases h
theorem pGive_ge {q i j : Nat} {g : Option Nat} (hq : q < 17) (h : pGive tx L q i = .inr (g, j)) : i ≤ j ∧ giv g ≤ 3 := by
  unfold pGive at h
  split at h
  · rename_i h1
    have h2 := nx_gt hq h1
    cases h3 : pNum tx L 0 3 (nx tx L i) with
    | inl x =>
      rw [h3] at h
      cases h
    | inr a =>
      obtain ⟨v, l⟩ := a
      rw [h3] at h
      cases h
      have := pNum_gt h3
      exact ⟨by omega, this.2.2⟩
  · cases h
    exact ⟨Nat.le_refl _, by decide⟩
theorem pRange_ge {i f u j : Nat} (h : pRange tx L i = .inr (f, u, j)) : i ≤ j ∧ f ≤ 5 ∧ u ≤ 5 := by
  unfold pRange at h
  split at h
  · rename_i h1
    have h2 := nx_gt (by decide) h1
    cases h3 : pNum tx L 0 5 (nx tx L i) with
    | inl x =>
      rw [h3] at h
      cases h
    | inr a =>
      obtain ⟨v, l⟩ := a
      rw [h3] at h
      have g1 := pNum_gt h3
      have h : (if isW tx L 16 l = true then (match pNum tx L 0 5 (nx tx L l) with
        | .inl x => (.inl x : Rs (Nat × Nat × Nat))
        | .inr (t, l2) => if t < v then .inl (3, nx tx L l) else .inr (v, t, l2)) else .inl (1, l)) = .inr (f, u, j) := h
      split at h
      · rename_i h4
        have h5 := nx_gt (by decide) h4
        cases h6 : pNum tx L 0 5 (nx tx L l) with
        | inl x =>
          rw [h6] at h
          cases h
        | inr b =>
          obtain ⟨v2, l2⟩ := b
          rw [h6] at h
          have g2 := pNum_gt h6
          have h : (if v2 < v then (.inl (3, nx tx L l) : Rs (Nat × Nat × Nat)) else .inr (v, v2, l2)) = .inr (f, u, j) := h
          split at h
          · cases h
          · cases h
            omega
      · cases h
  · cases h
    omega
theorem pSpan_ge {k many i j : Nat} {e : StpT} (h : pSpan tx L k many i = .inr (e, j)) : i ≤ j ∧ ∃ f u g, e = (k, f, u, many, giv g, g.isSome) ∧ f ≤ 5 ∧ u ≤ 5 ∧ giv g ≤ 3 := by
  unfold pSpan at h
  cases h1 : pRange tx L i with
  | inl x =>
    rw [h1] at h
    cases h
  | inr a =>
    obtain ⟨f, u, l⟩ := a
    rw [h1] at h
    have g1 := pRange_ge h1
    cases h2 : pGive tx L 11 l with
    | inl x =>
      have h : (match pGive tx L 11 l with
        | .inl x => (.inl x : Rs (StpT × Nat))
        | .inr (g, l) => .inr ((k, f, u, many, giv g, g.isSome), l)) = .inr (e, j) := h
      rw [h2] at h
      cases h
    | inr b =>
      obtain ⟨g, l2⟩ := b
      have h : (match pGive tx L 11 l with
        | .inl x => (.inl x : Rs (StpT × Nat))
        | .inr (g, l) => .inr ((k, f, u, many, giv g, g.isSome), l)) = .inr (e, j) := h
      rw [h2] at h
      cases h
      have g2 := pGive_ge (by decide) h2
      exact ⟨by omega, f, u, g, rfl, g1.2.1, g1.2.2, g2.2⟩
theorem pBase_gt {i j : Nat} {A : List StpT} (h : pBase tx L i = .inr (A, j)) : i + 3 ≤ j ∧ i < L ∧ ∃ e, A = [e] ∧ okE e ∧ e.1 < 5 := by
  have w3 : ∀ q, q < 17 → (wB q).length = 3 → isW tx L q i = true → i + 3 ≤ nx tx L i ∧ i < L := fun q hq hl hw => by
    obtain ⟨h1, -, h3, -⟩ := isW_lt hq hw
    have h5 := sk_ge (tx := tx) (L := L) (wd tx L i)
    unfold nx
    omega
  cases w8 : isW tx L 8 i with
  | true =>
    have hg := w3 8 (by decide) rfl w8
    cases h1 : pNum tx L 0 5 (nx tx L i) with
    | inl x =>
      rw [pb_who1 w8 h1] at h
      cases h
    | inr a =>
      obtain ⟨f, l⟩ := a
      have g1 := pNum_gt h1
      cases h2 : pGive tx L 9 l with
      | inl x =>
        rw [pb_who2 w8 h1 h2] at h
        cases h
      | inr b =>
        obtain ⟨g, l2⟩ := b
        rw [pb_who3 w8 h1 h2] at h
        cases h
        have g2 := pGive_ge (by decide) h2
        exact ⟨by omega, hg.2, _, rfl, okE_mk (by omega) (by omega) (by omega) (by omega) (by omega), by show 0 < 5; decide⟩
  | false =>
    cases w10 : isW tx L 10 i with
    | true =>
      have hg := w3 10 (by decide) rfl w10
      rw [pb_all w8 w10] at h
      cases h1 : pSpan tx L 1 1 (nx tx L i) with
      | inl x =>
        rw [h1] at h
        cases h
      | inr a =>
        obtain ⟨e, l⟩ := a
        rw [h1] at h
        cases h
        obtain ⟨g1, f, u, g, rfl, g2, g3, g4⟩ := pSpan_ge h1
        exact ⟨by omega, hg.2, _, rfl, okE_mk (by omega) (by omega) (by omega) (by omega) (by omega), by show 1 < 5; decide⟩
    | false =>
      cases w12 : isW tx L 12 i with
      | true =>
        have hg := w3 12 (by decide) rfl w12
        cases h0 : pNum tx L 0 6 (nx tx L i) with
        | inl x =>
          rw [pb_any1 w8 w10 w12 h0] at h
          cases h
        | inr b =>
          obtain ⟨v, l0⟩ := b
          have g0 := pNum_gt h0
          rw [pb_any2 w8 w10 w12 h0] at h
          cases h1 : pSpan tx L 2 v l0 with
          | inl x =>
            rw [h1] at h
            cases h
          | inr a =>
            obtain ⟨e, l⟩ := a
            rw [h1] at h
            cases h
            obtain ⟨g1, f, u, g, rfl, g2, g3, g4⟩ := pSpan_ge h1
            exact ⟨by omega, hg.2, _, rfl, okE_mk (by omega) (by omega) (by omega) (by omega) (by omega), by show 2 < 5; decide⟩
      | false =>
        cases w13 : isW tx L 13 i with
        | true =>
          have hg := w3 13 (by decide) rfl w13
          cases h0 : pNum tx L 0 18 (nx tx L i) with
          | inl x =>
            rw [pb_sum1 w8 w10 w12 w13 h0] at h
            cases h
          | inr b =>
            obtain ⟨v, l0⟩ := b
            have g0 := pNum_gt h0
            rw [pb_sum2 w8 w10 w12 w13 h0] at h
            cases h
            exact ⟨by omega, hg.2, _, rfl, okE_mk (by omega) (by omega) (by omega) (by omega) (by omega), by show 3 < 5; decide⟩
        | false =>
          cases w14 : isW tx L 14 i with
          | true =>
            have hg := w3 14 (by decide) rfl w14
            cases h0 : pNum tx L 1 9 (nx tx L i) with
            | inl x =>
              rw [pb_day1 w8 w10 w12 w13 w14 h0] at h
              cases h
            | inr b =>
              obtain ⟨v, l0⟩ := b
              have g0 := pNum_gt h0
              rw [pb_day2 w8 w10 w12 w13 w14 h0] at h
              cases h
              exact ⟨by omega, hg.2, _, rfl, okE_mk (by omega) (by omega) (by omega) (by omega) (by omega), by show 4 < 5; decide⟩
          | false =>
            rw [pb_no w8 w10 w12 w13 w14] at h
            cases h
variable {one : Nat → Rs (List StpT × Nat)}
theorem pAnd_s {f i : Nat} {S : List StpT} (h : isW tx L 5 i = true) : pAnd tx L one (f + 1) S i = rb (one (nx tx L i)) (fun p => pAnd tx L one f (S ++ p.1 ++ [opS 6]) p.2) := by
  conv => lhs; unfold pAnd
  rw [if_pos h]
  cases one (nx tx L i) <;> rfl
theorem pAnd_n {f i : Nat} {S : List StpT} (h : isW tx L 5 i = false) : pAnd tx L one f S i = .inr (S, i) := by
  cases f with
  | zero => rfl
  | succ f =>
    unfold pAnd
    rw [if_neg (by rw [h]; exact Bool.false_ne_true)]
theorem pOrs_s {f i : Nat} {S : List StpT} (h : isW tx L 6 i = true) : pOrs tx L one (f + 1) S i = rb (pTrm tx L one (nx tx L i)) (fun p => pOrs tx L one f (S ++ p.1 ++ [opS 7]) p.2) := by
  conv => lhs; unfold pOrs
  rw [if_pos h]
  cases pTrm tx L one (nx tx L i) <;> rfl
theorem pOrs_n {f i : Nat} {S : List StpT} (h : isW tx L 6 i = false) : pOrs tx L one f S i = .inr (S, i) := by
  cases f with
  | zero => rfl
  | succ f =>
    unfold pOrs
    rw [if_neg (by rw [h]; exact Bool.false_ne_true)]
theorem pTrm_rb (i : Nat) : pTrm tx L one i = rb (one i) (fun p => pAnd tx L one (L + 1) p.1 p.2) := by
  unfold pTrm
  cases one i <;> rfl
theorem pSome_rb (i : Nat) : pSome tx L one i = rb (pTrm tx L one i) (fun p => pOrs tx L one (L + 1) p.1 p.2) := by
  unfold pSome
  cases pTrm tx L one i <;> rfl
theorem pAnd_ge (hp : ∀ i A j, one i = .inr (A, j) → i < j) : ∀ (f : Nat) (S : List StpT) (i : Nat) (A : List StpT) (j : Nat), pAnd tx L one f S i = .inr (A, j) → i ≤ j
  | 0, S, i, A, j, h => by
    cases h
    exact Nat.le_refl _
  | f + 1, S, i, A, j, h => by
    cases h5 : isW tx L 5 i with
    | false =>
      rw [pAnd_n h5] at h
      cases h
      exact Nat.le_refl _
    | true =>
      have h6 := nx_gt (by decide) h5
      rw [pAnd_s h5] at h
      cases h7 : one (nx tx L i) with
      | inl x =>
        rw [h7] at h
        cases h
      | inr a =>
        rw [h7] at h
        have h8 := hp _ _ _ h7
        have h9 := pAnd_ge hp f _ _ _ _ h
        omega
theorem pTrm_gt (hp : ∀ i A j, one i = .inr (A, j) → i < j) {i j : Nat} {A : List StpT} (h : pTrm tx L one i = .inr (A, j)) : i < j := by
  rw [pTrm_rb] at h
  cases h7 : one i with
  | inl x =>
    rw [h7] at h
    cases h
  | inr a =>
    rw [h7] at h
    have h8 := hp _ _ _ h7
    have h9 := pAnd_ge hp _ _ _ _ _ h
    omega
theorem pOrs_ge (hp : ∀ i A j, one i = .inr (A, j) → i < j) : ∀ (f : Nat) (S : List StpT) (i : Nat) (A : List StpT) (j : Nat), pOrs tx L one f S i = .inr (A, j) → i ≤ j
  | 0, S, i, A, j, h => by
    cases h
    exact Nat.le_refl _
  | f + 1, S, i, A, j, h => by
    cases h5 : isW tx L 6 i with
    | false =>
      rw [pOrs_n h5] at h
      cases h
      exact Nat.le_refl _
    | true =>
      have h6 := nx_gt (by decide) h5
      rw [pOrs_s h5] at h
      cases h7 : pTrm tx L one (nx tx L i) with
      | inl x =>
        rw [h7] at h
        cases h
      | inr a =>
        rw [h7] at h
        have h8 := pTrm_gt hp h7
        have h9 := pOrs_ge hp f _ _ _ _ h
        omega
theorem pSome_gt (hp : ∀ i A j, one i = .inr (A, j) → i < j) {i j : Nat} {A : List StpT} (h : pSome tx L one i = .inr (A, j)) : i < j := by
  rw [pSome_rb] at h
  cases h7 : pTrm tx L one i with
  | inl x =>
    rw [h7] at h
    cases h
  | inr a =>
    rw [h7] at h
    have h8 := pTrm_gt hp h7
    have h9 := pOrs_ge hp _ _ _ _ _ h
    omega
theorem pOne_n {e i : Nat} (h : isW tx L 7 i = true) : pOne tx L (e + 1) i = rb (pOne tx L e (nx tx L i)) (fun p => .inr (p.1 ++ [opS 5], p.2)) := by
  conv => lhs; unfold pOne
  rw [if_pos h]
  cases pOne tx L e (nx tx L i) <;> rfl
theorem pOne_p {e i : Nat} (h : isW tx L 7 i = false) (h2 : isS tx L 40 i = true) : pOne tx L (e + 1) i = rb (pSome tx L (pOne tx L e) (sk tx L (i + 1))) (fun p => if isS tx L 41 p.2 = true then .inr (p.1, sk tx L (p.2 + 1)) else .inl (1, p.2)) := by
  conv => lhs; unfold pOne
  rw [if_neg (by rw [h]; exact Bool.false_ne_true), if_pos h2]
  cases pSome tx L (pOne tx L e) (sk tx L (i + 1)) <;> rfl
theorem pOne_b {e i : Nat} (h : isW tx L 7 i = false) (h2 : isS tx L 40 i = false) : pOne tx L e i = pBase tx L i := by
  cases e with
  | zero =>
    unfold pOne
    rw [if_neg (fun z => by rw [h, h2] at z; rcases z with z | z <;> cases z)]
  | succ e =>
    unfold pOne
    rw [if_neg (by rw [h]; exact Bool.false_ne_true), if_neg (by rw [h2]; exact Bool.false_ne_true)]
theorem pOne_0 {i : Nat} (h : isW tx L 7 i = true ∨ isS tx L 40 i = true) : pOne tx L 0 i = .inl (4, i) := by
  unfold pOne
  rw [if_pos h]
theorem pOne_gt : ∀ (e i : Nat) (A : List StpT) (j : Nat), pOne tx L e i = .inr (A, j) → i < j := by
  intro e
  induction e with
  | zero =>
    intro i A j h
    by_cases h1 : isW tx L 7 i = true ∨ isS tx L 40 i = true
    · rw [pOne_0 h1] at h
      cases h
    · rw [pOne_b (Bool.eq_false_iff.mpr (fun z => h1 (Or.inl z))) (Bool.eq_false_iff.mpr (fun z => h1 (Or.inr z)))] at h
      have := pBase_gt h
      omega
  | succ e ih =>
    intro i A j h
    cases h7 : isW tx L 7 i with
    | true =>
      rw [pOne_n h7] at h
      have h6 := nx_gt (by decide) h7
      cases h8 : pOne tx L e (nx tx L i) with
      | inl x =>
        rw [h8] at h
        cases h
      | inr a =>
        rw [h8] at h
        cases h
        have := ih _ _ _ h8
        omega
    | false =>
      cases h2 : isS tx L 40 i with
      | true =>
        rw [pOne_p h7 h2] at h
        cases h8 : pSome tx L (pOne tx L e) (sk tx L (i + 1)) with
        | inl x =>
          rw [h8] at h
          cases h
        | inr a =>
          rw [h8] at h
          have h : (if isS tx L 41 a.2 = true then (.inr (a.1, sk tx L (a.2 + 1)) : Rs (List StpT × Nat)) else .inl (1, a.2)) = .inr (A, j) := h
          have h9 := pSome_gt ih h8
          have h10 := sk_ge (tx := tx) (L := L) (i + 1)
          have h11 := sk_ge (tx := tx) (L := L) (a.2 + 1)
          split at h
          · cases h
            omega
          · cases h
      | false =>
        rw [pOne_b h7 h2] at h
        have := pBase_gt h
        omega
end PRO

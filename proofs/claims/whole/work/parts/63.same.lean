/-! the two readings are one -/
section SAM
variable {tx : Nat → Nat} {L i f : Nat} {O : List StpT} {K : List Nat}
theorem nx_le {q : Nat} (hq : q < 17) (h : isW tx L q i = true) : nx tx L i ≤ L := sk_le (run_le (Nat.le_of_lt (isW_lt hq h).1))
theorem pNum_le {lo hi i v j : Nat} (h : pNum tx L lo hi i = .inr (v, j)) : j ≤ L := by
  unfold pNum at h
  split at h
  · rename_i h1
    split at h
    · cases h
      exact sk_le (run_le (Nat.le_of_lt h1.1))
    · cases h
  · cases h
theorem pGive_le {q i j : Nat} {g : Option Nat} (hi : i ≤ L) (h : pGive tx L q i = .inr (g, j)) : j ≤ L := by
  unfold pGive at h
  split at h
  · cases h3 : pNum tx L 0 3 (nx tx L i) with
    | inl x =>
      rw [h3] at h
      cases h
    | inr a =>
      obtain ⟨v, l⟩ := a
      rw [h3] at h
      cases h
      exact pNum_le h3
  · cases h
    exact hi
theorem pRange_le {i f u j : Nat} (hi : i ≤ L) (h : pRange tx L i = .inr (f, u, j)) : j ≤ L := by
  unfold pRange at h
  split at h
  · cases h3 : pNum tx L 0 5 (nx tx L i) with
    | inl x =>
      rw [h3] at h
      cases h
    | inr a =>
      obtain ⟨v, l⟩ := a
      rw [h3] at h
      have h : (if isW tx L 16 l = true then (match pNum tx L 0 5 (nx tx L l) with
        | .inl x => (.inl x : Rs (Nat × Nat × Nat))
        | .inr (t, l2) => if t < v then .inl (3, nx tx L l) else .inr (v, t, l2)) else .inl (1, l)) = .inr (f, u, j) := h
      split at h
      · cases h6 : pNum tx L 0 5 (nx tx L l) with
        | inl x =>
          rw [h6] at h
          cases h
        | inr b =>
          obtain ⟨v2, l2⟩ := b
          rw [h6] at h
          have h : (if v2 < v then (.inl (3, nx tx L l) : Rs (Nat × Nat × Nat)) else .inr (v, v2, l2)) = .inr (f, u, j) := h
          split at h
          · cases h
          · cases h
            exact pNum_le h6
      · cases h
  · cases h
    exact hi
theorem pSpan_le {k many i j : Nat} {e : StpT} (hi : i ≤ L) (h : pSpan tx L k many i = .inr (e, j)) : j ≤ L := by
  cases h1 : pRange tx L i with
  | inl x =>
    rw [ps_1 h1] at h
    cases h
  | inr a =>
    obtain ⟨f, u, l⟩ := a
    cases h2 : pGive tx L 11 l with
    | inl x =>
      rw [ps_2 h1 h2] at h
      cases h
    | inr b =>
      obtain ⟨g, l2⟩ := b
      rw [ps_3 h1 h2] at h
      cases h
      exact pGive_le (pRange_le hi h1) h2
theorem pBase_le {i j : Nat} {A : List StpT} (h : pBase tx L i = .inr (A, j)) : j ≤ L := by
  cases w8 : isW tx L 8 i with
  | true =>
    cases h1 : pNum tx L 0 5 (nx tx L i) with
    | inl x =>
      rw [pb_who1 w8 h1] at h
      cases h
    | inr a =>
      obtain ⟨f, l⟩ := a
      cases h2 : pGive tx L 9 l with
      | inl x =>
        rw [pb_who2 w8 h1 h2] at h
        cases h
      | inr b =>
        obtain ⟨g, l2⟩ := b
        rw [pb_who3 w8 h1 h2] at h
        cases h
        exact pGive_le (pNum_le h1) h2
  | false =>
    cases w10 : isW tx L 10 i with
    | true =>
      rw [pb_all w8 w10] at h
      cases h1 : pSpan tx L 1 1 (nx tx L i) with
      | inl x =>
        rw [h1] at h
        cases h
      | inr a =>
        obtain ⟨e, l⟩ := a
        rw [h1] at h
        cases h
        exact pSpan_le (nx_le (by decide) w10) h1
    | false =>
      cases w12 : isW tx L 12 i with
      | true =>
        cases h0 : pNum tx L 0 6 (nx tx L i) with
        | inl x =>
          rw [pb_any1 w8 w10 w12 h0] at h
          cases h
        | inr b =>
          obtain ⟨v, l0⟩ := b
          rw [pb_any2 w8 w10 w12 h0] at h
          cases h1 : pSpan tx L 2 v l0 with
          | inl x =>
            rw [h1] at h
            cases h
          | inr a =>
            obtain ⟨e, l⟩ := a
            rw [h1] at h
            cases h
            exact pSpan_le (pNum_le h0) h1
      | false =>
        cases w13 : isW tx L 13 i with
        | true =>
          cases h0 : pNum tx L 0 18 (nx tx L i) with
          | inl x =>
            rw [pb_sum1 w8 w10 w12 w13 h0] at h
            cases h
          | inr b =>
            obtain ⟨v, l0⟩ := b
            rw [pb_sum2 w8 w10 w12 w13 h0] at h
            cases h
            exact pNum_le h0
        | false =>
          cases w14 : isW tx L 14 i with
          | true =>
            cases h0 : pNum tx L 1 9 (nx tx L i) with
            | inl x =>
              rw [pb_day1 w8 w10 w12 w13 w14 h0] at h
              cases h
            | inr b =>
              obtain ⟨v, l0⟩ := b
              rw [pb_day2 w8 w10 w12 w13 w14 h0] at h
              cases h
              exact pNum_le h0
          | false =>
            rw [pb_no w8 w10 w12 w13 w14] at h
            cases h
theorem isS_lt {b : Nat} (h : isS tx L b i = true) : i < L ∧ tx i = b := by
  unfold isS at h
  rw [Bool.and_eq_true, decide_eq_true_eq, decide_eq_true_eq] at h
  exact h
theorem w_not_s {q b : Nat} (hq : q < 17) (hb : knO b ≠ 1) (h : isW tx L q i = true) : isS tx L b i = false := by
  rw [Bool.eq_false_iff]
  intro z
  have h1 := (isW_lt hq h).2.1
  rw [(isS_lt z).2] at h1
  exact hb h1
theorem cls_stop (h : ¬ (isS tx L 41 i = true ∧ hop K = true)) (f : Nat) : cls tx L f O K i = (O, K, i) := by
  cases f with
  | zero => rfl
  | succ f =>
    unfold cls
    rw [if_neg h]
theorem cls_fuel : ∀ (f f' : Nat) (O : List StpT) (K : List Nat) (i : Nat), L < f + i → L < f' + i → cls tx L f O K i = cls tx L f' O K i
  | 0, f', O, K, i, h, h' => by
    rw [cls_stop (fun z => by have := (isS_lt z.1).1; omega), cls_stop (fun z => by have := (isS_lt z.1).1; omega)]
  | f + 1, 0, O, K, i, h, h' => by
    rw [cls_stop (fun z => by have := (isS_lt z.1).1; omega), cls_stop (fun z => by have := (isS_lt z.1).1; omega)]
  | f + 1, f' + 1, O, K, i, h, h' => by
    unfold cls
    split
    · have hge := sk_ge (tx := tx) (L := L) (i + 1)
      exact cls_fuel f f' _ _ _ (by omega) (by omega)
    · rfl
/-- the bottom that a list of conditions stands on -/
def bsK (K : List Nat) : Prop := K = [] ∨ ∃ K0, K = 8 :: K0
def ops (x6 x7 : Bool) (K : List Nat) : List Nat := (if x6 = true then [6] else []) ++ ((if x7 = true then [7] else []) ++ K)
def opL (x6 x7 : Bool) : List StpT := (if x6 = true then [opS 6] else []) ++ (if x7 = true then [opS 7] else [])
theorem opn_ops (x6 x7 : Bool) : opn (ops x6 x7 K) = opn K := by
  cases x6 <;> cases x7 <;> rfl
theorem pop5 (hK : bsK K) (x6 x7 : Bool) : popF (fun x => x == 5) (ops x6 x7 K) O = (O, ops x6 x7 K) := by
  rcases hK with rfl | ⟨K0, rfl⟩ <;> cases x6 <;> cases x7 <;> rfl
theorem pop6 (hK : bsK K) (x6 x7 : Bool) : popF (fun x => x == 6) (ops x6 x7 K) O = (O ++ opL x6 false, ops false x7 K) := by
  rcases hK with rfl | ⟨K0, rfl⟩ <;> cases x6 <;> cases x7 <;> simp [ops, opL, popF]
theorem pop67 (hK : bsK K) (x6 x7 : Bool) : popF (fun x => x == 6 || x == 7) (ops x6 x7 K) O = (O ++ opL x6 x7, K) := by
  rcases hK with rfl | ⟨K0, rfl⟩ <;> cases x6 <;> cases x7 <;> simp [ops, opL, popF]
theorem pop8 (K0 : List Nat) (x6 x7 : Bool) : popF (fun x => x != 8) (ops x6 x7 (8 :: K0)) O = (O ++ opL x6 x7, 8 :: K0) := by
  cases x6 <;> cases x7 <;> simp [ops, opL, popF]
theorem popE (x6 x7 : Bool) : (popF (fun _ => true) (ops x6 x7 []) O).1 = O ++ opL x6 x7 := by
  cases x6 <;> cases x7 <;> simp [ops, opL, popF]
theorem hop_ops (x6 x7 : Bool) : hop (ops x6 x7 K) = hop K := by
  cases x6 <;> cases x7 <;> simp [ops, hop]
theorem hop_8 (K0 : List Nat) : hop (8 :: K0) = true := by
  show (hop K0 || decide (8 = 8)) = true
  rw [decide_eq_true rfl, Bool.or_true]
/-! heads -/
theorem H_p (h : isS tx L 40 i = true) (ho : opn K < 6) (g : List StpT → List Nat → Nat → Rs (List StpT × Nat)) : syH tx L g O K i = syH tx L g O (8 :: K) (sk tx L (i + 1)) := by
  unfold syH
  have e : 6 - opn K = (6 - opn (8 :: K)) + 1 := by
    show _ = (6 - (opn K + (if 8 = 5 ∨ 8 = 8 then 1 else 0))) + 1
    rw [if_pos (Or.inr rfl)]
    omega
  rw [e]
  conv => lhs; unfold hd
  rw [if_pos h]
theorem H_n (h : isW tx L 7 i = true) (ho : opn K < 6) (g : List StpT → List Nat → Nat → Rs (List StpT × Nat)) : syH tx L g O K i = syH tx L g O (5 :: K) (nx tx L i) := by
  unfold syH
  have e : 6 - opn K = (6 - opn (5 :: K)) + 1 := by
    show _ = (6 - (opn K + (if 5 = 5 ∨ 5 = 8 then 1 else 0))) + 1
    rw [if_pos (Or.inl rfl)]
    omega
  rw [e]
  conv => lhs; unfold hd
  rw [if_neg (by rw [w_not_s (by decide) (by decide) h]; exact Bool.false_ne_true), if_pos h]
theorem H_0 (h : isW tx L 7 i = true ∨ isS tx L 40 i = true) (ho : opn K = 6) (g : List StpT → List Nat → Nat → Rs (List StpT × Nat)) : syH tx L g O K i = .inl (4, i) := by
  unfold syH
  rw [show 6 - opn K = 0 by omega]
  unfold hd
  rw [if_pos h.symm]
  rfl
theorem H_b (h : isW tx L 7 i = false) (h2 : isS tx L 40 i = false) (g : List StpT → List Nat → Nat → Rs (List StpT × Nat)) : syH tx L g O K i = rb (pBase tx L i) (fun p => syA tx L g (O ++ p.1) K p.2) := by
  unfold syH
  have e : hd tx L (6 - opn K) K i = rb (pBase tx L i) (fun p => .inr (K, p.1, p.2)) := by
    cases 6 - opn K with
    | zero =>
      unfold hd
      rw [if_neg (fun z => by rw [h, h2] at z; rcases z with z | z <;> cases z)]
    | succ e =>
      unfold hd
      rw [if_neg (by rw [h2]; exact Bool.false_ne_true), if_neg (by rw [h]; exact Bool.false_ne_true)]
  rw [e]
  cases pBase tx L i <;> rfl
/-! behind an operand -/
theorem A_n (g : List StpT → List Nat → Nat → Rs (List StpT × Nat)) : syA tx L g O (5 :: K) i = syA tx L g (O ++ [opS 5]) K i := rfl
theorem A_stop (hK : bsK K) (x6 x7 : Bool) (h : ¬ (isS tx L 41 i = true ∧ hop K = true)) (g : List StpT → List Nat → Nat → Rs (List StpT × Nat)) : syA tx L g O (ops x6 x7 K) i = g O (ops x6 x7 K) i := by
  unfold syA
  rw [pop5 hK, cls_stop (by rw [hop_ops]; exact h)]
theorem A_close (K0 : List Nat) (x6 x7 : Bool) (h : isS tx L 41 i = true) (g : List StpT → List Nat → Nat → Rs (List StpT × Nat)) : syA tx L g O (ops x6 x7 (8 :: K0)) i = syA tx L g (O ++ opL x6 x7) K0 (sk tx L (i + 1)) := by
  unfold syA
  rw [pop5 (Or.inr ⟨K0, rfl⟩)]
  have hge := sk_ge (tx := tx) (L := L) (i + 1)
  have e : cls tx L (L + 1) O (ops x6 x7 (8 :: K0)) i = cls tx L (L + 1) (popF (fun x => x == 5) K0 (O ++ opL x6 x7)).1 (popF (fun x => x == 5) K0 (O ++ opL x6 x7)).2 (sk tx L (i + 1)) := by
    conv => lhs; unfold cls
    rw [if_pos ⟨h, by rw [hop_ops]; exact hop_8 K0⟩, pop8]
    exact cls_fuel _ _ _ _ _ (by omega) (by omega)
  rw [e]
/-- one condition: what follows it -/
def Oner (tx : Nat → Nat) (L e : Nat) (one : Nat → Rs (List StpT × Nat)) : Prop := ∀ (K : List Nat) (O : List StpT) (i f : Nat), opn K + e = 6 → L < f + i → (∀ x, one i = .inl x → syH tx L (syJ tx L f) O K i = .inl x) ∧ (∀ S j, one i = .inr (S, j) → (i < j ∧ j ≤ L) ∧ ∃ f', f + i ≤ f' + j ∧ syH tx L (syJ tx L f) O K i = syA tx L (syJ tx L f') (O ++ S) K j)
theorem and_same {e : Nat} {one : Nat → Rs (List StpT × Nat)} (hO : Oner tx L e one) (hK : bsK K) (ho : opn K + e = 6) (x7 : Bool) (B : List StpT) : ∀ (fp : Nat) (f : Nat) (Sa out : List StpT) (x6 : Bool) (i : Nat), i ≤ L → L < fp + i → L < f + i → out ++ opL x6 false = B ++ Sa → (∀ x, pAnd tx L one fp Sa i = .inl x → syA tx L (syJ tx L f) out (ops x6 x7 K) i = .inl x) ∧ (∀ Sb j, pAnd tx L one fp Sa i = .inr (Sb, j) → (i ≤ j ∧ j ≤ L) ∧ ∃ f' out' x6', f + i ≤ f' + j ∧ isW tx L 5 j = false ∧ out' ++ opL x6' false = B ++ Sb ∧ syA tx L (syJ tx L f) out (ops x6 x7 K) i = syA tx L (syJ tx L f') out' (ops x6' x7 K) j) := by
  intro fp
  induction fp with
  | zero =>
    intro f Sa out x6 i hi hfp hf hout
    have h5 : isW tx L 5 i = false := by
      rw [Bool.eq_false_iff]
      intro z
      have := (isW_lt (by decide) z).1
      omega
    rw [pAnd_n h5]
    refine ⟨fun x h => (by cases h), fun Sb j h => ?_⟩
    cases h
    exact ⟨⟨Nat.le_refl _, hi⟩, f, out, x6, Nat.le_refl _, h5, hout, rfl⟩
  | succ fp ih =>
    intro f Sa out x6 i hi hfp hf hout
    cases h5 : isW tx L 5 i with
    | false =>
      rw [pAnd_n h5]
      refine ⟨fun x h => (by cases h), fun Sb j h => ?_⟩
      cases h
      exact ⟨⟨Nat.le_refl _, hi⟩, f, out, x6, Nat.le_refl _, h5, hout, rfl⟩
    | true =>
      have hnx := nx_gt (by decide) h5
      obtain ⟨f1, rfl⟩ : ∃ f1, f = f1 + 1 := ⟨f - 1, by omega⟩
      have hstep : syA tx L (syJ tx L (f1 + 1)) out (ops x6 x7 K) i = syH tx L (syJ tx L f1) (B ++ Sa) (6 :: ops false x7 K) (nx tx L i) := by
        rw [A_stop hK x6 x7 (fun z => by rw [w_not_s (by decide) (by decide) h5] at z; cases z.1)]
        conv => lhs; unfold syJ
        rw [if_pos h5, pop6 hK, hout]
      rw [hstep, pAnd_s h5]
      have hop : opn (6 :: ops false x7 K) + e = 6 := by
        show opn (ops false x7 K) + (if 6 = 5 ∨ 6 = 8 then 1 else 0) + e = 6
        rw [opn_ops, if_neg (by decide)]
        exact ho
      obtain ⟨hl, hr⟩ := hO (6 :: ops false x7 K) (B ++ Sa) (nx tx L i) f1 hop (by omega)
      cases h1 : one (nx tx L i) with
      | inl y =>
        refine ⟨fun x h => ?_, fun Sb j h => by cases h⟩
        cases h
        exact hl y h1
      | inr a =>
        obtain ⟨A2, j2⟩ := a
        obtain ⟨hj2, f2, hf2, he⟩ := hr A2 j2 h1
        rw [he]
        have hlist : (B ++ Sa ++ A2) ++ opL true false = B ++ (Sa ++ A2 ++ [opS 6]) := by
          simp [opL, List.append_assoc]
        obtain ⟨il, ir⟩ := ih f2 (Sa ++ A2 ++ [opS 6]) (B ++ Sa ++ A2) true j2 (by omega) (by omega) (by omega) hlist
        refine ⟨fun x h => il x h, fun Sb j h => ?_⟩
        obtain ⟨hj, f', out', x6', g1, g2, g3, g4⟩ := ir Sb j h
        exact ⟨by omega, f', out', x6', by omega, g2, g3, g4⟩
theorem or_same {e : Nat} {one : Nat → Rs (List StpT × Nat)} (hO : Oner tx L e one) (hK : bsK K) (ho : opn K + e = 6) (B : List StpT) : ∀ (fp : Nat) (f : Nat) (So out : List StpT) (x6 x7 : Bool) (i : Nat), i ≤ L → L < fp + i → L < f + i → isW tx L 5 i = false → out ++ opL x6 x7 = B ++ So → (∀ x, pOrs tx L one fp So i = .inl x → syA tx L (syJ tx L f) out (ops x6 x7 K) i = .inl x) ∧ (∀ Sb j, pOrs tx L one fp So i = .inr (Sb, j) → (i ≤ j ∧ j ≤ L) ∧ ∃ f' out' x6' x7', f + i ≤ f' + j ∧ isW tx L 5 j = false ∧ isW tx L 6 j = false ∧ out' ++ opL x6' x7' = B ++ Sb ∧ syA tx L (syJ tx L f) out (ops x6 x7 K) i = syA tx L (syJ tx L f') out' (ops x6' x7' K) j) := by
  intro fp
  induction fp with
  | zero =>
    intro f So out x6 x7 i hi hfp hf h5 hout
    have h6 : isW tx L 6 i = false := by
      rw [Bool.eq_false_iff]
      intro z
      have := (isW_lt (by decide) z).1
      omega
    rw [pOrs_n h6]
    refine ⟨fun x h => (by cases h), fun Sb j h => ?_⟩
    cases h
    exact ⟨⟨Nat.le_refl _, hi⟩, f, out, x6, x7, Nat.le_refl _, h5, h6, hout, rfl⟩
  | succ fp ih =>
    intro f So out x6 x7 i hi hfp hf h5 hout
    cases h6 : isW tx L 6 i with
    | false =>
      rw [pOrs_n h6]
      refine ⟨fun x h => (by cases h), fun Sb j h => ?_⟩
      cases h
      exact ⟨⟨Nat.le_refl _, hi⟩, f, out, x6, x7, Nat.le_refl _, h5, h6, hout, rfl⟩
    | true =>
      have hnx := nx_gt (by decide) h6
      obtain ⟨f1, rfl⟩ : ∃ f1, f = f1 + 1 := ⟨f - 1, by omega⟩
      have hstep : syA tx L (syJ tx L (f1 + 1)) out (ops x6 x7 K) i = syH tx L (syJ tx L f1) (B ++ So) (ops false true K) (nx tx L i) := by
        rw [A_stop hK x6 x7 (fun z => by rw [w_not_s (by decide) (by decide) h6] at z; cases z.1)]
        conv => lhs; unfold syJ
        rw [if_neg (by rw [h5]; exact Bool.false_ne_true), if_pos h6, pop67 hK, hout]
        rfl
      rw [hstep, pOrs_s h6, pTrm_rb]
      obtain ⟨hl, hr⟩ := hO (ops false true K) (B ++ So) (nx tx L i) f1 (by rw [opn_ops]; exact ho) (by omega)
      cases h1 : one (nx tx L i) with
      | inl y =>
        refine ⟨fun x h => ?_, fun Sb j h => by cases h⟩
        cases h
        exact hl y h1
      | inr a =>
        obtain ⟨A1, j1⟩ := a
        obtain ⟨hj1, f2, hf2, he⟩ := hr A1 j1 h1
        rw [he]
        obtain ⟨al, ar⟩ := and_same hO hK ho true (B ++ So) (L + 1) f2 A1 (B ++ So ++ A1) false j1 (by omega) (by omega) (by omega) (List.append_nil _)
        show (∀ x, rb (rb (.inr (A1, j1)) (fun p => pAnd tx L one (L + 1) p.1 p.2)) _ = .inl x → _) ∧ _
        cases h2 : pAnd tx L one (L + 1) A1 j1 with
        | inl y =>
          refine ⟨fun x h => ?_, fun Sb j h => ?_⟩
          · have h : rb (pAnd tx L one (L + 1) A1 j1) (fun p => pOrs tx L one fp (So ++ p.1 ++ [opS 7]) p.2) = .inl x := h
            rw [h2] at h
            cases h
            exact al y h2
          · have h : rb (pAnd tx L one (L + 1) A1 j1) (fun p => pOrs tx L one fp (So ++ p.1 ++ [opS 7]) p.2) = .inr (Sb, j) := h
            rw [h2] at h
            cases h
        | inr b =>
          obtain ⟨A3, j3⟩ := b
          obtain ⟨hj3, f3, out3, x63, hf3, h53, hout3, he3⟩ := ar A3 j3 h2
          rw [he3]
          have hlist : out3 ++ opL x63 true = B ++ (So ++ A3 ++ [opS 7]) := by
            have e1 : opL x63 true = opL x63 false ++ [opS 7] := by
              cases x63 <;> rfl
            rw [e1, ← List.append_assoc, hout3]
            simp [List.append_assoc]
          obtain ⟨il, ir⟩ := ih f3 (So ++ A3 ++ [opS 7]) out3 x63 true j3 (by omega) (by omega) (by omega) h53 hlist
          refine ⟨fun x h => ?_, fun Sb j h => ?_⟩
          · have h : rb (pAnd tx L one (L + 1) A1 j1) (fun p => pOrs tx L one fp (So ++ p.1 ++ [opS 7]) p.2) = .inl x := h
            rw [h2] at h
            exact il x h
          · have h : rb (pAnd tx L one (L + 1) A1 j1) (fun p => pOrs tx L one fp (So ++ p.1 ++ [opS 7]) p.2) = .inr (Sb, j) := h
            rw [h2] at h
            obtain ⟨hj, f', out', x6', x7', g1, g2, g3, g4, g5⟩ := ir Sb j h
            exact ⟨by omega, f', out', x6', x7', by omega, g2, g3, g4, g5⟩
theorem some_same {e : Nat} {one : Nat → Rs (List StpT × Nat)} (hO : Oner tx L e one) (hK : bsK K) (ho : opn K + e = 6) (O : List StpT) (i f : Nat) (hf : L < f + i) : (∀ x, pSome tx L one i = .inl x → syH tx L (syJ tx L f) O K i = .inl x) ∧ (∀ S j, pSome tx L one i = .inr (S, j) → (i < j ∧ j ≤ L) ∧ ∃ f' out x6 x7, f + i ≤ f' + j ∧ isW tx L 5 j = false ∧ isW tx L 6 j = false ∧ out ++ opL x6 x7 = O ++ S ∧ syH tx L (syJ tx L f) O K i = syA tx L (syJ tx L f') out (ops x6 x7 K) j) := by
  rw [pSome_rb, pTrm_rb]
  obtain ⟨hl, hr⟩ := hO K O i f ho hf
  cases h1 : one i with
  | inl y =>
    refine ⟨fun x h => ?_, fun S j h => by cases h⟩
    cases h
    exact hl y h1
  | inr a =>
    obtain ⟨A1, j1⟩ := a
    obtain ⟨hj1, f2, hf2, he⟩ := hr A1 j1 h1
    rw [he]
    obtain ⟨al, ar⟩ := and_same hO hK ho false O (L + 1) f2 A1 (O ++ A1) false j1 (by omega) (by omega) (by omega) (List.append_nil _)
    have hk : syA tx L (syJ tx L f2) (O ++ A1) (ops false false K) j1 = syA tx L (syJ tx L f2) (O ++ A1) K j1 := rfl
    rw [hk] at al ar
    show (∀ x, rb (pAnd tx L one (L + 1) A1 j1) (fun p => pOrs tx L one (L + 1) p.1 p.2) = .inl x → _) ∧ (∀ S j, rb (pAnd tx L one (L + 1) A1 j1) (fun p => pOrs tx L one (L + 1) p.1 p.2) = .inr (S, j) → _)
    cases h2 : pAnd tx L one (L + 1) A1 j1 with
    | inl y =>
      refine ⟨fun x h => ?_, fun S j h => by cases h⟩
      cases h
      exact al y h2
    | inr b =>
      obtain ⟨A3, j3⟩ := b
      obtain ⟨hj3, f3, out3, x63, hf3, h53, hout3, he3⟩ := ar A3 j3 h2
      rw [he3]
      obtain ⟨il, ir⟩ := or_same hO hK ho O (L + 1) f3 A3 out3 x63 false j3 (by omega) (by omega) (by omega) h53 hout3
      refine ⟨fun x h => il x h, fun S j h => ?_⟩
      obtain ⟨hj, f', out', x6', x7', g1, g2, g3, g4, g5⟩ := ir S j h
      exact ⟨by omega, f', out', x6', x7', by omega, g2, g3, g4, g5⟩
theorem one_same : ∀ e, Oner tx L e (pOne tx L e) := by
  intro e
  induction e with
  | zero =>
    intro K O i f ho hf
    by_cases hz : isW tx L 7 i = true ∨ isS tx L 40 i = true
    · rw [pOne_0 hz]
      refine ⟨fun x h => ?_, fun S j h => by cases h⟩
      cases h
      exact H_0 hz (by omega) _
    · have h7 : isW tx L 7 i = false := Bool.eq_false_iff.mpr (fun z => hz (Or.inl z))
      have h40 : isS tx L 40 i = false := Bool.eq_false_iff.mpr (fun z => hz (Or.inr z))
      rw [pOne_b h7 h40, H_b h7 h40]
      refine ⟨fun x h => ?_, fun S j h => ?_⟩
      · rw [h]
        rfl
      · have := pBase_gt h
        have := pBase_le h
        rw [h]
        exact ⟨by omega, f, by omega, rfl⟩
  | succ e ih =>
    intro K O i f ho hf
    cases h7 : isW tx L 7 i with
    | true =>
      have hnx := nx_gt (by decide) h7
      rw [pOne_n h7, H_n h7 (by omega)]
      obtain ⟨hl, hr⟩ := ih (5 :: K) O (nx tx L i) f (by show opn K + (if 5 = 5 ∨ 5 = 8 then 1 else 0) + e = 6; rw [if_pos (Or.inl rfl)]; omega) (by omega)
      cases h1 : pOne tx L e (nx tx L i) with
      | inl y =>
        refine ⟨fun x h => ?_, fun S j h => by cases h⟩
        cases h
        exact hl y h1
      | inr a =>
        obtain ⟨A1, j1⟩ := a
        obtain ⟨hj1, f2, hf2, he⟩ := hr A1 j1 h1
        refine ⟨fun x h => (by cases h), fun S j h => ?_⟩
        cases h
        refine ⟨by omega, f2, by omega, ?_⟩
        rw [he, A_n, List.append_assoc]
    | false =>
      cases h40 : isS tx L 40 i with
      | false =>
        rw [pOne_b h7 h40, H_b h7 h40]
        refine ⟨fun x h => ?_, fun S j h => ?_⟩
        · rw [h]
          rfl
        · have := pBase_gt h
          have := pBase_le h
          rw [h]
          exact ⟨by omega, f, by omega, rfl⟩
      | true =>
        have hge := sk_ge (tx := tx) (L := L) (i + 1)
        rw [pOne_p h7 h40, H_p h40 (by omega)]
        have ho8 : opn (8 :: K) + e = 6 := by
          show opn K + (if 8 = 5 ∨ 8 = 8 then 1 else 0) + e = 6
          rw [if_pos (Or.inr rfl)]
          omega
        obtain ⟨hl, hr⟩ := some_same ih (K := 8 :: K) (Or.inr ⟨K, rfl⟩) ho8 O (sk tx L (i + 1)) f (by omega)
        cases h1 : pSome tx L (pOne tx L e) (sk tx L (i + 1)) with
        | inl y =>
          refine ⟨fun x h => ?_, fun S j h => by cases h⟩
          cases h
          exact hl y h1
        | inr a =>
          obtain ⟨A1, j1⟩ := a
          obtain ⟨hj1, f2, out, x6, x7, hf2, g5, g6, gout, he⟩ := hr A1 j1 h1
          rw [he]
          cases h41 : isS tx L 41 j1 with
          | true =>
            have hge2 := sk_ge (tx := tx) (L := L) (j1 + 1)
            have hle2 : sk tx L (j1 + 1) ≤ L := sk_le (isS_lt h41).1
            refine ⟨fun x h => ?_, fun S j h => ?_⟩
            · have h : (if isS tx L 41 j1 = true then (.inr (A1, sk tx L (j1 + 1)) : Rs (List StpT × Nat)) else .inl (1, j1)) = .inl x := h
              rw [if_pos h41] at h
              cases h
            · have h : (if isS tx L 41 j1 = true then (.inr (A1, sk tx L (j1 + 1)) : Rs (List StpT × Nat)) else .inl (1, j1)) = .inr (S, j) := h
              rw [if_pos h41] at h
              cases h
              refine ⟨by omega, f2, by omega, ?_⟩
              rw [A_close K x6 x7 h41, gout]
          | false =>
            refine ⟨fun x h => ?_, fun S j h => ?_⟩
            · have h : (if isS tx L 41 j1 = true then (.inr (A1, sk tx L (j1 + 1)) : Rs (List StpT × Nat)) else .inl (1, j1)) = .inl x := h
              rw [if_neg (by rw [h41]; exact Bool.false_ne_true)] at h
              cases h
              obtain ⟨f3, rfl⟩ : ∃ f3, f2 = f3 + 1 := ⟨f2 - 1, by omega⟩
              rw [A_stop (Or.inr ⟨K, rfl⟩) x6 x7 (fun z => by rw [h41] at z; cases z.1)]
              unfold syJ
              rw [if_neg (by rw [g5]; exact Bool.false_ne_true), if_neg (by rw [g6]; exact Bool.false_ne_true), if_pos (by rw [hop_ops]; exact hop_8 K)]
            · have h : (if isS tx L 41 j1 = true then (.inr (A1, sk tx L (j1 + 1)) : Rs (List StpT × Nat)) else .inl (1, j1)) = .inr (S, j) := h
              rw [if_neg (by rw [h41]; exact Bool.false_ne_true)] at h
              cases h
end SAM

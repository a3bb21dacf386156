/-! what a text that was read holds: sizes, depths, numbers -/
section BND
variable {tx : Nat → Nat} {L : Nat}
theorem top_same (O : List StpT) (i : Nat) : syH tx L (syJ tx L (L + 1)) O [] i = rb (pSome tx L (pOne tx L 6) i) (fun p => .inr (O ++ p.1, p.2)) := by
  obtain ⟨hl, hr⟩ := some_same (tx := tx) (L := L) (one_same 6) (K := []) (Or.inl rfl) rfl O i (L + 1) (by omega)
  cases h : pSome tx L (pOne tx L 6) i with
  | inl x => exact hl x h
  | inr a =>
    obtain ⟨S, j⟩ := a
    obtain ⟨hj, f', out, x6, x7, hf, g5, g6, gout, he⟩ := hr S j h
    rw [he]
    obtain ⟨f3, rfl⟩ : ∃ f3, f' = f3 + 1 := ⟨f' - 1, by omega⟩
    rw [A_stop (Or.inl rfl) x6 x7 (fun z => by cases z.2)]
    unfold syJ
    rw [if_neg (by rw [g5]; exact Bool.false_ne_true), if_neg (by rw [g6]; exact Bool.false_ne_true), if_neg (by rw [hop_ops]; exact Bool.false_ne_true), popE, gout]
    rfl
def s40 (tx : Nat → Nat) (L i : Nat) : Nat := if isS tx L 40 i = true then 1 else 0
theorem s40_le (i : Nat) : s40 tx L i ≤ 1 := by
  unfold s40
  split <;> omega
theorem dpS_app : ∀ (A B : List StpT) (d : Nat), dpS (A ++ B) d = match dpS A d with
    | none => none
    | some d' => dpS B d'
  | [], _, _ => rfl
  | a :: A, B, d => by
    show (match dpO a d with
      | none => none
      | some d' => dpS (A ++ B) d') = match (match dpO a d with
        | none => none
        | some d' => dpS A d') with
      | none => none
      | some d' => dpS B d'
    cases dpO a d with
    | none => rfl
    | some d' => exact dpS_app A B d'
/-- a list of steps that stands for one condition of e levels -/
def gdA (e : Nat) (A : List StpT) : Prop := (∀ x ∈ A, okE x) ∧ ∀ d, d + 3 * e + 1 ≤ 29 → dpS A d = some (d + 1)
def gdS (e : Nat) (A : List StpT) : Prop := (∀ x ∈ A, okE x) ∧ ∀ d, d + 3 * e + 3 ≤ 29 → dpS A d = some (d + 1)
def gdT (e : Nat) (A : List StpT) : Prop := (∀ x ∈ A, okE x) ∧ ∀ d, d + 3 * e + 2 ≤ 29 → dpS A d = some (d + 1)
def wOne (tx : Nat → Nat) (L e : Nat) (one : Nat → Rs (List StpT × Nat)) : Prop := ∀ i A j, one i = .inr (A, j) → 3 * A.length + s40 tx L i + i ≤ j ∧ (i < L ∧ (isS tx L 40 i = true ∨ knO (tx i) = 1)) ∧ gdA e A
theorem okE_op {k : Nat} (h : k < 8) : okE (opS k) := okE_mk h (by decide) (by decide) (by decide) (by decide)
theorem dp_op2 {k d : Nat} (h : k = 6 ∨ k = 7) : dpS [opS k] (d + 1 + 1) = some (d + 1) := by
  show (match dpO (opS k) (d + 1 + 1) with
    | none => none
    | some d' => dpS [] d') = _
  have : dpO (opS k) (d + 1 + 1) = some (d + 1) := by
    unfold dpO
    rw [show (opS k).1 = k from rfl, if_neg (show ¬ k < 5 by omega), if_neg (show ¬ k = 5 by omega), if_neg (by omega)]
    rfl
  rw [this]
  rfl
variable {e : Nat} {one : Nat → Rs (List StpT × Nat)}
theorem pAnd_w (hw : wOne tx L e one) : ∀ (f : Nat) (S : List StpT) (i : Nat) (A : List StpT) (j : Nat), gdT e S → pAnd tx L one f S i = .inr (A, j) → 3 * A.length + i ≤ 3 * S.length + j ∧ gdT e A
  | 0, S, i, A, j, hS, h => by
    cases h
    exact ⟨Nat.le_refl _, hS⟩
  | f + 1, S, i, A, j, hS, h => by
    cases h5 : isW tx L 5 i with
    | false =>
      rw [pAnd_n h5] at h
      cases h
      exact ⟨Nat.le_refl _, hS⟩
    | true =>
      have h6 : i + 3 ≤ nx tx L i := by
        obtain ⟨-, -, h3, -⟩ := isW_lt (by decide) h5
        have h4 := sk_ge (tx := tx) (L := L) (wd tx L i)
        have h5 : (wB 5).length = 3 := rfl
        unfold nx
        omega
      rw [pAnd_s h5] at h
      cases h7 : one (nx tx L i) with
      | inl x =>
        rw [h7] at h
        cases h
      | inr a =>
        obtain ⟨A2, j2⟩ := a
        rw [h7] at h
        obtain ⟨g1, g2, g3, g4⟩ := hw _ _ _ h7
        have h9 := pAnd_w hw f (S ++ A2 ++ [opS 6]) j2 A j ⟨fun x hx => by
          rcases List.mem_append.mp hx with hx | hx
          · rcases List.mem_append.mp hx with hx | hx
            · exact hS.1 x hx
            · exact g3 x hx
          · rw [List.mem_singleton.mp hx]
            exact okE_op (by decide), fun d hd => by
          rw [dpS_app, dpS_app, hS.2 d hd]
          show (match dpS A2 (d + 1) with
            | none => none
            | some d' => dpS [opS 6] d') = _
          rw [g4 (d + 1) (by omega)]
          exact dp_op2 (Or.inl rfl)⟩ h
        rw [List.length_append, List.length_append] at h9
        refine ⟨?_, h9.2⟩
        have := h9.1
        have e1 : ([opS 6] : List StpT).length = 1 := rfl
        omega
theorem pTrm_w (hw : wOne tx L e one) {i j : Nat} {A : List StpT} (h : pTrm tx L one i = .inr (A, j)) : 3 * A.length + s40 tx L i + i ≤ j ∧ (i < L ∧ (isS tx L 40 i = true ∨ knO (tx i) = 1)) ∧ gdT e A := by
  rw [pTrm_rb] at h
  cases h7 : one i with
  | inl x =>
    rw [h7] at h
    cases h
  | inr a =>
    obtain ⟨A2, j2⟩ := a
    rw [h7] at h
    obtain ⟨g1, g2, g3, g4⟩ := hw _ _ _ h7
    have h9 := pAnd_w hw (L + 1) A2 j2 A j ⟨g3, fun d hd => g4 d (by omega)⟩ h
    exact ⟨by have := h9.1; omega, g2, h9.2⟩
theorem pOrs_w (hw : wOne tx L e one) : ∀ (f : Nat) (S : List StpT) (i : Nat) (A : List StpT) (j : Nat), gdS e S → pOrs tx L one f S i = .inr (A, j) → 3 * A.length + i ≤ 3 * S.length + j ∧ gdS e A
  | 0, S, i, A, j, hS, h => by
    cases h
    exact ⟨Nat.le_refl _, hS⟩
  | f + 1, S, i, A, j, hS, h => by
    cases h5 : isW tx L 6 i with
    | false =>
      rw [pOrs_n h5] at h
      cases h
      exact ⟨Nat.le_refl _, hS⟩
    | true =>
      rw [pOrs_s h5] at h
      cases h7 : pTrm tx L one (nx tx L i) with
      | inl x =>
        rw [h7] at h
        cases h
      | inr a =>
        obtain ⟨A2, j2⟩ := a
        rw [h7] at h
        obtain ⟨g1, ⟨g20, g2⟩, g3, g4⟩ := pTrm_w hw h7
        have h6 : i + 3 ≤ nx tx L i + s40 tx L (nx tx L i) := by
          obtain ⟨-, -, h3, -⟩ := isW_lt (by decide) h5
          have h4 := sk_ge (tx := tx) (L := L) (wd tx L i)
          have h6 : (wB 6).length = 2 := rfl
          unfold s40
          rcases g2 with g2 | g2
          · rw [if_pos g2]
            unfold nx at g20 ⊢
            omega
          · have hne : nx tx L i ≠ wd tx L i := fun z => by
              rw [z] at g20 g2
              exact run_end (P := ltB) i ⟨g20, knO_1.mp g2⟩
            unfold nx at hne ⊢
            omega
        have h9 := pOrs_w hw f (S ++ A2 ++ [opS 7]) j2 A j ⟨fun x hx => by
          rcases List.mem_append.mp hx with hx | hx
          · rcases List.mem_append.mp hx with hx | hx
            · exact hS.1 x hx
            · exact g3 x hx
          · rw [List.mem_singleton.mp hx]
            exact okE_op (by decide), fun d hd => by
          rw [dpS_app, dpS_app, hS.2 d hd]
          show (match dpS A2 (d + 1) with
            | none => none
            | some d' => dpS [opS 7] d') = _
          rw [g4 (d + 1) (by omega)]
          exact dp_op2 (Or.inr rfl)⟩ h
        rw [List.length_append, List.length_append] at h9
        refine ⟨?_, h9.2⟩
        have := h9.1
        have e1 : ([opS 7] : List StpT).length = 1 := rfl
        omega
theorem pSome_w (hw : wOne tx L e one) {i j : Nat} {A : List StpT} (h : pSome tx L one i = .inr (A, j)) : 3 * A.length + s40 tx L i + i ≤ j ∧ (i < L ∧ (isS tx L 40 i = true ∨ knO (tx i) = 1)) ∧ gdS e A := by
  rw [pSome_rb] at h
  cases h7 : pTrm tx L one i with
  | inl x =>
    rw [h7] at h
    cases h
  | inr a =>
    obtain ⟨A2, j2⟩ := a
    rw [h7] at h
    obtain ⟨g1, g2, g3, g4⟩ := pTrm_w hw h7
    have h9 := pOrs_w hw (L + 1) A2 j2 A j ⟨g3, fun d hd => g4 d (by omega)⟩ h
    exact ⟨by have := h9.1; omega, g2, h9.2⟩
theorem base_w {e i j : Nat} {A : List StpT} (h7 : isS tx L 40 i = false) (h : pBase tx L i = .inr (A, j)) : 3 * A.length + s40 tx L i + i ≤ j ∧ (i < L ∧ (isS tx L 40 i = true ∨ knO (tx i) = 1)) ∧ gdA e A := by
  obtain ⟨g1, g2, x, rfl, g3, g4⟩ := pBase_gt h
  have hk : knO (tx i) = 1 := by
    apply Classical.byContradiction
    intro hk
    have hn : ∀ q, q < 17 → isW tx L q i = false := fun q hq => Bool.eq_false_iff.mpr (fun z => hk (isW_lt hq z).2.1)
    rw [pb_no (hn 8 (by decide)) (hn 10 (by decide)) (hn 12 (by decide)) (hn 13 (by decide)) (hn 14 (by decide))] at h
    cases h
  refine ⟨?_, ⟨g2, Or.inr hk⟩, fun y hy => by rw [List.mem_singleton.mp hy]; exact g3, fun d hd => ?_⟩
  · unfold s40
    rw [if_neg (by rw [h7]; exact Bool.false_ne_true)]
    show 3 * 1 + 0 + i ≤ j
    omega
  · show (match dpO x d with
      | none => none
      | some d' => dpS [] d') = _
    unfold dpO
    rw [if_pos g4, if_pos (by omega)]
    rfl
theorem pOne_w : ∀ e, wOne tx L e (pOne tx L e) := by
  intro e
  induction e with
  | zero =>
    intro i A j h
    by_cases hz : isW tx L 7 i = true ∨ isS tx L 40 i = true
    · rw [pOne_0 hz] at h
      cases h
    · have h7 : isW tx L 7 i = false := Bool.eq_false_iff.mpr (fun z => hz (Or.inl z))
      have h40 : isS tx L 40 i = false := Bool.eq_false_iff.mpr (fun z => hz (Or.inr z))
      rw [pOne_b h7 h40] at h
      exact base_w h40 h
  | succ e ih =>
    intro i A j h
    cases h7 : isW tx L 7 i with
    | true =>
      rw [pOne_n h7] at h
      have h6 : i + 3 ≤ nx tx L i := by
        obtain ⟨-, -, h3, -⟩ := isW_lt (by decide) h7
        have h4 := sk_ge (tx := tx) (L := L) (wd tx L i)
        have h5 : (wB 7).length = 3 := rfl
        unfold nx
        omega
      cases h8 : pOne tx L e (nx tx L i) with
      | inl x =>
        rw [h8] at h
        cases h
      | inr a =>
        obtain ⟨A2, j2⟩ := a
        rw [h8] at h
        cases h
        obtain ⟨g1, g2, g3, g4⟩ := ih _ _ _ h8
        obtain ⟨w1, w2, -⟩ := isW_lt (by decide) h7
        refine ⟨?_, ⟨w1, Or.inr w2⟩, fun x hx => ?_, fun d hd => ?_⟩
        · show 3 * (A2 ++ [opS 5]).length + s40 tx L i + i ≤ j2
          unfold s40
          rw [if_neg (by rw [w_not_s (by decide) (by decide) h7]; exact Bool.false_ne_true), List.length_append]
          have e1 : ([opS 5] : List StpT).length = 1 := rfl
          omega
        · rcases List.mem_append.mp hx with hx | hx
          · exact g3 x hx
          · rw [List.mem_singleton.mp hx]
            exact okE_op (by decide)
        · show dpS (A2 ++ [opS 5]) d = _
          rw [dpS_app, g4 d (by omega)]
          show (match dpO (opS 5) (d + 1) with
            | none => none
            | some d' => dpS [] d') = _
          have : dpO (opS 5) (d + 1) = some (d + 1) := by
            unfold dpO
            rw [show (opS 5).1 = 5 from rfl, if_neg (show ¬ 5 < 5 by decide), if_pos (show 5 = 5 from rfl), if_neg (by omega)]
          rw [this]
          rfl
    | false =>
      cases h40 : isS tx L 40 i with
      | false =>
        rw [pOne_b h7 h40] at h
        have hw := base_w (e := e + 1) h40 h
        rw [h40] at hw
        exact hw
      | true =>
        rw [pOne_p h7 h40] at h
        cases h8 : pSome tx L (pOne tx L e) (sk tx L (i + 1)) with
        | inl x =>
          rw [h8] at h
          cases h
        | inr a =>
          obtain ⟨A2, j2⟩ := a
          rw [h8] at h
          obtain ⟨g1, g2, g3, g4⟩ := pSome_w ih h8
          have hge := sk_ge (tx := tx) (L := L) (i + 1)
          have hge2 := sk_ge (tx := tx) (L := L) (j2 + 1)
          have h : (if isS tx L 41 j2 = true then (.inr (A2, sk tx L (j2 + 1)) : Rs (List StpT × Nat)) else .inl (1, j2)) = .inr (A, j) := h
          split at h
          · cases h
            refine ⟨?_, ⟨(isS_lt h40).1, Or.inl rfl⟩, g3, fun d hd => g4 d (by omega)⟩
            have := s40_le (tx := tx) (L := L) i
            omega
          · cases h
/-! rules -/
def lstR (f : Nat) : List (Nat × Nat × Nat) → Nat
  | [] => f
  | (_, _, e) :: R => lstR e R
theorem lstR_snoc : ∀ (R : List (Nat × Nat × Nat)) (f k o e : Nat), lstR f (R ++ [(k, o, e)]) = e
  | [], _, _, _, _ => rfl
  | (_, _, e') :: R, f, k, o, e => lstR_snoc R e' k o e
theorem seg_app {S A : List StpT} {f e : Nat} (hfe : f ≤ e) (he : e ≤ S.length) : seg (S ++ A) f e = seg S f e := by
  unfold seg
  rw [List.drop_append_of_le_length (by omega), List.take_append_of_le_length (by rw [List.length_drop]; omega)]
theorem okR_ext {S : List StpT} (A : List StpT) : ∀ (R : List (Nat × Nat × Nat)) (f : Nat), okR S R f → okR (S ++ A) R f
  | [], _, _ => trivial
  | (k, o, e) :: R, f, h => by
    obtain ⟨h1, h2, h3, h4⟩ := h
    refine ⟨h1, ⟨h2.1, by rw [List.length_append]; omega⟩, ?_, okR_ext A R e h4⟩
    rw [seg_app h2.1 h2.2]
    exact h3
theorem okR_snoc {S : List StpT} {k o e : Nat} (h1 : k < 4 ∧ o < 6 ∧ (k = 0 → o < 4)) (he : e ≤ S.length) : ∀ (R : List (Nat × Nat × Nat)) (f : Nat), okR S R f → lstR f R ≤ e → (e = lstR f R ∨ dpS (seg S (lstR f R) e) 0 = some 1) → okR S (R ++ [(k, o, e)]) f
  | [], f, _, hl, hd => ⟨h1, ⟨hl, he⟩, hd, trivial⟩
  | (k', o', e') :: R, f, h, hl, hd => ⟨h.1, h.2.1, h.2.2.1, okR_snoc h1 he R e' h.2.2.2 hl hd⟩
theorem pRule_w {i k o j : Nat} {A : List StpT} (h : pRule tx L i = .inr (k, o, A, j)) : 3 * A.length + i + 1 ≤ j ∧ (k < 4 ∧ o < 6 ∧ (k = 0 → o < 4)) ∧ (∀ x ∈ A, okE x) ∧ (A = [] ∨ dpS A 0 = some 1) := by
  rw [pRule_rb] at h
  cases h1 : pMuch tx L i with
  | inl x =>
    rw [h1] at h
    cases h
  | inr p =>
    obtain ⟨k1, o1, j1⟩ := p
    have g1 := pMuch_gt h1
    rw [h1] at h
    have h : (if isW tx L 1 j1 = true then rb (pSome tx L (pOne tx L 6) (nx tx L j1)) (fun r => (.inr (k1, o1, r.1, r.2) : Rs (Nat × Nat × List StpT × Nat))) else .inr (k1, o1, [], j1)) = .inr (k, o, A, j) := h
    split at h
    · rename_i h2
      have g2 := nx_gt (by decide) h2
      cases h3 : pSome tx L (pOne tx L 6) (nx tx L j1) with
      | inl x =>
        rw [h3] at h
        cases h
      | inr r =>
        obtain ⟨A2, j2⟩ := r
        rw [h3] at h
        obtain ⟨w1, -, w3, w4⟩ := pSome_w (pOne_w 6) h3
        cases h
        exact ⟨by show 3 * A2.length + i + 1 ≤ j2; omega, g1.2, w3, Or.inr (w4 0 (by decide))⟩
    · cases h
      exact ⟨by show 3 * 0 + i + 1 ≤ _; omega, g1.2, fun x hx => (by cases hx), Or.inl rfl⟩
theorem pMuch_le {i k o j : Nat} (h : pMuch tx L i = .inr (k, o, j)) : j ≤ L := by
  unfold pMuch at h
  split at h
  · rename_i h1
    cases h
    exact nx_le (by decide) h1
  · split at h
    · rename_i h1
      cases h
      exact nx_le (by decide) h1
    · split at h
      · cases h2 : pNum tx L 0 5 (nx tx L i) with
        | inl x =>
          rw [h2] at h
          cases h
        | inr a =>
          obtain ⟨v, l⟩ := a
          rw [h2] at h
          cases h
          exact pNum_le h2
      · cases h2 : pNum tx L 0 3 i with
        | inl x =>
          rw [h2] at h
          cases h
        | inr a =>
          obtain ⟨v, l⟩ := a
          rw [h2] at h
          cases h
          exact pNum_le h2
theorem pRule_le {i k o j : Nat} {A : List StpT} (h : pRule tx L i = .inr (k, o, A, j)) : j ≤ L := by
  rw [pRule_rb] at h
  cases h1 : pMuch tx L i with
  | inl x =>
    rw [h1] at h
    cases h
  | inr p =>
    obtain ⟨k1, o1, j1⟩ := p
    rw [h1] at h
    have h : (if isW tx L 1 j1 = true then rb (pSome tx L (pOne tx L 6) (nx tx L j1)) (fun r => (.inr (k1, o1, r.1, r.2) : Rs (Nat × Nat × List StpT × Nat))) else .inr (k1, o1, [], j1)) = .inr (k, o, A, j) := h
    split at h
    · cases h3 : pSome tx L (pOne tx L 6) (nx tx L j1) with
      | inl x =>
        rw [h3] at h
        cases h
      | inr r =>
        obtain ⟨A2, j2⟩ := r
        rw [h3] at h
        cases h
        exact ((some_same (tx := tx) (L := L) (one_same 6) (K := []) (Or.inl rfl) rfl [] (nx tx L j1) (L + 1) (by omega)).2 A2 j2 h3).1.2
    · cases h
      exact pMuch_le h1
def okN (T : Trm) (i : Nat) : Prop := 5 * T.1.length ≤ i ∧ 3 * T.2.length ≤ i ∧ (∀ x ∈ T.2, okE x) ∧ okR T.2 T.1 0 ∧ lstR 0 T.1 = T.2.length
theorem okN_step {T : Trm} {i k o j : Nat} {A : List StpT} (hN : okN T i) (h : pRule tx L i = .inr (k, o, A, j)) : (5 * (T.1 ++ [(k, o, (T.2 ++ A).length)]).length ≤ j + 4 ∧ 3 * (T.2 ++ A).length ≤ j) ∧ (∀ x ∈ T.2 ++ A, okE x) ∧ okR (T.2 ++ A) (T.1 ++ [(k, o, (T.2 ++ A).length)]) 0 ∧ lstR 0 (T.1 ++ [(k, o, (T.2 ++ A).length)]) = (T.2 ++ A).length := by
  obtain ⟨n1, n2, n3, n4, n5⟩ := hN
  obtain ⟨w1, w2, w3, w4⟩ := pRule_w h
  refine ⟨⟨?_, ?_⟩, ?_, ?_, lstR_snoc _ _ _ _ _⟩
  · rw [List.length_append]
    show 5 * (T.1.length + 1) ≤ _
    omega
  · rw [List.length_append]
    omega
  · intro x hx
    rcases List.mem_append.mp hx with hx | hx
    · exact n3 x hx
    · exact w3 x hx
  · refine okR_snoc w2 (Nat.le_refl _) T.1 0 (okR_ext A T.1 0 n4) (by rw [n5, List.length_append]; omega) ?_
    rw [n5]
    rcases w4 with rfl | w4
    · left
      rw [List.append_nil]
    · right
      have : seg (T.2 ++ A) T.2.length (T.2 ++ A).length = A := by
        unfold seg
        rw [List.drop_left, List.length_append, Nat.add_sub_cancel_left, List.take_length]
      rw [this]
      exact w4
theorem pRules_ok (hL : L ≤ 120) : ∀ (f : Nat) (T : Trm) (i : Nat) (T' : Trm), L < f + i → i ≤ L → okN T i → pRules tx L f T i = .inr T' → okT T' ∧ okL T'
  | 0, T, i, T', hf, hi, hN, h => by omega
  | f + 1, T, i, T', hf, hi, hN, h => by
    rw [pRules_s] at h
    cases h1 : pRule tx L i with
    | inl x =>
      rw [h1] at h
      cases h
    | inr p =>
      obtain ⟨k, o, A, j⟩ := p
      rw [h1] at h
      obtain ⟨⟨g1, g2⟩, g3, g4, g5⟩ := okN_step hN h1
      have hgt := pRule_gt h1
      have h : (if isW tx L 0 j = true then pRules tx L f (T.1 ++ [(k, o, (T.2 ++ A).length)], T.2 ++ A) (nx tx L j) else if j < L then .inl (1, j) else .inr (T.1 ++ [(k, o, (T.2 ++ A).length)], T.2 ++ A)) = .inr T' := h
      split at h
      · rename_i h0
        have hnx : j + 4 ≤ nx tx L j := by
          obtain ⟨-, -, h3, -⟩ := isW_lt (by decide) h0
          have h4 := sk_ge (tx := tx) (L := L) (wd tx L j)
          have h5 : (wB 0).length = 4 := rfl
          unfold nx
          omega
        exact pRules_ok hL f _ (nx tx L j) T' (by omega) (nx_le (by decide) h0) ⟨by show 5 * (T.1 ++ _).length ≤ _; omega, by show 3 * (T.2 ++ A).length ≤ _; omega, g3, g4, g5⟩ h
      · split at h
        · cases h
        · rename_i hjl
          have hjL := pRule_le h1
          cases h
          refine ⟨⟨?_, ?_, g3, g4⟩, ⟨(k, o, (T.2 ++ A).length), ?_, rfl⟩⟩
          · show (T.1 ++ [(k, o, (T.2 ++ A).length)]).length ≤ 25
            rw [List.length_append] at g1 ⊢
            have e1 : ([(k, o, (T.2 ++ A).length)] : List (Nat × Nat × Nat)).length = 1 := rfl
            have := hN.1
            omega
          · show (T.2 ++ A).length ≤ 40
            omega
          · show (T.1 ++ [(k, o, (T.2 ++ A).length)]).getLast? = _
            rw [List.getLast?_append]
            rfl
end BND

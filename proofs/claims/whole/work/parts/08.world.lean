/-! worlds: what a change leaves as it was -/
theorem wF_sF (w : Wd) (b b' : Bool) (k i f k' i' f' : Nat) (x : Int32) : wF (sF w b k i f x) b' k' i' f' = if b' = b ∧ k' = k ∧ i' = i ∧ f' = f then x else wF w b' k' i' f' := by
  by_cases h1 : k' = k <;> by_cases h2 : i' = i <;> by_cases h3 : f' = f <;> cases b <;> cases b' <;> simp [wF, sF, wS, wT, up3, h1, h2, h3]
theorem wA_sF (w : Wd) (b b' : Bool) (k i f k' i' : Nat) (x : Int32) : wA (sF w b k i f x) b' k' i' = wA w b' k' i' := by
  cases b <;> cases b' <;> rfl
theorem wR_sF (w : Wd) (b b' : Bool) (k i f k' i' : Nat) (x : Int32) : wR (sF w b k i f x) b' k' i' = wR w b' k' i' := by
  cases b <;> cases b' <;> rfl
theorem wF_sA (w : Wd) (b b' : Bool) (k i j k' i' f' : Nat) (x : Int32) : wF (sA w b k i j x) b' k' i' f' = wF w b' k' i' f' := by
  cases b <;> cases b' <;> rfl
theorem wR_sA (w : Wd) (b b' : Bool) (k i j k' i' : Nat) (x : Int32) : wR (sA w b k i j x) b' k' i' = wR w b' k' i' := by
  cases b <;> cases b' <;> rfl
theorem wA_sA (w : Wd) (b b' : Bool) (k i j k' i' : Nat) (x : Int32) : wA (sA w b k i j x) b' k' i' = if b' = b ∧ k' = k ∧ i' = i then upd (wA w b k i) j x else wA w b' k' i' := by
  by_cases h1 : k' = k <;> by_cases h2 : i' = i <;> cases b <;> cases b' <;> (funext q; simp [wA, sA, wS, wT, upA, h1, h2] <;> rfl)
theorem wF_sR (w : Wd) (b b' : Bool) (k i v k' i' f' : Nat) : wF (sR w b k i v) b' k' i' f' = wF w b' k' i' f' := by
  cases b <;> cases b' <;> rfl
theorem wA_sR (w : Wd) (b b' : Bool) (k i v k' i' : Nat) : wA (sR w b k i v) b' k' i' = wA w b' k' i' := by
  cases b <;> cases b' <;> rfl
theorem wR_sR (w : Wd) (b b' : Bool) (k i v k' i' : Nat) : wR (sR w b k i v) b' k' i' = if b' = b ∧ k' = k ∧ i' = i then v else wR w b' k' i' := by
  by_cases h1 : k' = k <;> by_cases h2 : i' = i <;> cases b <;> cases b' <;> simp [wR, sR, wS, wT, up2, h1, h2]
theorem wl_set {ks : List Key} {f g : Key → Nat × va_E} {n : Nat} {q : Key} {e : Nat × va_E} (hn : ks.Nodup) (hq : ks[n]? = some q) (he : g q = e) (h : ∀ q', q' ≠ q → g q' = f q') : (ks.map f).set n e = ks.map g := by
  apply List.ext_getElem?
  intro j
  have hl := (List.getElem?_eq_some_iff.mp hq).1
  by_cases hj : j = n
  · subst hj
    rw [List.getElem?_set_self (by simpa using hl), List.getElem?_map, hq]
    simp [he]
  · rw [List.getElem?_set_ne (Ne.symm hj), List.getElem?_map, List.getElem?_map]
    cases hk : ks[j]? with
    | none => rfl
    | some q' =>
      have hne : q' ≠ q := by
        intro hqq
        subst hqq
        exact hj ((List.getElem?_inj hl hn).mp (hq.trans hk.symm)).symm
      simp [h q' hne]
theorem range_set {n f : Nat} {g g' : Nat → Value} (hf : f < n) (h : ∀ j, j ≠ f → g' j = g j) : ((List.range n).map g).set f (g' f) = (List.range n).map g' := by
  apply List.ext_getElem?
  intro j
  by_cases hj : j = f
  · subst hj
    rw [List.getElem?_set_self (by simpa using hf)]
    simp [hf]
  · rw [List.getElem?_set_ne (Ne.symm hj), List.getElem?_map, List.getElem?_map]
    by_cases hl : j < n
    · simp [hl, h j hj]
    · simp [hl]
section WLS
variable {cI cZ cQ : ClassId} {sa : Nat → Nat} {ad : Key → Nat} {ks : List Key} {w : Wd}
theorem wl_at {q : Key} (hq : q ∈ ks) : ∃ n : Nat, ks[n]? = some q ∧ (wl cI cZ cQ sa ad ks w)[n]? = some (ad q, cellE cI cZ cQ sa ad w q) := by
  obtain ⟨n, hn⟩ := List.getElem?_of_mem hq
  exact ⟨n, hn, by simp [wl, hn]⟩
theorem cellE_obj {b : Bool} {k i ci : Nat} (h : ki b k = (0, ci)) : cellE cI cZ cQ sa ad w (b, k, i) = .inr (ci, (List.range (nfc ci)).map (fun f => conc sa ad (fval w b k i ci f))) := by
  simp [cellE, h]
theorem cellE_int {b : Bool} {k i n : Nat} (h : ki b k = (1, n)) : cellE cI cZ cQ sa ad w (b, k, i) = .inl (cI, n, .inl (wA w b k i)) := by
  simp [cellE, h]
theorem cellE_bool {b : Bool} {k i n : Nat} (h : ki b k = (2, n)) : cellE cI cZ cQ sa ad w (b, k, i) = .inl (cZ, n, .inl (wA w b k i)) := by
  simp [cellE, h]
theorem cellE_per {b : Bool} {k i n : Nat} (h : ki b k = (3, n)) : cellE cI cZ cQ sa ad w (b, k, i) = .inl (cQ, n, .inr (.inr (.inr (.inr (fun j => some (ad (false, 9, j))))))) := by
  simp [cellE, h]
theorem kc_of {b : Bool} {k a : Nat} (h : kc b k a = true) : ki b k = (0, a) := by
  unfold kc at h
  split at h
  · rename_i heq
    rw [heq, nbeq h]
  · cases h
theorem fval_sF {b b' : Bool} {k i f k' i' ci f' : Nat} {x : Int32} (h : ¬ (b' = b ∧ k' = k ∧ i' = i ∧ f' = f)) : fval (sF w b k i f x) b' k' i' ci f' = fval w b' k' i' ci f' := by
  unfold fval
  rw [wF_sF, if_neg h, wR_sF]
theorem cellE_sF {b : Bool} {k i f : Nat} {x : Int32} {q : Key} (h : q ≠ (b, k, i)) : cellE cI cZ cQ sa ad (sF w b k i f x) q = cellE cI cZ cQ sa ad w q := by
  obtain ⟨b', k', i'⟩ := q
  have hn : ∀ f', ¬ (b' = b ∧ k' = k ∧ i' = i ∧ f' = f) := fun f' z => h (by rw [z.1, z.2.1, z.2.2.1])
  unfold cellE
  simp only [wA_sF, fval_sF (hn _)]
theorem cellE_sR {b : Bool} {k i v : Nat} {q : Key} (h : q ≠ (b, k, i)) : cellE cI cZ cQ sa ad (sR w b k i v) q = cellE cI cZ cQ sa ad w q := by
  obtain ⟨b', k', i'⟩ := q
  have hn : ¬ (b' = b ∧ k' = k ∧ i' = i) := fun z => h (by rw [z.1, z.2.1, z.2.2])
  unfold cellE fval
  simp only [wA_sR, wF_sR, wR_sR, if_neg hn]
theorem cellE_sA {b : Bool} {k i j : Nat} {x : Int32} {q : Key} (h : q ≠ (b, k, i)) : cellE cI cZ cQ sa ad (sA w b k i j x) q = cellE cI cZ cQ sa ad w q := by
  obtain ⟨b', k', i'⟩ := q
  have hn : ¬ (b' = b ∧ k' = k ∧ i' = i) := fun z => h (by rw [z.1, z.2.1, z.2.2])
  unfold cellE fval
  simp only [wA_sA, wF_sA, wR_sA, if_neg hn]
theorem wl_sF {n : Nat} {b : Bool} {k i ci f : Nat} {x : Int32} {t : Nat} (hn : ks.Nodup) (hq : ks[n]? = some (b, k, i)) (hk : ki b k = (0, ci)) (hf : f < nfc ci) (hs : fk ci f = (0, t)) : (wl cI cZ cQ sa ad ks w).set n (ad (b, k, i), .inr (ci, ((List.range (nfc ci)).map (fun f => conc sa ad (fval w b k i ci f))).set f (.int x))) = wl cI cZ cQ sa ad ks (sF w b k i f x) := by
  unfold wl
  refine wl_set hn hq ?_ (fun q' hne => by rw [cellE_sF hne])
  rw [cellE_obj hk]
  congr 3
  have e : (.int x : Value) = (fun f' => conc sa ad (fval (sF w b k i f x) b k i ci f')) f := by
    show _ = conc sa ad (fval (sF w b k i f x) b k i ci f)
    unfold fval
    rw [hs, wF_sF]
    simp [conc]
  rw [e]
  refine (range_set (g' := fun f' => conc sa ad (fval (sF w b k i f x) b k i ci f')) hf (fun j hj => ?_)).symm
  rw [fval_sF (fun z => hj z.2.2.2)]
theorem fk_tags : ∀ ci, ci < 10 → ∀ f, f < nfc ci → (fk ci f).1 ≤ 3 := by decide +kernel
theorem fval_sR {b b' : Bool} {k i v k' i' ci f' : Nat} (h : (fk ci f').1 < 3) : fval (sR w b k i v) b' k' i' ci f' = fval w b' k' i' ci f' := by
  unfold fval
  rw [wF_sR]
  revert h
  generalize fk ci f' = z
  obtain ⟨g, t⟩ := z
  intro h
  match g, h with
  | 0, _ => rfl
  | 1, _ => rfl
  | 2, _ => rfl
  | n + 3, h => exact absurd h (by simp)
theorem fk_one : ∀ ci, ci < 10 → ∀ f, f < nfc ci → ∀ g, g < nfc ci → (fk ci f).1 = 3 → (fk ci g).1 = 3 → f = g := by decide +kernel
theorem wl_sR {n : Nat} {b : Bool} {k i ci f v : Nat} {t : Nat} (hn : ks.Nodup) (hq : ks[n]? = some (b, k, i)) (hk : ki b k = (0, ci)) (hci : ci < 10) (hf : f < nfc ci) (hs : fk ci f = (3, t)) : (wl cI cZ cQ sa ad ks w).set n (ad (b, k, i), .inr (ci, ((List.range (nfc ci)).map (fun f => conc sa ad (fval w b k i ci f))).set f (.ref (ad (b, t, v))))) = wl cI cZ cQ sa ad ks (sR w b k i v) := by
  unfold wl
  refine wl_set hn hq ?_ (fun q' hne => by rw [cellE_sR hne])
  rw [cellE_obj hk]
  congr 3
  have e : (.ref (ad (b, t, v)) : Value) = (fun f' => conc sa ad (fval (sR w b k i v) b k i ci f')) f := by
    show _ = conc sa ad (fval (sR w b k i v) b k i ci f)
    unfold fval
    rw [hs, wR_sR]
    simp [conc]
  rw [e]
  apply List.ext_getElem?
  intro j
  by_cases hj : j = f
  · subst hj
    rw [List.getElem?_set_self (by simpa using hf)]
    simp [hf]
  · rw [List.getElem?_set_ne (Ne.symm hj), List.getElem?_map, List.getElem?_map]
    by_cases hl : j < nfc ci
    · simp only [List.getElem?_range hl, Option.map_some]
      rw [fval_sR]
      have h3 : (fk ci j).1 ≠ 3 := fun z => hj (fk_one ci hci j hl f hf z (by rw [hs]))
      have h4 := fk_tags ci hci j hl
      omega
    · simp [hl]
theorem wl_sAi {n : Nat} {b : Bool} {k i j nn : Nat} {x : Int32} (hn : ks.Nodup) (hq : ks[n]? = some (b, k, i)) (hk : ki b k = (1, nn)) : (wl cI cZ cQ sa ad ks w).set n (ad (b, k, i), .inl (cI, nn, .inl (upd (wA w b k i) j x))) = wl cI cZ cQ sa ad ks (sA w b k i j x) := by
  unfold wl
  refine wl_set hn hq ?_ (fun q' hne => by rw [cellE_sA hne])
  rw [cellE_int hk, wA_sA]
  simp
theorem wl_sAz {n : Nat} {b : Bool} {k i j nn : Nat} {x : Int32} (hn : ks.Nodup) (hq : ks[n]? = some (b, k, i)) (hk : ki b k = (2, nn)) : (wl cI cZ cQ sa ad ks w).set n (ad (b, k, i), .inl (cZ, nn, .inl (upd (wA w b k i) j x))) = wl cI cZ cQ sa ad ks (sA w b k i j x) := by
  unfold wl
  refine wl_set hn hq ?_ (fun q' hne => by rw [cellE_sA hne])
  rw [cellE_bool hk, wA_sA]
  simp
theorem wf_sF {b : Bool} {k i f : Nat} {x : Int32} (h : wf ks w) : wf ks (sF w b k i f x) := by
  refine ⟨h.1, fun q hq ci hk g hg => ?_, h.2.2⟩
  have h1 := h.2.1 q hq ci hk g hg
  unfold fval at h1 ⊢
  rw [wR_sF]
  revert h1
  generalize fk ci g = z
  obtain ⟨o, t⟩ := z
  match o with
  | 0 => exact fun _ => trivial
  | 1 => exact fun z => z
  | 2 => exact fun z => z
  | n + 3 => exact fun z => z
theorem wf_sA {b : Bool} {k i j : Nat} {x : Int32} (h : wf ks w) : wf ks (sA w b k i j x) := by
  refine ⟨h.1, fun q hq ci hk g hg => ?_, h.2.2⟩
  have h1 := h.2.1 q hq ci hk g hg
  unfold fval at h1 ⊢
  rw [wR_sA, wF_sA]
  exact h1
theorem wf_sR {b : Bool} {k i v ci f t : Nat} (h : wf ks w) (hki : ki b k = (0, ci)) (hci : ci < 10) (hf : f < nfc ci) (hs : fk ci f = (3, t)) (hv : ((b, t, v) : Key) ∈ ks) : wf ks (sR w b k i v) := by
  refine ⟨h.1, fun q hq ci' hk g hg => ?_, h.2.2⟩
  have h1 := h.2.1 q hq ci' hk g hg
  obtain ⟨b', k', i'⟩ := q
  by_cases he : (b', k', i') = (b, k, i)
  · simp only [Prod.mk.injEq] at he
    obtain ⟨rfl, rfl, rfl⟩ := he
    have hc : ci' = ci := by
      have := hk.symm.trans hki
      simp at this
      exact this
    subst hc
    by_cases hgf : g = f
    · subst hgf
      show vok ks (fval _ _ _ _ _ _)
      unfold fval
      rw [hs, wR_sR]
      simp [vok, hv]
    · have h3 : (fk ci' g).1 < 3 := by
        have h4 := fk_tags ci' hci g hg
        have h5 : (fk ci' g).1 ≠ 3 := fun z => hgf (fk_one ci' hci g hg f hf z (by rw [hs]))
        omega
      rw [fval_sR h3]
      exact h1
  · have hn : ¬ (b' = b ∧ k' = k ∧ i' = i) := fun z => he (by rw [z.1, z.2.1, z.2.2])
    unfold fval at h1 ⊢
    simp only [wF_sR, wR_sR, if_neg hn]
    exact h1
theorem va_D_w {A : Nat → Prop} {w' : Wd} (h : va_D A (wl cI cZ cQ sa ad ks w)) : va_D A (wl cI cZ cQ sa ad ks w') := by
  have key : ∀ (j : Nat) (q : Nat × va_E), (wl cI cZ cQ sa ad ks w')[j]? = some q → ∃ q0, (wl cI cZ cQ sa ad ks w)[j]? = some q0 ∧ q0.1 = q.1 := by
    intro j q hq
    unfold wl at hq ⊢
    rw [List.getElem?_map] at hq ⊢
    cases hk : ks[j]? with
    | none => rw [hk] at hq; cases hq
    | some z =>
      rw [hk] at hq
      refine ⟨_, rfl, ?_⟩
      have := Option.some.inj hq
      rw [← this]
  refine ⟨fun i j p q hi hj e => ?_, fun k q hk => ?_⟩
  · obtain ⟨p0, h1, h2⟩ := key i p hi
    obtain ⟨q0, h3, h4⟩ := key j q hj
    exact h.1 i j p0 q0 h1 h3 (by rw [h2, h4, e])
  · obtain ⟨q0, h1, h2⟩ := key k q hk
    rw [← h2]
    exact h.2 k q0 h1
end WLS

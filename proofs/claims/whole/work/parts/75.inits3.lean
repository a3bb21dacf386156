/-! the model's constructor (printed by wip/whole/inigen.py) -/
def ksMt : List Key := ((((((((((((((((((((((((((((((([] ++ [(true, 1, 0)]) ++ [(true, 2, 0)]) ++ [(true, 3, 0)]) ++ [(true, 4, 0)]) ++ [(true, 5, 0)]) ++ [(true, 6, 0)]) ++ [(true, 7, 0)]) ++ [(true, 8, 0)]) ++ [(true, 9, 0)]) ++ [(true, 10, 0)]) ++ [(true, 11, 0)]) ++ [(true, 12, 0)]) ++ [(true, 13, 0)]) ++ [(true, 14, 0)]) ++ [(true, 23, 0)]) ++ [(true, 24, 0)]) ++ [(true, 25, 0)]) ++ [(true, 26, 0)]) ++ [(true, 27, 0)]) ++ [(true, 28, 0)]) ++ [(true, 29, 0)]) ++ [(true, 30, 0)]) ++ [(true, 31, 0)]) ++ [(true, 32, 0)]) ++ [(true, 33, 0)]) ++ [(true, 38, 0)]) ++ [(true, 39, 0)]) ++ [(true, 40, 0)]) ++ [(true, 43, 0)]) ++ [(true, 47, 0)]) ++ [(true, 48, 0)])
def ksM : List Key := (true, 0, 0) :: ksMt
def nth : List Nat → Nat → Nat
  | [], _ => 0
  | x :: _, 0 => x
  | _ :: t, n + 1 => nth t n
def posM : List Nat := [0, 1, 2, 3, 4, 5, 6, 7, 8, 9, 10, 11, 12, 13, 14, 0, 0, 0, 0, 0, 0, 0, 0, 15, 16, 17, 18, 19, 20, 21, 22, 23, 24, 25, 0, 0, 0, 0, 26, 27, 28, 0, 0, 29, 0, 0, 0, 30, 31, 0]
def adM (qs : List Nat) (q : Key) : Nat := nth qs (nth posM q.2.1)
def m0 : Sd := (fun _ _ f => match f with
  | 20 => -1
  | 35 => -1
  | 37 => -1
  | _ => 0, fun _ _ _ => 0, fun _ _ => 0)
def V0 : Vst := (4, fun _ => T0, fun _ => 0, fun _ => 0, fun _ => 0, 0, -1)
def wfB (ks : List Key) (rr : Bool → Nat → Nat → Nat) : Bool := decide ks.Nodup && ks.all (fun q => match ki q.1 q.2.1 with
  | (0, ci) => (List.range (nfc ci)).all (fun f => match fk ci f with
    | (0, _) => true
    | (1, t) => decide (((q.1, t, 0) : Key) ∈ ks)
    | (2, t) => decide (((q.1, t, q.2.2) : Key) ∈ ks)
    | (_, t) => decide (((q.1, t, rr q.1 q.2.1 q.2.2) : Key) ∈ ks))
  | (3, n) => (List.range n).all (fun j => decide (((false, 9, j) : Key) ∈ ks))
  | _ => true)
theorem wf_of {ks : List Key} {w : Wd} {rr : Bool → Nat → Nat → Nat} (hr : ∀ b k i, wR w b k i = rr b k i) (h : wfB ks rr = true) : wf ks w := by
  simp only [wfB, Bool.and_eq_true, decide_eq_true_eq, List.all_eq_true] at h
  obtain ⟨h1, h2⟩ := h
  refine ⟨h1, fun q hq ci hk f hf => ?_, fun q hq n hk j hj => ?_⟩
  · have h3 := h2 q hq
    rw [hk] at h3
    have h4 := List.all_eq_true.mp h3 f (List.mem_range.mpr hf)
    unfold fval
    split at h4
    · rename_i heq
      rw [heq]
      trivial
    · rename_i heq
      rw [heq]
      have h5 := of_decide_eq_true h4
      exact h5
    · rename_i heq
      rw [heq]
      have h5 := of_decide_eq_true h4
      exact h5
    · rename_i h5 h6 h7 heq
      rw [heq]
      have h8 := of_decide_eq_true h4
      rw [← hr] at h8
      split
      · rename_i heq2
        cases heq2
        first | exact (h5 rfl).elim | exact (h5 _ rfl).elim | exact absurd rfl (h5 _)
      · rename_i heq2
        cases heq2
        first | exact (h6 rfl).elim | exact (h6 _ rfl).elim | exact absurd rfl (h6 _)
      · rename_i heq2
        cases heq2
        first | exact (h7 rfl).elim | exact (h7 _ rfl).elim | exact absurd rfl (h7 _)
      · rename_i heq2
        cases heq2
        exact h8
  · have h3 := h2 q hq
    rw [hk] at h3
    exact of_decide_eq_true (List.all_eq_true.mp h3 j (List.mem_range.mpr hj))
theorem wf_M : wf ksM (z3, m0) := wf_of (rr := fun _ _ _ => 0) (fun b _ _ => by cases b <;> rfl) (by decide +kernel)
theorem YM0 : YM V0 m0 := ⟨fun p _ s e h => (by cases h), fun p _ => ⟨rfl, rfl⟩, ⟨rfl, fun i h => absurd h (Nat.not_lt_zero i)⟩, rfl⟩
def pMod (cI cZ cQ : ClassId) (sa : Nat → Nat) (a : Nat) (ws1 : va_W) : Prop := ∃ (ad : Key → Nat) (w : Wd), ws1 = wl cI cZ cQ sa ad ksM w ∧ ad (true, 0, 0) = a ∧ wf ksM w ∧ MI V0 w.2
def QM0 : Wd → Option PV → Prop := fun w' r => r = none ∧ MI V0 w'.2
theorem gi_num {p : Program} {l : Launch} {e : Env} {R : Room} {s : State} {m : MethodId} {args : Array Value} {below : List Frame} {meth : Method} {c : Code} {Qf : State → Prop} {D : va_G} {cI cZ cQ : ClassId} {sa sv : Nat → Nat} {A : Nat → Prop} {cells slots pc : Nat} {ls : Array Slot} {st : List Value} {ws : va_W} (cells' slots' pc' : Nat) (h1 : cells' = cells) (h2 : slots' = slots) (h3 : pc' = pc) (kk : GI p l e R s m args below meth c Qf D cI cZ cQ sa sv A cells' slots' pc' ls st ws) : GI p l e R s m args below meth c Qf D cI cZ cQ sa sv A cells slots pc ls st ws := by
  subst h1
  subst h2
  subst h3
  exact kk
set_option maxRecDepth 100000 in
theorem mod0_o {cI cZ cQ : ClassId} {sa : Nat → Nat} {a q1 q2 q3 q4 q5 q6 q7 q8 q9 q10 q11 q12 q13 q14 q15 q16 q17 q18 q19 q20 q21 q22 q23 q24 q25 q26 q27 q28 q29 q30 q31 : Nat} : ((.inr (9, [(.int 0), (.ref q1), (.ref q2), (.ref q3), (.ref q4), (.ref q5), (.ref q6), (.ref q7), (.ref q8), (.ref q9), (.ref q10), (.ref q11), (.ref q12), (.ref q13), (.ref q14), (.int 0), (.int 0), (.int 0), (.int 0), (.int 0), (.int (-1)), (.int 0), (.int 0), (.ref q15), (.ref q16), (.ref q17), (.ref q18), (.ref q19), (.ref q20), (.ref q21), (.ref q22), (.ref q23), (.ref q24), (.ref q25), (.int 0), (.int (-1)), (.int 0), (.int (-1)), (.ref q26), (.ref q27), (.ref q28), (.int 0), (.int 0), (.ref q29), (.int 0), (.int 0), (.int 0), (.ref q30), (.ref q31), (.int 0)])) : va_E) = cellE cI cZ cQ sa (adM [a, q1, q2, q3, q4, q5, q6, q7, q8, q9, q10, q11, q12, q13, q14, q15, q16, q17, q18, q19, q20, q21, q22, q23, q24, q25, q26, q27, q28, q29, q30, q31]) (z3, m0) (true, 0, 0) := rfl
theorem snoc_eq {cI cZ cQ : ClassId} {sa : Nat → Nat} {ad : Key → Nat} {w : Wd} {ks : List Key} {k : Key} {r : va_W} {a : Nat} {x : va_E} (h1 : r = wl cI cZ cQ sa ad ks w) (h2 : a = ad k) (h3 : x = cellE cI cZ cQ sa ad w k) : r ++ [(a, x)] = wl cI cZ cQ sa ad (ks ++ [k]) w := by
  subst h1
  subst h2
  subst h3
  unfold wl
  rw [List.map_append]
  rfl
theorem snocI {cI cZ cQ : ClassId} {sa : Nat → Nat} {ad : Key → Nat} {ks : List Key} {k n : Nat} {r : va_W} {a : Nat} (h1 : r = wl cI cZ cQ sa ad ks (z3, m0)) (h2 : a = ad (true, k, 0)) (h3 : ki true k = (1, n)) : r ++ [(a, .inl (cI, n, .inl (fun _ => 0)))] = wl cI cZ cQ sa ad (ks ++ [(true, k, 0)]) (z3, m0) := by
  refine snoc_eq h1 h2 ?_
  rw [cellE_int h3]
  rfl
theorem snocZ {cI cZ cQ : ClassId} {sa : Nat → Nat} {ad : Key → Nat} {ks : List Key} {k n : Nat} {r : va_W} {a : Nat} (h1 : r = wl cI cZ cQ sa ad ks (z3, m0)) (h2 : a = ad (true, k, 0)) (h3 : ki true k = (2, n)) : r ++ [(a, .inl (cZ, n, .inl (fun _ => 0)))] = wl cI cZ cQ sa ad (ks ++ [(true, k, 0)]) (z3, m0) := by
  refine snoc_eq h1 h2 ?_
  rw [cellE_bool h3]
  rfl
theorem cons_eq {x y : va_E} {a b : Nat} {r t : va_W} (h1 : a = b) (h2 : x = y) (h3 : r = t) : (((a, x) :: r) : va_W) = ((b, y) :: t) := by
  subst h1
  subst h2
  subst h3
  rfl

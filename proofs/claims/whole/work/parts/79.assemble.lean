/-! one world of the two objects -/
def perK (i : Nat) : List Key := (false, 9, i) :: (([] ++ ksT i) ++ [(false, 10, i)])
def ksC : List Key := (false, 0, 0) :: (((([] ++ [(false, 1, 0), (false, 2, 0)]) ++ ((false, 3, 0) :: (((([] ++ [(false, 4, 0)]) ++ [(false, 5, 0)]) ++ [(false, 6, 0)]) ++ ksT 6))) ++ ((false, 7, 0) :: (false, 8, 0) :: (((((([(false, 19, 0)] ++ perK 0) ++ perK 1) ++ perK 2) ++ perK 3) ++ perK 4) ++ perK 5))) ++ [(false, 20, 0)]) ++ [(false, 21, 0)]
def adC (a tx qb rd vi cl ba r1 r2 r3 qa sc : Nat) (aP qK : Nat → Nat) (ads : Nat → Key → Nat) (adm : Key → Nat) (q : Key) : Nat := match q with
  | (true, k, i) => adm (true, k, i)
  | (false, k, i) => (match k with
    | 0 => a
    | 1 => tx
    | 2 => qb
    | 3 => rd
    | 4 => r1
    | 5 => r2
    | 6 => r3
    | 7 => vi
    | 8 => qa
    | 9 => aP i
    | 10 => qK i
    | 19 => sc
    | 20 => cl
    | 21 => ba
    | k => ads i (false, k, i))
def cC (wT : Nat → Wd) : Sd := (fun k i f => match k with
  | 11 => (wT i).1.1 11 i f
  | 3 => (match f with
    | 7 => -1
    | 10 => -1
    | 13 => -1
    | _ => 0)
  | 7 => 4
  | 9 => (match f with
    | 0 => nI i
    | _ => 0)
  | 19 => (match f with
    | 2 => 9
    | _ => 0)
  | 20 => (match f with
    | 1 => -1
    | _ => 0)
  | _ => 0, fun k i => match k with
  | 12 => (wT i).1.2.1 12 i
  | 13 => (wT i).1.2.1 13 i
  | 14 => (wT i).1.2.1 14 i
  | 15 => (wT i).1.2.1 15 i
  | 16 => (wT i).1.2.1 16 i
  | 17 => (wT i).1.2.1 17 i
  | 18 => (wT i).1.2.1 18 i
  | 22 => (wT i).1.2.1 22 i
  | _ => fun _ => 0, fun k i => match k with
  | 3 => 6
  | _ => i)
section ASM
variable {cI cZ cQ : ClassId} {sa : Nat → Nat} {a tx qb rd vi cl ba r1 r2 r3 qa sc : Nat} {aP qK : Nat → Nat} {ads : Nat → Key → Nat} {adm : Key → Nat} {wT : Nat → Wd} {m : Sd}
theorem wlT_eq (t : Nat) : wl cI cZ cQ sa (ads t) (ksT t) (wT t) = wl cI cZ cQ sa (adC a tx qb rd vi cl ba r1 r2 r3 qa sc aP qK ads adm) (ksT t) (cC wT, m) := rfl
theorem per_eq (i : Nat) : perL cI cZ cQ sa i (aP i) sc (qK i) (ads i) (wT i) = wl cI cZ cQ sa (adC a tx qb rd vi cl ba r1 r2 r3 qa sc aP qK ads adm) (perK i) (cC wT, m) := rfl
theorem wil_eq : wilL cI cZ cQ sa a tx qb rd vi cl ba r1 r2 r3 qa sc aP qK ads wT = wl cI cZ cQ sa (adC a tx qb rd vi cl ba r1 r2 r3 qa sc aP qK ads adm) ksC (cC wT, m) := by
  unfold wilL vilL
  rw [wlT_eq (a := a) (tx := tx) (qb := qb) (rd := rd) (vi := vi) (cl := cl) (ba := ba) (r1 := r1) (r2 := r2) (r3 := r3) (qa := qa) (sc := sc) (aP := aP) (qK := qK) (adm := adm) (m := m) 6]
  simp only [per_eq (a := a) (tx := tx) (qb := qb) (rd := rd) (vi := vi) (cl := cl) (ba := ba) (r1 := r1) (r2 := r2) (r3 := r3) (qa := qa) (adm := adm) (m := m)]
  rfl
theorem mod_eq {w : Wd} {c : Sd} : wl cI cZ cQ sa adm ksM w = wl cI cZ cQ sa (adC a tx qb rd vi cl ba r1 r2 r3 qa sc aP qK ads adm) ksM (c, w.2) := rfl
theorem CI0 (h : ∀ i, i < 7 → Dr (wT i).1 i T0) : CI V0 (cC wT) := by
  have hd : ∀ i, i < 7 → CT (wT i).1 i T0 ∧ CSl (wT i).1 i (slo T0.2) := fun i hi => (h i hi).2 (by decide)
  refine ⟨⟨rfl, fun p hp => ⟨rfl, (hd p (by omega)).1, Or.inl rfl⟩⟩, fun p hp => (hd p (by omega)).2, fun p hp => ⟨rfl, rfl⟩, ⟨rfl, fun i hi => absurd hi (Nat.not_lt_zero i)⟩, rfl, fun p hp h6 => ?_, fun p q hp hq hne h6 => hne h6⟩
  have : p = 6 := h6
  omega
theorem okV0 : okV V0 := ⟨by decide, fun _ => okT0, fun _ => okL0, fun _ => ⟨Nat.zero_le _, Nat.zero_le _⟩, Nat.zero_le _, fun _ => Nat.succ_pos _⟩
end ASM
theorem vok_mono {ks ks' : List Key} {v : PV} (h : ∀ q ∈ ks, q ∈ ks') (hv : vok ks v) : vok ks' v := by
  match v, hv with
  | .inl _, _ => trivial
  | .inr (.inl _), _ => trivial
  | .inr (.inr (.inl q)), hv => exact h q hv
  | .inr (.inr (.inr i)), hv => exact hv
theorem wf_C {wT : Nat → Wd} : wf ksC (cC wT, z3) := wf_of (rr := fun b k i => match b with
  | true => 0
  | false => (match k with
    | 3 => 6
    | _ => i)) (fun b k i => by cases b <;> rfl) (by decide +kernel)
theorem wf_app {c c' m m' : Sd} (hC : wf ksC (c, m')) (hM : wf ksM (c', m)) : wf (ksC ++ ksM) (c, m) := by
  have hc : ∀ q ∈ ksC, q.1 = false := by decide +kernel
  have hm : ∀ q ∈ ksM, q.1 = true := by decide +kernel
  have sc : ∀ q ∈ ksC, q ∈ ksC ++ ksM := fun q h => List.mem_append_left _ h
  have sm : ∀ q ∈ ksM, q ∈ ksC ++ ksM := fun q h => List.mem_append_right _ h
  refine ⟨by decide +kernel, fun q hq ci hk f hf => ?_, fun q hq n hk j hj => ?_⟩
  · rcases List.mem_append.mp hq with h | h
    · have h1 := hC.2.1 q h ci hk f hf
      obtain ⟨b, k, i⟩ := q
      have hb : b = false := hc _ h
      subst hb
      exact vok_mono sc h1
    · have h1 := hM.2.1 q h ci hk f hf
      obtain ⟨b, k, i⟩ := q
      have hb : b = true := hm _ h
      subst hb
      exact vok_mono sm h1
  · rcases List.mem_append.mp hq with h | h
    · exact sc _ (hC.2.2 q h n hk j hj)
    · exact sm _ (hM.2.2 q h n hk j hj)

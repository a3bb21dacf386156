/-! the small machine is sound: each instruction, by the kit's row -/
theorem vk1 {ks : List Key} {v : PV} {t : List PV} (h : vok ks v) (ht : ∀ u ∈ t, vok ks u) : ∀ u ∈ v :: t, vok ks u := fun u hu => (List.mem_cons.mp hu).elim (fun e => e ▸ h) (ht u)
theorem vkt {ks : List Key} {v : PV} {t : List PV} (h : ∀ u ∈ v :: t, vok ks u) : ∀ u ∈ t, vok ks u := fun u hu => h u (List.mem_cons_of_mem _ hu)
theorem vkh {ks : List Key} {v : PV} {t : List PV} (h : ∀ u ∈ v :: t, vok ks u) : vok ks v := h _ List.mem_cons_self
def GG (y : Nat) (p : Program) (l : Launch) (e : Env) (R : Room) (s : State) (m : MethodId) (args : Array Value) (below : List Frame) (meth : Method) (c : Code) (cells slots : Nat) (Qf : State → Prop) (D : va_G) (cI cZ cQ : ClassId) (sa : Nat → Nat) (ad : Key → Nat) (ks : List Key) (A : Nat → Prop) (pc : Nat) (ls : Ls) (st : List PV) (w : Wd) : Prop :=
  ∀ (H : Heap) (locs : List Loc) (ls' : Array Slot), Wx s D cI cZ cQ sa ad ks A w H locs → Lok sa ad (yL y) ls' ls → (∀ v, some v ∈ ls → vok ks v) → (∀ v ∈ st, vok ks v) → W p l e R s m args below meth c H locs cells slots Qf (F0 m pc ls' (st.map (conc sa ad)))
/-- the locals as the kit has them -/
def lvl (sa : Nat → Nat) (ad : Key → Nat) (ls : Ls) : List (Nat × Value) := (List.range ls.length).filterMap (fun i => match ls[i]? with
  | some (some v) => some (i, conc sa ad v)
  | _ => none)
theorem lvl_mem {sa : Nat → Nat} {ad : Key → Nat} {ls : Ls} {i : Nat} {v : PV} (h : ls[i]? = some (some v)) : (i, conc sa ad v) ∈ lvl sa ad ls := by
  refine List.mem_filterMap.mpr ⟨i, List.mem_range.mpr (List.getElem?_eq_some_iff.mp h).1, ?_⟩
  simp only [h]
theorem lvl_of {sa : Nat → Nat} {ad : Key → Nat} {ls : Ls} {q : Nat × Value} (h : q ∈ lvl sa ad ls) : ∃ v : PV, ls[q.1]? = some (some v) ∧ q.2 = conc sa ad v := by
  obtain ⟨i, -, hi⟩ := List.mem_filterMap.mp h
  cases hl : ls[i]? with
  | none => simp only [hl] at hi; cases hi
  | some o =>
    cases o with
    | none => simp only [hl] at hi; cases hi
    | some v =>
      simp only [hl] at hi
      cases hi
      exact ⟨v, hl, rfl⟩
theorem Lok.lv {sa : Nat → Nat} {ad : Key → Nat} {n : Nat} {ls' : Array Slot} {ls : Ls} (h : Lok sa ad n ls' ls) : lv_has ls' n (lvl sa ad ls) := by
  refine ⟨h.1, h.2.1, fun q hq => ?_⟩
  obtain ⟨v, h1, h2⟩ := lvl_of hq
  rw [h2]
  exact h.2.2 q.1 v h1
theorem conc_cat {sa : Nat → Nat} {ad : Key → Nat} {v : PV} (h : ¬ ∃ x, v = .inr (.inl x)) : (conc sa ad v).category = 1 := by
  match v with
  | .inl x => rfl
  | .inr (.inl x) => exact absurd ⟨x, rfl⟩ h
  | .inr (.inr (.inl q)) => rfl
  | .inr (.inr (.inr i)) => rfl
theorem lck_of {ls : Ls} {i j : Nat} {x : Int64} (h : lck ls i = true) (hj : j + 1 = i) : ls[j]? ≠ some (some (.inr (.inl x))) := by
  subst hj
  intro z
  simp only [lck, z] at h
  cases h
theorem Lok.set {sa : Nat → Nat} {ad : Key → Nat} {n i : Nat} {ls' : Array Slot} {ls : Ls} {u : PV} (hk : lck ls i = true) (h : lv_has ls' n ((i, conc sa ad u) :: (lvl sa ad ls).filter (fun q => !(q.1 == i) && !(q.1 + 1 == i && q.2.category == 2)))) : Lok sa ad n ls' (ls.set i (some u)) := by
  refine ⟨h.1, h.2.1, fun j v hj => ?_⟩
  by_cases hji : j = i
  · subst hji
    have hl : j < ls.length := by
      have := (List.getElem?_eq_some_iff.mp hj).1
      simpa using this
    rw [List.getElem?_set_self hl] at hj
    cases hj
    exact h.2.2 _ List.mem_cons_self
  · rw [List.getElem?_set_ne (Ne.symm hji)] at hj
    refine h.2.2 (j, conc sa ad v) (List.mem_cons_of_mem _ (List.mem_filter.mpr ⟨lvl_mem hj, ?_⟩))
    have hc : ¬ (j + 1 = i ∧ (conc sa ad v).category = 2) := by
      intro z
      by_cases hv : ∃ x, v = .inr (.inl x)
      · obtain ⟨x, rfl⟩ := hv
        exact lck_of hk z.1 hj
      · rw [conc_cat hv] at z
        exact absurd z.2 (by decide)
    simp only [Bool.and_eq_true, Bool.not_eq_true', beq_eq_false_iff_ne, Bool.and_eq_false_iff]
    refine ⟨hji, ?_⟩
    by_cases h1 : j + 1 = i
    · exact Or.inr (fun z => hc ⟨h1, z⟩)
    · exact Or.inl h1
theorem vls_set {ks : List Key} {ls : Ls} {i : Nat} {u : PV} (h : ∀ v, some v ∈ ls → vok ks v) (hu : vok ks u) : ∀ v, some v ∈ ls.set i (some u) → vok ks v := by
  intro v hv
  rcases List.mem_or_eq_of_mem_set hv with h1 | h1
  · exact h v h1
  · cases h1
    exact hu
section SND
variable {d y : Nat} {scr : Option (Nat × (Nat → Int32))} {Q : Wd → Option PV → Prop} {p : Program} {l : Launch} {e : Env} {R : Room} {s : State} {m : MethodId} {args : Array Value} {below : List Frame} {meth : Method} {c : Code} {cells slots : Nat} {Qf : State → Prop} {D : va_G} {cI cZ cQ : ClassId} {sa sv : Nat → Nat} {ad : Key → Nat} {ks : List Key} {A : Nat → Prop}
variable {pc : Nat} {ls : Ls} {st t : List PV} {w : Wd} {v : Int32} {a b nx : Nat}

theorem so_9 {x z : Int32} (hF : Fr y d p R s m args c cells slots) (hI : ins y pc = (9, v, a, b, nx)) (k : GG y p l e R s m args below meth c cells slots Qf D cI cZ cQ sa ad ks A nx ls (vI (x + z) :: t) w) : GG y p l e R s m args below meth c cells slots Qf D cI cZ cQ sa ad ks A pc ls (vI z :: vI x :: t) w := by
  obtain ⟨i, n, hd, hn, hr⟩ := get_rel hI (by decide)
  obtain ⟨rfl, rfl⟩ := isI_of hr
  subst hn
  intro H locs ls' hW hL hv hs
  exact lv_iadd hF.1 hF.2.1 hd (k H locs ls' hW hL hv (vk1 trivial (vkt (vkt hs))))
theorem so_17 {x z : Int32} (hF : Fr y d p R s m args c cells slots) (hI : ins y pc = (17, v, a, b, nx)) (k : GG y p l e R s m args below meth c cells slots Qf D cI cZ cQ sa ad ks A nx ls (vI (x - z) :: t) w) : GG y p l e R s m args below meth c cells slots Qf D cI cZ cQ sa ad ks A pc ls (vI z :: vI x :: t) w := by
  obtain ⟨i, n, hd, hn, hr⟩ := get_rel hI (by decide)
  obtain ⟨rfl, rfl⟩ := isI_of hr
  subst hn
  intro H locs ls' hW hL hv hs
  exact lv_isub hF.1 hF.2.1 hd (k H locs ls' hW hL hv (vk1 trivial (vkt (vkt hs))))
theorem so_18 {x z : Int32} (hF : Fr y d p R s m args c cells slots) (hI : ins y pc = (18, v, a, b, nx)) (k : GG y p l e R s m args below meth c cells slots Qf D cI cZ cQ sa ad ks A nx ls (vI (x * z) :: t) w) : GG y p l e R s m args below meth c cells slots Qf D cI cZ cQ sa ad ks A pc ls (vI z :: vI x :: t) w := by
  obtain ⟨i, n, hd, hn, hr⟩ := get_rel hI (by decide)
  obtain ⟨rfl, rfl⟩ := isI_of hr
  subst hn
  intro H locs ls' hW hL hv hs
  exact lv_imul hF.1 hF.2.1 hd (k H locs ls' hW hL hv (vk1 trivial (vkt (vkt hs))))
theorem so_23 {x z : Int32} (hF : Fr y d p R s m args c cells slots) (hI : ins y pc = (23, v, a, b, nx)) (k : GG y p l e R s m args below meth c cells slots Qf D cI cZ cQ sa ad ks A nx ls (vI (x <<< (z &&& 31)) :: t) w) : GG y p l e R s m args below meth c cells slots Qf D cI cZ cQ sa ad ks A pc ls (vI z :: vI x :: t) w := by
  obtain ⟨i, n, hd, hn, hr⟩ := get_rel hI (by decide)
  obtain ⟨rfl, rfl⟩ := isI_of hr
  subst hn
  intro H locs ls' hW hL hv hs
  exact lv_ishl hF.1 hF.2.1 hd (k H locs ls' hW hL hv (vk1 trivial (vkt (vkt hs))))
theorem so_25 {x z : Int32} (hF : Fr y d p R s m args c cells slots) (hI : ins y pc = (25, v, a, b, nx)) (k : GG y p l e R s m args below meth c cells slots Qf D cI cZ cQ sa ad ks A nx ls (vI (x &&& z) :: t) w) : GG y p l e R s m args below meth c cells slots Qf D cI cZ cQ sa ad ks A pc ls (vI z :: vI x :: t) w := by
  obtain ⟨i, n, hd, hn, hr⟩ := get_rel hI (by decide)
  obtain ⟨rfl, rfl⟩ := isI_of hr
  subst hn
  intro H locs ls' hW hL hv hs
  exact lv_iand hF.1 hF.2.1 hd (k H locs ls' hW hL hv (vk1 trivial (vkt (vkt hs))))
theorem so_30 {x z : Int32} (hF : Fr y d p R s m args c cells slots) (hI : ins y pc = (30, v, a, b, nx)) (k : GG y p l e R s m args below meth c cells slots Qf D cI cZ cQ sa ad ks A nx ls (vI (x >>> (z &&& 31)) :: t) w) : GG y p l e R s m args below meth c cells slots Qf D cI cZ cQ sa ad ks A pc ls (vI z :: vI x :: t) w := by
  obtain ⟨i, n, hd, hn, hr⟩ := get_rel hI (by decide)
  obtain ⟨rfl, rfl⟩ := isI_of hr
  subst hn
  intro H locs ls' hW hL hv hs
  exact lv_ishr hF.1 hF.2.1 hd (k H locs ls' hW hL hv (vk1 trivial (vkt (vkt hs))))
theorem so_33 {x z : Int32} (hF : Fr y d p R s m args c cells slots) (hI : ins y pc = (33, v, a, b, nx)) (k : GG y p l e R s m args below meth c cells slots Qf D cI cZ cQ sa ad ks A nx ls (vI (x ||| z) :: t) w) : GG y p l e R s m args below meth c cells slots Qf D cI cZ cQ sa ad ks A pc ls (vI z :: vI x :: t) w := by
  obtain ⟨i, n, hd, hn, hr⟩ := get_rel hI (by decide)
  obtain ⟨rfl, rfl⟩ := isI_of hr
  subst hn
  intro H locs ls' hW hL hv hs
  exact lv_ior hF.1 hF.2.1 hd (k H locs ls' hW hL hv (vk1 trivial (vkt (vkt hs))))
theorem so_38 {x z : Int32} (hF : Fr y d p R s m args c cells slots) (hI : ins y pc = (38, v, a, b, nx)) (k : GG y p l e R s m args below meth c cells slots Qf D cI cZ cQ sa ad ks A nx ls (vI (x ^^^ z) :: t) w) : GG y p l e R s m args below meth c cells slots Qf D cI cZ cQ sa ad ks A pc ls (vI z :: vI x :: t) w := by
  obtain ⟨i, n, hd, hn, hr⟩ := get_rel hI (by decide)
  obtain ⟨rfl, rfl⟩ := isI_of hr
  subst hn
  intro H locs ls' hW hL hv hs
  exact lv_ixor hF.1 hF.2.1 hd (k H locs ls' hW hL hv (vk1 trivial (vkt (vkt hs))))
theorem so_46 {x z : Int32} (hF : Fr y d p R s m args c cells slots) (hI : ins y pc = (46, v, a, b, nx)) (k : GG y p l e R s m args below meth c cells slots Qf D cI cZ cQ sa ad ks A nx ls (vI (x.toUInt32 >>> (z.toUInt32 &&& Int32.toUInt32 31)).toInt32 :: t) w) : GG y p l e R s m args below meth c cells slots Qf D cI cZ cQ sa ad ks A pc ls (vI z :: vI x :: t) w := by
  obtain ⟨i, n, hd, hn, hr⟩ := get_rel hI (by decide)
  obtain ⟨rfl, rfl⟩ := isI_of hr
  subst hn
  intro H locs ls' hW hL hv hs
  exact lv_iushr hF.1 hF.2.1 hd rfl (k H locs ls' hW hL hv (vk1 trivial (vkt (vkt hs))))
theorem so_49 {x z : Int32} (hF : Fr y d p R s m args c cells slots) (hI : ins y pc = (49, v, a, b, nx)) (hz : ¬ z = 0) (k : GG y p l e R s m args below meth c cells slots Qf D cI cZ cQ sa ad ks A nx ls (vI (x / z) :: t) w) : GG y p l e R s m args below meth c cells slots Qf D cI cZ cQ sa ad ks A pc ls (vI z :: vI x :: t) w := by
  obtain ⟨i, n, hd, hn, hr⟩ := get_rel hI (by decide)
  obtain ⟨rfl, rfl⟩ := isI_of hr
  subst hn
  intro H locs ls' hW hL hv hs
  exact lv_idiv hF.1 hF.2.1 hd hz (k H locs ls' hW hL hv (vk1 trivial (vkt (vkt hs))))
theorem so_50 {x z : Int32} (hF : Fr y d p R s m args c cells slots) (hI : ins y pc = (50, v, a, b, nx)) (hz : ¬ z = 0) (k : GG y p l e R s m args below meth c cells slots Qf D cI cZ cQ sa ad ks A nx ls (vI (x - x / z * z) :: t) w) : GG y p l e R s m args below meth c cells slots Qf D cI cZ cQ sa ad ks A pc ls (vI z :: vI x :: t) w := by
  obtain ⟨i, n, hd, hn, hr⟩ := get_rel hI (by decide)
  obtain ⟨rfl, rfl⟩ := isI_of hr
  subst hn
  intro H locs ls' hW hL hv hs
  exact lv_irem hF.1 hF.2.1 hd hz (k H locs ls' hW hL hv (vk1 trivial (vkt (vkt hs))))
theorem so_40 {x z : Int64} (hF : Fr y d p R s m args c cells slots) (hI : ins y pc = (40, v, a, b, nx)) (k : GG y p l e R s m args below meth c cells slots Qf D cI cZ cQ sa ad ks A nx ls (vL (x &&& z) :: t) w) : GG y p l e R s m args below meth c cells slots Qf D cI cZ cQ sa ad ks A pc ls (vL z :: vL x :: t) w := by
  obtain ⟨i, n, hd, hn, hr⟩ := get_rel hI (by decide)
  obtain ⟨rfl, rfl⟩ := isI_of hr
  subst hn
  intro H locs ls' hW hL hv hs
  exact lv_land hF.1 hF.2.1 hd (k H locs ls' hW hL hv (vk1 trivial (vkt (vkt hs))))
theorem so_43 {x z : Int64} (hF : Fr y d p R s m args c cells slots) (hI : ins y pc = (43, v, a, b, nx)) (k : GG y p l e R s m args below meth c cells slots Qf D cI cZ cQ sa ad ks A nx ls (vL (x ||| z) :: t) w) : GG y p l e R s m args below meth c cells slots Qf D cI cZ cQ sa ad ks A pc ls (vL z :: vL x :: t) w := by
  obtain ⟨i, n, hd, hn, hr⟩ := get_rel hI (by decide)
  obtain ⟨rfl, rfl⟩ := isI_of hr
  subst hn
  intro H locs ls' hW hL hv hs
  exact lv_lor hF.1 hF.2.1 hd (k H locs ls' hW hL hv (vk1 trivial (vkt (vkt hs))))
theorem so_41 {z : Int32} {x : Int64} (hF : Fr y d p R s m args c cells slots) (hI : ins y pc = (41, v, a, b, nx)) (k : GG y p l e R s m args below meth c cells slots Qf D cI cZ cQ sa ad ks A nx ls (vL (x >>> (z.toInt64 &&& 63)) :: t) w) : GG y p l e R s m args below meth c cells slots Qf D cI cZ cQ sa ad ks A pc ls (vI z :: vL x :: t) w := by
  obtain ⟨i, n, hd, hn, hr⟩ := get_rel hI (by decide)
  obtain ⟨rfl, rfl⟩ := isI_of hr
  subst hn
  intro H locs ls' hW hL hv hs
  exact lv_lshr hF.1 hF.2.1 hd rfl (k H locs ls' hW hL hv (vk1 trivial (vkt (vkt hs))))
theorem so_42 {z : Int32} {x : Int64} (hF : Fr y d p R s m args c cells slots) (hI : ins y pc = (42, v, a, b, nx)) (k : GG y p l e R s m args below meth c cells slots Qf D cI cZ cQ sa ad ks A nx ls (vL (x <<< (z.toInt64 &&& 63)) :: t) w) : GG y p l e R s m args below meth c cells slots Qf D cI cZ cQ sa ad ks A pc ls (vI z :: vL x :: t) w := by
  obtain ⟨i, n, hd, hn, hr⟩ := get_rel hI (by decide)
  obtain ⟨rfl, rfl⟩ := isI_of hr
  subst hn
  intro H locs ls' hW hL hv hs
  exact lv_lshl hF.1 hF.2.1 hd rfl (k H locs ls' hW hL hv (vk1 trivial (vkt (vkt hs))))
theorem so_44 {x z : Int64} (hF : Fr y d p R s m args c cells slots) (hI : ins y pc = (44, v, a, b, nx)) (k : GG y p l e R s m args below meth c cells slots Qf D cI cZ cQ sa ad ks A nx ls (vI (lg_cmp x z) :: t) w) : GG y p l e R s m args below meth c cells slots Qf D cI cZ cQ sa ad ks A pc ls (vL z :: vL x :: t) w := by
  obtain ⟨i, n, hd, hn, hr⟩ := get_rel hI (by decide)
  obtain ⟨rfl, rfl⟩ := isI_of hr
  subst hn
  intro H locs ls' hW hL hv hs
  exact W.lcmp hF.1 hF.2.1 hd (k H locs ls' hW hL hv (vk1 trivial (vkt (vkt hs))))
theorem so_45 {x : Int64} (hF : Fr y d p R s m args c cells slots) (hI : ins y pc = (45, v, a, b, nx)) (k : GG y p l e R s m args below meth c cells slots Qf D cI cZ cQ sa ad ks A nx ls (vI x.toInt32 :: t) w) : GG y p l e R s m args below meth c cells slots Qf D cI cZ cQ sa ad ks A pc ls (vL x :: t) w := by
  obtain ⟨i, n, hd, hn, hr⟩ := get_rel hI (by decide)
  obtain ⟨rfl, rfl⟩ := isI_of hr
  subst hn
  intro H locs ls' hW hL hv hs
  exact lv_l2i hF.1 hF.2.1 hd rfl (k H locs ls' hW hL hv (vk1 trivial (vkt hs)))
theorem so_21 {x : Int32} (hF : Fr y d p R s m args c cells slots) (hI : ins y pc = (21, v, a, b, nx)) (k : GG y p l e R s m args below meth c cells slots Qf D cI cZ cQ sa ad ks A nx ls (vL x.toInt64 :: t) w) : GG y p l e R s m args below meth c cells slots Qf D cI cZ cQ sa ad ks A pc ls (vI x :: t) w := by
  obtain ⟨i, n, hd, hn, hr⟩ := get_rel hI (by decide)
  obtain ⟨rfl, rfl⟩ := isI_of hr
  subst hn
  intro H locs ls' hW hL hv hs
  exact lv_i2l hF.1 hF.2.1 hd rfl (k H locs ls' hW hL hv (vk1 trivial (vkt hs)))
theorem so_20 {u : PV} (hF : Fr y d p R s m args c cells slots) (hI : ins y pc = (20, v, a, b, nx)) (hu : ¬ ∃ x, u = .inr (.inl x)) (k : GG y p l e R s m args below meth c cells slots Qf D cI cZ cQ sa ad ks A nx ls (u :: u :: t) w) : GG y p l e R s m args below meth c cells slots Qf D cI cZ cQ sa ad ks A pc ls (u :: t) w := by
  obtain ⟨i, n, hd, hn, hr⟩ := get_rel hI (by decide)
  obtain ⟨rfl, rfl⟩ := isI_of hr
  subst hn
  intro H locs ls' hW hL hv hs
  exact lv_dup hF.1 hF.2.1 hd (conc_cat hu) (k H locs ls' hW hL hv (vk1 (vkh hs) hs))
theorem so_39 {u z : PV} (hF : Fr y d p R s m args c cells slots) (hI : ins y pc = (39, v, a, b, nx)) (hu : ¬ ∃ x, u = .inr (.inl x)) (hz : ¬ ∃ x, z = .inr (.inl x)) (k : GG y p l e R s m args below meth c cells slots Qf D cI cZ cQ sa ad ks A nx ls (u :: z :: u :: z :: t) w) : GG y p l e R s m args below meth c cells slots Qf D cI cZ cQ sa ad ks A pc ls (u :: z :: t) w := by
  obtain ⟨i, n, hd, hn, hr⟩ := get_rel hI (by decide)
  obtain ⟨rfl, rfl⟩ := isI_of hr
  subst hn
  intro H locs ls' hW hL hv hs
  exact lv_dup2_11 hF.1 hF.2.1 hd (conc_cat hu) (conc_cat hz) (k H locs ls' hW hL hv (vk1 (vkh hs) (vk1 (vkh (vkt hs)) hs)))
theorem so_2 (hF : Fr y d p R s m args c cells slots) (hI : ins y pc = (2, v, a, b, nx)) (k : GG y p l e R s m args below meth c cells slots Qf D cI cZ cQ sa ad ks A nx ls (vI v :: st) w) : GG y p l e R s m args below meth c cells slots Qf D cI cZ cQ sa ad ks A pc ls st w := by
  obtain ⟨i, n, hd, hn, hr⟩ := get_rel hI (by decide)
  subst hn
  intro H locs ls' hW hL hv hs
  have k := k H locs ls' hW hL hv (vk1 trivial hs)
  simp only [rel] at hr
  split at hr
  all_goals first
    | (simp only [Bool.and_eq_true, decide_eq_true_eq] at hr; obtain ⟨h1, h2⟩ := hr; obtain rfl := nbeq h2; first | exact lv_iconst hF.1 hF.2.1 hd h1 k | exact lv_bipush hF.1 hF.2.1 hd h1 k | exact lv_sipush hF.1 hF.2.1 hd h1 k)
    | cases hr
theorem so_24 (hF : Fr y d p R s m args c cells slots) (hI : ins y pc = (24, v, a, b, nx)) (k : GG y p l e R s m args below meth c cells slots Qf D cI cZ cQ sa ad ks A nx ls (vL (lcv v a) :: st) w) : GG y p l e R s m args below meth c cells slots Qf D cI cZ cQ sa ad ks A pc ls st w := by
  obtain ⟨i, n, hd, hn, hr⟩ := get_rel hI (by decide)
  subst hn
  intro H locs ls' hW hL hv hs
  have k := k H locs ls' hW hL hv (vk1 trivial hs)
  simp only [rel] at hr
  split at hr
  · simp only [Bool.and_eq_true, decide_eq_true_eq] at hr
    obtain ⟨h1, h2⟩ := hr
    obtain rfl := nbeq h2
    exact lv_lconst hF.1 hF.2.1 hd h1 k
  · simp only [Bool.and_eq_true] at hr
    obtain ⟨h1, h2⟩ := hr
    obtain rfl := nbeq h2
    exact lv_ldc2 hF.1 hF.2.1 hF.2.2.2.1 (hF.2.2.2.2.1 _ (cpL_of h1)) hd k
  · cases hr
theorem so_4 (hF : Fr y d p R s m args c cells slots) (hI : ins y pc = (4, v, a, b, nx)) (k : GG y p l e R s m args below meth c cells slots Qf D cI cZ cQ sa ad ks A a ls st w) : GG y p l e R s m args below meth c cells slots Qf D cI cZ cQ sa ad ks A pc ls st w := by
  obtain ⟨i, n, hd, hn, hr⟩ := get_rel hI (by decide)
  subst hn
  intro H locs ls' hW hL hv hs
  have k := k H locs ls' hW hL hv hs
  simp only [rel] at hr
  split at hr
  · simp only [Bool.and_eq_true, decide_eq_true_eq] at hr
    obtain ⟨h1, h2⟩ := hr
    obtain rfl := nbeq h2
    exact lv_goto hF.1 hF.2.1 hd h1 k
  · cases hr

theorem so_6 {x : Int32} (hF : Fr y d p R s m args c cells slots) (hI : ins y pc = (6, v, a, b, nx)) (k1 : x = 0 → GG y p l e R s m args below meth c cells slots Qf D cI cZ cQ sa ad ks A a ls t w) (k2 : ¬ (x = 0) → GG y p l e R s m args below meth c cells slots Qf D cI cZ cQ sa ad ks A nx ls t w) : GG y p l e R s m args below meth c cells slots Qf D cI cZ cQ sa ad ks A pc ls (vI x :: t) w := by
  obtain ⟨i, n, hd, hn, hr⟩ := get_rel hI (by decide)
  subst hn
  intro H locs ls' hW hL hv hs
  have k1 := fun z => k1 z H locs ls' hW hL hv (vkt hs)
  have k2 := fun z => k2 z H locs ls' hW hL hv (vkt hs)
  simp only [rel] at hr
  split at hr
  · simp only [Bool.and_eq_true, decide_eq_true_eq] at hr
    obtain ⟨h1, h2⟩ := hr
    obtain rfl := nbeq h2
    exact lv_if_eq hF.1 hF.2.1 hd h1 k1 k2
  · cases hr
theorem so_31 {x : Int32} (hF : Fr y d p R s m args c cells slots) (hI : ins y pc = (31, v, a, b, nx)) (k1 : x ≤ 0 → GG y p l e R s m args below meth c cells slots Qf D cI cZ cQ sa ad ks A a ls t w) (k2 : ¬ (x ≤ 0) → GG y p l e R s m args below meth c cells slots Qf D cI cZ cQ sa ad ks A nx ls t w) : GG y p l e R s m args below meth c cells slots Qf D cI cZ cQ sa ad ks A pc ls (vI x :: t) w := by
  obtain ⟨i, n, hd, hn, hr⟩ := get_rel hI (by decide)
  subst hn
  intro H locs ls' hW hL hv hs
  have k1 := fun z => k1 z H locs ls' hW hL hv (vkt hs)
  have k2 := fun z => k2 z H locs ls' hW hL hv (vkt hs)
  simp only [rel] at hr
  split at hr
  · simp only [Bool.and_eq_true, decide_eq_true_eq] at hr
    obtain ⟨h1, h2⟩ := hr
    obtain rfl := nbeq h2
    exact lv_if_le hF.1 hF.2.1 hd h1 k1 k2
  · cases hr
theorem so_32 {x : Int32} (hF : Fr y d p R s m args c cells slots) (hI : ins y pc = (32, v, a, b, nx)) (k1 : 0 ≤ x → GG y p l e R s m args below meth c cells slots Qf D cI cZ cQ sa ad ks A a ls t w) (k2 : ¬ (0 ≤ x) → GG y p l e R s m args below meth c cells slots Qf D cI cZ cQ sa ad ks A nx ls t w) : GG y p l e R s m args below meth c cells slots Qf D cI cZ cQ sa ad ks A pc ls (vI x :: t) w := by
  obtain ⟨i, n, hd, hn, hr⟩ := get_rel hI (by decide)
  subst hn
  intro H locs ls' hW hL hv hs
  have k1 := fun z => k1 z H locs ls' hW hL hv (vkt hs)
  have k2 := fun z => k2 z H locs ls' hW hL hv (vkt hs)
  simp only [rel] at hr
  split at hr
  · simp only [Bool.and_eq_true, decide_eq_true_eq] at hr
    obtain ⟨h1, h2⟩ := hr
    obtain rfl := nbeq h2
    exact lv_if_ge hF.1 hF.2.1 hd h1 k1 k2
  · cases hr
theorem so_36 {x : Int32} (hF : Fr y d p R s m args c cells slots) (hI : ins y pc = (36, v, a, b, nx)) (k1 : x < 0 → GG y p l e R s m args below meth c cells slots Qf D cI cZ cQ sa ad ks A a ls t w) (k2 : ¬ (x < 0) → GG y p l e R s m args below meth c cells slots Qf D cI cZ cQ sa ad ks A nx ls t w) : GG y p l e R s m args below meth c cells slots Qf D cI cZ cQ sa ad ks A pc ls (vI x :: t) w := by
  obtain ⟨i, n, hd, hn, hr⟩ := get_rel hI (by decide)
  subst hn
  intro H locs ls' hW hL hv hs
  have k1 := fun z => k1 z H locs ls' hW hL hv (vkt hs)
  have k2 := fun z => k2 z H locs ls' hW hL hv (vkt hs)
  simp only [rel] at hr
  split at hr
  · simp only [Bool.and_eq_true, decide_eq_true_eq] at hr
    obtain ⟨h1, h2⟩ := hr
    obtain rfl := nbeq h2
    exact lv_if_lt hF.1 hF.2.1 hd h1 k1 k2
  · cases hr
theorem so_47 {x : Int32} (hF : Fr y d p R s m args c cells slots) (hI : ins y pc = (47, v, a, b, nx)) (k1 : 0 < x → GG y p l e R s m args below meth c cells slots Qf D cI cZ cQ sa ad ks A a ls t w) (k2 : ¬ (0 < x) → GG y p l e R s m args below meth c cells slots Qf D cI cZ cQ sa ad ks A nx ls t w) : GG y p l e R s m args below meth c cells slots Qf D cI cZ cQ sa ad ks A pc ls (vI x :: t) w := by
  obtain ⟨i, n, hd, hn, hr⟩ := get_rel hI (by decide)
  subst hn
  intro H locs ls' hW hL hv hs
  have k1 := fun z => k1 z H locs ls' hW hL hv (vkt hs)
  have k2 := fun z => k2 z H locs ls' hW hL hv (vkt hs)
  simp only [rel] at hr
  split at hr
  · simp only [Bool.and_eq_true, decide_eq_true_eq] at hr
    obtain ⟨h1, h2⟩ := hr
    obtain rfl := nbeq h2
    exact lv_if_gt hF.1 hF.2.1 hd h1 k1 k2
  · cases hr
theorem so_12 {x z : Int32} (hF : Fr y d p R s m args c cells slots) (hI : ins y pc = (12, v, a, b, nx)) (k1 : z ≤ x → GG y p l e R s m args below meth c cells slots Qf D cI cZ cQ sa ad ks A a ls t w) (k2 : ¬ (z ≤ x) → GG y p l e R s m args below meth c cells slots Qf D cI cZ cQ sa ad ks A nx ls t w) : GG y p l e R s m args below meth c cells slots Qf D cI cZ cQ sa ad ks A pc ls (vI z :: vI x :: t) w := by
  obtain ⟨i, n, hd, hn, hr⟩ := get_rel hI (by decide)
  subst hn
  intro H locs ls' hW hL hv hs
  have k1 := fun q => k1 q H locs ls' hW hL hv (vkt (vkt hs))
  have k2 := fun q => k2 q H locs ls' hW hL hv (vkt (vkt hs))
  simp only [rel] at hr
  split at hr
  · simp only [Bool.and_eq_true, decide_eq_true_eq] at hr
    obtain ⟨h1, h2⟩ := hr
    obtain rfl := nbeq h2
    exact lv_icmp_ge hF.1 hF.2.1 hd h1 k1 k2
  · cases hr
theorem so_15 {x z : Int32} (hF : Fr y d p R s m args c cells slots) (hI : ins y pc = (15, v, a, b, nx)) (k1 : x = z → GG y p l e R s m args below meth c cells slots Qf D cI cZ cQ sa ad ks A a ls t w) (k2 : ¬ (x = z) → GG y p l e R s m args below meth c cells slots Qf D cI cZ cQ sa ad ks A nx ls t w) : GG y p l e R s m args below meth c cells slots Qf D cI cZ cQ sa ad ks A pc ls (vI z :: vI x :: t) w := by
  obtain ⟨i, n, hd, hn, hr⟩ := get_rel hI (by decide)
  subst hn
  intro H locs ls' hW hL hv hs
  have k1 := fun q => k1 q H locs ls' hW hL hv (vkt (vkt hs))
  have k2 := fun q => k2 q H locs ls' hW hL hv (vkt (vkt hs))
  simp only [rel] at hr
  split at hr
  · simp only [Bool.and_eq_true, decide_eq_true_eq] at hr
    obtain ⟨h1, h2⟩ := hr
    obtain rfl := nbeq h2
    exact lv_icmp_eq hF.1 hF.2.1 hd h1 k1 k2
  · cases hr
theorem so_22 {x z : Int32} (hF : Fr y d p R s m args c cells slots) (hI : ins y pc = (22, v, a, b, nx)) (k1 : x < z → GG y p l e R s m args below meth c cells slots Qf D cI cZ cQ sa ad ks A a ls t w) (k2 : ¬ (x < z) → GG y p l e R s m args below meth c cells slots Qf D cI cZ cQ sa ad ks A nx ls t w) : GG y p l e R s m args below meth c cells slots Qf D cI cZ cQ sa ad ks A pc ls (vI z :: vI x :: t) w := by
  obtain ⟨i, n, hd, hn, hr⟩ := get_rel hI (by decide)
  subst hn
  intro H locs ls' hW hL hv hs
  have k1 := fun q => k1 q H locs ls' hW hL hv (vkt (vkt hs))
  have k2 := fun q => k2 q H locs ls' hW hL hv (vkt (vkt hs))
  simp only [rel] at hr
  split at hr
  · simp only [Bool.and_eq_true, decide_eq_true_eq] at hr
    obtain ⟨h1, h2⟩ := hr
    obtain rfl := nbeq h2
    exact lv_icmp_lt hF.1 hF.2.1 hd h1 k1 k2
  · cases hr
theorem so_27 {x z : Int32} (hF : Fr y d p R s m args c cells slots) (hI : ins y pc = (27, v, a, b, nx)) (k1 : z < x → GG y p l e R s m args below meth c cells slots Qf D cI cZ cQ sa ad ks A a ls t w) (k2 : ¬ (z < x) → GG y p l e R s m args below meth c cells slots Qf D cI cZ cQ sa ad ks A nx ls t w) : GG y p l e R s m args below meth c cells slots Qf D cI cZ cQ sa ad ks A pc ls (vI z :: vI x :: t) w := by
  obtain ⟨i, n, hd, hn, hr⟩ := get_rel hI (by decide)
  subst hn
  intro H locs ls' hW hL hv hs
  have k1 := fun q => k1 q H locs ls' hW hL hv (vkt (vkt hs))
  have k2 := fun q => k2 q H locs ls' hW hL hv (vkt (vkt hs))
  simp only [rel] at hr
  split at hr
  · simp only [Bool.and_eq_true, decide_eq_true_eq] at hr
    obtain ⟨h1, h2⟩ := hr
    obtain rfl := nbeq h2
    exact lv_icmp_gt hF.1 hF.2.1 hd h1 k1 k2
  · cases hr
theorem so_29 {x z : Int32} (hF : Fr y d p R s m args c cells slots) (hI : ins y pc = (29, v, a, b, nx)) (k1 : x ≤ z → GG y p l e R s m args below meth c cells slots Qf D cI cZ cQ sa ad ks A a ls t w) (k2 : ¬ (x ≤ z) → GG y p l e R s m args below meth c cells slots Qf D cI cZ cQ sa ad ks A nx ls t w) : GG y p l e R s m args below meth c cells slots Qf D cI cZ cQ sa ad ks A pc ls (vI z :: vI x :: t) w := by
  obtain ⟨i, n, hd, hn, hr⟩ := get_rel hI (by decide)
  subst hn
  intro H locs ls' hW hL hv hs
  have k1 := fun q => k1 q H locs ls' hW hL hv (vkt (vkt hs))
  have k2 := fun q => k2 q H locs ls' hW hL hv (vkt (vkt hs))
  simp only [rel] at hr
  split at hr
  · simp only [Bool.and_eq_true, decide_eq_true_eq] at hr
    obtain ⟨h1, h2⟩ := hr
    obtain rfl := nbeq h2
    exact lv_icmp_le hF.1 hF.2.1 hd h1 k1 k2
  · cases hr
theorem so_11 {x : Int32} (hF : Fr y d p R s m args c cells slots) (hI : ins y pc = (11, v, a, b, nx)) (k1 : x = 0 → GG y p l e R s m args below meth c cells slots Qf D cI cZ cQ sa ad ks A nx ls t w) (k2 : ¬ x = 0 → GG y p l e R s m args below meth c cells slots Qf D cI cZ cQ sa ad ks A a ls t w) : GG y p l e R s m args below meth c cells slots Qf D cI cZ cQ sa ad ks A pc ls (vI x :: t) w := by
  obtain ⟨i, n, hd, hn, hr⟩ := get_rel hI (by decide)
  subst hn
  intro H locs ls' hW hL hv hs
  have k1 := fun z => k1 z H locs ls' hW hL hv (vkt hs)
  have k2 := fun z => k2 z H locs ls' hW hL hv (vkt hs)
  simp only [rel] at hr
  split at hr
  · simp only [Bool.and_eq_true, decide_eq_true_eq] at hr
    obtain ⟨h1, h2⟩ := hr
    obtain rfl := nbeq h2
    exact lv_if_ne hF.1 hF.2.1 hd h1 k2 k1
  · cases hr
theorem so_14 {x z : Int32} (hF : Fr y d p R s m args c cells slots) (hI : ins y pc = (14, v, a, b, nx)) (k1 : x = z → GG y p l e R s m args below meth c cells slots Qf D cI cZ cQ sa ad ks A nx ls t w) (k2 : ¬ x = z → GG y p l e R s m args below meth c cells slots Qf D cI cZ cQ sa ad ks A a ls t w) : GG y p l e R s m args below meth c cells slots Qf D cI cZ cQ sa ad ks A pc ls (vI z :: vI x :: t) w := by
  obtain ⟨i, n, hd, hn, hr⟩ := get_rel hI (by decide)
  subst hn
  intro H locs ls' hW hL hv hs
  have k1 := fun q => k1 q H locs ls' hW hL hv (vkt (vkt hs))
  have k2 := fun q => k2 q H locs ls' hW hL hv (vkt (vkt hs))
  simp only [rel] at hr
  split at hr
  · simp only [Bool.and_eq_true, decide_eq_true_eq] at hr
    obtain ⟨h1, h2⟩ := hr
    obtain rfl := nbeq h2
    exact lv_icmp_ne hF.1 hF.2.1 hd h1 k2 k1
  · cases hr
theorem so_0 {u : PV} (hF : Fr y d p R s m args c cells slots) (hI : ins y pc = (0, v, a, b, nx)) (hl : ls[a]? = some (some u)) (hu : tyck b u = true) (k : GG y p l e R s m args below meth c cells slots Qf D cI cZ cQ sa ad ks A nx ls (u :: st) w) : GG y p l e R s m args below meth c cells slots Qf D cI cZ cQ sa ad ks A pc ls st w := by
  obtain ⟨i, n, hd, hn, hr⟩ := get_rel hI (by decide)
  subst hn
  intro H locs ls' hW hL hv hs
  have k := k H locs ls' hW hL hv (vk1 (hv u (List.mem_of_getElem? hl)) hs)
  have h := hL.2.2 a u hl
  simp only [rel] at hr
  split at hr
  all_goals first
    | cases hr; done
    | skip
  all_goals
    simp only [Bool.and_eq_true] at hr
    obtain ⟨h1, h2, h3⟩ := hr
    obtain rfl := nbeq h1
    obtain rfl := nbeq h2
    obtain rfl := nbeq h3
  · match u, hu with
    | .inl x, _ => exact lv_iload_n hF.1 hF.2.1 hd rfl h k
    | .inr (.inl x), hu => cases hu
    | .inr (.inr x), hu => cases hu
  · match u, hu with
    | .inr (.inr (.inl q)), _ => exact lv_aload_n hF.1 hF.2.1 hd rfl h k
    | .inr (.inr (.inr q)), _ => exact lv_aload_n hF.1 hF.2.1 hd rfl h k
    | .inr (.inl x), hu => cases hu
    | .inl x, hu => cases hu
  · match u, hu with
    | .inr (.inl x), _ => exact lv_lload_n hF.1 hF.2.1 hd rfl h k
    | .inr (.inr x), hu => cases hu
    | .inl x, hu => cases hu
  · match u, hu with
    | .inl x, _ => exact lv_iload hF.1 hF.2.1 hd h k
    | .inr (.inl x), hu => cases hu
    | .inr (.inr x), hu => cases hu
  · match u, hu with
    | .inr (.inr (.inl q)), _ => exact lv_aload hF.1 hF.2.1 hd h k
    | .inr (.inr (.inr q)), _ => exact lv_aload hF.1 hF.2.1 hd h k
    | .inr (.inl x), hu => cases hu
    | .inl x, hu => cases hu
  · match u, hu with
    | .inr (.inl x), _ => exact lv_lload hF.1 hF.2.1 hd h k
    | .inr (.inr x), hu => cases hu
    | .inl x, hu => cases hu
theorem so_10 {u : PV} (hF : Fr y d p R s m args c cells slots) (hI : ins y pc = (10, v, a, b, nx)) (hu : tyck b u = true) (hk : lck ls a = true) (k : GG y p l e R s m args below meth c cells slots Qf D cI cZ cQ sa ad ks A nx (ls.set a (some u)) t w) : GG y p l e R s m args below meth c cells slots Qf D cI cZ cQ sa ad ks A pc ls (u :: t) w := by
  obtain ⟨i, n, hd, hn, hr⟩ := get_rel hI (by decide)
  subst hn
  intro H locs ls' hW hL hv hs
  have k := fun ls'' h => k H locs ls'' hW h (vls_set hv (vkh hs)) (vkt hs)
  have h := hL.lv
  simp only [rel] at hr
  split at hr
  all_goals first
    | cases hr; done
    | skip
  all_goals
    simp only [Bool.and_eq_true] at hr
    obtain ⟨h1, h2, h3, h4⟩ := hr
    obtain rfl := nbeq h1
    obtain rfl := nbeq h2
    obtain rfl := nbeq h3
    have h4 := nblt h4
  · match u, hu with
    | .inl x, _ => exact lv_istore_n hF.1 hF.2.1 hd rfl h h4 rfl (fun ls'' g => k ls'' (Lok.set hk g))
    | .inr (.inl x), hu => cases hu
    | .inr (.inr x), hu => cases hu
  · match u, hu with
    | .inr (.inr (.inl q)), _ => exact lv_astore_n hF.1 hF.2.1 hd rfl h h4 rfl (fun ls'' g => k ls'' (Lok.set hk g))
    | .inr (.inr (.inr q)), _ => exact lv_astore_n hF.1 hF.2.1 hd rfl h h4 rfl (fun ls'' g => k ls'' (Lok.set hk g))
    | .inr (.inl x), hu => cases hu
    | .inl x, hu => cases hu
  · match u, hu with
    | .inl x, _ => exact lv_istore hF.1 hF.2.1 hd h h4 rfl (fun ls'' g => k ls'' (Lok.set hk g))
    | .inr (.inl x), hu => cases hu
    | .inr (.inr x), hu => cases hu
  · match u, hu with
    | .inr (.inr (.inl q)), _ => exact lv_astore hF.1 hF.2.1 hd h h4 rfl (fun ls'' g => k ls'' (Lok.set hk g))
    | .inr (.inr (.inr q)), _ => exact lv_astore hF.1 hF.2.1 hd h h4 rfl (fun ls'' g => k ls'' (Lok.set hk g))
    | .inr (.inl x), hu => cases hu
    | .inl x, hu => cases hu
theorem so_13 {x : Int32} (hF : Fr y d p R s m args c cells slots) (hI : ins y pc = (13, v, a, b, nx)) (hl : ls[a]? = some (some (vI x))) (hk : lck ls a = true) (k : GG y p l e R s m args below meth c cells slots Qf D cI cZ cQ sa ad ks A nx (ls.set a (some (vI (x + v)))) st w) : GG y p l e R s m args below meth c cells slots Qf D cI cZ cQ sa ad ks A pc ls st w := by
  obtain ⟨i, n, hd, hn, hr⟩ := get_rel hI (by decide)
  subst hn
  intro H locs ls' hW hL hv hs
  have k := fun ls'' h => k H locs ls'' hW h (vls_set hv trivial) hs
  simp only [rel] at hr
  split at hr
  · simp only [Bool.and_eq_true, decide_eq_true_eq] at hr
    obtain ⟨h1, h2, h3, h4⟩ := hr
    obtain rfl := nbeq h1
    obtain rfl := nbeq h3
    obtain ⟨q, hq⟩ := List.getElem?_of_mem (lvl_mem (sa := sa) (ad := ad) hl)
    exact lv_iinc hF.1 hF.2.1 hd hL.lv hq (by rw [h2]) (nblt h4) rfl (fun ls'' g => k ls'' (Lok.set (u := vI (x + v)) hk g))
  · cases hr
end SND


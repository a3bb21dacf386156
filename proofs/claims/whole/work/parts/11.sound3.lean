theorem StrX.go {sa sv : Nat → Nat} {A A1 : Nat → Prop} {s U : State} {H : Heap} {locs : List Loc} (h : StrX sa sv A s) (hS : va_S A s.heap H locs) (hU : U.heap = H) (hw : s.WarmedH U.vm) (hsub : ∀ q, A1 q → A q) : StrX sa sv A1 U := by
  obtain ⟨h1, h2, h3, h4⟩ := h
  subst hU
  exact ⟨((h1.kept hS.2.1).moved hw.alike).narrow hsub, fun i e0 he => (h2 i e0 he).warm hw, ((h3.kept hS.2.1).moved hw.alike).narrow hsub, ((h4.kept hS.2.1).moved hw.alike).narrow hsub⟩
theorem Cx.go {D : va_G} {cI cZ cQ : ClassId} {sa sv : Nat → Nat} {A A1 : Nat → Prop} {s U : State} {H : Heap} {locs : List Loc} (h : Cx D cI cZ cQ sa sv A s) (hS : va_S A s.heap H locs) (hU : U.heap = H) (hw : s.WarmedH U.vm) (hsub : ∀ q, A1 q → A q) : Cx D cI cZ cQ sa sv A1 U :=
  ⟨h.1.moved hw.alike, fun e0 he hk => va_Nw.warmM hw (h.2.1 e0 he hk), h.2.2.go hS hU hw hsub⟩
theorem Pre0.blind {av : List Value} {D : va_G} {cI cZ cQ : ClassId} {sa sv : Nat → Nat} {ad : Key → Nat} {ks : List Key} {w : Wd} {sz : Nat} : FrameBlind (va_Pc av (Pre0 D cI cZ cQ sa sv ad ks w sz)) := by
  intro a' U g mk h
  obtain ⟨h1, h2, h3, h4, h5, h6, h7, h8, h9, h10⟩ := h
  refine ⟨h1, h2, h3, h4, va_K.moved (u := U) (U := U.calling g mk a') (Vm.Alike.refl U.vm) h5, fun e0 he hk => va_Nw.same (u := U) (U := U.calling g mk a') rfl rfl (h6 e0 he hk), vk_S.moved (u := U) (U := U.calling g mk a') (Vm.Alike.refl U.vm) h7, fun i e0 he => vk_R.same (u := U) (U := U.calling g mk a') rfl (h8 i e0 he), va_Z.moved (u := U) (U := U.calling g mk a') (Vm.Alike.refl U.vm) h9, va_Zq.moved (u := U) (U := U.calling g mk a') (Vm.Alike.refl U.vm) h10⟩
theorem popN_spec : ∀ (n : Nat) (st acc av t : List PV), popN n st acc = some (av, t) → ∃ pre : List PV, st = pre ++ t ∧ pre.length = n ∧ av = pre.reverse ++ acc
  | 0, st, acc, av, t, h => by
    simp only [popN, Option.some.injEq, Prod.mk.injEq] at h
    exact ⟨[], by rw [h.2]; rfl, rfl, by rw [h.1]; rfl⟩
  | n + 1, [], acc, av, t, h => by simp [popN] at h
  | n + 1, v :: st, acc, av, t, h => by
    simp only [popN] at h
    obtain ⟨pre, h1, h2, h3⟩ := popN_spec n st (v :: acc) av t h
    exact ⟨v :: pre, by rw [h1]; rfl, by simp [h2], by rw [h3]; simp⟩
theorem csum_conc {sa : Nat → Nat} {ad : Key → Nat} : ∀ t : List PV, ((t.map (conc sa ad)).map fun v => v.category).sum = csum t
  | [] => rfl
  | .inl x :: t => by simp only [List.map_cons, List.sum_cons, csum, csum_conc t]; rfl
  | .inr (.inl x) :: t => by simp only [List.map_cons, List.sum_cons, csum, csum_conc t]; rfl
  | .inr (.inr (.inl x)) :: t => by simp only [List.map_cons, List.sum_cons, csum, csum_conc t]; rfl
  | .inr (.inr (.inr x)) :: t => by simp only [List.map_cons, List.sum_cons, csum, csum_conc t]; rfl
section SND3
variable {d y : Nat} {scr : Option (Nat × (Nat → Int32))} {Q : Wd → Option PV → Prop} {p : Program} {l : Launch} {e : Env} {R : Room} {s : State} {m : MethodId} {args : Array Value} {below : List Frame} {meth : Method} {c : Code} {cells slots : Nat} {Qf : State → Prop} {D : va_G} {cI cZ cQ : ClassId} {sa sv : Nat → Nat} {ad : Key → Nat} {ks : List Key} {A : Nat → Prop}
variable {pc : Nat} {ls : Ls} {st t : List PV} {w : Wd} {v : Int32} {a b nx : Nat}
theorem call_k {a' : Array Value} {pc : Nat} {ls' : Array Slot} {st0 rest : List Value} {H : Heap} {locs : List Loc} {Q' : Wd → Option PV → Prop} (hr : va_Run p l e R s m args below meth c H locs cells slots 0 0 (F0 m pc ls' st0) rest (Post0 D cI cZ cQ sa ad ks Q' (va_A (wl cI cZ cQ sa ad ks w) H.size) a') (va_A (wl cI cZ cQ sa ad ks w) H.size)) (hW : Wx s D cI cZ cQ sa ad ks A w H locs) (hA : ∀ q, s.heap.size ≤ q → A q)
    (kk : ∀ (w' : Wd) (r : Option PV) (H1 : Heap) (locs1 : List Loc), Q' w' r → Wx s D cI cZ cQ sa ad ks A w' H1 locs1 → (∀ v, r = some v → vok ks v) → W p l e R s m args below meth c H1 locs1 cells slots Qf (F0 m (pc + 3) ls' (r.toList.map (conc sa ad) ++ rest))) : W p l e R s m args below meth c H locs cells slots Qf (F0 m pc ls' st0) := by
  intro T hT X
  obtain ⟨v, st₀, t, T', L, h0, X', hL, e1, e2, ⟨⟨w', r, hv, hq, hwf', hvr, hP'⟩, hz, hk⟩, st⟩ := hr T hT X
  obtain ⟨hwf, hP, hD, hS⟩ := hW
  rw [h0] at hz hk
  have hv : v = r.map (conc sa ad) := by injection hv
  have hsub : ∀ q, va_A (wl cI cZ cQ sa ad ks w) H.size q → A q := by
    intro q h
    rcases h with ⟨k, e0, h⟩ | h
    · exact hD.2 k (q, e0) h
    · exact hA q (Nat.le_trans hS.1 h)
  obtain ⟨t2, a1, b1⟩ := kk w' r T'.heap (locs ++ L) hq ⟨hwf', by rw [e1]; exact hP', va_D_w hD, Nat.le_trans hS.1 (by rw [e1]; exact hz), fun q h1 h2 => by rw [e1, hk q (Nat.lt_of_lt_of_le h1 hS.1) (fun z => h2 (hsub q z))]; exact hS.2.1 q h1 h2, fun q hq => by
      rcases List.mem_append.mp hq with h | h
      · exact hS.2.2 q h
      · exact hsub _ (hL q h)⟩ hvr T' rfl X'
  refine ⟨t2, st t2 ?_, b1⟩
  subst hv
  cases r with
  | none => exact a1
  | some u => exact a1
theorem sub_A {H : Heap} {locs : List Loc} (hW : Wx s D cI cZ cQ sa ad ks A w H locs) (hA : ∀ q, s.heap.size ≤ q → A q) : ∀ q, va_A (wl cI cZ cQ sa ad ks w) H.size q → A q := by
  intro q h
  obtain ⟨hwf, hP, hD, hS⟩ := hW
  rcases h with ⟨k, e0, h⟩ | h
  · exact hD.2 k (q, e0) h
  · exact hA q (Nat.le_trans hS.1 h)
theorem pre_U {av : List PV} {H : Heap} {locs : List Loc} (hC : Cx D cI cZ cQ sa sv A s) (hW : Wx s D cI cZ cQ sa ad ks A w H locs) (hA : ∀ q, s.heap.size ≤ q → A q) : ∀ U : State, U.heap = H → s.WarmedH U.vm → va_Pc (av.map (conc sa ad)) (Pre0 D cI cZ cQ sa sv ad ks w H.size) (av.map (conc sa ad)).toArray U := by
  intro U hU hw
  have hs := sub_A hW hA
  obtain ⟨hwf, hP, hD, hS⟩ := hW
  exact ⟨rfl, by rw [hU], by rw [hU]; exact hP, hD.weaken (fun _ _ _ _ => trivial), hC.go hS hU hw hs⟩
theorem goodw {a : Nat} (h : Cond.code (yN a) (yC a) (yL a) (yR a) ∈ gtb) : GoodIn gtb (ywd a) := by
  intro w hw
  rcases List.mem_cons.mp hw with e0 | h1
  · subst e0
    exact gtb_good _ h
  · exact gtb_good _ h1
set_option maxHeartbeats 8000000 in
theorem so_3 {av : List PV} {d' : Nat} {Q' : Wd → Option PV → Prop} {K : Wd → Option PV → Prop} (hF : Fr y d p R s m args c cells slots) (hC : Cx D cI cZ cQ sa sv A s) (hA : ∀ q, s.heap.size ≤ q → A q) (hI : ins y pc = (3, v, a, b, nx)) (hp : popN (b % 8) st [] = some (av, t)) (hk : rck (b / 8) av = true) (hc : csum t ≤ 8) (hd' : d' < d) (hM : Ctr d' a av w Q') (kk : ∀ w' r, Q' w' r → K w' r) (k1 : ∀ w', K w' none → GG y p l e R s m args below meth c cells slots Qf D cI cZ cQ sa ad ks A nx ls t w') (k2 : ∀ w' u, K w' (some u) → GG y p l e R s m args below meth c cells slots Qf D cI cZ cQ sa ad ks A nx ls (u :: t) w') : GG y p l e R s m args below meth c cells slots Qf D cI cZ cQ sa ad ks A pc ls st w := by
  obtain ⟨i, n, hd, hn, hr⟩ := get_rel hI (by decide)
  subst hn
  intro H locs ls' hW hL hv hs
  obtain ⟨pre, h1, h2, h3⟩ := popN_spec _ _ _ _ _ hp
  rw [List.append_nil] at h3
  subst h1
  have hav : ∀ u ∈ av, vok ks u := fun u hu => hs u (List.mem_append_left _ (by rw [h3] at hu; exact List.mem_reverse.mp hu))
  have hst : ∀ u ∈ t, vok ks u := fun u hu => hs u (List.mem_append_right _ hu)
  have hM := hM l D cI cZ cQ sa sv ad ks H.size hW.1 hav
  have hfr : d' + 1 ≤ R.frames := Nat.le_trans hd' hF.2.2.2.2.2.1
  have hlo : yL a ≤ 20 → 8 + (yL a + 11) + 40 * d' ≤ R.locals := fun h => by
    have := hF.2.2.2.2.2.2.1
    omega
  have hfin : ∀ (w' : Wd) (r : Option PV) (H1 : Heap) (locs1 : List Loc), Q' w' r → Wx s D cI cZ cQ sa ad ks A w' H1 locs1 → (∀ v, r = some v → vok ks v) → W p l e R s m args below meth c H1 locs1 cells slots Qf (F0 m (pc + 3) ls' (r.toList.map (conc sa ad) ++ t.map (conc sa ad))) → True := fun _ _ _ _ _ _ _ _ => trivial
  have hroom : ((t.map (conc sa ad)).map fun v => v.category).sum ≤ 8 := by rw [csum_conc]; exact hc
  have hcs : cells + 0 ≤ R.cells ∧ slots + 0 ≤ R.slots := hF.2.2.2.2.2.2.2
  have hmap : (pre ++ t).map (conc sa ad) = (av.map (conc sa ad)).reverse ++ t.map (conc sa ad) := by
    rw [h3, List.map_append, List.map_reverse, List.reverse_reverse]
  have hlen : av.length = b % 8 := by rw [h3, List.length_reverse, h2]
  have hgo : ∀ (w' : Wd) (r : Option PV) (H1 : Heap) (locs1 : List Loc), n = 3 → Q' w' r → Wx s D cI cZ cQ sa ad ks A w' H1 locs1 → (∀ v, r = some v → vok ks v) → W p l e R s m args below meth c H1 locs1 cells slots Qf (F0 m (pc + 3) ls' (r.toList.map (conc sa ad) ++ t.map (conc sa ad))) := by
    intro w' r H1 locs1 hn3 hq hW1 hvr
    subst hn3
    cases r with
    | none => exact k1 w' (kk _ _ hq) H1 locs1 ls' hW1 hL hv hst
    | some u => exact k2 w' u (kk _ _ hq) H1 locs1 ls' hW1 hL hv (vk1 (hvr u rfl) hst)
  simp only [rel] at hr
  split at hr
  · simp only [Bool.and_eq_true] at hr
    obtain ⟨g1, g2⟩ := hr
    obtain rfl := nbeq g2
    obtain ⟨m1, m2, ⟨m3, m4, m5, m6, m7⟩, m8, m9, m10, m11, m12⟩ := cpM_0 g1
    rw [m9] at hk
    match av, hk with
    | .inr (.inr (.inl (bb, k, i))) :: as, hk =>
      have hki := kc_of (show kc bb k (yO a) = true from hk)
      have hq : ((bb, k, i) : Key) ∈ ks := hav _ List.mem_cons_self
      obtain ⟨q0, hq0, hat⟩ := wl_at (cI := cI) (cZ := cZ) (cQ := cQ) (sa := sa) (ad := ad) (w := w) hq
      rw [cellE_obj hki] at hat
      obtain ⟨hc1, -⟩ := cl_ok (yO a) m11
      refine call_k (va_runV (C := (yN a).cls) (As := as.map (conc sa ad)) (rest := t.map (conc sa ad)) (bytes := yC a) (maxL := yL a) (ret := yR a) ⟨hF.1, hF.2.1, hF.2.2.1, hF.2.2.2.1, hF.2.2.2.2.1⟩ hM ⟨callB_of (b % 8 - 1) hF.2.2.2.2.1 (goodw m7) rfl rfl rfl (hF.2.2.2.2.1 _ m6) (hF.2.2.2.2.1 _ m3) ⟨m1.1, m1.2, m8⟩ ⟨hfr, hlo m2⟩, hF.2.2.2.2.1 _ m4, hF.2.2.2.2.1 _ m5⟩ ⟨Pre0.blind, ?_, pre_U (av := .inr (.inr (.inl (bb, k, i))) :: as) hC hW hA⟩ rfl ?_ hL.1 ?_ (lv_room hroom) hd hcs) hW hA (fun w' r H1 locs1 hq hW1 hvr => hgo w' r H1 locs1 rfl hq hW1 hvr)
      · have := va_recv hC.1 hW.2.1 hc1 hat
        rw [m12] at this
        exact this
      · have : (as.length + 1) = b % 8 := hlen
        rw [List.length_map]
        omega
      · show (pre ++ t).map (conc sa ad) = _
        rw [hmap]
        simp [conc]
    | [], hk => simp [rck] at hk
    | .inl _ :: _, hk => simp [rck] at hk
    | .inr (.inl _) :: _, hk => simp [rck] at hk
    | .inr (.inr (.inr _)) :: _, hk => simp [rck] at hk
  · rename_i idx'
    simp only [Bool.and_eq_true, Bool.or_eq_true] at hr
    obtain ⟨g1, g2⟩ := hr
    obtain rfl := nbeq g2
    rcases g1 with g1 | g1
    · obtain ⟨m1, m2, ⟨m3, m4, m5, m6⟩, m7, m8⟩ := cpM_1 g1
      refine call_k (va_runS (As := av.map (conc sa ad)) (rest := t.map (conc sa ad)) (bytes := yC a) (maxL := yL a) (ret := yR a) ⟨hF.1, hF.2.1, hF.2.2.1, hF.2.2.2.1, hF.2.2.2.2.1⟩ hM ⟨callB_of b hF.2.2.2.2.1 (goodw m6) rfl rfl rfl (hF.2.2.2.2.1 _ m5) (hF.2.2.2.2.1 _ m3) ⟨m1.1, m1.2, m7⟩ ⟨hfr, hlo m2⟩, hF.2.2.2.2.1 _ m4⟩ ⟨Pre0.blind, pre_U hC hW hA⟩ rfl ?_ hL.1 hmap (lv_room hroom) hd hcs) hW hA (fun w' r H1 locs1 hq hW1 hvr => hgo w' r H1 locs1 rfl hq hW1 hvr)
      rw [List.length_map, hlen]
      omega
    · obtain ⟨ps, m0, m1, m2, ⟨m4, m5, m6⟩, m7, m8⟩ := cpM_2 g1
      have hnw : va_Nw (.methodLinkNest (cN (yO y)) idx' (yN a) "IfYouWill") s := hC.2.1 _ m0 rfl
      refine call_k (va_runSN (own := cN (yO y)) (host := "IfYouWill") (index := idx') (As := av.map (conc sa ad)) (rest := t.map (conc sa ad)) (bytes := yC a) (maxL := yL a) (ret := yR a) ⟨hF.1, hF.2.1, hF.2.2.1, hF.2.2.2.1, hF.2.2.2.2.1⟩ hM ⟨va_cnB b hF.2.2.2.2.1 (goodw m6) rfl rfl rfl hnw (hF.2.2.2.2.1 _ m5) ⟨m1.1, m1.2, m7⟩ ⟨hfr, hlo m2⟩, hF.2.2.2.2.1 _ m4, trivial⟩ ⟨Pre0.blind, pre_U hC hW hA⟩ rfl ?_ hL.1 hmap (lv_room hroom) hd hcs) hW hA (fun w' r H1 locs1 hq hW1 hvr => hgo w' r H1 locs1 rfl hq hW1 hvr)
      rw [List.length_map, hlen]
      omega
  · cases hr
theorem so_19 (hfin : (∀ (pc' : Nat) (w' : Wd) (r : Option PV) (H : Heap) (locs : List Loc) (ls' : Array Slot), Wx s D cI cZ cQ sa ad ks A w' H locs → (∀ v, r = some v → vok ks v) → rtk y pc' r → Q w' r → W p l e R s m args below meth c H locs cells slots Qf (F0 m pc' ls' (r.toList.map (conc sa ad))))) (hI : ins y pc = (19, v, a, b, nx)) (hq : Q w none) : GG y p l e R s m args below meth c cells slots Qf D cI cZ cQ sa ad ks A pc ls [] w := by
  obtain ⟨i, n, hd, hn, hr⟩ := get_rel hI (by decide)
  simp only [rel, isI, Bool.and_eq_true, decide_eq_true_eq] at hr
  obtain ⟨rfl, h2, h3⟩ := hr
  obtain rfl := nbeq h2
  intro H locs ls' hW hL hv hs
  exact hfin pc w none H locs ls' hW (fun u hu => by cases hu) ⟨hd, h3⟩ hq
theorem so_5 {x : Int32} (hfin : (∀ (pc' : Nat) (w' : Wd) (r : Option PV) (H : Heap) (locs : List Loc) (ls' : Array Slot), Wx s D cI cZ cQ sa ad ks A w' H locs → (∀ v, r = some v → vok ks v) → rtk y pc' r → Q w' r → W p l e R s m args below meth c H locs cells slots Qf (F0 m pc' ls' (r.toList.map (conc sa ad))))) (hI : ins y pc = (5, v, a, b, nx)) (hq : Q w (some (vI x))) : GG y p l e R s m args below meth c cells slots Qf D cI cZ cQ sa ad ks A pc ls [vI x] w := by
  obtain ⟨i, n, hd, hn, hr⟩ := get_rel hI (by decide)
  simp only [rel, isI, Bool.and_eq_true, decide_eq_true_eq] at hr
  obtain ⟨rfl, h2, h3⟩ := hr
  obtain rfl := nbeq h2
  intro H locs ls' hW hL hv hs
  exact hfin pc w (some (vI x)) H locs ls' hW (fun u hu => by cases hu; trivial) ⟨hd, _, h3, rfl⟩ hq
theorem so_54 {x : Int32} (hfin : (∀ (pc' : Nat) (w' : Wd) (r : Option PV) (H : Heap) (locs : List Loc) (ls' : Array Slot), Wx s D cI cZ cQ sa ad ks A w' H locs → (∀ v, r = some v → vok ks v) → rtk y pc' r → Q w' r → W p l e R s m args below meth c H locs cells slots Qf (F0 m pc' ls' (r.toList.map (conc sa ad))))) (hI : ins y pc = (54, v, a, b, nx)) (hz : zok x) (hq : Q w (some (vI x))) : GG y p l e R s m args below meth c cells slots Qf D cI cZ cQ sa ad ks A pc ls [vI x] w := by
  obtain ⟨i, n, hd, hn, hr⟩ := get_rel hI (by decide)
  simp only [rel, isI, Bool.and_eq_true, decide_eq_true_eq] at hr
  obtain ⟨rfl, h2, h3⟩ := hr
  obtain rfl := nbeq h2
  intro H locs ls' hW hL hv hs
  exact hfin pc w (some (vI x)) H locs ls' hW (fun u hu => by cases hu; trivial) ⟨hd, _, h3, hz⟩ hq
theorem so_51 {q : Key} (hfin : (∀ (pc' : Nat) (w' : Wd) (r : Option PV) (H : Heap) (locs : List Loc) (ls' : Array Slot), Wx s D cI cZ cQ sa ad ks A w' H locs → (∀ v, r = some v → vok ks v) → rtk y pc' r → Q w' r → W p l e R s m args below meth c H locs cells slots Qf (F0 m pc' ls' (r.toList.map (conc sa ad))))) (hI : ins y pc = (51, v, a, b, nx)) (hq : Q w (some (.inr (.inr (.inl q))))) : GG y p l e R s m args below meth c cells slots Qf D cI cZ cQ sa ad ks A pc ls [.inr (.inr (.inl q))] w := by
  obtain ⟨i, n, hd, hn, hr⟩ := get_rel hI (by decide)
  simp only [rel, isI, Bool.and_eq_true, decide_eq_true_eq] at hr
  obtain ⟨rfl, h2, h3⟩ := hr
  obtain rfl := nbeq h2
  intro H locs ls' hW hL hv hs
  exact hfin pc w (some (.inr (.inr (.inl q)))) H locs ls' hW (fun u hu => by cases hu; exact vkh hs) ⟨hd, _, h3⟩ hq
theorem so_52 {i : Nat} (hF : Fr y d p R s m args c cells slots) (hC : Cx D cI cZ cQ sa sv A s) (hI : ins y pc = (52, v, a, b, nx)) (hi : i < 17) (hd3 : 3 < d) (kk : GG y p l e R s m args below meth c cells slots Qf D cI cZ cQ sa ad ks A nx ls (vI (nI (sLen i)) :: t) w) : GG y p l e R s m args below meth c cells slots Qf D cI cZ cQ sa ad ks A pc ls (vS i :: t) w := by
  sorry
theorem so_53 {i : Nat} {x : Int32} (hF : Fr y d p R s m args c cells slots) (hC : Cx D cI cZ cQ sa sv A s) (hI : ins y pc = (53, v, a, b, nx)) (hi : i < 17) (hd6 : 6 < d) (hx : vp_in x (sLen i)) (kk : GG y p l e R s m args below meth c cells slots Qf D cI cZ cQ sa ad ks A nx ls (vI (sCh i x.toNatClampNeg) :: t) w) : GG y p l e R s m args below meth c cells slots Qf D cI cZ cQ sa ad ks A pc ls (vI x :: vS i :: t) w := by
  sorry
end SND3


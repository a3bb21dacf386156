/-! THE CLAIM OUT OF ONE WALK OF THE LAW'S BODY. Your part is whole_start (and what it stands on); all else here is the same for every law, but numbers. -/
def R_law : String := "IfYouWillLaw"
def lw_P (b : Addr) (xs : List Int32) (args : Array Value) (s : State) : Prop := args = #[.ref b] ∧ s.IntsAt b xs ∧ xs.length ≤ 2048 ∧ (Jvm.Cond.and given_1 narrow_1).before args s = true
def lw_Q (_ : Array Value) (s : State) (o : Outcome) (t : State) : Prop := o = .returned (some (.int 1)) ∧ Framed s o t [] 600000 7302250
def lw_Z (below : List Frame) (a : Array Value) (s : State) : State → Prop := fun t => ∃ o, t.status = .running ∧ Ended t below o ∧ lw_Q a s o t
/-- the law's own end, with 1 on the stack, nothing written that was there before, its room as the claim has it -/
theorem lw_ret {p : Program} {l : Launch} {e : Env} {s : State} {m : MethodId} {below : List Frame} {meth : Method} {c : Code} {b : Nat} (hx : p.tables.exec = Jvm.exec) (hb : c.code = code) (hr : meth.sig.returnType = ret) (hlocks : meth.locks = false) {pc : Nat} {H : Heap} {ls : Array Slot} (hdg : decode code pc = .ok (.ireturn, 1)) : W p l e room_1 s m #[Value.ref b] below meth c H [] 600000 7302250 (lw_Z below #[Value.ref b] s) (F0 m pc ls [.int 1]) := by
  intro T hT X
  obtain ⟨fs, hret, hrun, hended, hW, hframe⟩ := X.leave (v := some (.int 1)) (hlocks := hlocks) (fun h => by rw [hr] at h; cases h)
  have hmeth' : T.vm.method? m = some meth := X.method'
  refine ⟨T.setFrames fs, ?_, .returned (some (.int 1)), hrun, hended, rfl, ⟨_, rfl⟩, hW, hframe⟩
  jvm_step X.here [X.here.top, hx, hb, hdg, hmeth', hr, ret, narrow_b1]
  (try refine ⟨rfl, ?_⟩); (try refine ⟨rfl, ?_⟩)
  first | (intro acts; rw [hret _ acts rfl rfl rfl]) | rw [hret _ _ rfl rfl rfl]
  exact Steps.refl _
/-- what holds at the law's entry: the machine, the code, the tables' words (any of lw_tbl by 'hts w (by decide +kernel)'), the script of L ints xs at the cell b, what the Statement gives of the start (any of its parts by flat_of_before) -/
def lw_At (p : Program) (s : State) (m : MethodId) (meth : Method) (c : Code) (b L : Nat) (xs : Nat → Int32) : Prop :=
  p.tables.exec = Jvm.exec ∧ c.code = code ∧ meth.sig.returnType = ret ∧ c.maxLocals = 4 ∧ s.vm.findClass R_law = some m.cls ∧ (∀ w ∈ lw_tbl, w.before #[Value.ref b] s = true) ∧ va_X b L xs s s.heap ∧ b < s.heap.size ∧ meth.locks = false ∧ (Jvm.Cond.and given_1 narrow_1).before #[Value.ref b] s = true
theorem wl_app {cI cZ cQ : ClassId} {sa : Nat → Nat} {ad : Key → Nat} {k1 k2 : List Key} {w : Wd} : wl cI cZ cQ sa ad k1 w ++ wl cI cZ cQ sa ad k2 w = wl cI cZ cQ sa ad (k1 ++ k2) w := by
  unfold wl
  rw [List.map_append]
theorem c167 : yC 167 = code := rfl
theorem law_end {p : Program} {l : Launch} {e : Env} {s : State} {m : MethodId} {below : List Frame} {meth : Method} {c : Code} {b : Nat} (hx : p.tables.exec = Jvm.exec) (hb : c.code = code) (hr : meth.sig.returnType = ret) (hlocks : meth.locks = false) {pc cells slots : Nat} {H : Heap} {ls : Array Slot} {locs : List Loc} (hf : ∀ q ∈ locs, s.heap.size ≤ q.base) (h1 : cells ≤ 600000) (h2 : slots ≤ 7302250) (hdg : decode code pc = .ok (.ireturn, 1)) : W p l e room_1 s m #[Value.ref b] below meth c H locs cells slots (lw_Z below #[Value.ref b] s) (F0 m pc ls [.int 1]) :=
  va_forget hf (W.widen h1 h2 (lw_ret hx hb hr hlocks hdg))
theorem law_go {p : Program} {e : Env} {s : State} {m : MethodId} {below : List Frame} {meth : Method} {c : Code} (l : Launch) {b L : Nat} {xs : Nat → Int32} (hL : L ≤ 2048) (C0 : lw_At p s m meth c b L xs) {D : va_G} {cI cZ cQ : ClassId} {sa sv : Nat → Nat} (h99 : sa 99 = b) {ad : Key → Nat} {V : Vst} {cc mm : Sd} (hV : okV V) (hc : CI V cc) (hm : MI V mm) (hwf : wf (ksC ++ ksM) (cc, mm)) {cells slots : Nat} (hcs : cells ≤ 600000 ∧ slots ≤ 7302250) {ls : Array Slot} (hl : lv_has ls 4 [(2, .ref (ad (true, 0, 0))), (1, .ref (ad (false, 0, 0))), (0, .ref b)]) : GI p l e room_1 s m #[Value.ref b] below meth c (lw_Z below #[Value.ref b] s) D cI cZ cQ sa sv (fun q => s.heap.size ≤ q) cells slots 16 ls [] (wl cI cZ cQ sa ad (ksC ++ ksM) (cc, mm)) := by
  obtain ⟨hx, hb, hr, hml, hown, hts, hX, hbl, hlocks, hgv⟩ := id C0
  intro H locs hK
  obtain ⟨⟨hC, hE⟩, hA, hP, hD, hS⟩ := hK
  refine law_all hL hV hc hm p l e room_1 s m _ below meth c cells slots _ D cI cZ cQ sa sv ad (ksC ++ ksM) (fun q => s.heap.size ≤ q) ⟨hx, hb, hml, hown, fun w hw => hts w (List.mem_filter.mp hw).1, Nat.le_of_ble_eq_true rfl, Nat.le_of_ble_eq_true rfl, hcs.1, hcs.2⟩ hC ⟨by rw [h99]; exact hX, by rw [h99]; exact hbl, by rw [h99]; exact Nat.not_le.mpr hbl⟩ hA ?_ H locs ls ⟨hwf, hP, hD, hS⟩ ⟨hl.1, hl.2.1, ?_⟩ ?_ (fun v hv => by cases hv)
  · intro pc' w' r H1 locs1 ls' hW hvr hk hq
    have hq : r = some (vI 1) := hq
    subst hq
    exact law_end hx hb hr hlocks hW.2.2.2.2.2 hcs.1 hcs.2 hk.1
  · intro i v hv
    match i, hv with
    | 0, hv =>
      cases hv
      show ls[0]? = some (.val (.ref (sa 99)))
      rw [h99]
      exact lv_at hl 2 rfl
    | 1, hv =>
      cases hv
      exact lv_at hl 1 rfl
    | 2, hv =>
      cases hv
      exact lv_at hl 0 rfl
    | 3, hv => cases hv
    | i + 4, hv => simp at hv
  · intro v hv
    simp only [List.mem_cons, List.not_mem_nil, or_false, Option.some.injEq, reduceCtorEq] at hv
    rcases hv with rfl | rfl | rfl
    · exact Or.inr rfl
    · exact List.mem_append_left _ (by decide +kernel : ((false, 0, 0) : Key) ∈ ksC)
    · exact List.mem_append_right _ (by decide +kernel : ((true, 0, 0) : Key) ∈ ksM)
theorem def8 : ∀ j, j < 5 → defaultValue (tyI 8 j) = vp_V [.null, .null, .null, .null, .null] j := by decide +kernel
theorem def9 : ∀ j, j < 50 → defaultValue (tyI 9 j) = vp_V [(.int 0), .null, .null, .null, .null, .null, .null, .null, .null, .null, .null, .null, .null, .null, .null, (.int 0), (.int 0), (.int 0), (.int 0), (.int 0), (.int 0), (.int 0), (.int 0), .null, .null, .null, .null, .null, .null, .null, .null, .null, .null, .null, (.int 0), (.int 0), (.int 0), (.int 0), .null, .null, .null, (.int 0), (.int 0), .null, (.int 0), (.int 0), (.int 0), .null, .null, (.int 0)] j := by decide +kernel
theorem whole_start {p : Program} {e : Env} {s : State} {m : MethodId} {below : List Frame} {meth : Method} {c : Code} (l : Launch) {b L : Nat} {xs : Nat → Int32} (hL : L ≤ 2048) (C0 : lw_At p s m meth c b L xs) : W p l e room_1 s m #[Value.ref b] below meth c s.heap [] 0 0 (lw_Z below #[Value.ref b] s) (entryFrame m ([Value.ref b] : List Value).toArray 4) := by
  obtain ⟨hx, hb, hr, hml, hown, hts, hX, hbl, hlocks, hgv⟩ := id C0
  obtain ⟨D, cI, cZ, cQ, sa, sv, hC, hE, h99⟩ := cx0 hgv hts m.cls b
  have hl := lv_entry ([.ref b]) (n := 4) (Nat.le_of_ble_eq_true rfl)
  rw [lg_entry_eq]
  generalize (lg_sl ([.ref b]) ++ List.replicate (4 - (lg_sl ([.ref b])).length) Slot.unset).toArray = ls at hl ⊢
  have hl : lv_has ls 4 [(0, .ref b)] := hl
  have hF : FrI 12 code 4 p s m #[Value.ref b] c := ⟨hx, hb, hml, hown, fun w hw => hts w (List.mem_filter.mp hw).1⟩
  have main : GI p l e room_1 s m #[Value.ref b] below meth c (lw_Z below #[Value.ref b] s) D cI cZ cQ sa sv (fun q => s.heap.size ≤ q) 0 0 0 ls [] [] := by
    refine ri_new (idx := 7) (ci := 8) (N := 5) (fs := [.null, .null, .null, .null, .null]) hF (by decide) rfl (by decide +kernel) (by decide +kernel) (by decide +kernel) def8 (Nat.le_of_ble_eq_true rfl) (Nat.le_of_ble_eq_true rfl) (by decide +kernel) (fun a => ?_)
    refine ri_dup hF (by decide +kernel) ?_
    refine ri_ini (wr := []) (idx := 9) (n := 0) (av := []) (rest := [.ref a]) c_iWil hF (by decide +kernel) (by decide +kernel) (by decide +kernel) (by decide +kernel) rfl (by decide +kernel) rfl ⟨Nat.le_of_ble_eq_true rfl, Nat.le_of_ble_eq_true rfl⟩ ⟨Nat.le_of_ble_eq_true rfl, Nat.le_of_ble_eq_true rfl⟩ hl.1 (by decide +kernel) (Nat.le_of_ble_eq_true rfl) rfl (fun ws1 hp => ?_)
    obtain ⟨tx, qb, rd, vi, cl, ba, r1, r2, r3, qa, sc, aP, qK, ads, wT, rfl, hDr⟩ := hp
    refine ri_as (k := 1) (i := 1) (lv' := [(1, .ref a), (0, .ref b)]) hF (by decide +kernel) rfl hl (by decide) rfl (fun ls1 hl1 => ?_)
    refine gi_num 87 3893 8 rfl rfl rfl ?_
    refine ri_new (idx := 10) (ci := 9) (N := 50) (fs := [(.int 0), .null, .null, .null, .null, .null, .null, .null, .null, .null, .null, .null, .null, .null, .null, (.int 0), (.int 0), (.int 0), (.int 0), (.int 0), (.int 0), (.int 0), (.int 0), .null, .null, .null, .null, .null, .null, .null, .null, .null, .null, .null, (.int 0), (.int 0), (.int 0), (.int 0), .null, .null, .null, (.int 0), (.int 0), .null, (.int 0), (.int 0), (.int 0), .null, .null, (.int 0)]) hF (by decide) rfl (by decide +kernel) (by decide +kernel) (by decide +kernel) def9 (Nat.le_of_ble_eq_true rfl) (Nat.le_of_ble_eq_true rfl) (by decide +kernel) (fun am => ?_)
    refine ri_dup hF (by decide +kernel) ?_
    refine ri_ini (wr := [] ++ wilL cI cZ cQ sa a tx qb rd vi cl ba r1 r2 r3 qa sc aP qK ads wT) (idx := 12) (n := 0) (av := []) (rest := [.ref am]) c_iMod hF (by decide +kernel) (by decide +kernel) (by decide +kernel) (by decide +kernel) rfl (by decide +kernel) rfl ⟨Nat.le_of_ble_eq_true rfl, Nat.le_of_ble_eq_true rfl⟩ ⟨Nat.le_of_ble_eq_true rfl, Nat.le_of_ble_eq_true rfl⟩ hl1.1 (by decide +kernel) (Nat.le_of_ble_eq_true rfl) rfl (fun ws2 hp2 => ?_)
    obtain ⟨adm, w, rfl, hadm, hwf, hMI⟩ := hp2
    refine ri_as (k := 2) (i := 2) (lv' := [(2, .ref am), (1, .ref a), (0, .ref b)]) hF (by decide +kernel) rfl hl1 (by decide) rfl (fun ls2 hl2 => ?_)
    refine gi_num 119 12077 16 rfl rfl rfl ?_
    have hws : ([] ++ wilL cI cZ cQ sa a tx qb rd vi cl ba r1 r2 r3 qa sc aP qK ads wT) ++ wl cI cZ cQ sa adm ksM w = wl cI cZ cQ sa (adC a tx qb rd vi cl ba r1 r2 r3 qa sc aP qK ads adm) (ksC ++ ksM) (cC wT, w.2) := by
      rw [List.nil_append, wil_eq (adm := adm) (m := w.2), mod_eq (a := a) (tx := tx) (qb := qb) (rd := rd) (vi := vi) (cl := cl) (ba := ba) (r1 := r1) (r2 := r2) (r3 := r3) (qa := qa) (sc := sc) (aP := aP) (qK := qK) (ads := ads) (c := cC wT)]
      exact wl_app
    rw [hws]
    subst hadm
    exact law_go l hL C0 h99 (ad := adC a tx qb rd vi cl ba r1 r2 r3 qa sc aP qK ads adm) okV0 (CI0 hDr) hMI (wf_app wf_C hwf) ⟨by decide, by decide⟩ hl2
  exact main s.heap [] ⟨⟨hC, hE⟩, fun _ h => h, fun k q h => by simp at h, ⟨fun i j p q h => by simp at h, fun k q h => by simp at h⟩, va_S.rf⟩

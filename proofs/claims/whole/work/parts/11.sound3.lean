theorem StrX.go {sa sv : Nat → Nat} {A A1 : Nat → Prop} {s U : State} {H : Heap} {locs : List Loc} (h : StrX sa sv A s) (hS : va_S A s.heap H locs) (hU : U.heap = H) (hw : s.WarmedH U.vm) (hsub : ∀ q, A1 q → A q) : StrX sa sv A1 U := by
  obtain ⟨h1, h2, h3, h4⟩ := h
  subst hU
  exact ⟨((h1.kept hS.2.1).moved hw.alike).narrow hsub, fun i e0 he => (h2 i e0 he).warm hw, ((h3.kept hS.2.1).moved hw.alike).narrow hsub, ((h4.kept hS.2.1).moved hw.alike).narrow hsub⟩
theorem Cx.go {D : va_G} {cI cZ cQ : ClassId} {sa sv : Nat → Nat} {A A1 : Nat → Prop} {s U : State} {H : Heap} {locs : List Loc} (h : Cx D cI cZ cQ sa sv A s) (hS : va_S A s.heap H locs) (hU : U.heap = H) (hw : s.WarmedH U.vm) (hsub : ∀ q, A1 q → A q) : Cx D cI cZ cQ sa sv A1 U :=
  ⟨h.1.moved hw.alike, fun e0 he hk => va_Nw.warmM hw (h.2.1 e0 he hk), h.2.2.go hS hU hw hsub⟩
theorem Pre0.blind {av : List Value} {D : va_G} {cI cZ cQ : ClassId} {sa sv : Nat → Nat} {ad : Key → Nat} {ks : List Key} {w : Wd} {sz : Nat} : FrameBlind (va_Pc av (Pre0 D cI cZ cQ sa sv ad ks w sz)) := by
  intro a' U g mk h
  obtain ⟨h1, h2, h3, h4, h5, h6, h7, h8, h9, h10⟩ := h
  refine ⟨h1, h2, h3, h4, va_K.moved (u := U) (U := U.calling g mk a') (Vm.Alike.refl U.vm) h5, fun e0 he hk => va_Nw.same (u := U) (U := U.calling g mk a') rfl rfl (h6 e0 he hk), vk_S.moved (u := U) (U := U.calling g mk a') (Vm.Alike.refl U.vm) h7, fun i e0 he => vk_R.same (u := U) (U := U.calling g mk a') rfl (h8 i e0 he), va_Z.moved (u := U) (U := U.calling g mk a') (Vm.Alike.refl U.vm) h9, va_Zq.moved (u := U) (U := U.calling g mk a') (Vm.Alike.refl U.vm) h10⟩
theorem popN_spec : ∀ (n : Nat) (st acc av t : List PV), popN n st acc = some (av, t) → ∃ pre : List PV, st = pre ++ t ∧ pre.length = n ∧ av = pre.reverse ++ acc
  | 0, st, acc, av, t, h => by
    simp only [popN, Option.some.injEq, Prod.mk.injEq] at h
    exact ⟨[], by rw [h.2]; rfl, rfl, by rw [h.1]; rfl⟩
  | n + 1, [], acc, av, t, h => by simp [popN] at h
  | n + 1, v :: st, acc, av, t, h => by
    simp only [popN] at h
    obtain ⟨pre, h1, h2, h3⟩ := popN_spec n st (v :: acc) av t h
    exact ⟨v :: pre, by rw [h1]; rfl, by simp [h2], by rw [h3]; simp⟩
theorem csum_conc {sa : Nat → Nat} {ad : Key → Nat} : ∀ t : List PV, ((t.map (conc sa ad)).map fun v => v.category).sum = csum t
  | [] => rfl
  | .inl x :: t => by simp only [List.map_cons, List.sum_cons, csum, csum_conc t]; rfl
  | .inr (.inl x) :: t => by simp only [List.map_cons, List.sum_cons, csum, csum_conc t]; rfl
  | .inr (.inr (.inl x)) :: t => by simp only [List.map_cons, List.sum_cons, csum, csum_conc t]; rfl
  | .inr (.inr (.inr x)) :: t => by simp only [List.map_cons, List.sum_cons, csum, csum_conc t]; rfl
def memB (w : Cond) : Bool := decide (w ∈ lw_tbl) && goodWord w
theorem memB_gtb {w : Cond} (h : memB w = true) : w ∈ gtb := by
  have h1 := (Bool.and_eq_true _ _).mp h
  exact List.mem_filter.mpr ⟨of_decide_eq_true h1.1, h1.2⟩
/-! the JDK's own methods of String, at the constants -/
def ySlen : MethodName := ⟨"java/lang/String", "length", "()I"⟩
def yScod : MethodName := ⟨"java/lang/String", "coder", "()B"⟩
def ySchr : MethodName := ⟨"java/lang/String", "charAt", "(I)C"⟩
def ySlat : MethodName := ⟨"java/lang/String", "isLatin1", "()Z"⟩
def yLchr : MethodName := ⟨"java/lang/StringLatin1", "charAt", "([BI)C"⟩
def ySchk : MethodName := ⟨"java/lang/String", "checkIndex", "(II)V"⟩
def yPchk : MethodName := ⟨"jdk/internal/util/Preconditions", "checkIndex", "(IILjava/util/function/BiFunction;)I"⟩
theorem vaN {sz q : Nat} (h : va_A [] sz q) : sz ≤ q := by
  rcases h with ⟨k, e0, z⟩ | z
  · simp at z
  · exact z
def PrJ (sa sv : Nat → Nat) (sz : Nat) (U : State) : Prop := U.heap.size = sz ∧ StrX sa sv (va_A [] sz) U
theorem PrJ.blind {av : List Value} {sa sv : Nat → Nat} {sz : Nat} : FrameBlind (va_Pc av (PrJ sa sv sz)) := by
  intro a' U g mk h
  obtain ⟨h1, h2, h7, h8, h9, h10⟩ := h
  exact ⟨h1, h2, vk_S.moved (u := U) (U := U.calling g mk a') (Vm.Alike.refl U.vm) h7, fun i e0 he => vk_R.same (u := U) (U := U.calling g mk a') rfl (h8 i e0 he), va_Z.moved (u := U) (U := U.calling g mk a') (Vm.Alike.refl U.vm) h9, va_Zq.moved (u := U) (U := U.calling g mk a') (Vm.Alike.refl U.vm) h10⟩
def Sti (y : MethodName) (cc : ByteArray) (nL : Nat) (ret : FieldType) (f : Nat) (av : List Value) (sa sv : Nat → Nat) (r : Int32) : Prop := ∀ (l : Launch) (sz : Nat), Met l y (.code y cc nL (some ret) :: gtb) (rmd f) (va_Pc av (PrJ sa sv sz)) (va_Qi (fun x (_ : Unit) => x = r) (fun _ _ => True) (va_A [] sz)) 0 0 (va_A [] sz)
def Stv (y : MethodName) (cc : ByteArray) (nL : Nat) (f : Nat) (av : List Value) (sa sv : Nat → Nat) : Prop := ∀ (l : Launch) (sz : Nat), Met l y (.code y cc nL none :: gtb) (rmd f) (va_Pc av (PrJ sa sv sz)) (va_Qv (fun (_ : Unit) => True) (fun _ _ => True) (va_A [] sz)) 0 0 (va_A [] sz)
def FrS (o : String) (cc : ByteArray) (nL : Nat) (p : Program) (s : State) (m : MethodId) (args : Array Value) (c : Code) : Prop := p.tables.exec = Jvm.exec ∧ c.code = cc ∧ c.maxLocals = nL ∧ s.vm.findClass o = some m.cls ∧ ∀ w ∈ gtb, w.before args s = true
def KS (s : State) (sa sv : Nat → Nat) (A : Nat → Prop) (H : Heap) (locs : List Loc) : Prop := StrX sa sv A s ∧ (∀ q, s.heap.size ≤ q → A q) ∧ va_S A s.heap H locs
theorem goods {y : MethodName} {cy : ByteArray} {k : Nat} {ret : Option FieldType} (h : memB (.code y cy k ret) = true) : GoodIn gtb (.code y cy k ret :: gtb) := by
  intro w hw
  rcases List.mem_cons.mp hw with e0 | h1
  · subst e0
    exact gtb_good _ (memB_gtb h)
  · exact gtb_good _ h1
theorem sti_of {y : MethodName} {cc : ByteArray} {nL f : Nat} {ret : FieldType} {av : List Value} {sa sv : Nat → Nat} {r : Int32} (hy : plainFor y = true) (hl : (lg_sl av).length ≤ nL) (hn : narrow ret (.int r) = .int r)
    (h : ∀ (p : Program) (l : Launch) (e : Env) (s : State) (m : MethodId) (args : Array Value) (below : List Frame) (meth : Method) (c : Code) (Qf : State → Prop) (A : Nat → Prop) (ls : Array Slot) (H : Heap) (locs : List Loc), FrS y.cls cc nL p s m args c → lv_has ls nL (lv_args 0 av) →
      (∀ (pc : Nat) (ls' : Array Slot) (H : Heap) (locs : List Loc), decode cc pc = .ok (.ireturn, 1) → KS s sa sv A H locs → W p l e (rmd f) s m args below meth c H locs 0 0 Qf (F0 m pc ls' [.int r])) →
      KS s sa sv A H locs → W p l e (rmd f) s m args below meth c H locs 0 0 Qf (F0 m 0 ls [])) : Sti y cc nL ret f av sa sv r := by
  intro l sz
  refine va_MetF (cc := cc) (maxL := nL) (ret := some ret) hy rfl ?_
  intro p e s m args below meth c s₁ B hml hv
  obtain ⟨rfl, hsz, hX⟩ := hv
  have hx := B.exec
  have hb := B.bytes
  have hr := B.returns
  have hts := atoms_spec (ws := .code y cc nL (some ret) :: gtb) B.pre
  have hown : s.vm.findClass y.cls = some m.cls := findClass_of_methodNamed B.named
  have hlocks := B.notSynchronized
  subst hsz
  rw [lg_entry_eq]
  refine h p l e s m _ below meth c _ (va_A [] s.heap.size) _ s.heap [] ⟨hx, hb, hml, hown, fun w hw => hts w (List.mem_cons_of_mem _ hw)⟩ (lv_entry av hl) ?_ ⟨hX, fun q h => Or.inr h, va_S.rf⟩
  intro pc ls' H locs hd hK
  obtain ⟨-, -, hS'⟩ := hK
  exact W.zret hx hb hr hn (fun t ht hW => ⟨⟨r, (), rfl, rfl, trivial⟩, hS'.F ht⟩) hS'.2.2 hd
theorem stv_of {y : MethodName} {cc : ByteArray} {nL f : Nat} {av : List Value} {sa sv : Nat → Nat} (hy : plainFor y = true) (hl : (lg_sl av).length ≤ nL)
    (h : ∀ (p : Program) (l : Launch) (e : Env) (s : State) (m : MethodId) (args : Array Value) (below : List Frame) (meth : Method) (c : Code) (Qf : State → Prop) (A : Nat → Prop) (ls : Array Slot) (H : Heap) (locs : List Loc), FrS y.cls cc nL p s m args c → lv_has ls nL (lv_args 0 av) →
      (∀ (pc : Nat) (ls' : Array Slot) (H : Heap) (locs : List Loc), decode cc pc = .ok (.return_, 1) → KS s sa sv A H locs → W p l e (rmd f) s m args below meth c H locs 0 0 Qf (F0 m pc ls' [])) →
      KS s sa sv A H locs → W p l e (rmd f) s m args below meth c H locs 0 0 Qf (F0 m 0 ls [])) : Stv y cc nL f av sa sv := by
  intro l sz
  refine va_MetF (cc := cc) (maxL := nL) (ret := none) hy rfl ?_
  intro p e s m args below meth c s₁ B hml hv
  obtain ⟨rfl, hsz, hX⟩ := hv
  have hx := B.exec
  have hb := B.bytes
  have hr := B.returns
  have hts := atoms_spec (ws := .code y cc nL none :: gtb) B.pre
  have hown : s.vm.findClass y.cls = some m.cls := findClass_of_methodNamed B.named
  have hlocks := B.notSynchronized
  subst hsz
  rw [lg_entry_eq]
  refine h p l e s m _ below meth c _ (va_A [] s.heap.size) _ s.heap [] ⟨hx, hb, hml, hown, fun w hw => hts w (List.mem_cons_of_mem _ hw)⟩ (lv_entry av hl) ?_ ⟨hX, fun q h => Or.inr h, va_S.rf⟩
  intro pc ls' H locs hd hK
  obtain ⟨-, -, hS'⟩ := hK
  exact W.vret hx hb hr (fun t ht hW => ⟨⟨(), rfl, trivial, trivial⟩, hS'.F ht⟩) hS'.2.2 hd
section STR
variable {p : Program} {l : Launch} {e : Env} {R : Room} {s : State} {m : MethodId} {args : Array Value} {below : List Frame} {meth : Method} {c : Code} {cells slots : Nat} {Qf : State → Prop} {sa sv : Nat → Nat} {A : Nat → Prop}
variable {own : String} {cc cy : ByteArray} {nL kL f idx n i pc : Nat} {y : MethodName} {ret : FieldType} {av rest st0 : List Value} {r : Int32} {ls : Array Slot} {H : Heap} {locs : List Loc}
theorem ws_vi (hM : Sti y cy kL ret f (.ref (sa i) :: av) sa sv r) (hF : FrS own cc nL p s m args c) (hK : KS s sa sv A H locs) (hi : i < 17) (hw0 : memB (.code y cy kL (some ret)) = true) (hw1 : memB (.initialized y.cls) = true) (hw2 : memB (.methodLink own idx y) = true) (hw3 : memB (.instanceMethod y) = true) (hw4 : memB (.selects "java/lang/String" y y) = true) (hd : y.cls ≠ "java/lang/invoke/MethodHandle" ∧ y.cls ≠ "java/lang/invoke/VarHandle" ∧ (parseMethodDescriptor y.desc).map (fun d => d.parameters.length) = some n) (hn : av.length = n) (hR : f + 1 ≤ R.frames ∧ 8 + (kL + 11) + 40 * f ≤ R.locals) (hcs : cells ≤ R.cells ∧ slots ≤ R.slots) (hs : ls.size = nL) (hdg : decode cc pc = .ok (.invokevirtual idx, 3)) (hsum : (rest.map fun v => v.category).sum ≤ 8) (hst : st0 = av.reverse ++ .ref (sa i) :: rest)
    (kk : ∀ (H1 : Heap) (locs1 : List Loc), (∀ q : Nat, q < H.size → H1[q]? = H[q]?) → KS s sa sv A H1 locs1 → W p l e R s m args below meth c H1 locs1 cells slots Qf (F0 m (pc + 3) ls (.int r :: rest))) : W p l e R s m args below meth c H locs cells slots Qf (F0 m pc ls st0) := by
  subst hst
  obtain ⟨hX, hA, hS⟩ := id hK
  have hsub : ∀ q, va_A [] H.size q → A q := fun q z => hA q (Nat.le_trans hS.1 (vaN z))
  refine va_calli (va_runV (C := "java/lang/String") (As := av) (rest := rest) (bytes := cy) (maxL := kL) (ret := some ret) ⟨hF.1, hF.2.1, hF.2.2.1, hF.2.2.2.1, hF.2.2.2.2⟩ (hM l H.size) ⟨callB_of n hF.2.2.2.2 (goods hw0) rfl rfl rfl (hF.2.2.2.2 _ (memB_gtb hw1)) (hF.2.2.2.2 _ (memB_gtb hw2)) hd hR, hF.2.2.2.2 _ (memB_gtb hw3), hF.2.2.2.2 _ (memB_gtb hw4)⟩ ⟨PrJ.blind, vk_recv hX.1 hi hS, fun U hU hw => ⟨rfl, by rw [hU], hX.go hS hU hw hsub⟩⟩ rfl hn hs rfl (lv_room hsum) hdg hcs) hS (fun q _ h => hsub q h) hsub (fun r' u t H1 locs1 ht hvm hp _ hz hk hS1 => ?_)
  subst hp
  exact kk H1 locs1 (fun q hq => hk q hq (fun z => absurd (vaN z) (Nat.not_le.mpr hq))) ⟨hX, hA, hS1⟩
theorem ws_si (hM : Sti y cy kL ret f av sa sv r) (hF : FrS own cc nL p s m args c) (hK : KS s sa sv A H locs) (hw0 : memB (.code y cy kL (some ret)) = true) (hw1 : memB (.initialized y.cls) = true) (hw2 : memB (.methodLink own idx y) = true) (hw3 : memB (.static y) = true) (hd : y.cls ≠ "java/lang/invoke/MethodHandle" ∧ y.cls ≠ "java/lang/invoke/VarHandle" ∧ (parseMethodDescriptor y.desc).map (fun d => d.parameters.length) = some n) (hn : av.length = n) (hR : f + 1 ≤ R.frames ∧ 8 + (kL + 11) + 40 * f ≤ R.locals) (hcs : cells ≤ R.cells ∧ slots ≤ R.slots) (hs : ls.size = nL) (hdg : decode cc pc = .ok (.invokestatic idx, 3)) (hsum : (rest.map fun v => v.category).sum ≤ 8) (hst : st0 = av.reverse ++ rest)
    (kk : ∀ (H1 : Heap) (locs1 : List Loc), KS s sa sv A H1 locs1 → W p l e R s m args below meth c H1 locs1 cells slots Qf (F0 m (pc + 3) ls (.int r :: rest))) : W p l e R s m args below meth c H locs cells slots Qf (F0 m pc ls st0) := by
  subst hst
  obtain ⟨hX, hA, hS⟩ := id hK
  have hsub : ∀ q, va_A [] H.size q → A q := fun q z => hA q (Nat.le_trans hS.1 (vaN z))
  refine va_calli (va_runS (As := av) (rest := rest) (bytes := cy) (maxL := kL) (ret := some ret) ⟨hF.1, hF.2.1, hF.2.2.1, hF.2.2.2.1, hF.2.2.2.2⟩ (hM l H.size) ⟨callB_of n hF.2.2.2.2 (goods hw0) rfl rfl rfl (hF.2.2.2.2 _ (memB_gtb hw1)) (hF.2.2.2.2 _ (memB_gtb hw2)) hd hR, hF.2.2.2.2 _ (memB_gtb hw3)⟩ ⟨PrJ.blind, fun U hU hw => ⟨rfl, by rw [hU], hX.go hS hU hw hsub⟩⟩ rfl hn hs rfl (lv_room hsum) hdg hcs) hS (fun q _ h => hsub q h) hsub (fun r' u t H1 locs1 ht hvm hp _ hz hk hS1 => ?_)
  subst hp
  exact kk H1 locs1 ⟨hX, hA, hS1⟩
theorem ws_sv (hM : Stv y cy kL f av sa sv) (hF : FrS own cc nL p s m args c) (hK : KS s sa sv A H locs) (hw0 : memB (.code y cy kL none) = true) (hw1 : memB (.initialized y.cls) = true) (hw2 : memB (.methodLink own idx y) = true) (hw3 : memB (.static y) = true) (hd : y.cls ≠ "java/lang/invoke/MethodHandle" ∧ y.cls ≠ "java/lang/invoke/VarHandle" ∧ (parseMethodDescriptor y.desc).map (fun d => d.parameters.length) = some n) (hn : av.length = n) (hR : f + 1 ≤ R.frames ∧ 8 + (kL + 11) + 40 * f ≤ R.locals) (hcs : cells ≤ R.cells ∧ slots ≤ R.slots) (hs : ls.size = nL) (hdg : decode cc pc = .ok (.invokestatic idx, 3)) (hsum : (rest.map fun v => v.category).sum ≤ 8) (hst : st0 = av.reverse ++ rest)
    (kk : ∀ (H1 : Heap) (locs1 : List Loc), KS s sa sv A H1 locs1 → W p l e R s m args below meth c H1 locs1 cells slots Qf (F0 m (pc + 3) ls rest)) : W p l e R s m args below meth c H locs cells slots Qf (F0 m pc ls st0) := by
  subst hst
  obtain ⟨hX, hA, hS⟩ := id hK
  have hsub : ∀ q, va_A [] H.size q → A q := fun q z => hA q (Nat.le_trans hS.1 (vaN z))
  exact va_callv (va_runS (As := av) (rest := rest) (bytes := cy) (maxL := kL) (ret := none) ⟨hF.1, hF.2.1, hF.2.2.1, hF.2.2.2.1, hF.2.2.2.2⟩ (hM l H.size) ⟨callB_of n hF.2.2.2.2 (goods hw0) rfl rfl rfl (hF.2.2.2.2 _ (memB_gtb hw1)) (hF.2.2.2.2 _ (memB_gtb hw2)) hd hR, hF.2.2.2.2 _ (memB_gtb hw3)⟩ ⟨PrJ.blind, fun U hU hw => ⟨rfl, by rw [hU], hX.go hS hU hw hsub⟩⟩ rfl hn hs rfl (lv_room hsum) hdg hcs) hS (fun q _ h => hsub q h) hsub (fun u t H1 locs1 ht hvm hp _ hz hk hS1 => kk H1 locs1 ⟨hX, hA, hS1⟩)
end STR
section STM
variable {sa sv : Nat → Nat} {i : Nat}
theorem st_coder (hi : i < 17) : Sti yScod prog_13_method_152_code 1 .byte 0 [.ref (sa i)] sa sv 0 := by
  refine sti_of (by decide) (Nat.le_of_ble_eq_true rfl) rfl ?_
  intro p l e s m args below meth c Qf A ls H locs hF hl fin hK
  have hl : lv_has ls 1 (lv_args 0 [.ref (sa i)]) := hl
  obtain ⟨hX, hA, hS⟩ := id hK
  have hI := hX.1.1 i hi
  refine va_gets (index := 38) (own := "java/lang/String") (ref := "java/lang/String") hF.1 hF.2.1 hX.2.2.1 hS hF.2.2.2.1 (hF.2.2.2.2 _ (memB_gtb (by decide +kernel))) (fun _ h => h) (by decide +kernel) ?_
  refine lv_if_eq (off := 10) (tgt := 13) hF.1 hF.2.1 (by decide +kernel) rfl (fun z => absurd z (by decide)) (fun _ => ?_)
  refine lv_aload_n (k := 0) (i := 0) hF.1 hF.2.1 (by decide +kernel) rfl (lv_at hl 0 rfl) ?_
  refine vk_getf (index := 15) (own := "java/lang/String") (ref := "java/lang/String") hF.1 hF.2.1 hI.2.1 hS hF.2.2.2.1 (hF.2.2.2.2 _ (memB_gtb (by decide +kernel))) (fun _ h => h) (by decide +kernel) ?_
  refine lv_goto (off := 4) (tgt := 14) hF.1 hF.2.1 (by decide +kernel) rfl ?_
  exact fin 14 ls H locs (by decide +kernel) hK
theorem st_latin (hi : i < 17) : Sti ySlat prog_13_method_154_code 1 .boolean 0 [.ref (sa i)] sa sv 1 := by
  refine sti_of (by decide) (Nat.le_of_ble_eq_true rfl) rfl ?_
  intro p l e s m args below meth c Qf A ls H locs hF hl fin hK
  have hl : lv_has ls 1 (lv_args 0 [.ref (sa i)]) := hl
  obtain ⟨hX, hA, hS⟩ := id hK
  have hI := hX.1.1 i hi
  refine va_gets (index := 38) (own := "java/lang/String") (ref := "java/lang/String") hF.1 hF.2.1 hX.2.2.1 hS hF.2.2.2.1 (hF.2.2.2.2 _ (memB_gtb (by decide +kernel))) (fun _ h => h) (by decide +kernel) ?_
  refine lv_if_eq (off := 14) (tgt := 17) hF.1 hF.2.1 (by decide +kernel) rfl (fun z => absurd z (by decide)) (fun _ => ?_)
  refine lv_aload_n (k := 0) (i := 0) hF.1 hF.2.1 (by decide +kernel) rfl (lv_at hl 0 rfl) ?_
  refine vk_getf (index := 15) (own := "java/lang/String") (ref := "java/lang/String") hF.1 hF.2.1 hI.2.1 hS hF.2.2.2.1 (hF.2.2.2.2 _ (memB_gtb (by decide +kernel))) (fun _ h => h) (by decide +kernel) ?_
  refine lv_if_ne (off := 7) (tgt := 17) hF.1 hF.2.1 (by decide +kernel) rfl (fun z => absurd rfl z) (fun _ => ?_)
  refine lv_iconst (n := 1) (v := 1) hF.1 hF.2.1 (by decide +kernel) (by decide) ?_
  refine lv_goto (off := 4) (tgt := 18) hF.1 hF.2.1 (by decide +kernel) rfl ?_
  exact fin 18 ls H locs (by decide +kernel) hK
theorem lenT_lt : ∀ i, i < 17 → lenT.getD i 0 < 2 ^ 31 := by decide +kernel
theorem sCh_b : ∀ i, i < 17 → ∀ j, j < lenT.getD i 0 → sCh i j &&& 255 = sCh i j := by decide +kernel
theorem st_len (hi : i < 17) : Sti ySlen prog_13_method_54_code 1 .int 1 [.ref (sa i)] sa sv (nI (sLen i)) := by
  refine sti_of (by decide) (Nat.le_of_ble_eq_true rfl) rfl ?_
  intro p l e s m args below meth c Qf A ls H locs hF hl fin hK
  have hl : lv_has ls 1 (lv_args 0 [.ref (sa i)]) := hl
  obtain ⟨hX, hA, hS⟩ := id hK
  have hI := hX.1.1 i hi
  refine lv_aload_n (k := 0) (i := 0) hF.1 hF.2.1 (by decide +kernel) rfl (lv_at hl 0 rfl) ?_
  refine vk_getf (index := 9) (own := "java/lang/String") (ref := "java/lang/String") hF.1 hF.2.1 hI.2.2.1 hS hF.2.2.2.1 (hF.2.2.2.2 _ (memB_gtb (by decide +kernel))) (fun _ h => h) (by decide +kernel) ?_
  refine va_tlen (v := nI (sLen i)) hF.1 hF.2.1 hI.2.2.2 hS rfl (by decide +kernel) ?_
  refine lv_aload_n (k := 0) (i := 0) hF.1 hF.2.1 (by decide +kernel) rfl (lv_at hl 0 rfl) ?_
  refine ws_vi (idx := 335) (n := 0) (av := []) (rest := [.int (nI (sLen i))]) (own := "java/lang/String") (st_coder hi) hF hK hi (by decide +kernel) (by decide +kernel) (by decide +kernel) (by decide +kernel) (by decide +kernel) (by decide +kernel) rfl ⟨Nat.le_of_ble_eq_true rfl, Nat.le_of_ble_eq_true rfl⟩ ⟨Nat.le_refl _, Nat.le_refl _⟩ hl.1 (by decide +kernel) (Nat.le_of_ble_eq_true rfl) rfl (fun H1 locs1 _ hK1 => ?_)
  refine lv_ishr hF.1 hF.2.1 (by decide +kernel) ?_
  rw [show nI (sLen i) >>> ((0 : Int32) &&& 31) = nI (sLen i) from sc_shr0 (lenT_lt i hi)]
  exact fin _ ls H1 locs1 (by decide +kernel) hK1
theorem st_pchk {x n : Int32} {o : Value} (h1 : ¬ x < 0) (h2 : x < n) (ho : o = .null ∨ ∃ t, o = .ref t) : Sti yPchk prog_17_method_11_code 3 .int 0 [.int x, .int n, o] sa sv x := by
  have hlen : (lg_sl [.int x, .int n, o]).length ≤ 3 := by
    rcases ho with rfl | ⟨t, rfl⟩ <;> exact Nat.le_of_ble_eq_true rfl
  refine sti_of (by decide) hlen rfl ?_
  intro p l e s m args below meth c Qf A ls H locs hF hl fin hK
  have hl : lv_has ls 3 (lv_args 0 [.int x, .int n, o]) := hl
  refine lv_iload_n (k := 0) (i := 0) hF.1 hF.2.1 (by decide +kernel) rfl (lv_at hl 0 rfl) ?_
  refine lv_if_lt (off := 8) (tgt := 9) hF.1 hF.2.1 (by decide +kernel) rfl (fun z => absurd z h1) (fun _ => ?_)
  refine lv_iload_n (k := 0) (i := 0) hF.1 hF.2.1 (by decide +kernel) rfl (lv_at hl 0 rfl) ?_
  refine lv_iload_n (k := 1) (i := 1) hF.1 hF.2.1 (by decide +kernel) rfl (lv_at hl 1 rfl) ?_
  refine lv_icmp_lt (off := 10) (tgt := 16) hF.1 hF.2.1 (by decide +kernel) rfl (fun _ => ?_) (fun z => absurd h2 z)
  refine lv_iload_n (k := 0) (i := 0) hF.1 hF.2.1 (by decide +kernel) rfl (lv_at hl 0 rfl) ?_
  exact fin 17 ls H locs (by decide +kernel) hK
theorem st_schk {x n : Int32} (h1 : ¬ x < 0) (h2 : x < n) : Stv ySchk prog_13_method_155_code 2 1 [.int x, .int n] sa sv := by
  refine stv_of (by decide) (Nat.le_of_ble_eq_true rfl) ?_
  intro p l e s m args below meth c Qf A ls H locs hF hl fin hK
  have hl : lv_has ls 2 (lv_args 0 [.int x, .int n]) := hl
  obtain ⟨hX, hA, hS⟩ := id hK
  refine lv_iload_n (k := 0) (i := 0) hF.1 hF.2.1 (by decide +kernel) rfl (lv_at hl 0 rfl) ?_
  refine lv_iload_n (k := 1) (i := 1) hF.1 hF.2.1 (by decide +kernel) rfl (lv_at hl 1 rfl) ?_
  have go : ∀ o : Value, (o = .null ∨ ∃ t, o = .ref t) → va_Z "jdk/internal/util/Preconditions" "SIOOBE_FORMATTER" "Ljava/util/function/BiFunction;" o A s s.heap → W p l e (rmd 1) s m args below meth c H locs 0 0 Qf (F0 m (0 + 1 + 1) ls [.int n, .int x]) := by
    intro o ho hZ
    refine va_gets (index := 1053) (own := "java/lang/String") (ref := "jdk/internal/util/Preconditions") hF.1 hF.2.1 hZ hS hF.2.2.2.1 (hF.2.2.2.2 _ (memB_gtb (by decide +kernel))) (fun _ h => h) (by decide +kernel) ?_
    refine ws_si (idx := 1059) (n := 3) (av := [.int x, .int n, o]) (rest := []) (own := "java/lang/String") (st_pchk h1 h2 ho) hF hK (by decide +kernel) (by decide +kernel) (by decide +kernel) (by decide +kernel) (by decide +kernel) rfl ⟨Nat.le_of_ble_eq_true rfl, Nat.le_of_ble_eq_true rfl⟩ ⟨Nat.le_refl _, Nat.le_refl _⟩ hl.1 (by decide +kernel) (Nat.le_of_ble_eq_true rfl) rfl (fun H1 locs1 hK1 => ?_)
    refine lv_pop hF.1 hF.2.1 (by decide +kernel) rfl ?_
    exact fin _ ls H1 locs1 (by decide +kernel) hK1
  rcases hX.2.2.2 with h | ⟨t, h⟩
  · exact go _ (Or.inl rfl) h
  · exact go _ (Or.inr ⟨t, rfl⟩) h
theorem st_lchr {x : Int32} (hi : i < 17) (hx : vp_in x (sLen i)) : Sti yLchr prog_14_method_2_code 2 .char 2 [.ref (sv i), .int x] sa sv (sCh i x.toNatClampNeg) := by
  have hx0 : ¬ x < 0 := fun z => hx (Or.inl z)
  have hx1 : x.toNatClampNeg < lenT.getD i 0 := Nat.lt_of_not_le (fun z => hx (Or.inr z))
  have hxl : x < nI (sLen i) := by
    obtain ⟨k, hk, rfl⟩ := nI_of hx0
    rw [nI_clamp hk] at hx1
    exact nI_lt hx1 (lenT_lt i hi)
  have hb := sCh_b i hi _ hx1
  have hnar : narrow .char (.int (sCh i x.toNatClampNeg)) = .int (sCh i x.toNatClampNeg) := by
    have := sc_nar (sCh i x.toNatClampNeg)
    rwa [hb] at this
  refine sti_of (by decide) (Nat.le_of_ble_eq_true rfl) hnar ?_
  intro p l e s m args below meth c Qf A ls H locs hF hl fin hK
  have hl : lv_has ls 2 (lv_args 0 [.ref (sv i), .int x]) := hl
  obtain ⟨hX, hA, hS⟩ := id hK
  have hI := hX.1.1 i hi
  refine lv_iload_n (k := 1) (i := 1) hF.1 hF.2.1 (by decide +kernel) rfl (lv_at hl 1 rfl) ?_
  refine lv_aload_n (k := 0) (i := 0) hF.1 hF.2.1 (by decide +kernel) rfl (lv_at hl 0 rfl) ?_
  refine va_tlen (v := nI (sLen i)) hF.1 hF.2.1 hI.2.2.2 hS rfl (by decide +kernel) ?_
  refine ws_sv (idx := 9) (n := 2) (av := [.int x, .int (nI (sLen i))]) (rest := []) (own := "java/lang/StringLatin1") (st_schk hx0 hxl) hF hK (by decide +kernel) (by decide +kernel) (by decide +kernel) (by decide +kernel) (by decide +kernel) rfl ⟨Nat.le_of_ble_eq_true rfl, Nat.le_of_ble_eq_true rfl⟩ ⟨Nat.le_refl _, Nat.le_refl _⟩ hl.1 (by decide +kernel) (Nat.le_of_ble_eq_true rfl) rfl (fun H1 locs1 hK1 => ?_)
  refine lv_aload_n (k := 0) (i := 0) hF.1 hF.2.1 (by decide +kernel) rfl (lv_at hl 0 rfl) ?_
  refine lv_iload_n (k := 1) (i := 1) hF.1 hF.2.1 (by decide +kernel) rfl (lv_at hl 1 rfl) ?_
  refine va_tb (v := .int (sCh i x.toNatClampNeg)) hF.1 hF.2.1 hI.2.2.2 hK1.2.2 hx rfl (by decide +kernel) ?_
  refine lv_sipush (n := 255) (v := 255) hF.1 hF.2.1 (by decide +kernel) (by decide) ?_
  refine lv_iand hF.1 hF.2.1 (by decide +kernel) ?_
  refine lv_i2c (v := sCh i x.toNatClampNeg) hF.1 hF.2.1 (by decide +kernel) ((sc_c2 _).trans hb) ?_
  exact fin _ ls H1 locs1 (by decide +kernel) hK1
theorem st_chr {x : Int32} (hi : i < 17) (hx : vp_in x (sLen i)) : Sti ySchr prog_13_method_56_code 2 .char 3 [.ref (sa i), .int x] sa sv (sCh i x.toNatClampNeg) := by
  have hx1 : x.toNatClampNeg < lenT.getD i 0 := Nat.lt_of_not_le (fun z => hx (Or.inr z))
  have hb := sCh_b i hi _ hx1
  have hnar : narrow .char (.int (sCh i x.toNatClampNeg)) = .int (sCh i x.toNatClampNeg) := by
    have := sc_nar (sCh i x.toNatClampNeg)
    rwa [hb] at this
  refine sti_of (by decide) (Nat.le_of_ble_eq_true rfl) hnar ?_
  intro p l e s m args below meth c Qf A ls H locs hF hl fin hK
  have hl : lv_has ls 2 (lv_args 0 [.ref (sa i), .int x]) := hl
  obtain ⟨hX, hA, hS⟩ := id hK
  have hI := hX.1.1 i hi
  refine lv_aload_n (k := 0) (i := 0) hF.1 hF.2.1 (by decide +kernel) rfl (lv_at hl 0 rfl) ?_
  refine ws_vi (idx := 492) (n := 0) (av := []) (rest := []) (own := "java/lang/String") (st_latin hi) hF hK hi (by decide +kernel) (by decide +kernel) (by decide +kernel) (by decide +kernel) (by decide +kernel) (by decide +kernel) rfl ⟨Nat.le_of_ble_eq_true rfl, Nat.le_of_ble_eq_true rfl⟩ ⟨Nat.le_refl _, Nat.le_refl _⟩ hl.1 (by decide +kernel) (Nat.le_of_ble_eq_true rfl) rfl (fun H1 locs1 _ hK1 => ?_)
  refine lv_if_eq (off := 12) (tgt := 16) hF.1 hF.2.1 (by decide +kernel) rfl (fun z => absurd z (by decide)) (fun _ => ?_)
  refine lv_aload_n (k := 0) (i := 0) hF.1 hF.2.1 (by decide +kernel) rfl (lv_at hl 0 rfl) ?_
  refine vk_getf (index := 9) (own := "java/lang/String") (ref := "java/lang/String") hF.1 hF.2.1 hI.2.2.1 hK1.2.2 hF.2.2.2.1 (hF.2.2.2.2 _ (memB_gtb (by decide +kernel))) (fun _ h => h) (by decide +kernel) ?_
  refine lv_iload_n (k := 1) (i := 1) hF.1 hF.2.1 (by decide +kernel) rfl (lv_at hl 1 rfl) ?_
  refine ws_si (idx := 495) (n := 2) (av := [.ref (sv i), .int x]) (rest := []) (own := "java/lang/String") (st_lchr hi hx) hF hK1 (by decide +kernel) (by decide +kernel) (by decide +kernel) (by decide +kernel) (by decide +kernel) rfl ⟨Nat.le_of_ble_eq_true rfl, Nat.le_of_ble_eq_true rfl⟩ ⟨Nat.le_refl _, Nat.le_refl _⟩ hl.1 (by decide +kernel) (Nat.le_of_ble_eq_true rfl) rfl (fun H2 locs2 hK2 => ?_)
  exact fin _ ls H2 locs2 (by decide +kernel) hK2
end STM
section SND3
variable {d y : Nat} {scr : Option (Nat × (Nat → Int32))} {Q : Wd → Option PV → Prop} {p : Program} {l : Launch} {e : Env} {R : Room} {s : State} {m : MethodId} {args : Array Value} {below : List Frame} {meth : Method} {c : Code} {cells slots : Nat} {Qf : State → Prop} {D : va_G} {cI cZ cQ : ClassId} {sa sv : Nat → Nat} {ad : Key → Nat} {ks : List Key} {A : Nat → Prop}
variable {pc : Nat} {ls : Ls} {st t : List PV} {w : Wd} {v : Int32} {a b nx : Nat}
theorem call_k {a' : Array Value} {pc : Nat} {ls' : Array Slot} {st0 rest : List Value} {H : Heap} {locs : List Loc} {Q' : Wd → Option PV → Prop} (hr : va_Run p l e R s m args below meth c H locs cells slots 0 0 (F0 m pc ls' st0) rest (Post0 D cI cZ cQ sa ad ks Q' (va_A (wl cI cZ cQ sa ad ks w) H.size) a') (va_A (wl cI cZ cQ sa ad ks w) H.size)) (hW : Wx s D cI cZ cQ sa ad ks A w H locs) (hA : ∀ q, s.heap.size ≤ q → A q)
    (kk : ∀ (w' : Wd) (r : Option PV) (H1 : Heap) (locs1 : List Loc), Q' w' r → Wx s D cI cZ cQ sa ad ks A w' H1 locs1 → (∀ v, r = some v → vok ks v) → W p l e R s m args below meth c H1 locs1 cells slots Qf (F0 m (pc + 3) ls' (r.toList.map (conc sa ad) ++ rest))) : W p l e R s m args below meth c H locs cells slots Qf (F0 m pc ls' st0) := by
  intro T hT X
  obtain ⟨v, st₀, t, T', L, h0, X', hL, e1, e2, ⟨⟨w', r, hv, hq, hwf', hvr, hP'⟩, hz, hk⟩, st⟩ := hr T hT X
  obtain ⟨hwf, hP, hD, hS⟩ := hW
  rw [h0] at hz hk
  have hv : v = r.map (conc sa ad) := by injection hv
  have hsub : ∀ q, va_A (wl cI cZ cQ sa ad ks w) H.size q → A q := by
    intro q h
    rcases h with ⟨k, e0, h⟩ | h
    · exact hD.2 k (q, e0) h
    · exact hA q (Nat.le_trans hS.1 h)
  obtain ⟨t2, a1, b1⟩ := kk w' r T'.heap (locs ++ L) hq ⟨hwf', by rw [e1]; exact hP', va_D_w hD, Nat.le_trans hS.1 (by rw [e1]; exact hz), fun q h1 h2 => by rw [e1, hk q (Nat.lt_of_lt_of_le h1 hS.1) (fun z => h2 (hsub q z))]; exact hS.2.1 q h1 h2, fun q hq => by
      rcases List.mem_append.mp hq with h | h
      · exact hS.2.2 q h
      · exact hsub _ (hL q h)⟩ hvr T' rfl X'
  refine ⟨t2, st t2 ?_, b1⟩
  subst hv
  cases r with
  | none => exact a1
  | some u => exact a1
theorem sub_A {H : Heap} {locs : List Loc} (hW : Wx s D cI cZ cQ sa ad ks A w H locs) (hA : ∀ q, s.heap.size ≤ q → A q) : ∀ q, va_A (wl cI cZ cQ sa ad ks w) H.size q → A q := by
  intro q h
  obtain ⟨hwf, hP, hD, hS⟩ := hW
  rcases h with ⟨k, e0, h⟩ | h
  · exact hD.2 k (q, e0) h
  · exact hA q (Nat.le_trans hS.1 h)
theorem pre_U {av : List PV} {H : Heap} {locs : List Loc} (hC : Cx D cI cZ cQ sa sv A s) (hW : Wx s D cI cZ cQ sa ad ks A w H locs) (hA : ∀ q, s.heap.size ≤ q → A q) : ∀ U : State, U.heap = H → s.WarmedH U.vm → va_Pc (av.map (conc sa ad)) (Pre0 D cI cZ cQ sa sv ad ks w H.size) (av.map (conc sa ad)).toArray U := by
  intro U hU hw
  have hs := sub_A hW hA
  obtain ⟨hwf, hP, hD, hS⟩ := hW
  exact ⟨rfl, by rw [hU], by rw [hU]; exact hP, hD.weaken (fun _ _ _ _ => trivial), hC.go hS hU hw hs⟩
theorem goodw {a : Nat} (h : Cond.code (yN a) (yC a) (yL a) (yR a) ∈ gtb) : GoodIn gtb (ywd a) := by
  intro w hw
  rcases List.mem_cons.mp hw with e0 | h1
  · subst e0
    exact gtb_good _ h
  · exact gtb_good _ h1
set_option maxHeartbeats 8000000 in
theorem so_3 {av : List PV} {d' : Nat} {Q' : Wd → Option PV → Prop} {K : Wd → Option PV → Prop} (hF : Fr y d p R s m args c cells slots) (hC : Cx D cI cZ cQ sa sv A s) (hA : ∀ q, s.heap.size ≤ q → A q) (hI : ins y pc = (3, v, a, b, nx)) (hp : popN (b % 8) st [] = some (av, t)) (hk : rck (b / 8) av = true) (hc : csum t ≤ 8) (hd' : d' < d) (hM : Ctr d' a av w Q') (kk : ∀ w' r, Q' w' r → K w' r) (k1 : ∀ w', K w' none → GG y p l e R s m args below meth c cells slots Qf D cI cZ cQ sa ad ks A nx ls t w') (k2 : ∀ w' u, K w' (some u) → GG y p l e R s m args below meth c cells slots Qf D cI cZ cQ sa ad ks A nx ls (u :: t) w') : GG y p l e R s m args below meth c cells slots Qf D cI cZ cQ sa ad ks A pc ls st w := by
  obtain ⟨i, n, hd, hn, hr⟩ := get_rel hI (by decide)
  subst hn
  intro H locs ls' hW hL hv hs
  obtain ⟨pre, h1, h2, h3⟩ := popN_spec _ _ _ _ _ hp
  rw [List.append_nil] at h3
  subst h1
  have hav : ∀ u ∈ av, vok ks u := fun u hu => hs u (List.mem_append_left _ (by rw [h3] at hu; exact List.mem_reverse.mp hu))
  have hst : ∀ u ∈ t, vok ks u := fun u hu => hs u (List.mem_append_right _ hu)
  have hM := hM l D cI cZ cQ sa sv ad ks H.size hW.1 hav
  have hfr : d' + 1 ≤ R.frames := Nat.le_trans hd' hF.2.2.2.2.2.1
  have hlo : yL a ≤ 20 → 8 + (yL a + 11) + 40 * d' ≤ R.locals := fun h => by
    have := hF.2.2.2.2.2.2.1
    omega
  have hfin : ∀ (w' : Wd) (r : Option PV) (H1 : Heap) (locs1 : List Loc), Q' w' r → Wx s D cI cZ cQ sa ad ks A w' H1 locs1 → (∀ v, r = some v → vok ks v) → W p l e R s m args below meth c H1 locs1 cells slots Qf (F0 m (pc + 3) ls' (r.toList.map (conc sa ad) ++ t.map (conc sa ad))) → True := fun _ _ _ _ _ _ _ _ => trivial
  have hroom : ((t.map (conc sa ad)).map fun v => v.category).sum ≤ 8 := by rw [csum_conc]; exact hc
  have hcs : cells + 0 ≤ R.cells ∧ slots + 0 ≤ R.slots := hF.2.2.2.2.2.2.2
  have hmap : (pre ++ t).map (conc sa ad) = (av.map (conc sa ad)).reverse ++ t.map (conc sa ad) := by
    rw [h3, List.map_append, List.map_reverse, List.reverse_reverse]
  have hlen : av.length = b % 8 := by rw [h3, List.length_reverse, h2]
  have hgo : ∀ (w' : Wd) (r : Option PV) (H1 : Heap) (locs1 : List Loc), n = 3 → Q' w' r → Wx s D cI cZ cQ sa ad ks A w' H1 locs1 → (∀ v, r = some v → vok ks v) → W p l e R s m args below meth c H1 locs1 cells slots Qf (F0 m (pc + 3) ls' (r.toList.map (conc sa ad) ++ t.map (conc sa ad))) := by
    intro w' r H1 locs1 hn3 hq hW1 hvr
    subst hn3
    cases r with
    | none => exact k1 w' (kk _ _ hq) H1 locs1 ls' hW1 hL hv hst
    | some u => exact k2 w' u (kk _ _ hq) H1 locs1 ls' hW1 hL hv (vk1 (hvr u rfl) hst)
  simp only [rel] at hr
  split at hr
  · simp only [Bool.and_eq_true] at hr
    obtain ⟨g1, g2⟩ := hr
    obtain rfl := nbeq g2
    obtain ⟨m1, m2, ⟨m3, m4, m5, m6, m7⟩, m8, m9, m10, m11, m12⟩ := cpM_0 g1
    rw [m9] at hk
    match av, hk with
    | .inr (.inr (.inl (bb, k, i))) :: as, hk =>
      have hki := kc_of (show kc bb k (yO a) = true from hk)
      have hq : ((bb, k, i) : Key) ∈ ks := hav _ List.mem_cons_self
      obtain ⟨q0, hq0, hat⟩ := wl_at (cI := cI) (cZ := cZ) (cQ := cQ) (sa := sa) (ad := ad) (w := w) hq
      rw [cellE_obj hki] at hat
      obtain ⟨hc1, -⟩ := cl_ok (yO a) m11
      refine call_k (va_runV (C := (yN a).cls) (As := as.map (conc sa ad)) (rest := t.map (conc sa ad)) (bytes := yC a) (maxL := yL a) (ret := yR a) ⟨hF.1, hF.2.1, hF.2.2.1, hF.2.2.2.1, hF.2.2.2.2.1⟩ hM ⟨callB_of (b % 8 - 1) hF.2.2.2.2.1 (goodw m7) rfl rfl rfl (hF.2.2.2.2.1 _ m6) (hF.2.2.2.2.1 _ m3) ⟨m1.1, m1.2, m8⟩ ⟨hfr, hlo m2⟩, hF.2.2.2.2.1 _ m4, hF.2.2.2.2.1 _ m5⟩ ⟨Pre0.blind, ?_, pre_U (av := .inr (.inr (.inl (bb, k, i))) :: as) hC hW hA⟩ rfl ?_ hL.1 ?_ (lv_room hroom) hd hcs) hW hA (fun w' r H1 locs1 hq hW1 hvr => hgo w' r H1 locs1 rfl hq hW1 hvr)
      · have := va_recv hC.1 hW.2.1 hc1 hat
        rw [m12] at this
        exact this
      · have : (as.length + 1) = b % 8 := hlen
        rw [List.length_map]
        omega
      · show (pre ++ t).map (conc sa ad) = _
        rw [hmap]
        simp [conc]
    | [], hk => simp [rck] at hk
    | .inl _ :: _, hk => simp [rck] at hk
    | .inr (.inl _) :: _, hk => simp [rck] at hk
    | .inr (.inr (.inr _)) :: _, hk => simp [rck] at hk
  · rename_i idx'
    simp only [Bool.and_eq_true, Bool.or_eq_true] at hr
    obtain ⟨g1, g2⟩ := hr
    obtain rfl := nbeq g2
    rcases g1 with g1 | g1
    · obtain ⟨m1, m2, ⟨m3, m4, m5, m6⟩, m7, m8⟩ := cpM_1 g1
      refine call_k (va_runS (As := av.map (conc sa ad)) (rest := t.map (conc sa ad)) (bytes := yC a) (maxL := yL a) (ret := yR a) ⟨hF.1, hF.2.1, hF.2.2.1, hF.2.2.2.1, hF.2.2.2.2.1⟩ hM ⟨callB_of b hF.2.2.2.2.1 (goodw m6) rfl rfl rfl (hF.2.2.2.2.1 _ m5) (hF.2.2.2.2.1 _ m3) ⟨m1.1, m1.2, m7⟩ ⟨hfr, hlo m2⟩, hF.2.2.2.2.1 _ m4⟩ ⟨Pre0.blind, pre_U hC hW hA⟩ rfl ?_ hL.1 hmap (lv_room hroom) hd hcs) hW hA (fun w' r H1 locs1 hq hW1 hvr => hgo w' r H1 locs1 rfl hq hW1 hvr)
      rw [List.length_map, hlen]
      omega
    · obtain ⟨ps, m0, m1, m2, ⟨m4, m5, m6⟩, m7, m8⟩ := cpM_2 g1
      have hnw : va_Nw (.methodLinkNest (cN (yO y)) idx' (yN a) "IfYouWill") s := hC.2.1 _ m0 rfl
      refine call_k (va_runSN (own := cN (yO y)) (host := "IfYouWill") (index := idx') (As := av.map (conc sa ad)) (rest := t.map (conc sa ad)) (bytes := yC a) (maxL := yL a) (ret := yR a) ⟨hF.1, hF.2.1, hF.2.2.1, hF.2.2.2.1, hF.2.2.2.2.1⟩ hM ⟨va_cnB b hF.2.2.2.2.1 (goodw m6) rfl rfl rfl hnw (hF.2.2.2.2.1 _ m5) ⟨m1.1, m1.2, m7⟩ ⟨hfr, hlo m2⟩, hF.2.2.2.2.1 _ m4, trivial⟩ ⟨Pre0.blind, pre_U hC hW hA⟩ rfl ?_ hL.1 hmap (lv_room hroom) hd hcs) hW hA (fun w' r H1 locs1 hq hW1 hvr => hgo w' r H1 locs1 rfl hq hW1 hvr)
      rw [List.length_map, hlen]
      omega
  · cases hr
theorem so_19 (hfin : (∀ (pc' : Nat) (w' : Wd) (r : Option PV) (H : Heap) (locs : List Loc) (ls' : Array Slot), Wx s D cI cZ cQ sa ad ks A w' H locs → (∀ v, r = some v → vok ks v) → rtk y pc' r → Q w' r → W p l e R s m args below meth c H locs cells slots Qf (F0 m pc' ls' (r.toList.map (conc sa ad))))) (hI : ins y pc = (19, v, a, b, nx)) (hq : Q w none) : GG y p l e R s m args below meth c cells slots Qf D cI cZ cQ sa ad ks A pc ls [] w := by
  obtain ⟨i, n, hd, hn, hr⟩ := get_rel hI (by decide)
  simp only [rel, isI, Bool.and_eq_true, decide_eq_true_eq] at hr
  obtain ⟨rfl, h2, h3⟩ := hr
  obtain rfl := nbeq h2
  intro H locs ls' hW hL hv hs
  exact hfin pc w none H locs ls' hW (fun u hu => by cases hu) ⟨hd, h3⟩ hq
theorem so_5 {x : Int32} (hfin : (∀ (pc' : Nat) (w' : Wd) (r : Option PV) (H : Heap) (locs : List Loc) (ls' : Array Slot), Wx s D cI cZ cQ sa ad ks A w' H locs → (∀ v, r = some v → vok ks v) → rtk y pc' r → Q w' r → W p l e R s m args below meth c H locs cells slots Qf (F0 m pc' ls' (r.toList.map (conc sa ad))))) (hI : ins y pc = (5, v, a, b, nx)) (hq : Q w (some (vI x))) : GG y p l e R s m args below meth c cells slots Qf D cI cZ cQ sa ad ks A pc ls [vI x] w := by
  obtain ⟨i, n, hd, hn, hr⟩ := get_rel hI (by decide)
  simp only [rel, isI, Bool.and_eq_true, decide_eq_true_eq] at hr
  obtain ⟨rfl, h2, h3⟩ := hr
  obtain rfl := nbeq h2
  intro H locs ls' hW hL hv hs
  exact hfin pc w (some (vI x)) H locs ls' hW (fun u hu => by cases hu; trivial) ⟨hd, _, h3, rfl⟩ hq
theorem so_54 {x : Int32} (hfin : (∀ (pc' : Nat) (w' : Wd) (r : Option PV) (H : Heap) (locs : List Loc) (ls' : Array Slot), Wx s D cI cZ cQ sa ad ks A w' H locs → (∀ v, r = some v → vok ks v) → rtk y pc' r → Q w' r → W p l e R s m args below meth c H locs cells slots Qf (F0 m pc' ls' (r.toList.map (conc sa ad))))) (hI : ins y pc = (54, v, a, b, nx)) (hz : zok x) (hq : Q w (some (vI x))) : GG y p l e R s m args below meth c cells slots Qf D cI cZ cQ sa ad ks A pc ls [vI x] w := by
  obtain ⟨i, n, hd, hn, hr⟩ := get_rel hI (by decide)
  simp only [rel, isI, Bool.and_eq_true, decide_eq_true_eq] at hr
  obtain ⟨rfl, h2, h3⟩ := hr
  obtain rfl := nbeq h2
  intro H locs ls' hW hL hv hs
  exact hfin pc w (some (vI x)) H locs ls' hW (fun u hu => by cases hu; trivial) ⟨hd, _, h3, hz⟩ hq
theorem so_51 {q : Key} (hfin : (∀ (pc' : Nat) (w' : Wd) (r : Option PV) (H : Heap) (locs : List Loc) (ls' : Array Slot), Wx s D cI cZ cQ sa ad ks A w' H locs → (∀ v, r = some v → vok ks v) → rtk y pc' r → Q w' r → W p l e R s m args below meth c H locs cells slots Qf (F0 m pc' ls' (r.toList.map (conc sa ad))))) (hI : ins y pc = (51, v, a, b, nx)) (hq : Q w (some (.inr (.inr (.inl q))))) : GG y p l e R s m args below meth c cells slots Qf D cI cZ cQ sa ad ks A pc ls [.inr (.inr (.inl q))] w := by
  obtain ⟨i, n, hd, hn, hr⟩ := get_rel hI (by decide)
  simp only [rel, isI, Bool.and_eq_true, decide_eq_true_eq] at hr
  obtain ⟨rfl, h2, h3⟩ := hr
  obtain rfl := nbeq h2
  intro H locs ls' hW hL hv hs
  exact hfin pc w (some (.inr (.inr (.inl q)))) H locs ls' hW (fun u hu => by cases hu; exact vkh hs) ⟨hd, _, h3⟩ hq
theorem so_52 {i : Nat} (hF : Fr y d p R s m args c cells slots) (hC : Cx D cI cZ cQ sa sv A s) (hA : ∀ q, s.heap.size ≤ q → A q) (hI : ins y pc = (52, v, a, b, nx)) (hi : i < 17) (hd3 : 3 < d ∧ csum t ≤ 8) (kk : GG y p l e R s m args below meth c cells slots Qf D cI cZ cQ sa ad ks A nx ls (vI (nI (sLen i)) :: t) w) : GG y p l e R s m args below meth c cells slots Qf D cI cZ cQ sa ad ks A pc ls (vS i :: t) w := by
  obtain ⟨i0, n, hd, hn, hr⟩ := get_rel hI (by decide)
  simp only [rel, isI, Bool.and_eq_true, decide_eq_true_eq] at hr
  obtain ⟨rfl, h2, h3⟩ := hr
  obtain rfl := nbeq h2
  have h3 := nbeq h3
  intro H locs ls' hW hL hv hs
  have hFr : FrS (cN 3) (yC y) (yL y) p s m args c := ⟨hF.1, hF.2.1, hF.2.2.1, by rw [← h3]; exact hF.2.2.2.1, hF.2.2.2.2.1⟩
  obtain ⟨r1, r2, r3, r4⟩ := hF.2.2.2.2.2
  subst hn
  refine ws_vi (idx := 175) (n := 0) (i := i) (av := []) (rest := t.map (conc sa ad)) (st_len hi) hFr ⟨hC.2.2, hA, hW.2.2.2⟩ hi (by decide +kernel) (by decide +kernel) (by decide +kernel) (by decide +kernel) (by decide +kernel) (by decide +kernel) rfl ⟨by omega, by omega⟩ ⟨r3, r4⟩ hL.1 hd (by rw [csum_conc]; exact hd3.2) rfl (fun H1 locs1 hk hK1 => ?_)
  exact kk H1 locs1 ls' ⟨hW.1, fun k q h => (hW.2.1 k q h).kept (hk _ (hW.2.1 k q h).lt), hW.2.2.1, hK1.2.2⟩ hL hv (fun u hu => by
    rcases List.mem_cons.mp hu with e0 | h
    · rw [e0]
      trivial
    · exact hs u (List.mem_cons_of_mem _ h))
theorem so_53 {i : Nat} {x : Int32} (hF : Fr y d p R s m args c cells slots) (hC : Cx D cI cZ cQ sa sv A s) (hA : ∀ q, s.heap.size ≤ q → A q) (hI : ins y pc = (53, v, a, b, nx)) (hi : i < 17) (hd6 : 6 < d ∧ csum t ≤ 8) (hx : vp_in x (sLen i)) (kk : GG y p l e R s m args below meth c cells slots Qf D cI cZ cQ sa ad ks A nx ls (vI (sCh i x.toNatClampNeg) :: t) w) : GG y p l e R s m args below meth c cells slots Qf D cI cZ cQ sa ad ks A pc ls (vI x :: vS i :: t) w := by
  obtain ⟨i0, n, hd, hn, hr⟩ := get_rel hI (by decide)
  simp only [rel, isI, Bool.and_eq_true, decide_eq_true_eq] at hr
  obtain ⟨rfl, h2, h3⟩ := hr
  obtain rfl := nbeq h2
  have h3 := nbeq h3
  intro H locs ls' hW hL hv hs
  have hFr : FrS (cN 3) (yC y) (yL y) p s m args c := ⟨hF.1, hF.2.1, hF.2.2.1, by rw [← h3]; exact hF.2.2.2.1, hF.2.2.2.2.1⟩
  obtain ⟨r1, r2, r3, r4⟩ := hF.2.2.2.2.2
  subst hn
  refine ws_vi (idx := 180) (n := 1) (i := i) (av := [.int x]) (rest := t.map (conc sa ad)) (st_chr hi hx) hFr ⟨hC.2.2, hA, hW.2.2.2⟩ hi (by decide +kernel) (by decide +kernel) (by decide +kernel) (by decide +kernel) (by decide +kernel) (by decide +kernel) rfl ⟨by omega, by omega⟩ ⟨r3, r4⟩ hL.1 hd (by rw [csum_conc]; exact hd6.2) rfl (fun H1 locs1 hk hK1 => ?_)
  exact kk H1 locs1 ls' ⟨hW.1, fun k q h => (hW.2.1 k q h).kept (hk _ (hW.2.1 k q h).lt), hW.2.2.1, hK1.2.2⟩ hL hv (fun u hu => by
    rcases List.mem_cons.mp hu with e0 | h
    · rw [e0]
      trivial
    · exact hs u (List.mem_cons_of_mem _ (List.mem_cons_of_mem _ h)))
end SND3


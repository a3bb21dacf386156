/-! the JDK's own methods of String, at the constants -/
def ySlen : MethodName := ⟨"java/lang/String", "length", "()I"⟩
def yScod : MethodName := ⟨"java/lang/String", "coder", "()B"⟩
def ySchr : MethodName := ⟨"java/lang/String", "charAt", "(I)C"⟩
def ySlat : MethodName := ⟨"java/lang/String", "isLatin1", "()Z"⟩
def yLchr : MethodName := ⟨"java/lang/StringLatin1", "charAt", "([BI)C"⟩
def ySchk : MethodName := ⟨"java/lang/String", "checkIndex", "(II)V"⟩
def yPchk : MethodName := ⟨"jdk/internal/util/Preconditions", "checkIndex", "(IILjava/util/function/BiFunction;)I"⟩
theorem vaN {sz q : Nat} (h : va_A [] sz q) : sz ≤ q := by
  rcases h with ⟨k, e0, z⟩ | z
  · simp at z
  · exact z
def PrJ (sa sv : Nat → Nat) (sz : Nat) (U : State) : Prop := U.heap.size = sz ∧ StrX sa sv (va_A [] sz) U
theorem PrJ.blind {av : List Value} {sa sv : Nat → Nat} {sz : Nat} : FrameBlind (va_Pc av (PrJ sa sv sz)) := by
  intro a' U g mk h
  obtain ⟨h1, h2, h7, h8, h9, h10⟩ := h
  exact ⟨h1, h2, vk_S.moved (u := U) (U := U.calling g mk a') (Vm.Alike.refl U.vm) h7, fun i e0 he => vk_R.same (u := U) (U := U.calling g mk a') rfl (h8 i e0 he), va_Z.moved (u := U) (U := U.calling g mk a') (Vm.Alike.refl U.vm) h9, va_Zq.moved (u := U) (U := U.calling g mk a') (Vm.Alike.refl U.vm) h10⟩
def Sti (y : MethodName) (cc : ByteArray) (nL : Nat) (ret : FieldType) (f : Nat) (av : List Value) (sa sv : Nat → Nat) (r : Int32) : Prop := ∀ (l : Launch) (sz : Nat), Met l y (.code y cc nL (some ret) :: gtb) (rmd f) (va_Pc av (PrJ sa sv sz)) (va_Qi (fun x (_ : Unit) => x = r) (fun _ _ => True) (va_A [] sz)) 0 0 (va_A [] sz)
def Stv (y : MethodName) (cc : ByteArray) (nL : Nat) (f : Nat) (av : List Value) (sa sv : Nat → Nat) : Prop := ∀ (l : Launch) (sz : Nat), Met l y (.code y cc nL none :: gtb) (rmd f) (va_Pc av (PrJ sa sv sz)) (va_Qv (fun (_ : Unit) => True) (fun _ _ => True) (va_A [] sz)) 0 0 (va_A [] sz)
def FrS (o : String) (cc : ByteArray) (nL : Nat) (p : Program) (s : State) (m : MethodId) (args : Array Value) (c : Code) : Prop := p.tables.exec = Jvm.exec ∧ c.code = cc ∧ c.maxLocals = nL ∧ s.vm.findClass o = some m.cls ∧ ∀ w ∈ gtb, w.before args s = true
def KS (s : State) (sa sv : Nat → Nat) (A : Nat → Prop) (H : Heap) (locs : List Loc) : Prop := StrX sa sv A s ∧ (∀ q, s.heap.size ≤ q → A q) ∧ va_S A s.heap H locs
theorem goods {y : MethodName} {cy : ByteArray} {k : Nat} {ret : Option FieldType} (h : memB (.code y cy k ret) = true) : GoodIn gtb (.code y cy k ret :: gtb) := by
  intro w hw
  rcases List.mem_cons.mp hw with e0 | h1
  · subst e0
    exact gtb_good _ (memB_gtb h)
  · exact gtb_good _ h1
theorem sti_of {y : MethodName} {cc : ByteArray} {nL f : Nat} {ret : FieldType} {av : List Value} {sa sv : Nat → Nat} {r : Int32} (hy : plainFor y = true) (hl : (lg_sl av).length ≤ nL) (hn : narrow ret (.int r) = .int r)
    (h : ∀ (p : Program) (l : Launch) (e : Env) (s : State) (m : MethodId) (args : Array Value) (below : List Frame) (meth : Method) (c : Code) (Qf : State → Prop) (A : Nat → Prop) (ls : Array Slot) (H : Heap) (locs : List Loc), FrS y.cls cc nL p s m args c → lv_has ls nL (lv_args 0 av) →
      (∀ (pc : Nat) (ls' : Array Slot) (H : Heap) (locs : List Loc), decode cc pc = .ok (.ireturn, 1) → KS s sa sv A H locs → W p l e (rmd f) s m args below meth c H locs 0 0 Qf (F0 m pc ls' [.int r])) →
      KS s sa sv A H locs → W p l e (rmd f) s m args below meth c H locs 0 0 Qf (F0 m 0 ls [])) : Sti y cc nL ret f av sa sv r := by
  intro l sz
  refine va_MetF (cc := cc) (maxL := nL) (ret := some ret) hy rfl ?_
  intro p e s m args below meth c s₁ B hml hv
  obtain ⟨rfl, hsz, hX⟩ := hv
  have hx := B.exec
  have hb := B.bytes
  have hr := B.returns
  have hts := atoms_spec (ws := .code y cc nL (some ret) :: gtb) B.pre
  have hown : s.vm.findClass y.cls = some m.cls := findClass_of_methodNamed B.named
  have hlocks := B.notSynchronized
  subst hsz
  rw [lg_entry_eq]
  refine h p l e s m _ below meth c _ (va_A [] s.heap.size) _ s.heap [] ⟨hx, hb, hml, hown, fun w hw => hts w (List.mem_cons_of_mem _ hw)⟩ (lv_entry av hl) ?_ ⟨hX, fun q h => Or.inr h, va_S.rf⟩
  intro pc ls' H locs hd hK
  obtain ⟨-, -, hS'⟩ := hK
  exact W.zret hx hb hr hn (fun t ht hW => ⟨⟨r, (), rfl, rfl, trivial⟩, hS'.F ht⟩) hS'.2.2 hd
theorem stv_of {y : MethodName} {cc : ByteArray} {nL f : Nat} {av : List Value} {sa sv : Nat → Nat} (hy : plainFor y = true) (hl : (lg_sl av).length ≤ nL)
    (h : ∀ (p : Program) (l : Launch) (e : Env) (s : State) (m : MethodId) (args : Array Value) (below : List Frame) (meth : Method) (c : Code) (Qf : State → Prop) (A : Nat → Prop) (ls : Array Slot) (H : Heap) (locs : List Loc), FrS y.cls cc nL p s m args c → lv_has ls nL (lv_args 0 av) →
      (∀ (pc : Nat) (ls' : Array Slot) (H : Heap) (locs : List Loc), decode cc pc = .ok (.return_, 1) → KS s sa sv A H locs → W p l e (rmd f) s m args below meth c H locs 0 0 Qf (F0 m pc ls' [])) →
      KS s sa sv A H locs → W p l e (rmd f) s m args below meth c H locs 0 0 Qf (F0 m 0 ls [])) : Stv y cc nL f av sa sv := by
  intro l sz
  refine va_MetF (cc := cc) (maxL := nL) (ret := none) hy rfl ?_
  intro p e s m args below meth c s₁ B hml hv
  obtain ⟨rfl, hsz, hX⟩ := hv
  have hx := B.exec
  have hb := B.bytes
  have hr := B.returns
  have hts := atoms_spec (ws := .code y cc nL none :: gtb) B.pre
  have hown : s.vm.findClass y.cls = some m.cls := findClass_of_methodNamed B.named
  have hlocks := B.notSynchronized
  subst hsz
  rw [lg_entry_eq]
  refine h p l e s m _ below meth c _ (va_A [] s.heap.size) _ s.heap [] ⟨hx, hb, hml, hown, fun w hw => hts w (List.mem_cons_of_mem _ hw)⟩ (lv_entry av hl) ?_ ⟨hX, fun q h => Or.inr h, va_S.rf⟩
  intro pc ls' H locs hd hK
  obtain ⟨-, -, hS'⟩ := hK
  exact W.vret hx hb hr (fun t ht hW => ⟨⟨(), rfl, trivial, trivial⟩, hS'.F ht⟩) hS'.2.2 hd
section STR
variable {p : Program} {l : Launch} {e : Env} {R : Room} {s : State} {m : MethodId} {args : Array Value} {below : List Frame} {meth : Method} {c : Code} {cells slots : Nat} {Qf : State → Prop} {sa sv : Nat → Nat} {A : Nat → Prop}
variable {own : String} {cc cy : ByteArray} {nL kL f idx n i pc : Nat} {y : MethodName} {ret : FieldType} {av rest st0 : List Value} {r : Int32} {ls : Array Slot} {H : Heap} {locs : List Loc}
theorem ws_vi (hM : Sti y cy kL ret f (.ref (sa i) :: av) sa sv r) (hF : FrS own cc nL p s m args c) (hK : KS s sa sv A H locs) (hi : i < 17) (hw0 : memB (.code y cy kL (some ret)) = true) (hw1 : memB (.initialized y.cls) = true) (hw2 : memB (.methodLink own idx y) = true) (hw3 : memB (.instanceMethod y) = true) (hw4 : memB (.selects "java/lang/String" y y) = true) (hd : y.cls ≠ "java/lang/invoke/MethodHandle" ∧ y.cls ≠ "java/lang/invoke/VarHandle" ∧ (parseMethodDescriptor y.desc).map (fun d => d.parameters.length) = some n) (hn : av.length = n) (hR : f + 1 ≤ R.frames ∧ 8 + (kL + 11) + 40 * f ≤ R.locals) (hcs : cells ≤ R.cells ∧ slots ≤ R.slots) (hs : ls.size = nL) (hdg : decode cc pc = .ok (.invokevirtual idx, 3)) (hsum : (rest.map fun v => v.category).sum ≤ 8) (hst : st0 = av.reverse ++ .ref (sa i) :: rest)
    (kk : ∀ (H1 : Heap) (locs1 : List Loc), (∀ q : Nat, q < H.size → H1[q]? = H[q]?) → KS s sa sv A H1 locs1 → W p l e R s m args below meth c H1 locs1 cells slots Qf (F0 m (pc + 3) ls (.int r :: rest))) : W p l e R s m args below meth c H locs cells slots Qf (F0 m pc ls st0) := by
  subst hst
  obtain ⟨hX, hA, hS⟩ := id hK
  have hsub : ∀ q, va_A [] H.size q → A q := fun q z => hA q (Nat.le_trans hS.1 (vaN z))
  refine va_calli (va_runV (C := "java/lang/String") (As := av) (rest := rest) (bytes := cy) (maxL := kL) (ret := some ret) ⟨hF.1, hF.2.1, hF.2.2.1, hF.2.2.2.1, hF.2.2.2.2⟩ (hM l H.size) ⟨callB_of n hF.2.2.2.2 (goods hw0) rfl rfl rfl (hF.2.2.2.2 _ (memB_gtb hw1)) (hF.2.2.2.2 _ (memB_gtb hw2)) hd hR, hF.2.2.2.2 _ (memB_gtb hw3), hF.2.2.2.2 _ (memB_gtb hw4)⟩ ⟨PrJ.blind, vk_recv hX.1 hi hS, fun U hU hw => ⟨rfl, by rw [hU], hX.go hS hU hw hsub⟩⟩ rfl hn hs rfl (lv_room hsum) hdg hcs) hS (fun q _ h => hsub q h) hsub (fun r' u t H1 locs1 ht hvm hp _ hz hk hS1 => ?_)
  subst hp
  exact kk H1 locs1 (fun q hq => hk q hq (fun z => absurd (vaN z) (Nat.not_le.mpr hq))) ⟨hX, hA, hS1⟩
theorem ws_si (hM : Sti y cy kL ret f av sa sv r) (hF : FrS own cc nL p s m args c) (hK : KS s sa sv A H locs) (hw0 : memB (.code y cy kL (some ret)) = true) (hw1 : memB (.initialized y.cls) = true) (hw2 : memB (.methodLink own idx y) = true) (hw3 : memB (.static y) = true) (hd : y.cls ≠ "java/lang/invoke/MethodHandle" ∧ y.cls ≠ "java/lang/invoke/VarHandle" ∧ (parseMethodDescriptor y.desc).map (fun d => d.parameters.length) = some n) (hn : av.length = n) (hR : f + 1 ≤ R.frames ∧ 8 + (kL + 11) + 40 * f ≤ R.locals) (hcs : cells ≤ R.cells ∧ slots ≤ R.slots) (hs : ls.size = nL) (hdg : decode cc pc = .ok (.invokestatic idx, 3)) (hsum : (rest.map fun v => v.category).sum ≤ 8) (hst : st0 = av.reverse ++ rest)
    (kk : ∀ (H1 : Heap) (locs1 : List Loc), KS s sa sv A H1 locs1 → W p l e R s m args below meth c H1 locs1 cells slots Qf (F0 m (pc + 3) ls (.int r :: rest))) : W p l e R s m args below meth c H locs cells slots Qf (F0 m pc ls st0) := by
  subst hst
  obtain ⟨hX, hA, hS⟩ := id hK
  have hsub : ∀ q, va_A [] H.size q → A q := fun q z => hA q (Nat.le_trans hS.1 (vaN z))
  refine va_calli (va_runS (As := av) (rest := rest) (bytes := cy) (maxL := kL) (ret := some ret) ⟨hF.1, hF.2.1, hF.2.2.1, hF.2.2.2.1, hF.2.2.2.2⟩ (hM l H.size) ⟨callB_of n hF.2.2.2.2 (goods hw0) rfl rfl rfl (hF.2.2.2.2 _ (memB_gtb hw1)) (hF.2.2.2.2 _ (memB_gtb hw2)) hd hR, hF.2.2.2.2 _ (memB_gtb hw3)⟩ ⟨PrJ.blind, fun U hU hw => ⟨rfl, by rw [hU], hX.go hS hU hw hsub⟩⟩ rfl hn hs rfl (lv_room hsum) hdg hcs) hS (fun q _ h => hsub q h) hsub (fun r' u t H1 locs1 ht hvm hp _ hz hk hS1 => ?_)
  subst hp
  exact kk H1 locs1 ⟨hX, hA, hS1⟩
theorem ws_sv (hM : Stv y cy kL f av sa sv) (hF : FrS own cc nL p s m args c) (hK : KS s sa sv A H locs) (hw0 : memB (.code y cy kL none) = true) (hw1 : memB (.initialized y.cls) = true) (hw2 : memB (.methodLink own idx y) = true) (hw3 : memB (.static y) = true) (hd : y.cls ≠ "java/lang/invoke/MethodHandle" ∧ y.cls ≠ "java/lang/invoke/VarHandle" ∧ (parseMethodDescriptor y.desc).map (fun d => d.parameters.length) = some n) (hn : av.length = n) (hR : f + 1 ≤ R.frames ∧ 8 + (kL + 11) + 40 * f ≤ R.locals) (hcs : cells ≤ R.cells ∧ slots ≤ R.slots) (hs : ls.size = nL) (hdg : decode cc pc = .ok (.invokestatic idx, 3)) (hsum : (rest.map fun v => v.category).sum ≤ 8) (hst : st0 = av.reverse ++ rest)
    (kk : ∀ (H1 : Heap) (locs1 : List Loc), KS s sa sv A H1 locs1 → W p l e R s m args below meth c H1 locs1 cells slots Qf (F0 m (pc + 3) ls rest)) : W p l e R s m args below meth c H locs cells slots Qf (F0 m pc ls st0) := by
  subst hst
  obtain ⟨hX, hA, hS⟩ := id hK
  have hsub : ∀ q, va_A [] H.size q → A q := fun q z => hA q (Nat.le_trans hS.1 (vaN z))
  exact va_callv (va_runS (As := av) (rest := rest) (bytes := cy) (maxL := kL) (ret := none) ⟨hF.1, hF.2.1, hF.2.2.1, hF.2.2.2.1, hF.2.2.2.2⟩ (hM l H.size) ⟨callB_of n hF.2.2.2.2 (goods hw0) rfl rfl rfl (hF.2.2.2.2 _ (memB_gtb hw1)) (hF.2.2.2.2 _ (memB_gtb hw2)) hd hR, hF.2.2.2.2 _ (memB_gtb hw3)⟩ ⟨PrJ.blind, fun U hU hw => ⟨rfl, by rw [hU], hX.go hS hU hw hsub⟩⟩ rfl hn hs rfl (lv_room hsum) hdg hcs) hS (fun q _ h => hsub q h) hsub (fun u t H1 locs1 ht hvm hp _ hz hk hS1 => kk H1 locs1 ⟨hX, hA, hS1⟩)
end STR
section STM
variable {sa sv : Nat → Nat} {i : Nat}
theorem st_coder (hi : i < 17) : Sti yScod prog_13_method_152_code 1 .byte 0 [.ref (sa i)] sa sv 0 := by
  refine sti_of (by decide) (Nat.le_of_ble_eq_true rfl) rfl ?_
  intro p l e s m args below meth c Qf A ls H locs hF hl fin hK
  have hl : lv_has ls 1 (lv_args 0 [.ref (sa i)]) := hl
  obtain ⟨hX, hA, hS⟩ := id hK
  have hI := hX.1.1 i hi
  refine va_gets (index := 38) (own := "java/lang/String") (ref := "java/lang/String") hF.1 hF.2.1 hX.2.2.1 hS hF.2.2.2.1 (hF.2.2.2.2 _ (memB_gtb (by decide +kernel))) (fun _ h => h) (by decide +kernel) ?_
  refine lv_if_eq (off := 10) (tgt := 13) hF.1 hF.2.1 (by decide +kernel) rfl (fun z => absurd z (by decide)) (fun _ => ?_)
  refine lv_aload_n (k := 0) (i := 0) hF.1 hF.2.1 (by decide +kernel) rfl (lv_at hl 0 rfl) ?_
  refine vk_getf (index := 15) (own := "java/lang/String") (ref := "java/lang/String") hF.1 hF.2.1 hI.2.1 hS hF.2.2.2.1 (hF.2.2.2.2 _ (memB_gtb (by decide +kernel))) (fun _ h => h) (by decide +kernel) ?_
  refine lv_goto (off := 4) (tgt := 14) hF.1 hF.2.1 (by decide +kernel) rfl ?_
  exact fin 14 ls H locs (by decide +kernel) hK
theorem st_latin (hi : i < 17) : Sti ySlat prog_13_method_154_code 1 .boolean 0 [.ref (sa i)] sa sv 1 := by
  refine sti_of (by decide) (Nat.le_of_ble_eq_true rfl) rfl ?_
  intro p l e s m args below meth c Qf A ls H locs hF hl fin hK
  have hl : lv_has ls 1 (lv_args 0 [.ref (sa i)]) := hl
  obtain ⟨hX, hA, hS⟩ := id hK
  have hI := hX.1.1 i hi
  refine va_gets (index := 38) (own := "java/lang/String") (ref := "java/lang/String") hF.1 hF.2.1 hX.2.2.1 hS hF.2.2.2.1 (hF.2.2.2.2 _ (memB_gtb (by decide +kernel))) (fun _ h => h) (by decide +kernel) ?_
  refine lv_if_eq (off := 14) (tgt := 17) hF.1 hF.2.1 (by decide +kernel) rfl (fun z => absurd z (by decide)) (fun _ => ?_)
  refine lv_aload_n (k := 0) (i := 0) hF.1 hF.2.1 (by decide +kernel) rfl (lv_at hl 0 rfl) ?_
  refine vk_getf (index := 15) (own := "java/lang/String") (ref := "java/lang/String") hF.1 hF.2.1 hI.2.1 hS hF.2.2.2.1 (hF.2.2.2.2 _ (memB_gtb (by decide +kernel))) (fun _ h => h) (by decide +kernel) ?_
  refine lv_if_ne (off := 7) (tgt := 17) hF.1 hF.2.1 (by decide +kernel) rfl (fun z => absurd rfl z) (fun _ => ?_)
  refine lv_iconst (n := 1) (v := 1) hF.1 hF.2.1 (by decide +kernel) (by decide) ?_
  refine lv_goto (off := 4) (tgt := 18) hF.1 hF.2.1 (by decide +kernel) rfl ?_
  exact fin 18 ls H locs (by decide +kernel) hK
theorem lenT_lt : ∀ i, i < 17 → lenT.getD i 0 < 2 ^ 31 := by decide +kernel
theorem sCh_b : ∀ i, i < 17 → ∀ j, j < lenT.getD i 0 → sCh i j &&& 255 = sCh i j := by decide +kernel
theorem st_len (hi : i < 17) : Sti ySlen prog_13_method_54_code 1 .int 1 [.ref (sa i)] sa sv (nI (sLen i)) := by
  refine sti_of (by decide) (Nat.le_of_ble_eq_true rfl) rfl ?_
  intro p l e s m args below meth c Qf A ls H locs hF hl fin hK
  have hl : lv_has ls 1 (lv_args 0 [.ref (sa i)]) := hl
  obtain ⟨hX, hA, hS⟩ := id hK
  have hI := hX.1.1 i hi
  refine lv_aload_n (k := 0) (i := 0) hF.1 hF.2.1 (by decide +kernel) rfl (lv_at hl 0 rfl) ?_
  refine vk_getf (index := 9) (own := "java/lang/String") (ref := "java/lang/String") hF.1 hF.2.1 hI.2.2.1 hS hF.2.2.2.1 (hF.2.2.2.2 _ (memB_gtb (by decide +kernel))) (fun _ h => h) (by decide +kernel) ?_
  refine va_tlen (v := nI (sLen i)) hF.1 hF.2.1 hI.2.2.2 hS rfl (by decide +kernel) ?_
  refine lv_aload_n (k := 0) (i := 0) hF.1 hF.2.1 (by decide +kernel) rfl (lv_at hl 0 rfl) ?_
  refine ws_vi (idx := 335) (n := 0) (av := []) (rest := [.int (nI (sLen i))]) (own := "java/lang/String") (st_coder hi) hF hK hi (by decide +kernel) (by decide +kernel) (by decide +kernel) (by decide +kernel) (by decide +kernel) (by decide +kernel) rfl ⟨Nat.le_of_ble_eq_true rfl, Nat.le_of_ble_eq_true rfl⟩ ⟨Nat.le_refl _, Nat.le_refl _⟩ hl.1 (by decide +kernel) (Nat.le_of_ble_eq_true rfl) rfl (fun H1 locs1 _ hK1 => ?_)
  refine lv_ishr hF.1 hF.2.1 (by decide +kernel) ?_
  rw [show nI (sLen i) >>> ((0 : Int32) &&& 31) = nI (sLen i) from sc_shr0 (lenT_lt i hi)]
  exact fin _ ls H1 locs1 (by decide +kernel) hK1
theorem st_pchk {x n : Int32} {o : Value} (h1 : ¬ x < 0) (h2 : x < n) (ho : o = .null ∨ ∃ t, o = .ref t) : Sti yPchk prog_17_method_11_code 3 .int 0 [.int x, .int n, o] sa sv x := by
  have hlen : (lg_sl [.int x, .int n, o]).length ≤ 3 := by
    rcases ho with rfl | ⟨t, rfl⟩ <;> exact Nat.le_of_ble_eq_true rfl
  refine sti_of (by decide) hlen rfl ?_
  intro p l e s m args below meth c Qf A ls H locs hF hl fin hK
  have hl : lv_has ls 3 (lv_args 0 [.int x, .int n, o]) := hl
  refine lv_iload_n (k := 0) (i := 0) hF.1 hF.2.1 (by decide +kernel) rfl (lv_at hl 0 rfl) ?_
  refine lv_if_lt (off := 8) (tgt := 9) hF.1 hF.2.1 (by decide +kernel) rfl (fun z => absurd z h1) (fun _ => ?_)
  refine lv_iload_n (k := 0) (i := 0) hF.1 hF.2.1 (by decide +kernel) rfl (lv_at hl 0 rfl) ?_
  refine lv_iload_n (k := 1) (i := 1) hF.1 hF.2.1 (by decide +kernel) rfl (lv_at hl 1 rfl) ?_
  refine lv_icmp_lt (off := 10) (tgt := 16) hF.1 hF.2.1 (by decide +kernel) rfl (fun _ => ?_) (fun z => absurd h2 z)
  refine lv_iload_n (k := 0) (i := 0) hF.1 hF.2.1 (by decide +kernel) rfl (lv_at hl 0 rfl) ?_
  exact fin 17 ls H locs (by decide +kernel) hK
theorem st_schk {x n : Int32} (h1 : ¬ x < 0) (h2 : x < n) : Stv ySchk prog_13_method_155_code 2 1 [.int x, .int n] sa sv := by
  refine stv_of (by decide) (Nat.le_of_ble_eq_true rfl) ?_
  intro p l e s m args below meth c Qf A ls H locs hF hl fin hK
  have hl : lv_has ls 2 (lv_args 0 [.int x, .int n]) := hl
  obtain ⟨hX, hA, hS⟩ := id hK
  refine lv_iload_n (k := 0) (i := 0) hF.1 hF.2.1 (by decide +kernel) rfl (lv_at hl 0 rfl) ?_
  refine lv_iload_n (k := 1) (i := 1) hF.1 hF.2.1 (by decide +kernel) rfl (lv_at hl 1 rfl) ?_
  have go : ∀ o : Value, (o = .null ∨ ∃ t, o = .ref t) → va_Z "jdk/internal/util/Preconditions" "SIOOBE_FORMATTER" "Ljava/util/function/BiFunction;" o A s s.heap → W p l e (rmd 1) s m args below meth c H locs 0 0 Qf (F0 m (0 + 1 + 1) ls [.int n, .int x]) := by
    intro o ho hZ
    refine va_gets (index := 1053) (own := "java/lang/String") (ref := "jdk/internal/util/Preconditions") hF.1 hF.2.1 hZ hS hF.2.2.2.1 (hF.2.2.2.2 _ (memB_gtb (by decide +kernel))) (fun _ h => h) (by decide +kernel) ?_
    refine ws_si (idx := 1059) (n := 3) (av := [.int x, .int n, o]) (rest := []) (own := "java/lang/String") (st_pchk h1 h2 ho) hF hK (by decide +kernel) (by decide +kernel) (by decide +kernel) (by decide +kernel) (by decide +kernel) rfl ⟨Nat.le_of_ble_eq_true rfl, Nat.le_of_ble_eq_true rfl⟩ ⟨Nat.le_refl _, Nat.le_refl _⟩ hl.1 (by decide +kernel) (Nat.le_of_ble_eq_true rfl) rfl (fun H1 locs1 hK1 => ?_)
    refine lv_pop hF.1 hF.2.1 (by decide +kernel) rfl ?_
    exact fin _ ls H1 locs1 (by decide +kernel) hK1
  rcases hX.2.2.2 with h | ⟨t, h⟩
  · exact go _ (Or.inl rfl) h
  · exact go _ (Or.inr ⟨t, rfl⟩) h
theorem st_lchr {x : Int32} (hi : i < 17) (hx : vp_in x (sLen i)) : Sti yLchr prog_14_method_2_code 2 .char 2 [.ref (sv i), .int x] sa sv (sCh i x.toNatClampNeg) := by
  have hx0 : ¬ x < 0 := fun z => hx (Or.inl z)
  have hx1 : x.toNatClampNeg < lenT.getD i 0 := Nat.lt_of_not_le (fun z => hx (Or.inr z))
  have hxl : x < nI (sLen i) := by
    obtain ⟨k, hk, rfl⟩ := nI_of hx0
    rw [nI_clamp hk] at hx1
    exact nI_lt hx1 (lenT_lt i hi)
  have hb := sCh_b i hi _ hx1
  have hnar : narrow .char (.int (sCh i x.toNatClampNeg)) = .int (sCh i x.toNatClampNeg) := by
    have := sc_nar (sCh i x.toNatClampNeg)
    rwa [hb] at this
  refine sti_of (by decide) (Nat.le_of_ble_eq_true rfl) hnar ?_
  intro p l e s m args below meth c Qf A ls H locs hF hl fin hK
  have hl : lv_has ls 2 (lv_args 0 [.ref (sv i), .int x]) := hl
  obtain ⟨hX, hA, hS⟩ := id hK
  have hI := hX.1.1 i hi
  refine lv_iload_n (k := 1) (i := 1) hF.1 hF.2.1 (by decide +kernel) rfl (lv_at hl 1 rfl) ?_
  refine lv_aload_n (k := 0) (i := 0) hF.1 hF.2.1 (by decide +kernel) rfl (lv_at hl 0 rfl) ?_
  refine va_tlen (v := nI (sLen i)) hF.1 hF.2.1 hI.2.2.2 hS rfl (by decide +kernel) ?_
  refine ws_sv (idx := 9) (n := 2) (av := [.int x, .int (nI (sLen i))]) (rest := []) (own := "java/lang/StringLatin1") (st_schk hx0 hxl) hF hK (by decide +kernel) (by decide +kernel) (by decide +kernel) (by decide +kernel) (by decide +kernel) rfl ⟨Nat.le_of_ble_eq_true rfl, Nat.le_of_ble_eq_true rfl⟩ ⟨Nat.le_refl _, Nat.le_refl _⟩ hl.1 (by decide +kernel) (Nat.le_of_ble_eq_true rfl) rfl (fun H1 locs1 hK1 => ?_)
  refine lv_aload_n (k := 0) (i := 0) hF.1 hF.2.1 (by decide +kernel) rfl (lv_at hl 0 rfl) ?_
  refine lv_iload_n (k := 1) (i := 1) hF.1 hF.2.1 (by decide +kernel) rfl (lv_at hl 1 rfl) ?_
  refine va_tb (v := .int (sCh i x.toNatClampNeg)) hF.1 hF.2.1 hI.2.2.2 hK1.2.2 hx rfl (by decide +kernel) ?_
  refine lv_sipush (n := 255) (v := 255) hF.1 hF.2.1 (by decide +kernel) (by decide) ?_
  refine lv_iand hF.1 hF.2.1 (by decide +kernel) ?_
  refine lv_i2c (v := sCh i x.toNatClampNeg) hF.1 hF.2.1 (by decide +kernel) ((sc_c2 _).trans hb) ?_
  exact fin _ ls H1 locs1 (by decide +kernel) hK1
theorem st_chr {x : Int32} (hi : i < 17) (hx : vp_in x (sLen i)) : Sti ySchr prog_13_method_56_code 2 .char 3 [.ref (sa i), .int x] sa sv (sCh i x.toNatClampNeg) := by
  have hx1 : x.toNatClampNeg < lenT.getD i 0 := Nat.lt_of_not_le (fun z => hx (Or.inr z))
  have hb := sCh_b i hi _ hx1
  have hnar : narrow .char (.int (sCh i x.toNatClampNeg)) = .int (sCh i x.toNatClampNeg) := by
    have := sc_nar (sCh i x.toNatClampNeg)
    rwa [hb] at this
  refine sti_of (by decide) (Nat.le_of_ble_eq_true rfl) hnar ?_
  intro p l e s m args below meth c Qf A ls H locs hF hl fin hK
  have hl : lv_has ls 2 (lv_args 0 [.ref (sa i), .int x]) := hl
  obtain ⟨hX, hA, hS⟩ := id hK
  have hI := hX.1.1 i hi
  refine lv_aload_n (k := 0) (i := 0) hF.1 hF.2.1 (by decide +kernel) rfl (lv_at hl 0 rfl) ?_
  refine ws_vi (idx := 492) (n := 0) (av := []) (rest := []) (own := "java/lang/String") (st_latin hi) hF hK hi (by decide +kernel) (by decide +kernel) (by decide +kernel) (by decide +kernel) (by decide +kernel) (by decide +kernel) rfl ⟨Nat.le_of_ble_eq_true rfl, Nat.le_of_ble_eq_true rfl⟩ ⟨Nat.le_refl _, Nat.le_refl _⟩ hl.1 (by decide +kernel) (Nat.le_of_ble_eq_true rfl) rfl (fun H1 locs1 _ hK1 => ?_)
  refine lv_if_eq (off := 12) (tgt := 16) hF.1 hF.2.1 (by decide +kernel) rfl (fun z => absurd z (by decide)) (fun _ => ?_)
  refine lv_aload_n (k := 0) (i := 0) hF.1 hF.2.1 (by decide +kernel) rfl (lv_at hl 0 rfl) ?_
  refine vk_getf (index := 9) (own := "java/lang/String") (ref := "java/lang/String") hF.1 hF.2.1 hI.2.2.1 hK1.2.2 hF.2.2.2.1 (hF.2.2.2.2 _ (memB_gtb (by decide +kernel))) (fun _ h => h) (by decide +kernel) ?_
  refine lv_iload_n (k := 1) (i := 1) hF.1 hF.2.1 (by decide +kernel) rfl (lv_at hl 1 rfl) ?_
  refine ws_si (idx := 495) (n := 2) (av := [.ref (sv i), .int x]) (rest := []) (own := "java/lang/String") (st_lchr hi hx) hF hK1 (by decide +kernel) (by decide +kernel) (by decide +kernel) (by decide +kernel) (by decide +kernel) rfl ⟨Nat.le_of_ble_eq_true rfl, Nat.le_of_ble_eq_true rfl⟩ ⟨Nat.le_refl _, Nat.le_refl _⟩ hl.1 (by decide +kernel) (Nat.le_of_ble_eq_true rfl) rfl (fun H2 locs2 hK2 => ?_)
  exact fin _ ls H2 locs2 (by decide +kernel) hK2
end STM
section SNDX
variable {d y : Nat} {scr : Option (Nat × (Nat → Int32))} {Q : Wd → Option PV → Prop} {p : Program} {l : Launch} {e : Env} {R : Room} {s : State} {m : MethodId} {args : Array Value} {below : List Frame} {meth : Method} {c : Code} {cells slots : Nat} {Qf : State → Prop} {D : va_G} {cI cZ cQ : ClassId} {sa sv : Nat → Nat} {ad : Key → Nat} {ks : List Key} {A : Nat → Prop}
variable {pc : Nat} {ls : Ls} {st t : List PV} {w : Wd} {v : Int32} {a b nx : Nat}
theorem so_52x {i : Nat} (hF : Fr y d p R s m args c cells slots) (hC : Cx D cI cZ cQ sa sv A s) (hA : ∀ q, s.heap.size ≤ q → A q) (hI : ins y pc = (52, v, a, b, nx)) (hi : i < 17) (hd3 : 3 < d ∧ csum t ≤ 8) (kk : GG y p l e R s m args below meth c cells slots Qf D cI cZ cQ sa ad ks A nx ls (vI (nI (sLen i)) :: t) w) : GG y p l e R s m args below meth c cells slots Qf D cI cZ cQ sa ad ks A pc ls (vS i :: t) w := by
  obtain ⟨i0, n, hd, hn, hr⟩ := get_rel hI (by decide)
  simp only [rel, isI, Bool.and_eq_true, decide_eq_true_eq] at hr
  obtain ⟨rfl, h2, h3⟩ := hr
  obtain rfl := nbeq h2
  have h3 := nbeq h3
  intro H locs ls' hW hL hv hs
  have hFr : FrS (cN 3) (yC y) (yL y) p s m args c := ⟨hF.1, hF.2.1, hF.2.2.1, by rw [← h3]; exact hF.2.2.2.1, hF.2.2.2.2.1⟩
  obtain ⟨r1, r2, r3, r4⟩ := hF.2.2.2.2.2
  subst hn
  refine ws_vi (idx := 175) (n := 0) (i := i) (av := []) (rest := t.map (conc sa ad)) (st_len hi) hFr ⟨hC.2.2, hA, hW.2.2.2⟩ hi (by decide +kernel) (by decide +kernel) (by decide +kernel) (by decide +kernel) (by decide +kernel) (by decide +kernel) rfl ⟨by omega, by omega⟩ ⟨r3, r4⟩ hL.1 hd (by rw [csum_conc]; exact hd3.2) rfl (fun H1 locs1 hk hK1 => ?_)
  exact kk H1 locs1 ls' ⟨hW.1, fun k q h => (hW.2.1 k q h).kept (hk _ (hW.2.1 k q h).lt), hW.2.2.1, hK1.2.2⟩ hL hv (fun u hu => by
    rcases List.mem_cons.mp hu with e0 | h
    · rw [e0]
      trivial
    · exact hs u (List.mem_cons_of_mem _ h))
theorem so_53x {i : Nat} {x : Int32} (hF : Fr y d p R s m args c cells slots) (hC : Cx D cI cZ cQ sa sv A s) (hA : ∀ q, s.heap.size ≤ q → A q) (hI : ins y pc = (53, v, a, b, nx)) (hi : i < 17) (hd6 : 6 < d ∧ csum t ≤ 8) (hx : vp_in x (sLen i)) (kk : GG y p l e R s m args below meth c cells slots Qf D cI cZ cQ sa ad ks A nx ls (vI (sCh i x.toNatClampNeg) :: t) w) : GG y p l e R s m args below meth c cells slots Qf D cI cZ cQ sa ad ks A pc ls (vI x :: vS i :: t) w := by
  obtain ⟨i0, n, hd, hn, hr⟩ := get_rel hI (by decide)
  simp only [rel, isI, Bool.and_eq_true, decide_eq_true_eq] at hr
  obtain ⟨rfl, h2, h3⟩ := hr
  obtain rfl := nbeq h2
  have h3 := nbeq h3
  intro H locs ls' hW hL hv hs
  have hFr : FrS (cN 3) (yC y) (yL y) p s m args c := ⟨hF.1, hF.2.1, hF.2.2.1, by rw [← h3]; exact hF.2.2.2.1, hF.2.2.2.2.1⟩
  obtain ⟨r1, r2, r3, r4⟩ := hF.2.2.2.2.2
  subst hn
  refine ws_vi (idx := 180) (n := 1) (i := i) (av := [.int x]) (rest := t.map (conc sa ad)) (st_chr hi hx) hFr ⟨hC.2.2, hA, hW.2.2.2⟩ hi (by decide +kernel) (by decide +kernel) (by decide +kernel) (by decide +kernel) (by decide +kernel) (by decide +kernel) rfl ⟨by omega, by omega⟩ ⟨r3, r4⟩ hL.1 hd (by rw [csum_conc]; exact hd6.2) rfl (fun H1 locs1 hk hK1 => ?_)
  exact kk H1 locs1 ls' ⟨hW.1, fun k q h => (hW.2.1 k q h).kept (hk _ (hW.2.1 k q h).lt), hW.2.2.1, hK1.2.2⟩ hL hv (fun u hu => by
    rcases List.mem_cons.mp hu with e0 | h
    · rw [e0]
      trivial
    · exact hs u (List.mem_cons_of_mem _ (List.mem_cons_of_mem _ h)))
end SNDX

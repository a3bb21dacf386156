/-! CONSTRUCTORS, with the kit's own rows: a frame whose world is a list of cells -/
abbrev cX0_init : ByteArray := prog_2_method_1_code
def yX0_init : MethodName := ⟨RX0, "<init>", "(LIfYouWill$Village;)V"⟩
abbrev cX1_init : ByteArray := prog_3_method_1_code
def yX1_init : MethodName := ⟨RX1, "<init>", "(LIfYouWill$Village;)V"⟩
abbrev cX2_init : ByteArray := prog_4_method_1_code
def yX2_init : MethodName := ⟨RX2, "<init>", "(ILIfYouWill$Scene;)V"⟩
abbrev cX3_init : ByteArray := prog_5_method_1_code
def yX3_init : MethodName := ⟨RX3, "<init>", "(LIfYouWill$Text;)V"⟩
abbrev cX4_init : ByteArray := prog_6_method_1_code
def yX4_init : MethodName := ⟨RX4, "<init>", "()V"⟩
abbrev cX5_init : ByteArray := prog_7_method_1_code
def yX5_init : MethodName := ⟨RX5, "<init>", "()V"⟩
abbrev cX6_init : ByteArray := prog_8_method_1_code
def yX6_init : MethodName := ⟨RX6, "<init>", "()V"⟩
abbrev cX7_init : ByteArray := prog_9_method_1_code
def yX7_init : MethodName := ⟨RX7, "<init>", "()V"⟩
abbrev cX8_init : ByteArray := prog_1_method_1_code
def yX8_init : MethodName := ⟨RX8, "<init>", "()V"⟩
abbrev cX9_init : ByteArray := prog_11_method_1_code
def yX9_init : MethodName := ⟨RX9, "<init>", "()V"⟩
def Ex (U : State) : Prop := va_AO RX2 U ∧ va_Nw (.methodLinkNest RX8 9 yX6_init "IfYouWill") U ∧ va_Nw (.methodLinkNest RX7 23 yX4_init "IfYouWill") U
theorem Ex.go {s U : State} (h : Ex s) (hw : s.WarmedH U.vm) : Ex U := ⟨h.1.moved hw.alike, va_Nw.warmM hw h.2.1, va_Nw.warmM hw h.2.2⟩
def FrI (o : Nat) (cc : ByteArray) (nL : Nat) (p : Program) (s : State) (m : MethodId) (args : Array Value) (c : Code) : Prop := p.tables.exec = Jvm.exec ∧ c.code = cc ∧ c.maxLocals = nL ∧ s.vm.findClass (cN o) = some m.cls ∧ ∀ w ∈ gtb, w.before args s = true
def KI (s : State) (D : va_G) (cI cZ cQ : ClassId) (sa sv : Nat → Nat) (A : Nat → Prop) (ws : va_W) (H : Heap) (locs : List Loc) : Prop := (Cx D cI cZ cQ sa sv A s ∧ Ex s) ∧ (∀ q, s.heap.size ≤ q → A q) ∧ va_P D vwCl ws H ∧ va_D A ws ∧ va_S A s.heap H locs
abbrev GI (p : Program) (l : Launch) (e : Env) (R : Room) (s : State) (m : MethodId) (args : Array Value) (below : List Frame) (meth : Method) (c : Code) (Qf : State → Prop) (D : va_G) (cI cZ cQ : ClassId) (sa sv : Nat → Nat) (A : Nat → Prop) (cells slots pc : Nat) (ls : Array Slot) (st : List Value) (ws : va_W) : Prop := ∀ (H : Heap) (locs : List Loc), KI s D cI cZ cQ sa sv A ws H locs → W p l e R s m args below meth c H locs cells slots Qf (F0 m pc ls st)
def PreI (D : va_G) (cI cZ cQ : ClassId) (sa sv : Nat → Nat) (ws : va_W) (sz : Nat) (U : State) : Prop := U.heap.size = sz ∧ va_P D vwCl ws U.heap ∧ va_D (fun _ => True) ws ∧ Cx D cI cZ cQ sa sv (va_A ws sz) U ∧ Ex U
theorem PreI.blind {av : List Value} {D : va_G} {cI cZ cQ : ClassId} {sa sv : Nat → Nat} {ws : va_W} {sz : Nat} : FrameBlind (va_Pc av (PreI D cI cZ cQ sa sv ws sz)) := by
  intro a' U g mk h
  obtain ⟨h1, h2, h3, h4, ⟨h5, h6, h7, h8, h9, h10⟩, h11, h12, h13⟩ := h
  refine ⟨h1, h2, h3, h4, ⟨va_K.moved (u := U) (U := U.calling g mk a') (Vm.Alike.refl U.vm) h5, fun e0 he hk => va_Nw.same (u := U) (U := U.calling g mk a') rfl rfl (h6 e0 he hk), vk_S.moved (u := U) (U := U.calling g mk a') (Vm.Alike.refl U.vm) h7, fun i e0 he => vk_R.same (u := U) (U := U.calling g mk a') rfl (h8 i e0 he), va_Z.moved (u := U) (U := U.calling g mk a') (Vm.Alike.refl U.vm) h9, va_Zq.moved (u := U) (U := U.calling g mk a') (Vm.Alike.refl U.vm) h10⟩, va_AO.moved (u := U) (U := U.calling g mk a') (Vm.Alike.refl U.vm) h11, va_Nw.same (u := U) (U := U.calling g mk a') rfl rfl h12, va_Nw.same (u := U) (U := U.calling g mk a') rfl rfl h13⟩
/-- the contract of a constructor: from the one new cell to a list of cells -/
def Ini (y : MethodName) (cc : ByteArray) (nL f mc ms : Nat) (av : List Value) (a : Nat) (e0 : va_E) (D : va_G) (cI cZ cQ : ClassId) (sa sv : Nat → Nat) (post : va_W → Prop) : Prop := ∀ (l : Launch) (sz : Nat), Met l y (.code y cc nL none :: gtb) { frames := f, cells := mc, slots := ms, locals := 40 * f } (va_Pc (.ref a :: av) (PreI D cI cZ cQ sa sv [(a, e0)] sz)) (va_Qv post (fun ws1 t => va_P D vwCl ws1 t.heap ∧ va_D (va_A [(a, e0)] sz) ws1) (va_A [(a, e0)] sz)) mc ms (va_A [(a, e0)] sz)
theorem arrV_ext' {cA : ClassId} {N : Nat} {f g : Nat → Value} (h : ∀ j, j < N → f j = g j) : arrV cA N f = arrV cA N g := by
  have e0 : (fun j : Fin N => f j.val) = (fun j : Fin N => g j.val) := funext fun j => h j.val j.isLt
  unfold arrV
  rw [e0]
section INI
variable {p : Program} {l : Launch} {e : Env} {R : Room} {s : State} {m : MethodId} {args : Array Value} {below : List Frame} {meth : Method} {c : Code} {Qf : State → Prop} {D : va_G} {cI cZ cQ : ClassId} {sa sv : Nat → Nat} {A : Nat → Prop}
variable {o nL cells slots pc : Nat} {cc : ByteArray} {ls : Array Slot} {st : List Value} {ws : va_W}
theorem ri_al {k : Fin 4} {i x : Nat} (hF : FrI o cc nL p s m args c) (hl : ls[i]? = some (.val (.ref x))) (hd : decode cc pc = .ok (.aload_n k, 1)) (hi : (k : Nat) = i) (kk : GI p l e R s m args below meth c Qf D cI cZ cQ sa sv A cells slots (pc + 1) ls (.ref x :: st) ws) : GI p l e R s m args below meth c Qf D cI cZ cQ sa sv A cells slots pc ls st ws := fun H locs h => lv_aload_n hF.1 hF.2.1 hd hi hl (kk H locs h)
theorem ri_il {k : Fin 4} {i : Nat} {x : Int32} (hF : FrI o cc nL p s m args c) (hl : ls[i]? = some (.val (.int x))) (hd : decode cc pc = .ok (.iload_n k, 1)) (hi : (k : Nat) = i) (kk : GI p l e R s m args below meth c Qf D cI cZ cQ sa sv A cells slots (pc + 1) ls (.int x :: st) ws) : GI p l e R s m args below meth c Qf D cI cZ cQ sa sv A cells slots pc ls st ws := fun H locs h => lv_iload_n hF.1 hF.2.1 hd hi hl (kk H locs h)
theorem ri_ic {n : Int} {v : Int32} (hF : FrI o cc nL p s m args c) (hd : decode cc pc = .ok (.iconst n, 1)) (hv : Int32.ofInt n = v) (kk : GI p l e R s m args below meth c Qf D cI cZ cQ sa sv A cells slots (pc + 1) ls (.int v :: st) ws) : GI p l e R s m args below meth c Qf D cI cZ cQ sa sv A cells slots pc ls st ws := fun H locs h => lv_iconst hF.1 hF.2.1 hd hv (kk H locs h)
theorem ri_bi {n : Int} {v : Int32} (hF : FrI o cc nL p s m args c) (hd : decode cc pc = .ok (.bipush n, 2)) (hv : (Int8.ofInt n).toInt32 = v) (kk : GI p l e R s m args below meth c Qf D cI cZ cQ sa sv A cells slots (pc + 2) ls (.int v :: st) ws) : GI p l e R s m args below meth c Qf D cI cZ cQ sa sv A cells slots pc ls st ws := fun H locs h => lv_bipush hF.1 hF.2.1 hd hv (kk H locs h)
theorem ri_si {n : Int} {v : Int32} (hF : FrI o cc nL p s m args c) (hd : decode cc pc = .ok (.sipush n, 3)) (hv : (Int16.ofInt n).toInt32 = v) (kk : GI p l e R s m args below meth c Qf D cI cZ cQ sa sv A cells slots (pc + 3) ls (.int v :: st) ws) : GI p l e R s m args below meth c Qf D cI cZ cQ sa sv A cells slots pc ls st ws := fun H locs h => lv_sipush hF.1 hF.2.1 hd hv (kk H locs h)
theorem ri_dup {q : Nat} (hF : FrI o cc nL p s m args c) (hd : decode cc pc = .ok (.dup, 1)) (kk : GI p l e R s m args below meth c Qf D cI cZ cQ sa sv A cells slots (pc + 1) ls (.ref q :: .ref q :: st) ws) : GI p l e R s m args below meth c Qf D cI cZ cQ sa sv A cells slots pc ls (.ref q :: st) ws := fun H locs h => lv_dup hF.1 hF.2.1 hd rfl (kk H locs h)
theorem ri_obj {idx a : Nat} (hF : FrI o cc nL p s m args c) (hw1 : memB (.methodLink (cN o) idx objectInit) = true) (hw2 : memB (.instanceMethod objectInit) = true) (hw3 : memB (.code objectInit ⟨#[0xb1]⟩ 1 none) = true) (hs : ls.size = nL) (hd : decode cc pc = .ok (.invokespecial idx, 3)) (hR1 : 1 ≤ R.frames) (hR2 : 12 ≤ R.locals) (kk : GI p l e R s m args below meth c Qf D cI cZ cQ sa sv A cells slots (pc + 3) ls [] ws) : GI p l e R s m args below meth c Qf D cI cZ cQ sa sv A cells slots pc ls [.ref a] ws := by
  intro H locs h
  exact W.objInit hF.1 hF.2.1 hF.2.2.2.1 (hF.2.2.2.2 _ (memB_gtb hw1)) (hF.2.2.2.2 _ (memB_gtb hw2)) (hF.2.2.2.2 _ (memB_gtb hw3)) rfl (by rw [hF.2.2.1]; exact hs) rfl hd hR1 (by simpa [F0] using hR2) (kk H locs h)
theorem ri_put {idx ci k a : Nat} {fs fs' : List Value} {v : Value} {r : va_W} (hF : FrI o cc nL p s m args c) (hin : meth.name = "<init>") (hci : ci < 10) (hk : k < (clI ci).2.2) (hlk : memB (.fieldLink (cN o) idx (clI ci).1 ((clI ci).2.1 k).2.1 ((clI ci).2.1 k).2.2.1) = true) (ho : ((clI ci).2.1 k).1 = cN o) (hcn : (clI ci).1 = cN o) (hn : narrow (tyI ci k) v = v) (hf : fits (tyI ci k) v = true) (hl : k < fs.length) (hfs : fs.set k v = fs') (hd : decode cc pc = .ok (.putfield idx, 3))
    (kk : GI p l e R s m args below meth c Qf D cI cZ cQ sa sv A cells slots (pc + 3) ls st ((a, .inr (ci, fs')) :: r)) : GI p l e R s m args below meth c Qf D cI cZ cQ sa sv A cells slots pc ls (v :: .ref a :: st) ((a, .inr (ci, fs)) :: r) := by
  intro H locs h
  obtain ⟨hC, hA, hP, hD, hS⟩ := h
  obtain ⟨hc1, hc2, hc3, hc4, hc5⟩ := cl_ok ci hci
  subst hfs
  have hsm : ∀ x, s.fieldFound? ((clI ci).2.1 k).1 ((clI ci).2.1 k).2.1 ((clI ci).2.1 k).2.2.1 = some x → s.fieldFound? (clI ci).1 ((clI ci).2.1 k).2.1 ((clI ci).2.1 k).2.2.1 = some x := by
    rw [ho, hcn]
    exact fun _ h => h
  cases hfin : ((clI ci).2.1 k).2.2.2 with
  | false => exact va_put (C := (clI ci).1) (T := (clI ci).2.1) (N := (clI ci).2.2) (ty := tyI ci k) (v := v) hF.1 hF.2.1 hF.2.2.2.2 hc3 (tyI ci) hc4 hc5 hF.2.2.2.1 hC.1.1 hP hD hS 0 rfl hc1 k hk (hF.2.2.2.2 _ (memB_gtb hlk)) hsm hfin (hc4 k hk) hn hf hl hd (fun H1 locs1 hP1 hD1 hS1 => kk H1 locs1 ⟨hC, hA, hP1, hD1, hS1⟩)
  | true => exact va_putF (C := (clI ci).1) (T := (clI ci).2.1) (N := (clI ci).2.2) (ty := tyI ci k) (v := v) hF.1 hF.2.1 hF.2.2.2.2 hc3 (tyI ci) hc4 hc5 hF.2.2.2.1 hC.1.1 hP hD hS 0 rfl hc1 k hk (hF.2.2.2.2 _ (memB_gtb hlk)) hsm hfin hin ho (hc4 k hk) hn hf hl hd (fun H1 locs1 hP1 hD1 hS1 => kk H1 locs1 ⟨hC, hA, hP1, hD1, hS1⟩)
theorem ri_get {idx ci k a : Nat} {fs : List Value} {v : Value} {r : va_W} (hF : FrI o cc nL p s m args c) (hci : ci < 10) (hk : k < (clI ci).2.2) (hlk : memB (.fieldLink (cN o) idx (clI ci).1 ((clI ci).2.1 k).2.1 ((clI ci).2.1 k).2.2.1) = true) (ho : ((clI ci).2.1 k).1 = cN o) (hcn : (clI ci).1 = cN o) (hv : fs[k]? = some v) (hd : decode cc pc = .ok (.getfield idx, 3))
    (kk : GI p l e R s m args below meth c Qf D cI cZ cQ sa sv A cells slots (pc + 3) ls (v :: st) ((a, .inr (ci, fs)) :: r)) : GI p l e R s m args below meth c Qf D cI cZ cQ sa sv A cells slots pc ls (.ref a :: st) ((a, .inr (ci, fs)) :: r) := by
  intro H locs h
  obtain ⟨hC, hA, hP, hD, hS⟩ := id h
  obtain ⟨hc1, hc2, hc3, hc4, hc5⟩ := cl_ok ci hci
  have hsm : ∀ x, s.fieldFound? ((clI ci).2.1 k).1 ((clI ci).2.1 k).2.1 ((clI ci).2.1 k).2.2.1 = some x → s.fieldFound? (clI ci).1 ((clI ci).2.1 k).2.1 ((clI ci).2.1 k).2.2.1 = some x := by
    rw [ho, hcn]
    exact fun _ h => h
  exact va_get (C := (clI ci).1) (T := (clI ci).2.1) (N := (clI ci).2.2) hF.1 hF.2.1 hF.2.2.2.2 hc3 hF.2.2.2.1 hC.1.1 hP 0 rfl hc1 k hk (hF.2.2.2.2 _ (memB_gtb hlk)) hsm hv hd (kk H locs h)
theorem ri_newi {n : Int32} {N : Nat} (hF : FrI o cc nL p s m args c) (hw : memB (.arrayClass .int) = true) (hn : ¬ n < 0) (hN : n.toNatClampNeg = N) (hby : N * 4 ≤ 536870912) (hc : cells + 1 ≤ R.cells) (hs : slots + N ≤ R.slots) (hd : decode cc pc = .ok (.newarray .int, 2))
    (kk : ∀ q : Nat, GI p l e R s m args below meth c Qf D cI cZ cQ sa sv A (cells + 1) (slots + N) (pc + 2) ls (.ref q :: st) (ws ++ [(q, .inl (cI, N, .inl (fun _ => 0)))])) : GI p l e R s m args below meth c Qf D cI cZ cQ sa sv A cells slots pc ls (.int n :: st) ws := by
  intro H locs h
  obtain ⟨hC, hA, hP, hD, hS⟩ := id h
  refine va_newa (atype := .int) (ty := .int) (a0 := (N, .inl (fun _ => 0))) hF.1 hF.2.1 (hF.2.2.2.2 _ (memB_gtb hw)) rfl hC.1.1 hP hD hS hA (fun _ => rfl) hn hN hby hc hs hd (fun q cA H1 hK1 hP1 hD1 hS1 => ?_)
  have e1 : s.vm.findClass ("[" ++ FieldType.int.toString) = some cA := (hK1.2 3 _ rfl).2
  have e2 : s.vm.findClass ("[" ++ FieldType.int.toString) = some cI := (hC.1.1.2 0 _ rfl).2
  rw [e1] at e2
  cases e2
  exact kk q H1 locs ⟨hC, hA, hP1, hD1, hS1⟩
theorem ri_newz {n : Int32} {N : Nat} (hF : FrI o cc nL p s m args c) (hw : memB (.arrayClass .boolean) = true) (hn : ¬ n < 0) (hN : n.toNatClampNeg = N) (hby : N * 1 ≤ 536870912) (hc : cells + 1 ≤ R.cells) (hs : slots + N ≤ R.slots) (hd : decode cc pc = .ok (.newarray .boolean, 2))
    (kk : ∀ q : Nat, GI p l e R s m args below meth c Qf D cI cZ cQ sa sv A (cells + 1) (slots + N) (pc + 2) ls (.ref q :: st) (ws ++ [(q, .inl (cZ, N, .inl (fun _ => 0)))])) : GI p l e R s m args below meth c Qf D cI cZ cQ sa sv A cells slots pc ls (.int n :: st) ws := by
  intro H locs h
  obtain ⟨hC, hA, hP, hD, hS⟩ := id h
  refine va_newa (atype := .boolean) (ty := .boolean) (a0 := (N, .inl (fun _ => 0))) hF.1 hF.2.1 (hF.2.2.2.2 _ (memB_gtb hw)) rfl hC.1.1 hP hD hS hA (fun _ => rfl) hn hN hby hc hs hd (fun q cA H1 hK1 hP1 hD1 hS1 => ?_)
  have e1 : s.vm.findClass ("[" ++ FieldType.boolean.toString) = some cA := (hK1.2 3 _ rfl).2
  have e2 : s.vm.findClass ("[" ++ FieldType.boolean.toString) = some cZ := (hC.1.1.2 1 _ rfl).2
  rw [e1] at e2
  cases e2
  exact kk q H1 locs ⟨hC, hA, hP1, hD1, hS1⟩
theorem ri_new {idx ci N : Nat} {fs : List Value} (hF : FrI o cc nL p s m args c) (hci : ci < 10) (hN : (clI ci).2.2 = N) (hw1 : memB (.classLink (cN o) idx (clI ci).1) = true) (hw2 : memB (.instantiable (clI ci).1 N) = true) (hw3 : memB (.initialized (clI ci).1) = true) (hfs : ∀ j, j < N → defaultValue (tyI ci j) = vp_V fs j) (hc : cells + 1 ≤ R.cells) (hs : slots + N ≤ R.slots) (hd : decode cc pc = .ok (.new idx, 3))
    (kk : ∀ q : Nat, GI p l e R s m args below meth c Qf D cI cZ cQ sa sv A (cells + 1) (slots + N) (pc + 3) ls (.ref q :: st) (ws ++ [(q, .inr (ci, fs))])) : GI p l e R s m args below meth c Qf D cI cZ cQ sa sv A cells slots pc ls st ws := by
  intro H locs h
  obtain ⟨hC, hA, hP, hD, hS⟩ := id h
  obtain ⟨hc1, hc2, hc3, hc4, hc5⟩ := cl_ok ci hci
  subst hN
  exact va_new (C := (clI ci).1) (T := (clI ci).2.1) (N := (clI ci).2.2) hF.1 hF.2.1 hF.2.2.2.2 hc3 (tyI ci) hc4 hF.2.2.2.1 (hF.2.2.2.2 _ (memB_gtb hw1)) (hF.2.2.2.2 _ (memB_gtb hw2)) (hF.2.2.2.2 _ (memB_gtb hw3)) hC.1.1 hP hD hS hA hc1 hfs hc hs hd (fun q H1 hP1 hD1 hS1 => kk q H1 locs ⟨hC, hA, hP1, hD1, hS1⟩)
theorem goodi {y : MethodName} {cy : ByteArray} {k : Nat} (h : memB (.code y cy k none) = true) : GoodIn gtb (.code y cy k none :: gtb) := by
  intro w hw
  rcases List.mem_cons.mp hw with e0 | h1
  · subst e0
    exact gtb_good _ (memB_gtb h)
  · exact gtb_good _ h1
/-- the last cell is given to a constructor -/
theorem last_join {A0 : Nat → Prop} {wr w1 : va_W} {x : Nat × va_E} {H H1 : Heap} (hP : va_P D vwCl (wr ++ [x]) H) (hD : va_D A0 (wr ++ [x])) (hk : ∀ q : Nat, q < H.size → ¬ va_A [x] H.size q → H1[q]? = H[q]?) (hF : ∀ q, va_A [x] H.size q → A0 q) (hP1 : va_P D vwCl w1 H1) (hD1 : va_D (va_A [x] H.size) w1) : va_P D vwCl (wr ++ w1) H1 ∧ va_D A0 (wr ++ w1) := by
  have hl : ∀ (k : Nat) (q : Nat × va_E), wr[k]? = some q → (wr ++ [x])[k]? = some q := fun k q h => by
    rw [List.getElem?_append_left (List.getElem?_eq_some_iff.mp h).1]
    exact h
  have hlt : ∀ (k : Nat) (q : Nat × va_E), wr[k]? = some q → q.1 < H.size ∧ ¬ va_A [x] H.size q.1 := fun k q h => by
    have h1 := (hP k q (hl k q h)).lt
    refine ⟨h1, fun z => ?_⟩
    rcases z with ⟨j, e0, z⟩ | z
    · match j, z with
      | 0, z =>
        cases z
        have := hD.1 k wr.length q (q.1, e0) (hl k q h) (by simp) rfl
        have h2 := (List.getElem?_eq_some_iff.mp h).1
        omega
      | j + 1, z => simp at z
    · omega
  refine ⟨va_P.app (fun k q h => ((hP k q (hl k q h)).kept (hk _ (hlt k q h).1 (hlt k q h).2))) hP1, ?_, ?_⟩
  · intro i j p1 q1 hi hj heq
    rcases Nat.lt_or_ge i wr.length with h1 | h1 <;> rcases Nat.lt_or_ge j wr.length with h2 | h2
    · rw [List.getElem?_append_left h1] at hi
      rw [List.getElem?_append_left h2] at hj
      exact hD.1 i j p1 q1 (hl _ _ hi) (hl _ _ hj) heq
    · rw [List.getElem?_append_left h1] at hi
      rw [List.getElem?_append_right h2] at hj
      exact absurd (hD1.2 _ _ hj) (by rw [← heq]; exact (hlt _ _ hi).2)
    · rw [List.getElem?_append_right h1] at hi
      rw [List.getElem?_append_left h2] at hj
      exact absurd (hD1.2 _ _ hi) (by rw [heq]; exact (hlt _ _ hj).2)
    · rw [List.getElem?_append_right h1] at hi
      rw [List.getElem?_append_right h2] at hj
      have := hD1.1 _ _ p1 q1 hi hj heq
      omega
  · intro k q h
    rcases Nat.lt_or_ge k wr.length with h1 | h1
    · rw [List.getElem?_append_left h1] at h
      exact hD.2 k q (hl _ _ h)
    · rw [List.getElem?_append_right h1] at h
      exact hF _ (hD1.2 _ _ h)
theorem last_A {A0 : Nat → Prop} {wr : va_W} {x : Nat × va_E} {H : Heap} {locs : List Loc} (hD : va_D A0 (wr ++ [x])) (hS : va_S A0 s.heap H locs) (hA : ∀ q, s.heap.size ≤ q → A0 q) : ∀ q, va_A [x] H.size q → A0 q := by
  intro q h
  rcases h with ⟨j, e0, z⟩ | z
  · match j, z with
    | 0, z =>
      cases z
      exact hD.2 wr.length (q, e0) (by simp)
    | j + 1, z => simp at z
  · exact hA q (Nat.le_trans hS.1 z)
theorem last_P {wr : va_W} {x : Nat × va_E} {H : Heap} (hP : va_P D vwCl (wr ++ [x]) H) : va_P D vwCl [x] H := by
  intro k q hk
  match k, hk with
  | 0, hk => exact hP wr.length q (by simpa using hk)
  | k + 1, hk => simp at hk
theorem one_D {x : Nat × va_E} : va_D (fun _ => True) [x] := by
  refine ⟨fun i j p1 q1 hi hj _ => ?_, fun _ _ _ => trivial⟩
  match i, j, hi, hj with
  | 0, 0, _, _ => rfl
  | i + 1, _, hi, _ => simp at hi
  | 0, j + 1, _, hj => simp at hj
theorem ri_ini {y : MethodName} {cy : ByteArray} {kL f mc ms idx n a : Nat} {av rest : List Value} {e0 : va_E} {wr : va_W} {post : va_W → Prop} (hM : Ini y cy kL f mc ms av a e0 D cI cZ cQ sa sv post) (hF : FrI o cc nL p s m args c) (hw0 : memB (.code y cy kL none) = true) (hw1 : memB (.initialized y.cls) = true) (hw2 : memB (.methodLink (cN o) idx y) = true) (hw3 : memB (.instanceMethod y) = true) (hy : y.name = "<init>") (hd : y.cls ≠ "java/lang/invoke/MethodHandle" ∧ y.cls ≠ "java/lang/invoke/VarHandle" ∧ (parseMethodDescriptor y.desc).map (fun d => d.parameters.length) = some n) (hn : av.length = n) (hR : f + 1 ≤ R.frames ∧ 8 + (kL + 11) + 40 * f ≤ R.locals) (hcs : cells + mc ≤ R.cells ∧ slots + ms ≤ R.slots) (hs : ls.size = nL) (hdg : decode cc pc = .ok (.invokespecial idx, 3)) (hsum : (rest.map fun v => v.category).sum ≤ 8) {st0 : List Value} (hst : st0 = av.reverse ++ .ref a :: rest)
    (kk : ∀ ws1 : va_W, post ws1 → GI p l e R s m args below meth c Qf D cI cZ cQ sa sv A (cells + mc) (slots + ms) (pc + 3) ls rest (wr ++ ws1)) : GI p l e R s m args below meth c Qf D cI cZ cQ sa sv A cells slots pc ls st0 (wr ++ [(a, e0)]) := by
  intro H locs h
  subst hst
  obtain ⟨hC, hA, hP, hD, hS⟩ := id h
  have hsub := last_A hD hS hA
  have hPl : va_P D vwCl [(a, e0)] H := last_P hP
  have hDl : va_D (fun _ => True) [(a, e0)] := one_D
  refine va_callv (va_runI (As := av) (rest := rest) ⟨hF.1, hF.2.1, hF.2.2.1, hF.2.2.2.1, hF.2.2.2.2⟩ (hM l H.size) (cwI n hF.2.2.2.2 (goodi hw0) rfl rfl rfl (hF.2.2.2.2 _ (memB_gtb hw1)) (hF.2.2.2.2 _ (memB_gtb hw2)) (hF.2.2.2.2 _ (memB_gtb hw3)) hy hd hR) ⟨PreI.blind, fun U hU hW => ⟨rfl, by rw [hU], by rw [hU]; exact hPl, hDl, hC.1.go hS hU hW hsub, hC.2.go hW⟩⟩ rfl hn hs rfl (lv_room hsum) hdg hcs) hS (fun q _ h => hsub q h) hsub (fun ws1 t H1 locs1 ht hvm hp hB hz1 hk1 hS1 => ?_)
  obtain ⟨hP1, hD1⟩ := hB
  rw [ht] at hP1
  obtain ⟨hP2, hD2⟩ := last_join hP hD hk1 hsub hP1 hD1
  exact kk ws1 hp H1 locs1 ⟨hC, hA, hP2, hD2, hS1⟩
theorem ri_inN {y : MethodName} {cy : ByteArray} {kL f mc ms idx n a : Nat} {av rest : List Value} {e0 : va_E} {wr : va_W} {post : va_W → Prop} (hM : Ini y cy kL f mc ms av a e0 D cI cZ cQ sa sv post) (hF : FrI o cc nL p s m args c) (hw0 : memB (.code y cy kL none) = true) (hw1 : memB (.initialized y.cls) = true) (hw2 : va_Nw (.methodLinkNest (cN o) idx y "IfYouWill") s) (hw3 : memB (.instanceMethod y) = true) (hy : y.name = "<init>") (hd : y.cls ≠ "java/lang/invoke/MethodHandle" ∧ y.cls ≠ "java/lang/invoke/VarHandle" ∧ (parseMethodDescriptor y.desc).map (fun d => d.parameters.length) = some n) (hn : av.length = n) (hR : f + 1 ≤ R.frames ∧ 8 + (kL + 11) + 40 * f ≤ R.locals) (hcs : cells + mc ≤ R.cells ∧ slots + ms ≤ R.slots) (hs : ls.size = nL) (hdg : decode cc pc = .ok (.invokespecial idx, 3)) (hsum : (rest.map fun v => v.category).sum ≤ 8) {st0 : List Value} (hst : st0 = av.reverse ++ .ref a :: rest)
    (kk : ∀ ws1 : va_W, post ws1 → GI p l e R s m args below meth c Qf D cI cZ cQ sa sv A (cells + mc) (slots + ms) (pc + 3) ls rest (wr ++ ws1)) : GI p l e R s m args below meth c Qf D cI cZ cQ sa sv A cells slots pc ls st0 (wr ++ [(a, e0)]) := by
  intro H locs h
  subst hst
  obtain ⟨hC, hA, hP, hD, hS⟩ := id h
  have hsub := last_A hD hS hA
  have hPl : va_P D vwCl [(a, e0)] H := last_P hP
  have hDl : va_D (fun _ => True) [(a, e0)] := one_D
  refine va_callv (va_runIN (As := av) (rest := rest) ⟨hF.1, hF.2.1, hF.2.2.1, hF.2.2.2.1, hF.2.2.2.2⟩ (hM l H.size) ⟨va_cnB n hF.2.2.2.2 (goodi hw0) rfl rfl rfl hw2 (hF.2.2.2.2 _ (memB_gtb hw1)) hd hR, hy, hF.2.2.2.2 _ (memB_gtb hw3)⟩ ⟨PreI.blind, fun U hU hW => ⟨rfl, by rw [hU], by rw [hU]; exact hPl, hDl, hC.1.go hS hU hW hsub, hC.2.go hW⟩⟩ rfl hn hs rfl (lv_room hsum) hdg hcs) hS (fun q _ h => hsub q h) hsub (fun ws1 t H1 locs1 ht hvm hp hB hz1 hk1 hS1 => ?_)
  obtain ⟨hP1, hD1⟩ := hB
  rw [ht] at hP1
  obtain ⟨hP2, hD2⟩ := last_join hP hD hk1 hsub hP1 hD1
  exact kk ws1 hp H1 locs1 ⟨hC, hA, hP2, hD2, hS1⟩
theorem ri_newi1 {x : Nat × va_E} {r : va_W} {n : Int32} {N : Nat} (hF : FrI o cc nL p s m args c) (hw : memB (.arrayClass .int) = true) (hn : ¬ n < 0) (hN : n.toNatClampNeg = N) (hby : N * 4 ≤ 536870912) (hc : cells + 1 ≤ R.cells) (hs : slots + N ≤ R.slots) (hd : decode cc pc = .ok (.newarray .int, 2))
    (kk : ∀ q : Nat, GI p l e R s m args below meth c Qf D cI cZ cQ sa sv A (cells + 1) (slots + N) (pc + 2) ls (.ref q :: st) (x :: (r ++ [(q, .inl (cI, N, .inl (fun _ => 0)))]))) : GI p l e R s m args below meth c Qf D cI cZ cQ sa sv A cells slots pc ls (.int n :: st) (x :: r) := ri_newi hF hw hn hN hby hc hs hd kk
theorem ri_newz1 {x : Nat × va_E} {r : va_W} {n : Int32} {N : Nat} (hF : FrI o cc nL p s m args c) (hw : memB (.arrayClass .boolean) = true) (hn : ¬ n < 0) (hN : n.toNatClampNeg = N) (hby : N * 1 ≤ 536870912) (hc : cells + 1 ≤ R.cells) (hs : slots + N ≤ R.slots) (hd : decode cc pc = .ok (.newarray .boolean, 2))
    (kk : ∀ q : Nat, GI p l e R s m args below meth c Qf D cI cZ cQ sa sv A (cells + 1) (slots + N) (pc + 2) ls (.ref q :: st) (x :: (r ++ [(q, .inl (cZ, N, .inl (fun _ => 0)))]))) : GI p l e R s m args below meth c Qf D cI cZ cQ sa sv A cells slots pc ls (.int n :: st) (x :: r) := ri_newz hF hw hn hN hby hc hs hd kk
theorem ri_new1 {x : Nat × va_E} {r : va_W} {idx ci N : Nat} {fs : List Value} (hF : FrI o cc nL p s m args c) (hci : ci < 10) (hN : (clI ci).2.2 = N) (hw1 : memB (.classLink (cN o) idx (clI ci).1) = true) (hw2 : memB (.instantiable (clI ci).1 N) = true) (hw3 : memB (.initialized (clI ci).1) = true) (hfs : ∀ j, j < N → defaultValue (tyI ci j) = vp_V fs j) (hc : cells + 1 ≤ R.cells) (hs : slots + N ≤ R.slots) (hd : decode cc pc = .ok (.new idx, 3))
    (kk : ∀ q : Nat, GI p l e R s m args below meth c Qf D cI cZ cQ sa sv A (cells + 1) (slots + N) (pc + 3) ls (.ref q :: st) (x :: (r ++ [(q, .inr (ci, fs))]))) : GI p l e R s m args below meth c Qf D cI cZ cQ sa sv A cells slots pc ls st (x :: r) := ri_new hF hci hN hw1 hw2 hw3 hfs hc hs hd kk
theorem ri_ini1 {x : Nat × va_E} {y : MethodName} {cy : ByteArray} {kL f mc ms idx n a : Nat} {av rest : List Value} {e0 : va_E} {wr : va_W} {post : va_W → Prop} (hM : Ini y cy kL f mc ms av a e0 D cI cZ cQ sa sv post) (hF : FrI o cc nL p s m args c) (hw0 : memB (.code y cy kL none) = true) (hw1 : memB (.initialized y.cls) = true) (hw2 : memB (.methodLink (cN o) idx y) = true) (hw3 : memB (.instanceMethod y) = true) (hy : y.name = "<init>") (hd : y.cls ≠ "java/lang/invoke/MethodHandle" ∧ y.cls ≠ "java/lang/invoke/VarHandle" ∧ (parseMethodDescriptor y.desc).map (fun d => d.parameters.length) = some n) (hn : av.length = n) (hR : f + 1 ≤ R.frames ∧ 8 + (kL + 11) + 40 * f ≤ R.locals) (hcs : cells + mc ≤ R.cells ∧ slots + ms ≤ R.slots) (hs : ls.size = nL) (hdg : decode cc pc = .ok (.invokespecial idx, 3)) (hsum : (rest.map fun v => v.category).sum ≤ 8) {st0 : List Value} (hst : st0 = av.reverse ++ .ref a :: rest)
    (kk : ∀ ws1 : va_W, post ws1 → GI p l e R s m args below meth c Qf D cI cZ cQ sa sv A (cells + mc) (slots + ms) (pc + 3) ls rest (x :: (wr ++ ws1))) : GI p l e R s m args below meth c Qf D cI cZ cQ sa sv A cells slots pc ls st0 (x :: (wr ++ [(a, e0)])) := ri_ini (wr := x :: wr) hM hF hw0 hw1 hw2 hw3 hy hd hn hR hcs hs hdg hsum hst kk
theorem ri_inN1 {x : Nat × va_E} {y : MethodName} {cy : ByteArray} {kL f mc ms idx n a : Nat} {av rest : List Value} {e0 : va_E} {wr : va_W} {post : va_W → Prop} (hM : Ini y cy kL f mc ms av a e0 D cI cZ cQ sa sv post) (hF : FrI o cc nL p s m args c) (hw0 : memB (.code y cy kL none) = true) (hw1 : memB (.initialized y.cls) = true) (hw2 : va_Nw (.methodLinkNest (cN o) idx y "IfYouWill") s) (hw3 : memB (.instanceMethod y) = true) (hy : y.name = "<init>") (hd : y.cls ≠ "java/lang/invoke/MethodHandle" ∧ y.cls ≠ "java/lang/invoke/VarHandle" ∧ (parseMethodDescriptor y.desc).map (fun d => d.parameters.length) = some n) (hn : av.length = n) (hR : f + 1 ≤ R.frames ∧ 8 + (kL + 11) + 40 * f ≤ R.locals) (hcs : cells + mc ≤ R.cells ∧ slots + ms ≤ R.slots) (hs : ls.size = nL) (hdg : decode cc pc = .ok (.invokespecial idx, 3)) (hsum : (rest.map fun v => v.category).sum ≤ 8) {st0 : List Value} (hst : st0 = av.reverse ++ .ref a :: rest)
    (kk : ∀ ws1 : va_W, post ws1 → GI p l e R s m args below meth c Qf D cI cZ cQ sa sv A (cells + mc) (slots + ms) (pc + 3) ls rest (x :: (wr ++ ws1))) : GI p l e R s m args below meth c Qf D cI cZ cQ sa sv A cells slots pc ls st0 (x :: (wr ++ [(a, e0)])) := ri_inN (wr := x :: wr) hM hF hw0 hw1 hw2 hw3 hy hd hn hR hcs hs hdg hsum hst kk
theorem gi_E (h : Ex s → GI p l e R s m args below meth c Qf D cI cZ cQ sa sv A cells slots pc ls st ws) : GI p l e R s m args below meth c Qf D cI cZ cQ sa sv A cells slots pc ls st ws := fun H locs k => h k.1.2 H locs k
theorem ri_as {k : Fin 4} {i x : Nat} {lv lv' : List (Nat × Value)} (hF : FrI o cc nL p s m args c) (hd : decode cc pc = .ok (.astore_n k, 1)) (hi : (k : Nat) = i) (h : lv_has ls nL lv) (hn : i < nL) (hl : (i, Value.ref x) :: lv.filter (fun q => !(q.1 == i) && !(q.1 + 1 == i && q.2.category == 2)) = lv') (kk : ∀ ls' : Array Slot, lv_has ls' nL lv' → GI p l e R s m args below meth c Qf D cI cZ cQ sa sv A cells slots (pc + 1) ls' st ws) : GI p l e R s m args below meth c Qf D cI cZ cQ sa sv A cells slots pc ls (.ref x :: st) ws := fun H locs k => lv_astore_n hF.1 hF.2.1 hd hi h hn hl (fun ls' hl' => kk ls' hl' H locs k)
theorem ri_is {k : Fin 4} {i : Nat} {x : Int32} {lv lv' : List (Nat × Value)} (hF : FrI o cc nL p s m args c) (hd : decode cc pc = .ok (.istore_n k, 1)) (hi : (k : Nat) = i) (h : lv_has ls nL lv) (hn : i < nL) (hl : (i, Value.int x) :: lv.filter (fun q => !(q.1 == i) && !(q.1 + 1 == i && q.2.category == 2)) = lv') (kk : ∀ ls' : Array Slot, lv_has ls' nL lv' → GI p l e R s m args below meth c Qf D cI cZ cQ sa sv A cells slots (pc + 1) ls' st ws) : GI p l e R s m args below meth c Qf D cI cZ cQ sa sv A cells slots pc ls (.int x :: st) ws := fun H locs k => lv_istore_n hF.1 hF.2.1 hd hi h hn hl (fun ls' hl' => kk ls' hl' H locs k)
theorem ri_iinc {i k : Nat} {n : Int} {x v : Int32} {lv lv' : List (Nat × Value)} (hF : FrI o cc nL p s m args c) (hd : decode cc pc = .ok (.iinc i n, 3)) (h : lv_has ls nL lv) (hk : lv[k]? = some (i, .int x)) (hv : x + Int32.ofInt n = v) (hn : i < nL) (hl : (i, Value.int v) :: lv.filter (fun q => !(q.1 == i) && !(q.1 + 1 == i && q.2.category == 2)) = lv') (kk : ∀ ls' : Array Slot, lv_has ls' nL lv' → GI p l e R s m args below meth c Qf D cI cZ cQ sa sv A cells slots (pc + 3) ls' st ws) : GI p l e R s m args below meth c Qf D cI cZ cQ sa sv A cells slots pc ls st ws := fun H locs k => lv_iinc hF.1 hF.2.1 hd h hk hv hn hl (fun ls' hl' => kk ls' hl' H locs k)
theorem ri_goto {off : Int} {tgt : Nat} (hF : FrI o cc nL p s m args c) (hd : decode cc pc = .ok (.goto off, 3)) (ht : (pc : Int) + off = (tgt : Int)) (kk : GI p l e R s m args below meth c Qf D cI cZ cQ sa sv A cells slots tgt ls st ws) : GI p l e R s m args below meth c Qf D cI cZ cQ sa sv A cells slots pc ls st ws := fun H locs k => lv_goto hF.1 hF.2.1 hd ht (kk H locs k)
theorem ri_gef {x y : Int32} {off : Int} {tgt : Nat} (hF : FrI o cc nL p s m args c) (hn : ¬ y ≤ x) (hd : decode cc pc = .ok (.if_icmp .ge off, 3)) (ht : (pc : Int) + off = (tgt : Int)) (kk : GI p l e R s m args below meth c Qf D cI cZ cQ sa sv A cells slots (pc + 3) ls st ws) : GI p l e R s m args below meth c Qf D cI cZ cQ sa sv A cells slots pc ls (.int y :: .int x :: st) ws := fun H locs k => lv_icmp_ge hF.1 hF.2.1 hd ht (fun z => absurd z hn) (fun _ => kk H locs k)
theorem ri_get_t {x y : Int32} {off : Int} {tgt : Nat} (hF : FrI o cc nL p s m args c) (hn : y ≤ x) (hd : decode cc pc = .ok (.if_icmp .ge off, 3)) (ht : (pc : Int) + off = (tgt : Int)) (kk : GI p l e R s m args below meth c Qf D cI cZ cQ sa sv A cells slots tgt ls st ws) : GI p l e R s m args below meth c Qf D cI cZ cQ sa sv A cells slots pc ls (.int y :: .int x :: st) ws := fun H locs k => lv_icmp_ge hF.1 hF.2.1 hd ht (fun _ => kk H locs k) (fun z => absurd hn z)
theorem ri_cell {H : Heap} {x : Nat × va_E} {cA : ClassId} {n a : Nat} {f g : Nat → Option Nat} {r : va_W} {locs : List Loc} (hfg : ∀ j, j < n → f j = g j) (h : KI s D cI cZ cQ sa sv A (x :: (a, .inl (cA, n, .inr (.inr (.inr (.inr f))))) :: r) H locs) : KI s D cI cZ cQ sa sv A (x :: (a, .inl (cA, n, .inr (.inr (.inr (.inr g))))) :: r) H locs := by
  obtain ⟨hC, hA, hP, hD, hS⟩ := h
  have hcell : vp_cell cA (n, .inr (.inr (.inr (.inr f)))) = vp_cell cA (n, .inr (.inr (.inr (.inr g)))) := by
    rw [vp_cell_q, vp_cell_q]
    exact arrV_ext' (fun j hj => by rw [hfg j hj])
  refine ⟨hC, hA, fun k q hk => ?_, ⟨fun i j p1 q1 hi hj heq => ?_, fun k q hk => ?_⟩, hS⟩
  · match k, hk with
    | 0, hk => exact hP 0 q hk
    | 1, hk =>
      cases hk
      have := hP 1 _ rfl
      exact this.trans (congrArg some hcell)
    | k + 2, hk => exact hP (k + 2) q hk
  · have key : ∀ (k : Nat) (q : Nat × va_E), (x :: (a, (.inl (cA, n, .inr (.inr (.inr (.inr g)))) : va_E)) :: r)[k]? = some q → ∃ q' : Nat × va_E, (x :: (a, (.inl (cA, n, .inr (.inr (.inr (.inr f)))) : va_E)) :: r)[k]? = some q' ∧ q'.1 = q.1 := by
      intro k q hk
      match k, hk with
      | 0, hk => exact ⟨q, hk, rfl⟩
      | 1, hk =>
        cases hk
        exact ⟨_, rfl, rfl⟩
      | k + 2, hk => exact ⟨q, hk, rfl⟩
    obtain ⟨p', h1, h2⟩ := key i p1 hi
    obtain ⟨q', h3, h4⟩ := key j q1 hj
    exact hD.1 i j p' q' h1 h3 (by rw [h2, h4, heq])
  · match k, hk with
    | 0, hk => exact hD.2 0 q hk
    | 1, hk =>
      cases hk
      have h1 := hD.2 1 (a, .inl (cA, n, .inr (.inr (.inr (.inr f))))) rfl
      exact h1
    | k + 2, hk => exact hD.2 (k + 2) q hk
theorem ri_aast {x : Nat × va_E} {cA : ClassId} {n a v : Nat} {vs : List Value} {f : Nat → Option Nat} {r t : va_W} {i : Int32} (hF : FrI o cc nL p s m args c) (hcA : cA = cQ) (hin : vp_in i n) (hd : decode cc pc = .ok (.aastore, 1))
    (kk : GI p l e R s m args below meth c Qf D cI cZ cQ sa sv A cells slots (pc + 1) ls st (x :: (a, .inl (cA, n, .inr (.inr (.inr (.inr (va_up f i.toNatClampNeg (some v))))))) :: (r ++ ((v, .inr (2, vs)) :: t)))) : GI p l e R s m args below meth c Qf D cI cZ cQ sa sv A cells slots pc ls (.ref v :: .int i :: .ref a :: st) (x :: (a, .inl (cA, n, .inr (.inr (.inr (.inr f))))) :: (r ++ ((v, .inr (2, vs)) :: t))) := by
  intro H locs h
  subst hcA
  obtain ⟨hC, hA, hP, hD, hS⟩ := id h
  refine va_astq (r := (RX2, TX2, 7)) hF.1 hF.2.1 hC.1.1 hP hD hS 1 2 (r.length + 2) 2 (n := n) (vs := vs) (f := f) rfl rfl ?_ rfl hin hd (fun H1 locs1 hP1 hD1 hS1 => kk H1 locs1 ⟨hC, hA, hP1, hD1, hS1⟩)
  show (r ++ ((v, .inr (2, vs)) :: t))[r.length]? = _
  simp
theorem ri_newq {x : Nat × va_E} {idx : Nat} {n : Int32} {N : Nat} {r : va_W} (hF : FrI o cc nL p s m args c) (hw : memB (.classLink (cN o) idx RX2) = true) (hn : ¬ n < 0) (hN : n.toNatClampNeg = N) (hby : N * 4 ≤ 536870912) (hc : cells + 1 ≤ R.cells) (hs : slots + N ≤ R.slots) (hd : decode cc pc = .ok (.anewarray idx, 3))
    (kk : ∀ q : Nat, GI p l e R s m args below meth c Qf D cI cZ cQ sa sv A (cells + 1) (slots + N) (pc + 3) ls (.ref q :: st) (x :: (r ++ [(q, .inl (cQ, N, .inr (.inr (.inr (.inr (fun _ => none))))))]))) : GI p l e R s m args below meth c Qf D cI cZ cQ sa sv A cells slots pc ls (.int n :: st) (x :: r) := by
  intro H locs h
  obtain ⟨hC, hA, hP, hD, hS⟩ := id h
  refine va_newq (C := RX2) hF.1 hF.2.1 hF.2.2.2.1 (hF.2.2.2.2 _ (memB_gtb hw)) hC.2.1 hC.1.1 hP hD hS hA hn hN hby hc hs hd (fun q cA H1 hK1 hP1 hD1 hS1 => ?_)
  obtain ⟨-, -, -, -, -, e1⟩ := (hK1.2 3 _ rfl).2
  obtain ⟨-, -, -, -, -, e2⟩ := (hC.1.1.2 2 _ rfl).2
  rw [show s.vm.findClass ("[" ++ (FieldType.object RX2).toString) = some cA from e1] at e2
  cases e2
  exact kk q H1 locs ⟨hC, hA, hP1, hD1, hS1⟩
theorem ri_ctr {d yy idx n : Nat} {av : List PV} {bb : Bool} {k i ci : Nat} {w : Wd} {ad : Key → Nat} {ks : List Key} {rest : List Value} {Q : Wd → Option PV → Prop} (hM : Ctr d yy (vR bb k i :: av) w Q) (hwf : wf ks w) (hav : ∀ v ∈ (vR bb k i :: av : List PV), vok ks v) (hws : ws = wl cI cZ cQ sa ad ks w) (hF : FrI o cc nL p s m args c) (hki : ki bb k = (0, ci)) (hci : ci < 10) (hcn : (clI ci).1 = (yN yy).cls) (hw0 : memB (.code (yN yy) (yC yy) (yL yy) (yR yy)) = true) (hw1 : memB (.initialized (yN yy).cls) = true) (hw2 : memB (.methodLink (cN o) idx (yN yy)) = true) (hw3 : memB (.instanceMethod (yN yy)) = true) (hw4 : memB (.selects (yN yy).cls (yN yy) (yN yy)) = true) (hd : (yN yy).cls ≠ "java/lang/invoke/MethodHandle" ∧ (yN yy).cls ≠ "java/lang/invoke/VarHandle" ∧ (parseMethodDescriptor (yN yy).desc).map (fun d => d.parameters.length) = some n) (hn : av.length = n) (hR : d + 1 ≤ R.frames ∧ 8 + (yL yy + 11) + 40 * d ≤ R.locals) (hcs : cells ≤ R.cells ∧ slots ≤ R.slots) (hs : ls.size = nL) (hdg : decode cc pc = .ok (.invokevirtual idx, 3)) (hsum : (rest.map fun v => v.category).sum ≤ 8) (hst : st = ((av.map (conc sa ad)).reverse ++ [.ref (ad (bb, k, i))]) ++ rest)
    (kk : ∀ (w' : Wd) (r : Option PV), Q w' r → wf ks w' → GI p l e R s m args below meth c Qf D cI cZ cQ sa sv A cells slots (pc + 3) ls (r.toList.map (conc sa ad) ++ rest) (wl cI cZ cQ sa ad ks w')) : GI p l e R s m args below meth c Qf D cI cZ cQ sa sv A cells slots pc ls st ws := by
  intro H locs h
  subst hws
  subst hst
  obtain ⟨hC, hA, hP, hD, hS⟩ := id h
  have hW : Wx s D cI cZ cQ sa ad ks A w H locs := ⟨hwf, hP, hD, hS⟩
  have hM := hM l D cI cZ cQ sa sv ad ks H.size hwf hav
  have hq : ((bb, k, i) : Key) ∈ ks := hav _ List.mem_cons_self
  obtain ⟨q0, hq0, hat⟩ := wl_at (cI := cI) (cZ := cZ) (cQ := cQ) (sa := sa) (ad := ad) (w := w) hq
  rw [cellE_obj hki] at hat
  obtain ⟨hc1, -⟩ := cl_ok ci hci
  have hrv := va_recv hC.1.1 hP hc1 hat
  rw [hcn] at hrv
  refine call_k (va_runV (C := (yN yy).cls) (As := av.map (conc sa ad)) (rest := rest) (bytes := yC yy) (maxL := yL yy) (ret := yR yy) ⟨hF.1, hF.2.1, hF.2.2.1, hF.2.2.2.1, hF.2.2.2.2⟩ hM ⟨callB_of n hF.2.2.2.2 (goodw (memB_gtb hw0)) rfl rfl rfl (hF.2.2.2.2 _ (memB_gtb hw1)) (hF.2.2.2.2 _ (memB_gtb hw2)) hd hR, hF.2.2.2.2 _ (memB_gtb hw3), hF.2.2.2.2 _ (memB_gtb hw4)⟩ ⟨Pre0.blind, hrv, pre_U (av := vR bb k i :: av) hC.1 hW hA⟩ rfl (by rw [List.length_map]; exact hn) hs ?_ (lv_room hsum) hdg hcs) hW hA (fun w' r H1 locs1 hq hW1 hvr => kk w' r hq hW1.1 H1 locs1 ⟨hC, hA, hW1.2.1, hW1.2.2.1, hW1.2.2.2⟩)
  show ((av.map (conc sa ad)).reverse ++ [.ref (ad (bb, k, i))]) ++ rest = (av.map (conc sa ad)).reverse ++ .ref (ad (bb, k, i)) :: rest
  simp
end INI
/-- a constructor's contract out of its body -/
theorem ini_of {y : MethodName} {cc : ByteArray} {o nL f mc ms : Nat} {av : List Value} {a : Nat} {e0 : va_E} {D : va_G} {cI cZ cQ : ClassId} {sa sv : Nat → Nat} {post : va_W → Prop} (hy : plainFor y = true) (ho : y.cls = cN o) (hy1 : y.name = "<init>") (hl : (lg_sl (.ref a :: av)).length ≤ nL)
    (h : ∀ (p : Program) (l : Launch) (e : Env) (s : State) (m : MethodId) (args : Array Value) (below : List Frame) (meth : Method) (c : Code) (Qf : State → Prop) (A : Nat → Prop) (ls : Array Slot), FrI o cc nL p s m args c → meth.name = "<init>" → lv_has ls nL (lv_args 0 (.ref a :: av)) →
      (∀ (pc : Nat) (ws1 : va_W) (ls' : Array Slot) (cells slots : Nat), decode cc pc = .ok (.return_, 1) → post ws1 → cells ≤ mc → slots ≤ ms → GI p l e { frames := f, cells := mc, slots := ms, locals := 40 * f } s m args below meth c Qf D cI cZ cQ sa sv A cells slots pc ls' [] ws1) →
      GI p l e { frames := f, cells := mc, slots := ms, locals := 40 * f } s m args below meth c Qf D cI cZ cQ sa sv A 0 0 0 ls [] [(a, e0)]) : Ini y cc nL f mc ms av a e0 D cI cZ cQ sa sv post := by
  intro l sz
  refine va_MetF (cc := cc) (maxL := nL) (ret := none) hy rfl ?_
  intro p e s m args below meth c s₁ B hml hv
  obtain ⟨rfl, hsz, hP, hD0, hCx⟩ := hv
  have hx := B.exec
  have hb := B.bytes
  have hr := B.returns
  have hts := atoms_spec (ws := .code y cc nL none :: gtb) B.pre
  have hown : s.vm.findClass y.cls = some m.cls := findClass_of_methodNamed B.named
  have hlocks := B.notSynchronized
  have hin : meth.name = "<init>" := by rw [← hy1]; exact (name_of_methodNamed B.named B.method).1
  rw [ho] at hown
  subst hsz
  have hD := hD0.self (sz := s.heap.size)
  rw [lg_entry_eq]
  refine h p l e s m _ below meth c _ (va_A [(a, e0)] s.heap.size) _ ⟨hx, hb, hml, hown, fun w hw => hts w (List.mem_cons_of_mem _ hw)⟩ hin (lv_entry (.ref a :: av) hl) ?_ s.heap [] ⟨hCx, fun q h => Or.inr h, hP, hD, va_S.rf⟩
  intro pc ws1 ls' cells slots hd hp h1 h2 H locs hK
  obtain ⟨-, -, hP', hD', hS'⟩ := hK
  refine W.widen h1 h2 ?_
  exact W.vret hx hb hr (fun t ht hW => ⟨⟨ws1, rfl, hp, by rw [ht]; exact hP', hD'⟩, hS'.F ht⟩) hS'.2.2 hd

/-! what the statement gives of the start (printed by wip/whole/startgen.py) -/
def flatA : Cond → List Cond → List Cond
  | .and a b, acc => flatA a (flatA b acc)
  | c, acc => c :: acc
theorem flatA_eq (T : Cond) : ∀ acc, flatA T acc = flatC T ++ acc := by
  induction T with
  | and a b iha ihb =>
    intro acc
    simp only [flatA, flatC, iha, ihb, List.append_assoc]
  | _ =>
    intro acc
    rfl
def NT : List Cond := flatA (Jvm.Cond.and given_1 narrow_1) []
theorem nt_at {args : Array Value} {s : State} {k : Nat} {w : Cond} (h : (Jvm.Cond.and given_1 narrow_1).before args s = true) (hk : NT[k]? = some w) : w.before args s = true := by
  have hm := List.mem_of_getElem? hk
  unfold NT at hm
  rw [flatA_eq, List.append_nil] at hm
  exact flat_of_before _ h w hm
def ntB (k : Nat) (w : Cond) : Bool := decide (NT[k]? = some w)
theorem nt_of {args : Array Value} {s : State} {k : Nat} {w : Cond} (h : (Jvm.Cond.and given_1 narrow_1).before args s = true) (hk : ntB k w = true) : w.before args s = true := nt_at h (of_decide_eq_true hk)
def tmS (i : Nat) : Term := .string RX3 (cpS.getD i (0, "", 0)).1
def bp : List Nat := [242, 35, 9, 18, 27, 200, 221, 44, 55, 67, 82, 125, 143, 161, 180, 96, 110]
def pp : List (List Nat) := [[0, 253, 250, 251, 252, 264, 265, 254, 255, 256, 257, 260, 261, 262, 263, 258, 259], [253, 0, 41, 42, 43, 210, 230, 54, 65, 79, 92, 136, 153, 171, 190, 105, 119], [250, 41, 0, 26, 33, 207, 227, 51, 62, 76, 89, 133, 150, 168, 187, 102, 116], [251, 42, 26, 0, 34, 208, 228, 52, 63, 77, 90, 134, 151, 169, 188, 103, 117], [252, 43, 33, 34, 0, 209, 229, 53, 64, 78, 91, 135, 152, 170, 189, 104, 118], [264, 210, 207, 208, 209, 0, 241, 211, 212, 213, 214, 217, 218, 219, 220, 215, 216], [265, 230, 227, 228, 229, 241, 0, 231, 232, 233, 234, 237, 238, 239, 240, 235, 236], [254, 54, 51, 52, 53, 211, 231, 0, 66, 80, 93, 137, 154, 172, 191, 106, 120], [255, 65, 62, 63, 64, 212, 232, 66, 0, 81, 94, 138, 155, 173, 192, 107, 121], [256, 79, 76, 77, 78, 213, 233, 80, 81, 0, 95, 139, 156, 174, 193, 108, 122], [257, 92, 89, 90, 91, 214, 234, 93, 94, 95, 0, 140, 157, 175, 194, 109, 123], [260, 136, 133, 134, 135, 217, 237, 137, 138, 139, 140, 0, 160, 178, 197, 141, 142], [261, 153, 150, 151, 152, 218, 238, 154, 155, 156, 157, 160, 0, 179, 198, 158, 159], [262, 171, 168, 169, 170, 219, 239, 172, 173, 174, 175, 178, 179, 0, 199, 176, 177], [263, 190, 187, 188, 189, 220, 240, 191, 192, 193, 194, 197, 198, 199, 0, 195, 196], [258, 105, 102, 103, 104, 215, 235, 106, 107, 108, 109, 141, 158, 176, 195, 0, 124], [259, 119, 116, 117, 118, 216, 236, 120, 121, 122, 123, 142, 159, 177, 196, 124, 0]]
set_option maxRecDepth 100000 in
theorem nt_ex : ∀ i, i < 17 → ntB (bp.getD i 0) (.exactly (tmS i) "java/lang/String") = true := by decide +kernel
set_option maxRecDepth 100000 in
theorem nt_co : ∀ i, i < 17 → ntB (bp.getD i 0 + 1) (.eq (.field (tmS i) "java/lang/String" "coder" "B") (.int 0)) = true := by decide +kernel
set_option maxRecDepth 100000 in
theorem nt_ar : ∀ i, i < 17 → ntB (bp.getD i 0 + 2) (.arrayOf (.field (tmS i) "java/lang/String" "value" "[B") .byte) = true := by decide +kernel
set_option maxRecDepth 100000 in
theorem nt_le : ∀ i, i < 17 → ntB (bp.getD i 0 + 3) (.eq (.length (.field (tmS i) "java/lang/String" "value" "[B")) (.int (Int32.ofNat (lenT.getD i 0)))) = true := by decide +kernel
set_option maxRecDepth 100000 in
theorem nt_el : ∀ i, i < 17 → ∀ j, j < lenT.getD i 0 → ntB (bp.getD i 0 + 4 + j) (.eq (.elem (.field (tmS i) "java/lang/String" "value" "[B") (.int (Int32.ofNat j))) (.int ((bytT.getD i []).getD j 0))) = true := by decide +kernel
set_option maxRecDepth 100000 in
theorem nt_ne : ∀ i, i < 17 → ∀ j, j < 17 → i ≠ j → (ntB ((pp.getD i []).getD j 0) (.not (.eq (tmS i) (tmS j))) || ntB ((pp.getD i []).getD j 0) (.not (.eq (tmS j) (tmS i)))) = true := by decide +kernel
set_option maxRecDepth 100000 in
theorem nt_cs : ntB 4 (.eq (.static "java/lang/String" "COMPACT_STRINGS" "Z") (.int 1)) = true := by decide +kernel
set_option maxRecDepth 100000 in
theorem nt_fm : ntB 5 (.isRef (.static "jdk/internal/util/Preconditions" "SIOOBE_FORMATTER" "Ljava/util/function/BiFunction;")) = true := by decide +kernel
def inT (w : Cond) : Bool := decide (w ∈ lw_tbl)
theorem sr_all : ∀ e ∈ cpS, decide (lw_tbl[e.2.2]? = some (Cond.stringRef RX3 e.1 e.2.1)) = true := by decide +kernel
theorem lz_1 : inT (.laysStatic "java/lang/String" "COMPACT_STRINGS" "Z") = true := by decide +kernel
theorem lz_2 : inT (.initialized "java/lang/String") = true := by decide +kernel
theorem lz_3 : inT (.laysStatic "jdk/internal/util/Preconditions" "SIOOBE_FORMATTER" "Ljava/util/function/BiFunction;") = true := by decide +kernel
theorem lz_4 : inT (.initialized "jdk/internal/util/Preconditions") = true := by decide +kernel
theorem lz_5 : inT (.arrayClass .int) = true := by decide +kernel
theorem lz_6 : inT (.arrayClass .boolean) = true := by decide +kernel
theorem lz_7 : inT (.arrayOver (.object RX2)) = true := by decide +kernel
theorem lz_8 : inT (.methodLinkNest RX8 9 yX6_init "IfYouWill") = true := by decide +kernel
theorem lz_9 : inT (.methodLinkNest RX7 23 yX4_init "IfYouWill") = true := by decide +kernel
theorem lz_n : ∀ e ∈ cpM, e.2.2.2.2.1 = 2 → inT (nestW e) = true := by decide +kernel
theorem lz_i : ∀ ci, ci < 10 → inT (.instantiable (clI ci).1 (clI ci).2.2) = true := by decide +kernel
theorem lenT_lt2 : ∀ i, i < 17 → lenT.getD i 0 < 2 ^ 31 := by decide +kernel
section GIVEN
variable {args : Array Value} {s : State} {b : Nat}
theorem strx0 (h : (Jvm.Cond.and given_1 narrow_1).before args s = true) (hts : ∀ w ∈ lw_tbl, w.before args s = true) (b : Nat) : ∃ sa sv : Nat → Nat, StrX sa sv (fun q => s.heap.size ≤ q) s ∧ sa 99 = b := by
  have hA : ∀ a : Nat, a < s.heap.size → ¬ (fun q : Nat => s.heap.size ≤ q) a := fun a h => Nat.not_le.mpr h
  have ht : ∀ {w : Cond}, inT w = true → w.before args s = true := fun hw => hts _ (of_decide_eq_true hw)
  obtain ⟨sa, sv, hS, hev⟩ := vk_Sof (N := 17) (tm := tmS) (len := lenT) (byt := bytT) (args := args) (s := s) (A := fun q => s.heap.size ≤ q) lenT_lt2 (fun i hi => nt_of h (nt_ex i hi)) (fun i hi => nt_of h (nt_co i hi)) (fun i hi => nt_of h (nt_ar i hi)) (fun i hi => nt_of h (nt_le i hi)) (fun i hi j hj => nt_of h (nt_el i hi j hj)) (fun i j hi hj hne => by
    rcases (Bool.or_eq_true _ _).mp (nt_ne i hi j hj hne) with z | z
    · exact Or.inl (nt_of h z)
    · exact Or.inr (nt_of h z)) hA
  have e0 : ∀ i, i < 17 → (fun i => if i = 99 then b else sa i) i = sa i := fun i hi => if_neg (by omega)
  refine ⟨fun i => if i = 99 then b else sa i, sv, ⟨⟨fun i hi => ?_, fun i j hi hj z => ?_⟩, fun i e1 he => ?_, va_Zof (ht lz_1) (ht lz_2) (va_eqt (nt_of h nt_cs)) hA, va_Zqof (ht lz_3) (ht lz_4) (nt_of h nt_fm) hA⟩, if_pos rfl⟩
  · rw [e0 i hi]
    exact hS.1 i hi
  · rw [e0 i hi, e0 j hj] at z
    exact hS.2 i j hi hj z
  · have hi : i < 17 := (List.getElem?_eq_some_iff.mp he).1
    have h1 := hev i hi
    have h2 : tmS i = .string RX3 e1.1 := by
      unfold tmS
      rw [List.getD_eq_getElem?_getD, he]
      rfl
    rw [h2] at h1
    show vk_R RX3 e1.1 e1.2.1 ((fun i => if i = 99 then b else sa i) i) s
    rw [e0 i hi]
    exact vk_R.of (hts _ (List.mem_of_getElem? (of_decide_eq_true (sr_all e1 (List.mem_of_getElem? he))))) h1
theorem kn0 (hts : ∀ w ∈ lw_tbl, w.before args s = true) (m : ClassId) : ∃ D : va_G, ∀ (k : Nat) (q : vw_C), vwCl[k]? = some q → u_Kn s q.1 q.2.1 q.2.2 (D.1 k) (D.2 k) := by
  have h0 : ∀ ci : Nat, ∃ q : ClassId × (Nat → Nat), ci < 10 → u_Kn s (clI ci).1 (clI ci).2.1 (clI ci).2.2 q.1 q.2 := by
    intro ci
    by_cases hci : ci < 10
    · obtain ⟨-, -, hc3, -, -⟩ := cl_ok ci hci
      obtain ⟨c0, i0, h1⟩ := u_known (ws := gtb) (args := args) (fun w hw => hts w (List.mem_filter.mp hw).1) hc3 (hts _ (of_decide_eq_true (lz_i ci hci)))
      exact ⟨(c0, i0), fun _ => h1⟩
    · exact ⟨(m, fun _ => 0), fun z => absurd z hci⟩
  obtain ⟨ad, had⟩ := Classical.axiomOfChoice h0
  refine ⟨(fun k => (ad k).1, fun k => (ad k).2), fun k q hq => ?_⟩
  have hk : k < 10 := (List.getElem?_eq_some_iff.mp hq).1
  have h1 := (cl_ok k hk).1
  rw [hq] at h1
  cases h1
  exact had k hk
theorem cx0 (h : (Jvm.Cond.and given_1 narrow_1).before args s = true) (hts : ∀ w ∈ lw_tbl, w.before args s = true) (m : ClassId) (b : Nat) : ∃ (D : va_G) (cI cZ cQ : ClassId) (sa sv : Nat → Nat), Cx D cI cZ cQ sa sv (fun q => s.heap.size ≤ q) s ∧ Ex s ∧ sa 99 = b := by
  have ht : ∀ {w : Cond}, inT w = true → w.before args s = true := fun hw => hts _ (of_decide_eq_true hw)
  obtain ⟨sa, sv, hS, hb⟩ := strx0 h hts b
  obtain ⟨D, hD⟩ := kn0 hts m
  obtain ⟨cI, kI, oI, i1, i2, i3⟩ := Cond.arrayClass_spec (type := .int) (args := args) (first := s) (o := none) (s := s) (idx := []) (ht lz_5)
  obtain ⟨cZ, kZ, oZ, z1, z2, z3⟩ := Cond.arrayClass_spec (type := .boolean) (args := args) (first := s) (o := none) (s := s) (idx := []) (ht lz_6)
  obtain ⟨oQ, cQ, kQ, q0, -, q2, q3, q1⟩ := Cond.arrayOver_spec (n := RX2) (args := args) (first := s) (o := none) (s := s) (idx := []) (ht lz_7)
  refine ⟨D, cI, cZ, cQ, sa, sv, ⟨⟨hD, fun k q hq => ?_⟩, fun e he hk => va_Nw.of rfl (ht (lz_n e he hk)), hS⟩, ⟨va_AO.of (ht lz_7), va_Nw.of rfl (ht lz_8), va_Nw.of rfl (ht lz_9)⟩, hb⟩
  match k, hq with
  | 0, hq =>
    cases hq
    exact ⟨fun n z => ⟨fun k h => (by cases h), kI, i2, oI, i3⟩, i1⟩
  | 1, hq =>
    cases hq
    exact ⟨fun n z => ⟨fun k h => (by cases h), kZ, z2, oZ, z3⟩, z1⟩
  | 2, hq =>
    cases hq
    exact ⟨fun n z => ⟨fun k h => (by cases h), kQ, q2, oQ, q3⟩, kQ, oQ, q2, q3, q0, q1⟩
  | k + 3, hq => simp [atys] at hq
end GIVEN

/-! the constructors (printed by wip/whole/inigen.py) -/
def pTxtI (cI : ClassId) (a : Nat) (ws1 : va_W) : Prop := ∃ q : Nat, ws1 = [(a, .inr (6, [.ref q, .int 0])), (q, .inl (cI, 120, .inl (fun _ => 0)))]
set_option maxHeartbeats 8000000 in
set_option maxRecDepth 100000 in
theorem c_iText {D : va_G} {cI cZ cQ : ClassId} {sa sv : Nat → Nat} {a : Nat} : Ini yX6_init cX6_init 1 1 1 120 [] a (.inr (6, [.null, (.int 0)])) D cI cZ cQ sa sv (pTxtI cI a) := by
  refine ini_of (o := 6) (by decide) rfl rfl (Nat.le_of_ble_eq_true rfl) ?_
  intro p l e s m args below meth c Qf A ls hF hin hl fin
  have hl : lv_has ls 1 (lv_args 0 (.ref a :: [])) := hl
  refine ri_al (k := 0) (i := 0) hF (lv_at hl 0 rfl) (by decide +kernel) rfl ?_
  refine ri_obj (idx := 3) hF (by decide +kernel) (by decide +kernel) (by decide +kernel) hl.1 (by decide +kernel) (Nat.le_of_ble_eq_true rfl) (Nat.le_of_ble_eq_true rfl) ?_
  refine ri_al (k := 0) (i := 0) hF (lv_at hl 0 rfl) (by decide +kernel) rfl ?_
  refine ri_bi (n := 120) (v := 120) hF (by decide +kernel) (by decide) ?_
  refine ri_newi1 (N := 120) hF (by decide +kernel) (by decide) (by decide) (by decide) (Nat.le_of_ble_eq_true rfl) (Nat.le_of_ble_eq_true rfl) (by decide +kernel) (fun q1 => ?_)
  refine ri_put (idx := 9) (ci := 6) (k := 0) (fs' := [(.ref q1), (.int 0)]) hF hin (by decide) (by decide) (by decide +kernel) rfl rfl rfl rfl (Nat.le_of_ble_eq_true rfl) rfl (by decide +kernel) ?_
  refine ri_al (k := 0) (i := 0) hF (lv_at hl 0 rfl) (by decide +kernel) rfl ?_
  refine ri_ic (n := 0) (v := 0) hF (by decide +kernel) (by decide) ?_
  refine ri_put (idx := 15) (ci := 6) (k := 1) (fs' := [(.ref q1), (.int 0)]) hF hin (by decide) (by decide) (by decide +kernel) rfl rfl rfl rfl (Nat.le_of_ble_eq_true rfl) rfl (by decide +kernel) ?_
  exact fin _ _ _ _ _ (by decide +kernel) ⟨q1, rfl⟩ (Nat.le_of_ble_eq_true rfl) (Nat.le_of_ble_eq_true rfl)
def pScene (a : Nat) (ws1 : va_W) : Prop := ws1 = [(a, .inr (4, [.int 0, .int 0, .int 9, .int 0]))]
set_option maxHeartbeats 8000000 in
set_option maxRecDepth 100000 in
theorem c_iScene {D : va_G} {cI cZ cQ : ClassId} {sa sv : Nat → Nat} {a : Nat} : Ini yX4_init cX4_init 1 1 0 0 [] a (.inr (4, [(.int 0), (.int 0), (.int 0), (.int 0)])) D cI cZ cQ sa sv (pScene a) := by
  refine ini_of (o := 4) (by decide) rfl rfl (Nat.le_of_ble_eq_true rfl) ?_
  intro p l e s m args below meth c Qf A ls hF hin hl fin
  have hl : lv_has ls 1 (lv_args 0 (.ref a :: [])) := hl
  refine ri_al (k := 0) (i := 0) hF (lv_at hl 0 rfl) (by decide +kernel) rfl ?_
  refine ri_obj (idx := 3) hF (by decide +kernel) (by decide +kernel) (by decide +kernel) hl.1 (by decide +kernel) (Nat.le_of_ble_eq_true rfl) (Nat.le_of_ble_eq_true rfl) ?_
  refine ri_al (k := 0) (i := 0) hF (lv_at hl 0 rfl) (by decide +kernel) rfl ?_
  refine ri_ic (n := 0) (v := 0) hF (by decide +kernel) (by decide) ?_
  refine ri_put (idx := 9) (ci := 4) (k := 0) (fs' := [(.int 0), (.int 0), (.int 0), (.int 0)]) hF hin (by decide) (by decide) (by decide +kernel) rfl rfl rfl rfl (Nat.le_of_ble_eq_true rfl) rfl (by decide +kernel) ?_
  refine ri_al (k := 0) (i := 0) hF (lv_at hl 0 rfl) (by decide +kernel) rfl ?_
  refine ri_ic (n := 0) (v := 0) hF (by decide +kernel) (by decide) ?_
  refine ri_put (idx := 15) (ci := 4) (k := 1) (fs' := [(.int 0), (.int 0), (.int 0), (.int 0)]) hF hin (by decide) (by decide) (by decide +kernel) rfl rfl rfl rfl (Nat.le_of_ble_eq_true rfl) rfl (by decide +kernel) ?_
  refine ri_al (k := 0) (i := 0) hF (lv_at hl 0 rfl) (by decide +kernel) rfl ?_
  refine ri_bi (n := 9) (v := 9) hF (by decide +kernel) (by decide) ?_
  refine ri_put (idx := 18) (ci := 4) (k := 2) (fs' := [(.int 0), (.int 0), (.int 9), (.int 0)]) hF hin (by decide) (by decide) (by decide +kernel) rfl rfl rfl rfl (Nat.le_of_ble_eq_true rfl) rfl (by decide +kernel) ?_
  refine ri_al (k := 0) (i := 0) hF (lv_at hl 0 rfl) (by decide +kernel) rfl ?_
  refine ri_ic (n := 0) (v := 0) hF (by decide +kernel) (by decide) ?_
  refine ri_put (idx := 21) (ci := 4) (k := 3) (fs' := [(.int 0), (.int 0), (.int 9), (.int 0)]) hF hin (by decide) (by decide) (by decide +kernel) rfl rfl rfl rfl (Nat.le_of_ble_eq_true rfl) rfl (by decide +kernel) ?_
  exact fin _ _ _ _ _ (by decide +kernel) rfl (Nat.le_of_ble_eq_true rfl) (Nat.le_of_ble_eq_true rfl)
def pClimb (a v : Nat) (ws1 : va_W) : Prop := ws1 = [(a, .inr (1, [.ref v, .int (-1), .int 0, .int 0]))]
set_option maxHeartbeats 8000000 in
set_option maxRecDepth 100000 in
theorem c_iClimb {D : va_G} {cI cZ cQ : ClassId} {sa sv : Nat → Nat} {a v : Nat} : Ini yX1_init cX1_init 2 1 0 0 [.ref v] a (.inr (1, [.null, (.int 0), (.int 0), (.int 0)])) D cI cZ cQ sa sv (pClimb a v) := by
  refine ini_of (o := 1) (by decide) rfl rfl (Nat.le_of_ble_eq_true rfl) ?_
  intro p l e s m args below meth c Qf A ls hF hin hl fin
  have hl : lv_has ls 2 (lv_args 0 (.ref a :: [.ref v])) := hl
  refine ri_al (k := 0) (i := 0) hF (lv_at hl 0 rfl) (by decide +kernel) rfl ?_
  refine ri_obj (idx := 3) hF (by decide +kernel) (by decide +kernel) (by decide +kernel) hl.1 (by decide +kernel) (Nat.le_of_ble_eq_true rfl) (Nat.le_of_ble_eq_true rfl) ?_
  refine ri_al (k := 0) (i := 0) hF (lv_at hl 0 rfl) (by decide +kernel) rfl ?_
  refine ri_ic (n := -1) (v := -1) hF (by decide +kernel) (by decide) ?_
  refine ri_put (idx := 9) (ci := 1) (k := 1) (fs' := [.null, (.int (-1)), (.int 0), (.int 0)]) hF hin (by decide) (by decide) (by decide +kernel) rfl rfl rfl rfl (Nat.le_of_ble_eq_true rfl) rfl (by decide +kernel) ?_
  refine ri_al (k := 0) (i := 0) hF (lv_at hl 0 rfl) (by decide +kernel) rfl ?_
  refine ri_ic (n := 0) (v := 0) hF (by decide +kernel) (by decide) ?_
  refine ri_put (idx := 15) (ci := 1) (k := 2) (fs' := [.null, (.int (-1)), (.int 0), (.int 0)]) hF hin (by decide) (by decide) (by decide +kernel) rfl rfl rfl rfl (Nat.le_of_ble_eq_true rfl) rfl (by decide +kernel) ?_
  refine ri_al (k := 0) (i := 0) hF (lv_at hl 0 rfl) (by decide +kernel) rfl ?_
  refine ri_ic (n := 0) (v := 0) hF (by decide +kernel) (by decide) ?_
  refine ri_put (idx := 18) (ci := 1) (k := 3) (fs' := [.null, (.int (-1)), (.int 0), (.int 0)]) hF hin (by decide) (by decide) (by decide +kernel) rfl rfl rfl rfl (Nat.le_of_ble_eq_true rfl) rfl (by decide +kernel) ?_
  refine ri_al (k := 0) (i := 0) hF (lv_at hl 0 rfl) (by decide +kernel) rfl ?_
  refine ri_al (k := 1) (i := 1) hF (lv_at hl 1 rfl) (by decide +kernel) rfl ?_
  refine ri_put (idx := 21) (ci := 1) (k := 0) (fs' := [(.ref v), (.int (-1)), (.int 0), (.int 0)]) hF hin (by decide) (by decide) (by decide +kernel) rfl rfl rfl rfl (Nat.le_of_ble_eq_true rfl) rfl (by decide +kernel) ?_
  exact fin _ _ _ _ _ (by decide +kernel) rfl (Nat.le_of_ble_eq_true rfl) (Nat.le_of_ble_eq_true rfl)
def pBarg (a v : Nat) (ws1 : va_W) : Prop := ws1 = [(a, .inr (0, [.ref v]))]
set_option maxHeartbeats 8000000 in
set_option maxRecDepth 100000 in
theorem c_iBarg {D : va_G} {cI cZ cQ : ClassId} {sa sv : Nat → Nat} {a v : Nat} : Ini yX0_init cX0_init 2 1 0 0 [.ref v] a (.inr (0, [.null])) D cI cZ cQ sa sv (pBarg a v) := by
  refine ini_of (o := 0) (by decide) rfl rfl (Nat.le_of_ble_eq_true rfl) ?_
  intro p l e s m args below meth c Qf A ls hF hin hl fin
  have hl : lv_has ls 2 (lv_args 0 (.ref a :: [.ref v])) := hl
  refine ri_al (k := 0) (i := 0) hF (lv_at hl 0 rfl) (by decide +kernel) rfl ?_
  refine ri_obj (idx := 1) hF (by decide +kernel) (by decide +kernel) (by decide +kernel) hl.1 (by decide +kernel) (Nat.le_of_ble_eq_true rfl) (Nat.le_of_ble_eq_true rfl) ?_
  refine ri_al (k := 0) (i := 0) hF (lv_at hl 0 rfl) (by decide +kernel) rfl ?_
  refine ri_al (k := 1) (i := 1) hF (lv_at hl 1 rfl) (by decide +kernel) rfl ?_
  refine ri_put (idx := 7) (ci := 0) (k := 0) (fs' := [(.ref v)]) hF hin (by decide) (by decide) (by decide +kernel) rfl rfl rfl rfl (Nat.le_of_ble_eq_true rfl) rfl (by decide +kernel) ?_
  exact fin _ _ _ _ _ (by decide +kernel) rfl (Nat.le_of_ble_eq_true rfl) (Nat.le_of_ble_eq_true rfl)
def ksT (t : Nat) : List Key := [(false, 11, t), (false, 12, t), (false, 13, t), (false, 14, t), (false, 15, t), (false, 16, t), (false, 17, t), (false, 18, t), (false, 22, t)]
def z3 : Sd := (fun _ _ _ => 0, fun _ _ _ => 0, fun _ _ => 0)
def adT (a q1 q2 q3 q4 q5 q6 q7 q8 : Nat) (q : Key) : Nat := match q.2.1 with
  | 11 => a
  | 12 => q1
  | 13 => q2
  | 14 => q3
  | 15 => q4
  | 16 => q5
  | 17 => q6
  | 18 => q7
  | _ => q8
def pTerm (cI cZ cQ : ClassId) (sa : Nat → Nat) (t a : Nat) (ws1 : va_W) : Prop := ∃ (ad : Key → Nat) (w : Wd), ws1 = wl cI cZ cQ sa ad (ksT t) w ∧ ad (false, 11, t) = a ∧ Dr w.1 t T0
theorem wf_T (t : Nat) : wf (ksT t) (z3, z3) := by
  refine ⟨by simp [ksT], ?_, ?_⟩
  · intro q hq ci hk f hf
    simp only [ksT, List.mem_cons, List.not_mem_nil, or_false] at hq
    rcases hq with rfl | rfl | rfl | rfl | rfl | rfl | rfl | rfl | rfl
    · cases hk
      have hf : f < 11 := hf
      have : f = 0 ∨ f = 1 ∨ f = 2 ∨ f = 3 ∨ f = 4 ∨ f = 5 ∨ f = 6 ∨ f = 7 ∨ f = 8 ∨ f = 9 ∨ f = 10 := by omega
      rcases this with rfl | rfl | rfl | rfl | rfl | rfl | rfl | rfl | rfl | rfl | rfl <;> simp [fval, fk, fkT, vok, ksT]
    all_goals cases hk
  · intro q hq n hk
    simp only [ksT, List.mem_cons, List.not_mem_nil, or_false] at hq
    rcases hq with rfl | rfl | rfl | rfl | rfl | rfl | rfl | rfl | rfl <;> cases hk
set_option maxHeartbeats 8000000 in
set_option maxRecDepth 100000 in
theorem c_iTerm {D : va_G} {cI cZ cQ : ClassId} {sa sv : Nat → Nat} {a t : Nat} : Ini yX5_init cX5_init 1 2 8 355 [] a (.inr (5, [.null, .null, .null, (.int 0), .null, .null, .null, .null, (.int 0), .null, (.int 0)])) D cI cZ cQ sa sv (pTerm cI cZ cQ sa t a) := by
  refine ini_of (o := 5) (by decide) rfl rfl (Nat.le_of_ble_eq_true rfl) ?_
  intro p l e s m args below meth c Qf A ls hF hin hl fin
  have hl : lv_has ls 1 (lv_args 0 (.ref a :: [])) := hl
  refine ri_al (k := 0) (i := 0) hF (lv_at hl 0 rfl) (by decide +kernel) rfl ?_
  refine ri_obj (idx := 3) hF (by decide +kernel) (by decide +kernel) (by decide +kernel) hl.1 (by decide +kernel) (Nat.le_of_ble_eq_true rfl) (Nat.le_of_ble_eq_true rfl) ?_
  refine ri_al (k := 0) (i := 0) hF (lv_at hl 0 rfl) (by decide +kernel) rfl ?_
  refine ri_bi (n := 25) (v := 25) hF (by decide +kernel) (by decide) ?_
  refine ri_newi1 (N := 25) hF (by decide +kernel) (by decide) (by decide) (by decide) (Nat.le_of_ble_eq_true rfl) (Nat.le_of_ble_eq_true rfl) (by decide +kernel) (fun q1 => ?_)
  refine ri_put (idx := 11) (ci := 5) (k := 0) (fs' := [(.ref q1), .null, .null, (.int 0), .null, .null, .null, .null, (.int 0), .null, (.int 0)]) hF hin (by decide) (by decide) (by decide +kernel) rfl rfl rfl rfl (Nat.le_of_ble_eq_true rfl) rfl (by decide +kernel) ?_
  refine ri_al (k := 0) (i := 0) hF (lv_at hl 0 rfl) (by decide +kernel) rfl ?_
  refine ri_bi (n := 25) (v := 25) hF (by decide +kernel) (by decide) ?_
  refine ri_newi1 (N := 25) hF (by decide +kernel) (by decide) (by decide) (by decide) (Nat.le_of_ble_eq_true rfl) (Nat.le_of_ble_eq_true rfl) (by decide +kernel) (fun q2 => ?_)
  refine ri_put (idx := 15) (ci := 5) (k := 1) (fs' := [(.ref q1), (.ref q2), .null, (.int 0), .null, .null, .null, .null, (.int 0), .null, (.int 0)]) hF hin (by decide) (by decide) (by decide +kernel) rfl rfl rfl rfl (Nat.le_of_ble_eq_true rfl) rfl (by decide +kernel) ?_
  refine ri_al (k := 0) (i := 0) hF (lv_at hl 0 rfl) (by decide +kernel) rfl ?_
  refine ri_bi (n := 25) (v := 25) hF (by decide +kernel) (by decide) ?_
  refine ri_newi1 (N := 25) hF (by decide +kernel) (by decide) (by decide) (by decide) (Nat.le_of_ble_eq_true rfl) (Nat.le_of_ble_eq_true rfl) (by decide +kernel) (fun q3 => ?_)
  refine ri_put (idx := 18) (ci := 5) (k := 2) (fs' := [(.ref q1), (.ref q2), (.ref q3), (.int 0), .null, .null, .null, .null, (.int 0), .null, (.int 0)]) hF hin (by decide) (by decide) (by decide +kernel) rfl rfl rfl rfl (Nat.le_of_ble_eq_true rfl) rfl (by decide +kernel) ?_
  refine ri_al (k := 0) (i := 0) hF (lv_at hl 0 rfl) (by decide +kernel) rfl ?_
  refine ri_ic (n := 0) (v := 0) hF (by decide +kernel) (by decide) ?_
  refine ri_put (idx := 21) (ci := 5) (k := 3) (fs' := [(.ref q1), (.ref q2), (.ref q3), (.int 0), .null, .null, .null, .null, (.int 0), .null, (.int 0)]) hF hin (by decide) (by decide) (by decide +kernel) rfl rfl rfl rfl (Nat.le_of_ble_eq_true rfl) rfl (by decide +kernel) ?_
  refine ri_al (k := 0) (i := 0) hF (lv_at hl 0 rfl) (by decide +kernel) rfl ?_
  refine ri_bi (n := 40) (v := 40) hF (by decide +kernel) (by decide) ?_
  refine ri_newi1 (N := 40) hF (by decide +kernel) (by decide) (by decide) (by decide) (Nat.le_of_ble_eq_true rfl) (Nat.le_of_ble_eq_true rfl) (by decide +kernel) (fun q4 => ?_)
  refine ri_put (idx := 25) (ci := 5) (k := 4) (fs' := [(.ref q1), (.ref q2), (.ref q3), (.int 0), (.ref q4), .null, .null, .null, (.int 0), .null, (.int 0)]) hF hin (by decide) (by decide) (by decide +kernel) rfl rfl rfl rfl (Nat.le_of_ble_eq_true rfl) rfl (by decide +kernel) ?_
  refine ri_al (k := 0) (i := 0) hF (lv_at hl 0 rfl) (by decide +kernel) rfl ?_
  refine ri_bi (n := 40) (v := 40) hF (by decide +kernel) (by decide) ?_
  refine ri_newi1 (N := 40) hF (by decide +kernel) (by decide) (by decide) (by decide) (Nat.le_of_ble_eq_true rfl) (Nat.le_of_ble_eq_true rfl) (by decide +kernel) (fun q5 => ?_)
  refine ri_put (idx := 28) (ci := 5) (k := 5) (fs' := [(.ref q1), (.ref q2), (.ref q3), (.int 0), (.ref q4), (.ref q5), .null, .null, (.int 0), .null, (.int 0)]) hF hin (by decide) (by decide) (by decide +kernel) rfl rfl rfl rfl (Nat.le_of_ble_eq_true rfl) rfl (by decide +kernel) ?_
  refine ri_al (k := 0) (i := 0) hF (lv_at hl 0 rfl) (by decide +kernel) rfl ?_
  refine ri_bi (n := 40) (v := 40) hF (by decide +kernel) (by decide) ?_
  refine ri_newi1 (N := 40) hF (by decide +kernel) (by decide) (by decide) (by decide) (Nat.le_of_ble_eq_true rfl) (Nat.le_of_ble_eq_true rfl) (by decide +kernel) (fun q6 => ?_)
  refine ri_put (idx := 31) (ci := 5) (k := 6) (fs' := [(.ref q1), (.ref q2), (.ref q3), (.int 0), (.ref q4), (.ref q5), (.ref q6), .null, (.int 0), .null, (.int 0)]) hF hin (by decide) (by decide) (by decide +kernel) rfl rfl rfl rfl (Nat.le_of_ble_eq_true rfl) rfl (by decide +kernel) ?_
  refine ri_al (k := 0) (i := 0) hF (lv_at hl 0 rfl) (by decide +kernel) rfl ?_
  refine ri_bi (n := 80) (v := 80) hF (by decide +kernel) (by decide) ?_
  refine ri_newi1 (N := 80) hF (by decide +kernel) (by decide) (by decide) (by decide) (Nat.le_of_ble_eq_true rfl) (Nat.le_of_ble_eq_true rfl) (by decide +kernel) (fun q7 => ?_)
  refine ri_put (idx := 34) (ci := 5) (k := 7) (fs' := [(.ref q1), (.ref q2), (.ref q3), (.int 0), (.ref q4), (.ref q5), (.ref q6), (.ref q7), (.int 0), .null, (.int 0)]) hF hin (by decide) (by decide) (by decide +kernel) rfl rfl rfl rfl (Nat.le_of_ble_eq_true rfl) rfl (by decide +kernel) ?_
  refine ri_al (k := 0) (i := 0) hF (lv_at hl 0 rfl) (by decide +kernel) rfl ?_
  refine ri_ic (n := 0) (v := 0) hF (by decide +kernel) (by decide) ?_
  refine ri_put (idx := 37) (ci := 5) (k := 8) (fs' := [(.ref q1), (.ref q2), (.ref q3), (.int 0), (.ref q4), (.ref q5), (.ref q6), (.ref q7), (.int 0), .null, (.int 0)]) hF hin (by decide) (by decide) (by decide +kernel) rfl rfl rfl rfl (Nat.le_of_ble_eq_true rfl) rfl (by decide +kernel) ?_
  refine ri_al (k := 0) (i := 0) hF (lv_at hl 0 rfl) (by decide +kernel) rfl ?_
  refine ri_bi (n := 80) (v := 80) hF (by decide +kernel) (by decide) ?_
  refine ri_newi1 (N := 80) hF (by decide +kernel) (by decide) (by decide) (by decide) (Nat.le_of_ble_eq_true rfl) (Nat.le_of_ble_eq_true rfl) (by decide +kernel) (fun q8 => ?_)
  refine ri_put (idx := 40) (ci := 5) (k := 9) (fs' := [(.ref q1), (.ref q2), (.ref q3), (.int 0), (.ref q4), (.ref q5), (.ref q6), (.ref q7), (.int 0), (.ref q8), (.int 0)]) hF hin (by decide) (by decide) (by decide +kernel) rfl rfl rfl rfl (Nat.le_of_ble_eq_true rfl) rfl (by decide +kernel) ?_
  refine ri_al (k := 0) (i := 0) hF (lv_at hl 0 rfl) (by decide +kernel) rfl ?_
  refine ri_ic (n := 0) (v := 0) hF (by decide +kernel) (by decide) ?_
  refine ri_put (idx := 43) (ci := 5) (k := 10) (fs' := [(.ref q1), (.ref q2), (.ref q3), (.int 0), (.ref q4), (.ref q5), (.ref q6), (.ref q7), (.int 0), (.ref q8), (.int 0)]) hF hin (by decide) (by decide) (by decide +kernel) rfl rfl rfl rfl (Nat.le_of_ble_eq_true rfl) rfl (by decide +kernel) ?_
  refine ri_al (k := 0) (i := 0) hF (lv_at hl 0 rfl) (by decide +kernel) rfl ?_
  refine ri_ctr (idx := 46) (n := 0) (bb := false) (k := 11) (i := t) (ci := 5) (rest := []) (ad := adT a q1 q2 q3 q4 q5 q6 q7 q8) (ks := ksT t) (c_becomeZero (c := z3) (m := z3) (t := t)) (wf_T t) (fun v hv => ?_) rfl hF rfl (by decide) rfl (by decide +kernel) (by decide +kernel) (by decide +kernel) (by decide +kernel) (by decide +kernel) (by decide +kernel) rfl ⟨(Nat.le_of_ble_eq_true rfl), (Nat.le_of_ble_eq_true rfl)⟩ ⟨(Nat.le_of_ble_eq_true rfl), (Nat.le_of_ble_eq_true rfl)⟩ hl.1 (by decide +kernel) (Nat.le_of_ble_eq_true rfl) rfl (fun w' r hq _ => ?_)
  · simp only [List.mem_cons, List.not_mem_nil, or_false] at hv
    subst hv
    simp [vok, ksT]
  obtain ⟨c', rfl, -, hDr, rfl⟩ := hq
  exact fin _ _ _ _ _ (by decide +kernel) ⟨_, _, rfl, rfl, hDr⟩ (Nat.le_of_ble_eq_true rfl) (Nat.le_of_ble_eq_true rfl)
def pRead (cI cZ cQ : ClassId) (sa : Nat → Nat) (a tx : Nat) (ws1 : va_W) : Prop := ∃ (q1 q2 q3 : Nat) (ad : Key → Nat) (w : Wd), ws1 = (a, .inr (3, [.ref tx, .ref q1, .ref q2, .ref q3, .int 0, .int 0, .int 0, .int (-1), .int 0, .int 0, .int (-1), .ref (ad (false, 11, 6)), .int 0, .int (-1)])) :: (((([] ++ [(q1, .inl (cI, 121, .inl (fun _ => 0)))]) ++ [(q2, .inl (cI, 121, .inl (fun _ => 0)))]) ++ [(q3, .inl (cI, 121, .inl (fun _ => 0)))]) ++ wl cI cZ cQ sa ad (ksT 6) w) ∧ Dr w.1 6 T0
set_option maxHeartbeats 8000000 in
set_option maxRecDepth 100000 in
theorem c_iRead {D : va_G} {cI cZ cQ : ClassId} {sa sv : Nat → Nat} {a tx : Nat} : Ini yX3_init cX3_init 2 3 12 729 [.ref tx] a (.inr (3, [.null, .null, .null, .null, (.int 0), (.int 0), (.int 0), (.int 0), (.int 0), (.int 0), (.int 0), .null, (.int 0), (.int 0)])) D cI cZ cQ sa sv (pRead cI cZ cQ sa a tx) := by
  refine ini_of (o := 3) (by decide) rfl rfl (Nat.le_of_ble_eq_true rfl) ?_
  intro p l e s m args below meth c Qf A ls hF hin hl fin
  have hl : lv_has ls 2 (lv_args 0 (.ref a :: [.ref tx])) := hl
  refine ri_al (k := 0) (i := 0) hF (lv_at hl 0 rfl) (by decide +kernel) rfl ?_
  refine ri_obj (idx := 3) hF (by decide +kernel) (by decide +kernel) (by decide +kernel) hl.1 (by decide +kernel) (Nat.le_of_ble_eq_true rfl) (Nat.le_of_ble_eq_true rfl) ?_
  refine ri_al (k := 0) (i := 0) hF (lv_at hl 0 rfl) (by decide +kernel) rfl ?_
  refine ri_bi (n := 121) (v := 121) hF (by decide +kernel) (by decide) ?_
  refine ri_newi1 (N := 121) hF (by decide +kernel) (by decide) (by decide) (by decide) (Nat.le_of_ble_eq_true rfl) (Nat.le_of_ble_eq_true rfl) (by decide +kernel) (fun q1 => ?_)
  refine ri_put (idx := 11) (ci := 3) (k := 1) (fs' := [.null, (.ref q1), .null, .null, (.int 0), (.int 0), (.int 0), (.int 0), (.int 0), (.int 0), (.int 0), .null, (.int 0), (.int 0)]) hF hin (by decide) (by decide) (by decide +kernel) rfl rfl rfl rfl (Nat.le_of_ble_eq_true rfl) rfl (by decide +kernel) ?_
  refine ri_al (k := 0) (i := 0) hF (lv_at hl 0 rfl) (by decide +kernel) rfl ?_
  refine ri_bi (n := 121) (v := 121) hF (by decide +kernel) (by decide) ?_
  refine ri_newi1 (N := 121) hF (by decide +kernel) (by decide) (by decide) (by decide) (Nat.le_of_ble_eq_true rfl) (Nat.le_of_ble_eq_true rfl) (by decide +kernel) (fun q2 => ?_)
  refine ri_put (idx := 15) (ci := 3) (k := 2) (fs' := [.null, (.ref q1), (.ref q2), .null, (.int 0), (.int 0), (.int 0), (.int 0), (.int 0), (.int 0), (.int 0), .null, (.int 0), (.int 0)]) hF hin (by decide) (by decide) (by decide +kernel) rfl rfl rfl rfl (Nat.le_of_ble_eq_true rfl) rfl (by decide +kernel) ?_
  refine ri_al (k := 0) (i := 0) hF (lv_at hl 0 rfl) (by decide +kernel) rfl ?_
  refine ri_bi (n := 121) (v := 121) hF (by decide +kernel) (by decide) ?_
  refine ri_newi1 (N := 121) hF (by decide +kernel) (by decide) (by decide) (by decide) (Nat.le_of_ble_eq_true rfl) (Nat.le_of_ble_eq_true rfl) (by decide +kernel) (fun q3 => ?_)
  refine ri_put (idx := 18) (ci := 3) (k := 3) (fs' := [.null, (.ref q1), (.ref q2), (.ref q3), (.int 0), (.int 0), (.int 0), (.int 0), (.int 0), (.int 0), (.int 0), .null, (.int 0), (.int 0)]) hF hin (by decide) (by decide) (by decide +kernel) rfl rfl rfl rfl (Nat.le_of_ble_eq_true rfl) rfl (by decide +kernel) ?_
  refine ri_al (k := 0) (i := 0) hF (lv_at hl 0 rfl) (by decide +kernel) rfl ?_
  refine ri_ic (n := 0) (v := 0) hF (by decide +kernel) (by decide) ?_
  refine ri_put (idx := 21) (ci := 3) (k := 4) (fs' := [.null, (.ref q1), (.ref q2), (.ref q3), (.int 0), (.int 0), (.int 0), (.int 0), (.int 0), (.int 0), (.int 0), .null, (.int 0), (.int 0)]) hF hin (by decide) (by decide) (by decide +kernel) rfl rfl rfl rfl (Nat.le_of_ble_eq_true rfl) rfl (by decide +kernel) ?_
  refine ri_al (k := 0) (i := 0) hF (lv_at hl 0 rfl) (by decide +kernel) rfl ?_
  refine ri_ic (n := 0) (v := 0) hF (by decide +kernel) (by decide) ?_
  refine ri_put (idx := 25) (ci := 3) (k := 5) (fs' := [.null, (.ref q1), (.ref q2), (.ref q3), (.int 0), (.int 0), (.int 0), (.int 0), (.int 0), (.int 0), (.int 0), .null, (.int 0), (.int 0)]) hF hin (by decide) (by decide) (by decide +kernel) rfl rfl rfl rfl (Nat.le_of_ble_eq_true rfl) rfl (by decide +kernel) ?_
  refine ri_al (k := 0) (i := 0) hF (lv_at hl 0 rfl) (by decide +kernel) rfl ?_
  refine ri_ic (n := 0) (v := 0) hF (by decide +kernel) (by decide) ?_
  refine ri_put (idx := 28) (ci := 3) (k := 6) (fs' := [.null, (.ref q1), (.ref q2), (.ref q3), (.int 0), (.int 0), (.int 0), (.int 0), (.int 0), (.int 0), (.int 0), .null, (.int 0), (.int 0)]) hF hin (by decide) (by decide) (by decide +kernel) rfl rfl rfl rfl (Nat.le_of_ble_eq_true rfl) rfl (by decide +kernel) ?_
  refine ri_al (k := 0) (i := 0) hF (lv_at hl 0 rfl) (by decide +kernel) rfl ?_
  refine ri_ic (n := -1) (v := -1) hF (by decide +kernel) (by decide) ?_
  refine ri_put (idx := 31) (ci := 3) (k := 7) (fs' := [.null, (.ref q1), (.ref q2), (.ref q3), (.int 0), (.int 0), (.int 0), (.int (-1)), (.int 0), (.int 0), (.int 0), .null, (.int 0), (.int 0)]) hF hin (by decide) (by decide) (by decide +kernel) rfl rfl rfl rfl (Nat.le_of_ble_eq_true rfl) rfl (by decide +kernel) ?_
  refine ri_al (k := 0) (i := 0) hF (lv_at hl 0 rfl) (by decide +kernel) rfl ?_
  refine ri_ic (n := 0) (v := 0) hF (by decide +kernel) (by decide) ?_
  refine ri_put (idx := 34) (ci := 3) (k := 8) (fs' := [.null, (.ref q1), (.ref q2), (.ref q3), (.int 0), (.int 0), (.int 0), (.int (-1)), (.int 0), (.int 0), (.int 0), .null, (.int 0), (.int 0)]) hF hin (by decide) (by decide) (by decide +kernel) rfl rfl rfl rfl (Nat.le_of_ble_eq_true rfl) rfl (by decide +kernel) ?_
  refine ri_al (k := 0) (i := 0) hF (lv_at hl 0 rfl) (by decide +kernel) rfl ?_
  refine ri_ic (n := 0) (v := 0) hF (by decide +kernel) (by decide) ?_
  refine ri_put (idx := 37) (ci := 3) (k := 9) (fs' := [.null, (.ref q1), (.ref q2), (.ref q3), (.int 0), (.int 0), (.int 0), (.int (-1)), (.int 0), (.int 0), (.int 0), .null, (.int 0), (.int 0)]) hF hin (by decide) (by decide) (by decide +kernel) rfl rfl rfl rfl (Nat.le_of_ble_eq_true rfl) rfl (by decide +kernel) ?_
  refine ri_al (k := 0) (i := 0) hF (lv_at hl 0 rfl) (by decide +kernel) rfl ?_
  refine ri_ic (n := -1) (v := -1) hF (by decide +kernel) (by decide) ?_
  refine ri_put (idx := 40) (ci := 3) (k := 10) (fs' := [.null, (.ref q1), (.ref q2), (.ref q3), (.int 0), (.int 0), (.int 0), (.int (-1)), (.int 0), (.int 0), (.int (-1)), .null, (.int 0), (.int 0)]) hF hin (by decide) (by decide) (by decide +kernel) rfl rfl rfl rfl (Nat.le_of_ble_eq_true rfl) rfl (by decide +kernel) ?_
  refine ri_al (k := 0) (i := 0) hF (lv_at hl 0 rfl) (by decide +kernel) rfl ?_
  refine ri_new1 (idx := 43) (ci := 5) (N := 11) (fs := [.null, .null, .null, (.int 0), .null, .null, .null, .null, (.int 0), .null, (.int 0)]) hF (by decide) rfl (by decide +kernel) (by decide +kernel) (by decide +kernel) (by decide) (Nat.le_of_ble_eq_true rfl) (Nat.le_of_ble_eq_true rfl) (by decide +kernel) (fun q4 => ?_)
  refine ri_dup hF (by decide +kernel) ?_
  refine ri_ini1 (idx := 45) (n := 0) (rest := [(.ref q4), (.ref a)]) (c_iTerm (t := 6)) hF (by decide +kernel) (by decide +kernel) (by decide +kernel) (by decide +kernel) rfl (by decide +kernel) rfl ⟨(Nat.le_of_ble_eq_true rfl), (Nat.le_of_ble_eq_true rfl)⟩ ⟨(Nat.le_of_ble_eq_true rfl), (Nat.le_of_ble_eq_true rfl)⟩ hl.1 (by decide +kernel) (Nat.le_of_ble_eq_true rfl) rfl ?_
  rintro _ ⟨ad, w, rfl, rfl, hDr⟩
  refine ri_put (idx := 46) (ci := 3) (k := 11) (fs' := [.null, (.ref q1), (.ref q2), (.ref q3), (.int 0), (.int 0), (.int 0), (.int (-1)), (.int 0), (.int 0), (.int (-1)), (.ref (ad (false, 11, 6))), (.int 0), (.int 0)]) hF hin (by decide) (by decide) (by decide +kernel) rfl rfl rfl rfl (Nat.le_of_ble_eq_true rfl) rfl (by decide +kernel) ?_
  refine ri_al (k := 0) (i := 0) hF (lv_at hl 0 rfl) (by decide +kernel) rfl ?_
  refine ri_ic (n := 0) (v := 0) hF (by decide +kernel) (by decide) ?_
  refine ri_put (idx := 50) (ci := 3) (k := 12) (fs' := [.null, (.ref q1), (.ref q2), (.ref q3), (.int 0), (.int 0), (.int 0), (.int (-1)), (.int 0), (.int 0), (.int (-1)), (.ref (ad (false, 11, 6))), (.int 0), (.int 0)]) hF hin (by decide) (by decide) (by decide +kernel) rfl rfl rfl rfl (Nat.le_of_ble_eq_true rfl) rfl (by decide +kernel) ?_
  refine ri_al (k := 0) (i := 0) hF (lv_at hl 0 rfl) (by decide +kernel) rfl ?_
  refine ri_ic (n := -1) (v := -1) hF (by decide +kernel) (by decide) ?_
  refine ri_put (idx := 53) (ci := 3) (k := 13) (fs' := [.null, (.ref q1), (.ref q2), (.ref q3), (.int 0), (.int 0), (.int 0), (.int (-1)), (.int 0), (.int 0), (.int (-1)), (.ref (ad (false, 11, 6))), (.int 0), (.int (-1))]) hF hin (by decide) (by decide) (by decide +kernel) rfl rfl rfl rfl (Nat.le_of_ble_eq_true rfl) rfl (by decide +kernel) ?_
  refine ri_al (k := 0) (i := 0) hF (lv_at hl 0 rfl) (by decide +kernel) rfl ?_
  refine ri_al (k := 1) (i := 1) hF (lv_at hl 1 rfl) (by decide +kernel) rfl ?_
  refine ri_put (idx := 56) (ci := 3) (k := 0) (fs' := [(.ref tx), (.ref q1), (.ref q2), (.ref q3), (.int 0), (.int 0), (.int 0), (.int (-1)), (.int 0), (.int 0), (.int (-1)), (.ref (ad (false, 11, 6))), (.int 0), (.int (-1))]) hF hin (by decide) (by decide) (by decide +kernel) rfl rfl rfl rfl (Nat.le_of_ble_eq_true rfl) rfl (by decide +kernel) ?_
  exact fin _ _ _ _ _ (by decide +kernel) ⟨q1, q2, q3, ad, w, rfl, hDr⟩ (Nat.le_of_ble_eq_true rfl) (Nat.le_of_ble_eq_true rfl)
def perL (cI cZ cQ : ClassId) (sa : Nat → Nat) (i a sc q : Nat) (ad : Key → Nat) (w : Wd) : va_W := (a, .inr (2, [.int (nI i), .ref sc, .ref (ad (false, 11, i)), .int 0, .int 0, .ref q, .int 0])) :: (([] ++ wl cI cZ cQ sa ad (ksT i) w) ++ [(q, .inl (cI, 128, .inl (fun _ => 0)))])
def pPer (cI cZ cQ : ClassId) (sa : Nat → Nat) (i a sc : Nat) (ws1 : va_W) : Prop := ∃ (q : Nat) (ad : Key → Nat) (w : Wd), ws1 = perL cI cZ cQ sa i a sc q ad w ∧ Dr w.1 i T0
set_option maxHeartbeats 8000000 in
set_option maxRecDepth 100000 in
theorem c_iPer {D : va_G} {cI cZ cQ : ClassId} {sa sv : Nat → Nat} {a sc i : Nat} : Ini yX2_init cX2_init 3 3 10 494 [.int (nI i), .ref sc] a (.inr (2, [(.int 0), .null, .null, (.int 0), (.int 0), .null, (.int 0)])) D cI cZ cQ sa sv (pPer cI cZ cQ sa i a sc) := by
  refine ini_of (o := 2) (by decide) rfl rfl (Nat.le_of_ble_eq_true rfl) ?_
  intro p l e s m args below meth c Qf A ls hF hin hl fin
  have hl : lv_has ls 3 (lv_args 0 (.ref a :: [.int (nI i), .ref sc])) := hl
  refine ri_al (k := 0) (i := 0) hF (lv_at hl 0 rfl) (by decide +kernel) rfl ?_
  refine ri_obj (idx := 3) hF (by decide +kernel) (by decide +kernel) (by decide +kernel) hl.1 (by decide +kernel) (Nat.le_of_ble_eq_true rfl) (Nat.le_of_ble_eq_true rfl) ?_
  refine ri_al (k := 0) (i := 0) hF (lv_at hl 0 rfl) (by decide +kernel) rfl ?_
  refine ri_new1 (idx := 9) (ci := 5) (N := 11) (fs := [.null, .null, .null, (.int 0), .null, .null, .null, .null, (.int 0), .null, (.int 0)]) hF (by decide) rfl (by decide +kernel) (by decide +kernel) (by decide +kernel) (by decide) (Nat.le_of_ble_eq_true rfl) (Nat.le_of_ble_eq_true rfl) (by decide +kernel) (fun q1 => ?_)
  refine ri_dup hF (by decide +kernel) ?_
  refine ri_ini1 (idx := 11) (n := 0) (rest := [(.ref q1), (.ref a)]) (c_iTerm (t := i)) hF (by decide +kernel) (by decide +kernel) (by decide +kernel) (by decide +kernel) rfl (by decide +kernel) rfl ⟨(Nat.le_of_ble_eq_true rfl), (Nat.le_of_ble_eq_true rfl)⟩ ⟨(Nat.le_of_ble_eq_true rfl), (Nat.le_of_ble_eq_true rfl)⟩ hl.1 (by decide +kernel) (Nat.le_of_ble_eq_true rfl) rfl ?_
  rintro _ ⟨ad, w, rfl, rfl, hDr⟩
  refine ri_put (idx := 12) (ci := 2) (k := 2) (fs' := [(.int 0), .null, (.ref (ad (false, 11, i))), (.int 0), (.int 0), .null, (.int 0)]) hF hin (by decide) (by decide) (by decide +kernel) rfl rfl rfl rfl (Nat.le_of_ble_eq_true rfl) rfl (by decide +kernel) ?_
  refine ri_al (k := 0) (i := 0) hF (lv_at hl 0 rfl) (by decide +kernel) rfl ?_
  refine ri_ic (n := 0) (v := 0) hF (by decide +kernel) (by decide) ?_
  refine ri_put (idx := 18) (ci := 2) (k := 3) (fs' := [(.int 0), .null, (.ref (ad (false, 11, i))), (.int 0), (.int 0), .null, (.int 0)]) hF hin (by decide) (by decide) (by decide +kernel) rfl rfl rfl rfl (Nat.le_of_ble_eq_true rfl) rfl (by decide +kernel) ?_
  refine ri_al (k := 0) (i := 0) hF (lv_at hl 0 rfl) (by decide +kernel) rfl ?_
  refine ri_ic (n := 0) (v := 0) hF (by decide +kernel) (by decide) ?_
  refine ri_put (idx := 22) (ci := 2) (k := 4) (fs' := [(.int 0), .null, (.ref (ad (false, 11, i))), (.int 0), (.int 0), .null, (.int 0)]) hF hin (by decide) (by decide) (by decide +kernel) rfl rfl rfl rfl (Nat.le_of_ble_eq_true rfl) rfl (by decide +kernel) ?_
  refine ri_al (k := 0) (i := 0) hF (lv_at hl 0 rfl) (by decide +kernel) rfl ?_
  refine ri_si (n := 128) (v := 128) hF (by decide +kernel) (by decide) ?_
  refine ri_newi1 (N := 128) hF (by decide +kernel) (by decide) (by decide) (by decide) (Nat.le_of_ble_eq_true rfl) (Nat.le_of_ble_eq_true rfl) (by decide +kernel) (fun q2 => ?_)
  refine ri_put (idx := 25) (ci := 2) (k := 5) (fs' := [(.int 0), .null, (.ref (ad (false, 11, i))), (.int 0), (.int 0), (.ref q2), (.int 0)]) hF hin (by decide) (by decide) (by decide +kernel) rfl rfl rfl rfl (Nat.le_of_ble_eq_true rfl) rfl (by decide +kernel) ?_
  refine ri_al (k := 0) (i := 0) hF (lv_at hl 0 rfl) (by decide +kernel) rfl ?_
  refine ri_ic (n := 0) (v := 0) hF (by decide +kernel) (by decide) ?_
  refine ri_put (idx := 29) (ci := 2) (k := 6) (fs' := [(.int 0), .null, (.ref (ad (false, 11, i))), (.int 0), (.int 0), (.ref q2), (.int 0)]) hF hin (by decide) (by decide) (by decide +kernel) rfl rfl rfl rfl (Nat.le_of_ble_eq_true rfl) rfl (by decide +kernel) ?_
  refine ri_al (k := 0) (i := 0) hF (lv_at hl 0 rfl) (by decide +kernel) rfl ?_
  refine ri_il (k := 1) (i := 1) hF (lv_at hl 1 rfl) (by decide +kernel) rfl ?_
  refine ri_put (idx := 32) (ci := 2) (k := 0) (fs' := [(.int (nI i)), .null, (.ref (ad (false, 11, i))), (.int 0), (.int 0), (.ref q2), (.int 0)]) hF hin (by decide) (by decide) (by decide +kernel) rfl rfl rfl rfl (Nat.le_of_ble_eq_true rfl) rfl (by decide +kernel) ?_
  refine ri_al (k := 0) (i := 0) hF (lv_at hl 0 rfl) (by decide +kernel) rfl ?_
  refine ri_al (k := 2) (i := 2) hF (lv_at hl 2 rfl) (by decide +kernel) rfl ?_
  refine ri_put (idx := 35) (ci := 2) (k := 1) (fs' := [(.int (nI i)), (.ref sc), (.ref (ad (false, 11, i))), (.int 0), (.int 0), (.ref q2), (.int 0)]) hF hin (by decide) (by decide) (by decide +kernel) rfl rfl rfl rfl (Nat.le_of_ble_eq_true rfl) rfl (by decide +kernel) ?_
  exact fin _ _ _ _ _ (by decide +kernel) ⟨q2, ad, w, rfl, hDr⟩ (Nat.le_of_ble_eq_true rfl) (Nat.le_of_ble_eq_true rfl)

/-! the village, the class and the model (printed by wip/whole/inigen.py) -/
def P6 {α : Type} (a b c d e f : α) (i : Nat) : α := match i with
  | 0 => a
  | 1 => b
  | 2 => c
  | 3 => d
  | 4 => e
  | _ => f
def vilL (cI cZ cQ : ClassId) (sa : Nat → Nat) (a qa sc : Nat) (aP qK : Nat → Nat) (ads : Nat → Key → Nat) (wT : Nat → Wd) : va_W := (a, .inr (7, [.ref qa, .int 4])) :: (qa, .inl (cQ, 6, .inr (.inr (.inr (.inr (fun j => some (aP j))))))) :: (((((([(sc, .inr (4, [.int 0, .int 0, .int 9, .int 0]))] ++ perL cI cZ cQ sa 0 (aP 0) sc (qK 0) (ads 0) (wT 0)) ++ perL cI cZ cQ sa 1 (aP 1) sc (qK 1) (ads 1) (wT 1)) ++ perL cI cZ cQ sa 2 (aP 2) sc (qK 2) (ads 2) (wT 2)) ++ perL cI cZ cQ sa 3 (aP 3) sc (qK 3) (ads 3) (wT 3)) ++ perL cI cZ cQ sa 4 (aP 4) sc (qK 4) (ads 4) (wT 4)) ++ perL cI cZ cQ sa 5 (aP 5) sc (qK 5) (ads 5) (wT 5))
def pVil (cI cZ cQ : ClassId) (sa : Nat → Nat) (a : Nat) (ws1 : va_W) : Prop := ∃ (qa sc : Nat) (aP qK : Nat → Nat) (ads : Nat → Key → Nat) (wT : Nat → Wd), ws1 = vilL cI cZ cQ sa a qa sc aP qK ads wT ∧ ∀ i, i < 6 → Dr (wT i).1 i T0
set_option maxHeartbeats 8000000 in
set_option maxRecDepth 100000 in
theorem c_iVil {D : va_G} {cI cZ cQ : ClassId} {sa sv : Nat → Nat} {a : Nat} : Ini yX7_init cX7_init 3 4 68 3016 [] a (.inr (7, [.null, (.int 0)])) D cI cZ cQ sa sv (pVil cI cZ cQ sa a) := by
  refine ini_of (o := 7) (by decide) rfl rfl (Nat.le_of_ble_eq_true rfl) ?_
  intro p l e s m args below meth c Qf A ls hF hin hl fin
  have hl : lv_has ls 3 (lv_args 0 (.ref a :: [])) := hl
  refine gi_E (fun hE => ?_)
  refine ri_al (k := 0) (i := 0) hF (lv_at hl 0 rfl) (by decide +kernel) rfl ?_
  refine ri_obj (idx := 3) hF (by decide +kernel) (by decide +kernel) (by decide +kernel) hl.1 (by decide +kernel) (Nat.le_of_ble_eq_true rfl) (Nat.le_of_ble_eq_true rfl) ?_
  refine ri_al (k := 0) (i := 0) hF (lv_at hl 0 rfl) (by decide +kernel) rfl ?_
  refine ri_bi (n := 6) (v := 6) hF (by decide +kernel) (by decide) ?_
  refine ri_newq (idx := 9) (N := 6) hF (by decide +kernel) (by decide) (by decide) (by decide) (Nat.le_of_ble_eq_true rfl) (Nat.le_of_ble_eq_true rfl) (by decide +kernel) (fun qa => ?_)
  refine ri_put (idx := 11) (ci := 7) (k := 0) (fs' := [(.ref qa), (.int 0)]) hF hin (by decide) (by decide) (by decide +kernel) rfl rfl rfl rfl (Nat.le_of_ble_eq_true rfl) rfl (by decide +kernel) ?_
  refine ri_al (k := 0) (i := 0) hF (lv_at hl 0 rfl) (by decide +kernel) rfl ?_
  refine ri_ic (n := 4) (v := 4) hF (by decide +kernel) (by decide) ?_
  refine ri_put (idx := 17) (ci := 7) (k := 1) (fs' := [(.ref qa), (.int 4)]) hF hin (by decide) (by decide) (by decide +kernel) rfl rfl rfl rfl (Nat.le_of_ble_eq_true rfl) rfl (by decide +kernel) ?_
  refine ri_new1 (idx := 21) (ci := 4) (N := 4) (fs := [(.int 0), (.int 0), (.int 0), (.int 0)]) hF (by decide) rfl (by decide +kernel) (by decide +kernel) (by decide +kernel) (by decide) (Nat.le_of_ble_eq_true rfl) (Nat.le_of_ble_eq_true rfl) (by decide +kernel) (fun q1 => ?_)
  refine ri_dup hF (by decide +kernel) ?_
  refine ri_inN1 (idx := 23) (n := 0) (rest := [(.ref q1)]) c_iScene hF (by decide +kernel) (by decide +kernel) hE.2.2 (by decide +kernel) rfl (by decide +kernel) rfl ⟨(Nat.le_of_ble_eq_true rfl), (Nat.le_of_ble_eq_true rfl)⟩ ⟨(Nat.le_of_ble_eq_true rfl), (Nat.le_of_ble_eq_true rfl)⟩ hl.1 (by decide +kernel) (Nat.le_of_ble_eq_true rfl) rfl ?_
  rintro _ rfl
  show GI _ _ _ _ _ _ _ _ _ _ _ _ _ _ _ _ _ _ _ _ _ _ _ ((a, .inr (7, [.ref qa, .int 4])) :: (qa, (.inl (cQ, 6, .inr (.inr (.inr (.inr (fun _ => none))))))) :: [(q1, .inr (4, [.int 0, .int 0, .int 9, .int 0]))])
  refine ri_as (k := 1) (i := 1) (lv' := [(1, .ref q1), (0, .ref a)]) hF (by decide +kernel) rfl hl (by decide) rfl (fun ls hl => ?_)
  refine ri_ic (n := 0) (v := nI 0) hF (by decide +kernel) (by decide) ?_
  refine ri_is (k := 2) (i := 2) (lv' := [(2, .int (nI 0)), (1, .ref q1), (0, .ref a)]) hF (by decide +kernel) rfl hl (by decide) rfl (fun ls hl => ?_)
  refine ri_il (k := 2) (i := 2) hF (lv_at hl 0 rfl) (by decide +kernel) rfl ?_
  refine ri_bi (n := 6) (v := 6) hF (by decide +kernel) (by decide) ?_
  refine ri_gef (off := 24) (tgt := 55) hF (by decide) (by decide +kernel) (by decide) ?_
  refine ri_al (k := 0) (i := 0) hF (lv_at hl 2 rfl) (by decide +kernel) rfl ?_
  refine ri_get (idx := 11) (ci := 7) (k := 0) (v := .ref qa) hF (by decide) (by decide) (by decide +kernel) rfl rfl rfl (by decide +kernel) ?_
  refine ri_il (k := 2) (i := 2) hF (lv_at hl 0 rfl) (by decide +kernel) rfl ?_
  refine ri_new1 (idx := 9) (ci := 2) (N := 7) (fs := [(.int 0), .null, .null, (.int 0), (.int 0), .null, (.int 0)]) hF (by decide) rfl (by decide +kernel) (by decide +kernel) (by decide +kernel) (by decide) (Nat.le_of_ble_eq_true rfl) (Nat.le_of_ble_eq_true rfl) (by decide +kernel) (fun p0 => ?_)
  refine ri_dup hF (by decide +kernel) ?_
  refine ri_il (k := 2) (i := 2) hF (lv_at hl 0 rfl) (by decide +kernel) rfl ?_
  refine ri_al (k := 1) (i := 1) hF (lv_at hl 1 rfl) (by decide +kernel) rfl ?_
  refine ri_ini1 (idx := 24) (n := 2) (rest := [.ref p0, .int (nI 0), .ref qa]) (c_iPer (i := 0)) hF (by decide +kernel) (by decide +kernel) (by decide +kernel) (by decide +kernel) rfl (by decide +kernel) rfl ⟨(Nat.le_of_ble_eq_true rfl), (Nat.le_of_ble_eq_true rfl)⟩ ⟨(Nat.le_of_ble_eq_true rfl), (Nat.le_of_ble_eq_true rfl)⟩ hl.1 (by decide +kernel) (Nat.le_of_ble_eq_true rfl) rfl ?_
  rintro _ ⟨k0, ad0, w0, rfl, hD0⟩
  refine ri_aast hF rfl (by unfold vp_in; decide) (by decide +kernel) ?_
  refine ri_iinc (i := 2) (k := 0) (n := 1) (x := nI 0) (v := nI 1) (lv' := [(2, .int (nI 1)), (1, .ref q1), (0, .ref a)]) hF (by decide +kernel) hl rfl (by decide) (by decide) rfl (fun ls hl => ?_)
  refine ri_goto (off := -24) (tgt := 28) hF (by decide +kernel) (by decide) ?_
  refine ri_il (k := 2) (i := 2) hF (lv_at hl 0 rfl) (by decide +kernel) rfl ?_
  refine ri_bi (n := 6) (v := 6) hF (by decide +kernel) (by decide) ?_
  refine ri_gef (off := 24) (tgt := 55) hF (by decide) (by decide +kernel) (by decide) ?_
  refine ri_al (k := 0) (i := 0) hF (lv_at hl 2 rfl) (by decide +kernel) rfl ?_
  refine ri_get (idx := 11) (ci := 7) (k := 0) (v := .ref qa) hF (by decide) (by decide) (by decide +kernel) rfl rfl rfl (by decide +kernel) ?_
  refine ri_il (k := 2) (i := 2) hF (lv_at hl 0 rfl) (by decide +kernel) rfl ?_
  refine ri_new1 (idx := 9) (ci := 2) (N := 7) (fs := [(.int 0), .null, .null, (.int 0), (.int 0), .null, (.int 0)]) hF (by decide) rfl (by decide +kernel) (by decide +kernel) (by decide +kernel) (by decide) (Nat.le_of_ble_eq_true rfl) (Nat.le_of_ble_eq_true rfl) (by decide +kernel) (fun p1 => ?_)
  refine ri_dup hF (by decide +kernel) ?_
  refine ri_il (k := 2) (i := 2) hF (lv_at hl 0 rfl) (by decide +kernel) rfl ?_
  refine ri_al (k := 1) (i := 1) hF (lv_at hl 1 rfl) (by decide +kernel) rfl ?_
  refine ri_ini1 (idx := 24) (n := 2) (rest := [.ref p1, .int (nI 1), .ref qa]) (c_iPer (i := 1)) hF (by decide +kernel) (by decide +kernel) (by decide +kernel) (by decide +kernel) rfl (by decide +kernel) rfl ⟨(Nat.le_of_ble_eq_true rfl), (Nat.le_of_ble_eq_true rfl)⟩ ⟨(Nat.le_of_ble_eq_true rfl), (Nat.le_of_ble_eq_true rfl)⟩ hl.1 (by decide +kernel) (Nat.le_of_ble_eq_true rfl) rfl ?_
  rintro _ ⟨k1, ad1, w1, rfl, hD1⟩
  refine ri_aast hF rfl (by unfold vp_in; decide) (by decide +kernel) ?_
  refine ri_iinc (i := 2) (k := 0) (n := 1) (x := nI 1) (v := nI 2) (lv' := [(2, .int (nI 2)), (1, .ref q1), (0, .ref a)]) hF (by decide +kernel) hl rfl (by decide) (by decide) rfl (fun ls hl => ?_)
  refine ri_goto (off := -24) (tgt := 28) hF (by decide +kernel) (by decide) ?_
  refine ri_il (k := 2) (i := 2) hF (lv_at hl 0 rfl) (by decide +kernel) rfl ?_
  refine ri_bi (n := 6) (v := 6) hF (by decide +kernel) (by decide) ?_
  refine ri_gef (off := 24) (tgt := 55) hF (by decide) (by decide +kernel) (by decide) ?_
  refine ri_al (k := 0) (i := 0) hF (lv_at hl 2 rfl) (by decide +kernel) rfl ?_
  refine ri_get (idx := 11) (ci := 7) (k := 0) (v := .ref qa) hF (by decide) (by decide) (by decide +kernel) rfl rfl rfl (by decide +kernel) ?_
  refine ri_il (k := 2) (i := 2) hF (lv_at hl 0 rfl) (by decide +kernel) rfl ?_
  refine ri_new1 (idx := 9) (ci := 2) (N := 7) (fs := [(.int 0), .null, .null, (.int 0), (.int 0), .null, (.int 0)]) hF (by decide) rfl (by decide +kernel) (by decide +kernel) (by decide +kernel) (by decide) (Nat.le_of_ble_eq_true rfl) (Nat.le_of_ble_eq_true rfl) (by decide +kernel) (fun p2 => ?_)
  refine ri_dup hF (by decide +kernel) ?_
  refine ri_il (k := 2) (i := 2) hF (lv_at hl 0 rfl) (by decide +kernel) rfl ?_
  refine ri_al (k := 1) (i := 1) hF (lv_at hl 1 rfl) (by decide +kernel) rfl ?_
  refine ri_ini1 (idx := 24) (n := 2) (rest := [.ref p2, .int (nI 2), .ref qa]) (c_iPer (i := 2)) hF (by decide +kernel) (by decide +kernel) (by decide +kernel) (by decide +kernel) rfl (by decide +kernel) rfl ⟨(Nat.le_of_ble_eq_true rfl), (Nat.le_of_ble_eq_true rfl)⟩ ⟨(Nat.le_of_ble_eq_true rfl), (Nat.le_of_ble_eq_true rfl)⟩ hl.1 (by decide +kernel) (Nat.le_of_ble_eq_true rfl) rfl ?_
  rintro _ ⟨k2, ad2, w2, rfl, hD2⟩
  refine ri_aast hF rfl (by unfold vp_in; decide) (by decide +kernel) ?_
  refine ri_iinc (i := 2) (k := 0) (n := 1) (x := nI 2) (v := nI 3) (lv' := [(2, .int (nI 3)), (1, .ref q1), (0, .ref a)]) hF (by decide +kernel) hl rfl (by decide) (by decide) rfl (fun ls hl => ?_)
  refine ri_goto (off := -24) (tgt := 28) hF (by decide +kernel) (by decide) ?_
  refine ri_il (k := 2) (i := 2) hF (lv_at hl 0 rfl) (by decide +kernel) rfl ?_
  refine ri_bi (n := 6) (v := 6) hF (by decide +kernel) (by decide) ?_
  refine ri_gef (off := 24) (tgt := 55) hF (by decide) (by decide +kernel) (by decide) ?_
  refine ri_al (k := 0) (i := 0) hF (lv_at hl 2 rfl) (by decide +kernel) rfl ?_
  refine ri_get (idx := 11) (ci := 7) (k := 0) (v := .ref qa) hF (by decide) (by decide) (by decide +kernel) rfl rfl rfl (by decide +kernel) ?_
  refine ri_il (k := 2) (i := 2) hF (lv_at hl 0 rfl) (by decide +kernel) rfl ?_
  refine ri_new1 (idx := 9) (ci := 2) (N := 7) (fs := [(.int 0), .null, .null, (.int 0), (.int 0), .null, (.int 0)]) hF (by decide) rfl (by decide +kernel) (by decide +kernel) (by decide +kernel) (by decide) (Nat.le_of_ble_eq_true rfl) (Nat.le_of_ble_eq_true rfl) (by decide +kernel) (fun p3 => ?_)
  refine ri_dup hF (by decide +kernel) ?_
  refine ri_il (k := 2) (i := 2) hF (lv_at hl 0 rfl) (by decide +kernel) rfl ?_
  refine ri_al (k := 1) (i := 1) hF (lv_at hl 1 rfl) (by decide +kernel) rfl ?_
  refine ri_ini1 (idx := 24) (n := 2) (rest := [.ref p3, .int (nI 3), .ref qa]) (c_iPer (i := 3)) hF (by decide +kernel) (by decide +kernel) (by decide +kernel) (by decide +kernel) rfl (by decide +kernel) rfl ⟨(Nat.le_of_ble_eq_true rfl), (Nat.le_of_ble_eq_true rfl)⟩ ⟨(Nat.le_of_ble_eq_true rfl), (Nat.le_of_ble_eq_true rfl)⟩ hl.1 (by decide +kernel) (Nat.le_of_ble_eq_true rfl) rfl ?_
  rintro _ ⟨k3, ad3, w3, rfl, hD3⟩
  refine ri_aast hF rfl (by unfold vp_in; decide) (by decide +kernel) ?_
  refine ri_iinc (i := 2) (k := 0) (n := 1) (x := nI 3) (v := nI 4) (lv' := [(2, .int (nI 4)), (1, .ref q1), (0, .ref a)]) hF (by decide +kernel) hl rfl (by decide) (by decide) rfl (fun ls hl => ?_)
  refine ri_goto (off := -24) (tgt := 28) hF (by decide +kernel) (by decide) ?_
  refine ri_il (k := 2) (i := 2) hF (lv_at hl 0 rfl) (by decide +kernel) rfl ?_
  refine ri_bi (n := 6) (v := 6) hF (by decide +kernel) (by decide) ?_
  refine ri_gef (off := 24) (tgt := 55) hF (by decide) (by decide +kernel) (by decide) ?_
  refine ri_al (k := 0) (i := 0) hF (lv_at hl 2 rfl) (by decide +kernel) rfl ?_
  refine ri_get (idx := 11) (ci := 7) (k := 0) (v := .ref qa) hF (by decide) (by decide) (by decide +kernel) rfl rfl rfl (by decide +kernel) ?_
  refine ri_il (k := 2) (i := 2) hF (lv_at hl 0 rfl) (by decide +kernel) rfl ?_
  refine ri_new1 (idx := 9) (ci := 2) (N := 7) (fs := [(.int 0), .null, .null, (.int 0), (.int 0), .null, (.int 0)]) hF (by decide) rfl (by decide +kernel) (by decide +kernel) (by decide +kernel) (by decide) (Nat.le_of_ble_eq_true rfl) (Nat.le_of_ble_eq_true rfl) (by decide +kernel) (fun p4 => ?_)
  refine ri_dup hF (by decide +kernel) ?_
  refine ri_il (k := 2) (i := 2) hF (lv_at hl 0 rfl) (by decide +kernel) rfl ?_
  refine ri_al (k := 1) (i := 1) hF (lv_at hl 1 rfl) (by decide +kernel) rfl ?_
  refine ri_ini1 (idx := 24) (n := 2) (rest := [.ref p4, .int (nI 4), .ref qa]) (c_iPer (i := 4)) hF (by decide +kernel) (by decide +kernel) (by decide +kernel) (by decide +kernel) rfl (by decide +kernel) rfl ⟨(Nat.le_of_ble_eq_true rfl), (Nat.le_of_ble_eq_true rfl)⟩ ⟨(Nat.le_of_ble_eq_true rfl), (Nat.le_of_ble_eq_true rfl)⟩ hl.1 (by decide +kernel) (Nat.le_of_ble_eq_true rfl) rfl ?_
  rintro _ ⟨k4, ad4, w4, rfl, hD4⟩
  refine ri_aast hF rfl (by unfold vp_in; decide) (by decide +kernel) ?_
  refine ri_iinc (i := 2) (k := 0) (n := 1) (x := nI 4) (v := nI 5) (lv' := [(2, .int (nI 5)), (1, .ref q1), (0, .ref a)]) hF (by decide +kernel) hl rfl (by decide) (by decide) rfl (fun ls hl => ?_)
  refine ri_goto (off := -24) (tgt := 28) hF (by decide +kernel) (by decide) ?_
  refine ri_il (k := 2) (i := 2) hF (lv_at hl 0 rfl) (by decide +kernel) rfl ?_
  refine ri_bi (n := 6) (v := 6) hF (by decide +kernel) (by decide) ?_
  refine ri_gef (off := 24) (tgt := 55) hF (by decide) (by decide +kernel) (by decide) ?_
  refine ri_al (k := 0) (i := 0) hF (lv_at hl 2 rfl) (by decide +kernel) rfl ?_
  refine ri_get (idx := 11) (ci := 7) (k := 0) (v := .ref qa) hF (by decide) (by decide) (by decide +kernel) rfl rfl rfl (by decide +kernel) ?_
  refine ri_il (k := 2) (i := 2) hF (lv_at hl 0 rfl) (by decide +kernel) rfl ?_
  refine ri_new1 (idx := 9) (ci := 2) (N := 7) (fs := [(.int 0), .null, .null, (.int 0), (.int 0), .null, (.int 0)]) hF (by decide) rfl (by decide +kernel) (by decide +kernel) (by decide +kernel) (by decide) (Nat.le_of_ble_eq_true rfl) (Nat.le_of_ble_eq_true rfl) (by decide +kernel) (fun p5 => ?_)
  refine ri_dup hF (by decide +kernel) ?_
  refine ri_il (k := 2) (i := 2) hF (lv_at hl 0 rfl) (by decide +kernel) rfl ?_
  refine ri_al (k := 1) (i := 1) hF (lv_at hl 1 rfl) (by decide +kernel) rfl ?_
  refine ri_ini1 (idx := 24) (n := 2) (rest := [.ref p5, .int (nI 5), .ref qa]) (c_iPer (i := 5)) hF (by decide +kernel) (by decide +kernel) (by decide +kernel) (by decide +kernel) rfl (by decide +kernel) rfl ⟨(Nat.le_of_ble_eq_true rfl), (Nat.le_of_ble_eq_true rfl)⟩ ⟨(Nat.le_of_ble_eq_true rfl), (Nat.le_of_ble_eq_true rfl)⟩ hl.1 (by decide +kernel) (Nat.le_of_ble_eq_true rfl) rfl ?_
  rintro _ ⟨k5, ad5, w5, rfl, hD5⟩
  refine ri_aast hF rfl (by unfold vp_in; decide) (by decide +kernel) ?_
  refine ri_iinc (i := 2) (k := 0) (n := 1) (x := nI 5) (v := nI 6) (lv' := [(2, .int (nI 6)), (1, .ref q1), (0, .ref a)]) hF (by decide +kernel) hl rfl (by decide) (by decide) rfl (fun ls hl => ?_)
  refine ri_goto (off := -24) (tgt := 28) hF (by decide +kernel) (by decide) ?_
  refine ri_il (k := 2) (i := 2) hF (lv_at hl 0 rfl) (by decide +kernel) rfl ?_
  refine ri_bi (n := 6) (v := 6) hF (by decide +kernel) (by decide) ?_
  refine ri_get_t (off := 24) (tgt := 55) hF (by decide) (by decide +kernel) (by decide) ?_
  intro H locs h
  refine fin 55 (vilL cI cZ cQ sa a qa q1 (P6 p0 p1 p2 p3 p4 p5) (P6 k0 k1 k2 k3 k4 k5) (P6 ad0 ad1 ad2 ad3 ad4 ad5) (P6 w0 w1 w2 w3 w4 w5)) _ _ _ (by decide +kernel) ⟨qa, q1, _, _, _, _, rfl, ?_⟩ (Nat.le_of_ble_eq_true rfl) (Nat.le_of_ble_eq_true rfl) H locs (ri_cell ?_ h)
  · intro i hi
    have : i = 0 ∨ i = 1 ∨ i = 2 ∨ i = 3 ∨ i = 4 ∨ i = 5 := by omega
    rcases this with rfl | rfl | rfl | rfl | rfl | rfl
    · exact hD0
    · exact hD1
    · exact hD2
    · exact hD3
    · exact hD4
    · exact hD5
  · intro j hj
    have : j = 0 ∨ j = 1 ∨ j = 2 ∨ j = 3 ∨ j = 4 ∨ j = 5 := by omega
    rcases this with rfl | rfl | rfl | rfl | rfl | rfl <;> rfl
def wilL (cI cZ cQ : ClassId) (sa : Nat → Nat) (a tx qb rd vi cl ba r1 r2 r3 qa sc : Nat) (aP qK : Nat → Nat) (ads : Nat → Key → Nat) (wT : Nat → Wd) : va_W := (a, .inr (8, [.ref tx, .ref rd, .ref vi, .ref cl, .ref ba])) :: (((([] ++ [(tx, .inr (6, [.ref qb, .int 0])), (qb, .inl (cI, 120, .inl (fun _ => 0)))]) ++ ((rd, .inr (3, [.ref tx, .ref r1, .ref r2, .ref r3, .int 0, .int 0, .int 0, .int (-1), .int 0, .int 0, .int (-1), .ref (ads 6 (false, 11, 6)), .int 0, .int (-1)])) :: (((([] ++ [(r1, .inl (cI, 121, .inl (fun _ => 0)))]) ++ [(r2, .inl (cI, 121, .inl (fun _ => 0)))]) ++ [(r3, .inl (cI, 121, .inl (fun _ => 0)))]) ++ wl cI cZ cQ sa (ads 6) (ksT 6) (wT 6)))) ++ vilL cI cZ cQ sa vi qa sc aP qK ads wT) ++ [(cl, .inr (1, [.ref vi, .int (-1), .int 0, .int 0]))]) ++ [(ba, .inr (0, [.ref vi]))]
def pWil (cI cZ cQ : ClassId) (sa : Nat → Nat) (a : Nat) (ws1 : va_W) : Prop := ∃ (tx qb rd vi cl ba r1 r2 r3 qa sc : Nat) (aP qK : Nat → Nat) (ads : Nat → Key → Nat) (wT : Nat → Wd), ws1 = wilL cI cZ cQ sa a tx qb rd vi cl ba r1 r2 r3 qa sc aP qK ads wT ∧ ∀ i, i < 7 → Dr (wT i).1 i T0
def ov6 {α : Type} (f : Nat → α) (x : α) (i : Nat) : α := match i with
  | 0 => f 0
  | 1 => f 1
  | 2 => f 2
  | 3 => f 3
  | 4 => f 4
  | 5 => f 5
  | _ => x
set_option maxHeartbeats 8000000 in
set_option maxRecDepth 100000 in
theorem c_iWil {D : va_G} {cI cZ cQ : ClassId} {sa sv : Nat → Nat} {a : Nat} : Ini yX8_init cX8_init 1 5 86 3888 [] a (.inr (8, [.null, .null, .null, .null, .null])) D cI cZ cQ sa sv (pWil cI cZ cQ sa a) := by
  refine ini_of (o := 8) (by decide) rfl rfl (Nat.le_of_ble_eq_true rfl) ?_
  intro p l e s m args below meth c Qf A ls hF hin hl fin
  have hl : lv_has ls 1 (lv_args 0 (.ref a :: [])) := hl
  refine gi_E (fun hE => ?_)
  refine ri_al (k := 0) (i := 0) hF (lv_at hl 0 rfl) (by decide +kernel) rfl ?_
  refine ri_obj (idx := 1) hF (by decide +kernel) (by decide +kernel) (by decide +kernel) hl.1 (by decide +kernel) (Nat.le_of_ble_eq_true rfl) (Nat.le_of_ble_eq_true rfl) ?_
  refine ri_al (k := 0) (i := 0) hF (lv_at hl 0 rfl) (by decide +kernel) rfl ?_
  refine ri_new1 (idx := 7) (ci := 6) (N := 2) (fs := [.null, (.int 0)]) hF (by decide) rfl (by decide +kernel) (by decide +kernel) (by decide +kernel) (by decide) (Nat.le_of_ble_eq_true rfl) (Nat.le_of_ble_eq_true rfl) (by decide +kernel) (fun q1 => ?_)
  refine ri_dup hF (by decide +kernel) ?_
  refine ri_inN1 (idx := 9) (n := 0) (rest := [(.ref q1), (.ref a)]) c_iText hF (by decide +kernel) (by decide +kernel) hE.2.1 (by decide +kernel) rfl (by decide +kernel) rfl ⟨(Nat.le_of_ble_eq_true rfl), (Nat.le_of_ble_eq_true rfl)⟩ ⟨(Nat.le_of_ble_eq_true rfl), (Nat.le_of_ble_eq_true rfl)⟩ hl.1 (by decide +kernel) (Nat.le_of_ble_eq_true rfl) rfl ?_
  rintro _ ⟨qb, rfl⟩
  refine ri_put (idx := 10) (ci := 8) (k := 0) (fs' := [(.ref q1), .null, .null, .null, .null]) hF hin (by decide) (by decide) (by decide +kernel) rfl rfl rfl rfl (Nat.le_of_ble_eq_true rfl) rfl (by decide +kernel) ?_
  refine ri_al (k := 0) (i := 0) hF (lv_at hl 0 rfl) (by decide +kernel) rfl ?_
  refine ri_new1 (idx := 16) (ci := 3) (N := 14) (fs := [.null, .null, .null, .null, (.int 0), (.int 0), (.int 0), (.int 0), (.int 0), (.int 0), (.int 0), .null, (.int 0), (.int 0)]) hF (by decide) rfl (by decide +kernel) (by decide +kernel) (by decide +kernel) (by decide) (Nat.le_of_ble_eq_true rfl) (Nat.le_of_ble_eq_true rfl) (by decide +kernel) (fun q2 => ?_)
  refine ri_dup hF (by decide +kernel) ?_
  refine ri_al (k := 0) (i := 0) hF (lv_at hl 0 rfl) (by decide +kernel) rfl ?_
  refine ri_get (idx := 10) (ci := 8) (k := 0) (v := (.ref q1)) hF (by decide) (by decide) (by decide +kernel) rfl rfl rfl (by decide +kernel) ?_
  refine ri_ini1 (idx := 18) (n := 1) (rest := [(.ref q2), (.ref a)]) c_iRead hF (by decide +kernel) (by decide +kernel) (by decide +kernel) (by decide +kernel) rfl (by decide +kernel) rfl ⟨(Nat.le_of_ble_eq_true rfl), (Nat.le_of_ble_eq_true rfl)⟩ ⟨(Nat.le_of_ble_eq_true rfl), (Nat.le_of_ble_eq_true rfl)⟩ hl.1 (by decide +kernel) (Nat.le_of_ble_eq_true rfl) rfl ?_
  rintro _ ⟨r1, r2, r3, ad, w, rfl, hDr⟩
  refine ri_put (idx := 21) (ci := 8) (k := 1) (fs' := [(.ref q1), (.ref q2), .null, .null, .null]) hF hin (by decide) (by decide) (by decide +kernel) rfl rfl rfl rfl (Nat.le_of_ble_eq_true rfl) rfl (by decide +kernel) ?_
  refine ri_al (k := 0) (i := 0) hF (lv_at hl 0 rfl) (by decide +kernel) rfl ?_
  refine ri_new1 (idx := 25) (ci := 7) (N := 2) (fs := [.null, (.int 0)]) hF (by decide) rfl (by decide +kernel) (by decide +kernel) (by decide +kernel) (by decide) (Nat.le_of_ble_eq_true rfl) (Nat.le_of_ble_eq_true rfl) (by decide +kernel) (fun q3 => ?_)
  refine ri_dup hF (by decide +kernel) ?_
  refine ri_ini1 (idx := 27) (n := 0) (rest := [(.ref q3), (.ref a)]) c_iVil hF (by decide +kernel) (by decide +kernel) (by decide +kernel) (by decide +kernel) rfl (by decide +kernel) rfl ⟨(Nat.le_of_ble_eq_true rfl), (Nat.le_of_ble_eq_true rfl)⟩ ⟨(Nat.le_of_ble_eq_true rfl), (Nat.le_of_ble_eq_true rfl)⟩ hl.1 (by decide +kernel) (Nat.le_of_ble_eq_true rfl) rfl ?_
  rintro _ ⟨qa, sc, aP, qK, ads, wT, rfl, hV⟩
  refine ri_put (idx := 28) (ci := 8) (k := 2) (fs' := [(.ref q1), (.ref q2), (.ref q3), .null, .null]) hF hin (by decide) (by decide) (by decide +kernel) rfl rfl rfl rfl (Nat.le_of_ble_eq_true rfl) rfl (by decide +kernel) ?_
  refine ri_al (k := 0) (i := 0) hF (lv_at hl 0 rfl) (by decide +kernel) rfl ?_
  refine ri_new1 (idx := 32) (ci := 1) (N := 4) (fs := [.null, (.int 0), (.int 0), (.int 0)]) hF (by decide) rfl (by decide +kernel) (by decide +kernel) (by decide +kernel) (by decide) (Nat.le_of_ble_eq_true rfl) (Nat.le_of_ble_eq_true rfl) (by decide +kernel) (fun q4 => ?_)
  refine ri_dup hF (by decide +kernel) ?_
  refine ri_al (k := 0) (i := 0) hF (lv_at hl 0 rfl) (by decide +kernel) rfl ?_
  refine ri_get (idx := 28) (ci := 8) (k := 2) (v := (.ref q3)) hF (by decide) (by decide) (by decide +kernel) rfl rfl rfl (by decide +kernel) ?_
  refine ri_ini1 (idx := 34) (n := 1) (rest := [(.ref q4), (.ref a)]) c_iClimb hF (by decide +kernel) (by decide +kernel) (by decide +kernel) (by decide +kernel) rfl (by decide +kernel) rfl ⟨(Nat.le_of_ble_eq_true rfl), (Nat.le_of_ble_eq_true rfl)⟩ ⟨(Nat.le_of_ble_eq_true rfl), (Nat.le_of_ble_eq_true rfl)⟩ hl.1 (by decide +kernel) (Nat.le_of_ble_eq_true rfl) rfl ?_
  rintro _ rfl
  refine ri_put (idx := 37) (ci := 8) (k := 3) (fs' := [(.ref q1), (.ref q2), (.ref q3), (.ref q4), .null]) hF hin (by decide) (by decide) (by decide +kernel) rfl rfl rfl rfl (Nat.le_of_ble_eq_true rfl) rfl (by decide +kernel) ?_
  refine ri_al (k := 0) (i := 0) hF (lv_at hl 0 rfl) (by decide +kernel) rfl ?_
  refine ri_new1 (idx := 41) (ci := 0) (N := 1) (fs := [.null]) hF (by decide) rfl (by decide +kernel) (by decide +kernel) (by decide +kernel) (by decide) (Nat.le_of_ble_eq_true rfl) (Nat.le_of_ble_eq_true rfl) (by decide +kernel) (fun q5 => ?_)
  refine ri_dup hF (by decide +kernel) ?_
  refine ri_al (k := 0) (i := 0) hF (lv_at hl 0 rfl) (by decide +kernel) rfl ?_
  refine ri_get (idx := 28) (ci := 8) (k := 2) (v := (.ref q3)) hF (by decide) (by decide) (by decide +kernel) rfl rfl rfl (by decide +kernel) ?_
  refine ri_ini1 (idx := 43) (n := 1) (rest := [(.ref q5), (.ref a)]) c_iBarg hF (by decide +kernel) (by decide +kernel) (by decide +kernel) (by decide +kernel) rfl (by decide +kernel) rfl ⟨(Nat.le_of_ble_eq_true rfl), (Nat.le_of_ble_eq_true rfl)⟩ ⟨(Nat.le_of_ble_eq_true rfl), (Nat.le_of_ble_eq_true rfl)⟩ hl.1 (by decide +kernel) (Nat.le_of_ble_eq_true rfl) rfl ?_
  rintro _ rfl
  refine ri_put (idx := 44) (ci := 8) (k := 4) (fs' := [(.ref q1), (.ref q2), (.ref q3), (.ref q4), (.ref q5)]) hF hin (by decide) (by decide) (by decide +kernel) rfl rfl rfl rfl (Nat.le_of_ble_eq_true rfl) rfl (by decide +kernel) ?_
  refine fin _ (wilL cI cZ cQ sa a q1 qb q2 q3 q4 q5 r1 r2 r3 qa sc aP qK (ov6 ads ad) (ov6 wT w)) _ _ _ (by decide +kernel) ⟨_, _, _, _, _, _, _, _, _, _, _, _, _, _, _, rfl, ?_⟩ (Nat.le_of_ble_eq_true rfl) (Nat.le_of_ble_eq_true rfl)
  intro i hi
  have : i = 0 ∨ i = 1 ∨ i = 2 ∨ i = 3 ∨ i = 4 ∨ i = 5 ∨ i = 6 := by omega
  rcases this with rfl | rfl | rfl | rfl | rfl | rfl | rfl
  · exact hV 0 (by decide)
  · exact hV 1 (by decide)
  · exact hV 2 (by decide)
  · exact hV 3 (by decide)
  · exact hV 4 (by decide)
  · exact hV 5 (by decide)
  · exact hDr

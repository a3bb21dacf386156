/-! words by their places -/
theorem gtb_of {w : Cond} {n : Nat} (h : lw_tbl[n]? = some w) (hg : goodWord w = true) : w ∈ gtb := List.mem_filter.mpr ⟨List.mem_of_getElem? h, hg⟩
theorem gtb_good : GoodIn gtb gtb := fun _ h => ⟨h, good_of_word (List.mem_filter.mp h).2⟩
def atB (n : Nat) (w : Cond) : Bool := decide (lw_tbl[n]? = some w) && goodWord w
theorem atB_gtb {n : Nat} {w : Cond} (h : atB n w = true) : w ∈ gtb := by
  simp only [atB, Bool.and_eq_true, decide_eq_true_eq] at h
  exact gtb_of h.1 h.2
def okF (e : Nat × Nat × Nat × Nat × Nat) : Bool := match e with
  | (own, idx, ci, f, p) => atB p (.fieldLink (cN own) idx (clI ci).1 ((clI ci).2.1 f).2.1 ((clI ci).2.1 f).2.2.1) && (Nat.blt f (clI ci).2.2 && (decide (((clI ci).2.1 f).1 = (clI ci).1) && Nat.blt ci 10))
set_option maxRecDepth 100000 in
theorem cpF_all : cpF.all okF = true := by decide +kernel
def okM (e : Nat × Nat × Nat × Nat × Nat × List Nat) : Bool := match e with
  | (own, idx, m, n, kind, ps) => (decide ((yN m).cls ≠ "java/lang/invoke/MethodHandle") && decide ((yN m).cls ≠ "java/lang/invoke/VarHandle")) && (Nat.ble (yL m) 20 && (match kind, ps with
    | 0, [p0, p1, p2, p3, p4] => atB p0 (.methodLink (cN own) idx (yN m)) && (atB p1 (.instanceMethod (yN m)) && (atB p2 (.selects (yN m).cls (yN m) (yN m)) && (atB p3 (.initialized (yN m).cls) && (Nat.blt m 167 && (decide ((parseMethodDescriptor (yN m).desc).map (fun d => d.parameters.length) = some (n % 8 - 1)) && (Nat.beq (n / 8) (yO m + 1) && (Nat.blt 0 (n % 8) && (Nat.blt (yO m) 10 && decide ((clI (yO m)).1 = (yN m).cls)))))))))
    | 1, [p0, p1, p2, p3] => atB p0 (.methodLink (cN own) idx (yN m)) && (atB p1 (.static (yN m)) && (atB p2 (.initialized (yN m).cls) && (Nat.blt m 167 && (decide ((parseMethodDescriptor (yN m).desc).map (fun d => d.parameters.length) = some n) && Nat.blt n 8))))
    | 2, [p0, p1, p2, p3] => decide (lw_tbl[p0]? = some (nestW e)) && (atB p1 (.static (yN m)) && (atB p2 (.initialized (yN m).cls) && (Nat.blt m 167 && (decide ((parseMethodDescriptor (yN m).desc).map (fun d => d.parameters.length) = some n) && Nat.blt n 8))))
    | _, _ => false))
set_option maxRecDepth 100000 in
theorem cd_all : (List.range 167).map (fun m => Cond.code (yN m) (yC m) (yL m) (yR m)) = cdP.filterMap (fun i => lw_tbl[i]?) := rfl
theorem cd_of {m : Nat} (h : m < 167) : Cond.code (yN m) (yC m) (yL m) (yR m) ∈ gtb := by
  have h1 : Cond.code (yN m) (yC m) (yL m) (yR m) ∈ (List.range 167).map (fun m => Cond.code (yN m) (yC m) (yL m) (yR m)) := List.mem_map.mpr ⟨m, List.mem_range.mpr h, rfl⟩
  rw [cd_all] at h1
  obtain ⟨i, -, hi⟩ := List.mem_filterMap.mp h1
  exact gtb_of hi rfl
set_option maxRecDepth 100000 in
theorem cpM_all : cpM.all okM = true := by decide +kernel
set_option maxRecDepth 100000 in
theorem cpL_all : cpL.all (fun e => atB e.2.2.2.2 (.constantLong (cN e.1) e.2.1 (lcv e.2.2.1 e.2.2.2.1))) = true := by decide +kernel
def uwB (C : String) (T : u_T) (N : Nat) : Bool := (u_ws C T N).all (fun w => decide (w ∈ lw_tbl) && goodWord w)
theorem uwB_ok {C : String} {T : u_T} {N : Nat} (h : uwB C T N = true) : ∀ w ∈ u_ws C T N, w ∈ gtb := by
  intro w hw
  have h1 := List.all_eq_true.mp h w hw
  simp only [Bool.and_eq_true, decide_eq_true_eq] at h1
  exact List.mem_filter.mpr h1
set_option maxRecDepth 100000 in
theorem uw_0 : uwB RX0 TX0 1 = true := by decide +kernel
set_option maxRecDepth 100000 in
theorem uw_1 : uwB RX1 TX1 4 = true := by decide +kernel
set_option maxRecDepth 100000 in
theorem uw_2 : uwB RX2 TX2 7 = true := by decide +kernel
set_option maxRecDepth 100000 in
theorem uw_3 : uwB RX3 TX3 14 = true := by decide +kernel
set_option maxRecDepth 100000 in
theorem uw_4 : uwB RX4 TX4 4 = true := by decide +kernel
set_option maxRecDepth 100000 in
theorem uw_5 : uwB RX5 TX5 11 = true := by decide +kernel
set_option maxRecDepth 100000 in
theorem uw_6 : uwB RX6 TX6 2 = true := by decide +kernel
set_option maxRecDepth 100000 in
theorem uw_7 : uwB RX7 TX7 2 = true := by decide +kernel
set_option maxRecDepth 100000 in
theorem uw_8 : uwB RX8 TX8 5 = true := by decide +kernel
set_option maxRecDepth 100000 in
theorem uw_9 : uwB RX9 TX9 50 = true := by decide +kernel
/-- all that is to know of a class -/
theorem cl_ok : ∀ ci, ci < 10 → vwCl[ci]? = some (clI ci) ∧ nfc ci = (clI ci).2.2 ∧ (∀ w ∈ u_ws (clI ci).1 (clI ci).2.1 (clI ci).2.2, w ∈ gtb) ∧ (∀ k, k < (clI ci).2.2 → parseFieldDescriptor ((clI ci).2.1 k).2.2.1 = some (tyI ci k)) ∧ (∀ a, a < (clI ci).2.2 → ∀ b, b < (clI ci).2.2 → a ≠ b → ((clI ci).2.1 a).2.1 ≠ ((clI ci).2.1 b).2.1)
  | 0, _ => ⟨rfl, rfl, uwB_ok uw_0, tyX0_ok, nmX0⟩
  | 1, _ => ⟨rfl, rfl, uwB_ok uw_1, tyX1_ok, nmX1⟩
  | 2, _ => ⟨rfl, rfl, uwB_ok uw_2, tyX2_ok, nmX2⟩
  | 3, _ => ⟨rfl, rfl, uwB_ok uw_3, tyX3_ok, nmX3⟩
  | 4, _ => ⟨rfl, rfl, uwB_ok uw_4, tyX4_ok, nmX4⟩
  | 5, _ => ⟨rfl, rfl, uwB_ok uw_5, tyX5_ok, nmX5⟩
  | 6, _ => ⟨rfl, rfl, uwB_ok uw_6, tyX6_ok, nmX6⟩
  | 7, _ => ⟨rfl, rfl, uwB_ok uw_7, tyX7_ok, nmX7⟩
  | 8, _ => ⟨rfl, rfl, uwB_ok uw_8, tyX8_ok, nmX8⟩
  | 9, _ => ⟨rfl, rfl, uwB_ok uw_9, tyX9_ok, nmX9⟩
  | n + 10, h => absurd h (by omega)
theorem nbeq {a b : Nat} (h : Nat.beq a b = true) : a = b := Nat.eq_of_beq_eq_true h
theorem nblt {a b : Nat} (h : Nat.blt a b = true) : a < b := Nat.le_of_ble_eq_true h
theorem cpF_of {own idx ci f : Nat} (h : cpFhas own idx ci f = true) : Cond.fieldLink (cN own) idx (clI ci).1 ((clI ci).2.1 f).2.1 ((clI ci).2.1 f).2.2.1 ∈ gtb ∧ f < (clI ci).2.2 ∧ ((clI ci).2.1 f).1 = (clI ci).1 ∧ ci < 10 := by
  obtain ⟨⟨o, x, c, g, p⟩, he, hb⟩ := List.any_eq_true.mp h
  simp only [Bool.and_eq_true] at hb
  obtain ⟨h1, h2, h3, h4⟩ := hb
  obtain rfl := nbeq h1; obtain rfl := nbeq h2; obtain rfl := nbeq h3; obtain rfl := nbeq h4
  have hk := List.all_eq_true.mp cpF_all _ he
  simp only [okF, Bool.and_eq_true, decide_eq_true_eq] at hk
  exact ⟨atB_gtb hk.1, nblt hk.2.1, hk.2.2.1, nblt hk.2.2.2⟩
theorem cpM_of {own idx m n k : Nat} (h : cpMhas own idx m n k = true) : ∃ ps, (own, idx, m, n, k, ps) ∈ cpM ∧ okM (own, idx, m, n, k, ps) = true := by
  obtain ⟨⟨o, x, c, g, kd, ps⟩, he, hb⟩ := List.any_eq_true.mp h
  simp only [Bool.and_eq_true] at hb
  obtain ⟨h1, h2, h3, h4, h5⟩ := hb
  obtain rfl := nbeq h1; obtain rfl := nbeq h2; obtain rfl := nbeq h3; obtain rfl := nbeq h4; obtain rfl := nbeq h5
  exact ⟨ps, he, List.all_eq_true.mp cpM_all _ he⟩
theorem cpM_0 {own idx m n : Nat} (h : cpMhas own idx m n 0 = true) : ((yN m).cls ≠ "java/lang/invoke/MethodHandle" ∧ (yN m).cls ≠ "java/lang/invoke/VarHandle") ∧ yL m ≤ 20 ∧ (Cond.methodLink (cN own) idx (yN m) ∈ gtb ∧ Cond.instanceMethod (yN m) ∈ gtb ∧ Cond.selects (yN m).cls (yN m) (yN m) ∈ gtb ∧ Cond.initialized (yN m).cls ∈ gtb ∧ Cond.code (yN m) (yC m) (yL m) (yR m) ∈ gtb) ∧ (parseMethodDescriptor (yN m).desc).map (fun d => d.parameters.length) = some (n % 8 - 1) ∧ n / 8 = yO m + 1 ∧ 0 < n % 8 ∧ yO m < 10 ∧ (clI (yO m)).1 = (yN m).cls := by
  obtain ⟨ps, -, hk⟩ := cpM_of h
  match ps, hk with
  | [p0, p1, p2, p3, p4], hk =>
    simp only [okM, Bool.and_eq_true, decide_eq_true_eq] at hk
    obtain ⟨h1, h2, h3, h4, h5, h6, h7, h8, h9, h10, h11, h12⟩ := hk
    exact ⟨h1, Nat.le_of_ble_eq_true h2, ⟨atB_gtb h3, atB_gtb h4, atB_gtb h5, atB_gtb h6, cd_of (nblt h7)⟩, h8, nbeq h9, nblt h10, nblt h11, h12⟩
  | [], hk => simp [okM] at hk
  | [_], hk => simp [okM] at hk
  | [_, _], hk => simp [okM] at hk
  | [_, _, _], hk => simp [okM] at hk
  | [_, _, _, _], hk => simp [okM] at hk
  | _ :: _ :: _ :: _ :: _ :: _ :: _, hk => simp [okM] at hk
theorem cpM_1 {own idx m n : Nat} (h : cpMhas own idx m n 1 = true) : ((yN m).cls ≠ "java/lang/invoke/MethodHandle" ∧ (yN m).cls ≠ "java/lang/invoke/VarHandle") ∧ yL m ≤ 20 ∧ (Cond.methodLink (cN own) idx (yN m) ∈ gtb ∧ Cond.static (yN m) ∈ gtb ∧ Cond.initialized (yN m).cls ∈ gtb ∧ Cond.code (yN m) (yC m) (yL m) (yR m) ∈ gtb) ∧ (parseMethodDescriptor (yN m).desc).map (fun d => d.parameters.length) = some n ∧ n < 8 := by
  obtain ⟨ps, -, hk⟩ := cpM_of h
  match ps, hk with
  | [p0, p1, p2, p3], hk =>
    simp only [okM, Bool.and_eq_true, decide_eq_true_eq] at hk
    obtain ⟨h1, h2, h3, h4, h5, h6, h7, h8⟩ := hk
    exact ⟨h1, Nat.le_of_ble_eq_true h2, ⟨atB_gtb h3, atB_gtb h4, atB_gtb h5, cd_of (nblt h6)⟩, h7, nblt h8⟩
  | [], hk => simp [okM] at hk
  | [_], hk => simp [okM] at hk
  | [_, _], hk => simp [okM] at hk
  | [_, _, _], hk => simp [okM] at hk
  | _ :: _ :: _ :: _ :: _ :: _, hk => simp [okM] at hk
theorem cpM_2 {own idx m n : Nat} (h : cpMhas own idx m n 2 = true) : ∃ ps, (own, idx, m, n, 2, ps) ∈ cpM ∧ ((yN m).cls ≠ "java/lang/invoke/MethodHandle" ∧ (yN m).cls ≠ "java/lang/invoke/VarHandle") ∧ yL m ≤ 20 ∧ (Cond.static (yN m) ∈ gtb ∧ Cond.initialized (yN m).cls ∈ gtb ∧ Cond.code (yN m) (yC m) (yL m) (yR m) ∈ gtb) ∧ (parseMethodDescriptor (yN m).desc).map (fun d => d.parameters.length) = some n ∧ n < 8 := by
  obtain ⟨ps, he, hk⟩ := cpM_of h
  refine ⟨ps, he, ?_⟩
  match ps, hk with
  | [p0, p1, p2, p3], hk =>
    simp only [okM, Bool.and_eq_true, decide_eq_true_eq] at hk
    obtain ⟨h1, h2, h3, h4, h5, h6, h7, h8⟩ := hk
    exact ⟨h1, Nat.le_of_ble_eq_true h2, ⟨atB_gtb h4, atB_gtb h5, cd_of (nblt h6)⟩, h7, nblt h8⟩
  | [], hk => simp [okM] at hk
  | [_], hk => simp [okM] at hk
  | [_, _], hk => simp [okM] at hk
  | [_, _, _], hk => simp [okM] at hk
  | _ :: _ :: _ :: _ :: _ :: _, hk => simp [okM] at hk
theorem cpL_of {own idx : Nat} {v : Int32} {a : Nat} (h : cpLhas own idx v a = true) : Cond.constantLong (cN own) idx (lcv v a) ∈ gtb := by
  obtain ⟨⟨o, x, u, z, p⟩, he, hb⟩ := List.any_eq_true.mp h
  simp only [Bool.and_eq_true, decide_eq_true_eq] at hb
  obtain ⟨h1, h2, h3, h4⟩ := hb
  obtain rfl := nbeq h1; obtain rfl := nbeq h2; subst h3; obtain rfl := nbeq h4
  exact atB_gtb (List.all_eq_true.mp cpL_all _ he)
/-! every place of every method is held against its bytes -/
theorem ck_in {k y n : Nat} (h : (List.range n).all (fun j => chkM (k + j)) = true) (h1 : k ≤ y) (h2 : y < k + n) : chkM y = true := by
  have := List.all_eq_true.mp h (y - k) (List.mem_range.mpr (by omega))
  rw [show k + (y - k) = y by omega] at this
  exact this
theorem ck_inL {k pc n : Nat} (h : (List.range n).all (fun j => chk 167 (k + j)) = true) (h1 : k ≤ pc) (h2 : pc < k + n) : chk 167 pc = true := by
  have := List.all_eq_true.mp h (pc - k) (List.mem_range.mpr (by omega))
  rw [show k + (pc - k) = pc by omega] at this
  exact this
theorem ins_out {y pc : Nat} (h : plen y ≤ pc) : ins y pc = zz := by
  unfold plen at h
  unfold ins
  have h1 : ((pgT.getD (y / 16) []).getD (y % 16) []).length ≤ pc / 16 := by omega
  rw [List.getD_eq_getElem?_getD (l := (pgT.getD (y / 16) []).getD (y % 16) []), List.getElem?_eq_none h1]
  rfl
theorem chk_zz {y pc : Nat} (h : ins y pc = zz) : chk y pc = true := by
  unfold chk
  rw [h]
  rfl
theorem chkM_of {y : Nat} (h : chkM y = true) (pc : Nat) : chk y pc = true := by
  by_cases hp : pc < plen y
  · exact List.all_eq_true.mp h pc (List.mem_range.mpr hp)
  · exact chk_zz (ins_out (by omega))
theorem plen_L : plen 167 = 912 := by decide +kernel
theorem chk_all (y pc : Nat) : chk y pc = true := by
  by_cases h : y < 168
  · by_cases h7 : y = 167
    · subst h7
      by_cases hp : pc < plen 167
      · rw [plen_L] at hp
        rcases Nat.lt_or_ge pc 112 with g | g
        · exact ck_inL ck_L0 (Nat.zero_le _) (by omega)
        rcases Nat.lt_or_ge pc 224 with g | g
        · exact ck_inL ck_L1 (by omega) (by omega)
        rcases Nat.lt_or_ge pc 336 with g | g
        · exact ck_inL ck_L2 (by omega) (by omega)
        rcases Nat.lt_or_ge pc 448 with g | g
        · exact ck_inL ck_L3 (by omega) (by omega)
        rcases Nat.lt_or_ge pc 560 with g | g
        · exact ck_inL ck_L4 (by omega) (by omega)
        rcases Nat.lt_or_ge pc 672 with g | g
        · exact ck_inL ck_L5 (by omega) (by omega)
        rcases Nat.lt_or_ge pc 784 with g | g
        · exact ck_inL ck_L6 (by omega) (by omega)
        rcases Nat.lt_or_ge pc 896 with g | g
        · exact ck_inL ck_L7 (by omega) (by omega)
        · exact ck_inL ck_L8 (by omega) (by omega)
      · exact chk_zz (ins_out (by omega))
    · refine chkM_of ?_ pc
      have hd : y / 8 < 21 := by omega
      have hy : 8 * (y / 8) ≤ y ∧ y < 8 * (y / 8) + 8 := by omega
      generalize y / 8 = k at hd hy
      match k, hd with
      | 0, _ => exact ck_in ck_0 (by omega) (by omega)
      | 1, _ => exact ck_in ck_1 (by omega) (by omega)
      | 2, _ => exact ck_in ck_2 (by omega) (by omega)
      | 3, _ => exact ck_in ck_3 (by omega) (by omega)
      | 4, _ => exact ck_in ck_4 (by omega) (by omega)
      | 5, _ => exact ck_in ck_5 (by omega) (by omega)
      | 6, _ => exact ck_in ck_6 (by omega) (by omega)
      | 7, _ => exact ck_in ck_7 (by omega) (by omega)
      | 8, _ => exact ck_in ck_8 (by omega) (by omega)
      | 9, _ => exact ck_in ck_9 (by omega) (by omega)
      | 10, _ => exact ck_in ck_10 (by omega) (by omega)
      | 11, _ => exact ck_in ck_11 (by omega) (by omega)
      | 12, _ => exact ck_in ck_12 (by omega) (by omega)
      | 13, _ => exact ck_in ck_13 (by omega) (by omega)
      | 14, _ => exact ck_in ck_14 (by omega) (by omega)
      | 15, _ => exact ck_in ck_15 (by omega) (by omega)
      | 16, _ => exact ck_in ck_16 (by omega) (by omega)
      | 17, _ => exact ck_in ck_17 (by omega) (by omega)
      | 18, _ => exact ck_in ck_18 (by omega) (by omega)
      | 19, _ => exact ck_in ck_19 (by omega) (by omega)
      | 20, _ => exact ck_in ck_20 (by omega) (by omega)
      | n + 21, h => exact absurd h (by omega)
  · refine chk_zz (ins_out ?_)
    have hl : pgT.getD (y / 16) [] = [] ∨ (pgT.getD (y / 16) []).length ≤ y % 16 := by
      rcases Nat.lt_or_ge y 176 with g | g
      · right
        have : y / 16 = 10 := by omega
        rw [this]
        have e : (pgT.getD 10 []).length = 8 := by decide +kernel
        omega
      · left
        have e : pgT.length = 11 := by decide +kernel
        rw [List.getD_eq_getElem?_getD, List.getElem?_eq_none (by omega)]
        rfl
    unfold plen
    rcases hl with hl | hl
    · rw [hl]
      simp
    · rw [List.getD_eq_getElem?_getD (l := pgT.getD (y / 16) []), List.getElem?_eq_none hl]
      simp
theorem get_rel {y pc o : Nat} {v : Int32} {a b nx : Nat} (h : ins y pc = (o, v, a, b, nx)) (ho : o ≠ 63) : ∃ (i : Instr) (n : Nat), decode (yC y) pc = .ok (i, n) ∧ nx = pc + n ∧ rel y pc i n (o, v, a, b, nx) = true := by
  have hc := chk_all y pc
  unfold chk at hc
  rw [h] at hc
  split at hc
  · rename_i heq
    simp only [Prod.mk.injEq] at heq
    exact absurd heq.1 ho
  · rename_i heq
    simp only [Prod.mk.injEq] at heq
    obtain ⟨rfl, rfl, rfl, rfl, rfl⟩ := heq
    split at hc
    · rename_i i n hd
      simp only [Bool.and_eq_true] at hc
      exact ⟨i, n, hd, nbeq hc.1, hc.2⟩
    · cases hc
theorem isI_of {i j : Instr} {n k : Nat} (h : (isI i j && Nat.beq n k) = true) : i = j ∧ n = k := by
  simp only [isI, Bool.and_eq_true, decide_eq_true_eq] at h
  exact ⟨h.1, nbeq h.2⟩

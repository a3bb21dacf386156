/-! the law's loop -/
theorem law_call {yc ym : Nat} {av : List PV} (hC : Cal yc ym av) {V : Vst} {c m : Sd} (hV : okV V) (hc : CI V c) (hm : MI V m) {K : Wd → Option PV → Prop} (hk : ∀ (V' : Vst) (r : Int32) (c' : Sd), okV V' → CI V' c' → (∀ c2, Inv 40 ym (vR true 0 0 :: av) (c2, m) (PM (MI V') c2 r)) → K (c', m) (some (vI r))) : Inv 40 yc (vR false 0 0 :: av) (c, m) K := by
  obtain ⟨V', r, hV', hI, hM⟩ := hC V c m hV hc hm
  refine inv_mono hI ?_
  rintro _ _ ⟨c', rfl, hc', rfl⟩
  exact hk V' r c' hV' hc' hM
section LAW
variable {L : Nat} {xs : Nat → Int32}
abbrev lwL (x : Int32) : Ls := [some (vS 99), some (vR false 0 0), some (vR true 0 0), some (vI x)]
abbrev lwQ : Wd → Option PV → Prop := fun _ r => r = some (vI 1)
/-- behind a call: the next -/
def Nxt (L : Nat) (xs : Nat → Int32) (k : Nat) : Prop := ∀ (V : Vst) (c m : Sd), okV V → CI V c → MI V m → Go 40 167 (some (L, xs)) 889 (lwL (nI k)) [] (c, m) lwQ
theorem lw_persons {k : Nat} (h1 : vp_in (nI k + 1) L) (h2 : vp_in (nI k + 2) L) (h3 : vp_in (nI k + 3) L) (hN : Nxt L xs k) {V : Vst} {c m : Sd} (hV : okV V) (hc : CI V c) (hm : MI V m) : Go 40 167 (some (L, xs)) 140 (lwL (nI k)) [] (c, m) lwQ := by
  refine go_ev 100 [889] (dI h1 (law_call (cal_persons _) hV hc hm ?_))
  intro V' r c' hV' hc' hM
  refine dI h1 (inv_mono (hM c') ?_)
  rintro _ _ ⟨m', rfl, hm', rfl⟩
  exact bT (c := r = r) rfl (hN V' c' m' hV' hc' hm')
theorem lw_feed {k : Nat} (h1 : vp_in (nI k + 1) L) (h2 : vp_in (nI k + 2) L) (h3 : vp_in (nI k + 3) L) (hN : Nxt L xs k) {V : Vst} {c m : Sd} (hV : okV V) (hc : CI V c) (hm : MI V m) : Go 40 167 (some (L, xs)) 163 (lwL (nI k)) [] (c, m) lwQ := by
  refine go_ev 100 [889] (dI h1 (dI h2 (dI h3 (law_call (cal_feed _ _) hV hc hm ?_))))
  intro V' r c' hV' hc' hM
  refine dI h1 (dI h2 (dI h3 (inv_mono (hM c') ?_)))
  rintro _ _ ⟨m', rfl, hm', rfl⟩
  exact bT (c := r = r) rfl (hN V' c' m' hV' hc' hm')
theorem lw_term {k : Nat} (h1 : vp_in (nI k + 1) L) (h2 : vp_in (nI k + 2) L) (h3 : vp_in (nI k + 3) L) (hN : Nxt L xs k) {V : Vst} {c m : Sd} (hV : okV V) (hc : CI V c) (hm : MI V m) : Go 40 167 (some (L, xs)) 226 (lwL (nI k)) [] (c, m) lwQ := by
  refine go_ev 100 [889] (dI h1 (law_call (cal_term _) hV hc hm ?_))
  intro V' r c' hV' hc' hM
  refine dI h1 (inv_mono (hM c') ?_)
  rintro _ _ ⟨m', rfl, hm', rfl⟩
  exact bT (c := r = r) rfl (hN V' c' m' hV' hc' hm')
theorem lw_fault {k : Nat} (h1 : vp_in (nI k + 1) L) (h2 : vp_in (nI k + 2) L) (h3 : vp_in (nI k + 3) L) (hN : Nxt L xs k) {V : Vst} {c m : Sd} (hV : okV V) (hc : CI V c) (hm : MI V m) : Go 40 167 (some (L, xs)) 249 (lwL (nI k)) [] (c, m) lwQ := by
  refine go_ev 100 [889] (law_call cal_fault hV hc hm ?_)
  intro V' r c' hV' hc' hM
  refine inv_mono (hM c') ?_
  rintro _ _ ⟨m', rfl, hm', rfl⟩
  exact bT (c := r = r) rfl (hN V' c' m' hV' hc' hm')
theorem lw_lets {k : Nat} (h1 : vp_in (nI k + 1) L) (h2 : vp_in (nI k + 2) L) (h3 : vp_in (nI k + 3) L) (hN : Nxt L xs k) {V : Vst} {c m : Sd} (hV : okV V) (hc : CI V c) (hm : MI V m) : Go 40 167 (some (L, xs)) 262 (lwL (nI k)) [] (c, m) lwQ := by
  refine go_ev 100 [889] (dI h1 (dI h2 (dI h3 (law_call (cal_lets _ _ _) hV hc hm ?_))))
  intro V' r c' hV' hc' hM
  refine dI h1 (dI h2 (dI h3 (inv_mono (hM c') ?_)))
  rintro _ _ ⟨m', rfl, hm', rfl⟩
  exact bT (c := r = r) rfl (hN V' c' m' hV' hc' hm')
theorem lw_count {k : Nat} (h1 : vp_in (nI k + 1) L) (h2 : vp_in (nI k + 2) L) (h3 : vp_in (nI k + 3) L) (hN : Nxt L xs k) {V : Vst} {c m : Sd} (hV : okV V) (hc : CI V c) (hm : MI V m) : Go 40 167 (some (L, xs)) 305 (lwL (nI k)) [] (c, m) lwQ := by
  refine go_ev 100 [889] (dI h1 (law_call (cal_count _) hV hc hm ?_))
  intro V' r c' hV' hc' hM
  refine dI h1 (inv_mono (hM c') ?_)
  rintro _ _ ⟨m', rfl, hm', rfl⟩
  exact bT (c := r = r) rfl (hN V' c' m' hV' hc' hm')
theorem lw_grows {k : Nat} (h1 : vp_in (nI k + 1) L) (h2 : vp_in (nI k + 2) L) (h3 : vp_in (nI k + 3) L) (hN : Nxt L xs k) {V : Vst} {c m : Sd} (hV : okV V) (hc : CI V c) (hm : MI V m) : Go 40 167 (some (L, xs)) 328 (lwL (nI k)) [] (c, m) lwQ := by
  refine go_ev 100 [889] (dI h1 (dI h2 (dI h3 (law_call (cal_grows _ _ _) hV hc hm ?_))))
  intro V' r c' hV' hc' hM
  refine dI h1 (dI h2 (dI h3 (inv_mono (hM c') ?_)))
  rintro _ _ ⟨m', rfl, hm', rfl⟩
  exact bT (c := r = r) rfl (hN V' c' m' hV' hc' hm')
theorem lw_judge {k : Nat} (h1 : vp_in (nI k + 1) L) (h2 : vp_in (nI k + 2) L) (h3 : vp_in (nI k + 3) L) (hN : Nxt L xs k) {V : Vst} {c m : Sd} (hV : okV V) (hc : CI V c) (hm : MI V m) : Go 40 167 (some (L, xs)) 371 (lwL (nI k)) [] (c, m) lwQ := by
  refine go_ev 100 [889] (dI h1 (dI h2 (law_call (cal_judge _ _) hV hc hm ?_)))
  intro V' r c' hV' hc' hM
  refine dI h1 (dI h2 (inv_mono (hM c') ?_))
  rintro _ _ ⟨m', rfl, hm', rfl⟩
  exact bT (c := r = r) rfl (hN V' c' m' hV' hc' hm')
theorem lw_settled {k : Nat} (h1 : vp_in (nI k + 1) L) (h2 : vp_in (nI k + 2) L) (h3 : vp_in (nI k + 3) L) (hN : Nxt L xs k) {V : Vst} {c m : Sd} (hV : okV V) (hc : CI V c) (hm : MI V m) : Go 40 167 (some (L, xs)) 404 (lwL (nI k)) [] (c, m) lwQ := by
  refine go_ev 100 [889] (dI h1 (law_call (cal_settled _) hV hc hm ?_))
  intro V' r c' hV' hc' hM
  refine dI h1 (inv_mono (hM c') ?_)
  rintro _ _ ⟨m', rfl, hm', rfl⟩
  exact bT (c := r = r) rfl (hN V' c' m' hV' hc' hm')
theorem lw_end {k : Nat} (h1 : vp_in (nI k + 1) L) (h2 : vp_in (nI k + 2) L) (h3 : vp_in (nI k + 3) L) (hN : Nxt L xs k) {V : Vst} {c m : Sd} (hV : okV V) (hc : CI V c) (hm : MI V m) : Go 40 167 (some (L, xs)) 427 (lwL (nI k)) [] (c, m) lwQ := by
  refine go_ev 100 [889] (dI h1 (law_call (cal_end _) hV hc hm ?_))
  intro V' r c' hV' hc' hM
  refine dI h1 (inv_mono (hM c') ?_)
  rintro _ _ ⟨m', rfl, hm', rfl⟩
  exact bT (c := r = r) rfl (hN V' c' m' hV' hc' hm')
theorem lw_climb {k : Nat} (h1 : vp_in (nI k + 1) L) (h2 : vp_in (nI k + 2) L) (h3 : vp_in (nI k + 3) L) (hN : Nxt L xs k) {V : Vst} {c m : Sd} (hV : okV V) (hc : CI V c) (hm : MI V m) : Go 40 167 (some (L, xs)) 450 (lwL (nI k)) [] (c, m) lwQ := by
  refine go_ev 100 [889] (dI h1 (dI h2 (dI h3 (law_call (cal_climb _ _ _) hV hc hm ?_))))
  intro V' r c' hV' hc' hM
  refine dI h1 (dI h2 (dI h3 (inv_mono (hM c') ?_)))
  rintro _ _ ⟨m', rfl, hm', rfl⟩
  exact bT (c := r = r) rfl (hN V' c' m' hV' hc' hm')
theorem lw_hangs {k : Nat} (h1 : vp_in (nI k + 1) L) (h2 : vp_in (nI k + 2) L) (h3 : vp_in (nI k + 3) L) (hN : Nxt L xs k) {V : Vst} {c m : Sd} (hV : okV V) (hc : CI V c) (hm : MI V m) : Go 40 167 (some (L, xs)) 493 (lwL (nI k)) [] (c, m) lwQ := by
  refine go_ev 100 [889] (dI h1 (dI h2 (law_call (cal_hangs _ _) hV hc hm ?_)))
  intro V' r c' hV' hc' hM
  refine dI h1 (dI h2 (inv_mono (hM c') ?_))
  rintro _ _ ⟨m', rfl, hm', rfl⟩
  exact bT (c := r = r) rfl (hN V' c' m' hV' hc' hm')
theorem lw_leaving {k : Nat} (h1 : vp_in (nI k + 1) L) (h2 : vp_in (nI k + 2) L) (h3 : vp_in (nI k + 3) L) (hN : Nxt L xs k) {V : Vst} {c m : Sd} (hV : okV V) (hc : CI V c) (hm : MI V m) : Go 40 167 (some (L, xs)) 526 (lwL (nI k)) [] (c, m) lwQ := by
  refine go_ev 100 [889] (dI h1 (dI h2 (law_call (cal_leaving _ _) hV hc hm ?_)))
  intro V' r c' hV' hc' hM
  refine dI h1 (dI h2 (inv_mono (hM c') ?_))
  rintro _ _ ⟨m', rfl, hm', rfl⟩
  exact bT (c := r = r) rfl (hN V' c' m' hV' hc' hm')
theorem lw_soft {k : Nat} (h1 : vp_in (nI k + 1) L) (h2 : vp_in (nI k + 2) L) (h3 : vp_in (nI k + 3) L) (hN : Nxt L xs k) {V : Vst} {c m : Sd} (hV : okV V) (hc : CI V c) (hm : MI V m) : Go 40 167 (some (L, xs)) 559 (lwL (nI k)) [] (c, m) lwQ := by
  refine go_ev 100 [889] (dI h1 (dI h2 (law_call (cal_soft _ _) hV hc hm ?_)))
  intro V' r c' hV' hc' hM
  refine dI h1 (dI h2 (inv_mono (hM c') ?_))
  rintro _ _ ⟨m', rfl, hm', rfl⟩
  exact bT (c := r = r) rfl (hN V' c' m' hV' hc' hm')
theorem lw_byDay {k : Nat} (h1 : vp_in (nI k + 1) L) (h2 : vp_in (nI k + 2) L) (h3 : vp_in (nI k + 3) L) (hN : Nxt L xs k) {V : Vst} {c m : Sd} (hV : okV V) (hc : CI V c) (hm : MI V m) : Go 40 167 (some (L, xs)) 592 (lwL (nI k)) [] (c, m) lwQ := by
  refine go_ev 100 [889] (dI h1 (law_call (cal_byDay _) hV hc hm ?_))
  intro V' r c' hV' hc' hM
  refine dI h1 (inv_mono (hM c') ?_)
  rintro _ _ ⟨m', rfl, hm', rfl⟩
  exact bT (c := r = r) rfl (hN V' c' m' hV' hc' hm')
theorem lw_dares {k : Nat} (h1 : vp_in (nI k + 1) L) (h2 : vp_in (nI k + 2) L) (h3 : vp_in (nI k + 3) L) (hN : Nxt L xs k) {V : Vst} {c m : Sd} (hV : okV V) (hc : CI V c) (hm : MI V m) : Go 40 167 (some (L, xs)) 615 (lwL (nI k)) [] (c, m) lwQ := by
  refine go_ev 100 [889] (dI h1 (law_call (cal_dares _) hV hc hm ?_))
  intro V' r c' hV' hc' hM
  refine dI h1 (inv_mono (hM c') ?_)
  rintro _ _ ⟨m', rfl, hm', rfl⟩
  exact bT (c := r = r) rfl (hN V' c' m' hV' hc' hm')
theorem lw_offer {k : Nat} (h1 : vp_in (nI k + 1) L) (h2 : vp_in (nI k + 2) L) (h3 : vp_in (nI k + 3) L) (hN : Nxt L xs k) {V : Vst} {c m : Sd} (hV : okV V) (hc : CI V c) (hm : MI V m) : Go 40 167 (some (L, xs)) 638 (lwL (nI k)) [] (c, m) lwQ := by
  refine go_ev 100 [889] (dI h1 (dI h2 (dI h3 (law_call (cal_offer _ _ _) hV hc hm ?_))))
  intro V' r c' hV' hc' hM
  refine dI h1 (dI h2 (dI h3 (inv_mono (hM c') ?_)))
  rintro _ _ ⟨m', rfl, hm', rfl⟩
  exact bT (c := r = r) rfl (hN V' c' m' hV' hc' hm')
theorem lw_rests {k : Nat} (h1 : vp_in (nI k + 1) L) (h2 : vp_in (nI k + 2) L) (h3 : vp_in (nI k + 3) L) (hN : Nxt L xs k) {V : Vst} {c m : Sd} (hV : okV V) (hc : CI V c) (hm : MI V m) : Go 40 167 (some (L, xs)) 681 (lwL (nI k)) [] (c, m) lwQ := by
  refine go_ev 100 [889] (dI h1 (dI h2 (dI h3 (law_call (cal_rests _ _ _) hV hc hm ?_))))
  intro V' r c' hV' hc' hM
  refine dI h1 (dI h2 (dI h3 (inv_mono (hM c') ?_)))
  rintro _ _ ⟨m', rfl, hm', rfl⟩
  exact bT (c := r = r) rfl (hN V' c' m' hV' hc' hm')
theorem lw_leastTop {k : Nat} (h1 : vp_in (nI k + 1) L) (h2 : vp_in (nI k + 2) L) (h3 : vp_in (nI k + 3) L) (hN : Nxt L xs k) {V : Vst} {c m : Sd} (hV : okV V) (hc : CI V c) (hm : MI V m) : Go 40 167 (some (L, xs)) 724 (lwL (nI k)) [] (c, m) lwQ := by
  refine go_ev 100 [889] (dI h1 (law_call (cal_leastTop _) hV hc hm ?_))
  intro V' r c' hV' hc' hM
  refine dI h1 (inv_mono (hM c') ?_)
  rintro _ _ ⟨m', rfl, hm', rfl⟩
  exact bT (c := r = r) rfl (hN V' c' m' hV' hc' hm')
theorem lw_sly {k : Nat} (h1 : vp_in (nI k + 1) L) (h2 : vp_in (nI k + 2) L) (h3 : vp_in (nI k + 3) L) (hN : Nxt L xs k) {V : Vst} {c m : Sd} (hV : okV V) (hc : CI V c) (hm : MI V m) : Go 40 167 (some (L, xs)) 747 (lwL (nI k)) [] (c, m) lwQ := by
  refine go_ev 100 [889] (dI h1 (dI h2 (dI h3 (law_call (cal_sly _ _ _) hV hc hm ?_))))
  intro V' r c' hV' hc' hM
  refine dI h1 (dI h2 (dI h3 (inv_mono (hM c') ?_)))
  rintro _ _ ⟨m', rfl, hm', rfl⟩
  exact bT (c := r = r) rfl (hN V' c' m' hV' hc' hm')
theorem lw_possible {k : Nat} (h1 : vp_in (nI k + 1) L) (h2 : vp_in (nI k + 2) L) (h3 : vp_in (nI k + 3) L) (hN : Nxt L xs k) {V : Vst} {c m : Sd} (hV : okV V) (hc : CI V c) (hm : MI V m) : Go 40 167 (some (L, xs)) 790 (lwL (nI k)) [] (c, m) lwQ := by
  refine go_ev 100 [889] (dI h1 (dI h2 (law_call (cal_possible _ _) hV hc hm ?_)))
  intro V' r c' hV' hc' hM
  refine dI h1 (dI h2 (inv_mono (hM c') ?_))
  rintro _ _ ⟨m', rfl, hm', rfl⟩
  exact bT (c := r = r) rfl (hN V' c' m' hV' hc' hm')
theorem lw_sure {k : Nat} (h1 : vp_in (nI k + 1) L) (h2 : vp_in (nI k + 2) L) (h3 : vp_in (nI k + 3) L) (hN : Nxt L xs k) {V : Vst} {c m : Sd} (hV : okV V) (hc : CI V c) (hm : MI V m) : Go 40 167 (some (L, xs)) 823 (lwL (nI k)) [] (c, m) lwQ := by
  refine go_ev 100 [889] (dI h1 (dI h2 (law_call (cal_sure _ _) hV hc hm ?_)))
  intro V' r c' hV' hc' hM
  refine dI h1 (dI h2 (inv_mono (hM c') ?_))
  rintro _ _ ⟨m', rfl, hm', rfl⟩
  exact bT (c := r = r) rfl (hN V' c' m' hV' hc' hm')
theorem lw_telling {k : Nat} (h1 : vp_in (nI k + 1) L) (h2 : vp_in (nI k + 2) L) (h3 : vp_in (nI k + 3) L) (hN : Nxt L xs k) {V : Vst} {c m : Sd} (hV : okV V) (hc : CI V c) (hm : MI V m) : Go 40 167 (some (L, xs)) 856 (lwL (nI k)) [] (c, m) lwQ := by
  refine go_ev 100 [889] (dI h1 (dI h2 (law_call (cal_telling _ _) hV hc hm ?_)))
  intro V' r c' hV' hc' hM
  refine dI h1 (dI h2 (inv_mono (hM c') ?_))
  rintro _ _ ⟨m', rfl, hm', rfl⟩
  exact bT (c := r = r) rfl (hN V' c' m' hV' hc' hm')
theorem law_body {k : Nat} (hk : k < L) (h1 : vp_in (nI k + 1) L) (h2 : vp_in (nI k + 2) L) (h3 : vp_in (nI k + 3) L) (hL : L ≤ 2048) (hN : Nxt L xs k) {V : Vst} {c m : Sd} (hV : okV V) (hc : CI V c) (hm : MI V m) : Go 40 167 (some (L, xs)) 26 (lwL (nI k)) [] (c, m) lwQ := by
  refine go_ev 100 [889, 140, 163, 226, 249, 262, 305, 328, 371, 404, 427, 450, 493, 526, 559, 592, 615, 638, 681, 724, 747, 790, 823, 856] (dI (pk_in k L hk rfl (by omega)) ?_)
  refine bI (fun _ => lw_persons h1 h2 h3 hN hV hc hm) (fun _ => ?_)
  refine bI (fun _ => lw_feed h1 h2 h3 hN hV hc hm) (fun _ => ?_)
  refine bI (fun _ => lw_term h1 h2 h3 hN hV hc hm) (fun _ => ?_)
  refine bI (fun _ => lw_fault h1 h2 h3 hN hV hc hm) (fun _ => ?_)
  refine bI (fun _ => lw_lets h1 h2 h3 hN hV hc hm) (fun _ => ?_)
  refine bI (fun _ => lw_count h1 h2 h3 hN hV hc hm) (fun _ => ?_)
  refine bI (fun _ => lw_grows h1 h2 h3 hN hV hc hm) (fun _ => ?_)
  refine bI (fun _ => lw_judge h1 h2 h3 hN hV hc hm) (fun _ => ?_)
  refine bI (fun _ => lw_settled h1 h2 h3 hN hV hc hm) (fun _ => ?_)
  refine bI (fun _ => lw_end h1 h2 h3 hN hV hc hm) (fun _ => ?_)
  refine bI (fun _ => lw_climb h1 h2 h3 hN hV hc hm) (fun _ => ?_)
  refine bI (fun _ => lw_hangs h1 h2 h3 hN hV hc hm) (fun _ => ?_)
  refine bI (fun _ => lw_leaving h1 h2 h3 hN hV hc hm) (fun _ => ?_)
  refine bI (fun _ => lw_soft h1 h2 h3 hN hV hc hm) (fun _ => ?_)
  refine bI (fun _ => lw_byDay h1 h2 h3 hN hV hc hm) (fun _ => ?_)
  refine bI (fun _ => lw_dares h1 h2 h3 hN hV hc hm) (fun _ => ?_)
  refine bI (fun _ => lw_offer h1 h2 h3 hN hV hc hm) (fun _ => ?_)
  refine bI (fun _ => lw_rests h1 h2 h3 hN hV hc hm) (fun _ => ?_)
  refine bI (fun _ => lw_leastTop h1 h2 h3 hN hV hc hm) (fun _ => ?_)
  refine bI (fun _ => lw_sly h1 h2 h3 hN hV hc hm) (fun _ => ?_)
  refine bI (fun _ => lw_possible h1 h2 h3 hN hV hc hm) (fun _ => ?_)
  refine bI (fun _ => lw_sure h1 h2 h3 hN hV hc hm) (fun _ => ?_)
  refine bI (fun _ => lw_telling h1 h2 h3 hN hV hc hm) (fun _ => ?_)
  exact hN V c m hV hc hm
theorem law_loop (hL : L ≤ 2048) : ∀ (j k : Nat) (x : Int32) (V : Vst) (c m : Sd), L ≤ k + 4 * j → x = nI k → okV V → CI V c → MI V m → k ≤ L + 4 → Go 40 167 (some (L, xs)) 18 (lwL x) [] (c, m) lwQ := by
  intro j
  induction j with
  | zero =>
    intro k x V c m hj hx hV hc hm hkl
    subst hx
    refine go_ev 100 [18] (bT (c := nI L - 4 < nI k) ?_ (And.intro rfl rfl))
    rw [Int32.lt_iff_toInt_lt, show (4 : Int32) = nI 4 from rfl, pk_sub_toInt (by omega) (by decide), nI_toInt (by omega)]
    omega
  | succ j ih =>
    intro k x V c m hj hx hV hc hm hkl
    subst hx
    by_cases hkL : k + 4 ≤ L
    · have e1 : nI k + 1 = nI (k + 1) := (nI_succ k).symm
      have e2 : nI k + 2 = nI (k + 2) := nIadd k 2
      have e3 : nI k + 3 = nI (k + 3) := nIadd k 3
      have e4 : nI k + 4 = nI (k + 4) := nIadd k 4
      refine go_ev 100 [18, 26] (bF (c := nI L - 4 < nI k) ?_ ?_)
      · rw [Int32.lt_iff_toInt_lt, show (4 : Int32) = nI 4 from rfl, pk_sub_toInt (by omega) (by decide), nI_toInt (by omega)]
        omega
      · refine law_body (by omega) (pk_in (k + 1) L (by omega) e1 (by omega)) (pk_in (k + 2) L (by omega) e2 (by omega)) (pk_in (k + 3) L (by omega) e3 (by omega)) hL (fun V' c' m' hV' hc' hm' => ?_) hV hc hm
        exact go_ev 100 [18] (ih (k + 4) _ V' c' m' (by omega) e4 hV' hc' hm' (by omega))
    · refine go_ev 100 [18] (bT (c := nI L - 4 < nI k) ?_ (And.intro rfl rfl))
      rw [Int32.lt_iff_toInt_lt, show (4 : Int32) = nI 4 from rfl, pk_sub_toInt (by omega) (by decide), nI_toInt (by omega)]
      omega
/-- the law behind its two constructors -/
theorem law_all (hL : L ≤ 2048) {V : Vst} {c m : Sd} (hV : okV V) (hc : CI V c) (hm : MI V m) : Go 40 167 (some (L, xs)) 16 [some (vS 99), some (vR false 0 0), some (vR true 0 0), none] [] (c, m) lwQ := go_ev 100 [18] (law_loop hL L 0 0 V c m (by omega) rfl hV hc hm (by omega))
end LAW

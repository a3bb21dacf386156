section SND2
variable {d y : Nat} {scr : Option (Nat × (Nat → Int32))} {Q : Wd → Option PV → Prop} {p : Program} {l : Launch} {e : Env} {R : Room} {s : State} {m : MethodId} {args : Array Value} {below : List Frame} {meth : Method} {c : Code} {cells slots : Nat} {Qf : State → Prop} {D : va_G} {cI cZ cQ : ClassId} {sa sv : Nat → Nat} {ad : Key → Nat} {ks : List Key} {A : Nat → Prop}
variable {pc : Nat} {ls : Ls} {st t : List PV} {w : Wd} {v : Int32} {a b nx : Nat}
theorem so_1 {bb : Bool} {k i : Nat} (hF : Fr y d p R s m args c cells slots) (hC : Cx D cI cZ cQ sa sv A s) (hI : ins y pc = (1, v, a, b, nx)) (hk : kc bb k a = true) (kk : GG y p l e R s m args below meth c cells slots Qf D cI cZ cQ sa ad ks A nx ls (fval w bb k i a b :: t) w) : GG y p l e R s m args below meth c cells slots Qf D cI cZ cQ sa ad ks A pc ls (vR bb k i :: t) w := by
  obtain ⟨i', n, hd, hn, hr⟩ := get_rel hI (by decide)
  subst hn
  intro H locs ls' hW hL hv hs
  have hq : ((bb, k, i) : Key) ∈ ks := vkh hs
  have hki := kc_of hk
  obtain ⟨hwf, hP, hD, hS⟩ := id hW
  simp only [rel] at hr
  split at hr
  · simp only [Bool.and_eq_true] at hr
    obtain ⟨h1, h2⟩ := hr
    obtain rfl := nbeq h2
    obtain ⟨hw1, hf, hT, hci⟩ := cpF_of h1
    obtain ⟨hc1, hc2, hc3, hc4, hc5⟩ := cl_ok a hci
    have hf' : b < nfc a := by rw [hc2]; exact hf
    have kk := kk H locs ls' hW hL hv (vk1 (hwf.2.1 _ hq a hki b hf') (vkt hs))
    obtain ⟨q0, hq0, hat⟩ := wl_at (cI := cI) (cZ := cZ) (cQ := cQ) (sa := sa) (ad := ad) (w := w) hq
    rw [cellE_obj hki] at hat
    exact va_get (C := (clI a).1) (T := (clI a).2.1) (N := (clI a).2.2) hF.1 hF.2.1 hF.2.2.2.2.1 hc3 hF.2.2.2.1 hC.1 hP q0 hat hc1 b hf (hF.2.2.2.2.1 _ hw1) (by rw [hT]; exact fun _ h => h) (v := conc sa ad (fval w bb k i a b)) (by simp [hf']) hd kk
  · cases hr
theorem so_8i {bb : Bool} {k i t0 : Nat} {x : Int32} (hF : Fr y d p R s m args c cells slots) (hC : Cx D cI cZ cQ sa sv A s) (hI : ins y pc = (8, v, a, b, nx)) (hk : kc bb k a = true) (hs0 : fk a b = (0, t0)) (kk : GG y p l e R s m args below meth c cells slots Qf D cI cZ cQ sa ad ks A nx ls t (sF w bb k i b x)) : GG y p l e R s m args below meth c cells slots Qf D cI cZ cQ sa ad ks A pc ls (vI x :: vR bb k i :: t) w := by
  obtain ⟨i', n, hd, hn, hr⟩ := get_rel hI (by decide)
  subst hn
  intro H locs ls' hW hL hv hs
  have hq : ((bb, k, i) : Key) ∈ ks := vkh (vkt hs)
  have hki := kc_of hk
  obtain ⟨hwf, hP, hD, hS⟩ := id hW
  simp only [rel, hs0] at hr
  split at hr
  · simp only [Bool.and_eq_true, decide_eq_true_eq] at hr
    obtain ⟨h1, h2, h3, h4⟩ := hr
    obtain rfl := nbeq h2
    obtain ⟨hw1, hf, hT, hci⟩ := cpF_of h1
    obtain ⟨hc1, hc2, hc3, hc4, hc5⟩ := cl_ok a hci
    have hf' : b < nfc a := by rw [hc2]; exact hf
    have kk := fun H locs hW => kk H locs ls' hW hL hv (vkt (vkt hs))
    obtain ⟨q0, hq0, hat⟩ := wl_at (cI := cI) (cZ := cZ) (cQ := cQ) (sa := sa) (ad := ad) (w := w) hq
    rw [cellE_obj hki] at hat
    refine va_put (C := (clI a).1) (T := (clI a).2.1) (N := (clI a).2.2) (ty := .int) (v := .int x) hF.1 hF.2.1 hF.2.2.2.2.1 hc3 (tyI a) hc4 hc5 hF.2.2.2.1 hC.1 hP hD hS q0 hat hc1 b hf (hF.2.2.2.2.1 _ hw1) (by rw [hT]; exact fun _ h => h) h3 (by rw [hc4 b hf, h4]) rfl rfl (by simp [hf']) hd (fun H1 locs1 hP1 hD1 hS1 => ?_)
    rw [wl_sF hwf.1 hq0 hki hf' hs0] at hP1 hD1
    exact kk H1 locs1 ⟨wf_sF hwf, hP1, hD1, hS1⟩
  · cases hr
theorem so_8r {bb : Bool} {k i t0 j : Nat} (hF : Fr y d p R s m args c cells slots) (hC : Cx D cI cZ cQ sa sv A s) (hI : ins y pc = (8, v, a, b, nx)) (hk : kc bb k a = true) (hs0 : fk a b = (3, t0)) (kk : GG y p l e R s m args below meth c cells slots Qf D cI cZ cQ sa ad ks A nx ls t (sR w bb k i j)) : GG y p l e R s m args below meth c cells slots Qf D cI cZ cQ sa ad ks A pc ls (vR bb t0 j :: vR bb k i :: t) w := by
  obtain ⟨i', n, hd, hn, hr⟩ := get_rel hI (by decide)
  subst hn
  intro H locs ls' hW hL hv hs
  have hq : ((bb, k, i) : Key) ∈ ks := vkh (vkt hs)
  have hki := kc_of hk
  obtain ⟨hwf, hP, hD, hS⟩ := id hW
  simp only [rel, hs0] at hr
  split at hr
  · simp only [Bool.and_eq_true, decide_eq_true_eq] at hr
    obtain ⟨h1, h2, h3, h4⟩ := hr
    obtain rfl := nbeq h2
    obtain ⟨hw1, hf, hT, hci⟩ := cpF_of h1
    obtain ⟨hc1, hc2, hc3, hc4, hc5⟩ := cl_ok a hci
    have hf' : b < nfc a := by rw [hc2]; exact hf
    have kk := fun H locs hW => kk H locs ls' hW hL hv (vkt (vkt hs))
    obtain ⟨q0, hq0, hat⟩ := wl_at (cI := cI) (cZ := cZ) (cQ := cQ) (sa := sa) (ad := ad) (w := w) hq
    rw [cellE_obj hki] at hat
    refine va_put (C := (clI a).1) (T := (clI a).2.1) (N := (clI a).2.2) (ty := .object RX5) (v := .ref (ad (bb, t0, j))) hF.1 hF.2.1 hF.2.2.2.2.1 hc3 (tyI a) hc4 hc5 hF.2.2.2.1 hC.1 hP hD hS q0 hat hc1 b hf (hF.2.2.2.2.1 _ hw1) (by rw [hT]; exact fun _ h => h) h3 (by rw [hc4 b hf, h4]) rfl rfl (by simp [hf']) hd (fun H1 locs1 hP1 hD1 hS1 => ?_)
    rw [wl_sR hwf.1 hq0 hki hci hf' hs0] at hP1 hD1
    exact kk H1 locs1 ⟨wf_sR hwf hki hci hf' hs0 (vkh hs), hP1, hD1, hS1⟩
  · cases hr
theorem so_7 {bb : Bool} {k i n : Nat} {x : Int32} (hF : Fr y d p R s m args c cells slots) (hC : Cx D cI cZ cQ sa sv A s) (hI : ins y pc = (7, v, a, b, nx)) (hk : ki bb k = (1, n)) (hb : vp_in x n) (kk : GG y p l e R s m args below meth c cells slots Qf D cI cZ cQ sa ad ks A nx ls (vI (wA w bb k i x.toNatClampNeg) :: t) w) : GG y p l e R s m args below meth c cells slots Qf D cI cZ cQ sa ad ks A pc ls (vI x :: vR bb k i :: t) w := by
  obtain ⟨i', n', hd, hn, hr⟩ := get_rel hI (by decide)
  obtain ⟨rfl, rfl⟩ := isI_of hr
  subst hn
  intro H locs ls' hW hL hv hs
  have hq : ((bb, k, i) : Key) ∈ ks := vkh (vkt hs)
  obtain ⟨hwf, hP, hD, hS⟩ := id hW
  obtain ⟨q0, hq0, hat⟩ := wl_at (cI := cI) (cZ := cZ) (cQ := cQ) (sa := sa) (ad := ad) (w := w) hq
  rw [cellE_int hk] at hat
  exact va_iald hF.1 hF.2.1 hC.1 hP q0 0 hat rfl hb hd (kk H locs ls' hW hL hv (vk1 trivial (vkt (vkt hs))))
theorem so_35 {bb : Bool} {k i n : Nat} {x : Int32} (hF : Fr y d p R s m args c cells slots) (hC : Cx D cI cZ cQ sa sv A s) (hI : ins y pc = (35, v, a, b, nx)) (hk : ki bb k = (2, n)) (hb : vp_in x n) (kk : GG y p l e R s m args below meth c cells slots Qf D cI cZ cQ sa ad ks A nx ls (vI (wA w bb k i x.toNatClampNeg) :: t) w) : GG y p l e R s m args below meth c cells slots Qf D cI cZ cQ sa ad ks A pc ls (vI x :: vR bb k i :: t) w := by
  obtain ⟨i', n', hd, hn, hr⟩ := get_rel hI (by decide)
  obtain ⟨rfl, rfl⟩ := isI_of hr
  subst hn
  intro H locs ls' hW hL hv hs
  have hq : ((bb, k, i) : Key) ∈ ks := vkh (vkt hs)
  obtain ⟨hwf, hP, hD, hS⟩ := id hW
  obtain ⟨q0, hq0, hat⟩ := wl_at (cI := cI) (cZ := cZ) (cQ := cQ) (sa := sa) (ad := ad) (w := w) hq
  rw [cellE_bool hk] at hat
  exact va_zald hF.1 hF.2.1 hC.1 hP q0 1 hat rfl hb hd (kk H locs ls' hW hL hv (vk1 trivial (vkt (vkt hs))))
theorem so_16 {bb : Bool} {k i n : Nat} {x u : Int32} (hF : Fr y d p R s m args c cells slots) (hC : Cx D cI cZ cQ sa sv A s) (hI : ins y pc = (16, v, a, b, nx)) (hk : ki bb k = (1, n)) (hb : vp_in x n) (kk : GG y p l e R s m args below meth c cells slots Qf D cI cZ cQ sa ad ks A nx ls t (sA w bb k i x.toNatClampNeg u)) : GG y p l e R s m args below meth c cells slots Qf D cI cZ cQ sa ad ks A pc ls (vI u :: vI x :: vR bb k i :: t) w := by
  obtain ⟨i', n', hd, hn, hr⟩ := get_rel hI (by decide)
  obtain ⟨rfl, rfl⟩ := isI_of hr
  subst hn
  intro H locs ls' hW hL hv hs
  have hq : ((bb, k, i) : Key) ∈ ks := vkh (vkt (vkt hs))
  obtain ⟨hwf, hP, hD, hS⟩ := id hW
  obtain ⟨q0, hq0, hat⟩ := wl_at (cI := cI) (cZ := cZ) (cQ := cQ) (sa := sa) (ad := ad) (w := w) hq
  rw [cellE_int hk] at hat
  refine va_iast hF.1 hF.2.1 hC.1 hP hD hS q0 0 hat rfl hb hd (fun H1 locs1 hP1 hD1 hS1 => ?_)
  rw [wl_sAi hwf.1 hq0 hk] at hP1 hD1
  exact kk H1 locs1 ls' ⟨wf_sA hwf, hP1, hD1, hS1⟩ hL hv (vkt (vkt (vkt hs)))
theorem so_34 {bb : Bool} {k i n : Nat} {x u : Int32} (hF : Fr y d p R s m args c cells slots) (hC : Cx D cI cZ cQ sa sv A s) (hI : ins y pc = (34, v, a, b, nx)) (hk : ki bb k = (2, n)) (hb : vp_in x n) (kk : GG y p l e R s m args below meth c cells slots Qf D cI cZ cQ sa ad ks A nx ls t (sA w bb k i x.toNatClampNeg (vp_nar .boolean u))) : GG y p l e R s m args below meth c cells slots Qf D cI cZ cQ sa ad ks A pc ls (vI u :: vI x :: vR bb k i :: t) w := by
  obtain ⟨i', n', hd, hn, hr⟩ := get_rel hI (by decide)
  obtain ⟨rfl, rfl⟩ := isI_of hr
  subst hn
  intro H locs ls' hW hL hv hs
  have hq : ((bb, k, i) : Key) ∈ ks := vkh (vkt (vkt hs))
  obtain ⟨hwf, hP, hD, hS⟩ := id hW
  obtain ⟨q0, hq0, hat⟩ := wl_at (cI := cI) (cZ := cZ) (cQ := cQ) (sa := sa) (ad := ad) (w := w) hq
  rw [cellE_bool hk] at hat
  refine va_zast hF.1 hF.2.1 hC.1 hP hD hS q0 1 hat rfl hb hd (fun H1 locs1 hP1 hD1 hS1 => ?_)
  rw [wl_sAz hwf.1 hq0 hk] at hP1 hD1
  exact kk H1 locs1 ls' ⟨wf_sA hwf, hP1, hD1, hS1⟩ hL hv (vkt (vkt (vkt hs)))
theorem so_28 {bb : Bool} {k i n : Nat} {x : Int32} (hF : Fr y d p R s m args c cells slots) (hC : Cx D cI cZ cQ sa sv A s) (hI : ins y pc = (28, v, a, b, nx)) (hk : ki bb k = (3, n)) (hb : vp_in x n) (kk : GG y p l e R s m args below meth c cells slots Qf D cI cZ cQ sa ad ks A nx ls (vR false 9 x.toNatClampNeg :: t) w) : GG y p l e R s m args below meth c cells slots Qf D cI cZ cQ sa ad ks A pc ls (vI x :: vR bb k i :: t) w := by
  obtain ⟨i', n', hd, hn, hr⟩ := get_rel hI (by decide)
  obtain ⟨rfl, rfl⟩ := isI_of hr
  subst hn
  intro H locs ls' hW hL hv hs
  have hq : ((bb, k, i) : Key) ∈ ks := vkh (vkt hs)
  obtain ⟨hwf, hP, hD, hS⟩ := id hW
  obtain ⟨q0, hq0, hat⟩ := wl_at (cI := cI) (cZ := cZ) (cQ := cQ) (sa := sa) (ad := ad) (w := w) hq
  rw [cellE_per hk] at hat
  exact va_aldq (C := RX2) hF.1 hF.2.1 hC.1 hP q0 2 hat rfl hb hd (kk H locs ls' hW hL hv (vk1 (hwf.2.2 _ hq n hk _ (Nat.not_le.mp fun q => hb (Or.inr q))) (vkt (vkt hs))))
theorem so_48 {bb : Bool} {k i n : Nat} (hF : Fr y d p R s m args c cells slots) (hC : Cx D cI cZ cQ sa sv A s) (hI : ins y pc = (48, v, a, b, nx)) (hk : ki bb k = (1, n)) (kk : GG y p l e R s m args below meth c cells slots Qf D cI cZ cQ sa ad ks A nx ls (vI (nI n) :: t) w) : GG y p l e R s m args below meth c cells slots Qf D cI cZ cQ sa ad ks A pc ls (vR bb k i :: t) w := by
  obtain ⟨i', n', hd, hn, hr⟩ := get_rel hI (by decide)
  obtain ⟨rfl, rfl⟩ := isI_of hr
  subst hn
  intro H locs ls' hW hL hv hs
  have hq : ((bb, k, i) : Key) ∈ ks := vkh hs
  obtain ⟨hwf, hP, hD, hS⟩ := id hW
  obtain ⟨q0, hq0, hat⟩ := wl_at (cI := cI) (cZ := cZ) (cQ := cQ) (sa := sa) (ad := ad) (w := w) hq
  rw [cellE_int hk] at hat
  exact va_alen hF.1 hF.2.1 hC.1 hP q0 0 hat rfl rfl hd (kk H locs ls' hW hL hv (vk1 trivial (vkt hs)))
theorem so_48s {n : Nat} {xs : Nat → Int32} (hF : Fr y d p R s m args c cells slots) (hX : Sx (some (n, xs)) sa A s) (hI : ins y pc = (48, v, a, b, nx)) (kk : GG y p l e R s m args below meth c cells slots Qf D cI cZ cQ sa ad ks A nx ls (vI (nI n) :: t) w) : GG y p l e R s m args below meth c cells slots Qf D cI cZ cQ sa ad ks A pc ls (vS 99 :: t) w := by
  obtain ⟨i', n', hd, hn, hr⟩ := get_rel hI (by decide)
  obtain ⟨rfl, rfl⟩ := isI_of hr
  subst hn
  intro H locs ls' hW hL hv hs
  exact va_slen hF.1 hF.2.1 hX.1 hX.2.1 hX.2.2 hW.2.2.2 hd (kk H locs ls' hW hL hv (vk1 trivial (vkt hs)))
theorem so_7s {n : Nat} {xs : Nat → Int32} {x : Int32} (hF : Fr y d p R s m args c cells slots) (hX : Sx (some (n, xs)) sa A s) (hI : ins y pc = (7, v, a, b, nx)) (hb : vp_in x n) (kk : GG y p l e R s m args below meth c cells slots Qf D cI cZ cQ sa ad ks A nx ls (vI (xs x.toNatClampNeg) :: t) w) : GG y p l e R s m args below meth c cells slots Qf D cI cZ cQ sa ad ks A pc ls (vI x :: vS 99 :: t) w := by
  obtain ⟨i', n', hd, hn, hr⟩ := get_rel hI (by decide)
  obtain ⟨rfl, rfl⟩ := isI_of hr
  subst hn
  intro H locs ls' hW hL hv hs
  exact va_sld hF.1 hF.2.1 hX.1 hX.2.1 hX.2.2 hW.2.2.2 hb hd (kk H locs ls' hW hL hv (vk1 trivial (vkt (vkt hs))))
theorem cpS_len : cpS.length = 17 := by decide +kernel
theorem so_26 (hF : Fr y d p R s m args c cells slots) (hC : Cx D cI cZ cQ sa sv A s) (hI : ins y pc = (26, v, a, b, nx)) (k : GG y p l e R s m args below meth c cells slots Qf D cI cZ cQ sa ad ks A nx ls (vS a :: st) w) : GG y p l e R s m args below meth c cells slots Qf D cI cZ cQ sa ad ks A pc ls st w := by
  obtain ⟨i, n, hd, hn, hr⟩ := get_rel hI (by decide)
  subst hn
  intro H locs ls' hW hL hv hs
  simp only [rel] at hr
  split at hr
  · simp only [Bool.and_eq_true] at hr
    obtain ⟨h1, h2, h3⟩ := hr
    have h1 := nbeq h1
    obtain rfl := nbeq h2
    split at h3
    · rename_i e0 he
      obtain rfl := nbeq h3
      have ho := hF.2.2.2.1
      rw [h1] at ho
      have hlt : a < 17 := by
        have := (List.getElem?_eq_some_iff.mp he).1
        rw [cpS_len] at this
        exact this
      exact va_ldcS hF.1 hF.2.1 ho (hC.2.2.2.1 a e0 he) hd (k H locs ls' hW hL hv (vk1 (Or.inl hlt) hs))
    · cases h3
  · cases hr
theorem i32_small {k : Int} (h0 : 0 ≤ k) (h1 : k < 1000) : (Int32.ofInt k).toInt = k := by
  have hz : (Int32.size : Int) = 4294967296 := rfl
  rw [Int32.toInt_ofInt]
  exact Int.bmod_eq_of_le (by rw [hz]; omega) (by rw [hz]; omega)
theorem tswP_spec {x : Int32} {K : Nat → Prop} {d : Nat} : ∀ (ts : List Nat) (lo : Int), 0 ≤ lo → lo + (ts.length : Int) < 1000 → tswP x K d lo ts → (∀ (j t : Nat), ts[j]? = some t → x.toInt = lo + (j : Int) → K t) ∧ ((x.toInt < lo ∨ lo + (ts.length : Int) ≤ x.toInt) → K d)
  | [], lo, _, _, h => ⟨fun j t hj => by simp at hj, fun _ => h⟩
  | t :: ts, lo, h0, h1, h => by
    simp only [List.length_cons] at h1
    have hx : x = Int32.ofInt lo ↔ x.toInt = lo := by
      constructor
      · intro z
        rw [z]
        exact i32_small h0 (by omega)
      · intro z
        apply Int32.toInt_inj.mp
        rw [z, i32_small h0 (by omega)]
    obtain ⟨k1, k2⟩ := h
    refine ⟨fun j t' hj hjx => ?_, fun hz => ?_⟩
    · cases j with
      | zero =>
        simp at hj
        subst hj
        exact k1 (hx.mpr (by simpa using hjx))
      | succ j =>
        simp at hj
        have hne : ¬ x = Int32.ofInt lo := fun z => by
          have := hx.mp z
          simp only [Int.natCast_add] at hjx
          omega
        exact (tswP_spec ts (lo + 1) (by omega) (by omega) (k2 hne)).1 j t' hj (by simp only [Int.natCast_add] at hjx; omega)
    · have hne : ¬ x = Int32.ofInt lo := fun z => by
        have := hx.mp z
        simp only [List.length_cons] at hz
        omega
      exact (tswP_spec ts (lo + 1) (by omega) (by omega) (k2 hne)).2 (by simp only [List.length_cons] at hz; omega)
theorem so_37 {x : Int32} {lo : Int} {ts : List Nat} {K : Nat → Prop} (hF : Fr y d p R s m args c cells slots) (hI : ins y pc = (37, v, a, b, nx)) (ht : tsT.getD a (0, []) = (lo, ts)) (h : tswP x K b lo ts) (hK : ∀ q, K q → GG y p l e R s m args below meth c cells slots Qf D cI cZ cQ sa ad ks A q ls t w) : GG y p l e R s m args below meth c cells slots Qf D cI cZ cQ sa ad ks A pc ls (vI x :: t) w := by
  obtain ⟨i, n, hd, hn, hr⟩ := get_rel hI (by decide)
  subst hn
  intro H locs ls' hW hL hv hs
  have hK := fun q z => hK q z H locs ls' hW hL hv (vkt hs)
  simp only [rel, ht] at hr
  split at hr
  · rename_i dflt lo' hi offs
    simp only [Bool.and_eq_true, decide_eq_true_eq] at hr
    obtain ⟨h1, rfl, h3, h4, h5, h6⟩ := hr
    obtain ⟨k1, k2⟩ := tswP_spec ts lo h3 h6 h
    by_cases hx : x.toInt < lo ∨ hi < x.toInt
    · exact lv_tableOut hF.1 hF.2.1 hd hx h1 (hK _ (k2 (by omega)))
    · have hx1 : ¬ x.toInt < lo := fun z => hx (Or.inl z)
      have hx2 : ¬ hi < x.toInt := fun z => hx (Or.inr z)
      have hj : (x.toInt - lo).toNat < ts.length := by omega
      obtain ⟨t0, ht0⟩ : ∃ t0, ts[(x.toInt - lo).toNat]? = some t0 := ⟨_, List.getElem?_eq_getElem hj⟩
      have ho : (offs.toList.map (fun o => (pc : Int) + o))[(x.toInt - lo).toNat]? = some (Int.ofNat t0) := by
        rw [h5, List.getElem?_map, ht0]
        rfl
      rw [List.getElem?_map] at ho
      cases hoo : offs.toList[(x.toInt - lo).toNat]? with
      | none => rw [hoo] at ho; cases ho
      | some o0 =>
        rw [hoo] at ho
        have ho := Option.some.inj ho
        exact lv_tableIn hF.1 hF.2.1 hd hx1 hx2 (by rw [← Array.getElem?_toList]; exact hoo) ho (hK _ (k1 _ _ ht0 (by omega)))
  · cases hr
end SND2


/-! the model: a whole term -/
def nRul (m : Sd) : List (Nat × Nat × Nat) → Nat → Nat → Prop
  | [], _, _ => True
  | (k, o, e) :: R, r, f => (m.2.1 23 0 r = nI k ∧ m.2.1 24 0 r = nI o ∧ m.2.1 25 0 r = nI f ∧ m.2.1 26 0 r = nI e) ∧ nRul m R (r + 1) e
theorem nRul_snoc {m : Sd} {k o e : Nat} : ∀ {R : List (Nat × Nat × Nat)} {r f : Nat}, nRul m R r f → (m.2.1 23 0 (r + R.length) = nI k ∧ m.2.1 24 0 (r + R.length) = nI o ∧ m.2.1 25 0 (r + R.length) = nI (lstR f R) ∧ m.2.1 26 0 (r + R.length) = nI e) → nRul m (R ++ [(k, o, e)]) r f
  | [], _, _, _, h => ⟨h, trivial⟩
  | (k', o', e') :: R, r, f, hR, h => by
    refine ⟨hR.1, nRul_snoc hR.2 ?_⟩
    rw [List.length_cons, show r + (R.length + 1) = r + 1 + R.length by omega] at h
    exact h
theorem nRul_ot {m m' : Sd} {r0 : Nat} (ho : OtR r0 m m') : ∀ {R : List (Nat × Nat × Nat)} {r f : Nat}, r + R.length ≤ r0 → nRul m R r f → nRul m' R r f
  | [], _, _, _, _ => trivial
  | (k, o, e) :: R, r, f, hl, h => by
    rw [List.length_cons] at hl
    refine ⟨?_, nRul_ot ho (by omega) h.2⟩
    rw [ho 23 (by decide) (by decide) r (by omega), ho 24 (by decide) (by decide) r (by omega), ho 25 (by decide) (by decide) r (by omega), ho 26 (by decide) (by decide) r (by omega)]
    exact h.1
theorem nRul_arr {m m' : Sd} (hA : ∀ k, 23 ≤ k → k ≤ 26 → m'.2.1 k 0 = m.2.1 k 0) : ∀ {R : List (Nat × Nat × Nat)} {r f : Nat}, nRul m R r f → nRul m' R r f
  | [], _, _, _ => trivial
  | (k, o, e) :: R, r, f, h => by
    refine ⟨?_, nRul_arr hA h.2⟩
    rw [hA 23 (by decide) (by decide), hA 24 (by decide) (by decide), hA 25 (by decide) (by decide), hA 26 (by decide) (by decide)]
    exact h.1
/-- copied: k entries of src to b on -/
def cpd (h old src : Nat → Int32) (b k : Nat) : Prop := ∀ z, h z = if b ≤ z ∧ z < b + k then src (z - b) else old z
theorem cpd_0 (h src : Nat → Int32) (b : Nat) : cpd h h src b 0 := fun z => by rw [if_neg (by omega)]
theorem cpd_s {h old src : Nat → Int32} {b k : Nat} {x : Int32} (hh : cpd h old src b k) (hx : x = src k) : cpd (upd h (b + k) x) old src b (k + 1) := fun z => by
  by_cases hz : z = b + k
  · subst hz
    rw [pk_us, if_pos (by omega), hx]
    congr 1
    omega
  · rw [pk_un hz, hh z]
    by_cases h2 : b ≤ z ∧ z < b + k
    · rw [if_pos h2, if_pos (by omega)]
    · rw [if_neg h2, if_neg (by omega)]
def TmS (m m' : Sd) : Prop := (∀ k i f, ¬ (k = 0 ∧ i = 0 ∧ ((15 ≤ f ∧ f ≤ 22) ∨ f = 34)) → m'.1 k i f = m.1 k i f) ∧ (∀ k i, ¬ (1 ≤ k ∧ k ≤ 11) → ¬ (23 ≤ k ∧ k ≤ 33) → m'.2.1 k i = m.2.1 k i) ∧ m'.2.2 = m.2.2
theorem TmS_tr {a b c : Sd} (h : TmS a b) (h2 : TmS b c) : TmS a c := ⟨fun k i f h1 => (h2.1 k i f h1).trans (h.1 k i f h1), fun k i h1 h3 => (h2.2.1 k i h1 h3).trans (h.2.1 k i h1 h3), h2.2.2.trans h.2.2⟩
theorem TmS_pu {m m' : Sd} (h : PuS m m') : TmS m m' := ⟨fun k i f h1 => h.1 k i f (fun z => h1 ⟨z.1, z.2.1, by omega⟩), fun k i _ h1 => h.2.1 k i h1, h.2.2⟩
theorem TmS_mf (m : Sd) {f : Nat} (x : Int32) (h : 15 ≤ f ∧ f ≤ 22) : TmS m (mf m f x) := ⟨fun k i g h1 => up3_n m.1 x (fun z => h1 ⟨z.1, z.2.1, by omega⟩), fun _ _ _ _ => rfl, rfl⟩
theorem TmS_ma (m : Sd) {k j : Nat} (x : Int32) (h : 1 ≤ k ∧ k ≤ 11) : TmS m (ma m k j x) := ⟨fun _ _ _ _ => rfl, fun k' i h1 _ => upA_n m.2.1 x (fun z => h1 (by omega)), rfl⟩
/-- others' terms stay -/
def OtT (p : Nat) (m m' : Sd) : Prop := (∀ q, q ≠ p → m'.2.1 1 0 q = m.2.1 1 0 q) ∧ (∀ k, 2 ≤ k → k ≤ 5 → ∀ z, ¬ (25 * p ≤ z ∧ z < 25 * p + 25) → m'.2.1 k 0 z = m.2.1 k 0 z) ∧ (∀ k, 6 ≤ k → k ≤ 11 → ∀ z, ¬ (64 * p ≤ z ∧ z < 64 * p + 64) → m'.2.1 k 0 z = m.2.1 k 0 z)
def QTm (p : Nat) (c m : Sd) (res : Rs Trm) : Wd → Option PV → Prop := fun w' r' => ∃ m', w' = (c, m') ∧ TmS m m' ∧ m'.1 0 0 15 = 0 ∧ ((∃ f pl, res = .inl (f, pl) ∧ m'.1 0 0 20 = nI pl ∧ r' = some (vI (-10 - nI f)) ∧ ∀ k, 1 ≤ k → k ≤ 11 → m'.2.1 k 0 = m.2.1 k 0) ∨ (∃ T, res = .inr T ∧ m'.1 0 0 20 = -1 ∧ r' = some (vI (nI T.1.length)) ∧ MT m' p T ∧ mTld m' p T.2 ∧ OtT p m m'))
section MTM
variable {tx : Nat → Nat} {L n p : Nat} {c m : Sd}
theorem qtml {m' : Sd} {res : Rs Trm} {f pl : Nat} {r : Int32} (h : TmS m m') (h0 : m'.1 0 0 15 = 0) (h1 : res = .inl (f, pl)) (h2 : m'.1 0 0 20 = nI pl) (h3 : r = -10 - nI f) (h4 : ∀ k, 1 ≤ k → k ≤ 11 → m'.2.1 k 0 = m.2.1 k 0) : QTm p c m res (c, m') (some (vI r)) := ⟨m', rfl, h, h0, Or.inl ⟨f, pl, h1, h2, by rw [h3], h4⟩⟩
theorem qtmr {m' : Sd} {res : Rs Trm} {T : Trm} {r : Int32} (h : TmS m m') (h0 : m'.1 0 0 15 = 0) (h1 : res = .inr T) (h2 : m'.1 0 0 20 = -1) (h3 : r = nI T.1.length) (h4 : MT m' p T ∧ mTld m' p T.2 ∧ OtT p m m') : QTm p c m res (c, m') (some (vI r)) := ⟨m', rfl, h, h0, Or.inr ⟨T, h1, h2, by rw [h3], h4⟩⟩
theorem mRul_cp {m' m0 : Sd} {p N : Nat} (h2 : cpd (m'.2.1 2 0) (m0.2.1 2 0) (m0.2.1 23 0) (25 * p) N) (h3 : cpd (m'.2.1 3 0) (m0.2.1 3 0) (m0.2.1 24 0) (25 * p) N) (h4 : cpd (m'.2.1 4 0) (m0.2.1 4 0) (m0.2.1 25 0) (25 * p) N) (h5 : cpd (m'.2.1 5 0) (m0.2.1 5 0) (m0.2.1 26 0) (25 * p) N) : ∀ (R : List (Nat × Nat × Nat)) (r f : Nat), r + R.length ≤ N → nRul m0 R r f → mRul m' p R r f
  | [], _, _, _, _ => trivial
  | (k, o, e) :: R, r, f, hl, h => by
    rw [List.length_cons] at hl
    obtain ⟨⟨g1, g2, g3, g4⟩, g5⟩ := h
    have hz : 25 * p ≤ 25 * p + r ∧ 25 * p + r < 25 * p + N := by omega
    have hs : 25 * p + r - 25 * p = r := by omega
    refine ⟨⟨?_, ?_, ?_, ?_⟩, mRul_cp h2 h3 h4 h5 R (r + 1) e (by omega) g5⟩
    · rw [h2, if_pos hz, hs]; exact g1
    · rw [h3, if_pos hz, hs]; exact g2
    · rw [h4, if_pos hz, hs]; exact g3
    · rw [h5, if_pos hz, hs]; exact g4
theorem m_term (hL : L ≤ 120) (hb : ∀ i, tx i < 256) (hn6 : n ≤ 6) (hp : p < n) (hmn : m.1 0 0 0 = nI n) (h37 : m.1 0 0 37 = -1) (hM : Mx tx L m) : Ctr 8 119 [vR true 0 0, vI (nI p)] (c, m) (QTm p c m (pText tx L)) := by
  /- behind all: a fault -/
  have h97b : ∀ (m3 : Sd) (v2 : Int32) (v3 v4 : Option PV) (f pl : Nat), PuS m m3 → (0 < f ∧ f < 100) → m3.1 0 0 19 = nI f → m3.1 0 0 20 = nI pl → pText tx L = .inl (f, pl) → Go 8 119 none 97 [some (vR true 0 0), some (vI (nI p)), some (vI v2), v3, v4] [] (c, m3) (QTm p c m (pText tx L)) := by
    intro m3 v2 v3 v4 f pl g1 g2 g3 g4 g5
    have e19 : (mf m3 15 0).1 0 0 19 = nI f := (mf_n _ _ (by decide)).trans g3
    refine go_ev 100 [] (bF (c := (mf m3 15 0).1 0 0 19 ≤ 0) (by rw [e19, show (0 : Int32) = nI 0 from rfl, nIle (by omega) (by decide)]; omega) (qtml (m' := mf m3 15 0) (f := f) (pl := pl) (TmS_tr (TmS_pu g1) (TmS_mf _ _ (by decide))) (mf_s _ _ _) g5 ((mf_n _ _ (by decide)).trans g4) ?_ ?_))
    · show -10 - (mf m3 15 0).1 0 0 19 = _
      rw [e19]
    · intro k h1 h2
      show m3.2.1 k 0 = _
      rw [g1.2.1 k 0 (by omega)]
  /- behind all: a term -/
  have h97g : ∀ (m3 : Sd) (v2 : Int32) (v3 v4 : Option PV) (T : Trm), PuS m m3 → m3.1 0 0 19 = 0 → m3.1 0 0 20 = -1 → m3.1 0 0 21 = nI T.1.length → nRul m3 T.1 0 0 → Sg m3 T.2 → okT T → okL T → pText tx L = .inr T → Go 8 119 none 97 [some (vR true 0 0), some (vI (nI p)), some (vI v2), v3, v4] [] (c, m3) (QTm p c m (pText tx L)) := by
    intro m3 v2 v3 v4 T g1 g19 g20 g21 gR gG gok gl gres
    have hpc : (nI p).toNatClampNeg = p := pk_cl p
    have h25 := gok.1
    have h40 := gok.2.1
    have htm : TmS m (mf m3 15 0) := TmS_tr (TmS_pu g1) (TmS_mf _ _ (by decide))
    /- m4: rules[p] is set -/
    have hwT : TmS m (ma (mf m3 15 0) 1 (nI p).toNatClampNeg ((mf m3 15 0).1 0 0 21)) := TmS_tr htm (TmS_ma _ _ (by decide))
    have kS : ∀ (m0 : Sd), TmS m m0 → m0.1 0 0 15 = 0 → m0.1 0 0 20 = -1 → m0.1 0 0 21 = nI T.1.length → mRul m0 p T.1 0 0 → m0.2.1 1 0 p = nI T.1.length → Sg m0 T.2 → (∀ q, q ≠ p → m0.2.1 1 0 q = m.2.1 1 0 q) → (∀ k, 2 ≤ k → k ≤ 5 → ∀ z, ¬ (25 * p ≤ z ∧ z < 25 * p + 25) → m0.2.1 k 0 z = m.2.1 k 0 z) → (∀ k, 6 ≤ k → k ≤ 11 → m0.2.1 k 0 = m.2.1 k 0) → ∀ (j k : Nat) (x : Int32) (v4 : Option PV) (m' : Sd), k + j = T.2.length → x = nI k → m'.1 = m0.1 → m'.2.2 = m0.2.2 → (∀ a i, ¬ (6 ≤ a ∧ a ≤ 11) → m'.2.1 a i = m0.2.1 a i) → cpd (m'.2.1 6 0) (m0.2.1 6 0) (m0.2.1 27 0) (64 * p) k → cpd (m'.2.1 7 0) (m0.2.1 7 0) (m0.2.1 28 0) (64 * p) k → cpd (m'.2.1 8 0) (m0.2.1 8 0) (m0.2.1 29 0) (64 * p) k → cpd (m'.2.1 9 0) (m0.2.1 9 0) (m0.2.1 30 0) (64 * p) k → cpd (m'.2.1 10 0) (m0.2.1 10 0) (m0.2.1 31 0) (64 * p) k → cpd (m'.2.1 11 0) (m0.2.1 11 0) (m0.2.1 32 0) (64 * p) k → Go 8 119 none 213 [some (vR true 0 0), some (vI (nI p)), some (vI v2), some (vI x), v4] [] (c, m') (QTm p c m (pText tx L)) := by
      intro m0 a1 a2 a3 a4 a5 a6 a7 a8 a9 a10 j
      induction j with
      | zero =>
        intro k x v4 m' hj hx e1 e2 e3 c6 c7 c8 c9 c10 c11
        have hkT : k = T.2.length := by omega
        refine go_ev 100 [213] (bT (c := m'.1 0 0 22 ≤ x) (by rw [e1, a7.1, hx, nIle (by omega) (by omega)]; omega) (qtmr (T := T) ?_ (by rw [e1]; exact a2) gres (by rw [e1]; exact a3) (by rw [← a4, ← e1]; rfl) ⟨?_, ?_, ?_⟩))
        · refine ⟨fun k i f h => ?_, fun k i h1 h2 => ?_, e2.trans a1.2.2⟩
          · rw [e1]
            exact a1.1 k i f h
          · rw [e3 k i (by omega)]
            exact a1.2.1 k i h1 h2
        · have hro : mRul m' p T.1 0 0 := mRul_arr (m := m0) (fun k hk => e3 k 0 (by omega)) a5
          refine ⟨by rw [e3 1 0 (by decide)]; exact a6, hro, fun s e he => ?_⟩
          have hs : s < T.2.length := (List.getElem?_eq_some_iff.mp he).1
          obtain ⟨s1, s2, s3, s4⟩ := a7.2 s e he
          have hz : 64 * p ≤ 64 * p + s ∧ 64 * p + s < 64 * p + k := by omega
          have hsb : 64 * p + s - 64 * p = s := by omega
          have e37 : m'.1 0 0 37 = -1 := by
            rw [e1, a1.1 0 0 37 (by decide)]
            exact h37
          unfold mStp effG effM
          rw [if_neg (by rw [e37]; exact nI_m1 (by omega)), if_neg (by rw [e37]; exact nI_m1 (by omega)), c6, c7, c8, c9, c10, if_pos hz, if_pos hz, if_pos hz, if_pos hz, if_pos hz, hsb, Int32.sub_zero, Int32.sub_zero]
          exact ⟨s1, s2, s3⟩
        · intro s e he
          have hs : s < T.2.length := (List.getElem?_eq_some_iff.mp he).1
          rw [c11, if_pos (by omega), show 64 * p + s - 64 * p = s by omega]
          exact (a7.2 s e he).2.2.2
        · refine ⟨fun q hq => ?_, fun a h1 h2 z hz => ?_, fun a h1 h2 z hz => ?_⟩
          · rw [e3 1 0 (by decide)]
            exact a8 q hq
          · rw [e3 a 0 (by omega)]
            exact a9 a h1 h2 z hz
          · have hnz : ¬ (64 * p ≤ z ∧ z < 64 * p + k) := by omega
            rcases (show a = 6 ∨ a = 7 ∨ a = 8 ∨ a = 9 ∨ a = 10 ∨ a = 11 by omega) with rfl | rfl | rfl | rfl | rfl | rfl
            · rw [c6, if_neg hnz, a10 6 (by decide) (by decide)]
            · rw [c7, if_neg hnz, a10 7 (by decide) (by decide)]
            · rw [c8, if_neg hnz, a10 8 (by decide) (by decide)]
            · rw [c9, if_neg hnz, a10 9 (by decide) (by decide)]
            · rw [c10, if_neg hnz, a10 10 (by decide) (by decide)]
            · rw [c11, if_neg hnz, a10 11 (by decide) (by decide)]
      | succ j ih =>
        intro k x v4 m' hj hx e1 e2 e3 c6 c7 c8 c9 c10 c11
        subst hx
        have hkc : (nI k).toNatClampNeg = k := pk_cl k
        have hki : vp_in (nI k) 64 := pk_in k 64 (by omega)
        have hzx : (64 : Int32) * nI p + nI k = nI (64 * p + k) := by rw [show (64 : Int32) = nI 64 from rfl, pk_mul, nIadd]
        have hzc : ((64 : Int32) * nI p + nI k).toNatClampNeg = 64 * p + k := pk_cl _ hzx
        have hzi : vp_in ((64 : Int32) * nI p + nI k) 384 := pk_in (64 * p + k) 384 (by omega) hzx
        have htd : vp_nar .boolean (m'.2.1 32 0 (nI k).toNatClampNeg) = m0.2.1 32 0 k := by
          rw [hkc, e3 32 0 (by decide)]
          obtain ⟨e, he⟩ : ∃ e, T.2[k]? = some e := ⟨_, List.getElem?_eq_getElem (show k < T.2.length by omega)⟩
          rw [(a7.2 k e he).2.2.2]
          exact nar_bi _
        refine go_ev 200 [213] (bF (c := m'.1 0 0 22 ≤ nI k) (by rw [e1, a7.1, nIle (by omega) (by omega)]; omega) ?_)
        refine dI hki (dI hzi (dI hki (dI hzi (dI hki (dI hzi (dI hki (dI hzi (dI hki (dI hzi (dI hki (dI hzi ?_)))))))))))
        refine ih (k + 1) _ _ (ma (ma (ma (ma (ma (ma m' 6 ((64 : Int32) * nI p + nI k).toNatClampNeg (m'.2.1 27 0 (nI k).toNatClampNeg)) 7 ((64 : Int32) * nI p + nI k).toNatClampNeg (m'.2.1 28 0 (nI k).toNatClampNeg)) 8 ((64 : Int32) * nI p + nI k).toNatClampNeg (m'.2.1 29 0 (nI k).toNatClampNeg)) 9 ((64 : Int32) * nI p + nI k).toNatClampNeg (m'.2.1 30 0 (nI k).toNatClampNeg)) 10 ((64 : Int32) * nI p + nI k).toNatClampNeg (m'.2.1 31 0 (nI k).toNatClampNeg)) 11 ((64 : Int32) * nI p + nI k).toNatClampNeg (vp_nar .boolean (m'.2.1 32 0 (nI k).toNatClampNeg))) (by omega) (nI_succ k).symm e1 e2 ?_ ?_ ?_ ?_ ?_ ?_ ?_
        · intro a i ha
          rw [← e3 a i ha]
          show upA (upA (upA (upA (upA (upA m'.2.1 6 0 _ _) 7 0 _ _) 8 0 _ _) 9 0 _ _) 10 0 _ _) 11 0 _ _ a i = _
          rw [upA_n _ _ (fun z => ha (by omega)), upA_n _ _ (fun z => ha (by omega)), upA_n _ _ (fun z => ha (by omega)), upA_n _ _ (fun z => ha (by omega)), upA_n _ _ (fun z => ha (by omega)), upA_n _ _ (fun z => ha (by omega))]
        · rw [ma_k _ _ (by decide), ma_k _ _ (by decide), ma_k _ _ (by decide), ma_k _ _ (by decide), ma_k _ _ (by decide), ma_s, hzc]
          exact cpd_s c6 (by rw [hkc, e3 27 0 (by decide)])
        · rw [ma_k _ _ (by decide), ma_k _ _ (by decide), ma_k _ _ (by decide), ma_k _ _ (by decide), ma_s, ma_k _ _ (by decide), hzc]
          exact cpd_s c7 (by rw [hkc, e3 28 0 (by decide)])
        · rw [ma_k _ _ (by decide), ma_k _ _ (by decide), ma_k _ _ (by decide), ma_s, ma_k _ _ (by decide), ma_k _ _ (by decide), hzc]
          exact cpd_s c8 (by rw [hkc, e3 29 0 (by decide)])
        · rw [ma_k _ _ (by decide), ma_k _ _ (by decide), ma_s, ma_k _ _ (by decide), ma_k _ _ (by decide), ma_k _ _ (by decide), hzc]
          exact cpd_s c9 (by rw [hkc, e3 30 0 (by decide)])
        · rw [ma_k _ _ (by decide), ma_s, ma_k _ _ (by decide), ma_k _ _ (by decide), ma_k _ _ (by decide), ma_k _ _ (by decide), hzc]
          exact cpd_s c10 (by rw [hkc, e3 31 0 (by decide)])
        · rw [ma_s, ma_k _ _ (by decide), ma_k _ _ (by decide), ma_k _ _ (by decide), ma_k _ _ (by decide), ma_k _ _ (by decide), hzc]
          exact cpd_s c11 htd
    have kR : ∀ (m0 : Sd), TmS m m0 → m0.1 0 0 15 = 0 → m0.1 0 0 20 = -1 → m0.1 0 0 21 = nI T.1.length → nRul m0 T.1 0 0 → m0.2.1 1 0 p = nI T.1.length → Sg m0 T.2 → (∀ q, q ≠ p → m0.2.1 1 0 q = m.2.1 1 0 q) → (∀ k, 2 ≤ k → k ≤ 11 → m0.2.1 k 0 = m.2.1 k 0) → ∀ (j k : Nat) (x : Int32) (v4 : Option PV) (m' : Sd), k + j = T.1.length → x = nI k → m'.1 = m0.1 → m'.2.2 = m0.2.2 → (∀ a i, ¬ (2 ≤ a ∧ a ≤ 5) → m'.2.1 a i = m0.2.1 a i) → cpd (m'.2.1 2 0) (m0.2.1 2 0) (m0.2.1 23 0) (25 * p) k → cpd (m'.2.1 3 0) (m0.2.1 3 0) (m0.2.1 24 0) (25 * p) k → cpd (m'.2.1 4 0) (m0.2.1 4 0) (m0.2.1 25 0) (25 * p) k → cpd (m'.2.1 5 0) (m0.2.1 5 0) (m0.2.1 26 0) (25 * p) k → Go 8 119 none 129 [some (vR true 0 0), some (vI (nI p)), some (vI v2), some (vI x), v4] [] (c, m') (QTm p c m (pText tx L)) := by
      intro m0 a1 a2 a3 a4 a5 a6 a7 a8 a9 j
      induction j with
      | zero =>
        intro k x v4 m' hj hx e1 e2 e3 c2 c3 c4 c5
        have hkT : k = T.1.length := by omega
        refine go_ev 100 [129, 213] (bT (c := m'.1 0 0 21 ≤ x) (by rw [e1, a4, hx, nIle (by omega) (by omega)]; omega) ?_)
        refine kS m' ⟨fun k i f h => by rw [e1]; exact a1.1 k i f h, fun k i h1 h2 => by rw [e3 k i (by omega)]; exact a1.2.1 k i h1 h2, e2.trans a1.2.2⟩ (by rw [e1]; exact a2) (by rw [e1]; exact a3) (by rw [e1]; exact a4) (mRul_cp c2 c3 c4 c5 T.1 0 0 (by omega) a5) (by rw [e3 1 0 (by decide)]; exact a6) ?_ (fun q hq => by rw [e3 1 0 (by decide)]; exact a8 q hq) ?_ (fun a h1 h2 => by rw [e3 a 0 (by omega)]; exact a9 a (by omega) h2) T.2.length 0 0 _ m' (by omega) rfl rfl rfl (fun _ _ _ => rfl) (cpd_0 _ _ _) (cpd_0 _ _ _) (cpd_0 _ _ _) (cpd_0 _ _ _) (cpd_0 _ _ _) (cpd_0 _ _ _)
        · refine ⟨by rw [e1]; exact a7.1, fun s e he => ?_⟩
          have := a7.2 s e he
          unfold sgn at this ⊢
          rw [e3 27 0 (by decide), e3 28 0 (by decide), e3 29 0 (by decide), e3 30 0 (by decide), e3 31 0 (by decide), e3 32 0 (by decide)]
          exact this
        · intro a h1 h2 z hz
          have hnz : ¬ (25 * p ≤ z ∧ z < 25 * p + k) := by omega
          rcases (show a = 2 ∨ a = 3 ∨ a = 4 ∨ a = 5 by omega) with rfl | rfl | rfl | rfl
          · rw [c2, if_neg hnz, a9 2 (by decide) (by decide)]
          · rw [c3, if_neg hnz, a9 3 (by decide) (by decide)]
          · rw [c4, if_neg hnz, a9 4 (by decide) (by decide)]
          · rw [c5, if_neg hnz, a9 5 (by decide) (by decide)]
      | succ j ih =>
        intro k x v4 m' hj hx e1 e2 e3 c2 c3 c4 c5
        subst hx
        have hkc : (nI k).toNatClampNeg = k := pk_cl k
        have hki : vp_in (nI k) 25 := pk_in k 25 (by omega)
        have hzx : (25 : Int32) * nI p + nI k = nI (25 * p + k) := by rw [show (25 : Int32) = nI 25 from rfl, pk_mul, nIadd]
        have hzc : ((25 : Int32) * nI p + nI k).toNatClampNeg = 25 * p + k := pk_cl _ hzx
        have hzi : vp_in ((25 : Int32) * nI p + nI k) 150 := pk_in (25 * p + k) 150 (by omega) hzx
        refine go_ev 200 [129, 213] (bF (c := m'.1 0 0 21 ≤ nI k) (by rw [e1, a4, nIle (by omega) (by omega)]; omega) ?_)
        refine dI hki (dI hzi (dI hki (dI hzi (dI hki (dI hzi (dI hki (dI hzi ?_)))))))
        refine ih (k + 1) _ _ (ma (ma (ma (ma m' 2 ((25 : Int32) * nI p + nI k).toNatClampNeg (m'.2.1 23 0 (nI k).toNatClampNeg)) 3 ((25 : Int32) * nI p + nI k).toNatClampNeg (m'.2.1 24 0 (nI k).toNatClampNeg)) 4 ((25 : Int32) * nI p + nI k).toNatClampNeg (m'.2.1 25 0 (nI k).toNatClampNeg)) 5 ((25 : Int32) * nI p + nI k).toNatClampNeg (m'.2.1 26 0 (nI k).toNatClampNeg)) (by omega) (nI_succ k).symm e1 e2 ?_ ?_ ?_ ?_ ?_
        · intro a i ha
          rw [← e3 a i ha]
          show upA (upA (upA (upA m'.2.1 2 0 _ _) 3 0 _ _) 4 0 _ _) 5 0 _ _ a i = _
          rw [upA_n _ _ (fun z => ha (by omega)), upA_n _ _ (fun z => ha (by omega)), upA_n _ _ (fun z => ha (by omega)), upA_n _ _ (fun z => ha (by omega))]
        · rw [ma_k _ _ (by decide), ma_k _ _ (by decide), ma_k _ _ (by decide), ma_s, hzc]
          exact cpd_s c2 (by rw [hkc, e3 23 0 (by decide)])
        · rw [ma_k _ _ (by decide), ma_k _ _ (by decide), ma_s, ma_k _ _ (by decide), hzc]
          exact cpd_s c3 (by rw [hkc, e3 24 0 (by decide)])
        · rw [ma_k _ _ (by decide), ma_s, ma_k _ _ (by decide), ma_k _ _ (by decide), hzc]
          exact cpd_s c4 (by rw [hkc, e3 25 0 (by decide)])
        · rw [ma_s, ma_k _ _ (by decide), ma_k _ _ (by decide), ma_k _ _ (by decide), hzc]
          exact cpd_s c5 (by rw [hkc, e3 26 0 (by decide)])
    refine go_ev 100 [129] (bT (c := (mf m3 15 0).1 0 0 19 ≤ 0) (by rw [mf_n _ _ (by decide), g19]; decide) (dI (pk_in p 6 (by omega)) ?_))
    have hf : ∀ f, f ≠ 15 → (mf m3 15 0).1 0 0 f = m3.1 0 0 f := fun f hf => mf_n _ _ hf
    refine kR (ma (mf m3 15 0) 1 (nI p).toNatClampNeg ((mf m3 15 0).1 0 0 21)) hwT (mf_s m3 15 0) ((hf 20 (by decide)).trans g20) ((hf 21 (by decide)).trans g21) (nRul_arr (m := m3) (fun k h1 h2 => ma_k (mf m3 15 0) _ (by omega)) gR) ?_ ?_ ?_ ?_ T.1.length 0 0 _ _ (by omega) rfl rfl rfl (fun _ _ _ => rfl) (cpd_0 _ _ _) (cpd_0 _ _ _) (cpd_0 _ _ _) (cpd_0 _ _ _)
    · rw [ma_s, hpc, pk_us, hf 21 (by decide)]
      exact g21
    · exact Sg_ma (by decide) ⟨(hf 22 (by decide)).trans gG.1, gG.2⟩
    · intro q hq
      rw [ma_s, hpc, pk_un hq]
      show m3.2.1 1 0 q = _
      rw [g1.2.1 1 0 (by decide)]
    · intro k h1 h2
      rw [ma_k _ _ (by omega)]
      show m3.2.1 k 0 = _
      rw [g1.2.1 k 0 (by omega)]
  /- the rules one by one -/
  have key : ∀ (fuel i : Nat) (T : Trm) (v3 v4 : Option PV) (m' : Sd), L < fuel + i → okN T i → PuS m m' → m'.1 0 0 19 = 0 → m'.1 0 0 20 = -1 → m'.1 0 0 21 = nI T.1.length → At tx L i m' → nRul m' T.1 0 0 → Sg m' T.2 → pText tx L = pRules tx L fuel T i → Go 8 119 none 39 [some (vR true 0 0), some (vI (nI p)), some (vI 1), v3, v4] [] (c, m') (QTm p c m (pText tx L)) := by
    intro fuel
    induction fuel with
    | zero =>
      intro i T v3 v4 m' hf hN g1 g19 g20 g21 gA gR gG hres
      have := (At_le gA).1
      omega
    | succ fuel ih =>
      intro i T v3 v4 m' hf hN g1 g19 g20 g21 gA gR gG hres
      obtain ⟨hil, hsi⟩ := At_le gA
      obtain ⟨R, O⟩ := T
      have hN1 : 5 * R.length ≤ i := hN.1
      have hN2 : 3 * O.length ≤ i := hN.2.1
      have hlst : lstR 0 R = O.length := hN.2.2.2.2
      have hresS := hres
      rw [pRules_s] at hres
      refine go_ev 100 [39, 97] (bF (c := (1 : Int32) = 0) (by decide) (iC (m_takeRule (r := R.length) (O := O) hL hb (Mx_pu g1 hM) gA g19 g21 (by omega) gG (by omega)) (by decide) ?_))
      rintro _ _ ⟨m2, rfl, hp2, ho2, rfl, ⟨f, pl, hr2, hf2, k19, k20⟩ | ⟨k, o, A, j, hr2, k19, k20, hA2, hG2, k21, k23, k24, k25, k26⟩⟩
      · refine iF (m_takesX hf2 k19) (by decide) ?_
        refine go_ev 100 [97] (bT (c := (0 : Int32) = 0) rfl (bF (c := m2.1 0 0 19 = 0) (by rw [k19]; exact fun z => absurd ((nIeq (b := 0) (by omega) (by decide)).mp z) (by omega)) ?_))
        refine h97b m2 _ _ _ f pl (PuS_tr g1 hp2) hf2 k19 k20 ?_
        rw [hres, hr2]
        rfl
      · rw [hr2] at hres
        have hres : pText tx L = (if isW tx L 0 j = true then pRules tx L fuel (R ++ [(k, o, (O ++ A).length)], O ++ A) (nx tx L j) else if j < L then .inl (1, j) else .inr (R ++ [(k, o, (O ++ A).length)], O ++ A)) := hres
        have hst := okN_step hN hr2
        have hgt := pRule_gt hr2
        have hR2 : nRul m2 (R ++ [(k, o, (O ++ A).length)]) 0 0 := by
          refine nRul_snoc (nRul_ot ho2 (by omega) gR) ?_
          rw [Nat.zero_add, hlst]
          exact ⟨k23, k24, k25, k26⟩
        have hl21 : m2.1 0 0 21 = nI (R ++ [(k, o, (O ++ A).length)]).length := by rw [k21, List.length_append]; rfl
        have hpu2 := PuS_tr g1 hp2
        refine iC (m_takes (q := 0) hL hb (Mx_pu hpu2 hM) hA2 k19 (by decide)) (by decide) ?_
        rintro _ _ ⟨m3, rfl, hP3, ⟨y16, y17, y18, y19, y20⟩, rfl⟩
        have hA3 := At_takes (q := 0) (by decide) hA2 y16
        have hpu3 := PuS_tr hpu2 (PuS_pr (PrS_pf hP3))
        have q19 := y19.trans k19
        have q20 := y20.trans (k20.trans g20)
        have q21 : m3.1 0 0 21 = nI (R ++ [(k, o, (O ++ A).length)]).length := (hP3.1 0 0 21 (by decide)).trans hl21
        have hR3 : nRul m3 (R ++ [(k, o, (O ++ A).length)]) 0 0 := nRul_arr (fun k _ _ => by rw [hP3.2]) hR2
        have hG3 := Sg_pf hP3 hG2
        cases w0 : isW tx L 0 j with
        | true =>
          rw [w0] at hA3
          have hA3 : At tx L (nx tx L j) m3 := hA3
          rw [if_pos w0] at hres
          have hnx : j + 4 ≤ nx tx L j := by
            obtain ⟨-, -, h3, -⟩ := isW_lt (by decide) w0
            have h4 := sk_ge (tx := tx) (L := L) (wd tx L j)
            have h5 : (wB 0).length = 4 := rfl
            unfold nx
            omega
          refine ih (nx tx L j) (R ++ [(k, o, (O ++ A).length)], O ++ A) _ _ m3 (by omega) ⟨?_, ?_, hst.2.1, hst.2.2.1, hst.2.2.2⟩ hpu3 q19 q20 q21 hA3 hR3 hG3 hres
          · have := hst.1.1
            show 5 * (R ++ _).length ≤ _
            have : 5 * (R ++ [(k, o, (O ++ A).length)]).length ≤ j + 4 := this
            omega
          · have : 3 * (O ++ A).length ≤ j := hst.1.2
            show 3 * (O ++ A).length ≤ _
            omega
        | false =>
          rw [w0] at hA3
          have hA3 : At tx L j m3 := hA3
          obtain ⟨hjl, hjs⟩ := At_le hA3
          rw [if_neg (by rw [w0]; exact Bool.false_ne_true)] at hres
          refine go_ev 100 [97] (bT (c := (0 : Int32) = 0) rfl (bT (c := m3.1 0 0 19 = 0) q19 (iC (m_here hL hb (Mx_pu hpu3 hM) hA3) (by decide) ?_)))
          rintro _ _ ⟨m4, rfl, hP4, ⟨u16, uf⟩, rfl⟩
          have hpu4 := PuS_tr hpu3 (PuS_pr (PrS_pf hP4))
          have u19 := (uf 19 (by decide)).trans q19
          have u20 := (uf 20 (by decide)).trans q20
          have u21 := (uf 21 (by decide)).trans q21
          refine bI (c := (0 : Int32) ≤ hr tx L j) (fun h => ?_) (fun h => ?_)
          · have hjL : j < L := by
              apply Classical.byContradiction
              intro z
              unfold hr at h
              rw [if_neg z] at h
              exact absurd h (by decide)
            rw [if_pos hjL] at hres
            refine iF (m_wantF (f := 1) (by decide) _ u19) (by decide) ?_
            refine h97b (mf (mf m4 19 (nI 1)) 20 (m4.1 0 0 16)) _ _ _ 1 j (PuS_tr hpu4 (PuS_tr (PuS_mf _ _ (by decide)) (PuS_mf _ _ (by decide)))) (by decide) ?_ ?_ hres
            · rw [mf_n _ _ (by decide), mf_s]
            · rw [mf_s]
              exact u16
          · have hjL : ¬ j < L := fun z => by
              apply h
              unfold hr
              rw [if_pos z]
              exact nI_pos' (by have := hb j; omega)
            rw [if_neg hjL] at hres
            refine iF (m_wantT 1 _ u19) (by decide) ?_
            have hok := pRules_ok hL (fuel + 1) (R, O) i _ hf hil hN (by rw [← hresS]; exact hres)
            exact h97g m4 _ _ _ (R ++ [(k, o, (O ++ A).length)], O ++ A) hpu4 u19 u20 u21 (nRul_arr (fun k _ _ => by rw [hP4.2]) hR3) (Sg_pf hP4 hG3) hok.1 hok.2 hres
  have hnp := m_noPerson (c := c) hmn (nI p)
  have hin : inP n (nI p) := (in_iff (by omega) (by omega)).mpr ⟨p, hp, rfl⟩
  rw [bi_f (fun z => z hin)] at hnp
  refine ctr_ev 100 [39] rfl rfl (iF hnp (by decide) (bT (c := (0 : Int32) = 0) rfl ?_))
  have hpu0 : PuS m (mf (mf (mf (mf (mf m 16 0) 19 0) 20 (-1)) 21 0) 22 0) := PuS_tr (PuS_mf _ _ (by decide)) (PuS_tr (PuS_mf _ _ (by decide)) (PuS_tr (PuS_mf _ _ (by decide)) (PuS_tr (PuS_mf _ _ (by decide)) (PuS_mf _ _ (by decide)))))
  refine key (L + 1) (sk tx L 0) ([], []) none none (mf (mf (mf (mf (mf m 16 0) 19 0) 20 (-1)) 21 0) 22 0) (by omega) ⟨Nat.zero_le _, Nat.zero_le _, fun x hx => (by cases hx), trivial, rfl⟩ hpu0 ?_ ?_ ?_ ⟨0, ?_, rfl, Nat.zero_le _⟩ trivial ⟨mf_s _ _ _, fun s e he => (by cases he)⟩ rfl
  · rw [mf_n _ _ (by decide), mf_n _ _ (by decide), mf_n _ _ (by decide), mf_s]
  · rw [mf_n _ _ (by decide), mf_n _ _ (by decide), mf_s]
  · rw [mf_n _ _ (by decide), mf_s]
    rfl
  · rw [mf_n _ _ (by decide), mf_n _ _ (by decide), mf_n _ _ (by decide), mf_n _ _ (by decide), mf_s]
    rfl
end MTM

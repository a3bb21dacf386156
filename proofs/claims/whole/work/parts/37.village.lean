/-! the class's village, for the calls above -/
def lV (n : Nat) (Ts : Nat → Trm) (p row day : Nat) : Nat := letT n p row day (Ts p)
def Cls (X : Sd → Prop) : Prop := ∀ c c', Sam c c' → X c → X c'
section VLG
variable {n : Nat} {Ts : Nat → Trm} {X I : Sd → Prop}
theorem CV_lkd {c : Sd} (p row day : Nat) (hV : CV n Ts c) : CV n Ts (lkd c n p row day) := CV_sam (lkd_sam _ _ _ _ _) hV (fun q hq => (hV.2 q hq).2.2)
theorem CH_of (h1 : 1 ≤ n) (h6 : n ≤ 6) (hok : ∀ p, okT (Ts p)) (hX : Cls X) (hI : ∀ c, I c ↔ CV n Ts c ∧ X c) : CH n (lV n Ts) I := by
  refine ⟨⟨h1, h6⟩, fun p row day => letT_lt (hok p), fun c hc => ((hI c).mp hc).1.1, fun c m hc p row day hp hr hd1 hd9 => ?_, fun c m hc p row day hp hr hd1 hd9 => ?_, trivial⟩
  · obtain ⟨hV, hXc⟩ := (hI c).mp hc
    have hr6 := pow4_le h6
    obtain ⟨hnum, hT, -⟩ := hV.2 p (by omega)
    rw [show (nI p).toNatClampNeg = p from pk_cl p, hV.1]
    have hL : Fn 1 31 [vR false 19 0, vI (c.1 9 p 0), vI (nI row), vI (nI day), vI (nI n)] (c, m) (lkd c n p row day, m) none := by
      rw [hnum]
      exact c_look (by omega) (by omega) _ _
    refine ctr_ev 40 [] rfl rfl (iF hL (by decide) ?_)
    refine iF (c_tAllowed (lkd_scn c n p row day) h6 hp hr hd9 (lkd_CT hT) (hok p)) (by decide) ?_
    exact pqi ((hI _).mpr ⟨CV_lkd p row day hV, hX _ _ (lkd_sam c n p row day) hXc⟩) rfl
  · obtain ⟨hV, hXc⟩ := (hI c).mp hc
    rw [show (nI p).toNatClampNeg = p from pk_cl p, hV.1]
    refine c_often (fun w' r' h => ?_) h6 hp hr hd1 hd9 hV (hok p)
    obtain ⟨c', e1, ⟨e2, e3⟩, e4⟩ := h
    exact ⟨c', e1, (hI _).mpr ⟨e2, hX _ _ e3 hXc⟩, e4⟩
theorem CK_of (h1 : 1 ≤ n) (h6 : n ≤ 6) (hok : ∀ p, okT (Ts p)) (hX : Cls X) (hX2 : ∀ c m f x, X c → X (sF (c, m) false 20 0 f x).1) : CK n (lV n Ts) (fun c => CV n Ts c ∧ X c) := by
  refine ⟨fun g => CH_of (X := fun c => X c ∧ ∀ f, c.1 20 0 f = g f) h1 h6 hok (fun c c' hs hc => ⟨hX c c' hs hc.1, fun f => (hs.1 20 0 f (by decide) (fun z => absurd z (by decide))).trans (hc.2 f)⟩) (fun c => and_assoc), fun c m f x hc => ⟨?_, hX2 c m f x hc.2⟩⟩
  exact hc.1
theorem hown_of (p row day d : Nat) (hd : d < 4) : lV n Ts p (wdd row p d) day = lV n Ts p row day := letT_own hd _ _
end VLG

/-! the model's village, for the calls above -/
theorem mStps_fr {m m' : Sd} {p : Nat} {S : List StpT} (h37 : m'.1 0 0 37 = m.1 0 0 37) (hA : ∀ k, k ≤ 39 → m'.2.1 k 0 = m.2.1 k 0) (hS : mStps m p S) : mStps m' p S := by
  intro s e he
  have := hS s e he
  unfold mStp effM effG at this ⊢
  rw [h37, hA 6 (by decide), hA 7 (by decide), hA 8 (by decide), hA 9 (by decide), hA 10 (by decide), hA 38 (by decide), hA 39 (by decide)]
  exact this
theorem mRul_fr {m m' : Sd} {p : Nat} (hA : ∀ k, k ≤ 39 → m'.2.1 k 0 = m.2.1 k 0) : ∀ {R : List (Nat × Nat × Nat)} {r f : Nat}, mRul m p R r f → mRul m' p R r f
  | [], _, _, _ => trivial
  | (k, o, e) :: R, r, f, hR => by
    obtain ⟨h1, h2⟩ := hR
    refine ⟨?_, mRul_fr hA h2⟩
    rw [hA 2 (by decide), hA 3 (by decide), hA 4 (by decide), hA 5 (by decide)]
    exact h1
theorem MT_fr {m m' : Sd} {p : Nat} {T : Trm} (h37 : m'.1 0 0 37 = m.1 0 0 37) (hA : ∀ k, k ≤ 39 → m'.2.1 k 0 = m.2.1 k 0) (hT : MT m p T) : MT m' p T := ⟨by rw [hA 1 (by decide)]; exact hT.1, mRul_fr hA hT.2.1, mStps_fr h37 hA hT.2.2⟩
def MV (n : Nat) (Ts : Nat → Trm) (Y : Sd → Prop) (tl : Option Nat) (wd : Nat) (m : Sd) : Prop := (m.1 0 0 0 = nI n ∧ m.1 0 0 35 = optI tl ∧ (∀ q, tl = some q → q < 6) ∧ m.1 0 0 36 = nI wd ∧ m.1 0 0 37 = -1) ∧ (∀ p, p < 6 → MT m p (Ts p)) ∧ Y m
def YC (Y : Sd → Prop) : Prop := (∀ m m', TrS m m' → Y m → Y m') ∧ (∀ m f x, (f = 35 ∨ f = 36 ∨ (44 ≤ f ∧ f ≤ 46)) → Y m → Y (up3 m.1 0 0 f x, m.2.1, m.2.2)) ∧ ∀ m j x, Y m → Y (m.1, upA m.2.1 43 0 j x, m.2.2)
section MVI
variable {n : Nat} {Ts : Nat → Trm} {Y : Sd → Prop}
theorem MV_trs {m m' : Sd} {tl : Option Nat} {wd : Nat} (hY : ∀ m m', TrS m m' → Y m → Y m') (h : TrS m m') (hV : MV n Ts Y tl wd m) : MV n Ts Y tl wd m' := by
  obtain ⟨h1, h2, h3⟩ := hV
  refine ⟨?_, fun p hp => MT_trs h (h2 p hp), hY _ _ h h3⟩
  rw [h.1]
  exact h1
theorem MV_MH {I : Sd → Prop} {tl : Option Nat} {wd : Nat} (h1 : 1 ≤ n) (h6 : n ≤ 6) (hok : ∀ p, okT (Ts p)) (hw : tl ≠ none → wd < 4) (hY : ∀ m m', TrS m m' → Y m → Y m') (hI : ∀ m, I m ↔ MV n Ts Y tl wd m) : MH n (lw (lV n Ts) tl wd) I := by
  refine ⟨⟨h1, h6⟩, fun p row day => ?_, fun m hm => ((hI m).mp hm).1.1, fun c m hm p row day hp hr hd1 hd9 => ?_⟩
  · unfold lw
    split
    · rename_i z
      exact hw (by rw [z]; simp)
    · exact letT_lt (hok p)
  · have hV := (hI m).mp hm
    obtain ⟨⟨a1, a2, a3, a4, -⟩, a5, -⟩ := id hV
    refine m_letBy (tl := tl) (wd := wd) (T := Ts p) (fun w' r' h => ?_) a1 h6 hp hr hd9 a2 (fun q hq => by
      have := a3 q hq
      omega) a4 (a5 p (by omega)) (hok p)
    obtain ⟨m', e1, e2, e3⟩ := h
    exact ⟨m', e1, (hI _).mpr (MV_trs hY e2 hV), e3⟩
theorem MV_fld {m : Sd} {tl : Option Nat} {wd : Nat} (hY : YC Y) {f : Nat} {x : Int32} (hf : 44 ≤ f ∧ f ≤ 46) (hV : MV n Ts Y tl wd m) : MV n Ts Y tl wd (up3 m.1 0 0 f x, m.2.1, m.2.2) := by
  obtain ⟨⟨a1, a2, a3, a4, a5⟩, h2, h3⟩ := hV
  have e : ∀ g, g < 44 → up3 m.1 0 0 f x 0 0 g = m.1 0 0 g := fun g hg => up3_n _ _ (fun z => by omega)
  exact ⟨⟨(e 0 (by decide)).trans a1, (e 35 (by decide)).trans a2, a3, (e 36 (by decide)).trans a4, (e 37 (by decide)).trans a5⟩, fun p hp => MT_fr (e 37 (by decide)) (fun _ _ => rfl) (h2 p hp), hY.2.1 m f x (Or.inr (Or.inr hf)) h3⟩
theorem MV_arr {m : Sd} {tl : Option Nat} {wd : Nat} (hY : YC Y) {j : Nat} {x : Int32} (hV : MV n Ts Y tl wd m) : MV n Ts Y tl wd (m.1, upA m.2.1 43 0 j x, m.2.2) := by
  obtain ⟨h1, h2, h3⟩ := hV
  exact ⟨h1, fun p hp => MT_fr (m := m) rfl (fun k hk => upA_n _ _ (fun z => by omega)) (h2 p hp), hY.2.2 m j x h3⟩
theorem MV_MK {tl : Option Nat} {wd : Nat} (h1 : 1 ≤ n) (h6 : n ≤ 6) (hok : ∀ p, okT (Ts p)) (hw : tl ≠ none → wd < 4) (hY : YC Y) : MK n (lw (lV n Ts) tl wd) (MV n Ts Y tl wd) := by
  refine ⟨fun g a => ?_, fun c m f x hf1 hf2 hm => MV_fld hY ⟨hf1, hf2⟩ hm, fun c m j x hm => MV_arr hY hm⟩
  refine MV_MH (Y := fun m => Y m ∧ (∀ f, 44 ≤ f → f ≤ 46 → m.1 0 0 f = g f) ∧ m.2.1 43 0 = a) h1 h6 hok hw (fun m m' h hm => ⟨hY.1 m m' h hm.1, fun f h1 h2 => by rw [h.1]; exact hm.2.1 f h1 h2, by rw [h.2.1 43 0 (by decide)]; exact hm.2.2⟩) (fun m => ?_)
  unfold MS MV
  constructor
  · rintro ⟨⟨q1, q2, q3⟩, q4⟩
    exact ⟨q1, q2, q3, q4⟩
  · rintro ⟨q1, q2, q3, q4⟩
    exact ⟨⟨q1, q2, q3⟩, q4⟩
theorem MV_MW (h1 : 1 ≤ n) (h6 : n ≤ 6) (hok : ∀ p, okT (Ts p)) (hY : YC Y) : MW n (lV n Ts) (MV n Ts Y) := by
  refine ⟨⟨h1, h6⟩, fun p row day => letT_lt (hok p), fun tl wd hw => MV_MK h1 h6 hok hw hY, fun c m tl wd tl' hq hV => ?_, fun c m tl wd wd' hV => ?_⟩
  · obtain ⟨⟨a1, a2, a3, a4, a5⟩, h2, h3⟩ := hV
    exact ⟨⟨a1, rfl, hq, a4, a5⟩, fun p hp => MT_fr (m := m) rfl (fun _ _ => rfl) (h2 p hp), hY.2.1 m 35 _ (Or.inl rfl) h3⟩
  · obtain ⟨⟨a1, a2, a3, a4, a5⟩, h2, h3⟩ := hV
    exact ⟨⟨a1, a2, a3, rfl, a5⟩, fun p hp => MT_fr (m := m) rfl (fun _ _ => rfl) (h2 p hp), hY.2.1 m 36 _ (Or.inr (Or.inl rfl)) h3⟩
end MVI

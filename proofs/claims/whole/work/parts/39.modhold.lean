/-! the model: whether a rule holds -/
/-- bits at the bottom of a row, the latest last -/
def tru (a : Nat → Int32) : List Bool → Prop
  | [] => True
  | b :: t => a t.length = bi (b = true) ∧ tru a t
theorem tru_upd {a : Nat → Int32} {x : Int32} : ∀ {st : List Bool} {j : Nat}, st.length ≤ j → tru a st → tru (upd a j x) st
  | [], _, _, _ => trivial
  | _ :: t, j, h, hs => by
    have h : t.length + 1 ≤ j := h
    exact ⟨by rw [pk_un (by omega)]; exact hs.1, tru_upd (by omega) hs.2⟩
theorem tru_last {a : Nat → Int32} {st : List Bool} {b : Bool} (h : tru a (st ++ [b])) : a 0 = bi (b = true) := by
  induction st with
  | nil => exact h.1
  | cons x t ih => exact ih h.2
/-- what holds, over rows of bits that may change -/
def TrS (m m' : Sd) : Prop := m'.1 = m.1 ∧ (∀ k i, k ≠ 40 → m'.2.1 k i = m.2.1 k i) ∧ m'.2.2 = m.2.2
def mStps (m : Sd) (p : Nat) (S : List StpT) : Prop := ∀ s e, S[s]? = some e → mStp m p s e
theorem mStps_trs {m m' : Sd} {p : Nat} {S : List StpT} (h : TrS m m') (hS : mStps m p S) : mStps m' p S := by
  intro s e he
  have := hS s e he
  unfold mStp effM effG at this ⊢
  rw [h.1, h.2.1 6 0 (by decide), h.2.1 7 0 (by decide), h.2.1 8 0 (by decide), h.2.1 9 0 (by decide), h.2.1 10 0 (by decide), h.2.1 38 0 (by decide), h.2.1 39 0 (by decide)]
  exact this
def QT (m c : Sd) (r : Int32) : Wd → Option PV → Prop := fun w' r' => ∃ m', w' = (c, m') ∧ TrS m m' ∧ r' = some (vI r)
theorem qti {m c m' : Sd} {r r' : Int32} (h : TrS m m') (h2 : r' = r) : QT m c r (c, m') (some (vI r')) := ⟨m', rfl, h, by rw [h2]⟩
theorem TrS_rfl (m : Sd) : TrS m m := ⟨rfl, fun _ _ _ => rfl, rfl⟩
theorem TrS_upd {m m' : Sd} (h : TrS m m') (j : Nat) (x : Int32) : TrS m (m'.1, upA m'.2.1 40 0 j x, m'.2.2) := ⟨h.1, fun k i hk => (upA_n _ _ (fun z => hk z.1)).trans (h.2.1 k i hk), h.2.2⟩

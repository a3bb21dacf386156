/-! how methods are run on the small machine -/
theorem ctr_ev (n : Nat) (stops : List Nat) {d y : Nat} {av : List PV} {w : Wd} {Q : Wd → Option PV → Prop} (hy : Nat.blt y 168 = true) (hl : Nat.ble (entA av).length (yL y) = true) (h : ev d y none stops Q n 0 (entL (yL y) av) [] w) : Ctr d y av w Q := ctr_of (nblt hy) (Nat.le_of_ble_eq_true hl) (ev_sound n h)
theorem go_ev (n : Nat) (stops : List Nat) {d y pc : Nat} {ls : Ls} {st : List PV} {w : Wd} {scr : Option (Nat × (Nat → Int32))} {Q : Wd → Option PV → Prop} (h : ev d y scr stops Q n pc ls st w) : Go d y scr pc ls st w Q := ev_sound n h
def Fn (d y : Nat) (av : List PV) (w w1 : Wd) (r : Option PV) : Prop := Ctr d y av w (fun w' r' => w' = w1 ∧ r' = r)
theorem bI {c t f : Prop} (h1 : c → t) (h2 : ¬ c → f) : Br c t f := ⟨h1, h2⟩
theorem bT {c t f : Prop} (h : c) (k : t) : Br c t f := ⟨fun _ => k, fun z => absurd h z⟩
theorem bF {c t f : Prop} (h : ¬ c) (k : f) : Br c t f := ⟨fun z => absurd z h, fun _ => k⟩
theorem dI {x : Int32} {n : Nat} {P : Prop} (h : vp_in x n) (k : P) : Bd x n P := ⟨h, k⟩
theorem iC {d d' y : Nat} {av : List PV} {w : Wd} {Q' K : Wd → Option PV → Prop} (hM : Ctr d' y av w Q') (hd : d' < d) (hk : ∀ w' r, Q' w' r → K w' r) : Inv d y av w K := ⟨d', Q', hd, hM, hk⟩
theorem iF {d d' y : Nat} {av : List PV} {w w1 : Wd} {r : Option PV} {K : Wd → Option PV → Prop} (hM : Fn d' y av w w1 r) (hd : d' < d) (hk : K w1 r) : Inv d y av w K := ⟨d', _, hd, hM, fun w' r' h => by rw [h.1, h.2]; exact hk⟩
def bi (c : Prop) [Decidable c] : Int32 := if c then 1 else 0
theorem bi_t {c : Prop} [Decidable c] (h : c) : bi c = 1 := if_pos h
theorem bi_f {c : Prop} [Decidable c] (h : ¬ c) : bi c = 0 := if_neg h
theorem bi_0 {c : Prop} [Decidable c] : bi c = 0 ↔ ¬ c := by
  by_cases h : c
  · rw [bi_t h]; exact ⟨fun z => absurd z (by decide), fun z => absurd h z⟩
  · rw [bi_f h]; exact ⟨fun _ => h, fun _ => rfl⟩
theorem zok_bi {c : Prop} [Decidable c] : zok (bi c) := by
  by_cases h : c
  · rw [bi_t h]; rfl
  · rw [bi_f h]; rfl

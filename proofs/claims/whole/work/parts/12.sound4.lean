section SND4
variable {d y : Nat} {scr : Option (Nat × (Nat → Int32))} {Q : Wd → Option PV → Prop} {p : Program} {l : Launch} {e : Env} {R : Room} {s : State} {m : MethodId} {args : Array Value} {below : List Frame} {meth : Method} {c : Code} {cells slots : Nat} {Qf : State → Prop} {D : va_G} {cI cZ cQ : ClassId} {sa sv : Nat → Nat} {ad : Key → Nat} {ks : List Key} {A : Nat → Prop}
variable {pc : Nat} {ls : Ls} {st : List PV} {w : Wd}
theorem st_0 {u0 : Int32} {a b nx : Nat} {kk : Nat → Ls → List PV → Wd → Prop} (h : (match ls[a]? with
    | some (some v) => (match tyck b v with
      | true => kk nx ls (v :: st) w
      | false => False)
    | _ => False)) (hF : Fr y d p R s m args c cells slots) (hC : Cx D cI cZ cQ sa sv A s) (hX : Sx scr sa A s) (hA : ∀ q, s.heap.size ≤ q → A q) (hfin : (∀ (pc' : Nat) (w' : Wd) (r : Option PV) (H : Heap) (locs : List Loc) (ls' : Array Slot), Wx s D cI cZ cQ sa ad ks A w' H locs → (∀ v, r = some v → vok ks v) → rtk y pc' r → Q w' r → W p l e R s m args below meth c H locs cells slots Qf (F0 m pc' ls' (r.toList.map (conc sa ad))))) (hI : ins y pc = (0, u0, a, b, nx)) (hk : ∀ (pc' : Nat) (ls' : Ls) (st' : List PV) (w' : Wd), kk pc' ls' st' w' → GG y p l e R s m args below meth c cells slots Qf D cI cZ cQ sa ad ks A pc' ls' st' w') : GG y p l e R s m args below meth c cells slots Qf D cI cZ cQ sa ad ks A pc ls st w := by
  split at h
  · rename_i u hl
    split at h
    · rename_i hu
      exact so_0 hF hI hl hu (hk _ _ _ _ h)
    · exact h.elim
  · exact h.elim
theorem st_1 {u0 : Int32} {a f nx : Nat} {kk : Nat → Ls → List PV → Wd → Prop} (h : (match st with
    | .inr (.inr (.inl (b, k, i))) :: t => (match kc b k a with
      | true => kk nx ls (fval w b k i a f :: t) w
      | false => False)
    | _ => False)) (hF : Fr y d p R s m args c cells slots) (hC : Cx D cI cZ cQ sa sv A s) (hX : Sx scr sa A s) (hA : ∀ q, s.heap.size ≤ q → A q) (hfin : (∀ (pc' : Nat) (w' : Wd) (r : Option PV) (H : Heap) (locs : List Loc) (ls' : Array Slot), Wx s D cI cZ cQ sa ad ks A w' H locs → (∀ v, r = some v → vok ks v) → rtk y pc' r → Q w' r → W p l e R s m args below meth c H locs cells slots Qf (F0 m pc' ls' (r.toList.map (conc sa ad))))) (hI : ins y pc = (1, u0, a, f, nx)) (hk : ∀ (pc' : Nat) (ls' : Ls) (st' : List PV) (w' : Wd), kk pc' ls' st' w' → GG y p l e R s m args below meth c cells slots Qf D cI cZ cQ sa ad ks A pc' ls' st' w') : GG y p l e R s m args below meth c cells slots Qf D cI cZ cQ sa ad ks A pc ls st w := by
  split at h
  · split at h
    · rename_i hkc
      exact so_1 hF hC hI hkc (hk _ _ _ _ h)
    · exact h.elim
  · exact h.elim
theorem st_2 {v : Int32} {u1 u2 nx : Nat} {kk : Nat → Ls → List PV → Wd → Prop} (h : kk nx ls (vI v :: st) w) (hF : Fr y d p R s m args c cells slots) (hC : Cx D cI cZ cQ sa sv A s) (hX : Sx scr sa A s) (hA : ∀ q, s.heap.size ≤ q → A q) (hfin : (∀ (pc' : Nat) (w' : Wd) (r : Option PV) (H : Heap) (locs : List Loc) (ls' : Array Slot), Wx s D cI cZ cQ sa ad ks A w' H locs → (∀ v, r = some v → vok ks v) → rtk y pc' r → Q w' r → W p l e R s m args below meth c H locs cells slots Qf (F0 m pc' ls' (r.toList.map (conc sa ad))))) (hI : ins y pc = (2, v, u1, u2, nx)) (hk : ∀ (pc' : Nat) (ls' : Ls) (st' : List PV) (w' : Wd), kk pc' ls' st' w' → GG y p l e R s m args below meth c cells slots Qf D cI cZ cQ sa ad ks A pc' ls' st' w') : GG y p l e R s m args below meth c cells slots Qf D cI cZ cQ sa ad ks A pc ls st w := by
  exact so_2 hF hI (hk _ _ _ _ h)
theorem st_3 {u0 : Int32} {a n nx : Nat} {kk : Nat → Ls → List PV → Wd → Prop} (h : (match popN (n % 8) st [] with
    | some (av, t) => (match rck (n / 8) av && Nat.ble (csum t) 8 with
      | true => Inv d a av w (fun w' r => match r with
        | none => kk nx ls t w'
        | some v => kk nx ls (v :: t) w')
      | false => False)
    | none => False)) (hF : Fr y d p R s m args c cells slots) (hC : Cx D cI cZ cQ sa sv A s) (hX : Sx scr sa A s) (hA : ∀ q, s.heap.size ≤ q → A q) (hfin : (∀ (pc' : Nat) (w' : Wd) (r : Option PV) (H : Heap) (locs : List Loc) (ls' : Array Slot), Wx s D cI cZ cQ sa ad ks A w' H locs → (∀ v, r = some v → vok ks v) → rtk y pc' r → Q w' r → W p l e R s m args below meth c H locs cells slots Qf (F0 m pc' ls' (r.toList.map (conc sa ad))))) (hI : ins y pc = (3, u0, a, n, nx)) (hk : ∀ (pc' : Nat) (ls' : Ls) (st' : List PV) (w' : Wd), kk pc' ls' st' w' → GG y p l e R s m args below meth c cells slots Qf D cI cZ cQ sa ad ks A pc' ls' st' w') : GG y p l e R s m args below meth c cells slots Qf D cI cZ cQ sa ad ks A pc ls st w := by
  split at h
  · rename_i av t hp
    split at h
    · rename_i hb
      obtain ⟨d', Q', hd', hM, hK⟩ := h
      simp only [Bool.and_eq_true] at hb
      exact so_3 hF hC hA hI hp hb.1 (Nat.le_of_ble_eq_true hb.2) hd' hM hK (fun w' z => hk _ _ _ _ z) (fun w' u z => hk _ _ _ _ z)
    · exact h.elim
  · exact h.elim
theorem st_4 {u0 : Int32} {a u2 u3 : Nat} {kk : Nat → Ls → List PV → Wd → Prop} (h : kk a ls st w) (hF : Fr y d p R s m args c cells slots) (hC : Cx D cI cZ cQ sa sv A s) (hX : Sx scr sa A s) (hA : ∀ q, s.heap.size ≤ q → A q) (hfin : (∀ (pc' : Nat) (w' : Wd) (r : Option PV) (H : Heap) (locs : List Loc) (ls' : Array Slot), Wx s D cI cZ cQ sa ad ks A w' H locs → (∀ v, r = some v → vok ks v) → rtk y pc' r → Q w' r → W p l e R s m args below meth c H locs cells slots Qf (F0 m pc' ls' (r.toList.map (conc sa ad))))) (hI : ins y pc = (4, u0, a, u2, u3)) (hk : ∀ (pc' : Nat) (ls' : Ls) (st' : List PV) (w' : Wd), kk pc' ls' st' w' → GG y p l e R s m args below meth c cells slots Qf D cI cZ cQ sa ad ks A pc' ls' st' w') : GG y p l e R s m args below meth c cells slots Qf D cI cZ cQ sa ad ks A pc ls st w := by
  exact so_4 hF hI (hk _ _ _ _ h)
theorem st_5 {u0 : Int32} {u1 u2 u3 : Nat} {kk : Nat → Ls → List PV → Wd → Prop} (h : (match st with
    | [.inl x] => Q w (some (vI x))
    | _ => False)) (hF : Fr y d p R s m args c cells slots) (hC : Cx D cI cZ cQ sa sv A s) (hX : Sx scr sa A s) (hA : ∀ q, s.heap.size ≤ q → A q) (hfin : (∀ (pc' : Nat) (w' : Wd) (r : Option PV) (H : Heap) (locs : List Loc) (ls' : Array Slot), Wx s D cI cZ cQ sa ad ks A w' H locs → (∀ v, r = some v → vok ks v) → rtk y pc' r → Q w' r → W p l e R s m args below meth c H locs cells slots Qf (F0 m pc' ls' (r.toList.map (conc sa ad))))) (hI : ins y pc = (5, u0, u1, u2, u3)) (hk : ∀ (pc' : Nat) (ls' : Ls) (st' : List PV) (w' : Wd), kk pc' ls' st' w' → GG y p l e R s m args below meth c cells slots Qf D cI cZ cQ sa ad ks A pc' ls' st' w') : GG y p l e R s m args below meth c cells slots Qf D cI cZ cQ sa ad ks A pc ls st w := by
  split at h
  · exact so_5 hfin hI h
  · exact h.elim
theorem st_6 {u0 : Int32} {a u2 nx : Nat} {kk : Nat → Ls → List PV → Wd → Prop} (h : (match st with
    | .inl x :: t => Br (x = 0) (kk a ls t w) (kk nx ls t w)
    | _ => False)) (hF : Fr y d p R s m args c cells slots) (hC : Cx D cI cZ cQ sa sv A s) (hX : Sx scr sa A s) (hA : ∀ q, s.heap.size ≤ q → A q) (hfin : (∀ (pc' : Nat) (w' : Wd) (r : Option PV) (H : Heap) (locs : List Loc) (ls' : Array Slot), Wx s D cI cZ cQ sa ad ks A w' H locs → (∀ v, r = some v → vok ks v) → rtk y pc' r → Q w' r → W p l e R s m args below meth c H locs cells slots Qf (F0 m pc' ls' (r.toList.map (conc sa ad))))) (hI : ins y pc = (6, u0, a, u2, nx)) (hk : ∀ (pc' : Nat) (ls' : Ls) (st' : List PV) (w' : Wd), kk pc' ls' st' w' → GG y p l e R s m args below meth c cells slots Qf D cI cZ cQ sa ad ks A pc' ls' st' w') : GG y p l e R s m args below meth c cells slots Qf D cI cZ cQ sa ad ks A pc ls st w := by
  split at h
  · exact so_6 hF hI (fun z => hk _ _ _ _ (h.1 z)) (fun z => hk _ _ _ _ (h.2 z))
  · exact h.elim
theorem st_7 {u0 : Int32} {u1 u2 nx : Nat} {kk : Nat → Ls → List PV → Wd → Prop} (h : (match st with
    | .inl x :: .inr (.inr (.inl (b, k, i))) :: t => (match ki b k with
      | (1, n) => Bd x n (kk nx ls (vI (wA w b k i x.toNatClampNeg) :: t) w)
      | _ => False)
    | .inl x :: .inr (.inr (.inr 99)) :: t => (match scr with
      | some (n, xs) => Bd x n (kk nx ls (vI (xs x.toNatClampNeg) :: t) w)
      | none => False)
    | _ => False)) (hF : Fr y d p R s m args c cells slots) (hC : Cx D cI cZ cQ sa sv A s) (hX : Sx scr sa A s) (hA : ∀ q, s.heap.size ≤ q → A q) (hfin : (∀ (pc' : Nat) (w' : Wd) (r : Option PV) (H : Heap) (locs : List Loc) (ls' : Array Slot), Wx s D cI cZ cQ sa ad ks A w' H locs → (∀ v, r = some v → vok ks v) → rtk y pc' r → Q w' r → W p l e R s m args below meth c H locs cells slots Qf (F0 m pc' ls' (r.toList.map (conc sa ad))))) (hI : ins y pc = (7, u0, u1, u2, nx)) (hk : ∀ (pc' : Nat) (ls' : Ls) (st' : List PV) (w' : Wd), kk pc' ls' st' w' → GG y p l e R s m args below meth c cells slots Qf D cI cZ cQ sa ad ks A pc' ls' st' w') : GG y p l e R s m args below meth c cells slots Qf D cI cZ cQ sa ad ks A pc ls st w := by
  split at h
  · split at h
    · rename_i n hn
      exact so_7 hF hC hI hn h.1 (hk _ _ _ _ h.2)
    · exact h.elim
  · split at h
    · exact so_7s hF hX hI h.1 (hk _ _ _ _ h.2)
    · exact h.elim
  · exact h.elim
theorem st_8 {u0 : Int32} {a f nx : Nat} {kk : Nat → Ls → List PV → Wd → Prop} (h : (match st with
    | v :: .inr (.inr (.inl (b, k, i))) :: t => (match kc b k a with
      | true => (match fk a f, v with
        | (0, _), .inl x => kk nx ls t (sF w b k i f x)
        | (3, c), .inr (.inr (.inl (b', k', i'))) => (match b == b' && Nat.beq c k' with
          | true => kk nx ls t (sR w b k i i')
          | false => False)
        | _, _ => False)
      | false => False)
    | _ => False)) (hF : Fr y d p R s m args c cells slots) (hC : Cx D cI cZ cQ sa sv A s) (hX : Sx scr sa A s) (hA : ∀ q, s.heap.size ≤ q → A q) (hfin : (∀ (pc' : Nat) (w' : Wd) (r : Option PV) (H : Heap) (locs : List Loc) (ls' : Array Slot), Wx s D cI cZ cQ sa ad ks A w' H locs → (∀ v, r = some v → vok ks v) → rtk y pc' r → Q w' r → W p l e R s m args below meth c H locs cells slots Qf (F0 m pc' ls' (r.toList.map (conc sa ad))))) (hI : ins y pc = (8, u0, a, f, nx)) (hk : ∀ (pc' : Nat) (ls' : Ls) (st' : List PV) (w' : Wd), kk pc' ls' st' w' → GG y p l e R s m args below meth c cells slots Qf D cI cZ cQ sa ad ks A pc' ls' st' w') : GG y p l e R s m args below meth c cells slots Qf D cI cZ cQ sa ad ks A pc ls st w := by
  split at h
  · split at h
    · rename_i hkc
      split at h
      · rename_i hs0
        exact so_8i hF hC hI hkc hs0 (hk _ _ _ _ h)
      · rename_i hs0
        split at h
        · rename_i hbb
          simp only [Bool.and_eq_true, beq_iff_eq] at hbb
          obtain ⟨rfl, hb2⟩ := hbb
          obtain rfl := nbeq hb2
          exact so_8r hF hC hI hkc hs0 (hk _ _ _ _ h)
        · exact h.elim
      · exact h.elim
    · exact h.elim
  · exact h.elim
theorem st_9 {u0 : Int32} {u1 u2 nx : Nat} {kk : Nat → Ls → List PV → Wd → Prop} (h : (match st with
    | .inl y :: .inl x :: t => kk nx ls (vI (x + y) :: t) w
    | _ => False)) (hF : Fr y d p R s m args c cells slots) (hC : Cx D cI cZ cQ sa sv A s) (hX : Sx scr sa A s) (hA : ∀ q, s.heap.size ≤ q → A q) (hfin : (∀ (pc' : Nat) (w' : Wd) (r : Option PV) (H : Heap) (locs : List Loc) (ls' : Array Slot), Wx s D cI cZ cQ sa ad ks A w' H locs → (∀ v, r = some v → vok ks v) → rtk y pc' r → Q w' r → W p l e R s m args below meth c H locs cells slots Qf (F0 m pc' ls' (r.toList.map (conc sa ad))))) (hI : ins y pc = (9, u0, u1, u2, nx)) (hk : ∀ (pc' : Nat) (ls' : Ls) (st' : List PV) (w' : Wd), kk pc' ls' st' w' → GG y p l e R s m args below meth c cells slots Qf D cI cZ cQ sa ad ks A pc' ls' st' w') : GG y p l e R s m args below meth c cells slots Qf D cI cZ cQ sa ad ks A pc ls st w := by
  split at h
  · exact so_9 hF hI (hk _ _ _ _ h)
  · exact h.elim
theorem st_10 {u0 : Int32} {a b nx : Nat} {kk : Nat → Ls → List PV → Wd → Prop} (h : (match st with
    | v :: t => (match tyck b v && (lck ls a && Nat.blt b 2) with
      | true => kk nx (ls.set a (some v)) t w
      | false => False)
    | _ => False)) (hF : Fr y d p R s m args c cells slots) (hC : Cx D cI cZ cQ sa sv A s) (hX : Sx scr sa A s) (hA : ∀ q, s.heap.size ≤ q → A q) (hfin : (∀ (pc' : Nat) (w' : Wd) (r : Option PV) (H : Heap) (locs : List Loc) (ls' : Array Slot), Wx s D cI cZ cQ sa ad ks A w' H locs → (∀ v, r = some v → vok ks v) → rtk y pc' r → Q w' r → W p l e R s m args below meth c H locs cells slots Qf (F0 m pc' ls' (r.toList.map (conc sa ad))))) (hI : ins y pc = (10, u0, a, b, nx)) (hk : ∀ (pc' : Nat) (ls' : Ls) (st' : List PV) (w' : Wd), kk pc' ls' st' w' → GG y p l e R s m args below meth c cells slots Qf D cI cZ cQ sa ad ks A pc' ls' st' w') : GG y p l e R s m args below meth c cells slots Qf D cI cZ cQ sa ad ks A pc ls st w := by
  split at h
  · split at h
    · rename_i hb
      simp only [Bool.and_eq_true] at hb
      exact so_10 hF hI hb.1 hb.2.1 (hk _ _ _ _ h)
    · exact h.elim
  · exact h.elim
theorem st_11 {u0 : Int32} {a u2 nx : Nat} {kk : Nat → Ls → List PV → Wd → Prop} (h : (match st with
    | .inl x :: t => Br (x = 0) (kk nx ls t w) (kk a ls t w)
    | _ => False)) (hF : Fr y d p R s m args c cells slots) (hC : Cx D cI cZ cQ sa sv A s) (hX : Sx scr sa A s) (hA : ∀ q, s.heap.size ≤ q → A q) (hfin : (∀ (pc' : Nat) (w' : Wd) (r : Option PV) (H : Heap) (locs : List Loc) (ls' : Array Slot), Wx s D cI cZ cQ sa ad ks A w' H locs → (∀ v, r = some v → vok ks v) → rtk y pc' r → Q w' r → W p l e R s m args below meth c H locs cells slots Qf (F0 m pc' ls' (r.toList.map (conc sa ad))))) (hI : ins y pc = (11, u0, a, u2, nx)) (hk : ∀ (pc' : Nat) (ls' : Ls) (st' : List PV) (w' : Wd), kk pc' ls' st' w' → GG y p l e R s m args below meth c cells slots Qf D cI cZ cQ sa ad ks A pc' ls' st' w') : GG y p l e R s m args below meth c cells slots Qf D cI cZ cQ sa ad ks A pc ls st w := by
  split at h
  · exact so_11 hF hI (fun z => hk _ _ _ _ (h.1 z)) (fun z => hk _ _ _ _ (h.2 z))
  · exact h.elim
theorem st_12 {u0 : Int32} {a u2 nx : Nat} {kk : Nat → Ls → List PV → Wd → Prop} (h : (match st with
    | .inl y :: .inl x :: t => Br (y ≤ x) (kk a ls t w) (kk nx ls t w)
    | _ => False)) (hF : Fr y d p R s m args c cells slots) (hC : Cx D cI cZ cQ sa sv A s) (hX : Sx scr sa A s) (hA : ∀ q, s.heap.size ≤ q → A q) (hfin : (∀ (pc' : Nat) (w' : Wd) (r : Option PV) (H : Heap) (locs : List Loc) (ls' : Array Slot), Wx s D cI cZ cQ sa ad ks A w' H locs → (∀ v, r = some v → vok ks v) → rtk y pc' r → Q w' r → W p l e R s m args below meth c H locs cells slots Qf (F0 m pc' ls' (r.toList.map (conc sa ad))))) (hI : ins y pc = (12, u0, a, u2, nx)) (hk : ∀ (pc' : Nat) (ls' : Ls) (st' : List PV) (w' : Wd), kk pc' ls' st' w' → GG y p l e R s m args below meth c cells slots Qf D cI cZ cQ sa ad ks A pc' ls' st' w') : GG y p l e R s m args below meth c cells slots Qf D cI cZ cQ sa ad ks A pc ls st w := by
  split at h
  · exact so_12 hF hI (fun z => hk _ _ _ _ (h.1 z)) (fun z => hk _ _ _ _ (h.2 z))
  · exact h.elim
theorem st_13 {v : Int32} {a u2 nx : Nat} {kk : Nat → Ls → List PV → Wd → Prop} (h : (match ls[a]? with
    | some (some (.inl x)) => (match lck ls a with
      | true => kk nx (ls.set a (some (vI (x + v)))) st w
      | false => False)
    | _ => False)) (hF : Fr y d p R s m args c cells slots) (hC : Cx D cI cZ cQ sa sv A s) (hX : Sx scr sa A s) (hA : ∀ q, s.heap.size ≤ q → A q) (hfin : (∀ (pc' : Nat) (w' : Wd) (r : Option PV) (H : Heap) (locs : List Loc) (ls' : Array Slot), Wx s D cI cZ cQ sa ad ks A w' H locs → (∀ v, r = some v → vok ks v) → rtk y pc' r → Q w' r → W p l e R s m args below meth c H locs cells slots Qf (F0 m pc' ls' (r.toList.map (conc sa ad))))) (hI : ins y pc = (13, v, a, u2, nx)) (hk : ∀ (pc' : Nat) (ls' : Ls) (st' : List PV) (w' : Wd), kk pc' ls' st' w' → GG y p l e R s m args below meth c cells slots Qf D cI cZ cQ sa ad ks A pc' ls' st' w') : GG y p l e R s m args below meth c cells slots Qf D cI cZ cQ sa ad ks A pc ls st w := by
  split at h
  · rename_i hl
    split at h
    · rename_i hkk
      exact so_13 hF hI hl hkk (hk _ _ _ _ h)
    · exact h.elim
  · exact h.elim
theorem st_14 {u0 : Int32} {a u2 nx : Nat} {kk : Nat → Ls → List PV → Wd → Prop} (h : (match st with
    | .inl y :: .inl x :: t => Br (x = y) (kk nx ls t w) (kk a ls t w)
    | _ => False)) (hF : Fr y d p R s m args c cells slots) (hC : Cx D cI cZ cQ sa sv A s) (hX : Sx scr sa A s) (hA : ∀ q, s.heap.size ≤ q → A q) (hfin : (∀ (pc' : Nat) (w' : Wd) (r : Option PV) (H : Heap) (locs : List Loc) (ls' : Array Slot), Wx s D cI cZ cQ sa ad ks A w' H locs → (∀ v, r = some v → vok ks v) → rtk y pc' r → Q w' r → W p l e R s m args below meth c H locs cells slots Qf (F0 m pc' ls' (r.toList.map (conc sa ad))))) (hI : ins y pc = (14, u0, a, u2, nx)) (hk : ∀ (pc' : Nat) (ls' : Ls) (st' : List PV) (w' : Wd), kk pc' ls' st' w' → GG y p l e R s m args below meth c cells slots Qf D cI cZ cQ sa ad ks A pc' ls' st' w') : GG y p l e R s m args below meth c cells slots Qf D cI cZ cQ sa ad ks A pc ls st w := by
  split at h
  · exact so_14 hF hI (fun z => hk _ _ _ _ (h.1 z)) (fun z => hk _ _ _ _ (h.2 z))
  · exact h.elim
theorem st_15 {u0 : Int32} {a u2 nx : Nat} {kk : Nat → Ls → List PV → Wd → Prop} (h : (match st with
    | .inl y :: .inl x :: t => Br (x = y) (kk a ls t w) (kk nx ls t w)
    | _ => False)) (hF : Fr y d p R s m args c cells slots) (hC : Cx D cI cZ cQ sa sv A s) (hX : Sx scr sa A s) (hA : ∀ q, s.heap.size ≤ q → A q) (hfin : (∀ (pc' : Nat) (w' : Wd) (r : Option PV) (H : Heap) (locs : List Loc) (ls' : Array Slot), Wx s D cI cZ cQ sa ad ks A w' H locs → (∀ v, r = some v → vok ks v) → rtk y pc' r → Q w' r → W p l e R s m args below meth c H locs cells slots Qf (F0 m pc' ls' (r.toList.map (conc sa ad))))) (hI : ins y pc = (15, u0, a, u2, nx)) (hk : ∀ (pc' : Nat) (ls' : Ls) (st' : List PV) (w' : Wd), kk pc' ls' st' w' → GG y p l e R s m args below meth c cells slots Qf D cI cZ cQ sa ad ks A pc' ls' st' w') : GG y p l e R s m args below meth c cells slots Qf D cI cZ cQ sa ad ks A pc ls st w := by
  split at h
  · exact so_15 hF hI (fun z => hk _ _ _ _ (h.1 z)) (fun z => hk _ _ _ _ (h.2 z))
  · exact h.elim
theorem st_16 {u0 : Int32} {u1 u2 nx : Nat} {kk : Nat → Ls → List PV → Wd → Prop} (h : (match st with
    | .inl v :: .inl x :: .inr (.inr (.inl (b, k, i))) :: t => (match ki b k with
      | (1, n) => Bd x n (kk nx ls t (sA w b k i x.toNatClampNeg v))
      | _ => False)
    | _ => False)) (hF : Fr y d p R s m args c cells slots) (hC : Cx D cI cZ cQ sa sv A s) (hX : Sx scr sa A s) (hA : ∀ q, s.heap.size ≤ q → A q) (hfin : (∀ (pc' : Nat) (w' : Wd) (r : Option PV) (H : Heap) (locs : List Loc) (ls' : Array Slot), Wx s D cI cZ cQ sa ad ks A w' H locs → (∀ v, r = some v → vok ks v) → rtk y pc' r → Q w' r → W p l e R s m args below meth c H locs cells slots Qf (F0 m pc' ls' (r.toList.map (conc sa ad))))) (hI : ins y pc = (16, u0, u1, u2, nx)) (hk : ∀ (pc' : Nat) (ls' : Ls) (st' : List PV) (w' : Wd), kk pc' ls' st' w' → GG y p l e R s m args below meth c cells slots Qf D cI cZ cQ sa ad ks A pc' ls' st' w') : GG y p l e R s m args below meth c cells slots Qf D cI cZ cQ sa ad ks A pc ls st w := by
  split at h
  · split at h
    · rename_i n hn
      exact so_16 hF hC hI hn h.1 (hk _ _ _ _ h.2)
    · exact h.elim
  · exact h.elim
theorem st_17 {u0 : Int32} {u1 u2 nx : Nat} {kk : Nat → Ls → List PV → Wd → Prop} (h : (match st with
    | .inl y :: .inl x :: t => kk nx ls (vI (x - y) :: t) w
    | _ => False)) (hF : Fr y d p R s m args c cells slots) (hC : Cx D cI cZ cQ sa sv A s) (hX : Sx scr sa A s) (hA : ∀ q, s.heap.size ≤ q → A q) (hfin : (∀ (pc' : Nat) (w' : Wd) (r : Option PV) (H : Heap) (locs : List Loc) (ls' : Array Slot), Wx s D cI cZ cQ sa ad ks A w' H locs → (∀ v, r = some v → vok ks v) → rtk y pc' r → Q w' r → W p l e R s m args below meth c H locs cells slots Qf (F0 m pc' ls' (r.toList.map (conc sa ad))))) (hI : ins y pc = (17, u0, u1, u2, nx)) (hk : ∀ (pc' : Nat) (ls' : Ls) (st' : List PV) (w' : Wd), kk pc' ls' st' w' → GG y p l e R s m args below meth c cells slots Qf D cI cZ cQ sa ad ks A pc' ls' st' w') : GG y p l e R s m args below meth c cells slots Qf D cI cZ cQ sa ad ks A pc ls st w := by
  split at h
  · exact so_17 hF hI (hk _ _ _ _ h)
  · exact h.elim
theorem st_18 {u0 : Int32} {u1 u2 nx : Nat} {kk : Nat → Ls → List PV → Wd → Prop} (h : (match st with
    | .inl y :: .inl x :: t => kk nx ls (vI (x * y) :: t) w
    | _ => False)) (hF : Fr y d p R s m args c cells slots) (hC : Cx D cI cZ cQ sa sv A s) (hX : Sx scr sa A s) (hA : ∀ q, s.heap.size ≤ q → A q) (hfin : (∀ (pc' : Nat) (w' : Wd) (r : Option PV) (H : Heap) (locs : List Loc) (ls' : Array Slot), Wx s D cI cZ cQ sa ad ks A w' H locs → (∀ v, r = some v → vok ks v) → rtk y pc' r → Q w' r → W p l e R s m args below meth c H locs cells slots Qf (F0 m pc' ls' (r.toList.map (conc sa ad))))) (hI : ins y pc = (18, u0, u1, u2, nx)) (hk : ∀ (pc' : Nat) (ls' : Ls) (st' : List PV) (w' : Wd), kk pc' ls' st' w' → GG y p l e R s m args below meth c cells slots Qf D cI cZ cQ sa ad ks A pc' ls' st' w') : GG y p l e R s m args below meth c cells slots Qf D cI cZ cQ sa ad ks A pc ls st w := by
  split at h
  · exact so_18 hF hI (hk _ _ _ _ h)
  · exact h.elim
theorem st_19 {u0 : Int32} {u1 u2 u3 : Nat} {kk : Nat → Ls → List PV → Wd → Prop} (h : (match st with
    | [] => Q w none
    | _ => False)) (hF : Fr y d p R s m args c cells slots) (hC : Cx D cI cZ cQ sa sv A s) (hX : Sx scr sa A s) (hA : ∀ q, s.heap.size ≤ q → A q) (hfin : (∀ (pc' : Nat) (w' : Wd) (r : Option PV) (H : Heap) (locs : List Loc) (ls' : Array Slot), Wx s D cI cZ cQ sa ad ks A w' H locs → (∀ v, r = some v → vok ks v) → rtk y pc' r → Q w' r → W p l e R s m args below meth c H locs cells slots Qf (F0 m pc' ls' (r.toList.map (conc sa ad))))) (hI : ins y pc = (19, u0, u1, u2, u3)) (hk : ∀ (pc' : Nat) (ls' : Ls) (st' : List PV) (w' : Wd), kk pc' ls' st' w' → GG y p l e R s m args below meth c cells slots Qf D cI cZ cQ sa ad ks A pc' ls' st' w') : GG y p l e R s m args below meth c cells slots Qf D cI cZ cQ sa ad ks A pc ls st w := by
  split at h
  · exact so_19 hfin hI h
  · exact h.elim
theorem st_20 {u0 : Int32} {u1 u2 nx : Nat} {kk : Nat → Ls → List PV → Wd → Prop} (h : (match st with
    | v :: t => (match v with
      | .inr (.inl _) => False
      | _ => kk nx ls (v :: v :: t) w)
    | _ => False)) (hF : Fr y d p R s m args c cells slots) (hC : Cx D cI cZ cQ sa sv A s) (hX : Sx scr sa A s) (hA : ∀ q, s.heap.size ≤ q → A q) (hfin : (∀ (pc' : Nat) (w' : Wd) (r : Option PV) (H : Heap) (locs : List Loc) (ls' : Array Slot), Wx s D cI cZ cQ sa ad ks A w' H locs → (∀ v, r = some v → vok ks v) → rtk y pc' r → Q w' r → W p l e R s m args below meth c H locs cells slots Qf (F0 m pc' ls' (r.toList.map (conc sa ad))))) (hI : ins y pc = (20, u0, u1, u2, nx)) (hk : ∀ (pc' : Nat) (ls' : Ls) (st' : List PV) (w' : Wd), kk pc' ls' st' w' → GG y p l e R s m args below meth c cells slots Qf D cI cZ cQ sa ad ks A pc' ls' st' w') : GG y p l e R s m args below meth c cells slots Qf D cI cZ cQ sa ad ks A pc ls st w := by
  split at h
  · split at h
    · exact h.elim
    · rename_i hne
      exact so_20 hF hI (fun z => by obtain ⟨x, hx⟩ := z; exact hne x hx) (hk _ _ _ _ h)
  · exact h.elim
theorem st_21 {u0 : Int32} {u1 u2 nx : Nat} {kk : Nat → Ls → List PV → Wd → Prop} (h : (match st with
    | .inl x :: t => kk nx ls (vL x.toInt64 :: t) w
    | _ => False)) (hF : Fr y d p R s m args c cells slots) (hC : Cx D cI cZ cQ sa sv A s) (hX : Sx scr sa A s) (hA : ∀ q, s.heap.size ≤ q → A q) (hfin : (∀ (pc' : Nat) (w' : Wd) (r : Option PV) (H : Heap) (locs : List Loc) (ls' : Array Slot), Wx s D cI cZ cQ sa ad ks A w' H locs → (∀ v, r = some v → vok ks v) → rtk y pc' r → Q w' r → W p l e R s m args below meth c H locs cells slots Qf (F0 m pc' ls' (r.toList.map (conc sa ad))))) (hI : ins y pc = (21, u0, u1, u2, nx)) (hk : ∀ (pc' : Nat) (ls' : Ls) (st' : List PV) (w' : Wd), kk pc' ls' st' w' → GG y p l e R s m args below meth c cells slots Qf D cI cZ cQ sa ad ks A pc' ls' st' w') : GG y p l e R s m args below meth c cells slots Qf D cI cZ cQ sa ad ks A pc ls st w := by
  split at h
  · exact so_21 hF hI (hk _ _ _ _ h)
  · exact h.elim
theorem st_22 {u0 : Int32} {a u2 nx : Nat} {kk : Nat → Ls → List PV → Wd → Prop} (h : (match st with
    | .inl y :: .inl x :: t => Br (x < y) (kk a ls t w) (kk nx ls t w)
    | _ => False)) (hF : Fr y d p R s m args c cells slots) (hC : Cx D cI cZ cQ sa sv A s) (hX : Sx scr sa A s) (hA : ∀ q, s.heap.size ≤ q → A q) (hfin : (∀ (pc' : Nat) (w' : Wd) (r : Option PV) (H : Heap) (locs : List Loc) (ls' : Array Slot), Wx s D cI cZ cQ sa ad ks A w' H locs → (∀ v, r = some v → vok ks v) → rtk y pc' r → Q w' r → W p l e R s m args below meth c H locs cells slots Qf (F0 m pc' ls' (r.toList.map (conc sa ad))))) (hI : ins y pc = (22, u0, a, u2, nx)) (hk : ∀ (pc' : Nat) (ls' : Ls) (st' : List PV) (w' : Wd), kk pc' ls' st' w' → GG y p l e R s m args below meth c cells slots Qf D cI cZ cQ sa ad ks A pc' ls' st' w') : GG y p l e R s m args below meth c cells slots Qf D cI cZ cQ sa ad ks A pc ls st w := by
  split at h
  · exact so_22 hF hI (fun z => hk _ _ _ _ (h.1 z)) (fun z => hk _ _ _ _ (h.2 z))
  · exact h.elim
theorem st_23 {u0 : Int32} {u1 u2 nx : Nat} {kk : Nat → Ls → List PV → Wd → Prop} (h : (match st with
    | .inl y :: .inl x :: t => kk nx ls (vI (x <<< (y &&& 31)) :: t) w
    | _ => False)) (hF : Fr y d p R s m args c cells slots) (hC : Cx D cI cZ cQ sa sv A s) (hX : Sx scr sa A s) (hA : ∀ q, s.heap.size ≤ q → A q) (hfin : (∀ (pc' : Nat) (w' : Wd) (r : Option PV) (H : Heap) (locs : List Loc) (ls' : Array Slot), Wx s D cI cZ cQ sa ad ks A w' H locs → (∀ v, r = some v → vok ks v) → rtk y pc' r → Q w' r → W p l e R s m args below meth c H locs cells slots Qf (F0 m pc' ls' (r.toList.map (conc sa ad))))) (hI : ins y pc = (23, u0, u1, u2, nx)) (hk : ∀ (pc' : Nat) (ls' : Ls) (st' : List PV) (w' : Wd), kk pc' ls' st' w' → GG y p l e R s m args below meth c cells slots Qf D cI cZ cQ sa ad ks A pc' ls' st' w') : GG y p l e R s m args below meth c cells slots Qf D cI cZ cQ sa ad ks A pc ls st w := by
  split at h
  · exact so_23 hF hI (hk _ _ _ _ h)
  · exact h.elim
theorem st_24 {v : Int32} {a u2 nx : Nat} {kk : Nat → Ls → List PV → Wd → Prop} (h : kk nx ls (vL (lcv v a) :: st) w) (hF : Fr y d p R s m args c cells slots) (hC : Cx D cI cZ cQ sa sv A s) (hX : Sx scr sa A s) (hA : ∀ q, s.heap.size ≤ q → A q) (hfin : (∀ (pc' : Nat) (w' : Wd) (r : Option PV) (H : Heap) (locs : List Loc) (ls' : Array Slot), Wx s D cI cZ cQ sa ad ks A w' H locs → (∀ v, r = some v → vok ks v) → rtk y pc' r → Q w' r → W p l e R s m args below meth c H locs cells slots Qf (F0 m pc' ls' (r.toList.map (conc sa ad))))) (hI : ins y pc = (24, v, a, u2, nx)) (hk : ∀ (pc' : Nat) (ls' : Ls) (st' : List PV) (w' : Wd), kk pc' ls' st' w' → GG y p l e R s m args below meth c cells slots Qf D cI cZ cQ sa ad ks A pc' ls' st' w') : GG y p l e R s m args below meth c cells slots Qf D cI cZ cQ sa ad ks A pc ls st w := by
  exact so_24 hF hI (hk _ _ _ _ h)
theorem st_25 {u0 : Int32} {u1 u2 nx : Nat} {kk : Nat → Ls → List PV → Wd → Prop} (h : (match st with
    | .inl y :: .inl x :: t => kk nx ls (vI (x &&& y) :: t) w
    | _ => False)) (hF : Fr y d p R s m args c cells slots) (hC : Cx D cI cZ cQ sa sv A s) (hX : Sx scr sa A s) (hA : ∀ q, s.heap.size ≤ q → A q) (hfin : (∀ (pc' : Nat) (w' : Wd) (r : Option PV) (H : Heap) (locs : List Loc) (ls' : Array Slot), Wx s D cI cZ cQ sa ad ks A w' H locs → (∀ v, r = some v → vok ks v) → rtk y pc' r → Q w' r → W p l e R s m args below meth c H locs cells slots Qf (F0 m pc' ls' (r.toList.map (conc sa ad))))) (hI : ins y pc = (25, u0, u1, u2, nx)) (hk : ∀ (pc' : Nat) (ls' : Ls) (st' : List PV) (w' : Wd), kk pc' ls' st' w' → GG y p l e R s m args below meth c cells slots Qf D cI cZ cQ sa ad ks A pc' ls' st' w') : GG y p l e R s m args below meth c cells slots Qf D cI cZ cQ sa ad ks A pc ls st w := by
  split at h
  · exact so_25 hF hI (hk _ _ _ _ h)
  · exact h.elim
theorem st_26 {u0 : Int32} {a u2 nx : Nat} {kk : Nat → Ls → List PV → Wd → Prop} (h : kk nx ls (vS a :: st) w) (hF : Fr y d p R s m args c cells slots) (hC : Cx D cI cZ cQ sa sv A s) (hX : Sx scr sa A s) (hA : ∀ q, s.heap.size ≤ q → A q) (hfin : (∀ (pc' : Nat) (w' : Wd) (r : Option PV) (H : Heap) (locs : List Loc) (ls' : Array Slot), Wx s D cI cZ cQ sa ad ks A w' H locs → (∀ v, r = some v → vok ks v) → rtk y pc' r → Q w' r → W p l e R s m args below meth c H locs cells slots Qf (F0 m pc' ls' (r.toList.map (conc sa ad))))) (hI : ins y pc = (26, u0, a, u2, nx)) (hk : ∀ (pc' : Nat) (ls' : Ls) (st' : List PV) (w' : Wd), kk pc' ls' st' w' → GG y p l e R s m args below meth c cells slots Qf D cI cZ cQ sa ad ks A pc' ls' st' w') : GG y p l e R s m args below meth c cells slots Qf D cI cZ cQ sa ad ks A pc ls st w := by
  exact so_26 hF hC hI (hk _ _ _ _ h)
theorem st_27 {u0 : Int32} {a u2 nx : Nat} {kk : Nat → Ls → List PV → Wd → Prop} (h : (match st with
    | .inl y :: .inl x :: t => Br (y < x) (kk a ls t w) (kk nx ls t w)
    | _ => False)) (hF : Fr y d p R s m args c cells slots) (hC : Cx D cI cZ cQ sa sv A s) (hX : Sx scr sa A s) (hA : ∀ q, s.heap.size ≤ q → A q) (hfin : (∀ (pc' : Nat) (w' : Wd) (r : Option PV) (H : Heap) (locs : List Loc) (ls' : Array Slot), Wx s D cI cZ cQ sa ad ks A w' H locs → (∀ v, r = some v → vok ks v) → rtk y pc' r → Q w' r → W p l e R s m args below meth c H locs cells slots Qf (F0 m pc' ls' (r.toList.map (conc sa ad))))) (hI : ins y pc = (27, u0, a, u2, nx)) (hk : ∀ (pc' : Nat) (ls' : Ls) (st' : List PV) (w' : Wd), kk pc' ls' st' w' → GG y p l e R s m args below meth c cells slots Qf D cI cZ cQ sa ad ks A pc' ls' st' w') : GG y p l e R s m args below meth c cells slots Qf D cI cZ cQ sa ad ks A pc ls st w := by
  split at h
  · exact so_27 hF hI (fun z => hk _ _ _ _ (h.1 z)) (fun z => hk _ _ _ _ (h.2 z))
  · exact h.elim
theorem st_28 {u0 : Int32} {u1 u2 nx : Nat} {kk : Nat → Ls → List PV → Wd → Prop} (h : (match st with
    | .inl x :: .inr (.inr (.inl (b, k, _))) :: t => (match ki b k with
      | (3, n) => Bd x n (kk nx ls (vR false 9 x.toNatClampNeg :: t) w)
      | _ => False)
    | _ => False)) (hF : Fr y d p R s m args c cells slots) (hC : Cx D cI cZ cQ sa sv A s) (hX : Sx scr sa A s) (hA : ∀ q, s.heap.size ≤ q → A q) (hfin : (∀ (pc' : Nat) (w' : Wd) (r : Option PV) (H : Heap) (locs : List Loc) (ls' : Array Slot), Wx s D cI cZ cQ sa ad ks A w' H locs → (∀ v, r = some v → vok ks v) → rtk y pc' r → Q w' r → W p l e R s m args below meth c H locs cells slots Qf (F0 m pc' ls' (r.toList.map (conc sa ad))))) (hI : ins y pc = (28, u0, u1, u2, nx)) (hk : ∀ (pc' : Nat) (ls' : Ls) (st' : List PV) (w' : Wd), kk pc' ls' st' w' → GG y p l e R s m args below meth c cells slots Qf D cI cZ cQ sa ad ks A pc' ls' st' w') : GG y p l e R s m args below meth c cells slots Qf D cI cZ cQ sa ad ks A pc ls st w := by
  split at h
  · split at h
    · rename_i n hn
      exact so_28 hF hC hI hn h.1 (hk _ _ _ _ h.2)
    · exact h.elim
  · exact h.elim
theorem st_29 {u0 : Int32} {a u2 nx : Nat} {kk : Nat → Ls → List PV → Wd → Prop} (h : (match st with
    | .inl y :: .inl x :: t => Br (x ≤ y) (kk a ls t w) (kk nx ls t w)
    | _ => False)) (hF : Fr y d p R s m args c cells slots) (hC : Cx D cI cZ cQ sa sv A s) (hX : Sx scr sa A s) (hA : ∀ q, s.heap.size ≤ q → A q) (hfin : (∀ (pc' : Nat) (w' : Wd) (r : Option PV) (H : Heap) (locs : List Loc) (ls' : Array Slot), Wx s D cI cZ cQ sa ad ks A w' H locs → (∀ v, r = some v → vok ks v) → rtk y pc' r → Q w' r → W p l e R s m args below meth c H locs cells slots Qf (F0 m pc' ls' (r.toList.map (conc sa ad))))) (hI : ins y pc = (29, u0, a, u2, nx)) (hk : ∀ (pc' : Nat) (ls' : Ls) (st' : List PV) (w' : Wd), kk pc' ls' st' w' → GG y p l e R s m args below meth c cells slots Qf D cI cZ cQ sa ad ks A pc' ls' st' w') : GG y p l e R s m args below meth c cells slots Qf D cI cZ cQ sa ad ks A pc ls st w := by
  split at h
  · exact so_29 hF hI (fun z => hk _ _ _ _ (h.1 z)) (fun z => hk _ _ _ _ (h.2 z))
  · exact h.elim
theorem st_30 {u0 : Int32} {u1 u2 nx : Nat} {kk : Nat → Ls → List PV → Wd → Prop} (h : (match st with
    | .inl y :: .inl x :: t => kk nx ls (vI (x >>> (y &&& 31)) :: t) w
    | _ => False)) (hF : Fr y d p R s m args c cells slots) (hC : Cx D cI cZ cQ sa sv A s) (hX : Sx scr sa A s) (hA : ∀ q, s.heap.size ≤ q → A q) (hfin : (∀ (pc' : Nat) (w' : Wd) (r : Option PV) (H : Heap) (locs : List Loc) (ls' : Array Slot), Wx s D cI cZ cQ sa ad ks A w' H locs → (∀ v, r = some v → vok ks v) → rtk y pc' r → Q w' r → W p l e R s m args below meth c H locs cells slots Qf (F0 m pc' ls' (r.toList.map (conc sa ad))))) (hI : ins y pc = (30, u0, u1, u2, nx)) (hk : ∀ (pc' : Nat) (ls' : Ls) (st' : List PV) (w' : Wd), kk pc' ls' st' w' → GG y p l e R s m args below meth c cells slots Qf D cI cZ cQ sa ad ks A pc' ls' st' w') : GG y p l e R s m args below meth c cells slots Qf D cI cZ cQ sa ad ks A pc ls st w := by
  split at h
  · exact so_30 hF hI (hk _ _ _ _ h)
  · exact h.elim
theorem st_31 {u0 : Int32} {a u2 nx : Nat} {kk : Nat → Ls → List PV → Wd → Prop} (h : (match st with
    | .inl x :: t => Br (x ≤ 0) (kk a ls t w) (kk nx ls t w)
    | _ => False)) (hF : Fr y d p R s m args c cells slots) (hC : Cx D cI cZ cQ sa sv A s) (hX : Sx scr sa A s) (hA : ∀ q, s.heap.size ≤ q → A q) (hfin : (∀ (pc' : Nat) (w' : Wd) (r : Option PV) (H : Heap) (locs : List Loc) (ls' : Array Slot), Wx s D cI cZ cQ sa ad ks A w' H locs → (∀ v, r = some v → vok ks v) → rtk y pc' r → Q w' r → W p l e R s m args below meth c H locs cells slots Qf (F0 m pc' ls' (r.toList.map (conc sa ad))))) (hI : ins y pc = (31, u0, a, u2, nx)) (hk : ∀ (pc' : Nat) (ls' : Ls) (st' : List PV) (w' : Wd), kk pc' ls' st' w' → GG y p l e R s m args below meth c cells slots Qf D cI cZ cQ sa ad ks A pc' ls' st' w') : GG y p l e R s m args below meth c cells slots Qf D cI cZ cQ sa ad ks A pc ls st w := by
  split at h
  · exact so_31 hF hI (fun z => hk _ _ _ _ (h.1 z)) (fun z => hk _ _ _ _ (h.2 z))
  · exact h.elim
theorem st_32 {u0 : Int32} {a u2 nx : Nat} {kk : Nat → Ls → List PV → Wd → Prop} (h : (match st with
    | .inl x :: t => Br (0 ≤ x) (kk a ls t w) (kk nx ls t w)
    | _ => False)) (hF : Fr y d p R s m args c cells slots) (hC : Cx D cI cZ cQ sa sv A s) (hX : Sx scr sa A s) (hA : ∀ q, s.heap.size ≤ q → A q) (hfin : (∀ (pc' : Nat) (w' : Wd) (r : Option PV) (H : Heap) (locs : List Loc) (ls' : Array Slot), Wx s D cI cZ cQ sa ad ks A w' H locs → (∀ v, r = some v → vok ks v) → rtk y pc' r → Q w' r → W p l e R s m args below meth c H locs cells slots Qf (F0 m pc' ls' (r.toList.map (conc sa ad))))) (hI : ins y pc = (32, u0, a, u2, nx)) (hk : ∀ (pc' : Nat) (ls' : Ls) (st' : List PV) (w' : Wd), kk pc' ls' st' w' → GG y p l e R s m args below meth c cells slots Qf D cI cZ cQ sa ad ks A pc' ls' st' w') : GG y p l e R s m args below meth c cells slots Qf D cI cZ cQ sa ad ks A pc ls st w := by
  split at h
  · exact so_32 hF hI (fun z => hk _ _ _ _ (h.1 z)) (fun z => hk _ _ _ _ (h.2 z))
  · exact h.elim
theorem st_33 {u0 : Int32} {u1 u2 nx : Nat} {kk : Nat → Ls → List PV → Wd → Prop} (h : (match st with
    | .inl y :: .inl x :: t => kk nx ls (vI (x ||| y) :: t) w
    | _ => False)) (hF : Fr y d p R s m args c cells slots) (hC : Cx D cI cZ cQ sa sv A s) (hX : Sx scr sa A s) (hA : ∀ q, s.heap.size ≤ q → A q) (hfin : (∀ (pc' : Nat) (w' : Wd) (r : Option PV) (H : Heap) (locs : List Loc) (ls' : Array Slot), Wx s D cI cZ cQ sa ad ks A w' H locs → (∀ v, r = some v → vok ks v) → rtk y pc' r → Q w' r → W p l e R s m args below meth c H locs cells slots Qf (F0 m pc' ls' (r.toList.map (conc sa ad))))) (hI : ins y pc = (33, u0, u1, u2, nx)) (hk : ∀ (pc' : Nat) (ls' : Ls) (st' : List PV) (w' : Wd), kk pc' ls' st' w' → GG y p l e R s m args below meth c cells slots Qf D cI cZ cQ sa ad ks A pc' ls' st' w') : GG y p l e R s m args below meth c cells slots Qf D cI cZ cQ sa ad ks A pc ls st w := by
  split at h
  · exact so_33 hF hI (hk _ _ _ _ h)
  · exact h.elim
theorem st_34 {u0 : Int32} {u1 u2 nx : Nat} {kk : Nat → Ls → List PV → Wd → Prop} (h : (match st with
    | .inl v :: .inl x :: .inr (.inr (.inl (b, k, i))) :: t => (match ki b k with
      | (2, n) => Bd x n (kk nx ls t (sA w b k i x.toNatClampNeg (vp_nar .boolean v)))
      | _ => False)
    | _ => False)) (hF : Fr y d p R s m args c cells slots) (hC : Cx D cI cZ cQ sa sv A s) (hX : Sx scr sa A s) (hA : ∀ q, s.heap.size ≤ q → A q) (hfin : (∀ (pc' : Nat) (w' : Wd) (r : Option PV) (H : Heap) (locs : List Loc) (ls' : Array Slot), Wx s D cI cZ cQ sa ad ks A w' H locs → (∀ v, r = some v → vok ks v) → rtk y pc' r → Q w' r → W p l e R s m args below meth c H locs cells slots Qf (F0 m pc' ls' (r.toList.map (conc sa ad))))) (hI : ins y pc = (34, u0, u1, u2, nx)) (hk : ∀ (pc' : Nat) (ls' : Ls) (st' : List PV) (w' : Wd), kk pc' ls' st' w' → GG y p l e R s m args below meth c cells slots Qf D cI cZ cQ sa ad ks A pc' ls' st' w') : GG y p l e R s m args below meth c cells slots Qf D cI cZ cQ sa ad ks A pc ls st w := by
  split at h
  · split at h
    · rename_i n hn
      exact so_34 hF hC hI hn h.1 (hk _ _ _ _ h.2)
    · exact h.elim
  · exact h.elim
theorem st_35 {u0 : Int32} {u1 u2 nx : Nat} {kk : Nat → Ls → List PV → Wd → Prop} (h : (match st with
    | .inl x :: .inr (.inr (.inl (b, k, i))) :: t => (match ki b k with
      | (2, n) => Bd x n (kk nx ls (vI (wA w b k i x.toNatClampNeg) :: t) w)
      | _ => False)
    | _ => False)) (hF : Fr y d p R s m args c cells slots) (hC : Cx D cI cZ cQ sa sv A s) (hX : Sx scr sa A s) (hA : ∀ q, s.heap.size ≤ q → A q) (hfin : (∀ (pc' : Nat) (w' : Wd) (r : Option PV) (H : Heap) (locs : List Loc) (ls' : Array Slot), Wx s D cI cZ cQ sa ad ks A w' H locs → (∀ v, r = some v → vok ks v) → rtk y pc' r → Q w' r → W p l e R s m args below meth c H locs cells slots Qf (F0 m pc' ls' (r.toList.map (conc sa ad))))) (hI : ins y pc = (35, u0, u1, u2, nx)) (hk : ∀ (pc' : Nat) (ls' : Ls) (st' : List PV) (w' : Wd), kk pc' ls' st' w' → GG y p l e R s m args below meth c cells slots Qf D cI cZ cQ sa ad ks A pc' ls' st' w') : GG y p l e R s m args below meth c cells slots Qf D cI cZ cQ sa ad ks A pc ls st w := by
  split at h
  · split at h
    · rename_i n hn
      exact so_35 hF hC hI hn h.1 (hk _ _ _ _ h.2)
    · exact h.elim
  · exact h.elim
theorem st_36 {u0 : Int32} {a u2 nx : Nat} {kk : Nat → Ls → List PV → Wd → Prop} (h : (match st with
    | .inl x :: t => Br (x < 0) (kk a ls t w) (kk nx ls t w)
    | _ => False)) (hF : Fr y d p R s m args c cells slots) (hC : Cx D cI cZ cQ sa sv A s) (hX : Sx scr sa A s) (hA : ∀ q, s.heap.size ≤ q → A q) (hfin : (∀ (pc' : Nat) (w' : Wd) (r : Option PV) (H : Heap) (locs : List Loc) (ls' : Array Slot), Wx s D cI cZ cQ sa ad ks A w' H locs → (∀ v, r = some v → vok ks v) → rtk y pc' r → Q w' r → W p l e R s m args below meth c H locs cells slots Qf (F0 m pc' ls' (r.toList.map (conc sa ad))))) (hI : ins y pc = (36, u0, a, u2, nx)) (hk : ∀ (pc' : Nat) (ls' : Ls) (st' : List PV) (w' : Wd), kk pc' ls' st' w' → GG y p l e R s m args below meth c cells slots Qf D cI cZ cQ sa ad ks A pc' ls' st' w') : GG y p l e R s m args below meth c cells slots Qf D cI cZ cQ sa ad ks A pc ls st w := by
  split at h
  · exact so_36 hF hI (fun z => hk _ _ _ _ (h.1 z)) (fun z => hk _ _ _ _ (h.2 z))
  · exact h.elim
theorem st_37 {u0 : Int32} {a b u3 : Nat} {kk : Nat → Ls → List PV → Wd → Prop} (h : (match st with
    | .inl x :: t => (match tsT.getD a (0, []) with
      | (lo, ts) => tswP x (fun q => kk q ls t w) b lo ts)
    | _ => False)) (hF : Fr y d p R s m args c cells slots) (hC : Cx D cI cZ cQ sa sv A s) (hX : Sx scr sa A s) (hA : ∀ q, s.heap.size ≤ q → A q) (hfin : (∀ (pc' : Nat) (w' : Wd) (r : Option PV) (H : Heap) (locs : List Loc) (ls' : Array Slot), Wx s D cI cZ cQ sa ad ks A w' H locs → (∀ v, r = some v → vok ks v) → rtk y pc' r → Q w' r → W p l e R s m args below meth c H locs cells slots Qf (F0 m pc' ls' (r.toList.map (conc sa ad))))) (hI : ins y pc = (37, u0, a, b, u3)) (hk : ∀ (pc' : Nat) (ls' : Ls) (st' : List PV) (w' : Wd), kk pc' ls' st' w' → GG y p l e R s m args below meth c cells slots Qf D cI cZ cQ sa ad ks A pc' ls' st' w') : GG y p l e R s m args below meth c cells slots Qf D cI cZ cQ sa ad ks A pc ls st w := by
  split at h
  · exact so_37 hF hI rfl h (fun q z => hk _ _ _ _ z)
  · exact h.elim
theorem st_38 {u0 : Int32} {u1 u2 nx : Nat} {kk : Nat → Ls → List PV → Wd → Prop} (h : (match st with
    | .inl y :: .inl x :: t => kk nx ls (vI (x ^^^ y) :: t) w
    | _ => False)) (hF : Fr y d p R s m args c cells slots) (hC : Cx D cI cZ cQ sa sv A s) (hX : Sx scr sa A s) (hA : ∀ q, s.heap.size ≤ q → A q) (hfin : (∀ (pc' : Nat) (w' : Wd) (r : Option PV) (H : Heap) (locs : List Loc) (ls' : Array Slot), Wx s D cI cZ cQ sa ad ks A w' H locs → (∀ v, r = some v → vok ks v) → rtk y pc' r → Q w' r → W p l e R s m args below meth c H locs cells slots Qf (F0 m pc' ls' (r.toList.map (conc sa ad))))) (hI : ins y pc = (38, u0, u1, u2, nx)) (hk : ∀ (pc' : Nat) (ls' : Ls) (st' : List PV) (w' : Wd), kk pc' ls' st' w' → GG y p l e R s m args below meth c cells slots Qf D cI cZ cQ sa ad ks A pc' ls' st' w') : GG y p l e R s m args below meth c cells slots Qf D cI cZ cQ sa ad ks A pc ls st w := by
  split at h
  · exact so_38 hF hI (hk _ _ _ _ h)
  · exact h.elim
theorem st_39 {u0 : Int32} {u1 u2 nx : Nat} {kk : Nat → Ls → List PV → Wd → Prop} (h : (match st with
    | v :: u :: t => (match v, u with
      | .inr (.inl _), _ => False
      | _, .inr (.inl _) => False
      | _, _ => kk nx ls (v :: u :: v :: u :: t) w)
    | _ => False)) (hF : Fr y d p R s m args c cells slots) (hC : Cx D cI cZ cQ sa sv A s) (hX : Sx scr sa A s) (hA : ∀ q, s.heap.size ≤ q → A q) (hfin : (∀ (pc' : Nat) (w' : Wd) (r : Option PV) (H : Heap) (locs : List Loc) (ls' : Array Slot), Wx s D cI cZ cQ sa ad ks A w' H locs → (∀ v, r = some v → vok ks v) → rtk y pc' r → Q w' r → W p l e R s m args below meth c H locs cells slots Qf (F0 m pc' ls' (r.toList.map (conc sa ad))))) (hI : ins y pc = (39, u0, u1, u2, nx)) (hk : ∀ (pc' : Nat) (ls' : Ls) (st' : List PV) (w' : Wd), kk pc' ls' st' w' → GG y p l e R s m args below meth c cells slots Qf D cI cZ cQ sa ad ks A pc' ls' st' w') : GG y p l e R s m args below meth c cells slots Qf D cI cZ cQ sa ad ks A pc ls st w := by
  split at h
  · split at h
    · exact h.elim
    · exact h.elim
    · rename_i hne1 hne2
      exact so_39 hF hI (fun z => by obtain ⟨x, hx⟩ := z; exact hne1 x hx) (fun z => by obtain ⟨x, hx⟩ := z; exact hne2 x hx) (hk _ _ _ _ h)
  · exact h.elim
theorem st_40 {u0 : Int32} {u1 u2 nx : Nat} {kk : Nat → Ls → List PV → Wd → Prop} (h : (match st with
    | .inr (.inl y) :: .inr (.inl x) :: t => kk nx ls (vL (x &&& y) :: t) w
    | _ => False)) (hF : Fr y d p R s m args c cells slots) (hC : Cx D cI cZ cQ sa sv A s) (hX : Sx scr sa A s) (hA : ∀ q, s.heap.size ≤ q → A q) (hfin : (∀ (pc' : Nat) (w' : Wd) (r : Option PV) (H : Heap) (locs : List Loc) (ls' : Array Slot), Wx s D cI cZ cQ sa ad ks A w' H locs → (∀ v, r = some v → vok ks v) → rtk y pc' r → Q w' r → W p l e R s m args below meth c H locs cells slots Qf (F0 m pc' ls' (r.toList.map (conc sa ad))))) (hI : ins y pc = (40, u0, u1, u2, nx)) (hk : ∀ (pc' : Nat) (ls' : Ls) (st' : List PV) (w' : Wd), kk pc' ls' st' w' → GG y p l e R s m args below meth c cells slots Qf D cI cZ cQ sa ad ks A pc' ls' st' w') : GG y p l e R s m args below meth c cells slots Qf D cI cZ cQ sa ad ks A pc ls st w := by
  split at h
  · exact so_40 hF hI (hk _ _ _ _ h)
  · exact h.elim
theorem st_41 {u0 : Int32} {u1 u2 nx : Nat} {kk : Nat → Ls → List PV → Wd → Prop} (h : (match st with
    | .inl y :: .inr (.inl x) :: t => kk nx ls (vL (x >>> (y.toInt64 &&& 63)) :: t) w
    | _ => False)) (hF : Fr y d p R s m args c cells slots) (hC : Cx D cI cZ cQ sa sv A s) (hX : Sx scr sa A s) (hA : ∀ q, s.heap.size ≤ q → A q) (hfin : (∀ (pc' : Nat) (w' : Wd) (r : Option PV) (H : Heap) (locs : List Loc) (ls' : Array Slot), Wx s D cI cZ cQ sa ad ks A w' H locs → (∀ v, r = some v → vok ks v) → rtk y pc' r → Q w' r → W p l e R s m args below meth c H locs cells slots Qf (F0 m pc' ls' (r.toList.map (conc sa ad))))) (hI : ins y pc = (41, u0, u1, u2, nx)) (hk : ∀ (pc' : Nat) (ls' : Ls) (st' : List PV) (w' : Wd), kk pc' ls' st' w' → GG y p l e R s m args below meth c cells slots Qf D cI cZ cQ sa ad ks A pc' ls' st' w') : GG y p l e R s m args below meth c cells slots Qf D cI cZ cQ sa ad ks A pc ls st w := by
  split at h
  · exact so_41 hF hI (hk _ _ _ _ h)
  · exact h.elim
theorem st_42 {u0 : Int32} {u1 u2 nx : Nat} {kk : Nat → Ls → List PV → Wd → Prop} (h : (match st with
    | .inl y :: .inr (.inl x) :: t => kk nx ls (vL (x <<< (y.toInt64 &&& 63)) :: t) w
    | _ => False)) (hF : Fr y d p R s m args c cells slots) (hC : Cx D cI cZ cQ sa sv A s) (hX : Sx scr sa A s) (hA : ∀ q, s.heap.size ≤ q → A q) (hfin : (∀ (pc' : Nat) (w' : Wd) (r : Option PV) (H : Heap) (locs : List Loc) (ls' : Array Slot), Wx s D cI cZ cQ sa ad ks A w' H locs → (∀ v, r = some v → vok ks v) → rtk y pc' r → Q w' r → W p l e R s m args below meth c H locs cells slots Qf (F0 m pc' ls' (r.toList.map (conc sa ad))))) (hI : ins y pc = (42, u0, u1, u2, nx)) (hk : ∀ (pc' : Nat) (ls' : Ls) (st' : List PV) (w' : Wd), kk pc' ls' st' w' → GG y p l e R s m args below meth c cells slots Qf D cI cZ cQ sa ad ks A pc' ls' st' w') : GG y p l e R s m args below meth c cells slots Qf D cI cZ cQ sa ad ks A pc ls st w := by
  split at h
  · exact so_42 hF hI (hk _ _ _ _ h)
  · exact h.elim
theorem st_43 {u0 : Int32} {u1 u2 nx : Nat} {kk : Nat → Ls → List PV → Wd → Prop} (h : (match st with
    | .inr (.inl y) :: .inr (.inl x) :: t => kk nx ls (vL (x ||| y) :: t) w
    | _ => False)) (hF : Fr y d p R s m args c cells slots) (hC : Cx D cI cZ cQ sa sv A s) (hX : Sx scr sa A s) (hA : ∀ q, s.heap.size ≤ q → A q) (hfin : (∀ (pc' : Nat) (w' : Wd) (r : Option PV) (H : Heap) (locs : List Loc) (ls' : Array Slot), Wx s D cI cZ cQ sa ad ks A w' H locs → (∀ v, r = some v → vok ks v) → rtk y pc' r → Q w' r → W p l e R s m args below meth c H locs cells slots Qf (F0 m pc' ls' (r.toList.map (conc sa ad))))) (hI : ins y pc = (43, u0, u1, u2, nx)) (hk : ∀ (pc' : Nat) (ls' : Ls) (st' : List PV) (w' : Wd), kk pc' ls' st' w' → GG y p l e R s m args below meth c cells slots Qf D cI cZ cQ sa ad ks A pc' ls' st' w') : GG y p l e R s m args below meth c cells slots Qf D cI cZ cQ sa ad ks A pc ls st w := by
  split at h
  · exact so_43 hF hI (hk _ _ _ _ h)
  · exact h.elim
theorem st_44 {u0 : Int32} {u1 u2 nx : Nat} {kk : Nat → Ls → List PV → Wd → Prop} (h : (match st with
    | .inr (.inl y) :: .inr (.inl x) :: t => kk nx ls (vI (lg_cmp x y) :: t) w
    | _ => False)) (hF : Fr y d p R s m args c cells slots) (hC : Cx D cI cZ cQ sa sv A s) (hX : Sx scr sa A s) (hA : ∀ q, s.heap.size ≤ q → A q) (hfin : (∀ (pc' : Nat) (w' : Wd) (r : Option PV) (H : Heap) (locs : List Loc) (ls' : Array Slot), Wx s D cI cZ cQ sa ad ks A w' H locs → (∀ v, r = some v → vok ks v) → rtk y pc' r → Q w' r → W p l e R s m args below meth c H locs cells slots Qf (F0 m pc' ls' (r.toList.map (conc sa ad))))) (hI : ins y pc = (44, u0, u1, u2, nx)) (hk : ∀ (pc' : Nat) (ls' : Ls) (st' : List PV) (w' : Wd), kk pc' ls' st' w' → GG y p l e R s m args below meth c cells slots Qf D cI cZ cQ sa ad ks A pc' ls' st' w') : GG y p l e R s m args below meth c cells slots Qf D cI cZ cQ sa ad ks A pc ls st w := by
  split at h
  · exact so_44 hF hI (hk _ _ _ _ h)
  · exact h.elim
theorem st_45 {u0 : Int32} {u1 u2 nx : Nat} {kk : Nat → Ls → List PV → Wd → Prop} (h : (match st with
    | .inr (.inl x) :: t => kk nx ls (vI x.toInt32 :: t) w
    | _ => False)) (hF : Fr y d p R s m args c cells slots) (hC : Cx D cI cZ cQ sa sv A s) (hX : Sx scr sa A s) (hA : ∀ q, s.heap.size ≤ q → A q) (hfin : (∀ (pc' : Nat) (w' : Wd) (r : Option PV) (H : Heap) (locs : List Loc) (ls' : Array Slot), Wx s D cI cZ cQ sa ad ks A w' H locs → (∀ v, r = some v → vok ks v) → rtk y pc' r → Q w' r → W p l e R s m args below meth c H locs cells slots Qf (F0 m pc' ls' (r.toList.map (conc sa ad))))) (hI : ins y pc = (45, u0, u1, u2, nx)) (hk : ∀ (pc' : Nat) (ls' : Ls) (st' : List PV) (w' : Wd), kk pc' ls' st' w' → GG y p l e R s m args below meth c cells slots Qf D cI cZ cQ sa ad ks A pc' ls' st' w') : GG y p l e R s m args below meth c cells slots Qf D cI cZ cQ sa ad ks A pc ls st w := by
  split at h
  · exact so_45 hF hI (hk _ _ _ _ h)
  · exact h.elim
theorem st_46 {u0 : Int32} {u1 u2 nx : Nat} {kk : Nat → Ls → List PV → Wd → Prop} (h : (match st with
    | .inl y :: .inl x :: t => kk nx ls (vI (x.toUInt32 >>> (y.toUInt32 &&& Int32.toUInt32 31)).toInt32 :: t) w
    | _ => False)) (hF : Fr y d p R s m args c cells slots) (hC : Cx D cI cZ cQ sa sv A s) (hX : Sx scr sa A s) (hA : ∀ q, s.heap.size ≤ q → A q) (hfin : (∀ (pc' : Nat) (w' : Wd) (r : Option PV) (H : Heap) (locs : List Loc) (ls' : Array Slot), Wx s D cI cZ cQ sa ad ks A w' H locs → (∀ v, r = some v → vok ks v) → rtk y pc' r → Q w' r → W p l e R s m args below meth c H locs cells slots Qf (F0 m pc' ls' (r.toList.map (conc sa ad))))) (hI : ins y pc = (46, u0, u1, u2, nx)) (hk : ∀ (pc' : Nat) (ls' : Ls) (st' : List PV) (w' : Wd), kk pc' ls' st' w' → GG y p l e R s m args below meth c cells slots Qf D cI cZ cQ sa ad ks A pc' ls' st' w') : GG y p l e R s m args below meth c cells slots Qf D cI cZ cQ sa ad ks A pc ls st w := by
  split at h
  · exact so_46 hF hI (hk _ _ _ _ h)
  · exact h.elim
theorem st_47 {u0 : Int32} {a u2 nx : Nat} {kk : Nat → Ls → List PV → Wd → Prop} (h : (match st with
    | .inl x :: t => Br (0 < x) (kk a ls t w) (kk nx ls t w)
    | _ => False)) (hF : Fr y d p R s m args c cells slots) (hC : Cx D cI cZ cQ sa sv A s) (hX : Sx scr sa A s) (hA : ∀ q, s.heap.size ≤ q → A q) (hfin : (∀ (pc' : Nat) (w' : Wd) (r : Option PV) (H : Heap) (locs : List Loc) (ls' : Array Slot), Wx s D cI cZ cQ sa ad ks A w' H locs → (∀ v, r = some v → vok ks v) → rtk y pc' r → Q w' r → W p l e R s m args below meth c H locs cells slots Qf (F0 m pc' ls' (r.toList.map (conc sa ad))))) (hI : ins y pc = (47, u0, a, u2, nx)) (hk : ∀ (pc' : Nat) (ls' : Ls) (st' : List PV) (w' : Wd), kk pc' ls' st' w' → GG y p l e R s m args below meth c cells slots Qf D cI cZ cQ sa ad ks A pc' ls' st' w') : GG y p l e R s m args below meth c cells slots Qf D cI cZ cQ sa ad ks A pc ls st w := by
  split at h
  · exact so_47 hF hI (fun z => hk _ _ _ _ (h.1 z)) (fun z => hk _ _ _ _ (h.2 z))
  · exact h.elim
theorem st_48 {u0 : Int32} {u1 u2 nx : Nat} {kk : Nat → Ls → List PV → Wd → Prop} (h : (match st with
    | .inr (.inr (.inl (b, k, _))) :: t => (match ki b k with
      | (1, n) => kk nx ls (vI (nI n) :: t) w
      | _ => False)
    | .inr (.inr (.inr 99)) :: t => (match scr with
      | some (n, _) => kk nx ls (vI (nI n) :: t) w
      | none => False)
    | _ => False)) (hF : Fr y d p R s m args c cells slots) (hC : Cx D cI cZ cQ sa sv A s) (hX : Sx scr sa A s) (hA : ∀ q, s.heap.size ≤ q → A q) (hfin : (∀ (pc' : Nat) (w' : Wd) (r : Option PV) (H : Heap) (locs : List Loc) (ls' : Array Slot), Wx s D cI cZ cQ sa ad ks A w' H locs → (∀ v, r = some v → vok ks v) → rtk y pc' r → Q w' r → W p l e R s m args below meth c H locs cells slots Qf (F0 m pc' ls' (r.toList.map (conc sa ad))))) (hI : ins y pc = (48, u0, u1, u2, nx)) (hk : ∀ (pc' : Nat) (ls' : Ls) (st' : List PV) (w' : Wd), kk pc' ls' st' w' → GG y p l e R s m args below meth c cells slots Qf D cI cZ cQ sa ad ks A pc' ls' st' w') : GG y p l e R s m args below meth c cells slots Qf D cI cZ cQ sa ad ks A pc ls st w := by
  split at h
  · split at h
    · rename_i n hn
      exact so_48 hF hC hI hn (hk _ _ _ _ h)
    · exact h.elim
  · split at h
    · exact so_48s hF hX hI (hk _ _ _ _ h)
    · exact h.elim
  · exact h.elim
theorem st_49 {u0 : Int32} {u1 u2 nx : Nat} {kk : Nat → Ls → List PV → Wd → Prop} (h : (match st with
    | .inl y :: .inl x :: t => ¬ y = 0 ∧ kk nx ls (vI (x / y) :: t) w
    | _ => False)) (hF : Fr y d p R s m args c cells slots) (hC : Cx D cI cZ cQ sa sv A s) (hX : Sx scr sa A s) (hA : ∀ q, s.heap.size ≤ q → A q) (hfin : (∀ (pc' : Nat) (w' : Wd) (r : Option PV) (H : Heap) (locs : List Loc) (ls' : Array Slot), Wx s D cI cZ cQ sa ad ks A w' H locs → (∀ v, r = some v → vok ks v) → rtk y pc' r → Q w' r → W p l e R s m args below meth c H locs cells slots Qf (F0 m pc' ls' (r.toList.map (conc sa ad))))) (hI : ins y pc = (49, u0, u1, u2, nx)) (hk : ∀ (pc' : Nat) (ls' : Ls) (st' : List PV) (w' : Wd), kk pc' ls' st' w' → GG y p l e R s m args below meth c cells slots Qf D cI cZ cQ sa ad ks A pc' ls' st' w') : GG y p l e R s m args below meth c cells slots Qf D cI cZ cQ sa ad ks A pc ls st w := by
  split at h
  · exact so_49 hF hI h.1 (hk _ _ _ _ h.2)
  · exact h.elim
theorem st_50 {u0 : Int32} {u1 u2 nx : Nat} {kk : Nat → Ls → List PV → Wd → Prop} (h : (match st with
    | .inl y :: .inl x :: t => ¬ y = 0 ∧ kk nx ls (vI (x - x / y * y) :: t) w
    | _ => False)) (hF : Fr y d p R s m args c cells slots) (hC : Cx D cI cZ cQ sa sv A s) (hX : Sx scr sa A s) (hA : ∀ q, s.heap.size ≤ q → A q) (hfin : (∀ (pc' : Nat) (w' : Wd) (r : Option PV) (H : Heap) (locs : List Loc) (ls' : Array Slot), Wx s D cI cZ cQ sa ad ks A w' H locs → (∀ v, r = some v → vok ks v) → rtk y pc' r → Q w' r → W p l e R s m args below meth c H locs cells slots Qf (F0 m pc' ls' (r.toList.map (conc sa ad))))) (hI : ins y pc = (50, u0, u1, u2, nx)) (hk : ∀ (pc' : Nat) (ls' : Ls) (st' : List PV) (w' : Wd), kk pc' ls' st' w' → GG y p l e R s m args below meth c cells slots Qf D cI cZ cQ sa ad ks A pc' ls' st' w') : GG y p l e R s m args below meth c cells slots Qf D cI cZ cQ sa ad ks A pc ls st w := by
  split at h
  · exact so_50 hF hI h.1 (hk _ _ _ _ h.2)
  · exact h.elim
theorem st_51 {u0 : Int32} {u1 u2 u3 : Nat} {kk : Nat → Ls → List PV → Wd → Prop} (h : (match st with
    | [.inr (.inr (.inl q))] => Q w (some (.inr (.inr (.inl q))))
    | _ => False)) (hF : Fr y d p R s m args c cells slots) (hC : Cx D cI cZ cQ sa sv A s) (hX : Sx scr sa A s) (hA : ∀ q, s.heap.size ≤ q → A q) (hfin : (∀ (pc' : Nat) (w' : Wd) (r : Option PV) (H : Heap) (locs : List Loc) (ls' : Array Slot), Wx s D cI cZ cQ sa ad ks A w' H locs → (∀ v, r = some v → vok ks v) → rtk y pc' r → Q w' r → W p l e R s m args below meth c H locs cells slots Qf (F0 m pc' ls' (r.toList.map (conc sa ad))))) (hI : ins y pc = (51, u0, u1, u2, u3)) (hk : ∀ (pc' : Nat) (ls' : Ls) (st' : List PV) (w' : Wd), kk pc' ls' st' w' → GG y p l e R s m args below meth c cells slots Qf D cI cZ cQ sa ad ks A pc' ls' st' w') : GG y p l e R s m args below meth c cells slots Qf D cI cZ cQ sa ad ks A pc ls st w := by
  split at h
  · exact so_51 hfin hI h
  · exact h.elim
theorem st_52 {u0 : Int32} {u1 u2 nx : Nat} {kk : Nat → Ls → List PV → Wd → Prop} (h : (match st with
    | .inr (.inr (.inr i)) :: t => i < 17 ∧ (3 < d ∧ csum t ≤ 8) ∧ kk nx ls (vI (nI (sLen i)) :: t) w
    | _ => False)) (hF : Fr y d p R s m args c cells slots) (hC : Cx D cI cZ cQ sa sv A s) (hX : Sx scr sa A s) (hA : ∀ q, s.heap.size ≤ q → A q) (hfin : (∀ (pc' : Nat) (w' : Wd) (r : Option PV) (H : Heap) (locs : List Loc) (ls' : Array Slot), Wx s D cI cZ cQ sa ad ks A w' H locs → (∀ v, r = some v → vok ks v) → rtk y pc' r → Q w' r → W p l e R s m args below meth c H locs cells slots Qf (F0 m pc' ls' (r.toList.map (conc sa ad))))) (hI : ins y pc = (52, u0, u1, u2, nx)) (hk : ∀ (pc' : Nat) (ls' : Ls) (st' : List PV) (w' : Wd), kk pc' ls' st' w' → GG y p l e R s m args below meth c cells slots Qf D cI cZ cQ sa ad ks A pc' ls' st' w') : GG y p l e R s m args below meth c cells slots Qf D cI cZ cQ sa ad ks A pc ls st w := by
  split at h
  · exact so_52 hF hC hA hI h.1 h.2.1 (hk _ _ _ _ h.2.2)
  · exact h.elim
theorem st_53 {u0 : Int32} {u1 u2 nx : Nat} {kk : Nat → Ls → List PV → Wd → Prop} (h : (match st with
    | .inl x :: .inr (.inr (.inr i)) :: t => i < 17 ∧ (6 < d ∧ csum t ≤ 8) ∧ Bd x (sLen i) (kk nx ls (vI (sCh i x.toNatClampNeg) :: t) w)
    | _ => False)) (hF : Fr y d p R s m args c cells slots) (hC : Cx D cI cZ cQ sa sv A s) (hX : Sx scr sa A s) (hA : ∀ q, s.heap.size ≤ q → A q) (hfin : (∀ (pc' : Nat) (w' : Wd) (r : Option PV) (H : Heap) (locs : List Loc) (ls' : Array Slot), Wx s D cI cZ cQ sa ad ks A w' H locs → (∀ v, r = some v → vok ks v) → rtk y pc' r → Q w' r → W p l e R s m args below meth c H locs cells slots Qf (F0 m pc' ls' (r.toList.map (conc sa ad))))) (hI : ins y pc = (53, u0, u1, u2, nx)) (hk : ∀ (pc' : Nat) (ls' : Ls) (st' : List PV) (w' : Wd), kk pc' ls' st' w' → GG y p l e R s m args below meth c cells slots Qf D cI cZ cQ sa ad ks A pc' ls' st' w') : GG y p l e R s m args below meth c cells slots Qf D cI cZ cQ sa ad ks A pc ls st w := by
  split at h
  · exact so_53 hF hC hA hI h.1 h.2.1 h.2.2.1 (hk _ _ _ _ h.2.2.2)
  · exact h.elim
theorem st_54 {u0 : Int32} {u1 u2 u3 : Nat} {kk : Nat → Ls → List PV → Wd → Prop} (h : (match st with
    | [.inl x] => zok x ∧ Q w (some (vI x))
    | _ => False)) (hF : Fr y d p R s m args c cells slots) (hC : Cx D cI cZ cQ sa sv A s) (hX : Sx scr sa A s) (hA : ∀ q, s.heap.size ≤ q → A q) (hfin : (∀ (pc' : Nat) (w' : Wd) (r : Option PV) (H : Heap) (locs : List Loc) (ls' : Array Slot), Wx s D cI cZ cQ sa ad ks A w' H locs → (∀ v, r = some v → vok ks v) → rtk y pc' r → Q w' r → W p l e R s m args below meth c H locs cells slots Qf (F0 m pc' ls' (r.toList.map (conc sa ad))))) (hI : ins y pc = (54, u0, u1, u2, u3)) (hk : ∀ (pc' : Nat) (ls' : Ls) (st' : List PV) (w' : Wd), kk pc' ls' st' w' → GG y p l e R s m args below meth c cells slots Qf D cI cZ cQ sa ad ks A pc' ls' st' w') : GG y p l e R s m args below meth c cells slots Qf D cI cZ cQ sa ad ks A pc ls st w := by
  split at h
  · exact so_54 hfin hI h.1 h.2
  · exact h.elim

theorem step_sound {kk : Nat → Ls → List PV → Wd → Prop} (hF : Fr y d p R s m args c cells slots) (hC : Cx D cI cZ cQ sa sv A s) (hX : Sx scr sa A s) (hA : ∀ q, s.heap.size ≤ q → A q) (hfin : (∀ (pc' : Nat) (w' : Wd) (r : Option PV) (H : Heap) (locs : List Loc) (ls' : Array Slot), Wx s D cI cZ cQ sa ad ks A w' H locs → (∀ v, r = some v → vok ks v) → rtk y pc' r → Q w' r → W p l e R s m args below meth c H locs cells slots Qf (F0 m pc' ls' (r.toList.map (conc sa ad))))) (h : step1 d y scr pc ls st w Q kk) (hk : ∀ (pc' : Nat) (ls' : Ls) (st' : List PV) (w' : Wd), kk pc' ls' st' w' → GG y p l e R s m args below meth c cells slots Qf D cI cZ cQ sa ad ks A pc' ls' st' w') : GG y p l e R s m args below meth c cells slots Qf D cI cZ cQ sa ad ks A pc ls st w := by
  unfold step1 at h
  generalize hI : ins y pc = I at h
  obtain ⟨o, v, a, b, nx⟩ := I
  match o, hI, h with
  | 0, hI, h => exact st_0 h hF hC hX hA hfin hI hk
  | 1, hI, h => exact st_1 h hF hC hX hA hfin hI hk
  | 2, hI, h => exact st_2 h hF hC hX hA hfin hI hk
  | 3, hI, h => exact st_3 h hF hC hX hA hfin hI hk
  | 4, hI, h => exact st_4 h hF hC hX hA hfin hI hk
  | 5, hI, h => exact st_5 h hF hC hX hA hfin hI hk
  | 6, hI, h => exact st_6 h hF hC hX hA hfin hI hk
  | 7, hI, h => exact st_7 h hF hC hX hA hfin hI hk
  | 8, hI, h => exact st_8 h hF hC hX hA hfin hI hk
  | 9, hI, h => exact st_9 h hF hC hX hA hfin hI hk
  | 10, hI, h => exact st_10 h hF hC hX hA hfin hI hk
  | 11, hI, h => exact st_11 h hF hC hX hA hfin hI hk
  | 12, hI, h => exact st_12 h hF hC hX hA hfin hI hk
  | 13, hI, h => exact st_13 h hF hC hX hA hfin hI hk
  | 14, hI, h => exact st_14 h hF hC hX hA hfin hI hk
  | 15, hI, h => exact st_15 h hF hC hX hA hfin hI hk
  | 16, hI, h => exact st_16 h hF hC hX hA hfin hI hk
  | 17, hI, h => exact st_17 h hF hC hX hA hfin hI hk
  | 18, hI, h => exact st_18 h hF hC hX hA hfin hI hk
  | 19, hI, h => exact st_19 h hF hC hX hA hfin hI hk
  | 20, hI, h => exact st_20 h hF hC hX hA hfin hI hk
  | 21, hI, h => exact st_21 h hF hC hX hA hfin hI hk
  | 22, hI, h => exact st_22 h hF hC hX hA hfin hI hk
  | 23, hI, h => exact st_23 h hF hC hX hA hfin hI hk
  | 24, hI, h => exact st_24 h hF hC hX hA hfin hI hk
  | 25, hI, h => exact st_25 h hF hC hX hA hfin hI hk
  | 26, hI, h => exact st_26 h hF hC hX hA hfin hI hk
  | 27, hI, h => exact st_27 h hF hC hX hA hfin hI hk
  | 28, hI, h => exact st_28 h hF hC hX hA hfin hI hk
  | 29, hI, h => exact st_29 h hF hC hX hA hfin hI hk
  | 30, hI, h => exact st_30 h hF hC hX hA hfin hI hk
  | 31, hI, h => exact st_31 h hF hC hX hA hfin hI hk
  | 32, hI, h => exact st_32 h hF hC hX hA hfin hI hk
  | 33, hI, h => exact st_33 h hF hC hX hA hfin hI hk
  | 34, hI, h => exact st_34 h hF hC hX hA hfin hI hk
  | 35, hI, h => exact st_35 h hF hC hX hA hfin hI hk
  | 36, hI, h => exact st_36 h hF hC hX hA hfin hI hk
  | 37, hI, h => exact st_37 h hF hC hX hA hfin hI hk
  | 38, hI, h => exact st_38 h hF hC hX hA hfin hI hk
  | 39, hI, h => exact st_39 h hF hC hX hA hfin hI hk
  | 40, hI, h => exact st_40 h hF hC hX hA hfin hI hk
  | 41, hI, h => exact st_41 h hF hC hX hA hfin hI hk
  | 42, hI, h => exact st_42 h hF hC hX hA hfin hI hk
  | 43, hI, h => exact st_43 h hF hC hX hA hfin hI hk
  | 44, hI, h => exact st_44 h hF hC hX hA hfin hI hk
  | 45, hI, h => exact st_45 h hF hC hX hA hfin hI hk
  | 46, hI, h => exact st_46 h hF hC hX hA hfin hI hk
  | 47, hI, h => exact st_47 h hF hC hX hA hfin hI hk
  | 48, hI, h => exact st_48 h hF hC hX hA hfin hI hk
  | 49, hI, h => exact st_49 h hF hC hX hA hfin hI hk
  | 50, hI, h => exact st_50 h hF hC hX hA hfin hI hk
  | 51, hI, h => exact st_51 h hF hC hX hA hfin hI hk
  | 52, hI, h => exact st_52 h hF hC hX hA hfin hI hk
  | 53, hI, h => exact st_53 h hF hC hX hA hfin hI hk
  | 54, hI, h => exact st_54 h hF hC hX hA hfin hI hk
  | o + 55, hI, h => exact False.elim h
theorem ev_sound {stops : List Nat} : ∀ (n : Nat) {pc : Nat} {ls : Ls} {st : List PV} {w : Wd}, ev d y scr stops Q n pc ls st w → Go d y scr pc ls st w Q
  | 0, pc, ls, st, w, h => h
  | n + 1, pc, ls, st, w, h => by
    intro p l e R s m args below meth c cells slots Qf D cI cZ cQ sa sv ad ks A hF hC hX hA hfin
    refine step_sound hF hC hX hA hfin h (fun pc' ls' st' w' z => ?_)
    split at z
    · exact z p l e R s m args below meth c cells slots Qf D cI cZ cQ sa sv ad ks A hF hC hX hA hfin
    · exact ev_sound n z p l e R s m args below meth c cells slots Qf D cI cZ cQ sa sv ad ks A hF hC hX hA hfin
end SND4
/-- the locals at a method's entry -/
def entA : List PV → Ls
  | [] => []
  | .inr (.inl x) :: t => some (.inr (.inl x)) :: none :: entA t
  | v :: t => some v :: entA t
def entL (n : Nat) (av : List PV) : Ls := entA av ++ List.replicate (n - (entA av).length) none
theorem entA_len {sa : Nat → Nat} {ad : Key → Nat} : ∀ av : List PV, (lg_sl (av.map (conc sa ad))).length = (entA av).length
  | [] => rfl
  | .inl x :: t => by
    have := entA_len (sa := sa) (ad := ad) t
    unfold lg_sl at this ⊢
    rw [List.map_cons, List.flatMap_cons, List.length_append, this]
    simp only [entA, conc, Value.category, List.length_cons]
    simp
    try omega
  | .inr (.inl x) :: t => by
    have := entA_len (sa := sa) (ad := ad) t
    unfold lg_sl at this ⊢
    rw [List.map_cons, List.flatMap_cons, List.length_append, this]
    simp only [entA, conc, Value.category, List.length_cons]
    simp
    try omega
  | .inr (.inr (.inl x)) :: t => by
    have := entA_len (sa := sa) (ad := ad) t
    unfold lg_sl at this ⊢
    rw [List.map_cons, List.flatMap_cons, List.length_append, this]
    simp only [entA, conc, Value.category, List.length_cons]
    simp
    try omega
  | .inr (.inr (.inr x)) :: t => by
    have := entA_len (sa := sa) (ad := ad) t
    unfold lg_sl at this ⊢
    rw [List.map_cons, List.flatMap_cons, List.length_append, this]
    simp only [entA, conc, Value.category, List.length_cons]
    simp
    try omega
theorem entA_at {sa : Nat → Nat} {ad : Key → Nat} : ∀ (av : List PV) (n i : Nat) (v : PV), (entA av)[i]? = some (some v) → (n + i, conc sa ad v) ∈ lv_args n (av.map (conc sa ad))
  | [], n, i, v, h => by simp [entA] at h
  | .inl x :: t, n, i, v, h => by
    cases i with
    | zero =>
      simp [entA] at h
      subst h
      exact List.mem_cons_self
    | succ i =>
      simp [entA] at h
      have := entA_at (sa := sa) (ad := ad) t (n + 1) i v h
      rw [show n + (i + 1) = n + 1 + i by omega]
      exact List.mem_cons_of_mem _ this
  | .inr (.inr (.inl x)) :: t, n, i, v, h => by
    cases i with
    | zero =>
      simp [entA] at h
      subst h
      exact List.mem_cons_self
    | succ i =>
      simp [entA] at h
      have := entA_at (sa := sa) (ad := ad) t (n + 1) i v h
      rw [show n + (i + 1) = n + 1 + i by omega]
      exact List.mem_cons_of_mem _ this
  | .inr (.inr (.inr x)) :: t, n, i, v, h => by
    cases i with
    | zero =>
      simp [entA] at h
      subst h
      exact List.mem_cons_self
    | succ i =>
      simp [entA] at h
      have := entA_at (sa := sa) (ad := ad) t (n + 1) i v h
      rw [show n + (i + 1) = n + 1 + i by omega]
      exact List.mem_cons_of_mem _ this
  | .inr (.inl x) :: t, n, i, v, h => by
    match i, h with
    | 0, h =>
      simp [entA] at h
      subst h
      exact List.mem_cons_self
    | 1, h => simp [entA] at h
    | i + 2, h =>
      simp [entA] at h
      have := entA_at (sa := sa) (ad := ad) t (n + 2) i v h
      rw [show n + (i + 2) = n + 2 + i by omega]
      exact List.mem_cons_of_mem _ this
theorem entA_in : ∀ (av : List PV) (v : PV), some v ∈ entA av → v ∈ av
  | [], v, h => by simp [entA] at h
  | .inl x :: t, v, h => by
    simp only [entA, List.mem_cons, Option.some.injEq] at h
    rcases h with h | h
    · exact List.mem_cons.mpr (Or.inl h)
    · exact List.mem_cons_of_mem _ (entA_in t v h)
  | .inr (.inl x) :: t, v, h => by
    simp only [entA, List.mem_cons, Option.some.injEq, reduceCtorEq, false_or] at h
    rcases h with h | h
    · exact List.mem_cons.mpr (Or.inl h)
    · exact List.mem_cons_of_mem _ (entA_in t v h)
  | .inr (.inr (.inl x)) :: t, v, h => by
    simp only [entA, List.mem_cons, Option.some.injEq] at h
    rcases h with h | h
    · exact List.mem_cons.mpr (Or.inl h)
    · exact List.mem_cons_of_mem _ (entA_in t v h)
  | .inr (.inr (.inr x)) :: t, v, h => by
    simp only [entA, List.mem_cons, Option.some.injEq] at h
    rcases h with h | h
    · exact List.mem_cons.mpr (Or.inl h)
    · exact List.mem_cons_of_mem _ (entA_in t v h)
theorem entL_at {n : Nat} {av : List PV} {i : Nat} {v : PV} (h : (entL n av)[i]? = some (some v)) : (entA av)[i]? = some (some v) := by
  unfold entL at h
  by_cases hi : i < (entA av).length
  · rw [List.getElem?_append_left hi] at h
    exact h
  · rw [List.getElem?_append_right (by omega)] at h
    have := List.mem_of_getElem? h
    simp at this
theorem ent_Lok {sa : Nat → Nat} {ad : Key → Nat} {n : Nat} {av : List PV} (h : (entA av).length ≤ n) : Lok sa ad n ((lg_sl (av.map (conc sa ad)) ++ List.replicate (n - (lg_sl (av.map (conc sa ad))).length) Slot.unset).toArray) (entL n av) := by
  have h1 := lv_entry (av.map (conc sa ad)) (n := n) (by rw [entA_len]; exact h)
  refine ⟨h1.1, h1.2.1, fun i v hi => ?_⟩
  have := entA_at (sa := sa) (ad := ad) av 0 i v (entL_at hi)
  rw [Nat.zero_add] at this
  exact h1.2.2 _ this
theorem own_a : ∀ y, y < 168 → cN (yO y) = (yN y).cls := by decide +kernel
theorem own_b : ∀ y, y < 168 → plainFor (yN y) = true := by decide +kernel
theorem own_ok (y : Nat) (h : y < 168) : cN (yO y) = (yN y).cls ∧ plainFor (yN y) = true := ⟨own_a y h, own_b y h⟩
/-- a method's contract out of a run of the small machine from its entry -/
theorem ctr_of {d y : Nat} {av : List PV} {w : Wd} {Q : Wd → Option PV → Prop} (hy : y < 168) (hl : (entA av).length ≤ yL y) (h : Go d y none 0 (entL (yL y) av) [] w Q) : Ctr d y av w Q := by
  intro l D cI cZ cQ sa sv ad ks sz hwf hav
  refine va_MetF (cc := yC y) (maxL := yL y) (ret := yR y) (own_ok y hy).2 rfl ?_
  intro p e s m args below meth c s₁ B hml hv
  obtain ⟨rfl, hsz, hP, hD0, hCx⟩ := hv
  have hx := B.exec
  have hb := B.bytes
  have hr := B.returns
  have hts := atoms_spec (ws := ywd y) B.pre
  have hown : s.vm.findClass (yN y).cls = some m.cls := findClass_of_methodNamed B.named
  have hlocks := B.notSynchronized
  rw [← (own_ok y hy).1] at hown
  subst hsz
  have hD := hD0.self (sz := s.heap.size)
  rw [lg_entry_eq]
  refine h p l e (rmd d) s m _ below meth c 0 0 _ D cI cZ cQ sa sv ad ks (va_A (wl cI cZ cQ sa ad ks w) s.heap.size) ⟨hx, hb, hml, hown, fun w hw => hts w (List.mem_cons_of_mem _ hw), Nat.le_refl _, Nat.le_refl _, Nat.le_refl _, Nat.le_refl _⟩ hCx trivial (fun q h => Or.inr h) ?_ s.heap [] _ ⟨hwf, hP, hD, va_S.rf⟩ (ent_Lok hl) (fun v hv => hav v (entA_in av v ?_)) (fun v hv => by cases hv)
  · intro pc' w' r H locs ls' hW hvr hk hq
    obtain ⟨hwf', hP', hD', hS'⟩ := hW
    match r, hk with
    | none, hk => exact W.vret hx hb (by rw [hr]; exact hk.2) (fun t ht hW => ⟨⟨w', none, rfl, hq, hwf', hvr, by rw [ht]; exact hP'⟩, hS'.F ht⟩) hS'.2.2 hk.1
    | some (.inl x), hk =>
      obtain ⟨h1, ty, h2, h3⟩ := hk
      exact W.zret hx hb (by rw [hr]; exact h2) h3 (fun t ht hW => ⟨⟨w', some (.inl x), rfl, hq, hwf', hvr, by rw [ht]; exact hP'⟩, hS'.F ht⟩) hS'.2.2 h1
    | some (.inr (.inr (.inl q))), hk =>
      obtain ⟨h1, nn, h2⟩ := hk
      exact W.aret hx hb (by rw [hr]; exact h2) (Or.inl ⟨nn, rfl⟩) (Or.inr ⟨_, rfl⟩) (fun t ht hW => ⟨⟨w', some (.inr (.inr (.inl q))), rfl, hq, hwf', hvr, by rw [ht]; exact hP'⟩, hS'.F ht⟩) hS'.2.2 h1
  · unfold entL at hv
    rcases List.mem_append.mp hv with h1 | h1
    · exact h1
    · simp at h1


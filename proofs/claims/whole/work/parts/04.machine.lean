/-! A SMALL MACHINE over worlds without addresses. A value: an int, a long, a cell (side, kind, number), a String constant (99: the script). A world: two sides, each with its numbers in fields, its rows' numbers, and the cells that fields name. -/
abbrev PV : Type := Int32 ⊕ (Int64 ⊕ ((Bool × Nat × Nat) ⊕ Nat))
abbrev vI (x : Int32) : PV := .inl x
abbrev vL (x : Int64) : PV := .inr (.inl x)
abbrev vR (b : Bool) (k i : Nat) : PV := .inr (.inr (.inl (b, k, i)))
abbrev vS (i : Nat) : PV := .inr (.inr (.inr i))
abbrev Key : Type := Bool × Nat × Nat
abbrev Sd : Type := (Nat → Nat → Nat → Int32) × (Nat → Nat → Nat → Int32) × (Nat → Nat → Nat)
abbrev Wd : Type := Sd × Sd
abbrev Ls : Type := List (Option PV)
def wS (w : Wd) (b : Bool) : Sd := match b with
  | false => w.1
  | true => w.2
def wT (w : Wd) (b : Bool) (z : Sd) : Wd := match b with
  | false => (z, w.2)
  | true => (w.1, z)
def up3 (g : Nat → Nat → Nat → Int32) (k i f : Nat) (v : Int32) : Nat → Nat → Nat → Int32 := fun k' i' f' => if k' = k then (if i' = i then (if f' = f then v else g k' i' f') else g k' i' f') else g k' i' f'
def upA (g : Nat → Nat → Nat → Int32) (k i j : Nat) (v : Int32) : Nat → Nat → Nat → Int32 := fun k' i' => if k' = k then (if i' = i then upd (g k' i') j v else g k' i') else g k' i'
def up2 (g : Nat → Nat → Nat) (k i v : Nat) : Nat → Nat → Nat := fun k' i' => if k' = k then (if i' = i then v else g k' i') else g k' i'
def wF (w : Wd) (b : Bool) (k i f : Nat) : Int32 := (wS w b).1 k i f
def wA (w : Wd) (b : Bool) (k i j : Nat) : Int32 := (wS w b).2.1 k i j
def wR (w : Wd) (b : Bool) (k i : Nat) : Nat := (wS w b).2.2 k i
def sF (w : Wd) (b : Bool) (k i f : Nat) (v : Int32) : Wd := wT w b (up3 (wS w b).1 k i f v, (wS w b).2.1, (wS w b).2.2)
def sA (w : Wd) (b : Bool) (k i j : Nat) (v : Int32) : Wd := wT w b ((wS w b).1, upA (wS w b).2.1 k i j v, (wS w b).2.2)
def sR (w : Wd) (b : Bool) (k i v : Nat) : Wd := wT w b ((wS w b).1, (wS w b).2.1, up2 (wS w b).2.2 k i v)
/-- what a kind is: (0, class), (1, length) of ints, (2, length) of booleans, (3, length) of persons -/
def kiC : List (Nat × Nat) := [(0, 8), (0, 6), (1, 120), (0, 3), (1, 121), (1, 121), (1, 121), (0, 7), (3, 6), (0, 2), (1, 128), (0, 5), (1, 25), (1, 25), (1, 25), (1, 40), (1, 40), (1, 40), (1, 80), (0, 4), (0, 1), (0, 0), (1, 80)]
def kiM : List (Nat × Nat) := [(0, 9), (1, 6), (1, 150), (1, 150), (1, 150), (1, 150), (1, 384), (1, 384), (1, 384), (1, 384), (1, 384), (2, 384), (1, 6), (1, 6), (1, 120), (9, 0), (9, 0), (9, 0), (9, 0), (9, 0), (9, 0), (9, 0), (9, 0), (1, 25), (1, 25), (1, 25), (1, 25), (1, 64), (1, 64), (1, 64), (1, 64), (1, 64), (2, 64), (1, 64), (9, 0), (9, 0), (9, 0), (9, 0), (1, 64), (1, 64), (2, 64), (9, 0), (9, 0), (1, 4096), (9, 0), (9, 0), (9, 0), (1, 128), (2, 128), (9, 0)]
def ki (b : Bool) (k : Nat) : Nat × Nat := match b with
  | false => kiC.getD k (9, 0)
  | true => kiM.getD k (9, 0)
/-- what a field is, by class: (0, _) a number, (1, kind) the cell 0 of a kind, (2, kind) the cell of the same number, (3, kind) a cell that changes -/
def fkT : List (List (Nat × Nat)) := [[(1, 7)], [(1, 7), (0, 0), (0, 0), (0, 0)], [(0, 0), (1, 19), (3, 11), (0, 0), (0, 0), (2, 10), (0, 0)], [(1, 1), (1, 4), (1, 5), (1, 6), (0, 0), (0, 0), (0, 0), (0, 0), (0, 0), (0, 0), (0, 0), (3, 11), (0, 0), (0, 0)], [(0, 0), (0, 0), (0, 0), (0, 0)], [(2, 12), (2, 13), (2, 14), (0, 0), (2, 15), (2, 16), (2, 17), (2, 18), (0, 0), (2, 22), (0, 0)], [(1, 2), (0, 0)], [(1, 8), (0, 0)], [(1, 1), (1, 3), (1, 7), (1, 20), (1, 21)],
  [(0, 0), (1, 1), (1, 2), (1, 3), (1, 4), (1, 5), (1, 6), (1, 7), (1, 8), (1, 9), (1, 10), (1, 11), (1, 12), (1, 13), (1, 14), (0, 0), (0, 0), (0, 0), (0, 0), (0, 0), (0, 0), (0, 0), (0, 0), (1, 23), (1, 24), (1, 25), (1, 26), (1, 27), (1, 28), (1, 29), (1, 30), (1, 31), (1, 32), (1, 33), (0, 0), (0, 0), (0, 0), (0, 0), (1, 38), (1, 39), (1, 40), (0, 0), (0, 0), (1, 43), (0, 0), (0, 0), (0, 0), (1, 47), (1, 48), (0, 0)]]
def fk (ci f : Nat) : Nat × Nat := (fkT.getD ci []).getD f (0, 0)
def fval (w : Wd) (b : Bool) (k i ci f : Nat) : PV := match fk ci f with
  | (0, _) => vI (wF w b k i f)
  | (1, t) => vR b t 0
  | (2, t) => vR b t i
  | (_, t) => vR b t (wR w b k i)
def kc (b : Bool) (k a : Nat) : Bool := match ki b k with
  | (0, ci) => Nat.beq ci a
  | _ => false
def csum : List PV → Nat
  | [] => 0
  | .inr (.inl _) :: t => 2 + csum t
  | _ :: t => 1 + csum t
def popN : Nat → List PV → List PV → Option (List PV × List PV)
  | 0, st, acc => some (acc, st)
  | _ + 1, [], _ => none
  | n + 1, v :: st, acc => popN n st (v :: acc)
def tyck : Nat → PV → Bool
  | 0, .inl _ => true
  | 1, .inr (.inr _) => true
  | 2, .inr (.inl _) => true
  | _, _ => false
def rck : Nat → List PV → Bool
  | 0, _ => true
  | c + 1, .inr (.inr (.inl (b, k, _))) :: _ => kc b k c
  | _, _ => false
def lck (ls : Ls) : Nat → Bool
  | 0 => true
  | j + 1 => match ls[j]? with
    | some (some (.inr (.inl _))) => false
    | _ => true
def lenT : List Nat := cpS.map (fun e => e.2.1.length)
def bytT : List (List Int32) := cpS.map (fun e => e.2.1.toList.map (fun ch => Int32.ofNat ch.toNat))
def sLen (i : Nat) : Nat := lenT.getD i 0
def sCh (i j : Nat) : Int32 := (bytT.getD i []).getD j 0
def lcv (v : Int32) : Nat → Int64
  | 2 => 4294967295
  | _ => v.toInt64
def Br (c t f : Prop) : Prop := (c → t) ∧ (¬ c → f)
def Bd (x : Int32) (n : Nat) (P : Prop) : Prop := vp_in x n ∧ P
def zok (x : Int32) : Prop := narrow .boolean (.int x) = .int x
def tswP (x : Int32) (k : Nat → Prop) (d : Nat) : Int → List Nat → Prop
  | _, [] => k d
  | lo, t :: ts => Br (x = Int32.ofInt lo) (k t) (tswP x k d (lo + 1) ts)
/-! the real cells -/
def conc (sa : Nat → Nat) (ad : Key → Nat) : PV → Value
  | .inl x => .int x
  | .inr (.inl x) => .long x
  | .inr (.inr (.inl q)) => .ref (ad q)
  | .inr (.inr (.inr i)) => .ref (sa i)
def nfc (ci : Nat) : Nat := (fkT.getD ci []).length
def cellE (cI cZ cQ : ClassId) (sa : Nat → Nat) (ad : Key → Nat) (w : Wd) (q : Key) : va_E := match ki q.1 q.2.1 with
  | (0, ci) => .inr (ci, (List.range (nfc ci)).map (fun f => conc sa ad (fval w q.1 q.2.1 q.2.2 ci f)))
  | (1, n) => .inl (cI, n, .inl (wA w q.1 q.2.1 q.2.2))
  | (2, n) => .inl (cZ, n, .inl (wA w q.1 q.2.1 q.2.2))
  | (_, n) => .inl (cQ, n, .inr (.inr (.inr (.inr (fun j => some (ad (false, 9, j)))))))
def wl (cI cZ cQ : ClassId) (sa : Nat → Nat) (ad : Key → Nat) (ks : List Key) (w : Wd) : va_W := ks.map (fun q => (ad q, cellE cI cZ cQ sa ad w q))
def vok (ks : List Key) : PV → Prop
  | .inr (.inr (.inl q)) => q ∈ ks
  | .inr (.inr (.inr i)) => i < 17 ∨ i = 99
  | _ => True
def wf (ks : List Key) (w : Wd) : Prop := ks.Nodup ∧ (∀ q ∈ ks, ∀ ci, ki q.1 q.2.1 = (0, ci) → ∀ f, f < nfc ci → vok ks (fval w q.1 q.2.1 q.2.2 ci f)) ∧ ∀ q ∈ ks, ∀ n, ki q.1 q.2.1 = (3, n) → ∀ j, j < n → ((false, 9, j) : Key) ∈ ks
def gtb : List Cond := lw_tbl.filter goodWord
def ywd (y : Nat) : List Cond := .code (yN y) (yC y) (yL y) (yR y) :: gtb
def rmd (d : Nat) : Room := { frames := d, cells := 0, slots := 0, locals := 40 * d }
def nestW (e : Nat × Nat × Nat × Nat × Nat × List Nat) : Cond := .methodLinkNest (cN e.1) e.2.1 (yN e.2.2.1) "IfYouWill"
def StrX (sa sv : Nat → Nat) (A : Nat → Prop) (U : State) : Prop := vk_S 17 lenT bytT sa sv A U U.heap ∧ (∀ (i : Nat) (e : Nat × String × Nat), cpS[i]? = some e → vk_R RX3 e.1 e.2.1 (sa i) U) ∧ va_Z "java/lang/String" "COMPACT_STRINGS" "Z" (.int 1) A U U.heap ∧ va_Zq "jdk/internal/util/Preconditions" "SIOOBE_FORMATTER" "Ljava/util/function/BiFunction;" A U U.heap
def atys (cI cZ cQ : ClassId) : List (ClassId × FieldType) := [(cI, .int), (cZ, .boolean), (cQ, .object RX2)]
def Cx (D : va_G) (cI cZ cQ : ClassId) (sa sv : Nat → Nat) (A : Nat → Prop) (U : State) : Prop := va_K D vwCl (atys cI cZ cQ) U ∧ (∀ e ∈ cpM, e.2.2.2.2.1 = 2 → va_Nw (nestW e) U) ∧ StrX sa sv A U
/-! contracts, over any real machine -/
def Pre0 (D : va_G) (cI cZ cQ : ClassId) (sa sv : Nat → Nat) (ad : Key → Nat) (ks : List Key) (w : Wd) (sz : Nat) (U : State) : Prop := U.heap.size = sz ∧ va_P D vwCl (wl cI cZ cQ sa ad ks w) U.heap ∧ va_D (fun _ => True) (wl cI cZ cQ sa ad ks w) ∧ Cx D cI cZ cQ sa sv (va_A (wl cI cZ cQ sa ad ks w) sz) U
def Post0 (D : va_G) (cI cZ cQ : ClassId) (sa : Nat → Nat) (ad : Key → Nat) (ks : List Key) (Q : Wd → Option PV → Prop) (A : Nat → Prop) : Array Value → State → Outcome → State → Prop := fun _ st oc t => (∃ (w' : Wd) (r : Option PV), oc = .returned (r.map (conc sa ad)) ∧ Q w' r ∧ wf ks w' ∧ (∀ v, r = some v → vok ks v) ∧ va_P D vwCl (wl cI cZ cQ sa ad ks w') t.heap) ∧ va_F A st t
def Ctr (d y : Nat) (av : List PV) (w : Wd) (Q : Wd → Option PV → Prop) : Prop := ∀ (l : Launch) (D : va_G) (cI cZ cQ : ClassId) (sa sv : Nat → Nat) (ad : Key → Nat) (ks : List Key) (sz : Nat), wf ks w → (∀ v ∈ av, vok ks v) → Met l (yN y) (ywd y) (rmd d) (va_Pc (av.map (conc sa ad)) (Pre0 D cI cZ cQ sa sv ad ks w sz)) (Post0 D cI cZ cQ sa ad ks Q (va_A (wl cI cZ cQ sa ad ks w) sz)) 0 0 (va_A (wl cI cZ cQ sa ad ks w) sz)
def Inv (d y : Nat) (av : List PV) (w : Wd) (K : Wd → Option PV → Prop) : Prop := ∃ (d' : Nat) (Q' : Wd → Option PV → Prop), d' < d ∧ Ctr d' y av w Q' ∧ ∀ w' r, Q' w' r → K w' r
/-! a frame under way -/
def Lok (sa : Nat → Nat) (ad : Key → Nat) (n : Nat) (ls' : Array Slot) (ls : Ls) : Prop := ls'.size = n ∧ lv_wf ls' ∧ ∀ (i : Nat) (v : PV), ls[i]? = some (some v) → ls'[i]? = some (.val (conc sa ad v))
def Wx (s : State) (D : va_G) (cI cZ cQ : ClassId) (sa : Nat → Nat) (ad : Key → Nat) (ks : List Key) (A : Nat → Prop) (w : Wd) (H : Heap) (locs : List Loc) : Prop := wf ks w ∧ va_P D vwCl (wl cI cZ cQ sa ad ks w) H ∧ va_D A (wl cI cZ cQ sa ad ks w) ∧ va_S A s.heap H locs
def rtk (y pc : Nat) : Option PV → Prop
  | none => decode (yC y) pc = .ok (.return_, 1) ∧ yR y = none
  | some (.inl x) => decode (yC y) pc = .ok (.ireturn, 1) ∧ ∃ ty, yR y = some ty ∧ narrow ty (.int x) = .int x
  | some (.inr (.inr (.inl _))) => decode (yC y) pc = .ok (.areturn, 1) ∧ ∃ n, yR y = some (.object n)
  | _ => False
def Sx (scr : Option (Nat × (Nat → Int32))) (sa : Nat → Nat) (A : Nat → Prop) (s : State) : Prop := match scr with
  | none => True
  | some (L, xs) => va_X (sa 99) L xs s s.heap ∧ sa 99 < s.heap.size ∧ ¬ A (sa 99)
def Fr (y d : Nat) (p : Program) (R : Room) (s : State) (m : MethodId) (args : Array Value) (c : Code) (cells slots : Nat) : Prop := p.tables.exec = Jvm.exec ∧ c.code = yC y ∧ c.maxLocals = yL y ∧ s.vm.findClass (cN (yO y)) = some m.cls ∧ (∀ w ∈ gtb, w.before args s = true) ∧ (d ≤ R.frames ∧ 40 * d ≤ R.locals ∧ cells ≤ R.cells ∧ slots ≤ R.slots)
def Go (d y : Nat) (scr : Option (Nat × (Nat → Int32))) (pc : Nat) (ls : Ls) (st : List PV) (w : Wd) (Q : Wd → Option PV → Prop) : Prop :=
  ∀ (p : Program) (l : Launch) (e : Env) (R : Room) (s : State) (m : MethodId) (args : Array Value) (below : List Frame) (meth : Method) (c : Code) (cells slots : Nat) (Qf : State → Prop) (D : va_G) (cI cZ cQ : ClassId) (sa sv : Nat → Nat) (ad : Key → Nat) (ks : List Key) (A : Nat → Prop),
    Fr y d p R s m args c cells slots → Cx D cI cZ cQ sa sv A s → Sx scr sa A s → (∀ q, s.heap.size ≤ q → A q) →
    (∀ (pc' : Nat) (w' : Wd) (r : Option PV) (H : Heap) (locs : List Loc) (ls' : Array Slot), Wx s D cI cZ cQ sa ad ks A w' H locs → (∀ v, r = some v → vok ks v) → rtk y pc' r → Q w' r → W p l e R s m args below meth c H locs cells slots Qf (F0 m pc' ls' (r.toList.map (conc sa ad)))) →
    ∀ (H : Heap) (locs : List Loc) (ls' : Array Slot), Wx s D cI cZ cQ sa ad ks A w H locs → Lok sa ad (yL y) ls' ls → (∀ v, some v ∈ ls → vok ks v) → (∀ v ∈ st, vok ks v) → W p l e R s m args below meth c H locs cells slots Qf (F0 m pc ls' (st.map (conc sa ad)))
/-- one instruction, as a proposition about what comes behind it -/
def step1 (d y : Nat) (scr : Option (Nat × (Nat → Int32))) (pc : Nat) (ls : Ls) (st : List PV) (w : Wd) (Q : Wd → Option PV → Prop) (kk : Nat → Ls → List PV → Wd → Prop) : Prop := match ins y pc with
  | (0, _, a, b, nx) => (match ls[a]? with
    | some (some v) => (match tyck b v with
      | true => kk nx ls (v :: st) w
      | false => False)
    | _ => False)
  | (1, _, a, f, nx) => (match st with
    | .inr (.inr (.inl (b, k, i))) :: t => (match kc b k a with
      | true => kk nx ls (fval w b k i a f :: t) w
      | false => False)
    | _ => False)
  | (2, v, _, _, nx) => kk nx ls (vI v :: st) w
  | (3, _, a, n, nx) => (match popN (n % 8) st [] with
    | some (av, t) => (match rck (n / 8) av && Nat.ble (csum t) 8 with
      | true => Inv d a av w (fun w' r => match r with
        | none => kk nx ls t w'
        | some v => kk nx ls (v :: t) w')
      | false => False)
    | none => False)
  | (4, _, a, _, _) => kk a ls st w
  | (5, _, _, _, _) => (match st with
    | [.inl x] => Q w (some (vI x))
    | _ => False)
  | (6, _, a, _, nx) => (match st with
    | .inl x :: t => Br (x = 0) (kk a ls t w) (kk nx ls t w)
    | _ => False)
  | (7, _, _, _, nx) => (match st with
    | .inl x :: .inr (.inr (.inl (b, k, i))) :: t => (match ki b k with
      | (1, n) => Bd x n (kk nx ls (vI (wA w b k i x.toNatClampNeg) :: t) w)
      | _ => False)
    | .inl x :: .inr (.inr (.inr 99)) :: t => (match scr with
      | some (n, xs) => Bd x n (kk nx ls (vI (xs x.toNatClampNeg) :: t) w)
      | none => False)
    | _ => False)
  | (8, _, a, f, nx) => (match st with
    | v :: .inr (.inr (.inl (b, k, i))) :: t => (match kc b k a with
      | true => (match fk a f, v with
        | (0, _), .inl x => kk nx ls t (sF w b k i f x)
        | (3, c), .inr (.inr (.inl (b', k', i'))) => (match b == b' && Nat.beq c k' with
          | true => kk nx ls t (sR w b k i i')
          | false => False)
        | _, _ => False)
      | false => False)
    | _ => False)
  | (9, _, _, _, nx) => (match st with
    | .inl y :: .inl x :: t => kk nx ls (vI (x + y) :: t) w
    | _ => False)
  | (10, _, a, b, nx) => (match st with
    | v :: t => (match tyck b v && (lck ls a && Nat.blt b 2) with
      | true => kk nx (ls.set a (some v)) t w
      | false => False)
    | _ => False)
  | (11, _, a, _, nx) => (match st with
    | .inl x :: t => Br (x = 0) (kk nx ls t w) (kk a ls t w)
    | _ => False)
  | (12, _, a, _, nx) => (match st with
    | .inl y :: .inl x :: t => Br (y ≤ x) (kk a ls t w) (kk nx ls t w)
    | _ => False)
  | (13, v, a, _, nx) => (match ls[a]? with
    | some (some (.inl x)) => (match lck ls a with
      | true => kk nx (ls.set a (some (vI (x + v)))) st w
      | false => False)
    | _ => False)
  | (14, _, a, _, nx) => (match st with
    | .inl y :: .inl x :: t => Br (x = y) (kk nx ls t w) (kk a ls t w)
    | _ => False)
  | (15, _, a, _, nx) => (match st with
    | .inl y :: .inl x :: t => Br (x = y) (kk a ls t w) (kk nx ls t w)
    | _ => False)
  | (16, _, _, _, nx) => (match st with
    | .inl v :: .inl x :: .inr (.inr (.inl (b, k, i))) :: t => (match ki b k with
      | (1, n) => Bd x n (kk nx ls t (sA w b k i x.toNatClampNeg v))
      | _ => False)
    | _ => False)
  | (17, _, _, _, nx) => (match st with
    | .inl y :: .inl x :: t => kk nx ls (vI (x - y) :: t) w
    | _ => False)
  | (18, _, _, _, nx) => (match st with
    | .inl y :: .inl x :: t => kk nx ls (vI (x * y) :: t) w
    | _ => False)
  | (19, _, _, _, _) => (match st with
    | [] => Q w none
    | _ => False)
  | (20, _, _, _, nx) => (match st with
    | v :: t => (match v with
      | .inr (.inl _) => False
      | _ => kk nx ls (v :: v :: t) w)
    | _ => False)
  | (21, _, _, _, nx) => (match st with
    | .inl x :: t => kk nx ls (vL x.toInt64 :: t) w
    | _ => False)
  | (22, _, a, _, nx) => (match st with
    | .inl y :: .inl x :: t => Br (x < y) (kk a ls t w) (kk nx ls t w)
    | _ => False)
  | (23, _, _, _, nx) => (match st with
    | .inl y :: .inl x :: t => kk nx ls (vI (x <<< (y &&& 31)) :: t) w
    | _ => False)
  | (24, v, a, _, nx) => kk nx ls (vL (lcv v a) :: st) w
  | (25, _, _, _, nx) => (match st with
    | .inl y :: .inl x :: t => kk nx ls (vI (x &&& y) :: t) w
    | _ => False)
  | (26, _, a, _, nx) => kk nx ls (vS a :: st) w
  | (27, _, a, _, nx) => (match st with
    | .inl y :: .inl x :: t => Br (y < x) (kk a ls t w) (kk nx ls t w)
    | _ => False)
  | (28, _, _, _, nx) => (match st with
    | .inl x :: .inr (.inr (.inl (b, k, _))) :: t => (match ki b k with
      | (3, n) => Bd x n (kk nx ls (vR false 9 x.toNatClampNeg :: t) w)
      | _ => False)
    | _ => False)
  | (29, _, a, _, nx) => (match st with
    | .inl y :: .inl x :: t => Br (x ≤ y) (kk a ls t w) (kk nx ls t w)
    | _ => False)
  | (30, _, _, _, nx) => (match st with
    | .inl y :: .inl x :: t => kk nx ls (vI (x >>> (y &&& 31)) :: t) w
    | _ => False)
  | (31, _, a, _, nx) => (match st with
    | .inl x :: t => Br (x ≤ 0) (kk a ls t w) (kk nx ls t w)
    | _ => False)
  | (32, _, a, _, nx) => (match st with
    | .inl x :: t => Br (0 ≤ x) (kk a ls t w) (kk nx ls t w)
    | _ => False)
  | (33, _, _, _, nx) => (match st with
    | .inl y :: .inl x :: t => kk nx ls (vI (x ||| y) :: t) w
    | _ => False)
  | (34, _, _, _, nx) => (match st with
    | .inl v :: .inl x :: .inr (.inr (.inl (b, k, i))) :: t => (match ki b k with
      | (2, n) => Bd x n (kk nx ls t (sA w b k i x.toNatClampNeg (vp_nar .boolean v)))
      | _ => False)
    | _ => False)
  | (35, _, _, _, nx) => (match st with
    | .inl x :: .inr (.inr (.inl (b, k, i))) :: t => (match ki b k with
      | (2, n) => Bd x n (kk nx ls (vI (wA w b k i x.toNatClampNeg) :: t) w)
      | _ => False)
    | _ => False)
  | (36, _, a, _, nx) => (match st with
    | .inl x :: t => Br (x < 0) (kk a ls t w) (kk nx ls t w)
    | _ => False)
  | (37, _, a, b, _) => (match st with
    | .inl x :: t => (match tsT.getD a (0, []) with
      | (lo, ts) => tswP x (fun q => kk q ls t w) b lo ts)
    | _ => False)
  | (38, _, _, _, nx) => (match st with
    | .inl y :: .inl x :: t => kk nx ls (vI (x ^^^ y) :: t) w
    | _ => False)
  | (39, _, _, _, nx) => (match st with
    | v :: u :: t => (match v, u with
      | .inr (.inl _), _ => False
      | _, .inr (.inl _) => False
      | _, _ => kk nx ls (v :: u :: v :: u :: t) w)
    | _ => False)
  | (40, _, _, _, nx) => (match st with
    | .inr (.inl y) :: .inr (.inl x) :: t => kk nx ls (vL (x &&& y) :: t) w
    | _ => False)
  | (41, _, _, _, nx) => (match st with
    | .inl y :: .inr (.inl x) :: t => kk nx ls (vL (x >>> (y.toInt64 &&& 63)) :: t) w
    | _ => False)
  | (42, _, _, _, nx) => (match st with
    | .inl y :: .inr (.inl x) :: t => kk nx ls (vL (x <<< (y.toInt64 &&& 63)) :: t) w
    | _ => False)
  | (43, _, _, _, nx) => (match st with
    | .inr (.inl y) :: .inr (.inl x) :: t => kk nx ls (vL (x ||| y) :: t) w
    | _ => False)
  | (44, _, _, _, nx) => (match st with
    | .inr (.inl y) :: .inr (.inl x) :: t => kk nx ls (vI (lg_cmp x y) :: t) w
    | _ => False)
  | (45, _, _, _, nx) => (match st with
    | .inr (.inl x) :: t => kk nx ls (vI x.toInt32 :: t) w
    | _ => False)
  | (46, _, _, _, nx) => (match st with
    | .inl y :: .inl x :: t => kk nx ls (vI (x.toUInt32 >>> (y.toUInt32 &&& Int32.toUInt32 31)).toInt32 :: t) w
    | _ => False)
  | (47, _, a, _, nx) => (match st with
    | .inl x :: t => Br (0 < x) (kk a ls t w) (kk nx ls t w)
    | _ => False)
  | (48, _, _, _, nx) => (match st with
    | .inr (.inr (.inl (b, k, _))) :: t => (match ki b k with
      | (1, n) => kk nx ls (vI (nI n) :: t) w
      | _ => False)
    | .inr (.inr (.inr 99)) :: t => (match scr with
      | some (n, _) => kk nx ls (vI (nI n) :: t) w
      | none => False)
    | _ => False)
  | (49, _, _, _, nx) => (match st with
    | .inl y :: .inl x :: t => ¬ y = 0 ∧ kk nx ls (vI (x / y) :: t) w
    | _ => False)
  | (50, _, _, _, nx) => (match st with
    | .inl y :: .inl x :: t => ¬ y = 0 ∧ kk nx ls (vI (x - x / y * y) :: t) w
    | _ => False)
  | (51, _, _, _, _) => (match st with
    | [.inr (.inr (.inl q))] => Q w (some (.inr (.inr (.inl q))))
    | _ => False)
  | (52, _, _, _, nx) => (match st with
    | .inr (.inr (.inr i)) :: t => i < 17 ∧ (3 < d ∧ csum t ≤ 8) ∧ kk nx ls (vI (nI (sLen i)) :: t) w
    | _ => False)
  | (53, _, _, _, nx) => (match st with
    | .inl x :: .inr (.inr (.inr i)) :: t => i < 17 ∧ (6 < d ∧ csum t ≤ 8) ∧ Bd x (sLen i) (kk nx ls (vI (sCh i x.toNatClampNeg) :: t) w)
    | _ => False)
  | (54, _, _, _, _) => (match st with
    | [.inl x] => zok x ∧ Q w (some (vI x))
    | _ => False)
  | _ => False
/-- many instructions, up to the places where one stops -/
def ev (d y : Nat) (scr : Option (Nat × (Nat → Int32))) (stops : List Nat) (Q : Wd → Option PV → Prop) : Nat → Nat → Ls → List PV → Wd → Prop
  | 0, pc, ls, st, w => Go d y scr pc ls st w Q
  | n + 1, pc, ls, st, w => step1 d y scr pc ls st w Q (fun pc' ls' st' w' => match stops.contains pc' with
    | true => Go d y scr pc' ls' st' w' Q
    | false => ev d y scr stops Q n pc' ls' st' w')

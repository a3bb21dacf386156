/-! the tables, held against the bytes and the words -/
def cpFhas (own idx ci f : Nat) : Bool := cpF.any (fun e => Nat.beq e.1 own && (Nat.beq e.2.1 idx && (Nat.beq e.2.2.1 ci && Nat.beq e.2.2.2.1 f)))
def cpMhas (own idx m n k : Nat) : Bool := cpM.any (fun e => Nat.beq e.1 own && (Nat.beq e.2.1 idx && (Nat.beq e.2.2.1 m && (Nat.beq e.2.2.2.1 n && Nat.beq e.2.2.2.2.1 k))))
def cpLhas (own idx : Nat) (v : Int32) (a : Nat) : Bool := cpL.any (fun e => Nat.beq e.1 own && (Nat.beq e.2.1 idx && (decide (e.2.2.1 = v) && Nat.beq e.2.2.2.1 a)))
def clI (ci : Nat) : vw_C := vwCl.getD ci (RX0, TX0, 1)
def tyI (ci : Nat) : Nat → FieldType := [tyX0, tyX1, tyX2, tyX3, tyX4, tyX5, tyX6, tyX7, tyX8, tyX9].getD ci tyX0
def isI (i : Instr) (j : Instr) : Bool := decide (i = j)
def rel (y pc : Nat) (i : Instr) (n : Nat) (I : In) : Bool := match I with
  | (0, _, a, b, _) => (match i with
    | .iload_n k => Nat.beq k.val a && (Nat.beq n 1 && Nat.beq b 0)
    | .aload_n k => Nat.beq k.val a && (Nat.beq n 1 && Nat.beq b 1)
    | .lload_n k => Nat.beq k.val a && (Nat.beq n 1 && Nat.beq b 2)
    | .iload k => Nat.beq k a && (Nat.beq n 2 && Nat.beq b 0)
    | .aload k => Nat.beq k a && (Nat.beq n 2 && Nat.beq b 1)
    | .lload k => Nat.beq k a && (Nat.beq n 2 && Nat.beq b 2)
    | _ => false)
  | (1, _, a, f, _) => (match i with
    | .getfield idx => cpFhas (yO y) idx a f && Nat.beq n 3
    | _ => false)
  | (2, v, _, _, _) => (match i with
    | .iconst k => decide (Int32.ofInt k = v) && Nat.beq n 1
    | .bipush k => decide ((Int8.ofInt k).toInt32 = v) && Nat.beq n 2
    | .sipush k => decide ((Int16.ofInt k).toInt32 = v) && Nat.beq n 3
    | _ => false)
  | (3, _, a, k, _) => (match i with
    | .invokevirtual idx => cpMhas (yO y) idx a k 0 && Nat.beq n 3
    | .invokestatic idx => (cpMhas (yO y) idx a k 1 || cpMhas (yO y) idx a k 2) && Nat.beq n 3
    | _ => false)
  | (4, _, a, _, _) => (match i with
    | .goto off => decide ((pc : Int) + off = (a : Int)) && Nat.beq n 3
    | _ => false)
  | (5, _, _, _, _) => isI i .ireturn && (Nat.beq n 1 && decide (yR y = some .int))
  | (6, _, a, _, _) => (match i with
    | .ifCond .eq off => decide ((pc : Int) + off = (a : Int)) && Nat.beq n 3
    | _ => false)
  | (7, _, _, _, _) => isI i .iaload && Nat.beq n 1
  | (8, _, a, f, _) => (match i with
    | .putfield idx => cpFhas (yO y) idx a f && (Nat.beq n 3 && (decide (((clI a).2.1 f).2.2.2 = false) && (match fk a f with
      | (0, _) => decide (tyI a f = .int)
      | (3, _) => decide (tyI a f = .object RX5)
      | _ => false)))
    | _ => false)
  | (9, _, _, _, _) => isI i .iadd && Nat.beq n 1
  | (10, _, a, b, _) => (match i with
    | .istore_n k => Nat.beq k.val a && (Nat.beq n 1 && (Nat.beq b 0 && Nat.blt a (yL y)))
    | .astore_n k => Nat.beq k.val a && (Nat.beq n 1 && (Nat.beq b 1 && Nat.blt a (yL y)))
    | .istore k => Nat.beq k a && (Nat.beq n 2 && (Nat.beq b 0 && Nat.blt a (yL y)))
    | .astore k => Nat.beq k a && (Nat.beq n 2 && (Nat.beq b 1 && Nat.blt a (yL y)))
    | _ => false)
  | (11, _, a, _, _) => (match i with
    | .ifCond .ne off => decide ((pc : Int) + off = (a : Int)) && Nat.beq n 3
    | _ => false)
  | (12, _, a, _, _) => (match i with
    | .if_icmp .ge off => decide ((pc : Int) + off = (a : Int)) && Nat.beq n 3
    | _ => false)
  | (13, v, a, _, _) => (match i with
    | .iinc k m => Nat.beq k a && (decide (Int32.ofInt m = v) && (Nat.beq n 3 && Nat.blt a (yL y)))
    | _ => false)
  | (14, _, a, _, _) => (match i with
    | .if_icmp .ne off => decide ((pc : Int) + off = (a : Int)) && Nat.beq n 3
    | _ => false)
  | (15, _, a, _, _) => (match i with
    | .if_icmp .eq off => decide ((pc : Int) + off = (a : Int)) && Nat.beq n 3
    | _ => false)
  | (16, _, _, _, _) => isI i .iastore && Nat.beq n 1
  | (17, _, _, _, _) => isI i .isub && Nat.beq n 1
  | (18, _, _, _, _) => isI i .imul && Nat.beq n 1
  | (19, _, _, _, _) => isI i .return_ && (Nat.beq n 1 && decide (yR y = none))
  | (20, _, _, _, _) => isI i .dup && Nat.beq n 1
  | (21, _, _, _, _) => isI i .i2l && Nat.beq n 1
  | (22, _, a, _, _) => (match i with
    | .if_icmp .lt off => decide ((pc : Int) + off = (a : Int)) && Nat.beq n 3
    | _ => false)
  | (23, _, _, _, _) => isI i .ishl && Nat.beq n 1
  | (24, v, a, _, _) => (match i with
    | .lconst k => decide (Int64.ofNat k.val = lcv v a) && Nat.beq n 1
    | .ldc2_w idx => cpLhas (yO y) idx v a && Nat.beq n 3
    | _ => false)
  | (25, _, _, _, _) => isI i .iand && Nat.beq n 1
  | (26, _, a, _, _) => (match i with
    | .ldc idx => Nat.beq (yO y) 3 && (Nat.beq n 2 && (match cpS[a]? with
      | some e => Nat.beq e.1 idx
      | none => false))
    | _ => false)
  | (27, _, a, _, _) => (match i with
    | .if_icmp .gt off => decide ((pc : Int) + off = (a : Int)) && Nat.beq n 3
    | _ => false)
  | (28, _, _, _, _) => isI i .aaload && Nat.beq n 1
  | (29, _, a, _, _) => (match i with
    | .if_icmp .le off => decide ((pc : Int) + off = (a : Int)) && Nat.beq n 3
    | _ => false)
  | (30, _, _, _, _) => isI i .ishr && Nat.beq n 1
  | (31, _, a, _, _) => (match i with
    | .ifCond .le off => decide ((pc : Int) + off = (a : Int)) && Nat.beq n 3
    | _ => false)
  | (32, _, a, _, _) => (match i with
    | .ifCond .ge off => decide ((pc : Int) + off = (a : Int)) && Nat.beq n 3
    | _ => false)
  | (33, _, _, _, _) => isI i .ior && Nat.beq n 1
  | (34, _, _, _, _) => isI i .bastore && Nat.beq n 1
  | (35, _, _, _, _) => isI i .baload && Nat.beq n 1
  | (36, _, a, _, _) => (match i with
    | .ifCond .lt off => decide ((pc : Int) + off = (a : Int)) && Nat.beq n 3
    | _ => false)
  | (37, _, a, b, _) => (match i with
    | .tableswitch dflt lo hi offs => decide ((pc : Int) + dflt = (b : Int)) && (match tsT.getD a (0, []) with
      | (lo', ts) => decide (lo' = lo) && (decide (0 ≤ lo) && (decide (hi = lo + (ts.length : Int) - 1) && (decide (offs.toList.map (fun o => (pc : Int) + o) = ts.map Int.ofNat) && decide (lo + (ts.length : Int) < 1000)))))
    | _ => false)
  | (38, _, _, _, _) => isI i .ixor && Nat.beq n 1
  | (39, _, _, _, _) => isI i .dup2 && Nat.beq n 1
  | (40, _, _, _, _) => isI i .land && Nat.beq n 1
  | (41, _, _, _, _) => isI i .lshr && Nat.beq n 1
  | (42, _, _, _, _) => isI i .lshl && Nat.beq n 1
  | (43, _, _, _, _) => isI i .lor && Nat.beq n 1
  | (44, _, _, _, _) => isI i .lcmp && Nat.beq n 1
  | (45, _, _, _, _) => isI i .l2i && Nat.beq n 1
  | (46, _, _, _, _) => isI i .iushr && Nat.beq n 1
  | (47, _, a, _, _) => (match i with
    | .ifCond .gt off => decide ((pc : Int) + off = (a : Int)) && Nat.beq n 3
    | _ => false)
  | (48, _, _, _, _) => isI i .arraylength && Nat.beq n 1
  | (49, _, _, _, _) => isI i .idiv && Nat.beq n 1
  | (50, _, _, _, _) => isI i .irem && Nat.beq n 1
  | (51, _, _, _, _) => isI i .areturn && (Nat.beq n 1 && decide (yR y = some (.object RX5)))
  | (52, _, _, _, _) => isI i (.invokevirtual 175) && (Nat.beq n 3 && Nat.beq (yO y) 3)
  | (53, _, _, _, _) => isI i (.invokevirtual 180) && (Nat.beq n 3 && Nat.beq (yO y) 3)
  | (54, _, _, _, _) => isI i .ireturn && (Nat.beq n 1 && decide (yR y = some .boolean))
  | (63, _, _, _, _) => true
  | _ => false
def chk (y pc : Nat) : Bool := match ins y pc with
  | (63, _, _, _, _) => true
  | (o, v, a, b, nx) => (match decode (yC y) pc with
    | .ok (i, n) => Nat.beq nx (pc + n) && rel y pc i n (o, v, a, b, nx)
    | .error _ => false)
def chkM (y : Nat) : Bool := (List.range (plen y)).all (chk y)

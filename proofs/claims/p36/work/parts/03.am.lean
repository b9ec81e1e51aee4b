/-! THE ABSTRACT MACHINE: ints are whole numbers, a reference is (tag, number), the heap after the constructors is a fixed layout -/
abbrev Vv : Type := Int ⊕ (Int64 ⊕ (Nat × Nat))
abbrev Mm : Type := (Nat → Nat → Nat → Int) × (Nat → Nat → Nat → Int64)
abbrev AI : Type := Jvm.ClassFile.Instr × Nat × Nat × Int
abbrev Kd : Type := List (List (Nat × AI))
abbrev Ls : Type := List (Option Vv)
abbrev Go : Type := Nat × Ls × List Vv × Mm
abbrev SR : Type := Go ⊕ ((Nat × List Vv × Nat × Ls × List Vv) ⊕ (Option Vv ⊕ Nat))
/-- the script: how many ints, which -/
abbrev Sc : Type := Option (Nat × (Nat → Int))
def wrap (x : Int) : Int := (Int32.ofInt x).toInt
def inR (x : Int) : Prop := -2147483648 ≤ x ∧ x ≤ 2147483647
def nthL {α : Type} : List α → Nat → Option α
  | [], _ => none
  | a :: _, 0 => some a
  | _ :: l, n + 1 => nthL l n
def look (pc : Nat) : List (Nat × AI) → Option AI
  | [] => none
  | q :: l => bif Nat.beq pc q.1 then some q.2 else look pc l
def fetch (K : Kd) (pc : Nat) : Option AI := match nthL K (pc / 32) with
  | some l => look pc l
  | none => none
def setI (M : Mm) (t i k : Nat) (v : Int) : Mm := (fun t' i' k' => if t' = t then (if i' = i then (if k' = k then v else M.1 t' i' k') else M.1 t' i' k') else M.1 t' i' k', M.2)
def setJ (M : Mm) (t i k : Nat) (v : Int64) : Mm := (M.1, fun t' i' k' => if t' = t then (if i' = i then (if k' = k then v else M.2 t' i' k') else M.2 t' i' k') else M.2 t' i' k')
def getL (ls : Ls) (i : Nat) : Option Vv := match nthL ls i with
  | some (some v) => some v
  | _ => none
/-- what stood one place below loses its second half -/
def clrL (ls : Ls) (i : Nat) : Ls := match i with
  | 0 => ls
  | j + 1 => match nthL ls j with
    | some (some (.inr (.inl _))) => ls.set j none
    | _ => ls
def stI (ls : Ls) (i : Nat) (v : Vv) : Ls := (clrL ls i).set i (some v)
def stJ (ls : Ls) (i : Nat) (v : Int64) : Ls := ((clrL ls i).set i (some (.inr (.inl v)))).set (i + 1) none
def popN : Nat → List Vv → List Vv → Option (List Vv × List Vv)
  | 0, acc, st => some (acc, st)
  | n + 1, acc, v :: st => popN n (v :: acc) st
  | _ + 1, _, [] => none
def idv (a b : Int) : Int := (Int32.ofInt a / Int32.ofInt b).toInt
def irm (a b : Int) : Int := (Int32.ofInt a % Int32.ofInt b).toInt
def ian (a b : Int) : Int := (Int32.ofInt a &&& Int32.ofInt b).toInt
def ior' (a b : Int) : Int := (Int32.ofInt a ||| Int32.ofInt b).toInt
def ixr (a b : Int) : Int := (Int32.ofInt a ^^^ Int32.ofInt b).toInt
def ish (a b : Int) : Int := (Int32.ofInt a <<< (Int32.ofInt b &&& 31)).toInt
def isr (a b : Int) : Int := (Int32.ofInt a >>> (Int32.ofInt b &&& 31)).toInt
def ius (a b : Int) : Int := ((Int32.ofInt a).toUInt32 >>> ((Int32.ofInt b).toUInt32 &&& Int32.toUInt32 31)).toInt32.toInt
def lsh (a : Int64) (b : Int) : Int64 := a <<< ((Int32.ofInt b).toInt64 &&& 63)
def lsr (a : Int64) (b : Int) : Int64 := a >>> ((Int32.ofInt b).toInt64 &&& 63)
def lus (a : Int64) (b : Int) : Int64 := (a.toUInt64 >>> ((Int32.ofInt b).toInt64.toUInt64 &&& Int64.toUInt64 63)).toInt64
def lcm (a b : Int64) : Int := (lg_cmp a b).toInt
def tswT (pc : Nat) (dflt lo hi : Int) (offs : Array Int) (v : Int) : Nat := if v < lo then ((pc : Int) + dflt).toNat else if hi < v then ((pc : Int) + dflt).toNat else ((pc : Int) + (offs.toList.getD (v - lo).toNat 0)).toNat
/-! the layout -/
def nF : Nat → Nat
  | 0 => 10 | 1 => 4 | 2 => 16 | 3 => 11 | 4 => 2 | 5 => 12 | 6 => 6 | 7 => 11 | 8 => 2 | 9 => 7 | _ => 0
def fkT : List (List Nat) := [[2, 2, 2, 2, 2, 2, 2, 2, 0, 0], [2, 0, 0, 0], [2, 2, 2, 2, 2, 2, 2, 2, 2, 2, 2, 0, 0, 0, 0, 0], [3, 2, 2, 2, 2, 2, 2, 2, 2, 0, 0], [2, 2], [3, 3, 3, 2, 3, 2, 2, 2, 2, 2, 1, 0], [2, 2, 0, 0, 0, 0], [2, 2, 2, 2, 2, 2, 2, 2, 2, 0, 0], [2, 2], [3, 3, 3, 3, 3, 3, 1]]
/-- the kind of field k of class t: 0 int, 1 boolean, 2 an array, 3 an object -/
def fK (t k : Nat) : Nat := match nthL fkT t with
  | some l => (match nthL l k with
    | some q => q
    | none => 9)
  | none => 9
def aT : List (List (Nat × Nat)) := [[(0, 340), (0, 340), (0, 340), (0, 340), (0, 340), (0, 53), (0, 52), (0, 52), (9, 0), (9, 0)],
  [(0, 108), (9, 0), (9, 0), (9, 0)],
  [(0, 96), (0, 96), (0, 96), (0, 96), (0, 96), (0, 340), (0, 340), (0, 340), (0, 340), (1, 49), (1, 49), (9, 0), (9, 0), (9, 0), (9, 0), (9, 0)],
  [(9, 0), (1, 48), (0, 49), (1, 288), (0, 288), (0, 288), (0, 288), (0, 72), (0, 72), (9, 0), (9, 0)],
  [(0, 12), (0, 12)],
  [(9, 0), (9, 0), (9, 0), (3, 12), (9, 0), (1, 48), (1, 48), (0, 26), (0, 144), (0, 144), (9, 0), (9, 0)],
  [(0, 60), (0, 150), (9, 0), (9, 0), (9, 0), (9, 0)],
  [(0, 864), (0, 864), (0, 864), (0, 864), (0, 864), (0, 864), (0, 864), (0, 864), (0, 864), (9, 0), (9, 0)],
  [(0, 2304), (0, 2304)],
  [(9, 0), (9, 0), (9, 0), (9, 0), (9, 0), (9, 0), (9, 0)]]
def aE (t : Nat) : Nat × Nat := match nthL aT (t / 100 - 1) with
  | some l => (match nthL l (t % 100) with
    | some q => q
    | none => (9, 0))
  | none => (9, 0)
/-- an array's kind by its tag: 0 int, 1 long, 2 boolean, 3 of phases, 9 none; its length -/
def aK (t : Nat) : Nat := bif Nat.blt t 100 then 9 else (aE t).1
def aL (t : Nat) : Nat := bif Nat.blt t 100 then 0 else (aE t).2
/-- where an object field points: class and field in one number, the owner's number -/
def oF (a i : Nat) : Nat × Nat :=
  bif Nat.beq a 300 then (2, i) else bif Nat.beq a 500 then (0, 0) else bif Nat.beq a 501 then (7, 0) else bif Nat.beq a 502 then (3, 12) else bif Nat.beq a 504 then (8, 0)
  else bif Nat.beq a 900 then (4, 0) else bif Nat.beq a 901 then (4, 1) else bif Nat.beq a 902 then (4, 2) else bif Nat.beq a 903 then (1, 0) else bif Nat.beq a 904 then (6, 0) else (5, 0)
def cntT : List Nat := [1, 1, 13, 13, 3, 1, 1, 1, 1, 1]
def cnt (t : Nat) : Nat := (nthL cntT t).getD 0
def arrTags : List Nat := (List.range 10).flatMap fun c => (List.range (nF c)).filterMap fun k => bif Nat.beq (fK c k) 2 then some (100 * (c + 1) + k) else none
/-- all cells -/
def dom : List (Nat × Nat) := ((List.range 10).flatMap fun t => (List.range (cnt t)).map fun i => (t, i)) ++ (arrTags.flatMap fun t => (List.range (cnt (t / 100 - 1))).map fun i => (t, i))
/-- RectilinearRoof$Edges.build(LRectilinearRoof$Outline;)V -/
def K_1 : Kd := [[(0, .aload_n 0, 1, 0, 0), (1, .aload_n 1, 1, 0, 0), (2, .getfield 36, 3, 213, 0), (5, .putfield 42, 3, 8, 0), (8, .aload_n 0, 1, 0, 0), (9, .iconst 0, 1, 0, 0), (10, .putfield 45, 3, 9, 0), (13, .aload_n 0, 1, 0, 0), (14, .getfield 27, 3, 5, 0), (17, .iconst 0, 1, 0, 0), (18, .invokestatic 48, 3, 1104, 0), (21, .iconst 0, 1, 0, 0), (22, .istore_n 2, 1, 0, 0), (23, .iload_n 2, 1, 0, 0), (24, .aload_n 0, 1, 0, 0), (25, .getfield 42, 3, 8, 0), (28, .if_icmp .ge 96, 3, 124, 0), (31, .aload_n 0, 1, 0, 0)],
  [(32, .getfield 9, 3, 0, 0), (35, .iload_n 2, 1, 0, 0), (36, .aload_n 1, 1, 0, 0), (37, .iload_n 2, 1, 0, 0), (38, .invokevirtual 54, 3, 212, 0), (41, .invokestatic 58, 3, 938, 0), (44, .aload_n 0, 1, 0, 0), (45, .getfield 15, 3, 1, 0), (48, .iload_n 2, 1, 0, 0), (49, .aload_n 1, 1, 0, 0), (50, .iload_n 2, 1, 0, 0), (51, .invokevirtual 62, 3, 213, 0), (54, .invokestatic 65, 3, 943, 0), (57, .invokestatic 58, 3, 938, 0), (60, .aload_n 0, 1, 0, 0), (61, .getfield 18, 3, 2, 0)],
  [(64, .iload_n 2, 1, 0, 0), (65, .aload_n 1, 1, 0, 0), (66, .iload_n 2, 1, 0, 0), (67, .invokevirtual 68, 3, 214, 0), (70, .invokestatic 65, 3, 943, 0), (73, .invokestatic 58, 3, 938, 0), (76, .aload_n 0, 1, 0, 0), (77, .getfield 21, 3, 3, 0), (80, .iload_n 2, 1, 0, 0), (81, .aload_n 1, 1, 0, 0), (82, .iload_n 2, 1, 0, 0), (83, .invokevirtual 71, 3, 215, 0), (86, .invokestatic 65, 3, 943, 0), (89, .invokestatic 58, 3, 938, 0), (92, .aload_n 0, 1, 0, 0), (93, .iload_n 2, 1, 0, 0), (94, .invokevirtual 74, 3, 2, 0)],
  [(97, .iconst 1, 1, 0, 0), (98, .iadd, 1, 0, 0), (99, .istore_n 3, 1, 0, 0), (100, .aload_n 0, 1, 0, 0), (101, .getfield 27, 3, 5, 0), (104, .iload_n 3, 1, 0, 0), (105, .aload_n 0, 1, 0, 0), (106, .getfield 27, 3, 5, 0), (109, .iload_n 3, 1, 0, 0), (110, .invokestatic 77, 3, 937, 0), (113, .iconst 1, 1, 0, 0), (114, .iadd, 1, 0, 0), (115, .invokestatic 58, 3, 938, 0), (118, .iinc 2 1, 3, 0, 0), (121, .goto (-98), 3, 23, 0), (124, .iconst 0, 1, 0, 0), (125, .istore_n 2, 1, 0, 0), (126, .iload_n 2, 1, 0, 0), (127, .bipush 52, 2, 0, 0)],
  [(129, .if_icmp .ge 54, 3, 183, 0), (132, .aload_n 0, 1, 0, 0), (133, .getfield 27, 3, 5, 0), (136, .iload_n 2, 1, 0, 0), (137, .iconst 1, 1, 0, 0), (138, .iadd, 1, 0, 0), (139, .aload_n 0, 1, 0, 0), (140, .getfield 27, 3, 5, 0), (143, .iload_n 2, 1, 0, 0), (144, .invokestatic 77, 3, 937, 0), (147, .aload_n 0, 1, 0, 0), (148, .getfield 27, 3, 5, 0), (151, .iload_n 2, 1, 0, 0), (152, .iconst 1, 1, 0, 0), (153, .iadd, 1, 0, 0), (154, .invokestatic 77, 3, 937, 0), (157, .iadd, 1, 0, 0), (158, .invokestatic 58, 3, 938, 0)],
  [(161, .aload_n 0, 1, 0, 0), (162, .getfield 30, 3, 6, 0), (165, .iload_n 2, 1, 0, 0), (166, .aload_n 0, 1, 0, 0), (167, .getfield 27, 3, 5, 0), (170, .iload_n 2, 1, 0, 0), (171, .invokestatic 77, 3, 937, 0), (174, .invokestatic 58, 3, 938, 0), (177, .iinc 2 1, 3, 0, 0), (180, .goto (-54), 3, 126, 0), (183, .iconst 0, 1, 0, 0), (184, .istore_n 2, 1, 0, 0), (185, .iload_n 2, 1, 0, 0), (186, .aload_n 0, 1, 0, 0), (187, .getfield 42, 3, 8, 0), (190, .if_icmp .ge 14, 3, 204, 0)],
  [(193, .aload_n 0, 1, 0, 0), (194, .iload_n 2, 1, 0, 0), (195, .invokevirtual 81, 3, 3, 0), (198, .iinc 2 1, 3, 0, 0), (201, .goto (-16), 3, 185, 0), (204, .return_, 1, 0, 0)]]
/-- RectilinearRoof$Edges.keyOf(I)I -/
def K_2 : Kd := [[(0, .aload_n 0, 1, 0, 0), (1, .iload_n 1, 1, 0, 0), (2, .invokevirtual 85, 3, 4, 0), (5, .bipush 13, 2, 0, 0), (7, .imul, 1, 0, 0), (8, .aload_n 0, 1, 0, 0), (9, .iload_n 1, 1, 0, 0), (10, .invokevirtual 86, 3, 5, 0), (13, .iadd, 1, 0, 0), (14, .ireturn, 1, 0, 0)]]
/-- RectilinearRoof$Edges.sortIn(I)V -/
def K_3 : Kd := [[(0, .aload_n 0, 1, 0, 0), (1, .iload_n 1, 1, 0, 0), (2, .invokevirtual 74, 3, 2, 0), (5, .istore_n 2, 1, 0, 0), (6, .aload_n 0, 1, 0, 0), (7, .getfield 30, 3, 6, 0), (10, .iload_n 2, 1, 0, 0), (11, .invokestatic 77, 3, 937, 0), (14, .istore_n 3, 1, 0, 0), (15, .iload_n 3, 1, 0, 0), (16, .aload_n 0, 1, 0, 0), (17, .getfield 27, 3, 5, 0), (20, .iload_n 2, 1, 0, 0), (21, .invokestatic 77, 3, 937, 0), (24, .if_icmp .ne 25, 3, 49, 0), (27, .aload_n 0, 1, 0, 0), (28, .getfield 33, 3, 7, 0), (31, .aload_n 0, 1, 0, 0)],
  [(32, .getfield 45, 3, 9, 0), (35, .iload_n 2, 1, 0, 0), (36, .invokestatic 58, 3, 938, 0), (39, .aload_n 0, 1, 0, 0), (40, .dup, 1, 0, 0), (41, .getfield 45, 3, 9, 0), (44, .iconst 1, 1, 0, 0), (45, .iadd, 1, 0, 0), (46, .putfield 45, 3, 9, 0), (49, .aload_n 0, 1, 0, 0), (50, .getfield 24, 3, 4, 0), (53, .iload_n 3, 1, 0, 0), (54, .iload_n 1, 1, 0, 0), (55, .invokestatic 58, 3, 938, 0), (58, .aload_n 0, 1, 0, 0), (59, .getfield 30, 3, 6, 0), (62, .iload_n 2, 1, 0, 0), (63, .iload_n 3, 1, 0, 0)],
  [(64, .iconst 1, 1, 0, 0), (65, .iadd, 1, 0, 0), (66, .invokestatic 58, 3, 938, 0), (69, .return_, 1, 0, 0)]]
/-- RectilinearRoof$Edges.directionOf(I)I -/
def K_4 : Kd := [[(0, .aload_n 0, 1, 0, 0), (1, .getfield 9, 3, 0, 0), (4, .iload_n 1, 1, 0, 0), (5, .invokestatic 77, 3, 937, 0), (8, .ireturn, 1, 0, 0)]]
/-- RectilinearRoof$Edges.lineOf(I)I -/
def K_5 : Kd := [[(0, .aload_n 0, 1, 0, 0), (1, .getfield 15, 3, 1, 0), (4, .iload_n 1, 1, 0, 0), (5, .invokestatic 77, 3, 937, 0), (8, .ireturn, 1, 0, 0)]]
/-- RectilinearRoof$Edges.lowOf(I)I -/
def K_6 : Kd := [[(0, .aload_n 0, 1, 0, 0), (1, .getfield 18, 3, 2, 0), (4, .iload_n 1, 1, 0, 0), (5, .invokestatic 77, 3, 937, 0), (8, .ireturn, 1, 0, 0)]]
/-- RectilinearRoof$Edges.highOf(I)I -/
def K_7 : Kd := [[(0, .aload_n 0, 1, 0, 0), (1, .getfield 21, 3, 3, 0), (4, .iload_n 1, 1, 0, 0), (5, .invokestatic 77, 3, 937, 0), (8, .ireturn, 1, 0, 0)]]
/-- RectilinearRoof$Edges.overlaps(III)Z -/
def K_8 : Kd := [[(0, .iload_n 2, 1, 0, 0), (1, .bipush 8, 2, 0, 0), (3, .aload_n 0, 1, 0, 0), (4, .getfield 21, 3, 3, 0), (7, .iload_n 1, 1, 0, 0), (8, .invokestatic 77, 3, 937, 0), (11, .imul, 1, 0, 0), (12, .if_icmp .ge 22, 3, 34, 0), (15, .iload_n 3, 1, 0, 0), (16, .bipush 8, 2, 0, 0), (18, .aload_n 0, 1, 0, 0), (19, .getfield 18, 3, 2, 0), (22, .iload_n 1, 1, 0, 0), (23, .invokestatic 77, 3, 937, 0), (26, .imul, 1, 0, 0), (27, .if_icmp .le 7, 3, 34, 0), (30, .iconst 1, 1, 0, 0), (31, .goto 4, 3, 35, 0)],
  [(34, .iconst 0, 1, 0, 0), (35, .ireturn, 1, 0, 0)]]
/-- RectilinearRoof$Edges.along(IIIII)I -/
def K_9 : Kd := [[(0, .iload_n 2, 1, 0, 0), (1, .ifCond .lt 20, 3, 21, 0), (4, .iload_n 2, 1, 0, 0), (5, .bipush 96, 2, 0, 0), (7, .if_icmp .gt 14, 3, 21, 0), (10, .iload_n 2, 1, 0, 0), (11, .bipush 8, 2, 0, 0), (13, .irem, 1, 0, 0), (14, .ifCond .ne 7, 3, 21, 0), (17, .iconst 1, 1, 0, 0), (18, .goto 4, 3, 22, 0), (21, .iconst 0, 1, 0, 0), (22, .istore 6, 2, 0, 0), (24, .iload_n 1, 1, 0, 0), (25, .bipush 13, 2, 0, 0), (27, .imul, 1, 0, 0), (28, .iload_n 2, 1, 0, 0), (29, .bipush 8, 2, 0, 0), (31, .idiv, 1, 0, 0)],
  [(32, .iadd, 1, 0, 0), (33, .istore 7, 2, 0, 0), (35, .iload 6, 2, 0, 0), (37, .ifCond .eq 15, 3, 52, 0), (40, .aload_n 0, 1, 0, 0), (41, .getfield 30, 3, 6, 0), (44, .iload 7, 2, 0, 0), (46, .invokestatic 77, 3, 937, 0), (49, .goto 4, 3, 53, 0), (52, .iconst 0, 1, 0, 0), (53, .istore 8, 2, 0, 0), (55, .iconst 0, 1, 0, 0), (56, .istore 9, 2, 0, 0), (58, .iconst (-1), 1, 0, 0), (59, .istore 10, 2, 0, 0), (61, .iconst (-1), 1, 0, 0), (62, .istore 11, 2, 0, 0)],
  [(64, .aload_n 0, 1, 0, 0), (65, .getfield 27, 3, 5, 0), (68, .iload 7, 2, 0, 0), (70, .invokestatic 77, 3, 937, 0), (73, .istore 12, 2, 0, 0), (75, .iload 12, 2, 0, 0), (77, .iload 8, 2, 0, 0), (79, .if_icmp .ge 53, 3, 132, 0), (82, .aload_n 0, 1, 0, 0), (83, .getfield 24, 3, 4, 0), (86, .iload 12, 2, 0, 0), (88, .invokestatic 77, 3, 937, 0), (91, .istore 13, 2, 0, 0), (93, .aload_n 0, 1, 0, 0), (94, .iload 13, 2, 0, 0)],
  [(96, .iload_n 3, 1, 0, 0), (97, .iload 4, 2, 0, 0), (99, .invokevirtual 87, 3, 8, 0), (102, .ifCond .eq 24, 3, 126, 0), (105, .iinc 9 1, 3, 0, 0), (108, .iload 10, 2, 0, 0), (110, .ifCond .ge 8, 3, 118, 0), (113, .iload 13, 2, 0, 0), (115, .goto 5, 3, 120, 0), (118, .iload 10, 2, 0, 0), (120, .istore 10, 2, 0, 0), (122, .iload 13, 2, 0, 0), (124, .istore 11, 2, 0, 0), (126, .iinc 12 1, 3, 0, 0)],
  [(129, .goto (-54), 3, 75, 0), (132, .iload 5, 2, 0, 0), (134, .ifCond .ne 6, 3, 140, 0), (137, .iload 9, 2, 0, 0), (139, .ireturn, 1, 0, 0), (140, .iload 5, 2, 0, 0), (142, .iconst 1, 1, 0, 0), (143, .if_icmp .ne 8, 3, 151, 0), (146, .iload 10, 2, 0, 0), (148, .goto 5, 3, 153, 0), (151, .iload 11, 2, 0, 0), (153, .ireturn, 1, 0, 0)]]
/-- RectilinearRoof$Edges.groupProperty(II)I -/
def K_10 : Kd := [[(0, .aload_n 0, 1, 0, 0), (1, .getfield 33, 3, 7, 0), (4, .iload_n 1, 1, 0, 0), (5, .invokestatic 77, 3, 937, 0), (8, .istore_n 3, 1, 0, 0), (9, .iload_n 2, 1, 0, 0), (10, .tableswitch 54 0 2 #[26, 31, 36], 26, 0, 0)],
  [(36, .iload_n 3, 1, 0, 0), (37, .bipush 13, 2, 0, 0), (39, .idiv, 1, 0, 0), (40, .ireturn, 1, 0, 0), (41, .iload_n 3, 1, 0, 0), (42, .bipush 13, 2, 0, 0), (44, .irem, 1, 0, 0), (45, .ireturn, 1, 0, 0), (46, .aload_n 0, 1, 0, 0), (47, .getfield 30, 3, 6, 0), (50, .iload_n 3, 1, 0, 0), (51, .invokestatic 77, 3, 937, 0), (54, .aload_n 0, 1, 0, 0), (55, .getfield 27, 3, 5, 0), (58, .iload_n 3, 1, 0, 0), (59, .invokestatic 77, 3, 937, 0), (62, .isub, 1, 0, 0), (63, .ireturn, 1, 0, 0)],
  [(64, .aload_n 0, 1, 0, 0), (65, .iload_n 3, 1, 0, 0), (66, .invokevirtual 91, 3, 11, 0), (69, .ireturn, 1, 0, 0)]]
/-- RectilinearRoof$Edges.lengthOfKey(I)I -/
def K_11 : Kd := [[(0, .iconst 0, 1, 0, 0), (1, .istore_n 2, 1, 0, 0), (2, .aload_n 0, 1, 0, 0), (3, .getfield 30, 3, 6, 0), (6, .iload_n 1, 1, 0, 0), (7, .invokestatic 77, 3, 937, 0), (10, .istore_n 3, 1, 0, 0), (11, .aload_n 0, 1, 0, 0), (12, .getfield 27, 3, 5, 0), (15, .iload_n 1, 1, 0, 0), (16, .invokestatic 77, 3, 937, 0), (19, .istore 4, 2, 0, 0), (21, .iload 4, 2, 0, 0), (23, .iload_n 3, 1, 0, 0), (24, .if_icmp .ge 36, 3, 60, 0), (27, .aload_n 0, 1, 0, 0), (28, .getfield 24, 3, 4, 0), (31, .iload 4, 2, 0, 0)],
  [(33, .invokestatic 77, 3, 937, 0), (36, .istore 5, 2, 0, 0), (38, .iload_n 2, 1, 0, 0), (39, .aload_n 0, 1, 0, 0), (40, .iload 5, 2, 0, 0), (42, .invokevirtual 94, 3, 7, 0), (45, .aload_n 0, 1, 0, 0), (46, .iload 5, 2, 0, 0), (48, .invokevirtual 95, 3, 6, 0), (51, .isub, 1, 0, 0), (52, .iadd, 1, 0, 0), (53, .istore_n 2, 1, 0, 0), (54, .iinc 4 1, 3, 0, 0), (57, .goto (-36), 3, 21, 0), (60, .iload_n 2, 1, 0, 0), (61, .ireturn, 1, 0, 0)]]
/-- RectilinearRoof$History.record(LRectilinearRoof$Region;)V -/
def K_101 : Kd := [[(0, .aload_n 0, 1, 0, 0), (1, .aload_n 0, 1, 0, 0), (2, .getfield 15, 3, 101, 0), (5, .iconst 1, 1, 0, 0), (6, .iadd, 1, 0, 0), (7, .bipush 9, 2, 0, 0), (9, .irem, 1, 0, 0), (10, .putfield 15, 3, 101, 0), (13, .iconst 0, 1, 0, 0), (14, .istore_n 2, 1, 0, 0), (15, .iload_n 2, 1, 0, 0), (16, .bipush 12, 2, 0, 0), (18, .if_icmp .ge 33, 3, 51, 0), (21, .aload_n 0, 1, 0, 0), (22, .getfield 9, 3, 100, 0), (25, .aload_n 0, 1, 0, 0), (26, .getfield 15, 3, 101, 0), (29, .bipush 12, 2, 0, 0), (31, .imul, 1, 0, 0)],
  [(32, .iload_n 2, 1, 0, 0), (33, .iadd, 1, 0, 0), (34, .aload_n 1, 1, 0, 0), (35, .getfield 19, 3, 400, 0), (38, .iload_n 2, 1, 0, 0), (39, .invokestatic 24, 3, 937, 0), (42, .invokestatic 28, 3, 938, 0), (45, .iinc 2 1, 3, 0, 0), (48, .goto (-33), 3, 15, 0), (51, .aload_n 0, 1, 0, 0), (52, .aload_n 0, 1, 0, 0), (53, .getfield 32, 3, 102, 0), (56, .iconst 1, 1, 0, 0), (57, .iadd, 1, 0, 0), (58, .bipush 8, 2, 0, 0), (60, .invokestatic 35, 3, 1103, 0), (63, .putfield 32, 3, 102, 0)],
  [(66, .aload_n 0, 1, 0, 0), (67, .iconst 0, 1, 0, 0), (68, .putfield 41, 3, 103, 0), (71, .return_, 1, 0, 0)]]
/-- RectilinearRoof$Outline.trace(LRectilinearRoof$Phase;)V -/
def K_201 : Kd := [[(0, .aload_n 0, 1, 0, 0), (1, .iconst 0, 1, 0, 0), (2, .putfield 46, 3, 211, 0), (5, .aload_n 0, 1, 0, 0), (6, .iconst 0, 1, 0, 0), (7, .putfield 50, 3, 212, 0), (10, .aload_n 0, 1, 0, 0), (11, .iconst 0, 1, 0, 0), (12, .putfield 53, 3, 213, 0), (15, .aload_n 0, 1, 0, 0), (16, .iconst 0, 1, 0, 0), (17, .putfield 56, 3, 214, 0), (20, .aload_n 0, 1, 0, 0), (21, .iconst 0, 1, 0, 0), (22, .putfield 59, 3, 215, 0), (25, .aload_n 0, 1, 0, 0), (26, .aload_n 1, 1, 0, 0), (27, .invokevirtual 62, 3, 202, 0), (30, .iconst 0, 1, 0, 0), (31, .istore_n 2, 1, 0, 0)],
  [(32, .iload_n 2, 1, 0, 0), (33, .aload_n 0, 1, 0, 0), (34, .getfield 43, 3, 210, 0), (37, .arraylength, 1, 0, 0), (38, .if_icmp .ge 49, 3, 87, 0), (41, .iconst 0, 1, 0, 0), (42, .istore_n 3, 1, 0, 0), (43, .iload_n 3, 1, 0, 0), (44, .bipush 48, 2, 0, 0), (46, .if_icmp .gt 35, 3, 81, 0), (49, .aload_n 0, 1, 0, 0), (50, .getfield 43, 3, 210, 0), (53, .iload_n 2, 1, 0, 0), (54, .laload, 1, 0, 0), (55, .lconst 0, 1, 0, 0), (56, .lcmp, 1, 0, 0), (57, .ifCond .eq 24, 3, 81, 0), (60, .aload_n 0, 1, 0, 0), (61, .aload_n 1, 1, 0, 0), (62, .aload_n 0, 1, 0, 0), (63, .getfield 43, 3, 210, 0)],
  [(66, .iload_n 2, 1, 0, 0), (67, .laload, 1, 0, 0), (68, .invokestatic 66, 3, 944, 0), (71, .iload_n 2, 1, 0, 0), (72, .invokevirtual 70, 3, 203, 0), (75, .iinc 3 1, 3, 0, 0), (78, .goto (-35), 3, 43, 0), (81, .iinc 2 1, 3, 0, 0), (84, .goto (-52), 3, 32, 0), (87, .return_, 1, 0, 0)]]
/-- RectilinearRoof$Outline.findBends(LRectilinearRoof$Phase;)V -/
def K_202 : Kd := [[(0, .iconst 0, 1, 0, 0), (1, .istore_n 2, 1, 0, 0), (2, .iload_n 2, 1, 0, 0), (3, .aload_n 0, 1, 0, 0), (4, .getfield 39, 3, 209, 0), (7, .arraylength, 1, 0, 0), (8, .if_icmp .ge 59, 3, 67, 0), (11, .iload_n 2, 1, 0, 0), (12, .aload_n 0, 1, 0, 0), (13, .getfield 43, 3, 210, 0), (16, .arraylength, 1, 0, 0), (17, .if_icmp .ge 50, 3, 67, 0), (20, .aload_n 1, 1, 0, 0), (21, .iload_n 2, 1, 0, 0), (22, .iconst 1, 1, 0, 0), (23, .isub, 1, 0, 0), (24, .invokevirtual 74, 3, 302, 0), (27, .aload_n 1, 1, 0, 0), (28, .iload_n 2, 1, 0, 0), (29, .invokevirtual 74, 3, 302, 0)],
  [(32, .lxor, 1, 0, 0), (33, .lstore_n 3, 1, 0, 0), (34, .aload_n 0, 1, 0, 0), (35, .getfield 39, 3, 209, 0), (38, .iload_n 2, 1, 0, 0), (39, .lload_n 3, 1, 0, 0), (40, .lload_n 3, 1, 0, 0), (41, .iconst 1, 1, 0, 0), (42, .lshl, 1, 0, 0), (43, .lxor, 1, 0, 0), (44, .ldc2_w 80, 3, 0, 562949953421311), (47, .land, 1, 0, 0), (48, .lastore, 1, 0, 0), (49, .aload_n 0, 1, 0, 0), (50, .getfield 43, 3, 210, 0), (53, .iload_n 2, 1, 0, 0), (54, .aload_n 0, 1, 0, 0), (55, .getfield 39, 3, 209, 0), (58, .iload_n 2, 1, 0, 0), (59, .laload, 1, 0, 0), (60, .lastore, 1, 0, 0), (61, .iinc 2 1, 3, 0, 0)],
  [(64, .goto (-62), 3, 2, 0), (67, .return_, 1, 0, 0)]]
/-- RectilinearRoof$Outline.follow(LRectilinearRoof$Phase;II)V -/
def K_203 : Kd := [[(0, .aload_n 1, 1, 0, 0), (1, .iload_n 2, 1, 0, 0), (2, .iload_n 3, 1, 0, 0), (3, .invokevirtual 82, 3, 301, 0), (6, .ifCond .ne 7, 3, 13, 0), (9, .iconst 1, 1, 0, 0), (10, .goto 4, 3, 14, 0), (13, .iconst 0, 1, 0, 0), (14, .istore 4, 2, 0, 0), (16, .aload_n 0, 1, 0, 0), (17, .getfield 53, 3, 213, 0), (20, .istore 5, 2, 0, 0), (22, .iload 4, 2, 0, 0), (24, .ifCond .eq 7, 3, 31, 0), (27, .iconst 1, 1, 0, 0), (28, .goto 4, 3, 32, 0), (31, .iconst 0, 1, 0, 0)],
  [(32, .istore 6, 2, 0, 0), (34, .iload_n 2, 1, 0, 0), (35, .istore 7, 2, 0, 0), (37, .iload_n 3, 1, 0, 0), (38, .istore 8, 2, 0, 0), (40, .iconst 0, 1, 0, 0), (41, .istore 9, 2, 0, 0), (43, .iconst 1, 1, 0, 0), (44, .istore 10, 2, 0, 0), (46, .iconst 0, 1, 0, 0), (47, .istore 11, 2, 0, 0), (49, .iload 11, 2, 0, 0), (51, .sipush 340, 3, 0, 0), (54, .if_icmp .ge 145, 3, 199, 0), (57, .iload 10, 2, 0, 0), (59, .ifCond .eq 140, 3, 199, 0), (62, .aload_n 0, 1, 0, 0), (63, .iload 7, 2, 0, 0)],
  [(65, .iload 8, 2, 0, 0), (67, .iload 6, 2, 0, 0), (69, .invokevirtual 86, 3, 205, 0), (72, .istore 12, 2, 0, 0), (74, .aload_n 0, 1, 0, 0), (75, .iload 7, 2, 0, 0), (77, .iload 8, 2, 0, 0), (79, .iload 6, 2, 0, 0), (81, .iload 12, 2, 0, 0), (83, .invokevirtual 90, 3, 204, 0), (86, .iload 9, 2, 0, 0), (88, .iload 12, 2, 0, 0), (90, .iadd, 1, 0, 0), (91, .istore 9, 2, 0, 0), (93, .iload 7, 2, 0, 0), (95, .iload 12, 2, 0, 0)],
  [(97, .iload 6, 2, 0, 0), (99, .invokestatic 94, 3, 939, 0), (102, .imul, 1, 0, 0), (103, .iadd, 1, 0, 0), (104, .istore 7, 2, 0, 0), (106, .iload 8, 2, 0, 0), (108, .iload 12, 2, 0, 0), (110, .iload 6, 2, 0, 0), (112, .invokestatic 98, 3, 940, 0), (115, .imul, 1, 0, 0), (116, .iadd, 1, 0, 0), (117, .istore 8, 2, 0, 0), (119, .aload_n 1, 1, 0, 0), (120, .iload 7, 2, 0, 0), (122, .iload 8, 2, 0, 0), (124, .invokestatic 101, 3, 207, 0), (127, .iconst 1, 1, 0, 0)],
  [(128, .if_icmp .ne 7, 3, 135, 0), (131, .iconst 1, 1, 0, 0), (132, .goto 4, 3, 136, 0), (135, .iconst 0, 1, 0, 0), (136, .istore 13, 2, 0, 0), (138, .aload_n 0, 1, 0, 0), (139, .dup, 1, 0, 0), (140, .getfield 56, 3, 214, 0), (143, .iload 13, 2, 0, 0), (145, .ifCond .eq 7, 3, 152, 0), (148, .iconst 1, 1, 0, 0), (149, .goto 4, 3, 153, 0), (152, .iconst 0, 1, 0, 0), (153, .iadd, 1, 0, 0), (154, .putfield 56, 3, 214, 0), (157, .iload 6, 2, 0, 0), (159, .iload 13, 2, 0, 0)],
  [(161, .ifCond .eq 7, 3, 168, 0), (164, .iconst 1, 1, 0, 0), (165, .goto 4, 3, 169, 0), (168, .iconst 3, 1, 0, 0), (169, .iadd, 1, 0, 0), (170, .iconst 3, 1, 0, 0), (171, .iand, 1, 0, 0), (172, .istore 6, 2, 0, 0), (174, .iload 7, 2, 0, 0), (176, .iload_n 2, 1, 0, 0), (177, .if_icmp .ne 9, 3, 186, 0), (180, .iload 8, 2, 0, 0), (182, .iload_n 3, 1, 0, 0), (183, .if_icmp .eq 7, 3, 190, 0), (186, .iconst 1, 1, 0, 0), (187, .goto 4, 3, 191, 0), (190, .iconst 0, 1, 0, 0), (191, .istore 10, 2, 0, 0)],
  [(193, .iinc 11 1, 3, 0, 0), (196, .goto (-147), 3, 49, 0), (199, .aload_n 0, 1, 0, 0), (200, .getfield 9, 3, 200, 0), (203, .aload_n 0, 1, 0, 0), (204, .getfield 46, 3, 211, 0), (207, .iload 5, 2, 0, 0), (209, .invokestatic 105, 3, 938, 0), (212, .aload_n 0, 1, 0, 0), (213, .getfield 15, 3, 201, 0), (216, .aload_n 0, 1, 0, 0), (217, .getfield 46, 3, 211, 0), (220, .aload_n 0, 1, 0, 0), (221, .getfield 53, 3, 213, 0)],
  [(224, .iload 5, 2, 0, 0), (226, .isub, 1, 0, 0), (227, .invokestatic 105, 3, 938, 0), (230, .aload_n 0, 1, 0, 0), (231, .getfield 18, 3, 202, 0), (234, .aload_n 0, 1, 0, 0), (235, .getfield 46, 3, 211, 0), (238, .iload 4, 2, 0, 0), (240, .ifCond .eq 7, 3, 247, 0), (243, .iconst 1, 1, 0, 0), (244, .goto 4, 3, 248, 0), (247, .iconst 0, 1, 0, 0), (248, .invokestatic 105, 3, 938, 0), (251, .aload_n 0, 1, 0, 0), (252, .getfield 21, 3, 203, 0), (255, .aload_n 0, 1, 0, 0)],
  [(256, .getfield 46, 3, 211, 0), (259, .aload_n 1, 1, 0, 0), (260, .iload_n 3, 1, 0, 0), (261, .bipush 48, 2, 0, 0), (263, .imul, 1, 0, 0), (264, .iload 4, 2, 0, 0), (266, .ifCond .eq 9, 3, 275, 0), (269, .iload_n 2, 1, 0, 0), (270, .iconst 1, 1, 0, 0), (271, .isub, 1, 0, 0), (272, .goto 4, 3, 276, 0), (275, .iload_n 2, 1, 0, 0), (276, .iadd, 1, 0, 0), (277, .invokevirtual 109, 3, 311, 0), (280, .invokestatic 105, 3, 938, 0), (283, .aload_n 0, 1, 0, 0), (284, .getfield 24, 3, 204, 0), (287, .aload_n 0, 1, 0, 0)],
  [(288, .getfield 46, 3, 211, 0), (291, .iload 9, 2, 0, 0), (293, .invokestatic 105, 3, 938, 0), (296, .aload_n 0, 1, 0, 0), (297, .dup, 1, 0, 0), (298, .getfield 46, 3, 211, 0), (301, .iconst 1, 1, 0, 0), (302, .iadd, 1, 0, 0), (303, .putfield 46, 3, 211, 0), (306, .aload_n 0, 1, 0, 0), (307, .dup, 1, 0, 0), (308, .getfield 50, 3, 212, 0), (311, .iload 4, 2, 0, 0), (313, .ifCond .eq 7, 3, 320, 0), (316, .iconst 1, 1, 0, 0), (317, .goto 4, 3, 321, 0)],
  [(320, .iconst 0, 1, 0, 0), (321, .iadd, 1, 0, 0), (322, .putfield 50, 3, 212, 0), (325, .aload_n 0, 1, 0, 0), (326, .dup, 1, 0, 0), (327, .getfield 59, 3, 215, 0), (330, .iload 9, 2, 0, 0), (332, .iadd, 1, 0, 0), (333, .putfield 59, 3, 215, 0), (336, .return_, 1, 0, 0)]]
/-- RectilinearRoof$Outline.addSide(IIII)V -/
def K_204 : Kd := [[(0, .iload_n 2, 1, 0, 0), (1, .ifCond .lt 28, 3, 29, 0), (4, .iload_n 2, 1, 0, 0), (5, .aload_n 0, 1, 0, 0), (6, .getfield 43, 3, 210, 0), (9, .arraylength, 1, 0, 0), (10, .if_icmp .ge 19, 3, 29, 0), (13, .aload_n 0, 1, 0, 0), (14, .getfield 43, 3, 210, 0), (17, .iload_n 2, 1, 0, 0), (18, .dup2, 1, 0, 0), (19, .laload, 1, 0, 0), (20, .lconst 1, 1, 0, 0), (21, .iload_n 1, 1, 0, 0), (22, .lshl, 1, 0, 0), (23, .ldc2_w 112, 3, 0, (-1)), (26, .lxor, 1, 0, 0), (27, .land, 1, 0, 0), (28, .lastore, 1, 0, 0), (29, .iload_n 3, 1, 0, 0), (30, .invokestatic 114, 3, 942, 0)],
  [(33, .ifCond .eq 7, 3, 40, 0), (36, .iload_n 1, 1, 0, 0), (37, .goto 4, 3, 41, 0), (40, .iload_n 2, 1, 0, 0), (41, .istore 5, 2, 0, 0), (43, .iload_n 3, 1, 0, 0), (44, .ifCond .eq 8, 3, 52, 0), (47, .iload_n 3, 1, 0, 0), (48, .iconst 1, 1, 0, 0), (49, .if_icmp .ne 7, 3, 56, 0), (52, .iconst 1, 1, 0, 0), (53, .goto 4, 3, 57, 0), (56, .iconst 0, 1, 0, 0), (57, .istore 6, 2, 0, 0), (59, .aload_n 0, 1, 0, 0), (60, .getfield 27, 3, 205, 0), (63, .aload_n 0, 1, 0, 0)],
  [(64, .getfield 53, 3, 213, 0), (67, .iload_n 3, 1, 0, 0), (68, .invokestatic 105, 3, 938, 0), (71, .aload_n 0, 1, 0, 0), (72, .getfield 30, 3, 206, 0), (75, .aload_n 0, 1, 0, 0), (76, .getfield 53, 3, 213, 0), (79, .iload_n 3, 1, 0, 0), (80, .invokestatic 114, 3, 942, 0), (83, .ifCond .eq 7, 3, 90, 0), (86, .iload_n 2, 1, 0, 0), (87, .goto 4, 3, 91, 0), (90, .iload_n 1, 1, 0, 0), (91, .invokestatic 105, 3, 938, 0), (94, .aload_n 0, 1, 0, 0), (95, .getfield 33, 3, 207, 0)],
  [(98, .aload_n 0, 1, 0, 0), (99, .getfield 53, 3, 213, 0), (102, .iload 6, 2, 0, 0), (104, .ifCond .eq 8, 3, 112, 0), (107, .iload 5, 2, 0, 0), (109, .goto 8, 3, 117, 0), (112, .iload 5, 2, 0, 0), (114, .iload 4, 2, 0, 0), (116, .isub, 1, 0, 0), (117, .invokestatic 105, 3, 938, 0), (120, .aload_n 0, 1, 0, 0), (121, .getfield 36, 3, 208, 0), (124, .aload_n 0, 1, 0, 0), (125, .getfield 53, 3, 213, 0)],
  [(128, .iload 6, 2, 0, 0), (130, .ifCond .eq 11, 3, 141, 0), (133, .iload 5, 2, 0, 0), (135, .iload 4, 2, 0, 0), (137, .iadd, 1, 0, 0), (138, .goto 5, 3, 143, 0), (141, .iload 5, 2, 0, 0), (143, .invokestatic 105, 3, 938, 0), (146, .aload_n 0, 1, 0, 0), (147, .dup, 1, 0, 0), (148, .getfield 53, 3, 213, 0), (151, .iconst 1, 1, 0, 0), (152, .iadd, 1, 0, 0), (153, .putfield 53, 3, 213, 0), (156, .return_, 1, 0, 0)]]
/-- RectilinearRoof$Outline.stepsToBend(III)I -/
def K_205 : Kd := [[(0, .iconst 1, 1, 0, 0), (1, .istore 4, 2, 0, 0), (3, .iload 4, 2, 0, 0), (5, .bipush 48, 2, 0, 0), (7, .if_icmp .ge 37, 3, 44, 0), (10, .aload_n 0, 1, 0, 0), (11, .iload_n 1, 1, 0, 0), (12, .iload 4, 2, 0, 0), (14, .iload_n 3, 1, 0, 0), (15, .invokestatic 94, 3, 939, 0), (18, .imul, 1, 0, 0), (19, .iadd, 1, 0, 0), (20, .iload_n 2, 1, 0, 0), (21, .iload 4, 2, 0, 0), (23, .iload_n 3, 1, 0, 0), (24, .invokestatic 98, 3, 940, 0), (27, .imul, 1, 0, 0), (28, .iadd, 1, 0, 0), (29, .invokevirtual 118, 3, 206, 0)],
  [(32, .ifCond .eq 6, 3, 38, 0), (35, .iload 4, 2, 0, 0), (37, .ireturn, 1, 0, 0), (38, .iinc 4 1, 3, 0, 0), (41, .goto (-38), 3, 3, 0), (44, .bipush 48, 2, 0, 0), (46, .ireturn, 1, 0, 0)]]
/-- RectilinearRoof$Outline.isBend(II)Z -/
def K_206 : Kd := [[(0, .iload_n 1, 1, 0, 0), (1, .ifCond .lt 41, 3, 42, 0), (4, .iload_n 1, 1, 0, 0), (5, .bipush 48, 2, 0, 0), (7, .if_icmp .gt 35, 3, 42, 0), (10, .iload_n 2, 1, 0, 0), (11, .ifCond .lt 31, 3, 42, 0), (14, .iload_n 2, 1, 0, 0), (15, .aload_n 0, 1, 0, 0), (16, .getfield 39, 3, 209, 0), (19, .arraylength, 1, 0, 0), (20, .if_icmp .ge 22, 3, 42, 0), (23, .aload_n 0, 1, 0, 0), (24, .getfield 39, 3, 209, 0), (27, .iload_n 2, 1, 0, 0), (28, .laload, 1, 0, 0), (29, .iload_n 1, 1, 0, 0), (30, .lshr, 1, 0, 0), (31, .lconst 1, 1, 0, 0)],
  [(32, .land, 1, 0, 0), (33, .lconst 0, 1, 0, 0), (34, .lcmp, 1, 0, 0), (35, .ifCond .eq 7, 3, 42, 0), (38, .iconst 1, 1, 0, 0), (39, .goto 4, 3, 43, 0), (42, .iconst 0, 1, 0, 0), (43, .ireturn, 1, 0, 0)]]
/-- RectilinearRoof$Outline.cellsAround(LRectilinearRoof$Phase;II)I -/
def K_207 : Kd := [[(0, .aload_n 0, 1, 0, 0), (1, .iload_n 1, 1, 0, 0), (2, .iconst 1, 1, 0, 0), (3, .isub, 1, 0, 0), (4, .iload_n 2, 1, 0, 0), (5, .iconst 1, 1, 0, 0), (6, .isub, 1, 0, 0), (7, .invokevirtual 82, 3, 301, 0), (10, .ifCond .eq 7, 3, 17, 0), (13, .iconst 1, 1, 0, 0), (14, .goto 4, 3, 18, 0), (17, .iconst 0, 1, 0, 0), (18, .aload_n 0, 1, 0, 0), (19, .iload_n 1, 1, 0, 0), (20, .iload_n 2, 1, 0, 0), (21, .iconst 1, 1, 0, 0), (22, .isub, 1, 0, 0), (23, .invokevirtual 82, 3, 301, 0), (26, .ifCond .eq 7, 3, 33, 0), (29, .iconst 1, 1, 0, 0), (30, .goto 4, 3, 34, 0)],
  [(33, .iconst 0, 1, 0, 0), (34, .iadd, 1, 0, 0), (35, .aload_n 0, 1, 0, 0), (36, .iload_n 1, 1, 0, 0), (37, .iconst 1, 1, 0, 0), (38, .isub, 1, 0, 0), (39, .iload_n 2, 1, 0, 0), (40, .invokevirtual 82, 3, 301, 0), (43, .ifCond .eq 7, 3, 50, 0), (46, .iconst 1, 1, 0, 0), (47, .goto 4, 3, 51, 0), (50, .iconst 0, 1, 0, 0), (51, .iadd, 1, 0, 0), (52, .aload_n 0, 1, 0, 0), (53, .iload_n 1, 1, 0, 0), (54, .iload_n 2, 1, 0, 0), (55, .invokevirtual 82, 3, 301, 0), (58, .ifCond .eq 7, 3, 65, 0), (61, .iconst 1, 1, 0, 0), (62, .goto 4, 3, 66, 0)],
  [(65, .iconst 0, 1, 0, 0), (66, .iadd, 1, 0, 0), (67, .ireturn, 1, 0, 0)]]
/-- RectilinearRoof$Outline.contourProperty(II)I -/
def K_208 : Kd := [[(0, .iload_n 2, 1, 0, 0), (1, .tableswitch 54 0 2 #[27, 36, 45], 27, 0, 0), (28, .aload_n 0, 1, 0, 0), (29, .getfield 15, 3, 201, 0)],
  [(32, .iload_n 1, 1, 0, 0), (33, .invokestatic 121, 3, 937, 0), (36, .ireturn, 1, 0, 0), (37, .aload_n 0, 1, 0, 0), (38, .getfield 18, 3, 202, 0), (41, .iload_n 1, 1, 0, 0), (42, .invokestatic 121, 3, 937, 0), (45, .ireturn, 1, 0, 0), (46, .aload_n 0, 1, 0, 0), (47, .getfield 21, 3, 203, 0), (50, .iload_n 1, 1, 0, 0), (51, .invokestatic 121, 3, 937, 0), (54, .ireturn, 1, 0, 0), (55, .aload_n 0, 1, 0, 0), (56, .getfield 24, 3, 204, 0), (59, .iload_n 1, 1, 0, 0), (60, .invokestatic 121, 3, 937, 0), (63, .ireturn, 1, 0, 0)]]
/-- RectilinearRoof$Outline.sidesOf(I)I -/
def K_209 : Kd := [[(0, .iload_n 1, 1, 0, 0), (1, .ifCond .lt 22, 3, 23, 0), (4, .iload_n 1, 1, 0, 0), (5, .aload_n 0, 1, 0, 0), (6, .getfield 46, 3, 211, 0), (9, .if_icmp .ge 14, 3, 23, 0), (12, .aload_n 0, 1, 0, 0), (13, .getfield 15, 3, 201, 0), (16, .iload_n 1, 1, 0, 0), (17, .invokestatic 121, 3, 937, 0), (20, .goto 4, 3, 24, 0), (23, .iconst 0, 1, 0, 0), (24, .ireturn, 1, 0, 0)]]
/-- RectilinearRoof$Outline.sideIndex(II)I -/
def K_210 : Kd := [[(0, .aload_n 0, 1, 0, 0), (1, .getfield 9, 3, 200, 0), (4, .iload_n 1, 1, 0, 0), (5, .invokestatic 121, 3, 937, 0), (8, .iload_n 2, 1, 0, 0), (9, .iadd, 1, 0, 0), (10, .ireturn, 1, 0, 0)]]
/-- RectilinearRoof$Outline.contourOf(I)I -/
def K_211 : Kd := [[(0, .iconst 0, 1, 0, 0), (1, .istore_n 2, 1, 0, 0), (2, .iload_n 2, 1, 0, 0), (3, .aload_n 0, 1, 0, 0), (4, .getfield 46, 3, 211, 0), (7, .if_icmp .ge 32, 3, 39, 0), (10, .iload_n 1, 1, 0, 0), (11, .aload_n 0, 1, 0, 0), (12, .getfield 9, 3, 200, 0), (15, .iload_n 2, 1, 0, 0), (16, .invokestatic 121, 3, 937, 0), (19, .aload_n 0, 1, 0, 0), (20, .getfield 15, 3, 201, 0), (23, .iload_n 2, 1, 0, 0), (24, .invokestatic 121, 3, 937, 0), (27, .iadd, 1, 0, 0), (28, .if_icmp .ge 5, 3, 33, 0), (31, .iload_n 2, 1, 0, 0)],
  [(32, .ireturn, 1, 0, 0), (33, .iinc 2 1, 3, 0, 0), (36, .goto (-34), 3, 2, 0), (39, .iconst (-1), 1, 0, 0), (40, .ireturn, 1, 0, 0)]]
/-- RectilinearRoof$Outline.directionOf(I)I -/
def K_212 : Kd := [[(0, .aload_n 0, 1, 0, 0), (1, .getfield 27, 3, 205, 0), (4, .iload_n 1, 1, 0, 0), (5, .invokestatic 121, 3, 937, 0), (8, .ireturn, 1, 0, 0)]]
/-- RectilinearRoof$Outline.lineOf(I)I -/
def K_213 : Kd := [[(0, .aload_n 0, 1, 0, 0), (1, .getfield 30, 3, 206, 0), (4, .iload_n 1, 1, 0, 0), (5, .invokestatic 121, 3, 937, 0), (8, .ireturn, 1, 0, 0)]]
/-- RectilinearRoof$Outline.lowOf(I)I -/
def K_214 : Kd := [[(0, .aload_n 0, 1, 0, 0), (1, .getfield 33, 3, 207, 0), (4, .iload_n 1, 1, 0, 0), (5, .invokestatic 121, 3, 937, 0), (8, .ireturn, 1, 0, 0)]]
/-- RectilinearRoof$Outline.highOf(I)I -/
def K_215 : Kd := [[(0, .aload_n 0, 1, 0, 0), (1, .getfield 36, 3, 208, 0), (4, .iload_n 1, 1, 0, 0), (5, .invokestatic 121, 3, 937, 0), (8, .ireturn, 1, 0, 0)]]
/-- RectilinearRoof$Outline.vertexX(I)I -/
def K_216 : Kd := [[(0, .aload_n 0, 1, 0, 0), (1, .iload_n 1, 1, 0, 0), (2, .invokevirtual 125, 3, 212, 0), (5, .istore_n 2, 1, 0, 0), (6, .iload_n 2, 1, 0, 0), (7, .invokestatic 114, 3, 942, 0), (10, .ifCond .ne 9, 3, 19, 0), (13, .aload_n 0, 1, 0, 0), (14, .iload_n 1, 1, 0, 0), (15, .invokevirtual 128, 3, 213, 0), (18, .ireturn, 1, 0, 0), (19, .iload_n 2, 1, 0, 0), (20, .ifCond .ne 11, 3, 31, 0), (23, .aload_n 0, 1, 0, 0), (24, .iload_n 1, 1, 0, 0), (25, .invokevirtual 131, 3, 214, 0), (28, .goto 8, 3, 36, 0), (31, .aload_n 0, 1, 0, 0)],
  [(32, .iload_n 1, 1, 0, 0), (33, .invokevirtual 134, 3, 215, 0), (36, .ireturn, 1, 0, 0)]]
/-- RectilinearRoof$Outline.vertexY(I)I -/
def K_217 : Kd := [[(0, .aload_n 0, 1, 0, 0), (1, .iload_n 1, 1, 0, 0), (2, .invokevirtual 125, 3, 212, 0), (5, .istore_n 2, 1, 0, 0), (6, .iload_n 2, 1, 0, 0), (7, .invokestatic 114, 3, 942, 0), (10, .ifCond .eq 9, 3, 19, 0), (13, .aload_n 0, 1, 0, 0), (14, .iload_n 1, 1, 0, 0), (15, .invokevirtual 128, 3, 213, 0), (18, .ireturn, 1, 0, 0), (19, .iload_n 2, 1, 0, 0), (20, .iconst 1, 1, 0, 0), (21, .if_icmp .ne 11, 3, 32, 0), (24, .aload_n 0, 1, 0, 0), (25, .iload_n 1, 1, 0, 0), (26, .invokevirtual 131, 3, 214, 0), (29, .goto 8, 3, 37, 0)],
  [(32, .aload_n 0, 1, 0, 0), (33, .iload_n 1, 1, 0, 0), (34, .invokevirtual 134, 3, 215, 0), (37, .ireturn, 1, 0, 0)]]
/-- RectilinearRoof$Phase.covers(II)Z -/
def K_301 : Kd := [[(0, .iload_n 1, 1, 0, 0), (1, .ifCond .lt 41, 3, 42, 0), (4, .iload_n 1, 1, 0, 0), (5, .bipush 48, 2, 0, 0), (7, .if_icmp .ge 35, 3, 42, 0), (10, .iload_n 2, 1, 0, 0), (11, .ifCond .lt 31, 3, 42, 0), (14, .iload_n 2, 1, 0, 0), (15, .aload_n 0, 1, 0, 0), (16, .getfield 18, 3, 301, 0), (19, .arraylength, 1, 0, 0), (20, .if_icmp .ge 22, 3, 42, 0), (23, .aload_n 0, 1, 0, 0), (24, .getfield 18, 3, 301, 0), (27, .iload_n 2, 1, 0, 0), (28, .laload, 1, 0, 0), (29, .iload_n 1, 1, 0, 0), (30, .lshr, 1, 0, 0), (31, .lconst 1, 1, 0, 0)],
  [(32, .land, 1, 0, 0), (33, .lconst 0, 1, 0, 0), (34, .lcmp, 1, 0, 0), (35, .ifCond .eq 7, 3, 42, 0), (38, .iconst 1, 1, 0, 0), (39, .goto 4, 3, 43, 0), (42, .iconst 0, 1, 0, 0), (43, .ireturn, 1, 0, 0)]]
/-- RectilinearRoof$Phase.row(I)J -/
def K_302 : Kd := [[(0, .aload_n 0, 1, 0, 0), (1, .getfield 18, 3, 301, 0), (4, .iload_n 1, 1, 0, 0), (5, .invokestatic 44, 3, 945, 0), (8, .lreturn, 1, 0, 0)]]
/-- RectilinearRoof$Phase.setRow(IJ)V -/
def K_303 : Kd := [[(0, .iload_n 1, 1, 0, 0), (1, .ifCond .lt 19, 3, 20, 0), (4, .iload_n 1, 1, 0, 0), (5, .aload_n 0, 1, 0, 0), (6, .getfield 18, 3, 301, 0), (9, .arraylength, 1, 0, 0), (10, .if_icmp .ge 10, 3, 20, 0), (13, .aload_n 0, 1, 0, 0), (14, .getfield 18, 3, 301, 0), (17, .iload_n 1, 1, 0, 0), (18, .lload_n 2, 1, 0, 0), (19, .lastore, 1, 0, 0), (20, .return_, 1, 0, 0)]]
/-- RectilinearRoof$Phase.build(LRectilinearRoof$Phase;)V -/
def K_304 : Kd := [[(0, .aload_n 0, 1, 0, 0), (1, .invokevirtual 48, 3, 305, 0), (4, .aload_n 0, 1, 0, 0), (5, .iconst 0, 1, 0, 0), (6, .putfield 51, 3, 310, 0), (9, .aload_n 0, 1, 0, 0), (10, .getfield 41, 3, 308, 0), (13, .iconst 0, 1, 0, 0), (14, .invokestatic 55, 3, 1104, 0), (17, .iconst 0, 1, 0, 0), (18, .istore_n 2, 1, 0, 0), (19, .iload_n 2, 1, 0, 0), (20, .aload_n 0, 1, 0, 0), (21, .getfield 61, 3, 309, 0), (24, .if_icmp .ge 41, 3, 65, 0), (27, .aload_n 0, 1, 0, 0), (28, .getfield 32, 3, 305, 0), (31, .iload_n 2, 1, 0, 0)],
  [(32, .invokestatic 64, 3, 937, 0), (35, .ifCond .ge 24, 3, 59, 0), (38, .aload_n 0, 1, 0, 0), (39, .iload_n 2, 1, 0, 0), (40, .invokevirtual 68, 3, 308, 0), (43, .aload_n 0, 1, 0, 0), (44, .aload_n 1, 1, 0, 0), (45, .iload_n 2, 1, 0, 0), (46, .invokevirtual 72, 3, 310, 0), (49, .aload_n 0, 1, 0, 0), (50, .dup, 1, 0, 0), (51, .getfield 51, 3, 310, 0), (54, .iconst 1, 1, 0, 0), (55, .iadd, 1, 0, 0), (56, .putfield 51, 3, 310, 0), (59, .iinc 2 1, 3, 0, 0), (62, .goto (-43), 3, 19, 0)],
  [(65, .aload_n 0, 1, 0, 0), (66, .getfield 12, 3, 300, 0), (69, .aload_n 0, 1, 0, 0), (70, .invokevirtual 76, 3, 201, 0), (73, .return_, 1, 0, 0)]]
/-- RectilinearRoof$Phase.findRuns()V -/
def K_305 : Kd := [[(0, .aload_n 0, 1, 0, 0), (1, .iconst 0, 1, 0, 0), (2, .putfield 61, 3, 309, 0), (5, .iconst 0, 1, 0, 0), (6, .istore_n 1, 1, 0, 0), (7, .iload_n 1, 1, 0, 0), (8, .aload_n 0, 1, 0, 0), (9, .getfield 18, 3, 301, 0), (12, .arraylength, 1, 0, 0), (13, .if_icmp .ge 76, 3, 89, 0), (16, .aload_n 0, 1, 0, 0), (17, .getfield 18, 3, 301, 0), (20, .iload_n 1, 1, 0, 0), (21, .laload, 1, 0, 0), (22, .lstore_n 2, 1, 0, 0), (23, .aload_n 0, 1, 0, 0), (24, .getfield 22, 3, 302, 0), (27, .iload_n 1, 1, 0, 0), (28, .aload_n 0, 1, 0, 0), (29, .getfield 61, 3, 309, 0)],
  [(32, .invokestatic 80, 3, 938, 0), (35, .iconst 0, 1, 0, 0), (36, .istore 4, 2, 0, 0), (38, .iload 4, 2, 0, 0), (40, .bipush 48, 2, 0, 0), (42, .if_icmp .ge 41, 3, 83, 0), (45, .lload_n 2, 1, 0, 0), (46, .lconst 0, 1, 0, 0), (47, .lcmp, 1, 0, 0), (48, .ifCond .eq 35, 3, 83, 0), (51, .lload_n 2, 1, 0, 0), (52, .lload_n 2, 1, 0, 0), (53, .lload_n 2, 1, 0, 0), (54, .lload_n 2, 1, 0, 0), (55, .lneg, 1, 0, 0), (56, .land, 1, 0, 0), (57, .ladd, 1, 0, 0), (58, .ldc2_w 84, 3, 0, (-1)), (61, .lxor, 1, 0, 0), (62, .land, 1, 0, 0), (63, .lstore 5, 2, 0, 0)],
  [(65, .aload_n 0, 1, 0, 0), (66, .lload 5, 2, 0, 0), (68, .iload_n 1, 1, 0, 0), (69, .invokevirtual 86, 3, 306, 0), (72, .lload_n 2, 1, 0, 0), (73, .lload 5, 2, 0, 0), (75, .lxor, 1, 0, 0), (76, .lstore_n 2, 1, 0, 0), (77, .iinc 4 1, 3, 0, 0), (80, .goto (-42), 3, 38, 0), (83, .iinc 1 1, 3, 0, 0), (86, .goto (-79), 3, 7, 0), (89, .aload_n 0, 1, 0, 0), (90, .getfield 22, 3, 302, 0), (93, .bipush 48, 2, 0, 0), (95, .aload_n 0, 1, 0, 0)],
  [(96, .getfield 61, 3, 309, 0), (99, .invokestatic 80, 3, 938, 0), (102, .return_, 1, 0, 0)]]
/-- RectilinearRoof$Phase.addRun(JI)V -/
def K_306 : Kd := [[(0, .aload_n 0, 1, 0, 0), (1, .getfield 61, 3, 309, 0), (4, .ifCond .lt 59, 3, 63, 0), (7, .aload_n 0, 1, 0, 0), (8, .getfield 61, 3, 309, 0), (11, .aload_n 0, 1, 0, 0), (12, .getfield 26, 3, 303, 0), (15, .arraylength, 1, 0, 0), (16, .if_icmp .ge 47, 3, 63, 0), (19, .aload_n 0, 1, 0, 0), (20, .getfield 26, 3, 303, 0), (23, .aload_n 0, 1, 0, 0), (24, .getfield 61, 3, 309, 0), (27, .lload_n 1, 1, 0, 0), (28, .lastore, 1, 0, 0), (29, .aload_n 0, 1, 0, 0), (30, .getfield 29, 3, 304, 0)],
  [(33, .aload_n 0, 1, 0, 0), (34, .getfield 61, 3, 309, 0), (37, .iload_n 3, 1, 0, 0), (38, .invokestatic 80, 3, 938, 0), (41, .aload_n 0, 1, 0, 0), (42, .getfield 32, 3, 305, 0), (45, .aload_n 0, 1, 0, 0), (46, .getfield 61, 3, 309, 0), (49, .iconst (-1), 1, 0, 0), (50, .invokestatic 80, 3, 938, 0), (53, .aload_n 0, 1, 0, 0), (54, .dup, 1, 0, 0), (55, .getfield 61, 3, 309, 0), (58, .iconst 1, 1, 0, 0), (59, .iadd, 1, 0, 0), (60, .putfield 61, 3, 309, 0), (63, .return_, 1, 0, 0)]]
/-- RectilinearRoof$Phase.labelFrom(I)V -/
def K_308 : Kd := [[(0, .aload_n 0, 1, 0, 0), (1, .getfield 32, 3, 305, 0), (4, .iload_n 1, 1, 0, 0), (5, .aload_n 0, 1, 0, 0), (6, .getfield 51, 3, 310, 0), (9, .invokestatic 80, 3, 938, 0), (12, .aload_n 0, 1, 0, 0), (13, .getfield 35, 3, 306, 0), (16, .iconst 0, 1, 0, 0), (17, .iload_n 1, 1, 0, 0), (18, .invokestatic 80, 3, 938, 0), (21, .iconst 1, 1, 0, 0), (22, .istore_n 2, 1, 0, 0), (23, .iconst 0, 1, 0, 0), (24, .istore_n 3, 1, 0, 0), (25, .iload_n 3, 1, 0, 0), (26, .iload_n 2, 1, 0, 0), (27, .if_icmp .ge 64, 3, 91, 0), (30, .iload_n 3, 1, 0, 0), (31, .aload_n 0, 1, 0, 0)],
  [(32, .getfield 35, 3, 306, 0), (35, .arraylength, 1, 0, 0), (36, .if_icmp .ge 55, 3, 91, 0), (39, .aload_n 0, 1, 0, 0), (40, .getfield 35, 3, 306, 0), (43, .iload_n 3, 1, 0, 0), (44, .iaload, 1, 0, 0), (45, .istore 4, 2, 0, 0), (47, .aload_n 0, 1, 0, 0), (48, .iload 4, 2, 0, 0), (50, .aload_n 0, 1, 0, 0), (51, .getfield 29, 3, 304, 0), (54, .iload 4, 2, 0, 0), (56, .invokestatic 64, 3, 937, 0), (59, .iconst 1, 1, 0, 0), (60, .isub, 1, 0, 0), (61, .iload_n 2, 1, 0, 0), (62, .invokevirtual 90, 3, 309, 0)],
  [(65, .istore_n 2, 1, 0, 0), (66, .aload_n 0, 1, 0, 0), (67, .iload 4, 2, 0, 0), (69, .aload_n 0, 1, 0, 0), (70, .getfield 29, 3, 304, 0), (73, .iload 4, 2, 0, 0), (75, .invokestatic 64, 3, 937, 0), (78, .iconst 1, 1, 0, 0), (79, .iadd, 1, 0, 0), (80, .iload_n 2, 1, 0, 0), (81, .invokevirtual 90, 3, 309, 0), (84, .istore_n 2, 1, 0, 0), (85, .iinc 3 1, 3, 0, 0), (88, .goto (-63), 3, 25, 0), (91, .return_, 1, 0, 0)]]
/-- RectilinearRoof$Phase.labelBeside(III)I -/
def K_309 : Kd := [[(0, .iload_n 2, 1, 0, 0), (1, .ifCond .lt 16, 3, 17, 0), (4, .aload_n 0, 1, 0, 0), (5, .getfield 22, 3, 302, 0), (8, .iload_n 2, 1, 0, 0), (9, .iconst 1, 1, 0, 0), (10, .iadd, 1, 0, 0), (11, .invokestatic 64, 3, 937, 0), (14, .goto 4, 3, 18, 0), (17, .iconst 0, 1, 0, 0), (18, .istore 4, 2, 0, 0), (20, .aload_n 0, 1, 0, 0), (21, .getfield 22, 3, 302, 0), (24, .iload_n 2, 1, 0, 0), (25, .invokestatic 64, 3, 937, 0), (28, .istore 5, 2, 0, 0), (30, .iload 5, 2, 0, 0)],
  [(32, .iload 4, 2, 0, 0), (34, .if_icmp .ge 70, 3, 104, 0), (37, .aload_n 0, 1, 0, 0), (38, .getfield 32, 3, 305, 0), (41, .iload 5, 2, 0, 0), (43, .invokestatic 64, 3, 937, 0), (46, .ifCond .ge 52, 3, 98, 0), (49, .aload_n 0, 1, 0, 0), (50, .getfield 26, 3, 303, 0), (53, .iload 5, 2, 0, 0), (55, .invokestatic 44, 3, 945, 0), (58, .aload_n 0, 1, 0, 0), (59, .getfield 26, 3, 303, 0), (62, .iload_n 1, 1, 0, 0), (63, .invokestatic 44, 3, 945, 0)],
  [(66, .land, 1, 0, 0), (67, .lconst 0, 1, 0, 0), (68, .lcmp, 1, 0, 0), (69, .ifCond .eq 29, 3, 98, 0), (72, .aload_n 0, 1, 0, 0), (73, .getfield 32, 3, 305, 0), (76, .iload 5, 2, 0, 0), (78, .aload_n 0, 1, 0, 0), (79, .getfield 51, 3, 310, 0), (82, .invokestatic 80, 3, 938, 0), (85, .aload_n 0, 1, 0, 0), (86, .getfield 35, 3, 306, 0), (89, .iload_n 3, 1, 0, 0), (90, .iload 5, 2, 0, 0), (92, .invokestatic 80, 3, 938, 0), (95, .iinc 3 1, 3, 0, 0)],
  [(98, .iinc 5 1, 3, 0, 0), (101, .goto (-71), 3, 30, 0), (104, .iload_n 3, 1, 0, 0), (105, .ireturn, 1, 0, 0)]]
/-- RectilinearRoof$Phase.link(LRectilinearRoof$Phase;I)V -/
def K_310 : Kd := [[(0, .aload_n 0, 1, 0, 0), (1, .getfield 26, 3, 303, 0), (4, .iload_n 2, 1, 0, 0), (5, .invokestatic 44, 3, 945, 0), (8, .invokestatic 94, 3, 944, 0), (11, .istore_n 3, 1, 0, 0), (12, .aload_n 1, 1, 0, 0), (13, .aload_n 0, 1, 0, 0), (14, .getfield 29, 3, 304, 0), (17, .iload_n 2, 1, 0, 0), (18, .invokestatic 64, 3, 937, 0), (21, .bipush 48, 2, 0, 0), (23, .imul, 1, 0, 0), (24, .iload_n 3, 1, 0, 0), (25, .iadd, 1, 0, 0), (26, .invokevirtual 98, 3, 311, 0), (29, .istore 4, 2, 0, 0), (31, .aload_n 0, 1, 0, 0)],
  [(32, .getfield 38, 3, 307, 0), (35, .aload_n 0, 1, 0, 0), (36, .getfield 51, 3, 310, 0), (39, .iload 4, 2, 0, 0), (41, .invokestatic 80, 3, 938, 0), (44, .aload_n 1, 1, 0, 0), (45, .getfield 41, 3, 308, 0), (48, .iload 4, 2, 0, 0), (50, .aload_n 1, 1, 0, 0), (51, .iload 4, 2, 0, 0), (53, .invokevirtual 102, 3, 313, 0), (56, .iconst 1, 1, 0, 0), (57, .iadd, 1, 0, 0), (58, .invokestatic 80, 3, 938, 0), (61, .return_, 1, 0, 0)]]
/-- RectilinearRoof$Phase.labelOf(I)I -/
def K_311 : Kd := [[(0, .iload_n 1, 1, 0, 0), (1, .bipush 48, 2, 0, 0), (3, .irem, 1, 0, 0), (4, .istore_n 2, 1, 0, 0), (5, .iload_n 1, 1, 0, 0), (6, .bipush 48, 2, 0, 0), (8, .idiv, 1, 0, 0), (9, .istore_n 3, 1, 0, 0), (10, .aload_n 0, 1, 0, 0), (11, .iload_n 2, 1, 0, 0), (12, .iload_n 3, 1, 0, 0), (13, .invokevirtual 105, 3, 301, 0), (16, .ifCond .eq 16, 3, 32, 0), (19, .aload_n 0, 1, 0, 0), (20, .getfield 22, 3, 302, 0), (23, .iload_n 3, 1, 0, 0), (24, .iconst 1, 1, 0, 0), (25, .iadd, 1, 0, 0), (26, .invokestatic 64, 3, 937, 0), (29, .goto 4, 3, 33, 0)],
  [(32, .iconst 0, 1, 0, 0), (33, .istore 4, 2, 0, 0), (35, .aload_n 0, 1, 0, 0), (36, .getfield 22, 3, 302, 0), (39, .iload_n 3, 1, 0, 0), (40, .invokestatic 64, 3, 937, 0), (43, .istore 5, 2, 0, 0), (45, .iload 5, 2, 0, 0), (47, .iload 4, 2, 0, 0), (49, .if_icmp .ge 37, 3, 86, 0), (52, .aload_n 0, 1, 0, 0), (53, .getfield 26, 3, 303, 0), (56, .iload 5, 2, 0, 0), (58, .invokestatic 44, 3, 945, 0), (61, .iload_n 2, 1, 0, 0), (62, .lshr, 1, 0, 0), (63, .lconst 1, 1, 0, 0)],
  [(64, .land, 1, 0, 0), (65, .lconst 0, 1, 0, 0), (66, .lcmp, 1, 0, 0), (67, .ifCond .eq 13, 3, 80, 0), (70, .aload_n 0, 1, 0, 0), (71, .getfield 32, 3, 305, 0), (74, .iload 5, 2, 0, 0), (76, .invokestatic 64, 3, 937, 0), (79, .ireturn, 1, 0, 0), (80, .iinc 5 1, 3, 0, 0), (83, .goto (-38), 3, 45, 0), (86, .iconst (-1), 1, 0, 0), (87, .ireturn, 1, 0, 0)]]
/-- RectilinearRoof$Phase.parentOf(I)I -/
def K_312 : Kd := [[(0, .iload_n 1, 1, 0, 0), (1, .ifCond .lt 22, 3, 23, 0), (4, .iload_n 1, 1, 0, 0), (5, .aload_n 0, 1, 0, 0), (6, .getfield 51, 3, 310, 0), (9, .if_icmp .ge 14, 3, 23, 0), (12, .aload_n 0, 1, 0, 0), (13, .getfield 38, 3, 307, 0), (16, .iload_n 1, 1, 0, 0), (17, .invokestatic 64, 3, 937, 0), (20, .goto 4, 3, 24, 0), (23, .iconst (-1), 1, 0, 0), (24, .ireturn, 1, 0, 0)]]
/-- RectilinearRoof$Phase.childCount(I)I -/
def K_313 : Kd := [[(0, .aload_n 0, 1, 0, 0), (1, .getfield 41, 3, 308, 0), (4, .iload_n 1, 1, 0, 0), (5, .invokestatic 64, 3, 937, 0), (8, .ireturn, 1, 0, 0)]]
/-- RectilinearRoof$Phase.firstChildOf(I)I -/
def K_314 : Kd := [[(0, .iconst 0, 1, 0, 0), (1, .istore_n 2, 1, 0, 0), (2, .iload_n 2, 1, 0, 0), (3, .aload_n 0, 1, 0, 0), (4, .getfield 51, 3, 310, 0), (7, .if_icmp .ge 20, 3, 27, 0), (10, .aload_n 0, 1, 0, 0), (11, .iload_n 2, 1, 0, 0), (12, .invokevirtual 109, 3, 312, 0), (15, .iload_n 1, 1, 0, 0), (16, .if_icmp .ne 5, 3, 21, 0), (19, .iload_n 2, 1, 0, 0), (20, .ireturn, 1, 0, 0), (21, .iinc 2 1, 3, 0, 0), (24, .goto (-22), 3, 2, 0), (27, .iconst (-1), 1, 0, 0), (28, .ireturn, 1, 0, 0)]]
/-- RectilinearRoof$Region.has(II)Z -/
def K_401 : Kd := [[(0, .iload_n 1, 1, 0, 0), (1, .ifCond .lt 39, 3, 40, 0), (4, .iload_n 1, 1, 0, 0), (5, .bipush 12, 2, 0, 0), (7, .if_icmp .ge 33, 3, 40, 0), (10, .iload_n 2, 1, 0, 0), (11, .ifCond .lt 29, 3, 40, 0), (14, .iload_n 2, 1, 0, 0), (15, .aload_n 0, 1, 0, 0), (16, .getfield 9, 3, 400, 0), (19, .arraylength, 1, 0, 0), (20, .if_icmp .ge 20, 3, 40, 0), (23, .aload_n 0, 1, 0, 0), (24, .getfield 9, 3, 400, 0), (27, .iload_n 2, 1, 0, 0), (28, .iaload, 1, 0, 0), (29, .iload_n 1, 1, 0, 0), (30, .ishr, 1, 0, 0), (31, .iconst 1, 1, 0, 0)],
  [(32, .iand, 1, 0, 0), (33, .ifCond .eq 7, 3, 40, 0), (36, .iconst 1, 1, 0, 0), (37, .goto 4, 3, 41, 0), (40, .iconst 0, 1, 0, 0), (41, .ireturn, 1, 0, 0)]]
/-- RectilinearRoof$Region.size()I -/
def K_402 : Kd := [[(0, .iconst 0, 1, 0, 0), (1, .istore_n 1, 1, 0, 0), (2, .iconst 0, 1, 0, 0), (3, .istore_n 2, 1, 0, 0), (4, .iload_n 2, 1, 0, 0), (5, .aload_n 0, 1, 0, 0), (6, .getfield 9, 3, 400, 0), (9, .arraylength, 1, 0, 0), (10, .if_icmp .ge 21, 3, 31, 0), (13, .iload_n 1, 1, 0, 0), (14, .aload_n 0, 1, 0, 0), (15, .getfield 9, 3, 400, 0), (18, .iload_n 2, 1, 0, 0), (19, .iaload, 1, 0, 0), (20, .invokestatic 18, 3, 1100, 0), (23, .iadd, 1, 0, 0), (24, .istore_n 1, 1, 0, 0), (25, .iinc 2 1, 3, 0, 0), (28, .goto (-24), 3, 4, 0), (31, .iload_n 1, 1, 0, 0)],
  [(32, .ireturn, 1, 0, 0)]]
/-- RectilinearRoof$Region.wipe()V -/
def K_403 : Kd := [[(0, .aload_n 0, 1, 0, 0), (1, .getfield 9, 3, 400, 0), (4, .iconst 0, 1, 0, 0), (5, .invokestatic 24, 3, 1104, 0), (8, .return_, 1, 0, 0)]]
/-- RectilinearRoof$Region.copy(LRectilinearRoof$Region;)V -/
def K_404 : Kd := [[(0, .iconst 0, 1, 0, 0), (1, .istore_n 2, 1, 0, 0), (2, .iload_n 2, 1, 0, 0), (3, .aload_n 0, 1, 0, 0), (4, .getfield 9, 3, 400, 0), (7, .arraylength, 1, 0, 0), (8, .if_icmp .ge 23, 3, 31, 0), (11, .aload_n 0, 1, 0, 0), (12, .getfield 9, 3, 400, 0), (15, .iload_n 2, 1, 0, 0), (16, .aload_n 1, 1, 0, 0), (17, .getfield 9, 3, 400, 0), (20, .iload_n 2, 1, 0, 0), (21, .invokestatic 30, 3, 937, 0), (24, .iastore, 1, 0, 0), (25, .iinc 2 1, 3, 0, 0), (28, .goto (-26), 3, 2, 0), (31, .return_, 1, 0, 0)]]
/-- RectilinearRoof$Region.change(IIIII)V -/
def K_405 : Kd := [[(0, .iconst 1, 1, 0, 0), (1, .iload 4, 2, 0, 0), (3, .ishl, 1, 0, 0), (4, .iconst 1, 1, 0, 0), (5, .isub, 1, 0, 0), (6, .iload_n 2, 1, 0, 0), (7, .ishl, 1, 0, 0), (8, .istore 6, 2, 0, 0), (10, .iconst 0, 1, 0, 0), (11, .istore 7, 2, 0, 0), (13, .iload 7, 2, 0, 0), (15, .aload_n 0, 1, 0, 0), (16, .getfield 9, 3, 400, 0), (19, .arraylength, 1, 0, 0), (20, .if_icmp .ge 44, 3, 64, 0), (23, .iload 7, 2, 0, 0), (25, .iload_n 3, 1, 0, 0), (26, .if_icmp .lt 32, 3, 58, 0), (29, .iload 7, 2, 0, 0), (31, .iload_n 3, 1, 0, 0)],
  [(32, .iload 5, 2, 0, 0), (34, .iadd, 1, 0, 0), (35, .if_icmp .ge 23, 3, 58, 0), (38, .aload_n 0, 1, 0, 0), (39, .getfield 9, 3, 400, 0), (42, .iload 7, 2, 0, 0), (44, .iload_n 1, 1, 0, 0), (45, .aload_n 0, 1, 0, 0), (46, .getfield 9, 3, 400, 0), (49, .iload 7, 2, 0, 0), (51, .iaload, 1, 0, 0), (52, .iload 6, 2, 0, 0), (54, .invokestatic 34, 3, 406, 0), (57, .iastore, 1, 0, 0), (58, .iinc 7 1, 3, 0, 0), (61, .goto (-48), 3, 13, 0)],
  [(64, .return_, 1, 0, 0)]]
/-- RectilinearRoof$Region.combined(III)I -/
def K_406 : Kd := [[(0, .iload_n 0, 1, 0, 0), (1, .ifCond .ne 7, 3, 8, 0), (4, .iload_n 1, 1, 0, 0), (5, .iload_n 2, 1, 0, 0), (6, .ior, 1, 0, 0), (7, .ireturn, 1, 0, 0), (8, .iload_n 0, 1, 0, 0), (9, .iconst 1, 1, 0, 0), (10, .if_icmp .ne 11, 3, 21, 0), (13, .iload_n 1, 1, 0, 0), (14, .iload_n 2, 1, 0, 0), (15, .iconst (-1), 1, 0, 0), (16, .ixor, 1, 0, 0), (17, .iand, 1, 0, 0), (18, .goto 6, 3, 24, 0), (21, .iload_n 1, 1, 0, 0), (22, .iload_n 2, 1, 0, 0), (23, .ixor, 1, 0, 0), (24, .ireturn, 1, 0, 0)]]
/-- RectilinearRoof$Region.turn()V -/
def K_407 : Kd := [[(0, .aload_n 0, 1, 0, 0), (1, .getfield 15, 3, 401, 0), (4, .iconst 0, 1, 0, 0), (5, .invokestatic 24, 3, 1104, 0), (8, .iconst 0, 1, 0, 0), (9, .istore_n 1, 1, 0, 0), (10, .iload_n 1, 1, 0, 0), (11, .bipush 12, 2, 0, 0), (13, .if_icmp .ge 50, 3, 63, 0), (16, .iconst 0, 1, 0, 0), (17, .istore_n 2, 1, 0, 0), (18, .iload_n 2, 1, 0, 0), (19, .aload_n 0, 1, 0, 0), (20, .getfield 15, 3, 401, 0), (23, .arraylength, 1, 0, 0), (24, .if_icmp .ge 33, 3, 57, 0), (27, .aload_n 0, 1, 0, 0), (28, .iload_n 2, 1, 0, 0), (29, .iload_n 1, 1, 0, 0), (30, .invokevirtual 38, 3, 401, 0)],
  [(33, .ifCond .eq 18, 3, 51, 0), (36, .aload_n 0, 1, 0, 0), (37, .getfield 15, 3, 401, 0), (40, .iload_n 2, 1, 0, 0), (41, .dup2, 1, 0, 0), (42, .iaload, 1, 0, 0), (43, .iconst 1, 1, 0, 0), (44, .bipush 11, 2, 0, 0), (46, .iload_n 1, 1, 0, 0), (47, .isub, 1, 0, 0), (48, .ishl, 1, 0, 0), (49, .ior, 1, 0, 0), (50, .iastore, 1, 0, 0), (51, .iinc 2 1, 3, 0, 0), (54, .goto (-36), 3, 18, 0), (57, .iinc 1 1, 3, 0, 0), (60, .goto (-50), 3, 10, 0), (63, .iconst 0, 1, 0, 0)],
  [(64, .istore_n 1, 1, 0, 0), (65, .iload_n 1, 1, 0, 0), (66, .aload_n 0, 1, 0, 0), (67, .getfield 9, 3, 400, 0), (70, .arraylength, 1, 0, 0), (71, .if_icmp .ge 23, 3, 94, 0), (74, .aload_n 0, 1, 0, 0), (75, .getfield 9, 3, 400, 0), (78, .iload_n 1, 1, 0, 0), (79, .aload_n 0, 1, 0, 0), (80, .getfield 15, 3, 401, 0), (83, .iload_n 1, 1, 0, 0), (84, .invokestatic 30, 3, 937, 0), (87, .iastore, 1, 0, 0), (88, .iinc 1 1, 3, 0, 0), (91, .goto (-26), 3, 65, 0), (94, .return_, 1, 0, 0)]]
/-- RectilinearRoof$Region.mirror()V -/
def K_408 : Kd := [[(0, .iconst 0, 1, 0, 0), (1, .istore_n 1, 1, 0, 0), (2, .iload_n 1, 1, 0, 0), (3, .aload_n 0, 1, 0, 0), (4, .getfield 9, 3, 400, 0), (7, .arraylength, 1, 0, 0), (8, .if_icmp .ge 50, 3, 58, 0), (11, .iconst 0, 1, 0, 0), (12, .istore_n 2, 1, 0, 0), (13, .iconst 0, 1, 0, 0), (14, .istore_n 3, 1, 0, 0), (15, .iload_n 3, 1, 0, 0), (16, .bipush 12, 2, 0, 0), (18, .if_icmp .ge 27, 3, 45, 0), (21, .iload_n 2, 1, 0, 0), (22, .aload_n 0, 1, 0, 0), (23, .getfield 9, 3, 400, 0), (26, .iload_n 1, 1, 0, 0), (27, .iaload, 1, 0, 0), (28, .iload_n 3, 1, 0, 0), (29, .ishr, 1, 0, 0), (30, .iconst 1, 1, 0, 0), (31, .iand, 1, 0, 0)],
  [(32, .bipush 11, 2, 0, 0), (34, .iload_n 3, 1, 0, 0), (35, .isub, 1, 0, 0), (36, .ishl, 1, 0, 0), (37, .ior, 1, 0, 0), (38, .istore_n 2, 1, 0, 0), (39, .iinc 3 1, 3, 0, 0), (42, .goto (-27), 3, 15, 0), (45, .aload_n 0, 1, 0, 0), (46, .getfield 9, 3, 400, 0), (49, .iload_n 1, 1, 0, 0), (50, .iload_n 2, 1, 0, 0), (51, .iastore, 1, 0, 0), (52, .iinc 1 1, 3, 0, 0), (55, .goto (-53), 3, 2, 0), (58, .return_, 1, 0, 0)]]
/-- RectilinearRoof$Region.selfMaps(LRectilinearRoof$Region;)I -/
def K_409 : Kd := [[(0, .aload_n 1, 1, 0, 0), (1, .aload_n 0, 1, 0, 0), (2, .invokevirtual 42, 3, 404, 0), (5, .iconst 0, 1, 0, 0), (6, .istore_n 2, 1, 0, 0), (7, .iconst 0, 1, 0, 0), (8, .istore_n 3, 1, 0, 0), (9, .iload_n 3, 1, 0, 0), (10, .bipush 8, 2, 0, 0), (12, .if_icmp .ge 33, 3, 45, 0), (15, .aload_n 1, 1, 0, 0), (16, .aload_n 0, 1, 0, 0), (17, .invokevirtual 46, 3, 410, 0), (20, .ifCond .eq 6, 3, 26, 0), (23, .iinc 2 1, 3, 0, 0), (26, .aload_n 1, 1, 0, 0), (27, .invokevirtual 50, 3, 407, 0), (30, .iload_n 3, 1, 0, 0), (31, .iconst 3, 1, 0, 0)],
  [(32, .if_icmp .ne 7, 3, 39, 0), (35, .aload_n 1, 1, 0, 0), (36, .invokevirtual 53, 3, 408, 0), (39, .iinc 3 1, 3, 0, 0), (42, .goto (-33), 3, 9, 0), (45, .iload_n 2, 1, 0, 0), (46, .ireturn, 1, 0, 0)]]
/-- RectilinearRoof$Region.hasShapeOf(LRectilinearRoof$Region;)Z -/
def K_410 : Kd := [[(0, .aload_n 0, 1, 0, 0), (1, .invokevirtual 56, 3, 411, 0), (4, .istore_n 2, 1, 0, 0), (5, .aload_n 0, 1, 0, 0), (6, .invokevirtual 60, 3, 412, 0), (9, .istore_n 3, 1, 0, 0), (10, .aload_n 1, 1, 0, 0), (11, .invokevirtual 56, 3, 411, 0), (14, .istore 4, 2, 0, 0), (16, .aload_n 1, 1, 0, 0), (17, .invokevirtual 60, 3, 412, 0), (20, .istore 5, 2, 0, 0), (22, .iconst 0, 1, 0, 0), (23, .istore 6, 2, 0, 0), (25, .iload 6, 2, 0, 0), (27, .bipush 12, 2, 0, 0), (29, .if_icmp .ge 42, 3, 71, 0)],
  [(32, .aload_n 0, 1, 0, 0), (33, .getfield 9, 3, 400, 0), (36, .iload_n 3, 1, 0, 0), (37, .iload 6, 2, 0, 0), (39, .iadd, 1, 0, 0), (40, .invokestatic 30, 3, 937, 0), (43, .iload_n 2, 1, 0, 0), (44, .ishr, 1, 0, 0), (45, .aload_n 1, 1, 0, 0), (46, .getfield 9, 3, 400, 0), (49, .iload 5, 2, 0, 0), (51, .iload 6, 2, 0, 0), (53, .iadd, 1, 0, 0), (54, .invokestatic 30, 3, 937, 0), (57, .iload 4, 2, 0, 0), (59, .ishr, 1, 0, 0), (60, .if_icmp .eq 5, 3, 65, 0), (63, .iconst 0, 1, 0, 0)],
  [(64, .ireturn, 1, 0, 0), (65, .iinc 6 1, 3, 0, 0), (68, .goto (-43), 3, 25, 0), (71, .iconst 1, 1, 0, 0), (72, .ireturn, 1, 0, 0)]]
/-- RectilinearRoof$Region.leastX()I -/
def K_411 : Kd := [[(0, .iconst 0, 1, 0, 0), (1, .istore_n 1, 1, 0, 0), (2, .iconst 0, 1, 0, 0), (3, .istore_n 2, 1, 0, 0), (4, .iload_n 2, 1, 0, 0), (5, .aload_n 0, 1, 0, 0), (6, .getfield 9, 3, 400, 0), (9, .arraylength, 1, 0, 0), (10, .if_icmp .ge 18, 3, 28, 0), (13, .iload_n 1, 1, 0, 0), (14, .aload_n 0, 1, 0, 0), (15, .getfield 9, 3, 400, 0), (18, .iload_n 2, 1, 0, 0), (19, .iaload, 1, 0, 0), (20, .ior, 1, 0, 0), (21, .istore_n 1, 1, 0, 0), (22, .iinc 2 1, 3, 0, 0), (25, .goto (-21), 3, 4, 0), (28, .iconst 0, 1, 0, 0), (29, .istore_n 2, 1, 0, 0), (30, .iload_n 2, 1, 0, 0), (31, .bipush 12, 2, 0, 0)],
  [(33, .if_icmp .ge 19, 3, 52, 0), (36, .iload_n 1, 1, 0, 0), (37, .iload_n 2, 1, 0, 0), (38, .ishr, 1, 0, 0), (39, .iconst 1, 1, 0, 0), (40, .iand, 1, 0, 0), (41, .ifCond .eq 5, 3, 46, 0), (44, .iload_n 2, 1, 0, 0), (45, .ireturn, 1, 0, 0), (46, .iinc 2 1, 3, 0, 0), (49, .goto (-19), 3, 30, 0), (52, .iconst 0, 1, 0, 0), (53, .ireturn, 1, 0, 0)]]
/-- RectilinearRoof$Region.leastY()I -/
def K_412 : Kd := [[(0, .iconst 0, 1, 0, 0), (1, .istore_n 1, 1, 0, 0), (2, .iload_n 1, 1, 0, 0), (3, .aload_n 0, 1, 0, 0), (4, .getfield 9, 3, 400, 0), (7, .arraylength, 1, 0, 0), (8, .if_icmp .ge 20, 3, 28, 0), (11, .aload_n 0, 1, 0, 0), (12, .getfield 9, 3, 400, 0), (15, .iload_n 1, 1, 0, 0), (16, .iaload, 1, 0, 0), (17, .ifCond .eq 5, 3, 22, 0), (20, .iload_n 1, 1, 0, 0), (21, .ireturn, 1, 0, 0), (22, .iinc 1 1, 3, 0, 0), (25, .goto (-23), 3, 2, 0), (28, .iconst 0, 1, 0, 0), (29, .ireturn, 1, 0, 0)]]
/-- RectilinearRoof$Region.cornerPoints()I -/
def K_413 : Kd := [[(0, .iconst 0, 1, 0, 0), (1, .istore_n 1, 1, 0, 0), (2, .iconst 0, 1, 0, 0), (3, .istore_n 2, 1, 0, 0), (4, .iload_n 2, 1, 0, 0), (5, .bipush 12, 2, 0, 0), (7, .if_icmp .gt 35, 3, 42, 0), (10, .iconst 0, 1, 0, 0), (11, .istore_n 3, 1, 0, 0), (12, .iload_n 3, 1, 0, 0), (13, .bipush 12, 2, 0, 0), (15, .if_icmp .gt 21, 3, 36, 0), (18, .aload_n 0, 1, 0, 0), (19, .iload_n 3, 1, 0, 0), (20, .iload_n 2, 1, 0, 0), (21, .invokevirtual 63, 3, 414, 0), (24, .ifCond .eq 6, 3, 30, 0), (27, .iinc 1 1, 3, 0, 0), (30, .iinc 3 1, 3, 0, 0)],
  [(33, .goto (-21), 3, 12, 0), (36, .iinc 2 1, 3, 0, 0), (39, .goto (-35), 3, 4, 0), (42, .iload_n 1, 1, 0, 0), (43, .ireturn, 1, 0, 0)]]
/-- RectilinearRoof$Region.isCorner(II)Z -/
def K_414 : Kd := [[(0, .aload_n 0, 1, 0, 0), (1, .iload_n 1, 1, 0, 0), (2, .iconst 1, 1, 0, 0), (3, .isub, 1, 0, 0), (4, .iload_n 2, 1, 0, 0), (5, .iconst 1, 1, 0, 0), (6, .isub, 1, 0, 0), (7, .invokevirtual 38, 3, 401, 0), (10, .istore_n 3, 1, 0, 0), (11, .aload_n 0, 1, 0, 0), (12, .iload_n 1, 1, 0, 0), (13, .iload_n 2, 1, 0, 0), (14, .iconst 1, 1, 0, 0), (15, .isub, 1, 0, 0), (16, .invokevirtual 38, 3, 401, 0), (19, .istore 4, 2, 0, 0), (21, .aload_n 0, 1, 0, 0), (22, .iload_n 1, 1, 0, 0), (23, .iconst 1, 1, 0, 0), (24, .isub, 1, 0, 0), (25, .iload_n 2, 1, 0, 0), (26, .invokevirtual 38, 3, 401, 0), (29, .istore 5, 2, 0, 0), (31, .aload_n 0, 1, 0, 0)],
  [(32, .iload_n 1, 1, 0, 0), (33, .iload_n 2, 1, 0, 0), (34, .invokevirtual 38, 3, 401, 0), (37, .istore 6, 2, 0, 0), (39, .iload_n 3, 1, 0, 0), (40, .iload 4, 2, 0, 0), (42, .if_icmp .ne 14, 3, 56, 0), (45, .iload 5, 2, 0, 0), (47, .iload 6, 2, 0, 0), (49, .if_icmp .ne 7, 3, 56, 0), (52, .iconst 1, 1, 0, 0), (53, .goto 4, 3, 57, 0), (56, .iconst 0, 1, 0, 0), (57, .istore 7, 2, 0, 0), (59, .iload_n 3, 1, 0, 0), (60, .iload 5, 2, 0, 0), (62, .if_icmp .ne 14, 3, 76, 0)],
  [(65, .iload 4, 2, 0, 0), (67, .iload 6, 2, 0, 0), (69, .if_icmp .ne 7, 3, 76, 0), (72, .iconst 1, 1, 0, 0), (73, .goto 4, 3, 77, 0), (76, .iconst 0, 1, 0, 0), (77, .istore 8, 2, 0, 0), (79, .iload 7, 2, 0, 0), (81, .ifCond .ne 12, 3, 93, 0), (84, .iload 8, 2, 0, 0), (86, .ifCond .ne 7, 3, 93, 0), (89, .iconst 1, 1, 0, 0), (90, .goto 4, 3, 94, 0), (93, .iconst 0, 1, 0, 0), (94, .ireturn, 1, 0, 0)]]
/-- RectilinearRoof$Region.heightAt(II)I -/
def K_415 : Kd := [[(0, .bipush 96, 2, 0, 0), (2, .istore_n 3, 1, 0, 0), (3, .iconst (-1), 1, 0, 0), (4, .istore 4, 2, 0, 0), (6, .iload 4, 2, 0, 0), (8, .bipush 12, 2, 0, 0), (10, .if_icmp .gt 62, 3, 72, 0), (13, .iconst (-1), 1, 0, 0), (14, .istore 5, 2, 0, 0), (16, .iload 5, 2, 0, 0), (18, .bipush 12, 2, 0, 0), (20, .if_icmp .gt 46, 3, 66, 0), (23, .aload_n 0, 1, 0, 0), (24, .iload 5, 2, 0, 0), (26, .iload 4, 2, 0, 0), (28, .invokevirtual 38, 3, 401, 0), (31, .ifCond .ne 29, 3, 60, 0)],
  [(34, .iload_n 3, 1, 0, 0), (35, .iload_n 1, 1, 0, 0), (36, .bipush 8, 2, 0, 0), (38, .iload 5, 2, 0, 0), (40, .imul, 1, 0, 0), (41, .invokestatic 66, 3, 416, 0), (44, .iload_n 2, 1, 0, 0), (45, .bipush 8, 2, 0, 0), (47, .iload 4, 2, 0, 0), (49, .imul, 1, 0, 0), (50, .invokestatic 66, 3, 416, 0), (53, .invokestatic 70, 3, 1102, 0), (56, .invokestatic 75, 3, 1103, 0), (59, .istore_n 3, 1, 0, 0), (60, .iinc 5 1, 3, 0, 0), (63, .goto (-47), 3, 16, 0)],
  [(66, .iinc 4 1, 3, 0, 0), (69, .goto (-63), 3, 6, 0), (72, .iload_n 3, 1, 0, 0), (73, .ireturn, 1, 0, 0)]]
/-- RectilinearRoof$Region.gap(II)I -/
def K_416 : Kd := [[(0, .iconst 0, 1, 0, 0), (1, .iload_n 1, 1, 0, 0), (2, .iload_n 0, 1, 0, 0), (3, .isub, 1, 0, 0), (4, .iload_n 0, 1, 0, 0), (5, .iload_n 1, 1, 0, 0), (6, .isub, 1, 0, 0), (7, .bipush 8, 2, 0, 0), (9, .isub, 1, 0, 0), (10, .invokestatic 70, 3, 1102, 0), (13, .invokestatic 70, 3, 1102, 0), (16, .ireturn, 1, 0, 0)]]
/-- RectilinearRoof$Roof.spoil()V -/
def K_501 : Kd := [[(0, .aload_n 0, 1, 0, 0), (1, .iconst 0, 1, 0, 0), (2, .putfield 60, 3, 510, 0), (5, .return_, 1, 0, 0)]]
/-- RectilinearRoof$Roof.refresh(LRectilinearRoof$Region;)V -/
def K_502 : Kd := [[(0, .aload_n 0, 1, 0, 0), (1, .getfield 60, 3, 510, 0), (4, .ifCond .eq 4, 3, 8, 0), (7, .return_, 1, 0, 0), (8, .aload_n 0, 1, 0, 0), (9, .aload_n 1, 1, 0, 0), (10, .invokevirtual 64, 3, 507, 0), (13, .aload_n 0, 1, 0, 0), (14, .getfield 28, 3, 502, 0), (17, .astore_n 2, 1, 0, 0), (18, .iconst 0, 1, 0, 0), (19, .istore_n 3, 1, 0, 0), (20, .iload_n 3, 1, 0, 0), (21, .aload_n 0, 1, 0, 0), (22, .getfield 68, 3, 511, 0), (25, .if_icmp .ge 25, 3, 50, 0), (28, .aload_n 0, 1, 0, 0), (29, .iload_n 3, 1, 0, 0), (30, .invokevirtual 72, 3, 503, 0)],
  [(33, .astore 4, 2, 0, 0), (35, .aload 4, 2, 0, 0), (37, .aload_n 2, 1, 0, 0), (38, .invokevirtual 76, 3, 304, 0), (41, .aload 4, 2, 0, 0), (43, .astore_n 2, 1, 0, 0), (44, .iinc 3 1, 3, 0, 0), (47, .goto (-27), 3, 20, 0), (50, .aload_n 0, 1, 0, 0), (51, .getfield 12, 3, 500, 0), (54, .aload_n 0, 1, 0, 0), (55, .iconst 0, 1, 0, 0), (56, .invokevirtual 72, 3, 503, 0), (59, .getfield 80, 3, 300, 0), (62, .invokevirtual 84, 3, 1, 0)],
  [(65, .aload_n 0, 1, 0, 0), (66, .getfield 21, 3, 501, 0), (69, .aload_n 0, 1, 0, 0), (70, .invokevirtual 87, 3, 701, 0), (73, .aload_n 0, 1, 0, 0), (74, .invokevirtual 91, 3, 516, 0), (77, .aload_n 0, 1, 0, 0), (78, .iconst 1, 1, 0, 0), (79, .putfield 60, 3, 510, 0), (82, .return_, 1, 0, 0)]]
/-- RectilinearRoof$Roof.phaseAt(I)LRectilinearRoof$Phase; -/
def K_503 : Kd := [[(0, .iload_n 1, 1, 0, 0), (1, .ifCond .lt 33, 3, 34, 0), (4, .iload_n 1, 1, 0, 0), (5, .aload_n 0, 1, 0, 0), (6, .getfield 68, 3, 511, 0), (9, .if_icmp .ge 25, 3, 34, 0), (12, .iload_n 1, 1, 0, 0), (13, .aload_n 0, 1, 0, 0), (14, .getfield 32, 3, 503, 0), (17, .arraylength, 1, 0, 0), (18, .if_icmp .ge 16, 3, 34, 0), (21, .aload_n 0, 1, 0, 0), (22, .getfield 32, 3, 503, 0), (25, .iload_n 1, 1, 0, 0), (26, .aaload, 1, 0, 0), (27, .astore_n 2, 1, 0, 0), (28, .aload_n 2, 1, 0, 0), (29, .ifnull 5, 3, 34, 0)],
  [(32, .aload_n 2, 1, 0, 0), (33, .areturn, 1, 0, 0), (34, .aload_n 0, 1, 0, 0), (35, .getfield 28, 3, 502, 0), (38, .areturn, 1, 0, 0)]]
/-- RectilinearRoof$Roof.hasPhase(I)Z -/
def K_504 : Kd := [[(0, .iload_n 1, 1, 0, 0), (1, .ifCond .lt 15, 3, 16, 0), (4, .iload_n 1, 1, 0, 0), (5, .aload_n 0, 1, 0, 0), (6, .getfield 68, 3, 511, 0), (9, .if_icmp .ge 7, 3, 16, 0), (12, .iconst 1, 1, 0, 0), (13, .goto 4, 3, 17, 0), (16, .iconst 0, 1, 0, 0), (17, .ireturn, 1, 0, 0)]]
/-- RectilinearRoof$Roof.hasContour(II)Z -/
def K_505 : Kd := [[(0, .aload_n 0, 1, 0, 0), (1, .iload_n 1, 1, 0, 0), (2, .invokevirtual 94, 3, 504, 0), (5, .ifCond .eq 26, 3, 31, 0), (8, .iload_n 2, 1, 0, 0), (9, .ifCond .lt 22, 3, 31, 0), (12, .iload_n 2, 1, 0, 0), (13, .aload_n 0, 1, 0, 0), (14, .iload_n 1, 1, 0, 0), (15, .invokevirtual 72, 3, 503, 0), (18, .getfield 80, 3, 300, 0), (21, .getfield 98, 3, 211, 0), (24, .if_icmp .ge 7, 3, 31, 0), (27, .iconst 1, 1, 0, 0), (28, .goto 4, 3, 32, 0), (31, .iconst 0, 1, 0, 0)],
  [(32, .ireturn, 1, 0, 0)]]
/-- RectilinearRoof$Roof.hasSide(III)Z -/
def K_506 : Kd := [[(0, .aload_n 0, 1, 0, 0), (1, .iload_n 1, 1, 0, 0), (2, .iload_n 2, 1, 0, 0), (3, .invokevirtual 103, 3, 505, 0), (6, .ifCond .eq 27, 3, 33, 0), (9, .iload_n 3, 1, 0, 0), (10, .ifCond .lt 23, 3, 33, 0), (13, .iload_n 3, 1, 0, 0), (14, .aload_n 0, 1, 0, 0), (15, .iload_n 1, 1, 0, 0), (16, .invokevirtual 72, 3, 503, 0), (19, .getfield 80, 3, 300, 0), (22, .iload_n 2, 1, 0, 0), (23, .invokevirtual 107, 3, 209, 0), (26, .if_icmp .ge 7, 3, 33, 0), (29, .iconst 1, 1, 0, 0), (30, .goto 4, 3, 34, 0)],
  [(33, .iconst 0, 1, 0, 0), (34, .ireturn, 1, 0, 0)]]
/-- RectilinearRoof$Roof.measure(LRectilinearRoof$Region;)V -/
def K_507 : Kd := [[(0, .aload_n 0, 1, 0, 0), (1, .iconst 0, 1, 0, 0), (2, .putfield 68, 3, 511, 0), (5, .aload_n 0, 1, 0, 0), (6, .getfield 54, 3, 508, 0), (9, .iconst 0, 1, 0, 0), (10, .invokestatic 111, 3, 1104, 0), (13, .aload_n 0, 1, 0, 0), (14, .getfield 50, 3, 507, 0), (17, .iconst 0, 1, 0, 0), (18, .invokestatic 111, 3, 1104, 0), (21, .aload_n 0, 1, 0, 0), (22, .aload_n 1, 1, 0, 0), (23, .invokevirtual 117, 3, 508, 0), (26, .aload_n 0, 1, 0, 0), (27, .invokevirtual 120, 3, 509, 0), (30, .istore_n 2, 1, 0, 0), (31, .iconst 1, 1, 0, 0)],
  [(32, .istore_n 3, 1, 0, 0), (33, .iload_n 3, 1, 0, 0), (34, .aload_n 0, 1, 0, 0), (35, .getfield 50, 3, 507, 0), (38, .arraylength, 1, 0, 0), (39, .if_icmp .ge 64, 3, 103, 0), (42, .iload_n 2, 1, 0, 0), (43, .ifCond .le 60, 3, 103, 0), (46, .aload_n 0, 1, 0, 0), (47, .getfield 50, 3, 507, 0), (50, .iload_n 3, 1, 0, 0), (51, .iload_n 2, 1, 0, 0), (52, .iastore, 1, 0, 0), (53, .aload_n 0, 1, 0, 0), (54, .iload_n 3, 1, 0, 0), (55, .invokevirtual 124, 3, 510, 0), (58, .iload_n 3, 1, 0, 0), (59, .iconst 2, 1, 0, 0), (60, .irem, 1, 0, 0), (61, .ifCond .ne 27, 3, 88, 0)],
  [(64, .aload_n 0, 1, 0, 0), (65, .dup, 1, 0, 0), (66, .getfield 68, 3, 511, 0), (69, .iconst 1, 1, 0, 0), (70, .iadd, 1, 0, 0), (71, .putfield 68, 3, 511, 0), (74, .aload_n 0, 1, 0, 0), (75, .aload_n 0, 1, 0, 0), (76, .aload_n 0, 1, 0, 0), (77, .getfield 68, 3, 511, 0), (80, .iconst 1, 1, 0, 0), (81, .isub, 1, 0, 0), (82, .invokevirtual 72, 3, 503, 0), (85, .invokevirtual 128, 3, 511, 0), (88, .aload_n 0, 1, 0, 0), (89, .invokevirtual 131, 3, 512, 0), (92, .aload_n 0, 1, 0, 0), (93, .invokevirtual 120, 3, 509, 0)],
  [(96, .istore_n 2, 1, 0, 0), (97, .iinc 3 1, 3, 0, 0), (100, .goto (-67), 3, 33, 0), (103, .return_, 1, 0, 0)]]
/-- RectilinearRoof$Roof.loadLayer(LRectilinearRoof$Region;)V -/
def K_508 : Kd := [[(0, .iconst 0, 1, 0, 0), (1, .istore_n 2, 1, 0, 0), (2, .iload_n 2, 1, 0, 0), (3, .aload_n 0, 1, 0, 0), (4, .getfield 43, 3, 505, 0), (7, .arraylength, 1, 0, 0), (8, .if_icmp .ge 57, 3, 65, 0), (11, .aload_n 0, 1, 0, 0), (12, .getfield 43, 3, 505, 0), (15, .iload_n 2, 1, 0, 0), (16, .lconst 0, 1, 0, 0), (17, .lastore, 1, 0, 0), (18, .iconst 0, 1, 0, 0), (19, .istore_n 3, 1, 0, 0), (20, .iload_n 3, 1, 0, 0), (21, .bipush 12, 2, 0, 0), (23, .if_icmp .ge 36, 3, 59, 0), (26, .aload_n 1, 1, 0, 0), (27, .iload_n 3, 1, 0, 0), (28, .iload_n 2, 1, 0, 0), (29, .iconst 4, 1, 0, 0), (30, .idiv, 1, 0, 0), (31, .invokevirtual 134, 3, 401, 0)],
  [(34, .ifCond .eq 19, 3, 53, 0), (37, .aload_n 0, 1, 0, 0), (38, .getfield 43, 3, 505, 0), (41, .iload_n 2, 1, 0, 0), (42, .dup2, 1, 0, 0), (43, .laload, 1, 0, 0), (44, .ldc2_w 139, 3, 0, 15), (47, .iconst 4, 1, 0, 0), (48, .iload_n 3, 1, 0, 0), (49, .imul, 1, 0, 0), (50, .lshl, 1, 0, 0), (51, .lor, 1, 0, 0), (52, .lastore, 1, 0, 0), (53, .iinc 3 1, 3, 0, 0), (56, .goto (-36), 3, 20, 0), (59, .iinc 2 1, 3, 0, 0), (62, .goto (-60), 3, 2, 0)],
  [(65, .return_, 1, 0, 0)]]
/-- RectilinearRoof$Roof.layerCells()I -/
def K_509 : Kd := [[(0, .iconst 0, 1, 0, 0), (1, .istore_n 1, 1, 0, 0), (2, .iconst 0, 1, 0, 0), (3, .istore_n 2, 1, 0, 0), (4, .iload_n 2, 1, 0, 0), (5, .aload_n 0, 1, 0, 0), (6, .getfield 43, 3, 505, 0), (9, .arraylength, 1, 0, 0), (10, .if_icmp .ge 21, 3, 31, 0), (13, .iload_n 1, 1, 0, 0), (14, .aload_n 0, 1, 0, 0), (15, .getfield 43, 3, 505, 0), (18, .iload_n 2, 1, 0, 0), (19, .laload, 1, 0, 0), (20, .invokestatic 141, 3, 1101, 0), (23, .iadd, 1, 0, 0), (24, .istore_n 1, 1, 0, 0), (25, .iinc 2 1, 3, 0, 0), (28, .goto (-24), 3, 4, 0), (31, .iload_n 1, 1, 0, 0)],
  [(32, .ireturn, 1, 0, 0)]]
/-- RectilinearRoof$Roof.noteSamples(I)V -/
def K_510 : Kd := [[(0, .iconst 0, 1, 0, 0), (1, .istore_n 2, 1, 0, 0), (2, .iload_n 2, 1, 0, 0), (3, .aload_n 0, 1, 0, 0), (4, .getfield 54, 3, 508, 0), (7, .arraylength, 1, 0, 0), (8, .if_icmp .ge 47, 3, 55, 0), (11, .aload_n 0, 1, 0, 0), (12, .getfield 43, 3, 505, 0), (15, .iconst 4, 1, 0, 0), (16, .iload_n 2, 1, 0, 0), (17, .bipush 12, 2, 0, 0), (19, .idiv, 1, 0, 0), (20, .imul, 1, 0, 0), (21, .iconst 1, 1, 0, 0), (22, .iadd, 1, 0, 0), (23, .invokestatic 147, 3, 945, 0), (26, .lstore_n 3, 1, 0, 0), (27, .lload_n 3, 1, 0, 0), (28, .iconst 4, 1, 0, 0), (29, .iload_n 2, 1, 0, 0), (30, .bipush 12, 2, 0, 0)],
  [(32, .irem, 1, 0, 0), (33, .imul, 1, 0, 0), (34, .lshr, 1, 0, 0), (35, .lconst 1, 1, 0, 0), (36, .land, 1, 0, 0), (37, .lconst 0, 1, 0, 0), (38, .lcmp, 1, 0, 0), (39, .ifCond .eq 10, 3, 49, 0), (42, .aload_n 0, 1, 0, 0), (43, .getfield 54, 3, 508, 0), (46, .iload_n 2, 1, 0, 0), (47, .iload_n 1, 1, 0, 0), (48, .iastore, 1, 0, 0), (49, .iinc 2 1, 3, 0, 0), (52, .goto (-50), 3, 2, 0), (55, .return_, 1, 0, 0)]]
/-- RectilinearRoof$Roof.copyLayer(LRectilinearRoof$Phase;)V -/
def K_511 : Kd := [[(0, .iconst 0, 1, 0, 0), (1, .istore_n 2, 1, 0, 0), (2, .iload_n 2, 1, 0, 0), (3, .aload_n 0, 1, 0, 0), (4, .getfield 43, 3, 505, 0), (7, .arraylength, 1, 0, 0), (8, .if_icmp .ge 20, 3, 28, 0), (11, .aload_n 1, 1, 0, 0), (12, .iload_n 2, 1, 0, 0), (13, .aload_n 0, 1, 0, 0), (14, .getfield 43, 3, 505, 0), (17, .iload_n 2, 1, 0, 0), (18, .laload, 1, 0, 0), (19, .invokevirtual 151, 3, 303, 0), (22, .iinc 2 1, 3, 0, 0), (25, .goto (-23), 3, 2, 0), (28, .return_, 1, 0, 0)]]
/-- RectilinearRoof$Roof.shrinkLayer()V -/
def K_512 : Kd := [[(0, .iconst 0, 1, 0, 0), (1, .istore_n 1, 1, 0, 0), (2, .iload_n 1, 1, 0, 0), (3, .aload_n 0, 1, 0, 0), (4, .getfield 43, 3, 505, 0), (7, .arraylength, 1, 0, 0), (8, .if_icmp .ge 48, 3, 56, 0), (11, .iload_n 1, 1, 0, 0), (12, .aload_n 0, 1, 0, 0), (13, .getfield 47, 3, 506, 0), (16, .arraylength, 1, 0, 0), (17, .if_icmp .ge 39, 3, 56, 0), (20, .aload_n 0, 1, 0, 0), (21, .getfield 47, 3, 506, 0), (24, .iload_n 1, 1, 0, 0), (25, .aload_n 0, 1, 0, 0), (26, .getfield 43, 3, 505, 0), (29, .iload_n 1, 1, 0, 0), (30, .laload, 1, 0, 0), (31, .aload_n 0, 1, 0, 0)],
  [(32, .getfield 43, 3, 505, 0), (35, .iload_n 1, 1, 0, 0), (36, .laload, 1, 0, 0), (37, .iconst 1, 1, 0, 0), (38, .lshl, 1, 0, 0), (39, .land, 1, 0, 0), (40, .aload_n 0, 1, 0, 0), (41, .getfield 43, 3, 505, 0), (44, .iload_n 1, 1, 0, 0), (45, .laload, 1, 0, 0), (46, .iconst 1, 1, 0, 0), (47, .lushr, 1, 0, 0), (48, .land, 1, 0, 0), (49, .lastore, 1, 0, 0), (50, .iinc 1 1, 3, 0, 0), (53, .goto (-51), 3, 2, 0), (56, .iconst 0, 1, 0, 0), (57, .istore_n 1, 1, 0, 0), (58, .iload_n 1, 1, 0, 0), (59, .aload_n 0, 1, 0, 0), (60, .getfield 43, 3, 505, 0), (63, .arraylength, 1, 0, 0)],
  [(64, .if_icmp .ge 45, 3, 109, 0), (67, .aload_n 0, 1, 0, 0), (68, .getfield 43, 3, 505, 0), (71, .iload_n 1, 1, 0, 0), (72, .aload_n 0, 1, 0, 0), (73, .getfield 47, 3, 506, 0), (76, .iload_n 1, 1, 0, 0), (77, .iconst 1, 1, 0, 0), (78, .isub, 1, 0, 0), (79, .invokestatic 147, 3, 945, 0), (82, .aload_n 0, 1, 0, 0), (83, .getfield 47, 3, 506, 0), (86, .iload_n 1, 1, 0, 0), (87, .invokestatic 147, 3, 945, 0), (90, .land, 1, 0, 0), (91, .aload_n 0, 1, 0, 0), (92, .getfield 47, 3, 506, 0), (95, .iload_n 1, 1, 0, 0)],
  [(96, .iconst 1, 1, 0, 0), (97, .iadd, 1, 0, 0), (98, .invokestatic 147, 3, 945, 0), (101, .land, 1, 0, 0), (102, .lastore, 1, 0, 0), (103, .iinc 1 1, 3, 0, 0), (106, .goto (-48), 3, 58, 0), (109, .return_, 1, 0, 0)]]
/-- RectilinearRoof$Roof.areaAt(I)I -/
def K_514 : Kd := [[(0, .aload_n 0, 1, 0, 0), (1, .getfield 50, 3, 507, 0), (4, .iconst 2, 1, 0, 0), (5, .iload_n 1, 1, 0, 0), (6, .imul, 1, 0, 0), (7, .iconst 1, 1, 0, 0), (8, .iadd, 1, 0, 0), (9, .invokestatic 155, 3, 937, 0), (12, .iconst 4, 1, 0, 0), (13, .idiv, 1, 0, 0), (14, .ireturn, 1, 0, 0)]]
/-- RectilinearRoof$Roof.volumeBelow()I -/
def K_515 : Kd := [[(0, .iconst 0, 1, 0, 0), (1, .istore_n 1, 1, 0, 0), (2, .iconst 0, 1, 0, 0), (3, .istore_n 2, 1, 0, 0), (4, .iload_n 2, 1, 0, 0), (5, .aload_n 0, 1, 0, 0), (6, .getfield 68, 3, 511, 0), (9, .if_icmp .ge 38, 3, 47, 0), (12, .iload_n 1, 1, 0, 0), (13, .aload_n 0, 1, 0, 0), (14, .iload_n 2, 1, 0, 0), (15, .invokevirtual 159, 3, 514, 0), (18, .aload_n 0, 1, 0, 0), (19, .getfield 50, 3, 507, 0), (22, .iconst 2, 1, 0, 0), (23, .iload_n 2, 1, 0, 0), (24, .imul, 1, 0, 0), (25, .iconst 2, 1, 0, 0), (26, .iadd, 1, 0, 0), (27, .invokestatic 155, 3, 937, 0), (30, .iadd, 1, 0, 0), (31, .aload_n 0, 1, 0, 0)],
  [(32, .iload_n 2, 1, 0, 0), (33, .iconst 1, 1, 0, 0), (34, .iadd, 1, 0, 0), (35, .invokevirtual 159, 3, 514, 0), (38, .iadd, 1, 0, 0), (39, .iadd, 1, 0, 0), (40, .istore_n 1, 1, 0, 0), (41, .iinc 2 1, 3, 0, 0), (44, .goto (-40), 3, 4, 0), (47, .iload_n 1, 1, 0, 0), (48, .ireturn, 1, 0, 0)]]
/-- RectilinearRoof$Roof.findFaces()V -/
def K_516 : Kd := [[(0, .iconst 0, 1, 0, 0), (1, .istore_n 1, 1, 0, 0), (2, .iload_n 1, 1, 0, 0), (3, .aload_n 0, 1, 0, 0), (4, .getfield 57, 3, 509, 0), (7, .arraylength, 1, 0, 0), (8, .if_icmp .ge 35, 3, 43, 0), (11, .aload_n 0, 1, 0, 0), (12, .getfield 57, 3, 509, 0), (15, .iload_n 1, 1, 0, 0), (16, .aload_n 0, 1, 0, 0), (17, .getfield 54, 3, 508, 0), (20, .iload_n 1, 1, 0, 0), (21, .invokestatic 155, 3, 937, 0), (24, .ifCond .ne 7, 3, 31, 0), (27, .iconst (-1), 1, 0, 0), (28, .goto 8, 3, 36, 0), (31, .aload_n 0, 1, 0, 0)],
  [(32, .iload_n 1, 1, 0, 0), (33, .invokevirtual 162, 3, 517, 0), (36, .iastore, 1, 0, 0), (37, .iinc 1 1, 3, 0, 0), (40, .goto (-38), 3, 2, 0), (43, .return_, 1, 0, 0)]]
/-- RectilinearRoof$Roof.lowestTouched(I)I -/
def K_517 : Kd := [[(0, .iconst 2, 1, 0, 0), (1, .aload_n 0, 1, 0, 0), (2, .getfield 54, 3, 508, 0), (5, .iload_n 1, 1, 0, 0), (6, .invokestatic 155, 3, 937, 0), (9, .imul, 1, 0, 0), (10, .iconst 1, 1, 0, 0), (11, .isub, 1, 0, 0), (12, .istore_n 2, 1, 0, 0), (13, .bipush 8, 2, 0, 0), (15, .iload_n 1, 1, 0, 0), (16, .bipush 12, 2, 0, 0), (18, .irem, 1, 0, 0), (19, .imul, 1, 0, 0), (20, .iconst 1, 1, 0, 0), (21, .iadd, 1, 0, 0), (22, .istore_n 3, 1, 0, 0), (23, .bipush 8, 2, 0, 0), (25, .iload_n 1, 1, 0, 0), (26, .bipush 12, 2, 0, 0), (28, .idiv, 1, 0, 0), (29, .imul, 1, 0, 0), (30, .iconst 3, 1, 0, 0), (31, .iadd, 1, 0, 0)],
  [(32, .istore 4, 2, 0, 0), (34, .iconst (-1), 1, 0, 0), (35, .istore 5, 2, 0, 0), (37, .iconst 0, 1, 0, 0), (38, .istore 6, 2, 0, 0), (40, .iload 6, 2, 0, 0), (42, .iconst 3, 1, 0, 0), (43, .if_icmp .gt 105, 3, 148, 0), (46, .iload 6, 2, 0, 0), (48, .invokestatic 165, 3, 942, 0), (51, .ifCond .eq 8, 3, 59, 0), (54, .iload 4, 2, 0, 0), (56, .goto 4, 3, 60, 0), (59, .iload_n 3, 1, 0, 0), (60, .istore 7, 2, 0, 0), (62, .iload 6, 2, 0, 0)],
  [(64, .invokestatic 165, 3, 942, 0), (67, .ifCond .eq 7, 3, 74, 0), (70, .iload_n 3, 1, 0, 0), (71, .goto 5, 3, 76, 0), (74, .iload 4, 2, 0, 0), (76, .istore 8, 2, 0, 0), (78, .iload 6, 2, 0, 0), (80, .invokestatic 168, 3, 941, 0), (83, .ifCond .eq 10, 3, 93, 0), (86, .iload 7, 2, 0, 0), (88, .iload_n 2, 1, 0, 0), (89, .isub, 1, 0, 0), (90, .goto 7, 3, 97, 0), (93, .iload 7, 2, 0, 0), (95, .iload_n 2, 1, 0, 0)],
  [(96, .iadd, 1, 0, 0), (97, .istore 9, 2, 0, 0), (99, .aload_n 0, 1, 0, 0), (100, .getfield 12, 3, 500, 0), (103, .iload 6, 2, 0, 0), (105, .iload 9, 2, 0, 0), (107, .iload 8, 2, 0, 0), (109, .iload_n 2, 1, 0, 0), (110, .isub, 1, 0, 0), (111, .iload 8, 2, 0, 0), (113, .iload_n 2, 1, 0, 0), (114, .iadd, 1, 0, 0), (115, .iconst 1, 1, 0, 0), (116, .invokevirtual 171, 3, 9, 0), (119, .istore 10, 2, 0, 0), (121, .iload 10, 2, 0, 0), (123, .ifCond .lt 19, 3, 142, 0), (126, .iload 5, 2, 0, 0)],
  [(128, .ifCond .lt 10, 3, 138, 0), (131, .iload 10, 2, 0, 0), (133, .iload 5, 2, 0, 0), (135, .if_icmp .ge 7, 3, 142, 0), (138, .iload 10, 2, 0, 0), (140, .istore 5, 2, 0, 0), (142, .iinc 6 1, 3, 0, 0), (145, .goto (-105), 3, 40, 0), (148, .iload 5, 2, 0, 0), (150, .ireturn, 1, 0, 0)]]
/-- RectilinearRoof$Roof.faceOf(II)I -/
def K_518 : Kd := [[(0, .aload_n 0, 1, 0, 0), (1, .getfield 57, 3, 509, 0), (4, .iload_n 2, 1, 0, 0), (5, .bipush 12, 2, 0, 0), (7, .imul, 1, 0, 0), (8, .iload_n 1, 1, 0, 0), (9, .iadd, 1, 0, 0), (10, .invokestatic 155, 3, 937, 0), (13, .ireturn, 1, 0, 0)]]
/-- RectilinearRoof$Roof.edgeProperty(II)I -/
def K_519 : Kd := [[(0, .iload_n 2, 1, 0, 0), (1, .tableswitch 94 0 5 #[39, 48, 57, 66, 75, 88], 39, 0, 0)],
  [(40, .aload_n 0, 1, 0, 0), (41, .getfield 12, 3, 500, 0), (44, .iload_n 1, 1, 0, 0), (45, .invokevirtual 175, 3, 4, 0), (48, .ireturn, 1, 0, 0), (49, .aload_n 0, 1, 0, 0), (50, .getfield 12, 3, 500, 0), (53, .iload_n 1, 1, 0, 0), (54, .invokevirtual 178, 3, 5, 0), (57, .ireturn, 1, 0, 0), (58, .aload_n 0, 1, 0, 0), (59, .getfield 12, 3, 500, 0), (62, .iload_n 1, 1, 0, 0), (63, .invokevirtual 181, 3, 6, 0)],
  [(66, .ireturn, 1, 0, 0), (67, .aload_n 0, 1, 0, 0), (68, .getfield 12, 3, 500, 0), (71, .iload_n 1, 1, 0, 0), (72, .invokevirtual 184, 3, 7, 0), (75, .ireturn, 1, 0, 0), (76, .aload_n 0, 1, 0, 0), (77, .iconst 0, 1, 0, 0), (78, .invokevirtual 72, 3, 503, 0), (81, .getfield 80, 3, 300, 0), (84, .iload_n 1, 1, 0, 0), (85, .invokevirtual 187, 3, 211, 0), (88, .ireturn, 1, 0, 0), (89, .aload_n 0, 1, 0, 0), (90, .iload_n 1, 1, 0, 0), (91, .invokevirtual 190, 3, 520, 0), (94, .ireturn, 1, 0, 0), (95, .aload_n 0, 1, 0, 0)],
  [(96, .iload_n 1, 1, 0, 0), (97, .invokevirtual 193, 3, 521, 0), (100, .ireturn, 1, 0, 0)]]
/-- RectilinearRoof$Roof.faceSize(I)I -/
def K_520 : Kd := [[(0, .iconst 0, 1, 0, 0), (1, .istore_n 2, 1, 0, 0), (2, .iconst 0, 1, 0, 0), (3, .istore_n 3, 1, 0, 0), (4, .iload_n 3, 1, 0, 0), (5, .aload_n 0, 1, 0, 0), (6, .getfield 57, 3, 509, 0), (9, .arraylength, 1, 0, 0), (10, .if_icmp .ge 22, 3, 32, 0), (13, .aload_n 0, 1, 0, 0), (14, .getfield 57, 3, 509, 0), (17, .iload_n 3, 1, 0, 0), (18, .iaload, 1, 0, 0), (19, .iload_n 1, 1, 0, 0), (20, .if_icmp .ne 6, 3, 26, 0), (23, .iinc 2 1, 3, 0, 0), (26, .iinc 3 1, 3, 0, 0), (29, .goto (-25), 3, 4, 0)],
  [(32, .iload_n 2, 1, 0, 0), (33, .ireturn, 1, 0, 0)]]
/-- RectilinearRoof$Roof.extinction(I)I -/
def K_521 : Kd := [[(0, .iconst 0, 1, 0, 0), (1, .istore_n 2, 1, 0, 0), (2, .iload_n 2, 1, 0, 0), (3, .aload_n 0, 1, 0, 0), (4, .getfield 68, 3, 511, 0), (7, .if_icmp .ge 20, 3, 27, 0), (10, .aload_n 0, 1, 0, 0), (11, .iload_n 1, 1, 0, 0), (12, .iload_n 2, 1, 0, 0), (13, .invokevirtual 196, 3, 522, 0), (16, .ifCond .ne 5, 3, 21, 0), (19, .iload_n 2, 1, 0, 0), (20, .ireturn, 1, 0, 0), (21, .iinc 2 1, 3, 0, 0), (24, .goto (-22), 3, 2, 0), (27, .aload_n 0, 1, 0, 0), (28, .getfield 68, 3, 511, 0), (31, .ireturn, 1, 0, 0)]]
/-- RectilinearRoof$Roof.drives(II)Z -/
def K_522 : Kd := [[(0, .aload_n 0, 1, 0, 0), (1, .iload_n 2, 1, 0, 0), (2, .invokevirtual 72, 3, 503, 0), (5, .getfield 80, 3, 300, 0), (8, .astore_n 3, 1, 0, 0), (9, .iconst 2, 1, 0, 0), (10, .iload_n 2, 1, 0, 0), (11, .imul, 1, 0, 0), (12, .iconst 1, 1, 0, 0), (13, .iadd, 1, 0, 0), (14, .istore 4, 2, 0, 0), (16, .aload_n 0, 1, 0, 0), (17, .getfield 12, 3, 500, 0), (20, .iload_n 1, 1, 0, 0), (21, .invokevirtual 175, 3, 4, 0), (24, .istore 5, 2, 0, 0), (26, .iconst 4, 1, 0, 0), (27, .aload_n 0, 1, 0, 0), (28, .getfield 12, 3, 500, 0), (31, .iload_n 1, 1, 0, 0)],
  [(32, .invokevirtual 178, 3, 5, 0), (35, .imul, 1, 0, 0), (36, .iload 5, 2, 0, 0), (38, .invokestatic 168, 3, 941, 0), (41, .ifCond .eq 8, 3, 49, 0), (44, .iload 4, 2, 0, 0), (46, .goto 6, 3, 52, 0), (49, .iload 4, 2, 0, 0), (51, .ineg, 1, 0, 0), (52, .iadd, 1, 0, 0), (53, .istore 6, 2, 0, 0), (55, .iconst 0, 1, 0, 0), (56, .istore 7, 2, 0, 0), (58, .iload 7, 2, 0, 0), (60, .aload_n 3, 1, 0, 0), (61, .getfield 199, 3, 213, 0)],
  [(64, .if_icmp .ge 74, 3, 138, 0), (67, .iconst 2, 1, 0, 0), (68, .aload_n 3, 1, 0, 0), (69, .iload 7, 2, 0, 0), (71, .invokevirtual 202, 3, 214, 0), (74, .iload 4, 2, 0, 0), (76, .isub, 1, 0, 0), (77, .imul, 1, 0, 0), (78, .istore 8, 2, 0, 0), (80, .iconst 2, 1, 0, 0), (81, .aload_n 3, 1, 0, 0), (82, .iload 7, 2, 0, 0), (84, .invokevirtual 203, 3, 215, 0), (87, .iload 4, 2, 0, 0), (89, .iadd, 1, 0, 0), (90, .imul, 1, 0, 0), (91, .istore 9, 2, 0, 0), (93, .aload_n 3, 1, 0, 0), (94, .iload 7, 2, 0, 0)],
  [(96, .invokevirtual 204, 3, 212, 0), (99, .iload 5, 2, 0, 0), (101, .if_icmp .ne 31, 3, 132, 0), (104, .aload_n 3, 1, 0, 0), (105, .iload 7, 2, 0, 0), (107, .invokevirtual 205, 3, 213, 0), (110, .iload 6, 2, 0, 0), (112, .if_icmp .ne 20, 3, 132, 0), (115, .aload_n 0, 1, 0, 0), (116, .getfield 12, 3, 500, 0), (119, .iload_n 1, 1, 0, 0), (120, .iload 8, 2, 0, 0), (122, .iload 9, 2, 0, 0), (124, .invokevirtual 206, 3, 8, 0), (127, .ifCond .eq 5, 3, 132, 0)],
  [(130, .iconst 1, 1, 0, 0), (131, .ireturn, 1, 0, 0), (132, .iinc 7 1, 3, 0, 0), (135, .goto (-77), 3, 58, 0), (138, .iconst 0, 1, 0, 0), (139, .ireturn, 1, 0, 0)]]
/-- RectilinearRoof$Roof.originOf(III)I -/
def K_523 : Kd := [[(0, .aload_n 0, 1, 0, 0), (1, .iload_n 1, 1, 0, 0), (2, .invokevirtual 72, 3, 503, 0), (5, .getfield 80, 3, 300, 0), (8, .astore 4, 2, 0, 0), (10, .iconst 2, 1, 0, 0), (11, .iload_n 1, 1, 0, 0), (12, .imul, 1, 0, 0), (13, .iconst 1, 1, 0, 0), (14, .iadd, 1, 0, 0), (15, .istore 5, 2, 0, 0), (17, .aload 4, 2, 0, 0), (19, .iload_n 2, 1, 0, 0), (20, .invokevirtual 204, 3, 212, 0), (23, .istore 6, 2, 0, 0), (25, .aload 4, 2, 0, 0), (27, .iload_n 2, 1, 0, 0), (28, .invokevirtual 205, 3, 213, 0), (31, .iload 6, 2, 0, 0)],
  [(33, .invokestatic 168, 3, 941, 0), (36, .ifCond .eq 9, 3, 45, 0), (39, .iload 5, 2, 0, 0), (41, .ineg, 1, 0, 0), (42, .goto 5, 3, 47, 0), (45, .iload 5, 2, 0, 0), (47, .iadd, 1, 0, 0), (48, .istore 7, 2, 0, 0), (50, .aload_n 0, 1, 0, 0), (51, .getfield 12, 3, 500, 0), (54, .iload 6, 2, 0, 0), (56, .iconst 2, 1, 0, 0), (57, .iload 7, 2, 0, 0), (59, .imul, 1, 0, 0), (60, .iconst 2, 1, 0, 0), (61, .aload 4, 2, 0, 0), (63, .iload_n 2, 1, 0, 0)],
  [(64, .invokevirtual 202, 3, 214, 0), (67, .iload 5, 2, 0, 0), (69, .isub, 1, 0, 0), (70, .imul, 1, 0, 0), (71, .iconst 2, 1, 0, 0), (72, .aload 4, 2, 0, 0), (74, .iload_n 2, 1, 0, 0), (75, .invokevirtual 203, 3, 215, 0), (78, .iload 5, 2, 0, 0), (80, .iadd, 1, 0, 0), (81, .imul, 1, 0, 0), (82, .iload_n 3, 1, 0, 0), (83, .invokevirtual 171, 3, 9, 0), (86, .ireturn, 1, 0, 0)]]
/-- RectilinearRoof$Roof.phaseProperty(II)I -/
def K_524 : Kd := [[(0, .aload_n 0, 1, 0, 0), (1, .iload_n 1, 1, 0, 0), (2, .invokevirtual 72, 3, 503, 0), (5, .getfield 80, 3, 300, 0), (8, .astore_n 3, 1, 0, 0), (9, .iload_n 2, 1, 0, 0), (10, .tableswitch 89 0 6 #[42, 55, 64, 69, 74, 79, 84], 42, 0, 0)],
  [(52, .aload_n 0, 1, 0, 0), (53, .getfield 50, 3, 507, 0), (56, .iconst 2, 1, 0, 0), (57, .iload_n 1, 1, 0, 0), (58, .imul, 1, 0, 0), (59, .iconst 2, 1, 0, 0), (60, .iadd, 1, 0, 0), (61, .invokestatic 155, 3, 937, 0)],
  [(64, .ireturn, 1, 0, 0), (65, .aload_n 0, 1, 0, 0), (66, .iload_n 1, 1, 0, 0), (67, .invokevirtual 72, 3, 503, 0), (70, .getfield 210, 3, 310, 0), (73, .ireturn, 1, 0, 0), (74, .aload_n 3, 1, 0, 0), (75, .getfield 98, 3, 211, 0), (78, .ireturn, 1, 0, 0), (79, .aload_n 3, 1, 0, 0), (80, .getfield 213, 3, 212, 0), (83, .ireturn, 1, 0, 0), (84, .aload_n 3, 1, 0, 0), (85, .getfield 199, 3, 213, 0), (88, .ireturn, 1, 0, 0), (89, .aload_n 3, 1, 0, 0), (90, .getfield 216, 3, 214, 0), (93, .ireturn, 1, 0, 0), (94, .aload_n 3, 1, 0, 0), (95, .getfield 219, 3, 215, 0)],
  [(98, .ireturn, 1, 0, 0), (99, .aload_n 0, 1, 0, 0), (100, .iload_n 1, 1, 0, 0), (101, .invokevirtual 222, 3, 525, 0), (104, .ireturn, 1, 0, 0)]]
/-- RectilinearRoof$Roof.mergedSides(I)I -/
def K_525 : Kd := [[(0, .aload_n 0, 1, 0, 0), (1, .iload_n 1, 1, 0, 0), (2, .invokevirtual 72, 3, 503, 0), (5, .getfield 80, 3, 300, 0), (8, .getfield 199, 3, 213, 0), (11, .istore_n 2, 1, 0, 0), (12, .iconst 0, 1, 0, 0), (13, .istore_n 3, 1, 0, 0), (14, .iconst 0, 1, 0, 0), (15, .istore 4, 2, 0, 0), (17, .iload 4, 2, 0, 0), (19, .iload_n 2, 1, 0, 0), (20, .if_icmp .ge 24, 3, 44, 0), (23, .aload_n 0, 1, 0, 0), (24, .iload_n 1, 1, 0, 0), (25, .iload 4, 2, 0, 0), (27, .iconst 0, 1, 0, 0), (28, .invokevirtual 225, 3, 523, 0), (31, .iconst 1, 1, 0, 0)],
  [(32, .if_icmp .le 6, 3, 38, 0), (35, .iinc 3 1, 3, 0, 0), (38, .iinc 4 1, 3, 0, 0), (41, .goto (-24), 3, 17, 0), (44, .iload_n 3, 1, 0, 0), (45, .ireturn, 1, 0, 0)]]
/-- RectilinearRoof$Roof.isEvent(I)Z -/
def K_526 : Kd := [[(0, .aload_n 0, 1, 0, 0), (1, .iload_n 1, 1, 0, 0), (2, .iconst 1, 1, 0, 0), (3, .isub, 1, 0, 0), (4, .invokevirtual 72, 3, 503, 0), (7, .astore_n 2, 1, 0, 0), (8, .aload_n 0, 1, 0, 0), (9, .iload_n 1, 1, 0, 0), (10, .invokevirtual 72, 3, 503, 0), (13, .astore_n 3, 1, 0, 0), (14, .aload_n 2, 1, 0, 0), (15, .getfield 80, 3, 300, 0), (18, .getfield 199, 3, 213, 0), (21, .aload_n 3, 1, 0, 0), (22, .getfield 80, 3, 300, 0), (25, .getfield 199, 3, 213, 0), (28, .if_icmp .ne 31, 3, 59, 0), (31, .aload_n 2, 1, 0, 0)],
  [(32, .getfield 210, 3, 310, 0), (35, .aload_n 3, 1, 0, 0), (36, .getfield 210, 3, 310, 0), (39, .if_icmp .ne 20, 3, 59, 0), (42, .aload_n 2, 1, 0, 0), (43, .getfield 80, 3, 300, 0), (46, .getfield 213, 3, 212, 0), (49, .aload_n 3, 1, 0, 0), (50, .getfield 80, 3, 300, 0), (53, .getfield 213, 3, 212, 0), (56, .if_icmp .eq 7, 3, 63, 0), (59, .iconst 1, 1, 0, 0), (60, .goto 4, 3, 64, 0), (63, .iconst 0, 1, 0, 0)],
  [(64, .ireturn, 1, 0, 0)]]
/-- RectilinearRoof$Roof.eventCount()I -/
def K_527 : Kd := [[(0, .iconst 0, 1, 0, 0), (1, .istore_n 1, 1, 0, 0), (2, .iconst 1, 1, 0, 0), (3, .istore_n 2, 1, 0, 0), (4, .iload_n 2, 1, 0, 0), (5, .aload_n 0, 1, 0, 0), (6, .getfield 68, 3, 511, 0), (9, .if_icmp .gt 20, 3, 29, 0), (12, .aload_n 0, 1, 0, 0), (13, .iload_n 2, 1, 0, 0), (14, .invokevirtual 229, 3, 526, 0), (17, .ifCond .eq 6, 3, 23, 0), (20, .iinc 1 1, 3, 0, 0), (23, .iinc 2 1, 3, 0, 0), (26, .goto (-22), 3, 4, 0), (29, .iload_n 1, 1, 0, 0), (30, .ireturn, 1, 0, 0)]]
/-- RectilinearRoof$Tree.grow(LRectilinearRoof$Roof;)V -/
def K_701 : Kd := [[(0, .aload_n 0, 1, 0, 0), (1, .iconst 0, 1, 0, 0), (2, .putfield 39, 3, 710, 0), (5, .aload_n 0, 1, 0, 0), (6, .iconst 0, 1, 0, 0), (7, .putfield 43, 3, 709, 0), (10, .aload_n 0, 1, 0, 0), (11, .aload_n 1, 1, 0, 0), (12, .iconst 0, 1, 0, 0), (13, .invokevirtual 46, 3, 503, 0), (16, .iconst 0, 1, 0, 0), (17, .iconst (-1), 1, 0, 0), (18, .iconst (-1), 1, 0, 0), (19, .invokevirtual 52, 3, 702, 0), (22, .iconst 0, 1, 0, 0), (23, .istore_n 2, 1, 0, 0), (24, .iload_n 2, 1, 0, 0), (25, .sipush 864, 3, 0, 0), (28, .if_icmp .ge 64, 3, 92, 0), (31, .aload_n 0, 1, 0, 0)],
  [(32, .getfield 43, 3, 709, 0), (35, .ifCond .le 57, 3, 92, 0), (38, .aload_n 0, 1, 0, 0), (39, .dup, 1, 0, 0), (40, .getfield 43, 3, 709, 0), (43, .iconst 1, 1, 0, 0), (44, .isub, 1, 0, 0), (45, .putfield 43, 3, 709, 0), (48, .aload_n 0, 1, 0, 0), (49, .aload_n 1, 1, 0, 0), (50, .aload_n 0, 1, 0, 0), (51, .getfield 30, 3, 706, 0), (54, .aload_n 0, 1, 0, 0), (55, .getfield 43, 3, 709, 0), (58, .invokestatic 56, 3, 937, 0), (61, .aload_n 0, 1, 0, 0), (62, .getfield 33, 3, 707, 0)],
  [(65, .aload_n 0, 1, 0, 0), (66, .getfield 43, 3, 709, 0), (69, .invokestatic 56, 3, 937, 0), (72, .aload_n 0, 1, 0, 0), (73, .getfield 36, 3, 708, 0), (76, .aload_n 0, 1, 0, 0), (77, .getfield 43, 3, 709, 0), (80, .invokestatic 56, 3, 937, 0), (83, .invokevirtual 60, 3, 703, 0), (86, .iinc 2 1, 3, 0, 0), (89, .goto (-65), 3, 24, 0), (92, .aload_n 0, 1, 0, 0), (93, .invokevirtual 64, 3, 704, 0)],
  [(96, .return_, 1, 0, 0)]]
/-- RectilinearRoof$Tree.pushChildren(LRectilinearRoof$Phase;III)V -/
def K_702 : Kd := [[(0, .aload_n 1, 1, 0, 0), (1, .getfield 67, 3, 310, 0), (4, .iconst 1, 1, 0, 0), (5, .isub, 1, 0, 0), (6, .istore 5, 2, 0, 0), (8, .iload 5, 2, 0, 0), (10, .ifCond .lt 67, 3, 77, 0), (13, .aload_n 1, 1, 0, 0), (14, .iload 5, 2, 0, 0), (16, .invokevirtual 72, 3, 312, 0), (19, .iload_n 3, 1, 0, 0), (20, .if_icmp .ne 51, 3, 71, 0), (23, .aload_n 0, 1, 0, 0), (24, .getfield 30, 3, 706, 0), (27, .aload_n 0, 1, 0, 0), (28, .getfield 43, 3, 709, 0), (31, .iload_n 2, 1, 0, 0)],
  [(32, .invokestatic 76, 3, 938, 0), (35, .aload_n 0, 1, 0, 0), (36, .getfield 33, 3, 707, 0), (39, .aload_n 0, 1, 0, 0), (40, .getfield 43, 3, 709, 0), (43, .iload 5, 2, 0, 0), (45, .invokestatic 76, 3, 938, 0), (48, .aload_n 0, 1, 0, 0), (49, .getfield 36, 3, 708, 0), (52, .aload_n 0, 1, 0, 0), (53, .getfield 43, 3, 709, 0), (56, .iload 4, 2, 0, 0), (58, .invokestatic 76, 3, 938, 0), (61, .aload_n 0, 1, 0, 0), (62, .dup, 1, 0, 0), (63, .getfield 43, 3, 709, 0)],
  [(66, .iconst 1, 1, 0, 0), (67, .iadd, 1, 0, 0), (68, .putfield 43, 3, 709, 0), (71, .iinc 5 (-1), 3, 0, 0), (74, .goto (-66), 3, 8, 0), (77, .return_, 1, 0, 0)]]
/-- RectilinearRoof$Tree.growBranch(LRectilinearRoof$Roof;III)V -/
def K_703 : Kd := [[(0, .iload_n 2, 1, 0, 0), (1, .istore 5, 2, 0, 0), (3, .iload_n 3, 1, 0, 0), (4, .istore 6, 2, 0, 0), (6, .iconst 0, 1, 0, 0), (7, .istore 7, 2, 0, 0), (9, .iload 7, 2, 0, 0), (11, .bipush 12, 2, 0, 0), (13, .if_icmp .ge 40, 3, 53, 0), (16, .aload_n 1, 1, 0, 0), (17, .iload 5, 2, 0, 0), (19, .invokevirtual 46, 3, 503, 0), (22, .iload 6, 2, 0, 0), (24, .invokevirtual 80, 3, 313, 0), (27, .iconst 1, 1, 0, 0), (28, .if_icmp .ne 25, 3, 53, 0), (31, .iinc 5 1, 3, 0, 0)],
  [(34, .aload_n 1, 1, 0, 0), (35, .iload 5, 2, 0, 0), (37, .invokevirtual 46, 3, 503, 0), (40, .iload 6, 2, 0, 0), (42, .invokevirtual 83, 3, 314, 0), (45, .istore 6, 2, 0, 0), (47, .iinc 7 1, 3, 0, 0), (50, .goto (-41), 3, 9, 0), (53, .aload_n 0, 1, 0, 0), (54, .getfield 9, 3, 700, 0), (57, .aload_n 0, 1, 0, 0), (58, .getfield 39, 3, 710, 0), (61, .iload_n 2, 1, 0, 0), (62, .invokestatic 76, 3, 938, 0)],
  [(65, .aload_n 0, 1, 0, 0), (66, .getfield 15, 3, 701, 0), (69, .aload_n 0, 1, 0, 0), (70, .getfield 39, 3, 710, 0), (73, .iload 5, 2, 0, 0), (75, .invokestatic 76, 3, 938, 0), (78, .aload_n 0, 1, 0, 0), (79, .getfield 18, 3, 702, 0), (82, .aload_n 0, 1, 0, 0), (83, .getfield 39, 3, 710, 0), (86, .iload_n 3, 1, 0, 0), (87, .invokestatic 76, 3, 938, 0), (90, .aload_n 0, 1, 0, 0), (91, .getfield 21, 3, 703, 0), (94, .aload_n 0, 1, 0, 0), (95, .getfield 39, 3, 710, 0)],
  [(98, .iload 4, 2, 0, 0), (100, .invokestatic 76, 3, 938, 0), (103, .aload_n 0, 1, 0, 0), (104, .getfield 24, 3, 704, 0), (107, .aload_n 0, 1, 0, 0), (108, .getfield 39, 3, 710, 0), (111, .aload_n 1, 1, 0, 0), (112, .iload 5, 2, 0, 0), (114, .invokevirtual 46, 3, 503, 0), (117, .iload 6, 2, 0, 0), (119, .invokevirtual 80, 3, 313, 0), (122, .invokestatic 76, 3, 938, 0), (125, .aload_n 0, 1, 0, 0), (126, .aload_n 1, 1, 0, 0), (127, .iload 5, 2, 0, 0)],
  [(129, .iconst 1, 1, 0, 0), (130, .iadd, 1, 0, 0), (131, .invokevirtual 46, 3, 503, 0), (134, .iload 5, 2, 0, 0), (136, .iconst 1, 1, 0, 0), (137, .iadd, 1, 0, 0), (138, .iload 6, 2, 0, 0), (140, .aload_n 0, 1, 0, 0), (141, .getfield 39, 3, 710, 0), (144, .invokevirtual 52, 3, 702, 0), (147, .aload_n 0, 1, 0, 0), (148, .dup, 1, 0, 0), (149, .getfield 39, 3, 710, 0), (152, .iconst 1, 1, 0, 0), (153, .iadd, 1, 0, 0), (154, .putfield 39, 3, 710, 0), (157, .return_, 1, 0, 0)]]
/-- RectilinearRoof$Tree.measureWays()V -/
def K_704 : Kd := [[(0, .aload_n 0, 1, 0, 0), (1, .getfield 27, 3, 705, 0), (4, .iconst 1, 1, 0, 0), (5, .invokestatic 86, 3, 1104, 0), (8, .aload_n 0, 1, 0, 0), (9, .getfield 39, 3, 710, 0), (12, .iconst 1, 1, 0, 0), (13, .isub, 1, 0, 0), (14, .istore_n 1, 1, 0, 0), (15, .iload_n 1, 1, 0, 0), (16, .ifCond .lt 47, 3, 63, 0), (19, .aload_n 0, 1, 0, 0), (20, .getfield 21, 3, 703, 0), (23, .iload_n 1, 1, 0, 0), (24, .invokestatic 56, 3, 937, 0), (27, .istore_n 2, 1, 0, 0), (28, .aload_n 0, 1, 0, 0), (29, .getfield 27, 3, 705, 0)],
  [(32, .iload_n 2, 1, 0, 0), (33, .aload_n 0, 1, 0, 0), (34, .getfield 27, 3, 705, 0), (37, .iload_n 2, 1, 0, 0), (38, .invokestatic 56, 3, 937, 0), (41, .aload_n 0, 1, 0, 0), (42, .getfield 27, 3, 705, 0), (45, .iload_n 1, 1, 0, 0), (46, .invokestatic 56, 3, 937, 0), (49, .iconst 1, 1, 0, 0), (50, .iadd, 1, 0, 0), (51, .invokestatic 92, 3, 1102, 0), (54, .invokestatic 76, 3, 938, 0), (57, .iinc 1 (-1), 3, 0, 0), (60, .goto (-45), 3, 15, 0), (63, .return_, 1, 0, 0)]]
/-- RectilinearRoof.rectangle(IIIII)I -/
def K_901 : Kd := [[(0, .iload_n 1, 1, 0, 0), (1, .ifCond .lt 8, 3, 9, 0), (4, .iload_n 1, 1, 0, 0), (5, .iconst 2, 1, 0, 0), (6, .if_icmp .le 13, 3, 19, 0), (9, .new 43, 3, 1, 0), (19, .iload_n 2, 1, 0, 0), (20, .iload_n 3, 1, 0, 0), (21, .invokestatic 50, 3, 935, 0), (24, .ifCond .eq 33, 3, 57, 0), (27, .iload 4, 2, 0, 0), (29, .iconst 1, 1, 0, 0), (30, .if_icmp .lt 27, 3, 57, 0)],
  [(33, .iload 4, 2, 0, 0), (35, .bipush 12, 2, 0, 0), (37, .iload_n 2, 1, 0, 0), (38, .isub, 1, 0, 0), (39, .if_icmp .gt 18, 3, 57, 0), (42, .iload 5, 2, 0, 0), (44, .iconst 1, 1, 0, 0), (45, .if_icmp .lt 12, 3, 57, 0), (48, .iload 5, 2, 0, 0), (50, .bipush 12, 2, 0, 0), (52, .iload_n 3, 1, 0, 0), (53, .isub, 1, 0, 0), (54, .if_icmp .le 13, 3, 67, 0), (57, .new 54, 3, 3, 0)],
  [(67, .aload_n 0, 1, 0, 0), (68, .getfield 10, 3, 900, 0), (71, .iload_n 1, 1, 0, 0), (72, .iload_n 2, 1, 0, 0), (73, .iload_n 3, 1, 0, 0), (74, .iload 4, 2, 0, 0), (76, .iload 5, 2, 0, 0), (78, .invokevirtual 59, 3, 405, 0), (81, .aload_n 0, 1, 0, 0), (82, .invokevirtual 63, 3, 934, 0), (85, .aload_n 0, 1, 0, 0), (86, .getfield 10, 3, 900, 0), (89, .invokevirtual 66, 3, 402, 0), (92, .ireturn, 1, 0, 0)]]
/-- RectilinearRoof.clear()I -/
def K_902 : Kd := [[(0, .aload_n 0, 1, 0, 0), (1, .getfield 10, 3, 900, 0), (4, .invokevirtual 66, 3, 402, 0), (7, .istore_n 1, 1, 0, 0), (8, .aload_n 0, 1, 0, 0), (9, .getfield 10, 3, 900, 0), (12, .invokevirtual 70, 3, 403, 0), (15, .aload_n 0, 1, 0, 0), (16, .invokevirtual 63, 3, 934, 0), (19, .iload_n 1, 1, 0, 0), (20, .ireturn, 1, 0, 0)]]
/-- RectilinearRoof.errorPosition()I -/
def K_905 : Kd := [[(0, .aload_n 0, 1, 0, 0), (1, .getfield 32, 3, 904, 0), (4, .getfield 109, 3, 604, 0), (7, .ireturn, 1, 0, 0)]]
/-- RectilinearRoof.contains(II)Z -/
def K_910 : Kd := [[(0, .iload_n 1, 1, 0, 0), (1, .iload_n 2, 1, 0, 0), (2, .invokestatic 50, 3, 935, 0), (5, .ifCond .ne 13, 3, 18, 0), (8, .new 54, 3, 3, 0), (18, .aload_n 0, 1, 0, 0), (19, .getfield 10, 3, 900, 0), (22, .iload_n 1, 1, 0, 0), (23, .iload_n 2, 1, 0, 0), (24, .invokevirtual 142, 3, 401, 0), (27, .ireturn, 1, 0, 0)]]
/-- RectilinearRoof.edges()I -/
def K_911 : Kd := [[(0, .aload_n 0, 1, 0, 0), (1, .getfield 39, 3, 905, 0), (4, .aload_n 0, 1, 0, 0), (5, .getfield 10, 3, 900, 0), (8, .invokevirtual 145, 3, 502, 0), (11, .aload_n 0, 1, 0, 0), (12, .getfield 39, 3, 905, 0), (15, .getfield 148, 3, 500, 0), (18, .getfield 152, 3, 8, 0), (21, .ireturn, 1, 0, 0)]]
/-- RectilinearRoof.edge(II)I -/
def K_912 : Kd := [[(0, .aload_n 0, 1, 0, 0), (1, .getfield 39, 3, 905, 0), (4, .aload_n 0, 1, 0, 0), (5, .getfield 10, 3, 900, 0), (8, .invokevirtual 145, 3, 502, 0), (11, .iload_n 1, 1, 0, 0), (12, .ifCond .lt 17, 3, 29, 0), (15, .iload_n 1, 1, 0, 0), (16, .aload_n 0, 1, 0, 0), (17, .getfield 39, 3, 905, 0), (20, .getfield 148, 3, 500, 0), (23, .getfield 152, 3, 8, 0), (26, .if_icmp .lt 13, 3, 39, 0), (29, .new 54, 3, 3, 0)],
  [(39, .iload_n 2, 1, 0, 0), (40, .ifCond .lt 9, 3, 49, 0), (43, .iload_n 2, 1, 0, 0), (44, .bipush 6, 2, 0, 0), (46, .if_icmp .le 13, 3, 59, 0), (49, .new 43, 3, 1, 0), (59, .aload_n 0, 1, 0, 0), (60, .getfield 39, 3, 905, 0), (63, .iload_n 1, 1, 0, 0)],
  [(64, .iload_n 2, 1, 0, 0), (65, .invokevirtual 160, 3, 519, 0), (68, .ireturn, 1, 0, 0)]]
/-- RectilinearRoof.corners()I -/
def K_913 : Kd := [[(0, .aload_n 0, 1, 0, 0), (1, .getfield 10, 3, 900, 0), (4, .invokevirtual 164, 3, 413, 0), (7, .ireturn, 1, 0, 0)]]
/-- RectilinearRoof.groups()I -/
def K_914 : Kd := [[(0, .aload_n 0, 1, 0, 0), (1, .getfield 39, 3, 905, 0), (4, .aload_n 0, 1, 0, 0), (5, .getfield 10, 3, 900, 0), (8, .invokevirtual 145, 3, 502, 0), (11, .aload_n 0, 1, 0, 0), (12, .getfield 39, 3, 905, 0), (15, .getfield 148, 3, 500, 0), (18, .getfield 167, 3, 9, 0), (21, .ireturn, 1, 0, 0)]]
/-- RectilinearRoof.group(II)I -/
def K_915 : Kd := [[(0, .aload_n 0, 1, 0, 0), (1, .getfield 39, 3, 905, 0), (4, .aload_n 0, 1, 0, 0), (5, .getfield 10, 3, 900, 0), (8, .invokevirtual 145, 3, 502, 0), (11, .iload_n 1, 1, 0, 0), (12, .ifCond .lt 17, 3, 29, 0), (15, .iload_n 1, 1, 0, 0), (16, .aload_n 0, 1, 0, 0), (17, .getfield 39, 3, 905, 0), (20, .getfield 148, 3, 500, 0), (23, .getfield 167, 3, 9, 0), (26, .if_icmp .lt 13, 3, 39, 0), (29, .new 54, 3, 3, 0)],
  [(39, .iload_n 2, 1, 0, 0), (40, .ifCond .lt 8, 3, 48, 0), (43, .iload_n 2, 1, 0, 0), (44, .iconst 3, 1, 0, 0), (45, .if_icmp .le 13, 3, 58, 0), (48, .new 43, 3, 1, 0), (58, .aload_n 0, 1, 0, 0), (59, .getfield 39, 3, 905, 0), (62, .getfield 148, 3, 500, 0)],
  [(65, .iload_n 1, 1, 0, 0), (66, .iload_n 2, 1, 0, 0), (67, .invokevirtual 174, 3, 10, 0), (70, .ireturn, 1, 0, 0)]]
/-- RectilinearRoof.symmetries()I -/
def K_916 : Kd := [[(0, .aload_n 0, 1, 0, 0), (1, .getfield 10, 3, 900, 0), (4, .aload_n 0, 1, 0, 0), (5, .getfield 19, 3, 902, 0), (8, .invokevirtual 177, 3, 409, 0), (11, .ireturn, 1, 0, 0)]]
/-- RectilinearRoof.height(II)I -/
def K_917 : Kd := [[(0, .iload_n 1, 1, 0, 0), (1, .ifCond .lt 19, 3, 20, 0), (4, .iload_n 1, 1, 0, 0), (5, .bipush 96, 2, 0, 0), (7, .if_icmp .gt 13, 3, 20, 0), (10, .iload_n 2, 1, 0, 0), (11, .ifCond .lt 9, 3, 20, 0), (14, .iload_n 2, 1, 0, 0), (15, .bipush 96, 2, 0, 0), (17, .if_icmp .le 13, 3, 30, 0), (20, .new 54, 3, 3, 0), (30, .aload_n 0, 1, 0, 0), (31, .getfield 10, 3, 900, 0)],
  [(34, .iload_n 1, 1, 0, 0), (35, .iload_n 2, 1, 0, 0), (36, .invokevirtual 183, 3, 415, 0), (39, .ireturn, 1, 0, 0)]]
/-- RectilinearRoof.face(II)I -/
def K_918 : Kd := [[(0, .iload_n 1, 1, 0, 0), (1, .iload_n 2, 1, 0, 0), (2, .invokestatic 50, 3, 935, 0), (5, .ifCond .ne 13, 3, 18, 0), (8, .new 54, 3, 3, 0), (18, .aload_n 0, 1, 0, 0), (19, .getfield 39, 3, 905, 0), (22, .aload_n 0, 1, 0, 0), (23, .getfield 10, 3, 900, 0), (26, .invokevirtual 145, 3, 502, 0), (29, .aload_n 0, 1, 0, 0), (30, .getfield 39, 3, 905, 0)],
  [(33, .iload_n 1, 1, 0, 0), (34, .iload_n 2, 1, 0, 0), (35, .invokevirtual 186, 3, 518, 0), (38, .ireturn, 1, 0, 0)]]
/-- RectilinearRoof.area(I)I -/
def K_919 : Kd := [[(0, .iload_n 1, 1, 0, 0), (1, .ifCond .lt 9, 3, 10, 0), (4, .iload_n 1, 1, 0, 0), (5, .bipush 24, 2, 0, 0), (7, .if_icmp .le 13, 3, 20, 0), (10, .new 43, 3, 1, 0), (20, .aload_n 0, 1, 0, 0), (21, .getfield 39, 3, 905, 0), (24, .aload_n 0, 1, 0, 0), (25, .getfield 10, 3, 900, 0), (28, .invokevirtual 145, 3, 502, 0), (31, .aload_n 0, 1, 0, 0)],
  [(32, .getfield 39, 3, 905, 0), (35, .iload_n 1, 1, 0, 0), (36, .invokevirtual 191, 3, 514, 0), (39, .ireturn, 1, 0, 0)]]
/-- RectilinearRoof.volume()I -/
def K_920 : Kd := [[(0, .aload_n 0, 1, 0, 0), (1, .getfield 39, 3, 905, 0), (4, .aload_n 0, 1, 0, 0), (5, .getfield 10, 3, 900, 0), (8, .invokevirtual 145, 3, 502, 0), (11, .aload_n 0, 1, 0, 0), (12, .getfield 39, 3, 905, 0), (15, .invokevirtual 194, 3, 515, 0), (18, .ireturn, 1, 0, 0)]]
/-- RectilinearRoof.phases()I -/
def K_921 : Kd := [[(0, .aload_n 0, 1, 0, 0), (1, .getfield 39, 3, 905, 0), (4, .aload_n 0, 1, 0, 0), (5, .getfield 10, 3, 900, 0), (8, .invokevirtual 145, 3, 502, 0), (11, .aload_n 0, 1, 0, 0), (12, .getfield 39, 3, 905, 0), (15, .getfield 197, 3, 511, 0), (18, .ireturn, 1, 0, 0)]]
/-- RectilinearRoof.phase(II)I -/
def K_922 : Kd := [[(0, .aload_n 0, 1, 0, 0), (1, .getfield 39, 3, 905, 0), (4, .aload_n 0, 1, 0, 0), (5, .getfield 10, 3, 900, 0), (8, .invokevirtual 145, 3, 502, 0), (11, .aload_n 0, 1, 0, 0), (12, .getfield 39, 3, 905, 0), (15, .iload_n 1, 1, 0, 0), (16, .invokevirtual 200, 3, 504, 0), (19, .ifCond .ne 13, 3, 32, 0), (22, .new 54, 3, 3, 0)],
  [(32, .iload_n 2, 1, 0, 0), (33, .ifCond .lt 9, 3, 42, 0), (36, .iload_n 2, 1, 0, 0), (37, .bipush 7, 2, 0, 0), (39, .if_icmp .le 13, 3, 52, 0), (42, .new 43, 3, 1, 0), (52, .aload_n 0, 1, 0, 0), (53, .getfield 39, 3, 905, 0), (56, .iload_n 1, 1, 0, 0), (57, .iload_n 2, 1, 0, 0), (58, .invokevirtual 207, 3, 524, 0), (61, .ireturn, 1, 0, 0)]]
/-- RectilinearRoof.contour(III)I -/
def K_923 : Kd := [[(0, .aload_n 0, 1, 0, 0), (1, .getfield 39, 3, 905, 0), (4, .aload_n 0, 1, 0, 0), (5, .getfield 10, 3, 900, 0), (8, .invokevirtual 145, 3, 502, 0), (11, .aload_n 0, 1, 0, 0), (12, .getfield 39, 3, 905, 0), (15, .iload_n 1, 1, 0, 0), (16, .iload_n 2, 1, 0, 0), (17, .invokevirtual 210, 3, 505, 0), (20, .ifCond .ne 13, 3, 33, 0), (23, .new 54, 3, 3, 0)],
  [(33, .iload_n 3, 1, 0, 0), (34, .ifCond .lt 8, 3, 42, 0), (37, .iload_n 3, 1, 0, 0), (38, .iconst 3, 1, 0, 0), (39, .if_icmp .le 13, 3, 52, 0), (42, .new 43, 3, 1, 0), (52, .aload_n 0, 1, 0, 0), (53, .getfield 39, 3, 905, 0), (56, .iload_n 1, 1, 0, 0), (57, .invokevirtual 217, 3, 503, 0), (60, .getfield 221, 3, 300, 0), (63, .iload_n 2, 1, 0, 0)],
  [(64, .iload_n 3, 1, 0, 0), (65, .invokevirtual 227, 3, 208, 0), (68, .ireturn, 1, 0, 0)]]
/-- RectilinearRoof.vertex(IIII)I -/
def K_924 : Kd := [[(0, .aload_n 0, 1, 0, 0), (1, .getfield 39, 3, 905, 0), (4, .aload_n 0, 1, 0, 0), (5, .getfield 10, 3, 900, 0), (8, .invokevirtual 145, 3, 502, 0), (11, .aload_n 0, 1, 0, 0), (12, .getfield 39, 3, 905, 0), (15, .iload_n 1, 1, 0, 0), (16, .iload_n 2, 1, 0, 0), (17, .iload_n 3, 1, 0, 0), (18, .invokevirtual 232, 3, 506, 0), (21, .ifCond .ne 13, 3, 34, 0), (24, .new 54, 3, 3, 0)],
  [(34, .iload 4, 2, 0, 0), (36, .ifCond .eq 19, 3, 55, 0), (39, .iload 4, 2, 0, 0), (41, .iconst 1, 1, 0, 0), (42, .if_icmp .eq 13, 3, 55, 0), (45, .new 43, 3, 1, 0), (55, .aload_n 0, 1, 0, 0), (56, .getfield 39, 3, 905, 0), (59, .iload_n 1, 1, 0, 0), (60, .invokevirtual 217, 3, 503, 0), (63, .getfield 221, 3, 300, 0)],
  [(66, .astore 5, 2, 0, 0), (68, .aload 5, 2, 0, 0), (70, .iload_n 2, 1, 0, 0), (71, .iload_n 3, 1, 0, 0), (72, .invokevirtual 240, 3, 210, 0), (75, .istore 6, 2, 0, 0), (77, .iload 4, 2, 0, 0), (79, .ifCond .ne 13, 3, 92, 0), (82, .aload 5, 2, 0, 0), (84, .iload 6, 2, 0, 0), (86, .invokevirtual 243, 3, 216, 0), (89, .goto 10, 3, 99, 0), (92, .aload 5, 2, 0, 0), (94, .iload 6, 2, 0, 0)],
  [(96, .invokevirtual 246, 3, 217, 0), (99, .ireturn, 1, 0, 0)]]
/-- RectilinearRoof.events()I -/
def K_927 : Kd := [[(0, .aload_n 0, 1, 0, 0), (1, .getfield 39, 3, 905, 0), (4, .aload_n 0, 1, 0, 0), (5, .getfield 10, 3, 900, 0), (8, .invokevirtual 145, 3, 502, 0), (11, .aload_n 0, 1, 0, 0), (12, .getfield 39, 3, 905, 0), (15, .invokevirtual 265, 3, 527, 0), (18, .ireturn, 1, 0, 0)]]
/-- RectilinearRoof.branches()I -/
def K_929 : Kd := [[(0, .aload_n 0, 1, 0, 0), (1, .getfield 39, 3, 905, 0), (4, .aload_n 0, 1, 0, 0), (5, .getfield 10, 3, 900, 0), (8, .invokevirtual 145, 3, 502, 0), (11, .aload_n 0, 1, 0, 0), (12, .getfield 39, 3, 905, 0), (15, .getfield 275, 3, 501, 0), (18, .getfield 279, 3, 710, 0), (21, .ireturn, 1, 0, 0)]]
/-- RectilinearRoof.count(I)I -/
def K_933 : Kd := [[(0, .iload_n 1, 1, 0, 0), (1, .tableswitch 63 0 3 #[31, 39, 47, 55], 31, 0, 0)],
  [(32, .aload_n 0, 1, 0, 0), (33, .getfield 10, 3, 900, 0), (36, .invokevirtual 66, 3, 402, 0), (39, .ireturn, 1, 0, 0), (40, .aload_n 0, 1, 0, 0), (41, .getfield 25, 3, 903, 0), (44, .getfield 112, 3, 102, 0), (47, .ireturn, 1, 0, 0), (48, .aload_n 0, 1, 0, 0), (49, .getfield 25, 3, 903, 0), (52, .getfield 123, 3, 103, 0), (55, .ireturn, 1, 0, 0), (56, .aload_n 0, 1, 0, 0), (57, .getfield 32, 3, 904, 0), (60, .getfield 79, 3, 603, 0), (63, .ireturn, 1, 0, 0)],
  [(64, .new 43, 3, 1, 0)]]
/-- RectilinearRoof.recordChange()V -/
def K_934 : Kd := [[(0, .aload_n 0, 1, 0, 0), (1, .getfield 25, 3, 903, 0), (4, .aload_n 0, 1, 0, 0), (5, .getfield 10, 3, 900, 0), (8, .invokevirtual 297, 3, 101, 0), (11, .aload_n 0, 1, 0, 0), (12, .getfield 39, 3, 905, 0), (15, .invokevirtual 120, 3, 501, 0), (18, .return_, 1, 0, 0)]]
/-- RectilinearRoof.isCell(II)Z -/
def K_935 : Kd := [[(0, .iload_n 0, 1, 0, 0), (1, .ifCond .lt 23, 3, 24, 0), (4, .iload_n 0, 1, 0, 0), (5, .bipush 12, 2, 0, 0), (7, .if_icmp .ge 17, 3, 24, 0), (10, .iload_n 1, 1, 0, 0), (11, .ifCond .lt 13, 3, 24, 0), (14, .iload_n 1, 1, 0, 0), (15, .bipush 12, 2, 0, 0), (17, .if_icmp .ge 7, 3, 24, 0), (20, .iconst 1, 1, 0, 0), (21, .goto 4, 3, 25, 0), (24, .iconst 0, 1, 0, 0), (25, .ireturn, 1, 0, 0)]]
/-- RectilinearRoof.at([II)I -/
def K_937 : Kd := [[(0, .iload_n 1, 1, 0, 0), (1, .ifCond .lt 15, 3, 16, 0), (4, .iload_n 1, 1, 0, 0), (5, .aload_n 0, 1, 0, 0), (6, .arraylength, 1, 0, 0), (7, .if_icmp .ge 9, 3, 16, 0), (10, .aload_n 0, 1, 0, 0), (11, .iload_n 1, 1, 0, 0), (12, .iaload, 1, 0, 0), (13, .goto 4, 3, 17, 0), (16, .iconst 0, 1, 0, 0), (17, .ireturn, 1, 0, 0)]]
/-- RectilinearRoof.put([III)V -/
def K_938 : Kd := [[(0, .iload_n 1, 1, 0, 0), (1, .ifCond .lt 13, 3, 14, 0), (4, .iload_n 1, 1, 0, 0), (5, .aload_n 0, 1, 0, 0), (6, .arraylength, 1, 0, 0), (7, .if_icmp .ge 7, 3, 14, 0), (10, .aload_n 0, 1, 0, 0), (11, .iload_n 1, 1, 0, 0), (12, .iload_n 2, 1, 0, 0), (13, .iastore, 1, 0, 0), (14, .return_, 1, 0, 0)]]
/-- RectilinearRoof.stepX(I)I -/
def K_939 : Kd := [[(0, .iload_n 0, 1, 0, 0), (1, .ifCond .ne 7, 3, 8, 0), (4, .iconst 1, 1, 0, 0), (5, .goto 13, 3, 18, 0), (8, .iload_n 0, 1, 0, 0), (9, .iconst 2, 1, 0, 0), (10, .if_icmp .ne 7, 3, 17, 0), (13, .iconst (-1), 1, 0, 0), (14, .goto 4, 3, 18, 0), (17, .iconst 0, 1, 0, 0), (18, .ireturn, 1, 0, 0)]]
/-- RectilinearRoof.stepY(I)I -/
def K_940 : Kd := [[(0, .iload_n 0, 1, 0, 0), (1, .iconst 1, 1, 0, 0), (2, .if_icmp .ne 7, 3, 9, 0), (5, .iconst 1, 1, 0, 0), (6, .goto 13, 3, 19, 0), (9, .iload_n 0, 1, 0, 0), (10, .iconst 3, 1, 0, 0), (11, .if_icmp .ne 7, 3, 18, 0), (14, .iconst (-1), 1, 0, 0), (15, .goto 4, 3, 19, 0), (18, .iconst 0, 1, 0, 0), (19, .ireturn, 1, 0, 0)]]
/-- RectilinearRoof.facesUp(I)Z -/
def K_941 : Kd := [[(0, .iload_n 0, 1, 0, 0), (1, .ifCond .eq 8, 3, 9, 0), (4, .iload_n 0, 1, 0, 0), (5, .iconst 3, 1, 0, 0), (6, .if_icmp .ne 7, 3, 13, 0), (9, .iconst 1, 1, 0, 0), (10, .goto 4, 3, 14, 0), (13, .iconst 0, 1, 0, 0), (14, .ireturn, 1, 0, 0)]]
/-- RectilinearRoof.isLevel(I)Z -/
def K_942 : Kd := [[(0, .iload_n 0, 1, 0, 0), (1, .ifCond .eq 8, 3, 9, 0), (4, .iload_n 0, 1, 0, 0), (5, .iconst 2, 1, 0, 0), (6, .if_icmp .ne 7, 3, 13, 0), (9, .iconst 1, 1, 0, 0), (10, .goto 4, 3, 14, 0), (13, .iconst 0, 1, 0, 0), (14, .ireturn, 1, 0, 0)]]
/-- RectilinearRoof.unit(I)I -/
def K_943 : Kd := [[(0, .iload_n 0, 1, 0, 0), (1, .iconst 1, 1, 0, 0), (2, .iadd, 1, 0, 0), (3, .iconst 2, 1, 0, 0), (4, .ishr, 1, 0, 0), (5, .ireturn, 1, 0, 0)]]
/-- RectilinearRoof.lowestBit(J)I -/
def K_944 : Kd := [[(0, .lload_n 0, 1, 0, 0), (1, .lload_n 0, 1, 0, 0), (2, .lneg, 1, 0, 0), (3, .land, 1, 0, 0), (4, .lconst 1, 1, 0, 0), (5, .lsub, 1, 0, 0), (6, .invokestatic 300, 3, 1101, 0), (9, .ireturn, 1, 0, 0)]]
/-- RectilinearRoof.rowAt([JI)J -/
def K_945 : Kd := [[(0, .iload_n 1, 1, 0, 0), (1, .ifCond .lt 15, 3, 16, 0), (4, .iload_n 1, 1, 0, 0), (5, .aload_n 0, 1, 0, 0), (6, .arraylength, 1, 0, 0), (7, .if_icmp .ge 9, 3, 16, 0), (10, .aload_n 0, 1, 0, 0), (11, .iload_n 1, 1, 0, 0), (12, .laload, 1, 0, 0), (13, .goto 4, 3, 17, 0), (16, .lconst 0, 1, 0, 0), (17, .lreturn, 1, 0, 0)]]
/-- java/lang/Integer.bitCount(I)I -/
def K_1100 : Kd := [[(0, .iload_n 0, 1, 0, 0), (1, .iload_n 0, 1, 0, 0), (2, .iconst 1, 1, 0, 0), (3, .iushr, 1, 0, 0), (4, .ldc_w 265, 3, 0, 1431655765), (7, .iand, 1, 0, 0), (8, .isub, 1, 0, 0), (9, .istore_n 0, 1, 0, 0), (10, .iload_n 0, 1, 0, 0), (11, .ldc_w 266, 3, 0, 858993459), (14, .iand, 1, 0, 0), (15, .iload_n 0, 1, 0, 0), (16, .iconst 2, 1, 0, 0), (17, .iushr, 1, 0, 0), (18, .ldc_w 266, 3, 0, 858993459), (21, .iand, 1, 0, 0), (22, .iadd, 1, 0, 0), (23, .istore_n 0, 1, 0, 0), (24, .iload_n 0, 1, 0, 0), (25, .iload_n 0, 1, 0, 0), (26, .iconst 4, 1, 0, 0), (27, .iushr, 1, 0, 0), (28, .iadd, 1, 0, 0), (29, .ldc_w 267, 3, 0, 252645135)],
  [(32, .iand, 1, 0, 0), (33, .istore_n 0, 1, 0, 0), (34, .iload_n 0, 1, 0, 0), (35, .iload_n 0, 1, 0, 0), (36, .bipush 8, 2, 0, 0), (38, .iushr, 1, 0, 0), (39, .iadd, 1, 0, 0), (40, .istore_n 0, 1, 0, 0), (41, .iload_n 0, 1, 0, 0), (42, .iload_n 0, 1, 0, 0), (43, .bipush 16, 2, 0, 0), (45, .iushr, 1, 0, 0), (46, .iadd, 1, 0, 0), (47, .istore_n 0, 1, 0, 0), (48, .iload_n 0, 1, 0, 0), (49, .bipush 63, 2, 0, 0), (51, .iand, 1, 0, 0), (52, .ireturn, 1, 0, 0)]]
/-- java/lang/Long.bitCount(J)I -/
def K_1101 : Kd := [[(0, .lload_n 0, 1, 0, 0), (1, .lload_n 0, 1, 0, 0), (2, .iconst 1, 1, 0, 0), (3, .lushr, 1, 0, 0), (4, .ldc2_w 314, 3, 0, 6148914691236517205), (7, .land, 1, 0, 0), (8, .lsub, 1, 0, 0), (9, .lstore_n 0, 1, 0, 0), (10, .lload_n 0, 1, 0, 0), (11, .ldc2_w 316, 3, 0, 3689348814741910323), (14, .land, 1, 0, 0), (15, .lload_n 0, 1, 0, 0), (16, .iconst 2, 1, 0, 0), (17, .lushr, 1, 0, 0), (18, .ldc2_w 316, 3, 0, 3689348814741910323), (21, .land, 1, 0, 0), (22, .ladd, 1, 0, 0), (23, .lstore_n 0, 1, 0, 0), (24, .lload_n 0, 1, 0, 0), (25, .lload_n 0, 1, 0, 0), (26, .iconst 4, 1, 0, 0), (27, .lushr, 1, 0, 0), (28, .ladd, 1, 0, 0), (29, .ldc2_w 318, 3, 0, 1085102592571150095)],
  [(32, .land, 1, 0, 0), (33, .lstore_n 0, 1, 0, 0), (34, .lload_n 0, 1, 0, 0), (35, .lload_n 0, 1, 0, 0), (36, .bipush 8, 2, 0, 0), (38, .lushr, 1, 0, 0), (39, .ladd, 1, 0, 0), (40, .lstore_n 0, 1, 0, 0), (41, .lload_n 0, 1, 0, 0), (42, .lload_n 0, 1, 0, 0), (43, .bipush 16, 2, 0, 0), (45, .lushr, 1, 0, 0), (46, .ladd, 1, 0, 0), (47, .lstore_n 0, 1, 0, 0), (48, .lload_n 0, 1, 0, 0), (49, .lload_n 0, 1, 0, 0), (50, .bipush 32, 2, 0, 0), (52, .lushr, 1, 0, 0), (53, .ladd, 1, 0, 0), (54, .lstore_n 0, 1, 0, 0), (55, .lload_n 0, 1, 0, 0), (56, .l2i, 1, 0, 0), (57, .bipush 127, 2, 0, 0), (59, .iand, 1, 0, 0), (60, .ireturn, 1, 0, 0)]]
/-- java/lang/Math.max(II)I -/
def K_1102 : Kd := [[(0, .iload_n 0, 1, 0, 0), (1, .iload_n 1, 1, 0, 0), (2, .if_icmp .lt 7, 3, 9, 0), (5, .iload_n 0, 1, 0, 0), (6, .goto 4, 3, 10, 0), (9, .iload_n 1, 1, 0, 0), (10, .ireturn, 1, 0, 0)]]
/-- java/lang/Math.min(II)I -/
def K_1103 : Kd := [[(0, .iload_n 0, 1, 0, 0), (1, .iload_n 1, 1, 0, 0), (2, .if_icmp .gt 7, 3, 9, 0), (5, .iload_n 0, 1, 0, 0), (6, .goto 4, 3, 10, 0), (9, .iload_n 1, 1, 0, 0), (10, .ireturn, 1, 0, 0)]]
/-- java/util/Arrays.fill([II)V -/
def K_1104 : Kd := [[(0, .iconst 0, 1, 0, 0), (1, .istore_n 2, 1, 0, 0), (2, .aload_n 0, 1, 0, 0), (3, .arraylength, 1, 0, 0), (4, .istore_n 3, 1, 0, 0), (5, .iload_n 2, 1, 0, 0), (6, .iload_n 3, 1, 0, 0), (7, .if_icmp .ge 13, 3, 20, 0), (10, .aload_n 0, 1, 0, 0), (11, .iload_n 2, 1, 0, 0), (12, .iload_n 1, 1, 0, 0), (13, .iastore, 1, 0, 0), (14, .iinc 2 1, 3, 0, 0), (17, .goto (-12), 3, 5, 0), (20, .return_, 1, 0, 0)]]
/-- java/lang/Math.abs(I)I -/
def K_1105 : Kd := [[(0, .iload_n 0, 1, 0, 0), (1, .ifCond .ge 8, 3, 9, 0), (4, .iload_n 0, 1, 0, 0), (5, .ineg, 1, 0, 0), (6, .goto 4, 3, 10, 0), (9, .iload_n 0, 1, 0, 0), (10, .ireturn, 1, 0, 0)]]
/-- RectilinearRoofLaw.law([I)Z -/
def K_1222 : Kd := [[(0, .new 18, 3, 0, 0), (3, .dup, 1, 0, 0), (4, .invokespecial 23, 3, 0, 0), (7, .astore_n 1, 1, 0, 0), (8, .aload_n 1, 1, 0, 0), (9, .invokevirtual 24, 3, 911, 0), (12, .ifCond .ne 87, 3, 99, 0), (15, .aload_n 1, 1, 0, 0), (16, .invokevirtual 28, 3, 921, 0), (19, .ifCond .ne 80, 3, 99, 0), (22, .aload_n 1, 1, 0, 0), (23, .invokevirtual 31, 3, 920, 0), (26, .ifCond .ne 73, 3, 99, 0), (29, .aload_n 1, 1, 0, 0), (30, .invokevirtual 34, 3, 916, 0)],
  [(33, .bipush 8, 2, 0, 0), (35, .if_icmp .ne 64, 3, 99, 0), (38, .aload_n 1, 1, 0, 0), (39, .invokevirtual 37, 3, 929, 0), (42, .ifCond .ne 57, 3, 99, 0), (45, .aload_n 1, 1, 0, 0), (46, .invokevirtual 40, 3, 927, 0), (49, .ifCond .ne 50, 3, 99, 0), (52, .aload_n 1, 1, 0, 0), (53, .invokevirtual 43, 3, 913, 0), (56, .ifCond .ne 43, 3, 99, 0), (59, .aload_n 1, 1, 0, 0), (60, .invokevirtual 46, 3, 914, 0), (63, .ifCond .ne 36, 3, 99, 0)],
  [(66, .aload_n 1, 1, 0, 0), (67, .invokevirtual 49, 3, 905, 0), (70, .iconst (-1), 1, 0, 0), (71, .if_icmp .ne 28, 3, 99, 0), (74, .aload_n 1, 1, 0, 0), (75, .iconst 0, 1, 0, 0), (76, .invokevirtual 52, 3, 919, 0), (79, .ifCond .ne 20, 3, 99, 0), (82, .aload_n 1, 1, 0, 0), (83, .iconst 3, 1, 0, 0), (84, .iconst 4, 1, 0, 0), (85, .invokevirtual 56, 3, 918, 0), (88, .iconst (-1), 1, 0, 0), (89, .if_icmp .ne 10, 3, 99, 0), (92, .aload_n 1, 1, 0, 0), (93, .invokevirtual 60, 3, 902, 0)],
  [(96, .ifCond .eq 5, 3, 101, 0), (99, .iconst 0, 1, 0, 0), (100, .ireturn, 1, 0, 0), (101, .aload_n 1, 1, 0, 0), (102, .aload_n 0, 1, 0, 0), (103, .iconst 0, 1, 0, 0), (104, .invokestatic 63, 3, 1225, 0), (107, .iconst 0, 1, 0, 0), (108, .istore_n 2, 1, 0, 0), (109, .aload_n 1, 1, 0, 0), (110, .invokevirtual 24, 3, 911, 0), (113, .istore_n 3, 1, 0, 0), (114, .iconst 0, 1, 0, 0), (115, .istore 4, 2, 0, 0), (117, .iload 4, 2, 0, 0), (119, .sipush 144, 3, 0, 0), (122, .if_icmp .ge 156, 3, 278, 0), (125, .iload 4, 2, 0, 0), (127, .bipush 12, 2, 0, 0)],
  [(129, .irem, 1, 0, 0), (130, .istore 5, 2, 0, 0), (132, .iload 4, 2, 0, 0), (134, .bipush 12, 2, 0, 0), (136, .idiv, 1, 0, 0), (137, .istore 6, 2, 0, 0), (139, .aload_n 1, 1, 0, 0), (140, .iload 5, 2, 0, 0), (142, .iload 6, 2, 0, 0), (144, .invokevirtual 56, 3, 918, 0), (147, .istore 7, 2, 0, 0), (149, .aload_n 1, 1, 0, 0), (150, .iload 5, 2, 0, 0), (152, .iload 6, 2, 0, 0), (154, .invokevirtual 67, 3, 910, 0), (157, .iload 7, 2, 0, 0), (159, .ifCond .lt 7, 3, 166, 0)],
  [(162, .iconst 1, 1, 0, 0), (163, .goto 4, 3, 167, 0), (166, .iconst 0, 1, 0, 0), (167, .if_icmp .ne 90, 3, 257, 0), (170, .iload 7, 2, 0, 0), (172, .iconst (-1), 1, 0, 0), (173, .if_icmp .lt 84, 3, 257, 0), (176, .iload 7, 2, 0, 0), (178, .iload_n 3, 1, 0, 0), (179, .if_icmp .ge 78, 3, 257, 0), (182, .aload_n 1, 1, 0, 0), (183, .iload 5, 2, 0, 0), (185, .iload 6, 2, 0, 0), (187, .invokevirtual 67, 3, 910, 0), (190, .aload_n 1, 1, 0, 0), (191, .bipush 8, 2, 0, 0)],
  [(193, .iload 5, 2, 0, 0), (195, .imul, 1, 0, 0), (196, .iconst 1, 1, 0, 0), (197, .iadd, 1, 0, 0), (198, .bipush 8, 2, 0, 0), (200, .iload 6, 2, 0, 0), (202, .imul, 1, 0, 0), (203, .iconst 3, 1, 0, 0), (204, .iadd, 1, 0, 0), (205, .invokevirtual 71, 3, 917, 0), (208, .ifCond .le 7, 3, 215, 0), (211, .iconst 1, 1, 0, 0), (212, .goto 4, 3, 216, 0), (215, .iconst 0, 1, 0, 0), (216, .if_icmp .ne 41, 3, 257, 0), (219, .aload_n 1, 1, 0, 0), (220, .iload 5, 2, 0, 0), (222, .iload 6, 2, 0, 0)],
  [(224, .invokevirtual 67, 3, 910, 0), (227, .aload_n 1, 1, 0, 0), (228, .bipush 8, 2, 0, 0), (230, .iload 5, 2, 0, 0), (232, .imul, 1, 0, 0), (233, .iconst 4, 1, 0, 0), (234, .iadd, 1, 0, 0), (235, .bipush 8, 2, 0, 0), (237, .iload 6, 2, 0, 0), (239, .imul, 1, 0, 0), (240, .iconst 4, 1, 0, 0), (241, .iadd, 1, 0, 0), (242, .invokevirtual 71, 3, 917, 0), (245, .iconst 4, 1, 0, 0), (246, .if_icmp .lt 7, 3, 253, 0), (249, .iconst 1, 1, 0, 0), (250, .goto 4, 3, 254, 0), (253, .iconst 0, 1, 0, 0), (254, .if_icmp .eq 5, 3, 259, 0)],
  [(257, .iconst 0, 1, 0, 0), (258, .ireturn, 1, 0, 0), (259, .iload_n 2, 1, 0, 0), (260, .iload 7, 2, 0, 0), (262, .ifCond .lt 7, 3, 269, 0), (265, .iconst 1, 1, 0, 0), (266, .goto 4, 3, 270, 0), (269, .iconst 0, 1, 0, 0), (270, .iadd, 1, 0, 0), (271, .istore_n 2, 1, 0, 0), (272, .iinc 4 1, 3, 0, 0), (275, .goto (-158), 3, 117, 0), (278, .iload_n 2, 1, 0, 0), (279, .aload_n 1, 1, 0, 0), (280, .iconst 0, 1, 0, 0), (281, .invokevirtual 74, 3, 933, 0), (284, .if_icmp .ne 23, 3, 307, 0), (287, .aload_n 1, 1, 0, 0)],
  [(288, .iconst 0, 1, 0, 0), (289, .invokevirtual 52, 3, 919, 0), (292, .iconst 4, 1, 0, 0), (293, .iload_n 2, 1, 0, 0), (294, .imul, 1, 0, 0), (295, .if_icmp .ne 12, 3, 307, 0), (298, .aload_n 1, 1, 0, 0), (299, .bipush 24, 2, 0, 0), (301, .invokevirtual 52, 3, 919, 0), (304, .ifCond .eq 5, 3, 309, 0), (307, .iconst 0, 1, 0, 0), (308, .ireturn, 1, 0, 0), (309, .iconst 0, 1, 0, 0), (310, .istore 4, 2, 0, 0), (312, .iconst 0, 1, 0, 0), (313, .istore 5, 2, 0, 0), (315, .iconst 0, 1, 0, 0), (316, .istore 6, 2, 0, 0), (318, .iload 6, 2, 0, 0)],
  [(320, .iload_n 3, 1, 0, 0), (321, .if_icmp .ge 108, 3, 429, 0), (324, .iload 4, 2, 0, 0), (326, .aload_n 1, 1, 0, 0), (327, .iload 6, 2, 0, 0), (329, .iconst 5, 1, 0, 0), (330, .invokevirtual 77, 3, 912, 0), (333, .iadd, 1, 0, 0), (334, .istore 4, 2, 0, 0), (336, .iload 5, 2, 0, 0), (338, .aload_n 1, 1, 0, 0), (339, .iload 6, 2, 0, 0), (341, .iconst 3, 1, 0, 0), (342, .invokevirtual 77, 3, 912, 0), (345, .aload_n 1, 1, 0, 0), (346, .iload 6, 2, 0, 0), (348, .iconst 2, 1, 0, 0), (349, .invokevirtual 77, 3, 912, 0)],
  [(352, .isub, 1, 0, 0), (353, .iadd, 1, 0, 0), (354, .istore 5, 2, 0, 0), (356, .aload_n 1, 1, 0, 0), (357, .iload 6, 2, 0, 0), (359, .iconst 2, 1, 0, 0), (360, .invokevirtual 77, 3, 912, 0), (363, .aload_n 1, 1, 0, 0), (364, .iload 6, 2, 0, 0), (366, .iconst 3, 1, 0, 0), (367, .invokevirtual 77, 3, 912, 0), (370, .if_icmp .ge 51, 3, 421, 0), (373, .aload_n 1, 1, 0, 0), (374, .iload 6, 2, 0, 0), (376, .bipush 6, 2, 0, 0), (378, .invokevirtual 77, 3, 912, 0), (381, .iconst 1, 1, 0, 0), (382, .if_icmp .lt 39, 3, 421, 0)],
  [(385, .aload_n 1, 1, 0, 0), (386, .iload 6, 2, 0, 0), (388, .bipush 6, 2, 0, 0), (390, .invokevirtual 77, 3, 912, 0), (393, .aload_n 1, 1, 0, 0), (394, .invokevirtual 28, 3, 921, 0), (397, .if_icmp .gt 24, 3, 421, 0), (400, .aload_n 1, 1, 0, 0), (401, .iload 6, 2, 0, 0), (403, .iconst 0, 1, 0, 0), (404, .invokevirtual 77, 3, 912, 0), (407, .ifCond .lt 14, 3, 421, 0), (410, .aload_n 1, 1, 0, 0), (411, .iload 6, 2, 0, 0), (413, .iconst 0, 1, 0, 0), (414, .invokevirtual 77, 3, 912, 0)],
  [(417, .iconst 3, 1, 0, 0), (418, .if_icmp .le 5, 3, 423, 0), (421, .iconst 0, 1, 0, 0), (422, .ireturn, 1, 0, 0), (423, .iinc 6 1, 3, 0, 0), (426, .goto (-108), 3, 318, 0), (429, .iload 4, 2, 0, 0), (431, .iload_n 2, 1, 0, 0), (432, .if_icmp .ne 41, 3, 473, 0), (435, .iload_n 3, 1, 0, 0), (436, .iconst 2, 1, 0, 0), (437, .irem, 1, 0, 0), (438, .ifCond .ne 35, 3, 473, 0), (441, .aload_n 1, 1, 0, 0), (442, .invokevirtual 43, 3, 913, 0), (445, .iload_n 3, 1, 0, 0), (446, .if_icmp .gt 27, 3, 473, 0)],
  [(449, .aload_n 1, 1, 0, 0), (450, .invokevirtual 43, 3, 913, 0), (453, .ifCond .le 7, 3, 460, 0), (456, .iconst 1, 1, 0, 0), (457, .goto 4, 3, 461, 0), (460, .iconst 0, 1, 0, 0), (461, .iload_n 2, 1, 0, 0), (462, .ifCond .le 7, 3, 469, 0), (465, .iconst 1, 1, 0, 0), (466, .goto 4, 3, 470, 0), (469, .iconst 0, 1, 0, 0), (470, .if_icmp .eq 5, 3, 475, 0), (473, .iconst 0, 1, 0, 0), (474, .ireturn, 1, 0, 0), (475, .iconst 0, 1, 0, 0), (476, .istore 6, 2, 0, 0), (478, .iconst 0, 1, 0, 0), (479, .istore 7, 2, 0, 0)],
  [(481, .iconst 0, 1, 0, 0), (482, .istore 8, 2, 0, 0), (484, .iload 8, 2, 0, 0), (486, .aload_n 1, 1, 0, 0), (487, .invokevirtual 46, 3, 914, 0), (490, .if_icmp .ge 33, 3, 523, 0), (493, .iload 6, 2, 0, 0), (495, .aload_n 1, 1, 0, 0), (496, .iload 8, 2, 0, 0), (498, .iconst 2, 1, 0, 0), (499, .invokevirtual 80, 3, 915, 0), (502, .iadd, 1, 0, 0), (503, .istore 6, 2, 0, 0), (505, .iload 7, 2, 0, 0), (507, .aload_n 1, 1, 0, 0), (508, .iload 8, 2, 0, 0), (510, .iconst 3, 1, 0, 0), (511, .invokevirtual 80, 3, 915, 0)],
  [(514, .iadd, 1, 0, 0), (515, .istore 7, 2, 0, 0), (517, .iinc 8 1, 3, 0, 0), (520, .goto (-36), 3, 484, 0), (523, .iload 6, 2, 0, 0), (525, .iload_n 3, 1, 0, 0), (526, .if_icmp .ne 10, 3, 536, 0), (529, .iload 7, 2, 0, 0), (531, .iload 5, 2, 0, 0), (533, .if_icmp .eq 5, 3, 538, 0), (536, .iconst 0, 1, 0, 0), (537, .ireturn, 1, 0, 0), (538, .iconst 0, 1, 0, 0), (539, .istore 8, 2, 0, 0), (541, .iconst 0, 1, 0, 0), (542, .istore 9, 2, 0, 0)],
  [(544, .iload 9, 2, 0, 0), (546, .bipush 24, 2, 0, 0), (548, .if_icmp .ge 74, 3, 622, 0), (551, .aload_n 1, 1, 0, 0), (552, .iload 9, 2, 0, 0), (554, .invokevirtual 52, 3, 919, 0), (557, .aload_n 1, 1, 0, 0), (558, .iload 9, 2, 0, 0), (560, .iconst 1, 1, 0, 0), (561, .iadd, 1, 0, 0), (562, .invokevirtual 52, 3, 919, 0), (565, .if_icmp .lt 29, 3, 594, 0), (568, .aload_n 1, 1, 0, 0), (569, .iload 9, 2, 0, 0), (571, .invokevirtual 52, 3, 919, 0), (574, .ifCond .le 22, 3, 596, 0)],
  [(577, .aload_n 1, 1, 0, 0), (578, .iload 9, 2, 0, 0), (580, .invokevirtual 52, 3, 919, 0), (583, .aload_n 1, 1, 0, 0), (584, .iload 9, 2, 0, 0), (586, .iconst 1, 1, 0, 0), (587, .iadd, 1, 0, 0), (588, .invokevirtual 52, 3, 919, 0), (591, .if_icmp .ne 5, 3, 596, 0), (594, .iconst 0, 1, 0, 0), (595, .ireturn, 1, 0, 0), (596, .iload 8, 2, 0, 0), (598, .aload_n 1, 1, 0, 0), (599, .iload 9, 2, 0, 0), (601, .invokevirtual 52, 3, 919, 0), (604, .aload_n 1, 1, 0, 0), (605, .iload 9, 2, 0, 0), (607, .iconst 1, 1, 0, 0)],
  [(608, .iadd, 1, 0, 0), (609, .invokevirtual 52, 3, 919, 0), (612, .iadd, 1, 0, 0), (613, .iadd, 1, 0, 0), (614, .istore 8, 2, 0, 0), (616, .iinc 9 1, 3, 0, 0), (619, .goto (-75), 3, 544, 0), (622, .iconst 0, 1, 0, 0), (623, .istore 9, 2, 0, 0), (625, .iload 9, 2, 0, 0), (627, .aload_n 1, 1, 0, 0), (628, .invokevirtual 28, 3, 921, 0), (631, .if_icmp .ge 506, 3, 1137, 0), (634, .iload 8, 2, 0, 0), (636, .aload_n 1, 1, 0, 0), (637, .iload 9, 2, 0, 0), (639, .iconst 0, 1, 0, 0)],
  [(640, .invokevirtual 83, 3, 922, 0), (643, .iadd, 1, 0, 0), (644, .istore 8, 2, 0, 0), (646, .aload_n 1, 1, 0, 0), (647, .iload 9, 2, 0, 0), (649, .iconst 0, 1, 0, 0), (650, .invokevirtual 83, 3, 922, 0), (653, .iconst 4, 1, 0, 0), (654, .aload_n 1, 1, 0, 0), (655, .iload 9, 2, 0, 0), (657, .invokevirtual 52, 3, 919, 0), (660, .imul, 1, 0, 0), (661, .if_icmp .gt 33, 3, 694, 0), (664, .aload_n 1, 1, 0, 0), (665, .iload 9, 2, 0, 0), (667, .iconst 0, 1, 0, 0), (668, .invokevirtual 83, 3, 922, 0), (671, .iconst 4, 1, 0, 0)],
  [(672, .aload_n 1, 1, 0, 0), (673, .iload 9, 2, 0, 0), (675, .iconst 1, 1, 0, 0), (676, .iadd, 1, 0, 0), (677, .invokevirtual 52, 3, 919, 0), (680, .imul, 1, 0, 0), (681, .if_icmp .lt 13, 3, 694, 0), (684, .aload_n 1, 1, 0, 0), (685, .iload 9, 2, 0, 0), (687, .iconst 0, 1, 0, 0), (688, .invokevirtual 83, 3, 922, 0), (691, .ifCond .ne 5, 3, 696, 0), (694, .iconst 0, 1, 0, 0), (695, .ireturn, 1, 0, 0), (696, .iconst 0, 1, 0, 0), (697, .istore 10, 2, 0, 0), (699, .iconst 0, 1, 0, 0), (700, .istore 11, 2, 0, 0), (702, .iconst 0, 1, 0, 0), (703, .istore 12, 2, 0, 0)],
  [(705, .iconst 0, 1, 0, 0), (706, .istore 13, 2, 0, 0), (708, .iconst 0, 1, 0, 0), (709, .istore 14, 2, 0, 0), (711, .iload 14, 2, 0, 0), (713, .aload_n 1, 1, 0, 0), (714, .iload 9, 2, 0, 0), (716, .iconst 2, 1, 0, 0), (717, .invokevirtual 83, 3, 922, 0), (720, .if_icmp .ge 309, 3, 1029, 0), (723, .aload_n 1, 1, 0, 0), (724, .iload 9, 2, 0, 0), (726, .iload 14, 2, 0, 0), (728, .iconst 0, 1, 0, 0), (729, .invokevirtual 86, 3, 923, 0), (732, .istore 15, 2, 0, 0), (734, .iconst 0, 1, 0, 0), (735, .istore 16, 2, 0, 0)],
  [(737, .iconst 0, 1, 0, 0), (738, .istore 17, 2, 0, 0), (740, .iconst 0, 1, 0, 0), (741, .istore 18, 2, 0, 0), (743, .iload 18, 2, 0, 0), (745, .iload 15, 2, 0, 0), (747, .if_icmp .ge 208, 3, 955, 0), (750, .iload 18, 2, 0, 0), (752, .iconst 1, 1, 0, 0), (753, .iadd, 1, 0, 0), (754, .iload 15, 2, 0, 0), (756, .irem, 1, 0, 0), (757, .istore 19, 2, 0, 0), (759, .iload 18, 2, 0, 0), (761, .iconst 2, 1, 0, 0), (762, .iadd, 1, 0, 0), (763, .iload 15, 2, 0, 0), (765, .irem, 1, 0, 0), (766, .istore 20, 2, 0, 0)],
  [(768, .aload_n 1, 1, 0, 0), (769, .iload 9, 2, 0, 0), (771, .iload 14, 2, 0, 0), (773, .iload 18, 2, 0, 0), (775, .iconst 0, 1, 0, 0), (776, .invokevirtual 90, 3, 924, 0), (779, .istore 21, 2, 0, 0), (781, .aload_n 1, 1, 0, 0), (782, .iload 9, 2, 0, 0), (784, .iload 14, 2, 0, 0), (786, .iload 18, 2, 0, 0), (788, .iconst 1, 1, 0, 0), (789, .invokevirtual 90, 3, 924, 0), (792, .istore 22, 2, 0, 0), (794, .aload_n 1, 1, 0, 0), (795, .iload 9, 2, 0, 0), (797, .iload 14, 2, 0, 0), (799, .iload 19, 2, 0, 0)],
  [(801, .iconst 0, 1, 0, 0), (802, .invokevirtual 90, 3, 924, 0), (805, .istore 23, 2, 0, 0), (807, .aload_n 1, 1, 0, 0), (808, .iload 9, 2, 0, 0), (810, .iload 14, 2, 0, 0), (812, .iload 19, 2, 0, 0), (814, .iconst 1, 1, 0, 0), (815, .invokevirtual 90, 3, 924, 0), (818, .istore 24, 2, 0, 0), (820, .aload_n 1, 1, 0, 0), (821, .iload 9, 2, 0, 0), (823, .iload 14, 2, 0, 0), (825, .iload 20, 2, 0, 0), (827, .iconst 0, 1, 0, 0), (828, .invokevirtual 90, 3, 924, 0), (831, .istore 25, 2, 0, 0)],
  [(833, .aload_n 1, 1, 0, 0), (834, .iload 9, 2, 0, 0), (836, .iload 14, 2, 0, 0), (838, .iload 20, 2, 0, 0), (840, .iconst 1, 1, 0, 0), (841, .invokevirtual 90, 3, 924, 0), (844, .istore 26, 2, 0, 0), (846, .iload 21, 2, 0, 0), (848, .iload 23, 2, 0, 0), (850, .if_icmp .ne 7, 3, 857, 0), (853, .iconst 1, 1, 0, 0), (854, .goto 4, 3, 858, 0), (857, .iconst 0, 1, 0, 0), (858, .iload 22, 2, 0, 0), (860, .iload 24, 2, 0, 0), (862, .if_icmp .ne 7, 3, 869, 0)],
  [(865, .iconst 1, 1, 0, 0), (866, .goto 4, 3, 870, 0), (869, .iconst 0, 1, 0, 0), (870, .if_icmp .ne 5, 3, 875, 0), (873, .iconst 0, 1, 0, 0), (874, .ireturn, 1, 0, 0), (875, .iload 10, 2, 0, 0), (877, .iload 21, 2, 0, 0), (879, .iload 24, 2, 0, 0), (881, .imul, 1, 0, 0), (882, .iload 23, 2, 0, 0), (884, .iload 22, 2, 0, 0), (886, .imul, 1, 0, 0), (887, .isub, 1, 0, 0), (888, .iadd, 1, 0, 0), (889, .istore 10, 2, 0, 0), (891, .iload 17, 2, 0, 0), (893, .iload 23, 2, 0, 0), (895, .iload 21, 2, 0, 0)],
  [(897, .isub, 1, 0, 0), (898, .invokestatic 94, 3, 1105, 0), (901, .iload 24, 2, 0, 0), (903, .iload 22, 2, 0, 0), (905, .isub, 1, 0, 0), (906, .invokestatic 94, 3, 1105, 0), (909, .iadd, 1, 0, 0), (910, .iadd, 1, 0, 0), (911, .istore 17, 2, 0, 0), (913, .iload 16, 2, 0, 0), (915, .iload 23, 2, 0, 0), (917, .iload 21, 2, 0, 0), (919, .isub, 1, 0, 0), (920, .iload 26, 2, 0, 0), (922, .iload 24, 2, 0, 0), (924, .isub, 1, 0, 0), (925, .imul, 1, 0, 0), (926, .iload 24, 2, 0, 0)],
  [(928, .iload 22, 2, 0, 0), (930, .isub, 1, 0, 0), (931, .iload 25, 2, 0, 0), (933, .iload 23, 2, 0, 0), (935, .isub, 1, 0, 0), (936, .imul, 1, 0, 0), (937, .isub, 1, 0, 0), (938, .ifCond .le 7, 3, 945, 0), (941, .iconst 1, 1, 0, 0), (942, .goto 4, 3, 946, 0), (945, .iconst (-1), 1, 0, 0), (946, .iadd, 1, 0, 0), (947, .istore 16, 2, 0, 0), (949, .iinc 18 1, 3, 0, 0), (952, .goto (-209), 3, 743, 0), (955, .iload 16, 2, 0, 0), (957, .aload_n 1, 1, 0, 0), (958, .iload 9, 2, 0, 0)],
  [(960, .iload 14, 2, 0, 0), (962, .iconst 1, 1, 0, 0), (963, .invokevirtual 86, 3, 923, 0), (966, .iconst 1, 1, 0, 0), (967, .if_icmp .ne 8, 3, 975, 0), (970, .bipush (-4), 2, 0, 0), (972, .goto 4, 3, 976, 0), (975, .iconst 4, 1, 0, 0), (976, .if_icmp .ne 17, 3, 993, 0), (979, .iload 17, 2, 0, 0), (981, .aload_n 1, 1, 0, 0), (982, .iload 9, 2, 0, 0), (984, .iload 14, 2, 0, 0), (986, .iconst 3, 1, 0, 0), (987, .invokevirtual 86, 3, 923, 0), (990, .if_icmp .eq 5, 3, 995, 0)],
  [(993, .iconst 0, 1, 0, 0), (994, .ireturn, 1, 0, 0), (995, .iload 12, 2, 0, 0), (997, .iload 15, 2, 0, 0), (999, .iadd, 1, 0, 0), (1000, .istore 12, 2, 0, 0), (1002, .iload 13, 2, 0, 0), (1004, .aload_n 1, 1, 0, 0), (1005, .iload 9, 2, 0, 0), (1007, .iload 14, 2, 0, 0), (1009, .iconst 1, 1, 0, 0), (1010, .invokevirtual 86, 3, 923, 0), (1013, .iadd, 1, 0, 0), (1014, .istore 13, 2, 0, 0), (1016, .iload 11, 2, 0, 0), (1018, .iload 17, 2, 0, 0), (1020, .iadd, 1, 0, 0), (1021, .istore 11, 2, 0, 0), (1023, .iinc 14 1, 3, 0, 0)],
  [(1026, .goto (-315), 3, 711, 0), (1029, .iload 10, 2, 0, 0), (1031, .iconst 2, 1, 0, 0), (1032, .aload_n 1, 1, 0, 0), (1033, .iload 9, 2, 0, 0), (1035, .iconst 0, 1, 0, 0), (1036, .invokevirtual 83, 3, 922, 0), (1039, .imul, 1, 0, 0), (1040, .if_icmp .ne 89, 3, 1129, 0), (1043, .iload 11, 2, 0, 0), (1045, .aload_n 1, 1, 0, 0), (1046, .iload 9, 2, 0, 0), (1048, .bipush 6, 2, 0, 0), (1050, .invokevirtual 83, 3, 922, 0), (1053, .if_icmp .ne 76, 3, 1129, 0)],
  [(1056, .iload 12, 2, 0, 0), (1058, .aload_n 1, 1, 0, 0), (1059, .iload 9, 2, 0, 0), (1061, .iconst 4, 1, 0, 0), (1062, .invokevirtual 83, 3, 922, 0), (1065, .if_icmp .ne 64, 3, 1129, 0), (1068, .iload 13, 2, 0, 0), (1070, .aload_n 1, 1, 0, 0), (1071, .iload 9, 2, 0, 0), (1073, .iconst 3, 1, 0, 0), (1074, .invokevirtual 83, 3, 922, 0), (1077, .if_icmp .ne 52, 3, 1129, 0), (1080, .iconst 2, 1, 0, 0), (1081, .aload_n 1, 1, 0, 0), (1082, .iload 9, 2, 0, 0), (1084, .iconst 5, 1, 0, 0), (1085, .invokevirtual 83, 3, 922, 0)],
  [(1088, .imul, 1, 0, 0), (1089, .iload 12, 2, 0, 0), (1091, .isub, 1, 0, 0), (1092, .iconst 4, 1, 0, 0), (1093, .aload_n 1, 1, 0, 0), (1094, .iload 9, 2, 0, 0), (1096, .iconst 2, 1, 0, 0), (1097, .invokevirtual 83, 3, 922, 0), (1100, .iconst 2, 1, 0, 0), (1101, .iload 13, 2, 0, 0), (1103, .imul, 1, 0, 0), (1104, .isub, 1, 0, 0), (1105, .imul, 1, 0, 0), (1106, .if_icmp .ne 23, 3, 1129, 0), (1109, .aload_n 1, 1, 0, 0), (1110, .iload 9, 2, 0, 0), (1112, .iconst 2, 1, 0, 0), (1113, .invokevirtual 83, 3, 922, 0), (1116, .iload 13, 2, 0, 0), (1118, .isub, 1, 0, 0), (1119, .aload_n 1, 1, 0, 0)],
  [(1120, .iload 9, 2, 0, 0), (1122, .iconst 1, 1, 0, 0), (1123, .invokevirtual 83, 3, 922, 0), (1126, .if_icmp .eq 5, 3, 1131, 0), (1129, .iconst 0, 1, 0, 0), (1130, .ireturn, 1, 0, 0), (1131, .iinc 9 1, 3, 0, 0), (1134, .goto (-509), 3, 625, 0), (1137, .iload 8, 2, 0, 0), (1139, .aload_n 1, 1, 0, 0), (1140, .invokevirtual 31, 3, 920, 0), (1143, .if_icmp .ne 7, 3, 1150, 0), (1146, .iconst 1, 1, 0, 0), (1147, .goto 4, 3, 1151, 0), (1150, .iconst 0, 1, 0, 0), (1151, .ireturn, 1, 0, 0)]]
/-- RectilinearRoofLaw.cell([II)I -/
def K_1223 : Kd := [[(0, .iload_n 1, 1, 0, 0), (1, .aload_n 0, 1, 0, 0), (2, .arraylength, 1, 0, 0), (3, .if_icmp .ge 9, 3, 12, 0), (6, .aload_n 0, 1, 0, 0), (7, .iload_n 1, 1, 0, 0), (8, .iaload, 1, 0, 0), (9, .goto 11, 3, 20, 0), (12, .sipush 7919, 3, 0, 0), (15, .iload_n 1, 1, 0, 0), (16, .imul, 1, 0, 0), (17, .bipush 12, 2, 0, 0), (19, .iadd, 1, 0, 0), (20, .ireturn, 1, 0, 0)]]
/-- RectilinearRoofLaw.some([III)I -/
def K_1224 : Kd := [[(0, .aload_n 0, 1, 0, 0), (1, .iload_n 1, 1, 0, 0), (2, .invokestatic 7, 3, 1223, 0), (5, .iconst 3, 1, 0, 0), (6, .iushr, 1, 0, 0), (7, .iload_n 2, 1, 0, 0), (8, .irem, 1, 0, 0), (9, .ireturn, 1, 0, 0)]]
/-- RectilinearRoofLaw.region(LRectilinearRoof;[II)V -/
def K_1225 : Kd := [[(0, .iconst 1, 1, 0, 0), (1, .aload_n 1, 1, 0, 0), (2, .iload_n 2, 1, 0, 0), (3, .bipush 6, 2, 0, 0), (5, .invokestatic 13, 3, 1224, 0), (8, .iadd, 1, 0, 0), (9, .istore_n 3, 1, 0, 0), (10, .iconst 0, 1, 0, 0), (11, .istore 4, 2, 0, 0), (13, .iload 4, 2, 0, 0), (15, .iload_n 3, 1, 0, 0), (16, .if_icmp .ge 139, 3, 155, 0), (19, .aload_n 1, 1, 0, 0), (20, .iload_n 2, 1, 0, 0), (21, .iconst 1, 1, 0, 0), (22, .iadd, 1, 0, 0), (23, .iconst 5, 1, 0, 0), (24, .iload 4, 2, 0, 0), (26, .imul, 1, 0, 0), (27, .iadd, 1, 0, 0), (28, .bipush 12, 2, 0, 0), (30, .invokestatic 13, 3, 1224, 0)],
  [(33, .istore 5, 2, 0, 0), (35, .aload_n 1, 1, 0, 0), (36, .iload_n 2, 1, 0, 0), (37, .iconst 2, 1, 0, 0), (38, .iadd, 1, 0, 0), (39, .iconst 5, 1, 0, 0), (40, .iload 4, 2, 0, 0), (42, .imul, 1, 0, 0), (43, .iadd, 1, 0, 0), (44, .bipush 12, 2, 0, 0), (46, .invokestatic 13, 3, 1224, 0), (49, .istore 6, 2, 0, 0), (51, .iconst 1, 1, 0, 0), (52, .aload_n 1, 1, 0, 0), (53, .iload_n 2, 1, 0, 0), (54, .iconst 3, 1, 0, 0), (55, .iadd, 1, 0, 0), (56, .iconst 5, 1, 0, 0), (57, .iload 4, 2, 0, 0), (59, .imul, 1, 0, 0), (60, .iadd, 1, 0, 0), (61, .bipush 12, 2, 0, 0), (63, .iload 5, 2, 0, 0)],
  [(65, .isub, 1, 0, 0), (66, .invokestatic 13, 3, 1224, 0), (69, .iadd, 1, 0, 0), (70, .istore 7, 2, 0, 0), (72, .iconst 1, 1, 0, 0), (73, .aload_n 1, 1, 0, 0), (74, .iload_n 2, 1, 0, 0), (75, .iconst 4, 1, 0, 0), (76, .iadd, 1, 0, 0), (77, .iconst 5, 1, 0, 0), (78, .iload 4, 2, 0, 0), (80, .imul, 1, 0, 0), (81, .iadd, 1, 0, 0), (82, .bipush 12, 2, 0, 0), (84, .iload 6, 2, 0, 0), (86, .isub, 1, 0, 0), (87, .invokestatic 13, 3, 1224, 0), (90, .iadd, 1, 0, 0), (91, .istore 8, 2, 0, 0), (93, .aload_n 1, 1, 0, 0), (94, .iload_n 2, 1, 0, 0), (95, .iconst 5, 1, 0, 0)],
  [(96, .iadd, 1, 0, 0), (97, .iconst 5, 1, 0, 0), (98, .iload 4, 2, 0, 0), (100, .imul, 1, 0, 0), (101, .iadd, 1, 0, 0), (102, .bipush 8, 2, 0, 0), (104, .invokestatic 13, 3, 1224, 0), (107, .istore 9, 2, 0, 0), (109, .aload_n 0, 1, 0, 0), (110, .iload 4, 2, 0, 0), (112, .ifCond .eq 9, 3, 121, 0), (115, .iload 9, 2, 0, 0), (117, .iconst 4, 1, 0, 0), (118, .if_icmp .ge 7, 3, 125, 0), (121, .iconst 0, 1, 0, 0), (122, .goto 15, 3, 137, 0), (125, .iload 9, 2, 0, 0), (127, .bipush 6, 2, 0, 0)],
  [(129, .if_icmp .ge 7, 3, 136, 0), (132, .iconst 2, 1, 0, 0), (133, .goto 4, 3, 137, 0), (136, .iconst 1, 1, 0, 0), (137, .iload 5, 2, 0, 0), (139, .iload 6, 2, 0, 0), (141, .iload 7, 2, 0, 0), (143, .iload 8, 2, 0, 0), (145, .invokevirtual 17, 3, 901, 0), (148, .pop, 1, 0, 0), (149, .iinc 4 1, 3, 0, 0), (152, .goto (-139), 3, 13, 0), (155, .return_, 1, 0, 0)]]
def codT : List (List Kd) := [
  [[], K_1, K_2, K_3, K_4, K_5, K_6, K_7, K_8, K_9, K_10, K_11],
  [[], K_101, [], [], []],
  [[], K_201, K_202, K_203, K_204, K_205, K_206, K_207, K_208, K_209, K_210, K_211, K_212, K_213, K_214, K_215, K_216, K_217],
  [[], K_301, K_302, K_303, K_304, K_305, K_306, [], K_308, K_309, K_310, K_311, K_312, K_313, K_314, [], []],
  [[], K_401, K_402, K_403, K_404, K_405, K_406, K_407, K_408, K_409, K_410, K_411, K_412, K_413, K_414, K_415, K_416],
  [[], K_501, K_502, K_503, K_504, K_505, K_506, K_507, K_508, K_509, K_510, K_511, K_512, [], K_514, K_515, K_516, K_517, K_518, K_519, K_520, K_521, K_522, K_523, K_524, K_525, K_526, K_527, [], [], [], []],
  [[], [], [], [], [], [], [], [], [], [], [], [], []],
  [[], K_701, K_702, K_703, K_704, []],
  [[], []],
  [[], K_901, K_902, [], [], K_905, [], [], [], [], K_910, K_911, K_912, K_913, K_914, K_915, K_916, K_917, K_918, K_919, K_920, K_921, K_922, K_923, K_924, [], [], K_927, [], K_929, [], [], [], K_933, K_934, K_935, [], K_937, K_938, K_939, K_940, K_941, K_942, K_943, K_944, K_945],
  [[]],
  [K_1100, K_1101, K_1102, K_1103, K_1104, K_1105],
  [[], [], [], [], [], [], [], [], [], [], [], [], [], [], [], [], [], [], [], [], [], [], K_1222, K_1223, K_1224, K_1225]]
abbrev Inf : Type := MethodName × ByteArray × Nat × Option FieldType × Nat × Nat × Nat
def infT : List (List Inf) := [
  [(yX0_init, cX0_init, 1, none, 1, 0, 0),
   (yX0_build, cX0_build, 4, none, 2, 0, 0),
   (yX0_keyOf, cX0_keyOf, 2, some Jvm.ClassFile.FieldType.int, 2, 1, 0),
   (yX0_sortIn, cX0_sortIn, 4, none, 2, 0, 0),
   (yX0_directionOf, cX0_directionOf, 2, some Jvm.ClassFile.FieldType.int, 2, 1, 0),
   (yX0_lineOf, cX0_lineOf, 2, some Jvm.ClassFile.FieldType.int, 2, 1, 0),
   (yX0_lowOf, cX0_lowOf, 2, some Jvm.ClassFile.FieldType.int, 2, 1, 0),
   (yX0_highOf, cX0_highOf, 2, some Jvm.ClassFile.FieldType.int, 2, 1, 0),
   (yX0_overlaps, cX0_overlaps, 4, some Jvm.ClassFile.FieldType.boolean, 4, 2, 0),
   (yX0_along, cX0_along, 14, some Jvm.ClassFile.FieldType.int, 6, 1, 0),
   (yX0_groupProperty, cX0_groupProperty, 4, some Jvm.ClassFile.FieldType.int, 3, 1, 0),
   (yX0_lengthOfKey, cX0_lengthOfKey, 6, some Jvm.ClassFile.FieldType.int, 2, 1, 0)],
  [(yX1_init, cX1_init, 1, none, 1, 0, 0),
   (yX1_record, cX1_record, 3, none, 2, 0, 0),
   (yL_law, cL_law, 0, none, 0, 0, 0),
   (yL_law, cL_law, 0, none, 0, 0, 0),
   (yL_law, cL_law, 0, none, 0, 0, 0)],
  [(yX2_init, cX2_init, 1, none, 1, 0, 0),
   (yX2_trace, cX2_trace, 4, none, 2, 0, 0),
   (yX2_findBends, cX2_findBends, 5, none, 2, 0, 0),
   (yX2_follow, cX2_follow, 14, none, 4, 0, 0),
   (yX2_addSide, cX2_addSide, 7, none, 5, 0, 0),
   (yX2_stepsToBend, cX2_stepsToBend, 5, some Jvm.ClassFile.FieldType.int, 4, 1, 0),
   (yX2_isBend, cX2_isBend, 3, some Jvm.ClassFile.FieldType.boolean, 3, 2, 0),
   (yX2_cellsAround, cX2_cellsAround, 3, some Jvm.ClassFile.FieldType.int, 3, 1, 0),
   (yX2_contourProperty, cX2_contourProperty, 3, some Jvm.ClassFile.FieldType.int, 3, 1, 0),
   (yX2_sidesOf, cX2_sidesOf, 2, some Jvm.ClassFile.FieldType.int, 2, 1, 0),
   (yX2_sideIndex, cX2_sideIndex, 3, some Jvm.ClassFile.FieldType.int, 3, 1, 0),
   (yX2_contourOf, cX2_contourOf, 3, some Jvm.ClassFile.FieldType.int, 2, 1, 0),
   (yX2_directionOf, cX2_directionOf, 2, some Jvm.ClassFile.FieldType.int, 2, 1, 0),
   (yX2_lineOf, cX2_lineOf, 2, some Jvm.ClassFile.FieldType.int, 2, 1, 0),
   (yX2_lowOf, cX2_lowOf, 2, some Jvm.ClassFile.FieldType.int, 2, 1, 0),
   (yX2_highOf, cX2_highOf, 2, some Jvm.ClassFile.FieldType.int, 2, 1, 0),
   (yX2_vertexX, cX2_vertexX, 3, some Jvm.ClassFile.FieldType.int, 2, 1, 0),
   (yX2_vertexY, cX2_vertexY, 3, some Jvm.ClassFile.FieldType.int, 2, 1, 0)],
  [(yX3_init, cX3_init, 1, none, 1, 0, 0),
   (yX3_covers, cX3_covers, 3, some Jvm.ClassFile.FieldType.boolean, 3, 2, 0),
   (yX3_row, cX3_row, 2, some Jvm.ClassFile.FieldType.long, 2, 3, 0),
   (yX3_setRow, cX3_setRow, 4, none, 3, 0, 0),
   (yX3_build, cX3_build, 3, none, 2, 0, 0),
   (yX3_findRuns, cX3_findRuns, 7, none, 1, 0, 0),
   (yX3_addRun, cX3_addRun, 4, none, 3, 0, 0),
   (yL_law, cL_law, 0, none, 0, 0, 0),
   (yX3_labelFrom, cX3_labelFrom, 5, none, 2, 0, 0),
   (yX3_labelBeside, cX3_labelBeside, 6, some Jvm.ClassFile.FieldType.int, 4, 1, 0),
   (yX3_link, cX3_link, 5, none, 3, 0, 0),
   (yX3_labelOf, cX3_labelOf, 6, some Jvm.ClassFile.FieldType.int, 2, 1, 0),
   (yX3_parentOf, cX3_parentOf, 2, some Jvm.ClassFile.FieldType.int, 2, 1, 0),
   (yX3_childCount, cX3_childCount, 2, some Jvm.ClassFile.FieldType.int, 2, 1, 0),
   (yX3_firstChildOf, cX3_firstChildOf, 3, some Jvm.ClassFile.FieldType.int, 2, 1, 0),
   (yL_law, cL_law, 0, none, 0, 0, 0),
   (yL_law, cL_law, 0, none, 0, 0, 0)],
  [(yX4_init, cX4_init, 1, none, 1, 0, 0),
   (yX4_has, cX4_has, 3, some Jvm.ClassFile.FieldType.boolean, 3, 2, 0),
   (yX4_size, cX4_size, 3, some Jvm.ClassFile.FieldType.int, 1, 1, 0),
   (yX4_wipe, cX4_wipe, 1, none, 1, 0, 0),
   (yX4_copy, cX4_copy, 3, none, 2, 0, 0),
   (yX4_change, cX4_change, 8, none, 6, 0, 0),
   (yX4_combined, cX4_combined, 3, some Jvm.ClassFile.FieldType.int, 3, 1, 0),
   (yX4_turn, cX4_turn, 3, none, 1, 0, 0),
   (yX4_mirror, cX4_mirror, 4, none, 1, 0, 0),
   (yX4_selfMaps, cX4_selfMaps, 4, some Jvm.ClassFile.FieldType.int, 2, 1, 0),
   (yX4_hasShapeOf, cX4_hasShapeOf, 7, some Jvm.ClassFile.FieldType.boolean, 2, 2, 0),
   (yX4_leastX, cX4_leastX, 3, some Jvm.ClassFile.FieldType.int, 1, 1, 0),
   (yX4_leastY, cX4_leastY, 2, some Jvm.ClassFile.FieldType.int, 1, 1, 0),
   (yX4_cornerPoints, cX4_cornerPoints, 4, some Jvm.ClassFile.FieldType.int, 1, 1, 0),
   (yX4_isCorner, cX4_isCorner, 9, some Jvm.ClassFile.FieldType.boolean, 3, 2, 0),
   (yX4_heightAt, cX4_heightAt, 6, some Jvm.ClassFile.FieldType.int, 3, 1, 0),
   (yX4_gap, cX4_gap, 2, some Jvm.ClassFile.FieldType.int, 2, 1, 0)],
  [(yX5_init, cX5_init, 2, none, 1, 0, 0),
   (yX5_spoil, cX5_spoil, 1, none, 1, 0, 0),
   (yX5_refresh, cX5_refresh, 5, none, 2, 0, 0),
   (yX5_phaseAt, cX5_phaseAt, 3, some (Jvm.ClassFile.FieldType.object "RectilinearRoof$Phase"), 2, 4, 0),
   (yX5_hasPhase, cX5_hasPhase, 2, some Jvm.ClassFile.FieldType.boolean, 2, 2, 0),
   (yX5_hasContour, cX5_hasContour, 3, some Jvm.ClassFile.FieldType.boolean, 3, 2, 0),
   (yX5_hasSide, cX5_hasSide, 4, some Jvm.ClassFile.FieldType.boolean, 4, 2, 0),
   (yX5_measure, cX5_measure, 4, none, 2, 0, 0),
   (yX5_loadLayer, cX5_loadLayer, 4, none, 2, 0, 0),
   (yX5_layerCells, cX5_layerCells, 3, some Jvm.ClassFile.FieldType.int, 1, 1, 0),
   (yX5_noteSamples, cX5_noteSamples, 5, none, 2, 0, 0),
   (yX5_copyLayer, cX5_copyLayer, 3, none, 2, 0, 0),
   (yX5_shrinkLayer, cX5_shrinkLayer, 2, none, 1, 0, 0),
   (yL_law, cL_law, 0, none, 0, 0, 0),
   (yX5_areaAt, cX5_areaAt, 2, some Jvm.ClassFile.FieldType.int, 2, 1, 0),
   (yX5_volumeBelow, cX5_volumeBelow, 3, some Jvm.ClassFile.FieldType.int, 1, 1, 0),
   (yX5_findFaces, cX5_findFaces, 2, none, 1, 0, 0),
   (yX5_lowestTouched, cX5_lowestTouched, 11, some Jvm.ClassFile.FieldType.int, 2, 1, 0),
   (yX5_faceOf, cX5_faceOf, 3, some Jvm.ClassFile.FieldType.int, 3, 1, 0),
   (yX5_edgeProperty, cX5_edgeProperty, 3, some Jvm.ClassFile.FieldType.int, 3, 1, 0),
   (yX5_faceSize, cX5_faceSize, 4, some Jvm.ClassFile.FieldType.int, 2, 1, 0),
   (yX5_extinction, cX5_extinction, 3, some Jvm.ClassFile.FieldType.int, 2, 1, 0),
   (yX5_drives, cX5_drives, 10, some Jvm.ClassFile.FieldType.boolean, 3, 2, 0),
   (yX5_originOf, cX5_originOf, 8, some Jvm.ClassFile.FieldType.int, 4, 1, 0),
   (yX5_phaseProperty, cX5_phaseProperty, 4, some Jvm.ClassFile.FieldType.int, 3, 1, 0),
   (yX5_mergedSides, cX5_mergedSides, 5, some Jvm.ClassFile.FieldType.int, 2, 1, 0),
   (yX5_isEvent, cX5_isEvent, 4, some Jvm.ClassFile.FieldType.boolean, 2, 2, 0),
   (yX5_eventCount, cX5_eventCount, 3, some Jvm.ClassFile.FieldType.int, 1, 1, 0),
   (yL_law, cL_law, 0, none, 0, 0, 0),
   (yL_law, cL_law, 0, none, 0, 0, 0),
   (yL_law, cL_law, 0, none, 0, 0, 0),
   (yL_law, cL_law, 0, none, 0, 0, 0)],
  [(yX6_init, cX6_init, 1, none, 1, 0, 0),
   (yL_law, cL_law, 0, none, 0, 0, 0),
   (yL_law, cL_law, 0, none, 0, 0, 0),
   (yL_law, cL_law, 0, none, 0, 0, 0),
   (yL_law, cL_law, 0, none, 0, 0, 0),
   (yL_law, cL_law, 0, none, 0, 0, 0),
   (yL_law, cL_law, 0, none, 0, 0, 0),
   (yL_law, cL_law, 0, none, 0, 0, 0),
   (yL_law, cL_law, 0, none, 0, 0, 0),
   (yL_law, cL_law, 0, none, 0, 0, 0),
   (yL_law, cL_law, 0, none, 0, 0, 0),
   (yL_law, cL_law, 0, none, 0, 0, 0),
   (yL_law, cL_law, 0, none, 0, 0, 0)],
  [(yX7_init, cX7_init, 1, none, 1, 0, 0),
   (yX7_grow, cX7_grow, 3, none, 2, 0, 0),
   (yX7_pushChildren, cX7_pushChildren, 6, none, 5, 0, 0),
   (yX7_growBranch, cX7_growBranch, 8, none, 5, 0, 0),
   (yX7_measureWays, cX7_measureWays, 3, none, 1, 0, 0),
   (yL_law, cL_law, 0, none, 0, 0, 0)],
  [(yX8_init, cX8_init, 1, none, 1, 0, 0),
   (yL_law, cL_law, 0, none, 0, 0, 0)],
  [(yX9_init, cX9_init, 1, none, 1, 0, 0),
   (yX9_rectangle, cX9_rectangle, 6, some Jvm.ClassFile.FieldType.int, 6, 1, 0),
   (yX9_clear, cX9_clear, 2, some Jvm.ClassFile.FieldType.int, 1, 1, 0),
   (yL_law, cL_law, 0, none, 0, 0, 0),
   (yL_law, cL_law, 0, none, 0, 0, 0),
   (yX9_errorPosition, cX9_errorPosition, 1, some Jvm.ClassFile.FieldType.int, 1, 1, 0),
   (yL_law, cL_law, 0, none, 0, 0, 0),
   (yL_law, cL_law, 0, none, 0, 0, 0),
   (yL_law, cL_law, 0, none, 0, 0, 0),
   (yL_law, cL_law, 0, none, 0, 0, 0),
   (yX9_contains, cX9_contains, 3, some Jvm.ClassFile.FieldType.boolean, 3, 2, 0),
   (yX9_edges, cX9_edges, 1, some Jvm.ClassFile.FieldType.int, 1, 1, 0),
   (yX9_edge, cX9_edge, 3, some Jvm.ClassFile.FieldType.int, 3, 1, 0),
   (yX9_corners, cX9_corners, 1, some Jvm.ClassFile.FieldType.int, 1, 1, 0),
   (yX9_groups, cX9_groups, 1, some Jvm.ClassFile.FieldType.int, 1, 1, 0),
   (yX9_group, cX9_group, 3, some Jvm.ClassFile.FieldType.int, 3, 1, 0),
   (yX9_symmetries, cX9_symmetries, 1, some Jvm.ClassFile.FieldType.int, 1, 1, 0),
   (yX9_height, cX9_height, 3, some Jvm.ClassFile.FieldType.int, 3, 1, 0),
   (yX9_face, cX9_face, 3, some Jvm.ClassFile.FieldType.int, 3, 1, 0),
   (yX9_area, cX9_area, 2, some Jvm.ClassFile.FieldType.int, 2, 1, 0),
   (yX9_volume, cX9_volume, 1, some Jvm.ClassFile.FieldType.int, 1, 1, 0),
   (yX9_phases, cX9_phases, 1, some Jvm.ClassFile.FieldType.int, 1, 1, 0),
   (yX9_phase, cX9_phase, 3, some Jvm.ClassFile.FieldType.int, 3, 1, 0),
   (yX9_contour, cX9_contour, 4, some Jvm.ClassFile.FieldType.int, 4, 1, 0),
   (yX9_vertex, cX9_vertex, 7, some Jvm.ClassFile.FieldType.int, 5, 1, 0),
   (yL_law, cL_law, 0, none, 0, 0, 0),
   (yL_law, cL_law, 0, none, 0, 0, 0),
   (yX9_events, cX9_events, 1, some Jvm.ClassFile.FieldType.int, 1, 1, 0),
   (yL_law, cL_law, 0, none, 0, 0, 0),
   (yX9_branches, cX9_branches, 1, some Jvm.ClassFile.FieldType.int, 1, 1, 0),
   (yL_law, cL_law, 0, none, 0, 0, 0),
   (yL_law, cL_law, 0, none, 0, 0, 0),
   (yL_law, cL_law, 0, none, 0, 0, 0),
   (yX9_count, cX9_count, 2, some Jvm.ClassFile.FieldType.int, 2, 1, 0),
   (yX9_recordChange, cX9_recordChange, 1, none, 1, 0, 0),
   (yX9_isCell, cX9_isCell, 2, some Jvm.ClassFile.FieldType.boolean, 2, 2, 0),
   (yL_law, cL_law, 0, none, 0, 0, 0),
   (yX9_at, cX9_at, 2, some Jvm.ClassFile.FieldType.int, 2, 1, 0),
   (yX9_put, cX9_put, 3, none, 3, 0, 0),
   (yX9_stepX, cX9_stepX, 1, some Jvm.ClassFile.FieldType.int, 1, 1, 0),
   (yX9_stepY, cX9_stepY, 1, some Jvm.ClassFile.FieldType.int, 1, 1, 0),
   (yX9_facesUp, cX9_facesUp, 1, some Jvm.ClassFile.FieldType.boolean, 1, 2, 0),
   (yX9_isLevel, cX9_isLevel, 1, some Jvm.ClassFile.FieldType.boolean, 1, 2, 0),
   (yX9_unit, cX9_unit, 1, some Jvm.ClassFile.FieldType.int, 1, 1, 0),
   (yX9_lowestBit, cX9_lowestBit, 2, some Jvm.ClassFile.FieldType.int, 1, 1, 0),
   (yX9_rowAt, cX9_rowAt, 2, some Jvm.ClassFile.FieldType.long, 2, 3, 0)],
  [(yL_law, cL_law, 0, none, 0, 0, 0)],
  [(yJ6_bitCount_0f7a4, cJ6_bitCount_0f7a4, 1, some Jvm.ClassFile.FieldType.int, 1, 1, 0),
   (yJ13_bitCount_95d88, cJ13_bitCount_95d88, 2, some Jvm.ClassFile.FieldType.int, 1, 1, 0),
   (yJ9_max_7cf53, cJ9_max_7cf53, 2, some Jvm.ClassFile.FieldType.int, 2, 1, 0),
   (yJ9_min_7cf53, cJ9_min_7cf53, 2, some Jvm.ClassFile.FieldType.int, 2, 1, 0),
   (yJ7_fill_53178, cJ7_fill_53178, 4, none, 2, 0, 0),
   (yJ9_abs_0f7a4, cJ9_abs_0f7a4, 1, some Jvm.ClassFile.FieldType.int, 1, 1, 0)],
  [(yL_law, cL_law, 0, none, 0, 0, 0),
   (yL_law, cL_law, 0, none, 0, 0, 0),
   (yL_law, cL_law, 0, none, 0, 0, 0),
   (yL_law, cL_law, 0, none, 0, 0, 0),
   (yL_law, cL_law, 0, none, 0, 0, 0),
   (yL_law, cL_law, 0, none, 0, 0, 0),
   (yL_law, cL_law, 0, none, 0, 0, 0),
   (yL_law, cL_law, 0, none, 0, 0, 0),
   (yL_law, cL_law, 0, none, 0, 0, 0),
   (yL_law, cL_law, 0, none, 0, 0, 0),
   (yL_law, cL_law, 0, none, 0, 0, 0),
   (yL_law, cL_law, 0, none, 0, 0, 0),
   (yL_law, cL_law, 0, none, 0, 0, 0),
   (yL_law, cL_law, 0, none, 0, 0, 0),
   (yL_law, cL_law, 0, none, 0, 0, 0),
   (yL_law, cL_law, 0, none, 0, 0, 0),
   (yL_law, cL_law, 0, none, 0, 0, 0),
   (yL_law, cL_law, 0, none, 0, 0, 0),
   (yL_law, cL_law, 0, none, 0, 0, 0),
   (yL_law, cL_law, 0, none, 0, 0, 0),
   (yL_law, cL_law, 0, none, 0, 0, 0),
   (yL_law, cL_law, 0, none, 0, 0, 0),
   (yL_law, cL_law, 27, some Jvm.ClassFile.FieldType.boolean, 1, 2, 0),
   (yL_cell, cL_cell, 2, some Jvm.ClassFile.FieldType.int, 2, 1, 0),
   (yL_some, cL_some, 3, some Jvm.ClassFile.FieldType.int, 3, 1, 0),
   (yL_region, cL_region, 10, none, 3, 0, 0)]]
def cod (mi : Nat) : Kd := match nthL codT (mi / 100) with
  | some l => (match nthL l (mi % 100) with
    | some k => k
    | none => [])
  | none => []
def infN : Inf := (yL_law, cL_law, 0, none, 0, 0, 0)
def inf (mi : Nat) : Inf := match nthL infT (mi / 100) with
  | some l => (match nthL l (mi % 100) with
    | some k => k
    | none => infN)
  | none => infN
def yM (mi : Nat) : MethodName := (inf mi).1
def cM (mi : Nat) : ByteArray := (inf mi).2.1
def lM (mi : Nat) : Nat := (inf mi).2.2.1
def rM (mi : Nat) : Option FieldType := (inf mi).2.2.2.1
def naM (mi : Nat) : Nat := (inf mi).2.2.2.2.1
/-- the answer: 0 none, 1 int, 2 boolean, 3 long, 4 a phase -/
def rkM (mi : Nat) : Nat := (inf mi).2.2.2.2.2.1
/-- 1: it may throw; 2: it catches -/
def kdM (mi : Nat) : Nat := (inf mi).2.2.2.2.2.2
def cmp0 (c : Jvm.ClassFile.Cond) (x : Int) (a b : Nat) : Nat := match c with
  | .eq => if x = 0 then a else b
  | .ne => if x = 0 then b else a
  | .lt => if x < 0 then a else b
  | .ge => if x < 0 then b else a
  | .gt => if 0 < x then a else b
  | .le => if 0 < x then b else a
def cmp2 (c : Jvm.ClassFile.Cond) (x y : Int) (a b : Nat) : Nat := match c with
  | .eq => if x = y then a else b
  | .ne => if x = y then b else a
  | .lt => if x < y then a else b
  | .ge => if x < y then b else a
  | .gt => if y < x then a else b
  | .le => if y < x then b else a
def goS (pc : Nat) (ls : Ls) (st : List Vv) (M : Mm) : Option SR := some (.inl (pc, ls, st, M))
def ldI (ls : Ls) (k pc : Nat) (st : List Vv) (M : Mm) : Option SR := match getL ls k with
  | some (.inl v) => goS pc ls (.inl v :: st) M
  | _ => none
def ldJ (ls : Ls) (k pc : Nat) (st : List Vv) (M : Mm) : Option SR := match getL ls k with
  | some (.inr (.inl v)) => goS pc ls (.inr (.inl v) :: st) M
  | _ => none
def ldR (ls : Ls) (k pc : Nat) (st : List Vv) (M : Mm) : Option SR := match getL ls k with
  | some (.inr (.inr v)) => goS pc ls (.inr (.inr v) :: st) M
  | _ => none
def seI (ls : Ls) (k pc : Nat) (st : List Vv) (M : Mm) : Option SR := match st with
  | .inl v :: st' => bif Nat.blt k ls.length then goS pc (stI ls k (.inl v)) st' M else none
  | _ => none
def seR (ls : Ls) (k pc : Nat) (st : List Vv) (M : Mm) : Option SR := match st with
  | .inr (.inr v) :: st' => bif Nat.blt k ls.length then goS pc (stI ls k (.inr (.inr v))) st' M else none
  | _ => none
def seJ (ls : Ls) (k pc : Nat) (st : List Vv) (M : Mm) : Option SR := match st with
  | .inr (.inl v) :: st' => bif Nat.blt (k + 1) ls.length then goS pc (stJ ls k v) st' M else none
  | _ => none
def opI (f : Int → Int → Int) (ls : Ls) (pc : Nat) (st : List Vv) (M : Mm) : Option SR := match st with
  | .inl y :: .inl x :: st' => goS pc ls (.inl (f x y) :: st') M
  | _ => none
def opJ (f : Int64 → Int64 → Int64) (ls : Ls) (pc : Nat) (st : List Vv) (M : Mm) : Option SR := match st with
  | .inr (.inl y) :: .inr (.inl x) :: st' => goS pc ls (.inr (.inl (f x y)) :: st') M
  | _ => none
def opS (f : Int64 → Int → Int64) (ls : Ls) (pc : Nat) (st : List Vv) (M : Mm) : Option SR := match st with
  | .inl y :: .inr (.inl x) :: st' => goS pc ls (.inr (.inl (f x y)) :: st') M
  | _ => none
def entAlen : List Vv → Nat
  | [] => 0
  | .inr (.inl _) :: l => entAlen l + 2
  | _ :: l => entAlen l + 1
def callS' (a pc : Nat) (ls : Ls) (st : List Vv) : Option SR := match popN (naM a) [] st with
  | some (as, rest) => bif Nat.ble (entAlen rest) 8 && Nat.ble (entAlen as) (lM a) then some (.inr (.inl (a, as, pc, ls, rest))) else none
  | none => none
def doneS (r : Option Vv ⊕ Nat) : Option SR := some (.inr (.inr r))
/-- one instruction -/
def sem1 (S : Sc) (mi : Nat) (i : Jvm.ClassFile.Instr) (len a : Nat) (x : Int) (pc : Nat) (ls : Ls) (st : List Vv) (M : Mm) : Option SR := match i with
  | .aload_n k => ldR ls k (pc + 1) st M
  | .aload k => ldR ls k (pc + 2) st M
  | .iload_n k => ldI ls k (pc + 1) st M
  | .iload k => ldI ls k (pc + 2) st M
  | .lload_n k => ldJ ls k (pc + 1) st M
  | .lload k => ldJ ls k (pc + 2) st M
  | .istore_n k => seI ls k (pc + 1) st M
  | .istore k => seI ls k (pc + 2) st M
  | .lstore_n k => seJ ls k (pc + 1) st M
  | .lstore k => seJ ls k (pc + 2) st M
  | .astore_n k => seR ls k (pc + 1) st M
  | .astore k => seR ls k (pc + 2) st M
  | .iconst n => goS (pc + 1) ls (.inl n :: st) M
  | .bipush n => goS (pc + 2) ls (.inl n :: st) M
  | .sipush n => goS (pc + 3) ls (.inl n :: st) M
  | .lconst n => goS (pc + 1) ls (.inr (.inl (Int64.ofNat n)) :: st) M
  | .ldc _ => goS (pc + 2) ls (.inl x :: st) M
  | .ldc_w _ => goS (pc + 3) ls (.inl x :: st) M
  | .ldc2_w _ => goS (pc + 3) ls (.inr (.inl (Int64.ofInt x)) :: st) M
  | .iadd => opI (fun u v => wrap (u + v)) ls (pc + 1) st M
  | .isub => opI (fun u v => wrap (u - v)) ls (pc + 1) st M
  | .imul => opI (fun u v => wrap (u * v)) ls (pc + 1) st M
  | .idiv => (match st with
    | .inl y :: .inl x :: st' => if y = 0 then none else goS (pc + 1) ls (.inl (idv x y) :: st') M
    | _ => none)
  | .irem => (match st with
    | .inl y :: .inl x :: st' => if y = 0 then none else goS (pc + 1) ls (.inl (irm x y) :: st') M
    | _ => none)
  | .ineg => (match st with
    | .inl x :: st' => goS (pc + 1) ls (.inl (wrap (-x)) :: st') M
    | _ => none)
  | .iand => opI ian ls (pc + 1) st M
  | .ior => opI ior' ls (pc + 1) st M
  | .ixor => opI ixr ls (pc + 1) st M
  | .ishl => opI ish ls (pc + 1) st M
  | .ishr => opI isr ls (pc + 1) st M
  | .iushr => opI ius ls (pc + 1) st M
  | .ladd => opJ (fun u v => u + v) ls (pc + 1) st M
  | .lsub => opJ (fun u v => u - v) ls (pc + 1) st M
  | .land => opJ (fun u v => u &&& v) ls (pc + 1) st M
  | .lor => opJ (fun u v => u ||| v) ls (pc + 1) st M
  | .lxor => opJ (fun u v => u ^^^ v) ls (pc + 1) st M
  | .lshl => opS lsh ls (pc + 1) st M
  | .lshr => opS lsr ls (pc + 1) st M
  | .lushr => opS lus ls (pc + 1) st M
  | .lneg => (match st with
    | .inr (.inl x) :: st' => goS (pc + 1) ls (.inr (.inl (-x)) :: st') M
    | _ => none)
  | .lcmp => (match st with
    | .inr (.inl y) :: .inr (.inl x) :: st' => goS (pc + 1) ls (.inl (lcm x y) :: st') M
    | _ => none)
  | .i2l => (match st with
    | .inl x :: st' => goS (pc + 1) ls (.inr (.inl (Int32.ofInt x).toInt64) :: st') M
    | _ => none)
  | .l2i => (match st with
    | .inr (.inl x) :: st' => goS (pc + 1) ls (.inl x.toInt32.toInt :: st') M
    | _ => none)
  | .iinc k n => (match getL ls k with
    | some (.inl v) => bif Nat.blt k ls.length then goS (pc + 3) (stI ls k (.inl (wrap (v + n)))) st M else none
    | _ => none)
  | .dup => (match st with
    | .inl v :: st' => goS (pc + 1) ls (.inl v :: .inl v :: st') M
    | .inr (.inr v) :: st' => goS (pc + 1) ls (.inr (.inr v) :: .inr (.inr v) :: st') M
    | _ => none)
  | .dup2 => (match st with
    | .inl v :: .inr (.inr w) :: st' => goS (pc + 1) ls (.inl v :: .inr (.inr w) :: .inl v :: .inr (.inr w) :: st') M
    | _ => none)
  | .pop => (match st with
    | .inl _ :: st' => goS (pc + 1) ls st' M
    | _ => none)
  | .goto _ => goS a ls st M
  | .ifCond c _ => (match st with
    | .inl x :: st' => goS (cmp0 c x a (pc + 3)) ls st' M
    | _ => none)
  | .if_icmp c _ => (match st with
    | .inl y :: .inl x :: st' => goS (cmp2 c x y a (pc + 3)) ls st' M
    | _ => none)
  | .ifnull _ => (match st with
    | .inr (.inr _) :: st' => goS (pc + 3) ls st' M
    | _ => none)
  | .tableswitch dflt lo hi offs => (match st with
    | .inl v :: st' => goS (tswT pc dflt lo hi offs v) ls st' M
    | _ => none)
  | .lookupswitch dflt ps => (match st with
    | .inl v :: st' => bif (ps.toList.zip (ps.toList.drop 1)).all (fun (a, next) => a.1 < next.1) then goS ((pc : Int) + Op.lookupswitch.offset ps.toList dflt v).toNat ls st' M else none
    | _ => none)
  | .getfield _ => (match st with
    | .inr (.inr (t, i)) :: st' => bif Nat.beq t (a / 100) then (match fK (a / 100) (a % 100) with
      | 0 => goS (pc + 3) ls (.inl (M.1 (a / 100) i (a % 100)) :: st') M
      | 1 => goS (pc + 3) ls (.inl (M.1 (a / 100) i (a % 100)) :: st') M
      | 2 => goS (pc + 3) ls (.inr (.inr (a + 100, i)) :: st') M
      | _ => goS (pc + 3) ls (.inr (.inr (oF a i)) :: st') M) else none
    | _ => none)
  | .putfield _ => (match st with
    | .inl v :: .inr (.inr (t, i)) :: st' => bif Nat.beq t (a / 100) then (match fK (a / 100) (a % 100) with
      | 0 => goS (pc + 3) ls st' (setI M (a / 100) i (a % 100) v)
      | 1 => if v = 0 then goS (pc + 3) ls st' (setI M (a / 100) i (a % 100) v) else if v = 1 then goS (pc + 3) ls st' (setI M (a / 100) i (a % 100) v) else none
      | _ => none) else none
    | _ => none)
  | .iaload => (match st with
    | .inl j :: .inr (.inr (t, i)) :: st' => (match S with
      | some (n, xs) => if t = 51 then (if 0 ≤ j ∧ j < n then goS (pc + 1) ls (.inl (xs j.toNat) :: st') M else none) else none
      | none => if aK t = 0 then (if 0 ≤ j ∧ j < aL t then goS (pc + 1) ls (.inl (M.1 t i j.toNat) :: st') M else none) else none)
    | _ => none)
  | .baload => (match st with
    | .inl j :: .inr (.inr (t, i)) :: st' => if aK t = 2 then (if 0 ≤ j ∧ j < aL t then goS (pc + 1) ls (.inl (M.1 t i j.toNat) :: st') M else none) else none
    | _ => none)
  | .laload => (match st with
    | .inl j :: .inr (.inr (t, i)) :: st' => if aK t = 1 then (if 0 ≤ j ∧ j < aL t then goS (pc + 1) ls (.inr (.inl (M.2 t i j.toNat)) :: st') M else none) else none
    | _ => none)
  | .aaload => (match st with
    | .inl j :: .inr (.inr (t, i)) :: st' => if aK t = 3 then (if 0 ≤ j ∧ j < aL t then goS (pc + 1) ls (.inr (.inr (3, j.toNat)) :: st') M else none) else none
    | _ => none)
  | .iastore => (match st with
    | .inl v :: .inl j :: .inr (.inr (t, i)) :: st' => if aK t = 0 then (if 0 ≤ j ∧ j < aL t then goS (pc + 1) ls st' (setI M t i j.toNat v) else none) else none
    | _ => none)
  | .bastore => (match st with
    | .inl v :: .inl j :: .inr (.inr (t, i)) :: st' => if aK t = 2 then (if v = 0 ∨ v = 1 then (if 0 ≤ j ∧ j < aL t then goS (pc + 1) ls st' (setI M t i j.toNat v) else none) else none) else none
    | _ => none)
  | .lastore => (match st with
    | .inr (.inl v) :: .inl j :: .inr (.inr (t, i)) :: st' => if aK t = 1 then (if 0 ≤ j ∧ j < aL t then goS (pc + 1) ls st' (setJ M t i j.toNat v) else none) else none
    | _ => none)
  | .arraylength => (match st with
    | .inr (.inr (t, _)) :: st' => (match S with
      | some (n, _) => if t = 51 then goS (pc + 1) ls (.inl n :: st') M else none
      | none => if aK t < 4 then goS (pc + 1) ls (.inl (aL t) :: st') M else none)
    | _ => none)
  | .invokevirtual _ => (match callS' a (pc + 3) ls st with
    | some (.inr (.inl (b, .inr (.inr (t, i)) :: as, q))) => bif Nat.beq t (a / 100) then some (.inr (.inl (b, .inr (.inr (t, i)) :: as, q))) else none
    | _ => none)
  | .invokestatic _ => bif Nat.beq a 1102 then (match st with
    | .inl y :: .inl x :: st' => bif Nat.ble st'.length 4 then goS (pc + 3) ls (.inl (if x < y then y else x) :: st') M else none
    | _ => none) else bif Nat.beq a 1103 then (match st with
    | .inl y :: .inl x :: st' => bif Nat.ble st'.length 4 then goS (pc + 3) ls (.inl (if y < x then y else x) :: st') M else none
    | _ => none) else bif Nat.beq a 1105 then (match st with
    | .inl x :: st' => bif Nat.ble st'.length 4 then goS (pc + 3) ls (.inl (if 0 ≤ x then x else wrap (-x)) :: st') M else none
    | _ => none) else callS' a (pc + 3) ls st
  | .ireturn => (match st with
    | [.inl v] => if rkM mi = 1 then doneS (.inl (some (.inl v))) else if rkM mi = 2 then (if v = 0 ∨ v = 1 then doneS (.inl (some (.inl v))) else none) else none
    | _ => none)
  | .lreturn => (match st with
    | [.inr (.inl v)] => if rkM mi = 3 then doneS (.inl (some (.inr (.inl v)))) else none
    | _ => none)
  | .areturn => (match st with
    | [.inr (.inr v)] => if rkM mi = 4 then doneS (.inl (some (.inr (.inr v)))) else none
    | _ => none)
  | .return_ => (match st with
    | [] => if rkM mi = 0 then doneS (.inl none) else none
    | _ => none)
  | .new _ => if kdM mi = 1 then (match st with
    | [] => doneS (.inr a)
    | _ => none) else none
  | _ => none
def sem (S : Sc) (K : Kd) (mi pc : Nat) (ls : Ls) (st : List Vv) (M : Mm) : Option SR := match fetch K pc with
  | some (i, len, a, x) => sem1 S mi i len a x pc ls st M
  | none => none
/-- a method's locals at its start -/
def entA : List Vv → Ls
  | [] => []
  | .inr (.inl v) :: l => some (.inr (.inl v)) :: none :: entA l
  | v :: l => some v :: entA l
def padL : Nat → Ls → Ls
  | 0, l => l
  | n + 1, l => padL n (l ++ [none])
def entL (n : Nat) (as : List Vv) : Ls := padL (n - (entA as).length) (entA as)
/-- where a method goes on that catches the exception of code X: behind the store, the local that it is stored in -/
def hdl (mi X : Nat) : Option (Nat × Nat) := 
   none
def kdOf (q : Nat) (r : Option ((Option Vv ⊕ Nat) × Mm × Nat)) : Option ((Option Vv ⊕ Nat) × Mm × Nat) := match r with
  | some (o, M, k) => some (o, M, q + k)
  | none => none
/-- who sees the script -/
def scW (mj : Nat) : Sc → Sc
  | none => none
  | some q => bif Nat.ble 1200 mj then some q else none
def ex : Nat → Sc → Nat → Nat → Nat → Ls → List Vv → Mm → Option ((Option Vv ⊕ Nat) × Mm × Nat)
  | 0, _, _, _, _, _, _, _ => none
  | n + 1, S, d, mi, pc, ls, st, M => match sem S (cod mi) mi pc ls st M with
    | none => none
    | some (.inl (pc', ls', st', M')) => ex n S d mi pc' ls' st' M'
    | some (.inr (.inr o)) => some (o, M, 0)
    | some (.inr (.inl (mj, as, pc', ls', rest))) => (match d with
      | 0 => none
      | d' + 1 => (match ex n (scW mj S) d' mj 0 (entL (lM mj) as) [] M with
        | none => none
        | some (.inl v, M1, q) => bif Nat.beq (kdM mj) 1 then (bif Nat.beq q 0 then kdOf 1 (ex n S d mi pc' ls' (v.toList ++ rest) M1) else none) else kdOf q (ex n S d mi pc' ls' (v.toList ++ rest) M1)
        | some (.inr X, M1, q) => bif Nat.beq (kdM mj) 1 then (bif Nat.beq q 0 then (match hdl mi X with
          | some (pc2, k) => kdOf 1 (ex n S d mi pc2 ((clrL ls' k).set k none) [] M1)
          | none => none) else none) else none))

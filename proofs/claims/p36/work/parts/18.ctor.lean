/-! constructors: a machine that makes cells, run by the kernel -/
abbrev He : Type := (Nat × List (Option Vv)) ⊕ (Nat × Nat × List (Option Nat))
/-- the constructors' code by class; 10: the law's own, as far as it makes cells -/
def KI : List (List (Nat × Jvm.ClassFile.Instr × Nat × Nat)) := [
  [(0, .aload_n 0, 1, 0), (1, .invokespecial 3, 3, 9999), (4, .aload_n 0, 1, 0), (5, .sipush 340, 3, 0), (8, .newarray .int, 2, 0), (10, .putfield 9, 3, 0), (13, .aload_n 0, 1, 0), (14, .sipush 340, 3, 0), (17, .newarray .int, 2, 0), (19, .putfield 15, 3, 1), (22, .aload_n 0, 1, 0), (23, .sipush 340, 3, 0), (26, .newarray .int, 2, 0), (28, .putfield 18, 3, 2), (31, .aload_n 0, 1, 0), (32, .sipush 340, 3, 0), (35, .newarray .int, 2, 0), (37, .putfield 21, 3, 3), (40, .aload_n 0, 1, 0), (41, .sipush 340, 3, 0), (44, .newarray .int, 2, 0), (46, .putfield 24, 3, 4), (49, .aload_n 0, 1, 0), (50, .bipush 53, 2, 0), (52, .newarray .int, 2, 0), (54, .putfield 27, 3, 5), (57, .aload_n 0, 1, 0), (58, .bipush 52, 2, 0), (60, .newarray .int, 2, 0), (62, .putfield 30, 3, 6), (65, .aload_n 0, 1, 0), (66, .bipush 52, 2, 0), (68, .newarray .int, 2, 0), (70, .putfield 33, 3, 7), (73, .return_, 1, 0)],
  [(0, .aload_n 0, 1, 0), (1, .invokespecial 3, 3, 9999), (4, .aload_n 0, 1, 0), (5, .bipush 108, 2, 0), (7, .newarray .int, 2, 0), (9, .putfield 9, 3, 100), (12, .return_, 1, 0)],
  [(0, .aload_n 0, 1, 0), (1, .invokespecial 3, 3, 9999), (4, .aload_n 0, 1, 0), (5, .bipush 96, 2, 0), (7, .newarray .int, 2, 0), (9, .putfield 9, 3, 200), (12, .aload_n 0, 1, 0), (13, .bipush 96, 2, 0), (15, .newarray .int, 2, 0), (17, .putfield 15, 3, 201), (20, .aload_n 0, 1, 0), (21, .bipush 96, 2, 0), (23, .newarray .int, 2, 0), (25, .putfield 18, 3, 202), (28, .aload_n 0, 1, 0), (29, .bipush 96, 2, 0), (31, .newarray .int, 2, 0), (33, .putfield 21, 3, 203), (36, .aload_n 0, 1, 0), (37, .bipush 96, 2, 0), (39, .newarray .int, 2, 0), (41, .putfield 24, 3, 204), (44, .aload_n 0, 1, 0), (45, .sipush 340, 3, 0), (48, .newarray .int, 2, 0), (50, .putfield 27, 3, 205), (53, .aload_n 0, 1, 0), (54, .sipush 340, 3, 0), (57, .newarray .int, 2, 0), (59, .putfield 30, 3, 206), (62, .aload_n 0, 1, 0), (63, .sipush 340, 3, 0), (66, .newarray .int, 2, 0), (68, .putfield 33, 3, 207), (71, .aload_n 0, 1, 0), (72, .sipush 340, 3, 0), (75, .newarray .int, 2, 0), (77, .putfield 36, 3, 208), (80, .aload_n 0, 1, 0), (81, .bipush 49, 2, 0), (83, .newarray .long, 2, 1), (85, .putfield 39, 3, 209), (88, .aload_n 0, 1, 0), (89, .bipush 49, 2, 0), (91, .newarray .long, 2, 1), (93, .putfield 43, 3, 210), (96, .return_, 1, 0)],
  [(0, .aload_n 0, 1, 0), (1, .invokespecial 3, 3, 9999), (4, .aload_n 0, 1, 0), (5, .new 9, 3, 2), (8, .dup, 1, 0), (9, .invokespecial 11, 3, 2), (12, .putfield 12, 3, 300), (15, .aload_n 0, 1, 0), (16, .bipush 48, 2, 0), (18, .newarray .long, 2, 1), (20, .putfield 18, 3, 301), (23, .aload_n 0, 1, 0), (24, .bipush 49, 2, 0), (26, .newarray .int, 2, 0), (28, .putfield 22, 3, 302), (31, .aload_n 0, 1, 0), (32, .sipush 288, 3, 0), (35, .newarray .long, 2, 1), (37, .putfield 26, 3, 303), (40, .aload_n 0, 1, 0), (41, .sipush 288, 3, 0), (44, .newarray .int, 2, 0), (46, .putfield 29, 3, 304), (49, .aload_n 0, 1, 0), (50, .sipush 288, 3, 0), (53, .newarray .int, 2, 0), (55, .putfield 32, 3, 305), (58, .aload_n 0, 1, 0), (59, .sipush 288, 3, 0), (62, .newarray .int, 2, 0), (64, .putfield 35, 3, 306), (67, .aload_n 0, 1, 0), (68, .bipush 72, 2, 0), (70, .newarray .int, 2, 0), (72, .putfield 38, 3, 307), (75, .aload_n 0, 1, 0), (76, .bipush 72, 2, 0), (78, .newarray .int, 2, 0), (80, .putfield 41, 3, 308), (83, .return_, 1, 0)],
  [(0, .aload_n 0, 1, 0), (1, .invokespecial 3, 3, 9999), (4, .aload_n 0, 1, 0), (5, .bipush 12, 2, 0), (7, .newarray .int, 2, 0), (9, .putfield 9, 3, 400), (12, .aload_n 0, 1, 0), (13, .bipush 12, 2, 0), (15, .newarray .int, 2, 0), (17, .putfield 15, 3, 401), (20, .return_, 1, 0)],
  [(0, .aload_n 0, 1, 0), (1, .invokespecial 3, 3, 9999), (4, .aload_n 0, 1, 0), (5, .new 9, 3, 0), (8, .dup, 1, 0), (9, .invokespecial 11, 3, 0), (12, .putfield 12, 3, 500), (15, .aload_n 0, 1, 0), (16, .new 18, 3, 7), (19, .dup, 1, 0), (20, .invokespecial 20, 3, 7), (23, .putfield 21, 3, 501), (26, .aload_n 0, 1, 0), (27, .new 25, 3, 3), (30, .dup, 1, 0), (31, .invokespecial 27, 3, 3), (34, .putfield 28, 3, 502), (37, .aload_n 0, 1, 0), (38, .bipush 12, 2, 0), (40, .anewarray 25, 3, 0), (43, .putfield 32, 3, 503), (46, .aload_n 0, 1, 0), (47, .new 36, 3, 8), (50, .dup, 1, 0), (51, .invokespecial 38, 3, 8), (54, .putfield 39, 3, 504), (57, .aload_n 0, 1, 0), (58, .bipush 48, 2, 0), (60, .newarray .long, 2, 1), (62, .putfield 43, 3, 505), (65, .aload_n 0, 1, 0), (66, .bipush 48, 2, 0), (68, .newarray .long, 2, 1), (70, .putfield 47, 3, 506), (73, .aload_n 0, 1, 0), (74, .bipush 26, 2, 0), (76, .newarray .int, 2, 0), (78, .putfield 50, 3, 507), (81, .aload_n 0, 1, 0), (82, .sipush 144, 3, 0), (85, .newarray .int, 2, 0), (87, .putfield 54, 3, 508), (90, .aload_n 0, 1, 0), (91, .sipush 144, 3, 0), (94, .newarray .int, 2, 0), (96, .putfield 57, 3, 509), (99, .iconst 0, 1, 0), (100, .istore_n 1, 1, 0), (101, .iload_n 1, 1, 0), (102, .aload_n 0, 1, 0), (103, .getfield 32, 3, 503), (106, .arraylength, 1, 0), (107, .if_icmp .ge 22, 3, 129), (110, .aload_n 0, 1, 0), (111, .getfield 32, 3, 503), (114, .iload_n 1, 1, 0), (115, .new 25, 3, 3), (118, .dup, 1, 0), (119, .invokespecial 27, 3, 3), (122, .aastore, 1, 0), (123, .iinc 1 1, 3, 0), (126, .goto (-25), 3, 101), (129, .return_, 1, 0)],
  [(0, .aload_n 0, 1, 0), (1, .invokespecial 3, 3, 9999), (4, .aload_n 0, 1, 0), (5, .bipush 60, 2, 0), (7, .newarray .int, 2, 0), (9, .putfield 9, 3, 600), (12, .aload_n 0, 1, 0), (13, .sipush 150, 3, 0), (16, .newarray .int, 2, 0), (18, .putfield 15, 3, 601), (21, .aload_n 0, 1, 0), (22, .iconst (-1), 1, 0), (23, .putfield 18, 3, 604), (26, .return_, 1, 0)],
  [(0, .aload_n 0, 1, 0), (1, .invokespecial 3, 3, 9999), (4, .aload_n 0, 1, 0), (5, .sipush 864, 3, 0), (8, .newarray .int, 2, 0), (10, .putfield 9, 3, 700), (13, .aload_n 0, 1, 0), (14, .sipush 864, 3, 0), (17, .newarray .int, 2, 0), (19, .putfield 15, 3, 701), (22, .aload_n 0, 1, 0), (23, .sipush 864, 3, 0), (26, .newarray .int, 2, 0), (28, .putfield 18, 3, 702), (31, .aload_n 0, 1, 0), (32, .sipush 864, 3, 0), (35, .newarray .int, 2, 0), (37, .putfield 21, 3, 703), (40, .aload_n 0, 1, 0), (41, .sipush 864, 3, 0), (44, .newarray .int, 2, 0), (46, .putfield 24, 3, 704), (49, .aload_n 0, 1, 0), (50, .sipush 864, 3, 0), (53, .newarray .int, 2, 0), (55, .putfield 27, 3, 705), (58, .aload_n 0, 1, 0), (59, .sipush 864, 3, 0), (62, .newarray .int, 2, 0), (64, .putfield 30, 3, 706), (67, .aload_n 0, 1, 0), (68, .sipush 864, 3, 0), (71, .newarray .int, 2, 0), (73, .putfield 33, 3, 707), (76, .aload_n 0, 1, 0), (77, .sipush 864, 3, 0), (80, .newarray .int, 2, 0), (82, .putfield 36, 3, 708), (85, .return_, 1, 0)],
  [(0, .aload_n 0, 1, 0), (1, .invokespecial 3, 3, 9999), (4, .aload_n 0, 1, 0), (5, .sipush 2304, 3, 0), (8, .newarray .int, 2, 0), (10, .putfield 9, 3, 800), (13, .aload_n 0, 1, 0), (14, .sipush 2304, 3, 0), (17, .newarray .int, 2, 0), (19, .putfield 15, 3, 801), (22, .return_, 1, 0)],
  [(0, .aload_n 0, 1, 0), (1, .invokespecial 1, 3, 9999), (4, .aload_n 0, 1, 0), (5, .new 7, 3, 4), (8, .dup, 1, 0), (9, .invokespecial 9, 3, 4), (12, .putfield 10, 3, 900), (15, .aload_n 0, 1, 0), (16, .new 7, 3, 4), (19, .dup, 1, 0), (20, .invokespecial 9, 3, 4), (23, .putfield 16, 3, 901), (26, .aload_n 0, 1, 0), (27, .new 7, 3, 4), (30, .dup, 1, 0), (31, .invokespecial 9, 3, 4), (34, .putfield 19, 3, 902), (37, .aload_n 0, 1, 0), (38, .new 22, 3, 1), (41, .dup, 1, 0), (42, .invokespecial 24, 3, 1), (45, .putfield 25, 3, 903), (48, .aload_n 0, 1, 0), (49, .new 29, 3, 6), (52, .dup, 1, 0), (53, .invokespecial 31, 3, 6), (56, .putfield 32, 3, 904), (59, .aload_n 0, 1, 0), (60, .new 36, 3, 5), (63, .dup, 1, 0), (64, .invokespecial 38, 3, 5), (67, .putfield 39, 3, 905), (70, .return_, 1, 0)],
  [(0, .new 18, 3, 9), (3, .dup, 1, 0), (4, .invokespecial 23, 3, 9), (7, .astore_n 1, 1, 0)]]
def fetI (k pc : Nat) : Option (Jvm.ClassFile.Instr × Nat × Nat) := match nthL KI k with
  | some l => ((l.find? fun q => Nat.beq q.1 pc).map fun q => q.2)
  | none => none
def mI (k : Nat) : Nat := bif Nat.beq k 10 then 1222 else 100 * k
def adL (b : Nat) (am : List Nat) : Nat → Nat → Nat := fun t k => bif Nat.beq t 51 then b else am.getD k 0
def cvo (b : Nat) (am : List Nat) : Option Vv → Value
  | none => .null
  | some v => conc (adL b am) v
def ceH (cy : Cy) (b : Nat) (am : List Nat) : He → va_E
  | .inl (ci, fs) => .inr (ci, fs.map (cvo b am))
  | .inr (0, n, _) => .inl (cy.1, n, .inl fun _ => 0)
  | .inr (1, n, _) => .inl (cy.2.1, n, .inr (.inl fun _ => 0))
  | .inr (2, n, _) => .inl (cy.2.2.1, n, .inl fun _ => 0)
  | .inr (_, n, l) => .inl (cy.2.2.2, n, .inr (.inr (.inr (.inr fun j => (l.getD j none).map fun k => am.getD k 0))))
def wsH (cy : Cy) (b : Nat) (am : List Nat) (hp : List He) : va_W := (am.zip hp).map fun q => (q.1, ceH cy b am q.2)
def wfV (n : Nat) : Vv → Bool
  | .inr (.inr (t, k)) => Nat.beq t 51 || Nat.blt k n
  | _ => true
def wfO (n : Nat) : Option Vv → Bool
  | none => true
  | some v => wfV n v
def wfE (n : Nat) : He → Bool
  | .inl (_, fs) => fs.all (wfO n)
  | .inr (_, _, l) => l.all (fun o => match o with
    | none => true
    | some k => Nat.blt k n)
def wfS (n : Nat) (ls : Ls) (st : List Vv) (hp : List He) : Bool := ls.all (wfO n) && st.all (wfV n) && hp.all (wfE n)
def sizE : He → Nat
  | .inl (_, fs) => fs.length
  | .inr (_, n, _) => n
def sloH (hp : List He) : Nat := (hp.map sizE).sum
def dflt (ci : Nat) : List (Option Vv) := (List.range (nF ci)).map fun k => bif Nat.blt (fK ci k) 2 then some (.inl 0) else none
abbrev Gi : Type := Nat × Ls × List Vv × List He
def inB (x : Int) : Bool := decide (-2147483648 ≤ x) && decide (x ≤ 2147483647)
def okPut (ci k : Nat) (v : Vv) : Bool := match v with
  | .inl _ => Nat.beq (fK ci k) 0
  | .inr (.inr (0, _)) => Nat.blt 1 (fK ci k)
  | _ => false
/-- one instruction that makes no cell -/
def aS (i : Jvm.ClassFile.Instr) (a pc : Nat) (ls : Ls) (st : List Vv) (hp : List He) : Option Gi := match i with
  | .aload_n k => (match getL ls k with
    | some (.inr (.inr v)) => some (pc + 1, ls, .inr (.inr v) :: st, hp)
    | _ => none)
  | .iload_n k => (match getL ls k with
    | some (.inl v) => some (pc + 1, ls, .inl v :: st, hp)
    | _ => none)
  | .istore_n k => (match st with
    | .inl v :: st' => bif Nat.blt k ls.length then some (pc + 1, stI ls k (.inl v), st', hp) else none
    | _ => none)
  | .astore_n k => (match st with
    | .inr (.inr v) :: st' => bif Nat.blt k ls.length then some (pc + 1, stI ls k (.inr (.inr v)), st', hp) else none
    | _ => none)
  | .iconst n => some (pc + 1, ls, .inl n :: st, hp)
  | .bipush n => some (pc + 2, ls, .inl n :: st, hp)
  | .sipush n => some (pc + 3, ls, .inl n :: st, hp)
  | .dup => (match st with
    | .inr (.inr v) :: st' => some (pc + 1, ls, .inr (.inr v) :: .inr (.inr v) :: st', hp)
    | _ => none)
  | .goto _ => some (a, ls, st, hp)
  | .iinc k n => (match getL ls k with
    | some (.inl v) => bif Nat.blt k ls.length then some (pc + 3, stI ls k (.inl (wrap (v + n))), st, hp) else none
    | _ => none)
  | .if_icmp .ge _ => (match st with
    | .inl y :: .inl x :: st' => bif inB x && inB y then some (if x < y then pc + 3 else a, ls, st', hp) else none
    | _ => none)
  | .putfield _ => (match st with
    | v :: .inr (.inr (0, h)) :: st' => (match hp[h]? with
      | some (.inl (ci, fs)) => bif Nat.beq ci (a / 100) && Nat.blt (a % 100) fs.length && okPut ci (a % 100) v then some (pc + 3, ls, st', hp.set h (.inl (ci, fs.set (a % 100) (some v)))) else none
      | _ => none)
    | _ => none)
  | .getfield _ => (match st with
    | .inr (.inr (0, h)) :: st' => (match hp[h]? with
      | some (.inl (ci, fs)) => bif Nat.beq ci (a / 100) then (match fs[a % 100]? with
        | some (some v) => some (pc + 3, ls, v :: st', hp)
        | _ => none) else none
      | _ => none)
    | _ => none)
  | .arraylength => (match st with
    | .inr (.inr (0, h)) :: st' => (match hp[h]? with
      | some (.inr (3, n, _)) => some (pc + 1, ls, .inl n :: st', hp)
      | _ => none)
    | _ => none)
  | .aastore => (match st with
    | .inr (.inr (0, v)) :: .inl j :: .inr (.inr (0, h)) :: st' => (match hp[h]? with
      | some (.inr (3, n, l)) => (match hp[v]? with
        | some (.inl (3, _)) => bif inB j && decide (0 ≤ j) && decide (j < n) && decide (l.length = n) then some (pc + 1, ls, st', hp.set h (.inr (3, n, l.set j.toNat (some v)))) else none
        | _ => none)
      | _ => none)
    | _ => none)
  | _ => none
/-- .. and that makes one -/
def aN (i : Jvm.ClassFile.Instr) (a pc : Nat) (st : List Vv) (n : Nat) : Option (Nat × List Vv × He) := match i with
  | .new _ => some (pc + 3, .inr (.inr (0, n)) :: st, .inl (a, dflt a))
  | .newarray _ => (match st with
    | .inl k :: st' => bif decide (0 ≤ k) && decide (k ≤ 30000) && Nat.blt a 3 then some (pc + 2, .inr (.inr (0, n)) :: st', .inr (a, k.toNat, [])) else none
    | _ => none)
  | .anewarray _ => (match st with
    | .inl k :: st' => bif decide (0 ≤ k) && decide (k ≤ 30000) then some (pc + 3, .inr (.inr (0, n)) :: st', .inr (3, k.toNat, List.replicate k.toNat none)) else none
    | _ => none)
  | _ => none
def isN (i : Jvm.ClassFile.Instr) : Bool := match i with
  | .new _ => true
  | .newarray _ => true
  | .anewarray _ => true
  | _ => false
def stopI (k pc : Nat) (st : List Vv) : Bool := match st with
  | [] => bif Nat.beq k 10 then Nat.beq pc 8 else (match fetI k pc with
    | some (.return_, _, _) => true
    | _ => false)
  | _ => false
def aEx : Nat → Nat → Nat → Nat → Ls → List Vv → List He → Option (Nat × Ls × List He)
  | 0, _, _, _, _, _, _ => none
  | n + 1, d, k, pc, ls, st, hp => bif stopI k pc st then some (pc, ls, hp) else match fetI k pc with
    | none => none
    | some (.invokespecial _, _, a) => (match st with
      | .inr (.inr (0, h)) :: rest => bif Nat.beq a 9999 then (bif Nat.ble rest.length 4 then aEx n d k (pc + 3) ls rest hp else none) else (match d with
        | 0 => none
        | d' + 1 => bif wfS hp.length ls st hp && Nat.ble rest.length 4 && Nat.blt a 10 then (match aEx n d' a 0 (entL (lM (100 * a)) [.inr (.inr (0, h))]) [] hp with
          | some (_, _, hp') => aEx n (d' + 1) k (pc + 3) ls rest hp'
          | none => none) else none)
      | _ => none)
    | some (i, _, a) => bif isN i then (bif wfS hp.length ls st hp then (match aN i a pc st hp.length with
        | some (pc', st', e) => aEx n d k pc' ls st' (hp ++ [e])
        | none => none) else none)
      else (match aS i a pc ls st hp with
        | some (pc', ls', st', hp') => aEx n d k pc' ls' st' hp'
        | none => none)
def ls0L : Ls := [some (.inr (.inr (51, 0))), none, none, none, none, none, none, none, none, none, none, none, none, none, none, none, none, none, none, none, none, none, none, none, none, none, none]

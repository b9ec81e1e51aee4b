/-! the words of the tables that the code's links need -/
def lw_good : List Cond := lw_tbl.filter goodWord
def TT : Nat → u_T
  | 0 => TX0 | 1 => TX1 | 2 => TX2 | 3 => TX3 | 4 => TX4 | 5 => TX5 | 6 => TX6 | 7 => TX7 | 8 => TX8 | 9 => TX9 | _ => TX10
def RR' : Nat → String
  | 0 => RX0 | 1 => RX1 | 2 => RX2 | 3 => RX3 | 4 => RX4 | 5 => RX5 | 6 => RX6 | 7 => RX7 | 8 => RX8 | 9 => RX9 | _ => RX10
def tyT : Nat → Nat → FieldType
  | 0 => tyX0 | 1 => tyX1 | 2 => tyX2 | 3 => tyX3 | 4 => tyX4 | 5 => tyX5 | 6 => tyX6 | 7 => tyX7 | 8 => tyX8 | 9 => tyX9 | _ => tyX10
def ownT : List String := ["RectilinearRoof", "RectilinearRoof$Edges", "RectilinearRoof$History", "RectilinearRoof$Outline", "RectilinearRoof$Phase", "RectilinearRoof$Region", "RectilinearRoof$Roof", "RectilinearRoof$Tree", "RectilinearRoofLaw", "java/lang/Integer", "java/lang/Long", "java/lang/Math", "java/util/Arrays"]
/-- field links in the order of the table: how many words between, own class, entry, field -/
def flT : List (Nat × Nat × Nat × Nat) := [(69, 5, 9, 400), (0, 2, 19, 400), (0, 5, 15, 401), (12, 2, 9, 100), (0, 2, 15, 101), (0, 2, 32, 102), (0, 0, 112, 102), (0, 2, 41, 103), (0, 0, 123, 103), (17, 0, 79, 603), (1, 0, 109, 604), (25, 1, 9, 0), (0, 1, 15, 1), (0, 1, 18, 2),
  (0, 1, 21, 3), (0, 1, 24, 4), (0, 1, 27, 5), (0, 1, 30, 6), (0, 1, 33, 7), (0, 1, 42, 8), (0, 0, 152, 8), (0, 1, 45, 9), (0, 0, 167, 9), (27, 7, 9, 700), (0, 7, 15, 701), (0, 7, 18, 702), (0, 7, 21, 703), (0, 7, 24, 704),
  (0, 7, 27, 705), (0, 7, 30, 706), (0, 7, 33, 707), (0, 7, 36, 708), (0, 7, 43, 709), (0, 7, 39, 710), (0, 0, 279, 710), (35, 3, 9, 200), (0, 3, 15, 201), (0, 3, 18, 202), (0, 3, 21, 203), (0, 3, 24, 204), (0, 3, 27, 205), (0, 3, 30, 206),
  (0, 3, 33, 207), (0, 3, 36, 208), (0, 3, 39, 209), (0, 3, 43, 210), (0, 3, 46, 211), (0, 6, 98, 211), (0, 3, 50, 212), (0, 6, 213, 212), (0, 1, 36, 213), (0, 3, 53, 213), (0, 6, 199, 213), (0, 3, 56, 214), (0, 6, 216, 214), (0, 3, 59, 215),
  (0, 6, 219, 215), (34, 4, 12, 300), (0, 6, 80, 300), (0, 0, 221, 300), (0, 4, 18, 301), (0, 4, 22, 302), (0, 4, 26, 303), (0, 4, 29, 304), (0, 4, 32, 305), (0, 4, 35, 306), (0, 4, 38, 307), (0, 4, 41, 308), (0, 4, 61, 309), (0, 7, 67, 310),
  (0, 4, 51, 310), (0, 6, 210, 310), (37, 6, 12, 500), (0, 0, 148, 500), (0, 6, 21, 501), (0, 0, 275, 501), (0, 6, 28, 502), (0, 6, 32, 503), (1, 6, 43, 505), (0, 6, 47, 506), (0, 6, 50, 507), (0, 6, 54, 508), (0, 6, 57, 509), (0, 6, 60, 510),
  (0, 6, 68, 511), (0, 0, 197, 511), (25, 0, 10, 900), (1, 0, 19, 902), (0, 0, 25, 903), (0, 0, 32, 904), (0, 0, 39, 905)]
/-- method links: own class, entry, method, 0 virtual 1 static 2 static of a nest mate -/
def mlT : List (Nat × Nat × Nat × Nat × Nat) := [(390, 8, 60, 902, 0), (3, 0, 66, 402, 0), (3, 5, 18, 1100, 1), (5, 0, 70, 403, 0), (3, 5, 24, 1104, 1), (2, 0, 63, 934, 0), (3, 0, 297, 101, 0), (3, 2, 24, 937, 2), (2, 2, 28, 938, 2), (2, 2, 35, 1103, 1), (2, 0, 120, 501, 0), (3, 8, 49, 905, 0), (3, 8, 67, 910, 0), (3, 0, 50, 935, 1),
  (69, 0, 142, 401, 0), (3, 8, 24, 911, 0), (3, 0, 145, 502, 0), (3, 6, 64, 507, 0), (3, 6, 111, 1104, 1), (0, 6, 117, 508, 0), (3, 6, 134, 401, 0), (1, 6, 120, 509, 0), (3, 6, 141, 1101, 1), (5, 6, 124, 510, 0), (3, 6, 147, 945, 2), (2, 6, 72, 503, 0), (3, 6, 128, 511, 0), (3, 6, 151, 303, 0),
  (3, 6, 131, 512, 0), (3, 6, 76, 304, 0), (3, 4, 48, 305, 0), (3, 4, 80, 938, 2), (1, 4, 86, 306, 0), (3, 4, 55, 1104, 1), (0, 4, 64, 937, 2), (0, 4, 68, 308, 0), (3, 4, 90, 309, 0), (3, 4, 44, 945, 2), (0, 4, 72, 310, 0), (3, 4, 94, 944, 2), (2, 0, 300, 1101, 1), (0, 4, 98, 311, 0),
  (3, 4, 105, 301, 0), (3, 4, 102, 313, 0), (3, 4, 76, 201, 0), (3, 3, 62, 202, 0), (3, 3, 74, 302, 0), (4, 3, 66, 944, 2), (0, 3, 70, 203, 0), (3, 3, 82, 301, 0), (0, 3, 86, 205, 0), (3, 3, 94, 939, 2), (2, 3, 98, 940, 2), (2, 3, 118, 206, 0), (3, 3, 90, 204, 0), (4, 3, 114, 942, 2),
  (2, 3, 105, 938, 2), (0, 3, 101, 207, 1), (2, 3, 109, 311, 0), (0, 6, 84, 1, 0), (3, 1, 48, 1104, 1), (0, 1, 54, 212, 0), (3, 3, 121, 937, 2), (0, 1, 58, 938, 2), (0, 1, 62, 213, 0), (3, 1, 65, 943, 2), (2, 1, 68, 214, 0), (3, 1, 71, 215, 0), (3, 1, 74, 2, 0), (3, 1, 85, 4, 0),
  (3, 1, 77, 937, 2), (0, 1, 86, 5, 0), (3, 1, 81, 3, 0), (3, 6, 87, 701, 0), (3, 7, 46, 503, 0), (0, 7, 52, 702, 0), (3, 7, 72, 312, 0), (3, 7, 76, 938, 2), (0, 7, 56, 937, 2), (0, 7, 60, 703, 0), (3, 7, 80, 313, 0), (0, 7, 83, 314, 0), (3, 4, 109, 312, 0), (0, 7, 64, 704, 0),
  (3, 7, 86, 1104, 1), (0, 7, 92, 1102, 1), (2, 6, 91, 516, 0), (3, 6, 155, 937, 2), (0, 6, 162, 517, 0), (3, 6, 165, 942, 2), (0, 6, 168, 941, 2), (2, 6, 171, 9, 0), (3, 1, 87, 8, 0), (3, 8, 77, 912, 0), (20, 0, 160, 519, 0), (3, 6, 175, 4, 0), (0, 6, 178, 5, 0), (0, 6, 181, 6, 0),
  (3, 6, 184, 7, 0), (3, 6, 187, 211, 0), (3, 6, 190, 520, 0), (3, 6, 193, 521, 0), (3, 6, 196, 522, 0), (3, 6, 202, 214, 0), (0, 6, 203, 215, 0), (0, 6, 204, 212, 0), (0, 6, 205, 213, 0), (0, 6, 206, 8, 0), (0, 8, 43, 913, 0), (3, 0, 164, 413, 0), (3, 5, 63, 414, 0), (3, 5, 38, 401, 0),
  (0, 8, 46, 914, 0), (3, 8, 80, 915, 0), (5, 0, 174, 10, 0), (3, 1, 91, 11, 0), (3, 1, 94, 7, 0), (0, 1, 95, 6, 0), (0, 8, 34, 916, 0), (3, 0, 177, 409, 0), (3, 5, 42, 404, 0), (3, 5, 30, 937, 2), (0, 5, 46, 410, 0), (3, 5, 56, 411, 0), (3, 5, 60, 412, 0), (3, 5, 50, 407, 0),
  (3, 5, 53, 408, 0), (3, 8, 71, 917, 0), (4, 0, 183, 415, 0), (3, 5, 66, 416, 1), (2, 5, 70, 1102, 1), (0, 5, 75, 1103, 1), (0, 8, 56, 918, 0), (3, 0, 186, 518, 0), (3, 8, 52, 919, 0), (4, 0, 191, 514, 0), (3, 8, 31, 920, 0), (3, 0, 194, 515, 0), (3, 6, 159, 514, 0), (0, 8, 28, 921, 0),
  (3, 8, 83, 922, 0), (3, 0, 200, 504, 0), (5, 0, 207, 524, 0), (3, 6, 222, 525, 0), (3, 6, 225, 523, 0), (3, 8, 86, 923, 0), (3, 0, 210, 505, 0), (3, 6, 94, 504, 0), (2, 0, 217, 503, 0), (0, 0, 227, 208, 0), (3, 8, 90, 924, 0), (3, 0, 232, 506, 0), (3, 6, 103, 505, 0), (0, 6, 107, 209, 0),
  (5, 0, 240, 210, 0), (3, 0, 243, 216, 0), (3, 3, 125, 212, 0), (0, 3, 128, 213, 0), (0, 3, 131, 214, 0), (0, 3, 134, 215, 0), (0, 0, 246, 217, 0), (3, 8, 40, 927, 0), (3, 0, 265, 527, 0), (3, 6, 229, 526, 0), (3, 8, 37, 929, 0), (3, 8, 74, 933, 0), (4, 8, 63, 1225, 1), (2, 8, 13, 1224, 1),
  (2, 8, 7, 1223, 1), (2, 8, 17, 901, 0), (5, 0, 59, 405, 0), (3, 5, 34, 406, 1), (2, 8, 94, 1105, 1)]
def imT : List (Nat × Nat) := [(391, 902), (3, 402), (9, 403), (7, 934), (2, 101), (12, 501), (3, 905), (3, 910), (73, 401), (3, 911), (3, 502), (4, 507), (4, 508), (5, 509),
  (9, 510), (5, 503), (4, 511), (2, 303), (4, 512), (2, 304), (4, 305), (5, 306), (5, 308), (3, 309), (4, 310), (6, 311), (3, 301), (3, 313),
  (3, 201), (4, 202), (2, 302), (6, 203), (4, 205), (9, 206), (3, 204), (11, 1), (4, 212), (5, 213), (6, 214), (3, 215), (4, 2), (2, 4),
  (4, 5), (4, 3), (2, 701), (5, 702), (2, 312), (6, 703), (3, 314), (5, 704), (7, 516), (4, 517), (6, 9), (3, 8), (3, 912), (20, 519),
  (5, 6), (3, 7), (3, 211), (4, 520), (3, 521), (3, 522), (7, 913), (3, 413), (4, 414), (3, 914), (3, 915), (5, 10), (4, 11), (4, 916),
  (3, 409), (3, 404), (5, 410), (3, 411), (3, 412), (2, 407), (3, 408), (3, 917), (4, 415), (8, 918), (3, 518), (3, 919), (4, 514), (3, 920),
  (3, 515), (4, 921), (3, 922), (3, 504), (5, 524), (4, 525), (2, 523), (3, 923), (3, 505), (7, 208), (3, 924), (3, 506), (4, 209), (5, 210),
  (3, 216), (7, 217), (3, 927), (3, 527), (4, 526), (2, 929), (3, 933), (13, 901), (5, 405)]
def stT : List (Nat × Nat) := [(399, 1100), (9, 1104), (10, 937), (2, 938), (2, 1103), (14, 935), (96, 1101), (9, 945), (47, 944), (38, 939), (2, 940), (11, 942), (3, 207), (18, 943),
  (57, 1102), (12, 941), (141, 416), (124, 1225), (2, 1224), (2, 1223), (12, 406), (2, 1105)]
def seT : List (Nat × Nat) := [(0, 934), (1, 507), (0, 508), (0, 509), (0, 510), (0, 511), (0, 512), (0, 305), (0, 306), (0, 308), (0, 309), (0, 310), (0, 202), (0, 203),
  (0, 205), (0, 206), (0, 204), (0, 2), (0, 3), (0, 702), (0, 703), (0, 704), (0, 516), (0, 517), (0, 520), (0, 521), (0, 522), (0, 414),
  (0, 11), (0, 410), (0, 411), (0, 412), (0, 525), (0, 526), (357, 902), (3, 402), (9, 403), (10, 101), (12, 501), (3, 905), (3, 910), (73, 401),
  (3, 911), (3, 502), (31, 503), (7, 303), (7, 304), (32, 311), (3, 301), (3, 313), (3, 201), (7, 302), (37, 1), (4, 212), (5, 213), (6, 214),
  (3, 215), (7, 4), (4, 5), (7, 701), (8, 312), (10, 314), (25, 9), (3, 8), (3, 912), (20, 519), (5, 6), (3, 7), (3, 211), (20, 913),
  (3, 413), (8, 914), (3, 915), (5, 10), (9, 916), (3, 409), (3, 404), (16, 407), (3, 408), (3, 917), (4, 415), (8, 918), (3, 518), (3, 919),
  (4, 514), (3, 920), (3, 515), (4, 921), (3, 922), (3, 504), (5, 524), (7, 523), (3, 923), (3, 505), (7, 208), (3, 924), (3, 506), (4, 209),
  (5, 210), (3, 216), (7, 217), (3, 927), (3, 527), (7, 929), (3, 933), (13, 901), (5, 405)]
def cdT0 : List (Nat × Nat) := [(393, 902), (3, 402), (2, 1100), (6, 403), (2, 1104), (3, 934), (3, 101), (2, 937), (2, 938), (2, 1103), (3, 501), (3, 905), (3, 910), (2, 935),
  (70, 401), (3, 911), (3, 502), (3, 507), (4, 508), (5, 509)]
def cdT1 : List (Nat × Nat) := [(539, 1101), (6, 510), (2, 945), (3, 503), (3, 511), (3, 303), (3, 512), (3, 304), (3, 305), (5, 306), (5, 308), (3, 309), (4, 310), (2, 944),
  (4, 311), (3, 301), (3, 313), (3, 201), (3, 202), (3, 302)]
def cdT2 : List (Nat × Nat) := [(628, 203), (4, 205), (2, 939), (2, 940), (3, 206), (3, 204), (3, 942), (3, 207), (4, 1), (4, 212), (5, 213), (2, 943), (3, 214), (3, 215),
  (3, 2), (3, 4), (4, 5), (3, 3), (3, 701), (4, 702)]
def cdT3 : List (Nat × Nat) := [(712, 312), (5, 703), (4, 314), (4, 704), (3, 1102), (3, 516), (4, 517), (3, 941), (3, 9), (3, 8), (3, 912), (20, 519), (5, 6), (3, 7),
  (3, 211), (3, 520), (3, 521), (3, 522), (8, 913), (3, 413)]
def cdT4 : List (Nat × Nat) := [(821, 414), (4, 914), (3, 915), (5, 10), (3, 11), (5, 916), (3, 409), (3, 404), (4, 410), (3, 411), (3, 412), (3, 407), (3, 408), (3, 917),
  (4, 415), (2, 416), (5, 918), (3, 518), (3, 919), (4, 514)]
def cdT5 : List (Nat × Nat) := [(910, 920), (3, 515), (4, 921), (3, 922), (3, 504), (5, 524), (3, 525), (3, 523), (3, 923), (3, 505), (7, 208), (3, 924), (3, 506), (4, 209),
  (5, 210), (3, 216), (7, 217), (3, 927), (3, 527), (3, 526)]
def cdT6 : List (Nat × Nat) := [(1004, 929), (3, 933), (3, 1225), (2, 1224), (2, 1223), (3, 901), (5, 405), (2, 406), (2, 1105)]
def cdT : List (Nat × Nat) := cdT0 ++ (cdT1 ++ (cdT2 ++ (cdT3 ++ (cdT4 ++ (cdT5 ++ (cdT6))))))
def inT : List (Nat × Nat) := [(35, 1223), (0, 901), (0, 401), (0, 101), (1, 501), (0, 1), (0, 701), (0, 301), (0, 201), (1, 1104), (0, 1101), (0, 1102), (5, 1100)]
def lyT : List (Nat × Nat × Nat) := [(72, 4, 0), (1, 4, 1), (15, 1, 0), (1, 1, 1), (1, 1, 2), (1, 1, 3), (13, 6, 0), (1, 6, 1), (1, 6, 2), (1, 6, 3), (1, 6, 4), (1, 6, 5), (26, 0, 0), (1, 0, 1),
  (1, 0, 2), (1, 0, 3), (1, 0, 4), (1, 0, 5), (1, 0, 6), (1, 0, 7), (1, 0, 8), (1, 0, 9), (20, 7, 0), (1, 7, 1), (1, 7, 2), (1, 7, 3), (1, 7, 4), (1, 7, 5),
  (1, 7, 6), (1, 7, 7), (1, 7, 8), (1, 7, 9), (1, 7, 10), (36, 2, 0), (1, 2, 1), (1, 2, 2), (1, 2, 3), (1, 2, 4), (1, 2, 5), (1, 2, 6), (1, 2, 7), (1, 2, 8),
  (1, 2, 9), (1, 2, 10), (1, 2, 11), (1, 2, 12), (1, 2, 13), (1, 2, 14), (1, 2, 15), (18, 3, 0), (1, 3, 1), (1, 3, 2), (1, 3, 3), (1, 3, 4), (1, 3, 5), (1, 3, 6),
  (1, 3, 7), (1, 3, 8), (1, 3, 9), (1, 3, 10), (11, 8, 0), (1, 8, 1), (17, 5, 0), (1, 5, 1), (1, 5, 2), (1, 5, 3), (1, 5, 4), (1, 5, 5), (1, 5, 6), (1, 5, 7),
  (1, 5, 8), (1, 5, 9), (1, 5, 10), (1, 5, 11), (8, 9, 0), (1, 9, 1), (1, 9, 2), (1, 9, 3), (1, 9, 4), (1, 9, 5), (1, 9, 6)]
def kcT : List (Nat × Nat × Nat × Nat × Int) := [(401, 9, 265, 0, 1431655765), (0, 9, 266, 0, 858993459), (0, 9, 267, 0, 252645135), (128, 6, 139, 1, 15), (7, 10, 314, 1, 6148914691236517205), (0, 10, 316, 1, 3689348814741910323), (0, 10, 318, 1, 1085102592571150095), (32, 4, 84, 1, (-1)), (47, 3, 80, 1, 562949953421311), (24, 3, 112, 1, (-1))]
def ownS (o : Nat) : String := (nthL ownT o).getD ""
def walkL {α : Type} (f : α → Cond) (sk : α → Nat) : List Cond → List α → Bool
  | _, [] => true
  | l, a :: r => match l.drop (sk a) with
    | w :: l' => decide (w = f a) && walkL f sk l' r
    | [] => false
theorem walkL_in {α : Type} {f : α → Cond} {sk : α → Nat} : ∀ {r : List α} {l : List Cond}, walkL f sk l r = true → ∀ a ∈ r, f a ∈ l
  | [], _, _, a, h => by cases h
  | b :: r, l, hw, a, h => by
    unfold walkL at hw
    split at hw
    · next w l' e =>
      rw [Bool.and_eq_true, decide_eq_true_eq] at hw
      rcases List.mem_cons.mp h with rfl | h
      · have : w ∈ l.drop (sk a) := by rw [e]; exact List.mem_cons_self
        rw [← hw.1]
        exact List.mem_of_mem_drop this
      · have h2 := walkL_in hw.2 a h
        have : f a ∈ l.drop (sk b) := by rw [e]; exact List.mem_cons_of_mem _ h2
        exact List.mem_of_mem_drop this
    · cases hw
theorem good_in {α : Type} {f : α → Cond} {sk : α → Nat} {r : List α} (h : walkL f sk lw_tbl r = true) (hg : ∀ a, goodWord (f a) = true) {a : α} (ha : a ∈ r) : f a ∈ lw_good := List.mem_filter.mpr ⟨walkL_in h a ha, hg a⟩
def flW (q : Nat × Nat × Nat × Nat) : Cond := .fieldLink (ownS q.2.1) q.2.2.1 (TT (q.2.2.2 / 100) (q.2.2.2 % 100)).1 (TT (q.2.2.2 / 100) (q.2.2.2 % 100)).2.1 (TT (q.2.2.2 / 100) (q.2.2.2 % 100)).2.2.1
set_option maxRecDepth 1000000 in
theorem flT_b : walkL flW (fun q => q.1) lw_tbl flT = true := by decide +kernel
theorem flT_r : (flT.all fun q => Nat.blt (q.2.2.2 / 100) 10 && Nat.blt (q.2.2.2 % 100) (nF (q.2.2.2 / 100))) = true := by decide +kernel
def mlW (q : Nat × Nat × Nat × Nat × Nat) : Cond := match q.2.2.2.2 with
  | 2 => .methodLinkNest (ownS q.2.1) q.2.2.1 (yM q.2.2.2.1) "RectilinearRoof"
  | _ => .methodLink (ownS q.2.1) q.2.2.1 (yM q.2.2.2.1)
set_option maxRecDepth 1000000 in
theorem mlT_b : walkL mlW (fun q => q.1) lw_tbl mlT = true := by decide +kernel
set_option maxRecDepth 1000000 in
theorem imT_b : walkL (fun q => .instanceMethod (yM q.2)) (fun q => q.1) lw_tbl imT = true := by decide +kernel
set_option maxRecDepth 1000000 in
theorem stT_b : walkL (fun q => .static (yM q.2)) (fun q => q.1) lw_tbl stT = true := by decide +kernel
set_option maxRecDepth 1000000 in
theorem seT_b : walkL (fun q => .selects (yM q.2).cls (yM q.2) (yM q.2)) (fun q => q.1) lw_tbl seT = true := by decide +kernel
set_option maxRecDepth 1000000 in
theorem inT_b : walkL (fun q => .initialized (yM q.2).cls) (fun q => q.1) lw_tbl inT = true := by decide +kernel
def eqB : List UInt8 → List UInt8 → Bool
  | [], [] => true
  | a :: l, b :: r => Nat.beq a.toNat b.toNat && eqB l r
  | _, _ => false
theorem eqB_eq : ∀ {l r : List UInt8}, eqB l r = true → l = r
  | [], [], _ => rfl
  | [], _ :: _, h => by cases h
  | _ :: _, [], h => by cases h
  | a :: l, b :: r, h => by
    unfold eqB at h
    rw [Bool.and_eq_true] at h
    rw [eqB_eq h.2, UInt8.toNat_inj.mp (Nat.eq_of_beq_eq_true h.1)]
theorem eqB_ba {a b : ByteArray} (h : eqB a.data.toList b.data.toList = true) : a = b := by
  have := eqB_eq h
  cases a
  cases b
  congr
  exact Array.toList_inj.mp this
def cdW (mi : Nat) (w : Cond) : Bool := match w with
  | .code n b l r => decide (n = yM mi) && eqB b.data.toList (cM mi).data.toList && Nat.beq l (lM mi) && decide (r = rM mi)
  | _ => false
theorem cdW_eq {mi : Nat} {w : Cond} (h : cdW mi w = true) : w = .code (yM mi) (cM mi) (lM mi) (rM mi) := by
  unfold cdW at h
  split at h
  · rw [Bool.and_eq_true, Bool.and_eq_true, Bool.and_eq_true, decide_eq_true_eq, decide_eq_true_eq] at h
    rw [h.1.1.1, eqB_ba h.1.1.2, Nat.eq_of_beq_eq_true h.1.2, h.2]
  · cases h
def walkC : List Cond → List (Nat × Nat) → Bool
  | _, [] => true
  | l, a :: r => match l.drop a.1 with
    | w :: l' => cdW a.2 w && walkC l' r
    | [] => false
theorem walkC_in : ∀ {r : List (Nat × Nat)} {l : List Cond}, walkC l r = true → ∀ a ∈ r, Cond.code (yM a.2) (cM a.2) (lM a.2) (rM a.2) ∈ l
  | [], _, _, a, h => by cases h
  | b :: r, l, hw, a, h => by
    unfold walkC at hw
    split at hw
    · next w l' e =>
      rw [Bool.and_eq_true] at hw
      rcases List.mem_cons.mp h with rfl | h
      · have : w ∈ l.drop (a.1) := by rw [e]; exact List.mem_cons_self
        rw [← cdW_eq hw.1]
        exact List.mem_of_mem_drop this
      · have h2 := walkC_in hw.2 a h
        have : Cond.code (yM a.2) (cM a.2) (lM a.2) (rM a.2) ∈ l.drop (b.1) := by rw [e]; exact List.mem_cons_of_mem _ h2
        exact List.mem_of_mem_drop this
    · cases hw
set_option maxRecDepth 1000000 in
theorem cdT_b0 : walkC lw_tbl cdT0 = true := by decide +kernel
set_option maxRecDepth 1000000 in
theorem cdT_b1 : walkC lw_tbl cdT1 = true := by decide +kernel
set_option maxRecDepth 1000000 in
theorem cdT_b2 : walkC lw_tbl cdT2 = true := by decide +kernel
set_option maxRecDepth 1000000 in
theorem cdT_b3 : walkC lw_tbl cdT3 = true := by decide +kernel
set_option maxRecDepth 1000000 in
theorem cdT_b4 : walkC lw_tbl cdT4 = true := by decide +kernel
set_option maxRecDepth 1000000 in
theorem cdT_b5 : walkC lw_tbl cdT5 = true := by decide +kernel
set_option maxRecDepth 1000000 in
theorem cdT_b6 : walkC lw_tbl cdT6 = true := by decide +kernel
theorem cdT_in {a : Nat × Nat} (h : a ∈ cdT) : Cond.code (yM a.2) (cM a.2) (lM a.2) (rM a.2) ∈ lw_tbl := by
  unfold cdT at h
  simp only [List.mem_append] at h
  rcases h with h | h | h | h | h | h | h
  · exact walkC_in cdT_b0 a h
  · exact walkC_in cdT_b1 a h
  · exact walkC_in cdT_b2 a h
  · exact walkC_in cdT_b3 a h
  · exact walkC_in cdT_b4 a h
  · exact walkC_in cdT_b5 a h
  · exact walkC_in cdT_b6 a h
def kcW (q : Nat × Nat × Nat × Nat × Int) : Cond := match q.2.2.2.1 with
  | 0 => .constant (ownS q.2.1) q.2.2.1 (Int32.ofInt q.2.2.2.2)
  | _ => .constantLong (ownS q.2.1) q.2.2.1 (Int64.ofInt q.2.2.2.2)
set_option maxRecDepth 1000000 in
theorem kcT_b : walkL kcW (fun q => q.1) lw_tbl kcT = true := by decide +kernel
theorem kcT_r : (kcT.all fun q => Nat.beq q.2.2.2.1 1 || (decide (-2147483648 ≤ q.2.2.2.2) && decide (q.2.2.2.2 ≤ 2147483647))) = true := by decide +kernel
set_option maxRecDepth 1000000 in
theorem lyT_b : walkL (fun q => u_lay (RR' q.2.1) (TT q.2.1) q.2.2) (fun q => q.1) lw_tbl lyT = true := by decide +kernel
theorem lyT_c : ((List.range 10).all fun ci => (List.range (nF ci)).all fun k => lyT.any fun q => Nat.beq q.2.1 ci && Nat.beq q.2.2 k) = true := by decide +kernel
/-- how long an instruction is; 0: its own -/
def lenI : Jvm.ClassFile.Instr → Nat
  | .iload _ => 2 | .lload _ => 2 | .aload _ => 2 | .istore _ => 2 | .lstore _ => 2 | .astore _ => 2 | .bipush _ => 2 | .ldc _ => 2
  | .sipush _ => 3 | .ldc_w _ => 3 | .ldc2_w _ => 3 | .iinc _ _ => 3 | .goto _ => 3 | .ifCond _ _ => 3 | .if_icmp _ _ => 3 | .ifnull _ => 3
  | .getfield _ => 3 | .putfield _ => 3 | .invokevirtual _ => 3 | .invokestatic _ => 3 | .new _ => 3 | .invokespecial _ => 3 | .newarray _ => 2
  | .tableswitch _ _ _ _ => 0 | .lookupswitch _ _ => 0
  | _ => 1
def okB (own : String) (pc : Nat) (ai : AI) : Bool := match ai.1 with
  | .getfield idx => flT.any fun q => Nat.beq q.2.2.1 idx && Nat.beq q.2.2.2 ai.2.2.1 && decide (ownS q.2.1 = own)
  | .putfield idx => (flT.any fun q => Nat.beq q.2.2.1 idx && Nat.beq q.2.2.2 ai.2.2.1 && decide (ownS q.2.1 = own)) && !(TT (ai.2.2.1 / 100) (ai.2.2.1 % 100)).2.2.2
  | .invokevirtual idx => mlT.any fun q => Nat.beq q.2.2.1 idx && Nat.beq q.2.2.2.1 ai.2.2.1 && Nat.beq q.2.2.2.2 0 && decide (ownS q.2.1 = own)
  | .invokestatic idx => mlT.any fun q => Nat.beq q.2.2.1 idx && Nat.beq q.2.2.2.1 ai.2.2.1 && !(Nat.beq q.2.2.2.2 0) && decide (ownS q.2.1 = own)
  | .ldc idx => kcT.any fun q => Nat.beq q.2.2.1 idx && Nat.beq q.2.2.2.1 0 && decide (q.2.2.2.2 = ai.2.2.2) && decide (ownS q.2.1 = own)
  | .ldc_w idx => kcT.any fun q => Nat.beq q.2.2.1 idx && Nat.beq q.2.2.2.1 0 && decide (q.2.2.2.2 = ai.2.2.2) && decide (ownS q.2.1 = own)
  | .ldc2_w idx => kcT.any fun q => Nat.beq q.2.2.1 idx && Nat.beq q.2.2.2.1 1 && decide (q.2.2.2.2 = ai.2.2.2) && decide (ownS q.2.1 = own)
  | .goto off => decide ((pc : Int) + off = (ai.2.2.1 : Int))
  | .ifCond _ off => decide ((pc : Int) + off = (ai.2.2.1 : Int))
  | .if_icmp _ off => decide ((pc : Int) + off = (ai.2.2.1 : Int))
  | .tableswitch d lo hi offs => decide (0 ≤ (pc : Int) + d) && offs.toList.all (fun o => decide (0 ≤ (pc : Int) + o)) && decide ((offs.toList.length : Int) = hi - lo + 1)
  | .lookupswitch d ps => decide (0 ≤ (pc : Int) + d) && ps.toList.all (fun o => decide (0 ≤ (pc : Int) + o.2))
  | .iconst n => decide (-1 ≤ n) && decide (n ≤ 5)
  | .bipush n => decide ((Int8.ofInt n).toInt32 = Int32.ofInt n) && decide (-128 ≤ n) && decide (n ≤ 127)
  | .sipush n => decide ((Int16.ofInt n).toInt32 = Int32.ofInt n) && decide (-32768 ≤ n) && decide (n ≤ 32767)
  | _ => true
/-- the words of a method that is called: 0 virtual -/
def caB (mj : Nat) : Bool := (inT.any fun q => decide ((yM q.2).cls = (yM mj).cls)) && (bif Nat.beq (kdM mj) 2 then true else cdT.any fun q => Nat.beq q.2 mj)
def caV (mj : Nat) : Bool := (imT.any fun q => Nat.beq q.2 mj) && seT.any fun q => Nat.beq q.2 mj
def caS (mj : Nat) : Bool := stT.any fun q => Nat.beq q.2 mj
theorem mlT_c : (mlT.all fun q => caB q.2.2.2.1 && bif Nat.beq q.2.2.2.2 0 then caV q.2.2.2.1 else caS q.2.2.2.1) = true := by decide +kernel
def rkB (mi : Nat) : Bool := match rkM mi with
  | 0 => decide (rM mi = none)
  | 1 => decide (rM mi = some .int)
  | 2 => decide (rM mi = some .boolean)
  | 3 => decide (rM mi = some .long)
  | _ => decide (rM mi = some (.object "RectilinearRoof$Phase"))
def meB (mi : Nat) : Bool := (cod mi).flatten.all (fun q => decide (decode (cM mi) q.1 = .ok (q.2.1, q.2.2.1)) && (Nat.beq (lenI q.2.1) 0 || Nat.beq (lenI q.2.1) q.2.2.1) && okB (yM mi).cls q.1 q.2)
def miB (mi : Nat) : Bool := plainName (yM mi).cls && decide ((yM mi).cls ≠ "java/lang/invoke/MethodHandle") && decide ((yM mi).cls ≠ "java/lang/invoke/VarHandle") && rkB mi && Nat.ble (lM mi) 25
  && decide ((parseMethodDescriptor (yM mi).desc).map (fun d => d.parameters.length + (bif caV mi then 1 else 0)) = some (naM mi))
def miL : List Nat := [1, 2, 3, 4, 5, 6, 7, 8, 9, 10, 11, 101, 201, 202, 203, 204, 205, 206, 207, 208, 209, 210, 211, 212, 213, 214, 215, 216, 217, 301, 302, 303, 304, 305, 306, 308, 309, 310, 311, 312, 313, 314, 401, 402, 403, 404, 405, 406, 407, 408, 409, 410, 411, 412, 413, 414, 415, 416, 501, 502, 503, 504, 505, 506, 507, 508, 509, 510, 511, 512, 514, 515, 516, 517, 518, 519, 520, 521, 522, 523, 524, 525, 526, 527, 701, 702, 703, 704, 901, 902, 905, 910, 911, 912, 913, 914, 915, 916, 917, 918, 919, 920, 921, 922, 923, 924, 927, 929, 933, 934, 935, 937, 938, 939, 940, 941, 942, 943, 944, 945, 1100, 1101, 1104, 1223, 1224, 1225]
set_option maxRecDepth 1000000 in
theorem miL_b : miL.all miB = true := by decide +kernel

/-! methods that throw, and those that catch -/
def exN (X : Nat) : String := match X with
  | 1 => "java/lang/IllegalArgumentException"
  | 2 => "java/lang/IllegalStateException"
  | _ => "java/lang/IndexOutOfBoundsException"
def exS : List String := ["java/lang/RuntimeException", "java/lang/Exception"]
/-- an exception's class and its constructor in the class's pool -/
def exK (X : Nat) : Nat := match X with
  | 1 => 43
  | 2 => 87
  | _ => 54
def exC (X : Nat) : Nat := match X with
  | 1 => 47
  | 2 => 91
  | _ => 58
/-- where it is thrown: method, place, text, wide, which, the text -/
def thT : List (Nat × Nat × Nat × Nat × Nat × String) := [(901, 9, 45, 0, 1, "no such operation"), (901, 57, 56, 0, 3, "not a rectangle of the grid"), (903, 7, 77, 0, 1, "not a character of a text"), (903, 34, 89, 0, 2, "the buffer is full"), (904, 10, 100, 0, 1, "an error in the text"), (906, 11, 115, 0, 2, "no change to undo"), (907, 11, 126, 0, 2, "no change to redo"), (909, 7, 138, 0, 2, "no region was saved"), (910, 8, 140, 0, 3, "no such cell"), (912, 29, 156, 0, 3, "no such edge"), (912, 49, 158, 0, 1, "no such property of an edge"), (915, 29, 170, 0, 3, "no such group"), (915, 48, 172, 0, 1, "no such property of a group"), (917, 20, 181, 0, 3, "not a point of the grid"), (918, 8, 140, 0, 3, "no such cell"), (919, 10, 189, 0, 1, "distance out of range"), (922, 22, 203, 0, 3, "no such phase"), (922, 42, 205, 0, 1, "no such property of a phase"), (923, 23, 213, 0, 3, "no such phase or contour"), (923, 42, 215, 0, 1, "no such property of a contour"), (924, 24, 236, 0, 3, "no such phase, contour or vertex"), (924, 45, 238, 0, 1, "no such axis"), (925, 24, 249, 0, 3, "no such phase, contour or side"), (925, 45, 251, 0, 1, "no such property of an origin"), (926, 30, 257, 1, 3, "no such phase or cell"), (928, 26, 268, 1, 3, "no such event"), (928, 47, 270, 1, 1, "no such property of an event"), (930, 29, 282, 1, 3, "no such branch"), (930, 49, 284, 1, 1, "no such property of a branch"), (931, 17, 140, 0, 3, "no such cell"), (932, 40, 257, 1, 3, "no such phase or cell"), (933, 64, 295, 1, 1, "no such count")]
/-- the tables of those that catch -/
def hhT : List (List (Nat × Nat × Nat × Nat)) := [[(0, 16, 19, 13), (0, 16, 23, 15)], [(0, 9, 12, 13), (0, 9, 15, 21)], [(0, 8, 11, 13)], [(0, 8, 11, 21)], [(0, 8, 11, 21)], [(0, 8, 11, 21)], [(0, 17, 20, 15)], [(0, 10, 13, 15), (0, 10, 17, 13)], [(0, 10, 13, 15), (0, 10, 17, 13)], [(0, 10, 13, 15)], [(0, 10, 13, 15)], [(0, 9, 12, 13)], [(0, 10, 13, 15), (0, 10, 17, 13)], [(0, 12, 15, 15), (0, 12, 19, 13)], [(0, 14, 17, 15), (0, 14, 21, 13)], [(0, 14, 17, 15), (0, 14, 21, 13)], [(0, 12, 15, 15)], [(0, 10, 13, 15), (0, 10, 17, 13)], [(0, 10, 13, 15), (0, 10, 17, 13)], [(0, 14, 17, 15)], [(0, 16, 19, 15)], [(0, 9, 12, 13)]]
def hhM (mi : Nat) : List (Nat × Nat × Nat × Nat) := (nthL hhT (mi - 1200)).getD []
def rn : String := "RectilinearRoof"
def inTb (w : Cond) : Bool := lw_tbl.any fun z => decide (z = w)
def inG (w : Cond) : Bool := lw_good.any fun z => decide (z = w)
theorem inTb_m {w : Cond} (h : inTb w = true) : w ∈ lw_tbl := by
  obtain ⟨z, hz, e⟩ := List.any_eq_true.mp h
  rw [← of_decide_eq_true e]; exact hz
theorem inG_m {w : Cond} (h : inG w = true) : w ∈ lw_good := by
  obtain ⟨z, hz, e⟩ := List.any_eq_true.mp h
  rw [← of_decide_eq_true e]; exact hz
set_option maxRecDepth 1000000 in
theorem thr_b : (miL.all fun mi => bif Nat.beq (kdM mi) 1 then decide ((yM mi).cls = rn) && (cod mi).flatten.all (fun q => match q.2.1 with
  | .new idx => thT.any (fun r => Nat.beq r.1 mi && Nat.beq r.2.1 q.1 && Nat.beq r.2.2.2.2.1 q.2.2.2.1 && Nat.beq (exK r.2.2.2.2.1) idx)
  | _ => true) else true) = true := by decide +kernel
set_option maxRecDepth 1000000 in
theorem thd_b : (thT.all fun r => decide (decode (cM r.1) (r.2.1 + 3) = .ok (.dup, 1)) && (bif Nat.beq r.2.2.2.1 0 then decide (decode (cM r.1) (r.2.1 + 4) = .ok (.ldc r.2.2.1, 2)) && decide (decode (cM r.1) (r.2.1 + 6) = .ok (.invokespecial (exC r.2.2.2.2.1), 3)) && decide (decode (cM r.1) (r.2.1 + 9) = .ok (.athrow, 1))
  else decide (decode (cM r.1) (r.2.1 + 4) = .ok (.ldc_w r.2.2.1, 3)) && decide (decode (cM r.1) (r.2.1 + 7) = .ok (.invokespecial (exC r.2.2.2.2.1), 3)) && decide (decode (cM r.1) (r.2.1 + 10) = .ok (.athrow, 1)))
  && (Nat.beq r.2.2.2.2.1 1 || Nat.beq r.2.2.2.2.1 2 || Nat.beq r.2.2.2.2.1 3)) = true := by decide +kernel
set_option maxRecDepth 1000000 in
theorem ths_b : (thT.all fun r => inTb (.stringRef rn r.2.2.1 r.2.2.2.2.2)) = true := by decide +kernel
def exL : List Nat := [1, 2, 3]
set_option maxRecDepth 1000000 in
theorem exk_b : (exL.all fun X => inG (.classLink rn (exK X) (exN X)) && inG (.initialized (exN X)) && inG (.methodLink rn (exC X) (Bundle.initS (exN X))) && inTb (.castable (exN X) (exN X)) && Bundle.fit (exN X)) = true := by decide +kernel
def xaT (X : String) : List Cond := [.instantiable X 6, .castable X X, .selects X Bundle.tFill0 Bundle.tFill0, .selects X Bundle.tFill Bundle.tFill,
   .lays X Bundle.tN "cause" "Ljava/lang/Throwable;", .lays X Bundle.tN "stackTrace" Bundle.steD, .lays X Bundle.tN "suppressedExceptions" Bundle.listD, .lays X Bundle.tN "detailMessage" "Ljava/lang/String;",
   .isRef (.static Bundle.tN "UNASSIGNED_STACK" Bundle.steD), .isRef (.static Bundle.tN "SUPPRESSED_SENTINEL" Bundle.listD),
   .fieldLink Bundle.tN 198 Bundle.tN "backtrace" "Ljava/lang/Object;", .lays Bundle.tN Bundle.tN "backtrace" "Ljava/lang/Object;", .lays X Bundle.tN "backtrace" "Ljava/lang/Object;"]
def xaL (X : String) : List Cond := (Bundle.throwableAtoms ++ Bundle.throwableSAtoms ++ Bundle.chainSAtoms X exS ++ xaT X).filter vx_no
set_option maxRecDepth 1000000 in
theorem ats_b : (exL.all fun X => (xaL (exN X)).all fun w => (goodWord w || wkind w) && inTb w) = true := by decide +kernel
theorem ats_or {own : String} {ic : Nat} {X : String} {w : Cond} (h : w ∈ vx_atS own ic X exS) : w = .methodLink own ic (Bundle.initS X) ∨ w ∈ xaL X := by
  obtain ⟨h1, h2⟩ := List.mem_filter.mp h
  unfold Bundle.ownAtoms at h1
  rcases List.mem_append.mp h1 with h1 | h1
  · exact Or.inr (List.mem_filter.mpr ⟨List.mem_append_left _ h1, h2⟩)
  · rcases List.mem_cons.mp h1 with h1 | h1
    · exact Or.inl h1
    · exact Or.inr (List.mem_filter.mpr ⟨List.mem_append_right _ h1, h2⟩)

section TH
variable {p : Program} {l : Launch} {e : Env} {R : Room} {s : State} {m : MethodId} {args : Array Value} {below : List Frame} {meth : Method} {c : Code} {H : Heap} {locs : List Loc} {cells slots : Nat} {Q : State → Prop}
variable {D : va_G} {cy : Cy} {ad : Nat → Nat → Nat} {A : Nat → Prop} {H0 : Heap} {mi : Nat} {S : Sc}
def QcX (D : va_G) (cy : Cy) (ad : Nat → Nat → Nat) (M : Mm) (o : Option Vv ⊕ Nat) : Array Value → State → Outcome → State → Prop := match o with
  | .inl v => QcA D cy ad M v
  | .inr _ => fun _ _ _ _ => False
def XcA (D : va_G) (cy : Cy) (ad : Nat → Nat → Nat) (M : Mm) (o : Option Vv ⊕ Nat) : String → State → State → Prop := match o with
  | .inl _ => fun _ _ _ => False
  | .inr X => fun E st t => E = exN X ∧ va_P D vwCl (wsW cy ad M) t.heap ∧ va_F (inW ad) st t
def rmX (d : Nat) : Room := { frames := d + 7, cells := 1, slots := 6, locals := 60 * (d + 2) + 100 }
theorem wd_at (hg : ∀ w ∈ lw_good, w.before args s = true) (hE : ENV A s H) {w : Cond} (h : ((goodWord w || wkind w) && inTb w) = true) : w.before args s = true ∧ vx_ot w = true := by
  rw [Bool.and_eq_true, Bool.or_eq_true] at h
  have hm := inTb_m h.2
  rcases h.1 with g | g
  · exact ⟨hg _ (List.mem_filter.mpr ⟨hm, g⟩), by unfold vx_ot; rw [g, Bool.or_true]⟩
  · exact ⟨va_Nw.use (wkind_tab g) (hE.1 _ hm g), by unfold vx_ot; rw [wkind_tab g, Bool.true_or]⟩
theorem gd_at (hg : ∀ w ∈ lw_good, w.before args s = true) {w : Cond} (h : inG w = true) : w.before args s = true ∧ vx_ot w = true :=
  ⟨hg _ (inG_m h), by unfold vx_ot; rw [(List.mem_filter.mp (inG_m h)).2, Bool.or_true]⟩
theorem ex_of {X : Nat} (hX : X ∈ exL) : inG (.classLink rn (exK X) (exN X)) = true ∧ inG (.initialized (exN X)) = true ∧ inG (.methodLink rn (exC X) (Bundle.initS (exN X))) = true ∧ inTb (.castable (exN X) (exN X)) = true ∧ Bundle.fit (exN X) = true := by
  have g := List.all_eq_true.mp exk_b X hX
  simp only [Bool.and_eq_true] at g
  exact ⟨g.1.1.1.1, g.1.1.1.2, g.1.1.2, g.1.2, g.2⟩
theorem kept_P {M : Mm} {t : State} (hP : va_P D vwCl (wsW cy ad M) H) (hq : ∀ q : Nat, q < H.size → t.heap[q]? = H[q]?) : va_P D vwCl (wsW cy ad M) t.heap := hP.kept fun k q hk => hq q.1 (vx_lt hP hk)
/-- a throw -/
theorem thrW (F : Fr p s m args c D cy mi) (hE : ENV (inW ad) s s.heap) (hmi : mi ∈ miL) (hkd : kdM mi = 1) (hlt : l.stackTraces = false) (hno : ∀ x ∈ c.exceptionTable.toList, False) (hlk : meth.locks = false) {pc len a idx : Nat} {x : Int} (h0 : (pc, .new idx, len, a, x) ∈ (cod mi).flatten) (hd : decode (cM mi) pc = .ok (.new idx, len)) (hn : lenI (.new idx) = 0 ∨ lenI (.new idx) = len)
    {M : Mm} {lsC : Array Slot} {ls : Ls} (hL : LR ad (lM mi) ls lsC) (hP : va_P D vwCl (wsW cy ad M) H) (hS : va_S (inW ad) s.heap H locs) (hR : 6 ≤ R.frames ∧ 82 ≤ R.locals ∧ 1 ≤ R.cells ∧ 6 ≤ R.slots) {Qc : Array Value → State → Outcome → State → Prop} :
    W p l e R s m args below meth c H locs 0 0 (vx_MQ below Qc (XcA D cy ad M (.inr a)) args s 1 6 (inW ad)) (F0 m pc lsC ([].map (conc ad))) := by
  have g := List.all_eq_true.mp thr_b mi hmi
  rw [hkd] at g
  have g : (decide ((yM mi).cls = rn) && (cod mi).flatten.all (fun q => match q.2.1 with
    | .new idx => thT.any (fun r => Nat.beq r.1 mi && Nat.beq r.2.1 q.1 && Nat.beq r.2.2.2.2.1 q.2.2.2.1 && Nat.beq (exK r.2.2.2.2.1) idx)
    | _ => true)) = true := g
  rw [Bool.and_eq_true, decide_eq_true_eq] at g
  have g2 := List.all_eq_true.mp g.2 _ h0
  have g2 : (thT.any (fun r => Nat.beq r.1 mi && Nat.beq r.2.1 pc && Nat.beq r.2.2.2.2.1 a && Nat.beq (exK r.2.2.2.2.1) idx)) = true := g2
  obtain ⟨r, hr, hb⟩ := List.any_eq_true.mp g2
  obtain ⟨b1, b2, b3, b4⟩ := and4 hb
  have b1 := Nat.eq_of_beq_eq_true b1
  have b2 := Nat.eq_of_beq_eq_true b2
  have b3 := Nat.eq_of_beq_eq_true b3
  have b4 := Nat.eq_of_beq_eq_true b4
  have hdd := List.all_eq_true.mp thd_b r hr
  have hst := inTb_m (List.all_eq_true.mp ths_b r hr)
  rw [b1, b2, b3] at hdd
  rw [b3] at b4
  subst b4
  obtain ⟨k1, k2, k3⟩ := and3 hdd
  have hX : a ∈ exL := by
    rw [Bool.or_eq_true, Bool.or_eq_true] at k3
    rcases k3 with (k | k) | k <;> rw [Nat.eq_of_beq_eq_true k] <;> decide
  obtain ⟨x1, x2, x3, x4, x5⟩ := ex_of hX
  have hg := F.2.2.2.2.1
  obtain ⟨sa, hsa⟩ := hE.2.1 _ _ _ hst
  have hown : s.vm.findClass rn = some m.cls := by rw [← g.1]; exact F.2.2.2.1
  have hat : ∀ w ∈ vx_atS rn (exC a) (exN a) exS, w.before args s = true ∧ vx_ot w = true := by
    intro w hw
    rcases ats_or hw with e | hw
    · rw [e]; exact gd_at hg x3
    · exact wd_at hg hE (List.all_eq_true.mp (List.all_eq_true.mp ats_b a hX) w hw)
  have hgd : ∀ w ∈ Cond.classLink rn (exK a) (exN a) :: Cond.initialized (exN a) :: vx_atS rn (exC a) (exN a) exS, vx_ot w = true := by
    intro w hw
    rcases List.mem_cons.mp hw with e | hw
    · rw [e]; exact (gd_at hg x1).2
    · rcases List.mem_cons.mp hw with e | hw
      · rw [e]; exact (gd_at hg x2).2
      · exact (hat w hw).2
  have hx : ∀ t : State, s.vm.Alike t.vm → H.size ≤ t.heap.size → (∀ q : Nat, q < H.size → t.heap[q]? = H[q]?) → XcA D cy ad M (.inr a) (exN a) s t := fun t _ h1 h2 =>
    ⟨rfl, kept_P hP h2, Nat.le_trans hS.1 h1, fun q hq hA => by rw [h2 q (Nat.lt_of_lt_of_le hq hS.1)]; exact hS.2.1 q hq hA⟩
  have d0 := lnn_of hd hn (n := 3) rfl (by decide)
  have hsz : lsC.size = c.maxLocals := by rw [hL.2.1, F.2.2.1]
  cases hw : Nat.beq r.2.2.2.1 0 with
  | true =>
    rw [hw] at k2
    obtain ⟨e4, e6, e9⟩ := and3 (show (decide (decode (cM mi) (pc + 4) = .ok (.ldc r.2.2.1, 2)) && decide (decode (cM mi) (pc + 6) = .ok (.invokespecial (exC a), 3)) && decide (decode (cM mi) (pc + 9) = .ok (.athrow, 1))) = true from k2)
    exact vx_throwS F.1 F.2.1 hlt hown x5 (by decide +kernel) (gd_at hg x1).1 (gd_at hg x2).1 hsa (fun w hw => (hat w hw).1) hgd hE.2.2.2.1 hE.2.2.2.2 hS hsz d0 (of_decide_eq_true k1) (of_decide_eq_true e4) (of_decide_eq_true e6) (of_decide_eq_true e9) (fun x hx => (hno x hx).elim)
      (by show 2 + 3 < R.frames; omega) (by show 0 + (13 * (2 + 1) + 43) ≤ R.locals; omega) (by omega) (by omega) hlk hx hS.2.2 (Nat.le_refl _) (Nat.le_refl _)
  | false =>
    rw [hw] at k2
    obtain ⟨e4, e6, e9⟩ := and3 (show (decide (decode (cM mi) (pc + 4) = .ok (.ldc_w r.2.2.1, 3)) && decide (decode (cM mi) (pc + 7) = .ok (.invokespecial (exC a), 3)) && decide (decode (cM mi) (pc + 10) = .ok (.athrow, 1))) = true from k2)
    exact vx_throwSW F.1 F.2.1 hlt hown x5 (by decide +kernel) (gd_at hg x1).1 (gd_at hg x2).1 hsa (fun w hw => (hat w hw).1) hgd hE.2.2.2.1 hE.2.2.2.2 hS hsz d0 (of_decide_eq_true k1) (of_decide_eq_true e4) (of_decide_eq_true e6) (of_decide_eq_true e9) (fun x hx => (hno x hx).elim)
      (by show 2 + 3 < R.frames; omega) (by show 0 + (13 * (2 + 1) + 43) ≤ R.locals; omega) (by omega) (by omega) hlk hx hS.2.2 (Nat.le_refl _) (Nat.le_refl _)
/-- the contract of a method that may throw -/
theorem metX {n d mi : Nat} {as : List Vv} {M : Mm} {o : Option Vv ⊕ Nat} {M' : Mm} {q : Nat} (hmi : mi ∈ miL) (hkd : kdM mi = 1) (hlen : entAlen as ≤ lM mi) (hs : okS as) (hm : okM M) (h : ex n none d mi 0 (entL (lM mi) as) [] M = some (o, M', q)) (l : Launch) (hlt : l.stackTraces = false) (D : va_G) (cy : Cy) (ad : Nat → Nat → Nat) (hap : apart ad) : vx_Met l (yM mi) (wsA mi) (rmX d) (PcA D cy ad M as) (QcX D cy ad M' o) (XcA D cy ad M' o) 1 6 (inW ad) := by
  obtain ⟨m1, m2, m3, m4, m5, m6⟩ := mi_of hmi
  obtain ⟨-, -, hq0⟩ := ex_ok _ _ _ _ _ _ _ _ _ _ hmi (okL_ent hs) okS_nil hm h
  have hq0 := hq0 (by rw [hkd]; decide)
  subst hq0
  refine vx_ofW (cc := cM mi) (maxL := lM mi) (ret := rM mi) m1 rfl ?_
  intro p e s m args below meth c s₁ B hml hno hv
  obtain ⟨rfl, hP, hK, hE⟩ := hv
  have hts := atoms_spec (ws := wsA mi) B.pre
  have hown : s.vm.findClass (yM mi).cls = some m.cls := findClass_of_methodNamed B.named
  have hl := lv_entry (as.map (conc ad)) (n := lM mi) (by rw [lgsl_len]; exact hlen)
  rw [lg_entry_eq]
  have F : Fr p s m (as.map (conc ad)).toArray c D cy mi := ⟨B.exec, B.bytes, hml, hown, fun w hw => hts w (List.mem_cons_of_mem _ hw), hK⟩
  have hL : LR ad (lM mi) (entL (lM mi) as) ((lg_sl (as.map (conc ad)) ++ List.replicate (lM mi - (lg_sl (as.map (conc ad))).length) Slot.unset).toArray) := ⟨entL_len hlen, by rw [entL_asc]; exact hl⟩
  refine runG (S := none) (A := inW ad) (R := rmX d) (N := n) (d := d) (fun _ _ e => by cases e) (meL_b mi hmi) F hap (fun q h => h) (fun _ _ e => by cases e) ⟨by show 1 ≤ d + 7; omega, by show 40 ≤ 60 * (d + 2) + 100; omega⟩ ?_ n (Nat.le_refl n) 0 (entL (lM mi) as) [] M o M' 0 _ s.heap [] 0 0 h (okL_ent hs) okS_nil hm hL hP va_S.rf (by show 0 ≤ 1; omega) (by show 0 ≤ 6; omega) ?_
  · intro n1 d' mj as1 rest i pc len a pc' x ls st M0 o1 M1 q1 lsC H locs cells slots hn1 hd d0 d1 d2 d3 h1 hl1 hs1 hm1 h2 h6 hct hL1 hP1 hS1 hc1 hc2 kk
    have hc1 : cells + cnt1 mj q1 ≤ 1 := hc1
    have hc2 : slots + 6 * cnt1 mj q1 ≤ 6 := hc2
    obtain ⟨g1, g2, g3, g4, g5, g6, g7, g8, g9⟩ := call_is d3 h1
    have hk0 : kdM mj = 0 := by
      rw [g3]
      rcases g8 with g | g
      · exact g
      · exfalso
        have := List.all_eq_true.mp mi_cls mi hmi
        rw [g, decide_eq_true rfl, hkd] at this
        cases this
    have hmj : mj ∈ miL := g3 ▸ g7
    obtain ⟨p1, p2⟩ := okS_pop (g3 ▸ g4) hs1
    obtain ⟨c1, c2, c3⟩ := ex_ok _ _ _ _ _ _ _ _ _ _ hmj (okL_ent p1) okS_nil hm1 h2
    have hq1 : q1 = 0 := c3 (by rw [hk0]; decide)
    have hcn : cnt1 mj q1 = 0 := by unfold cnt1; rw [hk0, hq1]; rfl
    subst hd
    cases o1 with
    | inr X => exact (no_thr _ _ _ _ _ _ _ _ _ _ hmj (by rw [hk0]; decide) h2).elim
    | inl w =>
      subst hq1
      have hM := metA (n1 + 1) n1 d' mj as1 M0 w M1 (by omega) hmj hk0 (by rw [g3]; exact g6) p1 hm1 h2 l D cy ad hap
      refine callW0 F hE (fun q h => h) d1 d2 d3 h1 hs1 hk0 hM (by show d' + 2 ≤ d' + 1 + 7; omega) (by show 60 * (d' + 2) ≤ 60 * (d' + 1 + 2) + 100; omega) ⟨by show cells ≤ 1; omega, by show slots ≤ 6; omega⟩ hL1 hP1 hS1 (fun H1 locs1 f1 f2 => ?_)
      have k := kk H1 locs1 lsC pc' ls (w.toList ++ rest) ⟨rfl, rfl, rfl⟩ hL1 f1 f2
      rw [hcn] at k
      exact k
  · intro H1 locs1 lsC1 i pc len a x ls st d0 d1 d2 d3 h1 _ _ hL1 hP1 hS1
    cases o with
    | inl v => exact W.widen (k := 1) (n := 6) (by omega) (by omega) (vx_ret (retW F m4 B.returns B.notSynchronized d1 d2 d3 h1 hP1 hS1))
    | inr X =>
      rcases end_is d3 h1 with ⟨-, v, e3, e4, -⟩ | ⟨-, v, e3, e4, -⟩ | ⟨-, v, e3, e4, -⟩ | ⟨-, e3, e4, -⟩ | ⟨idx, e1, e3, e4, e5⟩
      · cases e4
      · cases e4
      · cases e4
      · cases e4
      · subst e1
        subst e3
        cases e4
        exact thrW F hE hmi hkd hlt hno B.notSynchronized d0 d1 d2 hL1 hP1 hS1 ⟨by show 6 ≤ d + 7; omega, by show 82 ≤ 60 * (d + 2) + 100; omega, Nat.le_refl _, Nat.le_refl _⟩
end TH

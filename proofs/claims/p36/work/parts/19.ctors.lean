/-! constructors: soundness of the machine that makes cells -/
def phN : String := "RectilinearRoof$Phase"
def lnI : Jvm.ClassFile.Instr → Nat
  | .anewarray _ => 3
  | i => lenI i
/-! links of the constructors' code, found by their entries -/
def fLk (own : String) (idx a : Nat) : Bool := lw_tbl.any fun z => match z with
  | .fieldLink o i r n d => Nat.beq i idx && (decide (o = own) && (decide (n = (TT (a / 100) (a % 100)).2.1) && (decide (r = (TT (a / 100) (a % 100)).1) && decide (d = (TT (a / 100) (a % 100)).2.2.1))))
  | _ => false
theorem fLk_m {own : String} {idx a : Nat} (h : fLk own idx a = true) : Cond.fieldLink own idx (TT (a / 100) (a % 100)).1 (TT (a / 100) (a % 100)).2.1 (TT (a / 100) (a % 100)).2.2.1 ∈ lw_good := by
  obtain ⟨z, hz, hb⟩ := List.any_eq_true.mp h
  split at hb
  · next o i r n d =>
    simp only [Bool.and_eq_true, decide_eq_true_eq] at hb
    obtain ⟨h1, h2, h3, h4, h5⟩ := hb
    rw [Nat.eq_of_beq_eq_true h1, h2, h3, h4, h5] at hz
    exact List.mem_filter.mpr ⟨hz, rfl⟩
  · cases hb
def cLk (own : String) (idx : Nat) (c : String) : Bool := lw_tbl.any fun z => match z with
  | .classLink o i n => Nat.beq i idx && (decide (o = own) && decide (n = c))
  | _ => false
theorem cLk_m {own : String} {idx : Nat} {c : String} (h : cLk own idx c = true) : Cond.classLink own idx c ∈ lw_good := by
  obtain ⟨z, hz, hb⟩ := List.any_eq_true.mp h
  split at hb
  · next o i n =>
    simp only [Bool.and_eq_true, decide_eq_true_eq] at hb
    obtain ⟨h1, h2, h3⟩ := hb
    rw [Nat.eq_of_beq_eq_true h1, h2, h3] at hz
    exact List.mem_filter.mpr ⟨hz, rfl⟩
  · cases hb
def mLk (own : String) (idx : Nat) (y : MethodName) : Bool := lw_tbl.any fun z => match z with
  | .methodLink o i n => Nat.beq i idx && (decide (o = own) && decide (n = y))
  | _ => false
theorem mLk_m {own : String} {idx : Nat} {y : MethodName} (h : mLk own idx y = true) : Cond.methodLink own idx y ∈ lw_good := by
  obtain ⟨z, hz, hb⟩ := List.any_eq_true.mp h
  split at hb
  · next o i n =>
    simp only [Bool.and_eq_true, decide_eq_true_eq] at hb
    obtain ⟨h1, h2, h3⟩ := hb
    rw [Nat.eq_of_beq_eq_true h1, h2, h3] at hz
    exact List.mem_filter.mpr ⟨hz, rfl⟩
  · cases hb
def nLk (own : String) (idx : Nat) (y : MethodName) : Bool := lw_tbl.any fun z => match z with
  | .methodLinkNest o i n h => Nat.beq i idx && (decide (o = own) && (decide (n = y) && decide (h = "RectilinearRoof")))
  | _ => false
theorem nLk_m {own : String} {idx : Nat} {y : MethodName} (h : nLk own idx y = true) : Cond.methodLinkNest own idx y "RectilinearRoof" ∈ lw_tbl := by
  obtain ⟨z, hz, hb⟩ := List.any_eq_true.mp h
  split at hb
  · next o i n q =>
    simp only [Bool.and_eq_true, decide_eq_true_eq] at hb
    obtain ⟨h1, h2, h3, h4⟩ := hb
    rw [Nat.eq_of_beq_eq_true h1, h2, h3, h4] at hz
    exact hz
  · cases hb
def okW (k pc : Nat) (i : Jvm.ClassFile.Instr) (a : Nat) : Bool := match i with
  | .new idx => Nat.blt a 10 && cLk (yM (mI k)).cls idx (RR' a)
  | .newarray t => (match a with
    | 0 => decide (t = .int)
    | 1 => decide (t = .long)
    | _ => false)
  | .anewarray idx => cLk (yM (mI k)).cls idx phN
  | .putfield idx => Nat.blt k 10 && (Nat.blt (a / 100) 10 && (Nat.blt (a % 100) (nF (a / 100)) && (decide ((TT (a / 100) (a % 100)).1 = (yM (mI k)).cls) && fLk (yM (mI k)).cls idx a)))
  | .getfield idx => Nat.blt (a / 100) 10 && (Nat.blt (a % 100) (nF (a / 100)) && fLk (yM (mI k)).cls idx a)
  | .invokespecial idx => bif Nat.beq a 9999 then mLk (yM (mI k)).cls idx Lib.objectInit else Nat.blt a 10 && (mLk (yM (mI k)).cls idx (yM (100 * a)) || nLk (yM (mI k)).cls idx (yM (100 * a)))
  | .goto off => decide ((pc : Int) + off = (a : Int))
  | .if_icmp _ off => decide ((pc : Int) + off = (a : Int))
  | .bipush n => decide ((Int8.ofInt n).toInt32 = Int32.ofInt n)
  | .sipush n => decide ((Int16.ofInt n).toInt32 = Int32.ofInt n)
  | _ => true
def okI (k : Nat) (q : Nat × Jvm.ClassFile.Instr × Nat × Nat) : Bool := decide (decode (cM (mI k)) q.1 = .ok (q.2.1, q.2.2.1)) && Nat.beq (lnI q.2.1) q.2.2.1 && okW k q.1 q.2.1 q.2.2.2
set_option maxRecDepth 1000000 in
theorem okK_0 : ((nthL KI 0).getD []).all (okI 0) = true := by decide +kernel
set_option maxRecDepth 1000000 in
theorem okK_1 : ((nthL KI 1).getD []).all (okI 1) = true := by decide +kernel
set_option maxRecDepth 1000000 in
theorem okK_2 : ((nthL KI 2).getD []).all (okI 2) = true := by decide +kernel
set_option maxRecDepth 1000000 in
theorem okK_3 : ((nthL KI 3).getD []).all (okI 3) = true := by decide +kernel
set_option maxRecDepth 1000000 in
theorem okK_4 : ((nthL KI 4).getD []).all (okI 4) = true := by decide +kernel
set_option maxRecDepth 1000000 in
theorem okK_5 : ((nthL KI 5).getD []).all (okI 5) = true := by decide +kernel
set_option maxRecDepth 1000000 in
theorem okK_6 : ((nthL KI 6).getD []).all (okI 6) = true := by decide +kernel
set_option maxRecDepth 1000000 in
theorem okK_7 : ((nthL KI 7).getD []).all (okI 7) = true := by decide +kernel
set_option maxRecDepth 1000000 in
theorem okK_8 : ((nthL KI 8).getD []).all (okI 8) = true := by decide +kernel
set_option maxRecDepth 1000000 in
theorem okK_9 : ((nthL KI 9).getD []).all (okI 9) = true := by decide +kernel
set_option maxRecDepth 1000000 in
theorem okK_10 : ((nthL KI 10).getD []).all (okI 10) = true := by decide +kernel
theorem okK_b : ∀ k, k < 11 → ((nthL KI k).getD []).all (okI k) = true := by
  intro k hk
  match k, hk with
  | 0, _ => exact okK_0
  | 1, _ => exact okK_1
  | 2, _ => exact okK_2
  | 3, _ => exact okK_3
  | 4, _ => exact okK_4
  | 5, _ => exact okK_5
  | 6, _ => exact okK_6
  | 7, _ => exact okK_7
  | 8, _ => exact okK_8
  | 9, _ => exact okK_9
  | 10, _ => exact okK_10
  | k + 11, hk => omega
set_option maxRecDepth 1000000 in
theorem ic_b : ((List.range 10).all fun a => inG (.instantiable (RR' a) (nF a)) && inG (.initialized (RR' a)) && inG (.instanceMethod (yM (100 * a))) && decide ((yM (100 * a)).cls = RR' a) && lw_good.any (cdW (100 * a))) = true := by decide +kernel
theorem ac_b : (inG (.arrayClass .int) && inG (.arrayClass .long) && inG (.arrayClass .byte)) = true := by decide +kernel
set_option maxRecDepth 1000000 in
theorem oi_b : (inG (.instanceMethod Lib.objectInit) && inG (.code Lib.objectInit ⟨#[0xb1]⟩ 1 none)) = true := by decide +kernel
theorem iI_b : ((List.range 10).all fun k => decide (rM (100 * k) = none) && plainName (yM (100 * k)).cls && decide ((yM (100 * k)).name = "<init>") && Nat.ble (lM (100 * k)) 25 && Nat.ble 1 (lM (100 * k)) && decide ((yM (100 * k)).cls ≠ "java/lang/invoke/MethodHandle") && decide ((yM (100 * k)).cls ≠ "java/lang/invoke/VarHandle") && decide ((parseMethodDescriptor (yM (100 * k)).desc).map (fun d => d.parameters.length) = some 0)) = true := by decide +kernel
set_option maxRecDepth 100000 in
theorem ft_b : ((List.range 10).all fun ci => (List.range (nF ci)).all fun k => match fK ci k with
  | 0 => true
  | 1 => true
  | _ => match tyT ci k with
    | .object _ => true
    | .array _ => true
    | _ => false) = true := by decide +kernel
set_option maxRecDepth 100000 in
theorem df_b : ((List.range 10).all fun ci => (List.range (nF ci)).all fun k => match fK ci k with
  | 0 => decide (tyT ci k = .int)
  | 1 => decide (tyT ci k = .boolean)
  | _ => true) = true := by decide +kernel
theorem fetI_ok {k pc len a : Nat} {i : Jvm.ClassFile.Instr} (h : fetI k pc = some (i, len, a)) : decode (cM (mI k)) pc = .ok (i, lnI i) ∧ okW k pc i a = true ∧ k < 11 := by
  unfold fetI at h
  split at h
  · next l hl =>
    obtain ⟨q, hq, e⟩ := Option.map_eq_some_iff.mp h
    have h1 := List.find?_some hq
    have h2 := List.mem_of_find?_eq_some hq
    have hk : k < 11 := by
      rw [nthL_eq] at hl
      exact (List.getElem?_eq_some_iff.mp hl).1
    have g := okK_b k hk
    rw [hl] at g
    have g2 := List.all_eq_true.mp g q h2
    unfold okI at g2
    rw [Nat.eq_of_beq_eq_true h1, e] at g2
    obtain ⟨g3, g4, g5⟩ := and3 g2
    have g4 := Nat.eq_of_beq_eq_true g4
    refine ⟨?_, g5, hk⟩
    rw [g4]
    exact of_decide_eq_true g3
  · cases h
theorem cc_app {b : Nat} {am new : List Nat} {v : Vv} (h : wfV am.length v = true) : conc (adL b (am ++ new)) v = conc (adL b am) v := by
  rcases v with x | y | ⟨t, k⟩
  · rfl
  · rfl
  · have h : (Nat.beq t 51 || Nat.blt k am.length) = true := h
    show Value.ref (bif Nat.beq t 51 then b else (am ++ new).getD k 0) = Value.ref (bif Nat.beq t 51 then b else am.getD k 0)
    cases ht : Nat.beq t 51 with
    | true => rfl
    | false =>
      rw [ht, Bool.false_or] at h
      have h := blt_lt h
      simp only [cond_false]
      congr 1
      rw [List.getD_eq_getElem?_getD, List.getD_eq_getElem?_getD, List.getElem?_append_left h]
theorem cvo_app {b : Nat} {am new : List Nat} {v : Option Vv} (h : wfO am.length v = true) : cvo b (am ++ new) v = cvo b am v := by
  cases v with
  | none => rfl
  | some v => exact cc_app h
theorem ceH_app {cy : Cy} {b : Nat} {am new : List Nat} {x : He} (h : wfE am.length x = true) : ceH cy b (am ++ new) x = ceH cy b am x := by
  rcases x with ⟨ci, fs⟩ | ⟨k, n, l⟩
  · have h : fs.all (wfO am.length) = true := h
    show (Sum.inr (ci, fs.map (cvo b (am ++ new))) : va_E) = Sum.inr (ci, fs.map (cvo b am))
    congr 2
    exact List.map_congr_left fun v hv => cvo_app (List.all_eq_true.mp h v hv)
  · match k, h with
    | 0, _ => rfl
    | 1, _ => rfl
    | 2, _ => rfl
    | k + 3, h =>
      have h : l.all (fun o => match o with
        | none => true
        | some k => Nat.blt k am.length) = true := h
      show (Sum.inl (cy.2.2.2, n, .inr (.inr (.inr (.inr fun j => (l.getD j none).map fun k => (am ++ new).getD k 0)))) : va_E) = Sum.inl (cy.2.2.2, n, .inr (.inr (.inr (.inr fun j => (l.getD j none).map fun k => am.getD k 0))))
      congr 7
      funext j
      cases hj : l.getD j none with
      | none => rfl
      | some q =>
        have hm : (some q : Option Nat) ∈ l := by
          rw [List.getD_eq_getElem?_getD] at hj
          cases hx : l[j]? with
          | none => rw [hx] at hj; cases hj
          | some z => rw [hx] at hj; have hj : z = some q := hj; subst hj; exact List.mem_of_getElem? hx
        have hlt := blt_lt (List.all_eq_true.mp h _ hm)
        show some ((am ++ new).getD q 0) = some (am.getD q 0)
        rw [List.getD_eq_getElem?_getD, List.getD_eq_getElem?_getD, List.getElem?_append_left hlt]
theorem asc_app {b : Nat} {am new : List Nat} : ∀ {ls : Ls} {i : Nat}, ls.all (wfO am.length) = true → ascF (adL b (am ++ new)) i ls = ascF (adL b am) i ls
  | [], i, _ => rfl
  | none :: l, i, h => by
    rw [List.all_cons, Bool.and_eq_true] at h
    exact asc_app (ls := l) h.2
  | some v :: l, i, h => by
    rw [List.all_cons, Bool.and_eq_true] at h
    show (i, conc (adL b (am ++ new)) v) :: ascF (adL b (am ++ new)) (i + 1) l = (i, conc (adL b am) v) :: ascF (adL b am) (i + 1) l
    rw [cc_app h.1, asc_app (ls := l) h.2]
theorem LR_app {b : Nat} {am new : List Nat} {n : Nat} {ls : Ls} {lsC : Array Slot} (h : ls.all (wfO am.length) = true) (hL : LR (adL b am) n ls lsC) : LR (adL b (am ++ new)) n ls lsC := ⟨hL.1, by rw [asc_app h]; exact hL.2⟩
theorem st_app {b : Nat} {am new : List Nat} {st : List Vv} (h : st.all (wfV am.length) = true) : st.map (conc (adL b (am ++ new))) = st.map (conc (adL b am)) := List.map_congr_left fun v hv => cc_app (List.all_eq_true.mp h v hv)
theorem wsH_at {cy : Cy} {b : Nat} {am : List Nat} {hp : List He} {h : Nat} {x : He} (hl : am.length = hp.length) (he : hp[h]? = some x) : (wsH cy b am hp)[h]? = some (am.getD h 0, ceH cy b am x) := by
  have hlt := (List.getElem?_eq_some_iff.mp he).1
  have ha : am[h]? = some (am.getD h 0) := by
    rw [List.getD_eq_getElem?_getD, List.getElem?_eq_getElem (by omega)]
    rfl
  unfold wsH
  rw [List.getElem?_map, (List.getElem?_zip_eq_some (z := (am.getD h 0, x))).mpr ⟨ha, he⟩]
  rfl
theorem wsH_set {cy : Cy} {b : Nat} {am : List Nat} {hp : List He} {h : Nat} {x y : He} (hl : am.length = hp.length) (he : hp[h]? = some y) : (wsH cy b am hp).set h (am.getD h 0, ceH cy b am x) = wsH cy b am (hp.set h x) := by
  have hlt := (List.getElem?_eq_some_iff.mp he).1
  have hll : (wsH cy b am hp).length = hp.length := by unfold wsH; simp; omega
  apply List.ext_getElem?
  intro j
  by_cases hj : j = h
  · subst hj
    rw [List.getElem?_set_self (by omega)]
    exact (wsH_at (by rw [List.length_set]; exact hl) (List.getElem?_set_self hlt)).symm
  · rw [List.getElem?_set_ne (Ne.symm hj)]
    by_cases hjl : j < hp.length
    · have hx := List.getElem?_eq_getElem hjl
      rw [wsH_at hl hx]
      exact (wsH_at (by rw [List.length_set]; exact hl) (by rw [List.getElem?_set_ne (Ne.symm hj)]; exact hx)).symm
    · rw [List.getElem?_eq_none (by omega), List.getElem?_eq_none (by unfold wsH; simp; omega)]
theorem wsH_app {cy : Cy} {b q : Nat} {am : List Nat} {hp : List He} {x : He} (hl : am.length = hp.length) (hw : hp.all (wfE am.length) = true) : wsH cy b (am ++ [q]) (hp ++ [x]) = wsH cy b am hp ++ [(q, ceH cy b (am ++ [q]) x)] := by
  unfold wsH
  rw [List.zip_append hl, List.map_append]
  congr 1
  refine List.map_congr_left fun z hz => ?_
  have h2 := (List.of_mem_zip hz).2
  rw [ceH_app (List.all_eq_true.mp hw _ h2)]
theorem aS_len {i : Jvm.ClassFile.Instr} {a pc pc' : Nat} {ls ls' : Ls} {st st' : List Vv} {hp hp' : List He} (h : aS i a pc ls st hp = some (pc', ls', st', hp')) : hp'.length = hp.length ∧ sloH hp' = sloH hp := by
  have set_s : ∀ (h : Nat) (x y : He), hp[h]? = some y → sizE x = sizE y → sloH (hp.set h x) = sloH hp := by
    intro h x y he hs
    unfold sloH
    rw [List.map_set, hs, ← List.map_set]
    congr 2
    apply List.ext_getElem?
    intro j
    by_cases hj : j = h
    · subst hj
      rw [List.getElem?_set_self (List.getElem?_eq_some_iff.mp he).1, he]
    · rw [List.getElem?_set_ne (Ne.symm hj)]
  unfold aS at h
  split at h
  all_goals (try simp only [Bool.cond_eq_ite] at h)
  all_goals (try (repeat' (split at h)))
  all_goals (first | (cases h; exact ⟨rfl, rfl⟩) | (cases h; done) | skip)
  all_goals
    cases h
    refine ⟨by rw [List.length_set], ?_⟩
    apply set_s
    · assumption
    · first | rfl | (show (List.set _ _ _).length = _; rw [List.length_set]; rfl)

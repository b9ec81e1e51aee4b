/-! methods: contracts out of runs -/
def wkind (w : Cond) : Bool := match w with
  | .methodLinkNest _ _ _ _ => true
  | .castable _ _ => true
  | .declares _ => true
  | _ => false
theorem wkind_warm {w : Cond} (hk : wkind w = true) {s U : State} (hW : s.WarmedH U.vm) (h : va_Nw w s) : va_Nw w U := by
  cases w <;> first | exact va_Nw.warmM hW h | exact va_Nw.warmC hW h | exact va_Nw.warmD hW h | cases hk
theorem wkind_tab {w : Cond} (hk : wkind w = true) : w.onTables = true := by
  cases w <;> first | rfl | cases hk
/-- what stands of the tables, whatever a method does -/
def ENV (_A : Nat → Prop) (U : State) (_H : Heap) : Prop := (∀ w ∈ lw_tbl, wkind w = true → va_Nw w U) ∧ True
theorem ENV.warm {A : Nat → Prop} {s U : State} {H : Heap} (hW : s.WarmedH U.vm) (h : ENV A s H) : ENV A U H := ⟨fun w hw hk => wkind_warm hk hW (h.1 w hw hk), trivial⟩
theorem ENV.same {A : Nat → Prop} {u U : State} {H : Heap} (e : u.vm = U.vm) (h : ENV A u H) : ENV A U H := ⟨fun w hw hk => va_Nw.same (wkind_tab hk) e (h.1 w hw hk), trivial⟩
theorem ENV.kept {A : Nat → Prop} {U : State} {H H1 : Heap} {locs : List Loc} (_hS : va_S A H H1 locs) (h : ENV A U H) : ENV A U H1 := ⟨h.1, trivial⟩
theorem ENV.narrow {A B : Nat → Prop} {U : State} {H : Heap} (_hAB : ∀ q, B q → A q) (h : ENV A U H) : ENV B U H := ⟨h.1, trivial⟩
def inW (ad : Nat → Nat → Nat) : Nat → Prop := fun q => ∃ d ∈ dom, q = ad d.1 d.2
def apart (ad : Nat → Nat → Nat) : Prop := ∀ d ∈ dom, ∀ d' ∈ dom, ad d.1 d.2 = ad d'.1 d'.2 → d = d'
theorem apD {A : Nat → Prop} {ad : Nat → Nat → Nat} (h : apart ad) (hA : ∀ q, inW ad q → A q) : ApD A ad := ⟨h, fun d hd => hA _ ⟨d, hd, rfl⟩⟩
/-- the world at a method's start -/
def WoA (D : va_G) (cy : Cy) (ad : Nat → Nat → Nat) (M : Mm) (U : State) : Prop := va_P D vwCl (wsW cy ad M) U.heap ∧ va_K D vwCl (tysW cy) U ∧ ENV (inW ad) U U.heap
abbrev PcA (D : va_G) (cy : Cy) (ad : Nat → Nat → Nat) (M : Mm) (as : List Vv) : Array Value → State → Prop := va_Pc (as.map (conc ad)) (WoA D cy ad M)
def QcA (D : va_G) (cy : Cy) (ad : Nat → Nat → Nat) (M : Mm) (v : Option Vv) : Array Value → State → Outcome → State → Prop := fun _ st oc t => (oc = .returned (v.map (conc ad)) ∧ va_P D vwCl (wsW cy ad M) t.heap) ∧ va_F (inW ad) st t
theorem PcA_blind {D : va_G} {cy : Cy} {ad : Nat → Nat → Nat} {M : Mm} {as : List Vv} : FrameBlind (PcA D cy ad M as) := fun a U g mk h =>
  ⟨h.1, h.2.1, va_K.moved (u := U) (U := U.calling g mk a) (Vm.Alike.refl U.vm) h.2.2.1, ENV.same (u := U) (U := U.calling g mk a) rfl h.2.2.2⟩
def wsA (mi : Nat) : List Cond := .code (yM mi) (cM mi) (lM mi) (rM mi) :: lw_good
def rmA (d : Nat) : Room := { frames := d + 1, cells := 0, slots := 0, locals := 44 * (d + 1) }
theorem good_g {L : List Cond} (h : ∀ w ∈ L, w ∈ lw_good) : GoodIn lw_good L := fun w hw => ⟨h w hw, good_of_word (List.mem_filter.mp (h w hw)).2⟩
theorem and6 {a b c d e f : Bool} (h : (a && b && c && d && e && f) = true) : a = true ∧ b = true ∧ c = true ∧ d = true ∧ e = true ∧ f = true := by
  cases a <;> cases b <;> cases c <;> cases d <;> cases e <;> cases f <;> first | exact ⟨rfl, rfl, rfl, rfl, rfl, rfl⟩ | cases h
theorem mi_of {a : Nat} (h : a ∈ miL) : plainName (yM a).cls = true ∧ (yM a).cls ≠ "java/lang/invoke/MethodHandle" ∧ (yM a).cls ≠ "java/lang/invoke/VarHandle" ∧ rkB a = true ∧ lM a ≤ 25 ∧ (parseMethodDescriptor (yM a).desc).map (fun d => d.parameters.length + (bif caV a then 1 else 0)) = some (naM a) := by
  have g := List.all_eq_true.mp miL_b a h
  obtain ⟨h1, h2, h3, h4, h5, h6⟩ := and6 g
  exact ⟨h1, of_decide_eq_true h2, of_decide_eq_true h3, h4, Nat.le_of_ble_eq_true h5, of_decide_eq_true h6⟩
theorem par_n {o : Option MethodDescriptor} {k : Nat} {b : Bool} (h : o.map (fun d => d.parameters.length + (bif b then 1 else 0)) = some k) : o.map (fun d => d.parameters.length) = some (k - (bif b then 1 else 0)) := by
  cases o with
  | none => cases h
  | some d =>
    have h := Option.some.inj h
    exact congrArg some (by rw [← h]; cases b <;> simp)
theorem sv_no : (miL.all fun mi => !(caS mi && caV mi)) = true := by decide +kernel
/-- what throws is marked so -/
theorem no_thr : ∀ (n : Nat) (S : Sc) (d mi pc : Nat) (ls : Ls) (st : List Vv) (M : Mm) (X : Nat) (M' : Mm) (q : Nat), mi ∈ miL → kdM mi ≠ 1 → ex n S d mi pc ls st M = some (.inr X, M', q) → False := by
  intro n
  induction n with
  | zero => intro S d mi pc ls st M X M' q _ _ h; rw [ex] at h; cases h
  | succ n ih =>
    intro S d mi pc ls st M X M' q hmi hk h
    have hme := meL_b mi hmi
    rcases ex_is h with ⟨pc', ls', st', M1, h1, h2⟩ | ⟨h1, e1, e2⟩ | ⟨mj, as, pc', ls', rest, d', o1, M1, q1, pc2, ls2, st2, q2, h1, e1, h2, h3, h4, h5, h6, h7⟩
    · exact ih _ _ _ _ _ _ _ _ _ _ hmi hk h2
    · obtain ⟨i, len, a, x, -, -, -, hok, h1⟩ := sem_is hme h1
      rcases end_is hok h1 with ⟨-, v, e3, e4, -⟩ | ⟨-, v, e3, e4, -⟩ | ⟨-, v, e3, e4, -⟩ | ⟨-, e3, e4, -⟩ | ⟨idx, -, e3, e4, e5⟩
      · cases e4
      · cases e4
      · cases e4
      · cases e4
      · exact hk e5
    · exact ih _ _ _ _ _ _ _ _ _ _ hmi hk h4
section MA
variable {p : Program} {l : Launch} {e : Env} {R : Room} {s : State} {m : MethodId} {args : Array Value} {below : List Frame} {meth : Method} {c : Code} {H : Heap} {locs : List Loc} {cells slots : Nat} {Q : State → Prop}
variable {D : va_G} {cy : Cy} {ad : Nat → Nat → Nat} {A : Nat → Prop} {H0 : Heap} {mi : Nat} {S : Sc}
theorem am_call {pc mc ms : Nat} {lsC : Array Slot} {st0 rest : List Value} {a : Array Value} {M' : Mm} {v : Option Vv} (hr : va_Run p l e R s m args below meth c H locs cells slots mc ms (F0 m pc lsC st0) rest (QcA D cy ad M' v a) (inW ad)) (hS : va_S A H0 H locs) (hA : ∀ q, inW ad q → A q)
    (kk : ∀ (H1 : Heap) (locs1 : List Loc), va_P D vwCl (wsW cy ad M') H1 → va_S A H0 H1 locs1 → W p l e R s m args below meth c H1 locs1 (cells + mc) (slots + ms) Q (F0 m (pc + 3) lsC ((v.map (conc ad)).toList ++ rest))) : W p l e R s m args below meth c H locs cells slots Q (F0 m pc lsC st0) := by
  intro T hT X
  obtain ⟨v', st₀, t, T', L, h0, X', hL, e1, e2, ⟨⟨hv, hb⟩, hz, hk⟩, st⟩ := hr T hT X
  cases hv
  rw [h0] at hz hk
  obtain ⟨t2, a1, b1⟩ := kk T'.heap (locs ++ L) (by rw [e1]; exact hb)
    ⟨Nat.le_trans hS.1 (by rw [e1]; exact hz), fun q h1 h2 => by rw [e1, hk q (Nat.lt_of_lt_of_le h1 hS.1) (fun z => h2 (hA q z))]; exact hS.2.1 q h1 h2, fun q hq => by
      rcases List.mem_append.mp hq with h | h
      · exact hS.2.2 q h
      · exact hA _ (hL q h)⟩ T' rfl X'
  exact ⟨t2, st t2 a1, b1⟩
theorem map_tl {v : Option Vv} {rest : List Vv} : (v.map (conc ad)).toList ++ rest.map (conc ad) = (v.toList ++ rest).map (conc ad) := by
  cases v <;> simp
/-- a call of a method that throws nothing -/
theorem callWG {Pc0 : Array Value → State → Prop} (hbl0 : FrameBlind Pc0) (F : Fr p s m args c D cy mi) (hE : ENV A s s.heap) (hA : ∀ q, inW ad q → A q) {i : Jvm.ClassFile.Instr} {pc len a mj pc' d : Nat} {x : Int} {ls ls' : Ls} {st as rest : List Vv} {M M' : Mm} {v : Option Vv} (hd : decode (cM mi) pc = .ok (i, len)) (hn : lenI i = 0 ∨ lenI i = len) (hok : okB (yM mi).cls pc (i, len, a, x) = true)
    (h : sem1 S mi i len a x pc ls st M = some (.inr (.inl (mj, as, pc', ls', rest)))) (hst : okS st) (hk : kdM mj = 0) (hM : Met l (yM mj) (wsA mj) (rmA d) Pc0 (QcA D cy ad M' v) 0 0 (inW ad)) (hPc : ∀ U : State, U.heap = H → s.WarmedH U.vm → Pc0 (as.map (conc ad)).toArray U) (hRf : d + 2 ≤ R.frames) (hRl : 44 * (d + 2) ≤ R.locals) (hRc : cells ≤ R.cells ∧ slots ≤ R.slots)
    {lsC : Array Slot} (hL : LR ad (lM mi) ls lsC) (hP : va_P D vwCl (wsW cy ad M) H) (hS : va_S A s.heap H locs)
    (kk : ∀ (H1 : Heap) (locs1 : List Loc), va_P D vwCl (wsW cy ad M') H1 → va_S A s.heap H1 locs1 → W p l e R s m args below meth c H1 locs1 cells slots Q (F0 m pc' lsC ((v.toList ++ rest).map (conc ad)))) : W p l e R s m args below meth c H locs cells slots Q (F0 m pc lsC (st.map (conc ad))) := by
  obtain ⟨g1, g2, g3, g4, g5, g6, g7, g8, g9⟩ := call_is hok h
  subst g1
  subst g3
  subst g2
  obtain ⟨p1, p2⟩ := popN_as g4
  obtain ⟨o1, o2⟩ := okS_pop g4 hst
  obtain ⟨m1, m2, m3, m4, m5, m6⟩ := mi_of g7
  have hroom : ((rest.map (conc ad)).map fun v => v.category).sum ≤ 8 := by
    rw [cat_ent]
    exact g5
  have hstack : st.map (conc ad) = (as.map (conc ad)).reverse ++ rest.map (conc ad) := by
    rw [p2, List.map_append, List.map_reverse]
  have hcode : Cond.code (yM mj) (cM mj) (lM mj) (rM mj) ∈ lw_good ∧ Cond.initialized (yM mj).cls ∈ lw_good ∧ True := by
    refine ⟨?_, ?_, trivial⟩
    · rcases g9 with ⟨idx, t, k, as', e1, e2, e3⟩ | ⟨idx, e1⟩
      · subst e1
        obtain ⟨h1, -⟩ := ml_of (b := true) (own := (yM mi).cls) (idx := idx) (a := mj) hok
        rw [caB, Bool.and_eq_true] at h1
        have h1 := h1.2
        rw [hk] at h1
        exact cd_any h1
      · subst e1
        obtain ⟨h1, -⟩ := ml_of (b := false) (own := (yM mi).cls) (idx := idx) (a := mj) hok
        rw [caB, Bool.and_eq_true] at h1
        have h1 := h1.2
        rw [hk] at h1
        exact cd_any h1
    · rcases g9 with ⟨idx, t, k, as', e1, e2, e3⟩ | ⟨idx, e1⟩
      · subst e1
        obtain ⟨h1, -⟩ := ml_of (b := true) (own := (yM mi).cls) (idx := idx) (a := mj) hok
        rw [caB, Bool.and_eq_true] at h1
        exact in_any h1.1
      · subst e1
        obtain ⟨h1, -⟩ := ml_of (b := false) (own := (yM mi).cls) (idx := idx) (a := mj) hok
        rw [caB, Bool.and_eq_true] at h1
        exact in_any h1.1
  obtain ⟨hcode, hini, -⟩ := hcode
  have hwsA : ∀ w ∈ wsA mj, w ∈ lw_good := fun w hw => (List.mem_cons.mp hw).elim (fun e => e ▸ hcode) id
  have hRoom : (rmA d).frames + 1 ≤ R.frames ∧ 8 + (lM mj + 11) + (rmA d).locals ≤ R.locals := by
    refine ⟨hRf, ?_⟩
    show 8 + (lM mj + 11) + 44 * (d + 1) ≤ R.locals
    omega
  have fin : ∀ {a0 : Array Value}, va_Run p l e R s m args below meth c H locs cells slots 0 0 (F0 m pc lsC (st.map (conc ad))) (rest.map (conc ad)) (QcA D cy ad M' v a0) (inW ad) → W p l e R s m args below meth c H locs cells slots Q (F0 m pc lsC (st.map (conc ad))) := fun hr =>
    am_call hr hS hA (fun H1 locs1 q1 q2 => by
      have k1 := kk H1 locs1 q1 q2
      rw [← map_tl] at k1
      exact k1)
  rcases g9 with ⟨idx, t, k, as', e1, e2, e3⟩ | ⟨idx, e1⟩
  · subst e1
    subst e2
    obtain ⟨h1, h2, q, hq, q1, q2, q3, q4⟩ := ml_of (b := true) (own := (yM mi).cls) (idx := idx) (a := mj) hok
    have hcv : caV mj = true := h2
    have hml : Cond.methodLink (yM mi).cls idx (yM mj) ∈ lw_good := by
      have g := walkL_in mlT_b q hq
      unfold mlW at g
      rw [Nat.eq_of_beq_eq_true q4, q1, q2, q3] at g
      exact List.mem_filter.mpr ⟨g, rfl⟩
    have hvc := List.all_eq_true.mp vi_cls mj g7
    rw [hcv] at hvc
    have hvc : (decide ((yM mj).cls = RR' (mj / 100)) && Nat.blt (mj / 100) 10) = true := hvc
    rw [Bool.and_eq_true, decide_eq_true_eq] at hvc
    have h11 := blt_lt hvc.2
    rw [caV, Bool.and_eq_true] at hcv
    have hdm : (t, k) ∈ dom := dom_of (o1 (.inr (.inr (t, k))) (by simp)) (by omega)
    obtain ⟨q0, hq0, he⟩ := wsW_at (cy := cy) (ad := ad) (M := M) hdm
    rw [eW_o (by omega : t < 10)] at he
    have hrec := va_recv F.2.2.2.2.2 hP (cl_at (by omega : t < 10)) he
    have hwV : ∀ w ∈ wsV (yM mi).cls idx (yM mj).cls (yM mj) (wsA mj), w ∈ lw_good := by
      intro w hw
      rcases List.mem_append.mp hw with hw | hw
      · simp only [List.mem_cons, List.not_mem_nil, or_false] at hw
        rcases hw with rfl | rfl | rfl | rfl
        · exact hml
        · exact im_any hcv.1
        · exact se_any hcv.2
        · exact hini
      · exact hwsA w hw
    have hpar := par_n m6
    rw [show caV mj = true from h2] at hpar
    have hlen : (as'.map (conc ad)).length = naM mj - 1 := by
      rw [List.length_map, ← p1]
      rfl
    have hcls : (yM mj).cls = RR' t := by rw [hvc.1, e3]
    exact fin (va_runV (C := (yM mj).cls) (b := ad t k) (As := as'.map (conc ad)) (rest := rest.map (conc ad)) ⟨F.1, F.2.1, F.2.2.1, F.2.2.2.1, F.2.2.2.2.1⟩ hM (cwV (naM mj - 1) F.2.2.2.2.1 (good_g hwV) rfl rfl rfl ⟨rfl, m2, m3, hpar⟩ hRoom)
      ⟨hbl0, by rw [hcls]; exact hrec, hPc⟩ rfl hlen hL.2.1 (by rw [hstack]; simp [conc]) (lv_room hroom) (lnn_of hd hn rfl (by decide)) ⟨by omega, by omega⟩)
  · subst e1
    obtain ⟨h1, h2, q, hq, q1, q2, q3, q4⟩ := ml_of (b := false) (own := (yM mi).cls) (idx := idx) (a := mj) hok
    have hcs : caS mj = true := h2
    have hpar := par_n m6
    have hcv : caV mj = false := by
      have := List.all_eq_true.mp sv_no mj g7
      rw [hcs] at this
      revert this
      cases caV mj <;> decide
    rw [hcv] at hpar
    have hlen : (as.map (conc ad)).length = naM mj := by rw [List.length_map, p1]
    have hbl : FrameBlind Pc0 := hbl0
    have hst' := F.2.2.2.2.1 _ (st_any hcs)
    have hini' := F.2.2.2.2.1 _ hini
    by_cases hk2 : q.2.2.2.2 = 2
    · have g := walkL_in mlT_b q hq
      unfold mlW at g
      rw [hk2, q1, q2, q3] at g
      have hnw := hE.1 _ g rfl
      exact fin (va_runSN (As := as.map (conc ad)) (rest := rest.map (conc ad)) ⟨F.1, F.2.1, F.2.2.1, F.2.2.2.1, F.2.2.2.2.1⟩ hM ⟨va_cnB (naM mj) F.2.2.2.2.1 (good_g hwsA) rfl rfl rfl hnw hini' ⟨m2, m3, hpar⟩ hRoom, hst', trivial⟩
        ⟨hbl, hPc⟩ rfl hlen hL.2.1 hstack (lv_room hroom) (lnn_of hd hn rfl (by decide)) ⟨by omega, by omega⟩)
    · have g := walkL_in mlT_b q hq
      have hml : Cond.methodLink (yM mi).cls idx (yM mj) ∈ lw_good := by
        have e5 : mlW q = Cond.methodLink (ownS q.2.1) q.2.2.1 (yM q.2.2.2.1) := by
          unfold mlW
          split
          · next h => exact absurd h hk2
          · rfl
        rw [e5, q1, q2, q3] at g
        exact List.mem_filter.mpr ⟨g, rfl⟩
      exact fin (va_runS (As := as.map (conc ad)) (rest := rest.map (conc ad)) ⟨F.1, F.2.1, F.2.2.1, F.2.2.2.1, F.2.2.2.2.1⟩ hM ⟨callB_of (naM mj) F.2.2.2.2.1 (good_g hwsA) rfl rfl rfl hini' (F.2.2.2.2.1 _ hml) ⟨m2, m3, hpar⟩ hRoom, hst'⟩
        ⟨hbl, hPc⟩ rfl hlen hL.2.1 hstack (lv_room hroom) (lnn_of hd hn rfl (by decide)) ⟨by omega, by omega⟩)
theorem pcA_of (F : Fr p s m args c D cy mi) (hE : ENV A s s.heap) (hA : ∀ q, inW ad q → A q) {as : List Vv} {M : Mm} (hP : va_P D vwCl (wsW cy ad M) H) (hS : va_S A s.heap H locs) : ∀ U : State, U.heap = H → s.WarmedH U.vm → PcA D cy ad M as (as.map (conc ad)).toArray U := fun U hU hW =>
  ⟨rfl, by rw [hU]; exact hP, va_K.moved hW.alike F.2.2.2.2.2, by rw [hU]; exact ((hE.kept hS).narrow hA).warm hW⟩
/-- a method's end -/
theorem retW (F : Fr p s m args c D cy mi) (hrk : rkB mi = true) (hret : meth.sig.returnType = rM mi) (hlk : meth.locks = false) {i : Jvm.ClassFile.Instr} {pc len a : Nat} {x : Int} {ls : Ls} {st : List Vv} {M : Mm} {v : Option Vv} {own : String} (hd : decode (cM mi) pc = .ok (i, len)) (hn : lenI i = 0 ∨ lenI i = len) (hok : okB own pc (i, len, a, x) = true)
    (h : sem1 S mi i len a x pc ls st M = some (.inr (.inr (.inl v)))) {lsC : Array Slot} (hP : va_P D vwCl (wsW cy ad M) H) (hS : va_S (inW ad) s.heap H locs) : W p l e R s m args below meth c H locs cells slots (MQ below (QcA D cy ad M v) args s cells slots (inW ad)) (F0 m pc lsC (st.map (conc ad))) := by
  have hq : ∀ (v' : Option Value), v' = v.map (conc ad) → ∀ t : State, t.heap = H → s.WarmedH t.vm → QcA D cy ad M v args s (.returned v') t := fun v' e t ht _ => ⟨⟨by rw [e], by rw [ht]; exact hP⟩, hS.F ht⟩
  unfold rkB at hrk
  rcases end_is hok h with ⟨e1, w, e2, e3, e4⟩ | ⟨e1, w, e2, e3, e4⟩ | ⟨e1, w, e2, e3, e4⟩ | ⟨e1, e2, e3, e4⟩ | ⟨idx, -, -, e3, -⟩
  · subst e1
    subst e2
    cases e3
    rcases e4 with e4 | ⟨e4, e5⟩
    · rw [e4] at hrk
      exact W.iret F.1 F.2.1 (hret.trans (of_decide_eq_true hrk)) (hq _ rfl) hS.2.2 (lnn_of hd hn rfl (by decide)) hlk
    · rw [e4] at hrk
      refine W.zret F.1 F.2.1 (hret.trans (of_decide_eq_true hrk)) ?_ (hq _ rfl) hS.2.2 (lnn_of hd hn rfl (by decide)) hlk
      rcases e5 with rfl | rfl <;> rfl
  · subst e1
    subst e2
    cases e3
    rw [e4] at hrk
    exact W.lret F.1 F.2.1 (hret.trans (of_decide_eq_true hrk)) (hq _ rfl) hS.2.2 (lnn_of hd hn rfl (by decide)) hlk
  · subst e1
    subst e2
    cases e3
    rw [e4] at hrk
    exact W.aret F.1 F.2.1 (hret.trans (of_decide_eq_true hrk)) (Or.inl ⟨_, rfl⟩) (Or.inr ⟨_, rfl⟩) (hq _ rfl) hS.2.2 (lnn_of hd hn rfl (by decide)) hlk
  · subst e1
    subst e2
    cases e3
    rw [e4] at hrk
    exact W.vret F.1 F.2.1 (hret.trans (of_decide_eq_true hrk)) (hq _ rfl) hS.2.2 (lnn_of hd hn rfl (by decide)) hlk
  · cases e3
/-- a run of a method's frame, its calls by a rule -/
theorem runG (hS : ∀ n xs, S = some (n, xs) → inR n ∧ ∀ j, inR (xs j)) (hme : meB mi = true) (F : Fr p s m args c D cy mi) (hap : apart ad) (hA : ∀ q, inW ad q → A q) (hSc : scOK S ad A s s.heap) (hRm : 1 ≤ R.frames ∧ 40 ≤ R.locals) {N d : Nat}
    (CR : ∀ (n d' mj : Nat) (as rest : List Vv) (i : Jvm.ClassFile.Instr) (pc len a pc' : Nat) (x : Int) (ls : Ls) (st : List Vv) (M : Mm) (o1 : Option Vv ⊕ Nat) (M1 : Mm) (q1 : Nat) (lsC : Array Slot) (H : Heap) (locs : List Loc) (cells slots : Nat), n < N → d = d' + 1 → (pc, i, len, a, x) ∈ (cod mi).flatten → decode (cM mi) pc = .ok (i, len) → (lenI i = 0 ∨ lenI i = len) → okB (yM mi).cls pc (i, len, a, x) = true →
      sem1 S mi i len a x pc ls st M = some (.inr (.inl (mj, as, pc', ls, rest))) → okL ls → okS st → okM M → ex n (scW mj S) d' mj 0 (entL (lM mj) as) [] M = some (o1, M1, q1) → (kdM mj = 1 → q1 = 0) → (∃ pc2 ls2 st2, contA mi o1 pc' ls rest pc2 ls2 st2) → LR ad (lM mi) ls lsC → va_P D vwCl (wsW cy ad M) H → va_S A s.heap H locs → cells + cnt1 mj q1 ≤ R.cells → slots + 6 * cnt1 mj q1 ≤ R.slots →
      (∀ (H1 : Heap) (locs1 : List Loc) (lsC1 : Array Slot) (pc2 : Nat) (ls2 : Ls) (st2 : List Vv), contA mi o1 pc' ls rest pc2 ls2 st2 → LR ad (lM mi) ls2 lsC1 → va_P D vwCl (wsW cy ad M1) H1 → va_S A s.heap H1 locs1 → W p l e R s m args below meth c H1 locs1 (cells + cnt1 mj q1) (slots + 6 * cnt1 mj q1) Q (F0 m pc2 lsC1 (st2.map (conc ad)))) →
      W p l e R s m args below meth c H locs cells slots Q (F0 m pc lsC (st.map (conc ad)))) :
    ∀ (n : Nat), n ≤ N → ∀ (pc : Nat) (ls : Ls) (st : List Vv) (M : Mm) (o : Option Vv ⊕ Nat) (M' : Mm) (q : Nat) (lsC : Array Slot) (H : Heap) (locs : List Loc) (cells slots : Nat), ex n S d mi pc ls st M = some (o, M', q) → okL ls → okS st → okM M → LR ad (lM mi) ls lsC → va_P D vwCl (wsW cy ad M) H → va_S A s.heap H locs → cells + q ≤ R.cells → slots + 6 * q ≤ R.slots →
      (∀ (H1 : Heap) (locs1 : List Loc) (lsC1 : Array Slot) (i : Jvm.ClassFile.Instr) (pc len a : Nat) (x : Int) (ls : Ls) (st : List Vv), (pc, i, len, a, x) ∈ (cod mi).flatten → decode (cM mi) pc = .ok (i, len) → (lenI i = 0 ∨ lenI i = len) → okB (yM mi).cls pc (i, len, a, x) = true → sem1 S mi i len a x pc ls st M' = some (.inr (.inr o)) → okS st → okM M' → LR ad (lM mi) ls lsC1 → va_P D vwCl (wsW cy ad M') H1 → va_S A s.heap H1 locs1 →
        W p l e R s m args below meth c H1 locs1 (cells + q) (slots + 6 * q) Q (F0 m pc lsC1 (st.map (conc ad)))) →
      W p l e R s m args below meth c H locs cells slots Q (F0 m pc lsC (st.map (conc ad))) := by
  intro n
  induction n with
  | zero => intro _ pc ls st M o M' q lsC H locs cells slots h; rw [ex] at h; cases h
  | succ n ih =>
    intro hN pc ls st M o M' q lsC H locs cells slots h hl hs hm hL hP hS0 hc hc2 END
    rcases ex_is h with ⟨pc', ls', st', M1, h1, h2⟩ | ⟨h1, e1, e2⟩ | ⟨mj, as, pc', ls', rest, d', o1, M1, q1, pc2, ls2, st2, q2, h1, e1, h2, h3, h4, h5, h6, h7⟩
    · obtain ⟨i, len, a, x, d0, d1, d2, d3, h1⟩ := sem_is hme h1
      obtain ⟨k1, k2, k3⟩ := sem1_ok hS d3 hl hs hm h1
      exact stepW F d1 d2 d3 h1 hL hP hS0 hs (apD hap hA) hSc ⟨hRm.1, hRm.2, by omega, by omega⟩ (fun H1 locs1 lsC1 g1 g2 g3 => ih (by omega) _ _ _ _ _ _ _ _ _ _ _ _ h2 k1 k2 k3 g1 g2 g3 hc hc2 END)
    · subst e1
      subst e2
      obtain ⟨i, len, a, x, d0, d1, d2, d3, h1⟩ := sem_is hme h1
      exact END H locs lsC i pc len a x ls st d0 d1 d2 d3 h1 hs hm hL hP hS0
    · obtain ⟨i, len, a, x, d0, d1, d2, d3, h1⟩ := sem_is hme h1
      have hci := call_is d3 h1
      obtain ⟨g1, g2, g3, g4, g5, g6, g7, g8, g9⟩ := hci
      subst g1
      subst g3
      obtain ⟨p1, p2⟩ := okS_pop g4 hs
      obtain ⟨c1, c2, c3⟩ := ex_ok _ _ (scW_r hS) _ _ _ _ _ _ _ _ _ g7 (okL_ent p1) okS_nil hm h2
      refine CR n d' mj as rest i pc len mj pc' x ls' st M o1 M1 q1 lsC H locs cells slots (by omega) e1 d0 d1 d2 d3 h1 hl hs hm h2 h6 ⟨_, _, _, h3⟩ hL hP hS0 (by omega) (by omega) (fun H1 locs1 lsC1 pc3 ls3 st3 hk f1 f2 f3 => ?_)
      have hkk : pc3 = pc2 ∧ ls3 = ls2 ∧ st3 = st2 ∧ okL ls2 ∧ okS st2 := by
        cases o1 with
        | inl v =>
          obtain ⟨a1, a2, a3⟩ := hk
          obtain ⟨b1, b2, b3⟩ := h3
          subst a1 a2 a3 b1 b2 b3
          refine ⟨rfl, rfl, rfl, hl, okS_app (fun w hw => ?_) p2⟩
          cases v with
          | none => cases hw
          | some v' =>
            rw [show (some v').toList = [v'] from rfl, List.mem_singleton] at hw
            subst hw
            exact c2 _ rfl
        | inr X =>
          obtain ⟨k, a1, a2, a3⟩ := hk
          obtain ⟨k', b1, b2, b3⟩ := h3
          rw [a1] at b1
          cases b1
          subst a2 a3 b2 b3
          exact ⟨rfl, rfl, rfl, okL_set hl, okS_nil⟩
      obtain ⟨a1, a2, a3, a4, a5⟩ := hkk
      subst a1 a2 a3
      have hc3 : cells + cnt1 mj q1 + q2 = cells + q := by omega
      have hc4 : slots + 6 * cnt1 mj q1 + 6 * q2 = slots + 6 * q := by omega
      refine ih (by omega) _ _ _ _ _ _ _ _ _ _ _ _ h4 a4 a5 c1 f1 f2 f3 (by omega) (by omega) ?_
      rw [hc3, hc4]
      exact END
end MA
/-- the contract of a method that throws nothing -/
theorem metA : ∀ (N n d mi : Nat) (as : List Vv) (M : Mm) (v : Option Vv) (M' : Mm), n < N → mi ∈ miL → kdM mi = 0 → entAlen as ≤ lM mi → okS as → okM M → ex n none d mi 0 (entL (lM mi) as) [] M = some (.inl v, M', 0) → ∀ (l : Launch) (D : va_G) (cy : Cy) (ad : Nat → Nat → Nat), apart ad → Met l (yM mi) (wsA mi) (rmA d) (PcA D cy ad M as) (QcA D cy ad M' v) 0 0 (inW ad) := by
  intro N
  induction N with
  | zero => intro n d mi as M v M' hn; omega
  | succ N ih =>
    intro n d mi as M v M' hn hmi hkd hlen hs hm h l D cy ad hap
    obtain ⟨m1, m2, m3, m4, m5, m6⟩ := mi_of hmi
    refine Met.ofW (cc := cM mi) (maxL := lM mi) (ret := rM mi) m1 rfl ?_
    intro p e s m args below meth c s₁ B hml hv
    obtain ⟨rfl, hP, hK, hE⟩ := hv
    have hts := atoms_spec (ws := wsA mi) B.pre
    have hown : s.vm.findClass (yM mi).cls = some m.cls := findClass_of_methodNamed B.named
    have hl := lv_entry (as.map (conc ad)) (n := lM mi) (by rw [lgsl_len]; exact hlen)
    rw [lg_entry_eq]
    have F : Fr p s m (as.map (conc ad)).toArray c D cy mi := ⟨B.exec, B.bytes, hml, hown, fun w hw => hts w (List.mem_cons_of_mem _ hw), hK⟩
    have hL : LR ad (lM mi) (entL (lM mi) as) ((lg_sl (as.map (conc ad)) ++ List.replicate (lM mi - (lg_sl (as.map (conc ad))).length) Slot.unset).toArray) := ⟨entL_len hlen, by rw [entL_asc]; exact hl⟩
    refine runG (S := none) (A := inW ad) (R := rmA d) (N := n) (d := d) (fun _ _ e => by cases e) (meL_b mi hmi) F hap (fun q h => h) (fun _ _ e => by cases e) ⟨by show 1 ≤ d + 1; omega, by show 40 ≤ 44 * (d + 1); omega⟩ ?_ n (Nat.le_refl n) 0 (entL (lM mi) as) [] M (.inl v) M' 0 _ s.heap [] 0 0 h (okL_ent hs) okS_nil hm hL hP va_S.rf (Nat.le_refl _) (Nat.le_refl _) ?_
    · intro n1 d' mj as1 rest i pc len a pc' x ls st M0 o1 M1 q1 lsC H locs cells slots hn1 hd d0 d1 d2 d3 h1 hl1 hs1 hm1 h2 h6 hct hL1 hP1 hS1 hc1 hc2 kk
      have hc1 : cells + cnt1 mj q1 ≤ 0 := hc1
      have hc2 : slots + 6 * cnt1 mj q1 ≤ 0 := hc2
      obtain ⟨g1, g2, g3, g4, g5, g6, g7, g8, g9⟩ := call_is d3 h1
      have hk0 : kdM mj = 0 := by rw [g3]; exact kd_0 g7
      have hcn : cnt1 mj q1 = q1 := by unfold cnt1; rw [hk0]; rfl
      have hq1 : q1 = 0 := by omega
      have hce : cells = 0 := by omega
      have hsl : slots = 0 := by omega
      subst hq1 hce hsl hd
      cases o1 with
      | inr X =>
        exfalso
        exact no_thr _ _ _ _ _ _ _ _ _ _ _ (g3 ▸ g7) (by rw [hk0]; decide) h2
      | inl w =>
        have hmj : mj ∈ miL := g3 ▸ g7
        obtain ⟨p1, p2⟩ := okS_pop (g3 ▸ g4) hs1
        have hM := ih n1 d' mj as1 M0 w M1 (by omega) hmj hk0 (by rw [g3]; exact g6) p1 hm1 h2 l D cy ad hap
        exact callWG PcA_blind F hE (fun q h => h) d1 d2 d3 h1 hs1 hk0 hM (pcA_of F hE (fun q h => h) hP1 hS1) (by show d' + 2 ≤ d' + 1 + 1; omega) (by show 44 * (d' + 2) ≤ 44 * (d' + 1 + 1); omega) ⟨Nat.zero_le _, Nat.zero_le _⟩ hL1 hP1 hS1 (fun H1 locs1 f1 f2 => by
          have k := kk H1 locs1 lsC pc' ls (w.toList ++ rest) ⟨rfl, rfl, rfl⟩ hL1 f1 f2
          rw [hcn] at k
          exact k)
    · intro H1 locs1 lsC1 i pc len a x ls st d0 d1 d2 d3 h1 _ _ _ hP1 hS1
      exact retW F m4 B.returns B.notSynchronized d1 d2 d3 h1 hP1 hS1

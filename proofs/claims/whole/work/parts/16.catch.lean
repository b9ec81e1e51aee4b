/-! the law's own methods: they call what may throw, and catch -/
def R_lw : String := "RectilinearRoofLaw"
def ctN (ct : Nat) : String := match ct with
  | 13 => exN 1
  | 21 => exN 2
  | 15 => exN 3
  | _ => ""
def rowOk (pc X : Nat) : List (Nat × Nat × Nat × Nat) → Option Nat
  | [] => none
  | r :: hh => bif covers ⟨r.1, r.2.1, r.2.2.1, r.2.2.2⟩ pc && decide (ctN r.2.2.2 = exN X) then some r.2.2.1 else bif ncL.contains (exN X, ctN r.2.2.2) then rowOk pc X hh else none
theorem clk_b : ([13, 21, 15].all fun ct => inG (.classLink R_lw ct (ctN ct))) = true := by decide +kernel
theorem ctN_of {ct : Nat} (h : ctN ct ≠ "") : inG (.classLink R_lw ct (ctN ct)) = true ∧ ct ≠ 0 := by
  have hc : ct = 13 ∨ ct = 21 ∨ ct = 15 := by
    unfold ctN at h
    split at h
    · exact Or.inl rfl
    · exact Or.inr (Or.inl rfl)
    · exact Or.inr (Or.inr rfl)
    · exact absurd rfl h
  refine ⟨List.all_eq_true.mp clk_b ct (by rcases hc with rfl | rfl | rfl <;> decide), by omega⟩
theorem exN_ne (X : Nat) : exN X ≠ "" := by
  unfold exN
  split <;> decide
theorem nc_ne : ∀ q ∈ ncL, q.2 ≠ "" := by decide
theorem hdl_X {mi X : Nat} {r : Nat × Nat} (h : hdl mi X = some r) : X ∈ exL := by
  by_cases h1 : X = 1
  · subst h1; decide
  · by_cases h2 : X = 2
    · subst h2; decide
    · by_cases h3 : X = 3
      · subst h3; decide
      · exfalso
        have e1 : Nat.beq X 1 = false := by cases e : Nat.beq X 1 with
          | false => rfl
          | true => exact absurd (Nat.eq_of_beq_eq_true e) h1
        have e2 : Nat.beq X 2 = false := by cases e : Nat.beq X 2 with
          | false => rfl
          | true => exact absurd (Nat.eq_of_beq_eq_true e) h2
        have e3 : Nat.beq X 3 = false := by cases e : Nat.beq X 3 with
          | false => rfl
          | true => exact absurd (Nat.eq_of_beq_eq_true e) h3
        unfold hdl at h
        rw [e1, e2, e3] at h
        simp only [Bool.and_false, cond_false] at h
        cases h
def cwW (mi : Nat) (w : Cond) : Bool := match w with
  | .codeWith y b k r h => decide (y = yM mi) && eqB b.data.toList (cM mi).data.toList && Nat.beq k (lM mi) && decide (r = rM mi) && decide (h = hhM mi)
  | _ => false
theorem and5 {a b c d e : Bool} (h : (a && b && c && d && e) = true) : a = true ∧ b = true ∧ c = true ∧ d = true ∧ e = true := by
  cases a <;> cases b <;> cases c <;> cases d <;> cases e <;> first | exact ⟨rfl, rfl, rfl, rfl, rfl⟩ | cases h
theorem cwW_eq {mi : Nat} {w : Cond} (h : cwW mi w = true) : w = .codeWith (yM mi) (cM mi) (lM mi) (rM mi) (hhM mi) := by
  unfold cwW at h
  split at h
  · obtain ⟨h1, h2, h3, h4, h5⟩ := and5 h
    rw [of_decide_eq_true h1, eqB_ba h2, Nat.eq_of_beq_eq_true h3, of_decide_eq_true h4, of_decide_eq_true h5]
  · cases h
set_option maxRecDepth 1000000 in
theorem cw_b : ((List.range 22).all fun k => lw_good.any (cwW (1200 + k))) = true := by decide +kernel
def isW (mi : Nat) : Prop := 1200 ≤ mi ∧ mi < 1222
theorem cw_in {mi : Nat} (h : isW mi) : Cond.codeWith (yM mi) (cM mi) (lM mi) (rM mi) (hhM mi) ∈ lw_good := by
  have g := List.all_eq_true.mp cw_b (mi - 1200) (List.mem_range.mpr (by unfold isW at h; omega))
  rw [show 1200 + (mi - 1200) = mi from by unfold isW at h; omega] at g
  obtain ⟨w, hw, e⟩ := List.any_eq_true.mp g
  rw [← cwW_eq e]
  exact hw
def goesB (mi h j pc2 : Nat) : Bool := match decode (cM mi) h with
  | .ok (.astore i, 2) => Nat.beq i j && Nat.beq (h + 2) pc2
  | .ok (.astore_n i, 1) => Nat.beq i j && Nat.beq (h + 1) pc2
  | _ => false
def hdOK (mi pc X : Nat) : Bool := match hdl mi X with
  | none => true
  | some (pc2, j) => match rowOk pc X (hhM mi) with
    | none => false
    | some h => Nat.blt j (lM mi) && goesB mi h j pc2
def wiOK (mi pc : Nat) (i : Jvm.ClassFile.Instr) (a : Nat) : Bool := match i with
  | .invokevirtual _ => Nat.beq (kdM a) 1 && exL.all (hdOK mi pc)
  | .invokestatic _ => false
  | _ => true
set_option maxRecDepth 1000000 in
theorem hd_b : ((List.range 22).all fun k => Nat.beq (kdM (1200 + k)) 2 && decide ((yM (1200 + k)).cls = R_lw) && miL.contains (1200 + k) && caS (1200 + k) && (cod (1200 + k)).flatten.all (fun q => wiOK (1200 + k) q.1 q.2.1 q.2.2.2.1)) = true := by decide +kernel
theorem w_of {mi : Nat} (h : isW mi) : kdM mi = 2 ∧ (yM mi).cls = R_lw ∧ mi ∈ miL ∧ caS mi = true ∧ ∀ q ∈ (cod mi).flatten, wiOK mi q.1 q.2.1 q.2.2.2.1 = true := by
  have g := List.all_eq_true.mp hd_b (mi - 1200) (List.mem_range.mpr (by unfold isW at h; omega))
  rw [show 1200 + (mi - 1200) = mi from by unfold isW at h; omega] at g
  obtain ⟨g1, g2, g3, g4, g5⟩ := and5 g
  exact ⟨Nat.eq_of_beq_eq_true g1, of_decide_eq_true g2, List.contains_iff_mem.mp g3, g4, fun q hq => List.all_eq_true.mp g5 q hq⟩
theorem kd_cls : (miL.all fun mi => bif Nat.beq (kdM mi) 1 then caV mi && !(caS mi) else true) = true := by decide +kernel
theorem LR.st0 {ad : Nat → Nat → Nat} {nL : Nat} {ls : Ls} {lsC : Array Slot} {i : Nat} {v : Value} (hl : ls.length = nL)
    (h : lv_has lsC nL ((i, v) :: (ascF ad 0 ls).filter (fun q => !(q.1 == i) && !(q.1 + 1 == i && q.2.category == 2)))) : LR ad nL ((clrL ls i).set i none) lsC := by
  refine ⟨by rw [List.length_set, clrL_len, hl], lv_weak h ?_⟩
  intro q hq
  obtain ⟨j, w, h1, rfl⟩ := ascF_mem.mp hq
  rw [nthL_set] at h1
  split at h1
  · split at h1 <;> cases h1
  · next hn =>
    obtain ⟨h2, h3⟩ := clrL_nth h1
    refine List.mem_cons_of_mem _ (List.mem_filter.mpr ⟨ascF_mem.mpr ⟨j, w, h2, rfl⟩, ?_⟩)
    simp only [Nat.zero_add, Bool.and_eq_true, Bool.not_eq_true', beq_eq_false_iff_ne, ne_eq, Bool.and_eq_false_iff]
    refine ⟨hn, ?_⟩
    by_cases hj : j + 1 = i
    · right
      intro hc
      exact h3 ⟨hj, (conc_cat ad w).mp hc⟩
    · exact Or.inl hj
section CT
variable {p : Program} {l : Launch} {e : Env} {R : Room} {s : State} {m : MethodId} {args : Array Value} {below : List Frame} {meth : Method} {c : Code} {H : Heap} {locs : List Loc} {cells slots : Nat} {Q : State → Prop}
variable {D : va_G} {cy : Cy} {ad : Nat → Nat → Nat} {A : Nat → Prop} {H0 : Heap} {mi : Nat} {S : Sc}
theorem catchR (hown : s.vm.findClass R_lw = some m.cls) (hg : ∀ w ∈ lw_good, w.before args s = true) (hE : ENV A s s.heap) {pc X h : Nat} {ce : Cell} {q : Addr} {rest : List Value} {lsC : Array Slot} (hX : X ∈ exL) (hcell : H[q]? = some ce) (hv : ce.vm = .none) (hcl : s.vm.findClass (exN X) = some ce.cls)
    (kk : W p l e R s m args below meth c H locs cells slots Q (F0 m h lsC [.ref q])) : ∀ (hh : List (Nat × Nat × Nat × Nat)) (pre : List ExceptionTableEntry), c.exceptionTable.toList = pre ++ tableOf hh → (∀ z ∈ pre, covers z pc = false ∨ (z.catchType ≠ 0 ∧ ∃ nm : String, (Cond.classLink R_lw z.catchType nm).before args s = true ∧ va_Nc (exN X) nm s)) → rowOk pc X hh = some h →
    vx_W p l e R s m args below meth c H locs cells slots Q (F0 m pc lsC rest) q
  | [], pre, hsp, hpre, hr => by cases hr
  | r :: hh, pre, hsp, hpre, hr => by
    unfold rowOk at hr
    cases hb : (covers ⟨r.1, r.2.1, r.2.2.1, r.2.2.2⟩ pc && decide (ctN r.2.2.2 = exN X)) with
    | true =>
      rw [hb] at hr
      rw [Bool.and_eq_true, decide_eq_true_eq] at hb
      cases hr
      obtain ⟨c1, c2⟩ := ctN_of (ct := r.2.2.2) (by rw [hb.2]; exact exN_ne X)
      exact vx_catch (name := ctN r.2.2.2) hown pre ⟨r.1, r.2.1, r.2.2.1, r.2.2.2⟩ (tableOf hh) hsp hpre hb.1 c2 (hg _ (inG_m c1)) (by rw [hb.2]; exact va_Nw.use rfl (hE.1 _ (inTb_m (ex_of hX).2.2.2.1) rfl)) hcell hv hcl kk
    | false =>
      rw [hb] at hr
      cases hc : ncL.contains (exN X, ctN r.2.2.2) with
      | false => rw [hc] at hr; cases hr
      | true =>
        rw [hc] at hr
        have hm := List.contains_iff_mem.mp hc
        obtain ⟨c1, c2⟩ := ctN_of (ct := r.2.2.2) (nc_ne _ hm)
        refine catchR hown hg hE hX hcell hv hcl kk hh (pre ++ [⟨r.1, r.2.1, r.2.2.1, r.2.2.2⟩]) (by rw [hsp, List.append_assoc]; rfl) (fun z hz => ?_) hr
        rcases List.mem_append.mp hz with hz | hz
        · exact hpre z hz
        · rw [List.mem_singleton] at hz
          subst hz
          exact Or.inr ⟨c2, ctN r.2.2.2, hg _ (inG_m c1), hE.2.2.1 _ hm⟩
theorem am_callX {pc mc ms : Nat} {lsC : Array Slot} {st0 rest : List Value} {a : Array Value} {M' : Mm} {o : Option Vv ⊕ Nat} (hr : vx_Run p l e R s m args below meth c H locs cells slots mc ms (F0 m pc lsC st0) rest (QcX D cy ad M' o a) (XcA D cy ad M' o) (inW ad)) (hS : va_S A H0 H locs) (hA : ∀ q, inW ad q → A q)
    (kx : ∀ X, o = .inr X → ∀ (H1 : Heap) (locs1 : List Loc) (ce : Cell) (q9 : Addr), va_P D vwCl (wsW cy ad M') H1 → va_S A H0 H1 locs1 → H1[q9]? = some ce → ce.vm = .none → s.vm.findClass (exN X) = some ce.cls → vx_W p l e R s m args below meth c H1 locs1 (cells + mc) (slots + ms) Q (F0 m pc lsC rest) q9)
    (kk : ∀ v, o = .inl v → ∀ (H1 : Heap) (locs1 : List Loc), va_P D vwCl (wsW cy ad M') H1 → va_S A H0 H1 locs1 → W p l e R s m args below meth c H1 locs1 (cells + mc) (slots + ms) Q (F0 m (pc + 3) lsC ((v.map (conc ad)).toList ++ rest))) : W p l e R s m args below meth c H locs cells slots Q (F0 m pc lsC st0) := by
  intro T hT X
  rcases hr T hT X with ⟨v', st₀, t, T', L, h0, X', hL, e1, e2, hq, st⟩ | ⟨q, st₀, t, T', L, E, ce, h0, X', hL, e1, e2, hx, hce, hcv, hcl, st⟩
  · cases o with
    | inr X2 => exact hq.elim
    | inl v =>
      obtain ⟨⟨hv, hb⟩, hF⟩ := (hq : QcA D cy ad M' v a st₀ (.returned v') t)
      cases hv
      obtain ⟨k1, k2, k3⟩ := vx_keep h0 e1 hS (fun q _ h => hA q h) hA hL hF
      obtain ⟨t2, a1, b1⟩ := kk v rfl T'.heap (locs ++ L) (by rw [e1]; exact hb) k3 T' rfl X'
      exact ⟨t2, st t2 a1, b1⟩
  · cases o with
    | inl v => exact hx.elim
    | inr X2 =>
      obtain ⟨hE, hb, hF⟩ := (hx : E = exN X2 ∧ va_P D vwCl (wsW cy ad M') t.heap ∧ va_F (inW ad) st₀ t)
      obtain ⟨k1, k2, k3⟩ := vx_keep h0 e1 hS (fun q _ h => hA q h) hA hL hF
      obtain ⟨t2, a1, b1⟩ := kx X2 rfl T'.heap (locs ++ L) ce q (by rw [e1]; exact hb) k3 (by rw [e1]; exact hce) hcv (by rw [← hE]; exact hcl) T' rfl X'
      exact ⟨t2, st.trans a1, b1⟩
/-- a call of a method that may throw -/
theorem callWX (F : Fr p s m args c D cy mi) (hE : ENV A s s.heap) (hA : ∀ q, inW ad q → A q) {i : Jvm.ClassFile.Instr} {pc len a mj pc' d : Nat} {x : Int} {ls ls' : Ls} {st as rest : List Vv} {M M' : Mm} {o : Option Vv ⊕ Nat} (hd : decode (cM mi) pc = .ok (i, len)) (hn : lenI i = 0 ∨ lenI i = len) (hok : okB (yM mi).cls pc (i, len, a, x) = true)
    (h : sem1 S mi i len a x pc ls st M = some (.inr (.inl (mj, as, pc', ls', rest)))) (hst : okS st) (hk : kdM mj = 1) (hM : vx_Met l (yM mj) (wsA mj) (rmX d) (PcA D cy ad M as) (QcX D cy ad M' o) (XcA D cy ad M' o) 1 6 (inW ad)) (hRf : d + 8 ≤ R.frames) (hRl : 60 * (d + 3) + 100 ≤ R.locals) (hRc : cells + 1 ≤ R.cells ∧ slots + 6 ≤ R.slots)
    {lsC : Array Slot} (hL : LR ad (lM mi) ls lsC) (hP : va_P D vwCl (wsW cy ad M) H) (hS : va_S A s.heap H locs)
    (kx : ∀ X, o = .inr X → ∀ (H1 : Heap) (locs1 : List Loc) (ce : Cell) (q9 : Addr), va_P D vwCl (wsW cy ad M') H1 → va_S A s.heap H1 locs1 → H1[q9]? = some ce → ce.vm = .none → s.vm.findClass (exN X) = some ce.cls → vx_W p l e R s m args below meth c H1 locs1 (cells + 1) (slots + 6) Q (F0 m pc lsC (rest.map (conc ad))) q9)
    (kk : ∀ v, o = .inl v → ∀ (H1 : Heap) (locs1 : List Loc), va_P D vwCl (wsW cy ad M') H1 → va_S A s.heap H1 locs1 → W p l e R s m args below meth c H1 locs1 (cells + 1) (slots + 6) Q (F0 m pc' lsC ((v.toList ++ rest).map (conc ad)))) : W p l e R s m args below meth c H locs cells slots Q (F0 m pc lsC (st.map (conc ad))) := by
  obtain ⟨g1, g2, g3, g4, g5, g6, g7, g8, g9⟩ := call_is hok h
  subst g1
  subst g3
  subst g2
  obtain ⟨p1, p2⟩ := popN_as g4
  obtain ⟨o1, o2⟩ := okS_pop g4 hst
  obtain ⟨m1, m2, m3, m4, m5, m6⟩ := mi_of g7
  have hEH : ENV (inW ad) s H := (hE.kept hS).narrow hA
  have hkc := List.all_eq_true.mp kd_cls mj g7
  rw [hk] at hkc
  have hkc : (caV mj && !(caS mj)) = true := hkc
  rw [Bool.and_eq_true] at hkc
  have hroom : ((rest.map (conc ad)).map fun v => v.category).sum ≤ 8 := by
    rw [cat_ent]
    exact g5
  have hstack : st.map (conc ad) = (as.map (conc ad)).reverse ++ rest.map (conc ad) := by
    rw [p2, List.map_append, List.map_reverse]
  have hPc : ∀ U : State, U.heap = H → s.WarmedH U.vm → PcA D cy ad M as (as.map (conc ad)).toArray U := fun U hU hW =>
    ⟨rfl, by rw [hU]; exact hP, va_K.moved hW.alike F.2.2.2.2.2, by rw [hU]; exact hEH.warm hW⟩
  have hRoom : (rmX d).frames + 1 ≤ R.frames ∧ 8 + (lM mj + 11) + (rmX d).locals ≤ R.locals := by
    refine ⟨hRf, ?_⟩
    show 8 + (lM mj + 11) + (60 * (d + 2) + 100) ≤ R.locals
    omega
  rcases g9 with ⟨idx, t, k, as', e1, e2, e3⟩ | ⟨idx, e1⟩
  · subst e1
    subst e2
    obtain ⟨h1, h2, q, hq, q1, q2, q3, q4⟩ := ml_of (b := true) (own := (yM mi).cls) (idx := idx) (a := mj) hok
    rw [caB, Bool.and_eq_true] at h1
    have hini : Cond.initialized (yM mj).cls ∈ lw_good := in_any h1.1
    have h1 := h1.2
    rw [hk] at h1
    have hcode : Cond.code (yM mj) (cM mj) (lM mj) (rM mj) ∈ lw_good := cd_any h1
    have hwsA : ∀ w ∈ wsA mj, w ∈ lw_good := fun w hw => (List.mem_cons.mp hw).elim (fun e => e ▸ hcode) id
    have hcv : caV mj = true := h2
    have hml : Cond.methodLink (yM mi).cls idx (yM mj) ∈ lw_good := by
      have g := walkL_in mlT_b q hq
      unfold mlW at g
      rw [Nat.eq_of_beq_eq_true q4, q1, q2, q3] at g
      exact List.mem_filter.mpr ⟨g, rfl⟩
    have hvc := List.all_eq_true.mp vi_cls mj g7
    rw [hcv] at hvc
    have hvc : (decide ((yM mj).cls = RR' (mj / 100)) && Nat.blt (mj / 100) 11) = true := hvc
    rw [Bool.and_eq_true, decide_eq_true_eq] at hvc
    have h11 := blt_lt hvc.2
    rw [caV, Bool.and_eq_true] at hcv
    have hdm : (t, k) ∈ dom := dom_of (o1 (.inr (.inr (t, k))) (by simp)) (by omega)
    obtain ⟨q0, hq0, he⟩ := wsW_at (cy := cy) (ad := ad) (M := M) hdm
    rw [eW_o (by omega : t < 11)] at he
    have hrec := va_recv F.2.2.2.2.2 hP (cl_at (by omega : t < 11)) he
    have hwV : ∀ w ∈ wsV (yM mi).cls idx (yM mj).cls (yM mj) (wsA mj), w ∈ lw_good := by
      intro w hw
      rcases List.mem_append.mp hw with hw | hw
      · simp only [List.mem_cons, List.not_mem_nil, or_false] at hw
        rcases hw with rfl | rfl | rfl | rfl
        · exact hml
        · exact im_any hcv.1
        · exact se_any hcv.2
        · exact hini
      · exact hwsA w hw
    have hpar := par_n m6
    rw [show caV mj = true from h2] at hpar
    have hlen : (as'.map (conc ad)).length = naM mj - 1 := by
      rw [List.length_map, ← p1]
      rfl
    have hcls : (yM mj).cls = RR' t := by rw [hvc.1, e3]
    have hr := vx_runV (p := p) (e := e) (below := below) (meth := meth) (locs := locs) (cells := cells) (slots := slots) (g := F0 m pc lsC (List.map (conc ad) st)) (C := (yM mj).cls) (b := ad t k) (As := as'.map (conc ad)) (rest := rest.map (conc ad)) ⟨F.1, F.2.1, F.2.2.1, F.2.2.2.1, F.2.2.2.2.1⟩ hM (cwV (naM mj - 1) F.2.2.2.2.1 (good_g hwV) rfl rfl rfl ⟨rfl, m2, m3, hpar⟩ hRoom)
      ⟨PcA_blind, by rw [hcls]; exact hrec, hPc⟩ rfl hlen hL.2.1 (by rw [hstack]; simp [conc]) (lv_room hroom) (lnn_of hd hn rfl (by decide)) hRc
    refine am_callX hr hS hA kx (fun v hv H1 locs1 f1 f2 => ?_)
    have k1 := kk v hv H1 locs1 f1 f2
    rw [← map_tl] at k1
    exact k1
  · subst e1
    exfalso
    obtain ⟨h1, h2, -⟩ := ml_of (b := false) (own := (yM mi).cls) (idx := idx) (a := mj) hok
    have h2 : caS mj = true := h2
    rw [h2] at hkc
    cases hkc.2
def wsB (mi : Nat) : List Cond := .codeWith (yM mi) (cM mi) (lM mi) (rM mi) (hhM mi) :: lw_good
def rmB (q d : Nat) : Room := { frames := d + 8, cells := q, slots := 6 * q, locals := 60 * (d + 3) + 100 }
theorem met_of_x {y : MethodName} {ws : List Cond} {rm : Room} {Pc : Array Value → State → Prop} {Qc : Array Value → State → Outcome → State → Prop} {mc ms : Nat} {free : Addr → Prop} (h : vx_Met l y ws rm Pc Qc (fun _ _ _ => False) mc ms free) : Met l y ws rm Pc Qc mc ms free := by
  intro p e ha hc hk s m args below hf happ hP hK
  obtain ⟨k, o, h1, h2, h3, hQ⟩ := h p e ha hc hk s m args below hf happ hP hK
  refine ⟨k, o, h1, h2, h3, ?_⟩
  rcases hQ with g | ⟨q, -, E, ce, L, hx, -⟩
  · exact g
  · exact hx.elim
/-- the contract of a method of the law's that catches -/
theorem metB {n d mi : Nat} {as : List Vv} {M : Mm} {v : Option Vv} {M' : Mm} {q : Nat} (hw : isW mi) (hlen : entAlen as ≤ lM mi) (hs : okS as) (hm : okM M) (h : ex n none d mi 0 (entL (lM mi) as) [] M = some (.inl v, M', q)) (l : Launch) (hlt : l.stackTraces = false) (D : va_G) (cy : Cy) (ad : Nat → Nat → Nat) (hap : apart ad) : Met l (yM mi) (wsB mi) (rmB q d) (PcA D cy ad M as) (QcA D cy ad M' v) q (6 * q) (inW ad) := by
  obtain ⟨w1, w2, hmi, w4, w5⟩ := w_of hw
  obtain ⟨m1, m2, m3, m4, m5, m6⟩ := mi_of hmi
  refine met_of_x (vx_ofWH (cc := cM mi) (maxL := lM mi) (ret := rM mi) (hh := hhM mi) m1 rfl ?_)
  intro p e s m args below meth c s₁ B hml hv
  obtain ⟨rfl, hP, hK, hE⟩ := hv
  have hts := atoms_spec (ws := wsB mi) B.pre
  have hown : s.vm.findClass (yM mi).cls = some m.cls := findClass_of_methodNamed B.named
  have htb : c.exceptionTable.toList = tableOf (hhM mi) := vx_table (x := yM mi) B (hts _ List.mem_cons_self)
  have hl := lv_entry (as.map (conc ad)) (n := lM mi) (by rw [lgsl_len]; exact hlen)
  rw [lg_entry_eq]
  have F : Fr p s m (as.map (conc ad)).toArray c D cy mi := ⟨B.exec, B.bytes, hml, hown, fun w hw => hts w (List.mem_cons_of_mem _ hw), hK⟩
  have hL : LR ad (lM mi) (entL (lM mi) as) ((lg_sl (as.map (conc ad)) ++ List.replicate (lM mi - (lg_sl (as.map (conc ad))).length) Slot.unset).toArray) := ⟨entL_len hlen, by rw [entL_asc]; exact hl⟩
  refine runG (S := none) (A := inW ad) (R := rmB q d) (N := n) (d := d) (fun _ _ e => by cases e) (meL_b mi hmi) F hap (fun q h => h) (fun _ _ e => by cases e) ⟨by show 1 ≤ d + 8; omega, by show 40 ≤ 60 * (d + 3) + 100; omega⟩ ?_ n (Nat.le_refl n) 0 (entL (lM mi) as) [] M (.inl v) M' q _ s.heap [] 0 0 h (okL_ent hs) okS_nil hm hL hP va_S.rf (by show 0 + q ≤ q; omega) (by show 0 + 6 * q ≤ 6 * q; omega) ?_
  · intro n1 d' mj as1 rest i pc len a pc' x ls st M0 o1 M1 q1 lsC H locs cells slots hn1 hd d0 d1 d2 d3 h1 hl1 hs1 hm1 h2 h6 hct hL1 hP1 hS1 hc1 hc2 kk
    obtain ⟨g1, g2, g3, g4, g5, g6, g7, g8, g9⟩ := call_is d3 h1
    have hmj : mj ∈ miL := g3 ▸ g7
    obtain ⟨p1, p2⟩ := okS_pop (g3 ▸ g4) hs1
    have hw5 := w5 _ d0
    subst hd
    rcases g9 with ⟨idx, t, k, as', e1, e2, e3⟩ | ⟨idx, e1⟩
    · subst e1
      have hw5 : (Nat.beq (kdM a) 1 && exL.all (hdOK mi pc)) = true := hw5
      rw [Bool.and_eq_true] at hw5
      have hk1 : kdM mj = 1 := by rw [g3]; exact Nat.eq_of_beq_eq_true hw5.1
      have hcn : cnt1 mj q1 = 1 := by unfold cnt1; rw [hk1]; rfl
      rw [hcn] at hc1 hc2 kk
      have hM := metX hmj hk1 (by rw [g3]; exact g6) p1 hm1 h2 l hlt D cy ad hap
      refine callWX F hE (fun q h => h) d1 d2 d3 h1 hs1 hk1 hM (by show d' + 8 ≤ d' + 1 + 8; omega) (by show 60 * (d' + 3) + 100 ≤ 60 * (d' + 1 + 3) + 100; omega) ⟨hc1, hc2⟩ hL1 hP1 hS1 ?_ ?_
      · intro X hX H1 locs1 ce q9 f1 f2 f3 f4 f5
        subst hX
        obtain ⟨pc2, ls2, st2, k2, hh, -, -⟩ := hct
        have hX := hdl_X hh
        have g := List.all_eq_true.mp hw5.2 X hX
        unfold hdOK at g
        rw [hh] at g
        dsimp only at g
        split at g
        · cases g
        · next hp hr =>
          rw [Bool.and_eq_true] at g
          have hown' : s.vm.findClass R_lw = some m.cls := w2 ▸ hown
          refine catchR (pc := pc) (X := X) (h := hp) (ce := ce) (q := q9) hown' F.2.2.2.2.1 hE hX f3 f4 f5 ?_ (hhM mi) [] (by rw [List.nil_append]; exact htb) (fun z hz => absurd hz List.not_mem_nil) hr
          have hkk := fun lsC1 hL2 => kk H1 locs1 lsC1 pc2 ((clrL ls k2).set k2 none) [] ⟨k2, hh, rfl, rfl⟩ hL2 f1 f2
          have g2 := g.2
          unfold goesB at g2
          split at g2
          · next i' hd' =>
            rw [Bool.and_eq_true] at g2
            have e4 := Nat.eq_of_beq_eq_true g2.1
            have e5 := Nat.eq_of_beq_eq_true g2.2
            subst e4 e5
            exact lv_astore F.1 F.2.1 hd' hL1.2 (blt_lt g.1) rfl (fun ls1 h1 => hkk ls1 (LR.st0 hL1.1 h1))
          · next i' hd' =>
            rw [Bool.and_eq_true] at g2
            have e4 := Nat.eq_of_beq_eq_true g2.1
            have e5 := Nat.eq_of_beq_eq_true g2.2
            subst e5
            exact lv_astore_n F.1 F.2.1 hd' e4 hL1.2 (blt_lt g.1) rfl (fun ls1 h1 => hkk ls1 (LR.st0 hL1.1 h1))
          · cases g2
      · intro w hX H1 locs1 f1 f2
        subst hX
        exact kk H1 locs1 lsC pc' ls (w.toList ++ rest) ⟨rfl, rfl, rfl⟩ hL1 f1 f2
    · subst e1
      cases hw5
  · intro H1 locs1 lsC1 i pc len a x ls st d0 d1 d2 d3 h1 _ _ hL1 hP1 hS1
    have k := retW (cells := q) (slots := 6 * q) (below := below) (p := p) (l := l) (e := e) (R := rmB q d) F m4 B.returns B.notSynchronized d1 d2 d3 h1 hP1 hS1 (lsC := lsC1)
    rw [Nat.zero_add, Nat.zero_add]
    exact vx_ret k
end CT

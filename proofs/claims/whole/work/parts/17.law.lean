/-! THE CLAIM OUT OF ONE WALK OF THE LAW'S BODY. Your part is whole_start (and what it stands on); all else here is the same for every law, but numbers. -/
def R_law : String := "RectilinearRoofLaw"
def lw_P (b : Addr) (xs : List Int32) (args : Array Value) (s : State) : Prop := args = #[.ref b] ∧ s.IntsAt b xs ∧ xs.length ≤ 3072 ∧ (Jvm.Cond.and given_1 narrow_1).before args s = true
def lw_Q (_ : Array Value) (s : State) (o : Outcome) (t : State) : Prop := o = .returned (some (.int 1)) ∧ Framed s o t [] 601024 7293034
def lw_Z (below : List Frame) (a : Array Value) (s : State) : State → Prop := fun t => ∃ o, t.status = .running ∧ Ended t below o ∧ lw_Q a s o t
/-- the law's own end, with 1 on the stack, nothing written that was there before, its room as the claim has it -/
theorem lw_ret {p : Program} {l : Launch} {e : Env} {s : State} {m : MethodId} {below : List Frame} {meth : Method} {c : Code} {b : Nat} (hx : p.tables.exec = Jvm.exec) (hb : c.code = code) (hr : meth.sig.returnType = ret) (hlocks : meth.locks = false) {pc : Nat} {H : Heap} {ls : Array Slot} (hdg : decode code pc = .ok (.ireturn, 1)) : W p l e room_1 s m #[Value.ref b] below meth c H [] 601024 7293034 (lw_Z below #[Value.ref b] s) (F0 m pc ls [.int 1]) := by
  intro T hT X
  obtain ⟨fs, hret, hrun, hended, hW, hframe⟩ := X.leave (v := some (.int 1)) (hlocks := hlocks) (fun h => by rw [hr] at h; cases h)
  have hmeth' : T.vm.method? m = some meth := X.method'
  refine ⟨T.setFrames fs, ?_, .returned (some (.int 1)), hrun, hended, rfl, ⟨_, rfl⟩, hW, hframe⟩
  jvm_step X.here [X.here.top, hx, hb, hdg, hmeth', hr, ret, narrow_b1]
  (try refine ⟨rfl, ?_⟩); (try refine ⟨rfl, ?_⟩)
  first | (intro acts; rw [hret _ acts rfl rfl rfl]) | rw [hret _ _ rfl rfl rfl]
  exact Steps.refl _
/-- what holds at the law's entry: the machine, the code, the tables' words (any of lw_tbl by 'hts w (by decide +kernel)'), the script of L ints xs at the cell b, what the Statement gives of the start (any of its parts by flat_of_before) -/
def lw_At (p : Program) (s : State) (m : MethodId) (meth : Method) (c : Code) (b L : Nat) (xs : Nat → Int32) : Prop :=
  p.tables.exec = Jvm.exec ∧ c.code = code ∧ meth.sig.returnType = ret ∧ c.maxLocals = 7 ∧ s.vm.findClass R_law = some m.cls ∧ (∀ w ∈ lw_tbl, w.before #[Value.ref b] s = true) ∧ va_X b L xs s s.heap ∧ b < s.heap.size ∧ meth.locks = false ∧ (Jvm.Cond.and given_1 narrow_1).before #[Value.ref b] s = true
/-! the law's run, from where all its cells are made -/
def st0L : Ls := [some (.inr (.inr (51, 0))), some (.inr (.inr (9, 0))), some (.inr (.inr (10, 0))), some (.inr (.inr (50, 0))), none, none, none]
def lawI (i : Jvm.ClassFile.Instr) (a : Nat) : Bool := match i with
  | .invokevirtual _ => Nat.beq (kdM a) 0
  | .invokestatic _ => Nat.ble 1200 a && Nat.blt a 1222
  | _ => true
set_option maxRecDepth 1000000 in
theorem lawI_b : ((cod 1222).flatten.all fun q => lawI q.2.1 q.2.2.2.1) = true := by decide +kernel
theorem ml_w2 : (mlT.all fun q => !(Nat.beq q.2.2.2.2 2 && Nat.ble 1200 q.2.2.2.1)) = true := by decide +kernel
theorem w_no : ((List.range 22).all fun k => !(isMM (1200 + k))) = true := by decide +kernel
set_option maxRecDepth 100000 in
theorem room_k {x y r : Nat} (h1 : x ≤ 40) (h2 : 60 * (y + 4) + 100 ≤ r) : 8 + (x + 11) + (60 * (y + 3) + 100) ≤ r := by omega
section LW
variable {p : Program} {l : Launch} {e : Env} {R : Room} {s : State} {m : MethodId} {args : Array Value} {below : List Frame} {meth : Method} {c : Code} {H : Heap} {locs : List Loc} {cells slots : Nat} {Q : State → Prop}
variable {D : va_G} {cy : Cy} {ad : Nat → Nat → Nat} {A : Nat → Prop} {H0 : Heap} {mi : Nat} {S : Sc}
/-- a call of the law's own methods -/
theorem callWB (F : Fr p s m args c D cy mi) (hE : ENV A s s.heap) (hA : ∀ q, inW ad q → A q) {idx pc len a mj pc' d : Nat} {x : Int} {ls ls' : Ls} {st as rest : List Vv} {M M' : Mm} {v : Option Vv} (hd : decode (cM mi) pc = .ok (.invokestatic idx, len)) (hn : lenI (.invokestatic idx) = 0 ∨ lenI (.invokestatic idx) = len) (hok : okB (yM mi).cls pc (.invokestatic idx, len, a, x) = true)
    (h : sem1 S mi (.invokestatic idx) len a x pc ls st M = some (.inr (.inl (mj, as, pc', ls', rest)))) (hst : okS st) (hw : isW mj) {mc : Nat} (hM : Met l (yM mj) (wsB mj) (rmB mc d) (PcA D cy ad M as) (QcA D cy ad M' v) mc (6 * mc) (inW ad)) (hRf : d + 9 ≤ R.frames) (hRl : 60 * (d + 4) + 100 ≤ R.locals) (hRc : cells + mc ≤ R.cells ∧ slots + 6 * mc ≤ R.slots)
    {lsC : Array Slot} (hL : LR ad (lM mi) ls lsC) (hP : va_P D vwCl (wsW cy ad M) H) (hS : va_S A s.heap H locs)
    (kk : ∀ (H1 : Heap) (locs1 : List Loc), va_P D vwCl (wsW cy ad M') H1 → va_S A s.heap H1 locs1 → W p l e R s m args below meth c H1 locs1 (cells + mc) (slots + 6 * mc) Q (F0 m pc' lsC ((v.toList ++ rest).map (conc ad)))) : W p l e R s m args below meth c H locs cells slots Q (F0 m pc lsC (st.map (conc ad))) := by
  obtain ⟨g1, g2, g3, g4, g5, g6, g7, g8, -⟩ := call_is hok h
  subst g1
  subst g3
  subst g2
  obtain ⟨p1, p2⟩ := popN_as g4
  obtain ⟨o1, o2⟩ := okS_pop g4 hst
  obtain ⟨m1, m2, m3, m4, m5, m6⟩ := mi_of g7
  obtain ⟨w1, w2, w3, w4, w5⟩ := w_of hw
  have hEH : ENV (inW ad) s H := (hE.kept hS).narrow hA
  have hroom : ((rest.map (conc ad)).map fun v => v.category).sum ≤ 8 := by
    rw [cat_ent]
    exact g5
  have hstack : st.map (conc ad) = (as.map (conc ad)).reverse ++ rest.map (conc ad) := by
    rw [p2, List.map_append, List.map_reverse]
  have hPc : ∀ U : State, U.heap = H → s.WarmedH U.vm → PcA D cy ad M as (as.map (conc ad)).toArray U := fun U hU hW =>
    ⟨rfl, by rw [hU]; exact hP, va_K.moved hW.alike F.2.2.2.2.2, by rw [hU]; exact hEH.warm hW⟩
  have hRoom : (rmB mc d).frames + 1 ≤ R.frames ∧ 8 + (lM mj + 11) + (rmB mc d).locals ≤ R.locals := by
    refine ⟨hRf, ?_⟩
    show 8 + (lM mj + 11) + (60 * (d + 3) + 100) ≤ R.locals
    exact room_k m5 hRl
  obtain ⟨h1, h2, q, hq, q1, q2, q3, q4⟩ := ml_of (b := false) (own := (yM mi).cls) (idx := idx) (a := mj) hok
  rw [caB, Bool.and_eq_true] at h1
  have hini : Cond.initialized (yM mj).cls ∈ lw_good := in_any h1.1
  have hcv : caV mj = false := by
    have := List.all_eq_true.mp sv_no mj g7
    rw [w4] at this
    revert this
    cases caV mj <;> decide
  have hpar := par_n m6
  rw [hcv] at hpar
  have hlen : (as.map (conc ad)).length = naM mj := by rw [List.length_map, p1]
  have hml : Cond.methodLink (yM mi).cls idx (yM mj) ∈ lw_good := by
    have g := walkL_in mlT_b q hq
    have hk2 : q.2.2.2.2 ≠ 2 := by
      intro hk2
      have := List.all_eq_true.mp ml_w2 q hq
      rw [hk2, q2] at this
      unfold isW at hw
      rw [show Nat.ble 1200 mj = true from Nat.ble_eq_true_of_le hw.1] at this
      cases this
    have e5 : mlW q = Cond.methodLink (ownS q.2.1) q.2.2.1 (yM q.2.2.2.1) := by
      unfold mlW
      split
      · next h => exact absurd h hk2
      · rfl
    rw [e5, q1, q2, q3] at g
    exact List.mem_filter.mpr ⟨g, rfl⟩
  have hws : ∀ w ∈ va_wsS (yM mi).cls idx (yM mj) (wsB mj), w ∈ lw_good := by
    intro w hw'
    rcases List.mem_append.mp hw' with hw' | hw'
    · simp only [List.mem_cons, List.not_mem_nil, or_false] at hw'
      rcases hw' with rfl | rfl | rfl
      · exact hml
      · exact st_any w4
      · exact hini
    · rcases List.mem_cons.mp hw' with e | hw'
      · rw [e]; exact cw_in hw
      · exact hw'
  have hr := vx_runSW (p := p) (e := e) (below := below) (meth := meth) (locs := locs) (cells := cells) (slots := slots) (g := F0 m pc lsC (List.map (conc ad) st)) (As := as.map (conc ad)) (rest := rest.map (conc ad)) ⟨F.1, F.2.1, F.2.2.1, F.2.2.2.1, F.2.2.2.2.1⟩ hM (vx_cwSW (naM mj) F.2.2.2.2.1 (good_g hws) rfl rfl rfl ⟨m2, m3, hpar⟩ hRoom)
    ⟨PcA_blind, hPc⟩ rfl hlen hL.2.1 hstack (lv_room hroom) (lnn_of hd hn rfl (by decide)) hRc
  refine am_call hr hS hA (fun H1 locs1 f1 f2 => ?_)
  have k1 := kk H1 locs1 f1 f2
  rw [← map_tl] at k1
  exact k1
end LW
/-- THE LAW, from where its cells are made: a run of the abstract machine that answers 1 is enough -/
theorem lawW {p : Program} {e : Env} {s : State} {m : MethodId} {below : List Frame} {meth : Method} {c : Code} (l : Launch) (hlt : l.stackTraces = false) {b L : Nat} {xs : Nat → Int32} (hL : L ≤ 3072) (C0 : lw_At p s m meth c b L xs) {D : va_G} {cy : Cy} {ad : Nat → Nat → Nat} (hap : apart ad) (hAd : ∀ q, inW ad q → s.heap.size ≤ q) (h51 : ad 51 0 = b)
    (hK : va_K D vwCl (tysW cy) s) (hE : ENV (fun q => s.heap.size ≤ q) s s.heap) {H : Heap} {locs : List Loc} {lsC : Array Slot} {cells slots : Nat} {M0 : Mm} (hM0 : okM M0) (hLR : LR ad 7 st0L lsC) (hP : va_P D vwCl (wsW cy ad M0) H) (hS : va_S (fun q => s.heap.size ≤ q) s.heap H locs) {n d q : Nat} {M' : Mm} (hd : d ≤ 1000) (hc : cells + q ≤ 601024) (hs : slots + 6 * q ≤ 7293034)
    (run : ex n (some (L, fun j => (xs j).toInt)) d 1222 20 st0L [] M0 = some (.inl (some (.inl 1)), M', q)) : W p l e room_1 s m #[Value.ref b] below meth c H locs cells slots (lw_Z below #[Value.ref b] s) (F0 m 20 lsC []) := by
  obtain ⟨hx, hb, hr, hml, hown, hts, hX, hbl, hlocks, hgv⟩ := id C0
  have F : Fr p s m #[Value.ref b] c D cy 1222 := ⟨hx, hb, hml, hown, fun w hw => hts w (List.mem_filter.mp hw).1, hK⟩
  have hsz : L ≤ 3072 := hL
  have hok0 : okL st0L := by
    have h : ∀ o ∈ st0L, ∀ v, o = some v → okV v := by
      intro o ho v hv
      subst hv
      simp only [st0L, List.mem_cons, List.not_mem_nil, or_false, Option.some.injEq, reduceCtorEq] at ho
      rcases ho with rfl | rfl | rfl | rfl
      · exact Or.inr ⟨rfl, rfl⟩
      · exact Or.inl (List.contains_iff_mem.mp (by decide +kernel : dom.contains (9, 0) = true))
      · exact Or.inl (List.contains_iff_mem.mp (by decide +kernel : dom.contains (10, 0) = true))
      · exact Or.inl (List.contains_iff_mem.mp (by decide +kernel : dom.contains (50, 0) = true))
    intro i v hv
    exact h _ (nthL_mem hv) v rfl
  refine runG (S := some (L, fun j => (xs j).toInt)) (A := fun q => s.heap.size ≤ q) (R := room_1) (N := n) (d := d) ?_ me_1222 F hap hAd ?_ ⟨by show 1 ≤ 2048; omega, by show 40 ≤ 84000; omega⟩ ?_ n (Nat.le_refl n) 20 st0L [] M0 _ M' q lsC H locs cells slots run hok0 okS_nil hM0 hLR hP hS hc hs ?_
  · intro k ys he
    cases he
    exact ⟨by unfold inR; omega, fun j => ti_in _⟩
  · intro k ys he
    cases he
    exact ⟨xs, by rw [h51]; exact hX, by rw [h51]; exact hbl, by rw [h51]; exact Nat.not_le.mpr hbl, fun j => rfl⟩
  · intro n1 d' mj as1 rest i pc len a pc' x ls st M1 o1 M2 q1 lsC1 H1 locs1 cells1 slots1 hn1 hd1 d0 d1 d2 d3 h1 hl1 hs1 hm1 h2 h6 hct hL1 hP1 hS1 hc1 hc2 kk
    obtain ⟨g1, g2, g3, g4, g5, g6, g7, g8, g9⟩ := call_is d3 h1
    have hmj : mj ∈ miL := g3 ▸ g7
    obtain ⟨p1, p2⟩ := okS_pop (g3 ▸ g4) hs1
    obtain ⟨c1, c2, c3⟩ := ex_ok _ _ _ _ _ _ _ _ _ _ hmj (okL_ent p1) okS_nil hm1 h2
    have hlw := List.all_eq_true.mp lawI_b _ d0
    subst hd1
    rcases g9 with ⟨idx, t, k, as', e1, e2, e3⟩ | ⟨idx, e1⟩
    · subst e1
      have hk0 : kdM mj = 0 := by rw [g3]; exact Nat.eq_of_beq_eq_true hlw
      have hq1 : q1 = 0 := c3 (by rw [hk0]; decide)
      have hcn : cnt1 mj q1 = 0 := by unfold cnt1; rw [hk0, hq1]; rfl
      cases o1 with
      | inr X => exact (no_thr _ _ _ _ _ _ _ _ _ _ hmj (by rw [hk0]; decide) h2).elim
      | inl w =>
        subst hq1
        have hM := metA (n1 + 1) n1 d' mj as1 M1 w M2 (by omega) hmj hk0 (by rw [g3]; exact g6) p1 hm1 h2 l D cy ad hap
        rw [hcn] at hc1 hc2 kk
        exact callW0 F hE hAd d1 d2 d3 h1 hs1 hk0 hM (by show d' + 2 ≤ 2048; omega) (by show 60 * (d' + 2) ≤ 84000; omega) ⟨hc1, hc2⟩ hL1 hP1 hS1 (fun H2 locs2 f1 f2 => kk H2 locs2 lsC1 pc' ls (w.toList ++ rest) ⟨rfl, rfl, rfl⟩ hL1 f1 f2)
    · subst e1
      have hlw : (Nat.ble 1200 a && Nat.blt a 1222) = true := hlw
      rw [Bool.and_eq_true] at hlw
      have hw : isW mj := by rw [g3]; exact ⟨Nat.le_of_ble_eq_true hlw.1, blt_lt hlw.2⟩
      have hk2 := (w_of hw).1
      have hcn : cnt1 mj q1 = q1 := by unfold cnt1; rw [hk2]; rfl
      cases o1 with
      | inr X => exact (no_thr _ _ _ _ _ _ _ _ _ _ hmj (by rw [hk2]; decide) h2).elim
      | inl w =>
        have hM := metB hw (by rw [g3]; exact g6) p1 hm1 h2 l hlt D cy ad hap
        rw [hcn] at hc1 hc2 kk
        exact callWB F hE hAd d1 d2 d3 h1 hs1 hw hM (by show d' + 9 ≤ 2048; omega) (by show 60 * (d' + 4) + 100 ≤ 84000; omega) ⟨hc1, hc2⟩ hL1 hP1 hS1 (fun H2 locs2 f1 f2 => kk H2 locs2 lsC1 pc' ls (w.toList ++ rest) ⟨rfl, rfl, rfl⟩ hL1 f1 f2)
  · intro H1 locs1 lsC1 i pc len a x ls st d0 d1 d2 d3 h1 _ _ hL1 hP1 hS1
    rcases end_is d3 h1 with ⟨e1, v, e3, e4, -⟩ | ⟨-, v, e3, e4, -⟩ | ⟨-, v, e3, e4, -⟩ | ⟨-, e3, e4, -⟩ | ⟨idx, -, e3, e4, e5⟩
    · cases e4
      subst e1
      subst e3
      refine va_forget (fun q hq => hS1.2.2 q hq) ?_
      refine W.widen (k := 601024) (n := 7293034) hc hs ?_
      exact lw_ret hx hb hr hlocks (lnn_of (mi := 1222) d1 d2 rfl (by decide))
    · cases e4
    · cases e4
    · cases e4
    · cases e4

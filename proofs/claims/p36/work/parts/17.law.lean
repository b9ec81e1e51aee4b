def R_law : String := "RectilinearRoofLaw"
def lw_P (b : Addr) (xs : List Int32) (args : Array Value) (s : State) : Prop := args = #[.ref b] ∧ s.IntsAt b xs ∧ xs.length ≤ 260 ∧ (Jvm.Cond.and given_1 narrow_1).before args s = true
def lw_Q (_ : Array Value) (s : State) (o : Outcome) (t : State) : Prop := o = .returned (some (.int 1)) ∧ Framed s o t [] 600086 7301442
def lw_Z (below : List Frame) (a : Array Value) (s : State) : State → Prop := fun t => ∃ o, t.status = .running ∧ Ended t below o ∧ lw_Q a s o t
/-- the law's own end, with 1 on the stack, nothing written that was there before, its room as the claim has it -/
theorem lw_ret {p : Program} {l : Launch} {e : Env} {s : State} {m : MethodId} {below : List Frame} {meth : Method} {c : Code} {b : Nat} (hx : p.tables.exec = Jvm.exec) (hb : c.code = code) (hr : meth.sig.returnType = ret) (hlocks : meth.locks = false) {pc : Nat} {H : Heap} {ls : Array Slot} (hdg : decode code pc = .ok (.ireturn, 1)) : W p l e room_1 s m #[Value.ref b] below meth c H [] 600086 7301442 (lw_Z below #[Value.ref b] s) (F0 m pc ls [.int 1]) := by
  intro T hT X
  obtain ⟨fs, hret, hrun, hended, hW, hframe⟩ := X.leave (v := some (.int 1)) (hlocks := hlocks) (fun h => by rw [hr] at h; cases h)
  have hmeth' : T.vm.method? m = some meth := X.method'
  refine ⟨T.setFrames fs, ?_, .returned (some (.int 1)), hrun, hended, rfl, ⟨_, rfl⟩, hW, hframe⟩
  jvm_step X.here [X.here.top, hx, hb, hdg, hmeth', hr, ret, narrow_b1]
  (try refine ⟨rfl, ?_⟩); (try refine ⟨rfl, ?_⟩)
  first | (intro acts; rw [hret _ acts rfl rfl rfl]) | rw [hret _ _ rfl rfl rfl]
  exact Steps.refl _
/-- what holds at the law's entry: the machine, the code, the tables' words (any of lw_tbl by 'hts w (by decide +kernel)'), the script of L ints xs at the cell b, what the Statement gives of the start (any of its parts by flat_of_before) -/
def lw_At (p : Program) (s : State) (m : MethodId) (meth : Method) (c : Code) (b L : Nat) (xs : Nat → Int32) : Prop :=
  p.tables.exec = Jvm.exec ∧ c.code = code ∧ meth.sig.returnType = ret ∧ c.maxLocals = 27 ∧ s.vm.findClass R_law = some m.cls ∧ (∀ w ∈ lw_tbl, w.before #[Value.ref b] s = true) ∧ va_X b L xs s s.heap ∧ b < s.heap.size ∧ meth.locks = false ∧ (Jvm.Cond.and given_1 narrow_1).before #[Value.ref b] s = true
/-! the law's run, from where all its cells are made -/
def st0L : Ls := [some (.inr (.inr (51, 0))), some (.inr (.inr (9, 0))), none, none, none, none, none, none, none, none, none, none, none, none, none, none, none, none, none, none, none, none, none, none, none, none, none]
/-- THE LAW, from where its cells are made: a run of the abstract machine that answers 1 is enough -/
theorem lawW {p : Program} {e : Env} {s : State} {m : MethodId} {below : List Frame} {meth : Method} {c : Code} (l : Launch) {b L : Nat} {xs : Nat → Int32} (hL : L ≤ 260) (C0 : lw_At p s m meth c b L xs) {D : va_G} {cy : Cy} {ad : Nat → Nat → Nat} (hap : apart ad) (hAd : ∀ q, inW ad q → s.heap.size ≤ q) (h51 : ad 51 0 = b)
    (hK : va_K D vwCl (tysW cy) s) (hE : ENV (fun q => s.heap.size ≤ q) s s.heap) {H : Heap} {locs : List Loc} {lsC : Array Slot} {cells slots : Nat} {M0 : Mm} (hM0 : okM M0) (hLR : LR ad 27 st0L lsC) (hP : va_P D vwCl (wsW cy ad M0) H) (hS : va_S (fun q => s.heap.size ≤ q) s.heap H locs) {n d q : Nat} {M' : Mm} (hd : d ≤ 7) (hc : cells + q ≤ 600086) (hs : slots + 6 * q ≤ 7301442)
    (run : ex n (some (L, fun j => (xs j).toInt)) d 1222 8 st0L [] M0 = some (.inl (some (.inl 1)), M', q)) : W p l e room_1 s m #[Value.ref b] below meth c H locs cells slots (lw_Z below #[Value.ref b] s) (F0 m 8 lsC []) := by
  obtain ⟨hx, hb, hr, hml, hown, hts, hX, hbl, hlocks, hgv⟩ := id C0
  have F : Fr p s m #[Value.ref b] c D cy 1222 := ⟨hx, hb, hml, hown, fun w hw => hts w (List.mem_filter.mp hw).1, hK⟩
  have hsz : L ≤ 260 := hL
  have hok0 : okL st0L := by
    have h : ∀ o ∈ st0L, ∀ v, o = some v → okV v := by
      intro o ho v hv
      subst hv
      simp only [st0L, List.mem_cons, List.not_mem_nil, or_false, Option.some.injEq, reduceCtorEq] at ho
      rcases ho with rfl | rfl
      · exact Or.inr ⟨rfl, rfl⟩
      · exact Or.inl (List.contains_iff_mem.mp (by decide +kernel : dom.contains (9, 0) = true))
    intro i v hv
    exact h _ (nthL_mem hv) v rfl
  have hSr : ∀ k ys, (some (L, fun j => (xs j).toInt) : Sc) = some (k, ys) → inR k ∧ ∀ j, inR (ys j) := by
    intro k ys he
    cases he
    exact ⟨by unfold inR; omega, fun j => ti_in _⟩
  have hSc : scOK (some (L, fun j => (xs j).toInt)) ad (fun q => s.heap.size ≤ q) s s.heap := by
    intro k ys he
    cases he
    exact ⟨xs, by rw [h51]; exact hX, by rw [h51]; exact hbl, by rw [h51]; exact Nat.not_le.mpr hbl, fun j => rfl⟩
  refine runG (S := some (L, fun j => (xs j).toInt)) (A := fun q => s.heap.size ≤ q) (R := room_1) (N := n) (d := d) hSr me_1222 F hap hAd hSc ⟨by show 1 ≤ 10; omega, by show 40 ≤ 358; omega⟩ ?_ n (Nat.le_refl n) 8 st0L [] M0 _ M' q lsC H locs cells slots run hok0 okS_nil hM0 hLR hP hS hc hs ?_
  · intro n1 d' mj as1 rest i pc len a pc' x ls st M1 o1 M2 q1 lsC1 H1 locs1 cells1 slots1 hn1 hd1 d0 d1 d2 d3 h1 hl1 hs1 hm1 h2 h6 hct hL1 hP1 hS1 hc1 hc2 kk
    obtain ⟨g1, g2, g3, g4, g5, g6, g7, g8, g9⟩ := call_is d3 h1
    have hmj : mj ∈ miL := g3 ▸ g7
    obtain ⟨p1, p2⟩ := okS_pop (g3 ▸ g4) hs1
    obtain ⟨c1, c2, c3⟩ := ex_ok _ _ (scW_r hSr) _ _ _ _ _ _ _ _ _ hmj (okL_ent p1) okS_nil hm1 h2
    subst hd1
    have hk0 : kdM mj = 0 := kd_0 hmj
    have hq1 : q1 = 0 := c3 (by rw [hk0]; decide)
    have hcn : cnt1 mj q1 = 0 := by unfold cnt1; rw [hk0, hq1]; rfl
    cases o1 with
    | inr X => exact (no_thr _ _ _ _ _ _ _ _ _ _ _ hmj (by rw [hk0]; decide) h2).elim
    | inl w =>
      subst hq1
      rw [hcn] at hc1 hc2 kk
      cases hb9 : Nat.ble 1200 mj with
      | true =>
        rw [scW_y hb9] at h2
        have hM := metL hSr (n1 + 1) n1 d' mj as1 M1 w M2 (by omega) hmj (by rw [g3]; exact g6) p1 hm1 h2 l D cy ad hap
        exact callWG PcL_blind F hE hAd d1 d2 d3 h1 hs1 hk0 hM (pcL_of F hE hAd hSc hP1 hS1) (by show d' + 2 ≤ 10; omega) (by show 44 * (d' + 2) ≤ 358; omega) ⟨hc1, hc2⟩ hL1 hP1 hS1 (fun H2 locs2 f1 f2 => kk H2 locs2 lsC1 pc' ls (w.toList ++ rest) ⟨rfl, rfl, rfl⟩ hL1 f1 f2)
      | false =>
        rw [scW_n hb9] at h2
        have hM := metA (n1 + 1) n1 d' mj as1 M1 w M2 (by omega) hmj hk0 (by rw [g3]; exact g6) p1 hm1 h2 l D cy ad hap
        exact callWG PcA_blind F hE hAd d1 d2 d3 h1 hs1 hk0 hM (pcA_of F hE hAd hP1 hS1) (by show d' + 2 ≤ 10; omega) (by show 44 * (d' + 2) ≤ 358; omega) ⟨hc1, hc2⟩ hL1 hP1 hS1 (fun H2 locs2 f1 f2 => kk H2 locs2 lsC1 pc' ls (w.toList ++ rest) ⟨rfl, rfl, rfl⟩ hL1 f1 f2)
  · intro H1 locs1 lsC1 i pc len a x ls st d0 d1 d2 d3 h1 _ _ hL1 hP1 hS1
    rcases end_is d3 h1 with ⟨e1, v, e3, e4, -⟩ | ⟨-, v, e3, e4, -⟩ | ⟨-, v, e3, e4, -⟩ | ⟨-, e3, e4, -⟩ | ⟨idx, -, e3, e4, e5⟩
    · cases e4
      subst e1
      subst e3
      refine va_forget (fun q hq => hS1.2.2 q hq) ?_
      refine W.widen (k := 600086) (n := 7301442) hc hs ?_
      exact lw_ret hx hb hr hlocks (lnn_of (mi := 1222) d1 d2 rfl (by decide))
    · cases e4
    · cases e4
    · cases e4
    · cases e4

/-! constructors: the run, the contracts -/
def frI (am : List Nat) (sz : Nat) : Nat → Prop := fun q => q ∈ am ∨ sz ≤ q
def wsI (a : Nat) : List Cond := .code (yM (100 * a)) (cM (100 * a)) (lM (100 * a)) none :: lw_good
def rmI (d mc ms : Nat) : Room := { frames := d + 3, cells := mc, slots := ms, locals := 44 * (d + 2) }
abbrev PcI (D : va_G) (cy : Cy) (b : Nat) (am : List Nat) (hp : List He) (sz h0 : Nat) : Array Value → State → Prop := va_Pc [.ref h0] (fun U => U.heap.size = sz ∧ va_P D vwCl (wsH cy b am hp) U.heap ∧ va_K D vwCl (tysW cy) U ∧ NWs U ∧ va_AO phN U)
def QcI (D : va_G) (cy : Cy) (b : Nat) (am : List Nat) (hp hp' : List He) (sz : Nat) : Array Value → State → Outcome → State → Prop := fun _ st oc t => (oc = .returned none ∧ ∃ new : List Nat, new.length + hp.length = hp'.length ∧ va_P D vwCl (wsH cy b (am ++ new) hp') t.heap ∧ va_D (frI am sz) (wsH cy b (am ++ new) hp')) ∧ va_F (frI am sz) st t
theorem NWs.warm {s U : State} (hW : s.WarmedH U.vm) (h : NWs s) : NWs U := fun w hw hk => wkind_warm hk hW (h w hw hk)
theorem NWs.same {u U : State} (e : u.vm = U.vm) (h : NWs u) : NWs U := fun w hw hk => va_Nw.same (wkind_tab hk) e (h w hw hk)
theorem PcI_blind {D : va_G} {cy : Cy} {b : Nat} {am : List Nat} {hp : List He} {sz h0 : Nat} : FrameBlind (PcI D cy b am hp sz h0) := fun a U g mk h =>
  ⟨h.1, h.2.1, h.2.2.1, va_K.moved (u := U) (U := U.calling g mk a) (Vm.Alike.refl U.vm) h.2.2.2.1, NWs.same (u := U) (U := U.calling g mk a) rfl h.2.2.2.2.1, va_AO.moved (u := U) (U := U.calling g mk a) (Vm.Alike.refl U.vm) h.2.2.2.2.2⟩
theorem wsH_len {cy : Cy} {b : Nat} {am : List Nat} {hp : List He} (h : am.length = hp.length) : (wsH cy b am hp).length = hp.length := by unfold wsH; simp; omega
theorem am_A {cy : Cy} {b : Nat} {am : List Nat} {hp : List He} {A : Nat → Prop} (hl : am.length = hp.length) (hD : va_D A (wsH cy b am hp)) : ∀ q ∈ am, A q := by
  intro q hq
  obtain ⟨j, hj⟩ := List.getElem?_of_mem hq
  have hlt : j < hp.length := hl ▸ (List.getElem?_eq_some_iff.mp hj).1
  have h1 := wsH_at (cy := cy) (b := b) hl (List.getElem?_eq_getElem hlt)
  have h2 := hD.2 _ _ h1
  have e : am.getD j 0 = q := by rw [List.getD_eq_getElem?_getD, hj]; rfl
  rw [e] at h2
  exact h2
theorem D_fr {cy : Cy} {b : Nat} {am : List Nat} {hp : List He} {A : Nat → Prop} {sz : Nat} (hl : am.length = hp.length) (hD : va_D A (wsH cy b am hp)) : va_D (frI am sz) (wsH cy b am hp) := by
  refine ⟨hD.1, fun j q hj => ?_⟩
  have hlt : j < hp.length := by
    have := (List.getElem?_eq_some_iff.mp hj).1
    rw [wsH_len hl] at this
    exact this
  rw [wsH_at (cy := cy) (b := b) hl (List.getElem?_eq_getElem hlt)] at hj
  cases hj
  left
  show am.getD j 0 ∈ am
  rw [List.getD_eq_getElem?_getD, List.getElem?_eq_getElem (by omega)]
  exact List.getElem_mem _
section RI
variable {p : Program} {l : Launch} {e : Env} {R : Room} {s : State} {m : MethodId} {args : Array Value} {below : List Frame} {meth : Method} {c : Code} {H : Heap} {locs : List Loc} {cells slots : Nat} {Q : State → Prop}
variable {D : va_G} {cy : Cy} {b : Nat} {A : Nat → Prop} {H0 : Heap} {k : Nat}
theorem am_callI {pc mc ms sz : Nat} {lsC : Array Slot} {st0 rest : List Value} {a : Array Value} {am : List Nat} {hp hp' : List He} (hr : va_Run p l e R s m args below meth c H locs cells slots mc ms (F0 m pc lsC st0) rest (QcI D cy b am hp hp' sz a) (frI am sz)) (hS : va_S A H0 H locs) (hA : ∀ q, frI am sz q → A q)
    (kk : ∀ (new : List Nat) (H1 : Heap) (locs1 : List Loc), new.length + hp.length = hp'.length → va_P D vwCl (wsH cy b (am ++ new) hp') H1 → va_D (frI am sz) (wsH cy b (am ++ new) hp') → va_S A H0 H1 locs1 → W p l e R s m args below meth c H1 locs1 (cells + mc) (slots + ms) Q (F0 m (pc + 3) lsC rest)) : W p l e R s m args below meth c H locs cells slots Q (F0 m pc lsC st0) := by
  intro T hT X
  obtain ⟨v', st₀, t, T', L, h0, X', hL, e1, e2, ⟨⟨hv, new, hb1, hb2, hb3⟩, hz, hk⟩, st⟩ := hr T hT X
  cases hv
  rw [h0] at hz hk
  obtain ⟨t2, a1, b1⟩ := kk new T'.heap (locs ++ L) hb1 (by rw [e1]; exact hb2) hb3
    ⟨Nat.le_trans hS.1 (by rw [e1]; exact hz), fun q h1 h2 => by rw [e1, hk q (Nat.lt_of_lt_of_le h1 hS.1) (fun z => h2 (hA q z))]; exact hS.2.1 q h1 h2, fun q hq => by
      rcases List.mem_append.mp hq with h | h
      · exact hS.2.2 q h
      · exact hA _ (hL q h)⟩ T' rfl X'
  exact ⟨t2, st t2 a1, b1⟩
end RI
theorem okW_obj {k pc idx : Nat} (h : okW k pc (.invokespecial idx) 9999 = true) : mLk (yM (mI k)).cls idx Lib.objectInit = true := by
  have h : (bif Nat.beq 9999 9999 then mLk (yM (mI k)).cls idx Lib.objectInit else Nat.blt 9999 10 && (mLk (yM (mI k)).cls idx (yM (100 * 9999)) || nLk (yM (mI k)).cls idx (yM (100 * 9999)))) = true := h
  generalize mLk (yM (mI k)).cls idx Lib.objectInit = z1 at h ⊢
  generalize (Nat.blt 9999 10 && (mLk (yM (mI k)).cls idx (yM (100 * 9999)) || nLk (yM (mI k)).cls idx (yM (100 * 9999)))) = z2 at h
  rw [show Nat.beq 9999 9999 = true from rfl, cond_true] at h
  exact h
theorem okW_ini {k pc idx a : Nat} (ha : a < 10) (h : okW k pc (.invokespecial idx) a = true) : mLk (yM (mI k)).cls idx (yM (100 * a)) = true ∨ nLk (yM (mI k)).cls idx (yM (100 * a)) = true := by
  have h : (bif Nat.beq a 9999 then mLk (yM (mI k)).cls idx Lib.objectInit else Nat.blt a 10 && (mLk (yM (mI k)).cls idx (yM (100 * a)) || nLk (yM (mI k)).cls idx (yM (100 * a)))) = true := h
  generalize mLk (yM (mI k)).cls idx Lib.objectInit = z1 at h
  generalize mLk (yM (mI k)).cls idx (yM (100 * a)) = z2 at h ⊢
  generalize nLk (yM (mI k)).cls idx (yM (100 * a)) = z3 at h ⊢
  have h9 : Nat.beq a 9999 = false := by
    cases h9 : Nat.beq a 9999 with
    | true => have := Nat.eq_of_beq_eq_true h9; omega
    | false => rfl
  rw [h9, cond_false, Bool.and_eq_true, Bool.or_eq_true] at h
  exact h.2
set_option maxRecDepth 100000 in
theorem obj_k {x y d : Nat} (h : x ≤ 8) (h2 : 44 * (d + 2) ≤ y) : x + 12 ≤ y := by omega
/-- a run makes its cells in the machine -/
def RunI (n : Nat) : Prop := ∀ (d k pc : Nat) (ls : Ls) (st : List Vv) (hp : List He) (pcE : Nat) (lsE : Ls) (hpE : List He), aEx n d k pc ls st hp = some (pcE, lsE, hpE) →
  ∀ (p : Program) (l : Launch) (e : Env) (R : Room) (s : State) (m : MethodId) (args : Array Value) (below : List Frame) (meth : Method) (c : Code) (Q : State → Prop) (D : va_G) (cy : Cy) (b : Nat) (A : Nat → Prop) (am : List Nat) (lsC : Array Slot) (H : Heap) (locs : List Loc) (bc bs : Nat),
  Fr p s m args c D cy (mI k) → (k < 10 → meth.name = "<init>") → NWs s → va_AO phN s → (∀ q, s.heap.size ≤ q → A q) → d + 3 ≤ R.frames → 44 * (d + 2) ≤ R.locals → am.length = hp.length → LR (adL b am) (lM (mI k)) ls lsC → va_P D vwCl (wsH cy b am hp) H → va_D A (wsH cy b am hp) → va_S A s.heap H locs → bc ≤ hp.length → bs ≤ sloH hp → hpE.length - bc ≤ R.cells → sloH hpE - bs ≤ R.slots →
  (∀ (new : List Nat) (H1 : Heap) (locs1 : List Loc) (lsC1 : Array Slot), new.length + hp.length = hpE.length → stopI k pcE [] = true → LR (adL b (am ++ new)) (lM (mI k)) lsE lsC1 → va_P D vwCl (wsH cy b (am ++ new) hpE) H1 → va_D A (wsH cy b (am ++ new) hpE) → va_S A s.heap H1 locs1 → W p l e R s m args below meth c H1 locs1 (hpE.length - bc) (sloH hpE - bs) Q (F0 m pcE lsC1 [])) →
  W p l e R s m args below meth c H locs (hp.length - bc) (sloH hp - bs) Q (F0 m pc lsC (st.map (conc (adL b am))))
theorem metI {n d a h0 : Nat} {hp hp' : List He} {z1 : Nat} {z2 : Ls} (ih : RunI n) (ha : a < 10) (h : aEx n d a 0 (entL (lM (100 * a)) [.inr (.inr (0, h0))]) [] hp = some (z1, z2, hp')) (l : Launch) (D : va_G) (cy : Cy) (b : Nat) (am : List Nat) (sz : Nat) (hl : am.length = hp.length) (hD : va_D (frI am sz) (wsH cy b am hp)) : Met l (yM (100 * a)) (wsI a) (rmI d (hp'.length - hp.length) (sloH hp' - sloH hp)) (PcI D cy b am hp sz (am.getD h0 0)) (QcI D cy b am hp hp' sz) (hp'.length - hp.length) (sloH hp' - sloH hp) (frI am sz) := by
  have hb := List.all_eq_true.mp iI_b a (List.mem_range.mpr ha)
  simp only [Bool.and_eq_true, decide_eq_true_eq] at hb
  obtain ⟨⟨⟨⟨⟨⟨⟨b1, b2⟩, b3⟩, b4⟩, b5⟩, b6⟩, b7⟩, b8⟩ := hb
  have hmI : mI a = 100 * a := by
    unfold mI
    cases h9 : Nat.beq a 10 with
    | true => have := Nat.eq_of_beq_eq_true h9; omega
    | false => rfl
  refine Met.ofW (cc := cM (100 * a)) (maxL := lM (100 * a)) (ret := none) b2 rfl ?_
  intro p e s m args below meth c s₁ B hml hv
  obtain ⟨rfl, hsz, hP, hK, hN, hAO⟩ := hv
  subst hsz
  have hts := atoms_spec (ws := wsI a) B.pre
  have hown : s.vm.findClass (yM (100 * a)).cls = some m.cls := findClass_of_methodNamed B.named
  have hle : entAlen [.inr (.inr (0, h0))] ≤ lM (100 * a) := Nat.le_of_ble_eq_true b5
  have hent := lv_entry ([Value.ref (am.getD h0 0)]) (n := lM (100 * a)) (Nat.le_of_ble_eq_true b5)
  rw [lg_entry_eq]
  have F : Fr p s m [Value.ref (am.getD h0 0)].toArray c D cy (mI a) := by
    rw [hmI]
    exact ⟨B.exec, B.bytes, hml, hown, fun w hw => hts w (List.mem_cons_of_mem _ hw), hK⟩
  have hL : LR (adL b am) (lM (mI a)) (entL (lM (100 * a)) [.inr (.inr (0, h0))]) ((lg_sl ([Value.ref (am.getD h0 0)]) ++ List.replicate (lM (100 * a) - (lg_sl ([Value.ref (am.getD h0 0)])).length) Slot.unset).toArray) := by
    rw [hmI]
    exact ⟨entL_len hle, by rw [entL_asc]; exact hent⟩
  have hm := aEx_mono _ _ _ _ _ _ _ _ h
  have key := ih d a 0 _ [] hp z1 z2 hp' h p l e (rmI d (hp'.length - hp.length) (sloH hp' - sloH hp)) s m [Value.ref (am.getD h0 0)].toArray below meth c (MQ below (QcI D cy b am hp hp' s.heap.size) [Value.ref (am.getD h0 0)].toArray s (hp'.length - hp.length) (sloH hp' - sloH hp) (frI am s.heap.size)) D cy b (frI am s.heap.size) am _ s.heap [] hp.length (sloH hp) F (fun _ => (name_of_methodNamed B.named B.method).1.trans b3) hN hAO (fun q hq => Or.inr hq) (Nat.le_refl _) (Nat.le_refl _) hl hL hP hD va_S.rf (Nat.le_refl _) (Nat.le_refl _) (Nat.le_refl _) (Nat.le_refl _) (fun new H1 locs1 lsC1 q0 q1 q2 q3 q4 q5 => ?_)
  · rw [Nat.sub_self, Nat.sub_self] at key
    exact key
  · have hst : stopI a z1 [] = true := q1
    unfold stopI at hst
    have h9 : Nat.beq a 10 = false := by
      cases h9 : Nat.beq a 10 with
      | true => have := Nat.eq_of_beq_eq_true h9; omega
      | false => rfl
    simp only [h9, cond_false] at hst
    split at hst
    · next len a2 hf =>
      obtain ⟨f1, f2, f3⟩ := fetI_ok hf
      rw [hmI] at f1
      exact W.vret F.1 B.bytes B.returns (fun t ht _ => ⟨⟨rfl, new, q0, by rw [ht]; exact q3, q4⟩, q5.F ht⟩) q5.2.2 f1 B.notSynchronized
    · cases hst
theorem aRun : ∀ n, RunI n := by
  intro n
  induction n with
  | zero => intro d k pc ls st hp pcE lsE hpE h; rw [aEx] at h; cases h
  | succ n ih =>
    intro d k pc ls st hp pcE lsE hpE h p l e R s m args below meth c Q D cy b A am lsC H locs bc bs F hin hN hAO hA hRf hRl hl hL hP hD hS hbc hbs hc hs END
    rcases aEx_is h with ⟨e1, e2⟩ | ⟨idx, len, h0, rest, hf, e1, e2, h1⟩ | ⟨idx, len, a, h0, rest, d', z1, z2, hp', hf, ha, e1, e2, hw, e3, h1, h2⟩ | ⟨i, len, a, pc', st', x, hf, hw, hx, h1⟩ | ⟨i, len, a, pc', ls', st', hp', hf, hx, h1⟩
    · cases e2
      cases st with
      | cons v r => cases e1
      | nil => exact END [] H locs lsC (by simp) e1 (by rw [List.append_nil]; exact hL) (by rw [List.append_nil]; exact hP) (by rw [List.append_nil]; exact hD) hS
    · subst e1
      obtain ⟨f1, f2, f3⟩ := fetI_ok hf
      have f2 := okW_obj f2
      have ho := oi_b
      rw [Bool.and_eq_true] at ho
      have hroom : ((rest.map (conc (adL b am))).map fun v => v.category).sum ≤ 8 := Nat.le_trans (cat_sum (ad := adL b am) rest) (Nat.mul_le_mul_left 2 e2)
      refine W.objInit F.1 F.2.1 F.2.2.2.1 (F.2.2.2.2.1 _ (mLk_m f2)) (F.2.2.2.2.1 _ (inG_m ho.1)) (F.2.2.2.2.1 _ (inG_m ho.2)) (g := F0 m pc lsC ((Sum.inr (Sum.inr (0, h0)) :: rest : List Vv).map (conc (adL b am)))) rfl (hL.2.1.trans F.2.2.1.symm) (a := am.getD h0 0) (rest := rest.map (conc (adL b am))) rfl f1 (by omega) ?_ ?_
      · have h5 := lv_room (m := m) (pc := pc) (ls := lsC) (rest := (Sum.inr (Sum.inr (0, h0)) :: rest : List Vv).map (conc (adL b am))) hroom
        have h6 : 44 * (d + 2) ≤ R.locals := hRl
        exact obj_k h5 h6
      · exact ih d k (pc + 3) ls rest hp pcE lsE hpE h1 p l e R s m args below meth c Q D cy b A am lsC H locs bc bs F hin hN hAO hA hRf hRl hl hL hP hD hS hbc hbs hc hs END
    · subst e1
      subst e2
      obtain ⟨f1, f2, f3⟩ := fetI_ok hf
      obtain ⟨w1, w2, w3⟩ := and3 hw
      rw [← hl] at w1 w2
      rw [List.all_cons, Bool.and_eq_true] at w2
      obtain ⟨i1, i2, i3, i4, i5⟩ := and5 (List.all_eq_true.mp ic_b a (List.mem_range.mpr ha))
      have hb := List.all_eq_true.mp iI_b a (List.mem_range.mpr ha)
      simp only [Bool.and_eq_true, decide_eq_true_eq] at hb
      obtain ⟨⟨⟨⟨⟨⟨⟨b1, b2⟩, b3⟩, b4⟩, b5⟩, b6⟩, b7⟩, b8⟩ := hb
      have b4 := Nat.le_of_ble_eq_true b4
      have f2 := okW_ini ha f2
      have hm1 := aEx_mono _ _ _ _ _ _ _ _ h1
      have hm2 := aEx_mono _ _ _ _ _ _ _ _ h2
      have hm1a : hp.length ≤ hp'.length := hm1.1
      have hm1b : sloH hp ≤ sloH hp' := hm1.2
      have hm2a : hp'.length ≤ hpE.length := hm2.1
      have hm2b : sloH hp' ≤ sloH hpE := hm2.2
      have hroom : ((rest.map (conc (adL b am))).map fun v => v.category).sum ≤ 8 := Nat.le_trans (cat_sum (ad := adL b am) rest) (Nat.mul_le_mul_left 2 e3)
      have hini : Cond.initialized (yM (100 * a)).cls ∈ lw_good := by
        rw [of_decide_eq_true i4]
        exact inG_m i2
      have hcode : Cond.code (yM (100 * a)) (cM (100 * a)) (lM (100 * a)) none ∈ lw_good := by
        obtain ⟨w, hw1, hw2⟩ := List.any_eq_true.mp i5
        have := cdW_eq hw2
        rw [b1] at this
        rw [← this]
        exact hw1
      have hws : ∀ w ∈ wsI a, w ∈ lw_good := fun w hw => (List.mem_cons.mp hw).elim (fun e => e ▸ hcode) id
      have hM := metI ih ha h1 l D cy b am H.size hl (D_fr hl hD)
      have hRoom : (rmI d' (hp'.length - hp.length) (sloH hp' - sloH hp)).frames + 1 ≤ R.frames ∧ 8 + (lM (100 * a) + 11) + (rmI d' (hp'.length - hp.length) (sloH hp' - sloH hp)).locals ≤ R.locals := by
        refine ⟨by show d' + 3 + 1 ≤ R.frames; omega, ?_⟩
        show 8 + (lM (100 * a) + 11) + 44 * (d' + 2) ≤ R.locals
        omega
      have hPre : PreS s H (PcI D cy b am hp H.size (am.getD h0 0)) [.ref (am.getD h0 0)] := ⟨PcI_blind, fun U hU hW => ⟨rfl, by rw [hU], by rw [hU]; exact hP, va_K.moved hW.alike F.2.2.2.2.2, hN.warm hW, va_AO.moved hW.alike hAO⟩⟩
      have hfr : ∀ q, frI am H.size q → A q := fun q hq => hq.elim (fun h => am_A hl hD q h) (fun h => hA q (Nat.le_trans hS.1 h))
      have fin : ∀ {a0 : Array Value}, va_Run p l e R s m args below meth c H locs (hp.length - bc) (sloH hp - bs) (hp'.length - hp.length) (sloH hp' - sloH hp) (F0 m pc lsC ((Sum.inr (Sum.inr (0, h0)) :: rest : List Vv).map (conc (adL b am)))) (rest.map (conc (adL b am))) (QcI D cy b am hp hp' H.size a0) (frI am H.size) → W p l e R s m args below meth c H locs (hp.length - bc) (sloH hp - bs) Q (F0 m pc lsC ((Sum.inr (Sum.inr (0, h0)) :: rest : List Vv).map (conc (adL b am)))) := fun hr =>
        am_callI hr hS hfr (fun new H1 locs1 g1 g2 g3 g4 => by
          have e5 : hp.length - bc + (hp'.length - hp.length) = hp'.length - bc := by omega
          have e6 : sloH hp - bs + (sloH hp' - sloH hp) = sloH hp' - bs := by omega
          rw [e5, e6, ← st_app (b := b) (new := new) w2.2]
          refine ih (d' + 1) k (pc + 3) ls rest hp' pcE lsE hpE h2 p l e R s m args below meth c Q D cy b A (am ++ new) lsC H1 locs1 bc bs F hin hN hAO hA hRf hRl (by rw [List.length_append]; omega) (LR_app w1 hL) g2 ⟨g3.1, fun j q hj => hfr _ (g3.2 j q hj)⟩ g4 (by omega) (by omega) hc hs (fun new2 H2 locs2 lsC2 k0 k1 k2 k3 k4 k5 => ?_)
          rw [List.append_assoc] at k2 k3 k4
          exact END (new ++ new2) H2 locs2 lsC2 (by rw [List.length_append]; omega) k1 k2 k3 k4 k5)
      have hlen0 : (parseMethodDescriptor (yM (100 * a)).desc).map (fun d => d.parameters.length) = some 0 := b8
      rcases f2 with hlk | hlk
      · exact fin (va_runI (As := []) (rest := rest.map (conc (adL b am))) ⟨F.1, F.2.1, F.2.2.1, F.2.2.2.1, F.2.2.2.2.1⟩ hM (cwI 0 F.2.2.2.2.1 (good_g hws) rfl rfl rfl (F.2.2.2.2.1 _ hini) (F.2.2.2.2.1 _ (mLk_m hlk)) (F.2.2.2.2.1 _ (inG_m i3)) b3 ⟨b6, b7, hlen0⟩ hRoom) hPre rfl rfl hL.2.1 rfl (lv_room hroom) f1 ⟨by omega, by omega⟩)
      · exact fin (va_runIN (As := []) (rest := rest.map (conc (adL b am))) ⟨F.1, F.2.1, F.2.2.1, F.2.2.2.1, F.2.2.2.2.1⟩ hM ⟨va_cnB 0 F.2.2.2.2.1 (good_g hws) rfl rfl rfl (hN _ (nLk_m hlk) rfl) (F.2.2.2.2.1 _ hini) ⟨b6, b7, hlen0⟩ hRoom, b3, F.2.2.2.2.1 _ (inG_m i3)⟩ hPre rfl rfl hL.2.1 rfl (lv_room hroom) f1 ⟨by omega, by omega⟩)
    · obtain ⟨f1, f2, f3⟩ := fetI_ok hf
      have hm1 := aEx_mono _ _ _ _ _ _ _ _ h1
      have hm1a : (hp ++ [x]).length ≤ hpE.length := hm1.1
      have hm1b : sloH (hp ++ [x]) ≤ sloH hpE := hm1.2
      rw [sloH_app] at hm1b
      rw [List.length_append, List.length_singleton] at hm1a
      refine stepN F hAO hA hl f1 f2 hw hx hL hP hD hS (by omega) (by omega) (fun q H1 g1 g2 g3 g4 => ?_)
      have e5 : hp.length - bc + 1 = (hp ++ [x]).length - bc := by rw [List.length_append, List.length_singleton]; omega
      have e6 : sloH hp - bs + sizE x = sloH (hp ++ [x]) - bs := by rw [sloH_app]; omega
      rw [e5, e6]
      refine ih d k pc' ls st' (hp ++ [x]) pcE lsE hpE h1 p l e R s m args below meth c Q D cy b A (am ++ [q]) lsC H1 locs bc bs F hin hN hAO hA hRf hRl (by rw [List.length_append, List.length_append, hl]; rfl) g1 g2 g3 g4 (by rw [List.length_append]; omega) (by rw [sloH_app]; omega) hc hs (fun new2 H2 locs2 lsC2 k0 k1 k2 k3 k4 k5 => ?_)
      rw [List.append_assoc] at k2 k3 k4
      rw [List.length_append, List.length_singleton] at k0
      exact END ([q] ++ new2) H2 locs2 lsC2 (by rw [List.length_append, List.length_singleton]; omega) k1 k2 k3 k4 k5
    · obtain ⟨f1, f2, f3⟩ := fetI_ok hf
      obtain ⟨l1, l2⟩ := aS_len hx
      refine stepA F hin hl f1 f2 hx hL hP hD hS (fun H1 locs1 lsC1 g1 g2 g3 g4 => ?_)
      rw [← l1, ← l2]
      refine ih d k pc' ls' st' hp' pcE lsE hpE h1 p l e R s m args below meth c Q D cy b A am lsC1 H1 locs1 bc bs F hin hN hAO hA hRf hRl (by rw [l1]; exact hl) g1 g2 g3 g4 (by omega) (by omega) hc hs (fun new2 H2 locs2 lsC2 k0 k1 k2 k3 k4 k5 => ?_)
      exact END new2 H2 locs2 lsC2 (by omega) k1 k2 k3 k4 k5

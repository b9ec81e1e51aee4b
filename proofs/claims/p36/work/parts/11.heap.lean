/-! soundness of one instruction: fields, arrays, Math -/
theorem and3 {a b c : Bool} (h : (a && b && c) = true) : a = true ∧ b = true ∧ c = true := by
  cases a <;> cases b <;> cases c <;> first | exact ⟨rfl, rfl, rfl⟩ | cases h
theorem fl_of {own : String} {idx a : Nat} (h : (flT.any fun q => Nat.beq q.2.2.1 idx && Nat.beq q.2.2.2 a && decide (ownS q.2.1 = own)) = true) : Cond.fieldLink own idx (TT (a / 100) (a % 100)).1 (TT (a / 100) (a % 100)).2.1 (TT (a / 100) (a % 100)).2.2.1 ∈ lw_good ∧ a / 100 < 10 ∧ a % 100 < nF (a / 100) := by
  obtain ⟨q, hq, hb⟩ := List.any_eq_true.mp h
  obtain ⟨h1, h2, h3⟩ := and3 hb
  have e1 := Nat.eq_of_beq_eq_true h1
  have e2 := Nat.eq_of_beq_eq_true h2
  have e3 := of_decide_eq_true h3
  have hr := List.all_eq_true.mp flT_r q hq
  rw [Bool.and_eq_true] at hr
  have g := good_in flT_b (fun _ => rfl) hq
  unfold flW at g
  rw [e1, e2, e3] at g
  rw [e2] at hr
  exact ⟨g, blt_lt hr.1, blt_lt hr.2⟩
theorem cl_at {ci : Nat} (h : ci < 10) : vwCl[ci]? = some (RR' ci, TT ci, nF ci) := by
  have : ci = 0 ∨ ci = 1 ∨ ci = 2 ∨ ci = 3 ∨ ci = 4 ∨ ci = 5 ∨ ci = 6 ∨ ci = 7 ∨ ci = 8 ∨ ci = 9 := by omega
  rcases this with rfl | rfl | rfl | rfl | rfl | rfl | rfl | rfl | rfl | rfl <;> rfl
theorem ws_in {ci : Nat} (h : ci < 10) : ∀ w ∈ u_ws (RR' ci) (TT ci) (nF ci), w ∈ lw_good := by
  intro w hw
  obtain ⟨k, hk, rfl⟩ := List.mem_map.mp hw
  have h1 := List.all_eq_true.mp (List.all_eq_true.mp lyT_c ci (List.mem_range.mpr h)) k hk
  obtain ⟨q, hq, hb⟩ := List.any_eq_true.mp h1
  rw [Bool.and_eq_true] at hb
  have e1 := Nat.eq_of_beq_eq_true hb.1
  have e2 := Nat.eq_of_beq_eq_true hb.2
  have g := good_in lyT_b (fun a => by unfold u_lay; split <;> rfl) hq
  rw [e1, e2] at g
  exact g
set_option maxRecDepth 100000 in
theorem ty_b : ((List.range 10).all fun ci => (List.range (nF ci)).all fun k => decide (parseFieldDescriptor (TT ci k).2.2.1 = some (tyT ci k))) = true := by decide +kernel
set_option maxRecDepth 100000 in
theorem nm_b : ((List.range 10).all fun ci => ndL ((List.range (nF ci)).map fun k => (TT ci k).2.1)) = true := by decide +kernel
set_option maxRecDepth 100000 in
theorem fk_b : ((List.range 10).all fun ci => (List.range (nF ci)).all fun k => match fK ci k with
  | 0 => decide (tyT ci k = .int)
  | 1 => decide (tyT ci k = .boolean)
  | _ => true) = true := by decide +kernel
theorem ty_of {ci : Nat} (h : ci < 10) : ∀ k, k < nF ci → parseFieldDescriptor (TT ci k).2.2.1 = some (tyT ci k) := by
  intro k hk
  exact of_decide_eq_true (List.all_eq_true.mp (List.all_eq_true.mp ty_b ci (List.mem_range.mpr h)) k (List.mem_range.mpr hk))
theorem nm_of {ci : Nat} (h : ci < 10) : ∀ a, a < nF ci → ∀ b, b < nF ci → a ≠ b → (TT ci a).2.1 ≠ (TT ci b).2.1 := by
  intro a ha b hb hab he
  refine hab (ndL_inj (List.all_eq_true.mp nm_b ci (List.mem_range.mpr h)) (a := (TT ci a).2.1) ?_ ?_)
  · rw [List.getElem?_map, List.getElem?_range ha]; rfl
  · rw [List.getElem?_map, List.getElem?_range hb, he]; rfl
theorem fk_of0 {ci k : Nat} (h : ci < 10) (hk : k < nF ci) (hf : fK ci k = 0) : tyT ci k = .int := by
  have h1 := List.all_eq_true.mp (List.all_eq_true.mp fk_b ci (List.mem_range.mpr h)) k (List.mem_range.mpr hk)
  simp only [hf] at h1
  exact of_decide_eq_true h1
theorem fk_of1 {ci k : Nat} (h : ci < 10) (hk : k < nF ci) (hf : fK ci k = 1) : tyT ci k = .boolean := by
  have h1 := List.all_eq_true.mp (List.all_eq_true.mp fk_b ci (List.mem_range.mpr h)) k (List.mem_range.mpr hk)
  simp only [hf] at h1
  exact of_decide_eq_true h1
theorem fvW_0 {ad : Nat → Nat → Nat} {M : Mm} {t i k : Nat} (h : fK t k = 0) : fvW ad M t i k = .int (Int32.ofInt (M.1 t i k)) := by unfold fvW; rw [h]; rfl
theorem fvW_1 {ad : Nat → Nat → Nat} {M : Mm} {t i k : Nat} (h : fK t k = 1) : fvW ad M t i k = .int (Int32.ofInt (M.1 t i k)) := by unfold fvW; rw [h]; rfl
theorem fvW_2 {ad : Nat → Nat → Nat} {M : Mm} {t i k : Nat} (h : fK t k = 2) : fvW ad M t i k = .ref (ad (100 * t + k + 100) i) := by unfold fvW; rw [h]; rfl
theorem fvW_3 {ad : Nat → Nat → Nat} {M : Mm} {t i k : Nat} (h0 : fK t k ≠ 0) (h1 : fK t k ≠ 1) (h2 : fK t k ≠ 2) : fvW ad M t i k = .ref (ad (oF (100 * t + k) i).1 (oF (100 * t + k) i).2) := by
  unfold fvW
  split
  · next h => exact absurd h h0
  · next h => exact absurd h h1
  · next h => exact absurd h h2
  · rfl
set_option maxRecDepth 100000 in
theorem dom_51b : (dom.all fun d => !(Nat.beq d.1 51)) = true := by decide +kernel
theorem dom_51 {i : Nat} (h : (51, i) ∈ dom) : False := by
  have := List.all_eq_true.mp dom_51b _ h
  cases this
theorem dom_of {t i : Nat} (h : okV (.inr (.inr (t, i)))) (ht : t ≠ 51) : (t, i) ∈ dom := by
  rcases h with h | h
  · exact h
  · exact absurd h.1 ht
theorem tn_oi {j : Int} (h : inR j) : (Int32.ofInt j).toNatClampNeg = j.toNat := by
  show (Int32.ofInt j).toInt.toNat = j.toNat
  rw [ti_oi h]
theorem in_oi {j : Int} {n : Nat} (h : inR j) (h1 : 0 ≤ j ∧ j < n) : vp_in (Int32.ofInt j) n := by
  rintro (g | g)
  · rw [← oi_0, oi_lt h in_0] at g
    omega
  · rw [tn_oi h] at g
    omega
theorem oi_nat (n : Nat) : Int32.ofInt (n : Int) = Int32.ofNat n := by first | rfl | simp
theorem aK51 : aK 51 = 9 := rfl
section ST2
variable {p : Program} {l : Launch} {e : Env} {R : Room} {s : State} {m : MethodId} {args : Array Value} {below : List Frame} {meth : Method} {c : Code} {H : Heap} {locs : List Loc} {cells slots : Nat} {Q : State → Prop}
variable {D : va_G} {cy : Cy} {ad : Nat → Nat → Nat} {A : Nat → Prop} {H0 : Heap} {mi : Nat} {S : Sc}
theorem st_getfield (F : Fr p s m args c D cy mi) {idx : Nat} {pc a lnn pc' : Nat} {x : Int} {ls ls' : Ls} {st st' : List Vv} {M M' : Mm} (hd : decode (cM mi) pc = .ok (.getfield idx, 3)) (h : sem1 S mi (.getfield idx) lnn a x pc ls st M = some (.inl (pc', ls', st', M'))) {lsC : Array Slot} (hL : LR ad (lM mi) ls lsC) (hP : va_P D vwCl (wsW cy ad M) H) (hS0 : va_S A H0 H locs) (hst : ∀ v ∈ st, okV v) (hok : okB (yM mi).cls pc (.getfield idx, lnn, a, x) = true)
    (kk : ∀ (H1 : Heap) (locs1 : List Loc) (lsC1 : Array Slot), LR ad (lM mi) ls' lsC1 → va_P D vwCl (wsW cy ad M') H1 → va_S A H0 H1 locs1 → W p l e R s m args below meth c H1 locs1 cells slots Q (F0 m pc' lsC1 (st'.map (conc ad)))) : W p l e R s m args below meth c H locs cells slots Q (F0 m pc lsC (st.map (conc ad))) := by
  replace h : (match st with
    | .inr (.inr (t, i)) :: st' => bif Nat.beq t (a / 100) then (match fK (a / 100) (a % 100) with
      | 0 => goS (pc + 3) ls (.inl (M.1 (a / 100) i (a % 100)) :: st') M
      | 1 => goS (pc + 3) ls (.inl (M.1 (a / 100) i (a % 100)) :: st') M
      | 2 => goS (pc + 3) ls (.inr (.inr (a + 100, i)) :: st') M
      | _ => goS (pc + 3) ls (.inr (.inr (oF a i)) :: st') M) else none
    | _ => none) = some _ := h
  unfold goS at h
  split at h
  · next t i r =>
    cases hb : Nat.beq t (a / 100) with
    | false => rw [hb] at h; cases h
    | true =>
      rw [hb] at h
      have ht := Nat.eq_of_beq_eq_true hb
      obtain ⟨hl, h11, hk⟩ := fl_of (idx := idx) (a := a) hok
      have hdm : (t, i) ∈ dom := dom_of (hst _ List.mem_cons_self) (by omega)
      subst ht
      obtain ⟨q0, hq, he⟩ := wsW_at (cy := cy) (ad := ad) (M := M) hdm
      rw [eW_o h11] at he
      have ea : 100 * (a / 100) + a % 100 = a := Nat.div_add_mod a 100
      refine va_get F.1 F.2.1 F.2.2.2.2.1 (ws_in h11) F.2.2.2.1 F.2.2.2.2.2 hP q0 he (cl_at h11) (a % 100) hk (F.2.2.2.2.1 _ hl) (fun _ z => z) (fvW_map hk) hd ?_
      replace h : (match fK (a / 100) (a % 100) with
        | 0 => some (.inl (pc + 3, ls, .inl (M.1 (a / 100) i (a % 100)) :: r, M))
        | 1 => some (.inl (pc + 3, ls, .inl (M.1 (a / 100) i (a % 100)) :: r, M))
        | 2 => some (.inl (pc + 3, ls, .inr (.inr (a + 100, i)) :: r, M))
        | _ => some (.inl (pc + 3, ls, .inr (.inr (oF a i)) :: r, M)) : Option SR) = some (.inl (pc', ls', st', M')) := h
      split at h
      · next hf =>
        rw [fvW_0 hf]
        cases h
        exact kk _ _ _ hL hP hS0
      · next hf =>
        rw [fvW_1 hf]
        cases h
        exact kk _ _ _ hL hP hS0
      · next hf =>
        rw [fvW_2 hf, ea]
        cases h
        exact kk _ _ _ hL hP hS0
      · next g0 g1 g2 =>
        rw [fvW_3 g0 g1 g2, ea]
        cases h
        exact kk _ _ _ hL hP hS0
  · cases h
theorem st_putfield (F : Fr p s m args c D cy mi) {idx : Nat} {pc a lnn pc' : Nat} {x : Int} {ls ls' : Ls} {st st' : List Vv} {M M' : Mm} (hd : decode (cM mi) pc = .ok (.putfield idx, 3)) (h : sem1 S mi (.putfield idx) lnn a x pc ls st M = some (.inl (pc', ls', st', M'))) {lsC : Array Slot} (hL : LR ad (lM mi) ls lsC) (hP : va_P D vwCl (wsW cy ad M) H) (hS0 : va_S A H0 H locs) (hst : ∀ v ∈ st, okV v) (hA : ApD A ad) (hok : okB (yM mi).cls pc (.putfield idx, lnn, a, x) = true)
    (kk : ∀ (H1 : Heap) (locs1 : List Loc) (lsC1 : Array Slot), LR ad (lM mi) ls' lsC1 → va_P D vwCl (wsW cy ad M') H1 → va_S A H0 H1 locs1 → W p l e R s m args below meth c H1 locs1 cells slots Q (F0 m pc' lsC1 (st'.map (conc ad)))) : W p l e R s m args below meth c H locs cells slots Q (F0 m pc lsC (st.map (conc ad))) := by
  replace h : (match st with
    | .inl v :: .inr (.inr (t, i)) :: st' => bif Nat.beq t (a / 100) then (match fK (a / 100) (a % 100) with
      | 0 => goS (pc + 3) ls st' (setI M (a / 100) i (a % 100) v)
      | 1 => if v = 0 then goS (pc + 3) ls st' (setI M (a / 100) i (a % 100) v) else if v = 1 then goS (pc + 3) ls st' (setI M (a / 100) i (a % 100) v) else none
      | _ => none) else none
    | _ => none) = some _ := h
  unfold goS at h
  split at h
  · next v t i r =>
    cases hb : Nat.beq t (a / 100) with
    | false => rw [hb] at h; cases h
    | true =>
      rw [hb] at h
      have ht := Nat.eq_of_beq_eq_true hb
      have hok : ((flT.any fun q => Nat.beq q.2.2.1 idx && Nat.beq q.2.2.2 a && decide (ownS q.2.1 = (yM mi).cls)) && !(TT (a / 100) (a % 100)).2.2.2) = true := hok
      rw [Bool.and_eq_true] at hok
      have hfin : (TT (a / 100) (a % 100)).2.2.2 = false := by
        have := hok.2
        revert this
        cases (TT (a / 100) (a % 100)).2.2.2 <;> decide
      obtain ⟨hl, h11, hk⟩ := fl_of (idx := idx) (a := a) hok.1
      have hdm : (t, i) ∈ dom := dom_of (hst (.inr (.inr (t, i))) (by simp)) (by omega)
      subst ht
      obtain ⟨q0, hq, he⟩ := wsW_at (cy := cy) (ad := ad) (M := M) hdm
      rw [eW_o h11] at he
      replace h : (match fK (a / 100) (a % 100) with
        | 0 => some (.inl (pc + 3, ls, r, setI M (a / 100) i (a % 100) v))
        | 1 => if v = 0 then some (.inl (pc + 3, ls, r, setI M (a / 100) i (a % 100) v)) else if v = 1 then some (.inl (pc + 3, ls, r, setI M (a / 100) i (a % 100) v)) else none
        | _ => none : Option SR) = some (.inl (pc', ls', st', M')) := h
      have key : ∀ ty, (fK (a / 100) (a % 100) = 0 ∨ fK (a / 100) (a % 100) = 1) → tyT (a / 100) (a % 100) = ty → narrow ty (.int (Int32.ofInt v)) = .int (Int32.ofInt v) → fits ty (.int (Int32.ofInt v)) = true → (pc', ls', st', M') = (pc + 3, ls, r, setI M (a / 100) i (a % 100) v) → W p l e R s m args below meth c H locs cells slots Q (F0 m pc lsC (List.map (conc ad) (.inl v :: .inr (.inr (a / 100, i)) :: r))) := by
        intro ty hf hty hn hfit hee
        refine va_put F.1 F.2.1 F.2.2.2.2.1 (ws_in h11) (tyT (a / 100)) (ty_of h11) (nm_of h11) F.2.2.2.1 F.2.2.2.2.2 hP (wsW_D hA) hS0 q0 he (cl_at h11) (a % 100) hk (F.2.2.2.2.1 _ hl) (fun _ z => z) hfin (hty ▸ ty_of h11 _ hk) hn hfit (by simpa using hk) hd (fun H1 locs1 hP1 hD1 hS1 => ?_)
        rw [show conc ad (.inl v) = Value.int (Int32.ofInt v) from rfl, fvW_set (v := v) hf, wsW_set hq (by rw [eW_o h11]) eW_setI] at hP1
        cases hee
        exact kk _ _ _ hL hP1 hS1
      split at h
      · next hf =>
        refine key .int (Or.inl hf) (fk_of0 h11 hk hf) rfl rfl ?_
        cases h
        rfl
      · next hf =>
        split at h
        · next hv =>
          subst hv
          refine key .boolean (Or.inr hf) (fk_of1 h11 hk hf) rfl rfl ?_
          cases h
          rfl
        · split at h
          · next hv =>
            subst hv
            refine key .boolean (Or.inr hf) (fk_of1 h11 hk hf) rfl rfl ?_
            cases h
            rfl
          · cases h
      · cases h
  · cases h
theorem st_iaload (F : Fr p s m args c D cy mi) {pc a lnn pc' : Nat} {x : Int} {ls ls' : Ls} {st st' : List Vv} {M M' : Mm} (hd : decode (cM mi) pc = .ok (.iaload, 1)) (h : sem1 S mi (.iaload) lnn a x pc ls st M = some (.inl (pc', ls', st', M'))) {lsC : Array Slot} (hL : LR ad (lM mi) ls lsC) (hP : va_P D vwCl (wsW cy ad M) H) (hS0 : va_S A H0 H locs) (hst : ∀ v ∈ st, okV v) (hSc : scOK S ad A s H0)
    (kk : ∀ (H1 : Heap) (locs1 : List Loc) (lsC1 : Array Slot), LR ad (lM mi) ls' lsC1 → va_P D vwCl (wsW cy ad M') H1 → va_S A H0 H1 locs1 → W p l e R s m args below meth c H1 locs1 cells slots Q (F0 m pc' lsC1 (st'.map (conc ad)))) : W p l e R s m args below meth c H locs cells slots Q (F0 m pc lsC (st.map (conc ad))) := by
  replace h : (match st with
    | .inl j :: .inr (.inr (t, i)) :: st' => (match S with
      | some (n, xs) => if t = 51 then (if 0 ≤ j ∧ j < n then goS (pc + 1) ls (.inl (xs j.toNat) :: st') M else none) else none
      | none => if aK t = 0 then (if 0 ≤ j ∧ j < aL t then goS (pc + 1) ls (.inl (M.1 t i j.toNat) :: st') M else none) else none)
    | _ => none) = some _ := h
  unfold goS at h
  split at h
  · next j t i r =>
    have hj : inR j := hst (.inl j) (by simp)
    split at h
    · next n xs =>
      split at h
      · next ht =>
        split at h
        · next hb =>
          obtain ⟨xs', hX, hlt, hnA, hx⟩ := hSc n xs rfl
          have hi : i = 0 := by
            rcases (hst (.inr (.inr (t, i))) (by simp) : okV (.inr (.inr (t, i)))) with g | g
            · rw [ht] at g
              exact absurd g dom_51
            · exact g.2
          subst ht
          subst hi
          cases h
          refine va_sld F.1 F.2.1 hX hlt hnA hS0 (in_oi hj hb) hd ?_
          rw [tn_oi hj, ← oi_ti (xs' j.toNat), ← hx]
          exact kk _ _ _ hL hP hS0
        · cases h
      · cases h
    · split at h
      · next ht =>
        split at h
        · next hb =>
          obtain ⟨q0, hq, he⟩ := wsW_at (cy := cy) (ad := ad) (M := M) (dom_of (hst (.inr (.inr (t, i))) (by simp)) (fun g => by subst g; cases ht))
          rw [eW_0 ht] at he
          cases h
          refine va_iald F.1 F.2.1 F.2.2.2.2.2 hP q0 0 he rfl (in_oi hj hb) hd ?_
          rw [tn_oi hj]
          exact kk _ _ _ hL hP hS0
        · cases h
      · cases h
  · cases h
theorem dom_no2 : (dom.all fun d => !(Nat.beq (aK d.1) 2)) = true := by decide +kernel
theorem dom_n2 {d : Nat × Nat} (h : d ∈ dom) (g : aK d.1 = 2) : False := by
  have k := List.all_eq_true.mp dom_no2 d h
  rw [g] at k
  cases k
theorem st_baload (F : Fr p s m args c D cy mi) {pc a lnn pc' : Nat} {x : Int} {ls ls' : Ls} {st st' : List Vv} {M M' : Mm} (hd : decode (cM mi) pc = .ok (.baload, 1)) (h : sem1 S mi (.baload) lnn a x pc ls st M = some (.inl (pc', ls', st', M'))) {lsC : Array Slot} (hL : LR ad (lM mi) ls lsC) (hP : va_P D vwCl (wsW cy ad M) H) (hS0 : va_S A H0 H locs) (hst : ∀ v ∈ st, okV v)
    (kk : ∀ (H1 : Heap) (locs1 : List Loc) (lsC1 : Array Slot), LR ad (lM mi) ls' lsC1 → va_P D vwCl (wsW cy ad M') H1 → va_S A H0 H1 locs1 → W p l e R s m args below meth c H1 locs1 cells slots Q (F0 m pc' lsC1 (st'.map (conc ad)))) : W p l e R s m args below meth c H locs cells slots Q (F0 m pc lsC (st.map (conc ad))) := by
  replace h : (match st with
    | .inl j :: .inr (.inr (t, i)) :: st' => if aK t = 2 then (if 0 ≤ j ∧ j < aL t then goS (pc + 1) ls (.inl (M.1 t i j.toNat) :: st') M else none) else none
    | _ => none) = some _ := h
  unfold goS at h
  split at h
  · next j t i r =>
    have hj : inR j := hst (.inl j) (by simp)
    split at h
    · next ht =>
      split at h
      · next hb =>
        exact (dom_n2 (dom_of (hst (.inr (.inr (t, i))) (by simp)) (fun g => by subst g; cases ht)) ht).elim
      · cases h
    · cases h
  · cases h
theorem st_laload (F : Fr p s m args c D cy mi) {pc a lnn pc' : Nat} {x : Int} {ls ls' : Ls} {st st' : List Vv} {M M' : Mm} (hd : decode (cM mi) pc = .ok (.laload, 1)) (h : sem1 S mi (.laload) lnn a x pc ls st M = some (.inl (pc', ls', st', M'))) {lsC : Array Slot} (hL : LR ad (lM mi) ls lsC) (hP : va_P D vwCl (wsW cy ad M) H) (hS0 : va_S A H0 H locs) (hst : ∀ v ∈ st, okV v)
    (kk : ∀ (H1 : Heap) (locs1 : List Loc) (lsC1 : Array Slot), LR ad (lM mi) ls' lsC1 → va_P D vwCl (wsW cy ad M') H1 → va_S A H0 H1 locs1 → W p l e R s m args below meth c H1 locs1 cells slots Q (F0 m pc' lsC1 (st'.map (conc ad)))) : W p l e R s m args below meth c H locs cells slots Q (F0 m pc lsC (st.map (conc ad))) := by
  replace h : (match st with
    | .inl j :: .inr (.inr (t, i)) :: st' => if aK t = 1 then (if 0 ≤ j ∧ j < aL t then goS (pc + 1) ls (.inr (.inl (M.2 t i j.toNat)) :: st') M else none) else none
    | _ => none) = some _ := h
  unfold goS at h
  split at h
  · next j t i r =>
    have hj : inR j := hst (.inl j) (by simp)
    split at h
    · next ht =>
      split at h
      · next hb =>
        obtain ⟨q0, hq, he⟩ := wsW_at (cy := cy) (ad := ad) (M := M) (dom_of (hst (.inr (.inr (t, i))) (by simp)) (fun g => by subst g; cases ht))
        rw [eW_1 ht] at he
        cases h
        refine va_lald F.1 F.2.1 F.2.2.2.2.2 hP q0 1 he rfl (in_oi hj hb) hd ?_
        rw [tn_oi hj]
        exact kk _ _ _ hL hP hS0
      · cases h
    · cases h
  · cases h
theorem st_aaload (F : Fr p s m args c D cy mi) {pc a lnn pc' : Nat} {x : Int} {ls ls' : Ls} {st st' : List Vv} {M M' : Mm} (hd : decode (cM mi) pc = .ok (.aaload, 1)) (h : sem1 S mi (.aaload) lnn a x pc ls st M = some (.inl (pc', ls', st', M'))) {lsC : Array Slot} (hL : LR ad (lM mi) ls lsC) (hP : va_P D vwCl (wsW cy ad M) H) (hS0 : va_S A H0 H locs) (hst : ∀ v ∈ st, okV v)
    (kk : ∀ (H1 : Heap) (locs1 : List Loc) (lsC1 : Array Slot), LR ad (lM mi) ls' lsC1 → va_P D vwCl (wsW cy ad M') H1 → va_S A H0 H1 locs1 → W p l e R s m args below meth c H1 locs1 cells slots Q (F0 m pc' lsC1 (st'.map (conc ad)))) : W p l e R s m args below meth c H locs cells slots Q (F0 m pc lsC (st.map (conc ad))) := by
  replace h : (match st with
    | .inl j :: .inr (.inr (t, i)) :: st' => if aK t = 3 then (if 0 ≤ j ∧ j < aL t then goS (pc + 1) ls (.inr (.inr (3, j.toNat)) :: st') M else none) else none
    | _ => none) = some _ := h
  unfold goS at h
  split at h
  · next j t i r =>
    have hj : inR j := hst (.inl j) (by simp)
    split at h
    · next ht =>
      split at h
      · next hb =>
        obtain ⟨q0, hq, he⟩ := wsW_at (cy := cy) (ad := ad) (M := M) (dom_of (hst (.inr (.inr (t, i))) (by simp)) (fun g => by subst g; cases ht))
        rw [eW_3 ht] at he
        cases h
        refine va_aldq F.1 F.2.1 F.2.2.2.2.2 hP q0 3 he rfl (in_oi hj hb) hd ?_
        rw [tn_oi hj]
        exact kk _ _ _ hL hP hS0
      · cases h
    · cases h
  · cases h
theorem st_iastore (F : Fr p s m args c D cy mi) {pc a lnn pc' : Nat} {x : Int} {ls ls' : Ls} {st st' : List Vv} {M M' : Mm} (hd : decode (cM mi) pc = .ok (.iastore, 1)) (h : sem1 S mi (.iastore) lnn a x pc ls st M = some (.inl (pc', ls', st', M'))) {lsC : Array Slot} (hL : LR ad (lM mi) ls lsC) (hP : va_P D vwCl (wsW cy ad M) H) (hS0 : va_S A H0 H locs) (hst : ∀ v ∈ st, okV v) (hA : ApD A ad)
    (kk : ∀ (H1 : Heap) (locs1 : List Loc) (lsC1 : Array Slot), LR ad (lM mi) ls' lsC1 → va_P D vwCl (wsW cy ad M') H1 → va_S A H0 H1 locs1 → W p l e R s m args below meth c H1 locs1 cells slots Q (F0 m pc' lsC1 (st'.map (conc ad)))) : W p l e R s m args below meth c H locs cells slots Q (F0 m pc lsC (st.map (conc ad))) := by
  replace h : (match st with
    | .inl v :: .inl j :: .inr (.inr (t, i)) :: st' => if aK t = 0 then (if 0 ≤ j ∧ j < aL t then goS (pc + 1) ls st' (setI M t i j.toNat v) else none) else none
    | _ => none) = some _ := h
  unfold goS at h
  split at h
  · next v j t i r =>
    have hj : inR j := hst (.inl j) (by simp)
    split at h
    · next ht =>
      split at h
      · next hb =>
        obtain ⟨q0, hq, he⟩ := wsW_at (cy := cy) (ad := ad) (M := M) (dom_of (hst (.inr (.inr (t, i))) (by simp)) (fun g => by subst g; cases ht))
        rw [eW_0 ht] at he
        cases h
        refine va_iast F.1 F.2.1 F.2.2.2.2.2 hP (wsW_D hA) hS0 q0 0 he rfl (in_oi hj hb) hd (fun H1 locs1 hP1 hD1 hS1 => ?_)
        rw [tn_oi hj] at hP1
        rw [wsW_set hq ?_ eW_setI] at hP1
        · exact kk _ _ _ hL hP1 hS1
        · rw [eW_0 ht]
          refine congrArg (fun z => (Sum.inl (cy.1, aL t, Sum.inl z) : va_E)) (funext fun q => ?_)
          unfold upd
          rw [setI_1]
          by_cases hq2 : q = j.toNat <;> simp [hq2]
      · cases h
    · cases h
  · cases h
theorem st_bastore (F : Fr p s m args c D cy mi) {pc a lnn pc' : Nat} {x : Int} {ls ls' : Ls} {st st' : List Vv} {M M' : Mm} (hd : decode (cM mi) pc = .ok (.bastore, 1)) (h : sem1 S mi (.bastore) lnn a x pc ls st M = some (.inl (pc', ls', st', M'))) {lsC : Array Slot} (hL : LR ad (lM mi) ls lsC) (hP : va_P D vwCl (wsW cy ad M) H) (hS0 : va_S A H0 H locs) (hst : ∀ v ∈ st, okV v) (hA : ApD A ad)
    (kk : ∀ (H1 : Heap) (locs1 : List Loc) (lsC1 : Array Slot), LR ad (lM mi) ls' lsC1 → va_P D vwCl (wsW cy ad M') H1 → va_S A H0 H1 locs1 → W p l e R s m args below meth c H1 locs1 cells slots Q (F0 m pc' lsC1 (st'.map (conc ad)))) : W p l e R s m args below meth c H locs cells slots Q (F0 m pc lsC (st.map (conc ad))) := by
  replace h : (match st with
    | .inl v :: .inl j :: .inr (.inr (t, i)) :: st' => if aK t = 2 then (if v = 0 ∨ v = 1 then (if 0 ≤ j ∧ j < aL t then goS (pc + 1) ls st' (setI M t i j.toNat v) else none) else none) else none
    | _ => none) = some _ := h
  unfold goS at h
  split at h
  · next v j t i r =>
    have hj : inR j := hst (.inl j) (by simp)
    split at h
    · next ht =>
      split at h
      · next hv =>
        split at h
        · next hb =>
          exact (dom_n2 (dom_of (hst (.inr (.inr (t, i))) (by simp)) (fun g => by subst g; cases ht)) ht).elim
        · cases h
      · cases h
    · cases h
  · cases h
theorem st_lastore (F : Fr p s m args c D cy mi) {pc a lnn pc' : Nat} {x : Int} {ls ls' : Ls} {st st' : List Vv} {M M' : Mm} (hd : decode (cM mi) pc = .ok (.lastore, 1)) (h : sem1 S mi (.lastore) lnn a x pc ls st M = some (.inl (pc', ls', st', M'))) {lsC : Array Slot} (hL : LR ad (lM mi) ls lsC) (hP : va_P D vwCl (wsW cy ad M) H) (hS0 : va_S A H0 H locs) (hst : ∀ v ∈ st, okV v) (hA : ApD A ad)
    (kk : ∀ (H1 : Heap) (locs1 : List Loc) (lsC1 : Array Slot), LR ad (lM mi) ls' lsC1 → va_P D vwCl (wsW cy ad M') H1 → va_S A H0 H1 locs1 → W p l e R s m args below meth c H1 locs1 cells slots Q (F0 m pc' lsC1 (st'.map (conc ad)))) : W p l e R s m args below meth c H locs cells slots Q (F0 m pc lsC (st.map (conc ad))) := by
  replace h : (match st with
    | .inr (.inl v) :: .inl j :: .inr (.inr (t, i)) :: st' => if aK t = 1 then (if 0 ≤ j ∧ j < aL t then goS (pc + 1) ls st' (setJ M t i j.toNat v) else none) else none
    | _ => none) = some _ := h
  unfold goS at h
  split at h
  · next v j t i r =>
    have hj : inR j := hst (.inl j) (by simp)
    split at h
    · next ht =>
      split at h
      · next hb =>
        obtain ⟨q0, hq, he⟩ := wsW_at (cy := cy) (ad := ad) (M := M) (dom_of (hst (.inr (.inr (t, i))) (by simp)) (fun g => by subst g; cases ht))
        rw [eW_1 ht] at he
        cases h
        refine va_last F.1 F.2.1 F.2.2.2.2.2 hP (wsW_D hA) hS0 q0 1 he rfl (in_oi hj hb) hd (fun H1 locs1 hP1 hD1 hS1 => ?_)
        rw [tn_oi hj] at hP1
        rw [wsW_set hq ?_ eW_setJ] at hP1
        · exact kk _ _ _ hL hP1 hS1
        · rw [eW_1 ht]
          refine congrArg (fun z => (Sum.inl (cy.2.1, aL t, Sum.inr (Sum.inl z)) : va_E)) (funext fun q => ?_)
          unfold vp_updL
          rw [setJ_2]
          by_cases hq2 : q = j.toNat <;> simp [hq2]
      · cases h
    · cases h
  · cases h
theorem st_alen (F : Fr p s m args c D cy mi) {pc a lnn pc' : Nat} {x : Int} {ls ls' : Ls} {st st' : List Vv} {M M' : Mm} (hd : decode (cM mi) pc = .ok (.arraylength, 1)) (h : sem1 S mi (.arraylength) lnn a x pc ls st M = some (.inl (pc', ls', st', M'))) {lsC : Array Slot} (hL : LR ad (lM mi) ls lsC) (hP : va_P D vwCl (wsW cy ad M) H) (hS0 : va_S A H0 H locs) (hst : ∀ v ∈ st, okV v) (hSc : scOK S ad A s H0)
    (kk : ∀ (H1 : Heap) (locs1 : List Loc) (lsC1 : Array Slot), LR ad (lM mi) ls' lsC1 → va_P D vwCl (wsW cy ad M') H1 → va_S A H0 H1 locs1 → W p l e R s m args below meth c H1 locs1 cells slots Q (F0 m pc' lsC1 (st'.map (conc ad)))) : W p l e R s m args below meth c H locs cells slots Q (F0 m pc lsC (st.map (conc ad))) := by
  replace h : (match st with
    | .inr (.inr (t, _)) :: st' => (match S with
      | some (n, _) => if t = 51 then goS (pc + 1) ls (.inl n :: st') M else none
      | none => if aK t < 4 then goS (pc + 1) ls (.inl (aL t) :: st') M else none)
    | _ => none) = some _ := h
  unfold goS at h
  split at h
  · next t i r =>
    split at h
    · next n xs =>
      split at h
      · next ht =>
        obtain ⟨xs', hX, hlt, hnA, hx⟩ := hSc n xs rfl
        have hi : i = 0 := by
          rcases (hst (.inr (.inr (t, i))) (by simp) : okV (.inr (.inr (t, i)))) with g | g
          · rw [ht] at g
            exact absurd g dom_51
          · exact g.2
        subst ht
        subst hi
        cases h
        refine va_slen F.1 F.2.1 hX hlt hnA hS0 hd ?_
        rw [← oi_nat]
        exact kk _ _ _ hL hP hS0
      · cases h
    · split at h
      · next ht =>
        obtain ⟨q0, hq, he⟩ := wsW_at (cy := cy) (ad := ad) (M := M) (dom_of (hst (.inr (.inr (t, i))) (by simp)) (fun g => by subst g; revert ht; rw [aK51]; omega))
        cases h
        have h4 : aK t = 0 ∨ aK t = 1 ∨ aK t = 2 ∨ aK t = 3 := by omega
        rcases h4 with g | g | g | g
        · rw [eW_0 g] at he
          exact va_alen F.1 F.2.1 F.2.2.2.2.2 hP q0 0 he rfl (oi_nat _).symm hd (kk _ _ _ hL hP hS0)
        · rw [eW_1 g] at he
          exact va_alen F.1 F.2.1 F.2.2.2.2.2 hP q0 1 he rfl (oi_nat _).symm hd (kk _ _ _ hL hP hS0)
        · rw [eW_2 g] at he
          exact va_alen F.1 F.2.1 F.2.2.2.2.2 hP q0 2 he rfl (oi_nat _).symm hd (kk _ _ _ hL hP hS0)
        · rw [eW_3 g] at he
          exact va_alen F.1 F.2.1 F.2.2.2.2.2 hP q0 3 he rfl (oi_nat _).symm hd (kk _ _ _ hL hP hS0)
      · cases h
  · cases h
theorem cd_mmax : (cdT.any fun q => Nat.beq q.2 1102) = true := by decide +kernel
theorem cd_mmin : (cdT.any fun q => Nat.beq q.2 1103) = true := by decide +kernel
theorem cd_mabs : (cdT.any fun q => Nat.beq q.2 1105) = true := by decide +kernel
theorem mm_b : (mlT.all fun q => bif Nat.beq q.2.2.2.1 1102 || Nat.beq q.2.2.2.1 1103 || Nat.beq q.2.2.2.1 1105 then Nat.beq q.2.2.2.2 1 else true) = true := by decide +kernel
theorem mm_link {q : Nat × Nat × Nat × Nat × Nat} (hq : q ∈ mlT) (h : q.2.2.2.1 = 1102 ∨ q.2.2.2.1 = 1103 ∨ q.2.2.2.1 = 1105) : Cond.methodLink (ownS q.2.1) q.2.2.1 (yM q.2.2.2.1) ∈ lw_good := by
  have g := List.all_eq_true.mp mm_b q hq
  have e : q.2.2.2.2 = 1 := by
    rcases h with h | h | h <;> rw [h] at g <;> exact Nat.eq_of_beq_eq_true g
  have g1 := walkL_in mlT_b q hq
  unfold mlW at g1
  rw [e] at g1
  exact List.mem_filter.mpr ⟨g1, rfl⟩
theorem cat_sum {ad : Nat → Nat → Nat} : ∀ r : List Vv, ((r.map (conc ad)).map fun v => v.category).sum ≤ 2 * r.length
  | [] => by simp
  | v :: r => by
    have := cat_sum (ad := ad) r
    simp only [List.map_cons, List.sum_cons, List.length_cons]
    have h2 : (conc ad v).category ≤ 2 := by rcases v with x | y | ⟨t, i⟩ <;> simp [conc, Value.category]
    omega
theorem cat_ent {ad : Nat → Nat → Nat} : ∀ r : List Vv, ((r.map (conc ad)).map fun v => v.category).sum = entAlen r
  | [] => rfl
  | .inl _ :: r => by
    have := cat_ent (ad := ad) r
    simp only [List.map_cons, List.sum_cons, entAlen, conc, Value.category] at this ⊢
    omega
  | .inr (.inl _) :: r => by
    have := cat_ent (ad := ad) r
    simp only [List.map_cons, List.sum_cons, entAlen, conc, Value.category] at this ⊢
    omega
  | .inr (.inr (_, _)) :: r => by
    have := cat_ent (ad := ad) r
    simp only [List.map_cons, List.sum_cons, entAlen, conc, Value.category] at this ⊢
    omega
theorem in_any {y : MethodName} (h : (inT.any fun q => decide ((yM q.2).cls = y.cls)) = true) : Cond.initialized y.cls ∈ lw_good := by
  obtain ⟨q, hq, hb⟩ := List.any_eq_true.mp h
  have g := good_in inT_b (fun _ => rfl) hq
  rw [of_decide_eq_true hb] at g
  exact g
theorem st_any {mj : Nat} (h : caS mj = true) : Cond.static (yM mj) ∈ lw_good := by
  obtain ⟨q, hq, hb⟩ := List.any_eq_true.mp h
  have g := good_in stT_b (fun _ => rfl) hq
  rw [Nat.eq_of_beq_eq_true hb] at g
  exact g
theorem im_any {mj : Nat} (h : (imT.any fun q => Nat.beq q.2 mj) = true) : Cond.instanceMethod (yM mj) ∈ lw_good := by
  obtain ⟨q, hq, hb⟩ := List.any_eq_true.mp h
  have g := good_in imT_b (fun _ => rfl) hq
  rw [Nat.eq_of_beq_eq_true hb] at g
  exact g
theorem se_any {mj : Nat} (h : (seT.any fun q => Nat.beq q.2 mj) = true) : Cond.selects (yM mj).cls (yM mj) (yM mj) ∈ lw_good := by
  obtain ⟨q, hq, hb⟩ := List.any_eq_true.mp h
  have g := good_in seT_b (fun _ => rfl) hq
  rw [Nat.eq_of_beq_eq_true hb] at g
  exact g
theorem cd_any {mj : Nat} (h : (cdT.any fun q => Nat.beq q.2 mj) = true) : Cond.code (yM mj) (cM mj) (lM mj) (rM mj) ∈ lw_good := by
  obtain ⟨q, hq, hb⟩ := List.any_eq_true.mp h
  have g : Cond.code (yM q.2) (cM q.2) (lM q.2) (rM q.2) ∈ lw_good := List.mem_filter.mpr ⟨cdT_in hq, rfl⟩
  rw [Nat.eq_of_beq_eq_true hb] at g
  exact g
/-- a call's link, and what else stands of the callee -/
theorem ml_of {own : String} {idx a : Nat} {b : Bool} (h : (mlT.any fun q => Nat.beq q.2.2.1 idx && Nat.beq q.2.2.2.1 a && (bif b then Nat.beq q.2.2.2.2 0 else !(Nat.beq q.2.2.2.2 0)) && decide (ownS q.2.1 = own)) = true) : caB a = true ∧ (bif b then caV a else caS a) = true ∧ ∃ q ∈ mlT, q.2.2.1 = idx ∧ q.2.2.2.1 = a ∧ ownS q.2.1 = own ∧ (Nat.beq q.2.2.2.2 0 = b) := by
  obtain ⟨q, hq, hb⟩ := List.any_eq_true.mp h
  rw [Bool.and_eq_true] at hb
  obtain ⟨h1, h2, h3⟩ := and3 hb.1
  have e1 := Nat.eq_of_beq_eq_true h1
  have e2 := Nat.eq_of_beq_eq_true h2
  have e3 := of_decide_eq_true hb.2
  have g := List.all_eq_true.mp mlT_c q hq
  rw [Bool.and_eq_true, e2] at g
  have h4 : Nat.beq q.2.2.2.2 0 = b := by
    cases b with
    | true => exact h3
    | false => revert h3; cases Nat.beq q.2.2.2.2 0 <;> decide
  refine ⟨g.1, ?_, q, hq, e1, e2, e3, h4⟩
  have g2 := g.2
  rw [h4] at g2
  exact g2
theorem st_mmax (F : Fr p s m args c D cy mi) {idx : Nat} {pc a lnn pc' : Nat} {x : Int} {ls ls' : Ls} {st st' : List Vv} {M M' : Mm} (hd : decode (cM mi) pc = .ok (.invokestatic idx, 3)) (h : sem1 S mi (.invokestatic idx) lnn a x pc ls st M = some (.inl (pc', ls', st', M'))) {lsC : Array Slot} (hL : LR ad (lM mi) ls lsC) (hP : va_P D vwCl (wsW cy ad M) H) (hS0 : va_S A H0 H locs) (hst : ∀ v ∈ st, okV v) (hRm : 1 ≤ R.frames ∧ 40 ≤ R.locals ∧ cells ≤ R.cells ∧ slots ≤ R.slots) (ha : a = 1102) (hok : okB (yM mi).cls pc (.invokestatic idx, lnn, a, x) = true)
    (kk : ∀ (H1 : Heap) (locs1 : List Loc) (lsC1 : Array Slot), LR ad (lM mi) ls' lsC1 → va_P D vwCl (wsW cy ad M') H1 → va_S A H0 H1 locs1 → W p l e R s m args below meth c H1 locs1 cells slots Q (F0 m pc' lsC1 (st'.map (conc ad)))) : W p l e R s m args below meth c H locs cells slots Q (F0 m pc lsC (st.map (conc ad))) := by
  subst ha
  replace h : (match st with
    | .inl y :: .inl x :: st' => bif Nat.ble st'.length 4 then goS (pc + 3) ls (.inl (if x < y then y else x) :: st') M else none
    | _ => none) = some _ := h
  unfold goS at h
  split at h
  · next y x r =>
    cases hb : Nat.ble r.length 4 with
    | false => rw [hb] at h; cases h
    | true =>
      rw [hb] at h
      cases h
      have hx : inR x := hst (.inl x) (by simp)
      have hy : inR y := hst (.inl y) (by simp)
      obtain ⟨h1, h2, q, hq, e1, e2, e3, e4⟩ := ml_of (b := false) hok
      rw [caB, Bool.and_eq_true] at h1
      have hml : Cond.methodLink (yM mi).cls idx (yM 1102) ∈ lw_good := by
        have hn := mm_link (q := q) hq (Or.inl e2)
        rw [e1, e2, e3] at hn
        exact hn
      refine va_mmax F.1 F.2.1 (F.2.2.1.trans hL.2.1.symm) F.2.2.2.1 (F.2.2.2.2.1 _ hml) (F.2.2.2.2.1 _ (st_any (mj := 1102) h2)) (F.2.2.2.2.1 _ (show Cond.initialized "java/lang/Math" ∈ lw_good from in_any (y := yM 1102) h1.1)) (F.2.2.2.2.1 _ (cd_any (mj := 1102) cd_mmax)) hRm.1 ?_ hRm.2.2.1 hRm.2.2.2 hd ?_
      · have hz := cat_sum (ad := ad) r
        have hb' := Nat.le_of_ble_eq_true hb
        have := hRm.2.1
        omega
      · have k1 := kk _ _ _ hL hP hS0
        have ez : conc ad (.inl (if x < y then y else x)) = .int (if Int32.ofInt x < Int32.ofInt y then Int32.ofInt y else Int32.ofInt x) := by
          by_cases hc : x < y
          · rw [if_pos hc, if_pos ((oi_lt hx hy).mpr hc)]; rfl
          · rw [if_neg hc, if_neg (fun g => hc ((oi_lt hx hy).mp g))]; rfl
        rw [List.map_cons, ez] at k1
        exact k1
  · cases h
theorem st_mmin (F : Fr p s m args c D cy mi) {idx : Nat} {pc a lnn pc' : Nat} {x : Int} {ls ls' : Ls} {st st' : List Vv} {M M' : Mm} (hd : decode (cM mi) pc = .ok (.invokestatic idx, 3)) (h : sem1 S mi (.invokestatic idx) lnn a x pc ls st M = some (.inl (pc', ls', st', M'))) {lsC : Array Slot} (hL : LR ad (lM mi) ls lsC) (hP : va_P D vwCl (wsW cy ad M) H) (hS0 : va_S A H0 H locs) (hst : ∀ v ∈ st, okV v) (hRm : 1 ≤ R.frames ∧ 40 ≤ R.locals ∧ cells ≤ R.cells ∧ slots ≤ R.slots) (ha : a = 1103) (hok : okB (yM mi).cls pc (.invokestatic idx, lnn, a, x) = true)
    (kk : ∀ (H1 : Heap) (locs1 : List Loc) (lsC1 : Array Slot), LR ad (lM mi) ls' lsC1 → va_P D vwCl (wsW cy ad M') H1 → va_S A H0 H1 locs1 → W p l e R s m args below meth c H1 locs1 cells slots Q (F0 m pc' lsC1 (st'.map (conc ad)))) : W p l e R s m args below meth c H locs cells slots Q (F0 m pc lsC (st.map (conc ad))) := by
  subst ha
  replace h : (match st with
    | .inl y :: .inl x :: st' => bif Nat.ble st'.length 4 then goS (pc + 3) ls (.inl (if y < x then y else x) :: st') M else none
    | _ => none) = some _ := h
  unfold goS at h
  split at h
  · next y x r =>
    cases hb : Nat.ble r.length 4 with
    | false => rw [hb] at h; cases h
    | true =>
      rw [hb] at h
      cases h
      have hx : inR x := hst (.inl x) (by simp)
      have hy : inR y := hst (.inl y) (by simp)
      obtain ⟨h1, h2, q, hq, e1, e2, e3, e4⟩ := ml_of (b := false) hok
      rw [caB, Bool.and_eq_true] at h1
      have hml : Cond.methodLink (yM mi).cls idx (yM 1103) ∈ lw_good := by
        have hn := mm_link (q := q) hq (Or.inr (Or.inl e2))
        rw [e1, e2, e3] at hn
        exact hn
      refine va_mmin F.1 F.2.1 (F.2.2.1.trans hL.2.1.symm) F.2.2.2.1 (F.2.2.2.2.1 _ hml) (F.2.2.2.2.1 _ (st_any (mj := 1103) h2)) (F.2.2.2.2.1 _ (show Cond.initialized "java/lang/Math" ∈ lw_good from in_any (y := yM 1103) h1.1)) (F.2.2.2.2.1 _ (cd_any (mj := 1103) cd_mmin)) hRm.1 ?_ hRm.2.2.1 hRm.2.2.2 hd ?_
      · have hz := cat_sum (ad := ad) r
        have hb' := Nat.le_of_ble_eq_true hb
        have := hRm.2.1
        omega
      · have k1 := kk _ _ _ hL hP hS0
        have ez : conc ad (.inl (if y < x then y else x)) = .int (if Int32.ofInt y < Int32.ofInt x then Int32.ofInt y else Int32.ofInt x) := by
          by_cases hc : y < x
          · rw [if_pos hc, if_pos ((oi_lt hy hx).mpr hc)]; rfl
          · rw [if_neg hc, if_neg (fun g => hc ((oi_lt hy hx).mp g))]; rfl
        rw [List.map_cons, ez] at k1
        exact k1
  · cases h
theorem st_mabs (F : Fr p s m args c D cy mi) {idx : Nat} {pc a lnn pc' : Nat} {x : Int} {ls ls' : Ls} {st st' : List Vv} {M M' : Mm} (hd : decode (cM mi) pc = .ok (.invokestatic idx, 3)) (h : sem1 S mi (.invokestatic idx) lnn a x pc ls st M = some (.inl (pc', ls', st', M'))) {lsC : Array Slot} (hL : LR ad (lM mi) ls lsC) (hP : va_P D vwCl (wsW cy ad M) H) (hS0 : va_S A H0 H locs) (hst : ∀ v ∈ st, okV v) (hRm : 1 ≤ R.frames ∧ 40 ≤ R.locals ∧ cells ≤ R.cells ∧ slots ≤ R.slots) (ha : a = 1105) (hok : okB (yM mi).cls pc (.invokestatic idx, lnn, a, x) = true)
    (kk : ∀ (H1 : Heap) (locs1 : List Loc) (lsC1 : Array Slot), LR ad (lM mi) ls' lsC1 → va_P D vwCl (wsW cy ad M') H1 → va_S A H0 H1 locs1 → W p l e R s m args below meth c H1 locs1 cells slots Q (F0 m pc' lsC1 (st'.map (conc ad)))) : W p l e R s m args below meth c H locs cells slots Q (F0 m pc lsC (st.map (conc ad))) := by
  subst ha
  replace h : (match st with
    | .inl x :: st' => bif Nat.ble st'.length 4 then goS (pc + 3) ls (.inl (if 0 ≤ x then x else wrap (-x)) :: st') M else none
    | _ => none) = some _ := h
  unfold goS at h
  split at h
  · next x r =>
    cases hb : Nat.ble r.length 4 with
    | false => rw [hb] at h; cases h
    | true =>
      rw [hb] at h
      cases h
      have hx : inR x := hst (.inl x) (by simp)
      obtain ⟨h1, h2, q, hq, e1, e2, e3, e4⟩ := ml_of (b := false) hok
      rw [caB, Bool.and_eq_true] at h1
      have hml : Cond.methodLink (yM mi).cls idx (yM 1105) ∈ lw_good := by
        have hn := mm_link (q := q) hq (Or.inr (Or.inr e2))
        rw [e1, e2, e3] at hn
        exact hn
      refine va_mabs F.1 F.2.1 (F.2.2.1.trans hL.2.1.symm) F.2.2.2.1 (F.2.2.2.2.1 _ hml) (F.2.2.2.2.1 _ (st_any (mj := 1105) h2)) (F.2.2.2.2.1 _ (show Cond.initialized "java/lang/Math" ∈ lw_good from in_any (y := yM 1105) h1.1)) (F.2.2.2.2.1 _ (cd_any (mj := 1105) cd_mabs)) hRm.1 ?_ hRm.2.2.1 hRm.2.2.2 hd ?_
      · have hz := cat_sum (ad := ad) r
        have hb' := Nat.le_of_ble_eq_true hb
        have := hRm.2.1
        omega
      · have k1 := kk _ _ _ hL hP hS0
        have ez : conc ad (.inl (if 0 ≤ x then x else wrap (-x))) = .int (if (0 : Int32) ≤ Int32.ofInt x then Int32.ofInt x else 0 - Int32.ofInt x) := by
          have h0 : (0 : Int32) ≤ Int32.ofInt x ↔ 0 ≤ x := oi_le (x := 0) in_0 hx
          by_cases hc : 0 ≤ x
          · rw [if_pos hc, if_pos (h0.mpr hc)]; rfl
          · rw [if_neg hc, if_neg (fun g => hc (h0.mp g))]
            show Value.int (Int32.ofInt (wrap (-x))) = _
            rw [oi_wrap, Int32.ofInt_neg, Int32.zero_sub]
        rw [List.map_cons, ez] at k1
        exact k1
  · cases h
end ST2

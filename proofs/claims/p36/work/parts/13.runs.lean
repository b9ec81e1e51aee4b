/-! what a step may be; runs keep; contracts of methods out of runs -/
theorem sem_is {S : Sc} {mi pc : Nat} {ls : Ls} {st : List Vv} {M : Mm} {z : SR} (hme : meB mi = true) (h : sem S (cod mi) mi pc ls st M = some z) : ∃ (i : Jvm.ClassFile.Instr) (len a : Nat) (x : Int), (pc, i, len, a, x) ∈ (cod mi).flatten ∧ decode (cM mi) pc = .ok (i, len) ∧ (lenI i = 0 ∨ lenI i = len) ∧ okB (yM mi).cls pc (i, len, a, x) = true ∧ sem1 S mi i len a x pc ls st M = some z := by
  unfold sem at h
  split at h
  · next i len a x hf =>
    have g := List.all_eq_true.mp hme _ (fetch_mem hf)
    obtain ⟨g1, g2, g3⟩ := and3 g
    refine ⟨i, len, a, x, fetch_mem hf, of_decide_eq_true g1, ?_, g3, h⟩
    rw [Bool.or_eq_true] at g2
    exact g2.imp Nat.eq_of_beq_eq_true Nat.eq_of_beq_eq_true
  · cases h
theorem mm_inl {S : Sc} {mi len a pc idx : Nat} {x : Int} {ls : Ls} {st : List Vv} {M : Mm} {q : SR} (ha : isMM a = true) (h : sem1 S mi (.invokestatic idx) len a x pc ls st M = some q) : ∃ r, q = .inl r := by
  unfold isMM at ha
  rw [Bool.or_eq_true, Bool.or_eq_true] at ha
  rcases ha with (g | g) | g
  · have g := Nat.eq_of_beq_eq_true g
    subst g
    replace h : (match (generalizing := false) st with
      | .inl y :: .inl x :: st' => bif Nat.ble st'.length 4 then goS (pc + 3) ls (.inl (if x < y then y else x) :: st') M else none
      | _ => none) = some q := h
    unfold goS at h
    split at h
    · rw [Bool.cond_eq_ite] at h
      split at h
      · cases h; exact ⟨_, rfl⟩
      · cases h
    · cases h
  · have g := Nat.eq_of_beq_eq_true g
    subst g
    replace h : (match (generalizing := false) st with
      | .inl y :: .inl x :: st' => bif Nat.ble st'.length 4 then goS (pc + 3) ls (.inl (if y < x then y else x) :: st') M else none
      | _ => none) = some q := h
    unfold goS at h
    split at h
    · rw [Bool.cond_eq_ite] at h
      split at h
      · cases h; exact ⟨_, rfl⟩
      · cases h
    · cases h
  · have g := Nat.eq_of_beq_eq_true g
    subst g
    replace h : (match (generalizing := false) st with
      | .inl x :: st' => bif Nat.ble st'.length 4 then goS (pc + 3) ls (.inl (if 0 ≤ x then x else wrap (-x)) :: st') M else none
      | _ => none) = some q := h
    unfold goS at h
    split at h
    · rw [Bool.cond_eq_ite] at h
      split at h
      · cases h; exact ⟨_, rfl⟩
      · cases h
    · cases h
theorem ml_mi : (mlT.all fun q => isMM q.2.2.2.1 || miL.contains q.2.2.2.1) = true := by decide +kernel
/-- a class's own methods call no method that may throw; only the law's class does -/
theorem ml_kd : (mlT.all fun q => Nat.beq (kdM q.2.2.2.1) 0 || Nat.beq q.2.1 10) = true := by decide +kernel
theorem kd_b : (miL.all fun mi => Nat.beq (kdM mi) 0) = true := by decide +kernel
theorem kd_0 {mi : Nat} (h : mi ∈ miL) : kdM mi = 0 := Nat.eq_of_beq_eq_true (List.all_eq_true.mp kd_b mi h)
theorem scW_some {mj : Nat} {S : Sc} {q : Nat × (Nat → Int)} (h : scW mj S = some q) : S = some q := by
  cases S with
  | none => cases h
  | some p =>
    have h : (bif Nat.ble 1200 mj then some p else none) = some q := h
    cases hb : Nat.ble 1200 mj with
    | true => rw [hb] at h; exact h
    | false => rw [hb] at h; cases h
theorem scW_r {mj : Nat} {S : Sc} (hS : ∀ n xs, S = some (n, xs) → inR n ∧ ∀ j, inR (xs j)) : ∀ n xs, scW mj S = some (n, xs) → inR n ∧ ∀ j, inR (xs j) := fun n xs h => hS n xs (scW_some h)
theorem vi_cls : (miL.all fun mi => bif caV mi then decide ((yM mi).cls = RR' (mi / 100)) && Nat.blt (mi / 100) 10 else true) = true := by decide +kernel
theorem any_mi {own : String} {idx a : Nat} {f : Nat × Nat × Nat × Nat × Nat → Bool} (ha : isMM a = false) (h : (mlT.any fun q => Nat.beq q.2.2.1 idx && Nat.beq q.2.2.2.1 a && f q && decide (ownS q.2.1 = own)) = true) : a ∈ miL ∧ (kdM a = 0 ∨ own = ownS 10) := by
  obtain ⟨q, hq, hb⟩ := List.any_eq_true.mp h
  obtain ⟨-, h2, -, h4⟩ := and4 hb
  have e := Nat.eq_of_beq_eq_true h2
  have g1 := List.all_eq_true.mp ml_mi q hq
  have g2 := List.all_eq_true.mp ml_kd q hq
  rw [e] at g1 g2
  rw [ha, Bool.false_or] at g1
  rw [Bool.or_eq_true] at g2
  refine ⟨List.contains_iff_mem.mp g1, g2.imp Nat.eq_of_beq_eq_true (fun g => ?_)⟩
  rw [← of_decide_eq_true h4, Nat.eq_of_beq_eq_true g]
theorem vm_no : (miL.all fun mi => !(isMM mi)) = true := by decide +kernel
theorem ml_vi : (mlT.all fun q => !(Nat.beq q.2.2.2.2 0 && isMM q.2.2.2.1)) = true := by decide +kernel
theorem call_is {S : Sc} {mi : Nat} {own : String} {i : Jvm.ClassFile.Instr} {len a pc mj pc' : Nat} {x : Int} {ls ls' : Ls} {st as rest : List Vv} {M : Mm} (hok : okB own pc (i, len, a, x) = true) (h : sem1 S mi i len a x pc ls st M = some (.inr (.inl (mj, as, pc', ls', rest)))) :
    ls' = ls ∧ pc' = pc + 3 ∧ mj = a ∧ popN (naM a) [] st = some (as, rest) ∧ entAlen rest ≤ 8 ∧ entAlen as ≤ lM a ∧ a ∈ miL ∧ (kdM a = 0 ∨ own = ownS 10) ∧ ((∃ idx t k as', i = .invokevirtual idx ∧ as = .inr (.inr (t, k)) :: as' ∧ t = a / 100) ∨ ∃ idx, i = .invokestatic idx) := by
  cases hc : endI i with
  | false => obtain ⟨r, e⟩ := goes_on hc h; cases e
  | true =>
    cases i with
    | invokevirtual idx =>
      obtain ⟨t, k, as0, rest0, e, h1, h2, h3, h4⟩ := virt_is h
      cases e
      have hok2 : (mlT.any fun q => Nat.beq q.2.2.1 idx && Nat.beq q.2.2.2.1 a && Nat.beq q.2.2.2.2 0 && decide (ownS q.2.1 = own)) = true := hok
      have hmm : isMM a = false := by
        obtain ⟨q, hq, hb⟩ := List.any_eq_true.mp hok2
        obtain ⟨-, h2, h3, -⟩ := and4 hb
        have g := List.all_eq_true.mp ml_vi q hq
        rw [h3, Nat.eq_of_beq_eq_true h2] at g
        revert g
        cases isMM a <;> decide
      obtain ⟨g1, g2⟩ := any_mi hmm hok2
      exact ⟨rfl, rfl, rfl, h2, h3, h4, g1, g2, Or.inl ⟨idx, t, k, as0, rfl, rfl, h1⟩⟩
    | invokestatic idx =>
      cases hm : isMM a with
      | true => obtain ⟨r, e⟩ := mm_inl hm h; cases e
      | false =>
        obtain ⟨as0, rest0, e, h2, h3, h4⟩ := stat_is hm h
        cases e
        have hok2 : (mlT.any fun q => Nat.beq q.2.2.1 idx && Nat.beq q.2.2.2.1 a && !(Nat.beq q.2.2.2.2 0) && decide (ownS q.2.1 = own)) = true := hok
        obtain ⟨g1, g2⟩ := any_mi hm hok2
        exact ⟨rfl, rfl, rfl, h2, h3, h4, g1, g2, Or.inr ⟨idx, rfl⟩⟩
    | ireturn =>
      exfalso
      replace h : (match (generalizing := false) st with
        | [.inl v] => if rkM mi = 1 then doneS (.inl (some (.inl v))) else if rkM mi = 2 then (if v = 0 ∨ v = 1 then doneS (.inl (some (.inl v))) else none) else none
        | _ => none) = some (.inr (.inl (mj, as, pc', ls', rest))) := h
      unfold doneS at h
      repeat' (split at h)
      all_goals (cases h)
    | lreturn =>
      exfalso
      replace h : (match (generalizing := false) st with
        | [.inr (.inl v)] => if rkM mi = 3 then doneS (.inl (some (.inr (.inl v)))) else none
        | _ => none) = some (.inr (.inl (mj, as, pc', ls', rest))) := h
      unfold doneS at h
      repeat' (split at h)
      all_goals (cases h)
    | areturn =>
      exfalso
      replace h : (match (generalizing := false) st with
        | [.inr (.inr v)] => if rkM mi = 4 then doneS (.inl (some (.inr (.inr v)))) else none
        | _ => none) = some (.inr (.inl (mj, as, pc', ls', rest))) := h
      unfold doneS at h
      repeat' (split at h)
      all_goals (cases h)
    | return_ =>
      exfalso
      replace h : (match (generalizing := false) st with
        | [] => if rkM mi = 0 then doneS (.inl none) else none
        | _ => none) = some (.inr (.inl (mj, as, pc', ls', rest))) := h
      unfold doneS at h
      repeat' (split at h)
      all_goals (cases h)
    | new idx =>
      exfalso
      replace h : (if kdM mi = 1 then (match (generalizing := false) st with
        | [] => doneS (.inr a)
        | _ => none) else none) = some (.inr (.inl (mj, as, pc', ls', rest))) := h
      unfold doneS at h
      repeat' (split at h)
      all_goals (cases h)
    | _ => cases hc
theorem end_is {S : Sc} {mi : Nat} {own : String} {i : Jvm.ClassFile.Instr} {len a pc : Nat} {x : Int} {ls : Ls} {st : List Vv} {M : Mm} {o : Option Vv ⊕ Nat} (hok : okB own pc (i, len, a, x) = true) (h : sem1 S mi i len a x pc ls st M = some (.inr (.inr o))) :
    (i = .ireturn ∧ ∃ v, st = [.inl v] ∧ o = .inl (some (.inl v)) ∧ (rkM mi = 1 ∨ rkM mi = 2 ∧ (v = 0 ∨ v = 1))) ∨ (i = .lreturn ∧ ∃ v, st = [.inr (.inl v)] ∧ o = .inl (some (.inr (.inl v))) ∧ rkM mi = 3) ∨ (i = .areturn ∧ ∃ v, st = [.inr (.inr v)] ∧ o = .inl (some (.inr (.inr v))) ∧ rkM mi = 4) ∨ (i = .return_ ∧ st = [] ∧ o = .inl none ∧ rkM mi = 0) ∨ ∃ idx, i = .new idx ∧ st = [] ∧ o = .inr a ∧ kdM mi = 1 := by
  cases hc : endI i with
  | false => obtain ⟨r, e⟩ := goes_on hc h; cases e
  | true =>
    cases i with
    | invokevirtual idx => obtain ⟨t, k, as0, rest0, e, h1, h2, h3, h4⟩ := virt_is h; cases e
    | invokestatic idx =>
      cases hm : isMM a with
      | true => obtain ⟨r, e⟩ := mm_inl hm h; cases e
      | false => obtain ⟨as0, rest0, e, h2, h3, h4⟩ := stat_is hm h; cases e
    | ireturn =>
      replace h : (match (generalizing := false) st with
        | [.inl v] => if rkM mi = 1 then doneS (.inl (some (.inl v))) else if rkM mi = 2 then (if v = 0 ∨ v = 1 then doneS (.inl (some (.inl v))) else none) else none
        | _ => none) = some (.inr (.inr o)) := h
      unfold doneS at h
      split at h
      · next v =>
        split at h
        · next hr => cases h; exact Or.inl ⟨rfl, v, rfl, rfl, Or.inl hr⟩
        · split at h
          · next hr =>
            split at h
            · next hv => cases h; exact Or.inl ⟨rfl, v, rfl, rfl, Or.inr ⟨hr, hv⟩⟩
            · cases h
          · cases h
      · cases h
    | lreturn =>
      replace h : (match (generalizing := false) st with
        | [.inr (.inl v)] => if rkM mi = 3 then doneS (.inl (some (.inr (.inl v)))) else none
        | _ => none) = some (.inr (.inr o)) := h
      unfold doneS at h
      split at h
      · next v =>
        split at h
        · next hr => cases h; exact Or.inr (Or.inl ⟨rfl, v, rfl, rfl, hr⟩)
        · cases h
      · cases h
    | areturn =>
      replace h : (match (generalizing := false) st with
        | [.inr (.inr v)] => if rkM mi = 4 then doneS (.inl (some (.inr (.inr v)))) else none
        | _ => none) = some (.inr (.inr o)) := h
      unfold doneS at h
      split at h
      · next v =>
        split at h
        · next hr => cases h; exact Or.inr (Or.inr (Or.inl ⟨rfl, v, rfl, rfl, hr⟩))
        · cases h
      · cases h
    | return_ =>
      replace h : (match (generalizing := false) st with
        | [] => if rkM mi = 0 then doneS (.inl none) else none
        | _ => none) = some (.inr (.inr o)) := h
      unfold doneS at h
      split at h
      · split at h
        · next hr => cases h; exact Or.inr (Or.inr (Or.inr (Or.inl ⟨rfl, rfl, rfl, hr⟩)))
        · cases h
      · cases h
    | new idx =>
      replace h : (if kdM mi = 1 then (match (generalizing := false) st with
        | [] => doneS (.inr a)
        | _ => none) else none) = some (.inr (.inr o)) := h
      unfold doneS at h
      split at h
      · next hr =>
        split at h
        · cases h; exact Or.inr (Or.inr (Or.inr (Or.inr ⟨idx, rfl, rfl, rfl, hr⟩)))
        · cases h
      · cases h
    | _ => cases hc
theorem popN_eq : ∀ {n : Nat} {acc st as rest : List Vv}, popN n acc st = some (as, rest) → ∃ xs, xs.length = n ∧ st = xs ++ rest ∧ as = xs.reverse ++ acc
  | 0, acc, st, as, rest, h => by cases h; exact ⟨[], rfl, rfl, rfl⟩
  | n + 1, acc, [], as, rest, h => by cases h
  | n + 1, acc, v :: st, as, rest, h => by
    obtain ⟨xs, h1, h2, h3⟩ := popN_eq (n := n) (acc := v :: acc) h
    exact ⟨v :: xs, by rw [List.length_cons, h1], by rw [h2]; rfl, by rw [h3]; simp⟩
theorem popN_as {n : Nat} {st as rest : List Vv} (h : popN n [] st = some (as, rest)) : as.length = n ∧ st = as.reverse ++ rest := by
  obtain ⟨xs, h1, h2, h3⟩ := popN_eq h
  rw [List.append_nil] at h3
  subst h3
  exact ⟨by rw [List.length_reverse, h1], by rw [List.reverse_reverse]; exact h2⟩
theorem okS_pop {st as rest : List Vv} {n : Nat} (h : popN n [] st = some (as, rest)) (hs : okS st) : okS as ∧ okS rest := by
  obtain ⟨-, e⟩ := popN_as h
  subst e
  exact ⟨fun v hv => hs v (by simp [hv]), fun v hv => hs v (by simp [hv])⟩
/-! locals at the entry -/
theorem ascF_app (ad : Nat → Nat → Nat) : ∀ (l : Ls) (i : Nat), ascF ad i (l ++ [none]) = ascF ad i l
  | [], i => rfl
  | none :: l, i => ascF_app ad l (i + 1)
  | some v :: l, i => congrArg (List.cons _) (ascF_app ad l (i + 1))
theorem ascF_pad (ad : Nat → Nat → Nat) : ∀ (n : Nat) (l : Ls) (i : Nat), ascF ad i (padL n l) = ascF ad i l
  | 0, l, i => rfl
  | n + 1, l, i => (ascF_pad ad n (l ++ [none]) i).trans (ascF_app ad l i)
theorem padL_len : ∀ (n : Nat) (l : Ls), (padL n l).length = l.length + n
  | 0, l => rfl
  | n + 1, l => by
    show (padL n (l ++ [none])).length = _
    rw [padL_len n (l ++ [none])]
    simp
    omega
theorem entA_len : ∀ as : List Vv, (entA as).length = entAlen as
  | [] => rfl
  | .inl _ :: l => congrArg (· + 1) (entA_len l)
  | .inr (.inl _) :: l => congrArg (· + 2) (entA_len l)
  | .inr (.inr _) :: l => congrArg (· + 1) (entA_len l)
theorem lgsl_len (ad : Nat → Nat → Nat) : ∀ as : List Vv, (lg_sl (as.map (conc ad))).length = entAlen as
  | [] => rfl
  | .inl _ :: l => by
    show (_ :: lg_sl (l.map (conc ad))).length = _
    rw [List.length_cons, lgsl_len ad l]; rfl
  | .inr (.inl _) :: l => by
    show (_ :: _ :: lg_sl (l.map (conc ad))).length = _
    rw [List.length_cons, List.length_cons, lgsl_len ad l]; rfl
  | .inr (.inr _) :: l => by
    show (_ :: lg_sl (l.map (conc ad))).length = _
    rw [List.length_cons, lgsl_len ad l]; rfl
theorem entA_asc (ad : Nat → Nat → Nat) : ∀ (as : List Vv) (i : Nat), ascF ad i (entA as) = lv_args i (as.map (conc ad))
  | [], i => rfl
  | .inl v :: l, i => congrArg (List.cons _) (entA_asc ad l (i + 1))
  | .inr (.inl v) :: l, i => congrArg (List.cons _) (entA_asc ad l (i + 2))
  | .inr (.inr v) :: l, i => congrArg (List.cons _) (entA_asc ad l (i + 1))
theorem entL_asc (ad : Nat → Nat → Nat) (n : Nat) (as : List Vv) : ascF ad 0 (entL n as) = lv_args 0 (as.map (conc ad)) := by
  unfold entL
  rw [ascF_pad, entA_asc]
theorem entL_len {n : Nat} {as : List Vv} (h : entAlen as ≤ n) : (entL n as).length = n := by
  unfold entL
  rw [padL_len, entA_len]
  omega
theorem okL_app {l : Ls} (h : okL l) : okL (l ++ [none]) := by
  intro i v hv
  rw [nthL_eq] at hv
  by_cases hi : i < l.length
  · rw [List.getElem?_append_left hi, ← nthL_eq] at hv
    exact h i v hv
  · rw [List.getElem?_append_right (Nat.le_of_not_lt hi)] at hv
    have h0 : i - l.length = 0 ∨ ∃ k, i - l.length = k + 1 := by
      cases i - l.length with
      | zero => exact Or.inl rfl
      | succ k => exact Or.inr ⟨k, rfl⟩
    rcases h0 with e | ⟨k, e⟩ <;> rw [e] at hv
    · cases hv
    · cases hv
theorem okL_pad : ∀ (n : Nat) {l : Ls}, okL l → okL (padL n l)
  | 0, _, h => h
  | n + 1, _, h => okL_pad n (okL_app h)
theorem okL_cons {o : Option Vv} {l : Ls} (ho : ∀ v, o = some v → okV v) (h : okL l) : okL (o :: l) := by
  intro i v hv
  cases i with
  | zero => cases hv; exact ho v rfl
  | succ i => exact h i v hv
theorem okL_nil : okL [] := fun i v h => by cases h
theorem okL_entA : ∀ {as : List Vv}, okS as → okL (entA as)
  | [], _ => okL_nil
  | .inl v :: l, h => okL_cons (fun w e => by cases e; exact (okS_cons.mp h).1) (okL_entA (okS_cons.mp h).2)
  | .inr (.inl v) :: l, h => okL_cons (fun w e => by cases e; exact trivial) (okL_cons (fun w e => by cases e) (okL_entA (okS_cons.mp h).2))
  | .inr (.inr v) :: l, h => okL_cons (fun w e => by cases e; exact (okS_cons.mp h).1) (okL_entA (okS_cons.mp h).2)
theorem okL_ent {n : Nat} {as : List Vv} (h : okS as) : okL (entL n as) := okL_pad _ (okL_entA h)
theorem okL_set {ls : Ls} {k : Nat} (h : okL ls) : okL ((clrL ls k).set k none) := by
  intro i v hv
  rw [nthL_set] at hv
  split at hv
  · split at hv <;> cases hv
  · exact h i v (clrL_nth hv).1
/-- what a call's answer goes on with -/
def contA (mi : Nat) (o1 : Option Vv ⊕ Nat) (pc' : Nat) (ls : Ls) (rest : List Vv) (pc2 : Nat) (ls2 : Ls) (st2 : List Vv) : Prop := match o1 with
  | .inl v => pc2 = pc' ∧ ls2 = ls ∧ st2 = v.toList ++ rest
  | .inr X => ∃ k, hdl mi X = some (pc2, k) ∧ ls2 = (clrL ls k).set k none ∧ st2 = []
def cnt1 (mj q1 : Nat) : Nat := bif Nat.beq (kdM mj) 1 then 1 else q1
/-- a run's first step -/
theorem ex_is {n : Nat} {S : Sc} {d mi pc : Nat} {ls : Ls} {st : List Vv} {M : Mm} {o : Option Vv ⊕ Nat} {M' : Mm} {q : Nat} (h : ex (n + 1) S d mi pc ls st M = some (o, M', q)) :
    (∃ pc' ls' st' M1, sem S (cod mi) mi pc ls st M = some (.inl (pc', ls', st', M1)) ∧ ex n S d mi pc' ls' st' M1 = some (o, M', q)) ∨
    (sem S (cod mi) mi pc ls st M = some (.inr (.inr o)) ∧ M' = M ∧ q = 0) ∨
    ∃ mj as pc' ls' rest d' o1 M1 q1 pc2 ls2 st2 q2, sem S (cod mi) mi pc ls st M = some (.inr (.inl (mj, as, pc', ls', rest))) ∧ d = d' + 1 ∧ ex n (scW mj S) d' mj 0 (entL (lM mj) as) [] M = some (o1, M1, q1) ∧ contA mi o1 pc' ls' rest pc2 ls2 st2 ∧ ex n S d mi pc2 ls2 st2 M1 = some (o, M', q2) ∧ q = cnt1 mj q1 + q2 ∧ (kdM mj = 1 → q1 = 0) ∧ (∀ X, o1 = .inr X → kdM mj = 1) := by
  rw [ex] at h
  cases hs : sem S (cod mi) mi pc ls st M with
  | none => rw [hs] at h; cases h
  | some z =>
    rw [hs] at h
    rcases z with ⟨pc', ls', st', M1⟩ | ⟨mj, as, pc', ls', rest⟩ | o2
    · exact Or.inl ⟨pc', ls', st', M1, rfl, h⟩
    · refine Or.inr (Or.inr ?_)
      cases d with
      | zero => cases h
      | succ d' =>
        simp only at h
        cases hc : ex n (scW mj S) d' mj 0 (entL (lM mj) as) [] M with
        | none => rw [hc] at h; cases h
        | some w =>
          rw [hc] at h
          obtain ⟨o1, M1, q1⟩ := w
          cases o1 with
          | inl v =>
            simp only at h
            cases hk : Nat.beq (kdM mj) 1 with
            | true =>
              rw [hk] at h
              cases h0 : Nat.beq q1 0 with
              | false => rw [h0] at h; cases h
              | true =>
                rw [h0] at h
                obtain ⟨q2, e1, e2⟩ := kdOf_some h
                exact ⟨mj, as, pc', ls', rest, d', .inl v, M1, q1, pc', ls', v.toList ++ rest, q2, rfl, rfl, hc, ⟨rfl, rfl, rfl⟩, e1, by unfold cnt1; rw [hk]; exact e2, fun _ => Nat.eq_of_beq_eq_true h0, fun X e => (by cases e)⟩
            | false =>
              rw [hk] at h
              obtain ⟨q2, e1, e2⟩ := kdOf_some h
              exact ⟨mj, as, pc', ls', rest, d', .inl v, M1, q1, pc', ls', v.toList ++ rest, q2, rfl, rfl, hc, ⟨rfl, rfl, rfl⟩, e1, by unfold cnt1; rw [hk]; exact e2, fun e => (by rw [e] at hk; cases hk), fun X e => (by cases e)⟩
          | inr X =>
            simp only at h
            cases hk : Nat.beq (kdM mj) 1 with
            | false => rw [hk] at h; cases h
            | true =>
              rw [hk] at h
              cases h0 : Nat.beq q1 0 with
              | false => rw [h0] at h; cases h
              | true =>
                rw [h0] at h
                simp only [cond_true] at h
                cases hh : hdl mi X with
                | none => rw [hh] at h; cases h
                | some w2 =>
                  obtain ⟨pc2, k⟩ := w2
                  rw [hh] at h
                  obtain ⟨q2, e1, e2⟩ := kdOf_some h
                  exact ⟨mj, as, pc', ls', rest, d', .inr X, M1, q1, pc2, (clrL ls' k).set k none, [], q2, rfl, rfl, hc, ⟨k, hh, rfl, rfl⟩, e1, by unfold cnt1; rw [hk]; exact e2, fun _ => Nat.eq_of_beq_eq_true h0, fun X' e => Nat.eq_of_beq_eq_true hk⟩
    · cases h
      exact Or.inr (Or.inl ⟨rfl, rfl, rfl⟩)
theorem okS_app {a b : List Vv} (ha : okS a) (hb : okS b) : okS (a ++ b) := fun v hv => (List.mem_append.mp hv).elim (ha v) (hb v)
/-- runs keep what is kept -/
theorem ex_ok : ∀ (n : Nat) (S : Sc) (hS : ∀ n xs, S = some (n, xs) → inR n ∧ ∀ j, inR (xs j)) (d mi pc : Nat) (ls : Ls) (st : List Vv) (M : Mm) (o : Option Vv ⊕ Nat) (M' : Mm) (q : Nat), mi ∈ miL → okL ls → okS st → okM M → ex n S d mi pc ls st M = some (o, M', q) → okM M' ∧ (∀ w, o = .inl (some w) → okV w) ∧ (kdM mi ≠ 2 → q = 0) := by
  intro n
  induction n with
  | zero => intro S hS d mi pc ls st M o M' q _ _ _ _ h; rw [ex] at h; cases h
  | succ n ih =>
    intro S hS d mi pc ls st M o M' q hmi hl hs hm h
    have hme := meL_b mi hmi
    rcases ex_is h with ⟨pc', ls', st', M1, h1, h2⟩ | ⟨h1, e1, e2⟩ | ⟨mj, as, pc', ls', rest, d', o1, M1, q1, pc2, ls2, st2, q2, h1, e1, h2, h3, h4, h5, h6, h7⟩
    · obtain ⟨i, len, a, x, -, -, -, hok, h1⟩ := sem_is hme h1
      obtain ⟨k1, k2, k3⟩ := sem1_ok hS hok hl hs hm h1
      exact ih _ hS _ _ _ _ _ _ _ _ _ hmi k1 k2 k3 h2
    · subst e1
      subst e2
      obtain ⟨i, len, a, x, -, -, -, hok, h1⟩ := sem_is hme h1
      refine ⟨hm, fun w hw => ?_, fun _ => rfl⟩
      subst hw
      rcases end_is hok h1 with ⟨-, v, e3, e4, -⟩ | ⟨-, v, e3, e4, -⟩ | ⟨-, v, e3, e4, -⟩ | ⟨-, e3, e4, -⟩ | ⟨idx, -, e3, e4, -⟩
      · cases e4; exact hs _ (by rw [e3]; simp)
      · cases e4; exact hs _ (by rw [e3]; simp)
      · cases e4; exact hs _ (by rw [e3]; simp)
      · cases e4
      · cases e4
    · obtain ⟨i, len, a, x, -, -, -, hok, h1⟩ := sem_is hme h1
      obtain ⟨g1, g2, g3, g4, g5, g6, g7, g8, g9⟩ := call_is hok h1
      subst g1
      subst g3
      obtain ⟨p1, p2⟩ := okS_pop g4 hs
      obtain ⟨c1, c2, c3⟩ := ih _ (scW_r hS) _ _ _ _ _ _ _ _ _ g7 (okL_ent p1) okS_nil hm h2
      have k : okL ls2 ∧ okS st2 := by
        cases o1 with
        | inl v =>
          obtain ⟨-, f2, f3⟩ := h3
          subst f2
          subst f3
          refine ⟨hl, okS_app (fun w hw => ?_) p2⟩
          cases v with
          | none => cases hw
          | some v' => 
            rw [show (some v').toList = [v'] from rfl, List.mem_singleton] at hw
            subst hw
            exact c2 _ rfl
        | inr X =>
          obtain ⟨k, -, f2, f3⟩ := h3
          subst f2
          subst f3
          exact ⟨okL_set hl, okS_nil⟩
      obtain ⟨r1, r2, r3⟩ := ih _ hS _ _ _ _ _ _ _ _ _ hmi k.1 k.2 c1 h4
      refine ⟨r1, r2, fun hk2 => ?_⟩
      have hk0 : kdM mj = 0 := kd_0 g7
      rw [h5, r3 hk2]
      unfold cnt1
      rw [hk0, c3 (by rw [hk0]; decide)]
      rfl

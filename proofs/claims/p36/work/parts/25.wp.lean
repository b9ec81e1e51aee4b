/-! the logic of runs: from here on no machine but the abstract one -/
theorem ex_deep : ∀ (n : Nat) (S : Sc) (d mi pc : Nat) (ls : Ls) (st : List Vv) (M : Mm) (r : (Option Vv ⊕ Nat) × Mm × Nat), ex n S d mi pc ls st M = some r → ex n S (d + 1) mi pc ls st M = some r := by
  intro n
  induction n with
  | zero => intro S d mi pc ls st M r h; rw [ex] at h; cases h
  | succ n ih =>
    intro S d mi pc ls st M r h
    rw [ex] at h ⊢
    generalize sem S (cod mi) mi pc ls st M = z at h ⊢
    match z, h with
    | none, h => exact h
    | some (.inl (pc', ls', st', M')), h => exact ih _ _ _ _ _ _ _ _ h
    | some (.inr (.inr o)), h => exact h
    | some (.inr (.inl (mj, as, pc', ls', rest))), h =>
      match d, h with
      | 0, h => cases h
      | d' + 1, h =>
        simp only at h ⊢
        cases hc : ex n (scW mj S) d' mj 0 (entL (lM mj) as) [] M with
        | none => rw [hc] at h; cases h
        | some w =>
          rw [ih _ _ _ _ _ _ _ _ hc]
          rw [hc] at h
          obtain ⟨o1, M1, q1⟩ := w
          cases o1 with
          | inl v =>
            simp only at h ⊢
            cases hk : ex n S (d' + 1) mi pc' ls' (v.toList ++ rest) M1 with
            | none => rw [hk] at h; revert h; cases Nat.beq (kdM mj) 1 <;> cases Nat.beq q1 0 <;> simp [kdOf]
            | some z2 => rw [ih _ _ _ _ _ _ _ _ hk]; rw [hk] at h; exact h
          | inr X =>
            simp only at h ⊢
            generalize hdl mi X = hh at h ⊢
            match hh, h with
            | none, h => exact h
            | some (pc2, k), h =>
              simp only at h ⊢
              cases hk : ex n S (d' + 1) mi pc2 ((clrL ls' k).set k none) [] M1 with
              | none => rw [hk] at h; revert h; cases Nat.beq (kdM mj) 1 <;> cases Nat.beq q1 0 <;> simp [kdOf]
              | some z2 => rw [ih _ _ _ _ _ _ _ _ hk]; rw [hk] at h; exact h
theorem ex_deeper {n : Nat} {S : Sc} {d mi pc : Nat} {ls : Ls} {st : List Vv} {M : Mm} {r : (Option Vv ⊕ Nat) × Mm × Nat} (h : ex n S d mi pc ls st M = some r) {d2 : Nat} (hd : d ≤ d2) : ex n S d2 mi pc ls st M = some r := by
  obtain ⟨k, rfl⟩ := Nat.exists_eq_add_of_le hd
  clear hd
  induction k with
  | zero => exact h
  | succ k ih => exact ex_deep _ _ _ _ _ _ _ _ _ ih
/-- from here the method returns, and Q holds of its answer and of the memory -/
def Wp (d mi pc : Nat) (ls : Ls) (st : List Vv) (M : Mm) (Q : Option Vv → Mm → Prop) : Prop := ∃ v M', Rn d mi pc ls st M v M' ∧ Q v M'
/-- a call of the method returns, and Q holds of its answer and of the memory -/
def Ev (d mj : Nat) (as : List Vv) (M : Mm) (Q : Option Vv → Mm → Prop) : Prop := Wp d mj 0 (entL (lM mj) as) [] M Q
theorem Wp.mono {d mi pc : Nat} {ls : Ls} {st : List Vv} {M : Mm} {Q Q' : Option Vv → Mm → Prop} (h : Wp d mi pc ls st M Q) (hq : ∀ v M', Q v M' → Q' v M') : Wp d mi pc ls st M Q' := by
  obtain ⟨v, M', h1, h2⟩ := h
  exact ⟨v, M', h1, hq _ _ h2⟩
theorem Wp.deep {d d2 mi pc : Nat} {ls : Ls} {st : List Vv} {M : Mm} {Q : Option Vv → Mm → Prop} (h : Wp d mi pc ls st M Q) (hd : d ≤ d2) : Wp d2 mi pc ls st M Q := by
  obtain ⟨v, M', ⟨n, h1⟩, h2⟩ := h
  exact ⟨v, M', ⟨n, ex_deeper h1 hd⟩, h2⟩
theorem Ev.mono {d mj : Nat} {as : List Vv} {M : Mm} {Q Q' : Option Vv → Mm → Prop} (h : Ev d mj as M Q) (hq : ∀ v M', Q v M' → Q' v M') : Ev d mj as M Q' := Wp.mono h hq
theorem Ev.deep {d d2 mj : Nat} {as : List Vv} {M : Mm} {Q : Option Vv → Mm → Prop} (h : Ev d mj as M Q) (hd : d ≤ d2) : Ev d2 mj as M Q := Wp.deep h hd
/-- conditions, one behind the other -/
def AllP : List Prop → Prop
  | [] => True
  | [p] => p
  | p :: q :: l => p ∧ AllP (q :: l)
theorem AllP_mem : ∀ {l : List Prop}, AllP l → ∀ p ∈ l, p
  | [], _, p, h => absurd h List.not_mem_nil
  | [q], h, p, hp => by
    rw [List.mem_singleton] at hp
    rw [hp]; exact h
  | q :: q2 :: l, h, p, hp => by
    rcases List.mem_cons.mp hp with e | hp
    · rw [e]; exact h.1
    · exact AllP_mem (l := q2 :: l) h.2 p hp
def cB (c : Jvm.ClassFile.Cond) (b : Nat) (x y : Int) : Prop := match c, b with
  | .eq, 0 => x ≠ y
  | .eq, _ => x = y
  | .ne, 0 => x = y
  | .ne, _ => x ≠ y
  | .lt, 0 => y ≤ x
  | .lt, _ => x < y
  | .ge, 0 => x < y
  | .ge, _ => y ≤ x
  | .gt, 0 => x ≤ y
  | .gt, _ => y < x
  | .le, 0 => y < x
  | .le, _ => x ≤ y
def brB (b a pc : Nat) : Nat := match b with
  | 0 => pc
  | _ => a
theorem sem_mabs {S : Sc} {mi idx len : Nat} {x : Int} {pc : Nat} {ls : Ls} {st : List Vv} {M : Mm} : sem1 S mi (.invokestatic idx) len 1105 x pc ls st M = (match st with
    | .inl x :: st' => bif Nat.ble st'.length 4 then goS (pc + 3) ls (.inl (if 0 ≤ x then x else wrap (-x)) :: st') M else none
    | _ => none) := rfl
/-- a step with what it asks: b chooses at a branch (0: goes on; at a switch: the place) -/
def psem (mi : Nat) (i : Jvm.ClassFile.Instr) (len a : Nat) (x : Int) (b pc : Nat) (ls : Ls) (st : List Vv) (M : Mm) : Option (Go × List Prop) := match i with
  | .iadd => (match st with
    | .inl y :: .inl x :: st' => some ((pc + 1, ls, .inl (x + y) :: st', M), [inR (x + y)])
    | _ => none)
  | .isub => (match st with
    | .inl y :: .inl x :: st' => some ((pc + 1, ls, .inl (x - y) :: st', M), [inR (x - y)])
    | _ => none)
  | .imul => (match st with
    | .inl y :: .inl x :: st' => some ((pc + 1, ls, .inl (x * y) :: st', M), [inR (x * y)])
    | _ => none)
  | .ineg => (match st with
    | .inl x :: st' => some ((pc + 1, ls, .inl (-x) :: st', M), [inR (-x)])
    | _ => none)
  | .idiv => (match st with
    | .inl y :: .inl x :: st' => some ((pc + 1, ls, .inl (x.tdiv y) :: st', M), [inR x ∧ 0 < y ∧ inR y])
    | _ => none)
  | .irem => (match st with
    | .inl y :: .inl x :: st' => some ((pc + 1, ls, .inl (x.tmod y) :: st', M), [inR x ∧ 0 < y ∧ inR y])
    | _ => none)
  | .iinc k n => (match getL ls k with
    | some (.inl v) => bif Nat.blt k ls.length then some ((pc + 3, stI ls k (.inl (v + n)), st, M), [inR (v + n)]) else none
    | _ => none)
  | .ifCond c _ => (match st with
    | .inl x :: st' => some ((brB b a (pc + 3), ls, st', M), [cB c b x 0])
    | _ => none)
  | .if_icmp c _ => (match st with
    | .inl y :: .inl x :: st' => some ((brB b a (pc + 3), ls, st', M), [cB c b x y])
    | _ => none)
  | .tableswitch dflt lo hi offs => (match st with
    | .inl v :: st' => some ((b, ls, st', M), [tswT pc dflt lo hi offs v = b])
    | _ => none)
  | .lookupswitch dflt ps => (match st with
    | .inl v :: st' => bif (ps.toList.zip (ps.toList.drop 1)).all (fun (a, next) => a.1 < next.1) then some ((b, ls, st', M), [((pc : Int) + Op.lookupswitch.offset ps.toList dflt v).toNat = b]) else none
    | _ => none)
  | .putfield _ => (match st with
    | .inl v :: .inr (.inr (t, i)) :: st' => bif Nat.beq t (a / 100) then (match fK (a / 100) (a % 100) with
      | 0 => some ((pc + 3, ls, st', setI M (a / 100) i (a % 100) v), [])
      | 1 => some ((pc + 3, ls, st', setI M (a / 100) i (a % 100) v), [v = 0 ∨ v = 1])
      | _ => none) else none
    | _ => none)
  | .iaload => (match st with
    | .inl j :: .inr (.inr (t, i)) :: st' => (match aK t with
      | 0 => some ((pc + 1, ls, .inl (M.1 t i j.toNat) :: st', M), [0 ≤ j ∧ j < aL t])
      | _ => none)
    | _ => none)
  | .baload => (match st with
    | .inl j :: .inr (.inr (t, i)) :: st' => (match aK t with
      | 2 => some ((pc + 1, ls, .inl (M.1 t i j.toNat) :: st', M), [0 ≤ j ∧ j < aL t])
      | _ => none)
    | _ => none)
  | .laload => (match st with
    | .inl j :: .inr (.inr (t, i)) :: st' => (match aK t with
      | 1 => some ((pc + 1, ls, .inr (.inl (M.2 t i j.toNat)) :: st', M), [0 ≤ j ∧ j < aL t])
      | _ => none)
    | _ => none)
  | .aaload => (match st with
    | .inl j :: .inr (.inr (t, i)) :: st' => (match aK t with
      | 3 => some ((pc + 1, ls, .inr (.inr (3, j.toNat)) :: st', M), [0 ≤ j ∧ j < aL t])
      | _ => none)
    | _ => none)
  | .iastore => (match st with
    | .inl v :: .inl j :: .inr (.inr (t, i)) :: st' => (match aK t with
      | 0 => some ((pc + 1, ls, st', setI M t i j.toNat v), [0 ≤ j ∧ j < aL t])
      | _ => none)
    | _ => none)
  | .bastore => (match st with
    | .inl v :: .inl j :: .inr (.inr (t, i)) :: st' => (match aK t with
      | 2 => some ((pc + 1, ls, st', setI M t i j.toNat v), [(v = 0 ∨ v = 1) ∧ 0 ≤ j ∧ j < aL t])
      | _ => none)
    | _ => none)
  | .lastore => (match st with
    | .inr (.inl v) :: .inl j :: .inr (.inr (t, i)) :: st' => (match aK t with
      | 1 => some ((pc + 1, ls, st', setJ M t i j.toNat v), [0 ≤ j ∧ j < aL t])
      | _ => none)
    | _ => none)
  | .invokestatic idx => bif Nat.beq a 1105 then (match st with
    | .inl x :: st' => bif Nat.ble st'.length 4 then some ((pc + 3, ls, .inl (if 0 ≤ x then x else -x) :: st', M), [inR (-x)]) else none
    | _ => none) else (match sem1 none mi (.invokestatic idx) len a x pc ls st M with
    | some (.inl g) => some (g, [])
    | _ => none)
  | i => (match sem1 none mi i len a x pc ls st M with
    | some (.inl g) => some (g, [])
    | _ => none)
def isBr (i : Jvm.ClassFile.Instr) : Bool := match i with
  | .ifCond _ _ => true
  | .if_icmp _ _ => true
  | .tableswitch _ _ _ _ => true
  | .lookupswitch _ _ => true
  | _ => false
def pth (K : Kd) (mi : Nat) : Nat → List Nat → Go → Option (Go × List Prop)
  | 0, _, g => some (g, [])
  | k + 1, bs, (pc, ls, st, M) => match fetch K pc with
    | none => none
    | some (i, len, a, x) => (match psem mi i len a x (bs.headD 0) pc ls st M with
      | none => none
      | some (g, C) => (match pth K mi k (bif isBr i then bs.tail else bs) g with
        | none => none
        | some (g', C') => some (g', C ++ C')))
theorem idv_eq {x y : Int} (hx : inR x) (h0 : 0 < y) (hy : inR y) : idv x y = x.tdiv y := by
  unfold idv
  have e : (Int32.ofInt y).toInt = y := ti_oi hy
  rw [Int32.toInt_div, e, ti_oi hx]
  have h3 : (x.tdiv y).natAbs ≤ x.natAbs := by
    rw [Int.natAbs_tdiv]
    exact Nat.div_le_self _ _
  have h4 : inR (x.tdiv y) := by
    by_cases hx0 : 0 ≤ x
    · have h5 := Int.tdiv_nonneg hx0 (Int.le_of_lt h0)
      unfold inR at hx ⊢
      omega
    · have h5 : x.tdiv y ≤ 0 := by
        have h6 := Int.tdiv_nonneg (a := -x) (b := y) (by omega) (Int.le_of_lt h0)
        rw [Int.neg_tdiv] at h6
        omega
      unfold inR at hx ⊢
      omega
  exact (Int32.toInt_ofInt (n := x.tdiv y)).symm.trans (ti_oi h4)
theorem irm_eq {x y : Int} (hx : inR x) (hy : inR y) : irm x y = x.tmod y := by
  unfold irm
  rw [Int32.toInt_mod, ti_oi hx, ti_oi hy]
theorem psem_ok {mi : Nat} {i : Jvm.ClassFile.Instr} {len a : Nat} {x : Int} {b pc : Nat} {ls : Ls} {st : List Vv} {M : Mm} {g : Go} {C : List Prop} (h : psem mi i len a x b pc ls st M = some (g, C)) (hC : ∀ p ∈ C, p) : sem1 none mi i len a x pc ls st M = some (.inl g) := by
  unfold psem at h
  split at h
  case h_1 =>
    split at h
    · cases h
      have := hC _ (List.mem_singleton.mpr rfl)
      show goS (pc + 1) ls (.inl (wrap (_ + _)) :: _) M = _
      rw [wrap_id this]
      rfl
    · cases h
  case h_2 =>
    split at h
    · cases h
      have := hC _ (List.mem_singleton.mpr rfl)
      show goS (pc + 1) ls (.inl (wrap (_ - _)) :: _) M = _
      rw [wrap_id this]
      rfl
    · cases h
  case h_3 =>
    split at h
    · cases h
      have := hC _ (List.mem_singleton.mpr rfl)
      show goS (pc + 1) ls (.inl (wrap (_ * _)) :: _) M = _
      rw [wrap_id this]
      rfl
    · cases h
  case h_4 =>
    split at h
    · cases h
      have := hC _ (List.mem_singleton.mpr rfl)
      show goS _ _ _ _ = _
      rw [wrap_id this]
      rfl
    · cases h
  case h_5 =>
    split at h
    · next y x st' =>
      cases h
      obtain ⟨h1, h2, h3⟩ := hC _ (List.mem_singleton.mpr rfl)
      show (if y = 0 then none else goS _ _ _ _) = _
      rw [if_neg (by omega), idv_eq h1 h2 h3]
      rfl
    · cases h
  case h_6 =>
    split at h
    · next y x st' =>
      cases h
      obtain ⟨h1, h2, h3⟩ := hC _ (List.mem_singleton.mpr rfl)
      show (if y = 0 then none else goS _ _ _ _) = _
      rw [if_neg (by omega), irm_eq h1 h3]
      rfl
    · cases h
  case h_7 k n =>
    show (match getL ls k with
      | some (.inl v) => bif Nat.blt k ls.length then goS (pc + 3) (stI ls k (.inl (wrap (v + n)))) st M else none
      | _ => none) = _
    split at h
    · next v hv =>
      cases hb : Nat.blt k ls.length with
      | false => rw [hb] at h; cases h
      | true =>
        rw [hb] at h
        cases h
        have := hC _ (List.mem_singleton.mpr rfl)
        show goS _ _ _ _ = _
        rw [wrap_id this]
        rfl
    · cases h
  case h_8 c off =>
    split at h
    · next v st' =>
      cases h
      have hc := hC _ (List.mem_singleton.mpr rfl)
      show goS (cmp0 c v a (pc + 3)) ls st' M = _
      have e : cmp0 c v a (pc + 3) = brB b a (pc + 3) := by
        cases c <;> cases b <;> simp only [cmp0, brB, cB] at hc ⊢ <;> first | (rw [if_pos hc]) | (rw [if_neg hc]) | (rw [if_neg (by omega)]) | (rw [if_pos (by omega)])
      rw [e]
      rfl
    · cases h
  case h_9 c off =>
    split at h
    · next v u st' =>
      cases h
      have hc := hC _ (List.mem_singleton.mpr rfl)
      show goS (cmp2 c u v a (pc + 3)) ls st' M = _
      have e : cmp2 c u v a (pc + 3) = brB b a (pc + 3) := by
        cases c <;> cases b <;> simp only [cmp2, brB, cB] at hc ⊢ <;> first | (rw [if_pos hc]) | (rw [if_neg hc]) | (rw [if_neg (by omega)]) | (rw [if_pos (by omega)])
      rw [e]
      rfl
    · cases h
  case h_10 dflt lo hi offs =>
    split at h
    · next v st' =>
      cases h
      have hc := hC _ (List.mem_singleton.mpr rfl)
      show goS (tswT pc dflt lo hi offs v) ls st' M = _
      rw [hc]
      rfl
    · cases h
  case h_11 dflt ps =>
    split at h
    · next v st' =>
      rw [Bool.cond_eq_ite] at h
      split at h
      · next hb =>
        cases h
        have hc := hC _ (List.mem_singleton.mpr rfl)
        show (bif (ps.toList.zip (ps.toList.drop 1)).all (fun (a, next) => a.1 < next.1) then goS ((pc : Int) + Op.lookupswitch.offset ps.toList dflt v).toNat ls st' M else none) = _
        rw [hc, hb]
        rfl
      · cases h
    · cases h
  case h_12 idx =>
    split at h
    · next v t i st' =>
      rw [Bool.cond_eq_ite] at h
      split at h
      · next hb =>
        show (bif Nat.beq t (a / 100) then (match fK (a / 100) (a % 100) with
          | 0 => goS (pc + 3) ls st' (setI M (a / 100) i (a % 100) v)
          | 1 => if v = 0 then goS (pc + 3) ls st' (setI M (a / 100) i (a % 100) v) else if v = 1 then goS (pc + 3) ls st' (setI M (a / 100) i (a % 100) v) else none
          | _ => none) else none) = _
        rw [hb]
        split at h
        · next e => first | (cases h; rfl) | (rw [e]; cases h; rfl)
        · next e =>
          cases h
          have hc := hC _ (List.mem_singleton.mpr rfl)
          rcases hc with rfl | rfl <;> rfl
        · cases h
      · cases h
    · cases h
  case h_13 =>
    split at h
    · next j t i st' =>
      split at h
      · next e =>
        cases h
        have hc := hC _ (List.mem_singleton.mpr rfl)
        show (if aK t = 0 then (if 0 ≤ j ∧ j < aL t then goS (pc + 1) ls (.inl (M.1 t i j.toNat) :: st') M else none) else none) = _
        rw [if_pos e, if_pos hc]
        rfl
      · cases h
    · cases h
  case h_14 =>
    split at h
    · next j t i st' =>
      split at h
      · next e =>
        cases h
        have hc := hC _ (List.mem_singleton.mpr rfl)
        show (if aK t = 2 then (if 0 ≤ j ∧ j < aL t then goS (pc + 1) ls (.inl (M.1 t i j.toNat) :: st') M else none) else none) = _
        rw [if_pos e, if_pos hc]
        rfl
      · cases h
    · cases h
  case h_15 =>
    split at h
    · next j t i st' =>
      split at h
      · next e =>
        cases h
        have hc := hC _ (List.mem_singleton.mpr rfl)
        show (if aK t = 1 then (if 0 ≤ j ∧ j < aL t then goS (pc + 1) ls (.inr (.inl (M.2 t i j.toNat)) :: st') M else none) else none) = _
        rw [if_pos e, if_pos hc]
        rfl
      · cases h
    · cases h
  case h_16 =>
    split at h
    · next j t i st' =>
      split at h
      · next e =>
        cases h
        have hc := hC _ (List.mem_singleton.mpr rfl)
        show (if aK t = 3 then (if 0 ≤ j ∧ j < aL t then goS (pc + 1) ls (.inr (.inr (3, j.toNat)) :: st') M else none) else none) = _
        rw [if_pos e, if_pos hc]
        rfl
      · cases h
    · cases h
  case h_17 =>
    split at h
    · next v j t i st' =>
      split at h
      · next e =>
        cases h
        have hc := hC _ (List.mem_singleton.mpr rfl)
        show (if aK t = 0 then (if 0 ≤ j ∧ j < aL t then goS (pc + 1) ls st' (setI M t i j.toNat v) else none) else none) = _
        rw [if_pos e, if_pos hc]
        rfl
      · cases h
    · cases h
  case h_18 =>
    split at h
    · next v j t i st' =>
      split at h
      · next e =>
        cases h
        have hc := hC _ (List.mem_singleton.mpr rfl)
        show (if aK t = 2 then (if v = 0 ∨ v = 1 then (if 0 ≤ j ∧ j < aL t then goS (pc + 1) ls st' (setI M t i j.toNat v) else none) else none) else none) = _
        rw [if_pos e, if_pos hc.1, if_pos hc.2]
        rfl
      · cases h
    · cases h
  case h_19 =>
    split at h
    · next v j t i st' =>
      split at h
      · next e =>
        cases h
        have hc := hC _ (List.mem_singleton.mpr rfl)
        show (if aK t = 1 then (if 0 ≤ j ∧ j < aL t then goS (pc + 1) ls st' (setJ M t i j.toNat v) else none) else none) = _
        rw [if_pos e, if_pos hc]
        rfl
      · cases h
    · cases h
  case h_20 idx =>
    rw [Bool.cond_eq_ite] at h
    split at h
    · next hb =>
      have ha := Nat.eq_of_beq_eq_true hb
      subst ha
      split at h
      · next y st' =>
        rw [Bool.cond_eq_ite] at h
        split at h
        · next hl =>
          cases h
          have hc := hC _ (List.mem_singleton.mpr rfl)
          rw [sem_mabs]
          show (bif Nat.ble st'.length 4 then goS (pc + 3) ls (.inl (if 0 ≤ y then y else wrap (-y)) :: st') M else none) = _
          rw [hl, wrap_id hc]
          rfl
        · cases h
      · cases h
    · split at h
      · next g0 hg => cases h; exact hg
      · cases h
  case h_21 =>
    split at h
    · next g0 hg => cases h; exact hg
    · cases h
theorem pth_ok {K : Kd} {mi : Nat} : ∀ {k : Nat} {bs : List Nat} {g g' : Go} {C : List Prop}, pth K mi k bs g = some (g', C) → (∀ p ∈ C, p) → gos none K mi k g.1 g.2.1 g.2.2.1 g.2.2.2 = some g'
  | 0, bs, g, g', C, h, _ => by
    cases h
    rfl
  | k + 1, bs, (pc, ls, st, M), g', C, h, hC => by
    unfold pth at h
    split at h
    · cases h
    · next i len a x hf =>
      split at h
      · cases h
      · next g1 C1 h1 =>
        split at h
        · cases h
        · next g2 C2 h2 =>
          cases h
          have s1 := psem_ok h1 (fun p hp => hC p (List.mem_append.mpr (Or.inl hp)))
          have s2 := pth_ok h2 (fun p hp => hC p (List.mem_append.mpr (Or.inr hp)))
          show gos none K mi (k + 1) pc ls st M = some g'
          rw [gos]
          have e : sem none K mi pc ls st M = some (.inl g1) := by
            unfold sem
            rw [hf]
            exact s1
          rw [e]
          exact s2
theorem Wp.path {d mi k pc pc' : Nat} {ls ls' : Ls} {st st' : List Vv} {M M' : Mm} {Q : Option Vv → Mm → Prop} (bs : List Nat) {C : List Prop} (h : pth (cod mi) mi k bs (pc, ls, st, M) = some ((pc', ls', st', M'), C)) (hC : AllP C) (kk : Wp d mi pc' ls' st' M' Q) : Wp d mi pc ls st M Q := by
  obtain ⟨v, M2, h1, h2⟩ := kk
  exact ⟨v, M2, Rn.go rfl k (pth_ok h (AllP_mem hC)) h1, h2⟩
theorem Wp.ret {d mi pc : Nat} {ls : Ls} {st : List Vv} {M : Mm} {v : Option Vv} {Q : Option Vv → Mm → Prop} (h : sem none (cod mi) mi pc ls st M = some (.inr (.inr (.inl v)))) (hq : Q v M) : Wp d mi pc ls st M Q := ⟨v, M, Rn.ret rfl h, hq⟩
theorem Wp.call {d d' mi pc mj pc' : Nat} {as rest : List Vv} {ls ls' : Ls} {st : List Vv} {M : Mm} {Q Q1 : Option Vv → Mm → Prop} (he : Ev d' mj as M Q1) (h : sem none (cod mi) mi pc ls st M = some (.inr (.inl (mj, as, pc', ls', rest)))) (hkd : Nat.beq (kdM mj) 1 = false) (hd : d' ≤ d) (kk : ∀ v M1, Q1 v M1 → Wp (d + 1) mi pc' ls' (v.toList ++ rest) M1 Q) : Wp (d + 1) mi pc ls st M Q := by
  obtain ⟨v, M1, h1, h2⟩ := Ev.deep he hd
  obtain ⟨w, M2, h3, h4⟩ := kk v M1 h2
  exact ⟨w, M2, Rn.call rfl h hkd h1 h3, h4⟩

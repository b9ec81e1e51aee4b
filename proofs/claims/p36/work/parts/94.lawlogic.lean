/-! the logic of the law's own methods: the script in sight -/
def psS (n : Nat) (xs : Nat → Int) (mi : Nat) (i : Jvm.ClassFile.Instr) (len a : Nat) (x : Int) (b pc : Nat) (ls : Ls) (st : List Vv) (M : Mm) : Option (Go × List Prop) := match i with
  | .iaload => (match st with
    | .inl j :: .inr (.inr (t, _)) :: st' => bif Nat.beq t 51 then some ((pc + 1, ls, .inl (xs j.toNat) :: st', M), [0 ≤ j ∧ j < n]) else none
    | _ => none)
  | .arraylength => (match st with
    | .inr (.inr (t, _)) :: st' => bif Nat.beq t 51 then some ((pc + 1, ls, .inl n :: st', M), []) else none
    | _ => none)
  | i => psem mi i len a x b pc ls st M
theorem sem1_S {S : Sc} {mi : Nat} {i : Jvm.ClassFile.Instr} {len a : Nat} {x : Int} {pc : Nat} {ls : Ls} {st : List Vv} {M : Mm} (h1 : i ≠ .iaload) (h2 : i ≠ .arraylength) : sem1 S mi i len a x pc ls st M = sem1 none mi i len a x pc ls st M := by
  cases i <;> first | rfl | exact absurd rfl h1 | exact absurd rfl h2
theorem psS_ok {n : Nat} {xs : Nat → Int} {mi : Nat} {i : Jvm.ClassFile.Instr} {len a : Nat} {x : Int} {b pc : Nat} {ls : Ls} {st : List Vv} {M : Mm} {g : Go} {C : List Prop} (h : psS n xs mi i len a x b pc ls st M = some (g, C)) (hC : ∀ p ∈ C, p) : sem1 (some (n, xs)) mi i len a x pc ls st M = some (.inl g) := by
  unfold psS at h
  split at h
  · split at h
    · next j t o st' =>
      cases hb : Nat.beq t 51 with
      | false => rw [hb] at h; cases h
      | true =>
        rw [hb] at h
        cases h
        have ht := Nat.eq_of_beq_eq_true hb
        have hc := hC _ (List.mem_singleton.mpr rfl)
        show (if t = 51 then (if 0 ≤ j ∧ j < n then goS (pc + 1) ls (.inl (xs j.toNat) :: st') M else none) else none) = _
        rw [if_pos ht, if_pos hc]
        rfl
    · cases h
  · split at h
    · next t o st' =>
      cases hb : Nat.beq t 51 with
      | false => rw [hb] at h; cases h
      | true =>
        rw [hb] at h
        cases h
        have ht := Nat.eq_of_beq_eq_true hb
        show (if t = 51 then goS (pc + 1) ls (.inl n :: st') M else none) = _
        rw [if_pos ht]
        rfl
    · cases h
  · next h1 h2 =>
    rw [sem1_S (fun e => h1 e) (fun e => h2 e)]
    exact psem_ok h hC
def pthS (n : Nat) (xs : Nat → Int) (K : Kd) (mi : Nat) : Nat → List Nat → Go → Option (Go × List Prop)
  | 0, _, g => some (g, [])
  | k + 1, bs, (pc, ls, st, M) => match fetch K pc with
    | none => none
    | some (i, len, a, x) => (match psS n xs mi i len a x (bs.headD 0) pc ls st M with
      | none => none
      | some (g, C) => (match pthS n xs K mi k (bif isBr i then bs.tail else bs) g with
        | none => none
        | some (g', C') => some (g', C ++ C')))
theorem pthS_ok {n : Nat} {xs : Nat → Int} {K : Kd} {mi : Nat} : ∀ {k : Nat} {bs : List Nat} {g g' : Go} {C : List Prop}, pthS n xs K mi k bs g = some (g', C) → (∀ p ∈ C, p) → gos (some (n, xs)) K mi k g.1 g.2.1 g.2.2.1 g.2.2.2 = some g'
  | 0, bs, g, g', C, h, _ => by
    cases h
    rfl
  | k + 1, bs, (pc, ls, st, M), g', C, h, hC => by
    unfold pthS at h
    split at h
    · cases h
    · next i len a x hf =>
      split at h
      · cases h
      · next g1 C1 h1 =>
        split at h
        · cases h
        · next g2 C2 h2 =>
          cases h
          have s1 := psS_ok h1 (fun p hp => hC p (List.mem_append.mpr (Or.inl hp)))
          have s2 := pthS_ok h2 (fun p hp => hC p (List.mem_append.mpr (Or.inr hp)))
          show gos (some (n, xs)) K mi (k + 1) pc ls st M = some g'
          rw [gos]
          have e : sem (some (n, xs)) K mi pc ls st M = some (.inl g1) := by
            unfold sem
            rw [hf]
            exact s1
          rw [e]
          exact s2
/-- from here the method returns, and Q holds of its answer and of the memory; n ints xs are the script -/
def WpL (n : Nat) (xs : Nat → Int) (d mi pc : Nat) (ls : Ls) (st : List Vv) (M : Mm) (Q : Option Vv → Mm → Prop) : Prop := ∃ v M', Runs (some (n, xs)) d mi pc ls st M (.inl v) M' 0 ∧ Q v M'
def EvL (n : Nat) (xs : Nat → Int) (d mj : Nat) (as : List Vv) (M : Mm) (Q : Option Vv → Mm → Prop) : Prop := WpL n xs d mj 0 (entL (lM mj) as) [] M Q
section WL
variable {n : Nat} {xs : Nat → Int}
theorem WpL.path {d mi k pc pc' : Nat} {ls ls' : Ls} {st st' : List Vv} {M M' : Mm} {Q : Option Vv → Mm → Prop} (bs : List Nat) {C : List Prop} (h : pthS n xs (cod mi) mi k bs (pc, ls, st, M) = some ((pc', ls', st', M'), C)) (hC : AllP C) (kk : WpL n xs d mi pc' ls' st' M' Q) : WpL n xs d mi pc ls st M Q := by
  obtain ⟨v, M2, h1, h2⟩ := kk
  exact ⟨v, M2, Runs.go rfl k (pthS_ok h (AllP_mem hC)) h1, h2⟩
theorem WpL.ret {d mi pc : Nat} {ls : Ls} {st : List Vv} {M : Mm} {v : Option Vv} {Q : Option Vv → Mm → Prop} (h : sem (some (n, xs)) (cod mi) mi pc ls st M = some (.inr (.inr (.inl v)))) (hq : Q v M) : WpL n xs d mi pc ls st M Q := ⟨v, M, Runs.ret rfl h, hq⟩
theorem WpL.deep {d d2 mi pc : Nat} {ls : Ls} {st : List Vv} {M : Mm} {Q : Option Vv → Mm → Prop} (h : WpL n xs d mi pc ls st M Q) (hd : d ≤ d2) : WpL n xs d2 mi pc ls st M Q := by
  obtain ⟨v, M', ⟨k, h1⟩, h2⟩ := h
  exact ⟨v, M', ⟨k, ex_deeper h1 hd⟩, h2⟩
theorem WpL.call {d d' mi pc mj pc' : Nat} {as rest : List Vv} {ls ls' : Ls} {st : List Vv} {M : Mm} {Q Q1 : Option Vv → Mm → Prop} (he : Ev d' mj as M Q1) (h : sem (some (n, xs)) (cod mi) mi pc ls st M = some (.inr (.inl (mj, as, pc', ls', rest)))) (hkd : Nat.beq (kdM mj) 1 = false) (hw : Nat.ble 1200 mj = false) (hd : d' ≤ d) (kk : ∀ v M1, Q1 v M1 → WpL n xs (d + 1) mi pc' ls' (v.toList ++ rest) M1 Q) : WpL n xs (d + 1) mi pc ls st M Q := by
  obtain ⟨v, M1, h1, h2⟩ := Ev.deep he hd
  obtain ⟨w, M2, h3, h4⟩ := kk v M1 h2
  exact ⟨w, M2, Runs.call (q1 := 0) (q2 := 0) rfl h hkd (by rw [scW_n hw]; exact h1) h3, h4⟩
theorem WpL.callS {d d' mi pc mj pc' : Nat} {as rest : List Vv} {ls ls' : Ls} {st : List Vv} {M : Mm} {Q Q1 : Option Vv → Mm → Prop} (he : EvL n xs d' mj as M Q1) (h : sem (some (n, xs)) (cod mi) mi pc ls st M = some (.inr (.inl (mj, as, pc', ls', rest)))) (hkd : Nat.beq (kdM mj) 1 = false) (hw : Nat.ble 1200 mj = true) (hd : d' ≤ d) (kk : ∀ v M1, Q1 v M1 → WpL n xs (d + 1) mi pc' ls' (v.toList ++ rest) M1 Q) : WpL n xs (d + 1) mi pc ls st M Q := by
  obtain ⟨v, M1, h1, h2⟩ := WpL.deep he hd
  obtain ⟨w, M2, h3, h4⟩ := kk v M1 h2
  exact ⟨w, M2, Runs.call (q1 := 0) (q2 := 0) rfl h hkd (by rw [scW_y hw]; exact h1) h3, h4⟩
/-- a cell of the script; behind its end a number of its own -/
def cellV (n : Nat) (xs : Nat → Int) (k : Int) : Int := if k < n then xs k.toNat else 7919 * k + 12
theorem e1223 {k : Int} {M : Mm} (h0 : 0 ≤ k) (h1 : k ≤ 1000) : EvL n xs 0 1223 [.inr (.inr (51, 0)), .inl k] M (fun v M' => M' = M ∧ v = some (.inl (cellV n xs k))) := by
  show WpL n xs 0 1223 0 [some (.inr (.inr (51, 0))), some (.inl k)] [] M _
  rcases Int.lt_or_le k n with c | c
  · refine WpL.path (k := 4) [0] (C := [k < (n : Int)]) (pc' := 6) (ls' := [some (.inr (.inr (51, 0))), some (.inl k)]) (st' := []) (M' := M) rfl c ?_
    refine WpL.path (k := 4) [] (C := [0 ≤ k ∧ k < n]) (pc' := 20) (ls' := [some (.inr (.inr (51, 0))), some (.inl k)]) (st' := [.inl (xs k.toNat)]) (M' := M) rfl ⟨h0, c⟩ ?_
    exact WpL.ret rfl ⟨rfl, by unfold cellV; rw [if_pos c]⟩
  · refine WpL.path (k := 4) [1] (C := [(n : Int) ≤ k]) (pc' := 12) (ls' := [some (.inr (.inr (51, 0))), some (.inl k)]) (st' := []) (M' := M) rfl c ?_
    refine WpL.path (k := 5) [] (C := [inR (7919 * k), inR (7919 * k + 12)]) (pc' := 20) (ls' := [some (.inr (.inr (51, 0))), some (.inl k)]) (st' := [.inl (7919 * k + 12)]) (M' := M) rfl ⟨show inR (7919 * k) from by unfold inR; omega, show inR (7919 * k + 12) from by unfold inR; omega⟩ ?_
    exact WpL.ret rfl ⟨rfl, by unfold cellV; rw [if_neg (by omega)]⟩
def someV (n : Nat) (xs : Nat → Int) (k m : Int) : Int := Int.tmod (ius (cellV n xs k) 3) m
theorem ius_in (a b : Int) : inR (ius a b) := ti_in _
theorem e1224 {k m : Int} {M : Mm} (h : 0 ≤ k ∧ k ≤ 1000 ∧ 0 < m ∧ m ≤ 1000) : EvL n xs 1 1224 [.inr (.inr (51, 0)), .inl k, .inl m] M (fun v M' => M' = M ∧ v = some (.inl (someV n xs k m))) := by
  show WpL n xs 1 1224 0 [some (.inr (.inr (51, 0))), some (.inl k), some (.inl m)] [] M _
  refine WpL.path (k := 2) [] (C := []) (pc' := 2) (ls' := [some (.inr (.inr (51, 0))), some (.inl k), some (.inl m)]) (st' := [.inl k, .inr (.inr (51, 0))]) (M' := M) rfl trivial ?_
  refine WpL.callS (e1223 h.1 h.2.1) rfl rfl rfl (by decide) ?_
  rintro v_ M_ ⟨eM_, ev_⟩
  rw [eM_, ev_]
  clear eM_ ev_ v_ M_
  show WpL n xs _ 1224 5 [some (.inr (.inr (51, 0))), some (.inl k), some (.inl m)] [.inl (cellV n xs k)] M _
  refine WpL.path (k := 4) [] (C := [inR (ius (cellV n xs k) 3) ∧ 0 < m ∧ inR m]) (pc' := 9) (ls' := [some (.inr (.inr (51, 0))), some (.inl k), some (.inl m)]) (st' := [.inl (Int.tmod (ius (cellV n xs k) 3) m)]) (M' := M) rfl ⟨ius_in _ _, h.2.2.1, show inR m from by have := h.2.2; unfold inR; omega⟩ ?_
  exact WpL.ret rfl ⟨rfl, rfl⟩
end WL

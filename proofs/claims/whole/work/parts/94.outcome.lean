/-! methods that may throw, those that catch, the law -/
abbrev Oc : Type := Option Vv ⊕ Nat
/-- from here the method returns or throws, and Q holds of what it does and of the memory -/
def Wx (d mi pc : Nat) (ls : Ls) (st : List Vv) (M : Mm) (Q : Oc → Mm → Prop) : Prop := ∃ o M', Runs none d mi pc ls st M o M' 0 ∧ Q o M'
def Xv (d mj : Nat) (as : List Vv) (M : Mm) (Q : Oc → Mm → Prop) : Prop := Wx d mj 0 (entL (lM mj) as) [] M Q
def xI (Q : Int → Mm → Prop) (T : Nat → Mm → Prop) : Oc → Mm → Prop := fun o M => match o with
  | .inl v => rI Q v M
  | .inr X => T X M
theorem Wx.path {d mi k pc pc' : Nat} {ls ls' : Ls} {st st' : List Vv} {M M' : Mm} {Q : Oc → Mm → Prop} (bs : List Nat) {C : List Prop} (h : pth (cod mi) mi k bs (pc, ls, st, M) = some ((pc', ls', st', M'), C)) (hC : AllP C) (kk : Wx d mi pc' ls' st' M' Q) : Wx d mi pc ls st M Q := by
  obtain ⟨v, M2, h1, h2⟩ := kk
  exact ⟨v, M2, Runs.go rfl k (pth_ok h (AllP_mem hC)) h1, h2⟩
theorem Wx.ret {d mi pc : Nat} {ls : Ls} {st : List Vv} {M : Mm} {v : Option Vv} {Q : Oc → Mm → Prop} (h : sem none (cod mi) mi pc ls st M = some (.inr (.inr (.inl v)))) (hq : Q (.inl v) M) : Wx d mi pc ls st M Q := ⟨.inl v, M, Runs.ret rfl h, hq⟩
theorem Wx.thr {d mi pc : Nat} {ls : Ls} {st : List Vv} {M : Mm} {X : Nat} {Q : Oc → Mm → Prop} (h : sem none (cod mi) mi pc ls st M = some (.inr (.inr (.inr X)))) (hq : Q (.inr X) M) : Wx d mi pc ls st M Q := ⟨.inr X, M, Runs.ret rfl h, hq⟩
theorem Wx.call {d d' mi pc mj pc' : Nat} {as rest : List Vv} {ls ls' : Ls} {st : List Vv} {M : Mm} {Q : Oc → Mm → Prop} {Q1 : Option Vv → Mm → Prop} (he : Ev d' mj as M Q1) (h : sem none (cod mi) mi pc ls st M = some (.inr (.inl (mj, as, pc', ls', rest)))) (hkd : Nat.beq (kdM mj) 1 = false) (hd : d' ≤ d) (kk : ∀ v M1, Q1 v M1 → Wx (d + 1) mi pc' ls' (v.toList ++ rest) M1 Q) : Wx (d + 1) mi pc ls st M Q := by
  obtain ⟨v, M1, h1, h2⟩ := Ev.deep he hd
  obtain ⟨w, M2, h3, h4⟩ := kk v M1 h2
  exact ⟨w, M2, Runs.call (q1 := 0) (q2 := 0) rfl h hkd h1 h3, h4⟩
theorem Wx.deep {d d2 mi pc : Nat} {ls : Ls} {st : List Vv} {M : Mm} {Q : Oc → Mm → Prop} (h : Wx d mi pc ls st M Q) (hd : d ≤ d2) : Wx d2 mi pc ls st M Q := by
  obtain ⟨v, M', ⟨n, h1⟩, h2⟩ := h
  exact ⟨v, M', ⟨n, ex_deeper h1 hd⟩, h2⟩
theorem Runs.callv {S : Sc} {d mi pc mj pc' : Nat} {as rest : List Vv} {ls ls' : Ls} {st : List Vv} {M M1 M2 : Mm} {v : Option Vv} {o : Oc} {q2 : Nat} (h : sem S (cod mi) mi pc ls st M = some (.inr (.inl (mj, as, pc', ls', rest)))) (hkd : Nat.beq (kdM mj) 1 = true)
    (r1 : Runs none d mj 0 (entL (lM mj) as) [] M (.inl v) M1 0) (r2 : Runs S (d + 1) mi pc' ls' (v.toList ++ rest) M1 o M2 q2) : Runs S (d + 1) mi pc ls st M o M2 (1 + q2) := by
  obtain ⟨n1, r1⟩ := r1
  obtain ⟨n2, r2⟩ := r2
  refine ⟨n1 + n2 + 1, ?_⟩
  rw [ex, h]
  simp only
  rw [ex_add r1 n2]
  have r2' := ex_add r2 n1
  rw [Nat.add_comm n2 n1] at r2'
  simp only [hkd, cond_true]
  rw [r2']
  rfl
theorem Runs.callt {S : Sc} {d mi pc mj pc' pc2 k X : Nat} {as rest : List Vv} {ls ls' : Ls} {st : List Vv} {M M1 M2 : Mm} {o : Oc} {q2 : Nat} (h : sem S (cod mi) mi pc ls st M = some (.inr (.inl (mj, as, pc', ls', rest)))) (hkd : Nat.beq (kdM mj) 1 = true)
    (r1 : Runs none d mj 0 (entL (lM mj) as) [] M (.inr X) M1 0) (hh : hdl mi X = some (pc2, k)) (r2 : Runs S (d + 1) mi pc2 ((clrL ls' k).set k none) [] M1 o M2 q2) : Runs S (d + 1) mi pc ls st M o M2 (1 + q2) := by
  obtain ⟨n1, r1⟩ := r1
  obtain ⟨n2, r2⟩ := r2
  refine ⟨n1 + n2 + 1, ?_⟩
  rw [ex, h]
  simp only
  rw [ex_add r1 n2]
  have r2' := ex_add r2 n1
  rw [Nat.add_comm n2 n1] at r2'
  simp only [hkd, cond_true, hh]
  rw [r2']
  rfl
/-- a method that catches returns, with one call that may throw -/
def W1 (d mi pc : Nat) (ls : Ls) (st : List Vv) (M : Mm) (Q : Option Vv → Mm → Prop) : Prop := ∃ v M', Runs none d mi pc ls st M (.inl v) M' 1 ∧ Q v M'
def Ew (d mj : Nat) (as : List Vv) (M : Mm) (Q : Option Vv → Mm → Prop) : Prop := W1 d mj 0 (entL (lM mj) as) [] M Q
theorem W1.deep {d d2 mi pc : Nat} {ls : Ls} {st : List Vv} {M : Mm} {Q : Option Vv → Mm → Prop} (h : W1 d mi pc ls st M Q) (hd : d ≤ d2) : W1 d2 mi pc ls st M Q := by
  obtain ⟨v, M', ⟨n, h1⟩, h2⟩ := h
  exact ⟨v, M', ⟨n, ex_deeper h1 hd⟩, h2⟩
theorem W1.path {d mi k pc pc' : Nat} {ls ls' : Ls} {st st' : List Vv} {M M' : Mm} {Q : Option Vv → Mm → Prop} (bs : List Nat) {C : List Prop} (h : pth (cod mi) mi k bs (pc, ls, st, M) = some ((pc', ls', st', M'), C)) (hC : AllP C) (kk : W1 d mi pc' ls' st' M' Q) : W1 d mi pc ls st M Q := by
  obtain ⟨v, M2, h1, h2⟩ := kk
  exact ⟨v, M2, Runs.go rfl k (pth_ok h (AllP_mem hC)) h1, h2⟩
theorem W1.call {d d' mi pc mj pc' : Nat} {as rest : List Vv} {ls ls' : Ls} {st : List Vv} {M : Mm} {Q : Option Vv → Mm → Prop} {Q1 : Oc → Mm → Prop} (he : Xv d' mj as M Q1) (h : sem none (cod mi) mi pc ls st M = some (.inr (.inl (mj, as, pc', ls', rest)))) (hkd : Nat.beq (kdM mj) 1 = true) (hd : d' ≤ d) (k1 : ∀ v M1, Q1 (.inl v) M1 → Wp (d + 1) mi pc' ls' (v.toList ++ rest) M1 Q) (k2 : ∀ X M1, Q1 (.inr X) M1 → ∃ pc2 k, hdl mi X = some (pc2, k) ∧ Wp (d + 1) mi pc2 ((clrL ls' k).set k none) [] M1 Q) : W1 (d + 1) mi pc ls st M Q := by
  obtain ⟨o, M1, h1, h2⟩ := Wx.deep he hd
  cases o with
  | inl v =>
    obtain ⟨w, M2, h3, h4⟩ := k1 v M1 h2
    exact ⟨w, M2, Runs.callv h hkd h1 h3, h4⟩
  | inr X =>
    obtain ⟨pc2, k, hh, w, M2, h3, h4⟩ := k2 X M1 h2
    exact ⟨w, M2, Runs.callt h hkd h1 hh h3, h4⟩
/-! the law -/
def psS (n : Nat) (xs : Nat → Int) (mi : Nat) (i : Jvm.ClassFile.Instr) (len a : Nat) (x : Int) (b pc : Nat) (ls : Ls) (st : List Vv) (M : Mm) : Option (Go × List Prop) := match i with
  | .iaload => (match st with
    | .inl j :: .inr (.inr (t, _)) :: st' => bif Nat.beq t 51 then some ((pc + 1, ls, .inl (xs j.toNat) :: st', M), [0 ≤ j ∧ j < n]) else none
    | _ => none)
  | .arraylength => (match st with
    | .inr (.inr (t, _)) :: st' => bif Nat.beq t 51 then some ((pc + 1, ls, .inl n :: st', M), []) else none
    | _ => none)
  | i => psem mi i len a x b pc ls st M
theorem sem1_S {S : Sc} {mi : Nat} {i : Jvm.ClassFile.Instr} {len a : Nat} {x : Int} {pc : Nat} {ls : Ls} {st : List Vv} {M : Mm} (h1 : i ≠ .iaload) (h2 : i ≠ .arraylength) : sem1 S mi i len a x pc ls st M = sem1 none mi i len a x pc ls st M := by
  cases i <;> first | rfl | exact absurd rfl h1 | exact absurd rfl h2
theorem psS_ok {n : Nat} {xs : Nat → Int} {mi : Nat} {i : Jvm.ClassFile.Instr} {len a : Nat} {x : Int} {b pc : Nat} {ls : Ls} {st : List Vv} {M : Mm} {g : Go} {C : List Prop} (h : psS n xs mi i len a x b pc ls st M = some (g, C)) (hC : ∀ p ∈ C, p) : sem1 (some (n, xs)) mi i len a x pc ls st M = some (.inl g) := by
  unfold psS at h
  split at h
  · split at h
    · next j t o st' =>
      cases hb : Nat.beq t 51 with
      | false => rw [hb] at h; cases h
      | true =>
        rw [hb] at h
        cases h
        have ht := Nat.eq_of_beq_eq_true hb
        have hc := hC _ (List.mem_singleton.mpr rfl)
        show (if t = 51 then (if 0 ≤ j ∧ j < n then goS (pc + 1) ls (.inl (xs j.toNat) :: st') M else none) else none) = _
        rw [if_pos ht, if_pos hc]
        rfl
    · cases h
  · split at h
    · next t o st' =>
      cases hb : Nat.beq t 51 with
      | false => rw [hb] at h; cases h
      | true =>
        rw [hb] at h
        cases h
        have ht := Nat.eq_of_beq_eq_true hb
        show (if t = 51 then goS (pc + 1) ls (.inl n :: st') M else none) = _
        rw [if_pos ht]
        rfl
    · cases h
  · next h1 h2 =>
    rw [sem1_S (fun e => h1 e) (fun e => h2 e)]
    exact psem_ok h hC
def pthS (n : Nat) (xs : Nat → Int) (K : Kd) (mi : Nat) : Nat → List Nat → Go → Option (Go × List Prop)
  | 0, _, g => some (g, [])
  | k + 1, bs, (pc, ls, st, M) => match fetch K pc with
    | none => none
    | some (i, len, a, x) => (match psS n xs mi i len a x (bs.headD 0) pc ls st M with
      | none => none
      | some (g, C) => (match pthS n xs K mi k (bif isBr i then bs.tail else bs) g with
        | none => none
        | some (g', C') => some (g', C ++ C')))
theorem pthS_ok {n : Nat} {xs : Nat → Int} {K : Kd} {mi : Nat} : ∀ {k : Nat} {bs : List Nat} {g g' : Go} {C : List Prop}, pthS n xs K mi k bs g = some (g', C) → (∀ p ∈ C, p) → gos (some (n, xs)) K mi k g.1 g.2.1 g.2.2.1 g.2.2.2 = some g'
  | 0, bs, g, g', C, h, _ => by
    cases h
    rfl
  | k + 1, bs, (pc, ls, st, M), g', C, h, hC => by
    unfold pthS at h
    split at h
    · cases h
    · next i len a x hf =>
      split at h
      · cases h
      · next g1 C1 h1 =>
        split at h
        · cases h
        · next g2 C2 h2 =>
          cases h
          have s1 := psS_ok h1 (fun p hp => hC p (List.mem_append.mpr (Or.inl hp)))
          have s2 := pthS_ok h2 (fun p hp => hC p (List.mem_append.mpr (Or.inr hp)))
          show gos (some (n, xs)) K mi (k + 1) pc ls st M = some g'
          rw [gos]
          have e : sem (some (n, xs)) K mi pc ls st M = some (.inl g1) := by
            unfold sem
            rw [hf]
            exact s1
          rw [e]
          exact s2
/-- from here the law answers 1, with at most q calls that may throw -/
def Wl (n : Nat) (xs : Nat → Int) (q pc : Nat) (ls : Ls) (st : List Vv) (M : Mm) : Prop := ∃ q' M', q' ≤ q ∧ Runs (some (n, xs)) 100 1222 pc ls st M (.inl (some (.inl 1))) M' q'
theorem Wl.path {n : Nat} {xs : Nat → Int} {q k pc pc' : Nat} {ls ls' : Ls} {st st' : List Vv} {M M' : Mm} (bs : List Nat) {C : List Prop} (h : pthS n xs (cod 1222) 1222 k bs (pc, ls, st, M) = some ((pc', ls', st', M'), C)) (hC : AllP C) (kk : Wl n xs q pc' ls' st' M') : Wl n xs q pc ls st M := by
  obtain ⟨v, M2, h1, h2⟩ := kk
  exact ⟨v, M2, h1, Runs.go rfl k (pthS_ok h (AllP_mem hC)) h2⟩
theorem Wl.ret {n : Nat} {xs : Nat → Int} {q pc : Nat} {ls : Ls} {st : List Vv} {M : Mm} (h : sem (some (n, xs)) (cod 1222) 1222 pc ls st M = some (.inr (.inr (.inl (some (.inl 1)))))) : Wl n xs q pc ls st M := ⟨0, M, Nat.zero_le q, Runs.ret rfl h⟩
theorem Wl.call {n : Nat} {xs : Nat → Int} {d' q pc mj pc' : Nat} {as rest : List Vv} {ls ls' : Ls} {st : List Vv} {M : Mm} {Q1 : Option Vv → Mm → Prop} (he : Ev d' mj as M Q1) (h : sem (some (n, xs)) (cod 1222) 1222 pc ls st M = some (.inr (.inl (mj, as, pc', ls', rest)))) (hkd : Nat.beq (kdM mj) 1 = false) (hd : d' ≤ 99) (kk : ∀ v M1, Q1 v M1 → Wl n xs q pc' ls' (v.toList ++ rest) M1) : Wl n xs q pc ls st M := by
  obtain ⟨v, M1, h1, h2⟩ := Ev.deep he hd
  obtain ⟨w, M2, h3, h4⟩ := kk v M1 h2
  exact ⟨w, M2, h3, by have := Runs.call (q1 := 0) rfl h hkd h1 h4; rwa [Nat.zero_add] at this⟩
theorem Wl.callw {n : Nat} {xs : Nat → Int} {d' q pc mj pc' : Nat} {as rest : List Vv} {ls ls' : Ls} {st : List Vv} {M : Mm} {Q1 : Option Vv → Mm → Prop} (he : Ew d' mj as M Q1) (h : sem (some (n, xs)) (cod 1222) 1222 pc ls st M = some (.inr (.inl (mj, as, pc', ls', rest)))) (hkd : Nat.beq (kdM mj) 1 = false) (hd : d' ≤ 99) (kk : ∀ v M1, Q1 v M1 → Wl n xs q pc' ls' (v.toList ++ rest) M1) : Wl n xs (q + 1) pc ls st M := by
  obtain ⟨v, M1, h1, h2⟩ := W1.deep he hd
  obtain ⟨w, M2, h3, h4⟩ := kk v M1 h2
  exact ⟨1 + w, M2, by omega, Runs.call (q1 := 1) rfl h hkd h1 h4⟩

/-! runs of the abstract machine, without counting steps -/
def gos (S : Sc) (K : Kd) (mi : Nat) : Nat → Nat → Ls → List Vv → Mm → Option Go
  | 0, pc, ls, st, M => some (pc, ls, st, M)
  | n + 1, pc, ls, st, M => match sem S K mi pc ls st M with
    | some (.inl (pc', ls', st', M')) => gos S K mi n pc' ls' st' M'
    | _ => none
def Runs (S : Sc) (d mi pc : Nat) (ls : Ls) (st : List Vv) (M : Mm) (o : Option Vv ⊕ Nat) (M' : Mm) (q : Nat) : Prop := ∃ n, ex n S d mi pc ls st M = some (o, M', q)
/-- a method that returns v, nothing made -/
def Rn (d mi pc : Nat) (ls : Ls) (st : List Vv) (M : Mm) (v : Option Vv) (M' : Mm) : Prop := Runs none d mi pc ls st M (.inl v) M' 0
def Cl (d mj : Nat) (as : List Vv) (M : Mm) (v : Option Vv) (M' : Mm) : Prop := Rn d mj 0 (entL (lM mj) as) [] M v M'
theorem kdOf_some {q : Nat} {r : Option ((Option Vv ⊕ Nat) × Mm × Nat)} {o : Option Vv ⊕ Nat} {M : Mm} {k : Nat} (h : kdOf q r = some (o, M, k)) : ∃ k', r = some (o, M, k') ∧ k = q + k' := by
  unfold kdOf at h
  split at h
  · cases h
    exact ⟨_, rfl, rfl⟩
  · cases h
theorem ex_more : ∀ (n : Nat) (S : Sc) (d mi pc : Nat) (ls : Ls) (st : List Vv) (M : Mm) (r : (Option Vv ⊕ Nat) × Mm × Nat), ex n S d mi pc ls st M = some r → ex (n + 1) S d mi pc ls st M = some r := by
  intro n
  induction n with
  | zero => intro S d mi pc ls st M r h; exact absurd h (by simp [ex])
  | succ n ih =>
    intro S d mi pc ls st M r h
    rw [ex] at h ⊢
    generalize sem S (cod mi) mi pc ls st M = z at h ⊢
    match z, h with
    | none, h => exact h
    | some (.inl (pc', ls', st', M')), h => exact ih _ _ _ _ _ _ _ _ h
    | some (.inr (.inr o)), h => exact h
    | some (.inr (.inl (mj, as, pc', ls', rest))), h =>
      match d, h with
      | 0, h => exact h
      | d' + 1, h =>
        simp only at h ⊢
        cases hc : ex n (scW mj S) d' mj 0 (entL (lM mj) as) [] M with
        | none => rw [hc] at h; cases h
        | some w =>
          rw [ih _ _ _ _ _ _ _ _ hc]
          rw [hc] at h
          obtain ⟨o1, M1, q1⟩ := w
          cases o1 with
          | inl v =>
            simp only at h ⊢
            cases hk : ex n S (d' + 1) mi pc' ls' (v.toList ++ rest) M1 with
            | none => rw [hk] at h; revert h; cases Nat.beq (kdM mj) 1 <;> cases Nat.beq q1 0 <;> simp [kdOf]
            | some z2 => rw [ih _ _ _ _ _ _ _ _ hk]; rw [hk] at h; exact h
          | inr X =>
            simp only at h ⊢
            generalize hdl mi X = hh at h ⊢
            match hh, h with
            | none, h => exact h
            | some (pc2, k), h =>
              simp only at h ⊢
              cases hk : ex n S (d' + 1) mi pc2 ((clrL ls' k).set k none) [] M1 with
              | none => rw [hk] at h; revert h; cases Nat.beq (kdM mj) 1 <;> cases Nat.beq q1 0 <;> simp [kdOf]
              | some z2 => rw [ih _ _ _ _ _ _ _ _ hk]; rw [hk] at h; exact h
theorem ex_add {n : Nat} {S : Sc} {d mi pc : Nat} {ls : Ls} {st : List Vv} {M : Mm} {r : (Option Vv ⊕ Nat) × Mm × Nat} (h : ex n S d mi pc ls st M = some r) : ∀ k, ex (n + k) S d mi pc ls st M = some r := by
  intro k
  induction k with
  | zero => exact h
  | succ k ih => exact ex_more _ _ _ _ _ _ _ _ _ ih
theorem Runs.go {S : Sc} {K : Kd} {d mi pc pc' : Nat} {ls ls' : Ls} {st st' : List Vv} {M M1 M' : Mm} {o : Option Vv ⊕ Nat} {q : Nat} (hk : cod mi = K) (k : Nat) (h : gos S K mi k pc ls st M = some (pc', ls', st', M1)) (r : Runs S d mi pc' ls' st' M1 o M' q) : Runs S d mi pc ls st M o M' q := by
  subst hk
  obtain ⟨n, r⟩ := r
  refine ⟨n + k, ?_⟩
  induction k generalizing pc ls st M with
  | zero => cases h; exact r
  | succ k ih =>
    rw [gos] at h
    show ex (n + k + 1) S d mi pc ls st M = _
    rw [ex]
    generalize sem S (cod mi) mi pc ls st M = z at h ⊢
    match z, h with
    | some (.inl (pc', ls', st', M')), h => exact ih h
theorem Runs.ret {S : Sc} {K : Kd} {d mi pc : Nat} {ls : Ls} {st : List Vv} {M : Mm} {o : Option Vv ⊕ Nat} (hk : cod mi = K) (h : sem S K mi pc ls st M = some (.inr (.inr o))) : Runs S d mi pc ls st M o M 0 := by
  subst hk
  exact ⟨1, by rw [ex, h]⟩
theorem Runs.call {S : Sc} {K : Kd} {d mi pc mj pc' : Nat} {as rest : List Vv} {ls ls' : Ls} {st : List Vv} {M M1 M2 : Mm} {v : Option Vv} {o : Option Vv ⊕ Nat} {q1 q2 : Nat} (hk : cod mi = K) (h : sem S K mi pc ls st M = some (.inr (.inl (mj, as, pc', ls', rest)))) (hkd : Nat.beq (kdM mj) 1 = false)
    (r1 : Runs (scW mj S) d mj 0 (entL (lM mj) as) [] M (.inl v) M1 q1) (r2 : Runs S (d + 1) mi pc' ls' (v.toList ++ rest) M1 o M2 q2) : Runs S (d + 1) mi pc ls st M o M2 (q1 + q2) := by
  subst hk
  obtain ⟨n1, r1⟩ := r1
  obtain ⟨n2, r2⟩ := r2
  refine ⟨n1 + n2 + 1, ?_⟩
  rw [ex, h]
  simp only
  rw [ex_add r1 n2]
  have r2' := ex_add r2 n1
  rw [Nat.add_comm n2 n1] at r2'
  simp only [hkd, cond_false]
  rw [r2']
  rfl
theorem Rn.go {K : Kd} {d mi pc pc' : Nat} {ls ls' : Ls} {st st' : List Vv} {M M1 M' : Mm} {v : Option Vv} (hk : cod mi = K) (k : Nat) (h : gos none K mi k pc ls st M = some (pc', ls', st', M1)) (r : Rn d mi pc' ls' st' M1 v M') : Rn d mi pc ls st M v M' := Runs.go hk k h r
theorem Rn.ret {K : Kd} {d mi pc : Nat} {ls : Ls} {st : List Vv} {M : Mm} {v : Option Vv} (hk : cod mi = K) (h : sem none K mi pc ls st M = some (.inr (.inr (.inl v)))) : Rn d mi pc ls st M v M := Runs.ret hk h
theorem Rn.call {K : Kd} {d mi pc mj pc' : Nat} {as rest : List Vv} {ls ls' : Ls} {st : List Vv} {M M1 M2 : Mm} {v w : Option Vv} (hk : cod mi = K) (h : sem none K mi pc ls st M = some (.inr (.inl (mj, as, pc', ls', rest)))) (hkd : Nat.beq (kdM mj) 1 = false)
    (r1 : Cl d mj as M v M1) (r2 : Rn (d + 1) mi pc' ls' (v.toList ++ rest) M1 w M2) : Rn (d + 1) mi pc ls st M w M2 := Runs.call (q1 := 0) (q2 := 0) hk h hkd r1 r2

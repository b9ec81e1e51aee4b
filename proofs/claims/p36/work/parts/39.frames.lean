/-! what a method leaves alone; a place of an array anew -/
def Fx (T : Nat → Nat → Prop) (M M' : Mm) : Prop := ∀ t i, ¬ T t i → M'.1 t i = M.1 t i ∧ M'.2 t i = M.2 t i
theorem Fx.rf {T : Nat → Nat → Prop} {M : Mm} : Fx T M M := fun _ _ _ => ⟨rfl, rfl⟩
theorem Fx.tr {T : Nat → Nat → Prop} {M M1 M2 : Mm} (h : Fx T M M1) (g : Fx T M1 M2) : Fx T M M2 := fun t i n => ⟨(g t i n).1.trans (h t i n).1, (g t i n).2.trans (h t i n).2⟩
theorem Fx.up {T T' : Nat → Nat → Prop} {M M1 : Mm} (h : Fx T M M1) (k : ∀ t i, T t i → T' t i) : Fx T' M M1 := fun t i n => h t i (fun g => n (k t i g))
def ups (g : Nat → Int) (k : Nat) (v : Int) : Nat → Int := fun q => if q = k then v else g q
def upj (g : Nat → Int64) (k : Nat) (v : Int64) : Nat → Int64 := fun q => if q = k then v else g q
theorem ups_at {g : Nat → Int} {k : Nat} {v : Int} : ups g k v k = v := if_pos rfl
theorem ups_ne {g : Nat → Int} {k q : Nat} {v : Int} (h : q ≠ k) : ups g k v q = g q := if_neg h
theorem upj_at {g : Nat → Int64} {k : Nat} {v : Int64} : upj g k v k = v := if_pos rfl
theorem upj_ne {g : Nat → Int64} {k q : Nat} {v : Int64} (h : q ≠ k) : upj g k v q = g q := if_neg h
theorem setI_u (M : Mm) (t i k : Nat) (v : Int) : setI M t i k v = setA M t i (ups (M.1 t i) k v) := setI_A M t i k v
theorem setJ_u (M : Mm) (t i k : Nat) (v : Int64) : setJ M t i k v = setL M t i (upj (M.2 t i) k v) := setJ_L M t i k v
theorem setI_at (M : Mm) (t i k : Nat) (v : Int) : (setI M t i k v).1 t i = ups (M.1 t i) k v := by rw [setI_u, setA_at]
theorem setI_ne {M : Mm} {t i k t' i' : Nat} {v : Int} (h : ¬ (t' = t ∧ i' = i)) : (setI M t i k v).1 t' i' = M.1 t' i' := by rw [setI_u, setA_ne h]
theorem setJ_at (M : Mm) (t i k : Nat) (v : Int64) : (setJ M t i k v).2 t i = upj (M.2 t i) k v := by rw [setJ_u, setL_at]
theorem setJ_ne {M : Mm} {t i k t' i' : Nat} {v : Int64} (h : ¬ (t' = t ∧ i' = i)) : (setJ M t i k v).2 t' i' = M.2 t' i' := by rw [setJ_u, setL_ne h]
theorem Fx.setA {T : Nat → Nat → Prop} {M : Mm} {t i : Nat} {g : Nat → Int} (h : T t i) : Fx T M (setA M t i g) := fun t' i' n => ⟨setA_ne (fun e => n (by rw [e.1, e.2]; exact h)), by rw [setA_2]⟩
theorem Fx.setL {T : Nat → Nat → Prop} {M : Mm} {t i : Nat} {g : Nat → Int64} (h : T t i) : Fx T M (setL M t i g) := fun t' i' n => ⟨by rw [setL_1], setL_ne (fun e => n (by rw [e.1, e.2]; exact h))⟩
theorem Fx.setI {T : Nat → Nat → Prop} {M : Mm} {t i k : Nat} {v : Int} (h : T t i) : Fx T M (setI M t i k v) := by rw [setI_u]; exact Fx.setA h
theorem Fx.setJ {T : Nat → Nat → Prop} {M : Mm} {t i k : Nat} {v : Int64} (h : T t i) : Fx T M (setJ M t i k v) := by rw [setJ_u]; exact Fx.setL h
theorem putN_at {L : Nat} {f : Nat → Int} {j v : Int} {q : Nat} (h : j < L) (e : (q : Int) = j) : putN L f j v q = v := by
  unfold putN
  rw [if_pos ⟨by omega, h, by omega⟩]
theorem putN_ne {L : Nat} {f : Nat → Int} {j v : Int} {q : Nat} (e : (q : Int) ≠ j) : putN L f j v q = f q := by
  unfold putN
  rw [if_neg (fun g => e (by omega))]
theorem putN_big {L : Nat} {f : Nat → Int} {j v : Int} {q : Nat} (e : ¬ (0 ≤ j ∧ j < L)) : putN L f j v q = f q := by
  unfold putN
  rw [if_neg (fun g => e ⟨g.1, g.2.1⟩)]
theorem putJ_at {L : Nat} {f : Nat → Int64} {j : Int} {v : Int64} {q : Nat} (h : j < L) (e : (q : Int) = j) : putJ L f j v q = v := by
  unfold putJ
  rw [if_pos ⟨by omega, h, by omega⟩]
theorem putJ_ne {L : Nat} {f : Nat → Int64} {j : Int} {v : Int64} {q : Nat} (e : (q : Int) ≠ j) : putJ L f j v q = f q := by
  unfold putJ
  rw [if_neg (fun g => e (by omega))]
theorem atN_i {L : Nat} {f : Nat → Int} {j : Int} (h0 : 0 ≤ j) (h1 : j < L) : atN L f j = f j.toNat := by
  unfold atN
  rw [if_pos ⟨h0, h1⟩]
theorem atN_o {L : Nat} {f : Nat → Int} {j : Int} (h : ¬ (0 ≤ j ∧ j < L)) : atN L f j = 0 := by
  unfold atN
  rw [if_neg h]
theorem atJ_i {L : Nat} {f : Nat → Int64} {j : Int} (h0 : 0 ≤ j) (h1 : j < L) : atJ L f j = f j.toNat := by
  unfold atJ
  rw [if_pos ⟨h0, h1⟩]
theorem atJ_o {L : Nat} {f : Nat → Int64} {j : Int} (h : ¬ (0 ≤ j ∧ j < L)) : atJ L f j = Int64.ofNat 0 := by
  unfold atJ
  rw [if_neg h]
/-- a counted loop: from n down to 0 -/
theorem lp_up {P : Nat → Prop} (n : Nat) (body : ∀ i, i < n → P (i + 1) → P i) (h : P n) : P 0 := by
  have key : ∀ k i, i + k = n → P i := by
    intro k
    induction k with
    | zero => intro i hi; have : i = n := by omega
              subst this; exact h
    | succ k ih => intro i hi; exact body i (by omega) (ih (i + 1) (by omega))
  exact key n 0 (by omega)
theorem tdiv_p {x : Int} {k : Int} (h : 0 ≤ x) : Int.tdiv x k = x / k := Int.tdiv_eq_ediv_of_nonneg h
theorem tmod_p {x : Int} {k : Int} (h : 0 ≤ x) : Int.tmod x k = x % k := Int.tmod_eq_emod_of_nonneg h

/-! loops; arrays as a whole -/
theorem Wp.for {d mi pc : Nat} {Q : Option Vv → Mm → Prop} (n : Nat) (ls : Nat → Ls) (Ms : Nat → Mm) (body : ∀ i, i < n → Wp d mi pc (ls (i + 1)) [] (Ms (i + 1)) Q → Wp d mi pc (ls i) [] (Ms i) Q) (h : Wp d mi pc (ls n) [] (Ms n) Q) : Wp d mi pc (ls 0) [] (Ms 0) Q := by
  have key : ∀ k i, i + k = n → Wp d mi pc (ls i) [] (Ms i) Q := by
    intro k
    induction k with
    | zero => intro i hi; have : i = n := by omega
              subst this; exact h
    | succ k ih => intro i hi; exact body i (by omega) (ih (i + 1) (by omega))
  exact key n 0 (by omega)
theorem Wp.inv {σ : Type} {d mi pc : Nat} {Q : Option Vv → Mm → Prop} (n : Nat) (ls : Nat → σ → Ls) (Ms : Nat → σ → Mm) (I : Nat → σ → Prop) (body : ∀ i s, i < n → I i s → (∀ s', I (i + 1) s' → Wp d mi pc (ls (i + 1) s') [] (Ms (i + 1) s') Q) → Wp d mi pc (ls i s) [] (Ms i s) Q) (h : ∀ s, I n s → Wp d mi pc (ls n s) [] (Ms n s) Q) : ∀ s, I 0 s → Wp d mi pc (ls 0 s) [] (Ms 0 s) Q := by
  have key : ∀ k i, i + k = n → ∀ s, I i s → Wp d mi pc (ls i s) [] (Ms i s) Q := by
    intro k
    induction k with
    | zero => intro i hi; have : i = n := by omega
              subst this; exact h
    | succ k ih => intro i hi s hs; exact body i s (by omega) hs (ih (i + 1) (by omega))
  exact key n 0 (by omega)
theorem Wp.whl {σ : Type} {d mi pc : Nat} {Q : Option Vv → Mm → Prop} (ls : σ → Ls) (Ms : σ → Mm) (μ : σ → Nat) (I : σ → Prop) (body : ∀ s, I s → (∀ s', I s' → μ s' < μ s → Wp d mi pc (ls s') [] (Ms s') Q) → Wp d mi pc (ls s) [] (Ms s) Q) : ∀ s, I s → Wp d mi pc (ls s) [] (Ms s) Q := by
  have key : ∀ k s, μ s < k → I s → Wp d mi pc (ls s) [] (Ms s) Q := by
    intro k
    induction k with
    | zero => intro s hs; omega
    | succ k ih => intro s hs hI; exact body s hI (fun s' h1 h2 => ih s' (by omega) h1)
  exact fun s hs => key (μ s + 1) s (by omega) hs
def setA (M : Mm) (t i : Nat) (g : Nat → Int) : Mm := (fun t' i' => if t' = t ∧ i' = i then g else M.1 t' i', M.2)
def setL (M : Mm) (t i : Nat) (g : Nat → Int64) : Mm := (M.1, fun t' i' => if t' = t ∧ i' = i then g else M.2 t' i')
theorem setA_at {M : Mm} {t i : Nat} {g : Nat → Int} : (setA M t i g).1 t i = g := by unfold setA; simp
theorem setA_ne {M : Mm} {t i t' i' : Nat} {g : Nat → Int} (h : ¬ (t' = t ∧ i' = i)) : (setA M t i g).1 t' i' = M.1 t' i' := by unfold setA; simp [h]
theorem setA_2 {M : Mm} {t i : Nat} {g : Nat → Int} : (setA M t i g).2 = M.2 := rfl
theorem setL_at {M : Mm} {t i : Nat} {g : Nat → Int64} : (setL M t i g).2 t i = g := by unfold setL; simp
theorem setL_ne {M : Mm} {t i t' i' : Nat} {g : Nat → Int64} (h : ¬ (t' = t ∧ i' = i)) : (setL M t i g).2 t' i' = M.2 t' i' := by unfold setL; simp [h]
theorem setL_1 {M : Mm} {t i : Nat} {g : Nat → Int64} : (setL M t i g).1 = M.1 := rfl
theorem setA_self (M : Mm) (t i : Nat) : setA M t i (M.1 t i) = M := by
  unfold setA
  refine Prod.ext (funext fun t' => funext fun i' => ?_) rfl
  dsimp only
  split
  · next h => rw [h.1, h.2]
  · rfl
theorem setA_id {M : Mm} {t i : Nat} {g : Nat → Int} (h : g = M.1 t i) : setA M t i g = M := by rw [h, setA_self]
theorem setL_self (M : Mm) (t i : Nat) : setL M t i (M.2 t i) = M := by
  unfold setL
  refine Prod.ext rfl (funext fun t' => funext fun i' => ?_)
  dsimp only
  split
  · next h => rw [h.1, h.2]
  · rfl
theorem setI_A (M : Mm) (t i k : Nat) (v : Int) : setI M t i k v = setA M t i (fun q => if q = k then v else M.1 t i q) := by
  unfold setI setA
  refine Prod.ext (funext fun t' => funext fun i' => funext fun k' => ?_) rfl
  dsimp only
  by_cases h1 : t' = t <;> by_cases h2 : i' = i <;> by_cases h3 : k' = k <;> simp [h1, h2, h3]
theorem setA_A (M : Mm) (t i : Nat) (g f : Nat → Int) : setA (setA M t i g) t i f = setA M t i f := by
  unfold setA
  refine Prod.ext (funext fun t' => funext fun i' => ?_) rfl
  dsimp only
  split <;> rfl
theorem setJ_L (M : Mm) (t i k : Nat) (v : Int64) : setJ M t i k v = setL M t i (fun q => if q = k then v else M.2 t i q) := by
  unfold setJ setL
  refine Prod.ext rfl (funext fun t' => funext fun i' => funext fun k' => ?_)
  dsimp only
  by_cases h1 : t' = t <;> by_cases h2 : i' = i <;> by_cases h3 : k' = k <;> simp [h1, h2, h3]
theorem setL_L (M : Mm) (t i : Nat) (g f : Nat → Int64) : setL (setL M t i g) t i f = setL M t i f := by
  unfold setL
  refine Prod.ext rfl (funext fun t' => funext fun i' => ?_)
  dsimp only
  split <;> rfl
theorem setA_com (M : Mm) {t i t' i' : Nat} (g f : Nat → Int) (h : ¬ (t' = t ∧ i' = i)) : setA (setA M t i g) t' i' f = setA (setA M t' i' f) t i g := by
  unfold setA
  refine Prod.ext (funext fun a => funext fun b => ?_) rfl
  dsimp only
  by_cases h1 : a = t' ∧ b = i' <;> by_cases h2 : a = t ∧ b = i <;> simp only [h1, h2, if_true, if_false, and_self]
  · exact absurd ⟨h1.1.symm.trans h2.1, h1.2.symm.trans h2.2⟩ h
  all_goals simp_all
/-- the first k places anew -/
def upTo (f g : Nat → Int) (k : Nat) : Nat → Int := fun q => if q < k then f q else g q
theorem upTo_0 (f g : Nat → Int) : upTo f g 0 = g := by funext q; unfold upTo; rw [if_neg (by omega)]
theorem upTo_s (f g : Nat → Int) (k : Nat) : (fun q => if q = k then f k else upTo f g k q) = upTo f g (k + 1) := by
  funext q
  unfold upTo
  by_cases h : q = k
  · subst h; rw [if_pos rfl, if_pos (by omega)]
  · rw [if_neg h]
    by_cases h2 : q < k
    · rw [if_pos h2, if_pos (by omega)]
    · rw [if_neg h2, if_neg (by omega)]
theorem fill_step (M : Mm) (t i k : Nat) (f : Nat → Int) : setI (setA M t i (upTo f (M.1 t i) k)) t i k (f k) = setA M t i (upTo f (M.1 t i) (k + 1)) := by
  rw [setI_A, setA_A, setA_at, upTo_s]
theorem fill_0 (M : Mm) (t i : Nat) (f : Nat → Int) : setA M t i (upTo f (M.1 t i) 0) = M := by rw [upTo_0, setA_self]

/-! facts for the soundness of the abstract machine -/
def conc (ad : Nat → Nat → Nat) : Vv → Value
  | .inl x => .int (Int32.ofInt x)
  | .inr (.inl y) => .long y
  | .inr (.inr (t, i)) => .ref (ad t i)
theorem oi_ti (x : Int32) : Int32.ofInt x.toInt = x := by simp
theorem ti_in (x : Int32) : inR x.toInt := by
  have h1 := x.toInt_lt
  have h2 := x.le_toInt
  unfold inR
  omega
theorem ti_oi {x : Int} (h : inR x) : (Int32.ofInt x).toInt = x := by
  unfold inR at h
  rw [Int32.toInt_ofInt_of_le] <;> omega
theorem wrap_in (x : Int) : inR (wrap x) := ti_in _
theorem wrap_id {x : Int} (h : -2147483648 ≤ x ∧ x ≤ 2147483647) : wrap x = x := ti_oi h
theorem oi_wrap (x : Int) : Int32.ofInt (wrap x) = Int32.ofInt x := oi_ti _
theorem oi_lt {x y : Int} (hx : inR x) (hy : inR y) : Int32.ofInt x < Int32.ofInt y ↔ x < y := by rw [Int32.lt_iff_toInt_lt, ti_oi hx, ti_oi hy]
theorem oi_le {x y : Int} (hx : inR x) (hy : inR y) : Int32.ofInt x ≤ Int32.ofInt y ↔ x ≤ y := by rw [Int32.le_iff_toInt_le, ti_oi hx, ti_oi hy]
theorem oi_eq {x y : Int} (hx : inR x) (hy : inR y) : Int32.ofInt x = Int32.ofInt y ↔ x = y := ⟨fun h => by rw [← ti_oi hx, ← ti_oi hy, h], fun h => by rw [h]⟩
theorem in_0 : inR 0 := by unfold inR; omega
theorem oi_0 : Int32.ofInt 0 = 0 := rfl
theorem oi_1 : Int32.ofInt 1 = 1 := rfl
theorem nthL_eq {α : Type} (l : List α) (i : Nat) : nthL l i = l[i]? := by
  induction l generalizing i with
  | nil => simp [nthL]
  | cons a l ih => cases i with
    | zero => simp [nthL]
    | succ i => simp [nthL, ih]
theorem nthL_set {α : Type} (l : List α) (i j : Nat) (a : α) : nthL (l.set i a) j = if j = i then (if i < l.length then some a else none) else nthL l j := by
  rw [nthL_eq, nthL_eq]
  by_cases h : j = i
  · subst h
    rw [if_pos rfl]
    by_cases h2 : j < l.length
    · rw [if_pos h2, List.getElem?_set_self h2]
    · rw [if_neg h2]
      have : (l.set j a).length ≤ j := by simp; omega
      simp [this]
      omega
  · rw [if_neg h, List.getElem?_set_ne (Ne.symm h)]
theorem look_mem {pc : Nat} {ai : AI} : ∀ {l : List (Nat × AI)}, look pc l = some ai → (pc, ai) ∈ l
  | [], h => by cases h
  | q :: l, h => by
    unfold look at h
    cases hb : Nat.beq pc q.1 with
    | true =>
      rw [hb] at h
      have e := Nat.eq_of_beq_eq_true hb
      cases h
      rw [e]
      exact List.mem_cons_self
    | false => rw [hb] at h; exact List.mem_cons_of_mem _ (look_mem h)
theorem nthL_mem {α : Type} {l : List α} {i : Nat} {a : α} (h : nthL l i = some a) : a ∈ l := by
  rw [nthL_eq] at h
  exact List.mem_of_getElem? h
theorem fetch_mem {K : Kd} {pc : Nat} {ai : AI} (h : fetch K pc = some ai) : (pc, ai) ∈ K.flatten := by
  unfold fetch at h
  split at h
  · next l hl => exact List.mem_flatten.mpr ⟨l, nthL_mem hl, look_mem h⟩
  · cases h
/-! locals -/
def ascF (ad : Nat → Nat → Nat) : Nat → Ls → List (Nat × Value)
  | _, [] => []
  | i, none :: l => ascF ad (i + 1) l
  | i, some v :: l => (i, conc ad v) :: ascF ad (i + 1) l
theorem ascF_mem {ad : Nat → Nat → Nat} {ls : Ls} {k : Nat} {q : Nat × Value} : q ∈ ascF ad k ls ↔ ∃ j w, nthL ls j = some (some w) ∧ q = (k + j, conc ad w) := by
  induction ls generalizing k with
  | nil => simp [ascF, nthL]
  | cons a l ih =>
    cases a with
    | none =>
      rw [ascF, ih]
      constructor
      · rintro ⟨j, w, h1, rfl⟩
        exact ⟨j + 1, w, h1, by simp; omega⟩
      · rintro ⟨j, w, h1, rfl⟩
        cases j with
        | zero => simp [nthL] at h1
        | succ j => exact ⟨j, w, h1, by simp; omega⟩
    | some v =>
      rw [ascF, List.mem_cons, ih]
      constructor
      · rintro (rfl | ⟨j, w, h1, rfl⟩)
        · exact ⟨0, v, rfl, rfl⟩
        · exact ⟨j + 1, w, h1, by simp; omega⟩
      · rintro ⟨j, w, h1, rfl⟩
        cases j with
        | zero => simp [nthL] at h1; left; rw [h1]; simp
        | succ j => right; exact ⟨j, w, h1, by simp; omega⟩
def LR (ad : Nat → Nat → Nat) (nL : Nat) (ls : Ls) (lsC : Array Slot) : Prop := ls.length = nL ∧ lv_has lsC nL (ascF ad 0 ls)
theorem lv_weak {ls : Array Slot} {nL : Nat} {l l' : List (Nat × Value)} (h : lv_has ls nL l) (hl : ∀ q ∈ l', q ∈ l) : lv_has ls nL l' := ⟨h.1, h.2.1, fun q hq => h.2.2 q (hl q hq)⟩
theorem LR.get {ad : Nat → Nat → Nat} {nL : Nat} {ls : Ls} {lsC : Array Slot} (h : LR ad nL ls lsC) {i : Nat} {v : Vv} (g : getL ls i = some v) : lsC[i]? = some (.val (conc ad v)) := by
  unfold getL at g
  split at g
  · next w hw =>
    cases g
    exact h.2.2.2 (i, conc ad v) (ascF_mem.mpr ⟨i, v, hw, by simp⟩)
  · cases g
theorem conc_cat (ad : Nat → Nat → Nat) (v : Vv) : (conc ad v).category = 2 ↔ ∃ y, v = .inr (.inl y) := by
  rcases v with x | y | ⟨t, i⟩ <;> simp [conc, Value.category]
theorem clrL_len (ls : Ls) (i : Nat) : (clrL ls i).length = ls.length := by
  unfold clrL
  split
  · rfl
  · split <;> simp
theorem clrL_nth {ls : Ls} {i j : Nat} {w : Vv} (h : nthL (clrL ls i) j = some (some w)) : nthL ls j = some (some w) ∧ ¬ (j + 1 = i ∧ ∃ y, w = .inr (.inl y)) := by
  unfold clrL at h
  split at h
  · exact ⟨h, by rintro ⟨h1, -⟩; omega⟩
  · next k =>
    split at h
    · next y hy =>
      rw [nthL_set] at h
      split at h
      · split at h <;> simp at h
      · next hn => exact ⟨h, by rintro ⟨h1, -⟩; omega⟩
    · next hno =>
      refine ⟨h, ?_⟩
      rintro ⟨h1, y, rfl⟩
      have : j = k := by omega
      subst this
      exact hno y h
theorem LR.st1 {ad : Nat → Nat → Nat} {nL : Nat} {ls : Ls} {lsC : Array Slot} {i : Nat} {v : Vv} (hl : ls.length = nL) (hi : i < nL)
    (h : lv_has lsC nL ((i, conc ad v) :: (ascF ad 0 ls).filter (fun q => !(q.1 == i) && !(q.1 + 1 == i && q.2.category == 2)))) : LR ad nL (stI ls i v) lsC := by
  refine ⟨by unfold stI; rw [List.length_set, clrL_len, hl], lv_weak h ?_⟩
  intro q hq
  obtain ⟨j, w, h1, rfl⟩ := ascF_mem.mp hq
  unfold stI at h1
  rw [nthL_set] at h1
  split at h1
  · next e =>
    subst e
    rw [clrL_len, if_pos (by omega)] at h1
    cases h1
    simp
  · next hn =>
    obtain ⟨h2, h3⟩ := clrL_nth h1
    refine List.mem_cons_of_mem _ (List.mem_filter.mpr ⟨ascF_mem.mpr ⟨j, w, h2, rfl⟩, ?_⟩)
    simp only [Nat.zero_add, Bool.and_eq_true, Bool.not_eq_true', beq_eq_false_iff_ne, ne_eq, Bool.and_eq_false_iff]
    refine ⟨hn, ?_⟩
    by_cases hj : j + 1 = i
    · right
      intro hc
      exact h3 ⟨hj, (conc_cat ad w).mp hc⟩
    · exact Or.inl hj
theorem LR.st2 {ad : Nat → Nat → Nat} {nL : Nat} {ls : Ls} {lsC : Array Slot} {i : Nat} {y : Int64} (hl : ls.length = nL) (hi : i + 1 < nL)
    (h : lv_has lsC nL ((i, .long y) :: (ascF ad 0 ls).filter (fun q => !(q.1 == i) && (!(q.1 == i + 1) && !(q.1 + 1 == i && q.2.category == 2))))) : LR ad nL (stJ ls i y) lsC := by
  refine ⟨by unfold stJ; rw [List.length_set, List.length_set, clrL_len, hl], lv_weak h ?_⟩
  intro q hq
  obtain ⟨j, w, h1, rfl⟩ := ascF_mem.mp hq
  unfold stJ at h1
  rw [nthL_set] at h1
  split at h1
  · split at h1 <;> simp at h1
  · next hn1 =>
    rw [nthL_set] at h1
    split at h1
    · next e =>
      subst e
      rw [clrL_len, if_pos (by omega)] at h1
      cases h1
      simp [conc]
    · next hn =>
      obtain ⟨h2, h3⟩ := clrL_nth h1
      refine List.mem_cons_of_mem _ (List.mem_filter.mpr ⟨ascF_mem.mpr ⟨j, w, h2, rfl⟩, ?_⟩)
      simp only [Nat.zero_add, Bool.and_eq_true, Bool.not_eq_true', beq_eq_false_iff_ne, ne_eq, Bool.and_eq_false_iff]
      refine ⟨hn, hn1, ?_⟩
      by_cases hj : j + 1 = i
      · right
        intro hc
        exact h3 ⟨hj, (conc_cat ad w).mp hc⟩
      · exact Or.inl hj

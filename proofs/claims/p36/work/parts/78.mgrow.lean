/-! the reference grows a branch with all below it -/
def MecC (M : Mm) (cnt : Nat → Nat) (pr : Nat → Nat → Int) (i : Nat) (r : Rc) : Prop := M.1 1145 0 i = r.1 ∧ M.1 1146 0 i = r.2.2.1 ∧ M.1 1147 0 i = r.2.1 ∧ M.1 1148 0 i = r.2.2.2.2 ∧ M.1 1149 0 i = kdn cnt pr r.2.2.1 r.2.2.2.1
def MecL (M : Mm) (cnt : Nat → Nat) (pr : Nat → Nat → Int) (i : Nat) (l : List Rc) : Prop := ∀ t r, l[t]? = some r → MecC M cnt pr (i + t) r
theorem MecC.fx {M M' : Mm} {cnt : Nat → Nat} {pr : Nat → Nat → Int} {i : Nat} {r : Rc} (h : MecC M cnt pr i r) (e : ∀ t, 1145 ≤ t → t ≤ 1149 → M'.1 t 0 i = M.1 t 0 i) : MecC M' cnt pr i r := by
  unfold MecC
  rw [e 1145 (by omega) (by omega), e 1146 (by omega) (by omega), e 1147 (by omega) (by omega), e 1148 (by omega) (by omega), e 1149 (by omega) (by omega)]
  exact h
theorem MecL.fx {M M' : Mm} {cnt : Nat → Nat} {pr : Nat → Nat → Int} {i n : Nat} {l : List Rc} (h : MecL M cnt pr i l) (hn : i + l.length ≤ n) (e : ∀ q, q < n → ∀ t, 1145 ≤ t → t ≤ 1149 → M'.1 t 0 q = M.1 t 0 q) : MecL M' cnt pr i l := by
  intro t r ht
  have : t < l.length := by
    rcases Nat.lt_or_ge t l.length with g | g
    · exact g
    · rw [List.getElem?_eq_none g] at ht; cases ht
  exact (h t r ht).fx fun u u1 u2 => e (i + t) (by omega) u u1 u2
theorem MecL.app {M : Mm} {cnt : Nat → Nat} {pr : Nat → Nat → Int} {i : Nat} {l l' : List Rc} (h : MecL M cnt pr i l) (g : MecL M cnt pr (i + l.length) l') : MecL M cnt pr i (l ++ l') := by
  intro t r ht
  rcases Nat.lt_or_ge t l.length with k | k
  · rw [List.getElem?_append_left k] at ht
    exact h t r ht
  · rw [List.getElem?_append_right k] at ht
    have := g (t - l.length) r ht
    rwa [show i + l.length + (t - l.length) = i + t by omega] at this
/-- the ways of branches i to e, closed in themselves -/
def WyR (i e : Nat) (pa : Nat → Int) (w : Nat → Int) : Prop := ∀ a, i ≤ a → a < e → pa a < a ∧ (1 ≤ w a ∧ w a ≤ (e : Int) - a) ∧ (∀ j, i ≤ j → j < e → pa j = a → w j + 1 ≤ w a) ∧ (w a = 1 ∨ ∃ j, i ≤ j ∧ j < e ∧ pa j = a ∧ w a = w j + 1)
theorem WyR.cg {i e : Nat} {pa pa' w w' : Nat → Int} (h : WyR i e pa w) (h1 : ∀ j, i ≤ j → j < e → pa' j = pa j ∧ w' j = w j) : WyR i e pa' w' := by
  intro a a1 a2
  obtain ⟨b1, b2, b3, b4⟩ := h a a1 a2
  obtain ⟨q1, q2⟩ := h1 a a1 a2
  rw [q1, q2]
  refine ⟨b1, b2, fun j j1 j2 j3 => ?_, ?_⟩
  · obtain ⟨p1, p2⟩ := h1 j j1 j2
    rw [p2]; exact b3 j j1 j2 (by rw [← p1]; exact j3)
  · rcases b4 with g | ⟨j, j1, j2, j3, j4⟩
    · exact Or.inl g
    · obtain ⟨p1, p2⟩ := h1 j j1 j2
      exact Or.inr ⟨j, j1, j2, by rw [p1]; exact j3, by rw [p2]; exact j4⟩
/-- a further child of branch i -/
theorem WyR.st {i e e' : Nat} {pa w : Nat → Int} {b : Int} (h : WyR i e pa w) (g : WyR e e' pa w) (hie : i < e) (hee : e < e') (hpe : pa e = i) (hp : ∀ j, e < j → j < e' → (e : Int) ≤ pa j) (hb : b = if w e + 1 ≤ w i then w i else w e + 1) : WyR i e' pa (ups w i b) := by
  have hgb := (g e (Nat.le_refl e) hee).2.1
  have hhb := (h i (Nat.le_refl i) hie).2.1
  have hbb : w i ≤ b ∧ w e + 1 ≤ b ∧ (b = w i ∨ b = w e + 1) := by rw [hb]; split <;> omega
  intro a a1 a2
  by_cases k : a < e
  · obtain ⟨b1, b2, b3, b4⟩ := h a a1 k
    by_cases ka : a = i
    · rw [ka, ups_at]
      rw [ka] at b1 b2 b3 b4
      refine ⟨b1, by omega, fun j j1 j2 j3 => ?_, ?_⟩
      · by_cases kj : j < e
        · by_cases ji : j = i
          · rw [ji] at j3; omega
          · rw [ups_ne ji]
            have := b3 j j1 kj j3
            omega
        · by_cases je : j = e
          · rw [je, ups_ne (by omega)]; omega
          · have := hp j (by omega) j2
            omega
      · rcases hbb.2.2 with q | q
        · rw [q]
          rcases b4 with q2 | ⟨j, j1, j2, j3, j4⟩
          · exact Or.inl q2
          · have : j ≠ i := fun z => by rw [z] at j3; omega
            exact Or.inr ⟨j, j1, by omega, j3, by rw [ups_ne this]; exact j4⟩
        · exact Or.inr ⟨e, by omega, hee, hpe, by rw [ups_ne (by omega)]; exact q⟩
    · rw [ups_ne ka]
      refine ⟨b1, by omega, fun j j1 j2 j3 => ?_, ?_⟩
      · by_cases kj : j < e
        · have ji : j ≠ i := fun z => by
            have := (h i (Nat.le_refl i) hie).1
            rw [z] at j3; omega
          rw [ups_ne ji]
          exact b3 j j1 kj j3
        · by_cases je : j = e
          · rw [je] at j3; omega
          · have := hp j (by omega) j2
            omega
      · rcases b4 with q2 | ⟨j, j1, j2, j3, j4⟩
        · exact Or.inl q2
        · have ji : j ≠ i := fun z => by
            have := (h i (Nat.le_refl i) hie).1
            rw [z] at j3; omega
          exact Or.inr ⟨j, j1, by omega, j3, by rw [ups_ne ji]; exact j4⟩
  · obtain ⟨b1, b2, b3, b4⟩ := g a (by omega) a2
    rw [ups_ne (by omega)]
    refine ⟨b1, by omega, fun j j1 j2 j3 => ?_, ?_⟩
    · by_cases kj : j < e
      · have := (h j j1 kj).1
        omega
      · rw [ups_ne (by omega)]
        exact b3 j (by omega) j2 j3
    · rcases b4 with q2 | ⟨j, j1, j2, j3, j4⟩
      · exact Or.inl q2
      · exact Or.inr ⟨j, by omega, j2, j3, by rw [ups_ne (by omega)]; exact j4⟩

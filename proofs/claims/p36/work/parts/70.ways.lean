/-! the ways of branches -/
def WyL (n : Nat) (pa : Nat → Int) (w : Nat → Int) (x : Nat) : Prop := ∀ i, i < n → (1 ≤ w i ∧ w i ≤ (n : Int) - i) ∧ (∀ j, x ≤ j → j < n → pa j = i → w j + 1 ≤ w i) ∧ (w i = 1 ∨ ∃ j, x ≤ j ∧ j < n ∧ pa j = i ∧ w i = w j + 1)
/-- each branch's ways: one more than the most of its children -/
def Wys (n : Nat) (pa : Nat → Int) (w : Nat → Int) : Prop := WyL n pa w 0
theorem Wys.un {n : Nat} {pa w v : Nat → Int} (hp : ∀ j, j < n → pa j < j) (h : Wys n pa w) (g : Wys n pa v) : ∀ i, i < n → w i = v i := by
  have key : ∀ s i, i < n → n - i ≤ s → w i = v i := by
    intro s
    induction s with
    | zero => intro i hi hs; omega
    | succ s ih =>
      intro i hi hs
      obtain ⟨⟨a1, -⟩, a2, a3⟩ := h i hi
      obtain ⟨⟨b1, -⟩, b2, b3⟩ := g i hi
      have le1 : w i ≤ v i := by
        rcases a3 with e | ⟨j, j1, j2, j3, j4⟩
        · omega
        · have := hp j j2
          have e := ih j j2 (by omega)
          have := b2 j j1 j2 j3
          omega
      have le2 : v i ≤ w i := by
        rcases b3 with e | ⟨j, j1, j2, j3, j4⟩
        · omega
        · have := hp j j2
          have e := ih j j2 (by omega)
          have := a2 j j1 j2 j3
          omega
      omega
  exact fun i hi => key (n - i) i hi (Nat.le_refl _)
def TWy (t j : Nat) : Prop := t = 805 ∧ j = 0
theorem c704 {n : Nat} {pa : Nat → Int} {M : Mm} {Q : Mm → Prop} (hn : M.1 7 0 10 = n) (h864 : n ≤ 864) (hpa : ∀ j, j < n → M.1 803 0 j = pa j ∧ -1 ≤ pa j ∧ pa j < j) (hQ : ∀ M', Fx TWy M M' → Wys n pa (M'.1 805 0) → Q M') : E_704 M Q := by
  refine s_704_0 fun M1 e1 => ?_
  have h10 : M1.1 7 0 10 = n := by rw [e1, setA_ne (by omega)]; exact hn
  rw [h10]
  refine ⟨by omega, fun x1 ex => ?_⟩
  have w1 : ∀ i, i < n → M1.1 805 0 i = 1 := by
    intro i hi
    rw [e1, setA_at]
    unfold upTo
    rw [if_pos (by omega)]
  have key : ∀ (x : Nat) (M' : Mm), x ≤ n → Fx TWy M M' → WyL n pa (M'.1 805 0) x → L_704_15 ((x : Int) - 1) M' Q := by
    intro x
    induction x with
    | zero =>
      intro M' hx hf hw
      exact s_704_15 ⟨fun _ => hQ M' hf hw, fun h => by omega⟩
    | succ x ih =>
      intro M' hx hf hw
      obtain ⟨p1, p2, p3⟩ := hpa x (by omega)
      have h803 : M'.1 803 0 = M.1 803 0 := (hf 803 0 (by simp [TWy])).1
      have ex1 : ((x + 1 : Nat) : Int) - 1 = x := by omega
      rw [ex1]
      obtain ⟨⟨b1, b2⟩, -⟩ := hw x (by omega)
      refine s_704_15 ⟨fun h => by omega, fun _ y ey => ?_⟩
      have ey' : y = pa x := by rw [ey, atN_i (by omega) (by omega), Int.toNat_natCast, h803]; exact p1
      have ew : atN 864 (M'.1 805 0) (x : Int) = M'.1 805 0 x := by rw [atN_i (by omega) (by omega), Int.toNat_natCast]
      rw [ew]
      refine ⟨by omega, fun M2 e2 => ⟨by omega, ?_⟩⟩
      have q2 : M2.1 805 0 = putN 864 (M'.1 805 0) y (if atN 864 (M'.1 805 0) y < M'.1 805 0 x + 1 then M'.1 805 0 x + 1 else atN 864 (M'.1 805 0) y) := by rw [e2, setA_at]
      have := ih M2 (by omega) (hf.tr (by rw [e2]; exact Fx.setA ⟨rfl, rfl⟩)) ?_
      · rw [show (x : Int) + (-1) = (x : Int) - 1 by omega]; exact this
      · rw [q2]
        intro i hi
        obtain ⟨a1, a2, a3⟩ := hw i hi
        by_cases k : (i : Int) = y
        · rw [putN_at (by omega) k]
          have ei : atN 864 (M'.1 805 0) y = M'.1 805 0 i := by rw [atN_i (by omega) (by omega), ← k, Int.toNat_natCast]
          rw [ei]
          have other : ∀ j, x ≤ j → putN 864 (M'.1 805 0) y (if M'.1 805 0 i < M'.1 805 0 x + 1 then M'.1 805 0 x + 1 else M'.1 805 0 i) j = M'.1 805 0 j := fun j hj => putN_ne (by omega)
          refine ⟨by split <;> omega, fun j j1 j2 j3 => ?_, ?_⟩
          · rw [other j j1]
            by_cases kj : j = x
            · rw [kj]; split <;> omega
            · have := a2 j (by omega) j2 j3
              split <;> omega
          · by_cases kk : M'.1 805 0 i < M'.1 805 0 x + 1
            · rw [if_pos kk]
              refine Or.inr ⟨x, Nat.le_refl x, by omega, by omega, ?_⟩
              have := other x (Nat.le_refl x)
              rw [if_pos kk] at this
              rw [this]
            · rw [if_neg kk] at other ⊢
              rcases a3 with e | ⟨j, j1, j2, j3, j4⟩
              · exact Or.inl e
              · exact Or.inr ⟨j, by omega, j2, j3, by rw [other j (by omega)]; exact j4⟩
        · rw [putN_ne k]
          have other : ∀ j v, x ≤ j → putN 864 (M'.1 805 0) y v j = M'.1 805 0 j := fun j v hj => putN_ne (by omega)
          refine ⟨a1, fun j j1 j2 j3 => ?_, ?_⟩
          · rw [other j _ j1]
            by_cases kj : j = x
            · rw [kj] at j3; omega
            · exact a2 j (by omega) j2 j3
          · rcases a3 with e | ⟨j, j1, j2, j3, j4⟩
            · exact Or.inl e
            · exact Or.inr ⟨j, by omega, j2, j3, by rw [other j _ (by omega)]; exact j4⟩
  rw [ex]
  refine key n M1 (Nat.le_refl n) (by rw [e1]; exact Fx.setA ⟨rfl, rfl⟩) fun i hi => ?_
  rw [w1 i hi]
  exact ⟨by omega, fun j h1 h2 => by omega, Or.inl rfl⟩

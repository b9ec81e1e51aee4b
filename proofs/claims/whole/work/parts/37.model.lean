/-! printed contracts, by dc.py -/
/-- X10_bits -/
def E_1003 (x0 : Int64) (M : Mm) (Q : Int → Mm → Prop) : Prop := Ev 0 1003 [.inr (.inl x0)] M (rI Q)
theorem m_1003 {x0 : Int64} {M : Mm} {Q Q1 : Int → Mm → Prop} (h : E_1003 x0 M Q) (k : (∀ r M1, Q r M1 → Q1 r M1)) : E_1003 x0 M Q1 := Ev.mono h (fun v M1 ⟨r, h1, h2⟩ => ⟨r, h1, k _ _ h2⟩)
def L_1003_4 (x0 : Int64) (x2 : Int) (x3 : Int) (M : Mm) (Q : Int → Mm → Prop) : Prop := Wp 0 1003 4 [some (.inr (.inl x0)), none, some (.inl x2), some (.inl x3)] [] M (rI Q)
theorem s_1003_0 {x0 : Int64} {M : Mm} {Q : Int → Mm → Prop} (h : (L_1003_4 x0 0 0 M Q)) : E_1003 x0 M Q := by
  show Wp 0 1003 0 [some (.inr (.inl x0)), none, none, none] [] M (rI Q)
  refine Wp.path (k := 4) [] (C := []) (pc' := 4) (ls' := [some (.inr (.inl x0)), none, some (.inl 0), some (.inl 0)]) (st' := []) (M' := M) rfl trivial ?_
  exact h
theorem s_1003_4 {x0 : Int64} {x2 : Int} {x3 : Int} {M : Mm} {Q : Int → Mm → Prop} (h : ((64 ≤ x3 → (Q x2 M)) ∧ (x3 < 64 → (((-2147483648 ≤ x2 + (((lsr x0 x3) &&& (Int64.ofNat 1)).toInt32.toInt) ∧ x2 + (((lsr x0 x3) &&& (Int64.ofNat 1)).toInt32.toInt) ≤ 2147483647)) ∧ (∀ x2_1 : Int, x2_1 = x2 + (((lsr x0 x3) &&& (Int64.ofNat 1)).toInt32.toInt) → (((-2147483648 ≤ x3 + 1 ∧ x3 + 1 ≤ 2147483647)) ∧ (L_1003_4 x0 x2_1 (x3 + 1) M Q))))))) : L_1003_4 x0 x2 x3 M Q := by
  show Wp 0 1003 4 [some (.inr (.inl x0)), none, some (.inl x2), some (.inl x3)] [] M (rI Q)
  refine Wp.path (k := 2) [] (C := []) (pc' := 7) (ls' := [some (.inr (.inl x0)), none, some (.inl x2), some (.inl x3)]) (st' := [.inl 64, .inl x3]) (M' := M) rfl trivial ?_
  rcases Int.lt_or_le (x3) (64) with c_1 | c_1
  · replace h := h.2 c_1
    refine Wp.path (k := 1) [0] (C := [x3 < 64]) (pc' := 10) (ls' := [some (.inr (.inl x0)), none, some (.inl x2), some (.inl x3)]) (st' := []) (M' := M) rfl c_1 ?_
    refine Wp.path (k := 9) [] (C := [inR (x2 + (((lsr x0 x3) &&& (Int64.ofNat 1)).toInt32.toInt))]) (pc' := 19) (ls' := [some (.inr (.inl x0)), none, some (.inl (x2 + (((lsr x0 x3) &&& (Int64.ofNat 1)).toInt32.toInt))), some (.inl x3)]) (st' := []) (M' := M) rfl h.1 ?_
    replace h := h.2
    refine Bd (P := fun x2_1 : Int => Wp 0 1003 19 [some (.inr (.inl x0)), none, some (.inl x2_1), some (.inl x3)] [] M (rI Q)) ?_
    intro x2_1 e_x2_1
    replace h := h x2_1 e_x2_1
    refine Wp.path (k := 2) [] (C := [inR (x3 + 1)]) (pc' := 4) (ls' := [some (.inr (.inl x0)), none, some (.inl x2_1), some (.inl (x3 + 1))]) (st' := []) (M' := M) rfl h.1 ?_
    replace h := h.2
    exact h
  · replace h := h.1 c_1
    refine Wp.path (k := 1) [1] (C := [64 ≤ x3]) (pc' := 25) (ls' := [some (.inr (.inl x0)), none, some (.inl x2), some (.inl x3)]) (st' := []) (M' := M) rfl c_1 ?_
    refine Wp.path (k := 1) [] (C := []) (pc' := 26) (ls' := [some (.inr (.inl x0)), none, some (.inl x2), some (.inl x3)]) (st' := [.inl x2]) (M' := M) rfl trivial ?_
    exact Wp.ret rfl ⟨_, rfl, h⟩
/-- X10_cells -/
def E_1005 (M : Mm) (Q : Int → Mm → Prop) : Prop := Ev 1 1005 [.inr (.inr (10, 0))] M (rI Q)
theorem m_1005 {M : Mm} {Q Q1 : Int → Mm → Prop} (h : E_1005 M Q) (k : (∀ r M1, Q r M1 → Q1 r M1)) : E_1005 M Q1 := Ev.mono h (fun v M1 ⟨r, h1, h2⟩ => ⟨r, h1, k _ _ h2⟩)
def L_1005_4 (x1 : Int) (x2 : Int) (M : Mm) (Q : Int → Mm → Prop) : Prop := Wp 1 1005 4 [some (.inr (.inr (10, 0))), some (.inl x1), some (.inl x2)] [] M (rI Q)
theorem s_1005_0 {M : Mm} {Q : Int → Mm → Prop} (h : (L_1005_4 0 0 M Q)) : E_1005 M Q := by
  show Wp 1 1005 0 [some (.inr (.inr (10, 0))), none, none] [] M (rI Q)
  refine Wp.path (k := 4) [] (C := []) (pc' := 4) (ls' := [some (.inr (.inr (10, 0))), some (.inl 0), some (.inl 0)]) (st' := []) (M' := M) rfl trivial ?_
  exact h
theorem s_1005_4 {x1 : Int} {x2 : Int} {M : Mm} {Q : Int → Mm → Prop} (h : ((12 ≤ x2 → (Q x1 M)) ∧ (x2 < 12 → (((0 ≤ x2 ∧ x2 < 12)) ∧ (E_1003 ((Int32.ofInt (M.1 1101 0 x2.toNat)).toInt64) M (fun (r : Int) (M1 : Mm) => ((-2147483648 ≤ x1 + r ∧ x1 + r ≤ 2147483647)) ∧ (∀ x1_1 : Int, x1_1 = x1 + r → (((-2147483648 ≤ x2 + 1 ∧ x2 + 1 ≤ 2147483647)) ∧ (L_1005_4 x1_1 (x2 + 1) M1 Q))))))))) : L_1005_4 x1 x2 M Q := by
  show Wp 1 1005 4 [some (.inr (.inr (10, 0))), some (.inl x1), some (.inl x2)] [] M (rI Q)
  refine Wp.path (k := 2) [] (C := []) (pc' := 7) (ls' := [some (.inr (.inr (10, 0))), some (.inl x1), some (.inl x2)]) (st' := [.inl 12, .inl x2]) (M' := M) rfl trivial ?_
  rcases Int.lt_or_le (x2) (12) with c_1 | c_1
  · replace h := h.2 c_1
    refine Wp.path (k := 1) [0] (C := [x2 < 12]) (pc' := 10) (ls' := [some (.inr (.inr (10, 0))), some (.inl x1), some (.inl x2)]) (st' := []) (M' := M) rfl c_1 ?_
    refine Wp.path (k := 6) [] (C := [0 ≤ x2 ∧ x2 < 12]) (pc' := 18) (ls' := [some (.inr (.inr (10, 0))), some (.inl x1), some (.inl x2)]) (st' := [.inr (.inl ((Int32.ofInt (M.1 1101 0 x2.toNat)).toInt64)), .inl x1]) (M' := M) rfl h.1 ?_
    replace h := h.2
    refine Wp.call h rfl rfl (by decide) ?_
    rintro _ M1 ⟨r, rfl, h⟩
    show Wp 1 1005 21 [some (.inr (.inr (10, 0))), some (.inl x1), some (.inl x2)] [.inl r, .inl x1] M1 (rI Q)
    refine Wp.path (k := 2) [] (C := [inR (x1 + r)]) (pc' := 23) (ls' := [some (.inr (.inr (10, 0))), some (.inl (x1 + r)), some (.inl x2)]) (st' := []) (M' := M1) rfl h.1 ?_
    replace h := h.2
    refine Bd (P := fun x1_1 : Int => Wp 1 1005 23 [some (.inr (.inr (10, 0))), some (.inl x1_1), some (.inl x2)] [] M1 (rI Q)) ?_
    intro x1_1 e_x1_1
    replace h := h x1_1 e_x1_1
    refine Wp.path (k := 2) [] (C := [inR (x2 + 1)]) (pc' := 4) (ls' := [some (.inr (.inr (10, 0))), some (.inl x1_1), some (.inl (x2 + 1))]) (st' := []) (M' := M1) rfl h.1 ?_
    replace h := h.2
    exact h
  · replace h := h.1 c_1
    refine Wp.path (k := 1) [1] (C := [12 ≤ x2]) (pc' := 29) (ls' := [some (.inr (.inr (10, 0))), some (.inl x1), some (.inl x2)]) (st' := []) (M' := M) rfl c_1 ?_
    refine Wp.path (k := 1) [] (C := []) (pc' := 30) (ls' := [some (.inr (.inr (10, 0))), some (.inl x1), some (.inl x2)]) (st' := [.inl x1]) (M' := M) rfl trivial ?_
    exact Wp.ret rfl ⟨_, rfl, h⟩
/-- X10_copies -/
def E_1006_1105_1101 (x1 : Int) (x3 : Int) (M : Mm) (Q : Mm → Prop) : Prop := Ev 0 1006 [.inr (.inr (1105, 0)), .inl x1, .inr (.inr (1101, 0)), .inl x3] M (rV Q)
theorem m_1006_1105_1101 {x1 : Int} {x3 : Int} {M : Mm} {Q Q1 : Mm → Prop} (h : E_1006_1105_1101 x1 x3 M Q) (k : (∀ M1, Q M1 → Q1 M1)) : E_1006_1105_1101 x1 x3 M Q1 := Ev.mono h (fun v M1 h => ⟨h.1, k _ h.2⟩)
def L_1006_1105_1101_3 (x1 : Int) (x3 : Int) (x4 : Int) (M : Mm) (Q : Mm → Prop) : Prop := Wp 0 1006 3 [some (.inr (.inr (1105, 0))), some (.inl x1), some (.inr (.inr (1101, 0))), some (.inl x3), some (.inl x4)] [] M (rV Q)
theorem s_1006_1105_1101_0 {x1 : Int} {x3 : Int} {M : Mm} {Q : Mm → Prop} (h : (L_1006_1105_1101_3 x1 x3 0 M Q)) : E_1006_1105_1101 x1 x3 M Q := by
  show Wp 0 1006 0 [some (.inr (.inr (1105, 0))), some (.inl x1), some (.inr (.inr (1101, 0))), some (.inl x3), none] [] M (rV Q)
  refine Wp.path (k := 2) [] (C := []) (pc' := 3) (ls' := [some (.inr (.inr (1105, 0))), some (.inl x1), some (.inr (.inr (1101, 0))), some (.inl x3), some (.inl 0)]) (st' := []) (M' := M) rfl trivial ?_
  exact h
theorem s_1006_1105_1101_3 {x1 : Int} {x3 : Int} {x4 : Int} {M : Mm} {Q : Mm → Prop} (h : ((12 ≤ x4 → (Q M)) ∧ (x4 < 12 → (((-2147483648 ≤ x3 + x4 ∧ x3 + x4 ≤ 2147483647) ∧ (-2147483648 ≤ x1 + x4 ∧ x1 + x4 ≤ 2147483647) ∧ (0 ≤ x1 + x4 ∧ x1 + x4 < 12) ∧ (0 ≤ x3 + x4 ∧ x3 + x4 < 12)) ∧ (∀ M1 : Mm, M1 = setI M 1101 0 ((x3 + x4).toNat) (M.1 1105 0 ((x1 + x4).toNat)) → (((-2147483648 ≤ x4 + 1 ∧ x4 + 1 ≤ 2147483647)) ∧ (L_1006_1105_1101_3 x1 x3 (x4 + 1) M1 Q))))))) : L_1006_1105_1101_3 x1 x3 x4 M Q := by
  show Wp 0 1006 3 [some (.inr (.inr (1105, 0))), some (.inl x1), some (.inr (.inr (1101, 0))), some (.inl x3), some (.inl x4)] [] M (rV Q)
  refine Wp.path (k := 2) [] (C := []) (pc' := 7) (ls' := [some (.inr (.inr (1105, 0))), some (.inl x1), some (.inr (.inr (1101, 0))), some (.inl x3), some (.inl x4)]) (st' := [.inl 12, .inl x4]) (M' := M) rfl trivial ?_
  rcases Int.lt_or_le (x4) (12) with c_1 | c_1
  · replace h := h.2 c_1
    refine Wp.path (k := 1) [0] (C := [x4 < 12]) (pc' := 10) (ls' := [some (.inr (.inr (1105, 0))), some (.inl x1), some (.inr (.inr (1101, 0))), some (.inl x3), some (.inl x4)]) (st' := []) (M' := M) rfl c_1 ?_
    refine Wp.path (k := 10) [] (C := [inR (x3 + x4), inR (x1 + x4), 0 ≤ x1 + x4 ∧ x1 + x4 < 12, 0 ≤ x3 + x4 ∧ x3 + x4 < 12]) (pc' := 22) (ls' := [some (.inr (.inr (1105, 0))), some (.inl x1), some (.inr (.inr (1101, 0))), some (.inl x3), some (.inl x4)]) (st' := []) (M' := setI M 1101 0 ((x3 + x4).toNat) (M.1 1105 0 ((x1 + x4).toNat))) rfl ⟨h.1.1, h.1.2.1, h.1.2.2.1, h.1.2.2.2⟩ ?_
    replace h := h.2
    refine Bd (P := fun M1 : Mm => Wp 0 1006 22 [some (.inr (.inr (1105, 0))), some (.inl x1), some (.inr (.inr (1101, 0))), some (.inl x3), some (.inl x4)] [] M1 (rV Q)) ?_
    intro M1 e_M1
    replace h := h M1 e_M1
    refine Wp.path (k := 2) [] (C := [inR (x4 + 1)]) (pc' := 3) (ls' := [some (.inr (.inr (1105, 0))), some (.inl x1), some (.inr (.inr (1101, 0))), some (.inl x3), some (.inl (x4 + 1))]) (st' := []) (M' := M1) rfl h.1 ?_
    replace h := h.2
    exact h
  · replace h := h.1 c_1
    refine Wp.path (k := 1) [1] (C := [12 ≤ x4]) (pc' := 28) (ls' := [some (.inr (.inr (1105, 0))), some (.inl x1), some (.inr (.inr (1101, 0))), some (.inl x3), some (.inl x4)]) (st' := []) (M' := M) rfl c_1 ?_
    exact Wp.ret rfl ⟨rfl, h⟩
/-- X10_copies -/
def E_1006_1101_1102 (x1 : Int) (x3 : Int) (M : Mm) (Q : Mm → Prop) : Prop := Ev 0 1006 [.inr (.inr (1101, 0)), .inl x1, .inr (.inr (1102, 0)), .inl x3] M (rV Q)
theorem m_1006_1101_1102 {x1 : Int} {x3 : Int} {M : Mm} {Q Q1 : Mm → Prop} (h : E_1006_1101_1102 x1 x3 M Q) (k : (∀ M1, Q M1 → Q1 M1)) : E_1006_1101_1102 x1 x3 M Q1 := Ev.mono h (fun v M1 h => ⟨h.1, k _ h.2⟩)
def L_1006_1101_1102_3 (x1 : Int) (x3 : Int) (x4 : Int) (M : Mm) (Q : Mm → Prop) : Prop := Wp 0 1006 3 [some (.inr (.inr (1101, 0))), some (.inl x1), some (.inr (.inr (1102, 0))), some (.inl x3), some (.inl x4)] [] M (rV Q)
theorem s_1006_1101_1102_0 {x1 : Int} {x3 : Int} {M : Mm} {Q : Mm → Prop} (h : (L_1006_1101_1102_3 x1 x3 0 M Q)) : E_1006_1101_1102 x1 x3 M Q := by
  show Wp 0 1006 0 [some (.inr (.inr (1101, 0))), some (.inl x1), some (.inr (.inr (1102, 0))), some (.inl x3), none] [] M (rV Q)
  refine Wp.path (k := 2) [] (C := []) (pc' := 3) (ls' := [some (.inr (.inr (1101, 0))), some (.inl x1), some (.inr (.inr (1102, 0))), some (.inl x3), some (.inl 0)]) (st' := []) (M' := M) rfl trivial ?_
  exact h
theorem s_1006_1101_1102_3 {x1 : Int} {x3 : Int} {x4 : Int} {M : Mm} {Q : Mm → Prop} (h : ((12 ≤ x4 → (Q M)) ∧ (x4 < 12 → (((-2147483648 ≤ x3 + x4 ∧ x3 + x4 ≤ 2147483647) ∧ (-2147483648 ≤ x1 + x4 ∧ x1 + x4 ≤ 2147483647) ∧ (0 ≤ x1 + x4 ∧ x1 + x4 < 12) ∧ (0 ≤ x3 + x4 ∧ x3 + x4 < 96)) ∧ (∀ M1 : Mm, M1 = setI M 1102 0 ((x3 + x4).toNat) (M.1 1101 0 ((x1 + x4).toNat)) → (((-2147483648 ≤ x4 + 1 ∧ x4 + 1 ≤ 2147483647)) ∧ (L_1006_1101_1102_3 x1 x3 (x4 + 1) M1 Q))))))) : L_1006_1101_1102_3 x1 x3 x4 M Q := by
  show Wp 0 1006 3 [some (.inr (.inr (1101, 0))), some (.inl x1), some (.inr (.inr (1102, 0))), some (.inl x3), some (.inl x4)] [] M (rV Q)
  refine Wp.path (k := 2) [] (C := []) (pc' := 7) (ls' := [some (.inr (.inr (1101, 0))), some (.inl x1), some (.inr (.inr (1102, 0))), some (.inl x3), some (.inl x4)]) (st' := [.inl 12, .inl x4]) (M' := M) rfl trivial ?_
  rcases Int.lt_or_le (x4) (12) with c_1 | c_1
  · replace h := h.2 c_1
    refine Wp.path (k := 1) [0] (C := [x4 < 12]) (pc' := 10) (ls' := [some (.inr (.inr (1101, 0))), some (.inl x1), some (.inr (.inr (1102, 0))), some (.inl x3), some (.inl x4)]) (st' := []) (M' := M) rfl c_1 ?_
    refine Wp.path (k := 10) [] (C := [inR (x3 + x4), inR (x1 + x4), 0 ≤ x1 + x4 ∧ x1 + x4 < 12, 0 ≤ x3 + x4 ∧ x3 + x4 < 96]) (pc' := 22) (ls' := [some (.inr (.inr (1101, 0))), some (.inl x1), some (.inr (.inr (1102, 0))), some (.inl x3), some (.inl x4)]) (st' := []) (M' := setI M 1102 0 ((x3 + x4).toNat) (M.1 1101 0 ((x1 + x4).toNat))) rfl ⟨h.1.1, h.1.2.1, h.1.2.2.1, h.1.2.2.2⟩ ?_
    replace h := h.2
    refine Bd (P := fun M1 : Mm => Wp 0 1006 22 [some (.inr (.inr (1101, 0))), some (.inl x1), some (.inr (.inr (1102, 0))), some (.inl x3), some (.inl x4)] [] M1 (rV Q)) ?_
    intro M1 e_M1
    replace h := h M1 e_M1
    refine Wp.path (k := 2) [] (C := [inR (x4 + 1)]) (pc' := 3) (ls' := [some (.inr (.inr (1101, 0))), some (.inl x1), some (.inr (.inr (1102, 0))), some (.inl x3), some (.inl (x4 + 1))]) (st' := []) (M' := M1) rfl h.1 ?_
    replace h := h.2
    exact h
  · replace h := h.1 c_1
    refine Wp.path (k := 1) [1] (C := [12 ≤ x4]) (pc' := 28) (ls' := [some (.inr (.inr (1101, 0))), some (.inl x1), some (.inr (.inr (1102, 0))), some (.inl x3), some (.inl x4)]) (st' := []) (M' := M) rfl c_1 ?_
    exact Wp.ret rfl ⟨rfl, h⟩
/-- X10_pushes -/
def E_1007_1102 (x2 : Int) (M : Mm) (Q : Mm → Prop) : Prop := Ev 1 1007 [.inr (.inr (10, 0)), .inr (.inr (1102, 0)), .inl x2] M (rV Q)
theorem m_1007_1102 {x2 : Int} {M : Mm} {Q Q1 : Mm → Prop} (h : E_1007_1102 x2 M Q) (k : (∀ M1, Q M1 → Q1 M1)) : E_1007_1102 x2 M Q1 := Ev.mono h (fun v M1 h => ⟨h.1, k _ h.2⟩)
def L_1007_1102_8 (x2 : Int) (x3 : Int) (M : Mm) (Q : Mm → Prop) : Prop := Wp 1 1007 8 [some (.inr (.inr (10, 0))), some (.inr (.inr (1102, 0))), some (.inl x2), some (.inl x3)] [] M (rV Q)
theorem s_1007_1102_0 {x2 : Int} {M : Mm} {Q : Mm → Prop} (h : ((x2 ≠ 8 → (((-2147483648 ≤ 12 * x2 ∧ 12 * x2 ≤ 2147483647)) ∧ (E_1006_1101_1102 0 (12 * x2) M (fun M1 : Mm => (Q M1))))) ∧ (x2 = 8 → (L_1007_1102_8 x2 0 M Q)))) : E_1007_1102 x2 M Q := by
  show Wp 1 1007 0 [some (.inr (.inr (10, 0))), some (.inr (.inr (1102, 0))), some (.inl x2), none] [] M (rV Q)
  refine Wp.path (k := 2) [] (C := []) (pc' := 3) (ls' := [some (.inr (.inr (10, 0))), some (.inr (.inr (1102, 0))), some (.inl x2), none]) (st' := [.inl 8, .inl x2]) (M' := M) rfl trivial ?_
  rcases Decidable.em (x2 = 8) with c_1 | c_1
  · replace h := h.2 c_1
    refine Wp.path (k := 1) [0] (C := [x2 = 8]) (pc' := 6) (ls' := [some (.inr (.inr (10, 0))), some (.inr (.inr (1102, 0))), some (.inl x2), none]) (st' := []) (M' := M) rfl c_1 ?_
    refine Wp.path (k := 2) [] (C := []) (pc' := 8) (ls' := [some (.inr (.inr (10, 0))), some (.inr (.inr (1102, 0))), some (.inl x2), some (.inl 0)]) (st' := []) (M' := M) rfl trivial ?_
    exact h
  · replace h := h.1 c_1
    refine Wp.path (k := 1) [1] (C := [x2 ≠ 8]) (pc' := 43) (ls' := [some (.inr (.inr (10, 0))), some (.inr (.inr (1102, 0))), some (.inl x2), none]) (st' := []) (M' := M) rfl c_1 ?_
    refine Wp.path (k := 7) [] (C := [inR (12 * x2)]) (pc' := 53) (ls' := [some (.inr (.inr (10, 0))), some (.inr (.inr (1102, 0))), some (.inl x2), none]) (st' := [.inl (12 * x2), .inr (.inr (1102, 0)), .inl 0, .inr (.inr (1101, 0))]) (M' := M) rfl h.1 ?_
    replace h := h.2
    refine Wp.call h rfl rfl (by decide) ?_
    rintro _ M1 ⟨rfl, h⟩
    show Wp 1 1007 56 [some (.inr (.inr (10, 0))), some (.inr (.inr (1102, 0))), some (.inl x2), none] [] M1 (rV Q)
    exact Wp.ret rfl ⟨rfl, h⟩
theorem s_1007_1102_8 {x2 : Int} {x3 : Int} {M : Mm} {Q : Mm → Prop} (h : ((84 ≤ x3 → (E_1006_1101_1102 0 84 M (fun M1_1 : Mm => (Q M1_1)))) ∧ (x3 < 84 → (((-2147483648 ≤ x3 + 12 ∧ x3 + 12 ≤ 2147483647) ∧ (0 ≤ x3 + 12 ∧ x3 + 12 < 96) ∧ (0 ≤ x3 ∧ x3 < 96)) ∧ (∀ M1 : Mm, M1 = setI M 1102 0 x3.toNat (M.1 1102 0 ((x3 + 12).toNat)) → (((-2147483648 ≤ x3 + 1 ∧ x3 + 1 ≤ 2147483647)) ∧ (L_1007_1102_8 x2 (x3 + 1) M1 Q))))))) : L_1007_1102_8 x2 x3 M Q := by
  show Wp 1 1007 8 [some (.inr (.inr (10, 0))), some (.inr (.inr (1102, 0))), some (.inl x2), some (.inl x3)] [] M (rV Q)
  refine Wp.path (k := 2) [] (C := []) (pc' := 11) (ls' := [some (.inr (.inr (10, 0))), some (.inr (.inr (1102, 0))), some (.inl x2), some (.inl x3)]) (st' := [.inl 84, .inl x3]) (M' := M) rfl trivial ?_
  rcases Int.lt_or_le (x3) (84) with c_1 | c_1
  · replace h := h.2 c_1
    refine Wp.path (k := 1) [0] (C := [x3 < 84]) (pc' := 14) (ls' := [some (.inr (.inr (10, 0))), some (.inr (.inr (1102, 0))), some (.inl x2), some (.inl x3)]) (st' := []) (M' := M) rfl c_1 ?_
    refine Wp.path (k := 8) [] (C := [inR (x3 + 12), 0 ≤ x3 + 12 ∧ x3 + 12 < 96, 0 ≤ x3 ∧ x3 < 96]) (pc' := 23) (ls' := [some (.inr (.inr (10, 0))), some (.inr (.inr (1102, 0))), some (.inl x2), some (.inl x3)]) (st' := []) (M' := setI M 1102 0 x3.toNat (M.1 1102 0 ((x3 + 12).toNat))) rfl ⟨h.1.1, h.1.2.1, h.1.2.2⟩ ?_
    replace h := h.2
    refine Bd (P := fun M1 : Mm => Wp 1 1007 23 [some (.inr (.inr (10, 0))), some (.inr (.inr (1102, 0))), some (.inl x2), some (.inl x3)] [] M1 (rV Q)) ?_
    intro M1 e_M1
    replace h := h M1 e_M1
    refine Wp.path (k := 2) [] (C := [inR (x3 + 1)]) (pc' := 8) (ls' := [some (.inr (.inr (10, 0))), some (.inr (.inr (1102, 0))), some (.inl x2), some (.inl (x3 + 1))]) (st' := []) (M' := M1) rfl h.1 ?_
    replace h := h.2
    exact h
  · replace h := h.1 c_1
    refine Wp.path (k := 1) [1] (C := [84 ≤ x3]) (pc' := 29) (ls' := [some (.inr (.inr (10, 0))), some (.inr (.inr (1102, 0))), some (.inl x2), some (.inl x3)]) (st' := []) (M' := M) rfl c_1 ?_
    refine Wp.path (k := 5) [] (C := []) (pc' := 37) (ls' := [some (.inr (.inr (10, 0))), some (.inr (.inr (1102, 0))), some (.inl x2), some (.inl x3)]) (st' := [.inl 84, .inr (.inr (1102, 0)), .inl 0, .inr (.inr (1101, 0))]) (M' := M) rfl trivial ?_
    refine Wp.call h rfl rfl (by decide) ?_
    rintro _ M1_1 ⟨rfl, h⟩
    show Wp 1 1007 40 [some (.inr (.inr (10, 0))), some (.inr (.inr (1102, 0))), some (.inl x2), some (.inl x3)] [] M1_1 (rV Q)
    refine Wp.path (k := 1) [] (C := []) (pc' := 56) (ls' := [some (.inr (.inr (10, 0))), some (.inr (.inr (1102, 0))), some (.inl x2), some (.inl x3)]) (st' := []) (M' := M1_1) rfl trivial ?_
    exact Wp.ret rfl ⟨rfl, h⟩
/-- X10_changes -/
def E_1008 (M : Mm) (Q : Mm → Prop) : Prop := Ev 2 1008 [.inr (.inr (10, 0))] M (rV Q)
theorem m_1008 {M : Mm} {Q Q1 : Mm → Prop} (h : E_1008 M Q) (k : (∀ M1, Q M1 → Q1 M1)) : E_1008 M Q1 := Ev.mono h (fun v M1 h => ⟨h.1, k _ h.2⟩)
theorem s_1008_0 {M : Mm} {Q : Mm → Prop} (h : (E_1007_1102 (M.1 10 0 6) M (fun M1 : Mm => ((M1.1 10 0 6 ≠ 8 → ((-2147483648 ≤ (M1.1 10 0 6) + 1 ∧ (M1.1 10 0 6) + 1 ≤ 2147483647))) ∧ (∀ b : Int, b = (if M1.1 10 0 6 ≠ 8 then ((M1.1 10 0 6) + 1) else 8) → (∀ M1_1 : Mm, M1_1 = setI M1 10 0 6 b → (∀ M1_2 : Mm, M1_2 = setI M1_1 10 0 7 0 → (E_1006_1105_1101 0 0 M1_2 (fun M1_3 : Mm => (∀ M1_4 : Mm, M1_4 = setI M1_3 10 0 9 0 → (Q M1_4))))))))))) : E_1008 M Q := by
  show Wp 2 1008 0 [some (.inr (.inr (10, 0)))] [] M (rV Q)
  refine Wp.path (k := 5) [] (C := []) (pc' := 9) (ls' := [some (.inr (.inr (10, 0)))]) (st' := [.inl (M.1 10 0 6), .inr (.inr (1102, 0)), .inr (.inr (10, 0))]) (M' := M) rfl trivial ?_
  refine Wp.call h rfl rfl (by decide) ?_
  rintro _ M1 ⟨rfl, h⟩
  show Wp 2 1008 12 [some (.inr (.inr (10, 0)))] [] M1 (rV Q)
  refine Wp.path (k := 4) [] (C := []) (pc' := 19) (ls' := [some (.inr (.inr (10, 0)))]) (st' := [.inl 8, .inl (M1.1 10 0 6), .inr (.inr (10, 0))]) (M' := M1) rfl trivial ?_
  have g1_0 := h.1
  replace h := h.2
  have k_1 : ∀ b : Int, b = (if M1.1 10 0 6 ≠ 8 then ((M1.1 10 0 6) + 1) else 8) → Wp 2 1008 33 [some (.inr (.inr (10, 0)))] [.inl b, .inr (.inr (10, 0))] M1 (rV Q) := by
    intro b e_b
    replace h := h b e_b
    refine Wp.path (k := 1) [] (C := []) (pc' := 36) (ls' := [some (.inr (.inr (10, 0)))]) (st' := []) (M' := setI M1 10 0 6 b) rfl trivial ?_
    refine Bd (P := fun M1_1 : Mm => Wp 2 1008 36 [some (.inr (.inr (10, 0)))] [] M1_1 (rV Q)) ?_
    intro M1_1 e_M1_1
    replace h := h M1_1 e_M1_1
    refine Wp.path (k := 3) [] (C := []) (pc' := 41) (ls' := [some (.inr (.inr (10, 0)))]) (st' := []) (M' := setI M1_1 10 0 7 0) rfl trivial ?_
    refine Bd (P := fun M1_2 : Mm => Wp 2 1008 41 [some (.inr (.inr (10, 0)))] [] M1_2 (rV Q)) ?_
    intro M1_2 e_M1_2
    replace h := h M1_2 e_M1_2
    refine Wp.path (k := 6) [] (C := []) (pc' := 51) (ls' := [some (.inr (.inr (10, 0)))]) (st' := [.inl 0, .inr (.inr (1101, 0)), .inl 0, .inr (.inr (1105, 0))]) (M' := M1_2) rfl trivial ?_
    refine Wp.call h rfl rfl (by decide) ?_
    rintro _ M1_3 ⟨rfl, h⟩
    show Wp 2 1008 54 [some (.inr (.inr (10, 0)))] [] M1_3 (rV Q)
    refine Wp.path (k := 3) [] (C := [(0 : Int) = 0 ∨ (0 : Int) = 1]) (pc' := 59) (ls' := [some (.inr (.inr (10, 0)))]) (st' := []) (M' := setI M1_3 10 0 9 0) rfl (Or.inl rfl) ?_
    refine Bd (P := fun M1_4 : Mm => Wp 2 1008 59 [some (.inr (.inr (10, 0)))] [] M1_4 (rV Q)) ?_
    intro M1_4 e_M1_4
    replace h := h M1_4 e_M1_4
    exact Wp.ret rfl ⟨rfl, h⟩
  clear h
  rcases Decidable.em (M1.1 10 0 6 = 8) with c_2 | c_2
  · refine Wp.path (k := 1) [0] (C := [M1.1 10 0 6 = 8]) (pc' := 22) (ls' := [some (.inr (.inr (10, 0)))]) (st' := [.inr (.inr (10, 0))]) (M' := M1) rfl c_2 ?_
    refine Wp.path (k := 2) [] (C := []) (pc' := 33) (ls' := [some (.inr (.inr (10, 0)))]) (st' := [.inl 8, .inr (.inr (10, 0))]) (M' := M1) rfl trivial ?_
    exact k_1 _ (by rw [if_neg (not_not_intro c_2)])
  · refine Wp.path (k := 1) [1] (C := [M1.1 10 0 6 ≠ 8]) (pc' := 27) (ls' := [some (.inr (.inr (10, 0)))]) (st' := [.inr (.inr (10, 0))]) (M' := M1) rfl c_2 ?_
    refine Wp.path (k := 4) [] (C := [inR ((M1.1 10 0 6) + 1)]) (pc' := 33) (ls' := [some (.inr (.inr (10, 0)))]) (st' := [.inl ((M1.1 10 0 6) + 1), .inr (.inr (10, 0))]) (M' := M1) rfl (g1_0 c_2) ?_
    exact k_1 _ (by rw [if_pos c_2])
/-- X10_draws -/
def E_1009 (x1 : Int) (x2 : Int) (x3 : Int) (x4 : Int) (x5 : Int) (M : Mm) (Q : Mm → Prop) : Prop := Ev 0 1009 [.inr (.inr (10, 0)), .inl x1, .inl x2, .inl x3, .inl x4, .inl x5] M (rV Q)
theorem m_1009 {x1 : Int} {x2 : Int} {x3 : Int} {x4 : Int} {x5 : Int} {M : Mm} {Q Q1 : Mm → Prop} (h : E_1009 x1 x2 x3 x4 x5 M Q) (k : (∀ M1, Q M1 → Q1 M1)) : E_1009 x1 x2 x3 x4 x5 M Q1 := Ev.mono h (fun v M1 h => ⟨h.1, k _ h.2⟩)
def L_1009_13 (x1 : Int) (x2 : Int) (x3 : Int) (x4 : Int) (x5 : Int) (x6 : Int) (x7 : Int) (M : Mm) (Q : Mm → Prop) : Prop := Wp 0 1009 13 [some (.inr (.inr (10, 0))), some (.inl x1), some (.inl x2), some (.inl x3), some (.inl x4), some (.inl x5), some (.inl x6), some (.inl x7)] [] M (rV Q)
theorem s_1009_0 {x1 : Int} {x2 : Int} {x3 : Int} {x4 : Int} {x5 : Int} {M : Mm} {Q : Mm → Prop} (h : ((-2147483648 ≤ (ish 1 x4) - 1 ∧ (ish 1 x4) - 1 ≤ 2147483647)) ∧ (∀ x6 : Int, x6 = ish ((ish 1 x4) - 1) x2 → (L_1009_13 x1 x2 x3 x4 x5 x6 x3 M Q))) : E_1009 x1 x2 x3 x4 x5 M Q := by
  show Wp 0 1009 0 [some (.inr (.inr (10, 0))), some (.inl x1), some (.inl x2), some (.inl x3), some (.inl x4), some (.inl x5), none, none] [] M (rV Q)
  refine Wp.path (k := 8) [] (C := [inR ((ish 1 x4) - 1)]) (pc' := 10) (ls' := [some (.inr (.inr (10, 0))), some (.inl x1), some (.inl x2), some (.inl x3), some (.inl x4), some (.inl x5), some (.inl (ish ((ish 1 x4) - 1) x2)), none]) (st' := []) (M' := M) rfl h.1 ?_
  replace h := h.2
  refine Bd (P := fun x6 : Int => Wp 0 1009 10 [some (.inr (.inr (10, 0))), some (.inl x1), some (.inl x2), some (.inl x3), some (.inl x4), some (.inl x5), some (.inl x6), none] [] M (rV Q)) ?_
  intro x6 e_x6
  replace h := h x6 e_x6
  refine Wp.path (k := 2) [] (C := []) (pc' := 13) (ls' := [some (.inr (.inr (10, 0))), some (.inl x1), some (.inl x2), some (.inl x3), some (.inl x4), some (.inl x5), some (.inl x6), some (.inl x3)]) (st' := []) (M' := M) rfl trivial ?_
  exact h
theorem s_1009_13 {x1 : Int} {x2 : Int} {x3 : Int} {x4 : Int} {x5 : Int} {x6 : Int} {x7 : Int} {M : Mm} {Q : Mm → Prop} (h : ((-2147483648 ≤ x3 + x5 ∧ x3 + x5 ≤ 2147483647)) ∧ ((x3 + x5 ≤ x7 → (Q M)) ∧ (x7 < x3 + x5 → ((x1 ≠ 0 → x1 ≠ 1 → ((0 ≤ x7 ∧ x7 < 12))) ∧ (x1 ≠ 0 → x1 = 1 → ((0 ≤ x7 ∧ x7 < 12))) ∧ (x1 = 0 → ((0 ≤ x7 ∧ x7 < 12))) ∧ (∀ b : Int, b = (if x1 ≠ 0 then (if x1 ≠ 1 then (ixr (M.1 1105 0 x7.toNat) x6) else (ian (M.1 1105 0 x7.toNat) (ixr x6 (-1)))) else (ior' (M.1 1105 0 x7.toNat) x6)) → (((0 ≤ x7 ∧ x7 < 12)) ∧ (∀ M1 : Mm, M1 = setI M 1105 0 x7.toNat b → (((-2147483648 ≤ x7 + 1 ∧ x7 + 1 ≤ 2147483647)) ∧ (L_1009_13 x1 x2 x3 x4 x5 x6 (x7 + 1) M1 Q))))))))) : L_1009_13 x1 x2 x3 x4 x5 x6 x7 M Q := by
  show Wp 0 1009 13 [some (.inr (.inr (10, 0))), some (.inl x1), some (.inl x2), some (.inl x3), some (.inl x4), some (.inl x5), some (.inl x6), some (.inl x7)] [] M (rV Q)
  refine Wp.path (k := 4) [] (C := [inR (x3 + x5)]) (pc' := 19) (ls' := [some (.inr (.inr (10, 0))), some (.inl x1), some (.inl x2), some (.inl x3), some (.inl x4), some (.inl x5), some (.inl x6), some (.inl x7)]) (st' := [.inl (x3 + x5), .inl x7]) (M' := M) rfl h.1 ?_
  replace h := h.2
  rcases Int.lt_or_le (x7) (x3 + x5) with c_1 | c_1
  · replace h := h.2 c_1
    refine Wp.path (k := 1) [0] (C := [x7 < x3 + x5]) (pc' := 22) (ls' := [some (.inr (.inr (10, 0))), some (.inl x1), some (.inl x2), some (.inl x3), some (.inl x4), some (.inl x5), some (.inl x6), some (.inl x7)]) (st' := []) (M' := M) rfl c_1 ?_
    refine Wp.path (k := 4) [] (C := []) (pc' := 29) (ls' := [some (.inr (.inr (10, 0))), some (.inl x1), some (.inl x2), some (.inl x3), some (.inl x4), some (.inl x5), some (.inl x6), some (.inl x7)]) (st' := [.inl x1, .inl x7, .inr (.inr (1105, 0))]) (M' := M) rfl trivial ?_
    have g2_0 := h.1
    replace h := h.2
    have g2_1 := h.1
    replace h := h.2
    have g2_2 := h.1
    replace h := h.2
    have k_2 : ∀ b : Int, b = (if x1 ≠ 0 then (if x1 ≠ 1 then (ixr (M.1 1105 0 x7.toNat) x6) else (ian (M.1 1105 0 x7.toNat) (ixr x6 (-1)))) else (ior' (M.1 1105 0 x7.toNat) x6)) → Wp 0 1009 75 [some (.inr (.inr (10, 0))), some (.inl x1), some (.inl x2), some (.inl x3), some (.inl x4), some (.inl x5), some (.inl x6), some (.inl x7)] [.inl b, .inl x7, .inr (.inr (1105, 0))] M (rV Q) := by
      intro b e_b
      replace h := h b e_b
      refine Wp.path (k := 1) [] (C := [0 ≤ x7 ∧ x7 < 12]) (pc' := 76) (ls' := [some (.inr (.inr (10, 0))), some (.inl x1), some (.inl x2), some (.inl x3), some (.inl x4), some (.inl x5), some (.inl x6), some (.inl x7)]) (st' := []) (M' := setI M 1105 0 x7.toNat b) rfl h.1 ?_
      replace h := h.2
      refine Bd (P := fun M1 : Mm => Wp 0 1009 76 [some (.inr (.inr (10, 0))), some (.inl x1), some (.inl x2), some (.inl x3), some (.inl x4), some (.inl x5), some (.inl x6), some (.inl x7)] [] M1 (rV Q)) ?_
      intro M1 e_M1
      replace h := h M1 e_M1
      refine Wp.path (k := 2) [] (C := [inR (x7 + 1)]) (pc' := 13) (ls' := [some (.inr (.inr (10, 0))), some (.inl x1), some (.inl x2), some (.inl x3), some (.inl x4), some (.inl x5), some (.inl x6), some (.inl (x7 + 1))]) (st' := []) (M' := M1) rfl h.1 ?_
      replace h := h.2
      exact h
    clear h
    rcases Decidable.em (x1 = 0) with c_3 | c_3
    · refine Wp.path (k := 1) [0] (C := [x1 = 0]) (pc' := 32) (ls' := [some (.inr (.inr (10, 0))), some (.inl x1), some (.inl x2), some (.inl x3), some (.inl x4), some (.inl x5), some (.inl x6), some (.inl x7)]) (st' := [.inl x7, .inr (.inr (1105, 0))]) (M' := M) rfl c_3 ?_
      refine Wp.path (k := 7) [] (C := [0 ≤ x7 ∧ x7 < 12]) (pc' := 75) (ls' := [some (.inr (.inr (10, 0))), some (.inl x1), some (.inl x2), some (.inl x3), some (.inl x4), some (.inl x5), some (.inl x6), some (.inl x7)]) (st' := [.inl (ior' (M.1 1105 0 x7.toNat) x6), .inl x7, .inr (.inr (1105, 0))]) (M' := M) rfl (g2_2 c_3) ?_
      exact k_2 _ (by rw [if_neg (not_not_intro c_3)])
    · refine Wp.path (k := 1) [1] (C := [x1 ≠ 0]) (pc' := 45) (ls' := [some (.inr (.inr (10, 0))), some (.inl x1), some (.inl x2), some (.inl x3), some (.inl x4), some (.inl x5), some (.inl x6), some (.inl x7)]) (st' := [.inl x7, .inr (.inr (1105, 0))]) (M' := M) rfl c_3 ?_
      refine Wp.path (k := 2) [] (C := []) (pc' := 47) (ls' := [some (.inr (.inr (10, 0))), some (.inl x1), some (.inl x2), some (.inl x3), some (.inl x4), some (.inl x5), some (.inl x6), some (.inl x7)]) (st' := [.inl 1, .inl x1, .inl x7, .inr (.inr (1105, 0))]) (M' := M) rfl trivial ?_
      rcases Decidable.em (x1 = 1) with c_4 | c_4
      · refine Wp.path (k := 1) [0] (C := [x1 = 1]) (pc' := 50) (ls' := [some (.inr (.inr (10, 0))), some (.inl x1), some (.inl x2), some (.inl x3), some (.inl x4), some (.inl x5), some (.inl x6), some (.inl x7)]) (st' := [.inl x7, .inr (.inr (1105, 0))]) (M' := M) rfl c_4 ?_
        refine Wp.path (k := 9) [] (C := [0 ≤ x7 ∧ x7 < 12]) (pc' := 75) (ls' := [some (.inr (.inr (10, 0))), some (.inl x1), some (.inl x2), some (.inl x3), some (.inl x4), some (.inl x5), some (.inl x6), some (.inl x7)]) (st' := [.inl (ian (M.1 1105 0 x7.toNat) (ixr x6 (-1))), .inl x7, .inr (.inr (1105, 0))]) (M' := M) rfl (g2_1 c_3 c_4) ?_
        exact k_2 _ (by rw [if_pos c_3, if_neg (not_not_intro c_4)])
      · refine Wp.path (k := 1) [1] (C := [x1 ≠ 1]) (pc' := 65) (ls' := [some (.inr (.inr (10, 0))), some (.inl x1), some (.inl x2), some (.inl x3), some (.inl x4), some (.inl x5), some (.inl x6), some (.inl x7)]) (st' := [.inl x7, .inr (.inr (1105, 0))]) (M' := M) rfl c_4 ?_
        refine Wp.path (k := 6) [] (C := [0 ≤ x7 ∧ x7 < 12]) (pc' := 75) (ls' := [some (.inr (.inr (10, 0))), some (.inl x1), some (.inl x2), some (.inl x3), some (.inl x4), some (.inl x5), some (.inl x6), some (.inl x7)]) (st' := [.inl (ixr (M.1 1105 0 x7.toNat) x6), .inl x7, .inr (.inr (1105, 0))]) (M' := M) rfl (g2_0 c_3 c_4) ?_
        exact k_2 _ (by rw [if_pos c_3, if_pos c_4])
  · replace h := h.1 c_1
    refine Wp.path (k := 1) [1] (C := [x3 + x5 ≤ x7]) (pc' := 82) (ls' := [some (.inr (.inr (10, 0))), some (.inl x1), some (.inl x2), some (.inl x3), some (.inl x4), some (.inl x5), some (.inl x6), some (.inl x7)]) (st' := []) (M' := M) rfl c_1 ?_
    exact Wp.ret rfl ⟨rfl, h⟩
/-- X10_copies -/
def E_1006_1101_1105 (x1 : Int) (x3 : Int) (M : Mm) (Q : Mm → Prop) : Prop := Ev 0 1006 [.inr (.inr (1101, 0)), .inl x1, .inr (.inr (1105, 0)), .inl x3] M (rV Q)
theorem m_1006_1101_1105 {x1 : Int} {x3 : Int} {M : Mm} {Q Q1 : Mm → Prop} (h : E_1006_1101_1105 x1 x3 M Q) (k : (∀ M1, Q M1 → Q1 M1)) : E_1006_1101_1105 x1 x3 M Q1 := Ev.mono h (fun v M1 h => ⟨h.1, k _ h.2⟩)
def L_1006_1101_1105_3 (x1 : Int) (x3 : Int) (x4 : Int) (M : Mm) (Q : Mm → Prop) : Prop := Wp 0 1006 3 [some (.inr (.inr (1101, 0))), some (.inl x1), some (.inr (.inr (1105, 0))), some (.inl x3), some (.inl x4)] [] M (rV Q)
theorem s_1006_1101_1105_0 {x1 : Int} {x3 : Int} {M : Mm} {Q : Mm → Prop} (h : (L_1006_1101_1105_3 x1 x3 0 M Q)) : E_1006_1101_1105 x1 x3 M Q := by
  show Wp 0 1006 0 [some (.inr (.inr (1101, 0))), some (.inl x1), some (.inr (.inr (1105, 0))), some (.inl x3), none] [] M (rV Q)
  refine Wp.path (k := 2) [] (C := []) (pc' := 3) (ls' := [some (.inr (.inr (1101, 0))), some (.inl x1), some (.inr (.inr (1105, 0))), some (.inl x3), some (.inl 0)]) (st' := []) (M' := M) rfl trivial ?_
  exact h
theorem s_1006_1101_1105_3 {x1 : Int} {x3 : Int} {x4 : Int} {M : Mm} {Q : Mm → Prop} (h : ((12 ≤ x4 → (Q M)) ∧ (x4 < 12 → (((-2147483648 ≤ x3 + x4 ∧ x3 + x4 ≤ 2147483647) ∧ (-2147483648 ≤ x1 + x4 ∧ x1 + x4 ≤ 2147483647) ∧ (0 ≤ x1 + x4 ∧ x1 + x4 < 12) ∧ (0 ≤ x3 + x4 ∧ x3 + x4 < 12)) ∧ (∀ M1 : Mm, M1 = setI M 1105 0 ((x3 + x4).toNat) (M.1 1101 0 ((x1 + x4).toNat)) → (((-2147483648 ≤ x4 + 1 ∧ x4 + 1 ≤ 2147483647)) ∧ (L_1006_1101_1105_3 x1 x3 (x4 + 1) M1 Q))))))) : L_1006_1101_1105_3 x1 x3 x4 M Q := by
  show Wp 0 1006 3 [some (.inr (.inr (1101, 0))), some (.inl x1), some (.inr (.inr (1105, 0))), some (.inl x3), some (.inl x4)] [] M (rV Q)
  refine Wp.path (k := 2) [] (C := []) (pc' := 7) (ls' := [some (.inr (.inr (1101, 0))), some (.inl x1), some (.inr (.inr (1105, 0))), some (.inl x3), some (.inl x4)]) (st' := [.inl 12, .inl x4]) (M' := M) rfl trivial ?_
  rcases Int.lt_or_le (x4) (12) with c_1 | c_1
  · replace h := h.2 c_1
    refine Wp.path (k := 1) [0] (C := [x4 < 12]) (pc' := 10) (ls' := [some (.inr (.inr (1101, 0))), some (.inl x1), some (.inr (.inr (1105, 0))), some (.inl x3), some (.inl x4)]) (st' := []) (M' := M) rfl c_1 ?_
    refine Wp.path (k := 10) [] (C := [inR (x3 + x4), inR (x1 + x4), 0 ≤ x1 + x4 ∧ x1 + x4 < 12, 0 ≤ x3 + x4 ∧ x3 + x4 < 12]) (pc' := 22) (ls' := [some (.inr (.inr (1101, 0))), some (.inl x1), some (.inr (.inr (1105, 0))), some (.inl x3), some (.inl x4)]) (st' := []) (M' := setI M 1105 0 ((x3 + x4).toNat) (M.1 1101 0 ((x1 + x4).toNat))) rfl ⟨h.1.1, h.1.2.1, h.1.2.2.1, h.1.2.2.2⟩ ?_
    replace h := h.2
    refine Bd (P := fun M1 : Mm => Wp 0 1006 22 [some (.inr (.inr (1101, 0))), some (.inl x1), some (.inr (.inr (1105, 0))), some (.inl x3), some (.inl x4)] [] M1 (rV Q)) ?_
    intro M1 e_M1
    replace h := h M1 e_M1
    refine Wp.path (k := 2) [] (C := [inR (x4 + 1)]) (pc' := 3) (ls' := [some (.inr (.inr (1101, 0))), some (.inl x1), some (.inr (.inr (1105, 0))), some (.inl x3), some (.inl (x4 + 1))]) (st' := []) (M' := M1) rfl h.1 ?_
    replace h := h.2
    exact h
  · replace h := h.1 c_1
    refine Wp.path (k := 1) [1] (C := [12 ≤ x4]) (pc' := 28) (ls' := [some (.inr (.inr (1101, 0))), some (.inl x1), some (.inr (.inr (1105, 0))), some (.inl x3), some (.inl x4)]) (st' := []) (M' := M) rfl c_1 ?_
    exact Wp.ret rfl ⟨rfl, h⟩
/-- X10_rectangle -/
def E_1010 (x1 : Int) (x2 : Int) (x3 : Int) (x4 : Int) (x5 : Int) (M : Mm) (Q : Int → Mm → Prop) : Prop := Ev 3 1010 [.inr (.inr (10, 0)), .inl x1, .inl x2, .inl x3, .inl x4, .inl x5] M (rI Q)
theorem m_1010 {x1 : Int} {x2 : Int} {x3 : Int} {x4 : Int} {x5 : Int} {M : Mm} {Q Q1 : Int → Mm → Prop} (h : E_1010 x1 x2 x3 x4 x5 M Q) (k : (∀ r M1, Q r M1 → Q1 r M1)) : E_1010 x1 x2 x3 x4 x5 M Q1 := Ev.mono h (fun v M1 ⟨r, h1, h2⟩ => ⟨r, h1, k _ _ h2⟩)
theorem s_1010_0 {x1 : Int} {x2 : Int} {x3 : Int} {x4 : Int} {x5 : Int} {M : Mm} {Q : Int → Mm → Prop} (h : (∀ M1 : Mm, M1 = setI M 10 0 0 0 → ((inV x1 0 2 ≠ 0 → ((inV x2 0 11 = 0 → (∀ M1_2 : Mm, M1_2 = setI M1 10 0 0 2 → (Q 0 M1_2))) ∧ (inV x2 0 11 ≠ 0 → ((inV x3 0 11 = 0 → (∀ M1_3 : Mm, M1_3 = setI M1 10 0 0 2 → (Q 0 M1_3))) ∧ (inV x3 0 11 ≠ 0 → (((-2147483648 ≤ 12 - x2 ∧ 12 - x2 ≤ 2147483647)) ∧ ((inV x4 1 (12 - x2) = 0 → (∀ M1_4 : Mm, M1_4 = setI M1 10 0 0 2 → (Q 0 M1_4))) ∧ (inV x4 1 (12 - x2) ≠ 0 → (((-2147483648 ≤ 12 - x3 ∧ 12 - x3 ≤ 2147483647)) ∧ ((inV x5 1 (12 - x3) ≠ 0 → (E_1006_1101_1105 0 0 M1 (fun M1_6 : Mm => (E_1009 x1 x2 x3 x4 x5 M1_6 (fun M1_7 : Mm => (E_1008 M1_7 (fun M1_8 : Mm => (E_1005 M1_8 (fun (r : Int) (M1_9 : Mm) => (Q r M1_9)))))))))) ∧ (inV x5 1 (12 - x3) = 0 → (∀ M1_5 : Mm, M1_5 = setI M1 10 0 0 2 → (Q 0 M1_5))))))))))))) ∧ (inV x1 0 2 = 0 → (∀ M1_1 : Mm, M1_1 = setI M1 10 0 0 1 → (Q 0 M1_1)))))) : E_1010 x1 x2 x3 x4 x5 M Q := by
  show Wp 3 1010 0 [some (.inr (.inr (10, 0))), some (.inl x1), some (.inl x2), some (.inl x3), some (.inl x4), some (.inl x5)] [] M (rI Q)
  refine Wp.path (k := 3) [] (C := []) (pc' := 5) (ls' := [some (.inr (.inr (10, 0))), some (.inl x1), some (.inl x2), some (.inl x3), some (.inl x4), some (.inl x5)]) (st' := []) (M' := setI M 10 0 0 0) rfl trivial ?_
  refine Bd (P := fun M1 : Mm => Wp 3 1010 5 [some (.inr (.inr (10, 0))), some (.inl x1), some (.inl x2), some (.inl x3), some (.inl x4), some (.inl x5)] [] M1 (rI Q)) ?_
  intro M1 e_M1
  replace h := h M1 e_M1
  refine Wp.path (k := 3) [] (C := []) (pc' := 8) (ls' := [some (.inr (.inr (10, 0))), some (.inl x1), some (.inl x2), some (.inl x3), some (.inl x4), some (.inl x5)]) (st' := [.inl 2, .inl 0, .inl x1]) (M' := M1) rfl trivial ?_
  refine Wp.call (e1002) rfl rfl (by decide) ?_
  rintro v_ M_ ⟨eM_, ev_⟩
  rw [eM_, ev_]
  clear eM_ ev_ v_ M_
  show Wp 3 1010 11 [some (.inr (.inr (10, 0))), some (.inl x1), some (.inl x2), some (.inl x3), some (.inl x4), some (.inl x5)] [.inl (inV x1 0 2)] M1 (rI Q)
  rcases Decidable.em (inV x1 0 2 = 0) with c_1 | c_1
  · replace h := h.2 c_1
    refine Wp.path (k := 1) [0] (C := [inV x1 0 2 = 0]) (pc' := 14) (ls' := [some (.inr (.inr (10, 0))), some (.inl x1), some (.inl x2), some (.inl x3), some (.inl x4), some (.inl x5)]) (st' := []) (M' := M1) rfl c_1 ?_
    refine Wp.path (k := 3) [] (C := []) (pc' := 19) (ls' := [some (.inr (.inr (10, 0))), some (.inl x1), some (.inl x2), some (.inl x3), some (.inl x4), some (.inl x5)]) (st' := []) (M' := setI M1 10 0 0 1) rfl trivial ?_
    refine Bd (P := fun M1_1 : Mm => Wp 3 1010 19 [some (.inr (.inr (10, 0))), some (.inl x1), some (.inl x2), some (.inl x3), some (.inl x4), some (.inl x5)] [] M1_1 (rI Q)) ?_
    intro M1_1 e_M1_1
    replace h := h M1_1 e_M1_1
    refine Wp.path (k := 1) [] (C := []) (pc' := 20) (ls' := [some (.inr (.inr (10, 0))), some (.inl x1), some (.inl x2), some (.inl x3), some (.inl x4), some (.inl x5)]) (st' := [.inl 0]) (M' := M1_1) rfl trivial ?_
    exact Wp.ret rfl ⟨_, rfl, h⟩
  · replace h := h.1 c_1
    refine Wp.path (k := 1) [1] (C := [inV x1 0 2 ≠ 0]) (pc' := 21) (ls' := [some (.inr (.inr (10, 0))), some (.inl x1), some (.inl x2), some (.inl x3), some (.inl x4), some (.inl x5)]) (st' := []) (M' := M1) rfl c_1 ?_
    refine Wp.path (k := 3) [] (C := []) (pc' := 25) (ls' := [some (.inr (.inr (10, 0))), some (.inl x1), some (.inl x2), some (.inl x3), some (.inl x4), some (.inl x5)]) (st' := [.inl 11, .inl 0, .inl x2]) (M' := M1) rfl trivial ?_
    refine Wp.call (e1002) rfl rfl (by decide) ?_
    rintro v_ M_ ⟨eM_, ev_⟩
    rw [eM_, ev_]
    clear eM_ ev_ v_ M_
    show Wp 3 1010 28 [some (.inr (.inr (10, 0))), some (.inl x1), some (.inl x2), some (.inl x3), some (.inl x4), some (.inl x5)] [.inl (inV x2 0 11)] M1 (rI Q)
    rcases Decidable.em (inV x2 0 11 = 0) with c_2 | c_2
    · replace h := h.1 c_2
      refine Wp.path (k := 1) [1] (C := [inV x2 0 11 = 0]) (pc' := 67) (ls' := [some (.inr (.inr (10, 0))), some (.inl x1), some (.inl x2), some (.inl x3), some (.inl x4), some (.inl x5)]) (st' := []) (M' := M1) rfl c_2 ?_
      refine Wp.path (k := 3) [] (C := []) (pc' := 72) (ls' := [some (.inr (.inr (10, 0))), some (.inl x1), some (.inl x2), some (.inl x3), some (.inl x4), some (.inl x5)]) (st' := []) (M' := setI M1 10 0 0 2) rfl trivial ?_
      refine Bd (P := fun M1_2 : Mm => Wp 3 1010 72 [some (.inr (.inr (10, 0))), some (.inl x1), some (.inl x2), some (.inl x3), some (.inl x4), some (.inl x5)] [] M1_2 (rI Q)) ?_
      intro M1_2 e_M1_2
      replace h := h M1_2 e_M1_2
      refine Wp.path (k := 1) [] (C := []) (pc' := 73) (ls' := [some (.inr (.inr (10, 0))), some (.inl x1), some (.inl x2), some (.inl x3), some (.inl x4), some (.inl x5)]) (st' := [.inl 0]) (M' := M1_2) rfl trivial ?_
      exact Wp.ret rfl ⟨_, rfl, h⟩
    · replace h := h.2 c_2
      refine Wp.path (k := 1) [0] (C := [inV x2 0 11 ≠ 0]) (pc' := 31) (ls' := [some (.inr (.inr (10, 0))), some (.inl x1), some (.inl x2), some (.inl x3), some (.inl x4), some (.inl x5)]) (st' := []) (M' := M1) rfl c_2 ?_
      refine Wp.path (k := 3) [] (C := []) (pc' := 35) (ls' := [some (.inr (.inr (10, 0))), some (.inl x1), some (.inl x2), some (.inl x3), some (.inl x4), some (.inl x5)]) (st' := [.inl 11, .inl 0, .inl x3]) (M' := M1) rfl trivial ?_
      refine Wp.call (e1002) rfl rfl (by decide) ?_
      rintro v_ M_ ⟨eM_, ev_⟩
      rw [eM_, ev_]
      clear eM_ ev_ v_ M_
      show Wp 3 1010 38 [some (.inr (.inr (10, 0))), some (.inl x1), some (.inl x2), some (.inl x3), some (.inl x4), some (.inl x5)] [.inl (inV x3 0 11)] M1 (rI Q)
      rcases Decidable.em (inV x3 0 11 = 0) with c_3 | c_3
      · replace h := h.1 c_3
        refine Wp.path (k := 1) [1] (C := [inV x3 0 11 = 0]) (pc' := 67) (ls' := [some (.inr (.inr (10, 0))), some (.inl x1), some (.inl x2), some (.inl x3), some (.inl x4), some (.inl x5)]) (st' := []) (M' := M1) rfl c_3 ?_
        refine Wp.path (k := 3) [] (C := []) (pc' := 72) (ls' := [some (.inr (.inr (10, 0))), some (.inl x1), some (.inl x2), some (.inl x3), some (.inl x4), some (.inl x5)]) (st' := []) (M' := setI M1 10 0 0 2) rfl trivial ?_
        refine Bd (P := fun M1_3 : Mm => Wp 3 1010 72 [some (.inr (.inr (10, 0))), some (.inl x1), some (.inl x2), some (.inl x3), some (.inl x4), some (.inl x5)] [] M1_3 (rI Q)) ?_
        intro M1_3 e_M1_3
        replace h := h M1_3 e_M1_3
        refine Wp.path (k := 1) [] (C := []) (pc' := 73) (ls' := [some (.inr (.inr (10, 0))), some (.inl x1), some (.inl x2), some (.inl x3), some (.inl x4), some (.inl x5)]) (st' := [.inl 0]) (M' := M1_3) rfl trivial ?_
        exact Wp.ret rfl ⟨_, rfl, h⟩
      · replace h := h.2 c_3
        refine Wp.path (k := 1) [0] (C := [inV x3 0 11 ≠ 0]) (pc' := 41) (ls' := [some (.inr (.inr (10, 0))), some (.inl x1), some (.inl x2), some (.inl x3), some (.inl x4), some (.inl x5)]) (st' := []) (M' := M1) rfl c_3 ?_
        refine Wp.path (k := 5) [] (C := [inR (12 - x2)]) (pc' := 48) (ls' := [some (.inr (.inr (10, 0))), some (.inl x1), some (.inl x2), some (.inl x3), some (.inl x4), some (.inl x5)]) (st' := [.inl (12 - x2), .inl 1, .inl x4]) (M' := M1) rfl h.1 ?_
        replace h := h.2
        refine Wp.call (e1002) rfl rfl (by decide) ?_
        rintro v_ M_ ⟨eM_, ev_⟩
        rw [eM_, ev_]
        clear eM_ ev_ v_ M_
        show Wp 3 1010 51 [some (.inr (.inr (10, 0))), some (.inl x1), some (.inl x2), some (.inl x3), some (.inl x4), some (.inl x5)] [.inl (inV x4 1 (12 - x2))] M1 (rI Q)
        rcases Decidable.em (inV x4 1 (12 - x2) = 0) with c_4 | c_4
        · replace h := h.1 c_4
          refine Wp.path (k := 1) [1] (C := [inV x4 1 (12 - x2) = 0]) (pc' := 67) (ls' := [some (.inr (.inr (10, 0))), some (.inl x1), some (.inl x2), some (.inl x3), some (.inl x4), some (.inl x5)]) (st' := []) (M' := M1) rfl c_4 ?_
          refine Wp.path (k := 3) [] (C := []) (pc' := 72) (ls' := [some (.inr (.inr (10, 0))), some (.inl x1), some (.inl x2), some (.inl x3), some (.inl x4), some (.inl x5)]) (st' := []) (M' := setI M1 10 0 0 2) rfl trivial ?_
          refine Bd (P := fun M1_4 : Mm => Wp 3 1010 72 [some (.inr (.inr (10, 0))), some (.inl x1), some (.inl x2), some (.inl x3), some (.inl x4), some (.inl x5)] [] M1_4 (rI Q)) ?_
          intro M1_4 e_M1_4
          replace h := h M1_4 e_M1_4
          refine Wp.path (k := 1) [] (C := []) (pc' := 73) (ls' := [some (.inr (.inr (10, 0))), some (.inl x1), some (.inl x2), some (.inl x3), some (.inl x4), some (.inl x5)]) (st' := [.inl 0]) (M' := M1_4) rfl trivial ?_
          exact Wp.ret rfl ⟨_, rfl, h⟩
        · replace h := h.2 c_4
          refine Wp.path (k := 1) [0] (C := [inV x4 1 (12 - x2) ≠ 0]) (pc' := 54) (ls' := [some (.inr (.inr (10, 0))), some (.inl x1), some (.inl x2), some (.inl x3), some (.inl x4), some (.inl x5)]) (st' := []) (M' := M1) rfl c_4 ?_
          refine Wp.path (k := 5) [] (C := [inR (12 - x3)]) (pc' := 61) (ls' := [some (.inr (.inr (10, 0))), some (.inl x1), some (.inl x2), some (.inl x3), some (.inl x4), some (.inl x5)]) (st' := [.inl (12 - x3), .inl 1, .inl x5]) (M' := M1) rfl h.1 ?_
          replace h := h.2
          refine Wp.call (e1002) rfl rfl (by decide) ?_
          rintro v_ M_ ⟨eM_, ev_⟩
          rw [eM_, ev_]
          clear eM_ ev_ v_ M_
          show Wp 3 1010 64 [some (.inr (.inr (10, 0))), some (.inl x1), some (.inl x2), some (.inl x3), some (.inl x4), some (.inl x5)] [.inl (inV x5 1 (12 - x3))] M1 (rI Q)
          rcases Decidable.em (inV x5 1 (12 - x3) = 0) with c_5 | c_5
          · replace h := h.2 c_5
            refine Wp.path (k := 1) [0] (C := [inV x5 1 (12 - x3) = 0]) (pc' := 67) (ls' := [some (.inr (.inr (10, 0))), some (.inl x1), some (.inl x2), some (.inl x3), some (.inl x4), some (.inl x5)]) (st' := []) (M' := M1) rfl c_5 ?_
            refine Wp.path (k := 3) [] (C := []) (pc' := 72) (ls' := [some (.inr (.inr (10, 0))), some (.inl x1), some (.inl x2), some (.inl x3), some (.inl x4), some (.inl x5)]) (st' := []) (M' := setI M1 10 0 0 2) rfl trivial ?_
            refine Bd (P := fun M1_5 : Mm => Wp 3 1010 72 [some (.inr (.inr (10, 0))), some (.inl x1), some (.inl x2), some (.inl x3), some (.inl x4), some (.inl x5)] [] M1_5 (rI Q)) ?_
            intro M1_5 e_M1_5
            replace h := h M1_5 e_M1_5
            refine Wp.path (k := 1) [] (C := []) (pc' := 73) (ls' := [some (.inr (.inr (10, 0))), some (.inl x1), some (.inl x2), some (.inl x3), some (.inl x4), some (.inl x5)]) (st' := [.inl 0]) (M' := M1_5) rfl trivial ?_
            exact Wp.ret rfl ⟨_, rfl, h⟩
          · replace h := h.1 c_5
            refine Wp.path (k := 1) [1] (C := [inV x5 1 (12 - x3) ≠ 0]) (pc' := 74) (ls' := [some (.inr (.inr (10, 0))), some (.inl x1), some (.inl x2), some (.inl x3), some (.inl x4), some (.inl x5)]) (st' := []) (M' := M1) rfl c_5 ?_
            refine Wp.path (k := 6) [] (C := []) (pc' := 84) (ls' := [some (.inr (.inr (10, 0))), some (.inl x1), some (.inl x2), some (.inl x3), some (.inl x4), some (.inl x5)]) (st' := [.inl 0, .inr (.inr (1105, 0)), .inl 0, .inr (.inr (1101, 0))]) (M' := M1) rfl trivial ?_
            refine Wp.call h rfl rfl (by decide) ?_
            rintro _ M1_6 ⟨rfl, h⟩
            show Wp 3 1010 87 [some (.inr (.inr (10, 0))), some (.inl x1), some (.inl x2), some (.inl x3), some (.inl x4), some (.inl x5)] [] M1_6 (rI Q)
            refine Wp.path (k := 6) [] (C := []) (pc' := 95) (ls' := [some (.inr (.inr (10, 0))), some (.inl x1), some (.inl x2), some (.inl x3), some (.inl x4), some (.inl x5)]) (st' := [.inl x5, .inl x4, .inl x3, .inl x2, .inl x1, .inr (.inr (10, 0))]) (M' := M1_6) rfl trivial ?_
            refine Wp.call h rfl rfl (by decide) ?_
            rintro _ M1_7 ⟨rfl, h⟩
            show Wp 3 1010 98 [some (.inr (.inr (10, 0))), some (.inl x1), some (.inl x2), some (.inl x3), some (.inl x4), some (.inl x5)] [] M1_7 (rI Q)
            refine Wp.path (k := 1) [] (C := []) (pc' := 99) (ls' := [some (.inr (.inr (10, 0))), some (.inl x1), some (.inl x2), some (.inl x3), some (.inl x4), some (.inl x5)]) (st' := [.inr (.inr (10, 0))]) (M' := M1_7) rfl trivial ?_
            refine Wp.call h rfl rfl (by decide) ?_
            rintro _ M1_8 ⟨rfl, h⟩
            show Wp 3 1010 102 [some (.inr (.inr (10, 0))), some (.inl x1), some (.inl x2), some (.inl x3), some (.inl x4), some (.inl x5)] [] M1_8 (rI Q)
            refine Wp.path (k := 1) [] (C := []) (pc' := 103) (ls' := [some (.inr (.inr (10, 0))), some (.inl x1), some (.inl x2), some (.inl x3), some (.inl x4), some (.inl x5)]) (st' := [.inr (.inr (10, 0))]) (M' := M1_8) rfl trivial ?_
            refine Wp.call h rfl rfl (by decide) ?_
            rintro _ M1_9 ⟨r, rfl, h⟩
            show Wp 3 1010 106 [some (.inr (.inr (10, 0))), some (.inl x1), some (.inl x2), some (.inl x3), some (.inl x4), some (.inl x5)] [.inl r] M1_9 (rI Q)
            exact Wp.ret rfl ⟨_, rfl, h⟩
/-- X10_clear -/
def E_1011 (M : Mm) (Q : Int → Mm → Prop) : Prop := Ev 3 1011 [.inr (.inr (10, 0))] M (rI Q)
theorem m_1011 {M : Mm} {Q Q1 : Int → Mm → Prop} (h : E_1011 M Q) (k : (∀ r M1, Q r M1 → Q1 r M1)) : E_1011 M Q1 := Ev.mono h (fun v M1 ⟨r, h1, h2⟩ => ⟨r, h1, k _ _ h2⟩)
def L_1011_12 (x1 : Int) (x2 : Int) (M : Mm) (Q : Int → Mm → Prop) : Prop := Wp 3 1011 12 [some (.inr (.inr (10, 0))), some (.inl x1), some (.inl x2)] [] M (rI Q)
theorem s_1011_0 {M : Mm} {Q : Int → Mm → Prop} (h : (∀ M1 : Mm, M1 = setI M 10 0 0 0 → (E_1005 M1 (fun (r : Int) (M1_1 : Mm) => (L_1011_12 r 0 M1_1 Q))))) : E_1011 M Q := by
  show Wp 3 1011 0 [some (.inr (.inr (10, 0))), none, none] [] M (rI Q)
  refine Wp.path (k := 3) [] (C := []) (pc' := 5) (ls' := [some (.inr (.inr (10, 0))), none, none]) (st' := []) (M' := setI M 10 0 0 0) rfl trivial ?_
  refine Bd (P := fun M1 : Mm => Wp 3 1011 5 [some (.inr (.inr (10, 0))), none, none] [] M1 (rI Q)) ?_
  intro M1 e_M1
  replace h := h M1 e_M1
  refine Wp.path (k := 1) [] (C := []) (pc' := 6) (ls' := [some (.inr (.inr (10, 0))), none, none]) (st' := [.inr (.inr (10, 0))]) (M' := M1) rfl trivial ?_
  refine Wp.call h rfl rfl (by decide) ?_
  rintro _ M1_1 ⟨r, rfl, h⟩
  show Wp 3 1011 9 [some (.inr (.inr (10, 0))), none, none] [.inl r] M1_1 (rI Q)
  refine Wp.path (k := 3) [] (C := []) (pc' := 12) (ls' := [some (.inr (.inr (10, 0))), some (.inl r), some (.inl 0)]) (st' := []) (M' := M1_1) rfl trivial ?_
  exact h
theorem s_1011_12 {x1 : Int} {x2 : Int} {M : Mm} {Q : Int → Mm → Prop} (h : ((12 ≤ x2 → (E_1008 M (fun M1_1 : Mm => (Q x1 M1_1)))) ∧ (x2 < 12 → (((0 ≤ x2 ∧ x2 < 12)) ∧ (∀ M1 : Mm, M1 = setI M 1105 0 x2.toNat 0 → (((-2147483648 ≤ x2 + 1 ∧ x2 + 1 ≤ 2147483647)) ∧ (L_1011_12 x1 (x2 + 1) M1 Q))))))) : L_1011_12 x1 x2 M Q := by
  show Wp 3 1011 12 [some (.inr (.inr (10, 0))), some (.inl x1), some (.inl x2)] [] M (rI Q)
  refine Wp.path (k := 2) [] (C := []) (pc' := 15) (ls' := [some (.inr (.inr (10, 0))), some (.inl x1), some (.inl x2)]) (st' := [.inl 12, .inl x2]) (M' := M) rfl trivial ?_
  rcases Int.lt_or_le (x2) (12) with c_1 | c_1
  · replace h := h.2 c_1
    refine Wp.path (k := 1) [0] (C := [x2 < 12]) (pc' := 18) (ls' := [some (.inr (.inr (10, 0))), some (.inl x1), some (.inl x2)]) (st' := []) (M' := M) rfl c_1 ?_
    refine Wp.path (k := 5) [] (C := [0 ≤ x2 ∧ x2 < 12]) (pc' := 25) (ls' := [some (.inr (.inr (10, 0))), some (.inl x1), some (.inl x2)]) (st' := []) (M' := setI M 1105 0 x2.toNat 0) rfl h.1 ?_
    replace h := h.2
    refine Bd (P := fun M1 : Mm => Wp 3 1011 25 [some (.inr (.inr (10, 0))), some (.inl x1), some (.inl x2)] [] M1 (rI Q)) ?_
    intro M1 e_M1
    replace h := h M1 e_M1
    refine Wp.path (k := 2) [] (C := [inR (x2 + 1)]) (pc' := 12) (ls' := [some (.inr (.inr (10, 0))), some (.inl x1), some (.inl (x2 + 1))]) (st' := []) (M' := M1) rfl h.1 ?_
    replace h := h.2
    exact h
  · replace h := h.1 c_1
    refine Wp.path (k := 1) [1] (C := [12 ≤ x2]) (pc' := 31) (ls' := [some (.inr (.inr (10, 0))), some (.inl x1), some (.inl x2)]) (st' := []) (M' := M) rfl c_1 ?_
    refine Wp.path (k := 1) [] (C := []) (pc' := 32) (ls' := [some (.inr (.inr (10, 0))), some (.inl x1), some (.inl x2)]) (st' := [.inr (.inr (10, 0))]) (M' := M) rfl trivial ?_
    refine Wp.call h rfl rfl (by decide) ?_
    rintro _ M1_1 ⟨rfl, h⟩
    show Wp 3 1011 35 [some (.inr (.inr (10, 0))), some (.inl x1), some (.inl x2)] [] M1_1 (rI Q)
    refine Wp.path (k := 1) [] (C := []) (pc' := 36) (ls' := [some (.inr (.inr (10, 0))), some (.inl x1), some (.inl x2)]) (st' := [.inl x1]) (M' := M1_1) rfl trivial ?_
    exact Wp.ret rfl ⟨_, rfl, h⟩
/-- X10_copies -/
def E_1006_1102_1101 (x1 : Int) (x3 : Int) (M : Mm) (Q : Mm → Prop) : Prop := Ev 0 1006 [.inr (.inr (1102, 0)), .inl x1, .inr (.inr (1101, 0)), .inl x3] M (rV Q)
theorem m_1006_1102_1101 {x1 : Int} {x3 : Int} {M : Mm} {Q Q1 : Mm → Prop} (h : E_1006_1102_1101 x1 x3 M Q) (k : (∀ M1, Q M1 → Q1 M1)) : E_1006_1102_1101 x1 x3 M Q1 := Ev.mono h (fun v M1 h => ⟨h.1, k _ h.2⟩)
def L_1006_1102_1101_3 (x1 : Int) (x3 : Int) (x4 : Int) (M : Mm) (Q : Mm → Prop) : Prop := Wp 0 1006 3 [some (.inr (.inr (1102, 0))), some (.inl x1), some (.inr (.inr (1101, 0))), some (.inl x3), some (.inl x4)] [] M (rV Q)
theorem s_1006_1102_1101_0 {x1 : Int} {x3 : Int} {M : Mm} {Q : Mm → Prop} (h : (L_1006_1102_1101_3 x1 x3 0 M Q)) : E_1006_1102_1101 x1 x3 M Q := by
  show Wp 0 1006 0 [some (.inr (.inr (1102, 0))), some (.inl x1), some (.inr (.inr (1101, 0))), some (.inl x3), none] [] M (rV Q)
  refine Wp.path (k := 2) [] (C := []) (pc' := 3) (ls' := [some (.inr (.inr (1102, 0))), some (.inl x1), some (.inr (.inr (1101, 0))), some (.inl x3), some (.inl 0)]) (st' := []) (M' := M) rfl trivial ?_
  exact h
theorem s_1006_1102_1101_3 {x1 : Int} {x3 : Int} {x4 : Int} {M : Mm} {Q : Mm → Prop} (h : ((12 ≤ x4 → (Q M)) ∧ (x4 < 12 → (((-2147483648 ≤ x3 + x4 ∧ x3 + x4 ≤ 2147483647) ∧ (-2147483648 ≤ x1 + x4 ∧ x1 + x4 ≤ 2147483647) ∧ (0 ≤ x1 + x4 ∧ x1 + x4 < 96) ∧ (0 ≤ x3 + x4 ∧ x3 + x4 < 12)) ∧ (∀ M1 : Mm, M1 = setI M 1101 0 ((x3 + x4).toNat) (M.1 1102 0 ((x1 + x4).toNat)) → (((-2147483648 ≤ x4 + 1 ∧ x4 + 1 ≤ 2147483647)) ∧ (L_1006_1102_1101_3 x1 x3 (x4 + 1) M1 Q))))))) : L_1006_1102_1101_3 x1 x3 x4 M Q := by
  show Wp 0 1006 3 [some (.inr (.inr (1102, 0))), some (.inl x1), some (.inr (.inr (1101, 0))), some (.inl x3), some (.inl x4)] [] M (rV Q)
  refine Wp.path (k := 2) [] (C := []) (pc' := 7) (ls' := [some (.inr (.inr (1102, 0))), some (.inl x1), some (.inr (.inr (1101, 0))), some (.inl x3), some (.inl x4)]) (st' := [.inl 12, .inl x4]) (M' := M) rfl trivial ?_
  rcases Int.lt_or_le (x4) (12) with c_1 | c_1
  · replace h := h.2 c_1
    refine Wp.path (k := 1) [0] (C := [x4 < 12]) (pc' := 10) (ls' := [some (.inr (.inr (1102, 0))), some (.inl x1), some (.inr (.inr (1101, 0))), some (.inl x3), some (.inl x4)]) (st' := []) (M' := M) rfl c_1 ?_
    refine Wp.path (k := 10) [] (C := [inR (x3 + x4), inR (x1 + x4), 0 ≤ x1 + x4 ∧ x1 + x4 < 96, 0 ≤ x3 + x4 ∧ x3 + x4 < 12]) (pc' := 22) (ls' := [some (.inr (.inr (1102, 0))), some (.inl x1), some (.inr (.inr (1101, 0))), some (.inl x3), some (.inl x4)]) (st' := []) (M' := setI M 1101 0 ((x3 + x4).toNat) (M.1 1102 0 ((x1 + x4).toNat))) rfl ⟨h.1.1, h.1.2.1, h.1.2.2.1, h.1.2.2.2⟩ ?_
    replace h := h.2
    refine Bd (P := fun M1 : Mm => Wp 0 1006 22 [some (.inr (.inr (1102, 0))), some (.inl x1), some (.inr (.inr (1101, 0))), some (.inl x3), some (.inl x4)] [] M1 (rV Q)) ?_
    intro M1 e_M1
    replace h := h M1 e_M1
    refine Wp.path (k := 2) [] (C := [inR (x4 + 1)]) (pc' := 3) (ls' := [some (.inr (.inr (1102, 0))), some (.inl x1), some (.inr (.inr (1101, 0))), some (.inl x3), some (.inl (x4 + 1))]) (st' := []) (M' := M1) rfl h.1 ?_
    replace h := h.2
    exact h
  · replace h := h.1 c_1
    refine Wp.path (k := 1) [1] (C := [12 ≤ x4]) (pc' := 28) (ls' := [some (.inr (.inr (1102, 0))), some (.inl x1), some (.inr (.inr (1101, 0))), some (.inl x3), some (.inl x4)]) (st' := []) (M' := M) rfl c_1 ?_
    exact Wp.ret rfl ⟨rfl, h⟩
/-- X10_copies -/
def E_1006_1101_1103 (x1 : Int) (x3 : Int) (M : Mm) (Q : Mm → Prop) : Prop := Ev 0 1006 [.inr (.inr (1101, 0)), .inl x1, .inr (.inr (1103, 0)), .inl x3] M (rV Q)
theorem m_1006_1101_1103 {x1 : Int} {x3 : Int} {M : Mm} {Q Q1 : Mm → Prop} (h : E_1006_1101_1103 x1 x3 M Q) (k : (∀ M1, Q M1 → Q1 M1)) : E_1006_1101_1103 x1 x3 M Q1 := Ev.mono h (fun v M1 h => ⟨h.1, k _ h.2⟩)
def L_1006_1101_1103_3 (x1 : Int) (x3 : Int) (x4 : Int) (M : Mm) (Q : Mm → Prop) : Prop := Wp 0 1006 3 [some (.inr (.inr (1101, 0))), some (.inl x1), some (.inr (.inr (1103, 0))), some (.inl x3), some (.inl x4)] [] M (rV Q)
theorem s_1006_1101_1103_0 {x1 : Int} {x3 : Int} {M : Mm} {Q : Mm → Prop} (h : (L_1006_1101_1103_3 x1 x3 0 M Q)) : E_1006_1101_1103 x1 x3 M Q := by
  show Wp 0 1006 0 [some (.inr (.inr (1101, 0))), some (.inl x1), some (.inr (.inr (1103, 0))), some (.inl x3), none] [] M (rV Q)
  refine Wp.path (k := 2) [] (C := []) (pc' := 3) (ls' := [some (.inr (.inr (1101, 0))), some (.inl x1), some (.inr (.inr (1103, 0))), some (.inl x3), some (.inl 0)]) (st' := []) (M' := M) rfl trivial ?_
  exact h
theorem s_1006_1101_1103_3 {x1 : Int} {x3 : Int} {x4 : Int} {M : Mm} {Q : Mm → Prop} (h : ((12 ≤ x4 → (Q M)) ∧ (x4 < 12 → (((-2147483648 ≤ x3 + x4 ∧ x3 + x4 ≤ 2147483647) ∧ (-2147483648 ≤ x1 + x4 ∧ x1 + x4 ≤ 2147483647) ∧ (0 ≤ x1 + x4 ∧ x1 + x4 < 12) ∧ (0 ≤ x3 + x4 ∧ x3 + x4 < 96)) ∧ (∀ M1 : Mm, M1 = setI M 1103 0 ((x3 + x4).toNat) (M.1 1101 0 ((x1 + x4).toNat)) → (((-2147483648 ≤ x4 + 1 ∧ x4 + 1 ≤ 2147483647)) ∧ (L_1006_1101_1103_3 x1 x3 (x4 + 1) M1 Q))))))) : L_1006_1101_1103_3 x1 x3 x4 M Q := by
  show Wp 0 1006 3 [some (.inr (.inr (1101, 0))), some (.inl x1), some (.inr (.inr (1103, 0))), some (.inl x3), some (.inl x4)] [] M (rV Q)
  refine Wp.path (k := 2) [] (C := []) (pc' := 7) (ls' := [some (.inr (.inr (1101, 0))), some (.inl x1), some (.inr (.inr (1103, 0))), some (.inl x3), some (.inl x4)]) (st' := [.inl 12, .inl x4]) (M' := M) rfl trivial ?_
  rcases Int.lt_or_le (x4) (12) with c_1 | c_1
  · replace h := h.2 c_1
    refine Wp.path (k := 1) [0] (C := [x4 < 12]) (pc' := 10) (ls' := [some (.inr (.inr (1101, 0))), some (.inl x1), some (.inr (.inr (1103, 0))), some (.inl x3), some (.inl x4)]) (st' := []) (M' := M) rfl c_1 ?_
    refine Wp.path (k := 10) [] (C := [inR (x3 + x4), inR (x1 + x4), 0 ≤ x1 + x4 ∧ x1 + x4 < 12, 0 ≤ x3 + x4 ∧ x3 + x4 < 96]) (pc' := 22) (ls' := [some (.inr (.inr (1101, 0))), some (.inl x1), some (.inr (.inr (1103, 0))), some (.inl x3), some (.inl x4)]) (st' := []) (M' := setI M 1103 0 ((x3 + x4).toNat) (M.1 1101 0 ((x1 + x4).toNat))) rfl ⟨h.1.1, h.1.2.1, h.1.2.2.1, h.1.2.2.2⟩ ?_
    replace h := h.2
    refine Bd (P := fun M1 : Mm => Wp 0 1006 22 [some (.inr (.inr (1101, 0))), some (.inl x1), some (.inr (.inr (1103, 0))), some (.inl x3), some (.inl x4)] [] M1 (rV Q)) ?_
    intro M1 e_M1
    replace h := h M1 e_M1
    refine Wp.path (k := 2) [] (C := [inR (x4 + 1)]) (pc' := 3) (ls' := [some (.inr (.inr (1101, 0))), some (.inl x1), some (.inr (.inr (1103, 0))), some (.inl x3), some (.inl (x4 + 1))]) (st' := []) (M' := M1) rfl h.1 ?_
    replace h := h.2
    exact h
  · replace h := h.1 c_1
    refine Wp.path (k := 1) [1] (C := [12 ≤ x4]) (pc' := 28) (ls' := [some (.inr (.inr (1101, 0))), some (.inl x1), some (.inr (.inr (1103, 0))), some (.inl x3), some (.inl x4)]) (st' := []) (M' := M) rfl c_1 ?_
    exact Wp.ret rfl ⟨rfl, h⟩
/-- X10_pushes -/
def E_1007_1103 (x2 : Int) (M : Mm) (Q : Mm → Prop) : Prop := Ev 1 1007 [.inr (.inr (10, 0)), .inr (.inr (1103, 0)), .inl x2] M (rV Q)
theorem m_1007_1103 {x2 : Int} {M : Mm} {Q Q1 : Mm → Prop} (h : E_1007_1103 x2 M Q) (k : (∀ M1, Q M1 → Q1 M1)) : E_1007_1103 x2 M Q1 := Ev.mono h (fun v M1 h => ⟨h.1, k _ h.2⟩)
def L_1007_1103_8 (x2 : Int) (x3 : Int) (M : Mm) (Q : Mm → Prop) : Prop := Wp 1 1007 8 [some (.inr (.inr (10, 0))), some (.inr (.inr (1103, 0))), some (.inl x2), some (.inl x3)] [] M (rV Q)
theorem s_1007_1103_0 {x2 : Int} {M : Mm} {Q : Mm → Prop} (h : ((x2 ≠ 8 → (((-2147483648 ≤ 12 * x2 ∧ 12 * x2 ≤ 2147483647)) ∧ (E_1006_1101_1103 0 (12 * x2) M (fun M1 : Mm => (Q M1))))) ∧ (x2 = 8 → (L_1007_1103_8 x2 0 M Q)))) : E_1007_1103 x2 M Q := by
  show Wp 1 1007 0 [some (.inr (.inr (10, 0))), some (.inr (.inr (1103, 0))), some (.inl x2), none] [] M (rV Q)
  refine Wp.path (k := 2) [] (C := []) (pc' := 3) (ls' := [some (.inr (.inr (10, 0))), some (.inr (.inr (1103, 0))), some (.inl x2), none]) (st' := [.inl 8, .inl x2]) (M' := M) rfl trivial ?_
  rcases Decidable.em (x2 = 8) with c_1 | c_1
  · replace h := h.2 c_1
    refine Wp.path (k := 1) [0] (C := [x2 = 8]) (pc' := 6) (ls' := [some (.inr (.inr (10, 0))), some (.inr (.inr (1103, 0))), some (.inl x2), none]) (st' := []) (M' := M) rfl c_1 ?_
    refine Wp.path (k := 2) [] (C := []) (pc' := 8) (ls' := [some (.inr (.inr (10, 0))), some (.inr (.inr (1103, 0))), some (.inl x2), some (.inl 0)]) (st' := []) (M' := M) rfl trivial ?_
    exact h
  · replace h := h.1 c_1
    refine Wp.path (k := 1) [1] (C := [x2 ≠ 8]) (pc' := 43) (ls' := [some (.inr (.inr (10, 0))), some (.inr (.inr (1103, 0))), some (.inl x2), none]) (st' := []) (M' := M) rfl c_1 ?_
    refine Wp.path (k := 7) [] (C := [inR (12 * x2)]) (pc' := 53) (ls' := [some (.inr (.inr (10, 0))), some (.inr (.inr (1103, 0))), some (.inl x2), none]) (st' := [.inl (12 * x2), .inr (.inr (1103, 0)), .inl 0, .inr (.inr (1101, 0))]) (M' := M) rfl h.1 ?_
    replace h := h.2
    refine Wp.call h rfl rfl (by decide) ?_
    rintro _ M1 ⟨rfl, h⟩
    show Wp 1 1007 56 [some (.inr (.inr (10, 0))), some (.inr (.inr (1103, 0))), some (.inl x2), none] [] M1 (rV Q)
    exact Wp.ret rfl ⟨rfl, h⟩
theorem s_1007_1103_8 {x2 : Int} {x3 : Int} {M : Mm} {Q : Mm → Prop} (h : ((84 ≤ x3 → (E_1006_1101_1103 0 84 M (fun M1_1 : Mm => (Q M1_1)))) ∧ (x3 < 84 → (((-2147483648 ≤ x3 + 12 ∧ x3 + 12 ≤ 2147483647) ∧ (0 ≤ x3 + 12 ∧ x3 + 12 < 96) ∧ (0 ≤ x3 ∧ x3 < 96)) ∧ (∀ M1 : Mm, M1 = setI M 1103 0 x3.toNat (M.1 1103 0 ((x3 + 12).toNat)) → (((-2147483648 ≤ x3 + 1 ∧ x3 + 1 ≤ 2147483647)) ∧ (L_1007_1103_8 x2 (x3 + 1) M1 Q))))))) : L_1007_1103_8 x2 x3 M Q := by
  show Wp 1 1007 8 [some (.inr (.inr (10, 0))), some (.inr (.inr (1103, 0))), some (.inl x2), some (.inl x3)] [] M (rV Q)
  refine Wp.path (k := 2) [] (C := []) (pc' := 11) (ls' := [some (.inr (.inr (10, 0))), some (.inr (.inr (1103, 0))), some (.inl x2), some (.inl x3)]) (st' := [.inl 84, .inl x3]) (M' := M) rfl trivial ?_
  rcases Int.lt_or_le (x3) (84) with c_1 | c_1
  · replace h := h.2 c_1
    refine Wp.path (k := 1) [0] (C := [x3 < 84]) (pc' := 14) (ls' := [some (.inr (.inr (10, 0))), some (.inr (.inr (1103, 0))), some (.inl x2), some (.inl x3)]) (st' := []) (M' := M) rfl c_1 ?_
    refine Wp.path (k := 8) [] (C := [inR (x3 + 12), 0 ≤ x3 + 12 ∧ x3 + 12 < 96, 0 ≤ x3 ∧ x3 < 96]) (pc' := 23) (ls' := [some (.inr (.inr (10, 0))), some (.inr (.inr (1103, 0))), some (.inl x2), some (.inl x3)]) (st' := []) (M' := setI M 1103 0 x3.toNat (M.1 1103 0 ((x3 + 12).toNat))) rfl ⟨h.1.1, h.1.2.1, h.1.2.2⟩ ?_
    replace h := h.2
    refine Bd (P := fun M1 : Mm => Wp 1 1007 23 [some (.inr (.inr (10, 0))), some (.inr (.inr (1103, 0))), some (.inl x2), some (.inl x3)] [] M1 (rV Q)) ?_
    intro M1 e_M1
    replace h := h M1 e_M1
    refine Wp.path (k := 2) [] (C := [inR (x3 + 1)]) (pc' := 8) (ls' := [some (.inr (.inr (10, 0))), some (.inr (.inr (1103, 0))), some (.inl x2), some (.inl (x3 + 1))]) (st' := []) (M' := M1) rfl h.1 ?_
    replace h := h.2
    exact h
  · replace h := h.1 c_1
    refine Wp.path (k := 1) [1] (C := [84 ≤ x3]) (pc' := 29) (ls' := [some (.inr (.inr (10, 0))), some (.inr (.inr (1103, 0))), some (.inl x2), some (.inl x3)]) (st' := []) (M' := M) rfl c_1 ?_
    refine Wp.path (k := 5) [] (C := []) (pc' := 37) (ls' := [some (.inr (.inr (10, 0))), some (.inr (.inr (1103, 0))), some (.inl x2), some (.inl x3)]) (st' := [.inl 84, .inr (.inr (1103, 0)), .inl 0, .inr (.inr (1101, 0))]) (M' := M) rfl trivial ?_
    refine Wp.call h rfl rfl (by decide) ?_
    rintro _ M1_1 ⟨rfl, h⟩
    show Wp 1 1007 40 [some (.inr (.inr (10, 0))), some (.inr (.inr (1103, 0))), some (.inl x2), some (.inl x3)] [] M1_1 (rV Q)
    refine Wp.path (k := 1) [] (C := []) (pc' := 56) (ls' := [some (.inr (.inr (10, 0))), some (.inr (.inr (1103, 0))), some (.inl x2), some (.inl x3)]) (st' := []) (M' := M1_1) rfl trivial ?_
    exact Wp.ret rfl ⟨rfl, h⟩
/-- X10_undo -/
def E_1012 (M : Mm) (Q : Int → Mm → Prop) : Prop := Ev 2 1012 [.inr (.inr (10, 0))] M (rI Q)
theorem m_1012 {M : Mm} {Q Q1 : Int → Mm → Prop} (h : E_1012 M Q) (k : (∀ r M1, Q r M1 → Q1 r M1)) : E_1012 M Q1 := Ev.mono h (fun v M1 ⟨r, h1, h2⟩ => ⟨r, h1, k _ _ h2⟩)
theorem s_1012_0 {M : Mm} {Q : Int → Mm → Prop} (h : (∀ M1 : Mm, M1 = setI M 10 0 0 0 → ((M1.1 10 0 6 ≠ 0 → (E_1007_1103 (M1.1 10 0 7) M1 (fun M1_2 : Mm => ((-2147483648 ≤ (M1_2.1 10 0 7) + 1 ∧ (M1_2.1 10 0 7) + 1 ≤ 2147483647)) ∧ (∀ M1_3 : Mm, M1_3 = setI M1_2 10 0 7 ((M1_2.1 10 0 7) + 1) → (((-2147483648 ≤ (M1_3.1 10 0 6) - 1 ∧ (M1_3.1 10 0 6) - 1 ≤ 2147483647)) ∧ (∀ M1_4 : Mm, M1_4 = setI M1_3 10 0 6 ((M1_3.1 10 0 6) - 1) → (((-2147483648 ≤ 12 * (M1_4.1 10 0 6) ∧ 12 * (M1_4.1 10 0 6) ≤ 2147483647)) ∧ (E_1006_1102_1101 (12 * (M1_4.1 10 0 6)) 0 M1_4 (fun M1_5 : Mm => (∀ M1_6 : Mm, M1_6 = setI M1_5 10 0 9 0 → (Q (M1_6.1 10 0 6) M1_6))))))))))) ∧ (M1.1 10 0 6 = 0 → (∀ M1_1 : Mm, M1_1 = setI M1 10 0 0 1 → (Q 0 M1_1)))))) : E_1012 M Q := by
  show Wp 2 1012 0 [some (.inr (.inr (10, 0)))] [] M (rI Q)
  refine Wp.path (k := 3) [] (C := []) (pc' := 5) (ls' := [some (.inr (.inr (10, 0)))]) (st' := []) (M' := setI M 10 0 0 0) rfl trivial ?_
  refine Bd (P := fun M1 : Mm => Wp 2 1012 5 [some (.inr (.inr (10, 0)))] [] M1 (rI Q)) ?_
  intro M1 e_M1
  replace h := h M1 e_M1
  refine Wp.path (k := 2) [] (C := []) (pc' := 9) (ls' := [some (.inr (.inr (10, 0)))]) (st' := [.inl (M1.1 10 0 6)]) (M' := M1) rfl trivial ?_
  rcases Decidable.em (M1.1 10 0 6 = 0) with c_1 | c_1
  · replace h := h.2 c_1
    refine Wp.path (k := 1) [0] (C := [M1.1 10 0 6 = 0]) (pc' := 12) (ls' := [some (.inr (.inr (10, 0)))]) (st' := []) (M' := M1) rfl c_1 ?_
    refine Wp.path (k := 3) [] (C := []) (pc' := 17) (ls' := [some (.inr (.inr (10, 0)))]) (st' := []) (M' := setI M1 10 0 0 1) rfl trivial ?_
    refine Bd (P := fun M1_1 : Mm => Wp 2 1012 17 [some (.inr (.inr (10, 0)))] [] M1_1 (rI Q)) ?_
    intro M1_1 e_M1_1
    replace h := h M1_1 e_M1_1
    refine Wp.path (k := 1) [] (C := []) (pc' := 18) (ls' := [some (.inr (.inr (10, 0)))]) (st' := [.inl 0]) (M' := M1_1) rfl trivial ?_
    exact Wp.ret rfl ⟨_, rfl, h⟩
  · replace h := h.1 c_1
    refine Wp.path (k := 1) [1] (C := [M1.1 10 0 6 ≠ 0]) (pc' := 19) (ls' := [some (.inr (.inr (10, 0)))]) (st' := []) (M' := M1) rfl c_1 ?_
    refine Wp.path (k := 5) [] (C := []) (pc' := 28) (ls' := [some (.inr (.inr (10, 0)))]) (st' := [.inl (M1.1 10 0 7), .inr (.inr (1103, 0)), .inr (.inr (10, 0))]) (M' := M1) rfl trivial ?_
    refine Wp.call h rfl rfl (by decide) ?_
    rintro _ M1_2 ⟨rfl, h⟩
    show Wp 2 1012 31 [some (.inr (.inr (10, 0)))] [] M1_2 (rI Q)
    refine Wp.path (k := 6) [] (C := [inR ((M1_2.1 10 0 7) + 1)]) (pc' := 41) (ls' := [some (.inr (.inr (10, 0)))]) (st' := []) (M' := setI M1_2 10 0 7 ((M1_2.1 10 0 7) + 1)) rfl h.1 ?_
    replace h := h.2
    refine Bd (P := fun M1_3 : Mm => Wp 2 1012 41 [some (.inr (.inr (10, 0)))] [] M1_3 (rI Q)) ?_
    intro M1_3 e_M1_3
    replace h := h M1_3 e_M1_3
    refine Wp.path (k := 6) [] (C := [inR ((M1_3.1 10 0 6) - 1)]) (pc' := 51) (ls' := [some (.inr (.inr (10, 0)))]) (st' := []) (M' := setI M1_3 10 0 6 ((M1_3.1 10 0 6) - 1)) rfl h.1 ?_
    replace h := h.2
    refine Bd (P := fun M1_4 : Mm => Wp 2 1012 51 [some (.inr (.inr (10, 0)))] [] M1_4 (rI Q)) ?_
    intro M1_4 e_M1_4
    replace h := h M1_4 e_M1_4
    refine Wp.path (k := 9) [] (C := [inR (12 * (M1_4.1 10 0 6))]) (pc' := 67) (ls' := [some (.inr (.inr (10, 0)))]) (st' := [.inl 0, .inr (.inr (1101, 0)), .inl (12 * (M1_4.1 10 0 6)), .inr (.inr (1102, 0))]) (M' := M1_4) rfl h.1 ?_
    replace h := h.2
    refine Wp.call h rfl rfl (by decide) ?_
    rintro _ M1_5 ⟨rfl, h⟩
    show Wp 2 1012 70 [some (.inr (.inr (10, 0)))] [] M1_5 (rI Q)
    refine Wp.path (k := 3) [] (C := [(0 : Int) = 0 ∨ (0 : Int) = 1]) (pc' := 75) (ls' := [some (.inr (.inr (10, 0)))]) (st' := []) (M' := setI M1_5 10 0 9 0) rfl (Or.inl rfl) ?_
    refine Bd (P := fun M1_6 : Mm => Wp 2 1012 75 [some (.inr (.inr (10, 0)))] [] M1_6 (rI Q)) ?_
    intro M1_6 e_M1_6
    replace h := h M1_6 e_M1_6
    refine Wp.path (k := 2) [] (C := []) (pc' := 79) (ls' := [some (.inr (.inr (10, 0)))]) (st' := [.inl (M1_6.1 10 0 6)]) (M' := M1_6) rfl trivial ?_
    exact Wp.ret rfl ⟨_, rfl, h⟩
/-- X10_copies -/
def E_1006_1103_1101 (x1 : Int) (x3 : Int) (M : Mm) (Q : Mm → Prop) : Prop := Ev 0 1006 [.inr (.inr (1103, 0)), .inl x1, .inr (.inr (1101, 0)), .inl x3] M (rV Q)
theorem m_1006_1103_1101 {x1 : Int} {x3 : Int} {M : Mm} {Q Q1 : Mm → Prop} (h : E_1006_1103_1101 x1 x3 M Q) (k : (∀ M1, Q M1 → Q1 M1)) : E_1006_1103_1101 x1 x3 M Q1 := Ev.mono h (fun v M1 h => ⟨h.1, k _ h.2⟩)
def L_1006_1103_1101_3 (x1 : Int) (x3 : Int) (x4 : Int) (M : Mm) (Q : Mm → Prop) : Prop := Wp 0 1006 3 [some (.inr (.inr (1103, 0))), some (.inl x1), some (.inr (.inr (1101, 0))), some (.inl x3), some (.inl x4)] [] M (rV Q)
theorem s_1006_1103_1101_0 {x1 : Int} {x3 : Int} {M : Mm} {Q : Mm → Prop} (h : (L_1006_1103_1101_3 x1 x3 0 M Q)) : E_1006_1103_1101 x1 x3 M Q := by
  show Wp 0 1006 0 [some (.inr (.inr (1103, 0))), some (.inl x1), some (.inr (.inr (1101, 0))), some (.inl x3), none] [] M (rV Q)
  refine Wp.path (k := 2) [] (C := []) (pc' := 3) (ls' := [some (.inr (.inr (1103, 0))), some (.inl x1), some (.inr (.inr (1101, 0))), some (.inl x3), some (.inl 0)]) (st' := []) (M' := M) rfl trivial ?_
  exact h
theorem s_1006_1103_1101_3 {x1 : Int} {x3 : Int} {x4 : Int} {M : Mm} {Q : Mm → Prop} (h : ((12 ≤ x4 → (Q M)) ∧ (x4 < 12 → (((-2147483648 ≤ x3 + x4 ∧ x3 + x4 ≤ 2147483647) ∧ (-2147483648 ≤ x1 + x4 ∧ x1 + x4 ≤ 2147483647) ∧ (0 ≤ x1 + x4 ∧ x1 + x4 < 96) ∧ (0 ≤ x3 + x4 ∧ x3 + x4 < 12)) ∧ (∀ M1 : Mm, M1 = setI M 1101 0 ((x3 + x4).toNat) (M.1 1103 0 ((x1 + x4).toNat)) → (((-2147483648 ≤ x4 + 1 ∧ x4 + 1 ≤ 2147483647)) ∧ (L_1006_1103_1101_3 x1 x3 (x4 + 1) M1 Q))))))) : L_1006_1103_1101_3 x1 x3 x4 M Q := by
  show Wp 0 1006 3 [some (.inr (.inr (1103, 0))), some (.inl x1), some (.inr (.inr (1101, 0))), some (.inl x3), some (.inl x4)] [] M (rV Q)
  refine Wp.path (k := 2) [] (C := []) (pc' := 7) (ls' := [some (.inr (.inr (1103, 0))), some (.inl x1), some (.inr (.inr (1101, 0))), some (.inl x3), some (.inl x4)]) (st' := [.inl 12, .inl x4]) (M' := M) rfl trivial ?_
  rcases Int.lt_or_le (x4) (12) with c_1 | c_1
  · replace h := h.2 c_1
    refine Wp.path (k := 1) [0] (C := [x4 < 12]) (pc' := 10) (ls' := [some (.inr (.inr (1103, 0))), some (.inl x1), some (.inr (.inr (1101, 0))), some (.inl x3), some (.inl x4)]) (st' := []) (M' := M) rfl c_1 ?_
    refine Wp.path (k := 10) [] (C := [inR (x3 + x4), inR (x1 + x4), 0 ≤ x1 + x4 ∧ x1 + x4 < 96, 0 ≤ x3 + x4 ∧ x3 + x4 < 12]) (pc' := 22) (ls' := [some (.inr (.inr (1103, 0))), some (.inl x1), some (.inr (.inr (1101, 0))), some (.inl x3), some (.inl x4)]) (st' := []) (M' := setI M 1101 0 ((x3 + x4).toNat) (M.1 1103 0 ((x1 + x4).toNat))) rfl ⟨h.1.1, h.1.2.1, h.1.2.2.1, h.1.2.2.2⟩ ?_
    replace h := h.2
    refine Bd (P := fun M1 : Mm => Wp 0 1006 22 [some (.inr (.inr (1103, 0))), some (.inl x1), some (.inr (.inr (1101, 0))), some (.inl x3), some (.inl x4)] [] M1 (rV Q)) ?_
    intro M1 e_M1
    replace h := h M1 e_M1
    refine Wp.path (k := 2) [] (C := [inR (x4 + 1)]) (pc' := 3) (ls' := [some (.inr (.inr (1103, 0))), some (.inl x1), some (.inr (.inr (1101, 0))), some (.inl x3), some (.inl (x4 + 1))]) (st' := []) (M' := M1) rfl h.1 ?_
    replace h := h.2
    exact h
  · replace h := h.1 c_1
    refine Wp.path (k := 1) [1] (C := [12 ≤ x4]) (pc' := 28) (ls' := [some (.inr (.inr (1103, 0))), some (.inl x1), some (.inr (.inr (1101, 0))), some (.inl x3), some (.inl x4)]) (st' := []) (M' := M) rfl c_1 ?_
    exact Wp.ret rfl ⟨rfl, h⟩
/-- X10_redo -/
def E_1013 (M : Mm) (Q : Int → Mm → Prop) : Prop := Ev 2 1013 [.inr (.inr (10, 0))] M (rI Q)
theorem m_1013 {M : Mm} {Q Q1 : Int → Mm → Prop} (h : E_1013 M Q) (k : (∀ r M1, Q r M1 → Q1 r M1)) : E_1013 M Q1 := Ev.mono h (fun v M1 ⟨r, h1, h2⟩ => ⟨r, h1, k _ _ h2⟩)
theorem s_1013_0 {M : Mm} {Q : Int → Mm → Prop} (h : (∀ M1 : Mm, M1 = setI M 10 0 0 0 → ((M1.1 10 0 7 ≠ 0 → (E_1007_1102 (M1.1 10 0 6) M1 (fun M1_2 : Mm => ((-2147483648 ≤ (M1_2.1 10 0 6) + 1 ∧ (M1_2.1 10 0 6) + 1 ≤ 2147483647)) ∧ (∀ M1_3 : Mm, M1_3 = setI M1_2 10 0 6 ((M1_2.1 10 0 6) + 1) → (((-2147483648 ≤ (M1_3.1 10 0 7) - 1 ∧ (M1_3.1 10 0 7) - 1 ≤ 2147483647)) ∧ (∀ M1_4 : Mm, M1_4 = setI M1_3 10 0 7 ((M1_3.1 10 0 7) - 1) → (((-2147483648 ≤ 12 * (M1_4.1 10 0 7) ∧ 12 * (M1_4.1 10 0 7) ≤ 2147483647)) ∧ (E_1006_1103_1101 (12 * (M1_4.1 10 0 7)) 0 M1_4 (fun M1_5 : Mm => (∀ M1_6 : Mm, M1_6 = setI M1_5 10 0 9 0 → (Q (M1_6.1 10 0 7) M1_6))))))))))) ∧ (M1.1 10 0 7 = 0 → (∀ M1_1 : Mm, M1_1 = setI M1 10 0 0 1 → (Q 0 M1_1)))))) : E_1013 M Q := by
  show Wp 2 1013 0 [some (.inr (.inr (10, 0)))] [] M (rI Q)
  refine Wp.path (k := 3) [] (C := []) (pc' := 5) (ls' := [some (.inr (.inr (10, 0)))]) (st' := []) (M' := setI M 10 0 0 0) rfl trivial ?_
  refine Bd (P := fun M1 : Mm => Wp 2 1013 5 [some (.inr (.inr (10, 0)))] [] M1 (rI Q)) ?_
  intro M1 e_M1
  replace h := h M1 e_M1
  refine Wp.path (k := 2) [] (C := []) (pc' := 9) (ls' := [some (.inr (.inr (10, 0)))]) (st' := [.inl (M1.1 10 0 7)]) (M' := M1) rfl trivial ?_
  rcases Decidable.em (M1.1 10 0 7 = 0) with c_1 | c_1
  · replace h := h.2 c_1
    refine Wp.path (k := 1) [0] (C := [M1.1 10 0 7 = 0]) (pc' := 12) (ls' := [some (.inr (.inr (10, 0)))]) (st' := []) (M' := M1) rfl c_1 ?_
    refine Wp.path (k := 3) [] (C := []) (pc' := 17) (ls' := [some (.inr (.inr (10, 0)))]) (st' := []) (M' := setI M1 10 0 0 1) rfl trivial ?_
    refine Bd (P := fun M1_1 : Mm => Wp 2 1013 17 [some (.inr (.inr (10, 0)))] [] M1_1 (rI Q)) ?_
    intro M1_1 e_M1_1
    replace h := h M1_1 e_M1_1
    refine Wp.path (k := 1) [] (C := []) (pc' := 18) (ls' := [some (.inr (.inr (10, 0)))]) (st' := [.inl 0]) (M' := M1_1) rfl trivial ?_
    exact Wp.ret rfl ⟨_, rfl, h⟩
  · replace h := h.1 c_1
    refine Wp.path (k := 1) [1] (C := [M1.1 10 0 7 ≠ 0]) (pc' := 19) (ls' := [some (.inr (.inr (10, 0)))]) (st' := []) (M' := M1) rfl c_1 ?_
    refine Wp.path (k := 5) [] (C := []) (pc' := 28) (ls' := [some (.inr (.inr (10, 0)))]) (st' := [.inl (M1.1 10 0 6), .inr (.inr (1102, 0)), .inr (.inr (10, 0))]) (M' := M1) rfl trivial ?_
    refine Wp.call h rfl rfl (by decide) ?_
    rintro _ M1_2 ⟨rfl, h⟩
    show Wp 2 1013 31 [some (.inr (.inr (10, 0)))] [] M1_2 (rI Q)
    refine Wp.path (k := 6) [] (C := [inR ((M1_2.1 10 0 6) + 1)]) (pc' := 41) (ls' := [some (.inr (.inr (10, 0)))]) (st' := []) (M' := setI M1_2 10 0 6 ((M1_2.1 10 0 6) + 1)) rfl h.1 ?_
    replace h := h.2
    refine Bd (P := fun M1_3 : Mm => Wp 2 1013 41 [some (.inr (.inr (10, 0)))] [] M1_3 (rI Q)) ?_
    intro M1_3 e_M1_3
    replace h := h M1_3 e_M1_3
    refine Wp.path (k := 6) [] (C := [inR ((M1_3.1 10 0 7) - 1)]) (pc' := 51) (ls' := [some (.inr (.inr (10, 0)))]) (st' := []) (M' := setI M1_3 10 0 7 ((M1_3.1 10 0 7) - 1)) rfl h.1 ?_
    replace h := h.2
    refine Bd (P := fun M1_4 : Mm => Wp 2 1013 51 [some (.inr (.inr (10, 0)))] [] M1_4 (rI Q)) ?_
    intro M1_4 e_M1_4
    replace h := h M1_4 e_M1_4
    refine Wp.path (k := 9) [] (C := [inR (12 * (M1_4.1 10 0 7))]) (pc' := 67) (ls' := [some (.inr (.inr (10, 0)))]) (st' := [.inl 0, .inr (.inr (1101, 0)), .inl (12 * (M1_4.1 10 0 7)), .inr (.inr (1103, 0))]) (M' := M1_4) rfl h.1 ?_
    replace h := h.2
    refine Wp.call h rfl rfl (by decide) ?_
    rintro _ M1_5 ⟨rfl, h⟩
    show Wp 2 1013 70 [some (.inr (.inr (10, 0)))] [] M1_5 (rI Q)
    refine Wp.path (k := 3) [] (C := [(0 : Int) = 0 ∨ (0 : Int) = 1]) (pc' := 75) (ls' := [some (.inr (.inr (10, 0)))]) (st' := []) (M' := setI M1_5 10 0 9 0) rfl (Or.inl rfl) ?_
    refine Bd (P := fun M1_6 : Mm => Wp 2 1013 75 [some (.inr (.inr (10, 0)))] [] M1_6 (rI Q)) ?_
    intro M1_6 e_M1_6
    replace h := h M1_6 e_M1_6
    refine Wp.path (k := 2) [] (C := []) (pc' := 79) (ls' := [some (.inr (.inr (10, 0)))]) (st' := [.inl (M1_6.1 10 0 7)]) (M' := M1_6) rfl trivial ?_
    exact Wp.ret rfl ⟨_, rfl, h⟩
/-- X10_copies -/
def E_1006_1101_1104 (x1 : Int) (x3 : Int) (M : Mm) (Q : Mm → Prop) : Prop := Ev 0 1006 [.inr (.inr (1101, 0)), .inl x1, .inr (.inr (1104, 0)), .inl x3] M (rV Q)
theorem m_1006_1101_1104 {x1 : Int} {x3 : Int} {M : Mm} {Q Q1 : Mm → Prop} (h : E_1006_1101_1104 x1 x3 M Q) (k : (∀ M1, Q M1 → Q1 M1)) : E_1006_1101_1104 x1 x3 M Q1 := Ev.mono h (fun v M1 h => ⟨h.1, k _ h.2⟩)
def L_1006_1101_1104_3 (x1 : Int) (x3 : Int) (x4 : Int) (M : Mm) (Q : Mm → Prop) : Prop := Wp 0 1006 3 [some (.inr (.inr (1101, 0))), some (.inl x1), some (.inr (.inr (1104, 0))), some (.inl x3), some (.inl x4)] [] M (rV Q)
theorem s_1006_1101_1104_0 {x1 : Int} {x3 : Int} {M : Mm} {Q : Mm → Prop} (h : (L_1006_1101_1104_3 x1 x3 0 M Q)) : E_1006_1101_1104 x1 x3 M Q := by
  show Wp 0 1006 0 [some (.inr (.inr (1101, 0))), some (.inl x1), some (.inr (.inr (1104, 0))), some (.inl x3), none] [] M (rV Q)
  refine Wp.path (k := 2) [] (C := []) (pc' := 3) (ls' := [some (.inr (.inr (1101, 0))), some (.inl x1), some (.inr (.inr (1104, 0))), some (.inl x3), some (.inl 0)]) (st' := []) (M' := M) rfl trivial ?_
  exact h
theorem s_1006_1101_1104_3 {x1 : Int} {x3 : Int} {x4 : Int} {M : Mm} {Q : Mm → Prop} (h : ((12 ≤ x4 → (Q M)) ∧ (x4 < 12 → (((-2147483648 ≤ x3 + x4 ∧ x3 + x4 ≤ 2147483647) ∧ (-2147483648 ≤ x1 + x4 ∧ x1 + x4 ≤ 2147483647) ∧ (0 ≤ x1 + x4 ∧ x1 + x4 < 12) ∧ (0 ≤ x3 + x4 ∧ x3 + x4 < 12)) ∧ (∀ M1 : Mm, M1 = setI M 1104 0 ((x3 + x4).toNat) (M.1 1101 0 ((x1 + x4).toNat)) → (((-2147483648 ≤ x4 + 1 ∧ x4 + 1 ≤ 2147483647)) ∧ (L_1006_1101_1104_3 x1 x3 (x4 + 1) M1 Q))))))) : L_1006_1101_1104_3 x1 x3 x4 M Q := by
  show Wp 0 1006 3 [some (.inr (.inr (1101, 0))), some (.inl x1), some (.inr (.inr (1104, 0))), some (.inl x3), some (.inl x4)] [] M (rV Q)
  refine Wp.path (k := 2) [] (C := []) (pc' := 7) (ls' := [some (.inr (.inr (1101, 0))), some (.inl x1), some (.inr (.inr (1104, 0))), some (.inl x3), some (.inl x4)]) (st' := [.inl 12, .inl x4]) (M' := M) rfl trivial ?_
  rcases Int.lt_or_le (x4) (12) with c_1 | c_1
  · replace h := h.2 c_1
    refine Wp.path (k := 1) [0] (C := [x4 < 12]) (pc' := 10) (ls' := [some (.inr (.inr (1101, 0))), some (.inl x1), some (.inr (.inr (1104, 0))), some (.inl x3), some (.inl x4)]) (st' := []) (M' := M) rfl c_1 ?_
    refine Wp.path (k := 10) [] (C := [inR (x3 + x4), inR (x1 + x4), 0 ≤ x1 + x4 ∧ x1 + x4 < 12, 0 ≤ x3 + x4 ∧ x3 + x4 < 12]) (pc' := 22) (ls' := [some (.inr (.inr (1101, 0))), some (.inl x1), some (.inr (.inr (1104, 0))), some (.inl x3), some (.inl x4)]) (st' := []) (M' := setI M 1104 0 ((x3 + x4).toNat) (M.1 1101 0 ((x1 + x4).toNat))) rfl ⟨h.1.1, h.1.2.1, h.1.2.2.1, h.1.2.2.2⟩ ?_
    replace h := h.2
    refine Bd (P := fun M1 : Mm => Wp 0 1006 22 [some (.inr (.inr (1101, 0))), some (.inl x1), some (.inr (.inr (1104, 0))), some (.inl x3), some (.inl x4)] [] M1 (rV Q)) ?_
    intro M1 e_M1
    replace h := h M1 e_M1
    refine Wp.path (k := 2) [] (C := [inR (x4 + 1)]) (pc' := 3) (ls' := [some (.inr (.inr (1101, 0))), some (.inl x1), some (.inr (.inr (1104, 0))), some (.inl x3), some (.inl (x4 + 1))]) (st' := []) (M' := M1) rfl h.1 ?_
    replace h := h.2
    exact h
  · replace h := h.1 c_1
    refine Wp.path (k := 1) [1] (C := [12 ≤ x4]) (pc' := 28) (ls' := [some (.inr (.inr (1101, 0))), some (.inl x1), some (.inr (.inr (1104, 0))), some (.inl x3), some (.inl x4)]) (st' := []) (M' := M) rfl c_1 ?_
    exact Wp.ret rfl ⟨rfl, h⟩
/-- X10_save -/
def E_1014 (M : Mm) (Q : Int → Mm → Prop) : Prop := Ev 2 1014 [.inr (.inr (10, 0))] M (rI Q)
theorem m_1014 {M : Mm} {Q Q1 : Int → Mm → Prop} (h : E_1014 M Q) (k : (∀ r M1, Q r M1 → Q1 r M1)) : E_1014 M Q1 := Ev.mono h (fun v M1 ⟨r, h1, h2⟩ => ⟨r, h1, k _ _ h2⟩)
theorem s_1014_0 {M : Mm} {Q : Int → Mm → Prop} (h : (∀ M1 : Mm, M1 = setI M 10 0 0 0 → (E_1006_1101_1104 0 0 M1 (fun M1_1 : Mm => (∀ M1_2 : Mm, M1_2 = setI M1_1 10 0 8 1 → (E_1005 M1_2 (fun (r : Int) (M1_3 : Mm) => (Q r M1_3)))))))) : E_1014 M Q := by
  show Wp 2 1014 0 [some (.inr (.inr (10, 0)))] [] M (rI Q)
  refine Wp.path (k := 3) [] (C := []) (pc' := 5) (ls' := [some (.inr (.inr (10, 0)))]) (st' := []) (M' := setI M 10 0 0 0) rfl trivial ?_
  refine Bd (P := fun M1 : Mm => Wp 2 1014 5 [some (.inr (.inr (10, 0)))] [] M1 (rI Q)) ?_
  intro M1 e_M1
  replace h := h M1 e_M1
  refine Wp.path (k := 6) [] (C := []) (pc' := 15) (ls' := [some (.inr (.inr (10, 0)))]) (st' := [.inl 0, .inr (.inr (1104, 0)), .inl 0, .inr (.inr (1101, 0))]) (M' := M1) rfl trivial ?_
  refine Wp.call h rfl rfl (by decide) ?_
  rintro _ M1_1 ⟨rfl, h⟩
  show Wp 2 1014 18 [some (.inr (.inr (10, 0)))] [] M1_1 (rI Q)
  refine Wp.path (k := 3) [] (C := [(1 : Int) = 0 ∨ (1 : Int) = 1]) (pc' := 23) (ls' := [some (.inr (.inr (10, 0)))]) (st' := []) (M' := setI M1_1 10 0 8 1) rfl (Or.inr rfl) ?_
  refine Bd (P := fun M1_2 : Mm => Wp 2 1014 23 [some (.inr (.inr (10, 0)))] [] M1_2 (rI Q)) ?_
  intro M1_2 e_M1_2
  replace h := h M1_2 e_M1_2
  refine Wp.path (k := 1) [] (C := []) (pc' := 24) (ls' := [some (.inr (.inr (10, 0)))]) (st' := [.inr (.inr (10, 0))]) (M' := M1_2) rfl trivial ?_
  refine Wp.call h rfl rfl (by decide) ?_
  rintro _ M1_3 ⟨r, rfl, h⟩
  show Wp 2 1014 27 [some (.inr (.inr (10, 0)))] [.inl r] M1_3 (rI Q)
  exact Wp.ret rfl ⟨_, rfl, h⟩
/-- X10_copies -/
def E_1006_1104_1105 (x1 : Int) (x3 : Int) (M : Mm) (Q : Mm → Prop) : Prop := Ev 0 1006 [.inr (.inr (1104, 0)), .inl x1, .inr (.inr (1105, 0)), .inl x3] M (rV Q)
theorem m_1006_1104_1105 {x1 : Int} {x3 : Int} {M : Mm} {Q Q1 : Mm → Prop} (h : E_1006_1104_1105 x1 x3 M Q) (k : (∀ M1, Q M1 → Q1 M1)) : E_1006_1104_1105 x1 x3 M Q1 := Ev.mono h (fun v M1 h => ⟨h.1, k _ h.2⟩)
def L_1006_1104_1105_3 (x1 : Int) (x3 : Int) (x4 : Int) (M : Mm) (Q : Mm → Prop) : Prop := Wp 0 1006 3 [some (.inr (.inr (1104, 0))), some (.inl x1), some (.inr (.inr (1105, 0))), some (.inl x3), some (.inl x4)] [] M (rV Q)
theorem s_1006_1104_1105_0 {x1 : Int} {x3 : Int} {M : Mm} {Q : Mm → Prop} (h : (L_1006_1104_1105_3 x1 x3 0 M Q)) : E_1006_1104_1105 x1 x3 M Q := by
  show Wp 0 1006 0 [some (.inr (.inr (1104, 0))), some (.inl x1), some (.inr (.inr (1105, 0))), some (.inl x3), none] [] M (rV Q)
  refine Wp.path (k := 2) [] (C := []) (pc' := 3) (ls' := [some (.inr (.inr (1104, 0))), some (.inl x1), some (.inr (.inr (1105, 0))), some (.inl x3), some (.inl 0)]) (st' := []) (M' := M) rfl trivial ?_
  exact h
theorem s_1006_1104_1105_3 {x1 : Int} {x3 : Int} {x4 : Int} {M : Mm} {Q : Mm → Prop} (h : ((12 ≤ x4 → (Q M)) ∧ (x4 < 12 → (((-2147483648 ≤ x3 + x4 ∧ x3 + x4 ≤ 2147483647) ∧ (-2147483648 ≤ x1 + x4 ∧ x1 + x4 ≤ 2147483647) ∧ (0 ≤ x1 + x4 ∧ x1 + x4 < 12) ∧ (0 ≤ x3 + x4 ∧ x3 + x4 < 12)) ∧ (∀ M1 : Mm, M1 = setI M 1105 0 ((x3 + x4).toNat) (M.1 1104 0 ((x1 + x4).toNat)) → (((-2147483648 ≤ x4 + 1 ∧ x4 + 1 ≤ 2147483647)) ∧ (L_1006_1104_1105_3 x1 x3 (x4 + 1) M1 Q))))))) : L_1006_1104_1105_3 x1 x3 x4 M Q := by
  show Wp 0 1006 3 [some (.inr (.inr (1104, 0))), some (.inl x1), some (.inr (.inr (1105, 0))), some (.inl x3), some (.inl x4)] [] M (rV Q)
  refine Wp.path (k := 2) [] (C := []) (pc' := 7) (ls' := [some (.inr (.inr (1104, 0))), some (.inl x1), some (.inr (.inr (1105, 0))), some (.inl x3), some (.inl x4)]) (st' := [.inl 12, .inl x4]) (M' := M) rfl trivial ?_
  rcases Int.lt_or_le (x4) (12) with c_1 | c_1
  · replace h := h.2 c_1
    refine Wp.path (k := 1) [0] (C := [x4 < 12]) (pc' := 10) (ls' := [some (.inr (.inr (1104, 0))), some (.inl x1), some (.inr (.inr (1105, 0))), some (.inl x3), some (.inl x4)]) (st' := []) (M' := M) rfl c_1 ?_
    refine Wp.path (k := 10) [] (C := [inR (x3 + x4), inR (x1 + x4), 0 ≤ x1 + x4 ∧ x1 + x4 < 12, 0 ≤ x3 + x4 ∧ x3 + x4 < 12]) (pc' := 22) (ls' := [some (.inr (.inr (1104, 0))), some (.inl x1), some (.inr (.inr (1105, 0))), some (.inl x3), some (.inl x4)]) (st' := []) (M' := setI M 1105 0 ((x3 + x4).toNat) (M.1 1104 0 ((x1 + x4).toNat))) rfl ⟨h.1.1, h.1.2.1, h.1.2.2.1, h.1.2.2.2⟩ ?_
    replace h := h.2
    refine Bd (P := fun M1 : Mm => Wp 0 1006 22 [some (.inr (.inr (1104, 0))), some (.inl x1), some (.inr (.inr (1105, 0))), some (.inl x3), some (.inl x4)] [] M1 (rV Q)) ?_
    intro M1 e_M1
    replace h := h M1 e_M1
    refine Wp.path (k := 2) [] (C := [inR (x4 + 1)]) (pc' := 3) (ls' := [some (.inr (.inr (1104, 0))), some (.inl x1), some (.inr (.inr (1105, 0))), some (.inl x3), some (.inl (x4 + 1))]) (st' := []) (M' := M1) rfl h.1 ?_
    replace h := h.2
    exact h
  · replace h := h.1 c_1
    refine Wp.path (k := 1) [1] (C := [12 ≤ x4]) (pc' := 28) (ls' := [some (.inr (.inr (1104, 0))), some (.inl x1), some (.inr (.inr (1105, 0))), some (.inl x3), some (.inl x4)]) (st' := []) (M' := M) rfl c_1 ?_
    exact Wp.ret rfl ⟨rfl, h⟩
/-- X10_restore -/
def E_1015 (M : Mm) (Q : Int → Mm → Prop) : Prop := Ev 3 1015 [.inr (.inr (10, 0))] M (rI Q)
theorem m_1015 {M : Mm} {Q Q1 : Int → Mm → Prop} (h : E_1015 M Q) (k : (∀ r M1, Q r M1 → Q1 r M1)) : E_1015 M Q1 := Ev.mono h (fun v M1 ⟨r, h1, h2⟩ => ⟨r, h1, k _ _ h2⟩)
theorem s_1015_0 {M : Mm} {Q : Int → Mm → Prop} (h : (∀ M1 : Mm, M1 = setI M 10 0 0 0 → ((M1.1 10 0 8 ≠ 0 → (E_1006_1104_1105 0 0 M1 (fun M1_2 : Mm => (E_1008 M1_2 (fun M1_3 : Mm => (E_1005 M1_3 (fun (r : Int) (M1_4 : Mm) => (Q r M1_4)))))))) ∧ (M1.1 10 0 8 = 0 → (∀ M1_1 : Mm, M1_1 = setI M1 10 0 0 1 → (Q 0 M1_1)))))) : E_1015 M Q := by
  show Wp 3 1015 0 [some (.inr (.inr (10, 0)))] [] M (rI Q)
  refine Wp.path (k := 3) [] (C := []) (pc' := 5) (ls' := [some (.inr (.inr (10, 0)))]) (st' := []) (M' := setI M 10 0 0 0) rfl trivial ?_
  refine Bd (P := fun M1 : Mm => Wp 3 1015 5 [some (.inr (.inr (10, 0)))] [] M1 (rI Q)) ?_
  intro M1 e_M1
  replace h := h M1 e_M1
  refine Wp.path (k := 2) [] (C := []) (pc' := 9) (ls' := [some (.inr (.inr (10, 0)))]) (st' := [.inl (M1.1 10 0 8)]) (M' := M1) rfl trivial ?_
  rcases Decidable.em (M1.1 10 0 8 = 0) with c_1 | c_1
  · replace h := h.2 c_1
    refine Wp.path (k := 1) [0] (C := [M1.1 10 0 8 = 0]) (pc' := 12) (ls' := [some (.inr (.inr (10, 0)))]) (st' := []) (M' := M1) rfl c_1 ?_
    refine Wp.path (k := 3) [] (C := []) (pc' := 17) (ls' := [some (.inr (.inr (10, 0)))]) (st' := []) (M' := setI M1 10 0 0 1) rfl trivial ?_
    refine Bd (P := fun M1_1 : Mm => Wp 3 1015 17 [some (.inr (.inr (10, 0)))] [] M1_1 (rI Q)) ?_
    intro M1_1 e_M1_1
    replace h := h M1_1 e_M1_1
    refine Wp.path (k := 1) [] (C := []) (pc' := 18) (ls' := [some (.inr (.inr (10, 0)))]) (st' := [.inl 0]) (M' := M1_1) rfl trivial ?_
    exact Wp.ret rfl ⟨_, rfl, h⟩
  · replace h := h.1 c_1
    refine Wp.path (k := 1) [1] (C := [M1.1 10 0 8 ≠ 0]) (pc' := 19) (ls' := [some (.inr (.inr (10, 0)))]) (st' := []) (M' := M1) rfl c_1 ?_
    refine Wp.path (k := 6) [] (C := []) (pc' := 29) (ls' := [some (.inr (.inr (10, 0)))]) (st' := [.inl 0, .inr (.inr (1105, 0)), .inl 0, .inr (.inr (1104, 0))]) (M' := M1) rfl trivial ?_
    refine Wp.call h rfl rfl (by decide) ?_
    rintro _ M1_2 ⟨rfl, h⟩
    show Wp 3 1015 32 [some (.inr (.inr (10, 0)))] [] M1_2 (rI Q)
    refine Wp.path (k := 1) [] (C := []) (pc' := 33) (ls' := [some (.inr (.inr (10, 0)))]) (st' := [.inr (.inr (10, 0))]) (M' := M1_2) rfl trivial ?_
    refine Wp.call h rfl rfl (by decide) ?_
    rintro _ M1_3 ⟨rfl, h⟩
    show Wp 3 1015 36 [some (.inr (.inr (10, 0)))] [] M1_3 (rI Q)
    refine Wp.path (k := 1) [] (C := []) (pc' := 37) (ls' := [some (.inr (.inr (10, 0)))]) (st' := [.inr (.inr (10, 0))]) (M' := M1_3) rfl trivial ?_
    refine Wp.call h rfl rfl (by decide) ?_
    rintro _ M1_4 ⟨r, rfl, h⟩
    show Wp 3 1015 40 [some (.inr (.inr (10, 0)))] [.inl r] M1_4 (rI Q)
    exact Wp.ret rfl ⟨_, rfl, h⟩
/-- X10_append -/
def E_1016 (x1 : Int) (M : Mm) (Q : Int → Mm → Prop) : Prop := Ev 1 1016 [.inr (.inr (10, 0)), .inl x1] M (rI Q)
theorem m_1016 {x1 : Int} {M : Mm} {Q Q1 : Int → Mm → Prop} (h : E_1016 x1 M Q) (k : (∀ r M1, Q r M1 → Q1 r M1)) : E_1016 x1 M Q1 := Ev.mono h (fun v M1 ⟨r, h1, h2⟩ => ⟨r, h1, k _ _ h2⟩)
def L_1016_10 (x1 : Int) (x2 : Int) (x3 : Int) (M : Mm) (Q : Int → Mm → Prop) : Prop := ∀ o4 : Option Vv, Wp 1 1016 10 [some (.inr (.inr (10, 0))), some (.inl x1), some (.inl x2), some (.inl x3), o4] [] M (rI Q)
def L_1016_80 (x1 : Int) (x2 : Int) (x3 : Int) (M : Mm) (Q : Int → Mm → Prop) : Prop := ∀ o4 : Option Vv, Wp 1 1016 80 [some (.inr (.inr (10, 0))), some (.inl x1), some (.inl x2), some (.inl x3), o4] [] M (rI Q)
theorem s_1016_0 {x1 : Int} {M : Mm} {Q : Int → Mm → Prop} (h : (∀ M1 : Mm, M1 = setI M 10 0 0 0 → (L_1016_10 x1 0 24 M1 Q))) : E_1016 x1 M Q := by
  show Wp 1 1016 0 [some (.inr (.inr (10, 0))), some (.inl x1), none, none, none] [] M (rI Q)
  refine Wp.path (k := 3) [] (C := []) (pc' := 5) (ls' := [some (.inr (.inr (10, 0))), some (.inl x1), none, none, none]) (st' := []) (M' := setI M 10 0 0 0) rfl trivial ?_
  refine Bd (P := fun M1 : Mm => Wp 1 1016 5 [some (.inr (.inr (10, 0))), some (.inl x1), none, none, none] [] M1 (rI Q)) ?_
  intro M1 e_M1
  replace h := h M1 e_M1
  refine Wp.path (k := 4) [] (C := []) (pc' := 10) (ls' := [some (.inr (.inr (10, 0))), some (.inl x1), some (.inl 0), some (.inl 24), none]) (st' := []) (M' := M1) rfl trivial ?_
  exact h _
theorem s_1016_10 {x1 : Int} {x2 : Int} {x3 : Int} {M : Mm} {Q : Int → Mm → Prop} (h : ((x3 < 0 → (((-2147483648 ≤ (M.1 10 0 11) + x2 ∧ (M.1 10 0 11) + x2 ≤ 2147483647)) ∧ (((M.1 10 0 11) + x2 ≤ 60 → (L_1016_80 x1 x2 24 M Q)) ∧ (60 < (M.1 10 0 11) + x2 → (∀ M1 : Mm, M1 = setI M 10 0 0 2 → (Q 0 M1)))))) ∧ (0 ≤ x3 → (∀ x4 : Int, x4 = ian (ius x1 x3) 255 → ((x4 ≠ 0 → ((inV x4 33 126 ≠ 0 → (((-2147483648 ≤ x2 + 1 ∧ x2 + 1 ≤ 2147483647) ∧ (-2147483648 ≤ x3 + (-8) ∧ x3 + (-8) ≤ 2147483647)) ∧ (L_1016_10 x1 (x2 + 1) (x3 + (-8)) M Q))) ∧ (inV x4 33 126 = 0 → (∀ M1_1 : Mm, M1_1 = setI M 10 0 0 1 → (Q 0 M1_1))))) ∧ (x4 = 0 → (((-2147483648 ≤ x3 + (-8) ∧ x3 + (-8) ≤ 2147483647)) ∧ (L_1016_10 x1 x2 (x3 + (-8)) M Q)))))))) : L_1016_10 x1 x2 x3 M Q := by
  intro o4
  show Wp 1 1016 10 [some (.inr (.inr (10, 0))), some (.inl x1), some (.inl x2), some (.inl x3), o4] [] M (rI Q)
  refine Wp.path (k := 1) [] (C := []) (pc' := 11) (ls' := [some (.inr (.inr (10, 0))), some (.inl x1), some (.inl x2), some (.inl x3), o4]) (st' := [.inl x3]) (M' := M) rfl trivial ?_
  rcases Int.lt_or_le (x3) (0) with c_1 | c_1
  · replace h := h.1 c_1
    refine Wp.path (k := 1) [1] (C := [x3 < 0]) (pc' := 59) (ls' := [some (.inr (.inr (10, 0))), some (.inl x1), some (.inl x2), some (.inl x3), o4]) (st' := []) (M' := M) rfl c_1 ?_
    refine Wp.path (k := 5) [] (C := [inR ((M.1 10 0 11) + x2)]) (pc' := 67) (ls' := [some (.inr (.inr (10, 0))), some (.inl x1), some (.inl x2), some (.inl x3), o4]) (st' := [.inl 60, .inl ((M.1 10 0 11) + x2)]) (M' := M) rfl h.1 ?_
    replace h := h.2
    rcases Int.lt_or_le (60) ((M.1 10 0 11) + x2) with c_2 | c_2
    · replace h := h.2 c_2
      refine Wp.path (k := 1) [0] (C := [60 < (M.1 10 0 11) + x2]) (pc' := 70) (ls' := [some (.inr (.inr (10, 0))), some (.inl x1), some (.inl x2), some (.inl x3), o4]) (st' := []) (M' := M) rfl c_2 ?_
      refine Wp.path (k := 3) [] (C := []) (pc' := 75) (ls' := [some (.inr (.inr (10, 0))), some (.inl x1), some (.inl x2), some (.inl x3), o4]) (st' := []) (M' := setI M 10 0 0 2) rfl trivial ?_
      refine Bd (P := fun M1 : Mm => Wp 1 1016 75 [some (.inr (.inr (10, 0))), some (.inl x1), some (.inl x2), some (.inl x3), o4] [] M1 (rI Q)) ?_
      intro M1 e_M1
      replace h := h M1 e_M1
      refine Wp.path (k := 1) [] (C := []) (pc' := 76) (ls' := [some (.inr (.inr (10, 0))), some (.inl x1), some (.inl x2), some (.inl x3), o4]) (st' := [.inl 0]) (M' := M1) rfl trivial ?_
      exact Wp.ret rfl ⟨_, rfl, h⟩
    · replace h := h.1 c_2
      refine Wp.path (k := 1) [1] (C := [(M.1 10 0 11) + x2 ≤ 60]) (pc' := 77) (ls' := [some (.inr (.inr (10, 0))), some (.inl x1), some (.inl x2), some (.inl x3), o4]) (st' := []) (M' := M) rfl c_2 ?_
      refine Wp.path (k := 2) [] (C := []) (pc' := 80) (ls' := [some (.inr (.inr (10, 0))), some (.inl x1), some (.inl x2), some (.inl 24), o4]) (st' := []) (M' := M) rfl trivial ?_
      exact h _
  · replace h := h.2 c_1
    refine Wp.path (k := 1) [0] (C := [0 ≤ x3]) (pc' := 14) (ls' := [some (.inr (.inr (10, 0))), some (.inl x1), some (.inl x2), some (.inl x3), o4]) (st' := []) (M' := M) rfl c_1 ?_
    refine Wp.path (k := 6) [] (C := []) (pc' := 23) (ls' := [some (.inr (.inr (10, 0))), some (.inl x1), some (.inl x2), some (.inl x3), some (.inl (ian (ius x1 x3) 255))]) (st' := []) (M' := M) rfl trivial ?_
    refine Bd (P := fun x4 : Int => Wp 1 1016 23 [some (.inr (.inr (10, 0))), some (.inl x1), some (.inl x2), some (.inl x3), some (.inl x4)] [] M (rI Q)) ?_
    intro x4 e_x4
    replace h := h x4 e_x4
    refine Wp.path (k := 1) [] (C := []) (pc' := 25) (ls' := [some (.inr (.inr (10, 0))), some (.inl x1), some (.inl x2), some (.inl x3), some (.inl x4)]) (st' := [.inl x4]) (M' := M) rfl trivial ?_
    rcases Decidable.em (x4 = 0) with c_3 | c_3
    · replace h := h.2 c_3
      refine Wp.path (k := 1) [0] (C := [x4 = 0]) (pc' := 28) (ls' := [some (.inr (.inr (10, 0))), some (.inl x1), some (.inl x2), some (.inl x3), some (.inl x4)]) (st' := []) (M' := M) rfl c_3 ?_
      refine Wp.path (k := 3) [] (C := [inR (x3 + (-8))]) (pc' := 10) (ls' := [some (.inr (.inr (10, 0))), some (.inl x1), some (.inl x2), some (.inl (x3 + (-8))), some (.inl x4)]) (st' := []) (M' := M) rfl h.1 ?_
      replace h := h.2
      exact h _
    · replace h := h.1 c_3
      refine Wp.path (k := 1) [1] (C := [x4 ≠ 0]) (pc' := 31) (ls' := [some (.inr (.inr (10, 0))), some (.inl x1), some (.inl x2), some (.inl x3), some (.inl x4)]) (st' := []) (M' := M) rfl c_3 ?_
      refine Wp.path (k := 3) [] (C := []) (pc' := 37) (ls' := [some (.inr (.inr (10, 0))), some (.inl x1), some (.inl x2), some (.inl x3), some (.inl x4)]) (st' := [.inl 126, .inl 33, .inl x4]) (M' := M) rfl trivial ?_
      refine Wp.call (e1002) rfl rfl (by decide) ?_
      rintro v_ M_ ⟨eM_, ev_⟩
      rw [eM_, ev_]
      clear eM_ ev_ v_ M_
      show Wp 1 1016 40 [some (.inr (.inr (10, 0))), some (.inl x1), some (.inl x2), some (.inl x3), some (.inl x4)] [.inl (inV x4 33 126)] M (rI Q)
      rcases Decidable.em (inV x4 33 126 = 0) with c_4 | c_4
      · replace h := h.2 c_4
        refine Wp.path (k := 1) [0] (C := [inV x4 33 126 = 0]) (pc' := 43) (ls' := [some (.inr (.inr (10, 0))), some (.inl x1), some (.inl x2), some (.inl x3), some (.inl x4)]) (st' := []) (M' := M) rfl c_4 ?_
        refine Wp.path (k := 3) [] (C := []) (pc' := 48) (ls' := [some (.inr (.inr (10, 0))), some (.inl x1), some (.inl x2), some (.inl x3), some (.inl x4)]) (st' := []) (M' := setI M 10 0 0 1) rfl trivial ?_
        refine Bd (P := fun M1_1 : Mm => Wp 1 1016 48 [some (.inr (.inr (10, 0))), some (.inl x1), some (.inl x2), some (.inl x3), some (.inl x4)] [] M1_1 (rI Q)) ?_
        intro M1_1 e_M1_1
        replace h := h M1_1 e_M1_1
        refine Wp.path (k := 1) [] (C := []) (pc' := 49) (ls' := [some (.inr (.inr (10, 0))), some (.inl x1), some (.inl x2), some (.inl x3), some (.inl x4)]) (st' := [.inl 0]) (M' := M1_1) rfl trivial ?_
        exact Wp.ret rfl ⟨_, rfl, h⟩
      · replace h := h.1 c_4
        refine Wp.path (k := 1) [1] (C := [inV x4 33 126 ≠ 0]) (pc' := 50) (ls' := [some (.inr (.inr (10, 0))), some (.inl x1), some (.inl x2), some (.inl x3), some (.inl x4)]) (st' := []) (M' := M) rfl c_4 ?_
        refine Wp.path (k := 3) [] (C := [inR (x2 + 1), inR (x3 + (-8))]) (pc' := 10) (ls' := [some (.inr (.inr (10, 0))), some (.inl x1), some (.inl (x2 + 1)), some (.inl (x3 + (-8))), some (.inl x4)]) (st' := []) (M' := M) rfl ⟨h.1.1, h.1.2⟩ ?_
        replace h := h.2
        exact h _
theorem s_1016_80 {x1 : Int} {x2 : Int} {x3 : Int} {M : Mm} {Q : Int → Mm → Prop} (h : ((x3 < 0 → (Q (M.1 10 0 11) M)) ∧ (0 ≤ x3 → (∀ x4 : Int, x4 = ian (ius x1 x3) 255 → ((x4 = 0 → (((-2147483648 ≤ x3 + (-8) ∧ x3 + (-8) ≤ 2147483647)) ∧ (L_1016_80 x1 x2 (x3 + (-8)) M Q))) ∧ (x4 ≠ 0 → (((0 ≤ M.1 10 0 11 ∧ M.1 10 0 11 < 60)) ∧ (∀ M1 : Mm, M1 = setI M 1110 0 ((M.1 10 0 11).toNat) x4 → (((-2147483648 ≤ (M1.1 10 0 11) + 1 ∧ (M1.1 10 0 11) + 1 ≤ 2147483647)) ∧ (∀ M1_1 : Mm, M1_1 = setI M1 10 0 11 ((M1.1 10 0 11) + 1) → (((-2147483648 ≤ x3 + (-8) ∧ x3 + (-8) ≤ 2147483647)) ∧ (L_1016_80 x1 x2 (x3 + (-8)) M1_1 Q)))))))))))) : L_1016_80 x1 x2 x3 M Q := by
  intro o4
  show Wp 1 1016 80 [some (.inr (.inr (10, 0))), some (.inl x1), some (.inl x2), some (.inl x3), o4] [] M (rI Q)
  refine Wp.path (k := 1) [] (C := []) (pc' := 81) (ls' := [some (.inr (.inr (10, 0))), some (.inl x1), some (.inl x2), some (.inl x3), o4]) (st' := [.inl x3]) (M' := M) rfl trivial ?_
  rcases Int.lt_or_le (x3) (0) with c_1 | c_1
  · replace h := h.1 c_1
    refine Wp.path (k := 1) [1] (C := [x3 < 0]) (pc' := 125) (ls' := [some (.inr (.inr (10, 0))), some (.inl x1), some (.inl x2), some (.inl x3), o4]) (st' := []) (M' := M) rfl c_1 ?_
    refine Wp.path (k := 2) [] (C := []) (pc' := 129) (ls' := [some (.inr (.inr (10, 0))), some (.inl x1), some (.inl x2), some (.inl x3), o4]) (st' := [.inl (M.1 10 0 11)]) (M' := M) rfl trivial ?_
    exact Wp.ret rfl ⟨_, rfl, h⟩
  · replace h := h.2 c_1
    refine Wp.path (k := 1) [0] (C := [0 ≤ x3]) (pc' := 84) (ls' := [some (.inr (.inr (10, 0))), some (.inl x1), some (.inl x2), some (.inl x3), o4]) (st' := []) (M' := M) rfl c_1 ?_
    refine Wp.path (k := 6) [] (C := []) (pc' := 93) (ls' := [some (.inr (.inr (10, 0))), some (.inl x1), some (.inl x2), some (.inl x3), some (.inl (ian (ius x1 x3) 255))]) (st' := []) (M' := M) rfl trivial ?_
    refine Bd (P := fun x4 : Int => Wp 1 1016 93 [some (.inr (.inr (10, 0))), some (.inl x1), some (.inl x2), some (.inl x3), some (.inl x4)] [] M (rI Q)) ?_
    intro x4 e_x4
    replace h := h x4 e_x4
    refine Wp.path (k := 1) [] (C := []) (pc' := 95) (ls' := [some (.inr (.inr (10, 0))), some (.inl x1), some (.inl x2), some (.inl x3), some (.inl x4)]) (st' := [.inl x4]) (M' := M) rfl trivial ?_
    rcases Decidable.em (x4 = 0) with c_2 | c_2
    · replace h := h.1 c_2
      refine Wp.path (k := 1) [1] (C := [x4 = 0]) (pc' := 119) (ls' := [some (.inr (.inr (10, 0))), some (.inl x1), some (.inl x2), some (.inl x3), some (.inl x4)]) (st' := []) (M' := M) rfl c_2 ?_
      refine Wp.path (k := 2) [] (C := [inR (x3 + (-8))]) (pc' := 80) (ls' := [some (.inr (.inr (10, 0))), some (.inl x1), some (.inl x2), some (.inl (x3 + (-8))), some (.inl x4)]) (st' := []) (M' := M) rfl h.1 ?_
      replace h := h.2
      exact h _
    · replace h := h.2 c_2
      refine Wp.path (k := 1) [0] (C := [x4 ≠ 0]) (pc' := 98) (ls' := [some (.inr (.inr (10, 0))), some (.inl x1), some (.inl x2), some (.inl x3), some (.inl x4)]) (st' := []) (M' := M) rfl c_2 ?_
      refine Wp.path (k := 6) [] (C := [0 ≤ M.1 10 0 11 ∧ M.1 10 0 11 < 60]) (pc' := 109) (ls' := [some (.inr (.inr (10, 0))), some (.inl x1), some (.inl x2), some (.inl x3), some (.inl x4)]) (st' := []) (M' := setI M 1110 0 ((M.1 10 0 11).toNat) x4) rfl h.1 ?_
      replace h := h.2
      refine Bd (P := fun M1 : Mm => Wp 1 1016 109 [some (.inr (.inr (10, 0))), some (.inl x1), some (.inl x2), some (.inl x3), some (.inl x4)] [] M1 (rI Q)) ?_
      intro M1 e_M1
      replace h := h M1 e_M1
      refine Wp.path (k := 6) [] (C := [inR ((M1.1 10 0 11) + 1)]) (pc' := 119) (ls' := [some (.inr (.inr (10, 0))), some (.inl x1), some (.inl x2), some (.inl x3), some (.inl x4)]) (st' := []) (M' := setI M1 10 0 11 ((M1.1 10 0 11) + 1)) rfl h.1 ?_
      replace h := h.2
      refine Bd (P := fun M1_1 : Mm => Wp 1 1016 119 [some (.inr (.inr (10, 0))), some (.inl x1), some (.inl x2), some (.inl x3), some (.inl x4)] [] M1_1 (rI Q)) ?_
      intro M1_1 e_M1_1
      replace h := h M1_1 e_M1_1
      refine Wp.path (k := 2) [] (C := [inR (x3 + (-8))]) (pc' := 80) (ls' := [some (.inr (.inr (10, 0))), some (.inl x1), some (.inl x2), some (.inl (x3 + (-8))), some (.inl x4)]) (st' := []) (M' := M1_1) rfl h.1 ?_
      replace h := h.2
      exact h _
/-- X10_takes -/
def E_1018 (x1 : Int) (M : Mm) (Q : Mm → Prop) : Prop := Ev 1 1018 [.inr (.inr (10, 0)), .inl x1] M (rV Q)
theorem m_1018 {x1 : Int} {M : Mm} {Q Q1 : Mm → Prop} (h : E_1018 x1 M Q) (k : (∀ M1, Q M1 → Q1 M1)) : E_1018 x1 M Q1 := Ev.mono h (fun v M1 h => ⟨h.1, k _ h.2⟩)
theorem s_1018_0 {x1 : Int} {M : Mm} {Q : Mm → Prop} (h : ((M.1 10 0 14 < 0 → ((0 ≤ M.1 10 0 13 ∧ M.1 10 0 11 ≤ 60) ∧ ((ltV (M.1 1110 0) (M.1 10 0 13) (M.1 10 0 11) ≠ x1 → (∀ M1_1 : Mm, M1_1 = setI M 10 0 14 (M.1 10 0 13) → (Q M1_1))) ∧ (ltV (M.1 1110 0) (M.1 10 0 13) (M.1 10 0 11) = x1 → (((-2147483648 ≤ (M.1 10 0 13) + 1 ∧ (M.1 10 0 13) + 1 ≤ 2147483647)) ∧ (∀ M1 : Mm, M1 = setI M 10 0 13 ((M.1 10 0 13) + 1) → (Q M1))))))) ∧ (0 ≤ M.1 10 0 14 → (Q M)))) : E_1018 x1 M Q := by
  show Wp 1 1018 0 [some (.inr (.inr (10, 0))), some (.inl x1)] [] M (rV Q)
  refine Wp.path (k := 2) [] (C := []) (pc' := 4) (ls' := [some (.inr (.inr (10, 0))), some (.inl x1)]) (st' := [.inl (M.1 10 0 14)]) (M' := M) rfl trivial ?_
  rcases Int.lt_or_le (M.1 10 0 14) (0) with c_1 | c_1
  · replace h := h.1 c_1
    refine Wp.path (k := 1) [1] (C := [M.1 10 0 14 < 0]) (pc' := 8) (ls' := [some (.inr (.inr (10, 0))), some (.inl x1)]) (st' := []) (M' := M) rfl c_1 ?_
    refine Wp.path (k := 1) [] (C := []) (pc' := 9) (ls' := [some (.inr (.inr (10, 0))), some (.inl x1)]) (st' := [.inr (.inr (10, 0))]) (M' := M) rfl trivial ?_
    refine Wp.call (e1017 h.1.1 h.1.2) rfl rfl (by decide) ?_
    replace h := h.2
    rintro v_ M_ ⟨eM_, ev_⟩
    rw [eM_, ev_]
    clear eM_ ev_ v_ M_
    show Wp 1 1018 12 [some (.inr (.inr (10, 0))), some (.inl x1)] [.inl (ltV (M.1 1110 0) (M.1 10 0 13) (M.1 10 0 11))] M (rV Q)
    refine Wp.path (k := 1) [] (C := []) (pc' := 13) (ls' := [some (.inr (.inr (10, 0))), some (.inl x1)]) (st' := [.inl x1, .inl (ltV (M.1 1110 0) (M.1 10 0 13) (M.1 10 0 11))]) (M' := M) rfl trivial ?_
    rcases Decidable.em (ltV (M.1 1110 0) (M.1 10 0 13) (M.1 10 0 11) = x1) with c_2 | c_2
    · replace h := h.2 c_2
      refine Wp.path (k := 1) [0] (C := [ltV (M.1 1110 0) (M.1 10 0 13) (M.1 10 0 11) = x1]) (pc' := 16) (ls' := [some (.inr (.inr (10, 0))), some (.inl x1)]) (st' := []) (M' := M) rfl c_2 ?_
      refine Wp.path (k := 6) [] (C := [inR ((M.1 10 0 13) + 1)]) (pc' := 26) (ls' := [some (.inr (.inr (10, 0))), some (.inl x1)]) (st' := []) (M' := setI M 10 0 13 ((M.1 10 0 13) + 1)) rfl h.1 ?_
      replace h := h.2
      refine Bd (P := fun M1 : Mm => Wp 1 1018 26 [some (.inr (.inr (10, 0))), some (.inl x1)] [] M1 (rV Q)) ?_
      intro M1 e_M1
      replace h := h M1 e_M1
      refine Wp.path (k := 1) [] (C := []) (pc' := 37) (ls' := [some (.inr (.inr (10, 0))), some (.inl x1)]) (st' := []) (M' := M1) rfl trivial ?_
      exact Wp.ret rfl ⟨rfl, h⟩
    · replace h := h.1 c_2
      refine Wp.path (k := 1) [1] (C := [ltV (M.1 1110 0) (M.1 10 0 13) (M.1 10 0 11) ≠ x1]) (pc' := 29) (ls' := [some (.inr (.inr (10, 0))), some (.inl x1)]) (st' := []) (M' := M) rfl c_2 ?_
      refine Wp.path (k := 4) [] (C := []) (pc' := 37) (ls' := [some (.inr (.inr (10, 0))), some (.inl x1)]) (st' := []) (M' := setI M 10 0 14 (M.1 10 0 13)) rfl trivial ?_
      refine Bd (P := fun M1_1 : Mm => Wp 1 1018 37 [some (.inr (.inr (10, 0))), some (.inl x1)] [] M1_1 (rV Q)) ?_
      intro M1_1 e_M1_1
      replace h := h M1_1 e_M1_1
      exact Wp.ret rfl ⟨rfl, h⟩
  · replace h := h.2 c_1
    refine Wp.path (k := 1) [0] (C := [0 ≤ M.1 10 0 14]) (pc' := 7) (ls' := [some (.inr (.inr (10, 0))), some (.inl x1)]) (st' := []) (M' := M) rfl c_1 ?_
    exact Wp.ret rfl ⟨rfl, h⟩
/-- X10_number -/
def E_1019 (x1 : Int) (x2 : Int) (M : Mm) (Q : Int → Mm → Prop) : Prop := Ev 1 1019 [.inr (.inr (10, 0)), .inl x1, .inl x2] M (rI Q)
theorem m_1019 {x1 : Int} {x2 : Int} {M : Mm} {Q Q1 : Int → Mm → Prop} (h : E_1019 x1 x2 M Q) (k : (∀ r M1, Q r M1 → Q1 r M1)) : E_1019 x1 x2 M Q1 := Ev.mono h (fun v M1 ⟨r, h1, h2⟩ => ⟨r, h1, k _ _ h2⟩)
theorem s_1019_0 {x1 : Int} {x2 : Int} {M : Mm} {Q : Int → Mm → Prop} (h : ((M.1 10 0 14 < 0 → (∀ x3 : Int, x3 = M.1 10 0 13 → ((0 ≤ M.1 10 0 13 ∧ M.1 10 0 11 ≤ 60) ∧ ((inV (ltV (M.1 1110 0) (M.1 10 0 13) (M.1 10 0 11)) 48 57 ≠ 0 → ((0 ≤ M.1 10 0 13 ∧ M.1 10 0 11 ≤ 60) ∧ (((-2147483648 ≤ (ltV (M.1 1110 0) (M.1 10 0 13) (M.1 10 0 11)) - 48 ∧ (ltV (M.1 1110 0) (M.1 10 0 13) (M.1 10 0 11)) - 48 ≤ 2147483647)) ∧ (∀ x4 : Int, x4 = (ltV (M.1 1110 0) (M.1 10 0 13) (M.1 10 0 11)) - 48 → (((-2147483648 ≤ (M.1 10 0 13) + 1 ∧ (M.1 10 0 13) + 1 ≤ 2147483647)) ∧ (∀ M1_1 : Mm, M1_1 = setI M 10 0 13 ((M.1 10 0 13) + 1) → ((x4 = 0 → ((inV x4 x1 x2 ≠ 0 → (Q x4 M1_1)) ∧ (inV x4 x1 x2 = 0 → (∀ M1_2 : Mm, M1_2 = setI M1_1 10 0 14 x3 → (Q x1 M1_2))))) ∧ (x4 ≠ 0 → ((0 ≤ M1_1.1 10 0 13 ∧ M1_1.1 10 0 11 ≤ 60) ∧ ((inV (ltV (M1_1.1 1110 0) (M1_1.1 10 0 13) (M1_1.1 10 0 11)) 48 57 = 0 → ((inV x4 x1 x2 ≠ 0 → (Q x4 M1_1)) ∧ (inV x4 x1 x2 = 0 → (∀ M1_3 : Mm, M1_3 = setI M1_1 10 0 14 x3 → (Q x1 M1_3))))) ∧ (inV (ltV (M1_1.1 1110 0) (M1_1.1 10 0 13) (M1_1.1 10 0 11)) 48 57 ≠ 0 → (((-2147483648 ≤ 10 * x4 ∧ 10 * x4 ≤ 2147483647)) ∧ ((0 ≤ M1_1.1 10 0 13 ∧ M1_1.1 10 0 11 ≤ 60) ∧ (((-2147483648 ≤ (10 * x4) + (ltV (M1_1.1 1110 0) (M1_1.1 10 0 13) (M1_1.1 10 0 11)) ∧ (10 * x4) + (ltV (M1_1.1 1110 0) (M1_1.1 10 0 13) (M1_1.1 10 0 11)) ≤ 2147483647) ∧ (-2147483648 ≤ ((10 * x4) + (ltV (M1_1.1 1110 0) (M1_1.1 10 0 13) (M1_1.1 10 0 11))) - 48 ∧ ((10 * x4) + (ltV (M1_1.1 1110 0) (M1_1.1 10 0 13) (M1_1.1 10 0 11))) - 48 ≤ 2147483647)) ∧ (∀ x4_1 : Int, x4_1 = ((10 * x4) + (ltV (M1_1.1 1110 0) (M1_1.1 10 0 13) (M1_1.1 10 0 11))) - 48 → (((-2147483648 ≤ (M1_1.1 10 0 13) + 1 ∧ (M1_1.1 10 0 13) + 1 ≤ 2147483647)) ∧ (∀ M1_4 : Mm, M1_4 = setI M1_1 10 0 13 ((M1_1.1 10 0 13) + 1) → ((inV x4_1 x1 x2 ≠ 0 → (Q x4_1 M1_4)) ∧ (inV x4_1 x1 x2 = 0 → (∀ M1_5 : Mm, M1_5 = setI M1_4 10 0 14 x3 → (Q x1 M1_5))))))))))))))))))))) ∧ (inV (ltV (M.1 1110 0) (M.1 10 0 13) (M.1 10 0 11)) 48 57 = 0 → (∀ M1 : Mm, M1 = setI M 10 0 14 (M.1 10 0 13) → (Q x1 M1))))))) ∧ (0 ≤ M.1 10 0 14 → (Q x1 M)))) : E_1019 x1 x2 M Q := by
  show Wp 1 1019 0 [some (.inr (.inr (10, 0))), some (.inl x1), some (.inl x2), none, none] [] M (rI Q)
  refine Wp.path (k := 2) [] (C := []) (pc' := 4) (ls' := [some (.inr (.inr (10, 0))), some (.inl x1), some (.inl x2), none, none]) (st' := [.inl (M.1 10 0 14)]) (M' := M) rfl trivial ?_
  rcases Int.lt_or_le (M.1 10 0 14) (0) with c_1 | c_1
  · replace h := h.1 c_1
    refine Wp.path (k := 1) [1] (C := [M.1 10 0 14 < 0]) (pc' := 9) (ls' := [some (.inr (.inr (10, 0))), some (.inl x1), some (.inl x2), none, none]) (st' := []) (M' := M) rfl c_1 ?_
    refine Wp.path (k := 3) [] (C := []) (pc' := 14) (ls' := [some (.inr (.inr (10, 0))), some (.inl x1), some (.inl x2), some (.inl (M.1 10 0 13)), none]) (st' := []) (M' := M) rfl trivial ?_
    refine Bd (P := fun x3 : Int => Wp 1 1019 14 [some (.inr (.inr (10, 0))), some (.inl x1), some (.inl x2), some (.inl x3), none] [] M (rI Q)) ?_
    intro x3 e_x3
    replace h := h x3 e_x3
    refine Wp.path (k := 1) [] (C := []) (pc' := 15) (ls' := [some (.inr (.inr (10, 0))), some (.inl x1), some (.inl x2), some (.inl x3), none]) (st' := [.inr (.inr (10, 0))]) (M' := M) rfl trivial ?_
    refine Wp.call (e1017 h.1.1 h.1.2) rfl rfl (by decide) ?_
    replace h := h.2
    rintro v_ M_ ⟨eM_, ev_⟩
    rw [eM_, ev_]
    clear eM_ ev_ v_ M_
    show Wp 1 1019 18 [some (.inr (.inr (10, 0))), some (.inl x1), some (.inl x2), some (.inl x3), none] [.inl (ltV (M.1 1110 0) (M.1 10 0 13) (M.1 10 0 11))] M (rI Q)
    refine Wp.path (k := 2) [] (C := []) (pc' := 22) (ls' := [some (.inr (.inr (10, 0))), some (.inl x1), some (.inl x2), some (.inl x3), none]) (st' := [.inl 57, .inl 48, .inl (ltV (M.1 1110 0) (M.1 10 0 13) (M.1 10 0 11))]) (M' := M) rfl trivial ?_
    refine Wp.call (e1002) rfl rfl (by decide) ?_
    rintro v_ M_ ⟨eM_, ev_⟩
    rw [eM_, ev_]
    clear eM_ ev_ v_ M_
    show Wp 1 1019 25 [some (.inr (.inr (10, 0))), some (.inl x1), some (.inl x2), some (.inl x3), none] [.inl (inV (ltV (M.1 1110 0) (M.1 10 0 13) (M.1 10 0 11)) 48 57)] M (rI Q)
    rcases Decidable.em (inV (ltV (M.1 1110 0) (M.1 10 0 13) (M.1 10 0 11)) 48 57 = 0) with c_2 | c_2
    · replace h := h.2 c_2
      refine Wp.path (k := 1) [0] (C := [inV (ltV (M.1 1110 0) (M.1 10 0 13) (M.1 10 0 11)) 48 57 = 0]) (pc' := 28) (ls' := [some (.inr (.inr (10, 0))), some (.inl x1), some (.inl x2), some (.inl x3), none]) (st' := []) (M' := M) rfl c_2 ?_
      refine Wp.path (k := 4) [] (C := []) (pc' := 36) (ls' := [some (.inr (.inr (10, 0))), some (.inl x1), some (.inl x2), some (.inl x3), none]) (st' := []) (M' := setI M 10 0 14 (M.1 10 0 13)) rfl trivial ?_
      refine Bd (P := fun M1 : Mm => Wp 1 1019 36 [some (.inr (.inr (10, 0))), some (.inl x1), some (.inl x2), some (.inl x3), none] [] M1 (rI Q)) ?_
      intro M1 e_M1
      replace h := h M1 e_M1
      refine Wp.path (k := 1) [] (C := []) (pc' := 37) (ls' := [some (.inr (.inr (10, 0))), some (.inl x1), some (.inl x2), some (.inl x3), none]) (st' := [.inl x1]) (M' := M1) rfl trivial ?_
      exact Wp.ret rfl ⟨_, rfl, h⟩
    · replace h := h.1 c_2
      refine Wp.path (k := 1) [1] (C := [inV (ltV (M.1 1110 0) (M.1 10 0 13) (M.1 10 0 11)) 48 57 ≠ 0]) (pc' := 38) (ls' := [some (.inr (.inr (10, 0))), some (.inl x1), some (.inl x2), some (.inl x3), none]) (st' := []) (M' := M) rfl c_2 ?_
      refine Wp.path (k := 1) [] (C := []) (pc' := 39) (ls' := [some (.inr (.inr (10, 0))), some (.inl x1), some (.inl x2), some (.inl x3), none]) (st' := [.inr (.inr (10, 0))]) (M' := M) rfl trivial ?_
      refine Wp.call (e1017 h.1.1 h.1.2) rfl rfl (by decide) ?_
      replace h := h.2
      rintro v_ M_ ⟨eM_, ev_⟩
      rw [eM_, ev_]
      clear eM_ ev_ v_ M_
      show Wp 1 1019 42 [some (.inr (.inr (10, 0))), some (.inl x1), some (.inl x2), some (.inl x3), none] [.inl (ltV (M.1 1110 0) (M.1 10 0 13) (M.1 10 0 11))] M (rI Q)
      refine Wp.path (k := 3) [] (C := [inR ((ltV (M.1 1110 0) (M.1 10 0 13) (M.1 10 0 11)) - 48)]) (pc' := 47) (ls' := [some (.inr (.inr (10, 0))), some (.inl x1), some (.inl x2), some (.inl x3), some (.inl ((ltV (M.1 1110 0) (M.1 10 0 13) (M.1 10 0 11)) - 48))]) (st' := []) (M' := M) rfl h.1 ?_
      replace h := h.2
      refine Bd (P := fun x4 : Int => Wp 1 1019 47 [some (.inr (.inr (10, 0))), some (.inl x1), some (.inl x2), some (.inl x3), some (.inl x4)] [] M (rI Q)) ?_
      intro x4 e_x4
      replace h := h x4 e_x4
      refine Wp.path (k := 6) [] (C := [inR ((M.1 10 0 13) + 1)]) (pc' := 57) (ls' := [some (.inr (.inr (10, 0))), some (.inl x1), some (.inl x2), some (.inl x3), some (.inl x4)]) (st' := []) (M' := setI M 10 0 13 ((M.1 10 0 13) + 1)) rfl h.1 ?_
      replace h := h.2
      refine Bd (P := fun M1_1 : Mm => Wp 1 1019 57 [some (.inr (.inr (10, 0))), some (.inl x1), some (.inl x2), some (.inl x3), some (.inl x4)] [] M1_1 (rI Q)) ?_
      intro M1_1 e_M1_1
      replace h := h M1_1 e_M1_1
      refine Wp.path (k := 1) [] (C := []) (pc' := 59) (ls' := [some (.inr (.inr (10, 0))), some (.inl x1), some (.inl x2), some (.inl x3), some (.inl x4)]) (st' := [.inl x4]) (M' := M1_1) rfl trivial ?_
      rcases Decidable.em (x4 = 0) with c_3 | c_3
      · replace h := h.1 c_3
        refine Wp.path (k := 1) [1] (C := [x4 = 0]) (pc' := 101) (ls' := [some (.inr (.inr (10, 0))), some (.inl x1), some (.inl x2), some (.inl x3), some (.inl x4)]) (st' := []) (M' := M1_1) rfl c_3 ?_
        refine Wp.path (k := 3) [] (C := []) (pc' := 105) (ls' := [some (.inr (.inr (10, 0))), some (.inl x1), some (.inl x2), some (.inl x3), some (.inl x4)]) (st' := [.inl x2, .inl x1, .inl x4]) (M' := M1_1) rfl trivial ?_
        refine Wp.call (e1002) rfl rfl (by decide) ?_
        rintro v_ M_ ⟨eM_, ev_⟩
        rw [eM_, ev_]
        clear eM_ ev_ v_ M_
        show Wp 1 1019 108 [some (.inr (.inr (10, 0))), some (.inl x1), some (.inl x2), some (.inl x3), some (.inl x4)] [.inl (inV x4 x1 x2)] M1_1 (rI Q)
        rcases Decidable.em (inV x4 x1 x2 = 0) with c_4 | c_4
        · replace h := h.2 c_4
          refine Wp.path (k := 1) [0] (C := [inV x4 x1 x2 = 0]) (pc' := 111) (ls' := [some (.inr (.inr (10, 0))), some (.inl x1), some (.inl x2), some (.inl x3), some (.inl x4)]) (st' := []) (M' := M1_1) rfl c_4 ?_
          refine Wp.path (k := 3) [] (C := []) (pc' := 116) (ls' := [some (.inr (.inr (10, 0))), some (.inl x1), some (.inl x2), some (.inl x3), some (.inl x4)]) (st' := []) (M' := setI M1_1 10 0 14 x3) rfl trivial ?_
          refine Bd (P := fun M1_2 : Mm => Wp 1 1019 116 [some (.inr (.inr (10, 0))), some (.inl x1), some (.inl x2), some (.inl x3), some (.inl x4)] [] M1_2 (rI Q)) ?_
          intro M1_2 e_M1_2
          replace h := h M1_2 e_M1_2
          refine Wp.path (k := 1) [] (C := []) (pc' := 117) (ls' := [some (.inr (.inr (10, 0))), some (.inl x1), some (.inl x2), some (.inl x3), some (.inl x4)]) (st' := [.inl x1]) (M' := M1_2) rfl trivial ?_
          exact Wp.ret rfl ⟨_, rfl, h⟩
        · replace h := h.1 c_4
          refine Wp.path (k := 1) [1] (C := [inV x4 x1 x2 ≠ 0]) (pc' := 118) (ls' := [some (.inr (.inr (10, 0))), some (.inl x1), some (.inl x2), some (.inl x3), some (.inl x4)]) (st' := []) (M' := M1_1) rfl c_4 ?_
          refine Wp.path (k := 1) [] (C := []) (pc' := 120) (ls' := [some (.inr (.inr (10, 0))), some (.inl x1), some (.inl x2), some (.inl x3), some (.inl x4)]) (st' := [.inl x4]) (M' := M1_1) rfl trivial ?_
          exact Wp.ret rfl ⟨_, rfl, h⟩
      · replace h := h.2 c_3
        refine Wp.path (k := 1) [0] (C := [x4 ≠ 0]) (pc' := 62) (ls' := [some (.inr (.inr (10, 0))), some (.inl x1), some (.inl x2), some (.inl x3), some (.inl x4)]) (st' := []) (M' := M1_1) rfl c_3 ?_
        refine Wp.path (k := 1) [] (C := []) (pc' := 63) (ls' := [some (.inr (.inr (10, 0))), some (.inl x1), some (.inl x2), some (.inl x3), some (.inl x4)]) (st' := [.inr (.inr (10, 0))]) (M' := M1_1) rfl trivial ?_
        refine Wp.call (e1017 h.1.1 h.1.2) rfl rfl (by decide) ?_
        replace h := h.2
        rintro v_ M_ ⟨eM_, ev_⟩
        rw [eM_, ev_]
        clear eM_ ev_ v_ M_
        show Wp 1 1019 66 [some (.inr (.inr (10, 0))), some (.inl x1), some (.inl x2), some (.inl x3), some (.inl x4)] [.inl (ltV (M1_1.1 1110 0) (M1_1.1 10 0 13) (M1_1.1 10 0 11))] M1_1 (rI Q)
        refine Wp.path (k := 2) [] (C := []) (pc' := 70) (ls' := [some (.inr (.inr (10, 0))), some (.inl x1), some (.inl x2), some (.inl x3), some (.inl x4)]) (st' := [.inl 57, .inl 48, .inl (ltV (M1_1.1 1110 0) (M1_1.1 10 0 13) (M1_1.1 10 0 11))]) (M' := M1_1) rfl trivial ?_
        refine Wp.call (e1002) rfl rfl (by decide) ?_
        rintro v_ M_ ⟨eM_, ev_⟩
        rw [eM_, ev_]
        clear eM_ ev_ v_ M_
        show Wp 1 1019 73 [some (.inr (.inr (10, 0))), some (.inl x1), some (.inl x2), some (.inl x3), some (.inl x4)] [.inl (inV (ltV (M1_1.1 1110 0) (M1_1.1 10 0 13) (M1_1.1 10 0 11)) 48 57)] M1_1 (rI Q)
        rcases Decidable.em (inV (ltV (M1_1.1 1110 0) (M1_1.1 10 0 13) (M1_1.1 10 0 11)) 48 57 = 0) with c_5 | c_5
        · replace h := h.1 c_5
          refine Wp.path (k := 1) [1] (C := [inV (ltV (M1_1.1 1110 0) (M1_1.1 10 0 13) (M1_1.1 10 0 11)) 48 57 = 0]) (pc' := 101) (ls' := [some (.inr (.inr (10, 0))), some (.inl x1), some (.inl x2), some (.inl x3), some (.inl x4)]) (st' := []) (M' := M1_1) rfl c_5 ?_
          refine Wp.path (k := 3) [] (C := []) (pc' := 105) (ls' := [some (.inr (.inr (10, 0))), some (.inl x1), some (.inl x2), some (.inl x3), some (.inl x4)]) (st' := [.inl x2, .inl x1, .inl x4]) (M' := M1_1) rfl trivial ?_
          refine Wp.call (e1002) rfl rfl (by decide) ?_
          rintro v_ M_ ⟨eM_, ev_⟩
          rw [eM_, ev_]
          clear eM_ ev_ v_ M_
          show Wp 1 1019 108 [some (.inr (.inr (10, 0))), some (.inl x1), some (.inl x2), some (.inl x3), some (.inl x4)] [.inl (inV x4 x1 x2)] M1_1 (rI Q)
          rcases Decidable.em (inV x4 x1 x2 = 0) with c_6 | c_6
          · replace h := h.2 c_6
            refine Wp.path (k := 1) [0] (C := [inV x4 x1 x2 = 0]) (pc' := 111) (ls' := [some (.inr (.inr (10, 0))), some (.inl x1), some (.inl x2), some (.inl x3), some (.inl x4)]) (st' := []) (M' := M1_1) rfl c_6 ?_
            refine Wp.path (k := 3) [] (C := []) (pc' := 116) (ls' := [some (.inr (.inr (10, 0))), some (.inl x1), some (.inl x2), some (.inl x3), some (.inl x4)]) (st' := []) (M' := setI M1_1 10 0 14 x3) rfl trivial ?_
            refine Bd (P := fun M1_3 : Mm => Wp 1 1019 116 [some (.inr (.inr (10, 0))), some (.inl x1), some (.inl x2), some (.inl x3), some (.inl x4)] [] M1_3 (rI Q)) ?_
            intro M1_3 e_M1_3
            replace h := h M1_3 e_M1_3
            refine Wp.path (k := 1) [] (C := []) (pc' := 117) (ls' := [some (.inr (.inr (10, 0))), some (.inl x1), some (.inl x2), some (.inl x3), some (.inl x4)]) (st' := [.inl x1]) (M' := M1_3) rfl trivial ?_
            exact Wp.ret rfl ⟨_, rfl, h⟩
          · replace h := h.1 c_6
            refine Wp.path (k := 1) [1] (C := [inV x4 x1 x2 ≠ 0]) (pc' := 118) (ls' := [some (.inr (.inr (10, 0))), some (.inl x1), some (.inl x2), some (.inl x3), some (.inl x4)]) (st' := []) (M' := M1_1) rfl c_6 ?_
            refine Wp.path (k := 1) [] (C := []) (pc' := 120) (ls' := [some (.inr (.inr (10, 0))), some (.inl x1), some (.inl x2), some (.inl x3), some (.inl x4)]) (st' := [.inl x4]) (M' := M1_1) rfl trivial ?_
            exact Wp.ret rfl ⟨_, rfl, h⟩
        · replace h := h.2 c_5
          refine Wp.path (k := 1) [0] (C := [inV (ltV (M1_1.1 1110 0) (M1_1.1 10 0 13) (M1_1.1 10 0 11)) 48 57 ≠ 0]) (pc' := 76) (ls' := [some (.inr (.inr (10, 0))), some (.inl x1), some (.inl x2), some (.inl x3), some (.inl x4)]) (st' := []) (M' := M1_1) rfl c_5 ?_
          refine Wp.path (k := 4) [] (C := [inR (10 * x4)]) (pc' := 82) (ls' := [some (.inr (.inr (10, 0))), some (.inl x1), some (.inl x2), some (.inl x3), some (.inl x4)]) (st' := [.inr (.inr (10, 0)), .inl (10 * x4)]) (M' := M1_1) rfl h.1 ?_
          replace h := h.2
          refine Wp.call (e1017 h.1.1 h.1.2) rfl rfl (by decide) ?_
          replace h := h.2
          rintro v_ M_ ⟨eM_, ev_⟩
          rw [eM_, ev_]
          clear eM_ ev_ v_ M_
          show Wp 1 1019 85 [some (.inr (.inr (10, 0))), some (.inl x1), some (.inl x2), some (.inl x3), some (.inl x4)] [.inl (ltV (M1_1.1 1110 0) (M1_1.1 10 0 13) (M1_1.1 10 0 11)), .inl (10 * x4)] M1_1 (rI Q)
          refine Wp.path (k := 4) [] (C := [inR ((10 * x4) + (ltV (M1_1.1 1110 0) (M1_1.1 10 0 13) (M1_1.1 10 0 11))), inR (((10 * x4) + (ltV (M1_1.1 1110 0) (M1_1.1 10 0 13) (M1_1.1 10 0 11))) - 48)]) (pc' := 91) (ls' := [some (.inr (.inr (10, 0))), some (.inl x1), some (.inl x2), some (.inl x3), some (.inl (((10 * x4) + (ltV (M1_1.1 1110 0) (M1_1.1 10 0 13) (M1_1.1 10 0 11))) - 48))]) (st' := []) (M' := M1_1) rfl ⟨h.1.1, h.1.2⟩ ?_
          replace h := h.2
          refine Bd (P := fun x4_1 : Int => Wp 1 1019 91 [some (.inr (.inr (10, 0))), some (.inl x1), some (.inl x2), some (.inl x3), some (.inl x4_1)] [] M1_1 (rI Q)) ?_
          intro x4_1 e_x4_1
          replace h := h x4_1 e_x4_1
          refine Wp.path (k := 6) [] (C := [inR ((M1_1.1 10 0 13) + 1)]) (pc' := 101) (ls' := [some (.inr (.inr (10, 0))), some (.inl x1), some (.inl x2), some (.inl x3), some (.inl x4_1)]) (st' := []) (M' := setI M1_1 10 0 13 ((M1_1.1 10 0 13) + 1)) rfl h.1 ?_
          replace h := h.2
          refine Bd (P := fun M1_4 : Mm => Wp 1 1019 101 [some (.inr (.inr (10, 0))), some (.inl x1), some (.inl x2), some (.inl x3), some (.inl x4_1)] [] M1_4 (rI Q)) ?_
          intro M1_4 e_M1_4
          replace h := h M1_4 e_M1_4
          refine Wp.path (k := 3) [] (C := []) (pc' := 105) (ls' := [some (.inr (.inr (10, 0))), some (.inl x1), some (.inl x2), some (.inl x3), some (.inl x4_1)]) (st' := [.inl x2, .inl x1, .inl x4_1]) (M' := M1_4) rfl trivial ?_
          refine Wp.call (e1002) rfl rfl (by decide) ?_
          rintro v_ M_ ⟨eM_, ev_⟩
          rw [eM_, ev_]
          clear eM_ ev_ v_ M_
          show Wp 1 1019 108 [some (.inr (.inr (10, 0))), some (.inl x1), some (.inl x2), some (.inl x3), some (.inl x4_1)] [.inl (inV x4_1 x1 x2)] M1_4 (rI Q)
          rcases Decidable.em (inV x4_1 x1 x2 = 0) with c_7 | c_7
          · replace h := h.2 c_7
            refine Wp.path (k := 1) [0] (C := [inV x4_1 x1 x2 = 0]) (pc' := 111) (ls' := [some (.inr (.inr (10, 0))), some (.inl x1), some (.inl x2), some (.inl x3), some (.inl x4_1)]) (st' := []) (M' := M1_4) rfl c_7 ?_
            refine Wp.path (k := 3) [] (C := []) (pc' := 116) (ls' := [some (.inr (.inr (10, 0))), some (.inl x1), some (.inl x2), some (.inl x3), some (.inl x4_1)]) (st' := []) (M' := setI M1_4 10 0 14 x3) rfl trivial ?_
            refine Bd (P := fun M1_5 : Mm => Wp 1 1019 116 [some (.inr (.inr (10, 0))), some (.inl x1), some (.inl x2), some (.inl x3), some (.inl x4_1)] [] M1_5 (rI Q)) ?_
            intro M1_5 e_M1_5
            replace h := h M1_5 e_M1_5
            refine Wp.path (k := 1) [] (C := []) (pc' := 117) (ls' := [some (.inr (.inr (10, 0))), some (.inl x1), some (.inl x2), some (.inl x3), some (.inl x4_1)]) (st' := [.inl x1]) (M' := M1_5) rfl trivial ?_
            exact Wp.ret rfl ⟨_, rfl, h⟩
          · replace h := h.1 c_7
            refine Wp.path (k := 1) [1] (C := [inV x4_1 x1 x2 ≠ 0]) (pc' := 118) (ls' := [some (.inr (.inr (10, 0))), some (.inl x1), some (.inl x2), some (.inl x3), some (.inl x4_1)]) (st' := []) (M' := M1_4) rfl c_7 ?_
            refine Wp.path (k := 1) [] (C := []) (pc' := 120) (ls' := [some (.inr (.inr (10, 0))), some (.inl x1), some (.inl x2), some (.inl x3), some (.inl x4_1)]) (st' := [.inl x4_1]) (M' := M1_4) rfl trivial ?_
            exact Wp.ret rfl ⟨_, rfl, h⟩
  · replace h := h.2 c_1
    refine Wp.path (k := 1) [0] (C := [0 ≤ M.1 10 0 14]) (pc' := 7) (ls' := [some (.inr (.inr (10, 0))), some (.inl x1), some (.inl x2), none, none]) (st' := []) (M' := M) rfl c_1 ?_
    refine Wp.path (k := 1) [] (C := []) (pc' := 8) (ls' := [some (.inr (.inr (10, 0))), some (.inl x1), some (.inl x2), none, none]) (st' := [.inl x1]) (M' := M) rfl trivial ?_
    exact Wp.ret rfl ⟨_, rfl, h⟩
/-- X10_copies -/
def E_1006_1105_1115 (x1 : Int) (x3 : Int) (M : Mm) (Q : Mm → Prop) : Prop := Ev 0 1006 [.inr (.inr (1105, 0)), .inl x1, .inr (.inr (1115, 0)), .inl x3] M (rV Q)
theorem m_1006_1105_1115 {x1 : Int} {x3 : Int} {M : Mm} {Q Q1 : Mm → Prop} (h : E_1006_1105_1115 x1 x3 M Q) (k : (∀ M1, Q M1 → Q1 M1)) : E_1006_1105_1115 x1 x3 M Q1 := Ev.mono h (fun v M1 h => ⟨h.1, k _ h.2⟩)
def L_1006_1105_1115_3 (x1 : Int) (x3 : Int) (x4 : Int) (M : Mm) (Q : Mm → Prop) : Prop := Wp 0 1006 3 [some (.inr (.inr (1105, 0))), some (.inl x1), some (.inr (.inr (1115, 0))), some (.inl x3), some (.inl x4)] [] M (rV Q)
theorem s_1006_1105_1115_0 {x1 : Int} {x3 : Int} {M : Mm} {Q : Mm → Prop} (h : (L_1006_1105_1115_3 x1 x3 0 M Q)) : E_1006_1105_1115 x1 x3 M Q := by
  show Wp 0 1006 0 [some (.inr (.inr (1105, 0))), some (.inl x1), some (.inr (.inr (1115, 0))), some (.inl x3), none] [] M (rV Q)
  refine Wp.path (k := 2) [] (C := []) (pc' := 3) (ls' := [some (.inr (.inr (1105, 0))), some (.inl x1), some (.inr (.inr (1115, 0))), some (.inl x3), some (.inl 0)]) (st' := []) (M' := M) rfl trivial ?_
  exact h
theorem s_1006_1105_1115_3 {x1 : Int} {x3 : Int} {x4 : Int} {M : Mm} {Q : Mm → Prop} (h : ((12 ≤ x4 → (Q M)) ∧ (x4 < 12 → (((-2147483648 ≤ x3 + x4 ∧ x3 + x4 ≤ 2147483647) ∧ (-2147483648 ≤ x1 + x4 ∧ x1 + x4 ≤ 2147483647) ∧ (0 ≤ x1 + x4 ∧ x1 + x4 < 12) ∧ (0 ≤ x3 + x4 ∧ x3 + x4 < 12)) ∧ (∀ M1 : Mm, M1 = setI M 1115 0 ((x3 + x4).toNat) (M.1 1105 0 ((x1 + x4).toNat)) → (((-2147483648 ≤ x4 + 1 ∧ x4 + 1 ≤ 2147483647)) ∧ (L_1006_1105_1115_3 x1 x3 (x4 + 1) M1 Q))))))) : L_1006_1105_1115_3 x1 x3 x4 M Q := by
  show Wp 0 1006 3 [some (.inr (.inr (1105, 0))), some (.inl x1), some (.inr (.inr (1115, 0))), some (.inl x3), some (.inl x4)] [] M (rV Q)
  refine Wp.path (k := 2) [] (C := []) (pc' := 7) (ls' := [some (.inr (.inr (1105, 0))), some (.inl x1), some (.inr (.inr (1115, 0))), some (.inl x3), some (.inl x4)]) (st' := [.inl 12, .inl x4]) (M' := M) rfl trivial ?_
  rcases Int.lt_or_le (x4) (12) with c_1 | c_1
  · replace h := h.2 c_1
    refine Wp.path (k := 1) [0] (C := [x4 < 12]) (pc' := 10) (ls' := [some (.inr (.inr (1105, 0))), some (.inl x1), some (.inr (.inr (1115, 0))), some (.inl x3), some (.inl x4)]) (st' := []) (M' := M) rfl c_1 ?_
    refine Wp.path (k := 10) [] (C := [inR (x3 + x4), inR (x1 + x4), 0 ≤ x1 + x4 ∧ x1 + x4 < 12, 0 ≤ x3 + x4 ∧ x3 + x4 < 12]) (pc' := 22) (ls' := [some (.inr (.inr (1105, 0))), some (.inl x1), some (.inr (.inr (1115, 0))), some (.inl x3), some (.inl x4)]) (st' := []) (M' := setI M 1115 0 ((x3 + x4).toNat) (M.1 1105 0 ((x1 + x4).toNat))) rfl ⟨h.1.1, h.1.2.1, h.1.2.2.1, h.1.2.2.2⟩ ?_
    replace h := h.2
    refine Bd (P := fun M1 : Mm => Wp 0 1006 22 [some (.inr (.inr (1105, 0))), some (.inl x1), some (.inr (.inr (1115, 0))), some (.inl x3), some (.inl x4)] [] M1 (rV Q)) ?_
    intro M1 e_M1
    replace h := h M1 e_M1
    refine Wp.path (k := 2) [] (C := [inR (x4 + 1)]) (pc' := 3) (ls' := [some (.inr (.inr (1105, 0))), some (.inl x1), some (.inr (.inr (1115, 0))), some (.inl x3), some (.inl (x4 + 1))]) (st' := []) (M' := M1) rfl h.1 ?_
    replace h := h.2
    exact h
  · replace h := h.1 c_1
    refine Wp.path (k := 1) [1] (C := [12 ≤ x4]) (pc' := 28) (ls' := [some (.inr (.inr (1105, 0))), some (.inl x1), some (.inr (.inr (1115, 0))), some (.inl x3), some (.inl x4)]) (st' := []) (M' := M) rfl c_1 ?_
    exact Wp.ret rfl ⟨rfl, h⟩
/-- X10_turns -/
def E_1020 (x1 : Int) (M : Mm) (Q : Mm → Prop) : Prop := Ev 1 1020 [.inr (.inr (10, 0)), .inl x1] M (rV Q)
theorem m_1020 {x1 : Int} {M : Mm} {Q Q1 : Mm → Prop} (h : E_1020 x1 M Q) (k : (∀ M1, Q M1 → Q1 M1)) : E_1020 x1 M Q1 := Ev.mono h (fun v M1 h => ⟨h.1, k _ h.2⟩)
def L_1020_17 (x1 : Int) (x3 : Int) (M : Mm) (Q : Mm → Prop) : Prop := ∀ o4 : Option Vv, Wp 1 1020 17 [some (.inr (.inr (10, 0))), some (.inl x1), some (.inr (.inr (1115, 0))), some (.inl x3), o4] [] M (rV Q)
def L_1020_38 (x1 : Int) (x3 : Int) (M : Mm) (Q : Mm → Prop) : Prop := ∀ o4 : Option Vv, Wp 1 1020 38 [some (.inr (.inr (10, 0))), some (.inl x1), some (.inr (.inr (1115, 0))), some (.inl x3), o4] [] M (rV Q)
def L_1020_47 (x1 : Int) (x3 : Int) (x4 : Int) (M : Mm) (Q : Mm → Prop) : Prop := Wp 1 1020 47 [some (.inr (.inr (10, 0))), some (.inl x1), some (.inr (.inr (1115, 0))), some (.inl x3), some (.inl x4)] [] M (rV Q)
theorem s_1020_0 {x1 : Int} {M : Mm} {Q : Mm → Prop} (h : (E_1006_1105_1115 0 0 M (fun M1 : Mm => (L_1020_17 x1 0 M1 Q)))) : E_1020 x1 M Q := by
  show Wp 1 1020 0 [some (.inr (.inr (10, 0))), some (.inl x1), none, none, none] [] M (rV Q)
  refine Wp.path (k := 8) [] (C := []) (pc' := 12) (ls' := [some (.inr (.inr (10, 0))), some (.inl x1), some (.inr (.inr (1115, 0))), none, none]) (st' := [.inl 0, .inr (.inr (1115, 0)), .inl 0, .inr (.inr (1105, 0))]) (M' := M) rfl trivial ?_
  refine Wp.call h rfl rfl (by decide) ?_
  rintro _ M1 ⟨rfl, h⟩
  show Wp 1 1020 15 [some (.inr (.inr (10, 0))), some (.inl x1), some (.inr (.inr (1115, 0))), none, none] [] M1 (rV Q)
  refine Wp.path (k := 2) [] (C := []) (pc' := 17) (ls' := [some (.inr (.inr (10, 0))), some (.inl x1), some (.inr (.inr (1115, 0))), some (.inl 0), none]) (st' := []) (M' := M1) rfl trivial ?_
  exact h _
theorem s_1020_17 {x1 : Int} {x3 : Int} {M : Mm} {Q : Mm → Prop} (h : ((12 ≤ x3 → (L_1020_38 x1 0 M Q)) ∧ (x3 < 12 → (((0 ≤ x3 ∧ x3 < 12)) ∧ (∀ M1 : Mm, M1 = setI M 1105 0 x3.toNat 0 → (((-2147483648 ≤ x3 + 1 ∧ x3 + 1 ≤ 2147483647)) ∧ (L_1020_17 x1 (x3 + 1) M1 Q))))))) : L_1020_17 x1 x3 M Q := by
  intro o4
  show Wp 1 1020 17 [some (.inr (.inr (10, 0))), some (.inl x1), some (.inr (.inr (1115, 0))), some (.inl x3), o4] [] M (rV Q)
  refine Wp.path (k := 2) [] (C := []) (pc' := 20) (ls' := [some (.inr (.inr (10, 0))), some (.inl x1), some (.inr (.inr (1115, 0))), some (.inl x3), o4]) (st' := [.inl 12, .inl x3]) (M' := M) rfl trivial ?_
  rcases Int.lt_or_le (x3) (12) with c_1 | c_1
  · replace h := h.2 c_1
    refine Wp.path (k := 1) [0] (C := [x3 < 12]) (pc' := 23) (ls' := [some (.inr (.inr (10, 0))), some (.inl x1), some (.inr (.inr (1115, 0))), some (.inl x3), o4]) (st' := []) (M' := M) rfl c_1 ?_
    refine Wp.path (k := 5) [] (C := [0 ≤ x3 ∧ x3 < 12]) (pc' := 30) (ls' := [some (.inr (.inr (10, 0))), some (.inl x1), some (.inr (.inr (1115, 0))), some (.inl x3), o4]) (st' := []) (M' := setI M 1105 0 x3.toNat 0) rfl h.1 ?_
    replace h := h.2
    refine Bd (P := fun M1 : Mm => Wp 1 1020 30 [some (.inr (.inr (10, 0))), some (.inl x1), some (.inr (.inr (1115, 0))), some (.inl x3), o4] [] M1 (rV Q)) ?_
    intro M1 e_M1
    replace h := h M1 e_M1
    refine Wp.path (k := 2) [] (C := [inR (x3 + 1)]) (pc' := 17) (ls' := [some (.inr (.inr (10, 0))), some (.inl x1), some (.inr (.inr (1115, 0))), some (.inl (x3 + 1)), o4]) (st' := []) (M' := M1) rfl h.1 ?_
    replace h := h.2
    exact h _
  · replace h := h.1 c_1
    refine Wp.path (k := 1) [1] (C := [12 ≤ x3]) (pc' := 36) (ls' := [some (.inr (.inr (10, 0))), some (.inl x1), some (.inr (.inr (1115, 0))), some (.inl x3), o4]) (st' := []) (M' := M) rfl c_1 ?_
    refine Wp.path (k := 2) [] (C := []) (pc' := 38) (ls' := [some (.inr (.inr (10, 0))), some (.inl x1), some (.inr (.inr (1115, 0))), some (.inl 0), o4]) (st' := []) (M' := M) rfl trivial ?_
    exact h _
theorem s_1020_38 {x1 : Int} {x3 : Int} {M : Mm} {Q : Mm → Prop} (h : ((12 ≤ x3 → (Q M)) ∧ (x3 < 12 → (L_1020_47 x1 x3 0 M Q)))) : L_1020_38 x1 x3 M Q := by
  intro o4
  show Wp 1 1020 38 [some (.inr (.inr (10, 0))), some (.inl x1), some (.inr (.inr (1115, 0))), some (.inl x3), o4] [] M (rV Q)
  refine Wp.path (k := 2) [] (C := []) (pc' := 41) (ls' := [some (.inr (.inr (10, 0))), some (.inl x1), some (.inr (.inr (1115, 0))), some (.inl x3), o4]) (st' := [.inl 12, .inl x3]) (M' := M) rfl trivial ?_
  rcases Int.lt_or_le (x3) (12) with c_1 | c_1
  · replace h := h.2 c_1
    refine Wp.path (k := 1) [0] (C := [x3 < 12]) (pc' := 44) (ls' := [some (.inr (.inr (10, 0))), some (.inl x1), some (.inr (.inr (1115, 0))), some (.inl x3), o4]) (st' := []) (M' := M) rfl c_1 ?_
    refine Wp.path (k := 2) [] (C := []) (pc' := 47) (ls' := [some (.inr (.inr (10, 0))), some (.inl x1), some (.inr (.inr (1115, 0))), some (.inl x3), some (.inl 0)]) (st' := []) (M' := M) rfl trivial ?_
    exact h
  · replace h := h.1 c_1
    refine Wp.path (k := 1) [1] (C := [12 ≤ x3]) (pc' := 119) (ls' := [some (.inr (.inr (10, 0))), some (.inl x1), some (.inr (.inr (1115, 0))), some (.inl x3), o4]) (st' := []) (M' := M) rfl c_1 ?_
    exact Wp.ret rfl ⟨rfl, h⟩
theorem s_1020_47 {x1 : Int} {x3 : Int} {x4 : Int} {M : Mm} {Q : Mm → Prop} (h : ((12 ≤ x4 → (((-2147483648 ≤ x3 + 1 ∧ x3 + 1 ≤ 2147483647)) ∧ (L_1020_38 x1 (x3 + 1) M Q))) ∧ (x4 < 12 → (((0 ≤ x3 ∧ x3 < 12)) ∧ ((ian (isr (M.1 1115 0 x3.toNat) x4) 1 ≠ 0 → ((x1 = 0 → (((0 ≤ x4 ∧ x4 < 12) ∧ (-2147483648 ≤ 11 - x3 ∧ 11 - x3 ≤ 2147483647)) ∧ (∀ M1 : Mm, M1 = setI M 1105 0 x4.toNat (ior' (M.1 1105 0 x4.toNat) (ish 1 (11 - x3))) → (((-2147483648 ≤ x4 + 1 ∧ x4 + 1 ≤ 2147483647)) ∧ (L_1020_47 x1 x3 (x4 + 1) M1 Q))))) ∧ (x1 ≠ 0 → (((0 ≤ x3 ∧ x3 < 12) ∧ (-2147483648 ≤ 11 - x4 ∧ 11 - x4 ≤ 2147483647)) ∧ (∀ M1_1 : Mm, M1_1 = setI M 1105 0 x3.toNat (ior' (M.1 1105 0 x3.toNat) (ish 1 (11 - x4))) → (((-2147483648 ≤ x4 + 1 ∧ x4 + 1 ≤ 2147483647)) ∧ (L_1020_47 x1 x3 (x4 + 1) M1_1 Q))))))) ∧ (ian (isr (M.1 1115 0 x3.toNat) x4) 1 = 0 → (((-2147483648 ≤ x4 + 1 ∧ x4 + 1 ≤ 2147483647)) ∧ (L_1020_47 x1 x3 (x4 + 1) M Q)))))))) : L_1020_47 x1 x3 x4 M Q := by
  show Wp 1 1020 47 [some (.inr (.inr (10, 0))), some (.inl x1), some (.inr (.inr (1115, 0))), some (.inl x3), some (.inl x4)] [] M (rV Q)
  refine Wp.path (k := 2) [] (C := []) (pc' := 51) (ls' := [some (.inr (.inr (10, 0))), some (.inl x1), some (.inr (.inr (1115, 0))), some (.inl x3), some (.inl x4)]) (st' := [.inl 12, .inl x4]) (M' := M) rfl trivial ?_
  rcases Int.lt_or_le (x4) (12) with c_1 | c_1
  · replace h := h.2 c_1
    refine Wp.path (k := 1) [0] (C := [x4 < 12]) (pc' := 54) (ls' := [some (.inr (.inr (10, 0))), some (.inl x1), some (.inr (.inr (1115, 0))), some (.inl x3), some (.inl x4)]) (st' := []) (M' := M) rfl c_1 ?_
    refine Wp.path (k := 7) [] (C := [0 ≤ x3 ∧ x3 < 12]) (pc' := 62) (ls' := [some (.inr (.inr (10, 0))), some (.inl x1), some (.inr (.inr (1115, 0))), some (.inl x3), some (.inl x4)]) (st' := [.inl (ian (isr (M.1 1115 0 x3.toNat) x4) 1)]) (M' := M) rfl h.1 ?_
    replace h := h.2
    rcases Decidable.em (ian (isr (M.1 1115 0 x3.toNat) x4) 1 = 0) with c_2 | c_2
    · replace h := h.2 c_2
      refine Wp.path (k := 1) [0] (C := [ian (isr (M.1 1115 0 x3.toNat) x4) 1 = 0]) (pc' := 65) (ls' := [some (.inr (.inr (10, 0))), some (.inl x1), some (.inr (.inr (1115, 0))), some (.inl x3), some (.inl x4)]) (st' := []) (M' := M) rfl c_2 ?_
      refine Wp.path (k := 3) [] (C := [inR (x4 + 1)]) (pc' := 47) (ls' := [some (.inr (.inr (10, 0))), some (.inl x1), some (.inr (.inr (1115, 0))), some (.inl x3), some (.inl (x4 + 1))]) (st' := []) (M' := M) rfl h.1 ?_
      replace h := h.2
      exact h
    · replace h := h.1 c_2
      refine Wp.path (k := 1) [1] (C := [ian (isr (M.1 1115 0 x3.toNat) x4) 1 ≠ 0]) (pc' := 68) (ls' := [some (.inr (.inr (10, 0))), some (.inl x1), some (.inr (.inr (1115, 0))), some (.inl x3), some (.inl x4)]) (st' := []) (M' := M) rfl c_2 ?_
      refine Wp.path (k := 1) [] (C := []) (pc' := 69) (ls' := [some (.inr (.inr (10, 0))), some (.inl x1), some (.inr (.inr (1115, 0))), some (.inl x3), some (.inl x4)]) (st' := [.inl x1]) (M' := M) rfl trivial ?_
      rcases Decidable.em (x1 = 0) with c_3 | c_3
      · replace h := h.1 c_3
        refine Wp.path (k := 1) [1] (C := [x1 = 0]) (pc' := 91) (ls' := [some (.inr (.inr (10, 0))), some (.inl x1), some (.inr (.inr (1115, 0))), some (.inl x3), some (.inl x4)]) (st' := []) (M' := M) rfl c_3 ?_
        refine Wp.path (k := 12) [] (C := [0 ≤ x4 ∧ x4 < 12, inR (11 - x3), 0 ≤ x4 ∧ x4 < 12]) (pc' := 107) (ls' := [some (.inr (.inr (10, 0))), some (.inl x1), some (.inr (.inr (1115, 0))), some (.inl x3), some (.inl x4)]) (st' := []) (M' := setI M 1105 0 x4.toNat (ior' (M.1 1105 0 x4.toNat) (ish 1 (11 - x3)))) rfl ⟨h.1.1, h.1.2, h.1.1⟩ ?_
        replace h := h.2
        refine Bd (P := fun M1 : Mm => Wp 1 1020 107 [some (.inr (.inr (10, 0))), some (.inl x1), some (.inr (.inr (1115, 0))), some (.inl x3), some (.inl x4)] [] M1 (rV Q)) ?_
        intro M1 e_M1
        replace h := h M1 e_M1
        refine Wp.path (k := 2) [] (C := [inR (x4 + 1)]) (pc' := 47) (ls' := [some (.inr (.inr (10, 0))), some (.inl x1), some (.inr (.inr (1115, 0))), some (.inl x3), some (.inl (x4 + 1))]) (st' := []) (M' := M1) rfl h.1 ?_
        replace h := h.2
        exact h
      · replace h := h.2 c_3
        refine Wp.path (k := 1) [0] (C := [x1 ≠ 0]) (pc' := 72) (ls' := [some (.inr (.inr (10, 0))), some (.inl x1), some (.inr (.inr (1115, 0))), some (.inl x3), some (.inl x4)]) (st' := []) (M' := M) rfl c_3 ?_
        refine Wp.path (k := 12) [] (C := [0 ≤ x3 ∧ x3 < 12, inR (11 - x4), 0 ≤ x3 ∧ x3 < 12]) (pc' := 88) (ls' := [some (.inr (.inr (10, 0))), some (.inl x1), some (.inr (.inr (1115, 0))), some (.inl x3), some (.inl x4)]) (st' := []) (M' := setI M 1105 0 x3.toNat (ior' (M.1 1105 0 x3.toNat) (ish 1 (11 - x4)))) rfl ⟨h.1.1, h.1.2, h.1.1⟩ ?_
        replace h := h.2
        refine Bd (P := fun M1_1 : Mm => Wp 1 1020 88 [some (.inr (.inr (10, 0))), some (.inl x1), some (.inr (.inr (1115, 0))), some (.inl x3), some (.inl x4)] [] M1_1 (rV Q)) ?_
        intro M1_1 e_M1_1
        replace h := h M1_1 e_M1_1
        refine Wp.path (k := 3) [] (C := [inR (x4 + 1)]) (pc' := 47) (ls' := [some (.inr (.inr (10, 0))), some (.inl x1), some (.inr (.inr (1115, 0))), some (.inl x3), some (.inl (x4 + 1))]) (st' := []) (M' := M1_1) rfl h.1 ?_
        replace h := h.2
        exact h
  · replace h := h.1 c_1
    refine Wp.path (k := 1) [1] (C := [12 ≤ x4]) (pc' := 113) (ls' := [some (.inr (.inr (10, 0))), some (.inl x1), some (.inr (.inr (1115, 0))), some (.inl x3), some (.inl x4)]) (st' := []) (M' := M) rfl c_1 ?_
    refine Wp.path (k := 2) [] (C := [inR (x3 + 1)]) (pc' := 38) (ls' := [some (.inr (.inr (10, 0))), some (.inl x1), some (.inr (.inr (1115, 0))), some (.inl (x3 + 1)), some (.inl x4)]) (st' := []) (M' := M) rfl h.1 ?_
    replace h := h.2
    exact h _
/-- X10_command -/
def E_1021 (M : Mm) (Q : Mm → Prop) : Prop := Ev 2 1021 [.inr (.inr (10, 0))] M (rV Q)
theorem m_1021 {M : Mm} {Q Q1 : Mm → Prop} (h : E_1021 M Q) (k : (∀ M1, Q M1 → Q1 M1)) : E_1021 M Q1 := Ev.mono h (fun v M1 h => ⟨h.1, k _ h.2⟩)
theorem s_1021_0 {M : Mm} {Q : Mm → Prop} (h : ((0 ≤ M.1 10 0 13 ∧ M.1 10 0 11 ≤ 60) ∧ (∀ x1 : Int, x1 = ltV (M.1 1110 0) (M.1 10 0 13) (M.1 10 0 11) → ((x1 = 114 → (((-2147483648 ≤ (M.1 10 0 13) + 1 ∧ (M.1 10 0 13) + 1 ≤ 2147483647)) ∧ (∀ M1 : Mm, M1 = setI M 10 0 13 ((M.1 10 0 13) + 1) → (E_1018 59 M1 (fun M1_1 : Mm => ((0 ≤ M1_1.1 10 0 14 → (Q M1_1)) ∧ (M1_1.1 10 0 14 < 0 → (∀ b : Int, b = (if x1 ≠ 109 then 0 else 1) → (E_1020 b M1_1 (fun M1_2 : Mm => (Q M1_2))))))))))) ∧ (x1 ≠ 114 → ((x1 ≠ 109 → ((x1 = 43 → (((-2147483648 ≤ (M.1 10 0 13) + 1 ∧ (M.1 10 0 13) + 1 ≤ 2147483647)) ∧ (∀ M1_6 : Mm, M1_6 = setI M 10 0 13 ((M.1 10 0 13) + 1) → (E_1019 0 11 M1_6 (fun (r : Int) (M1_7 : Mm) => (E_1018 44 M1_7 (fun M1_8 : Mm => (E_1019 0 11 M1_8 (fun (r_1 : Int) (M1_9 : Mm) => (E_1018 44 M1_9 (fun M1_10 : Mm => ((-2147483648 ≤ 12 - r ∧ 12 - r ≤ 2147483647)) ∧ (E_1019 1 (12 - r) M1_10 (fun (r_2 : Int) (M1_11 : Mm) => (E_1018 44 M1_11 (fun M1_12 : Mm => ((-2147483648 ≤ 12 - r_1 ∧ 12 - r_1 ≤ 2147483647)) ∧ (E_1019 1 (12 - r_1) M1_12 (fun (r_3 : Int) (M1_13 : Mm) => (E_1018 59 M1_13 (fun M1_14 : Mm => ((0 ≤ M1_14.1 10 0 14 → (Q M1_14)) ∧ (M1_14.1 10 0 14 < 0 → (∀ b_2 : Int, b_2 = (if x1 ≠ 43 then (if x1 ≠ 45 then 2 else 1) else 0) → (E_1009 b_2 r r_1 r_2 r_3 M1_14 (fun M1_15 : Mm => (Q M1_15))))))))))))))))))))))))) ∧ (x1 ≠ 43 → ((x1 = 45 → (((-2147483648 ≤ (M.1 10 0 13) + 1 ∧ (M.1 10 0 13) + 1 ≤ 2147483647)) ∧ (∀ M1_16 : Mm, M1_16 = setI M 10 0 13 ((M.1 10 0 13) + 1) → (E_1019 0 11 M1_16 (fun (r_4 : Int) (M1_17 : Mm) => (E_1018 44 M1_17 (fun M1_18 : Mm => (E_1019 0 11 M1_18 (fun (r_5 : Int) (M1_19 : Mm) => (E_1018 44 M1_19 (fun M1_20 : Mm => ((-2147483648 ≤ 12 - r_4 ∧ 12 - r_4 ≤ 2147483647)) ∧ (E_1019 1 (12 - r_4) M1_20 (fun (r_6 : Int) (M1_21 : Mm) => (E_1018 44 M1_21 (fun M1_22 : Mm => ((-2147483648 ≤ 12 - r_5 ∧ 12 - r_5 ≤ 2147483647)) ∧ (E_1019 1 (12 - r_5) M1_22 (fun (r_7 : Int) (M1_23 : Mm) => (E_1018 59 M1_23 (fun M1_24 : Mm => ((0 ≤ M1_24.1 10 0 14 → (Q M1_24)) ∧ (M1_24.1 10 0 14 < 0 → (∀ b_3 : Int, b_3 = (if x1 ≠ 43 then (if x1 ≠ 45 then 2 else 1) else 0) → (E_1009 b_3 r_4 r_5 r_6 r_7 M1_24 (fun M1_25 : Mm => (Q M1_25))))))))))))))))))))))))) ∧ (x1 ≠ 45 → ((x1 = 94 → (((-2147483648 ≤ (M.1 10 0 13) + 1 ∧ (M.1 10 0 13) + 1 ≤ 2147483647)) ∧ (∀ M1_26 : Mm, M1_26 = setI M 10 0 13 ((M.1 10 0 13) + 1) → (E_1019 0 11 M1_26 (fun (r_8 : Int) (M1_27 : Mm) => (E_1018 44 M1_27 (fun M1_28 : Mm => (E_1019 0 11 M1_28 (fun (r_9 : Int) (M1_29 : Mm) => (E_1018 44 M1_29 (fun M1_30 : Mm => ((-2147483648 ≤ 12 - r_8 ∧ 12 - r_8 ≤ 2147483647)) ∧ (E_1019 1 (12 - r_8) M1_30 (fun (r_10 : Int) (M1_31 : Mm) => (E_1018 44 M1_31 (fun M1_32 : Mm => ((-2147483648 ≤ 12 - r_9 ∧ 12 - r_9 ≤ 2147483647)) ∧ (E_1019 1 (12 - r_9) M1_32 (fun (r_11 : Int) (M1_33 : Mm) => (E_1018 59 M1_33 (fun M1_34 : Mm => ((0 ≤ M1_34.1 10 0 14 → (Q M1_34)) ∧ (M1_34.1 10 0 14 < 0 → (∀ b_4 : Int, b_4 = (if x1 ≠ 43 then (if x1 ≠ 45 then 2 else 1) else 0) → (E_1009 b_4 r_8 r_9 r_10 r_11 M1_34 (fun M1_35 : Mm => (Q M1_35))))))))))))))))))))))))) ∧ (x1 ≠ 94 → (∀ M1_36 : Mm, M1_36 = setI M 10 0 14 (M.1 10 0 13) → (Q M1_36))))))))) ∧ (x1 = 109 → (((-2147483648 ≤ (M.1 10 0 13) + 1 ∧ (M.1 10 0 13) + 1 ≤ 2147483647)) ∧ (∀ M1_3 : Mm, M1_3 = setI M 10 0 13 ((M.1 10 0 13) + 1) → (E_1018 59 M1_3 (fun M1_4 : Mm => ((0 ≤ M1_4.1 10 0 14 → (Q M1_4)) ∧ (M1_4.1 10 0 14 < 0 → (∀ b_1 : Int, b_1 = (if x1 ≠ 109 then 0 else 1) → (E_1020 b_1 M1_4 (fun M1_5 : Mm => (Q M1_5))))))))))))))))) : E_1021 M Q := by
  show Wp 2 1021 0 [some (.inr (.inr (10, 0))), none, none, none, none, none] [] M (rV Q)
  refine Wp.path (k := 1) [] (C := []) (pc' := 1) (ls' := [some (.inr (.inr (10, 0))), none, none, none, none, none]) (st' := [.inr (.inr (10, 0))]) (M' := M) rfl trivial ?_
  refine Wp.call (e1017 h.1.1 h.1.2) rfl rfl (by decide) ?_
  replace h := h.2
  rintro v_ M_ ⟨eM_, ev_⟩
  rw [eM_, ev_]
  clear eM_ ev_ v_ M_
  show Wp 2 1021 4 [some (.inr (.inr (10, 0))), none, none, none, none, none] [.inl (ltV (M.1 1110 0) (M.1 10 0 13) (M.1 10 0 11))] M (rV Q)
  refine Wp.path (k := 1) [] (C := []) (pc' := 5) (ls' := [some (.inr (.inr (10, 0))), some (.inl (ltV (M.1 1110 0) (M.1 10 0 13) (M.1 10 0 11))), none, none, none, none]) (st' := []) (M' := M) rfl trivial ?_
  refine Bd (P := fun x1 : Int => Wp 2 1021 5 [some (.inr (.inr (10, 0))), some (.inl x1), none, none, none, none] [] M (rV Q)) ?_
  intro x1 e_x1
  replace h := h x1 e_x1
  refine Wp.path (k := 2) [] (C := []) (pc' := 8) (ls' := [some (.inr (.inr (10, 0))), some (.inl x1), none, none, none, none]) (st' := [.inl 114, .inl x1]) (M' := M) rfl trivial ?_
  rcases Decidable.em (x1 = 114) with c_1 | c_1
  · replace h := h.1 c_1
    refine Wp.path (k := 1) [1] (C := [x1 = 114]) (pc' := 17) (ls' := [some (.inr (.inr (10, 0))), some (.inl x1), none, none, none, none]) (st' := []) (M' := M) rfl c_1 ?_
    refine Wp.path (k := 6) [] (C := [inR ((M.1 10 0 13) + 1)]) (pc' := 27) (ls' := [some (.inr (.inr (10, 0))), some (.inl x1), none, none, none, none]) (st' := []) (M' := setI M 10 0 13 ((M.1 10 0 13) + 1)) rfl h.1 ?_
    replace h := h.2
    refine Bd (P := fun M1 : Mm => Wp 2 1021 27 [some (.inr (.inr (10, 0))), some (.inl x1), none, none, none, none] [] M1 (rV Q)) ?_
    intro M1 e_M1
    replace h := h M1 e_M1
    refine Wp.path (k := 2) [] (C := []) (pc' := 30) (ls' := [some (.inr (.inr (10, 0))), some (.inl x1), none, none, none, none]) (st' := [.inl 59, .inr (.inr (10, 0))]) (M' := M1) rfl trivial ?_
    refine Wp.call h rfl rfl (by decide) ?_
    rintro _ M1_1 ⟨rfl, h⟩
    show Wp 2 1021 33 [some (.inr (.inr (10, 0))), some (.inl x1), none, none, none, none] [] M1_1 (rV Q)
    refine Wp.path (k := 2) [] (C := []) (pc' := 37) (ls' := [some (.inr (.inr (10, 0))), some (.inl x1), none, none, none, none]) (st' := [.inl (M1_1.1 10 0 14)]) (M' := M1_1) rfl trivial ?_
    rcases Int.lt_or_le (M1_1.1 10 0 14) (0) with c_2 | c_2
    · replace h := h.2 c_2
      refine Wp.path (k := 1) [0] (C := [M1_1.1 10 0 14 < 0]) (pc' := 40) (ls' := [some (.inr (.inr (10, 0))), some (.inl x1), none, none, none, none]) (st' := []) (M' := M1_1) rfl c_2 ?_
      refine Wp.path (k := 3) [] (C := []) (pc' := 44) (ls' := [some (.inr (.inr (10, 0))), some (.inl x1), none, none, none, none]) (st' := [.inl 109, .inl x1, .inr (.inr (10, 0))]) (M' := M1_1) rfl trivial ?_
      have k_3 : ∀ b : Int, b = (if x1 ≠ 109 then 0 else 1) → Wp 2 1021 52 [some (.inr (.inr (10, 0))), some (.inl x1), none, none, none, none] [.inl b, .inr (.inr (10, 0))] M1_1 (rV Q) := by
        intro b e_b
        replace h := h b e_b
        refine Wp.call h rfl rfl (by decide) ?_
        rintro _ M1_2 ⟨rfl, h⟩
        show Wp 2 1021 55 [some (.inr (.inr (10, 0))), some (.inl x1), none, none, none, none] [] M1_2 (rV Q)
        exact Wp.ret rfl ⟨rfl, h⟩
      clear h
      rcases Decidable.em (x1 = 109) with c_4 | c_4
      · refine Wp.path (k := 1) [0] (C := [x1 = 109]) (pc' := 47) (ls' := [some (.inr (.inr (10, 0))), some (.inl x1), none, none, none, none]) (st' := [.inr (.inr (10, 0))]) (M' := M1_1) rfl c_4 ?_
        refine Wp.path (k := 2) [] (C := []) (pc' := 52) (ls' := [some (.inr (.inr (10, 0))), some (.inl x1), none, none, none, none]) (st' := [.inl 1, .inr (.inr (10, 0))]) (M' := M1_1) rfl trivial ?_
        exact k_3 _ (by rw [if_neg (not_not_intro c_4)])
      · refine Wp.path (k := 1) [1] (C := [x1 ≠ 109]) (pc' := 51) (ls' := [some (.inr (.inr (10, 0))), some (.inl x1), none, none, none, none]) (st' := [.inr (.inr (10, 0))]) (M' := M1_1) rfl c_4 ?_
        refine Wp.path (k := 1) [] (C := []) (pc' := 52) (ls' := [some (.inr (.inr (10, 0))), some (.inl x1), none, none, none, none]) (st' := [.inl 0, .inr (.inr (10, 0))]) (M' := M1_1) rfl trivial ?_
        exact k_3 _ (by rw [if_pos c_4])
    · replace h := h.1 c_2
      refine Wp.path (k := 1) [1] (C := [0 ≤ M1_1.1 10 0 14]) (pc' := 55) (ls' := [some (.inr (.inr (10, 0))), some (.inl x1), none, none, none, none]) (st' := []) (M' := M1_1) rfl c_2 ?_
      exact Wp.ret rfl ⟨rfl, h⟩
  · replace h := h.2 c_1
    refine Wp.path (k := 1) [0] (C := [x1 ≠ 114]) (pc' := 11) (ls' := [some (.inr (.inr (10, 0))), some (.inl x1), none, none, none, none]) (st' := []) (M' := M) rfl c_1 ?_
    refine Wp.path (k := 2) [] (C := []) (pc' := 14) (ls' := [some (.inr (.inr (10, 0))), some (.inl x1), none, none, none, none]) (st' := [.inl 109, .inl x1]) (M' := M) rfl trivial ?_
    rcases Decidable.em (x1 = 109) with c_5 | c_5
    · replace h := h.2 c_5
      refine Wp.path (k := 1) [0] (C := [x1 = 109]) (pc' := 17) (ls' := [some (.inr (.inr (10, 0))), some (.inl x1), none, none, none, none]) (st' := []) (M' := M) rfl c_5 ?_
      refine Wp.path (k := 6) [] (C := [inR ((M.1 10 0 13) + 1)]) (pc' := 27) (ls' := [some (.inr (.inr (10, 0))), some (.inl x1), none, none, none, none]) (st' := []) (M' := setI M 10 0 13 ((M.1 10 0 13) + 1)) rfl h.1 ?_
      replace h := h.2
      refine Bd (P := fun M1_3 : Mm => Wp 2 1021 27 [some (.inr (.inr (10, 0))), some (.inl x1), none, none, none, none] [] M1_3 (rV Q)) ?_
      intro M1_3 e_M1_3
      replace h := h M1_3 e_M1_3
      refine Wp.path (k := 2) [] (C := []) (pc' := 30) (ls' := [some (.inr (.inr (10, 0))), some (.inl x1), none, none, none, none]) (st' := [.inl 59, .inr (.inr (10, 0))]) (M' := M1_3) rfl trivial ?_
      refine Wp.call h rfl rfl (by decide) ?_
      rintro _ M1_4 ⟨rfl, h⟩
      show Wp 2 1021 33 [some (.inr (.inr (10, 0))), some (.inl x1), none, none, none, none] [] M1_4 (rV Q)
      refine Wp.path (k := 2) [] (C := []) (pc' := 37) (ls' := [some (.inr (.inr (10, 0))), some (.inl x1), none, none, none, none]) (st' := [.inl (M1_4.1 10 0 14)]) (M' := M1_4) rfl trivial ?_
      rcases Int.lt_or_le (M1_4.1 10 0 14) (0) with c_6 | c_6
      · replace h := h.2 c_6
        refine Wp.path (k := 1) [0] (C := [M1_4.1 10 0 14 < 0]) (pc' := 40) (ls' := [some (.inr (.inr (10, 0))), some (.inl x1), none, none, none, none]) (st' := []) (M' := M1_4) rfl c_6 ?_
        refine Wp.path (k := 3) [] (C := []) (pc' := 44) (ls' := [some (.inr (.inr (10, 0))), some (.inl x1), none, none, none, none]) (st' := [.inl 109, .inl x1, .inr (.inr (10, 0))]) (M' := M1_4) rfl trivial ?_
        have k_7 : ∀ b_1 : Int, b_1 = (if x1 ≠ 109 then 0 else 1) → Wp 2 1021 52 [some (.inr (.inr (10, 0))), some (.inl x1), none, none, none, none] [.inl b_1, .inr (.inr (10, 0))] M1_4 (rV Q) := by
          intro b_1 e_b_1
          replace h := h b_1 e_b_1
          refine Wp.call h rfl rfl (by decide) ?_
          rintro _ M1_5 ⟨rfl, h⟩
          show Wp 2 1021 55 [some (.inr (.inr (10, 0))), some (.inl x1), none, none, none, none] [] M1_5 (rV Q)
          exact Wp.ret rfl ⟨rfl, h⟩
        clear h
        rcases Decidable.em (x1 = 109) with c_8 | c_8
        · refine Wp.path (k := 1) [0] (C := [x1 = 109]) (pc' := 47) (ls' := [some (.inr (.inr (10, 0))), some (.inl x1), none, none, none, none]) (st' := [.inr (.inr (10, 0))]) (M' := M1_4) rfl c_8 ?_
          refine Wp.path (k := 2) [] (C := []) (pc' := 52) (ls' := [some (.inr (.inr (10, 0))), some (.inl x1), none, none, none, none]) (st' := [.inl 1, .inr (.inr (10, 0))]) (M' := M1_4) rfl trivial ?_
          exact k_7 _ (by rw [if_neg (not_not_intro c_8)])
        · refine Wp.path (k := 1) [1] (C := [x1 ≠ 109]) (pc' := 51) (ls' := [some (.inr (.inr (10, 0))), some (.inl x1), none, none, none, none]) (st' := [.inr (.inr (10, 0))]) (M' := M1_4) rfl c_8 ?_
          refine Wp.path (k := 1) [] (C := []) (pc' := 52) (ls' := [some (.inr (.inr (10, 0))), some (.inl x1), none, none, none, none]) (st' := [.inl 0, .inr (.inr (10, 0))]) (M' := M1_4) rfl trivial ?_
          exact k_7 _ (by rw [if_pos c_8])
      · replace h := h.1 c_6
        refine Wp.path (k := 1) [1] (C := [0 ≤ M1_4.1 10 0 14]) (pc' := 55) (ls' := [some (.inr (.inr (10, 0))), some (.inl x1), none, none, none, none]) (st' := []) (M' := M1_4) rfl c_6 ?_
        exact Wp.ret rfl ⟨rfl, h⟩
    · replace h := h.1 c_5
      refine Wp.path (k := 1) [1] (C := [x1 ≠ 109]) (pc' := 56) (ls' := [some (.inr (.inr (10, 0))), some (.inl x1), none, none, none, none]) (st' := []) (M' := M) rfl c_5 ?_
      refine Wp.path (k := 2) [] (C := []) (pc' := 59) (ls' := [some (.inr (.inr (10, 0))), some (.inl x1), none, none, none, none]) (st' := [.inl 43, .inl x1]) (M' := M) rfl trivial ?_
      rcases Decidable.em (x1 = 43) with c_9 | c_9
      · replace h := h.1 c_9
        refine Wp.path (k := 1) [1] (C := [x1 = 43]) (pc' := 83) (ls' := [some (.inr (.inr (10, 0))), some (.inl x1), none, none, none, none]) (st' := []) (M' := M) rfl c_9 ?_
        refine Wp.path (k := 6) [] (C := [inR ((M.1 10 0 13) + 1)]) (pc' := 93) (ls' := [some (.inr (.inr (10, 0))), some (.inl x1), none, none, none, none]) (st' := []) (M' := setI M 10 0 13 ((M.1 10 0 13) + 1)) rfl h.1 ?_
        replace h := h.2
        refine Bd (P := fun M1_6 : Mm => Wp 2 1021 93 [some (.inr (.inr (10, 0))), some (.inl x1), none, none, none, none] [] M1_6 (rV Q)) ?_
        intro M1_6 e_M1_6
        replace h := h M1_6 e_M1_6
        refine Wp.path (k := 3) [] (C := []) (pc' := 97) (ls' := [some (.inr (.inr (10, 0))), some (.inl x1), none, none, none, none]) (st' := [.inl 11, .inl 0, .inr (.inr (10, 0))]) (M' := M1_6) rfl trivial ?_
        refine Wp.call h rfl rfl (by decide) ?_
        rintro _ M1_7 ⟨r, rfl, h⟩
        show Wp 2 1021 100 [some (.inr (.inr (10, 0))), some (.inl x1), none, none, none, none] [.inl r] M1_7 (rV Q)
        refine Wp.path (k := 3) [] (C := []) (pc' := 104) (ls' := [some (.inr (.inr (10, 0))), some (.inl x1), some (.inl r), none, none, none]) (st' := [.inl 44, .inr (.inr (10, 0))]) (M' := M1_7) rfl trivial ?_
        refine Wp.call h rfl rfl (by decide) ?_
        rintro _ M1_8 ⟨rfl, h⟩
        show Wp 2 1021 107 [some (.inr (.inr (10, 0))), some (.inl x1), some (.inl r), none, none, none] [] M1_8 (rV Q)
        refine Wp.path (k := 3) [] (C := []) (pc' := 111) (ls' := [some (.inr (.inr (10, 0))), some (.inl x1), some (.inl r), none, none, none]) (st' := [.inl 11, .inl 0, .inr (.inr (10, 0))]) (M' := M1_8) rfl trivial ?_
        refine Wp.call h rfl rfl (by decide) ?_
        rintro _ M1_9 ⟨r_1, rfl, h⟩
        show Wp 2 1021 114 [some (.inr (.inr (10, 0))), some (.inl x1), some (.inl r), none, none, none] [.inl r_1] M1_9 (rV Q)
        refine Wp.path (k := 3) [] (C := []) (pc' := 118) (ls' := [some (.inr (.inr (10, 0))), some (.inl x1), some (.inl r), some (.inl r_1), none, none]) (st' := [.inl 44, .inr (.inr (10, 0))]) (M' := M1_9) rfl trivial ?_
        refine Wp.call h rfl rfl (by decide) ?_
        rintro _ M1_10 ⟨rfl, h⟩
        show Wp 2 1021 121 [some (.inr (.inr (10, 0))), some (.inl x1), some (.inl r), some (.inl r_1), none, none] [] M1_10 (rV Q)
        refine Wp.path (k := 5) [] (C := [inR (12 - r)]) (pc' := 127) (ls' := [some (.inr (.inr (10, 0))), some (.inl x1), some (.inl r), some (.inl r_1), none, none]) (st' := [.inl (12 - r), .inl 1, .inr (.inr (10, 0))]) (M' := M1_10) rfl h.1 ?_
        replace h := h.2
        refine Wp.call h rfl rfl (by decide) ?_
        rintro _ M1_11 ⟨r_2, rfl, h⟩
        show Wp 2 1021 130 [some (.inr (.inr (10, 0))), some (.inl x1), some (.inl r), some (.inl r_1), none, none] [.inl r_2] M1_11 (rV Q)
        refine Wp.path (k := 3) [] (C := []) (pc' := 135) (ls' := [some (.inr (.inr (10, 0))), some (.inl x1), some (.inl r), some (.inl r_1), some (.inl r_2), none]) (st' := [.inl 44, .inr (.inr (10, 0))]) (M' := M1_11) rfl trivial ?_
        refine Wp.call h rfl rfl (by decide) ?_
        rintro _ M1_12 ⟨rfl, h⟩
        show Wp 2 1021 138 [some (.inr (.inr (10, 0))), some (.inl x1), some (.inl r), some (.inl r_1), some (.inl r_2), none] [] M1_12 (rV Q)
        refine Wp.path (k := 5) [] (C := [inR (12 - r_1)]) (pc' := 144) (ls' := [some (.inr (.inr (10, 0))), some (.inl x1), some (.inl r), some (.inl r_1), some (.inl r_2), none]) (st' := [.inl (12 - r_1), .inl 1, .inr (.inr (10, 0))]) (M' := M1_12) rfl h.1 ?_
        replace h := h.2
        refine Wp.call h rfl rfl (by decide) ?_
        rintro _ M1_13 ⟨r_3, rfl, h⟩
        show Wp 2 1021 147 [some (.inr (.inr (10, 0))), some (.inl x1), some (.inl r), some (.inl r_1), some (.inl r_2), none] [.inl r_3] M1_13 (rV Q)
        refine Wp.path (k := 3) [] (C := []) (pc' := 152) (ls' := [some (.inr (.inr (10, 0))), some (.inl x1), some (.inl r), some (.inl r_1), some (.inl r_2), some (.inl r_3)]) (st' := [.inl 59, .inr (.inr (10, 0))]) (M' := M1_13) rfl trivial ?_
        refine Wp.call h rfl rfl (by decide) ?_
        rintro _ M1_14 ⟨rfl, h⟩
        show Wp 2 1021 155 [some (.inr (.inr (10, 0))), some (.inl x1), some (.inl r), some (.inl r_1), some (.inl r_2), some (.inl r_3)] [] M1_14 (rV Q)
        refine Wp.path (k := 2) [] (C := []) (pc' := 159) (ls' := [some (.inr (.inr (10, 0))), some (.inl x1), some (.inl r), some (.inl r_1), some (.inl r_2), some (.inl r_3)]) (st' := [.inl (M1_14.1 10 0 14)]) (M' := M1_14) rfl trivial ?_
        rcases Int.lt_or_le (M1_14.1 10 0 14) (0) with c_10 | c_10
        · replace h := h.2 c_10
          refine Wp.path (k := 1) [0] (C := [M1_14.1 10 0 14 < 0]) (pc' := 162) (ls' := [some (.inr (.inr (10, 0))), some (.inl x1), some (.inl r), some (.inl r_1), some (.inl r_2), some (.inl r_3)]) (st' := []) (M' := M1_14) rfl c_10 ?_
          refine Wp.path (k := 3) [] (C := []) (pc' := 166) (ls' := [some (.inr (.inr (10, 0))), some (.inl x1), some (.inl r), some (.inl r_1), some (.inl r_2), some (.inl r_3)]) (st' := [.inl 43, .inl x1, .inr (.inr (10, 0))]) (M' := M1_14) rfl trivial ?_
          have k_11 : ∀ b_2 : Int, b_2 = (if x1 ≠ 43 then (if x1 ≠ 45 then 2 else 1) else 0) → Wp 2 1021 184 [some (.inr (.inr (10, 0))), some (.inl x1), some (.inl r), some (.inl r_1), some (.inl r_2), some (.inl r_3)] [.inl b_2, .inr (.inr (10, 0))] M1_14 (rV Q) := by
            intro b_2 e_b_2
            replace h := h b_2 e_b_2
            refine Wp.path (k := 4) [] (C := []) (pc' := 190) (ls' := [some (.inr (.inr (10, 0))), some (.inl x1), some (.inl r), some (.inl r_1), some (.inl r_2), some (.inl r_3)]) (st' := [.inl r_3, .inl r_2, .inl r_1, .inl r, .inl b_2, .inr (.inr (10, 0))]) (M' := M1_14) rfl trivial ?_
            refine Wp.call h rfl rfl (by decide) ?_
            rintro _ M1_15 ⟨rfl, h⟩
            show Wp 2 1021 193 [some (.inr (.inr (10, 0))), some (.inl x1), some (.inl r), some (.inl r_1), some (.inl r_2), some (.inl r_3)] [] M1_15 (rV Q)
            exact Wp.ret rfl ⟨rfl, h⟩
          clear h
          rcases Decidable.em (x1 = 43) with c_12 | c_12
          · refine Wp.path (k := 1) [0] (C := [x1 = 43]) (pc' := 169) (ls' := [some (.inr (.inr (10, 0))), some (.inl x1), some (.inl r), some (.inl r_1), some (.inl r_2), some (.inl r_3)]) (st' := [.inr (.inr (10, 0))]) (M' := M1_14) rfl c_12 ?_
            refine Wp.path (k := 2) [] (C := []) (pc' := 184) (ls' := [some (.inr (.inr (10, 0))), some (.inl x1), some (.inl r), some (.inl r_1), some (.inl r_2), some (.inl r_3)]) (st' := [.inl 0, .inr (.inr (10, 0))]) (M' := M1_14) rfl trivial ?_
            exact k_11 _ (by rw [if_neg (not_not_intro c_12)])
          · refine Wp.path (k := 1) [1] (C := [x1 ≠ 43]) (pc' := 173) (ls' := [some (.inr (.inr (10, 0))), some (.inl x1), some (.inl r), some (.inl r_1), some (.inl r_2), some (.inl r_3)]) (st' := [.inr (.inr (10, 0))]) (M' := M1_14) rfl c_12 ?_
            refine Wp.path (k := 2) [] (C := []) (pc' := 176) (ls' := [some (.inr (.inr (10, 0))), some (.inl x1), some (.inl r), some (.inl r_1), some (.inl r_2), some (.inl r_3)]) (st' := [.inl 45, .inl x1, .inr (.inr (10, 0))]) (M' := M1_14) rfl trivial ?_
            rcases Decidable.em (x1 = 45) with c_13 | c_13
            · refine Wp.path (k := 1) [0] (C := [x1 = 45]) (pc' := 179) (ls' := [some (.inr (.inr (10, 0))), some (.inl x1), some (.inl r), some (.inl r_1), some (.inl r_2), some (.inl r_3)]) (st' := [.inr (.inr (10, 0))]) (M' := M1_14) rfl c_13 ?_
              refine Wp.path (k := 2) [] (C := []) (pc' := 184) (ls' := [some (.inr (.inr (10, 0))), some (.inl x1), some (.inl r), some (.inl r_1), some (.inl r_2), some (.inl r_3)]) (st' := [.inl 1, .inr (.inr (10, 0))]) (M' := M1_14) rfl trivial ?_
              exact k_11 _ (by rw [if_pos c_12, if_neg (not_not_intro c_13)])
            · refine Wp.path (k := 1) [1] (C := [x1 ≠ 45]) (pc' := 183) (ls' := [some (.inr (.inr (10, 0))), some (.inl x1), some (.inl r), some (.inl r_1), some (.inl r_2), some (.inl r_3)]) (st' := [.inr (.inr (10, 0))]) (M' := M1_14) rfl c_13 ?_
              refine Wp.path (k := 1) [] (C := []) (pc' := 184) (ls' := [some (.inr (.inr (10, 0))), some (.inl x1), some (.inl r), some (.inl r_1), some (.inl r_2), some (.inl r_3)]) (st' := [.inl 2, .inr (.inr (10, 0))]) (M' := M1_14) rfl trivial ?_
              exact k_11 _ (by rw [if_pos c_12, if_pos c_13])
        · replace h := h.1 c_10
          refine Wp.path (k := 1) [1] (C := [0 ≤ M1_14.1 10 0 14]) (pc' := 193) (ls' := [some (.inr (.inr (10, 0))), some (.inl x1), some (.inl r), some (.inl r_1), some (.inl r_2), some (.inl r_3)]) (st' := []) (M' := M1_14) rfl c_10 ?_
          exact Wp.ret rfl ⟨rfl, h⟩
      · replace h := h.2 c_9
        refine Wp.path (k := 1) [0] (C := [x1 ≠ 43]) (pc' := 62) (ls' := [some (.inr (.inr (10, 0))), some (.inl x1), none, none, none, none]) (st' := []) (M' := M) rfl c_9 ?_
        refine Wp.path (k := 2) [] (C := []) (pc' := 65) (ls' := [some (.inr (.inr (10, 0))), some (.inl x1), none, none, none, none]) (st' := [.inl 45, .inl x1]) (M' := M) rfl trivial ?_
        rcases Decidable.em (x1 = 45) with c_14 | c_14
        · replace h := h.1 c_14
          refine Wp.path (k := 1) [1] (C := [x1 = 45]) (pc' := 83) (ls' := [some (.inr (.inr (10, 0))), some (.inl x1), none, none, none, none]) (st' := []) (M' := M) rfl c_14 ?_
          refine Wp.path (k := 6) [] (C := [inR ((M.1 10 0 13) + 1)]) (pc' := 93) (ls' := [some (.inr (.inr (10, 0))), some (.inl x1), none, none, none, none]) (st' := []) (M' := setI M 10 0 13 ((M.1 10 0 13) + 1)) rfl h.1 ?_
          replace h := h.2
          refine Bd (P := fun M1_16 : Mm => Wp 2 1021 93 [some (.inr (.inr (10, 0))), some (.inl x1), none, none, none, none] [] M1_16 (rV Q)) ?_
          intro M1_16 e_M1_16
          replace h := h M1_16 e_M1_16
          refine Wp.path (k := 3) [] (C := []) (pc' := 97) (ls' := [some (.inr (.inr (10, 0))), some (.inl x1), none, none, none, none]) (st' := [.inl 11, .inl 0, .inr (.inr (10, 0))]) (M' := M1_16) rfl trivial ?_
          refine Wp.call h rfl rfl (by decide) ?_
          rintro _ M1_17 ⟨r_4, rfl, h⟩
          show Wp 2 1021 100 [some (.inr (.inr (10, 0))), some (.inl x1), none, none, none, none] [.inl r_4] M1_17 (rV Q)
          refine Wp.path (k := 3) [] (C := []) (pc' := 104) (ls' := [some (.inr (.inr (10, 0))), some (.inl x1), some (.inl r_4), none, none, none]) (st' := [.inl 44, .inr (.inr (10, 0))]) (M' := M1_17) rfl trivial ?_
          refine Wp.call h rfl rfl (by decide) ?_
          rintro _ M1_18 ⟨rfl, h⟩
          show Wp 2 1021 107 [some (.inr (.inr (10, 0))), some (.inl x1), some (.inl r_4), none, none, none] [] M1_18 (rV Q)
          refine Wp.path (k := 3) [] (C := []) (pc' := 111) (ls' := [some (.inr (.inr (10, 0))), some (.inl x1), some (.inl r_4), none, none, none]) (st' := [.inl 11, .inl 0, .inr (.inr (10, 0))]) (M' := M1_18) rfl trivial ?_
          refine Wp.call h rfl rfl (by decide) ?_
          rintro _ M1_19 ⟨r_5, rfl, h⟩
          show Wp 2 1021 114 [some (.inr (.inr (10, 0))), some (.inl x1), some (.inl r_4), none, none, none] [.inl r_5] M1_19 (rV Q)
          refine Wp.path (k := 3) [] (C := []) (pc' := 118) (ls' := [some (.inr (.inr (10, 0))), some (.inl x1), some (.inl r_4), some (.inl r_5), none, none]) (st' := [.inl 44, .inr (.inr (10, 0))]) (M' := M1_19) rfl trivial ?_
          refine Wp.call h rfl rfl (by decide) ?_
          rintro _ M1_20 ⟨rfl, h⟩
          show Wp 2 1021 121 [some (.inr (.inr (10, 0))), some (.inl x1), some (.inl r_4), some (.inl r_5), none, none] [] M1_20 (rV Q)
          refine Wp.path (k := 5) [] (C := [inR (12 - r_4)]) (pc' := 127) (ls' := [some (.inr (.inr (10, 0))), some (.inl x1), some (.inl r_4), some (.inl r_5), none, none]) (st' := [.inl (12 - r_4), .inl 1, .inr (.inr (10, 0))]) (M' := M1_20) rfl h.1 ?_
          replace h := h.2
          refine Wp.call h rfl rfl (by decide) ?_
          rintro _ M1_21 ⟨r_6, rfl, h⟩
          show Wp 2 1021 130 [some (.inr (.inr (10, 0))), some (.inl x1), some (.inl r_4), some (.inl r_5), none, none] [.inl r_6] M1_21 (rV Q)
          refine Wp.path (k := 3) [] (C := []) (pc' := 135) (ls' := [some (.inr (.inr (10, 0))), some (.inl x1), some (.inl r_4), some (.inl r_5), some (.inl r_6), none]) (st' := [.inl 44, .inr (.inr (10, 0))]) (M' := M1_21) rfl trivial ?_
          refine Wp.call h rfl rfl (by decide) ?_
          rintro _ M1_22 ⟨rfl, h⟩
          show Wp 2 1021 138 [some (.inr (.inr (10, 0))), some (.inl x1), some (.inl r_4), some (.inl r_5), some (.inl r_6), none] [] M1_22 (rV Q)
          refine Wp.path (k := 5) [] (C := [inR (12 - r_5)]) (pc' := 144) (ls' := [some (.inr (.inr (10, 0))), some (.inl x1), some (.inl r_4), some (.inl r_5), some (.inl r_6), none]) (st' := [.inl (12 - r_5), .inl 1, .inr (.inr (10, 0))]) (M' := M1_22) rfl h.1 ?_
          replace h := h.2
          refine Wp.call h rfl rfl (by decide) ?_
          rintro _ M1_23 ⟨r_7, rfl, h⟩
          show Wp 2 1021 147 [some (.inr (.inr (10, 0))), some (.inl x1), some (.inl r_4), some (.inl r_5), some (.inl r_6), none] [.inl r_7] M1_23 (rV Q)
          refine Wp.path (k := 3) [] (C := []) (pc' := 152) (ls' := [some (.inr (.inr (10, 0))), some (.inl x1), some (.inl r_4), some (.inl r_5), some (.inl r_6), some (.inl r_7)]) (st' := [.inl 59, .inr (.inr (10, 0))]) (M' := M1_23) rfl trivial ?_
          refine Wp.call h rfl rfl (by decide) ?_
          rintro _ M1_24 ⟨rfl, h⟩
          show Wp 2 1021 155 [some (.inr (.inr (10, 0))), some (.inl x1), some (.inl r_4), some (.inl r_5), some (.inl r_6), some (.inl r_7)] [] M1_24 (rV Q)
          refine Wp.path (k := 2) [] (C := []) (pc' := 159) (ls' := [some (.inr (.inr (10, 0))), some (.inl x1), some (.inl r_4), some (.inl r_5), some (.inl r_6), some (.inl r_7)]) (st' := [.inl (M1_24.1 10 0 14)]) (M' := M1_24) rfl trivial ?_
          rcases Int.lt_or_le (M1_24.1 10 0 14) (0) with c_15 | c_15
          · replace h := h.2 c_15
            refine Wp.path (k := 1) [0] (C := [M1_24.1 10 0 14 < 0]) (pc' := 162) (ls' := [some (.inr (.inr (10, 0))), some (.inl x1), some (.inl r_4), some (.inl r_5), some (.inl r_6), some (.inl r_7)]) (st' := []) (M' := M1_24) rfl c_15 ?_
            refine Wp.path (k := 3) [] (C := []) (pc' := 166) (ls' := [some (.inr (.inr (10, 0))), some (.inl x1), some (.inl r_4), some (.inl r_5), some (.inl r_6), some (.inl r_7)]) (st' := [.inl 43, .inl x1, .inr (.inr (10, 0))]) (M' := M1_24) rfl trivial ?_
            have k_16 : ∀ b_3 : Int, b_3 = (if x1 ≠ 43 then (if x1 ≠ 45 then 2 else 1) else 0) → Wp 2 1021 184 [some (.inr (.inr (10, 0))), some (.inl x1), some (.inl r_4), some (.inl r_5), some (.inl r_6), some (.inl r_7)] [.inl b_3, .inr (.inr (10, 0))] M1_24 (rV Q) := by
              intro b_3 e_b_3
              replace h := h b_3 e_b_3
              refine Wp.path (k := 4) [] (C := []) (pc' := 190) (ls' := [some (.inr (.inr (10, 0))), some (.inl x1), some (.inl r_4), some (.inl r_5), some (.inl r_6), some (.inl r_7)]) (st' := [.inl r_7, .inl r_6, .inl r_5, .inl r_4, .inl b_3, .inr (.inr (10, 0))]) (M' := M1_24) rfl trivial ?_
              refine Wp.call h rfl rfl (by decide) ?_
              rintro _ M1_25 ⟨rfl, h⟩
              show Wp 2 1021 193 [some (.inr (.inr (10, 0))), some (.inl x1), some (.inl r_4), some (.inl r_5), some (.inl r_6), some (.inl r_7)] [] M1_25 (rV Q)
              exact Wp.ret rfl ⟨rfl, h⟩
            clear h
            rcases Decidable.em (x1 = 43) with c_17 | c_17
            · refine Wp.path (k := 1) [0] (C := [x1 = 43]) (pc' := 169) (ls' := [some (.inr (.inr (10, 0))), some (.inl x1), some (.inl r_4), some (.inl r_5), some (.inl r_6), some (.inl r_7)]) (st' := [.inr (.inr (10, 0))]) (M' := M1_24) rfl c_17 ?_
              refine Wp.path (k := 2) [] (C := []) (pc' := 184) (ls' := [some (.inr (.inr (10, 0))), some (.inl x1), some (.inl r_4), some (.inl r_5), some (.inl r_6), some (.inl r_7)]) (st' := [.inl 0, .inr (.inr (10, 0))]) (M' := M1_24) rfl trivial ?_
              exact k_16 _ (by rw [if_neg (not_not_intro c_17)])
            · refine Wp.path (k := 1) [1] (C := [x1 ≠ 43]) (pc' := 173) (ls' := [some (.inr (.inr (10, 0))), some (.inl x1), some (.inl r_4), some (.inl r_5), some (.inl r_6), some (.inl r_7)]) (st' := [.inr (.inr (10, 0))]) (M' := M1_24) rfl c_17 ?_
              refine Wp.path (k := 2) [] (C := []) (pc' := 176) (ls' := [some (.inr (.inr (10, 0))), some (.inl x1), some (.inl r_4), some (.inl r_5), some (.inl r_6), some (.inl r_7)]) (st' := [.inl 45, .inl x1, .inr (.inr (10, 0))]) (M' := M1_24) rfl trivial ?_
              rcases Decidable.em (x1 = 45) with c_18 | c_18
              · refine Wp.path (k := 1) [0] (C := [x1 = 45]) (pc' := 179) (ls' := [some (.inr (.inr (10, 0))), some (.inl x1), some (.inl r_4), some (.inl r_5), some (.inl r_6), some (.inl r_7)]) (st' := [.inr (.inr (10, 0))]) (M' := M1_24) rfl c_18 ?_
                refine Wp.path (k := 2) [] (C := []) (pc' := 184) (ls' := [some (.inr (.inr (10, 0))), some (.inl x1), some (.inl r_4), some (.inl r_5), some (.inl r_6), some (.inl r_7)]) (st' := [.inl 1, .inr (.inr (10, 0))]) (M' := M1_24) rfl trivial ?_
                exact k_16 _ (by rw [if_pos c_17, if_neg (not_not_intro c_18)])
              · refine Wp.path (k := 1) [1] (C := [x1 ≠ 45]) (pc' := 183) (ls' := [some (.inr (.inr (10, 0))), some (.inl x1), some (.inl r_4), some (.inl r_5), some (.inl r_6), some (.inl r_7)]) (st' := [.inr (.inr (10, 0))]) (M' := M1_24) rfl c_18 ?_
                refine Wp.path (k := 1) [] (C := []) (pc' := 184) (ls' := [some (.inr (.inr (10, 0))), some (.inl x1), some (.inl r_4), some (.inl r_5), some (.inl r_6), some (.inl r_7)]) (st' := [.inl 2, .inr (.inr (10, 0))]) (M' := M1_24) rfl trivial ?_
                exact k_16 _ (by rw [if_pos c_17, if_pos c_18])
          · replace h := h.1 c_15
            refine Wp.path (k := 1) [1] (C := [0 ≤ M1_24.1 10 0 14]) (pc' := 193) (ls' := [some (.inr (.inr (10, 0))), some (.inl x1), some (.inl r_4), some (.inl r_5), some (.inl r_6), some (.inl r_7)]) (st' := []) (M' := M1_24) rfl c_15 ?_
            exact Wp.ret rfl ⟨rfl, h⟩
        · replace h := h.2 c_14
          refine Wp.path (k := 1) [0] (C := [x1 ≠ 45]) (pc' := 68) (ls' := [some (.inr (.inr (10, 0))), some (.inl x1), none, none, none, none]) (st' := []) (M' := M) rfl c_14 ?_
          refine Wp.path (k := 2) [] (C := []) (pc' := 71) (ls' := [some (.inr (.inr (10, 0))), some (.inl x1), none, none, none, none]) (st' := [.inl 94, .inl x1]) (M' := M) rfl trivial ?_
          rcases Decidable.em (x1 = 94) with c_19 | c_19
          · replace h := h.1 c_19
            refine Wp.path (k := 1) [1] (C := [x1 = 94]) (pc' := 83) (ls' := [some (.inr (.inr (10, 0))), some (.inl x1), none, none, none, none]) (st' := []) (M' := M) rfl c_19 ?_
            refine Wp.path (k := 6) [] (C := [inR ((M.1 10 0 13) + 1)]) (pc' := 93) (ls' := [some (.inr (.inr (10, 0))), some (.inl x1), none, none, none, none]) (st' := []) (M' := setI M 10 0 13 ((M.1 10 0 13) + 1)) rfl h.1 ?_
            replace h := h.2
            refine Bd (P := fun M1_26 : Mm => Wp 2 1021 93 [some (.inr (.inr (10, 0))), some (.inl x1), none, none, none, none] [] M1_26 (rV Q)) ?_
            intro M1_26 e_M1_26
            replace h := h M1_26 e_M1_26
            refine Wp.path (k := 3) [] (C := []) (pc' := 97) (ls' := [some (.inr (.inr (10, 0))), some (.inl x1), none, none, none, none]) (st' := [.inl 11, .inl 0, .inr (.inr (10, 0))]) (M' := M1_26) rfl trivial ?_
            refine Wp.call h rfl rfl (by decide) ?_
            rintro _ M1_27 ⟨r_8, rfl, h⟩
            show Wp 2 1021 100 [some (.inr (.inr (10, 0))), some (.inl x1), none, none, none, none] [.inl r_8] M1_27 (rV Q)
            refine Wp.path (k := 3) [] (C := []) (pc' := 104) (ls' := [some (.inr (.inr (10, 0))), some (.inl x1), some (.inl r_8), none, none, none]) (st' := [.inl 44, .inr (.inr (10, 0))]) (M' := M1_27) rfl trivial ?_
            refine Wp.call h rfl rfl (by decide) ?_
            rintro _ M1_28 ⟨rfl, h⟩
            show Wp 2 1021 107 [some (.inr (.inr (10, 0))), some (.inl x1), some (.inl r_8), none, none, none] [] M1_28 (rV Q)
            refine Wp.path (k := 3) [] (C := []) (pc' := 111) (ls' := [some (.inr (.inr (10, 0))), some (.inl x1), some (.inl r_8), none, none, none]) (st' := [.inl 11, .inl 0, .inr (.inr (10, 0))]) (M' := M1_28) rfl trivial ?_
            refine Wp.call h rfl rfl (by decide) ?_
            rintro _ M1_29 ⟨r_9, rfl, h⟩
            show Wp 2 1021 114 [some (.inr (.inr (10, 0))), some (.inl x1), some (.inl r_8), none, none, none] [.inl r_9] M1_29 (rV Q)
            refine Wp.path (k := 3) [] (C := []) (pc' := 118) (ls' := [some (.inr (.inr (10, 0))), some (.inl x1), some (.inl r_8), some (.inl r_9), none, none]) (st' := [.inl 44, .inr (.inr (10, 0))]) (M' := M1_29) rfl trivial ?_
            refine Wp.call h rfl rfl (by decide) ?_
            rintro _ M1_30 ⟨rfl, h⟩
            show Wp 2 1021 121 [some (.inr (.inr (10, 0))), some (.inl x1), some (.inl r_8), some (.inl r_9), none, none] [] M1_30 (rV Q)
            refine Wp.path (k := 5) [] (C := [inR (12 - r_8)]) (pc' := 127) (ls' := [some (.inr (.inr (10, 0))), some (.inl x1), some (.inl r_8), some (.inl r_9), none, none]) (st' := [.inl (12 - r_8), .inl 1, .inr (.inr (10, 0))]) (M' := M1_30) rfl h.1 ?_
            replace h := h.2
            refine Wp.call h rfl rfl (by decide) ?_
            rintro _ M1_31 ⟨r_10, rfl, h⟩
            show Wp 2 1021 130 [some (.inr (.inr (10, 0))), some (.inl x1), some (.inl r_8), some (.inl r_9), none, none] [.inl r_10] M1_31 (rV Q)
            refine Wp.path (k := 3) [] (C := []) (pc' := 135) (ls' := [some (.inr (.inr (10, 0))), some (.inl x1), some (.inl r_8), some (.inl r_9), some (.inl r_10), none]) (st' := [.inl 44, .inr (.inr (10, 0))]) (M' := M1_31) rfl trivial ?_
            refine Wp.call h rfl rfl (by decide) ?_
            rintro _ M1_32 ⟨rfl, h⟩
            show Wp 2 1021 138 [some (.inr (.inr (10, 0))), some (.inl x1), some (.inl r_8), some (.inl r_9), some (.inl r_10), none] [] M1_32 (rV Q)
            refine Wp.path (k := 5) [] (C := [inR (12 - r_9)]) (pc' := 144) (ls' := [some (.inr (.inr (10, 0))), some (.inl x1), some (.inl r_8), some (.inl r_9), some (.inl r_10), none]) (st' := [.inl (12 - r_9), .inl 1, .inr (.inr (10, 0))]) (M' := M1_32) rfl h.1 ?_
            replace h := h.2
            refine Wp.call h rfl rfl (by decide) ?_
            rintro _ M1_33 ⟨r_11, rfl, h⟩
            show Wp 2 1021 147 [some (.inr (.inr (10, 0))), some (.inl x1), some (.inl r_8), some (.inl r_9), some (.inl r_10), none] [.inl r_11] M1_33 (rV Q)
            refine Wp.path (k := 3) [] (C := []) (pc' := 152) (ls' := [some (.inr (.inr (10, 0))), some (.inl x1), some (.inl r_8), some (.inl r_9), some (.inl r_10), some (.inl r_11)]) (st' := [.inl 59, .inr (.inr (10, 0))]) (M' := M1_33) rfl trivial ?_
            refine Wp.call h rfl rfl (by decide) ?_
            rintro _ M1_34 ⟨rfl, h⟩
            show Wp 2 1021 155 [some (.inr (.inr (10, 0))), some (.inl x1), some (.inl r_8), some (.inl r_9), some (.inl r_10), some (.inl r_11)] [] M1_34 (rV Q)
            refine Wp.path (k := 2) [] (C := []) (pc' := 159) (ls' := [some (.inr (.inr (10, 0))), some (.inl x1), some (.inl r_8), some (.inl r_9), some (.inl r_10), some (.inl r_11)]) (st' := [.inl (M1_34.1 10 0 14)]) (M' := M1_34) rfl trivial ?_
            rcases Int.lt_or_le (M1_34.1 10 0 14) (0) with c_20 | c_20
            · replace h := h.2 c_20
              refine Wp.path (k := 1) [0] (C := [M1_34.1 10 0 14 < 0]) (pc' := 162) (ls' := [some (.inr (.inr (10, 0))), some (.inl x1), some (.inl r_8), some (.inl r_9), some (.inl r_10), some (.inl r_11)]) (st' := []) (M' := M1_34) rfl c_20 ?_
              refine Wp.path (k := 3) [] (C := []) (pc' := 166) (ls' := [some (.inr (.inr (10, 0))), some (.inl x1), some (.inl r_8), some (.inl r_9), some (.inl r_10), some (.inl r_11)]) (st' := [.inl 43, .inl x1, .inr (.inr (10, 0))]) (M' := M1_34) rfl trivial ?_
              have k_21 : ∀ b_4 : Int, b_4 = (if x1 ≠ 43 then (if x1 ≠ 45 then 2 else 1) else 0) → Wp 2 1021 184 [some (.inr (.inr (10, 0))), some (.inl x1), some (.inl r_8), some (.inl r_9), some (.inl r_10), some (.inl r_11)] [.inl b_4, .inr (.inr (10, 0))] M1_34 (rV Q) := by
                intro b_4 e_b_4
                replace h := h b_4 e_b_4
                refine Wp.path (k := 4) [] (C := []) (pc' := 190) (ls' := [some (.inr (.inr (10, 0))), some (.inl x1), some (.inl r_8), some (.inl r_9), some (.inl r_10), some (.inl r_11)]) (st' := [.inl r_11, .inl r_10, .inl r_9, .inl r_8, .inl b_4, .inr (.inr (10, 0))]) (M' := M1_34) rfl trivial ?_
                refine Wp.call h rfl rfl (by decide) ?_
                rintro _ M1_35 ⟨rfl, h⟩
                show Wp 2 1021 193 [some (.inr (.inr (10, 0))), some (.inl x1), some (.inl r_8), some (.inl r_9), some (.inl r_10), some (.inl r_11)] [] M1_35 (rV Q)
                exact Wp.ret rfl ⟨rfl, h⟩
              clear h
              rcases Decidable.em (x1 = 43) with c_22 | c_22
              · refine Wp.path (k := 1) [0] (C := [x1 = 43]) (pc' := 169) (ls' := [some (.inr (.inr (10, 0))), some (.inl x1), some (.inl r_8), some (.inl r_9), some (.inl r_10), some (.inl r_11)]) (st' := [.inr (.inr (10, 0))]) (M' := M1_34) rfl c_22 ?_
                refine Wp.path (k := 2) [] (C := []) (pc' := 184) (ls' := [some (.inr (.inr (10, 0))), some (.inl x1), some (.inl r_8), some (.inl r_9), some (.inl r_10), some (.inl r_11)]) (st' := [.inl 0, .inr (.inr (10, 0))]) (M' := M1_34) rfl trivial ?_
                exact k_21 _ (by rw [if_neg (not_not_intro c_22)])
              · refine Wp.path (k := 1) [1] (C := [x1 ≠ 43]) (pc' := 173) (ls' := [some (.inr (.inr (10, 0))), some (.inl x1), some (.inl r_8), some (.inl r_9), some (.inl r_10), some (.inl r_11)]) (st' := [.inr (.inr (10, 0))]) (M' := M1_34) rfl c_22 ?_
                refine Wp.path (k := 2) [] (C := []) (pc' := 176) (ls' := [some (.inr (.inr (10, 0))), some (.inl x1), some (.inl r_8), some (.inl r_9), some (.inl r_10), some (.inl r_11)]) (st' := [.inl 45, .inl x1, .inr (.inr (10, 0))]) (M' := M1_34) rfl trivial ?_
                rcases Decidable.em (x1 = 45) with c_23 | c_23
                · refine Wp.path (k := 1) [0] (C := [x1 = 45]) (pc' := 179) (ls' := [some (.inr (.inr (10, 0))), some (.inl x1), some (.inl r_8), some (.inl r_9), some (.inl r_10), some (.inl r_11)]) (st' := [.inr (.inr (10, 0))]) (M' := M1_34) rfl c_23 ?_
                  refine Wp.path (k := 2) [] (C := []) (pc' := 184) (ls' := [some (.inr (.inr (10, 0))), some (.inl x1), some (.inl r_8), some (.inl r_9), some (.inl r_10), some (.inl r_11)]) (st' := [.inl 1, .inr (.inr (10, 0))]) (M' := M1_34) rfl trivial ?_
                  exact k_21 _ (by rw [if_pos c_22, if_neg (not_not_intro c_23)])
                · refine Wp.path (k := 1) [1] (C := [x1 ≠ 45]) (pc' := 183) (ls' := [some (.inr (.inr (10, 0))), some (.inl x1), some (.inl r_8), some (.inl r_9), some (.inl r_10), some (.inl r_11)]) (st' := [.inr (.inr (10, 0))]) (M' := M1_34) rfl c_23 ?_
                  refine Wp.path (k := 1) [] (C := []) (pc' := 184) (ls' := [some (.inr (.inr (10, 0))), some (.inl x1), some (.inl r_8), some (.inl r_9), some (.inl r_10), some (.inl r_11)]) (st' := [.inl 2, .inr (.inr (10, 0))]) (M' := M1_34) rfl trivial ?_
                  exact k_21 _ (by rw [if_pos c_22, if_pos c_23])
            · replace h := h.1 c_20
              refine Wp.path (k := 1) [1] (C := [0 ≤ M1_34.1 10 0 14]) (pc' := 193) (ls' := [some (.inr (.inr (10, 0))), some (.inl x1), some (.inl r_8), some (.inl r_9), some (.inl r_10), some (.inl r_11)]) (st' := []) (M' := M1_34) rfl c_20 ?_
              exact Wp.ret rfl ⟨rfl, h⟩
          · replace h := h.2 c_19
            refine Wp.path (k := 1) [0] (C := [x1 ≠ 94]) (pc' := 74) (ls' := [some (.inr (.inr (10, 0))), some (.inl x1), none, none, none, none]) (st' := []) (M' := M) rfl c_19 ?_
            refine Wp.path (k := 4) [] (C := []) (pc' := 82) (ls' := [some (.inr (.inr (10, 0))), some (.inl x1), none, none, none, none]) (st' := []) (M' := setI M 10 0 14 (M.1 10 0 13)) rfl trivial ?_
            refine Bd (P := fun M1_36 : Mm => Wp 2 1021 82 [some (.inr (.inr (10, 0))), some (.inl x1), none, none, none, none] [] M1_36 (rV Q)) ?_
            intro M1_36 e_M1_36
            replace h := h M1_36 e_M1_36
            exact Wp.ret rfl ⟨rfl, h⟩
/-- X10_execute -/
def E_1022 (M : Mm) (Q : Int → Mm → Prop) : Prop := Ev 3 1022 [.inr (.inr (10, 0))] M (rI Q)
theorem m_1022 {M : Mm} {Q Q1 : Int → Mm → Prop} (h : E_1022 M Q) (k : (∀ r M1, Q r M1 → Q1 r M1)) : E_1022 M Q1 := Ev.mono h (fun v M1 ⟨r, h1, h2⟩ => ⟨r, h1, k _ _ h2⟩)
def L_1022_30 (x1 : Int) (M : Mm) (Q : Int → Mm → Prop) : Prop := Wp 3 1022 30 [some (.inr (.inr (10, 0))), some (.inl x1)] [] M (rI Q)
theorem s_1022_0 {M : Mm} {Q : Int → Mm → Prop} (h : (∀ M1 : Mm, M1 = setI M 10 0 0 0 → (∀ M1_1 : Mm, M1_1 = setI M1 10 0 13 0 → (∀ M1_2 : Mm, M1_2 = setI M1_1 10 0 14 (-1) → (E_1006_1101_1105 0 0 M1_2 (fun M1_3 : Mm => (L_1022_30 0 M1_3 Q))))))) : E_1022 M Q := by
  show Wp 3 1022 0 [some (.inr (.inr (10, 0))), none] [] M (rI Q)
  refine Wp.path (k := 3) [] (C := []) (pc' := 5) (ls' := [some (.inr (.inr (10, 0))), none]) (st' := []) (M' := setI M 10 0 0 0) rfl trivial ?_
  refine Bd (P := fun M1 : Mm => Wp 3 1022 5 [some (.inr (.inr (10, 0))), none] [] M1 (rI Q)) ?_
  intro M1 e_M1
  replace h := h M1 e_M1
  refine Wp.path (k := 3) [] (C := []) (pc' := 10) (ls' := [some (.inr (.inr (10, 0))), none]) (st' := []) (M' := setI M1 10 0 13 0) rfl trivial ?_
  refine Bd (P := fun M1_1 : Mm => Wp 3 1022 10 [some (.inr (.inr (10, 0))), none] [] M1_1 (rI Q)) ?_
  intro M1_1 e_M1_1
  replace h := h M1_1 e_M1_1
  refine Wp.path (k := 3) [] (C := []) (pc' := 15) (ls' := [some (.inr (.inr (10, 0))), none]) (st' := []) (M' := setI M1_1 10 0 14 (-1)) rfl trivial ?_
  refine Bd (P := fun M1_2 : Mm => Wp 3 1022 15 [some (.inr (.inr (10, 0))), none] [] M1_2 (rI Q)) ?_
  intro M1_2 e_M1_2
  replace h := h M1_2 e_M1_2
  refine Wp.path (k := 6) [] (C := []) (pc' := 25) (ls' := [some (.inr (.inr (10, 0))), none]) (st' := [.inl 0, .inr (.inr (1105, 0)), .inl 0, .inr (.inr (1101, 0))]) (M' := M1_2) rfl trivial ?_
  refine Wp.call h rfl rfl (by decide) ?_
  rintro _ M1_3 ⟨rfl, h⟩
  show Wp 3 1022 28 [some (.inr (.inr (10, 0))), none] [] M1_3 (rI Q)
  refine Wp.path (k := 2) [] (C := []) (pc' := 30) (ls' := [some (.inr (.inr (10, 0))), some (.inl 0)]) (st' := []) (M' := M1_3) rfl trivial ?_
  exact h
theorem s_1022_30 {x1 : Int} {M : Mm} {Q : Int → Mm → Prop} (h : ((0 ≤ M.1 10 0 14 → (∀ M1_6 : Mm, M1_6 = setI M 10 0 11 0 → (∀ M1_7 : Mm, M1_7 = setI M1_6 10 0 12 (M1_6.1 10 0 14) → ((M1_7.1 10 0 14 < 0 → (E_1008 M1_7 (fun M1_8 : Mm => (Q x1 M1_8)))) ∧ (0 ≤ M1_7.1 10 0 14 → (∀ M1_9 : Mm, M1_9 = setI M1_7 10 0 0 1 → (Q 0 M1_9))))))) ∧ (M.1 10 0 14 < 0 → ((x1 = 0 → (E_1021 M (fun M1 : Mm => ((-2147483648 ≤ x1 + 1 ∧ x1 + 1 ≤ 2147483647)) ∧ (L_1022_30 (x1 + 1) M1 Q)))) ∧ (x1 ≠ 0 → ((M.1 10 0 11 ≤ M.1 10 0 13 → (∀ M1_2 : Mm, M1_2 = setI M 10 0 11 0 → (∀ M1_3 : Mm, M1_3 = setI M1_2 10 0 12 (M1_2.1 10 0 14) → ((M1_3.1 10 0 14 < 0 → (E_1008 M1_3 (fun M1_4 : Mm => (Q x1 M1_4)))) ∧ (0 ≤ M1_3.1 10 0 14 → (∀ M1_5 : Mm, M1_5 = setI M1_3 10 0 0 1 → (Q 0 M1_5))))))) ∧ (M.1 10 0 13 < M.1 10 0 11 → (E_1021 M (fun M1_1 : Mm => ((-2147483648 ≤ x1 + 1 ∧ x1 + 1 ≤ 2147483647)) ∧ (L_1022_30 (x1 + 1) M1_1 Q)))))))))) : L_1022_30 x1 M Q := by
  show Wp 3 1022 30 [some (.inr (.inr (10, 0))), some (.inl x1)] [] M (rI Q)
  refine Wp.path (k := 2) [] (C := []) (pc' := 34) (ls' := [some (.inr (.inr (10, 0))), some (.inl x1)]) (st' := [.inl (M.1 10 0 14)]) (M' := M) rfl trivial ?_
  rcases Int.lt_or_le (M.1 10 0 14) (0) with c_1 | c_1
  · replace h := h.2 c_1
    refine Wp.path (k := 1) [0] (C := [M.1 10 0 14 < 0]) (pc' := 37) (ls' := [some (.inr (.inr (10, 0))), some (.inl x1)]) (st' := []) (M' := M) rfl c_1 ?_
    refine Wp.path (k := 1) [] (C := []) (pc' := 38) (ls' := [some (.inr (.inr (10, 0))), some (.inl x1)]) (st' := [.inl x1]) (M' := M) rfl trivial ?_
    rcases Decidable.em (x1 = 0) with c_2 | c_2
    · replace h := h.1 c_2
      refine Wp.path (k := 1) [1] (C := [x1 = 0]) (pc' := 52) (ls' := [some (.inr (.inr (10, 0))), some (.inl x1)]) (st' := []) (M' := M) rfl c_2 ?_
      refine Wp.path (k := 1) [] (C := []) (pc' := 53) (ls' := [some (.inr (.inr (10, 0))), some (.inl x1)]) (st' := [.inr (.inr (10, 0))]) (M' := M) rfl trivial ?_
      refine Wp.call h rfl rfl (by decide) ?_
      rintro _ M1 ⟨rfl, h⟩
      show Wp 3 1022 56 [some (.inr (.inr (10, 0))), some (.inl x1)] [] M1 (rI Q)
      refine Wp.path (k := 2) [] (C := [inR (x1 + 1)]) (pc' := 30) (ls' := [some (.inr (.inr (10, 0))), some (.inl (x1 + 1))]) (st' := []) (M' := M1) rfl h.1 ?_
      replace h := h.2
      exact h
    · replace h := h.2 c_2
      refine Wp.path (k := 1) [0] (C := [x1 ≠ 0]) (pc' := 41) (ls' := [some (.inr (.inr (10, 0))), some (.inl x1)]) (st' := []) (M' := M) rfl c_2 ?_
      refine Wp.path (k := 4) [] (C := []) (pc' := 49) (ls' := [some (.inr (.inr (10, 0))), some (.inl x1)]) (st' := [.inl (M.1 10 0 11), .inl (M.1 10 0 13)]) (M' := M) rfl trivial ?_
      rcases Int.lt_or_le (M.1 10 0 13) (M.1 10 0 11) with c_3 | c_3
      · replace h := h.2 c_3
        refine Wp.path (k := 1) [0] (C := [M.1 10 0 13 < M.1 10 0 11]) (pc' := 52) (ls' := [some (.inr (.inr (10, 0))), some (.inl x1)]) (st' := []) (M' := M) rfl c_3 ?_
        refine Wp.path (k := 1) [] (C := []) (pc' := 53) (ls' := [some (.inr (.inr (10, 0))), some (.inl x1)]) (st' := [.inr (.inr (10, 0))]) (M' := M) rfl trivial ?_
        refine Wp.call h rfl rfl (by decide) ?_
        rintro _ M1_1 ⟨rfl, h⟩
        show Wp 3 1022 56 [some (.inr (.inr (10, 0))), some (.inl x1)] [] M1_1 (rI Q)
        refine Wp.path (k := 2) [] (C := [inR (x1 + 1)]) (pc' := 30) (ls' := [some (.inr (.inr (10, 0))), some (.inl (x1 + 1))]) (st' := []) (M' := M1_1) rfl h.1 ?_
        replace h := h.2
        exact h
      · replace h := h.1 c_3
        refine Wp.path (k := 1) [1] (C := [M.1 10 0 11 ≤ M.1 10 0 13]) (pc' := 62) (ls' := [some (.inr (.inr (10, 0))), some (.inl x1)]) (st' := []) (M' := M) rfl c_3 ?_
        refine Wp.path (k := 3) [] (C := []) (pc' := 67) (ls' := [some (.inr (.inr (10, 0))), some (.inl x1)]) (st' := []) (M' := setI M 10 0 11 0) rfl trivial ?_
        refine Bd (P := fun M1_2 : Mm => Wp 3 1022 67 [some (.inr (.inr (10, 0))), some (.inl x1)] [] M1_2 (rI Q)) ?_
        intro M1_2 e_M1_2
        replace h := h M1_2 e_M1_2
        refine Wp.path (k := 4) [] (C := []) (pc' := 75) (ls' := [some (.inr (.inr (10, 0))), some (.inl x1)]) (st' := []) (M' := setI M1_2 10 0 12 (M1_2.1 10 0 14)) rfl trivial ?_
        refine Bd (P := fun M1_3 : Mm => Wp 3 1022 75 [some (.inr (.inr (10, 0))), some (.inl x1)] [] M1_3 (rI Q)) ?_
        intro M1_3 e_M1_3
        replace h := h M1_3 e_M1_3
        refine Wp.path (k := 2) [] (C := []) (pc' := 79) (ls' := [some (.inr (.inr (10, 0))), some (.inl x1)]) (st' := [.inl (M1_3.1 10 0 14)]) (M' := M1_3) rfl trivial ?_
        rcases Int.lt_or_le (M1_3.1 10 0 14) (0) with c_4 | c_4
        · replace h := h.1 c_4
          refine Wp.path (k := 1) [1] (C := [M1_3.1 10 0 14 < 0]) (pc' := 89) (ls' := [some (.inr (.inr (10, 0))), some (.inl x1)]) (st' := []) (M' := M1_3) rfl c_4 ?_
          refine Wp.path (k := 1) [] (C := []) (pc' := 90) (ls' := [some (.inr (.inr (10, 0))), some (.inl x1)]) (st' := [.inr (.inr (10, 0))]) (M' := M1_3) rfl trivial ?_
          refine Wp.call h rfl rfl (by decide) ?_
          rintro _ M1_4 ⟨rfl, h⟩
          show Wp 3 1022 93 [some (.inr (.inr (10, 0))), some (.inl x1)] [] M1_4 (rI Q)
          refine Wp.path (k := 1) [] (C := []) (pc' := 94) (ls' := [some (.inr (.inr (10, 0))), some (.inl x1)]) (st' := [.inl x1]) (M' := M1_4) rfl trivial ?_
          exact Wp.ret rfl ⟨_, rfl, h⟩
        · replace h := h.2 c_4
          refine Wp.path (k := 1) [0] (C := [0 ≤ M1_3.1 10 0 14]) (pc' := 82) (ls' := [some (.inr (.inr (10, 0))), some (.inl x1)]) (st' := []) (M' := M1_3) rfl c_4 ?_
          refine Wp.path (k := 3) [] (C := []) (pc' := 87) (ls' := [some (.inr (.inr (10, 0))), some (.inl x1)]) (st' := []) (M' := setI M1_3 10 0 0 1) rfl trivial ?_
          refine Bd (P := fun M1_5 : Mm => Wp 3 1022 87 [some (.inr (.inr (10, 0))), some (.inl x1)] [] M1_5 (rI Q)) ?_
          intro M1_5 e_M1_5
          replace h := h M1_5 e_M1_5
          refine Wp.path (k := 1) [] (C := []) (pc' := 88) (ls' := [some (.inr (.inr (10, 0))), some (.inl x1)]) (st' := [.inl 0]) (M' := M1_5) rfl trivial ?_
          exact Wp.ret rfl ⟨_, rfl, h⟩
  · replace h := h.1 c_1
    refine Wp.path (k := 1) [1] (C := [0 ≤ M.1 10 0 14]) (pc' := 62) (ls' := [some (.inr (.inr (10, 0))), some (.inl x1)]) (st' := []) (M' := M) rfl c_1 ?_
    refine Wp.path (k := 3) [] (C := []) (pc' := 67) (ls' := [some (.inr (.inr (10, 0))), some (.inl x1)]) (st' := []) (M' := setI M 10 0 11 0) rfl trivial ?_
    refine Bd (P := fun M1_6 : Mm => Wp 3 1022 67 [some (.inr (.inr (10, 0))), some (.inl x1)] [] M1_6 (rI Q)) ?_
    intro M1_6 e_M1_6
    replace h := h M1_6 e_M1_6
    refine Wp.path (k := 4) [] (C := []) (pc' := 75) (ls' := [some (.inr (.inr (10, 0))), some (.inl x1)]) (st' := []) (M' := setI M1_6 10 0 12 (M1_6.1 10 0 14)) rfl trivial ?_
    refine Bd (P := fun M1_7 : Mm => Wp 3 1022 75 [some (.inr (.inr (10, 0))), some (.inl x1)] [] M1_7 (rI Q)) ?_
    intro M1_7 e_M1_7
    replace h := h M1_7 e_M1_7
    refine Wp.path (k := 2) [] (C := []) (pc' := 79) (ls' := [some (.inr (.inr (10, 0))), some (.inl x1)]) (st' := [.inl (M1_7.1 10 0 14)]) (M' := M1_7) rfl trivial ?_
    rcases Int.lt_or_le (M1_7.1 10 0 14) (0) with c_5 | c_5
    · replace h := h.1 c_5
      refine Wp.path (k := 1) [1] (C := [M1_7.1 10 0 14 < 0]) (pc' := 89) (ls' := [some (.inr (.inr (10, 0))), some (.inl x1)]) (st' := []) (M' := M1_7) rfl c_5 ?_
      refine Wp.path (k := 1) [] (C := []) (pc' := 90) (ls' := [some (.inr (.inr (10, 0))), some (.inl x1)]) (st' := [.inr (.inr (10, 0))]) (M' := M1_7) rfl trivial ?_
      refine Wp.call h rfl rfl (by decide) ?_
      rintro _ M1_8 ⟨rfl, h⟩
      show Wp 3 1022 93 [some (.inr (.inr (10, 0))), some (.inl x1)] [] M1_8 (rI Q)
      refine Wp.path (k := 1) [] (C := []) (pc' := 94) (ls' := [some (.inr (.inr (10, 0))), some (.inl x1)]) (st' := [.inl x1]) (M' := M1_8) rfl trivial ?_
      exact Wp.ret rfl ⟨_, rfl, h⟩
    · replace h := h.2 c_5
      refine Wp.path (k := 1) [0] (C := [0 ≤ M1_7.1 10 0 14]) (pc' := 82) (ls' := [some (.inr (.inr (10, 0))), some (.inl x1)]) (st' := []) (M' := M1_7) rfl c_5 ?_
      refine Wp.path (k := 3) [] (C := []) (pc' := 87) (ls' := [some (.inr (.inr (10, 0))), some (.inl x1)]) (st' := []) (M' := setI M1_7 10 0 0 1) rfl trivial ?_
      refine Bd (P := fun M1_9 : Mm => Wp 3 1022 87 [some (.inr (.inr (10, 0))), some (.inl x1)] [] M1_9 (rI Q)) ?_
      intro M1_9 e_M1_9
      replace h := h M1_9 e_M1_9
      refine Wp.path (k := 1) [] (C := []) (pc' := 88) (ls' := [some (.inr (.inr (10, 0))), some (.inl x1)]) (st' := [.inl 0]) (M' := M1_9) rfl trivial ?_
      exact Wp.ret rfl ⟨_, rfl, h⟩
/-- X10_errorPosition -/
def E_1023 (M : Mm) (Q : Int → Mm → Prop) : Prop := Ev 0 1023 [.inr (.inr (10, 0))] M (rI Q)
theorem m_1023 {M : Mm} {Q Q1 : Int → Mm → Prop} (h : E_1023 M Q) (k : (∀ r M1, Q r M1 → Q1 r M1)) : E_1023 M Q1 := Ev.mono h (fun v M1 ⟨r, h1, h2⟩ => ⟨r, h1, k _ _ h2⟩)
theorem s_1023_0 {M : Mm} {Q : Int → Mm → Prop} (h : (∀ M1 : Mm, M1 = setI M 10 0 0 0 → (Q (M1.1 10 0 12) M1))) : E_1023 M Q := by
  show Wp 0 1023 0 [some (.inr (.inr (10, 0)))] [] M (rI Q)
  refine Wp.path (k := 3) [] (C := []) (pc' := 5) (ls' := [some (.inr (.inr (10, 0)))]) (st' := []) (M' := setI M 10 0 0 0) rfl trivial ?_
  refine Bd (P := fun M1 : Mm => Wp 0 1023 5 [some (.inr (.inr (10, 0)))] [] M1 (rI Q)) ?_
  intro M1 e_M1
  replace h := h M1 e_M1
  refine Wp.path (k := 2) [] (C := []) (pc' := 9) (ls' := [some (.inr (.inr (10, 0)))]) (st' := [.inl (M1.1 10 0 12)]) (M' := M1) rfl trivial ?_
  exact Wp.ret rfl ⟨_, rfl, h⟩
/-- X10_contains -/
def E_1024 (x1 : Int) (x2 : Int) (M : Mm) (Q : Int → Mm → Prop) : Prop := Ev 2 1024 [.inr (.inr (10, 0)), .inl x1, .inl x2] M (rI Q)
theorem m_1024 {x1 : Int} {x2 : Int} {M : Mm} {Q Q1 : Int → Mm → Prop} (h : E_1024 x1 x2 M Q) (k : (∀ r M1, Q r M1 → Q1 r M1)) : E_1024 x1 x2 M Q1 := Ev.mono h (fun v M1 ⟨r, h1, h2⟩ => ⟨r, h1, k _ _ h2⟩)
theorem s_1024_0 {x1 : Int} {x2 : Int} {M : Mm} {Q : Int → Mm → Prop} (h : ((inV x1 0 11 = 0 → (∀ M1 : Mm, M1 = setI M 10 0 0 1 → ((M1.1 10 0 0 ≠ 0 → (Q 0 M1)) ∧ (M1.1 10 0 0 = 0 → (∀ b : Int, b = (if hasW (M1.1 1101 0) x1 x2 = 0 then 0 else 1) → ((b = 0 ∨ b = 1) ∧ (Q b M1))))))) ∧ (inV x1 0 11 ≠ 0 → (∀ b_1 : Int, b_1 = (if inV x2 0 11 = 0 then 1 else 0) → (∀ M1_1 : Mm, M1_1 = setI M 10 0 0 b_1 → ((M1_1.1 10 0 0 ≠ 0 → (Q 0 M1_1)) ∧ (M1_1.1 10 0 0 = 0 → (∀ b_2 : Int, b_2 = (if hasW (M1_1.1 1101 0) x1 x2 = 0 then 0 else 1) → ((b_2 = 0 ∨ b_2 = 1) ∧ (Q b_2 M1_1)))))))))) : E_1024 x1 x2 M Q := by
  show Wp 2 1024 0 [some (.inr (.inr (10, 0))), some (.inl x1), some (.inl x2)] [] M (rI Q)
  refine Wp.path (k := 4) [] (C := []) (pc' := 5) (ls' := [some (.inr (.inr (10, 0))), some (.inl x1), some (.inl x2)]) (st' := [.inl 11, .inl 0, .inl x1, .inr (.inr (10, 0))]) (M' := M) rfl trivial ?_
  refine Wp.call (e1002) rfl rfl (by decide) ?_
  rintro v_ M_ ⟨eM_, ev_⟩
  rw [eM_, ev_]
  clear eM_ ev_ v_ M_
  show Wp 2 1024 8 [some (.inr (.inr (10, 0))), some (.inl x1), some (.inl x2)] [.inl (inV x1 0 11), .inr (.inr (10, 0))] M (rI Q)
  rcases Decidable.em (inV x1 0 11 = 0) with c_1 | c_1
  · replace h := h.1 c_1
    refine Wp.path (k := 1) [1] (C := [inV x1 0 11 = 0]) (pc' := 25) (ls' := [some (.inr (.inr (10, 0))), some (.inl x1), some (.inl x2)]) (st' := [.inr (.inr (10, 0))]) (M' := M) rfl c_1 ?_
    refine Wp.path (k := 2) [] (C := []) (pc' := 29) (ls' := [some (.inr (.inr (10, 0))), some (.inl x1), some (.inl x2)]) (st' := []) (M' := setI M 10 0 0 1) rfl trivial ?_
    refine Bd (P := fun M1 : Mm => Wp 2 1024 29 [some (.inr (.inr (10, 0))), some (.inl x1), some (.inl x2)] [] M1 (rI Q)) ?_
    intro M1 e_M1
    replace h := h M1 e_M1
    refine Wp.path (k := 2) [] (C := []) (pc' := 33) (ls' := [some (.inr (.inr (10, 0))), some (.inl x1), some (.inl x2)]) (st' := [.inl (M1.1 10 0 0)]) (M' := M1) rfl trivial ?_
    rcases Decidable.em (M1.1 10 0 0 = 0) with c_2 | c_2
    · replace h := h.2 c_2
      refine Wp.path (k := 1) [0] (C := [M1.1 10 0 0 = 0]) (pc' := 36) (ls' := [some (.inr (.inr (10, 0))), some (.inl x1), some (.inl x2)]) (st' := []) (M' := M1) rfl c_2 ?_
      refine Wp.path (k := 3) [] (C := []) (pc' := 39) (ls' := [some (.inr (.inr (10, 0))), some (.inl x1), some (.inl x2)]) (st' := [.inl x2, .inl x1, .inr (.inr (10, 0))]) (M' := M1) rfl trivial ?_
      refine Wp.call (e1004) rfl rfl (by decide) ?_
      rintro v_ M_ ⟨eM_, ev_⟩
      rw [eM_, ev_]
      clear eM_ ev_ v_ M_
      show Wp 2 1024 42 [some (.inr (.inr (10, 0))), some (.inl x1), some (.inl x2)] [.inl (hasW (M1.1 1101 0) x1 x2)] M1 (rI Q)
      have k_3 : ∀ b : Int, b = (if hasW (M1.1 1101 0) x1 x2 = 0 then 0 else 1) → Wp 2 1024 50 [some (.inr (.inr (10, 0))), some (.inl x1), some (.inl x2)] [.inl b] M1 (rI Q) := by
        intro b e_b
        replace h := h b e_b
        exact Wp.ret (by rcases h.1 with e_r | e_r <;> rw [e_r] <;> rfl) ⟨_, rfl, h.2⟩
      clear h
      rcases Decidable.em (hasW (M1.1 1101 0) x1 x2 = 0) with c_4 | c_4
      · refine Wp.path (k := 1) [1] (C := [hasW (M1.1 1101 0) x1 x2 = 0]) (pc' := 49) (ls' := [some (.inr (.inr (10, 0))), some (.inl x1), some (.inl x2)]) (st' := []) (M' := M1) rfl c_4 ?_
        refine Wp.path (k := 1) [] (C := []) (pc' := 50) (ls' := [some (.inr (.inr (10, 0))), some (.inl x1), some (.inl x2)]) (st' := [.inl 0]) (M' := M1) rfl trivial ?_
        exact k_3 _ (by rw [if_pos c_4])
      · refine Wp.path (k := 1) [0] (C := [hasW (M1.1 1101 0) x1 x2 ≠ 0]) (pc' := 45) (ls' := [some (.inr (.inr (10, 0))), some (.inl x1), some (.inl x2)]) (st' := []) (M' := M1) rfl c_4 ?_
        refine Wp.path (k := 2) [] (C := []) (pc' := 50) (ls' := [some (.inr (.inr (10, 0))), some (.inl x1), some (.inl x2)]) (st' := [.inl 1]) (M' := M1) rfl trivial ?_
        exact k_3 _ (by rw [if_neg c_4])
    · replace h := h.1 c_2
      refine Wp.path (k := 1) [1] (C := [M1.1 10 0 0 ≠ 0]) (pc' := 49) (ls' := [some (.inr (.inr (10, 0))), some (.inl x1), some (.inl x2)]) (st' := []) (M' := M1) rfl c_2 ?_
      refine Wp.path (k := 1) [] (C := []) (pc' := 50) (ls' := [some (.inr (.inr (10, 0))), some (.inl x1), some (.inl x2)]) (st' := [.inl 0]) (M' := M1) rfl trivial ?_
      exact Wp.ret rfl ⟨_, rfl, h⟩
  · replace h := h.2 c_1
    refine Wp.path (k := 1) [0] (C := [inV x1 0 11 ≠ 0]) (pc' := 11) (ls' := [some (.inr (.inr (10, 0))), some (.inl x1), some (.inl x2)]) (st' := [.inr (.inr (10, 0))]) (M' := M) rfl c_1 ?_
    refine Wp.path (k := 3) [] (C := []) (pc' := 15) (ls' := [some (.inr (.inr (10, 0))), some (.inl x1), some (.inl x2)]) (st' := [.inl 11, .inl 0, .inl x2, .inr (.inr (10, 0))]) (M' := M) rfl trivial ?_
    refine Wp.call (e1002) rfl rfl (by decide) ?_
    rintro v_ M_ ⟨eM_, ev_⟩
    rw [eM_, ev_]
    clear eM_ ev_ v_ M_
    show Wp 2 1024 18 [some (.inr (.inr (10, 0))), some (.inl x1), some (.inl x2)] [.inl (inV x2 0 11), .inr (.inr (10, 0))] M (rI Q)
    have k_8 : ∀ b_1 : Int, b_1 = (if inV x2 0 11 = 0 then 1 else 0) → Wp 2 1024 26 [some (.inr (.inr (10, 0))), some (.inl x1), some (.inl x2)] [.inl b_1, .inr (.inr (10, 0))] M (rI Q) := by
      intro b_1 e_b_1
      replace h := h b_1 e_b_1
      refine Wp.path (k := 1) [] (C := []) (pc' := 29) (ls' := [some (.inr (.inr (10, 0))), some (.inl x1), some (.inl x2)]) (st' := []) (M' := setI M 10 0 0 b_1) rfl trivial ?_
      refine Bd (P := fun M1_1 : Mm => Wp 2 1024 29 [some (.inr (.inr (10, 0))), some (.inl x1), some (.inl x2)] [] M1_1 (rI Q)) ?_
      intro M1_1 e_M1_1
      replace h := h M1_1 e_M1_1
      refine Wp.path (k := 2) [] (C := []) (pc' := 33) (ls' := [some (.inr (.inr (10, 0))), some (.inl x1), some (.inl x2)]) (st' := [.inl (M1_1.1 10 0 0)]) (M' := M1_1) rfl trivial ?_
      rcases Decidable.em (M1_1.1 10 0 0 = 0) with c_5 | c_5
      · replace h := h.2 c_5
        refine Wp.path (k := 1) [0] (C := [M1_1.1 10 0 0 = 0]) (pc' := 36) (ls' := [some (.inr (.inr (10, 0))), some (.inl x1), some (.inl x2)]) (st' := []) (M' := M1_1) rfl c_5 ?_
        refine Wp.path (k := 3) [] (C := []) (pc' := 39) (ls' := [some (.inr (.inr (10, 0))), some (.inl x1), some (.inl x2)]) (st' := [.inl x2, .inl x1, .inr (.inr (10, 0))]) (M' := M1_1) rfl trivial ?_
        refine Wp.call (e1004) rfl rfl (by decide) ?_
        rintro v_ M_ ⟨eM_, ev_⟩
        rw [eM_, ev_]
        clear eM_ ev_ v_ M_
        show Wp 2 1024 42 [some (.inr (.inr (10, 0))), some (.inl x1), some (.inl x2)] [.inl (hasW (M1_1.1 1101 0) x1 x2)] M1_1 (rI Q)
        have k_6 : ∀ b_2 : Int, b_2 = (if hasW (M1_1.1 1101 0) x1 x2 = 0 then 0 else 1) → Wp 2 1024 50 [some (.inr (.inr (10, 0))), some (.inl x1), some (.inl x2)] [.inl b_2] M1_1 (rI Q) := by
          intro b_2 e_b_2
          replace h := h b_2 e_b_2
          exact Wp.ret (by rcases h.1 with e_r | e_r <;> rw [e_r] <;> rfl) ⟨_, rfl, h.2⟩
        clear h
        rcases Decidable.em (hasW (M1_1.1 1101 0) x1 x2 = 0) with c_7 | c_7
        · refine Wp.path (k := 1) [1] (C := [hasW (M1_1.1 1101 0) x1 x2 = 0]) (pc' := 49) (ls' := [some (.inr (.inr (10, 0))), some (.inl x1), some (.inl x2)]) (st' := []) (M' := M1_1) rfl c_7 ?_
          refine Wp.path (k := 1) [] (C := []) (pc' := 50) (ls' := [some (.inr (.inr (10, 0))), some (.inl x1), some (.inl x2)]) (st' := [.inl 0]) (M' := M1_1) rfl trivial ?_
          exact k_6 _ (by rw [if_pos c_7])
        · refine Wp.path (k := 1) [0] (C := [hasW (M1_1.1 1101 0) x1 x2 ≠ 0]) (pc' := 45) (ls' := [some (.inr (.inr (10, 0))), some (.inl x1), some (.inl x2)]) (st' := []) (M' := M1_1) rfl c_7 ?_
          refine Wp.path (k := 2) [] (C := []) (pc' := 50) (ls' := [some (.inr (.inr (10, 0))), some (.inl x1), some (.inl x2)]) (st' := [.inl 1]) (M' := M1_1) rfl trivial ?_
          exact k_6 _ (by rw [if_neg c_7])
      · replace h := h.1 c_5
        refine Wp.path (k := 1) [1] (C := [M1_1.1 10 0 0 ≠ 0]) (pc' := 49) (ls' := [some (.inr (.inr (10, 0))), some (.inl x1), some (.inl x2)]) (st' := []) (M' := M1_1) rfl c_5 ?_
        refine Wp.path (k := 1) [] (C := []) (pc' := 50) (ls' := [some (.inr (.inr (10, 0))), some (.inl x1), some (.inl x2)]) (st' := [.inl 0]) (M' := M1_1) rfl trivial ?_
        exact Wp.ret rfl ⟨_, rfl, h⟩
    clear h
    rcases Decidable.em (inV x2 0 11 = 0) with c_9 | c_9
    · refine Wp.path (k := 1) [1] (C := [inV x2 0 11 = 0]) (pc' := 25) (ls' := [some (.inr (.inr (10, 0))), some (.inl x1), some (.inl x2)]) (st' := [.inr (.inr (10, 0))]) (M' := M) rfl c_9 ?_
      refine Wp.path (k := 1) [] (C := []) (pc' := 26) (ls' := [some (.inr (.inr (10, 0))), some (.inl x1), some (.inl x2)]) (st' := [.inl 1, .inr (.inr (10, 0))]) (M' := M) rfl trivial ?_
      exact k_8 _ (by rw [if_pos c_9])
    · refine Wp.path (k := 1) [0] (C := [inV x2 0 11 ≠ 0]) (pc' := 21) (ls' := [some (.inr (.inr (10, 0))), some (.inl x1), some (.inl x2)]) (st' := [.inr (.inr (10, 0))]) (M' := M) rfl c_9 ?_
      refine Wp.path (k := 2) [] (C := []) (pc' := 26) (ls' := [some (.inr (.inr (10, 0))), some (.inl x1), some (.inl x2)]) (st' := [.inl 0, .inr (.inr (10, 0))]) (M' := M) rfl trivial ?_
      exact k_8 _ (by rw [if_neg c_9])
/-- X10_wears -/
def E_1027 (x1 : Int) (M : Mm) (Q : Mm → Prop) : Prop := Ev 0 1027 [.inr (.inr (10, 0)), .inl x1] M (rV Q)
theorem m_1027 {x1 : Int} {M : Mm} {Q Q1 : Mm → Prop} (h : E_1027 x1 M Q) (k : (∀ M1, Q M1 → Q1 M1)) : E_1027 x1 M Q1 := Ev.mono h (fun v M1 h => ⟨h.1, k _ h.2⟩)
def L_1027_5 (x1 : Int) (x2 : Int64) (x4 : Int) (M : Mm) (Q : Mm → Prop) : Prop := ∀ o5 o6 o7 o8 o9 o10 o11 o12 : Option Vv, Wp 0 1027 5 [some (.inr (.inr (10, 0))), some (.inl x1), some (.inr (.inl x2)), none, some (.inl x4), o5, o6, o7, o8, o9, o10, o11, o12] [] M (rV Q)
theorem s_1027_0 {x1 : Int} {M : Mm} {Q : Mm → Prop} (h : (L_1027_5 x1 (Int64.ofNat 0) 0 M Q)) : E_1027 x1 M Q := by
  show Wp 0 1027 0 [some (.inr (.inr (10, 0))), some (.inl x1), none, none, none, none, none, none, none, none, none, none, none] [] M (rV Q)
  refine Wp.path (k := 4) [] (C := []) (pc' := 5) (ls' := [some (.inr (.inr (10, 0))), some (.inl x1), some (.inr (.inl (Int64.ofNat 0))), none, some (.inl 0), none, none, none, none, none, none, none, none]) (st' := []) (M' := M) rfl trivial ?_
  exact h _ _ _ _ _ _ _ _
theorem s_1027_5 {x1 : Int} {x2 : Int64} {x4 : Int} {M : Mm} {Q : Mm → Prop} (h : ((x1 ≤ x4 → (Q M)) ∧ (x4 < x1 → (((0 ≤ x4 ∧ x4 < 48)) ∧ (∀ x5 : Int64, x5 = M.2 1117 0 x4.toNat → (∀ x7 : Int64, x7 = (x5 &&& (lsh x5 1)) &&& (lus x5 1) → (((-2147483648 ≤ x4 + 1 ∧ x4 + 1 ≤ 2147483647)) ∧ ((x1 ≤ x4 + 1 → (∀ x11_1 : Int64, x11_1 = ((Int64.ofNat 0) &&& (lsh (Int64.ofNat 0) 1)) &&& (lus (Int64.ofNat 0) 1) → (((0 ≤ x4 ∧ x4 < 48)) ∧ (∀ M1_1 : Mm, M1_1 = setJ M 1117 0 x4.toNat ((x7 &&& x2) &&& x11_1) → (((-2147483648 ≤ x4 + 1 ∧ x4 + 1 ≤ 2147483647)) ∧ (L_1027_5 x1 x7 (x4 + 1) M1_1 Q)))))) ∧ (x4 + 1 < x1 → (((-2147483648 ≤ x4 + 1 ∧ x4 + 1 ≤ 2147483647) ∧ (0 ≤ x4 + 1 ∧ x4 + 1 < 48)) ∧ (∀ x9 : Int64, x9 = M.2 1117 0 ((x4 + 1).toNat) → (∀ x11 : Int64, x11 = (x9 &&& (lsh x9 1)) &&& (lus x9 1) → (((0 ≤ x4 ∧ x4 < 48)) ∧ (∀ M1 : Mm, M1 = setJ M 1117 0 x4.toNat ((x7 &&& x2) &&& x11) → (((-2147483648 ≤ x4 + 1 ∧ x4 + 1 ≤ 2147483647)) ∧ (L_1027_5 x1 x7 (x4 + 1) M1 Q)))))))))))))))) : L_1027_5 x1 x2 x4 M Q := by
  intro o5 o6 o7 o8 o9 o10 o11 o12
  show Wp 0 1027 5 [some (.inr (.inr (10, 0))), some (.inl x1), some (.inr (.inl x2)), none, some (.inl x4), o5, o6, o7, o8, o9, o10, o11, o12] [] M (rV Q)
  refine Wp.path (k := 2) [] (C := []) (pc' := 8) (ls' := [some (.inr (.inr (10, 0))), some (.inl x1), some (.inr (.inl x2)), none, some (.inl x4), o5, o6, o7, o8, o9, o10, o11, o12]) (st' := [.inl x1, .inl x4]) (M' := M) rfl trivial ?_
  rcases Int.lt_or_le (x4) (x1) with c_1 | c_1
  · replace h := h.2 c_1
    refine Wp.path (k := 1) [0] (C := [x4 < x1]) (pc' := 11) (ls' := [some (.inr (.inr (10, 0))), some (.inl x1), some (.inr (.inl x2)), none, some (.inl x4), o5, o6, o7, o8, o9, o10, o11, o12]) (st' := []) (M' := M) rfl c_1 ?_
    refine Wp.path (k := 5) [] (C := [0 ≤ x4 ∧ x4 < 48]) (pc' := 20) (ls' := [some (.inr (.inr (10, 0))), some (.inl x1), some (.inr (.inl x2)), none, some (.inl x4), some (.inr (.inl (M.2 1117 0 x4.toNat))), none, o7, o8, o9, o10, o11, o12]) (st' := []) (M' := M) rfl h.1 ?_
    replace h := h.2
    refine Bd (P := fun x5 : Int64 => Wp 0 1027 20 [some (.inr (.inr (10, 0))), some (.inl x1), some (.inr (.inl x2)), none, some (.inl x4), some (.inr (.inl x5)), none, o7, o8, o9, o10, o11, o12] [] M (rV Q)) ?_
    intro x5 e_x5
    replace h := h x5 e_x5
    refine Wp.path (k := 10) [] (C := []) (pc' := 34) (ls' := [some (.inr (.inr (10, 0))), some (.inl x1), some (.inr (.inl x2)), none, some (.inl x4), some (.inr (.inl x5)), none, some (.inr (.inl ((x5 &&& (lsh x5 1)) &&& (lus x5 1)))), none, o9, o10, o11, o12]) (st' := []) (M' := M) rfl trivial ?_
    refine Bd (P := fun x7 : Int64 => Wp 0 1027 34 [some (.inr (.inr (10, 0))), some (.inl x1), some (.inr (.inl x2)), none, some (.inl x4), some (.inr (.inl x5)), none, some (.inr (.inl x7)), none, o9, o10, o11, o12] [] M (rV Q)) ?_
    intro x7 e_x7
    replace h := h x7 e_x7
    refine Wp.path (k := 4) [] (C := [inR (x4 + 1)]) (pc' := 39) (ls' := [some (.inr (.inr (10, 0))), some (.inl x1), some (.inr (.inl x2)), none, some (.inl x4), some (.inr (.inl x5)), none, some (.inr (.inl x7)), none, o9, o10, o11, o12]) (st' := [.inl x1, .inl (x4 + 1)]) (M' := M) rfl h.1 ?_
    replace h := h.2
    rcases Int.lt_or_le (x4 + 1) (x1) with c_2 | c_2
    · replace h := h.2 c_2
      refine Wp.path (k := 1) [0] (C := [x4 + 1 < x1]) (pc' := 42) (ls' := [some (.inr (.inr (10, 0))), some (.inl x1), some (.inr (.inl x2)), none, some (.inl x4), some (.inr (.inl x5)), none, some (.inr (.inl x7)), none, o9, o10, o11, o12]) (st' := []) (M' := M) rfl c_2 ?_
      refine Wp.path (k := 8) [] (C := [inR (x4 + 1), 0 ≤ x4 + 1 ∧ x4 + 1 < 48]) (pc' := 57) (ls' := [some (.inr (.inr (10, 0))), some (.inl x1), some (.inr (.inl x2)), none, some (.inl x4), some (.inr (.inl x5)), none, some (.inr (.inl x7)), none, some (.inr (.inl (M.2 1117 0 ((x4 + 1).toNat)))), none, o11, o12]) (st' := []) (M' := M) rfl ⟨h.1.1, h.1.2⟩ ?_
      replace h := h.2
      refine Bd (P := fun x9 : Int64 => Wp 0 1027 57 [some (.inr (.inr (10, 0))), some (.inl x1), some (.inr (.inl x2)), none, some (.inl x4), some (.inr (.inl x5)), none, some (.inr (.inl x7)), none, some (.inr (.inl x9)), none, o11, o12] [] M (rV Q)) ?_
      intro x9 e_x9
      replace h := h x9 e_x9
      refine Wp.path (k := 10) [] (C := []) (pc' := 71) (ls' := [some (.inr (.inr (10, 0))), some (.inl x1), some (.inr (.inl x2)), none, some (.inl x4), some (.inr (.inl x5)), none, some (.inr (.inl x7)), none, some (.inr (.inl x9)), none, some (.inr (.inl ((x9 &&& (lsh x9 1)) &&& (lus x9 1)))), none]) (st' := []) (M' := M) rfl trivial ?_
      refine Bd (P := fun x11 : Int64 => Wp 0 1027 71 [some (.inr (.inr (10, 0))), some (.inl x1), some (.inr (.inl x2)), none, some (.inl x4), some (.inr (.inl x5)), none, some (.inr (.inl x7)), none, some (.inr (.inl x9)), none, some (.inr (.inl x11)), none] [] M (rV Q)) ?_
      intro x11 e_x11
      replace h := h x11 e_x11
      refine Wp.path (k := 9) [] (C := [0 ≤ x4 ∧ x4 < 48]) (pc' := 85) (ls' := [some (.inr (.inr (10, 0))), some (.inl x1), some (.inr (.inl x2)), none, some (.inl x4), some (.inr (.inl x5)), none, some (.inr (.inl x7)), none, some (.inr (.inl x9)), none, some (.inr (.inl x11)), none]) (st' := []) (M' := setJ M 1117 0 x4.toNat ((x7 &&& x2) &&& x11)) rfl h.1 ?_
      replace h := h.2
      refine Bd (P := fun M1 : Mm => Wp 0 1027 85 [some (.inr (.inr (10, 0))), some (.inl x1), some (.inr (.inl x2)), none, some (.inl x4), some (.inr (.inl x5)), none, some (.inr (.inl x7)), none, some (.inr (.inl x9)), none, some (.inr (.inl x11)), none] [] M1 (rV Q)) ?_
      intro M1 e_M1
      replace h := h M1 e_M1
      refine Wp.path (k := 4) [] (C := [inR (x4 + 1)]) (pc' := 5) (ls' := [some (.inr (.inr (10, 0))), some (.inl x1), some (.inr (.inl x7)), none, some (.inl (x4 + 1)), some (.inr (.inl x5)), none, some (.inr (.inl x7)), none, some (.inr (.inl x9)), none, some (.inr (.inl x11)), none]) (st' := []) (M' := M1) rfl h.1 ?_
      replace h := h.2
      exact h _ _ _ _ _ _ _ _
    · replace h := h.1 c_2
      refine Wp.path (k := 1) [1] (C := [x1 ≤ x4 + 1]) (pc' := 54) (ls' := [some (.inr (.inr (10, 0))), some (.inl x1), some (.inr (.inl x2)), none, some (.inl x4), some (.inr (.inl x5)), none, some (.inr (.inl x7)), none, o9, o10, o11, o12]) (st' := []) (M' := M) rfl c_2 ?_
      refine Wp.path (k := 12) [] (C := []) (pc' := 71) (ls' := [some (.inr (.inr (10, 0))), some (.inl x1), some (.inr (.inl x2)), none, some (.inl x4), some (.inr (.inl x5)), none, some (.inr (.inl x7)), none, some (.inr (.inl (Int64.ofNat 0))), none, some (.inr (.inl (((Int64.ofNat 0) &&& (lsh (Int64.ofNat 0) 1)) &&& (lus (Int64.ofNat 0) 1)))), none]) (st' := []) (M' := M) rfl trivial ?_
      refine Bd (P := fun x11_1 : Int64 => Wp 0 1027 71 [some (.inr (.inr (10, 0))), some (.inl x1), some (.inr (.inl x2)), none, some (.inl x4), some (.inr (.inl x5)), none, some (.inr (.inl x7)), none, some (.inr (.inl (Int64.ofNat 0))), none, some (.inr (.inl x11_1)), none] [] M (rV Q)) ?_
      intro x11_1 e_x11_1
      replace h := h x11_1 e_x11_1
      refine Wp.path (k := 9) [] (C := [0 ≤ x4 ∧ x4 < 48]) (pc' := 85) (ls' := [some (.inr (.inr (10, 0))), some (.inl x1), some (.inr (.inl x2)), none, some (.inl x4), some (.inr (.inl x5)), none, some (.inr (.inl x7)), none, some (.inr (.inl (Int64.ofNat 0))), none, some (.inr (.inl x11_1)), none]) (st' := []) (M' := setJ M 1117 0 x4.toNat ((x7 &&& x2) &&& x11_1)) rfl h.1 ?_
      replace h := h.2
      refine Bd (P := fun M1_1 : Mm => Wp 0 1027 85 [some (.inr (.inr (10, 0))), some (.inl x1), some (.inr (.inl x2)), none, some (.inl x4), some (.inr (.inl x5)), none, some (.inr (.inl x7)), none, some (.inr (.inl (Int64.ofNat 0))), none, some (.inr (.inl x11_1)), none] [] M1_1 (rV Q)) ?_
      intro M1_1 e_M1_1
      replace h := h M1_1 e_M1_1
      refine Wp.path (k := 4) [] (C := [inR (x4 + 1)]) (pc' := 5) (ls' := [some (.inr (.inr (10, 0))), some (.inl x1), some (.inr (.inl x7)), none, some (.inl (x4 + 1)), some (.inr (.inl x5)), none, some (.inr (.inl x7)), none, some (.inr (.inl (Int64.ofNat 0))), none, some (.inr (.inl x11_1)), none]) (st' := []) (M' := M1_1) rfl h.1 ?_
      replace h := h.2
      exact h _ _ _ _ _ _ _ _
  · replace h := h.1 c_1
    refine Wp.path (k := 1) [1] (C := [x1 ≤ x4]) (pc' := 94) (ls' := [some (.inr (.inr (10, 0))), some (.inl x1), some (.inr (.inl x2)), none, some (.inl x4), o5, o6, o7, o8, o9, o10, o11, o12]) (st' := []) (M' := M) rfl c_1 ?_
    exact Wp.ret rfl ⟨rfl, h⟩
/-- X10_refines -/
def E_1028 (x1 : Int) (M : Mm) (Q : Mm → Prop) : Prop := Ev 2 1028 [.inr (.inr (10, 0)), .inl x1] M (rV Q)
theorem m_1028 {x1 : Int} {M : Mm} {Q Q1 : Mm → Prop} (h : E_1028 x1 M Q) (k : (∀ M1, Q M1 → Q1 M1)) : E_1028 x1 M Q1 := Ev.mono h (fun v M1 h => ⟨h.1, k _ h.2⟩)
def L_1028_2 (x1 : Int) (x2 : Int) (M : Mm) (Q : Mm → Prop) : Prop := ∀ o3 o4 o5 : Option Vv, Wp 2 1028 2 [some (.inr (.inr (10, 0))), some (.inl x1), some (.inl x2), o3, o4, o5] [] M (rV Q)
def L_1028_15 (x1 : Int) (x2 : Int) (x3 : Int64) (x5 : Int) (M : Mm) (Q : Mm → Prop) : Prop := Wp 2 1028 15 [some (.inr (.inr (10, 0))), some (.inl x1), some (.inl x2), some (.inr (.inl x3)), none, some (.inl x5)] [] M (rV Q)
theorem s_1028_0 {x1 : Int} {M : Mm} {Q : Mm → Prop} (h : (L_1028_2 x1 0 M Q)) : E_1028 x1 M Q := by
  show Wp 2 1028 0 [some (.inr (.inr (10, 0))), some (.inl x1), none, none, none, none] [] M (rV Q)
  refine Wp.path (k := 2) [] (C := []) (pc' := 2) (ls' := [some (.inr (.inr (10, 0))), some (.inl x1), some (.inl 0), none, none, none]) (st' := []) (M' := M) rfl trivial ?_
  exact h _ _ _
theorem s_1028_2 {x1 : Int} {x2 : Int} {M : Mm} {Q : Mm → Prop} (h : ((-2147483648 ≤ 12 * x1 ∧ 12 * x1 ≤ 2147483647)) ∧ ((12 * x1 ≤ x2 → (Q M)) ∧ (x2 < 12 * x1 → (L_1028_15 x1 x2 (Int64.ofNat 0) 0 M Q)))) : L_1028_2 x1 x2 M Q := by
  intro o3 o4 o5
  show Wp 2 1028 2 [some (.inr (.inr (10, 0))), some (.inl x1), some (.inl x2), o3, o4, o5] [] M (rV Q)
  refine Wp.path (k := 4) [] (C := [inR (12 * x1)]) (pc' := 7) (ls' := [some (.inr (.inr (10, 0))), some (.inl x1), some (.inl x2), o3, o4, o5]) (st' := [.inl (12 * x1), .inl x2]) (M' := M) rfl h.1 ?_
  replace h := h.2
  rcases Int.lt_or_le (x2) (12 * x1) with c_1 | c_1
  · replace h := h.2 c_1
    refine Wp.path (k := 1) [0] (C := [x2 < 12 * x1]) (pc' := 10) (ls' := [some (.inr (.inr (10, 0))), some (.inl x1), some (.inl x2), o3, o4, o5]) (st' := []) (M' := M) rfl c_1 ?_
    refine Wp.path (k := 4) [] (C := []) (pc' := 15) (ls' := [some (.inr (.inr (10, 0))), some (.inl x1), some (.inl x2), some (.inr (.inl (Int64.ofNat 0))), none, some (.inl 0)]) (st' := []) (M' := M) rfl trivial ?_
    exact h
  · replace h := h.1 c_1
    refine Wp.path (k := 1) [1] (C := [12 * x1 ≤ x2]) (pc' := 68) (ls' := [some (.inr (.inr (10, 0))), some (.inl x1), some (.inl x2), o3, o4, o5]) (st' := []) (M' := M) rfl c_1 ?_
    exact Wp.ret rfl ⟨rfl, h⟩
theorem s_1028_15 {x1 : Int} {x2 : Int} {x3 : Int64} {x5 : Int} {M : Mm} {Q : Mm → Prop} (h : ((-2147483648 ≤ 12 * x1 ∧ 12 * x1 ≤ 2147483647)) ∧ ((12 * x1 ≤ x5 → (((0 ≤ x2 ∧ x2 < 48)) ∧ (∀ M1 : Mm, M1 = setJ M 1117 0 x2.toNat x3 → (((-2147483648 ≤ x2 + 1 ∧ x2 + 1 ≤ 2147483647)) ∧ (L_1028_2 x1 (x2 + 1) M1 Q))))) ∧ (x5 < 12 * x1 → ((((-2147483648 ≤ x5 ∧ x5 ≤ 2147483647) ∧ 0 < x1 ∧ (-2147483648 ≤ x1 ∧ x1 ≤ 2147483647))) ∧ (∀ d : Int, d = Int.tdiv x5 x1 → ((((-2147483648 ≤ x2 ∧ x2 ≤ 2147483647) ∧ 0 < x1 ∧ (-2147483648 ≤ x1 ∧ x1 ≤ 2147483647))) ∧ (∀ d_1 : Int, d_1 = Int.tdiv x2 x1 → ((hasW (M.1 1101 0) d d_1 = 0 → (∀ x3_1 : Int64, x3_1 = x3 ||| (lsh (Int64.ofNat 0) x5) → (((-2147483648 ≤ x5 + 1 ∧ x5 + 1 ≤ 2147483647)) ∧ (L_1028_15 x1 x2 x3_1 (x5 + 1) M Q)))) ∧ (hasW (M.1 1101 0) d d_1 ≠ 0 → (∀ x3_2 : Int64, x3_2 = x3 ||| (lsh (Int64.ofNat 1) x5) → (((-2147483648 ≤ x5 + 1 ∧ x5 + 1 ≤ 2147483647)) ∧ (L_1028_15 x1 x2 x3_2 (x5 + 1) M Q)))))))))))) : L_1028_15 x1 x2 x3 x5 M Q := by
  show Wp 2 1028 15 [some (.inr (.inr (10, 0))), some (.inl x1), some (.inl x2), some (.inr (.inl x3)), none, some (.inl x5)] [] M (rV Q)
  refine Wp.path (k := 4) [] (C := [inR (12 * x1)]) (pc' := 21) (ls' := [some (.inr (.inr (10, 0))), some (.inl x1), some (.inl x2), some (.inr (.inl x3)), none, some (.inl x5)]) (st' := [.inl (12 * x1), .inl x5]) (M' := M) rfl h.1 ?_
  replace h := h.2
  rcases Int.lt_or_le (x5) (12 * x1) with c_1 | c_1
  · replace h := h.2 c_1
    refine Wp.path (k := 1) [0] (C := [x5 < 12 * x1]) (pc' := 24) (ls' := [some (.inr (.inr (10, 0))), some (.inl x1), some (.inl x2), some (.inr (.inl x3)), none, some (.inl x5)]) (st' := []) (M' := M) rfl c_1 ?_
    refine Wp.path (k := 5) [] (C := [inR x5 ∧ 0 < x1 ∧ inR x1]) (pc' := 30) (ls' := [some (.inr (.inr (10, 0))), some (.inl x1), some (.inl x2), some (.inr (.inl x3)), none, some (.inl x5)]) (st' := [.inl (Int.tdiv x5 x1), .inr (.inr (10, 0)), .inr (.inl x3)]) (M' := M) rfl h.1 ?_
    replace h := h.2
    refine Bd (P := fun d : Int => Wp 2 1028 30 [some (.inr (.inr (10, 0))), some (.inl x1), some (.inl x2), some (.inr (.inl x3)), none, some (.inl x5)] [.inl d, .inr (.inr (10, 0)), .inr (.inl x3)] M (rV Q)) ?_
    intro d e_d
    replace h := h d e_d
    refine Wp.path (k := 3) [] (C := [inR x2 ∧ 0 < x1 ∧ inR x1]) (pc' := 33) (ls' := [some (.inr (.inr (10, 0))), some (.inl x1), some (.inl x2), some (.inr (.inl x3)), none, some (.inl x5)]) (st' := [.inl (Int.tdiv x2 x1), .inl d, .inr (.inr (10, 0)), .inr (.inl x3)]) (M' := M) rfl h.1 ?_
    replace h := h.2
    refine Bd (P := fun d_1 : Int => Wp 2 1028 33 [some (.inr (.inr (10, 0))), some (.inl x1), some (.inl x2), some (.inr (.inl x3)), none, some (.inl x5)] [.inl d_1, .inl d, .inr (.inr (10, 0)), .inr (.inl x3)] M (rV Q)) ?_
    intro d_1 e_d_1
    replace h := h d_1 e_d_1
    refine Wp.call (e1004) rfl rfl (by decide) ?_
    rintro v_ M_ ⟨eM_, ev_⟩
    rw [eM_, ev_]
    clear eM_ ev_ v_ M_
    show Wp 2 1028 36 [some (.inr (.inr (10, 0))), some (.inl x1), some (.inl x2), some (.inr (.inl x3)), none, some (.inl x5)] [.inl (hasW (M.1 1101 0) d d_1), .inr (.inl x3)] M (rV Q)
    rcases Decidable.em (hasW (M.1 1101 0) d d_1 = 0) with c_2 | c_2
    · replace h := h.1 c_2
      refine Wp.path (k := 1) [1] (C := [hasW (M.1 1101 0) d d_1 = 0]) (pc' := 43) (ls' := [some (.inr (.inr (10, 0))), some (.inl x1), some (.inl x2), some (.inr (.inl x3)), none, some (.inl x5)]) (st' := [.inr (.inl x3)]) (M' := M) rfl c_2 ?_
      refine Wp.path (k := 5) [] (C := []) (pc' := 49) (ls' := [some (.inr (.inr (10, 0))), some (.inl x1), some (.inl x2), some (.inr (.inl (x3 ||| (lsh (Int64.ofNat 0) x5)))), none, some (.inl x5)]) (st' := []) (M' := M) rfl trivial ?_
      refine Bd (P := fun x3_1 : Int64 => Wp 2 1028 49 [some (.inr (.inr (10, 0))), some (.inl x1), some (.inl x2), some (.inr (.inl x3_1)), none, some (.inl x5)] [] M (rV Q)) ?_
      intro x3_1 e_x3_1
      replace h := h x3_1 e_x3_1
      refine Wp.path (k := 2) [] (C := [inR (x5 + 1)]) (pc' := 15) (ls' := [some (.inr (.inr (10, 0))), some (.inl x1), some (.inl x2), some (.inr (.inl x3_1)), none, some (.inl (x5 + 1))]) (st' := []) (M' := M) rfl h.1 ?_
      replace h := h.2
      exact h
    · replace h := h.2 c_2
      refine Wp.path (k := 1) [0] (C := [hasW (M.1 1101 0) d d_1 ≠ 0]) (pc' := 39) (ls' := [some (.inr (.inr (10, 0))), some (.inl x1), some (.inl x2), some (.inr (.inl x3)), none, some (.inl x5)]) (st' := [.inr (.inl x3)]) (M' := M) rfl c_2 ?_
      refine Wp.path (k := 6) [] (C := []) (pc' := 49) (ls' := [some (.inr (.inr (10, 0))), some (.inl x1), some (.inl x2), some (.inr (.inl (x3 ||| (lsh (Int64.ofNat 1) x5)))), none, some (.inl x5)]) (st' := []) (M' := M) rfl trivial ?_
      refine Bd (P := fun x3_2 : Int64 => Wp 2 1028 49 [some (.inr (.inr (10, 0))), some (.inl x1), some (.inl x2), some (.inr (.inl x3_2)), none, some (.inl x5)] [] M (rV Q)) ?_
      intro x3_2 e_x3_2
      replace h := h x3_2 e_x3_2
      refine Wp.path (k := 2) [] (C := [inR (x5 + 1)]) (pc' := 15) (ls' := [some (.inr (.inr (10, 0))), some (.inl x1), some (.inl x2), some (.inr (.inl x3_2)), none, some (.inl (x5 + 1))]) (st' := []) (M' := M) rfl h.1 ?_
      replace h := h.2
      exact h
  · replace h := h.1 c_1
    refine Wp.path (k := 1) [1] (C := [12 * x1 ≤ x5]) (pc' := 55) (ls' := [some (.inr (.inr (10, 0))), some (.inl x1), some (.inl x2), some (.inr (.inl x3)), none, some (.inl x5)]) (st' := []) (M' := M) rfl c_1 ?_
    refine Wp.path (k := 5) [] (C := [0 ≤ x2 ∧ x2 < 48]) (pc' := 62) (ls' := [some (.inr (.inr (10, 0))), some (.inl x1), some (.inl x2), some (.inr (.inl x3)), none, some (.inl x5)]) (st' := []) (M' := setJ M 1117 0 x2.toNat x3) rfl h.1 ?_
    replace h := h.2
    refine Bd (P := fun M1 : Mm => Wp 2 1028 62 [some (.inr (.inr (10, 0))), some (.inl x1), some (.inl x2), some (.inr (.inl x3)), none, some (.inl x5)] [] M1 (rV Q)) ?_
    intro M1 e_M1
    replace h := h M1 e_M1
    refine Wp.path (k := 2) [] (C := [inR (x2 + 1)]) (pc' := 2) (ls' := [some (.inr (.inr (10, 0))), some (.inl x1), some (.inl (x2 + 1)), some (.inr (.inl x3)), none, some (.inl x5)]) (st' := []) (M' := M1) rfl h.1 ?_
    replace h := h.2
    exact h _ _ _
/-- X10_isWorn -/
def E_1029 (x1 : Int) (M : Mm) (Q : Int → Mm → Prop) : Prop := Ev 0 1029 [.inr (.inr (10, 0)), .inl x1] M (rI Q)
theorem m_1029 {x1 : Int} {M : Mm} {Q Q1 : Int → Mm → Prop} (h : E_1029 x1 M Q) (k : (∀ r M1, Q r M1 → Q1 r M1)) : E_1029 x1 M Q1 := Ev.mono h (fun v M1 ⟨r, h1, h2⟩ => ⟨r, h1, k _ _ h2⟩)
def L_1029_5 (x1 : Int) (x2 : Int64) (x4 : Int) (M : Mm) (Q : Int → Mm → Prop) : Prop := Wp 0 1029 5 [some (.inr (.inr (10, 0))), some (.inl x1), some (.inr (.inl x2)), none, some (.inl x4)] [] M (rI Q)
theorem s_1029_0 {x1 : Int} {M : Mm} {Q : Int → Mm → Prop} (h : (L_1029_5 x1 (Int64.ofNat 0) 0 M Q)) : E_1029 x1 M Q := by
  show Wp 0 1029 0 [some (.inr (.inr (10, 0))), some (.inl x1), none, none, none] [] M (rI Q)
  refine Wp.path (k := 4) [] (C := []) (pc' := 5) (ls' := [some (.inr (.inr (10, 0))), some (.inl x1), some (.inr (.inl (Int64.ofNat 0))), none, some (.inl 0)]) (st' := []) (M' := M) rfl trivial ?_
  exact h
theorem s_1029_5 {x1 : Int} {x2 : Int64} {x4 : Int} {M : Mm} {Q : Int → Mm → Prop} (h : ((x1 ≤ x4 → ((x2 ≠ Int64.ofNat 0 → (Q 0 M)) ∧ (x2 = Int64.ofNat 0 → (Q 1 M)))) ∧ (x4 < x1 → (((0 ≤ x4 ∧ x4 < 48)) ∧ (∀ x2_1 : Int64, x2_1 = x2 ||| (M.2 1117 0 x4.toNat) → (((-2147483648 ≤ x4 + 1 ∧ x4 + 1 ≤ 2147483647)) ∧ (L_1029_5 x1 x2_1 (x4 + 1) M Q))))))) : L_1029_5 x1 x2 x4 M Q := by
  show Wp 0 1029 5 [some (.inr (.inr (10, 0))), some (.inl x1), some (.inr (.inl x2)), none, some (.inl x4)] [] M (rI Q)
  refine Wp.path (k := 2) [] (C := []) (pc' := 8) (ls' := [some (.inr (.inr (10, 0))), some (.inl x1), some (.inr (.inl x2)), none, some (.inl x4)]) (st' := [.inl x1, .inl x4]) (M' := M) rfl trivial ?_
  rcases Int.lt_or_le (x4) (x1) with c_1 | c_1
  · replace h := h.2 c_1
    refine Wp.path (k := 1) [0] (C := [x4 < x1]) (pc' := 11) (ls' := [some (.inr (.inr (10, 0))), some (.inl x1), some (.inr (.inl x2)), none, some (.inl x4)]) (st' := []) (M' := M) rfl c_1 ?_
    refine Wp.path (k := 7) [] (C := [0 ≤ x4 ∧ x4 < 48]) (pc' := 21) (ls' := [some (.inr (.inr (10, 0))), some (.inl x1), some (.inr (.inl (x2 ||| (M.2 1117 0 x4.toNat)))), none, some (.inl x4)]) (st' := []) (M' := M) rfl h.1 ?_
    replace h := h.2
    refine Bd (P := fun x2_1 : Int64 => Wp 0 1029 21 [some (.inr (.inr (10, 0))), some (.inl x1), some (.inr (.inl x2_1)), none, some (.inl x4)] [] M (rI Q)) ?_
    intro x2_1 e_x2_1
    replace h := h x2_1 e_x2_1
    refine Wp.path (k := 2) [] (C := [inR (x4 + 1)]) (pc' := 5) (ls' := [some (.inr (.inr (10, 0))), some (.inl x1), some (.inr (.inl x2_1)), none, some (.inl (x4 + 1))]) (st' := []) (M' := M) rfl h.1 ?_
    replace h := h.2
    exact h
  · replace h := h.1 c_1
    refine Wp.path (k := 1) [1] (C := [x1 ≤ x4]) (pc' := 27) (ls' := [some (.inr (.inr (10, 0))), some (.inl x1), some (.inr (.inl x2)), none, some (.inl x4)]) (st' := []) (M' := M) rfl c_1 ?_
    refine Wp.path (k := 2) [] (C := []) (pc' := 29) (ls' := [some (.inr (.inr (10, 0))), some (.inl x1), some (.inr (.inl x2)), none, some (.inl x4)]) (st' := [.inr (.inl (Int64.ofNat 0)), .inr (.inl x2)]) (M' := M) rfl trivial ?_
    rcases Decidable.em (x2 = Int64.ofNat 0) with c_2 | c_2
    · replace h := h.2 c_2
      refine Wp.path (k := 2) [0] (C := [lcm x2 (Int64.ofNat 0) = 0]) (pc' := 33) (ls' := [some (.inr (.inr (10, 0))), some (.inl x1), some (.inr (.inl x2)), none, some (.inl x4)]) (st' := []) (M' := M) rfl (lcm_e c_2) ?_
      refine Wp.path (k := 2) [] (C := []) (pc' := 38) (ls' := [some (.inr (.inr (10, 0))), some (.inl x1), some (.inr (.inl x2)), none, some (.inl x4)]) (st' := [.inl 1]) (M' := M) rfl trivial ?_
      exact Wp.ret rfl ⟨_, rfl, h⟩
    · replace h := h.1 c_2
      refine Wp.path (k := 2) [1] (C := [lcm x2 (Int64.ofNat 0) ≠ 0]) (pc' := 37) (ls' := [some (.inr (.inr (10, 0))), some (.inl x1), some (.inr (.inl x2)), none, some (.inl x4)]) (st' := []) (M' := M) rfl (lcm_n c_2) ?_
      refine Wp.path (k := 1) [] (C := []) (pc' := 38) (ls' := [some (.inr (.inr (10, 0))), some (.inl x1), some (.inr (.inl x2)), none, some (.inl x4)]) (st' := [.inl 0]) (M' := M) rfl trivial ?_
      exact Wp.ret rfl ⟨_, rfl, h⟩
/-- X10_spreads -/
def E_1030 (x1 : Int) (x2 : Int) (x3 : Int) (M : Mm) (Q : Mm → Prop) : Prop := Ev 3 1030 [.inr (.inr (10, 0)), .inl x1, .inl x2, .inl x3] M (rV Q)
theorem m_1030 {x1 : Int} {x2 : Int} {x3 : Int} {M : Mm} {Q Q1 : Mm → Prop} (h : E_1030 x1 x2 x3 M Q) (k : (∀ M1, Q M1 → Q1 M1)) : E_1030 x1 x2 x3 M Q1 := Ev.mono h (fun v M1 h => ⟨h.1, k _ h.2⟩)
def L_1030_26 (x1 : Int) (x2 : Int) (x3 : Int) (x4 : Int) (x5 : Int) (M : Mm) (Q : Mm → Prop) : Prop := ∀ o6 o7 o8 o9 : Option Vv, Wp 3 1030 26 [some (.inr (.inr (10, 0))), some (.inl x1), some (.inl x2), some (.inl x3), some (.inl x4), some (.inl x5), o6, o7, o8, o9] [] M (rV Q)
def L_1030_48 (x1 : Int) (x2 : Int) (x3 : Int) (x4 : Int) (x5 : Int) (x6 : Int) (x7 : Int) (M : Mm) (Q : Mm → Prop) : Prop := ∀ o8 o9 : Option Vv, Wp 3 1030 48 [some (.inr (.inr (10, 0))), some (.inl x1), some (.inl x2), some (.inl x3), some (.inl x4), some (.inl x5), some (.inl x6), some (.inl x7), o8, o9] [] M (rV Q)
theorem s_1030_0 {x1 : Int} {x2 : Int} {x3 : Int} {M : Mm} {Q : Mm → Prop} (h : (∀ M1 : Mm, M1 = setI M 1123 0 0 x2 → (((-2147483648 ≤ 2304 * x1 ∧ 2304 * x1 ≤ 2147483647) ∧ (-2147483648 ≤ (2304 * x1) + x2 ∧ (2304 * x1) + x2 ≤ 2147483647) ∧ (0 ≤ (2304 * x1) + x2 ∧ (2304 * x1) + x2 < 27648)) ∧ (∀ M1_1 : Mm, M1_1 = setI M1 1119 0 (((2304 * x1) + x2).toNat) x3 → (L_1030_26 x1 x2 x3 0 1 M1_1 Q))))) : E_1030 x1 x2 x3 M Q := by
  show Wp 3 1030 0 [some (.inr (.inr (10, 0))), some (.inl x1), some (.inl x2), some (.inl x3), none, none, none, none, none, none] [] M (rV Q)
  refine Wp.path (k := 9) [] (C := [0 ≤ 0 ∧ 0 < 2304]) (pc' := 13) (ls' := [some (.inr (.inr (10, 0))), some (.inl x1), some (.inl x2), some (.inl x3), some (.inl 0), some (.inl 1), none, none, none, none]) (st' := []) (M' := setI M 1123 0 0 x2) rfl ⟨by decide, by decide⟩ ?_
  refine Bd (P := fun M1 : Mm => Wp 3 1030 13 [some (.inr (.inr (10, 0))), some (.inl x1), some (.inl x2), some (.inl x3), some (.inl 0), some (.inl 1), none, none, none, none] [] M1 (rV Q)) ?_
  intro M1 e_M1
  replace h := h M1 e_M1
  refine Wp.path (k := 9) [] (C := [inR (2304 * x1), inR ((2304 * x1) + x2), 0 ≤ (2304 * x1) + x2 ∧ (2304 * x1) + x2 < 27648]) (pc' := 26) (ls' := [some (.inr (.inr (10, 0))), some (.inl x1), some (.inl x2), some (.inl x3), some (.inl 0), some (.inl 1), none, none, none, none]) (st' := []) (M' := setI M1 1119 0 (((2304 * x1) + x2).toNat) x3) rfl ⟨h.1.1, h.1.2.1, h.1.2.2⟩ ?_
  replace h := h.2
  refine Bd (P := fun M1_1 : Mm => Wp 3 1030 26 [some (.inr (.inr (10, 0))), some (.inl x1), some (.inl x2), some (.inl x3), some (.inl 0), some (.inl 1), none, none, none, none] [] M1_1 (rV Q)) ?_
  intro M1_1 e_M1_1
  replace h := h M1_1 e_M1_1
  exact h _ _ _ _
theorem s_1030_26 {x1 : Int} {x2 : Int} {x3 : Int} {x4 : Int} {x5 : Int} {M : Mm} {Q : Mm → Prop} (h : ((x5 ≤ x4 → (Q M)) ∧ (x4 < x5 → (((0 ≤ x4 ∧ x4 < 2304)) ∧ (∀ x6 : Int, x6 = M.1 1123 0 x4.toNat → (((-2147483648 ≤ x4 + 1 ∧ x4 + 1 ≤ 2147483647)) ∧ (L_1030_48 x1 x2 x3 (x4 + 1) x5 x6 0 M Q))))))) : L_1030_26 x1 x2 x3 x4 x5 M Q := by
  intro o6 o7 o8 o9
  show Wp 3 1030 26 [some (.inr (.inr (10, 0))), some (.inl x1), some (.inl x2), some (.inl x3), some (.inl x4), some (.inl x5), o6, o7, o8, o9] [] M (rV Q)
  refine Wp.path (k := 2) [] (C := []) (pc' := 30) (ls' := [some (.inr (.inr (10, 0))), some (.inl x1), some (.inl x2), some (.inl x3), some (.inl x4), some (.inl x5), o6, o7, o8, o9]) (st' := [.inl x5, .inl x4]) (M' := M) rfl trivial ?_
  rcases Int.lt_or_le (x4) (x5) with c_1 | c_1
  · replace h := h.2 c_1
    refine Wp.path (k := 1) [0] (C := [x4 < x5]) (pc' := 33) (ls' := [some (.inr (.inr (10, 0))), some (.inl x1), some (.inl x2), some (.inl x3), some (.inl x4), some (.inl x5), o6, o7, o8, o9]) (st' := []) (M' := M) rfl c_1 ?_
    refine Wp.path (k := 5) [] (C := [0 ≤ x4 ∧ x4 < 2304]) (pc' := 42) (ls' := [some (.inr (.inr (10, 0))), some (.inl x1), some (.inl x2), some (.inl x3), some (.inl x4), some (.inl x5), some (.inl (M.1 1123 0 x4.toNat)), o7, o8, o9]) (st' := []) (M' := M) rfl h.1 ?_
    replace h := h.2
    refine Bd (P := fun x6 : Int => Wp 3 1030 42 [some (.inr (.inr (10, 0))), some (.inl x1), some (.inl x2), some (.inl x3), some (.inl x4), some (.inl x5), some (.inl x6), o7, o8, o9] [] M (rV Q)) ?_
    intro x6 e_x6
    replace h := h x6 e_x6
    refine Wp.path (k := 3) [] (C := [inR (x4 + 1)]) (pc' := 48) (ls' := [some (.inr (.inr (10, 0))), some (.inl x1), some (.inl x2), some (.inl x3), some (.inl (x4 + 1)), some (.inl x5), some (.inl x6), some (.inl 0), o8, o9]) (st' := []) (M' := M) rfl h.1 ?_
    replace h := h.2
    exact h _ _
  · replace h := h.1 c_1
    refine Wp.path (k := 1) [1] (C := [x5 ≤ x4]) (pc' := 195) (ls' := [some (.inr (.inr (10, 0))), some (.inl x1), some (.inl x2), some (.inl x3), some (.inl x4), some (.inl x5), o6, o7, o8, o9]) (st' := []) (M' := M) rfl c_1 ?_
    exact Wp.ret rfl ⟨rfl, h⟩
theorem s_1030_48 {x1 : Int} {x2 : Int} {x3 : Int} {x4 : Int} {x5 : Int} {x6 : Int} {x7 : Int} {M : Mm} {Q : Mm → Prop} (h : ((4 ≤ x7 → (L_1030_26 x1 x2 x3 x4 x5 M Q)) ∧ (x7 < 4 → (((-2147483648 ≤ x6 ∧ x6 ≤ 2147483647)) ∧ (∀ d : Int, d = Int.tmod x6 48 → (∀ b : Int, b = (if x7 ≠ 0 then (if x7 ≠ 2 then 0 else (-1)) else 1) → (((-2147483648 ≤ d + b ∧ d + b ≤ 2147483647)) ∧ (∀ x8 : Int, x8 = d + b → (((-2147483648 ≤ x6 ∧ x6 ≤ 2147483647)) ∧ (∀ d_1 : Int, d_1 = Int.tdiv x6 48 → (∀ b_1 : Int, b_1 = (if x7 ≠ 1 then (if x7 ≠ 3 then 0 else (-1)) else 1) → (((-2147483648 ≤ d_1 + b_1 ∧ d_1 + b_1 ≤ 2147483647)) ∧ (∀ x9 : Int, x9 = d_1 + b_1 → ((0 ≤ x1 ∧ x1 < 12) ∧ ((isV (M.2 1116 0) x1 x8 x9 = 0 → (((-2147483648 ≤ x7 + 1 ∧ x7 + 1 ≤ 2147483647)) ∧ (L_1030_48 x1 x2 x3 x4 x5 x6 (x7 + 1) M Q))) ∧ (isV (M.2 1116 0) x1 x8 x9 ≠ 0 → (((-2147483648 ≤ 2304 * x1 ∧ 2304 * x1 ≤ 2147483647) ∧ (-2147483648 ≤ 48 * x9 ∧ 48 * x9 ≤ 2147483647) ∧ (-2147483648 ≤ (2304 * x1) + (48 * x9) ∧ (2304 * x1) + (48 * x9) ≤ 2147483647) ∧ (-2147483648 ≤ ((2304 * x1) + (48 * x9)) + x8 ∧ ((2304 * x1) + (48 * x9)) + x8 ≤ 2147483647) ∧ (0 ≤ ((2304 * x1) + (48 * x9)) + x8 ∧ ((2304 * x1) + (48 * x9)) + x8 < 27648)) ∧ ((M.1 1119 0 ((((2304 * x1) + (48 * x9)) + x8).toNat) < 0 → (((-2147483648 ≤ 2304 * x1 ∧ 2304 * x1 ≤ 2147483647) ∧ (-2147483648 ≤ 48 * x9 ∧ 48 * x9 ≤ 2147483647) ∧ (-2147483648 ≤ (2304 * x1) + (48 * x9) ∧ (2304 * x1) + (48 * x9) ≤ 2147483647) ∧ (-2147483648 ≤ ((2304 * x1) + (48 * x9)) + x8 ∧ ((2304 * x1) + (48 * x9)) + x8 ≤ 2147483647) ∧ (0 ≤ ((2304 * x1) + (48 * x9)) + x8 ∧ ((2304 * x1) + (48 * x9)) + x8 < 27648)) ∧ (∀ M1 : Mm, M1 = setI M 1119 0 ((((2304 * x1) + (48 * x9)) + x8).toNat) x3 → (((-2147483648 ≤ 48 * x9 ∧ 48 * x9 ≤ 2147483647) ∧ (-2147483648 ≤ (48 * x9) + x8 ∧ (48 * x9) + x8 ≤ 2147483647) ∧ (0 ≤ x5 ∧ x5 < 2304)) ∧ (∀ M1_1 : Mm, M1_1 = setI M1 1123 0 x5.toNat ((48 * x9) + x8) → (((-2147483648 ≤ x5 + 1 ∧ x5 + 1 ≤ 2147483647) ∧ (-2147483648 ≤ x7 + 1 ∧ x7 + 1 ≤ 2147483647)) ∧ (L_1030_48 x1 x2 x3 x4 (x5 + 1) x6 (x7 + 1) M1_1 Q))))))) ∧ (0 ≤ M.1 1119 0 ((((2304 * x1) + (48 * x9)) + x8).toNat) → (((-2147483648 ≤ x7 + 1 ∧ x7 + 1 ≤ 2147483647)) ∧ (L_1030_48 x1 x2 x3 x4 x5 x6 (x7 + 1) M Q))))))))))))))))))))) : L_1030_48 x1 x2 x3 x4 x5 x6 x7 M Q := by
  intro o8 o9
  show Wp 3 1030 48 [some (.inr (.inr (10, 0))), some (.inl x1), some (.inl x2), some (.inl x3), some (.inl x4), some (.inl x5), some (.inl x6), some (.inl x7), o8, o9] [] M (rV Q)
  refine Wp.path (k := 2) [] (C := []) (pc' := 51) (ls' := [some (.inr (.inr (10, 0))), some (.inl x1), some (.inl x2), some (.inl x3), some (.inl x4), some (.inl x5), some (.inl x6), some (.inl x7), o8, o9]) (st' := [.inl 4, .inl x7]) (M' := M) rfl trivial ?_
  rcases Int.lt_or_le (x7) (4) with c_1 | c_1
  · replace h := h.2 c_1
    refine Wp.path (k := 1) [0] (C := [x7 < 4]) (pc' := 54) (ls' := [some (.inr (.inr (10, 0))), some (.inl x1), some (.inl x2), some (.inl x3), some (.inl x4), some (.inl x5), some (.inl x6), some (.inl x7), o8, o9]) (st' := []) (M' := M) rfl c_1 ?_
    refine Wp.path (k := 3) [] (C := [inR x6 ∧ 0 < 48 ∧ inR 48]) (pc' := 59) (ls' := [some (.inr (.inr (10, 0))), some (.inl x1), some (.inl x2), some (.inl x3), some (.inl x4), some (.inl x5), some (.inl x6), some (.inl x7), o8, o9]) (st' := [.inl (Int.tmod x6 48)]) (M' := M) rfl ⟨h.1, by decide, ⟨by decide, by decide⟩⟩ ?_
    replace h := h.2
    refine Bd (P := fun d : Int => Wp 3 1030 59 [some (.inr (.inr (10, 0))), some (.inl x1), some (.inl x2), some (.inl x3), some (.inl x4), some (.inl x5), some (.inl x6), some (.inl x7), o8, o9] [.inl d] M (rV Q)) ?_
    intro d e_d
    replace h := h d e_d
    refine Wp.path (k := 1) [] (C := []) (pc' := 61) (ls' := [some (.inr (.inr (10, 0))), some (.inl x1), some (.inl x2), some (.inl x3), some (.inl x4), some (.inl x5), some (.inl x6), some (.inl x7), o8, o9]) (st' := [.inl x7, .inl d]) (M' := M) rfl trivial ?_
    have k_7 : ∀ b : Int, b = (if x7 ≠ 0 then (if x7 ≠ 2 then 0 else (-1)) else 1) → Wp 3 1030 79 [some (.inr (.inr (10, 0))), some (.inl x1), some (.inl x2), some (.inl x3), some (.inl x4), some (.inl x5), some (.inl x6), some (.inl x7), o8, o9] [.inl b, .inl d] M (rV Q) := by
      intro b e_b
      replace h := h b e_b
      refine Wp.path (k := 2) [] (C := [inR (d + b)]) (pc' := 82) (ls' := [some (.inr (.inr (10, 0))), some (.inl x1), some (.inl x2), some (.inl x3), some (.inl x4), some (.inl x5), some (.inl x6), some (.inl x7), some (.inl (d + b)), o9]) (st' := []) (M' := M) rfl h.1 ?_
      replace h := h.2
      refine Bd (P := fun x8 : Int => Wp 3 1030 82 [some (.inr (.inr (10, 0))), some (.inl x1), some (.inl x2), some (.inl x3), some (.inl x4), some (.inl x5), some (.inl x6), some (.inl x7), some (.inl x8), o9] [] M (rV Q)) ?_
      intro x8 e_x8
      replace h := h x8 e_x8
      refine Wp.path (k := 3) [] (C := [inR x6 ∧ 0 < 48 ∧ inR 48]) (pc' := 87) (ls' := [some (.inr (.inr (10, 0))), some (.inl x1), some (.inl x2), some (.inl x3), some (.inl x4), some (.inl x5), some (.inl x6), some (.inl x7), some (.inl x8), o9]) (st' := [.inl (Int.tdiv x6 48)]) (M' := M) rfl ⟨h.1, by decide, ⟨by decide, by decide⟩⟩ ?_
      replace h := h.2
      refine Bd (P := fun d_1 : Int => Wp 3 1030 87 [some (.inr (.inr (10, 0))), some (.inl x1), some (.inl x2), some (.inl x3), some (.inl x4), some (.inl x5), some (.inl x6), some (.inl x7), some (.inl x8), o9] [.inl d_1] M (rV Q)) ?_
      intro d_1 e_d_1
      replace h := h d_1 e_d_1
      refine Wp.path (k := 2) [] (C := []) (pc' := 90) (ls' := [some (.inr (.inr (10, 0))), some (.inl x1), some (.inl x2), some (.inl x3), some (.inl x4), some (.inl x5), some (.inl x6), some (.inl x7), some (.inl x8), o9]) (st' := [.inl 1, .inl x7, .inl d_1]) (M' := M) rfl trivial ?_
      have k_4 : ∀ b_1 : Int, b_1 = (if x7 ≠ 1 then (if x7 ≠ 3 then 0 else (-1)) else 1) → Wp 3 1030 108 [some (.inr (.inr (10, 0))), some (.inl x1), some (.inl x2), some (.inl x3), some (.inl x4), some (.inl x5), some (.inl x6), some (.inl x7), some (.inl x8), o9] [.inl b_1, .inl d_1] M (rV Q) := by
        intro b_1 e_b_1
        replace h := h b_1 e_b_1
        refine Wp.path (k := 2) [] (C := [inR (d_1 + b_1)]) (pc' := 111) (ls' := [some (.inr (.inr (10, 0))), some (.inl x1), some (.inl x2), some (.inl x3), some (.inl x4), some (.inl x5), some (.inl x6), some (.inl x7), some (.inl x8), some (.inl (d_1 + b_1))]) (st' := []) (M' := M) rfl h.1 ?_
        replace h := h.2
        refine Bd (P := fun x9 : Int => Wp 3 1030 111 [some (.inr (.inr (10, 0))), some (.inl x1), some (.inl x2), some (.inl x3), some (.inl x4), some (.inl x5), some (.inl x6), some (.inl x7), some (.inl x8), some (.inl x9)] [] M (rV Q)) ?_
        intro x9 e_x9
        replace h := h x9 e_x9
        refine Wp.path (k := 4) [] (C := []) (pc' := 117) (ls' := [some (.inr (.inr (10, 0))), some (.inl x1), some (.inl x2), some (.inl x3), some (.inl x4), some (.inl x5), some (.inl x6), some (.inl x7), some (.inl x8), some (.inl x9)]) (st' := [.inl x9, .inl x8, .inl x1, .inr (.inr (10, 0))]) (M' := M) rfl trivial ?_
        refine Wp.call (e1026 h.1.1 h.1.2) rfl rfl (by decide) ?_
        replace h := h.2
        rintro v_ M_ ⟨eM_, ev_⟩
        rw [eM_, ev_]
        clear eM_ ev_ v_ M_
        show Wp 3 1030 120 [some (.inr (.inr (10, 0))), some (.inl x1), some (.inl x2), some (.inl x3), some (.inl x4), some (.inl x5), some (.inl x6), some (.inl x7), some (.inl x8), some (.inl x9)] [.inl (isV (M.2 1116 0) x1 x8 x9)] M (rV Q)
        rcases Decidable.em (isV (M.2 1116 0) x1 x8 x9 = 0) with c_2 | c_2
        · replace h := h.1 c_2
          refine Wp.path (k := 1) [1] (C := [isV (M.2 1116 0) x1 x8 x9 = 0]) (pc' := 186) (ls' := [some (.inr (.inr (10, 0))), some (.inl x1), some (.inl x2), some (.inl x3), some (.inl x4), some (.inl x5), some (.inl x6), some (.inl x7), some (.inl x8), some (.inl x9)]) (st' := []) (M' := M) rfl c_2 ?_
          refine Wp.path (k := 2) [] (C := [inR (x7 + 1)]) (pc' := 48) (ls' := [some (.inr (.inr (10, 0))), some (.inl x1), some (.inl x2), some (.inl x3), some (.inl x4), some (.inl x5), some (.inl x6), some (.inl (x7 + 1)), some (.inl x8), some (.inl x9)]) (st' := []) (M' := M) rfl h.1 ?_
          replace h := h.2
          exact h _ _
        · replace h := h.2 c_2
          refine Wp.path (k := 1) [0] (C := [isV (M.2 1116 0) x1 x8 x9 ≠ 0]) (pc' := 123) (ls' := [some (.inr (.inr (10, 0))), some (.inl x1), some (.inl x2), some (.inl x3), some (.inl x4), some (.inl x5), some (.inl x6), some (.inl x7), some (.inl x8), some (.inl x9)]) (st' := []) (M' := M) rfl c_2 ?_
          refine Wp.path (k := 12) [] (C := [inR (2304 * x1), inR (48 * x9), inR ((2304 * x1) + (48 * x9)), inR (((2304 * x1) + (48 * x9)) + x8), 0 ≤ ((2304 * x1) + (48 * x9)) + x8 ∧ ((2304 * x1) + (48 * x9)) + x8 < 27648]) (pc' := 142) (ls' := [some (.inr (.inr (10, 0))), some (.inl x1), some (.inl x2), some (.inl x3), some (.inl x4), some (.inl x5), some (.inl x6), some (.inl x7), some (.inl x8), some (.inl x9)]) (st' := [.inl (M.1 1119 0 ((((2304 * x1) + (48 * x9)) + x8).toNat))]) (M' := M) rfl ⟨h.1.1, h.1.2.1, h.1.2.2.1, h.1.2.2.2.1, h.1.2.2.2.2⟩ ?_
          replace h := h.2
          rcases Int.lt_or_le (M.1 1119 0 ((((2304 * x1) + (48 * x9)) + x8).toNat)) (0) with c_3 | c_3
          · replace h := h.1 c_3
            refine Wp.path (k := 1) [1] (C := [M.1 1119 0 ((((2304 * x1) + (48 * x9)) + x8).toNat) < 0]) (pc' := 148) (ls' := [some (.inr (.inr (10, 0))), some (.inl x1), some (.inl x2), some (.inl x3), some (.inl x4), some (.inl x5), some (.inl x6), some (.inl x7), some (.inl x8), some (.inl x9)]) (st' := []) (M' := M) rfl c_3 ?_
            refine Wp.path (k := 13) [] (C := [inR (2304 * x1), inR (48 * x9), inR ((2304 * x1) + (48 * x9)), inR (((2304 * x1) + (48 * x9)) + x8), 0 ≤ ((2304 * x1) + (48 * x9)) + x8 ∧ ((2304 * x1) + (48 * x9)) + x8 < 27648]) (pc' := 168) (ls' := [some (.inr (.inr (10, 0))), some (.inl x1), some (.inl x2), some (.inl x3), some (.inl x4), some (.inl x5), some (.inl x6), some (.inl x7), some (.inl x8), some (.inl x9)]) (st' := []) (M' := setI M 1119 0 ((((2304 * x1) + (48 * x9)) + x8).toNat) x3) rfl ⟨h.1.1, h.1.2.1, h.1.2.2.1, h.1.2.2.2.1, h.1.2.2.2.2⟩ ?_
            replace h := h.2
            refine Bd (P := fun M1 : Mm => Wp 3 1030 168 [some (.inr (.inr (10, 0))), some (.inl x1), some (.inl x2), some (.inl x3), some (.inl x4), some (.inl x5), some (.inl x6), some (.inl x7), some (.inl x8), some (.inl x9)] [] M1 (rV Q)) ?_
            intro M1 e_M1
            replace h := h M1 e_M1
            refine Wp.path (k := 9) [] (C := [inR (48 * x9), inR ((48 * x9) + x8), 0 ≤ x5 ∧ x5 < 2304]) (pc' := 183) (ls' := [some (.inr (.inr (10, 0))), some (.inl x1), some (.inl x2), some (.inl x3), some (.inl x4), some (.inl x5), some (.inl x6), some (.inl x7), some (.inl x8), some (.inl x9)]) (st' := []) (M' := setI M1 1123 0 x5.toNat ((48 * x9) + x8)) rfl ⟨h.1.1, h.1.2.1, h.1.2.2⟩ ?_
            replace h := h.2
            refine Bd (P := fun M1_1 : Mm => Wp 3 1030 183 [some (.inr (.inr (10, 0))), some (.inl x1), some (.inl x2), some (.inl x3), some (.inl x4), some (.inl x5), some (.inl x6), some (.inl x7), some (.inl x8), some (.inl x9)] [] M1_1 (rV Q)) ?_
            intro M1_1 e_M1_1
            replace h := h M1_1 e_M1_1
            refine Wp.path (k := 3) [] (C := [inR (x5 + 1), inR (x7 + 1)]) (pc' := 48) (ls' := [some (.inr (.inr (10, 0))), some (.inl x1), some (.inl x2), some (.inl x3), some (.inl x4), some (.inl (x5 + 1)), some (.inl x6), some (.inl (x7 + 1)), some (.inl x8), some (.inl x9)]) (st' := []) (M' := M1_1) rfl ⟨h.1.1, h.1.2⟩ ?_
            replace h := h.2
            exact h _ _
          · replace h := h.2 c_3
            refine Wp.path (k := 1) [0] (C := [0 ≤ M.1 1119 0 ((((2304 * x1) + (48 * x9)) + x8).toNat)]) (pc' := 145) (ls' := [some (.inr (.inr (10, 0))), some (.inl x1), some (.inl x2), some (.inl x3), some (.inl x4), some (.inl x5), some (.inl x6), some (.inl x7), some (.inl x8), some (.inl x9)]) (st' := []) (M' := M) rfl c_3 ?_
            refine Wp.path (k := 3) [] (C := [inR (x7 + 1)]) (pc' := 48) (ls' := [some (.inr (.inr (10, 0))), some (.inl x1), some (.inl x2), some (.inl x3), some (.inl x4), some (.inl x5), some (.inl x6), some (.inl (x7 + 1)), some (.inl x8), some (.inl x9)]) (st' := []) (M' := M) rfl h.1 ?_
            replace h := h.2
            exact h _ _
      clear h
      rcases Decidable.em (x7 = 1) with c_5 | c_5
      · refine Wp.path (k := 1) [0] (C := [x7 = 1]) (pc' := 93) (ls' := [some (.inr (.inr (10, 0))), some (.inl x1), some (.inl x2), some (.inl x3), some (.inl x4), some (.inl x5), some (.inl x6), some (.inl x7), some (.inl x8), o9]) (st' := [.inl d_1]) (M' := M) rfl c_5 ?_
        refine Wp.path (k := 2) [] (C := []) (pc' := 108) (ls' := [some (.inr (.inr (10, 0))), some (.inl x1), some (.inl x2), some (.inl x3), some (.inl x4), some (.inl x5), some (.inl x6), some (.inl x7), some (.inl x8), o9]) (st' := [.inl 1, .inl d_1]) (M' := M) rfl trivial ?_
        exact k_4 _ (by rw [if_neg (not_not_intro c_5)])
      · refine Wp.path (k := 1) [1] (C := [x7 ≠ 1]) (pc' := 97) (ls' := [some (.inr (.inr (10, 0))), some (.inl x1), some (.inl x2), some (.inl x3), some (.inl x4), some (.inl x5), some (.inl x6), some (.inl x7), some (.inl x8), o9]) (st' := [.inl d_1]) (M' := M) rfl c_5 ?_
        refine Wp.path (k := 2) [] (C := []) (pc' := 100) (ls' := [some (.inr (.inr (10, 0))), some (.inl x1), some (.inl x2), some (.inl x3), some (.inl x4), some (.inl x5), some (.inl x6), some (.inl x7), some (.inl x8), o9]) (st' := [.inl 3, .inl x7, .inl d_1]) (M' := M) rfl trivial ?_
        rcases Decidable.em (x7 = 3) with c_6 | c_6
        · refine Wp.path (k := 1) [0] (C := [x7 = 3]) (pc' := 103) (ls' := [some (.inr (.inr (10, 0))), some (.inl x1), some (.inl x2), some (.inl x3), some (.inl x4), some (.inl x5), some (.inl x6), some (.inl x7), some (.inl x8), o9]) (st' := [.inl d_1]) (M' := M) rfl c_6 ?_
          refine Wp.path (k := 2) [] (C := []) (pc' := 108) (ls' := [some (.inr (.inr (10, 0))), some (.inl x1), some (.inl x2), some (.inl x3), some (.inl x4), some (.inl x5), some (.inl x6), some (.inl x7), some (.inl x8), o9]) (st' := [.inl (-1), .inl d_1]) (M' := M) rfl trivial ?_
          exact k_4 _ (by rw [if_pos c_5, if_neg (not_not_intro c_6)])
        · refine Wp.path (k := 1) [1] (C := [x7 ≠ 3]) (pc' := 107) (ls' := [some (.inr (.inr (10, 0))), some (.inl x1), some (.inl x2), some (.inl x3), some (.inl x4), some (.inl x5), some (.inl x6), some (.inl x7), some (.inl x8), o9]) (st' := [.inl d_1]) (M' := M) rfl c_6 ?_
          refine Wp.path (k := 1) [] (C := []) (pc' := 108) (ls' := [some (.inr (.inr (10, 0))), some (.inl x1), some (.inl x2), some (.inl x3), some (.inl x4), some (.inl x5), some (.inl x6), some (.inl x7), some (.inl x8), o9]) (st' := [.inl 0, .inl d_1]) (M' := M) rfl trivial ?_
          exact k_4 _ (by rw [if_pos c_5, if_pos c_6])
    clear h
    rcases Decidable.em (x7 = 0) with c_8 | c_8
    · refine Wp.path (k := 1) [0] (C := [x7 = 0]) (pc' := 64) (ls' := [some (.inr (.inr (10, 0))), some (.inl x1), some (.inl x2), some (.inl x3), some (.inl x4), some (.inl x5), some (.inl x6), some (.inl x7), o8, o9]) (st' := [.inl d]) (M' := M) rfl c_8 ?_
      refine Wp.path (k := 2) [] (C := []) (pc' := 79) (ls' := [some (.inr (.inr (10, 0))), some (.inl x1), some (.inl x2), some (.inl x3), some (.inl x4), some (.inl x5), some (.inl x6), some (.inl x7), o8, o9]) (st' := [.inl 1, .inl d]) (M' := M) rfl trivial ?_
      exact k_7 _ (by rw [if_neg (not_not_intro c_8)])
    · refine Wp.path (k := 1) [1] (C := [x7 ≠ 0]) (pc' := 68) (ls' := [some (.inr (.inr (10, 0))), some (.inl x1), some (.inl x2), some (.inl x3), some (.inl x4), some (.inl x5), some (.inl x6), some (.inl x7), o8, o9]) (st' := [.inl d]) (M' := M) rfl c_8 ?_
      refine Wp.path (k := 2) [] (C := []) (pc' := 71) (ls' := [some (.inr (.inr (10, 0))), some (.inl x1), some (.inl x2), some (.inl x3), some (.inl x4), some (.inl x5), some (.inl x6), some (.inl x7), o8, o9]) (st' := [.inl 2, .inl x7, .inl d]) (M' := M) rfl trivial ?_
      rcases Decidable.em (x7 = 2) with c_9 | c_9
      · refine Wp.path (k := 1) [0] (C := [x7 = 2]) (pc' := 74) (ls' := [some (.inr (.inr (10, 0))), some (.inl x1), some (.inl x2), some (.inl x3), some (.inl x4), some (.inl x5), some (.inl x6), some (.inl x7), o8, o9]) (st' := [.inl d]) (M' := M) rfl c_9 ?_
        refine Wp.path (k := 2) [] (C := []) (pc' := 79) (ls' := [some (.inr (.inr (10, 0))), some (.inl x1), some (.inl x2), some (.inl x3), some (.inl x4), some (.inl x5), some (.inl x6), some (.inl x7), o8, o9]) (st' := [.inl (-1), .inl d]) (M' := M) rfl trivial ?_
        exact k_7 _ (by rw [if_pos c_8, if_neg (not_not_intro c_9)])
      · refine Wp.path (k := 1) [1] (C := [x7 ≠ 2]) (pc' := 78) (ls' := [some (.inr (.inr (10, 0))), some (.inl x1), some (.inl x2), some (.inl x3), some (.inl x4), some (.inl x5), some (.inl x6), some (.inl x7), o8, o9]) (st' := [.inl d]) (M' := M) rfl c_9 ?_
        refine Wp.path (k := 1) [] (C := []) (pc' := 79) (ls' := [some (.inr (.inr (10, 0))), some (.inl x1), some (.inl x2), some (.inl x3), some (.inl x4), some (.inl x5), some (.inl x6), some (.inl x7), o8, o9]) (st' := [.inl 0, .inl d]) (M' := M) rfl trivial ?_
        exact k_7 _ (by rw [if_pos c_8, if_pos c_9])
  · replace h := h.1 c_1
    refine Wp.path (k := 1) [1] (C := [4 ≤ x7]) (pc' := 192) (ls' := [some (.inr (.inr (10, 0))), some (.inl x1), some (.inl x2), some (.inl x3), some (.inl x4), some (.inl x5), some (.inl x6), some (.inl x7), o8, o9]) (st' := []) (M' := M) rfl c_1 ?_
    refine Wp.path (k := 1) [] (C := []) (pc' := 26) (ls' := [some (.inr (.inr (10, 0))), some (.inl x1), some (.inl x2), some (.inl x3), some (.inl x4), some (.inl x5), some (.inl x6), some (.inl x7), o8, o9]) (st' := []) (M' := M) rfl trivial ?_
    exact h _ _ _ _
/-- X10_labels -/
def E_1031 (x1 : Int) (M : Mm) (Q : Mm → Prop) : Prop := Ev 4 1031 [.inr (.inr (10, 0)), .inl x1] M (rV Q)
theorem m_1031 {x1 : Int} {M : Mm} {Q Q1 : Mm → Prop} (h : E_1031 x1 M Q) (k : (∀ M1, Q M1 → Q1 M1)) : E_1031 x1 M Q1 := Ev.mono h (fun v M1 h => ⟨h.1, k _ h.2⟩)
def L_1031_4 (x1 : Int) (x2 : Int) (x3 : Int) (M : Mm) (Q : Mm → Prop) : Prop := Wp 4 1031 4 [some (.inr (.inr (10, 0))), some (.inl x1), some (.inl x2), some (.inl x3)] [] M (rV Q)
def L_1031_32 (x1 : Int) (x2 : Int) (x3 : Int) (M : Mm) (Q : Mm → Prop) : Prop := Wp 4 1031 32 [some (.inr (.inr (10, 0))), some (.inl x1), some (.inl x2), some (.inl x3)] [] M (rV Q)
theorem s_1031_0 {x1 : Int} {M : Mm} {Q : Mm → Prop} (h : (L_1031_4 x1 0 0 M Q)) : E_1031 x1 M Q := by
  show Wp 4 1031 0 [some (.inr (.inr (10, 0))), some (.inl x1), none, none] [] M (rV Q)
  refine Wp.path (k := 4) [] (C := []) (pc' := 4) (ls' := [some (.inr (.inr (10, 0))), some (.inl x1), some (.inl 0), some (.inl 0)]) (st' := []) (M' := M) rfl trivial ?_
  exact h
theorem s_1031_4 {x1 : Int} {x2 : Int} {x3 : Int} {M : Mm} {Q : Mm → Prop} (h : ((2304 ≤ x3 → (L_1031_32 x1 x2 0 M Q)) ∧ (x3 < 2304 → (((-2147483648 ≤ 2304 * x1 ∧ 2304 * x1 ≤ 2147483647) ∧ (-2147483648 ≤ (2304 * x1) + x3 ∧ (2304 * x1) + x3 ≤ 2147483647) ∧ (0 ≤ (2304 * x1) + x3 ∧ (2304 * x1) + x3 < 27648)) ∧ (∀ M1 : Mm, M1 = setI M 1119 0 (((2304 * x1) + x3).toNat) (-1) → (((-2147483648 ≤ x3 + 1 ∧ x3 + 1 ≤ 2147483647)) ∧ (L_1031_4 x1 x2 (x3 + 1) M1 Q))))))) : L_1031_4 x1 x2 x3 M Q := by
  show Wp 4 1031 4 [some (.inr (.inr (10, 0))), some (.inl x1), some (.inl x2), some (.inl x3)] [] M (rV Q)
  refine Wp.path (k := 2) [] (C := []) (pc' := 8) (ls' := [some (.inr (.inr (10, 0))), some (.inl x1), some (.inl x2), some (.inl x3)]) (st' := [.inl 2304, .inl x3]) (M' := M) rfl trivial ?_
  rcases Int.lt_or_le (x3) (2304) with c_1 | c_1
  · replace h := h.2 c_1
    refine Wp.path (k := 1) [0] (C := [x3 < 2304]) (pc' := 11) (ls' := [some (.inr (.inr (10, 0))), some (.inl x1), some (.inl x2), some (.inl x3)]) (st' := []) (M' := M) rfl c_1 ?_
    refine Wp.path (k := 9) [] (C := [inR (2304 * x1), inR ((2304 * x1) + x3), 0 ≤ (2304 * x1) + x3 ∧ (2304 * x1) + x3 < 27648]) (pc' := 24) (ls' := [some (.inr (.inr (10, 0))), some (.inl x1), some (.inl x2), some (.inl x3)]) (st' := []) (M' := setI M 1119 0 (((2304 * x1) + x3).toNat) (-1)) rfl ⟨h.1.1, h.1.2.1, h.1.2.2⟩ ?_
    replace h := h.2
    refine Bd (P := fun M1 : Mm => Wp 4 1031 24 [some (.inr (.inr (10, 0))), some (.inl x1), some (.inl x2), some (.inl x3)] [] M1 (rV Q)) ?_
    intro M1 e_M1
    replace h := h M1 e_M1
    refine Wp.path (k := 2) [] (C := [inR (x3 + 1)]) (pc' := 4) (ls' := [some (.inr (.inr (10, 0))), some (.inl x1), some (.inl x2), some (.inl (x3 + 1))]) (st' := []) (M' := M1) rfl h.1 ?_
    replace h := h.2
    exact h
  · replace h := h.1 c_1
    refine Wp.path (k := 1) [1] (C := [2304 ≤ x3]) (pc' := 30) (ls' := [some (.inr (.inr (10, 0))), some (.inl x1), some (.inl x2), some (.inl x3)]) (st' := []) (M' := M) rfl c_1 ?_
    refine Wp.path (k := 2) [] (C := []) (pc' := 32) (ls' := [some (.inr (.inr (10, 0))), some (.inl x1), some (.inl x2), some (.inl 0)]) (st' := []) (M' := M) rfl trivial ?_
    exact h
theorem s_1031_32 {x1 : Int} {x2 : Int} {x3 : Int} {M : Mm} {Q : Mm → Prop} (h : ((2304 ≤ x3 → (((0 ≤ x1 ∧ x1 < 13)) ∧ (∀ M1_4 : Mm, M1_4 = setI M 1120 0 x1.toNat x2 → (Q M1_4)))) ∧ (x3 < 2304 → (((-2147483648 ≤ x3 ∧ x3 ≤ 2147483647)) ∧ (∀ d : Int, d = Int.tmod x3 48 → (((-2147483648 ≤ x3 ∧ x3 ≤ 2147483647)) ∧ (∀ d_1 : Int, d_1 = Int.tdiv x3 48 → ((0 ≤ x1 ∧ x1 < 12) ∧ ((isV (M.2 1116 0) x1 d d_1 = 0 → (((-2147483648 ≤ x3 + 1 ∧ x3 + 1 ≤ 2147483647)) ∧ (L_1031_32 x1 x2 (x3 + 1) M Q))) ∧ (isV (M.2 1116 0) x1 d d_1 ≠ 0 → (((-2147483648 ≤ 2304 * x1 ∧ 2304 * x1 ≤ 2147483647) ∧ (-2147483648 ≤ (2304 * x1) + x3 ∧ (2304 * x1) + x3 ≤ 2147483647) ∧ (0 ≤ (2304 * x1) + x3 ∧ (2304 * x1) + x3 < 27648)) ∧ ((M.1 1119 0 (((2304 * x1) + x3).toNat) < 0 → (E_1030 x1 x3 x2 M (fun M1 : Mm => ((-2147483648 ≤ 80 * x1 ∧ 80 * x1 ≤ 2147483647) ∧ (-2147483648 ≤ (80 * x1) + x2 ∧ (80 * x1) + x2 ≤ 2147483647) ∧ (0 ≤ (80 * x1) + x2 ∧ (80 * x1) + x2 < 960)) ∧ (∀ M1_1 : Mm, M1_1 = setI M1 1122 0 (((80 * x1) + x2).toNat) 0 → ((x1 ≤ 0 → (((-2147483648 ≤ x2 + 1 ∧ x2 + 1 ≤ 2147483647) ∧ (-2147483648 ≤ x3 + 1 ∧ x3 + 1 ≤ 2147483647)) ∧ (L_1031_32 x1 (x2 + 1) (x3 + 1) M1_1 Q))) ∧ (0 < x1 → (((-2147483648 ≤ 80 * x1 ∧ 80 * x1 ≤ 2147483647) ∧ (-2147483648 ≤ (80 * x1) + x2 ∧ (80 * x1) + x2 ≤ 2147483647) ∧ (-2147483648 ≤ x1 - 1 ∧ x1 - 1 ≤ 2147483647) ∧ (-2147483648 ≤ 2304 * (x1 - 1) ∧ 2304 * (x1 - 1) ≤ 2147483647) ∧ (-2147483648 ≤ (2304 * (x1 - 1)) + x3 ∧ (2304 * (x1 - 1)) + x3 ≤ 2147483647) ∧ (0 ≤ (2304 * (x1 - 1)) + x3 ∧ (2304 * (x1 - 1)) + x3 < 27648) ∧ (0 ≤ (80 * x1) + x2 ∧ (80 * x1) + x2 < 960)) ∧ (∀ M1_2 : Mm, M1_2 = setI M1_1 1121 0 (((80 * x1) + x2).toNat) (M1_1.1 1119 0 (((2304 * (x1 - 1)) + x3).toNat)) → (((-2147483648 ≤ x1 - 1 ∧ x1 - 1 ≤ 2147483647) ∧ (-2147483648 ≤ 80 * (x1 - 1) ∧ 80 * (x1 - 1) ≤ 2147483647) ∧ (-2147483648 ≤ 2304 * (x1 - 1) ∧ 2304 * (x1 - 1) ≤ 2147483647) ∧ (-2147483648 ≤ (2304 * (x1 - 1)) + x3 ∧ (2304 * (x1 - 1)) + x3 ≤ 2147483647) ∧ (0 ≤ (2304 * (x1 - 1)) + x3 ∧ (2304 * (x1 - 1)) + x3 < 27648) ∧ (-2147483648 ≤ (80 * (x1 - 1)) + (M1_2.1 1119 0 (((2304 * (x1 - 1)) + x3).toNat)) ∧ (80 * (x1 - 1)) + (M1_2.1 1119 0 (((2304 * (x1 - 1)) + x3).toNat)) ≤ 2147483647) ∧ (0 ≤ (80 * (x1 - 1)) + (M1_2.1 1119 0 (((2304 * (x1 - 1)) + x3).toNat)) ∧ (80 * (x1 - 1)) + (M1_2.1 1119 0 (((2304 * (x1 - 1)) + x3).toNat)) < 960) ∧ (-2147483648 ≤ (M1_2.1 1122 0 (((80 * (x1 - 1)) + (M1_2.1 1119 0 (((2304 * (x1 - 1)) + x3).toNat))).toNat)) + 1 ∧ (M1_2.1 1122 0 (((80 * (x1 - 1)) + (M1_2.1 1119 0 (((2304 * (x1 - 1)) + x3).toNat))).toNat)) + 1 ≤ 2147483647)) ∧ (∀ M1_3 : Mm, M1_3 = setI M1_2 1122 0 (((80 * (x1 - 1)) + (M1_2.1 1119 0 (((2304 * (x1 - 1)) + x3).toNat))).toNat) ((M1_2.1 1122 0 (((80 * (x1 - 1)) + (M1_2.1 1119 0 (((2304 * (x1 - 1)) + x3).toNat))).toNat)) + 1) → (((-2147483648 ≤ x2 + 1 ∧ x2 + 1 ≤ 2147483647) ∧ (-2147483648 ≤ x3 + 1 ∧ x3 + 1 ≤ 2147483647)) ∧ (L_1031_32 x1 (x2 + 1) (x3 + 1) M1_3 Q)))))))))))) ∧ (0 ≤ M.1 1119 0 (((2304 * x1) + x3).toNat) → (((-2147483648 ≤ x3 + 1 ∧ x3 + 1 ≤ 2147483647)) ∧ (L_1031_32 x1 x2 (x3 + 1) M Q))))))))))))))) : L_1031_32 x1 x2 x3 M Q := by
  show Wp 4 1031 32 [some (.inr (.inr (10, 0))), some (.inl x1), some (.inl x2), some (.inl x3)] [] M (rV Q)
  refine Wp.path (k := 2) [] (C := []) (pc' := 36) (ls' := [some (.inr (.inr (10, 0))), some (.inl x1), some (.inl x2), some (.inl x3)]) (st' := [.inl 2304, .inl x3]) (M' := M) rfl trivial ?_
  rcases Int.lt_or_le (x3) (2304) with c_1 | c_1
  · replace h := h.2 c_1
    refine Wp.path (k := 1) [0] (C := [x3 < 2304]) (pc' := 39) (ls' := [some (.inr (.inr (10, 0))), some (.inl x1), some (.inl x2), some (.inl x3)]) (st' := []) (M' := M) rfl c_1 ?_
    refine Wp.path (k := 5) [] (C := [inR x3 ∧ 0 < 48 ∧ inR 48]) (pc' := 45) (ls' := [some (.inr (.inr (10, 0))), some (.inl x1), some (.inl x2), some (.inl x3)]) (st' := [.inl (Int.tmod x3 48), .inl x1, .inr (.inr (10, 0))]) (M' := M) rfl ⟨h.1, by decide, ⟨by decide, by decide⟩⟩ ?_
    replace h := h.2
    refine Bd (P := fun d : Int => Wp 4 1031 45 [some (.inr (.inr (10, 0))), some (.inl x1), some (.inl x2), some (.inl x3)] [.inl d, .inl x1, .inr (.inr (10, 0))] M (rV Q)) ?_
    intro d e_d
    replace h := h d e_d
    refine Wp.path (k := 3) [] (C := [inR x3 ∧ 0 < 48 ∧ inR 48]) (pc' := 49) (ls' := [some (.inr (.inr (10, 0))), some (.inl x1), some (.inl x2), some (.inl x3)]) (st' := [.inl (Int.tdiv x3 48), .inl d, .inl x1, .inr (.inr (10, 0))]) (M' := M) rfl ⟨h.1, by decide, ⟨by decide, by decide⟩⟩ ?_
    replace h := h.2
    refine Bd (P := fun d_1 : Int => Wp 4 1031 49 [some (.inr (.inr (10, 0))), some (.inl x1), some (.inl x2), some (.inl x3)] [.inl d_1, .inl d, .inl x1, .inr (.inr (10, 0))] M (rV Q)) ?_
    intro d_1 e_d_1
    replace h := h d_1 e_d_1
    refine Wp.call (e1026 h.1.1 h.1.2) rfl rfl (by decide) ?_
    replace h := h.2
    rintro v_ M_ ⟨eM_, ev_⟩
    rw [eM_, ev_]
    clear eM_ ev_ v_ M_
    show Wp 4 1031 52 [some (.inr (.inr (10, 0))), some (.inl x1), some (.inl x2), some (.inl x3)] [.inl (isV (M.2 1116 0) x1 d d_1)] M (rV Q)
    rcases Decidable.em (isV (M.2 1116 0) x1 d d_1 = 0) with c_2 | c_2
    · replace h := h.1 c_2
      refine Wp.path (k := 1) [1] (C := [isV (M.2 1116 0) x1 d d_1 = 0]) (pc' := 154) (ls' := [some (.inr (.inr (10, 0))), some (.inl x1), some (.inl x2), some (.inl x3)]) (st' := []) (M' := M) rfl c_2 ?_
      refine Wp.path (k := 2) [] (C := [inR (x3 + 1)]) (pc' := 32) (ls' := [some (.inr (.inr (10, 0))), some (.inl x1), some (.inl x2), some (.inl (x3 + 1))]) (st' := []) (M' := M) rfl h.1 ?_
      replace h := h.2
      exact h
    · replace h := h.2 c_2
      refine Wp.path (k := 1) [0] (C := [isV (M.2 1116 0) x1 d d_1 ≠ 0]) (pc' := 55) (ls' := [some (.inr (.inr (10, 0))), some (.inl x1), some (.inl x2), some (.inl x3)]) (st' := []) (M' := M) rfl c_2 ?_
      refine Wp.path (k := 8) [] (C := [inR (2304 * x1), inR ((2304 * x1) + x3), 0 ≤ (2304 * x1) + x3 ∧ (2304 * x1) + x3 < 27648]) (pc' := 67) (ls' := [some (.inr (.inr (10, 0))), some (.inl x1), some (.inl x2), some (.inl x3)]) (st' := [.inl (M.1 1119 0 (((2304 * x1) + x3).toNat))]) (M' := M) rfl ⟨h.1.1, h.1.2.1, h.1.2.2⟩ ?_
      replace h := h.2
      rcases Int.lt_or_le (M.1 1119 0 (((2304 * x1) + x3).toNat)) (0) with c_3 | c_3
      · replace h := h.1 c_3
        refine Wp.path (k := 1) [1] (C := [M.1 1119 0 (((2304 * x1) + x3).toNat) < 0]) (pc' := 73) (ls' := [some (.inr (.inr (10, 0))), some (.inl x1), some (.inl x2), some (.inl x3)]) (st' := []) (M' := M) rfl c_3 ?_
        refine Wp.path (k := 4) [] (C := []) (pc' := 77) (ls' := [some (.inr (.inr (10, 0))), some (.inl x1), some (.inl x2), some (.inl x3)]) (st' := [.inl x2, .inl x3, .inl x1, .inr (.inr (10, 0))]) (M' := M) rfl trivial ?_
        refine Wp.call h rfl rfl (by decide) ?_
        rintro _ M1 ⟨rfl, h⟩
        show Wp 4 1031 80 [some (.inr (.inr (10, 0))), some (.inl x1), some (.inl x2), some (.inl x3)] [] M1 (rV Q)
        refine Wp.path (k := 9) [] (C := [inR (80 * x1), inR ((80 * x1) + x2), 0 ≤ (80 * x1) + x2 ∧ (80 * x1) + x2 < 960]) (pc' := 92) (ls' := [some (.inr (.inr (10, 0))), some (.inl x1), some (.inl x2), some (.inl x3)]) (st' := []) (M' := setI M1 1122 0 (((80 * x1) + x2).toNat) 0) rfl ⟨h.1.1, h.1.2.1, h.1.2.2⟩ ?_
        replace h := h.2
        refine Bd (P := fun M1_1 : Mm => Wp 4 1031 92 [some (.inr (.inr (10, 0))), some (.inl x1), some (.inl x2), some (.inl x3)] [] M1_1 (rV Q)) ?_
        intro M1_1 e_M1_1
        replace h := h M1_1 e_M1_1
        refine Wp.path (k := 1) [] (C := []) (pc' := 93) (ls' := [some (.inr (.inr (10, 0))), some (.inl x1), some (.inl x2), some (.inl x3)]) (st' := [.inl x1]) (M' := M1_1) rfl trivial ?_
        rcases Int.lt_or_le (0) (x1) with c_4 | c_4
        · replace h := h.2 c_4
          refine Wp.path (k := 1) [0] (C := [0 < x1]) (pc' := 96) (ls' := [some (.inr (.inr (10, 0))), some (.inl x1), some (.inl x2), some (.inl x3)]) (st' := []) (M' := M1_1) rfl c_4 ?_
          refine Wp.path (k := 18) [] (C := [inR (80 * x1), inR ((80 * x1) + x2), inR (x1 - 1), inR (2304 * (x1 - 1)), inR ((2304 * (x1 - 1)) + x3), 0 ≤ (2304 * (x1 - 1)) + x3 ∧ (2304 * (x1 - 1)) + x3 < 27648, 0 ≤ (80 * x1) + x2 ∧ (80 * x1) + x2 < 960]) (pc' := 121) (ls' := [some (.inr (.inr (10, 0))), some (.inl x1), some (.inl x2), some (.inl x3)]) (st' := []) (M' := setI M1_1 1121 0 (((80 * x1) + x2).toNat) (M1_1.1 1119 0 (((2304 * (x1 - 1)) + x3).toNat))) rfl ⟨h.1.1, h.1.2.1, h.1.2.2.1, h.1.2.2.2.1, h.1.2.2.2.2.1, h.1.2.2.2.2.2.1, h.1.2.2.2.2.2.2⟩ ?_
          replace h := h.2
          refine Bd (P := fun M1_2 : Mm => Wp 4 1031 121 [some (.inr (.inr (10, 0))), some (.inl x1), some (.inl x2), some (.inl x3)] [] M1_2 (rV Q)) ?_
          intro M1_2 e_M1_2
          replace h := h M1_2 e_M1_2
          refine Wp.path (k := 23) [] (C := [inR (x1 - 1), inR (80 * (x1 - 1)), inR (x1 - 1), inR (2304 * (x1 - 1)), inR ((2304 * (x1 - 1)) + x3), 0 ≤ (2304 * (x1 - 1)) + x3 ∧ (2304 * (x1 - 1)) + x3 < 27648, inR ((80 * (x1 - 1)) + (M1_2.1 1119 0 (((2304 * (x1 - 1)) + x3).toNat))), 0 ≤ (80 * (x1 - 1)) + (M1_2.1 1119 0 (((2304 * (x1 - 1)) + x3).toNat)) ∧ (80 * (x1 - 1)) + (M1_2.1 1119 0 (((2304 * (x1 - 1)) + x3).toNat)) < 960, inR ((M1_2.1 1122 0 (((80 * (x1 - 1)) + (M1_2.1 1119 0 (((2304 * (x1 - 1)) + x3).toNat))).toNat)) + 1), 0 ≤ (80 * (x1 - 1)) + (M1_2.1 1119 0 (((2304 * (x1 - 1)) + x3).toNat)) ∧ (80 * (x1 - 1)) + (M1_2.1 1119 0 (((2304 * (x1 - 1)) + x3).toNat)) < 960]) (pc' := 151) (ls' := [some (.inr (.inr (10, 0))), some (.inl x1), some (.inl x2), some (.inl x3)]) (st' := []) (M' := setI M1_2 1122 0 (((80 * (x1 - 1)) + (M1_2.1 1119 0 (((2304 * (x1 - 1)) + x3).toNat))).toNat) ((M1_2.1 1122 0 (((80 * (x1 - 1)) + (M1_2.1 1119 0 (((2304 * (x1 - 1)) + x3).toNat))).toNat)) + 1)) rfl ⟨h.1.1, h.1.2.1, h.1.1, h.1.2.2.1, h.1.2.2.2.1, h.1.2.2.2.2.1, h.1.2.2.2.2.2.1, h.1.2.2.2.2.2.2.1, h.1.2.2.2.2.2.2.2, h.1.2.2.2.2.2.2.1⟩ ?_
          replace h := h.2
          refine Bd (P := fun M1_3 : Mm => Wp 4 1031 151 [some (.inr (.inr (10, 0))), some (.inl x1), some (.inl x2), some (.inl x3)] [] M1_3 (rV Q)) ?_
          intro M1_3 e_M1_3
          replace h := h M1_3 e_M1_3
          refine Wp.path (k := 3) [] (C := [inR (x2 + 1), inR (x3 + 1)]) (pc' := 32) (ls' := [some (.inr (.inr (10, 0))), some (.inl x1), some (.inl (x2 + 1)), some (.inl (x3 + 1))]) (st' := []) (M' := M1_3) rfl ⟨h.1.1, h.1.2⟩ ?_
          replace h := h.2
          exact h
        · replace h := h.1 c_4
          refine Wp.path (k := 1) [1] (C := [x1 ≤ 0]) (pc' := 151) (ls' := [some (.inr (.inr (10, 0))), some (.inl x1), some (.inl x2), some (.inl x3)]) (st' := []) (M' := M1_1) rfl c_4 ?_
          refine Wp.path (k := 3) [] (C := [inR (x2 + 1), inR (x3 + 1)]) (pc' := 32) (ls' := [some (.inr (.inr (10, 0))), some (.inl x1), some (.inl (x2 + 1)), some (.inl (x3 + 1))]) (st' := []) (M' := M1_1) rfl ⟨h.1.1, h.1.2⟩ ?_
          replace h := h.2
          exact h
      · replace h := h.2 c_3
        refine Wp.path (k := 1) [0] (C := [0 ≤ M.1 1119 0 (((2304 * x1) + x3).toNat)]) (pc' := 70) (ls' := [some (.inr (.inr (10, 0))), some (.inl x1), some (.inl x2), some (.inl x3)]) (st' := []) (M' := M) rfl c_3 ?_
        refine Wp.path (k := 3) [] (C := [inR (x3 + 1)]) (pc' := 32) (ls' := [some (.inr (.inr (10, 0))), some (.inl x1), some (.inl x2), some (.inl (x3 + 1))]) (st' := []) (M' := M) rfl h.1 ?_
        replace h := h.2
        exact h
  · replace h := h.1 c_1
    refine Wp.path (k := 1) [1] (C := [2304 ≤ x3]) (pc' := 160) (ls' := [some (.inr (.inr (10, 0))), some (.inl x1), some (.inl x2), some (.inl x3)]) (st' := []) (M' := M) rfl c_1 ?_
    refine Wp.path (k := 5) [] (C := [0 ≤ x1 ∧ x1 < 13]) (pc' := 167) (ls' := [some (.inr (.inr (10, 0))), some (.inl x1), some (.inl x2), some (.inl x3)]) (st' := []) (M' := setI M 1120 0 x1.toNat x2) rfl h.1 ?_
    replace h := h.2
    refine Bd (P := fun M1_4 : Mm => Wp 4 1031 167 [some (.inr (.inr (10, 0))), some (.inl x1), some (.inl x2), some (.inl x3)] [] M1_4 (rV Q)) ?_
    intro M1_4 e_M1_4
    replace h := h M1_4 e_M1_4
    exact Wp.ret rfl ⟨rfl, h⟩
/-- X10_curves -/
def E_1034 (x1 : Int) (M : Mm) (Q : Mm → Prop) : Prop := Ev 4 1034 [.inr (.inr (10, 0)), .inl x1] M (rV Q)
theorem m_1034 {x1 : Int} {M : Mm} {Q Q1 : Mm → Prop} (h : E_1034 x1 M Q) (k : (∀ M1, Q M1 → Q1 M1)) : E_1034 x1 M Q1 := Ev.mono h (fun v M1 h => ⟨h.1, k _ h.2⟩)
def L_1034_2 (x1 : Int) (x2 : Int) (M : Mm) (Q : Mm → Prop) : Prop := ∀ o3 o4 o5 o6 o7 : Option Vv, Wp 4 1034 2 [some (.inr (.inr (10, 0))), some (.inl x1), some (.inl x2), o3, o4, o5, o6, o7] [] M (rV Q)
def L_1034_29 (x1 : Int) (x2 : Int) (x3 : Int) (x4 : Int) (M : Mm) (Q : Mm → Prop) : Prop := ∀ o5 o6 o7 : Option Vv, Wp 4 1034 29 [some (.inr (.inr (10, 0))), some (.inl x1), some (.inl x2), some (.inl x3), some (.inl x4), o5, o6, o7] [] M (rV Q)
def L_1034_119 (x1 : Int) (x2 : Int) (x3 : Int) (x4 : Int) (x5 : Int) (x6 : Int) (M : Mm) (Q : Mm → Prop) : Prop := ∀ o7 : Option Vv, Wp 4 1034 119 [some (.inr (.inr (10, 0))), some (.inl x1), some (.inl x2), some (.inl x3), some (.inl x4), some (.inl x5), some (.inl x6), o7] [] M (rV Q)
def L_1034_191 (x1 : Int) (x2 : Int) (x3 : Int) (x4 : Int) (x5 : Int) (x6 : Int) (x7 : Int) (M : Mm) (Q : Mm → Prop) : Prop := Wp 4 1034 191 [some (.inr (.inr (10, 0))), some (.inl x1), some (.inl x2), some (.inl x3), some (.inl x4), some (.inl x5), some (.inl x6), some (.inl x7)] [] M (rV Q)
theorem s_1034_0 {x1 : Int} {M : Mm} {Q : Mm → Prop} (h : (L_1034_2 x1 0 M Q)) : E_1034 x1 M Q := by
  show Wp 4 1034 0 [some (.inr (.inr (10, 0))), some (.inl x1), none, none, none, none, none, none] [] M (rV Q)
  refine Wp.path (k := 2) [] (C := []) (pc' := 2) (ls' := [some (.inr (.inr (10, 0))), some (.inl x1), some (.inl 0), none, none, none, none, none]) (st' := []) (M' := M) rfl trivial ?_
  exact h _ _ _ _ _
theorem s_1034_2 {x1 : Int} {x2 : Int} {M : Mm} {Q : Mm → Prop} (h : ((2401 ≤ x2 → (L_1034_29 x1 0 0 0 M Q)) ∧ (x2 < 2401 → (((0 ≤ x2 ∧ x2 < 2401)) ∧ (∀ M1 : Mm, M1 = setI M 1129 0 x2.toNat 0 → (((-2147483648 ≤ x2 + 1 ∧ x2 + 1 ≤ 2147483647)) ∧ (L_1034_2 x1 (x2 + 1) M1 Q))))))) : L_1034_2 x1 x2 M Q := by
  intro o3 o4 o5 o6 o7
  show Wp 4 1034 2 [some (.inr (.inr (10, 0))), some (.inl x1), some (.inl x2), o3, o4, o5, o6, o7] [] M (rV Q)
  refine Wp.path (k := 2) [] (C := []) (pc' := 6) (ls' := [some (.inr (.inr (10, 0))), some (.inl x1), some (.inl x2), o3, o4, o5, o6, o7]) (st' := [.inl 2401, .inl x2]) (M' := M) rfl trivial ?_
  rcases Int.lt_or_le (x2) (2401) with c_1 | c_1
  · replace h := h.2 c_1
    refine Wp.path (k := 1) [0] (C := [x2 < 2401]) (pc' := 9) (ls' := [some (.inr (.inr (10, 0))), some (.inl x1), some (.inl x2), o3, o4, o5, o6, o7]) (st' := []) (M' := M) rfl c_1 ?_
    refine Wp.path (k := 5) [] (C := [((0 : Int) = 0 ∨ (0 : Int) = 1) ∧ 0 ≤ x2 ∧ x2 < 2401]) (pc' := 16) (ls' := [some (.inr (.inr (10, 0))), some (.inl x1), some (.inl x2), o3, o4, o5, o6, o7]) (st' := []) (M' := setI M 1129 0 x2.toNat 0) rfl ⟨Or.inl rfl, h.1⟩ ?_
    replace h := h.2
    refine Bd (P := fun M1 : Mm => Wp 4 1034 16 [some (.inr (.inr (10, 0))), some (.inl x1), some (.inl x2), o3, o4, o5, o6, o7] [] M1 (rV Q)) ?_
    intro M1 e_M1
    replace h := h M1 e_M1
    refine Wp.path (k := 2) [] (C := [inR (x2 + 1)]) (pc' := 2) (ls' := [some (.inr (.inr (10, 0))), some (.inl x1), some (.inl (x2 + 1)), o3, o4, o5, o6, o7]) (st' := []) (M' := M1) rfl h.1 ?_
    replace h := h.2
    exact h _ _ _ _ _
  · replace h := h.1 c_1
    refine Wp.path (k := 1) [1] (C := [2401 ≤ x2]) (pc' := 22) (ls' := [some (.inr (.inr (10, 0))), some (.inl x1), some (.inl x2), o3, o4, o5, o6, o7]) (st' := []) (M' := M) rfl c_1 ?_
    refine Wp.path (k := 6) [] (C := []) (pc' := 29) (ls' := [some (.inr (.inr (10, 0))), some (.inl x1), some (.inl 0), some (.inl 0), some (.inl 0), o5, o6, o7]) (st' := []) (M' := M) rfl trivial ?_
    exact h _ _ _
theorem s_1034_29 {x1 : Int} {x2 : Int} {x3 : Int} {x4 : Int} {M : Mm} {Q : Mm → Prop} (h : ((2401 ≤ x4 → (((0 ≤ x1 ∧ x1 < 12)) ∧ (∀ M1_2 : Mm, M1_2 = setI M 1124 0 x1.toNat x2 → (((-2147483648 ≤ 161 * x1 ∧ 161 * x1 ≤ 2147483647) ∧ (-2147483648 ≤ (161 * x1) + x2 ∧ (161 * x1) + x2 ≤ 2147483647) ∧ (0 ≤ (161 * x1) + x2 ∧ (161 * x1) + x2 < 1932)) ∧ (∀ M1_3 : Mm, M1_3 = setI M1_2 1125 0 (((161 * x1) + x2).toNat) x3 → (Q M1_3)))))) ∧ (x4 < 2401 → (((-2147483648 ≤ x4 ∧ x4 ≤ 2147483647)) ∧ (∀ d : Int, d = Int.tmod x4 49 → (((-2147483648 ≤ x4 ∧ x4 ≤ 2147483647)) ∧ (∀ d_1 : Int, d_1 = Int.tdiv x4 49 → (((0 ≤ x4 ∧ x4 < 2401)) ∧ ((M.1 1129 0 x4.toNat ≠ 0 → (((-2147483648 ≤ x4 + 1 ∧ x4 + 1 ≤ 2147483647)) ∧ (L_1034_29 x1 x2 x3 (x4 + 1) M Q))) ∧ (M.1 1129 0 x4.toNat = 0 → ((0 ≤ x1 ∧ x1 < 12 ∧ -1000 ≤ d ∧ d ≤ 1000 ∧ -1000 ≤ d_1 ∧ d_1 ≤ 1000) ∧ ((crV (isV (M.2 1116 0) x1 (d - 1) (d_1 - 1)) (isV (M.2 1116 0) x1 d (d_1 - 1)) (isV (M.2 1116 0) x1 (d - 1) d_1) (isV (M.2 1116 0) x1 d d_1) ≠ 0 → (((-2147483648 ≤ 161 * x1 ∧ 161 * x1 ≤ 2147483647) ∧ (-2147483648 ≤ (161 * x1) + x2 ∧ (161 * x1) + x2 ≤ 2147483647) ∧ (0 ≤ (161 * x1) + x2 ∧ (161 * x1) + x2 < 1932)) ∧ (∀ M1 : Mm, M1 = setI M 1125 0 (((161 * x1) + x2).toNat) x3 → (((-2147483648 ≤ 160 * x1 ∧ 160 * x1 ≤ 2147483647) ∧ (-2147483648 ≤ (160 * x1) + x2 ∧ (160 * x1) + x2 ≤ 2147483647)) ∧ ((0 ≤ x1 ∧ x1 < 12 ∧ -1000 ≤ d ∧ d ≤ 1000 ∧ -1000 ≤ d_1 ∧ d_1 ≤ 1000) ∧ (∀ b : Int, b = (if lvV (isV (M1.2 1116 0) x1 (d - 1) (d_1 - 1)) (isV (M1.2 1116 0) x1 d (d_1 - 1)) (isV (M1.2 1116 0) x1 (d - 1) d_1) (isV (M1.2 1116 0) x1 d d_1) ≠ 1 then 0 else 1) → (((0 ≤ (160 * x1) + x2 ∧ (160 * x1) + x2 < 1920)) ∧ (∀ M1_1 : Mm, M1_1 = setI M1 1126 0 (((160 * x1) + x2).toNat) b → (L_1034_119 x1 x2 x3 x4 d d_1 M1_1 Q))))))))) ∧ (crV (isV (M.2 1116 0) x1 (d - 1) (d_1 - 1)) (isV (M.2 1116 0) x1 d (d_1 - 1)) (isV (M.2 1116 0) x1 (d - 1) d_1) (isV (M.2 1116 0) x1 d d_1) = 0 → (((-2147483648 ≤ x4 + 1 ∧ x4 + 1 ≤ 2147483647)) ∧ (L_1034_29 x1 x2 x3 (x4 + 1) M Q))))))))))))))) : L_1034_29 x1 x2 x3 x4 M Q := by
  intro o5 o6 o7
  show Wp 4 1034 29 [some (.inr (.inr (10, 0))), some (.inl x1), some (.inl x2), some (.inl x3), some (.inl x4), o5, o6, o7] [] M (rV Q)
  refine Wp.path (k := 2) [] (C := []) (pc' := 34) (ls' := [some (.inr (.inr (10, 0))), some (.inl x1), some (.inl x2), some (.inl x3), some (.inl x4), o5, o6, o7]) (st' := [.inl 2401, .inl x4]) (M' := M) rfl trivial ?_
  rcases Int.lt_or_le (x4) (2401) with c_1 | c_1
  · replace h := h.2 c_1
    refine Wp.path (k := 1) [0] (C := [x4 < 2401]) (pc' := 37) (ls' := [some (.inr (.inr (10, 0))), some (.inl x1), some (.inl x2), some (.inl x3), some (.inl x4), o5, o6, o7]) (st' := []) (M' := M) rfl c_1 ?_
    refine Wp.path (k := 3) [] (C := [inR x4 ∧ 0 < 49 ∧ inR 49]) (pc' := 42) (ls' := [some (.inr (.inr (10, 0))), some (.inl x1), some (.inl x2), some (.inl x3), some (.inl x4), o5, o6, o7]) (st' := [.inl (Int.tmod x4 49)]) (M' := M) rfl ⟨h.1, by decide, ⟨by decide, by decide⟩⟩ ?_
    replace h := h.2
    refine Bd (P := fun d : Int => Wp 4 1034 42 [some (.inr (.inr (10, 0))), some (.inl x1), some (.inl x2), some (.inl x3), some (.inl x4), o5, o6, o7] [.inl d] M (rV Q)) ?_
    intro d e_d
    replace h := h d e_d
    refine Wp.path (k := 4) [] (C := [inR x4 ∧ 0 < 49 ∧ inR 49]) (pc' := 49) (ls' := [some (.inr (.inr (10, 0))), some (.inl x1), some (.inl x2), some (.inl x3), some (.inl x4), some (.inl d), o6, o7]) (st' := [.inl (Int.tdiv x4 49)]) (M' := M) rfl ⟨h.1, by decide, ⟨by decide, by decide⟩⟩ ?_
    replace h := h.2
    refine Bd (P := fun d_1 : Int => Wp 4 1034 49 [some (.inr (.inr (10, 0))), some (.inl x1), some (.inl x2), some (.inl x3), some (.inl x4), some (.inl d), o6, o7] [.inl d_1] M (rV Q)) ?_
    intro d_1 e_d_1
    replace h := h d_1 e_d_1
    refine Wp.path (k := 5) [] (C := [0 ≤ x4 ∧ x4 < 2401]) (pc' := 58) (ls' := [some (.inr (.inr (10, 0))), some (.inl x1), some (.inl x2), some (.inl x3), some (.inl x4), some (.inl d), some (.inl d_1), o7]) (st' := [.inl (M.1 1129 0 x4.toNat)]) (M' := M) rfl h.1 ?_
    replace h := h.2
    rcases Decidable.em (M.1 1129 0 x4.toNat = 0) with c_2 | c_2
    · replace h := h.2 c_2
      refine Wp.path (k := 1) [0] (C := [M.1 1129 0 x4.toNat = 0]) (pc' := 61) (ls' := [some (.inr (.inr (10, 0))), some (.inl x1), some (.inl x2), some (.inl x3), some (.inl x4), some (.inl d), some (.inl d_1), o7]) (st' := []) (M' := M) rfl c_2 ?_
      refine Wp.path (k := 4) [] (C := []) (pc' := 67) (ls' := [some (.inr (.inr (10, 0))), some (.inl x1), some (.inl x2), some (.inl x3), some (.inl x4), some (.inl d), some (.inl d_1), o7]) (st' := [.inl d_1, .inl d, .inl x1, .inr (.inr (10, 0))]) (M' := M) rfl trivial ?_
      refine Wp.call (e1033 h.1.1 h.1.2.1 h.1.2.2.1 h.1.2.2.2.1 h.1.2.2.2.2.1 h.1.2.2.2.2.2) rfl rfl (by decide) ?_
      replace h := h.2
      rintro v_ M_ ⟨eM_, ev_⟩
      rw [eM_, ev_]
      clear eM_ ev_ v_ M_
      show Wp 4 1034 70 [some (.inr (.inr (10, 0))), some (.inl x1), some (.inl x2), some (.inl x3), some (.inl x4), some (.inl d), some (.inl d_1), o7] [.inl (crV (isV (M.2 1116 0) x1 (d - 1) (d_1 - 1)) (isV (M.2 1116 0) x1 d (d_1 - 1)) (isV (M.2 1116 0) x1 (d - 1) d_1) (isV (M.2 1116 0) x1 d d_1))] M (rV Q)
      rcases Decidable.em (crV (isV (M.2 1116 0) x1 (d - 1) (d_1 - 1)) (isV (M.2 1116 0) x1 d (d_1 - 1)) (isV (M.2 1116 0) x1 (d - 1) d_1) (isV (M.2 1116 0) x1 d d_1) = 0) with c_3 | c_3
      · replace h := h.2 c_3
        refine Wp.path (k := 1) [0] (C := [crV (isV (M.2 1116 0) x1 (d - 1) (d_1 - 1)) (isV (M.2 1116 0) x1 d (d_1 - 1)) (isV (M.2 1116 0) x1 (d - 1) d_1) (isV (M.2 1116 0) x1 d d_1) = 0]) (pc' := 73) (ls' := [some (.inr (.inr (10, 0))), some (.inl x1), some (.inl x2), some (.inl x3), some (.inl x4), some (.inl d), some (.inl d_1), o7]) (st' := []) (M' := M) rfl c_3 ?_
        refine Wp.path (k := 3) [] (C := [inR (x4 + 1)]) (pc' := 29) (ls' := [some (.inr (.inr (10, 0))), some (.inl x1), some (.inl x2), some (.inl x3), some (.inl (x4 + 1)), some (.inl d), some (.inl d_1), o7]) (st' := []) (M' := M) rfl h.1 ?_
        replace h := h.2
        exact h _ _ _
      · replace h := h.1 c_3
        refine Wp.path (k := 1) [1] (C := [crV (isV (M.2 1116 0) x1 (d - 1) (d_1 - 1)) (isV (M.2 1116 0) x1 d (d_1 - 1)) (isV (M.2 1116 0) x1 (d - 1) d_1) (isV (M.2 1116 0) x1 d d_1) ≠ 0]) (pc' := 76) (ls' := [some (.inr (.inr (10, 0))), some (.inl x1), some (.inl x2), some (.inl x3), some (.inl x4), some (.inl d), some (.inl d_1), o7]) (st' := []) (M' := M) rfl c_3 ?_
        refine Wp.path (k := 9) [] (C := [inR (161 * x1), inR ((161 * x1) + x2), 0 ≤ (161 * x1) + x2 ∧ (161 * x1) + x2 < 1932]) (pc' := 89) (ls' := [some (.inr (.inr (10, 0))), some (.inl x1), some (.inl x2), some (.inl x3), some (.inl x4), some (.inl d), some (.inl d_1), o7]) (st' := []) (M' := setI M 1125 0 (((161 * x1) + x2).toNat) x3) rfl ⟨h.1.1, h.1.2.1, h.1.2.2⟩ ?_
        replace h := h.2
        refine Bd (P := fun M1 : Mm => Wp 4 1034 89 [some (.inr (.inr (10, 0))), some (.inl x1), some (.inl x2), some (.inl x3), some (.inl x4), some (.inl d), some (.inl d_1), o7] [] M1 (rV Q)) ?_
        intro M1 e_M1
        replace h := h M1 e_M1
        refine Wp.path (k := 11) [] (C := [inR (160 * x1), inR ((160 * x1) + x2)]) (pc' := 106) (ls' := [some (.inr (.inr (10, 0))), some (.inl x1), some (.inl x2), some (.inl x3), some (.inl x4), some (.inl d), some (.inl d_1), o7]) (st' := [.inl d_1, .inl d, .inl x1, .inr (.inr (10, 0)), .inl ((160 * x1) + x2), .inr (.inr (1126, 0))]) (M' := M1) rfl ⟨h.1.1, h.1.2⟩ ?_
        replace h := h.2
        refine Wp.call (e1032 h.1.1 h.1.2.1 h.1.2.2.1 h.1.2.2.2.1 h.1.2.2.2.2.1 h.1.2.2.2.2.2) rfl rfl (by decide) ?_
        replace h := h.2
        rintro v_ M_ ⟨eM_, ev_⟩
        rw [eM_, ev_]
        clear eM_ ev_ v_ M_
        show Wp 4 1034 109 [some (.inr (.inr (10, 0))), some (.inl x1), some (.inl x2), some (.inl x3), some (.inl x4), some (.inl d), some (.inl d_1), o7] [.inl (lvV (isV (M1.2 1116 0) x1 (d - 1) (d_1 - 1)) (isV (M1.2 1116 0) x1 d (d_1 - 1)) (isV (M1.2 1116 0) x1 (d - 1) d_1) (isV (M1.2 1116 0) x1 d d_1)), .inl ((160 * x1) + x2), .inr (.inr (1126, 0))] M1 (rV Q)
        refine Wp.path (k := 1) [] (C := []) (pc' := 110) (ls' := [some (.inr (.inr (10, 0))), some (.inl x1), some (.inl x2), some (.inl x3), some (.inl x4), some (.inl d), some (.inl d_1), o7]) (st' := [.inl 1, .inl (lvV (isV (M1.2 1116 0) x1 (d - 1) (d_1 - 1)) (isV (M1.2 1116 0) x1 d (d_1 - 1)) (isV (M1.2 1116 0) x1 (d - 1) d_1) (isV (M1.2 1116 0) x1 d d_1)), .inl ((160 * x1) + x2), .inr (.inr (1126, 0))]) (M' := M1) rfl trivial ?_
        have k_4 : ∀ b : Int, b = (if lvV (isV (M1.2 1116 0) x1 (d - 1) (d_1 - 1)) (isV (M1.2 1116 0) x1 d (d_1 - 1)) (isV (M1.2 1116 0) x1 (d - 1) d_1) (isV (M1.2 1116 0) x1 d d_1) ≠ 1 then 0 else 1) → Wp 4 1034 118 [some (.inr (.inr (10, 0))), some (.inl x1), some (.inl x2), some (.inl x3), some (.inl x4), some (.inl d), some (.inl d_1), o7] [.inl b, .inl ((160 * x1) + x2), .inr (.inr (1126, 0))] M1 (rV Q) := by
          intro b e_b
          replace h := h b e_b
          refine Wp.path (k := 1) [] (C := [0 ≤ (160 * x1) + x2 ∧ (160 * x1) + x2 < 1920]) (pc' := 119) (ls' := [some (.inr (.inr (10, 0))), some (.inl x1), some (.inl x2), some (.inl x3), some (.inl x4), some (.inl d), some (.inl d_1), o7]) (st' := []) (M' := setI M1 1126 0 (((160 * x1) + x2).toNat) b) rfl h.1 ?_
          replace h := h.2
          refine Bd (P := fun M1_1 : Mm => Wp 4 1034 119 [some (.inr (.inr (10, 0))), some (.inl x1), some (.inl x2), some (.inl x3), some (.inl x4), some (.inl d), some (.inl d_1), o7] [] M1_1 (rV Q)) ?_
          intro M1_1 e_M1_1
          replace h := h M1_1 e_M1_1
          exact h _
        clear h
        rcases Decidable.em (lvV (isV (M1.2 1116 0) x1 (d - 1) (d_1 - 1)) (isV (M1.2 1116 0) x1 d (d_1 - 1)) (isV (M1.2 1116 0) x1 (d - 1) d_1) (isV (M1.2 1116 0) x1 d d_1) = 1) with c_5 | c_5
        · refine Wp.path (k := 1) [0] (C := [lvV (isV (M1.2 1116 0) x1 (d - 1) (d_1 - 1)) (isV (M1.2 1116 0) x1 d (d_1 - 1)) (isV (M1.2 1116 0) x1 (d - 1) d_1) (isV (M1.2 1116 0) x1 d d_1) = 1]) (pc' := 113) (ls' := [some (.inr (.inr (10, 0))), some (.inl x1), some (.inl x2), some (.inl x3), some (.inl x4), some (.inl d), some (.inl d_1), o7]) (st' := [.inl ((160 * x1) + x2), .inr (.inr (1126, 0))]) (M' := M1) rfl c_5 ?_
          refine Wp.path (k := 2) [] (C := []) (pc' := 118) (ls' := [some (.inr (.inr (10, 0))), some (.inl x1), some (.inl x2), some (.inl x3), some (.inl x4), some (.inl d), some (.inl d_1), o7]) (st' := [.inl 1, .inl ((160 * x1) + x2), .inr (.inr (1126, 0))]) (M' := M1) rfl trivial ?_
          exact k_4 _ (by rw [if_neg (not_not_intro c_5)])
        · refine Wp.path (k := 1) [1] (C := [lvV (isV (M1.2 1116 0) x1 (d - 1) (d_1 - 1)) (isV (M1.2 1116 0) x1 d (d_1 - 1)) (isV (M1.2 1116 0) x1 (d - 1) d_1) (isV (M1.2 1116 0) x1 d d_1) ≠ 1]) (pc' := 117) (ls' := [some (.inr (.inr (10, 0))), some (.inl x1), some (.inl x2), some (.inl x3), some (.inl x4), some (.inl d), some (.inl d_1), o7]) (st' := [.inl ((160 * x1) + x2), .inr (.inr (1126, 0))]) (M' := M1) rfl c_5 ?_
          refine Wp.path (k := 1) [] (C := []) (pc' := 118) (ls' := [some (.inr (.inr (10, 0))), some (.inl x1), some (.inl x2), some (.inl x3), some (.inl x4), some (.inl d), some (.inl d_1), o7]) (st' := [.inl 0, .inl ((160 * x1) + x2), .inr (.inr (1126, 0))]) (M' := M1) rfl trivial ?_
          exact k_4 _ (by rw [if_pos c_5])
    · replace h := h.1 c_2
      refine Wp.path (k := 1) [1] (C := [M.1 1129 0 x4.toNat ≠ 0]) (pc' := 260) (ls' := [some (.inr (.inr (10, 0))), some (.inl x1), some (.inl x2), some (.inl x3), some (.inl x4), some (.inl d), some (.inl d_1), o7]) (st' := []) (M' := M) rfl c_2 ?_
      refine Wp.path (k := 2) [] (C := [inR (x4 + 1)]) (pc' := 29) (ls' := [some (.inr (.inr (10, 0))), some (.inl x1), some (.inl x2), some (.inl x3), some (.inl (x4 + 1)), some (.inl d), some (.inl d_1), o7]) (st' := []) (M' := M) rfl h.1 ?_
      replace h := h.2
      exact h _ _ _
  · replace h := h.1 c_1
    refine Wp.path (k := 1) [1] (C := [2401 ≤ x4]) (pc' := 266) (ls' := [some (.inr (.inr (10, 0))), some (.inl x1), some (.inl x2), some (.inl x3), some (.inl x4), o5, o6, o7]) (st' := []) (M' := M) rfl c_1 ?_
    refine Wp.path (k := 5) [] (C := [0 ≤ x1 ∧ x1 < 12]) (pc' := 273) (ls' := [some (.inr (.inr (10, 0))), some (.inl x1), some (.inl x2), some (.inl x3), some (.inl x4), o5, o6, o7]) (st' := []) (M' := setI M 1124 0 x1.toNat x2) rfl h.1 ?_
    replace h := h.2
    refine Bd (P := fun M1_2 : Mm => Wp 4 1034 273 [some (.inr (.inr (10, 0))), some (.inl x1), some (.inl x2), some (.inl x3), some (.inl x4), o5, o6, o7] [] M1_2 (rV Q)) ?_
    intro M1_2 e_M1_2
    replace h := h M1_2 e_M1_2
    refine Wp.path (k := 9) [] (C := [inR (161 * x1), inR ((161 * x1) + x2), 0 ≤ (161 * x1) + x2 ∧ (161 * x1) + x2 < 1932]) (pc' := 286) (ls' := [some (.inr (.inr (10, 0))), some (.inl x1), some (.inl x2), some (.inl x3), some (.inl x4), o5, o6, o7]) (st' := []) (M' := setI M1_2 1125 0 (((161 * x1) + x2).toNat) x3) rfl ⟨h.1.1, h.1.2.1, h.1.2.2⟩ ?_
    replace h := h.2
    refine Bd (P := fun M1_3 : Mm => Wp 4 1034 286 [some (.inr (.inr (10, 0))), some (.inl x1), some (.inl x2), some (.inl x3), some (.inl x4), o5, o6, o7] [] M1_3 (rV Q)) ?_
    intro M1_3 e_M1_3
    replace h := h M1_3 e_M1_3
    exact Wp.ret rfl ⟨rfl, h⟩
theorem s_1034_119 {x1 : Int} {x2 : Int} {x3 : Int} {x4 : Int} {x5 : Int} {x6 : Int} {M : Mm} {Q : Mm → Prop} (h : ((-2147483648 ≤ 49 * x6 ∧ 49 * x6 ≤ 2147483647) ∧ (-2147483648 ≤ (49 * x6) + x5 ∧ (49 * x6) + x5 ≤ 2147483647) ∧ (0 ≤ (49 * x6) + x5 ∧ (49 * x6) + x5 < 2401)) ∧ ((M.1 1129 0 (((49 * x6) + x5).toNat) ≠ 0 → (((-2147483648 ≤ x2 + 1 ∧ x2 + 1 ≤ 2147483647) ∧ (-2147483648 ≤ x4 + 1 ∧ x4 + 1 ≤ 2147483647)) ∧ (L_1034_29 x1 (x2 + 1) x3 (x4 + 1) M Q))) ∧ (M.1 1129 0 (((49 * x6) + x5).toNat) = 0 → (((-2147483648 ≤ 49 * x6 ∧ 49 * x6 ≤ 2147483647) ∧ (-2147483648 ≤ (49 * x6) + x5 ∧ (49 * x6) + x5 ≤ 2147483647) ∧ (0 ≤ (49 * x6) + x5 ∧ (49 * x6) + x5 < 2401)) ∧ (∀ M1 : Mm, M1 = setI M 1129 0 (((49 * x6) + x5).toNat) 1 → (((-2147483648 ≤ 640 * x1 ∧ 640 * x1 ≤ 2147483647) ∧ (-2147483648 ≤ (640 * x1) + x3 ∧ (640 * x1) + x3 ≤ 2147483647) ∧ (0 ≤ (640 * x1) + x3 ∧ (640 * x1) + x3 < 7680)) ∧ (∀ M1_1 : Mm, M1_1 = setI M1 1127 0 (((640 * x1) + x3).toNat) x5 → (((-2147483648 ≤ 640 * x1 ∧ 640 * x1 ≤ 2147483647) ∧ (-2147483648 ≤ (640 * x1) + x3 ∧ (640 * x1) + x3 ≤ 2147483647) ∧ (0 ≤ (640 * x1) + x3 ∧ (640 * x1) + x3 < 7680)) ∧ (∀ M1_2 : Mm, M1_2 = setI M1_1 1128 0 (((640 * x1) + x3).toNat) x6 → (((-2147483648 ≤ x3 + 1 ∧ x3 + 1 ≤ 2147483647)) ∧ ((0 ≤ x1 ∧ x1 < 12 ∧ -1000 ≤ x5 ∧ x5 ≤ 1000 ∧ -1000 ≤ x6 ∧ x6 ≤ 1000) ∧ (∀ x7 : Int, x7 = lvV (isV (M1_2.2 1116 0) x1 (x5 - 1) (x6 - 1)) (isV (M1_2.2 1116 0) x1 x5 (x6 - 1)) (isV (M1_2.2 1116 0) x1 (x5 - 1) x6) (isV (M1_2.2 1116 0) x1 x5 x6) → (L_1034_191 x1 x2 (x3 + 1) x4 x5 x6 x7 M1_2 Q))))))))))))) : L_1034_119 x1 x2 x3 x4 x5 x6 M Q := by
  intro o7
  show Wp 4 1034 119 [some (.inr (.inr (10, 0))), some (.inl x1), some (.inl x2), some (.inl x3), some (.inl x4), some (.inl x5), some (.inl x6), o7] [] M (rV Q)
  refine Wp.path (k := 8) [] (C := [inR (49 * x6), inR ((49 * x6) + x5), 0 ≤ (49 * x6) + x5 ∧ (49 * x6) + x5 < 2401]) (pc' := 132) (ls' := [some (.inr (.inr (10, 0))), some (.inl x1), some (.inl x2), some (.inl x3), some (.inl x4), some (.inl x5), some (.inl x6), o7]) (st' := [.inl (M.1 1129 0 (((49 * x6) + x5).toNat))]) (M' := M) rfl ⟨h.1.1, h.1.2.1, h.1.2.2⟩ ?_
  replace h := h.2
  rcases Decidable.em (M.1 1129 0 (((49 * x6) + x5).toNat) = 0) with c_1 | c_1
  · replace h := h.2 c_1
    refine Wp.path (k := 1) [0] (C := [M.1 1129 0 (((49 * x6) + x5).toNat) = 0]) (pc' := 135) (ls' := [some (.inr (.inr (10, 0))), some (.inl x1), some (.inl x2), some (.inl x3), some (.inl x4), some (.inl x5), some (.inl x6), o7]) (st' := []) (M' := M) rfl c_1 ?_
    refine Wp.path (k := 9) [] (C := [inR (49 * x6), inR ((49 * x6) + x5), ((1 : Int) = 0 ∨ (1 : Int) = 1) ∧ 0 ≤ (49 * x6) + x5 ∧ (49 * x6) + x5 < 2401]) (pc' := 149) (ls' := [some (.inr (.inr (10, 0))), some (.inl x1), some (.inl x2), some (.inl x3), some (.inl x4), some (.inl x5), some (.inl x6), o7]) (st' := []) (M' := setI M 1129 0 (((49 * x6) + x5).toNat) 1) rfl ⟨h.1.1, h.1.2.1, ⟨Or.inr rfl, h.1.2.2⟩⟩ ?_
    replace h := h.2
    refine Bd (P := fun M1 : Mm => Wp 4 1034 149 [some (.inr (.inr (10, 0))), some (.inl x1), some (.inl x2), some (.inl x3), some (.inl x4), some (.inl x5), some (.inl x6), o7] [] M1 (rV Q)) ?_
    intro M1 e_M1
    replace h := h M1 e_M1
    refine Wp.path (k := 9) [] (C := [inR (640 * x1), inR ((640 * x1) + x3), 0 ≤ (640 * x1) + x3 ∧ (640 * x1) + x3 < 7680]) (pc' := 163) (ls' := [some (.inr (.inr (10, 0))), some (.inl x1), some (.inl x2), some (.inl x3), some (.inl x4), some (.inl x5), some (.inl x6), o7]) (st' := []) (M' := setI M1 1127 0 (((640 * x1) + x3).toNat) x5) rfl ⟨h.1.1, h.1.2.1, h.1.2.2⟩ ?_
    replace h := h.2
    refine Bd (P := fun M1_1 : Mm => Wp 4 1034 163 [some (.inr (.inr (10, 0))), some (.inl x1), some (.inl x2), some (.inl x3), some (.inl x4), some (.inl x5), some (.inl x6), o7] [] M1_1 (rV Q)) ?_
    intro M1_1 e_M1_1
    replace h := h M1_1 e_M1_1
    refine Wp.path (k := 9) [] (C := [inR (640 * x1), inR ((640 * x1) + x3), 0 ≤ (640 * x1) + x3 ∧ (640 * x1) + x3 < 7680]) (pc' := 177) (ls' := [some (.inr (.inr (10, 0))), some (.inl x1), some (.inl x2), some (.inl x3), some (.inl x4), some (.inl x5), some (.inl x6), o7]) (st' := []) (M' := setI M1_1 1128 0 (((640 * x1) + x3).toNat) x6) rfl ⟨h.1.1, h.1.2.1, h.1.2.2⟩ ?_
    replace h := h.2
    refine Bd (P := fun M1_2 : Mm => Wp 4 1034 177 [some (.inr (.inr (10, 0))), some (.inl x1), some (.inl x2), some (.inl x3), some (.inl x4), some (.inl x5), some (.inl x6), o7] [] M1_2 (rV Q)) ?_
    intro M1_2 e_M1_2
    replace h := h M1_2 e_M1_2
    refine Wp.path (k := 5) [] (C := [inR (x3 + 1)]) (pc' := 186) (ls' := [some (.inr (.inr (10, 0))), some (.inl x1), some (.inl x2), some (.inl (x3 + 1)), some (.inl x4), some (.inl x5), some (.inl x6), o7]) (st' := [.inl x6, .inl x5, .inl x1, .inr (.inr (10, 0))]) (M' := M1_2) rfl h.1 ?_
    replace h := h.2
    refine Wp.call (e1032 h.1.1 h.1.2.1 h.1.2.2.1 h.1.2.2.2.1 h.1.2.2.2.2.1 h.1.2.2.2.2.2) rfl rfl (by decide) ?_
    replace h := h.2
    rintro v_ M_ ⟨eM_, ev_⟩
    rw [eM_, ev_]
    clear eM_ ev_ v_ M_
    show Wp 4 1034 189 [some (.inr (.inr (10, 0))), some (.inl x1), some (.inl x2), some (.inl (x3 + 1)), some (.inl x4), some (.inl x5), some (.inl x6), o7] [.inl (lvV (isV (M1_2.2 1116 0) x1 (x5 - 1) (x6 - 1)) (isV (M1_2.2 1116 0) x1 x5 (x6 - 1)) (isV (M1_2.2 1116 0) x1 (x5 - 1) x6) (isV (M1_2.2 1116 0) x1 x5 x6))] M1_2 (rV Q)
    refine Wp.path (k := 1) [] (C := []) (pc' := 191) (ls' := [some (.inr (.inr (10, 0))), some (.inl x1), some (.inl x2), some (.inl (x3 + 1)), some (.inl x4), some (.inl x5), some (.inl x6), some (.inl (lvV (isV (M1_2.2 1116 0) x1 (x5 - 1) (x6 - 1)) (isV (M1_2.2 1116 0) x1 x5 (x6 - 1)) (isV (M1_2.2 1116 0) x1 (x5 - 1) x6) (isV (M1_2.2 1116 0) x1 x5 x6)))]) (st' := []) (M' := M1_2) rfl trivial ?_
    refine Bd (P := fun x7 : Int => Wp 4 1034 191 [some (.inr (.inr (10, 0))), some (.inl x1), some (.inl x2), some (.inl (x3 + 1)), some (.inl x4), some (.inl x5), some (.inl x6), some (.inl x7)] [] M1_2 (rV Q)) ?_
    intro x7 e_x7
    replace h := h x7 e_x7
    exact h
  · replace h := h.1 c_1
    refine Wp.path (k := 1) [1] (C := [M.1 1129 0 (((49 * x6) + x5).toNat) ≠ 0]) (pc' := 257) (ls' := [some (.inr (.inr (10, 0))), some (.inl x1), some (.inl x2), some (.inl x3), some (.inl x4), some (.inl x5), some (.inl x6), o7]) (st' := []) (M' := M) rfl c_1 ?_
    refine Wp.path (k := 3) [] (C := [inR (x2 + 1), inR (x4 + 1)]) (pc' := 29) (ls' := [some (.inr (.inr (10, 0))), some (.inl x1), some (.inl (x2 + 1)), some (.inl x3), some (.inl (x4 + 1)), some (.inl x5), some (.inl x6), o7]) (st' := []) (M' := M) rfl ⟨h.1.1, h.1.2⟩ ?_
    replace h := h.2
    exact h _ _ _
theorem s_1034_191 {x1 : Int} {x2 : Int} {x3 : Int} {x4 : Int} {x5 : Int} {x6 : Int} {x7 : Int} {M : Mm} {Q : Mm → Prop} (h : (∀ b : Int, b = (if x7 ≠ 0 then (if x7 ≠ 2 then 0 else (-1)) else 1) → (((-2147483648 ≤ x5 + b ∧ x5 + b ≤ 2147483647)) ∧ (∀ x5_1 : Int, x5_1 = x5 + b → (∀ b_1 : Int, b_1 = (if x7 ≠ 1 then (if x7 ≠ 3 then 0 else (-1)) else 1) → (((-2147483648 ≤ x6 + b_1 ∧ x6 + b_1 ≤ 2147483647)) ∧ (∀ x6_1 : Int, x6_1 = x6 + b_1 → ((0 ≤ x1 ∧ x1 < 12 ∧ -1000 ≤ x5_1 ∧ x5_1 ≤ 1000 ∧ -1000 ≤ x6_1 ∧ x6_1 ≤ 1000) ∧ ((crV (isV (M.2 1116 0) x1 (x5_1 - 1) (x6_1 - 1)) (isV (M.2 1116 0) x1 x5_1 (x6_1 - 1)) (isV (M.2 1116 0) x1 (x5_1 - 1) x6_1) (isV (M.2 1116 0) x1 x5_1 x6_1) = 0 → (L_1034_191 x1 x2 x3 x4 x5_1 x6_1 x7 M Q)) ∧ (crV (isV (M.2 1116 0) x1 (x5_1 - 1) (x6_1 - 1)) (isV (M.2 1116 0) x1 x5_1 (x6_1 - 1)) (isV (M.2 1116 0) x1 (x5_1 - 1) x6_1) (isV (M.2 1116 0) x1 x5_1 x6_1) ≠ 0 → (L_1034_119 x1 x2 x3 x4 x5_1 x6_1 M Q))))))))))) : L_1034_191 x1 x2 x3 x4 x5 x6 x7 M Q := by
  show Wp 4 1034 191 [some (.inr (.inr (10, 0))), some (.inl x1), some (.inl x2), some (.inl x3), some (.inl x4), some (.inl x5), some (.inl x6), some (.inl x7)] [] M (rV Q)
  refine Wp.path (k := 2) [] (C := []) (pc' := 195) (ls' := [some (.inr (.inr (10, 0))), some (.inl x1), some (.inl x2), some (.inl x3), some (.inl x4), some (.inl x5), some (.inl x6), some (.inl x7)]) (st' := [.inl x7, .inl x5]) (M' := M) rfl trivial ?_
  have k_5 : ∀ b : Int, b = (if x7 ≠ 0 then (if x7 ≠ 2 then 0 else (-1)) else 1) → Wp 4 1034 213 [some (.inr (.inr (10, 0))), some (.inl x1), some (.inl x2), some (.inl x3), some (.inl x4), some (.inl x5), some (.inl x6), some (.inl x7)] [.inl b, .inl x5] M (rV Q) := by
    intro b e_b
    replace h := h b e_b
    refine Wp.path (k := 2) [] (C := [inR (x5 + b)]) (pc' := 216) (ls' := [some (.inr (.inr (10, 0))), some (.inl x1), some (.inl x2), some (.inl x3), some (.inl x4), some (.inl (x5 + b)), some (.inl x6), some (.inl x7)]) (st' := []) (M' := M) rfl h.1 ?_
    replace h := h.2
    refine Bd (P := fun x5_1 : Int => Wp 4 1034 216 [some (.inr (.inr (10, 0))), some (.inl x1), some (.inl x2), some (.inl x3), some (.inl x4), some (.inl x5_1), some (.inl x6), some (.inl x7)] [] M (rV Q)) ?_
    intro x5_1 e_x5_1
    replace h := h x5_1 e_x5_1
    refine Wp.path (k := 3) [] (C := []) (pc' := 221) (ls' := [some (.inr (.inr (10, 0))), some (.inl x1), some (.inl x2), some (.inl x3), some (.inl x4), some (.inl x5_1), some (.inl x6), some (.inl x7)]) (st' := [.inl 1, .inl x7, .inl x6]) (M' := M) rfl trivial ?_
    have k_2 : ∀ b_1 : Int, b_1 = (if x7 ≠ 1 then (if x7 ≠ 3 then 0 else (-1)) else 1) → Wp 4 1034 239 [some (.inr (.inr (10, 0))), some (.inl x1), some (.inl x2), some (.inl x3), some (.inl x4), some (.inl x5_1), some (.inl x6), some (.inl x7)] [.inl b_1, .inl x6] M (rV Q) := by
      intro b_1 e_b_1
      replace h := h b_1 e_b_1
      refine Wp.path (k := 2) [] (C := [inR (x6 + b_1)]) (pc' := 242) (ls' := [some (.inr (.inr (10, 0))), some (.inl x1), some (.inl x2), some (.inl x3), some (.inl x4), some (.inl x5_1), some (.inl (x6 + b_1)), some (.inl x7)]) (st' := []) (M' := M) rfl h.1 ?_
      replace h := h.2
      refine Bd (P := fun x6_1 : Int => Wp 4 1034 242 [some (.inr (.inr (10, 0))), some (.inl x1), some (.inl x2), some (.inl x3), some (.inl x4), some (.inl x5_1), some (.inl x6_1), some (.inl x7)] [] M (rV Q)) ?_
      intro x6_1 e_x6_1
      replace h := h x6_1 e_x6_1
      refine Wp.path (k := 4) [] (C := []) (pc' := 248) (ls' := [some (.inr (.inr (10, 0))), some (.inl x1), some (.inl x2), some (.inl x3), some (.inl x4), some (.inl x5_1), some (.inl x6_1), some (.inl x7)]) (st' := [.inl x6_1, .inl x5_1, .inl x1, .inr (.inr (10, 0))]) (M' := M) rfl trivial ?_
      refine Wp.call (e1033 h.1.1 h.1.2.1 h.1.2.2.1 h.1.2.2.2.1 h.1.2.2.2.2.1 h.1.2.2.2.2.2) rfl rfl (by decide) ?_
      replace h := h.2
      rintro v_ M_ ⟨eM_, ev_⟩
      rw [eM_, ev_]
      clear eM_ ev_ v_ M_
      show Wp 4 1034 251 [some (.inr (.inr (10, 0))), some (.inl x1), some (.inl x2), some (.inl x3), some (.inl x4), some (.inl x5_1), some (.inl x6_1), some (.inl x7)] [.inl (crV (isV (M.2 1116 0) x1 (x5_1 - 1) (x6_1 - 1)) (isV (M.2 1116 0) x1 x5_1 (x6_1 - 1)) (isV (M.2 1116 0) x1 (x5_1 - 1) x6_1) (isV (M.2 1116 0) x1 x5_1 x6_1))] M (rV Q)
      rcases Decidable.em (crV (isV (M.2 1116 0) x1 (x5_1 - 1) (x6_1 - 1)) (isV (M.2 1116 0) x1 x5_1 (x6_1 - 1)) (isV (M.2 1116 0) x1 (x5_1 - 1) x6_1) (isV (M.2 1116 0) x1 x5_1 x6_1) = 0) with c_1 | c_1
      · replace h := h.1 c_1
        refine Wp.path (k := 1) [1] (C := [crV (isV (M.2 1116 0) x1 (x5_1 - 1) (x6_1 - 1)) (isV (M.2 1116 0) x1 x5_1 (x6_1 - 1)) (isV (M.2 1116 0) x1 (x5_1 - 1) x6_1) (isV (M.2 1116 0) x1 x5_1 x6_1) = 0]) (pc' := 191) (ls' := [some (.inr (.inr (10, 0))), some (.inl x1), some (.inl x2), some (.inl x3), some (.inl x4), some (.inl x5_1), some (.inl x6_1), some (.inl x7)]) (st' := []) (M' := M) rfl c_1 ?_
        exact h
      · replace h := h.2 c_1
        refine Wp.path (k := 1) [0] (C := [crV (isV (M.2 1116 0) x1 (x5_1 - 1) (x6_1 - 1)) (isV (M.2 1116 0) x1 x5_1 (x6_1 - 1)) (isV (M.2 1116 0) x1 (x5_1 - 1) x6_1) (isV (M.2 1116 0) x1 x5_1 x6_1) ≠ 0]) (pc' := 254) (ls' := [some (.inr (.inr (10, 0))), some (.inl x1), some (.inl x2), some (.inl x3), some (.inl x4), some (.inl x5_1), some (.inl x6_1), some (.inl x7)]) (st' := []) (M' := M) rfl c_1 ?_
        refine Wp.path (k := 1) [] (C := []) (pc' := 119) (ls' := [some (.inr (.inr (10, 0))), some (.inl x1), some (.inl x2), some (.inl x3), some (.inl x4), some (.inl x5_1), some (.inl x6_1), some (.inl x7)]) (st' := []) (M' := M) rfl trivial ?_
        exact h _
    clear h
    rcases Decidable.em (x7 = 1) with c_3 | c_3
    · refine Wp.path (k := 1) [0] (C := [x7 = 1]) (pc' := 224) (ls' := [some (.inr (.inr (10, 0))), some (.inl x1), some (.inl x2), some (.inl x3), some (.inl x4), some (.inl x5_1), some (.inl x6), some (.inl x7)]) (st' := [.inl x6]) (M' := M) rfl c_3 ?_
      refine Wp.path (k := 2) [] (C := []) (pc' := 239) (ls' := [some (.inr (.inr (10, 0))), some (.inl x1), some (.inl x2), some (.inl x3), some (.inl x4), some (.inl x5_1), some (.inl x6), some (.inl x7)]) (st' := [.inl 1, .inl x6]) (M' := M) rfl trivial ?_
      exact k_2 _ (by rw [if_neg (not_not_intro c_3)])
    · refine Wp.path (k := 1) [1] (C := [x7 ≠ 1]) (pc' := 228) (ls' := [some (.inr (.inr (10, 0))), some (.inl x1), some (.inl x2), some (.inl x3), some (.inl x4), some (.inl x5_1), some (.inl x6), some (.inl x7)]) (st' := [.inl x6]) (M' := M) rfl c_3 ?_
      refine Wp.path (k := 2) [] (C := []) (pc' := 231) (ls' := [some (.inr (.inr (10, 0))), some (.inl x1), some (.inl x2), some (.inl x3), some (.inl x4), some (.inl x5_1), some (.inl x6), some (.inl x7)]) (st' := [.inl 3, .inl x7, .inl x6]) (M' := M) rfl trivial ?_
      rcases Decidable.em (x7 = 3) with c_4 | c_4
      · refine Wp.path (k := 1) [0] (C := [x7 = 3]) (pc' := 234) (ls' := [some (.inr (.inr (10, 0))), some (.inl x1), some (.inl x2), some (.inl x3), some (.inl x4), some (.inl x5_1), some (.inl x6), some (.inl x7)]) (st' := [.inl x6]) (M' := M) rfl c_4 ?_
        refine Wp.path (k := 2) [] (C := []) (pc' := 239) (ls' := [some (.inr (.inr (10, 0))), some (.inl x1), some (.inl x2), some (.inl x3), some (.inl x4), some (.inl x5_1), some (.inl x6), some (.inl x7)]) (st' := [.inl (-1), .inl x6]) (M' := M) rfl trivial ?_
        exact k_2 _ (by rw [if_pos c_3, if_neg (not_not_intro c_4)])
      · refine Wp.path (k := 1) [1] (C := [x7 ≠ 3]) (pc' := 238) (ls' := [some (.inr (.inr (10, 0))), some (.inl x1), some (.inl x2), some (.inl x3), some (.inl x4), some (.inl x5_1), some (.inl x6), some (.inl x7)]) (st' := [.inl x6]) (M' := M) rfl c_4 ?_
        refine Wp.path (k := 1) [] (C := []) (pc' := 239) (ls' := [some (.inr (.inr (10, 0))), some (.inl x1), some (.inl x2), some (.inl x3), some (.inl x4), some (.inl x5_1), some (.inl x6), some (.inl x7)]) (st' := [.inl 0, .inl x6]) (M' := M) rfl trivial ?_
        exact k_2 _ (by rw [if_pos c_3, if_pos c_4])
  clear h
  rcases Decidable.em (x7 = 0) with c_6 | c_6
  · refine Wp.path (k := 1) [0] (C := [x7 = 0]) (pc' := 198) (ls' := [some (.inr (.inr (10, 0))), some (.inl x1), some (.inl x2), some (.inl x3), some (.inl x4), some (.inl x5), some (.inl x6), some (.inl x7)]) (st' := [.inl x5]) (M' := M) rfl c_6 ?_
    refine Wp.path (k := 2) [] (C := []) (pc' := 213) (ls' := [some (.inr (.inr (10, 0))), some (.inl x1), some (.inl x2), some (.inl x3), some (.inl x4), some (.inl x5), some (.inl x6), some (.inl x7)]) (st' := [.inl 1, .inl x5]) (M' := M) rfl trivial ?_
    exact k_5 _ (by rw [if_neg (not_not_intro c_6)])
  · refine Wp.path (k := 1) [1] (C := [x7 ≠ 0]) (pc' := 202) (ls' := [some (.inr (.inr (10, 0))), some (.inl x1), some (.inl x2), some (.inl x3), some (.inl x4), some (.inl x5), some (.inl x6), some (.inl x7)]) (st' := [.inl x5]) (M' := M) rfl c_6 ?_
    refine Wp.path (k := 2) [] (C := []) (pc' := 205) (ls' := [some (.inr (.inr (10, 0))), some (.inl x1), some (.inl x2), some (.inl x3), some (.inl x4), some (.inl x5), some (.inl x6), some (.inl x7)]) (st' := [.inl 2, .inl x7, .inl x5]) (M' := M) rfl trivial ?_
    rcases Decidable.em (x7 = 2) with c_7 | c_7
    · refine Wp.path (k := 1) [0] (C := [x7 = 2]) (pc' := 208) (ls' := [some (.inr (.inr (10, 0))), some (.inl x1), some (.inl x2), some (.inl x3), some (.inl x4), some (.inl x5), some (.inl x6), some (.inl x7)]) (st' := [.inl x5]) (M' := M) rfl c_7 ?_
      refine Wp.path (k := 2) [] (C := []) (pc' := 213) (ls' := [some (.inr (.inr (10, 0))), some (.inl x1), some (.inl x2), some (.inl x3), some (.inl x4), some (.inl x5), some (.inl x6), some (.inl x7)]) (st' := [.inl (-1), .inl x5]) (M' := M) rfl trivial ?_
      exact k_5 _ (by rw [if_pos c_6, if_neg (not_not_intro c_7)])
    · refine Wp.path (k := 1) [1] (C := [x7 ≠ 2]) (pc' := 212) (ls' := [some (.inr (.inr (10, 0))), some (.inl x1), some (.inl x2), some (.inl x3), some (.inl x4), some (.inl x5), some (.inl x6), some (.inl x7)]) (st' := [.inl x5]) (M' := M) rfl c_7 ?_
      refine Wp.path (k := 1) [] (C := []) (pc' := 213) (ls' := [some (.inr (.inr (10, 0))), some (.inl x1), some (.inl x2), some (.inl x3), some (.inl x4), some (.inl x5), some (.inl x6), some (.inl x7)]) (st' := [.inl 0, .inl x5]) (M' := M) rfl trivial ?_
      exact k_5 _ (by rw [if_pos c_6, if_pos c_7])
/-- X10_pointMany -/
def E_1037 (x1 : Int) (M : Mm) (Q : Int → Mm → Prop) : Prop := Ev 1 1037 [.inr (.inr (10, 0)), .inl x1] M (rI Q)
theorem m_1037 {x1 : Int} {M : Mm} {Q Q1 : Int → Mm → Prop} (h : E_1037 x1 M Q) (k : (∀ r M1, Q r M1 → Q1 r M1)) : E_1037 x1 M Q1 := Ev.mono h (fun v M1 ⟨r, h1, h2⟩ => ⟨r, h1, k _ _ h2⟩)
theorem s_1037_0 {x1 : Int} {M : Mm} {Q : Int → Mm → Prop} (h : ((M.1 10 0 18 ≤ x1 → (Q 0 M)) ∧ (x1 < M.1 10 0 18 → (((0 ≤ x1 ∧ x1 < 12)) ∧ ((0 ≤ x1 ∧ x1 < 12 ∧ 0 ≤ (M.1 1124 0 x1.toNat) ∧ (M.1 1124 0 x1.toNat) ≤ 160) ∧ (Q (stV (M.1 1125 0) x1 (M.1 1124 0 x1.toNat)) M)))))) : E_1037 x1 M Q := by
  show Wp 1 1037 0 [some (.inr (.inr (10, 0))), some (.inl x1)] [] M (rI Q)
  refine Wp.path (k := 3) [] (C := []) (pc' := 5) (ls' := [some (.inr (.inr (10, 0))), some (.inl x1)]) (st' := [.inl (M.1 10 0 18), .inl x1]) (M' := M) rfl trivial ?_
  rcases Int.lt_or_le (x1) (M.1 10 0 18) with c_1 | c_1
  · replace h := h.2 c_1
    refine Wp.path (k := 1) [0] (C := [x1 < M.1 10 0 18]) (pc' := 8) (ls' := [some (.inr (.inr (10, 0))), some (.inl x1)]) (st' := []) (M' := M) rfl c_1 ?_
    refine Wp.path (k := 6) [] (C := [0 ≤ x1 ∧ x1 < 12]) (pc' := 16) (ls' := [some (.inr (.inr (10, 0))), some (.inl x1)]) (st' := [.inl (M.1 1124 0 x1.toNat), .inl x1, .inr (.inr (10, 0))]) (M' := M) rfl h.1 ?_
    replace h := h.2
    refine Wp.call (e1035 h.1.1 h.1.2.1 h.1.2.2.1 h.1.2.2.2) rfl rfl (by decide) ?_
    replace h := h.2
    rintro v_ M_ ⟨eM_, ev_⟩
    rw [eM_, ev_]
    clear eM_ ev_ v_ M_
    show Wp 1 1037 19 [some (.inr (.inr (10, 0))), some (.inl x1)] [.inl (stV (M.1 1125 0) x1 (M.1 1124 0 x1.toNat))] M (rI Q)
    refine Wp.path (k := 1) [] (C := []) (pc' := 23) (ls' := [some (.inr (.inr (10, 0))), some (.inl x1)]) (st' := [.inl (stV (M.1 1125 0) x1 (M.1 1124 0 x1.toNat))]) (M' := M) rfl trivial ?_
    exact Wp.ret rfl ⟨_, rfl, h⟩
  · replace h := h.1 c_1
    refine Wp.path (k := 1) [1] (C := [M.1 10 0 18 ≤ x1]) (pc' := 22) (ls' := [some (.inr (.inr (10, 0))), some (.inl x1)]) (st' := []) (M' := M) rfl c_1 ?_
    refine Wp.path (k := 1) [] (C := []) (pc' := 23) (ls' := [some (.inr (.inr (10, 0))), some (.inl x1)]) (st' := [.inl 0]) (M' := M) rfl trivial ?_
    exact Wp.ret rfl ⟨_, rfl, h⟩
/-- X10_holeMany -/
def E_1038 (x1 : Int) (M : Mm) (Q : Int → Mm → Prop) : Prop := Ev 0 1038 [.inr (.inr (10, 0)), .inl x1] M (rI Q)
theorem m_1038 {x1 : Int} {M : Mm} {Q Q1 : Int → Mm → Prop} (h : E_1038 x1 M Q) (k : (∀ r M1, Q r M1 → Q1 r M1)) : E_1038 x1 M Q1 := Ev.mono h (fun v M1 ⟨r, h1, h2⟩ => ⟨r, h1, k _ _ h2⟩)
def L_1038_4 (x1 : Int) (x2 : Int) (x3 : Int) (M : Mm) (Q : Int → Mm → Prop) : Prop := Wp 0 1038 4 [some (.inr (.inr (10, 0))), some (.inl x1), some (.inl x2), some (.inl x3)] [] M (rI Q)
theorem s_1038_0 {x1 : Int} {M : Mm} {Q : Int → Mm → Prop} (h : (L_1038_4 x1 0 0 M Q)) : E_1038 x1 M Q := by
  show Wp 0 1038 0 [some (.inr (.inr (10, 0))), some (.inl x1), none, none] [] M (rI Q)
  refine Wp.path (k := 4) [] (C := []) (pc' := 4) (ls' := [some (.inr (.inr (10, 0))), some (.inl x1), some (.inl 0), some (.inl 0)]) (st' := []) (M' := M) rfl trivial ?_
  exact h
theorem s_1038_4 {x1 : Int} {x2 : Int} {x3 : Int} {M : Mm} {Q : Int → Mm → Prop} (h : ((M.1 10 0 18 ≤ x1 → (Q x2 M)) ∧ (x1 < M.1 10 0 18 → (((0 ≤ x1 ∧ x1 < 12)) ∧ ((M.1 1124 0 x1.toNat ≤ x3 → (Q x2 M)) ∧ (x3 < M.1 1124 0 x1.toNat → (((-2147483648 ≤ 160 * x1 ∧ 160 * x1 ≤ 2147483647) ∧ (-2147483648 ≤ (160 * x1) + x3 ∧ (160 * x1) + x3 ≤ 2147483647) ∧ (0 ≤ (160 * x1) + x3 ∧ (160 * x1) + x3 < 1920) ∧ (-2147483648 ≤ x2 + (M.1 1126 0 (((160 * x1) + x3).toNat)) ∧ x2 + (M.1 1126 0 (((160 * x1) + x3).toNat)) ≤ 2147483647)) ∧ (∀ x2_1 : Int, x2_1 = x2 + (M.1 1126 0 (((160 * x1) + x3).toNat)) → (((-2147483648 ≤ x3 + 1 ∧ x3 + 1 ≤ 2147483647)) ∧ (L_1038_4 x1 x2_1 (x3 + 1) M Q)))))))))) : L_1038_4 x1 x2 x3 M Q := by
  show Wp 0 1038 4 [some (.inr (.inr (10, 0))), some (.inl x1), some (.inl x2), some (.inl x3)] [] M (rI Q)
  refine Wp.path (k := 3) [] (C := []) (pc' := 9) (ls' := [some (.inr (.inr (10, 0))), some (.inl x1), some (.inl x2), some (.inl x3)]) (st' := [.inl (M.1 10 0 18), .inl x1]) (M' := M) rfl trivial ?_
  rcases Int.lt_or_le (x1) (M.1 10 0 18) with c_1 | c_1
  · replace h := h.2 c_1
    refine Wp.path (k := 1) [0] (C := [x1 < M.1 10 0 18]) (pc' := 12) (ls' := [some (.inr (.inr (10, 0))), some (.inl x1), some (.inl x2), some (.inl x3)]) (st' := []) (M' := M) rfl c_1 ?_
    refine Wp.path (k := 5) [] (C := [0 ≤ x1 ∧ x1 < 12]) (pc' := 19) (ls' := [some (.inr (.inr (10, 0))), some (.inl x1), some (.inl x2), some (.inl x3)]) (st' := [.inl (M.1 1124 0 x1.toNat), .inl x3]) (M' := M) rfl h.1 ?_
    replace h := h.2
    rcases Int.lt_or_le (x3) (M.1 1124 0 x1.toNat) with c_2 | c_2
    · replace h := h.2 c_2
      refine Wp.path (k := 1) [0] (C := [x3 < M.1 1124 0 x1.toNat]) (pc' := 22) (ls' := [some (.inr (.inr (10, 0))), some (.inl x1), some (.inl x2), some (.inl x3)]) (st' := []) (M' := M) rfl c_2 ?_
      refine Wp.path (k := 11) [] (C := [inR (160 * x1), inR ((160 * x1) + x3), 0 ≤ (160 * x1) + x3 ∧ (160 * x1) + x3 < 1920, inR (x2 + (M.1 1126 0 (((160 * x1) + x3).toNat)))]) (pc' := 37) (ls' := [some (.inr (.inr (10, 0))), some (.inl x1), some (.inl (x2 + (M.1 1126 0 (((160 * x1) + x3).toNat)))), some (.inl x3)]) (st' := []) (M' := M) rfl ⟨h.1.1, h.1.2.1, h.1.2.2.1, h.1.2.2.2⟩ ?_
      replace h := h.2
      refine Bd (P := fun x2_1 : Int => Wp 0 1038 37 [some (.inr (.inr (10, 0))), some (.inl x1), some (.inl x2_1), some (.inl x3)] [] M (rI Q)) ?_
      intro x2_1 e_x2_1
      replace h := h x2_1 e_x2_1
      refine Wp.path (k := 2) [] (C := [inR (x3 + 1)]) (pc' := 4) (ls' := [some (.inr (.inr (10, 0))), some (.inl x1), some (.inl x2_1), some (.inl (x3 + 1))]) (st' := []) (M' := M) rfl h.1 ?_
      replace h := h.2
      exact h
    · replace h := h.1 c_2
      refine Wp.path (k := 1) [1] (C := [M.1 1124 0 x1.toNat ≤ x3]) (pc' := 43) (ls' := [some (.inr (.inr (10, 0))), some (.inl x1), some (.inl x2), some (.inl x3)]) (st' := []) (M' := M) rfl c_2 ?_
      refine Wp.path (k := 1) [] (C := []) (pc' := 44) (ls' := [some (.inr (.inr (10, 0))), some (.inl x1), some (.inl x2), some (.inl x3)]) (st' := [.inl x2]) (M' := M) rfl trivial ?_
      exact Wp.ret rfl ⟨_, rfl, h⟩
  · replace h := h.1 c_1
    refine Wp.path (k := 1) [1] (C := [M.1 10 0 18 ≤ x1]) (pc' := 43) (ls' := [some (.inr (.inr (10, 0))), some (.inl x1), some (.inl x2), some (.inl x3)]) (st' := []) (M' := M) rfl c_1 ?_
    refine Wp.path (k := 1) [] (C := []) (pc' := 44) (ls' := [some (.inr (.inr (10, 0))), some (.inl x1), some (.inl x2), some (.inl x3)]) (st' := [.inl x2]) (M' := M) rfl trivial ?_
    exact Wp.ret rfl ⟨_, rfl, h⟩
/-- X10_side -/
def E_1039 (x1 : Int) (x2 : Int) (x3 : Int) (M : Mm) (Q : Mm → Prop) : Prop := Ev 2 1039 [.inr (.inr (10, 0)), .inl x1, .inl x2, .inl x3] M (rV Q)
theorem m_1039 {x1 : Int} {x2 : Int} {x3 : Int} {M : Mm} {Q Q1 : Mm → Prop} (h : E_1039 x1 x2 x3 M Q) (k : (∀ M1, Q M1 → Q1 M1)) : E_1039 x1 x2 x3 M Q1 := Ev.mono h (fun v M1 h => ⟨h.1, k _ h.2⟩)
theorem s_1039_0 {x1 : Int} {x2 : Int} {x3 : Int} {M : Mm} {Q : Mm → Prop} (h : ((0 ≤ x1 ∧ x1 < 12 ∧ 0 ≤ x2 ∧ x2 < 160 ∧ inR (szV (M.1 1125 0) x1 x2)) ∧ (∀ x4 : Int, x4 = szV (M.1 1125 0) x1 x2 → (((-2147483648 ≤ 640 * x1 ∧ 640 * x1 ≤ 2147483647)) ∧ ((0 ≤ x1 ∧ x1 < 12 ∧ 0 ≤ x2 ∧ x2 ≤ 160) ∧ (((-2147483648 ≤ (640 * x1) + (stV (M.1 1125 0) x1 x2) ∧ (640 * x1) + (stV (M.1 1125 0) x1 x2) ≤ 2147483647) ∧ (-2147483648 ≤ ((640 * x1) + (stV (M.1 1125 0) x1 x2)) + x3 ∧ ((640 * x1) + (stV (M.1 1125 0) x1 x2)) + x3 ≤ 2147483647)) ∧ (∀ x5 : Int, x5 = ((640 * x1) + (stV (M.1 1125 0) x1 x2)) + x3 → (((-2147483648 ≤ 640 * x1 ∧ 640 * x1 ≤ 2147483647)) ∧ ((0 ≤ x1 ∧ x1 < 12 ∧ 0 ≤ x2 ∧ x2 ≤ 160) ∧ (((-2147483648 ≤ (640 * x1) + (stV (M.1 1125 0) x1 x2) ∧ (640 * x1) + (stV (M.1 1125 0) x1 x2) ≤ 2147483647) ∧ (-2147483648 ≤ x3 + 1 ∧ x3 + 1 ≤ 2147483647) ∧ ((-2147483648 ≤ x3 + 1 ∧ x3 + 1 ≤ 2147483647) ∧ 0 < x4 ∧ (-2147483648 ≤ x4 ∧ x4 ≤ 2147483647))) ∧ (∀ d : Int, d = Int.tmod (x3 + 1) x4 → (((-2147483648 ≤ ((640 * x1) + (stV (M.1 1125 0) x1 x2)) + d ∧ ((640 * x1) + (stV (M.1 1125 0) x1 x2)) + d ≤ 2147483647)) ∧ (∀ x6 : Int, x6 = ((640 * x1) + (stV (M.1 1125 0) x1 x2)) + d → (((0 ≤ x5 ∧ x5 < 7680) ∧ (0 ≤ x6 ∧ x6 < 7680)) ∧ (∀ b : Int, b = (if M.1 1128 0 x5.toNat ≠ M.1 1128 0 x6.toNat then 0 else 1) → ((b = 0 → ((0 ≤ x5 ∧ x5 < 7680))) ∧ (b ≠ 0 → ((0 ≤ x5 ∧ x5 < 7680))) ∧ (∀ b_1 : Int, b_1 = (if b = 0 then (M.1 1128 0 x5.toNat) else (M.1 1127 0 x5.toNat)) → ((b = 0 → ((0 ≤ x6 ∧ x6 < 7680))) ∧ (b ≠ 0 → ((0 ≤ x6 ∧ x6 < 7680))) ∧ (∀ b_2 : Int, b_2 = (if b = 0 then (M.1 1128 0 x6.toNat) else (M.1 1127 0 x6.toNat)) → (∀ b_3 : Int, b_3 = (if b = 0 then (if b_2 ≤ b_1 then 3 else 1) else (if b_2 ≤ b_1 then 2 else 0)) → (∀ M1 : Mm, M1 = setI M 10 0 30 b_3 → ((b = 0 → ((0 ≤ x5 ∧ x5 < 7680))) ∧ (b ≠ 0 → ((0 ≤ x5 ∧ x5 < 7680))) ∧ (∀ b_4 : Int, b_4 = (if b = 0 then (M1.1 1127 0 x5.toNat) else (M1.1 1128 0 x5.toNat)) → (∀ M1_1 : Mm, M1_1 = setI M1 10 0 31 b_4 → (∀ b_5 : Int, b_5 = (if b_2 ≤ b_1 then b_2 else b_1) → (∀ M1_2 : Mm, M1_2 = setI M1_1 10 0 32 b_5 → (∀ b_6 : Int, b_6 = (if b_2 ≤ b_1 then b_1 else b_2) → (∀ M1_3 : Mm, M1_3 = setI M1_2 10 0 33 b_6 → (Q M1_3))))))))))))))))))))))))))))) : E_1039 x1 x2 x3 M Q := by
  show Wp 2 1039 0 [some (.inr (.inr (10, 0))), some (.inl x1), some (.inl x2), some (.inl x3), none, none, none, none, none, none] [] M (rV Q)
  refine Wp.path (k := 3) [] (C := []) (pc' := 3) (ls' := [some (.inr (.inr (10, 0))), some (.inl x1), some (.inl x2), some (.inl x3), none, none, none, none, none, none]) (st' := [.inl x2, .inl x1, .inr (.inr (10, 0))]) (M' := M) rfl trivial ?_
  refine Wp.call (e1036 h.1.1 h.1.2.1 h.1.2.2.1 h.1.2.2.2.1 h.1.2.2.2.2) rfl rfl (by decide) ?_
  replace h := h.2
  rintro v_ M_ ⟨eM_, ev_⟩
  rw [eM_, ev_]
  clear eM_ ev_ v_ M_
  show Wp 2 1039 6 [some (.inr (.inr (10, 0))), some (.inl x1), some (.inl x2), some (.inl x3), none, none, none, none, none, none] [.inl (szV (M.1 1125 0) x1 x2)] M (rV Q)
  refine Wp.path (k := 1) [] (C := []) (pc' := 8) (ls' := [some (.inr (.inr (10, 0))), some (.inl x1), some (.inl x2), some (.inl x3), some (.inl (szV (M.1 1125 0) x1 x2)), none, none, none, none, none]) (st' := []) (M' := M) rfl trivial ?_
  refine Bd (P := fun x4 : Int => Wp 2 1039 8 [some (.inr (.inr (10, 0))), some (.inl x1), some (.inl x2), some (.inl x3), some (.inl x4), none, none, none, none, none] [] M (rV Q)) ?_
  intro x4 e_x4
  replace h := h x4 e_x4
  refine Wp.path (k := 6) [] (C := [inR (640 * x1)]) (pc' := 16) (ls' := [some (.inr (.inr (10, 0))), some (.inl x1), some (.inl x2), some (.inl x3), some (.inl x4), none, none, none, none, none]) (st' := [.inl x2, .inl x1, .inr (.inr (10, 0)), .inl (640 * x1)]) (M' := M) rfl h.1 ?_
  replace h := h.2
  refine Wp.call (e1035 h.1.1 h.1.2.1 h.1.2.2.1 h.1.2.2.2) rfl rfl (by decide) ?_
  replace h := h.2
  rintro v_ M_ ⟨eM_, ev_⟩
  rw [eM_, ev_]
  clear eM_ ev_ v_ M_
  show Wp 2 1039 19 [some (.inr (.inr (10, 0))), some (.inl x1), some (.inl x2), some (.inl x3), some (.inl x4), none, none, none, none, none] [.inl (stV (M.1 1125 0) x1 x2), .inl (640 * x1)] M (rV Q)
  refine Wp.path (k := 4) [] (C := [inR ((640 * x1) + (stV (M.1 1125 0) x1 x2)), inR (((640 * x1) + (stV (M.1 1125 0) x1 x2)) + x3)]) (pc' := 24) (ls' := [some (.inr (.inr (10, 0))), some (.inl x1), some (.inl x2), some (.inl x3), some (.inl x4), some (.inl (((640 * x1) + (stV (M.1 1125 0) x1 x2)) + x3)), none, none, none, none]) (st' := []) (M' := M) rfl ⟨h.1.1, h.1.2⟩ ?_
  replace h := h.2
  refine Bd (P := fun x5 : Int => Wp 2 1039 24 [some (.inr (.inr (10, 0))), some (.inl x1), some (.inl x2), some (.inl x3), some (.inl x4), some (.inl x5), none, none, none, none] [] M (rV Q)) ?_
  intro x5 e_x5
  replace h := h x5 e_x5
  refine Wp.path (k := 6) [] (C := [inR (640 * x1)]) (pc' := 32) (ls' := [some (.inr (.inr (10, 0))), some (.inl x1), some (.inl x2), some (.inl x3), some (.inl x4), some (.inl x5), none, none, none, none]) (st' := [.inl x2, .inl x1, .inr (.inr (10, 0)), .inl (640 * x1)]) (M' := M) rfl h.1 ?_
  replace h := h.2
  refine Wp.call (e1035 h.1.1 h.1.2.1 h.1.2.2.1 h.1.2.2.2) rfl rfl (by decide) ?_
  replace h := h.2
  rintro v_ M_ ⟨eM_, ev_⟩
  rw [eM_, ev_]
  clear eM_ ev_ v_ M_
  show Wp 2 1039 35 [some (.inr (.inr (10, 0))), some (.inl x1), some (.inl x2), some (.inl x3), some (.inl x4), some (.inl x5), none, none, none, none] [.inl (stV (M.1 1125 0) x1 x2), .inl (640 * x1)] M (rV Q)
  refine Wp.path (k := 6) [] (C := [inR ((640 * x1) + (stV (M.1 1125 0) x1 x2)), inR (x3 + 1), inR (x3 + 1) ∧ 0 < x4 ∧ inR x4]) (pc' := 42) (ls' := [some (.inr (.inr (10, 0))), some (.inl x1), some (.inl x2), some (.inl x3), some (.inl x4), some (.inl x5), none, none, none, none]) (st' := [.inl (Int.tmod (x3 + 1) x4), .inl ((640 * x1) + (stV (M.1 1125 0) x1 x2))]) (M' := M) rfl ⟨h.1.1, h.1.2.1, h.1.2.2⟩ ?_
  replace h := h.2
  refine Bd (P := fun d : Int => Wp 2 1039 42 [some (.inr (.inr (10, 0))), some (.inl x1), some (.inl x2), some (.inl x3), some (.inl x4), some (.inl x5), none, none, none, none] [.inl d, .inl ((640 * x1) + (stV (M.1 1125 0) x1 x2))] M (rV Q)) ?_
  intro d e_d
  replace h := h d e_d
  refine Wp.path (k := 2) [] (C := [inR (((640 * x1) + (stV (M.1 1125 0) x1 x2)) + d)]) (pc' := 45) (ls' := [some (.inr (.inr (10, 0))), some (.inl x1), some (.inl x2), some (.inl x3), some (.inl x4), some (.inl x5), some (.inl (((640 * x1) + (stV (M.1 1125 0) x1 x2)) + d)), none, none, none]) (st' := []) (M' := M) rfl h.1 ?_
  replace h := h.2
  refine Bd (P := fun x6 : Int => Wp 2 1039 45 [some (.inr (.inr (10, 0))), some (.inl x1), some (.inl x2), some (.inl x3), some (.inl x4), some (.inl x5), some (.inl x6), none, none, none] [] M (rV Q)) ?_
  intro x6 e_x6
  replace h := h x6 e_x6
  refine Wp.path (k := 8) [] (C := [0 ≤ x5 ∧ x5 < 7680, 0 ≤ x6 ∧ x6 < 7680]) (pc' := 59) (ls' := [some (.inr (.inr (10, 0))), some (.inl x1), some (.inl x2), some (.inl x3), some (.inl x4), some (.inl x5), some (.inl x6), none, none, none]) (st' := [.inl (M.1 1128 0 x6.toNat), .inl (M.1 1128 0 x5.toNat)]) (M' := M) rfl ⟨h.1.1, h.1.2⟩ ?_
  replace h := h.2
  have k_15 : ∀ b : Int, b = (if M.1 1128 0 x5.toNat ≠ M.1 1128 0 x6.toNat then 0 else 1) → Wp 2 1039 67 [some (.inr (.inr (10, 0))), some (.inl x1), some (.inl x2), some (.inl x3), some (.inl x4), some (.inl x5), some (.inl x6), none, none, none] [.inl b] M (rV Q) := by
    intro b e_b
    replace h := h b e_b
    refine Wp.path (k := 2) [] (C := []) (pc' := 71) (ls' := [some (.inr (.inr (10, 0))), some (.inl x1), some (.inl x2), some (.inl x3), some (.inl x4), some (.inl x5), some (.inl x6), some (.inl b), none, none]) (st' := [.inl b]) (M' := M) rfl trivial ?_
    have g13_0 := h.1
    replace h := h.2
    have g13_1 := h.1
    replace h := h.2
    have k_13 : ∀ b_1 : Int, b_1 = (if b = 0 then (M.1 1128 0 x5.toNat) else (M.1 1127 0 x5.toNat)) → Wp 2 1039 91 [some (.inr (.inr (10, 0))), some (.inl x1), some (.inl x2), some (.inl x3), some (.inl x4), some (.inl x5), some (.inl x6), some (.inl b), none, none] [.inl b_1] M (rV Q) := by
      intro b_1 e_b_1
      replace h := h b_1 e_b_1
      refine Wp.path (k := 2) [] (C := []) (pc' := 95) (ls' := [some (.inr (.inr (10, 0))), some (.inl x1), some (.inl x2), some (.inl x3), some (.inl x4), some (.inl x5), some (.inl x6), some (.inl b), some (.inl b_1), none]) (st' := [.inl b]) (M' := M) rfl trivial ?_
      have g11_0 := h.1
      replace h := h.2
      have g11_1 := h.1
      replace h := h.2
      have k_11 : ∀ b_2 : Int, b_2 = (if b = 0 then (M.1 1128 0 x6.toNat) else (M.1 1127 0 x6.toNat)) → Wp 2 1039 115 [some (.inr (.inr (10, 0))), some (.inl x1), some (.inl x2), some (.inl x3), some (.inl x4), some (.inl x5), some (.inl x6), some (.inl b), some (.inl b_1), none] [.inl b_2] M (rV Q) := by
        intro b_2 e_b_2
        replace h := h b_2 e_b_2
        refine Wp.path (k := 3) [] (C := []) (pc' := 120) (ls' := [some (.inr (.inr (10, 0))), some (.inl x1), some (.inl x2), some (.inl x3), some (.inl x4), some (.inl x5), some (.inl x6), some (.inl b), some (.inl b_1), some (.inl b_2)]) (st' := [.inl b, .inr (.inr (10, 0))]) (M' := M) rfl trivial ?_
        have k_7 : ∀ b_3 : Int, b_3 = (if b = 0 then (if b_2 ≤ b_1 then 3 else 1) else (if b_2 ≤ b_1 then 2 else 0)) → Wp 2 1039 150 [some (.inr (.inr (10, 0))), some (.inl x1), some (.inl x2), some (.inl x3), some (.inl x4), some (.inl x5), some (.inl x6), some (.inl b), some (.inl b_1), some (.inl b_2)] [.inl b_3, .inr (.inr (10, 0))] M (rV Q) := by
          intro b_3 e_b_3
          replace h := h b_3 e_b_3
          refine Wp.path (k := 1) [] (C := []) (pc' := 153) (ls' := [some (.inr (.inr (10, 0))), some (.inl x1), some (.inl x2), some (.inl x3), some (.inl x4), some (.inl x5), some (.inl x6), some (.inl b), some (.inl b_1), some (.inl b_2)]) (st' := []) (M' := setI M 10 0 30 b_3) rfl trivial ?_
          refine Bd (P := fun M1 : Mm => Wp 2 1039 153 [some (.inr (.inr (10, 0))), some (.inl x1), some (.inl x2), some (.inl x3), some (.inl x4), some (.inl x5), some (.inl x6), some (.inl b), some (.inl b_1), some (.inl b_2)] [] M1 (rV Q)) ?_
          intro M1 e_M1
          replace h := h M1 e_M1
          refine Wp.path (k := 2) [] (C := []) (pc' := 156) (ls' := [some (.inr (.inr (10, 0))), some (.inl x1), some (.inl x2), some (.inl x3), some (.inl x4), some (.inl x5), some (.inl x6), some (.inl b), some (.inl b_1), some (.inl b_2)]) (st' := [.inl b, .inr (.inr (10, 0))]) (M' := M1) rfl trivial ?_
          have g5_0 := h.1
          replace h := h.2
          have g5_1 := h.1
          replace h := h.2
          have k_5 : ∀ b_4 : Int, b_4 = (if b = 0 then (M1.1 1127 0 x5.toNat) else (M1.1 1128 0 x5.toNat)) → Wp 2 1039 176 [some (.inr (.inr (10, 0))), some (.inl x1), some (.inl x2), some (.inl x3), some (.inl x4), some (.inl x5), some (.inl x6), some (.inl b), some (.inl b_1), some (.inl b_2)] [.inl b_4, .inr (.inr (10, 0))] M1 (rV Q) := by
            intro b_4 e_b_4
            replace h := h b_4 e_b_4
            refine Wp.path (k := 1) [] (C := []) (pc' := 179) (ls' := [some (.inr (.inr (10, 0))), some (.inl x1), some (.inl x2), some (.inl x3), some (.inl x4), some (.inl x5), some (.inl x6), some (.inl b), some (.inl b_1), some (.inl b_2)]) (st' := []) (M' := setI M1 10 0 31 b_4) rfl trivial ?_
            refine Bd (P := fun M1_1 : Mm => Wp 2 1039 179 [some (.inr (.inr (10, 0))), some (.inl x1), some (.inl x2), some (.inl x3), some (.inl x4), some (.inl x5), some (.inl x6), some (.inl b), some (.inl b_1), some (.inl b_2)] [] M1_1 (rV Q)) ?_
            intro M1_1 e_M1_1
            replace h := h M1_1 e_M1_1
            refine Wp.path (k := 3) [] (C := []) (pc' := 184) (ls' := [some (.inr (.inr (10, 0))), some (.inl x1), some (.inl x2), some (.inl x3), some (.inl x4), some (.inl x5), some (.inl x6), some (.inl b), some (.inl b_1), some (.inl b_2)]) (st' := [.inl b_2, .inl b_1, .inr (.inr (10, 0))]) (M' := M1_1) rfl trivial ?_
            have k_3 : ∀ b_5 : Int, b_5 = (if b_2 ≤ b_1 then b_2 else b_1) → Wp 2 1039 194 [some (.inr (.inr (10, 0))), some (.inl x1), some (.inl x2), some (.inl x3), some (.inl x4), some (.inl x5), some (.inl x6), some (.inl b), some (.inl b_1), some (.inl b_2)] [.inl b_5, .inr (.inr (10, 0))] M1_1 (rV Q) := by
              intro b_5 e_b_5
              replace h := h b_5 e_b_5
              refine Wp.path (k := 1) [] (C := []) (pc' := 197) (ls' := [some (.inr (.inr (10, 0))), some (.inl x1), some (.inl x2), some (.inl x3), some (.inl x4), some (.inl x5), some (.inl x6), some (.inl b), some (.inl b_1), some (.inl b_2)]) (st' := []) (M' := setI M1_1 10 0 32 b_5) rfl trivial ?_
              refine Bd (P := fun M1_2 : Mm => Wp 2 1039 197 [some (.inr (.inr (10, 0))), some (.inl x1), some (.inl x2), some (.inl x3), some (.inl x4), some (.inl x5), some (.inl x6), some (.inl b), some (.inl b_1), some (.inl b_2)] [] M1_2 (rV Q)) ?_
              intro M1_2 e_M1_2
              replace h := h M1_2 e_M1_2
              refine Wp.path (k := 3) [] (C := []) (pc' := 202) (ls' := [some (.inr (.inr (10, 0))), some (.inl x1), some (.inl x2), some (.inl x3), some (.inl x4), some (.inl x5), some (.inl x6), some (.inl b), some (.inl b_1), some (.inl b_2)]) (st' := [.inl b_2, .inl b_1, .inr (.inr (10, 0))]) (M' := M1_2) rfl trivial ?_
              have k_1 : ∀ b_6 : Int, b_6 = (if b_2 ≤ b_1 then b_1 else b_2) → Wp 2 1039 212 [some (.inr (.inr (10, 0))), some (.inl x1), some (.inl x2), some (.inl x3), some (.inl x4), some (.inl x5), some (.inl x6), some (.inl b), some (.inl b_1), some (.inl b_2)] [.inl b_6, .inr (.inr (10, 0))] M1_2 (rV Q) := by
                intro b_6 e_b_6
                replace h := h b_6 e_b_6
                refine Wp.path (k := 1) [] (C := []) (pc' := 215) (ls' := [some (.inr (.inr (10, 0))), some (.inl x1), some (.inl x2), some (.inl x3), some (.inl x4), some (.inl x5), some (.inl x6), some (.inl b), some (.inl b_1), some (.inl b_2)]) (st' := []) (M' := setI M1_2 10 0 33 b_6) rfl trivial ?_
                refine Bd (P := fun M1_3 : Mm => Wp 2 1039 215 [some (.inr (.inr (10, 0))), some (.inl x1), some (.inl x2), some (.inl x3), some (.inl x4), some (.inl x5), some (.inl x6), some (.inl b), some (.inl b_1), some (.inl b_2)] [] M1_3 (rV Q)) ?_
                intro M1_3 e_M1_3
                replace h := h M1_3 e_M1_3
                exact Wp.ret rfl ⟨rfl, h⟩
              clear h
              rcases Int.lt_or_le (b_1) (b_2) with c_2 | c_2
              · refine Wp.path (k := 1) [0] (C := [b_1 < b_2]) (pc' := 205) (ls' := [some (.inr (.inr (10, 0))), some (.inl x1), some (.inl x2), some (.inl x3), some (.inl x4), some (.inl x5), some (.inl x6), some (.inl b), some (.inl b_1), some (.inl b_2)]) (st' := [.inr (.inr (10, 0))]) (M' := M1_2) rfl c_2 ?_
                refine Wp.path (k := 2) [] (C := []) (pc' := 212) (ls' := [some (.inr (.inr (10, 0))), some (.inl x1), some (.inl x2), some (.inl x3), some (.inl x4), some (.inl x5), some (.inl x6), some (.inl b), some (.inl b_1), some (.inl b_2)]) (st' := [.inl b_2, .inr (.inr (10, 0))]) (M' := M1_2) rfl trivial ?_
                exact k_1 _ (by rw [if_neg (Int.not_le.mpr c_2)])
              · refine Wp.path (k := 1) [1] (C := [b_2 ≤ b_1]) (pc' := 210) (ls' := [some (.inr (.inr (10, 0))), some (.inl x1), some (.inl x2), some (.inl x3), some (.inl x4), some (.inl x5), some (.inl x6), some (.inl b), some (.inl b_1), some (.inl b_2)]) (st' := [.inr (.inr (10, 0))]) (M' := M1_2) rfl c_2 ?_
                refine Wp.path (k := 1) [] (C := []) (pc' := 212) (ls' := [some (.inr (.inr (10, 0))), some (.inl x1), some (.inl x2), some (.inl x3), some (.inl x4), some (.inl x5), some (.inl x6), some (.inl b), some (.inl b_1), some (.inl b_2)]) (st' := [.inl b_1, .inr (.inr (10, 0))]) (M' := M1_2) rfl trivial ?_
                exact k_1 _ (by rw [if_pos c_2])
            clear h
            rcases Int.lt_or_le (b_1) (b_2) with c_4 | c_4
            · refine Wp.path (k := 1) [0] (C := [b_1 < b_2]) (pc' := 187) (ls' := [some (.inr (.inr (10, 0))), some (.inl x1), some (.inl x2), some (.inl x3), some (.inl x4), some (.inl x5), some (.inl x6), some (.inl b), some (.inl b_1), some (.inl b_2)]) (st' := [.inr (.inr (10, 0))]) (M' := M1_1) rfl c_4 ?_
              refine Wp.path (k := 2) [] (C := []) (pc' := 194) (ls' := [some (.inr (.inr (10, 0))), some (.inl x1), some (.inl x2), some (.inl x3), some (.inl x4), some (.inl x5), some (.inl x6), some (.inl b), some (.inl b_1), some (.inl b_2)]) (st' := [.inl b_1, .inr (.inr (10, 0))]) (M' := M1_1) rfl trivial ?_
              exact k_3 _ (by rw [if_neg (Int.not_le.mpr c_4)])
            · refine Wp.path (k := 1) [1] (C := [b_2 ≤ b_1]) (pc' := 192) (ls' := [some (.inr (.inr (10, 0))), some (.inl x1), some (.inl x2), some (.inl x3), some (.inl x4), some (.inl x5), some (.inl x6), some (.inl b), some (.inl b_1), some (.inl b_2)]) (st' := [.inr (.inr (10, 0))]) (M' := M1_1) rfl c_4 ?_
              refine Wp.path (k := 1) [] (C := []) (pc' := 194) (ls' := [some (.inr (.inr (10, 0))), some (.inl x1), some (.inl x2), some (.inl x3), some (.inl x4), some (.inl x5), some (.inl x6), some (.inl b), some (.inl b_1), some (.inl b_2)]) (st' := [.inl b_2, .inr (.inr (10, 0))]) (M' := M1_1) rfl trivial ?_
              exact k_3 _ (by rw [if_pos c_4])
          clear h
          rcases Decidable.em (b = 0) with c_6 | c_6
          · refine Wp.path (k := 1) [1] (C := [b = 0]) (pc' := 169) (ls' := [some (.inr (.inr (10, 0))), some (.inl x1), some (.inl x2), some (.inl x3), some (.inl x4), some (.inl x5), some (.inl x6), some (.inl b), some (.inl b_1), some (.inl b_2)]) (st' := [.inr (.inr (10, 0))]) (M' := M1) rfl c_6 ?_
            refine Wp.path (k := 4) [] (C := [0 ≤ x5 ∧ x5 < 7680]) (pc' := 176) (ls' := [some (.inr (.inr (10, 0))), some (.inl x1), some (.inl x2), some (.inl x3), some (.inl x4), some (.inl x5), some (.inl x6), some (.inl b), some (.inl b_1), some (.inl b_2)]) (st' := [.inl (M1.1 1127 0 x5.toNat), .inr (.inr (10, 0))]) (M' := M1) rfl (g5_0 c_6) ?_
            exact k_5 _ (by rw [if_pos c_6])
          · refine Wp.path (k := 1) [0] (C := [b ≠ 0]) (pc' := 159) (ls' := [some (.inr (.inr (10, 0))), some (.inl x1), some (.inl x2), some (.inl x3), some (.inl x4), some (.inl x5), some (.inl x6), some (.inl b), some (.inl b_1), some (.inl b_2)]) (st' := [.inr (.inr (10, 0))]) (M' := M1) rfl c_6 ?_
            refine Wp.path (k := 5) [] (C := [0 ≤ x5 ∧ x5 < 7680]) (pc' := 176) (ls' := [some (.inr (.inr (10, 0))), some (.inl x1), some (.inl x2), some (.inl x3), some (.inl x4), some (.inl x5), some (.inl x6), some (.inl b), some (.inl b_1), some (.inl b_2)]) (st' := [.inl (M1.1 1128 0 x5.toNat), .inr (.inr (10, 0))]) (M' := M1) rfl (g5_1 c_6) ?_
            exact k_5 _ (by rw [if_neg c_6])
        clear h
        rcases Decidable.em (b = 0) with c_8 | c_8
        · refine Wp.path (k := 1) [1] (C := [b = 0]) (pc' := 138) (ls' := [some (.inr (.inr (10, 0))), some (.inl x1), some (.inl x2), some (.inl x3), some (.inl x4), some (.inl x5), some (.inl x6), some (.inl b), some (.inl b_1), some (.inl b_2)]) (st' := [.inr (.inr (10, 0))]) (M' := M) rfl c_8 ?_
          refine Wp.path (k := 2) [] (C := []) (pc' := 142) (ls' := [some (.inr (.inr (10, 0))), some (.inl x1), some (.inl x2), some (.inl x3), some (.inl x4), some (.inl x5), some (.inl x6), some (.inl b), some (.inl b_1), some (.inl b_2)]) (st' := [.inl b_2, .inl b_1, .inr (.inr (10, 0))]) (M' := M) rfl trivial ?_
          rcases Int.lt_or_le (b_1) (b_2) with c_9 | c_9
          · refine Wp.path (k := 1) [0] (C := [b_1 < b_2]) (pc' := 145) (ls' := [some (.inr (.inr (10, 0))), some (.inl x1), some (.inl x2), some (.inl x3), some (.inl x4), some (.inl x5), some (.inl x6), some (.inl b), some (.inl b_1), some (.inl b_2)]) (st' := [.inr (.inr (10, 0))]) (M' := M) rfl c_9 ?_
            refine Wp.path (k := 2) [] (C := []) (pc' := 150) (ls' := [some (.inr (.inr (10, 0))), some (.inl x1), some (.inl x2), some (.inl x3), some (.inl x4), some (.inl x5), some (.inl x6), some (.inl b), some (.inl b_1), some (.inl b_2)]) (st' := [.inl 1, .inr (.inr (10, 0))]) (M' := M) rfl trivial ?_
            exact k_7 _ (by rw [if_pos c_8, if_neg (Int.not_le.mpr c_9)])
          · refine Wp.path (k := 1) [1] (C := [b_2 ≤ b_1]) (pc' := 149) (ls' := [some (.inr (.inr (10, 0))), some (.inl x1), some (.inl x2), some (.inl x3), some (.inl x4), some (.inl x5), some (.inl x6), some (.inl b), some (.inl b_1), some (.inl b_2)]) (st' := [.inr (.inr (10, 0))]) (M' := M) rfl c_9 ?_
            refine Wp.path (k := 1) [] (C := []) (pc' := 150) (ls' := [some (.inr (.inr (10, 0))), some (.inl x1), some (.inl x2), some (.inl x3), some (.inl x4), some (.inl x5), some (.inl x6), some (.inl b), some (.inl b_1), some (.inl b_2)]) (st' := [.inl 3, .inr (.inr (10, 0))]) (M' := M) rfl trivial ?_
            exact k_7 _ (by rw [if_pos c_8, if_pos c_9])
        · refine Wp.path (k := 1) [0] (C := [b ≠ 0]) (pc' := 123) (ls' := [some (.inr (.inr (10, 0))), some (.inl x1), some (.inl x2), some (.inl x3), some (.inl x4), some (.inl x5), some (.inl x6), some (.inl b), some (.inl b_1), some (.inl b_2)]) (st' := [.inr (.inr (10, 0))]) (M' := M) rfl c_8 ?_
          refine Wp.path (k := 2) [] (C := []) (pc' := 127) (ls' := [some (.inr (.inr (10, 0))), some (.inl x1), some (.inl x2), some (.inl x3), some (.inl x4), some (.inl x5), some (.inl x6), some (.inl b), some (.inl b_1), some (.inl b_2)]) (st' := [.inl b_2, .inl b_1, .inr (.inr (10, 0))]) (M' := M) rfl trivial ?_
          rcases Int.lt_or_le (b_1) (b_2) with c_10 | c_10
          · refine Wp.path (k := 1) [0] (C := [b_1 < b_2]) (pc' := 130) (ls' := [some (.inr (.inr (10, 0))), some (.inl x1), some (.inl x2), some (.inl x3), some (.inl x4), some (.inl x5), some (.inl x6), some (.inl b), some (.inl b_1), some (.inl b_2)]) (st' := [.inr (.inr (10, 0))]) (M' := M) rfl c_10 ?_
            refine Wp.path (k := 2) [] (C := []) (pc' := 150) (ls' := [some (.inr (.inr (10, 0))), some (.inl x1), some (.inl x2), some (.inl x3), some (.inl x4), some (.inl x5), some (.inl x6), some (.inl b), some (.inl b_1), some (.inl b_2)]) (st' := [.inl 0, .inr (.inr (10, 0))]) (M' := M) rfl trivial ?_
            exact k_7 _ (by rw [if_neg c_8, if_neg (Int.not_le.mpr c_10)])
          · refine Wp.path (k := 1) [1] (C := [b_2 ≤ b_1]) (pc' := 134) (ls' := [some (.inr (.inr (10, 0))), some (.inl x1), some (.inl x2), some (.inl x3), some (.inl x4), some (.inl x5), some (.inl x6), some (.inl b), some (.inl b_1), some (.inl b_2)]) (st' := [.inr (.inr (10, 0))]) (M' := M) rfl c_10 ?_
            refine Wp.path (k := 2) [] (C := []) (pc' := 150) (ls' := [some (.inr (.inr (10, 0))), some (.inl x1), some (.inl x2), some (.inl x3), some (.inl x4), some (.inl x5), some (.inl x6), some (.inl b), some (.inl b_1), some (.inl b_2)]) (st' := [.inl 2, .inr (.inr (10, 0))]) (M' := M) rfl trivial ?_
            exact k_7 _ (by rw [if_neg c_8, if_pos c_10])
      clear h
      rcases Decidable.em (b = 0) with c_12 | c_12
      · refine Wp.path (k := 1) [1] (C := [b = 0]) (pc' := 108) (ls' := [some (.inr (.inr (10, 0))), some (.inl x1), some (.inl x2), some (.inl x3), some (.inl x4), some (.inl x5), some (.inl x6), some (.inl b), some (.inl b_1), none]) (st' := []) (M' := M) rfl c_12 ?_
        refine Wp.path (k := 4) [] (C := [0 ≤ x6 ∧ x6 < 7680]) (pc' := 115) (ls' := [some (.inr (.inr (10, 0))), some (.inl x1), some (.inl x2), some (.inl x3), some (.inl x4), some (.inl x5), some (.inl x6), some (.inl b), some (.inl b_1), none]) (st' := [.inl (M.1 1128 0 x6.toNat)]) (M' := M) rfl (g11_0 c_12) ?_
        exact k_11 _ (by rw [if_pos c_12])
      · refine Wp.path (k := 1) [0] (C := [b ≠ 0]) (pc' := 98) (ls' := [some (.inr (.inr (10, 0))), some (.inl x1), some (.inl x2), some (.inl x3), some (.inl x4), some (.inl x5), some (.inl x6), some (.inl b), some (.inl b_1), none]) (st' := []) (M' := M) rfl c_12 ?_
        refine Wp.path (k := 5) [] (C := [0 ≤ x6 ∧ x6 < 7680]) (pc' := 115) (ls' := [some (.inr (.inr (10, 0))), some (.inl x1), some (.inl x2), some (.inl x3), some (.inl x4), some (.inl x5), some (.inl x6), some (.inl b), some (.inl b_1), none]) (st' := [.inl (M.1 1127 0 x6.toNat)]) (M' := M) rfl (g11_1 c_12) ?_
        exact k_11 _ (by rw [if_neg c_12])
    clear h
    rcases Decidable.em (b = 0) with c_14 | c_14
    · refine Wp.path (k := 1) [1] (C := [b = 0]) (pc' := 84) (ls' := [some (.inr (.inr (10, 0))), some (.inl x1), some (.inl x2), some (.inl x3), some (.inl x4), some (.inl x5), some (.inl x6), some (.inl b), none, none]) (st' := []) (M' := M) rfl c_14 ?_
      refine Wp.path (k := 4) [] (C := [0 ≤ x5 ∧ x5 < 7680]) (pc' := 91) (ls' := [some (.inr (.inr (10, 0))), some (.inl x1), some (.inl x2), some (.inl x3), some (.inl x4), some (.inl x5), some (.inl x6), some (.inl b), none, none]) (st' := [.inl (M.1 1128 0 x5.toNat)]) (M' := M) rfl (g13_0 c_14) ?_
      exact k_13 _ (by rw [if_pos c_14])
    · refine Wp.path (k := 1) [0] (C := [b ≠ 0]) (pc' := 74) (ls' := [some (.inr (.inr (10, 0))), some (.inl x1), some (.inl x2), some (.inl x3), some (.inl x4), some (.inl x5), some (.inl x6), some (.inl b), none, none]) (st' := []) (M' := M) rfl c_14 ?_
      refine Wp.path (k := 5) [] (C := [0 ≤ x5 ∧ x5 < 7680]) (pc' := 91) (ls' := [some (.inr (.inr (10, 0))), some (.inl x1), some (.inl x2), some (.inl x3), some (.inl x4), some (.inl x5), some (.inl x6), some (.inl b), none, none]) (st' := [.inl (M.1 1127 0 x5.toNat)]) (M' := M) rfl (g13_1 c_14) ?_
      exact k_13 _ (by rw [if_neg c_14])
  clear h
  rcases Decidable.em (M.1 1128 0 x5.toNat = M.1 1128 0 x6.toNat) with c_16 | c_16
  · refine Wp.path (k := 1) [0] (C := [M.1 1128 0 x5.toNat = M.1 1128 0 x6.toNat]) (pc' := 62) (ls' := [some (.inr (.inr (10, 0))), some (.inl x1), some (.inl x2), some (.inl x3), some (.inl x4), some (.inl x5), some (.inl x6), none, none, none]) (st' := []) (M' := M) rfl c_16 ?_
    refine Wp.path (k := 2) [] (C := []) (pc' := 67) (ls' := [some (.inr (.inr (10, 0))), some (.inl x1), some (.inl x2), some (.inl x3), some (.inl x4), some (.inl x5), some (.inl x6), none, none, none]) (st' := [.inl 1]) (M' := M) rfl trivial ?_
    exact k_15 _ (by rw [if_neg (not_not_intro c_16)])
  · refine Wp.path (k := 1) [1] (C := [M.1 1128 0 x5.toNat ≠ M.1 1128 0 x6.toNat]) (pc' := 66) (ls' := [some (.inr (.inr (10, 0))), some (.inl x1), some (.inl x2), some (.inl x3), some (.inl x4), some (.inl x5), some (.inl x6), none, none, none]) (st' := []) (M' := M) rfl c_16 ?_
    refine Wp.path (k := 1) [] (C := []) (pc' := 67) (ls' := [some (.inr (.inr (10, 0))), some (.inl x1), some (.inl x2), some (.inl x3), some (.inl x4), some (.inl x5), some (.inl x6), none, none, none]) (st' := [.inl 0]) (M' := M) rfl trivial ?_
    exact k_15 _ (by rw [if_pos c_16])
/-- X10_lengthOf -/
def E_1040 (x1 : Int) (x2 : Int) (M : Mm) (Q : Int → Mm → Prop) : Prop := Ev 3 1040 [.inr (.inr (10, 0)), .inl x1, .inl x2] M (rI Q)
theorem m_1040 {x1 : Int} {x2 : Int} {M : Mm} {Q Q1 : Int → Mm → Prop} (h : E_1040 x1 x2 M Q) (k : (∀ r M1, Q r M1 → Q1 r M1)) : E_1040 x1 x2 M Q1 := Ev.mono h (fun v M1 ⟨r, h1, h2⟩ => ⟨r, h1, k _ _ h2⟩)
def L_1040_5 (x1 : Int) (x2 : Int) (x3 : Int) (x4 : Int) (M : Mm) (Q : Int → Mm → Prop) : Prop := Wp 3 1040 5 [some (.inr (.inr (10, 0))), some (.inl x1), some (.inl x2), some (.inl x3), some (.inl x4)] [] M (rI Q)
theorem s_1040_0 {x1 : Int} {x2 : Int} {M : Mm} {Q : Int → Mm → Prop} (h : (L_1040_5 x1 x2 0 0 M Q)) : E_1040 x1 x2 M Q := by
  show Wp 3 1040 0 [some (.inr (.inr (10, 0))), some (.inl x1), some (.inl x2), none, none] [] M (rI Q)
  refine Wp.path (k := 4) [] (C := []) (pc' := 5) (ls' := [some (.inr (.inr (10, 0))), some (.inl x1), some (.inl x2), some (.inl 0), some (.inl 0)]) (st' := []) (M' := M) rfl trivial ?_
  exact h
theorem s_1040_5 {x1 : Int} {x2 : Int} {x3 : Int} {x4 : Int} {M : Mm} {Q : Int → Mm → Prop} (h : ((0 ≤ x1 ∧ x1 < 12 ∧ 0 ≤ x2 ∧ x2 < 160 ∧ inR (szV (M.1 1125 0) x1 x2)) ∧ ((szV (M.1 1125 0) x1 x2 ≤ x4 → (Q x3 M)) ∧ (x4 < szV (M.1 1125 0) x1 x2 → (E_1039 x1 x2 x4 M (fun M1 : Mm => ((-2147483648 ≤ (M1.1 10 0 33) - (M1.1 10 0 32) ∧ (M1.1 10 0 33) - (M1.1 10 0 32) ≤ 2147483647) ∧ (-2147483648 ≤ x3 + ((M1.1 10 0 33) - (M1.1 10 0 32)) ∧ x3 + ((M1.1 10 0 33) - (M1.1 10 0 32)) ≤ 2147483647)) ∧ (∀ x3_1 : Int, x3_1 = x3 + ((M1.1 10 0 33) - (M1.1 10 0 32)) → (((-2147483648 ≤ x4 + 1 ∧ x4 + 1 ≤ 2147483647)) ∧ (L_1040_5 x1 x2 x3_1 (x4 + 1) M1 Q))))))))) : L_1040_5 x1 x2 x3 x4 M Q := by
  show Wp 3 1040 5 [some (.inr (.inr (10, 0))), some (.inl x1), some (.inl x2), some (.inl x3), some (.inl x4)] [] M (rI Q)
  refine Wp.path (k := 4) [] (C := []) (pc' := 10) (ls' := [some (.inr (.inr (10, 0))), some (.inl x1), some (.inl x2), some (.inl x3), some (.inl x4)]) (st' := [.inl x2, .inl x1, .inr (.inr (10, 0)), .inl x4]) (M' := M) rfl trivial ?_
  refine Wp.call (e1036 h.1.1 h.1.2.1 h.1.2.2.1 h.1.2.2.2.1 h.1.2.2.2.2) rfl rfl (by decide) ?_
  replace h := h.2
  rintro v_ M_ ⟨eM_, ev_⟩
  rw [eM_, ev_]
  clear eM_ ev_ v_ M_
  show Wp 3 1040 13 [some (.inr (.inr (10, 0))), some (.inl x1), some (.inl x2), some (.inl x3), some (.inl x4)] [.inl (szV (M.1 1125 0) x1 x2), .inl x4] M (rI Q)
  rcases Int.lt_or_le (x4) (szV (M.1 1125 0) x1 x2) with c_1 | c_1
  · replace h := h.2 c_1
    refine Wp.path (k := 1) [0] (C := [x4 < szV (M.1 1125 0) x1 x2]) (pc' := 16) (ls' := [some (.inr (.inr (10, 0))), some (.inl x1), some (.inl x2), some (.inl x3), some (.inl x4)]) (st' := []) (M' := M) rfl c_1 ?_
    refine Wp.path (k := 4) [] (C := []) (pc' := 21) (ls' := [some (.inr (.inr (10, 0))), some (.inl x1), some (.inl x2), some (.inl x3), some (.inl x4)]) (st' := [.inl x4, .inl x2, .inl x1, .inr (.inr (10, 0))]) (M' := M) rfl trivial ?_
    refine Wp.call h rfl rfl (by decide) ?_
    rintro _ M1 ⟨rfl, h⟩
    show Wp 3 1040 24 [some (.inr (.inr (10, 0))), some (.inl x1), some (.inl x2), some (.inl x3), some (.inl x4)] [] M1 (rI Q)
    refine Wp.path (k := 8) [] (C := [inR ((M1.1 10 0 33) - (M1.1 10 0 32)), inR (x3 + ((M1.1 10 0 33) - (M1.1 10 0 32)))]) (pc' := 36) (ls' := [some (.inr (.inr (10, 0))), some (.inl x1), some (.inl x2), some (.inl (x3 + ((M1.1 10 0 33) - (M1.1 10 0 32)))), some (.inl x4)]) (st' := []) (M' := M1) rfl ⟨h.1.1, h.1.2⟩ ?_
    replace h := h.2
    refine Bd (P := fun x3_1 : Int => Wp 3 1040 36 [some (.inr (.inr (10, 0))), some (.inl x1), some (.inl x2), some (.inl x3_1), some (.inl x4)] [] M1 (rI Q)) ?_
    intro x3_1 e_x3_1
    replace h := h x3_1 e_x3_1
    refine Wp.path (k := 2) [] (C := [inR (x4 + 1)]) (pc' := 5) (ls' := [some (.inr (.inr (10, 0))), some (.inl x1), some (.inl x2), some (.inl x3_1), some (.inl (x4 + 1))]) (st' := []) (M' := M1) rfl h.1 ?_
    replace h := h.2
    exact h
  · replace h := h.1 c_1
    refine Wp.path (k := 1) [1] (C := [szV (M.1 1125 0) x1 x2 ≤ x4]) (pc' := 42) (ls' := [some (.inr (.inr (10, 0))), some (.inl x1), some (.inl x2), some (.inl x3), some (.inl x4)]) (st' := []) (M' := M) rfl c_1 ?_
    refine Wp.path (k := 1) [] (C := []) (pc' := 43) (ls' := [some (.inr (.inr (10, 0))), some (.inl x1), some (.inl x2), some (.inl x3), some (.inl x4)]) (st' := [.inl x3]) (M' := M) rfl trivial ?_
    exact Wp.ret rfl ⟨_, rfl, h⟩
/-- X10_edgesWorked -/
def E_1042 (M : Mm) (Q : Mm → Prop) : Prop := Ev 3 1042 [.inr (.inr (10, 0))] M (rV Q)
theorem m_1042 {M : Mm} {Q Q1 : Mm → Prop} (h : E_1042 M Q) (k : (∀ M1, Q M1 → Q1 M1)) : E_1042 M Q1 := Ev.mono h (fun v M1 h => ⟨h.1, k _ h.2⟩)
def L_1042_7 (x1 : Int) (M : Mm) (Q : Mm → Prop) : Prop := ∀ o2 : Option Vv, Wp 3 1042 7 [some (.inr (.inr (10, 0))), some (.inl x1), o2] [] M (rV Q)
def L_1042_26 (x1 : Int) (x2 : Int) (M : Mm) (Q : Mm → Prop) : Prop := Wp 3 1042 26 [some (.inr (.inr (10, 0))), some (.inl x1), some (.inl x2)] [] M (rV Q)
theorem s_1042_0 {M : Mm} {Q : Mm → Prop} (h : (∀ M1 : Mm, M1 = setI M 10 0 34 0 → (L_1042_7 0 M1 Q))) : E_1042 M Q := by
  show Wp 3 1042 0 [some (.inr (.inr (10, 0))), none, none] [] M (rV Q)
  refine Wp.path (k := 3) [] (C := []) (pc' := 5) (ls' := [some (.inr (.inr (10, 0))), none, none]) (st' := []) (M' := setI M 10 0 34 0) rfl trivial ?_
  refine Bd (P := fun M1 : Mm => Wp 3 1042 5 [some (.inr (.inr (10, 0))), none, none] [] M1 (rV Q)) ?_
  intro M1 e_M1
  replace h := h M1 e_M1
  refine Wp.path (k := 2) [] (C := []) (pc' := 7) (ls' := [some (.inr (.inr (10, 0))), some (.inl 0), none]) (st' := []) (M' := M1) rfl trivial ?_
  exact h _
theorem s_1042_7 {x1 : Int} {M : Mm} {Q : Mm → Prop} (h : ((M.1 10 0 18 ≤ 0 → (Q M)) ∧ (0 < M.1 10 0 18 → ((M.1 1124 0 0 ≤ x1 → (Q M)) ∧ (x1 < M.1 1124 0 0 → (L_1042_26 x1 0 M Q)))))) : L_1042_7 x1 M Q := by
  intro o2
  show Wp 3 1042 7 [some (.inr (.inr (10, 0))), some (.inl x1), o2] [] M (rV Q)
  refine Wp.path (k := 2) [] (C := []) (pc' := 11) (ls' := [some (.inr (.inr (10, 0))), some (.inl x1), o2]) (st' := [.inl (M.1 10 0 18)]) (M' := M) rfl trivial ?_
  rcases Int.lt_or_le (0) (M.1 10 0 18) with c_1 | c_1
  · replace h := h.2 c_1
    refine Wp.path (k := 1) [0] (C := [0 < M.1 10 0 18]) (pc' := 14) (ls' := [some (.inr (.inr (10, 0))), some (.inl x1), o2]) (st' := []) (M' := M) rfl c_1 ?_
    refine Wp.path (k := 5) [] (C := [0 ≤ 0 ∧ 0 < 12]) (pc' := 21) (ls' := [some (.inr (.inr (10, 0))), some (.inl x1), o2]) (st' := [.inl (M.1 1124 0 0), .inl x1]) (M' := M) rfl ⟨by decide, by decide⟩ ?_
    rcases Int.lt_or_le (x1) (M.1 1124 0 0) with c_2 | c_2
    · replace h := h.2 c_2
      refine Wp.path (k := 1) [0] (C := [x1 < M.1 1124 0 0]) (pc' := 24) (ls' := [some (.inr (.inr (10, 0))), some (.inl x1), o2]) (st' := []) (M' := M) rfl c_2 ?_
      refine Wp.path (k := 2) [] (C := []) (pc' := 26) (ls' := [some (.inr (.inr (10, 0))), some (.inl x1), some (.inl 0)]) (st' := []) (M' := M) rfl trivial ?_
      exact h
    · replace h := h.1 c_2
      refine Wp.path (k := 1) [1] (C := [M.1 1124 0 0 ≤ x1]) (pc' := 160) (ls' := [some (.inr (.inr (10, 0))), some (.inl x1), o2]) (st' := []) (M' := M) rfl c_2 ?_
      exact Wp.ret rfl ⟨rfl, h⟩
  · replace h := h.1 c_1
    refine Wp.path (k := 1) [1] (C := [M.1 10 0 18 ≤ 0]) (pc' := 160) (ls' := [some (.inr (.inr (10, 0))), some (.inl x1), o2]) (st' := []) (M' := M) rfl c_1 ?_
    exact Wp.ret rfl ⟨rfl, h⟩
theorem s_1042_26 {x1 : Int} {x2 : Int} {M : Mm} {Q : Mm → Prop} (h : (((0 : Int) ≤ 0 ∧ (0 : Int) < 12 ∧ 0 ≤ x1 ∧ x1 < 160 ∧ inR (szV (M.1 1125 0) 0 x1)) ∧ ((szV (M.1 1125 0) 0 x1 ≤ x2 → (((-2147483648 ≤ x1 + 1 ∧ x1 + 1 ≤ 2147483647)) ∧ (L_1042_7 (x1 + 1) M Q))) ∧ (x2 < szV (M.1 1125 0) 0 x1 → (E_1039 0 x1 x2 M (fun M1 : Mm => ((0 ≤ M1.1 10 0 34 ∧ M1.1 10 0 34 < 640)) ∧ (∀ M1_1 : Mm, M1_1 = setI M1 1135 0 ((M1.1 10 0 34).toNat) (M1.1 10 0 30) → ((upW (M1_1.1 10 0 30) = 0 → (((-2147483648 ≤ (M1_1.1 10 0 31) + 1 ∧ (M1_1.1 10 0 31) + 1 ≤ 2147483647)) ∧ (∀ d : Int, d = Int.tdiv ((M1_1.1 10 0 31) + 1) 4 → (((0 ≤ M1_1.1 10 0 34 ∧ M1_1.1 10 0 34 < 640)) ∧ (∀ M1_2 : Mm, M1_2 = setI M1_1 1136 0 ((M1_1.1 10 0 34).toNat) d → (((-2147483648 ≤ (M1_2.1 10 0 32) + 1 ∧ (M1_2.1 10 0 32) + 1 ≤ 2147483647)) ∧ (∀ d_1 : Int, d_1 = Int.tdiv ((M1_2.1 10 0 32) + 1) 4 → (((0 ≤ M1_2.1 10 0 34 ∧ M1_2.1 10 0 34 < 640)) ∧ (∀ M1_3 : Mm, M1_3 = setI M1_2 1137 0 ((M1_2.1 10 0 34).toNat) d_1 → (((-2147483648 ≤ (M1_3.1 10 0 33) + 1 ∧ (M1_3.1 10 0 33) + 1 ≤ 2147483647)) ∧ (∀ d_2 : Int, d_2 = Int.tdiv ((M1_3.1 10 0 33) + 1) 4 → (((0 ≤ M1_3.1 10 0 34 ∧ M1_3.1 10 0 34 < 640)) ∧ (∀ M1_4 : Mm, M1_4 = setI M1_3 1138 0 ((M1_3.1 10 0 34).toNat) d_2 → (((0 ≤ M1_4.1 10 0 34 ∧ M1_4.1 10 0 34 < 640)) ∧ (∀ M1_5 : Mm, M1_5 = setI M1_4 1139 0 ((M1_4.1 10 0 34).toNat) x1 → (((-2147483648 ≤ (M1_5.1 10 0 34) + 1 ∧ (M1_5.1 10 0 34) + 1 ≤ 2147483647)) ∧ (∀ M1_6 : Mm, M1_6 = setI M1_5 10 0 34 ((M1_5.1 10 0 34) + 1) → (((-2147483648 ≤ x2 + 1 ∧ x2 + 1 ≤ 2147483647)) ∧ (L_1042_26 x1 (x2 + 1) M1_6 Q))))))))))))))))))) ∧ (upW (M1_1.1 10 0 30) ≠ 0 → (((-2147483648 ≤ (M1_1.1 10 0 31) - 1 ∧ (M1_1.1 10 0 31) - 1 ≤ 2147483647)) ∧ (∀ d_3 : Int, d_3 = Int.tdiv ((M1_1.1 10 0 31) - 1) 4 → (((0 ≤ M1_1.1 10 0 34 ∧ M1_1.1 10 0 34 < 640)) ∧ (∀ M1_7 : Mm, M1_7 = setI M1_1 1136 0 ((M1_1.1 10 0 34).toNat) d_3 → (((-2147483648 ≤ (M1_7.1 10 0 32) + 1 ∧ (M1_7.1 10 0 32) + 1 ≤ 2147483647)) ∧ (∀ d_4 : Int, d_4 = Int.tdiv ((M1_7.1 10 0 32) + 1) 4 → (((0 ≤ M1_7.1 10 0 34 ∧ M1_7.1 10 0 34 < 640)) ∧ (∀ M1_8 : Mm, M1_8 = setI M1_7 1137 0 ((M1_7.1 10 0 34).toNat) d_4 → (((-2147483648 ≤ (M1_8.1 10 0 33) + 1 ∧ (M1_8.1 10 0 33) + 1 ≤ 2147483647)) ∧ (∀ d_5 : Int, d_5 = Int.tdiv ((M1_8.1 10 0 33) + 1) 4 → (((0 ≤ M1_8.1 10 0 34 ∧ M1_8.1 10 0 34 < 640)) ∧ (∀ M1_9 : Mm, M1_9 = setI M1_8 1138 0 ((M1_8.1 10 0 34).toNat) d_5 → (((0 ≤ M1_9.1 10 0 34 ∧ M1_9.1 10 0 34 < 640)) ∧ (∀ M1_10 : Mm, M1_10 = setI M1_9 1139 0 ((M1_9.1 10 0 34).toNat) x1 → (((-2147483648 ≤ (M1_10.1 10 0 34) + 1 ∧ (M1_10.1 10 0 34) + 1 ≤ 2147483647)) ∧ (∀ M1_11 : Mm, M1_11 = setI M1_10 10 0 34 ((M1_10.1 10 0 34) + 1) → (((-2147483648 ≤ x2 + 1 ∧ x2 + 1 ≤ 2147483647)) ∧ (L_1042_26 x1 (x2 + 1) M1_11 Q))))))))))))))))))))))))))) : L_1042_26 x1 x2 M Q := by
  show Wp 3 1042 26 [some (.inr (.inr (10, 0))), some (.inl x1), some (.inl x2)] [] M (rV Q)
  refine Wp.path (k := 4) [] (C := []) (pc' := 30) (ls' := [some (.inr (.inr (10, 0))), some (.inl x1), some (.inl x2)]) (st' := [.inl x1, .inl 0, .inr (.inr (10, 0)), .inl x2]) (M' := M) rfl trivial ?_
  refine Wp.call (e1036 h.1.1 h.1.2.1 h.1.2.2.1 h.1.2.2.2.1 h.1.2.2.2.2) rfl rfl (by decide) ?_
  replace h := h.2
  rintro v_ M_ ⟨eM_, ev_⟩
  rw [eM_, ev_]
  clear eM_ ev_ v_ M_
  show Wp 3 1042 33 [some (.inr (.inr (10, 0))), some (.inl x1), some (.inl x2)] [.inl (szV (M.1 1125 0) 0 x1), .inl x2] M (rV Q)
  rcases Int.lt_or_le (x2) (szV (M.1 1125 0) 0 x1) with c_1 | c_1
  · replace h := h.2 c_1
    refine Wp.path (k := 1) [0] (C := [x2 < szV (M.1 1125 0) 0 x1]) (pc' := 36) (ls' := [some (.inr (.inr (10, 0))), some (.inl x1), some (.inl x2)]) (st' := []) (M' := M) rfl c_1 ?_
    refine Wp.path (k := 4) [] (C := []) (pc' := 40) (ls' := [some (.inr (.inr (10, 0))), some (.inl x1), some (.inl x2)]) (st' := [.inl x2, .inl x1, .inl 0, .inr (.inr (10, 0))]) (M' := M) rfl trivial ?_
    refine Wp.call h rfl rfl (by decide) ?_
    rintro _ M1 ⟨rfl, h⟩
    show Wp 3 1042 43 [some (.inr (.inr (10, 0))), some (.inl x1), some (.inl x2)] [] M1 (rV Q)
    refine Wp.path (k := 7) [] (C := [0 ≤ M1.1 10 0 34 ∧ M1.1 10 0 34 < 640]) (pc' := 56) (ls' := [some (.inr (.inr (10, 0))), some (.inl x1), some (.inl x2)]) (st' := []) (M' := setI M1 1135 0 ((M1.1 10 0 34).toNat) (M1.1 10 0 30)) rfl h.1 ?_
    replace h := h.2
    refine Bd (P := fun M1_1 : Mm => Wp 3 1042 56 [some (.inr (.inr (10, 0))), some (.inl x1), some (.inl x2)] [] M1_1 (rV Q)) ?_
    intro M1_1 e_M1_1
    replace h := h M1_1 e_M1_1
    refine Wp.path (k := 6) [] (C := []) (pc' := 68) (ls' := [some (.inr (.inr (10, 0))), some (.inl x1), some (.inl x2)]) (st' := [.inl (M1_1.1 10 0 30), .inl (M1_1.1 10 0 34), .inr (.inr (1136, 0))]) (M' := M1_1) rfl trivial ?_
    refine Wp.call (e1041) rfl rfl (by decide) ?_
    rintro v_ M_ ⟨eM_, ev_⟩
    rw [eM_, ev_]
    clear eM_ ev_ v_ M_
    show Wp 3 1042 71 [some (.inr (.inr (10, 0))), some (.inl x1), some (.inl x2)] [.inl (upW (M1_1.1 10 0 30)), .inl (M1_1.1 10 0 34), .inr (.inr (1136, 0))] M1_1 (rV Q)
    rcases Decidable.em (upW (M1_1.1 10 0 30) = 0) with c_2 | c_2
    · replace h := h.1 c_2
      refine Wp.path (k := 1) [1] (C := [upW (M1_1.1 10 0 30) = 0]) (pc' := 85) (ls' := [some (.inr (.inr (10, 0))), some (.inl x1), some (.inl x2)]) (st' := [.inl (M1_1.1 10 0 34), .inr (.inr (1136, 0))]) (M' := M1_1) rfl c_2 ?_
      refine Wp.path (k := 6) [] (C := [inR ((M1_1.1 10 0 31) + 1), inR ((M1_1.1 10 0 31) + 1) ∧ 0 < 4 ∧ inR 4]) (pc' := 93) (ls' := [some (.inr (.inr (10, 0))), some (.inl x1), some (.inl x2)]) (st' := [.inl (Int.tdiv ((M1_1.1 10 0 31) + 1) 4), .inl (M1_1.1 10 0 34), .inr (.inr (1136, 0))]) (M' := M1_1) rfl ⟨h.1, ⟨h.1, by decide, ⟨by decide, by decide⟩⟩⟩ ?_
      replace h := h.2
      refine Bd (P := fun d : Int => Wp 3 1042 93 [some (.inr (.inr (10, 0))), some (.inl x1), some (.inl x2)] [.inl d, .inl (M1_1.1 10 0 34), .inr (.inr (1136, 0))] M1_1 (rV Q)) ?_
      intro d e_d
      replace h := h d e_d
      refine Wp.path (k := 1) [] (C := [0 ≤ M1_1.1 10 0 34 ∧ M1_1.1 10 0 34 < 640]) (pc' := 94) (ls' := [some (.inr (.inr (10, 0))), some (.inl x1), some (.inl x2)]) (st' := []) (M' := setI M1_1 1136 0 ((M1_1.1 10 0 34).toNat) d) rfl h.1 ?_
      replace h := h.2
      refine Bd (P := fun M1_2 : Mm => Wp 3 1042 94 [some (.inr (.inr (10, 0))), some (.inl x1), some (.inl x2)] [] M1_2 (rV Q)) ?_
      intro M1_2 e_M1_2
      replace h := h M1_2 e_M1_2
      refine Wp.path (k := 10) [] (C := [inR ((M1_2.1 10 0 32) + 1), inR ((M1_2.1 10 0 32) + 1) ∧ 0 < 4 ∧ inR 4]) (pc' := 110) (ls' := [some (.inr (.inr (10, 0))), some (.inl x1), some (.inl x2)]) (st' := [.inl (Int.tdiv ((M1_2.1 10 0 32) + 1) 4), .inl (M1_2.1 10 0 34), .inr (.inr (1137, 0))]) (M' := M1_2) rfl ⟨h.1, ⟨h.1, by decide, ⟨by decide, by decide⟩⟩⟩ ?_
      replace h := h.2
      refine Bd (P := fun d_1 : Int => Wp 3 1042 110 [some (.inr (.inr (10, 0))), some (.inl x1), some (.inl x2)] [.inl d_1, .inl (M1_2.1 10 0 34), .inr (.inr (1137, 0))] M1_2 (rV Q)) ?_
      intro d_1 e_d_1
      replace h := h d_1 e_d_1
      refine Wp.path (k := 1) [] (C := [0 ≤ M1_2.1 10 0 34 ∧ M1_2.1 10 0 34 < 640]) (pc' := 111) (ls' := [some (.inr (.inr (10, 0))), some (.inl x1), some (.inl x2)]) (st' := []) (M' := setI M1_2 1137 0 ((M1_2.1 10 0 34).toNat) d_1) rfl h.1 ?_
      replace h := h.2
      refine Bd (P := fun M1_3 : Mm => Wp 3 1042 111 [some (.inr (.inr (10, 0))), some (.inl x1), some (.inl x2)] [] M1_3 (rV Q)) ?_
      intro M1_3 e_M1_3
      replace h := h M1_3 e_M1_3
      refine Wp.path (k := 10) [] (C := [inR ((M1_3.1 10 0 33) + 1), inR ((M1_3.1 10 0 33) + 1) ∧ 0 < 4 ∧ inR 4]) (pc' := 127) (ls' := [some (.inr (.inr (10, 0))), some (.inl x1), some (.inl x2)]) (st' := [.inl (Int.tdiv ((M1_3.1 10 0 33) + 1) 4), .inl (M1_3.1 10 0 34), .inr (.inr (1138, 0))]) (M' := M1_3) rfl ⟨h.1, ⟨h.1, by decide, ⟨by decide, by decide⟩⟩⟩ ?_
      replace h := h.2
      refine Bd (P := fun d_2 : Int => Wp 3 1042 127 [some (.inr (.inr (10, 0))), some (.inl x1), some (.inl x2)] [.inl d_2, .inl (M1_3.1 10 0 34), .inr (.inr (1138, 0))] M1_3 (rV Q)) ?_
      intro d_2 e_d_2
      replace h := h d_2 e_d_2
      refine Wp.path (k := 1) [] (C := [0 ≤ M1_3.1 10 0 34 ∧ M1_3.1 10 0 34 < 640]) (pc' := 128) (ls' := [some (.inr (.inr (10, 0))), some (.inl x1), some (.inl x2)]) (st' := []) (M' := setI M1_3 1138 0 ((M1_3.1 10 0 34).toNat) d_2) rfl h.1 ?_
      replace h := h.2
      refine Bd (P := fun M1_4 : Mm => Wp 3 1042 128 [some (.inr (.inr (10, 0))), some (.inl x1), some (.inl x2)] [] M1_4 (rV Q)) ?_
      intro M1_4 e_M1_4
      replace h := h M1_4 e_M1_4
      refine Wp.path (k := 6) [] (C := [0 ≤ M1_4.1 10 0 34 ∧ M1_4.1 10 0 34 < 640]) (pc' := 138) (ls' := [some (.inr (.inr (10, 0))), some (.inl x1), some (.inl x2)]) (st' := []) (M' := setI M1_4 1139 0 ((M1_4.1 10 0 34).toNat) x1) rfl h.1 ?_
      replace h := h.2
      refine Bd (P := fun M1_5 : Mm => Wp 3 1042 138 [some (.inr (.inr (10, 0))), some (.inl x1), some (.inl x2)] [] M1_5 (rV Q)) ?_
      intro M1_5 e_M1_5
      replace h := h M1_5 e_M1_5
      refine Wp.path (k := 6) [] (C := [inR ((M1_5.1 10 0 34) + 1)]) (pc' := 148) (ls' := [some (.inr (.inr (10, 0))), some (.inl x1), some (.inl x2)]) (st' := []) (M' := setI M1_5 10 0 34 ((M1_5.1 10 0 34) + 1)) rfl h.1 ?_
      replace h := h.2
      refine Bd (P := fun M1_6 : Mm => Wp 3 1042 148 [some (.inr (.inr (10, 0))), some (.inl x1), some (.inl x2)] [] M1_6 (rV Q)) ?_
      intro M1_6 e_M1_6
      replace h := h M1_6 e_M1_6
      refine Wp.path (k := 2) [] (C := [inR (x2 + 1)]) (pc' := 26) (ls' := [some (.inr (.inr (10, 0))), some (.inl x1), some (.inl (x2 + 1))]) (st' := []) (M' := M1_6) rfl h.1 ?_
      replace h := h.2
      exact h
    · replace h := h.2 c_2
      refine Wp.path (k := 1) [0] (C := [upW (M1_1.1 10 0 30) ≠ 0]) (pc' := 74) (ls' := [some (.inr (.inr (10, 0))), some (.inl x1), some (.inl x2)]) (st' := [.inl (M1_1.1 10 0 34), .inr (.inr (1136, 0))]) (M' := M1_1) rfl c_2 ?_
      refine Wp.path (k := 6) [] (C := [inR ((M1_1.1 10 0 31) - 1), inR ((M1_1.1 10 0 31) - 1) ∧ 0 < 4 ∧ inR 4]) (pc' := 82) (ls' := [some (.inr (.inr (10, 0))), some (.inl x1), some (.inl x2)]) (st' := [.inl (Int.tdiv ((M1_1.1 10 0 31) - 1) 4), .inl (M1_1.1 10 0 34), .inr (.inr (1136, 0))]) (M' := M1_1) rfl ⟨h.1, ⟨h.1, by decide, ⟨by decide, by decide⟩⟩⟩ ?_
      replace h := h.2
      refine Bd (P := fun d_3 : Int => Wp 3 1042 82 [some (.inr (.inr (10, 0))), some (.inl x1), some (.inl x2)] [.inl d_3, .inl (M1_1.1 10 0 34), .inr (.inr (1136, 0))] M1_1 (rV Q)) ?_
      intro d_3 e_d_3
      replace h := h d_3 e_d_3
      refine Wp.path (k := 2) [] (C := [0 ≤ M1_1.1 10 0 34 ∧ M1_1.1 10 0 34 < 640]) (pc' := 94) (ls' := [some (.inr (.inr (10, 0))), some (.inl x1), some (.inl x2)]) (st' := []) (M' := setI M1_1 1136 0 ((M1_1.1 10 0 34).toNat) d_3) rfl h.1 ?_
      replace h := h.2
      refine Bd (P := fun M1_7 : Mm => Wp 3 1042 94 [some (.inr (.inr (10, 0))), some (.inl x1), some (.inl x2)] [] M1_7 (rV Q)) ?_
      intro M1_7 e_M1_7
      replace h := h M1_7 e_M1_7
      refine Wp.path (k := 10) [] (C := [inR ((M1_7.1 10 0 32) + 1), inR ((M1_7.1 10 0 32) + 1) ∧ 0 < 4 ∧ inR 4]) (pc' := 110) (ls' := [some (.inr (.inr (10, 0))), some (.inl x1), some (.inl x2)]) (st' := [.inl (Int.tdiv ((M1_7.1 10 0 32) + 1) 4), .inl (M1_7.1 10 0 34), .inr (.inr (1137, 0))]) (M' := M1_7) rfl ⟨h.1, ⟨h.1, by decide, ⟨by decide, by decide⟩⟩⟩ ?_
      replace h := h.2
      refine Bd (P := fun d_4 : Int => Wp 3 1042 110 [some (.inr (.inr (10, 0))), some (.inl x1), some (.inl x2)] [.inl d_4, .inl (M1_7.1 10 0 34), .inr (.inr (1137, 0))] M1_7 (rV Q)) ?_
      intro d_4 e_d_4
      replace h := h d_4 e_d_4
      refine Wp.path (k := 1) [] (C := [0 ≤ M1_7.1 10 0 34 ∧ M1_7.1 10 0 34 < 640]) (pc' := 111) (ls' := [some (.inr (.inr (10, 0))), some (.inl x1), some (.inl x2)]) (st' := []) (M' := setI M1_7 1137 0 ((M1_7.1 10 0 34).toNat) d_4) rfl h.1 ?_
      replace h := h.2
      refine Bd (P := fun M1_8 : Mm => Wp 3 1042 111 [some (.inr (.inr (10, 0))), some (.inl x1), some (.inl x2)] [] M1_8 (rV Q)) ?_
      intro M1_8 e_M1_8
      replace h := h M1_8 e_M1_8
      refine Wp.path (k := 10) [] (C := [inR ((M1_8.1 10 0 33) + 1), inR ((M1_8.1 10 0 33) + 1) ∧ 0 < 4 ∧ inR 4]) (pc' := 127) (ls' := [some (.inr (.inr (10, 0))), some (.inl x1), some (.inl x2)]) (st' := [.inl (Int.tdiv ((M1_8.1 10 0 33) + 1) 4), .inl (M1_8.1 10 0 34), .inr (.inr (1138, 0))]) (M' := M1_8) rfl ⟨h.1, ⟨h.1, by decide, ⟨by decide, by decide⟩⟩⟩ ?_
      replace h := h.2
      refine Bd (P := fun d_5 : Int => Wp 3 1042 127 [some (.inr (.inr (10, 0))), some (.inl x1), some (.inl x2)] [.inl d_5, .inl (M1_8.1 10 0 34), .inr (.inr (1138, 0))] M1_8 (rV Q)) ?_
      intro d_5 e_d_5
      replace h := h d_5 e_d_5
      refine Wp.path (k := 1) [] (C := [0 ≤ M1_8.1 10 0 34 ∧ M1_8.1 10 0 34 < 640]) (pc' := 128) (ls' := [some (.inr (.inr (10, 0))), some (.inl x1), some (.inl x2)]) (st' := []) (M' := setI M1_8 1138 0 ((M1_8.1 10 0 34).toNat) d_5) rfl h.1 ?_
      replace h := h.2
      refine Bd (P := fun M1_9 : Mm => Wp 3 1042 128 [some (.inr (.inr (10, 0))), some (.inl x1), some (.inl x2)] [] M1_9 (rV Q)) ?_
      intro M1_9 e_M1_9
      replace h := h M1_9 e_M1_9
      refine Wp.path (k := 6) [] (C := [0 ≤ M1_9.1 10 0 34 ∧ M1_9.1 10 0 34 < 640]) (pc' := 138) (ls' := [some (.inr (.inr (10, 0))), some (.inl x1), some (.inl x2)]) (st' := []) (M' := setI M1_9 1139 0 ((M1_9.1 10 0 34).toNat) x1) rfl h.1 ?_
      replace h := h.2
      refine Bd (P := fun M1_10 : Mm => Wp 3 1042 138 [some (.inr (.inr (10, 0))), some (.inl x1), some (.inl x2)] [] M1_10 (rV Q)) ?_
      intro M1_10 e_M1_10
      replace h := h M1_10 e_M1_10
      refine Wp.path (k := 6) [] (C := [inR ((M1_10.1 10 0 34) + 1)]) (pc' := 148) (ls' := [some (.inr (.inr (10, 0))), some (.inl x1), some (.inl x2)]) (st' := []) (M' := setI M1_10 10 0 34 ((M1_10.1 10 0 34) + 1)) rfl h.1 ?_
      replace h := h.2
      refine Bd (P := fun M1_11 : Mm => Wp 3 1042 148 [some (.inr (.inr (10, 0))), some (.inl x1), some (.inl x2)] [] M1_11 (rV Q)) ?_
      intro M1_11 e_M1_11
      replace h := h M1_11 e_M1_11
      refine Wp.path (k := 2) [] (C := [inR (x2 + 1)]) (pc' := 26) (ls' := [some (.inr (.inr (10, 0))), some (.inl x1), some (.inl (x2 + 1))]) (st' := []) (M' := M1_11) rfl h.1 ?_
      replace h := h.2
      exact h
  · replace h := h.1 c_1
    refine Wp.path (k := 1) [1] (C := [szV (M.1 1125 0) 0 x1 ≤ x2]) (pc' := 154) (ls' := [some (.inr (.inr (10, 0))), some (.inl x1), some (.inl x2)]) (st' := []) (M' := M) rfl c_1 ?_
    refine Wp.path (k := 2) [] (C := [inR (x1 + 1)]) (pc' := 7) (ls' := [some (.inr (.inr (10, 0))), some (.inl (x1 + 1)), some (.inl x2)]) (st' := []) (M' := M) rfl h.1 ?_
    replace h := h.2
    exact h _
/-- X10_heightOf -/
def E_1043 (x1 : Int) (x2 : Int) (M : Mm) (Q : Int → Mm → Prop) : Prop := Ev 2 1043 [.inr (.inr (10, 0)), .inl x1, .inl x2] M (rI Q)
theorem m_1043 {x1 : Int} {x2 : Int} {M : Mm} {Q Q1 : Int → Mm → Prop} (h : E_1043 x1 x2 M Q) (k : (∀ r M1, Q r M1 → Q1 r M1)) : E_1043 x1 x2 M Q1 := Ev.mono h (fun v M1 ⟨r, h1, h2⟩ => ⟨r, h1, k _ _ h2⟩)
def L_1043_48 (x1 : Int) (x2 : Int) (x3 : Int) (x4 : Int) (M : Mm) (Q : Int → Mm → Prop) : Prop := ∀ o5 o6 o7 o8 o9 : Option Vv, Wp 2 1043 48 [some (.inr (.inr (10, 0))), some (.inl x1), some (.inl x2), some (.inl x3), some (.inl x4), o5, o6, o7, o8, o9] [] M (rI Q)
theorem s_1043_0 {x1 : Int} {x2 : Int} {M : Mm} {Q : Int → Mm → Prop} (h : ((-2147483648 ≤ 96 - x1 ∧ 96 - x1 ≤ 2147483647)) ∧ ((96 - x1 ≤ x1 → ((-2147483648 ≤ 96 - x1 ∧ 96 - x1 ≤ 2147483647))) ∧ (∀ b : Int, b = (if 96 - x1 ≤ x1 then (96 - x1) else x1) → (∀ b_1 : Int, b_1 = (if b ≤ x2 then b else x2) → (((-2147483648 ≤ 96 - x2 ∧ 96 - x2 ≤ 2147483647)) ∧ ((96 - x2 < b_1 → ((-2147483648 ≤ 96 - x2 ∧ 96 - x2 ≤ 2147483647))) ∧ (∀ b_2 : Int, b_2 = (if b_1 ≤ 96 - x2 then b_1 else (96 - x2)) → (L_1043_48 x1 x2 b_2 0 M Q)))))))) : E_1043 x1 x2 M Q := by
  show Wp 2 1043 0 [some (.inr (.inr (10, 0))), some (.inl x1), some (.inl x2), none, none, none, none, none, none, none] [] M (rI Q)
  refine Wp.path (k := 4) [] (C := [inR (96 - x1)]) (pc' := 5) (ls' := [some (.inr (.inr (10, 0))), some (.inl x1), some (.inl x2), none, none, none, none, none, none, none]) (st' := [.inl (96 - x1), .inl x1]) (M' := M) rfl h.1 ?_
  replace h := h.2
  have g5_0 := h.1
  replace h := h.2
  have k_5 : ∀ b : Int, b = (if 96 - x1 ≤ x1 then (96 - x1) else x1) → Wp 2 1043 16 [some (.inr (.inr (10, 0))), some (.inl x1), some (.inl x2), none, none, none, none, none, none, none] [.inl b] M (rI Q) := by
    intro b e_b
    replace h := h b e_b
    refine Wp.path (k := 3) [] (C := []) (pc' := 19) (ls' := [some (.inr (.inr (10, 0))), some (.inl x1), some (.inl x2), some (.inl b), none, none, none, none, none, none]) (st' := [.inl b, .inl x2]) (M' := M) rfl trivial ?_
    have k_3 : ∀ b_1 : Int, b_1 = (if b ≤ x2 then b else x2) → Wp 2 1043 27 [some (.inr (.inr (10, 0))), some (.inl x1), some (.inl x2), some (.inl b), none, none, none, none, none, none] [.inl b_1] M (rI Q) := by
      intro b_1 e_b_1
      replace h := h b_1 e_b_1
      refine Wp.path (k := 5) [] (C := [inR (96 - x2)]) (pc' := 33) (ls' := [some (.inr (.inr (10, 0))), some (.inl x1), some (.inl x2), some (.inl b_1), none, none, none, none, none, none]) (st' := [.inl b_1, .inl (96 - x2)]) (M' := M) rfl h.1 ?_
      replace h := h.2
      have g1_0 := h.1
      replace h := h.2
      have k_1 : ∀ b_2 : Int, b_2 = (if b_1 ≤ 96 - x2 then b_1 else (96 - x2)) → Wp 2 1043 44 [some (.inr (.inr (10, 0))), some (.inl x1), some (.inl x2), some (.inl b_1), none, none, none, none, none, none] [.inl b_2] M (rI Q) := by
        intro b_2 e_b_2
        replace h := h b_2 e_b_2
        refine Wp.path (k := 3) [] (C := []) (pc' := 48) (ls' := [some (.inr (.inr (10, 0))), some (.inl x1), some (.inl x2), some (.inl b_2), some (.inl 0), none, none, none, none, none]) (st' := []) (M' := M) rfl trivial ?_
        exact h _ _ _ _ _
      clear h
      rcases Int.lt_or_le (96 - x2) (b_1) with c_2 | c_2
      · refine Wp.path (k := 1) [0] (C := [96 - x2 < b_1]) (pc' := 36) (ls' := [some (.inr (.inr (10, 0))), some (.inl x1), some (.inl x2), some (.inl b_1), none, none, none, none, none, none]) (st' := []) (M' := M) rfl c_2 ?_
        refine Wp.path (k := 4) [] (C := [inR (96 - x2)]) (pc' := 44) (ls' := [some (.inr (.inr (10, 0))), some (.inl x1), some (.inl x2), some (.inl b_1), none, none, none, none, none, none]) (st' := [.inl (96 - x2)]) (M' := M) rfl (g1_0 c_2) ?_
        exact k_1 _ (by rw [if_neg (Int.not_le.mpr c_2)])
      · refine Wp.path (k := 1) [1] (C := [b_1 ≤ 96 - x2]) (pc' := 43) (ls' := [some (.inr (.inr (10, 0))), some (.inl x1), some (.inl x2), some (.inl b_1), none, none, none, none, none, none]) (st' := []) (M' := M) rfl c_2 ?_
        refine Wp.path (k := 1) [] (C := []) (pc' := 44) (ls' := [some (.inr (.inr (10, 0))), some (.inl x1), some (.inl x2), some (.inl b_1), none, none, none, none, none, none]) (st' := [.inl b_1]) (M' := M) rfl trivial ?_
        exact k_1 _ (by rw [if_pos c_2])
    clear h
    rcases Int.lt_or_le (x2) (b) with c_4 | c_4
    · refine Wp.path (k := 1) [0] (C := [x2 < b]) (pc' := 22) (ls' := [some (.inr (.inr (10, 0))), some (.inl x1), some (.inl x2), some (.inl b), none, none, none, none, none, none]) (st' := []) (M' := M) rfl c_4 ?_
      refine Wp.path (k := 2) [] (C := []) (pc' := 27) (ls' := [some (.inr (.inr (10, 0))), some (.inl x1), some (.inl x2), some (.inl b), none, none, none, none, none, none]) (st' := [.inl x2]) (M' := M) rfl trivial ?_
      exact k_3 _ (by rw [if_neg (Int.not_le.mpr c_4)])
    · refine Wp.path (k := 1) [1] (C := [b ≤ x2]) (pc' := 26) (ls' := [some (.inr (.inr (10, 0))), some (.inl x1), some (.inl x2), some (.inl b), none, none, none, none, none, none]) (st' := []) (M' := M) rfl c_4 ?_
      refine Wp.path (k := 1) [] (C := []) (pc' := 27) (ls' := [some (.inr (.inr (10, 0))), some (.inl x1), some (.inl x2), some (.inl b), none, none, none, none, none, none]) (st' := [.inl b]) (M' := M) rfl trivial ?_
      exact k_3 _ (by rw [if_pos c_4])
  clear h
  rcases Int.lt_or_le (x1) (96 - x1) with c_6 | c_6
  · refine Wp.path (k := 1) [0] (C := [x1 < 96 - x1]) (pc' := 8) (ls' := [some (.inr (.inr (10, 0))), some (.inl x1), some (.inl x2), none, none, none, none, none, none, none]) (st' := []) (M' := M) rfl c_6 ?_
    refine Wp.path (k := 2) [] (C := []) (pc' := 16) (ls' := [some (.inr (.inr (10, 0))), some (.inl x1), some (.inl x2), none, none, none, none, none, none, none]) (st' := [.inl x1]) (M' := M) rfl trivial ?_
    exact k_5 _ (by rw [if_neg (Int.not_le.mpr c_6)])
  · refine Wp.path (k := 1) [1] (C := [96 - x1 ≤ x1]) (pc' := 12) (ls' := [some (.inr (.inr (10, 0))), some (.inl x1), some (.inl x2), none, none, none, none, none, none, none]) (st' := []) (M' := M) rfl c_6 ?_
    refine Wp.path (k := 3) [] (C := [inR (96 - x1)]) (pc' := 16) (ls' := [some (.inr (.inr (10, 0))), some (.inl x1), some (.inl x2), none, none, none, none, none, none, none]) (st' := [.inl (96 - x1)]) (M' := M) rfl (g5_0 c_6) ?_
    exact k_5 _ (by rw [if_pos c_6])
theorem s_1043_48 {x1 : Int} {x2 : Int} {x3 : Int} {x4 : Int} {M : Mm} {Q : Int → Mm → Prop} (h : ((144 ≤ x4 → (Q x3 M)) ∧ (x4 < 144 → (((-2147483648 ≤ x4 ∧ x4 ≤ 2147483647)) ∧ (∀ d : Int, d = Int.tmod x4 12 → (((-2147483648 ≤ x4 ∧ x4 ≤ 2147483647)) ∧ (∀ d_1 : Int, d_1 = Int.tdiv x4 12 → ((hasW (M.1 1101 0) d d_1 = 0 → (((-2147483648 ≤ 8 * d ∧ 8 * d ≤ 2147483647) ∧ (-2147483648 ≤ (8 * d) - x1 ∧ (8 * d) - x1 ≤ 2147483647) ∧ (-2147483648 ≤ x1 - (8 * d) ∧ x1 - (8 * d) ≤ 2147483647) ∧ (-2147483648 ≤ (x1 - (8 * d)) - 8 ∧ (x1 - (8 * d)) - 8 ≤ 2147483647)) ∧ (((8 * d) - x1 ≤ (x1 - (8 * d)) - 8 → ((-2147483648 ≤ 8 * d ∧ 8 * d ≤ 2147483647) ∧ (-2147483648 ≤ x1 - (8 * d) ∧ x1 - (8 * d) ≤ 2147483647) ∧ (-2147483648 ≤ (x1 - (8 * d)) - 8 ∧ (x1 - (8 * d)) - 8 ≤ 2147483647))) ∧ ((x1 - (8 * d)) - 8 < (8 * d) - x1 → ((-2147483648 ≤ 8 * d ∧ 8 * d ≤ 2147483647) ∧ (-2147483648 ≤ (8 * d) - x1 ∧ (8 * d) - x1 ≤ 2147483647))) ∧ (∀ b : Int, b = (if (8 * d) - x1 ≤ (x1 - (8 * d)) - 8 then ((x1 - (8 * d)) - 8) else ((8 * d) - x1)) → (((-2147483648 ≤ 8 * d_1 ∧ 8 * d_1 ≤ 2147483647) ∧ (-2147483648 ≤ (8 * d_1) - x2 ∧ (8 * d_1) - x2 ≤ 2147483647) ∧ (-2147483648 ≤ x2 - (8 * d_1) ∧ x2 - (8 * d_1) ≤ 2147483647) ∧ (-2147483648 ≤ (x2 - (8 * d_1)) - 8 ∧ (x2 - (8 * d_1)) - 8 ≤ 2147483647)) ∧ (((8 * d_1) - x2 ≤ (x2 - (8 * d_1)) - 8 → ((-2147483648 ≤ 8 * d_1 ∧ 8 * d_1 ≤ 2147483647) ∧ (-2147483648 ≤ x2 - (8 * d_1) ∧ x2 - (8 * d_1) ≤ 2147483647) ∧ (-2147483648 ≤ (x2 - (8 * d_1)) - 8 ∧ (x2 - (8 * d_1)) - 8 ≤ 2147483647))) ∧ ((x2 - (8 * d_1)) - 8 < (8 * d_1) - x2 → ((-2147483648 ≤ 8 * d_1 ∧ 8 * d_1 ≤ 2147483647) ∧ (-2147483648 ≤ (8 * d_1) - x2 ∧ (8 * d_1) - x2 ≤ 2147483647))) ∧ (∀ b_1 : Int, b_1 = (if (8 * d_1) - x2 ≤ (x2 - (8 * d_1)) - 8 then ((x2 - (8 * d_1)) - 8) else ((8 * d_1) - x2)) → (∀ b_2 : Int, b_2 = (if b ≤ b_1 then b_1 else b) → (∀ b_3 : Int, b_3 = (if 0 ≤ b_2 then b_2 else 0) → (∀ b_4 : Int, b_4 = (if x3 ≤ b_3 then x3 else b_3) → (((-2147483648 ≤ x4 + 1 ∧ x4 + 1 ≤ 2147483647)) ∧ (L_1043_48 x1 x2 b_4 (x4 + 1) M Q)))))))))))) ∧ (hasW (M.1 1101 0) d d_1 ≠ 0 → (((-2147483648 ≤ x4 + 1 ∧ x4 + 1 ≤ 2147483647)) ∧ (L_1043_48 x1 x2 x3 (x4 + 1) M Q))))))))))) : L_1043_48 x1 x2 x3 x4 M Q := by
  intro o5 o6 o7 o8 o9
  show Wp 2 1043 48 [some (.inr (.inr (10, 0))), some (.inl x1), some (.inl x2), some (.inl x3), some (.inl x4), o5, o6, o7, o8, o9] [] M (rI Q)
  refine Wp.path (k := 2) [] (C := []) (pc' := 53) (ls' := [some (.inr (.inr (10, 0))), some (.inl x1), some (.inl x2), some (.inl x3), some (.inl x4), o5, o6, o7, o8, o9]) (st' := [.inl 144, .inl x4]) (M' := M) rfl trivial ?_
  rcases Int.lt_or_le (x4) (144) with c_1 | c_1
  · replace h := h.2 c_1
    refine Wp.path (k := 1) [0] (C := [x4 < 144]) (pc' := 56) (ls' := [some (.inr (.inr (10, 0))), some (.inl x1), some (.inl x2), some (.inl x3), some (.inl x4), o5, o6, o7, o8, o9]) (st' := []) (M' := M) rfl c_1 ?_
    refine Wp.path (k := 3) [] (C := [inR x4 ∧ 0 < 12 ∧ inR 12]) (pc' := 61) (ls' := [some (.inr (.inr (10, 0))), some (.inl x1), some (.inl x2), some (.inl x3), some (.inl x4), o5, o6, o7, o8, o9]) (st' := [.inl (Int.tmod x4 12)]) (M' := M) rfl ⟨h.1, by decide, ⟨by decide, by decide⟩⟩ ?_
    replace h := h.2
    refine Bd (P := fun d : Int => Wp 2 1043 61 [some (.inr (.inr (10, 0))), some (.inl x1), some (.inl x2), some (.inl x3), some (.inl x4), o5, o6, o7, o8, o9] [.inl d] M (rI Q)) ?_
    intro d e_d
    replace h := h d e_d
    refine Wp.path (k := 4) [] (C := [inR x4 ∧ 0 < 12 ∧ inR 12]) (pc' := 68) (ls' := [some (.inr (.inr (10, 0))), some (.inl x1), some (.inl x2), some (.inl x3), some (.inl x4), some (.inl d), o6, o7, o8, o9]) (st' := [.inl (Int.tdiv x4 12)]) (M' := M) rfl ⟨h.1, by decide, ⟨by decide, by decide⟩⟩ ?_
    replace h := h.2
    refine Bd (P := fun d_1 : Int => Wp 2 1043 68 [some (.inr (.inr (10, 0))), some (.inl x1), some (.inl x2), some (.inl x3), some (.inl x4), some (.inl d), o6, o7, o8, o9] [.inl d_1] M (rI Q)) ?_
    intro d_1 e_d_1
    replace h := h d_1 e_d_1
    refine Wp.path (k := 4) [] (C := []) (pc' := 75) (ls' := [some (.inr (.inr (10, 0))), some (.inl x1), some (.inl x2), some (.inl x3), some (.inl x4), some (.inl d), some (.inl d_1), o7, o8, o9]) (st' := [.inl d_1, .inl d, .inr (.inr (10, 0))]) (M' := M) rfl trivial ?_
    refine Wp.call (e1004) rfl rfl (by decide) ?_
    rintro v_ M_ ⟨eM_, ev_⟩
    rw [eM_, ev_]
    clear eM_ ev_ v_ M_
    show Wp 2 1043 78 [some (.inr (.inr (10, 0))), some (.inl x1), some (.inl x2), some (.inl x3), some (.inl x4), some (.inl d), some (.inl d_1), o7, o8, o9] [.inl (hasW (M.1 1101 0) d d_1)] M (rI Q)
    rcases Decidable.em (hasW (M.1 1101 0) d d_1 = 0) with c_2 | c_2
    · replace h := h.1 c_2
      refine Wp.path (k := 1) [1] (C := [hasW (M.1 1101 0) d d_1 = 0]) (pc' := 84) (ls' := [some (.inr (.inr (10, 0))), some (.inl x1), some (.inl x2), some (.inl x3), some (.inl x4), some (.inl d), some (.inl d_1), o7, o8, o9]) (st' := []) (M' := M) rfl c_2 ?_
      refine Wp.path (k := 12) [] (C := [inR (8 * d), inR ((8 * d) - x1), inR (8 * d), inR (x1 - (8 * d)), inR ((x1 - (8 * d)) - 8)]) (pc' := 101) (ls' := [some (.inr (.inr (10, 0))), some (.inl x1), some (.inl x2), some (.inl x3), some (.inl x4), some (.inl d), some (.inl d_1), o7, o8, o9]) (st' := [.inl ((x1 - (8 * d)) - 8), .inl ((8 * d) - x1)]) (M' := M) rfl ⟨h.1.1, h.1.2.1, h.1.1, h.1.2.2.1, h.1.2.2.2⟩ ?_
      replace h := h.2
      have g11_0 := h.1
      replace h := h.2
      have g11_1 := h.1
      replace h := h.2
      have k_11 : ∀ b : Int, b = (if (8 * d) - x1 ≤ (x1 - (8 * d)) - 8 then ((x1 - (8 * d)) - 8) else ((8 * d) - x1)) → Wp 2 1043 124 [some (.inr (.inr (10, 0))), some (.inl x1), some (.inl x2), some (.inl x3), some (.inl x4), some (.inl d), some (.inl d_1), o7, o8, o9] [.inl b] M (rI Q) := by
        intro b e_b
        replace h := h b e_b
        refine Wp.path (k := 13) [] (C := [inR (8 * d_1), inR ((8 * d_1) - x2), inR (8 * d_1), inR (x2 - (8 * d_1)), inR ((x2 - (8 * d_1)) - 8)]) (pc' := 143) (ls' := [some (.inr (.inr (10, 0))), some (.inl x1), some (.inl x2), some (.inl x3), some (.inl x4), some (.inl d), some (.inl d_1), some (.inl b), o8, o9]) (st' := [.inl ((x2 - (8 * d_1)) - 8), .inl ((8 * d_1) - x2)]) (M' := M) rfl ⟨h.1.1, h.1.2.1, h.1.1, h.1.2.2.1, h.1.2.2.2⟩ ?_
        replace h := h.2
        have g9_0 := h.1
        replace h := h.2
        have g9_1 := h.1
        replace h := h.2
        have k_9 : ∀ b_1 : Int, b_1 = (if (8 * d_1) - x2 ≤ (x2 - (8 * d_1)) - 8 then ((x2 - (8 * d_1)) - 8) else ((8 * d_1) - x2)) → Wp 2 1043 166 [some (.inr (.inr (10, 0))), some (.inl x1), some (.inl x2), some (.inl x3), some (.inl x4), some (.inl d), some (.inl d_1), some (.inl b), o8, o9] [.inl b_1] M (rI Q) := by
          intro b_1 e_b_1
          replace h := h b_1 e_b_1
          refine Wp.path (k := 3) [] (C := []) (pc' := 172) (ls' := [some (.inr (.inr (10, 0))), some (.inl x1), some (.inl x2), some (.inl x3), some (.inl x4), some (.inl d), some (.inl d_1), some (.inl b), some (.inl b_1), o9]) (st' := [.inl b_1, .inl b]) (M' := M) rfl trivial ?_
          have k_7 : ∀ b_2 : Int, b_2 = (if b ≤ b_1 then b_1 else b) → Wp 2 1043 182 [some (.inr (.inr (10, 0))), some (.inl x1), some (.inl x2), some (.inl x3), some (.inl x4), some (.inl d), some (.inl d_1), some (.inl b), some (.inl b_1), o9] [.inl b_2] M (rI Q) := by
            intro b_2 e_b_2
            replace h := h b_2 e_b_2
            refine Wp.path (k := 2) [] (C := []) (pc' := 186) (ls' := [some (.inr (.inr (10, 0))), some (.inl x1), some (.inl x2), some (.inl x3), some (.inl x4), some (.inl d), some (.inl d_1), some (.inl b), some (.inl b_1), some (.inl b_2)]) (st' := [.inl b_2]) (M' := M) rfl trivial ?_
            have k_5 : ∀ b_3 : Int, b_3 = (if 0 ≤ b_2 then b_2 else 0) → Wp 2 1043 195 [some (.inr (.inr (10, 0))), some (.inl x1), some (.inl x2), some (.inl x3), some (.inl x4), some (.inl d), some (.inl d_1), some (.inl b), some (.inl b_1), some (.inl b_2)] [.inl b_3] M (rI Q) := by
              intro b_3 e_b_3
              replace h := h b_3 e_b_3
              refine Wp.path (k := 3) [] (C := []) (pc' := 200) (ls' := [some (.inr (.inr (10, 0))), some (.inl x1), some (.inl x2), some (.inl x3), some (.inl x4), some (.inl d), some (.inl d_1), some (.inl b), some (.inl b_1), some (.inl b_3)]) (st' := [.inl x3, .inl b_3]) (M' := M) rfl trivial ?_
              have k_3 : ∀ b_4 : Int, b_4 = (if x3 ≤ b_3 then x3 else b_3) → Wp 2 1043 209 [some (.inr (.inr (10, 0))), some (.inl x1), some (.inl x2), some (.inl x3), some (.inl x4), some (.inl d), some (.inl d_1), some (.inl b), some (.inl b_1), some (.inl b_3)] [.inl b_4] M (rI Q) := by
                intro b_4 e_b_4
                replace h := h b_4 e_b_4
                refine Wp.path (k := 3) [] (C := [inR (x4 + 1)]) (pc' := 48) (ls' := [some (.inr (.inr (10, 0))), some (.inl x1), some (.inl x2), some (.inl b_4), some (.inl (x4 + 1)), some (.inl d), some (.inl d_1), some (.inl b), some (.inl b_1), some (.inl b_3)]) (st' := []) (M' := M) rfl h.1 ?_
                replace h := h.2
                exact h _ _ _ _ _
              clear h
              rcases Int.lt_or_le (b_3) (x3) with c_4 | c_4
              · refine Wp.path (k := 1) [0] (C := [b_3 < x3]) (pc' := 203) (ls' := [some (.inr (.inr (10, 0))), some (.inl x1), some (.inl x2), some (.inl x3), some (.inl x4), some (.inl d), some (.inl d_1), some (.inl b), some (.inl b_1), some (.inl b_3)]) (st' := []) (M' := M) rfl c_4 ?_
                refine Wp.path (k := 2) [] (C := []) (pc' := 209) (ls' := [some (.inr (.inr (10, 0))), some (.inl x1), some (.inl x2), some (.inl x3), some (.inl x4), some (.inl d), some (.inl d_1), some (.inl b), some (.inl b_1), some (.inl b_3)]) (st' := [.inl b_3]) (M' := M) rfl trivial ?_
                exact k_3 _ (by rw [if_neg (Int.not_le.mpr c_4)])
              · refine Wp.path (k := 1) [1] (C := [x3 ≤ b_3]) (pc' := 208) (ls' := [some (.inr (.inr (10, 0))), some (.inl x1), some (.inl x2), some (.inl x3), some (.inl x4), some (.inl d), some (.inl d_1), some (.inl b), some (.inl b_1), some (.inl b_3)]) (st' := []) (M' := M) rfl c_4 ?_
                refine Wp.path (k := 1) [] (C := []) (pc' := 209) (ls' := [some (.inr (.inr (10, 0))), some (.inl x1), some (.inl x2), some (.inl x3), some (.inl x4), some (.inl d), some (.inl d_1), some (.inl b), some (.inl b_1), some (.inl b_3)]) (st' := [.inl x3]) (M' := M) rfl trivial ?_
                exact k_3 _ (by rw [if_pos c_4])
            clear h
            rcases Int.lt_or_le (b_2) (0) with c_6 | c_6
            · refine Wp.path (k := 1) [0] (C := [b_2 < 0]) (pc' := 189) (ls' := [some (.inr (.inr (10, 0))), some (.inl x1), some (.inl x2), some (.inl x3), some (.inl x4), some (.inl d), some (.inl d_1), some (.inl b), some (.inl b_1), some (.inl b_2)]) (st' := []) (M' := M) rfl c_6 ?_
              refine Wp.path (k := 2) [] (C := []) (pc' := 195) (ls' := [some (.inr (.inr (10, 0))), some (.inl x1), some (.inl x2), some (.inl x3), some (.inl x4), some (.inl d), some (.inl d_1), some (.inl b), some (.inl b_1), some (.inl b_2)]) (st' := [.inl 0]) (M' := M) rfl trivial ?_
              exact k_5 _ (by rw [if_neg (Int.not_le.mpr c_6)])
            · refine Wp.path (k := 1) [1] (C := [0 ≤ b_2]) (pc' := 193) (ls' := [some (.inr (.inr (10, 0))), some (.inl x1), some (.inl x2), some (.inl x3), some (.inl x4), some (.inl d), some (.inl d_1), some (.inl b), some (.inl b_1), some (.inl b_2)]) (st' := []) (M' := M) rfl c_6 ?_
              refine Wp.path (k := 1) [] (C := []) (pc' := 195) (ls' := [some (.inr (.inr (10, 0))), some (.inl x1), some (.inl x2), some (.inl x3), some (.inl x4), some (.inl d), some (.inl d_1), some (.inl b), some (.inl b_1), some (.inl b_2)]) (st' := [.inl b_2]) (M' := M) rfl trivial ?_
              exact k_5 _ (by rw [if_pos c_6])
          clear h
          rcases Int.lt_or_le (b_1) (b) with c_8 | c_8
          · refine Wp.path (k := 1) [0] (C := [b_1 < b]) (pc' := 175) (ls' := [some (.inr (.inr (10, 0))), some (.inl x1), some (.inl x2), some (.inl x3), some (.inl x4), some (.inl d), some (.inl d_1), some (.inl b), some (.inl b_1), o9]) (st' := []) (M' := M) rfl c_8 ?_
            refine Wp.path (k := 2) [] (C := []) (pc' := 182) (ls' := [some (.inr (.inr (10, 0))), some (.inl x1), some (.inl x2), some (.inl x3), some (.inl x4), some (.inl d), some (.inl d_1), some (.inl b), some (.inl b_1), o9]) (st' := [.inl b]) (M' := M) rfl trivial ?_
            exact k_7 _ (by rw [if_neg (Int.not_le.mpr c_8)])
          · refine Wp.path (k := 1) [1] (C := [b ≤ b_1]) (pc' := 180) (ls' := [some (.inr (.inr (10, 0))), some (.inl x1), some (.inl x2), some (.inl x3), some (.inl x4), some (.inl d), some (.inl d_1), some (.inl b), some (.inl b_1), o9]) (st' := []) (M' := M) rfl c_8 ?_
            refine Wp.path (k := 1) [] (C := []) (pc' := 182) (ls' := [some (.inr (.inr (10, 0))), some (.inl x1), some (.inl x2), some (.inl x3), some (.inl x4), some (.inl d), some (.inl d_1), some (.inl b), some (.inl b_1), o9]) (st' := [.inl b_1]) (M' := M) rfl trivial ?_
            exact k_7 _ (by rw [if_pos c_8])
        clear h
        rcases Int.lt_or_le ((x2 - (8 * d_1)) - 8) ((8 * d_1) - x2) with c_10 | c_10
        · refine Wp.path (k := 1) [0] (C := [(x2 - (8 * d_1)) - 8 < (8 * d_1) - x2]) (pc' := 146) (ls' := [some (.inr (.inr (10, 0))), some (.inl x1), some (.inl x2), some (.inl x3), some (.inl x4), some (.inl d), some (.inl d_1), some (.inl b), o8, o9]) (st' := []) (M' := M) rfl c_10 ?_
          refine Wp.path (k := 6) [] (C := [inR (8 * d_1), inR ((8 * d_1) - x2)]) (pc' := 166) (ls' := [some (.inr (.inr (10, 0))), some (.inl x1), some (.inl x2), some (.inl x3), some (.inl x4), some (.inl d), some (.inl d_1), some (.inl b), o8, o9]) (st' := [.inl ((8 * d_1) - x2)]) (M' := M) rfl ⟨(g9_1 c_10).1, (g9_1 c_10).2⟩ ?_
          exact k_9 _ (by rw [if_neg (Int.not_le.mpr c_10)])
        · refine Wp.path (k := 1) [1] (C := [(8 * d_1) - x2 ≤ (x2 - (8 * d_1)) - 8]) (pc' := 156) (ls' := [some (.inr (.inr (10, 0))), some (.inl x1), some (.inl x2), some (.inl x3), some (.inl x4), some (.inl d), some (.inl d_1), some (.inl b), o8, o9]) (st' := []) (M' := M) rfl c_10 ?_
          refine Wp.path (k := 7) [] (C := [inR (8 * d_1), inR (x2 - (8 * d_1)), inR ((x2 - (8 * d_1)) - 8)]) (pc' := 166) (ls' := [some (.inr (.inr (10, 0))), some (.inl x1), some (.inl x2), some (.inl x3), some (.inl x4), some (.inl d), some (.inl d_1), some (.inl b), o8, o9]) (st' := [.inl ((x2 - (8 * d_1)) - 8)]) (M' := M) rfl ⟨(g9_0 c_10).1, (g9_0 c_10).2.1, (g9_0 c_10).2.2⟩ ?_
          exact k_9 _ (by rw [if_pos c_10])
      clear h
      rcases Int.lt_or_le ((x1 - (8 * d)) - 8) ((8 * d) - x1) with c_12 | c_12
      · refine Wp.path (k := 1) [0] (C := [(x1 - (8 * d)) - 8 < (8 * d) - x1]) (pc' := 104) (ls' := [some (.inr (.inr (10, 0))), some (.inl x1), some (.inl x2), some (.inl x3), some (.inl x4), some (.inl d), some (.inl d_1), o7, o8, o9]) (st' := []) (M' := M) rfl c_12 ?_
        refine Wp.path (k := 6) [] (C := [inR (8 * d), inR ((8 * d) - x1)]) (pc' := 124) (ls' := [some (.inr (.inr (10, 0))), some (.inl x1), some (.inl x2), some (.inl x3), some (.inl x4), some (.inl d), some (.inl d_1), o7, o8, o9]) (st' := [.inl ((8 * d) - x1)]) (M' := M) rfl ⟨(g11_1 c_12).1, (g11_1 c_12).2⟩ ?_
        exact k_11 _ (by rw [if_neg (Int.not_le.mpr c_12)])
      · refine Wp.path (k := 1) [1] (C := [(8 * d) - x1 ≤ (x1 - (8 * d)) - 8]) (pc' := 114) (ls' := [some (.inr (.inr (10, 0))), some (.inl x1), some (.inl x2), some (.inl x3), some (.inl x4), some (.inl d), some (.inl d_1), o7, o8, o9]) (st' := []) (M' := M) rfl c_12 ?_
        refine Wp.path (k := 7) [] (C := [inR (8 * d), inR (x1 - (8 * d)), inR ((x1 - (8 * d)) - 8)]) (pc' := 124) (ls' := [some (.inr (.inr (10, 0))), some (.inl x1), some (.inl x2), some (.inl x3), some (.inl x4), some (.inl d), some (.inl d_1), o7, o8, o9]) (st' := [.inl ((x1 - (8 * d)) - 8)]) (M' := M) rfl ⟨(g11_0 c_12).1, (g11_0 c_12).2.1, (g11_0 c_12).2.2⟩ ?_
        exact k_11 _ (by rw [if_pos c_12])
    · replace h := h.2 c_2
      refine Wp.path (k := 1) [0] (C := [hasW (M.1 1101 0) d d_1 ≠ 0]) (pc' := 81) (ls' := [some (.inr (.inr (10, 0))), some (.inl x1), some (.inl x2), some (.inl x3), some (.inl x4), some (.inl d), some (.inl d_1), o7, o8, o9]) (st' := []) (M' := M) rfl c_2 ?_
      refine Wp.path (k := 3) [] (C := [inR (x4 + 1)]) (pc' := 48) (ls' := [some (.inr (.inr (10, 0))), some (.inl x1), some (.inl x2), some (.inl x3), some (.inl (x4 + 1)), some (.inl d), some (.inl d_1), o7, o8, o9]) (st' := []) (M' := M) rfl h.1 ?_
      replace h := h.2
      exact h _ _ _ _ _
  · replace h := h.1 c_1
    refine Wp.path (k := 1) [1] (C := [144 ≤ x4]) (pc' := 216) (ls' := [some (.inr (.inr (10, 0))), some (.inl x1), some (.inl x2), some (.inl x3), some (.inl x4), o5, o6, o7, o8, o9]) (st' := []) (M' := M) rfl c_1 ?_
    refine Wp.path (k := 1) [] (C := []) (pc' := 217) (ls' := [some (.inr (.inr (10, 0))), some (.inl x1), some (.inl x2), some (.inl x3), some (.inl x4), o5, o6, o7, o8, o9]) (st' := [.inl x3]) (M' := M) rfl trivial ?_
    exact Wp.ret rfl ⟨_, rfl, h⟩
/-- X10_faceOf -/
def E_1044 (x1 : Int) (x2 : Int) (M : Mm) (Q : Int → Mm → Prop) : Prop := Ev 3 1044 [.inr (.inr (10, 0)), .inl x1, .inl x2] M (rI Q)
theorem m_1044 {x1 : Int} {x2 : Int} {M : Mm} {Q Q1 : Int → Mm → Prop} (h : E_1044 x1 x2 M Q) (k : (∀ r M1, Q r M1 → Q1 r M1)) : E_1044 x1 x2 M Q1 := Ev.mono h (fun v M1 ⟨r, h1, h2⟩ => ⟨r, h1, k _ _ h2⟩)
def L_1044_38 (x1 : Int) (x2 : Int) (x3 : Int) (x4 : Int) (x5 : Int) (x6 : Int) (M : Mm) (Q : Int → Mm → Prop) : Prop := ∀ o7 o8 o9 o10 o11 : Option Vv, Wp 3 1044 38 [some (.inr (.inr (10, 0))), some (.inl x1), some (.inl x2), some (.inl x3), some (.inl x4), some (.inl x5), some (.inl x6), o7, o8, o9, o10, o11] [] M (rI Q)
theorem s_1044_0 {x1 : Int} {x2 : Int} {M : Mm} {Q : Int → Mm → Prop} (h : ((hasW (M.1 1101 0) x1 x2 ≠ 0 → (((-2147483648 ≤ 8 * x1 ∧ 8 * x1 ≤ 2147483647) ∧ (-2147483648 ≤ (8 * x1) + 1 ∧ (8 * x1) + 1 ≤ 2147483647)) ∧ (∀ x3 : Int, x3 = (8 * x1) + 1 → (((-2147483648 ≤ 8 * x2 ∧ 8 * x2 ≤ 2147483647) ∧ (-2147483648 ≤ (8 * x2) + 3 ∧ (8 * x2) + 3 ≤ 2147483647)) ∧ (∀ x4 : Int, x4 = (8 * x2) + 3 → (E_1043 x3 x4 M (fun (r : Int) (M1 : Mm) => (L_1044_38 x1 x2 x3 x4 r 0 M1 Q)))))))) ∧ (hasW (M.1 1101 0) x1 x2 = 0 → (Q (-1) M)))) : E_1044 x1 x2 M Q := by
  show Wp 3 1044 0 [some (.inr (.inr (10, 0))), some (.inl x1), some (.inl x2), none, none, none, none, none, none, none, none, none] [] M (rI Q)
  refine Wp.path (k := 3) [] (C := []) (pc' := 3) (ls' := [some (.inr (.inr (10, 0))), some (.inl x1), some (.inl x2), none, none, none, none, none, none, none, none, none]) (st' := [.inl x2, .inl x1, .inr (.inr (10, 0))]) (M' := M) rfl trivial ?_
  refine Wp.call (e1004) rfl rfl (by decide) ?_
  rintro v_ M_ ⟨eM_, ev_⟩
  rw [eM_, ev_]
  clear eM_ ev_ v_ M_
  show Wp 3 1044 6 [some (.inr (.inr (10, 0))), some (.inl x1), some (.inl x2), none, none, none, none, none, none, none, none, none] [.inl (hasW (M.1 1101 0) x1 x2)] M (rI Q)
  rcases Decidable.em (hasW (M.1 1101 0) x1 x2 = 0) with c_1 | c_1
  · replace h := h.2 c_1
    refine Wp.path (k := 1) [0] (C := [hasW (M.1 1101 0) x1 x2 = 0]) (pc' := 9) (ls' := [some (.inr (.inr (10, 0))), some (.inl x1), some (.inl x2), none, none, none, none, none, none, none, none, none]) (st' := []) (M' := M) rfl c_1 ?_
    refine Wp.path (k := 1) [] (C := []) (pc' := 10) (ls' := [some (.inr (.inr (10, 0))), some (.inl x1), some (.inl x2), none, none, none, none, none, none, none, none, none]) (st' := [.inl (-1)]) (M' := M) rfl trivial ?_
    exact Wp.ret rfl ⟨_, rfl, h⟩
  · replace h := h.1 c_1
    refine Wp.path (k := 1) [1] (C := [hasW (M.1 1101 0) x1 x2 ≠ 0]) (pc' := 11) (ls' := [some (.inr (.inr (10, 0))), some (.inl x1), some (.inl x2), none, none, none, none, none, none, none, none, none]) (st' := []) (M' := M) rfl c_1 ?_
    refine Wp.path (k := 6) [] (C := [inR (8 * x1), inR ((8 * x1) + 1)]) (pc' := 18) (ls' := [some (.inr (.inr (10, 0))), some (.inl x1), some (.inl x2), some (.inl ((8 * x1) + 1)), none, none, none, none, none, none, none, none]) (st' := []) (M' := M) rfl ⟨h.1.1, h.1.2⟩ ?_
    replace h := h.2
    refine Bd (P := fun x3 : Int => Wp 3 1044 18 [some (.inr (.inr (10, 0))), some (.inl x1), some (.inl x2), some (.inl x3), none, none, none, none, none, none, none, none] [] M (rI Q)) ?_
    intro x3 e_x3
    replace h := h x3 e_x3
    refine Wp.path (k := 6) [] (C := [inR (8 * x2), inR ((8 * x2) + 3)]) (pc' := 26) (ls' := [some (.inr (.inr (10, 0))), some (.inl x1), some (.inl x2), some (.inl x3), some (.inl ((8 * x2) + 3)), none, none, none, none, none, none, none]) (st' := []) (M' := M) rfl ⟨h.1.1, h.1.2⟩ ?_
    replace h := h.2
    refine Bd (P := fun x4 : Int => Wp 3 1044 26 [some (.inr (.inr (10, 0))), some (.inl x1), some (.inl x2), some (.inl x3), some (.inl x4), none, none, none, none, none, none, none] [] M (rI Q)) ?_
    intro x4 e_x4
    replace h := h x4 e_x4
    refine Wp.path (k := 3) [] (C := []) (pc' := 30) (ls' := [some (.inr (.inr (10, 0))), some (.inl x1), some (.inl x2), some (.inl x3), some (.inl x4), none, none, none, none, none, none, none]) (st' := [.inl x4, .inl x3, .inr (.inr (10, 0))]) (M' := M) rfl trivial ?_
    refine Wp.call h rfl rfl (by decide) ?_
    rintro _ M1 ⟨r, rfl, h⟩
    show Wp 3 1044 33 [some (.inr (.inr (10, 0))), some (.inl x1), some (.inl x2), some (.inl x3), some (.inl x4), none, none, none, none, none, none, none] [.inl r] M1 (rI Q)
    refine Wp.path (k := 3) [] (C := []) (pc' := 38) (ls' := [some (.inr (.inr (10, 0))), some (.inl x1), some (.inl x2), some (.inl x3), some (.inl x4), some (.inl r), some (.inl 0), none, none, none, none, none]) (st' := []) (M' := M1) rfl trivial ?_
    exact h _ _ _ _ _
theorem s_1044_38 {x1 : Int} {x2 : Int} {x3 : Int} {x4 : Int} {x5 : Int} {x6 : Int} {M : Mm} {Q : Int → Mm → Prop} (h : ((M.1 10 0 34 ≤ x6 → (Q (-1) M)) ∧ (x6 < M.1 10 0 34 → (((0 ≤ x6 ∧ x6 < 640)) ∧ (∀ x7 : Int, x7 = M.1 1135 0 x6.toNat → (((-2147483648 ≤ x7 ∧ x7 ≤ 2147483647)) ∧ (∀ d : Int, d = Int.tmod x7 2 → (∀ b : Int, b = (if d ≠ 0 then x3 else x4) → (((-2147483648 ≤ x7 ∧ x7 ≤ 2147483647)) ∧ (∀ d_1 : Int, d_1 = Int.tmod x7 2 → (∀ b_1 : Int, b_1 = (if d_1 ≠ 0 then x4 else x3) → ((upW x7 = 0 → ((-2147483648 ≤ b + x5 ∧ b + x5 ≤ 2147483647))) ∧ (upW x7 ≠ 0 → ((-2147483648 ≤ b - x5 ∧ b - x5 ≤ 2147483647))) ∧ (∀ b_2 : Int, b_2 = (if upW x7 = 0 then (b + x5) else (b - x5)) → (((0 ≤ x6 ∧ x6 < 640) ∧ (-2147483648 ≤ 8 * (M.1 1136 0 x6.toNat) ∧ 8 * (M.1 1136 0 x6.toNat) ≤ 2147483647)) ∧ ((b_2 = 8 * (M.1 1136 0 x6.toNat) → (((-2147483648 ≤ b_1 - x5 ∧ b_1 - x5 ≤ 2147483647) ∧ (0 ≤ x6 ∧ x6 < 640) ∧ (-2147483648 ≤ 8 * (M.1 1137 0 x6.toNat) ∧ 8 * (M.1 1137 0 x6.toNat) ≤ 2147483647)) ∧ ((b_1 - x5 ≤ 8 * (M.1 1137 0 x6.toNat) → ((0 ≤ x6 ∧ x6 < 640) ∧ (-2147483648 ≤ 8 * (M.1 1137 0 x6.toNat) ∧ 8 * (M.1 1137 0 x6.toNat) ≤ 2147483647))) ∧ (8 * (M.1 1137 0 x6.toNat) < b_1 - x5 → ((-2147483648 ≤ b_1 - x5 ∧ b_1 - x5 ≤ 2147483647))) ∧ (∀ b_3 : Int, b_3 = (if b_1 - x5 ≤ 8 * (M.1 1137 0 x6.toNat) then (8 * (M.1 1137 0 x6.toNat)) else (b_1 - x5)) → (((-2147483648 ≤ b_1 + x5 ∧ b_1 + x5 ≤ 2147483647) ∧ (0 ≤ x6 ∧ x6 < 640) ∧ (-2147483648 ≤ 8 * (M.1 1138 0 x6.toNat) ∧ 8 * (M.1 1138 0 x6.toNat) ≤ 2147483647)) ∧ ((8 * (M.1 1138 0 x6.toNat) ≤ b_1 + x5 → ((0 ≤ x6 ∧ x6 < 640) ∧ (-2147483648 ≤ 8 * (M.1 1138 0 x6.toNat) ∧ 8 * (M.1 1138 0 x6.toNat) ≤ 2147483647))) ∧ (b_1 + x5 < 8 * (M.1 1138 0 x6.toNat) → ((-2147483648 ≤ b_1 + x5 ∧ b_1 + x5 ≤ 2147483647))) ∧ (∀ b_4 : Int, b_4 = (if 8 * (M.1 1138 0 x6.toNat) ≤ b_1 + x5 then (8 * (M.1 1138 0 x6.toNat)) else (b_1 + x5)) → ((b_4 ≤ b_3 → (((-2147483648 ≤ x6 + 1 ∧ x6 + 1 ≤ 2147483647)) ∧ (L_1044_38 x1 x2 x3 x4 x5 (x6 + 1) M Q))) ∧ (b_3 < b_4 → (Q x6 M)))))))))) ∧ (b_2 ≠ 8 * (M.1 1136 0 x6.toNat) → (((-2147483648 ≤ x6 + 1 ∧ x6 + 1 ≤ 2147483647)) ∧ (L_1044_38 x1 x2 x3 x4 x5 (x6 + 1) M Q)))))))))))))))))) : L_1044_38 x1 x2 x3 x4 x5 x6 M Q := by
  intro o7 o8 o9 o10 o11
  show Wp 3 1044 38 [some (.inr (.inr (10, 0))), some (.inl x1), some (.inl x2), some (.inl x3), some (.inl x4), some (.inl x5), some (.inl x6), o7, o8, o9, o10, o11] [] M (rI Q)
  refine Wp.path (k := 3) [] (C := []) (pc' := 44) (ls' := [some (.inr (.inr (10, 0))), some (.inl x1), some (.inl x2), some (.inl x3), some (.inl x4), some (.inl x5), some (.inl x6), o7, o8, o9, o10, o11]) (st' := [.inl (M.1 10 0 34), .inl x6]) (M' := M) rfl trivial ?_
  rcases Int.lt_or_le (x6) (M.1 10 0 34) with c_1 | c_1
  · replace h := h.2 c_1
    refine Wp.path (k := 1) [0] (C := [x6 < M.1 10 0 34]) (pc' := 47) (ls' := [some (.inr (.inr (10, 0))), some (.inl x1), some (.inl x2), some (.inl x3), some (.inl x4), some (.inl x5), some (.inl x6), o7, o8, o9, o10, o11]) (st' := []) (M' := M) rfl c_1 ?_
    refine Wp.path (k := 5) [] (C := [0 ≤ x6 ∧ x6 < 640]) (pc' := 56) (ls' := [some (.inr (.inr (10, 0))), some (.inl x1), some (.inl x2), some (.inl x3), some (.inl x4), some (.inl x5), some (.inl x6), some (.inl (M.1 1135 0 x6.toNat)), o8, o9, o10, o11]) (st' := []) (M' := M) rfl h.1 ?_
    replace h := h.2
    refine Bd (P := fun x7 : Int => Wp 3 1044 56 [some (.inr (.inr (10, 0))), some (.inl x1), some (.inl x2), some (.inl x3), some (.inl x4), some (.inl x5), some (.inl x6), some (.inl x7), o8, o9, o10, o11] [] M (rI Q)) ?_
    intro x7 e_x7
    replace h := h x7 e_x7
    refine Wp.path (k := 3) [] (C := [inR x7 ∧ 0 < 2 ∧ inR 2]) (pc' := 60) (ls' := [some (.inr (.inr (10, 0))), some (.inl x1), some (.inl x2), some (.inl x3), some (.inl x4), some (.inl x5), some (.inl x6), some (.inl x7), o8, o9, o10, o11]) (st' := [.inl (Int.tmod x7 2)]) (M' := M) rfl ⟨h.1, by decide, ⟨by decide, by decide⟩⟩ ?_
    replace h := h.2
    refine Bd (P := fun d : Int => Wp 3 1044 60 [some (.inr (.inr (10, 0))), some (.inl x1), some (.inl x2), some (.inl x3), some (.inl x4), some (.inl x5), some (.inl x6), some (.inl x7), o8, o9, o10, o11] [.inl d] M (rI Q)) ?_
    intro d e_d
    replace h := h d e_d
    have k_12 : ∀ b : Int, b = (if d ≠ 0 then x3 else x4) → Wp 3 1044 69 [some (.inr (.inr (10, 0))), some (.inl x1), some (.inl x2), some (.inl x3), some (.inl x4), some (.inl x5), some (.inl x6), some (.inl x7), o8, o9, o10, o11] [.inl b] M (rI Q) := by
      intro b e_b
      replace h := h b e_b
      refine Wp.path (k := 4) [] (C := [inR x7 ∧ 0 < 2 ∧ inR 2]) (pc' := 75) (ls' := [some (.inr (.inr (10, 0))), some (.inl x1), some (.inl x2), some (.inl x3), some (.inl x4), some (.inl x5), some (.inl x6), some (.inl x7), some (.inl b), o9, o10, o11]) (st' := [.inl (Int.tmod x7 2)]) (M' := M) rfl ⟨h.1, by decide, ⟨by decide, by decide⟩⟩ ?_
      replace h := h.2
      refine Bd (P := fun d_1 : Int => Wp 3 1044 75 [some (.inr (.inr (10, 0))), some (.inl x1), some (.inl x2), some (.inl x3), some (.inl x4), some (.inl x5), some (.inl x6), some (.inl x7), some (.inl b), o9, o10, o11] [.inl d_1] M (rI Q)) ?_
      intro d_1 e_d_1
      replace h := h d_1 e_d_1
      have k_10 : ∀ b_1 : Int, b_1 = (if d_1 ≠ 0 then x4 else x3) → Wp 3 1044 84 [some (.inr (.inr (10, 0))), some (.inl x1), some (.inl x2), some (.inl x3), some (.inl x4), some (.inl x5), some (.inl x6), some (.inl x7), some (.inl b), o9, o10, o11] [.inl b_1] M (rI Q) := by
        intro b_1 e_b_1
        replace h := h b_1 e_b_1
        refine Wp.path (k := 2) [] (C := []) (pc' := 88) (ls' := [some (.inr (.inr (10, 0))), some (.inl x1), some (.inl x2), some (.inl x3), some (.inl x4), some (.inl x5), some (.inl x6), some (.inl x7), some (.inl b), some (.inl b_1), o10, o11]) (st' := [.inl x7]) (M' := M) rfl trivial ?_
        refine Wp.call (e1041) rfl rfl (by decide) ?_
        rintro v_ M_ ⟨eM_, ev_⟩
        rw [eM_, ev_]
        clear eM_ ev_ v_ M_
        show Wp 3 1044 91 [some (.inr (.inr (10, 0))), some (.inl x1), some (.inl x2), some (.inl x3), some (.inl x4), some (.inl x5), some (.inl x6), some (.inl x7), some (.inl b), some (.inl b_1), o10, o11] [.inl (upW x7)] M (rI Q)
        have g8_0 := h.1
        replace h := h.2
        have g8_1 := h.1
        replace h := h.2
        have k_8 : ∀ b_2 : Int, b_2 = (if upW x7 = 0 then (b + x5) else (b - x5)) → Wp 3 1044 107 [some (.inr (.inr (10, 0))), some (.inl x1), some (.inl x2), some (.inl x3), some (.inl x4), some (.inl x5), some (.inl x6), some (.inl x7), some (.inl b), some (.inl b_1), o10, o11] [.inl b_2] M (rI Q) := by
          intro b_2 e_b_2
          replace h := h b_2 e_b_2
          refine Wp.path (k := 6) [] (C := [0 ≤ x6 ∧ x6 < 640, inR (8 * (M.1 1136 0 x6.toNat))]) (pc' := 117) (ls' := [some (.inr (.inr (10, 0))), some (.inl x1), some (.inl x2), some (.inl x3), some (.inl x4), some (.inl x5), some (.inl x6), some (.inl x7), some (.inl b), some (.inl b_1), o10, o11]) (st' := [.inl (8 * (M.1 1136 0 x6.toNat)), .inl b_2]) (M' := M) rfl ⟨h.1.1, h.1.2⟩ ?_
          replace h := h.2
          rcases Decidable.em (b_2 = 8 * (M.1 1136 0 x6.toNat)) with c_2 | c_2
          · replace h := h.1 c_2
            refine Wp.path (k := 1) [1] (C := [b_2 = 8 * (M.1 1136 0 x6.toNat)]) (pc' := 123) (ls' := [some (.inr (.inr (10, 0))), some (.inl x1), some (.inl x2), some (.inl x3), some (.inl x4), some (.inl x5), some (.inl x6), some (.inl x7), some (.inl b), some (.inl b_1), o10, o11]) (st' := []) (M' := M) rfl c_2 ?_
            refine Wp.path (k := 9) [] (C := [inR (b_1 - x5), 0 ≤ x6 ∧ x6 < 640, inR (8 * (M.1 1137 0 x6.toNat))]) (pc' := 138) (ls' := [some (.inr (.inr (10, 0))), some (.inl x1), some (.inl x2), some (.inl x3), some (.inl x4), some (.inl x5), some (.inl x6), some (.inl x7), some (.inl b), some (.inl b_1), o10, o11]) (st' := [.inl (8 * (M.1 1137 0 x6.toNat)), .inl (b_1 - x5)]) (M' := M) rfl ⟨h.1.1, h.1.2.1, h.1.2.2⟩ ?_
            replace h := h.2
            have g6_0 := h.1
            replace h := h.2
            have g6_1 := h.1
            replace h := h.2
            have k_6 : ∀ b_3 : Int, b_3 = (if b_1 - x5 ≤ 8 * (M.1 1137 0 x6.toNat) then (8 * (M.1 1137 0 x6.toNat)) else (b_1 - x5)) → Wp 3 1044 159 [some (.inr (.inr (10, 0))), some (.inl x1), some (.inl x2), some (.inl x3), some (.inl x4), some (.inl x5), some (.inl x6), some (.inl x7), some (.inl b), some (.inl b_1), o10, o11] [.inl b_3] M (rI Q) := by
              intro b_3 e_b_3
              replace h := h b_3 e_b_3
              refine Wp.path (k := 10) [] (C := [inR (b_1 + x5), 0 ≤ x6 ∧ x6 < 640, inR (8 * (M.1 1138 0 x6.toNat))]) (pc' := 176) (ls' := [some (.inr (.inr (10, 0))), some (.inl x1), some (.inl x2), some (.inl x3), some (.inl x4), some (.inl x5), some (.inl x6), some (.inl x7), some (.inl b), some (.inl b_1), some (.inl b_3), o11]) (st' := [.inl (8 * (M.1 1138 0 x6.toNat)), .inl (b_1 + x5)]) (M' := M) rfl ⟨h.1.1, h.1.2.1, h.1.2.2⟩ ?_
              replace h := h.2
              have g4_0 := h.1
              replace h := h.2
              have g4_1 := h.1
              replace h := h.2
              have k_4 : ∀ b_4 : Int, b_4 = (if 8 * (M.1 1138 0 x6.toNat) ≤ b_1 + x5 then (8 * (M.1 1138 0 x6.toNat)) else (b_1 + x5)) → Wp 3 1044 197 [some (.inr (.inr (10, 0))), some (.inl x1), some (.inl x2), some (.inl x3), some (.inl x4), some (.inl x5), some (.inl x6), some (.inl x7), some (.inl b), some (.inl b_1), some (.inl b_3), o11] [.inl b_4] M (rI Q) := by
                intro b_4 e_b_4
                replace h := h b_4 e_b_4
                refine Wp.path (k := 3) [] (C := []) (pc' := 203) (ls' := [some (.inr (.inr (10, 0))), some (.inl x1), some (.inl x2), some (.inl x3), some (.inl x4), some (.inl x5), some (.inl x6), some (.inl x7), some (.inl b), some (.inl b_1), some (.inl b_3), some (.inl b_4)]) (st' := [.inl b_4, .inl b_3]) (M' := M) rfl trivial ?_
                rcases Int.lt_or_le (b_3) (b_4) with c_3 | c_3
                · replace h := h.2 c_3
                  refine Wp.path (k := 1) [0] (C := [b_3 < b_4]) (pc' := 206) (ls' := [some (.inr (.inr (10, 0))), some (.inl x1), some (.inl x2), some (.inl x3), some (.inl x4), some (.inl x5), some (.inl x6), some (.inl x7), some (.inl b), some (.inl b_1), some (.inl b_3), some (.inl b_4)]) (st' := []) (M' := M) rfl c_3 ?_
                  refine Wp.path (k := 1) [] (C := []) (pc' := 208) (ls' := [some (.inr (.inr (10, 0))), some (.inl x1), some (.inl x2), some (.inl x3), some (.inl x4), some (.inl x5), some (.inl x6), some (.inl x7), some (.inl b), some (.inl b_1), some (.inl b_3), some (.inl b_4)]) (st' := [.inl x6]) (M' := M) rfl trivial ?_
                  exact Wp.ret rfl ⟨_, rfl, h⟩
                · replace h := h.1 c_3
                  refine Wp.path (k := 1) [1] (C := [b_4 ≤ b_3]) (pc' := 209) (ls' := [some (.inr (.inr (10, 0))), some (.inl x1), some (.inl x2), some (.inl x3), some (.inl x4), some (.inl x5), some (.inl x6), some (.inl x7), some (.inl b), some (.inl b_1), some (.inl b_3), some (.inl b_4)]) (st' := []) (M' := M) rfl c_3 ?_
                  refine Wp.path (k := 2) [] (C := [inR (x6 + 1)]) (pc' := 38) (ls' := [some (.inr (.inr (10, 0))), some (.inl x1), some (.inl x2), some (.inl x3), some (.inl x4), some (.inl x5), some (.inl (x6 + 1)), some (.inl x7), some (.inl b), some (.inl b_1), some (.inl b_3), some (.inl b_4)]) (st' := []) (M' := M) rfl h.1 ?_
                  replace h := h.2
                  exact h _ _ _ _ _
              clear h
              rcases Int.lt_or_le (b_1 + x5) (8 * (M.1 1138 0 x6.toNat)) with c_5 | c_5
              · refine Wp.path (k := 1) [0] (C := [b_1 + x5 < 8 * (M.1 1138 0 x6.toNat)]) (pc' := 179) (ls' := [some (.inr (.inr (10, 0))), some (.inl x1), some (.inl x2), some (.inl x3), some (.inl x4), some (.inl x5), some (.inl x6), some (.inl x7), some (.inl b), some (.inl b_1), some (.inl b_3), o11]) (st' := []) (M' := M) rfl c_5 ?_
                refine Wp.path (k := 4) [] (C := [inR (b_1 + x5)]) (pc' := 197) (ls' := [some (.inr (.inr (10, 0))), some (.inl x1), some (.inl x2), some (.inl x3), some (.inl x4), some (.inl x5), some (.inl x6), some (.inl x7), some (.inl b), some (.inl b_1), some (.inl b_3), o11]) (st' := [.inl (b_1 + x5)]) (M' := M) rfl (g4_1 c_5) ?_
                exact k_4 _ (by rw [if_neg (Int.not_le.mpr c_5)])
              · refine Wp.path (k := 1) [1] (C := [8 * (M.1 1138 0 x6.toNat) ≤ b_1 + x5]) (pc' := 187) (ls' := [some (.inr (.inr (10, 0))), some (.inl x1), some (.inl x2), some (.inl x3), some (.inl x4), some (.inl x5), some (.inl x6), some (.inl x7), some (.inl b), some (.inl b_1), some (.inl b_3), o11]) (st' := []) (M' := M) rfl c_5 ?_
                refine Wp.path (k := 6) [] (C := [0 ≤ x6 ∧ x6 < 640, inR (8 * (M.1 1138 0 x6.toNat))]) (pc' := 197) (ls' := [some (.inr (.inr (10, 0))), some (.inl x1), some (.inl x2), some (.inl x3), some (.inl x4), some (.inl x5), some (.inl x6), some (.inl x7), some (.inl b), some (.inl b_1), some (.inl b_3), o11]) (st' := [.inl (8 * (M.1 1138 0 x6.toNat))]) (M' := M) rfl ⟨(g4_0 c_5).1, (g4_0 c_5).2⟩ ?_
                exact k_4 _ (by rw [if_pos c_5])
            clear h
            rcases Int.lt_or_le (8 * (M.1 1137 0 x6.toNat)) (b_1 - x5) with c_7 | c_7
            · refine Wp.path (k := 1) [0] (C := [8 * (M.1 1137 0 x6.toNat) < b_1 - x5]) (pc' := 141) (ls' := [some (.inr (.inr (10, 0))), some (.inl x1), some (.inl x2), some (.inl x3), some (.inl x4), some (.inl x5), some (.inl x6), some (.inl x7), some (.inl b), some (.inl b_1), o10, o11]) (st' := []) (M' := M) rfl c_7 ?_
              refine Wp.path (k := 4) [] (C := [inR (b_1 - x5)]) (pc' := 159) (ls' := [some (.inr (.inr (10, 0))), some (.inl x1), some (.inl x2), some (.inl x3), some (.inl x4), some (.inl x5), some (.inl x6), some (.inl x7), some (.inl b), some (.inl b_1), o10, o11]) (st' := [.inl (b_1 - x5)]) (M' := M) rfl (g6_1 c_7) ?_
              exact k_6 _ (by rw [if_neg (Int.not_le.mpr c_7)])
            · refine Wp.path (k := 1) [1] (C := [b_1 - x5 ≤ 8 * (M.1 1137 0 x6.toNat)]) (pc' := 149) (ls' := [some (.inr (.inr (10, 0))), some (.inl x1), some (.inl x2), some (.inl x3), some (.inl x4), some (.inl x5), some (.inl x6), some (.inl x7), some (.inl b), some (.inl b_1), o10, o11]) (st' := []) (M' := M) rfl c_7 ?_
              refine Wp.path (k := 6) [] (C := [0 ≤ x6 ∧ x6 < 640, inR (8 * (M.1 1137 0 x6.toNat))]) (pc' := 159) (ls' := [some (.inr (.inr (10, 0))), some (.inl x1), some (.inl x2), some (.inl x3), some (.inl x4), some (.inl x5), some (.inl x6), some (.inl x7), some (.inl b), some (.inl b_1), o10, o11]) (st' := [.inl (8 * (M.1 1137 0 x6.toNat))]) (M' := M) rfl ⟨(g6_0 c_7).1, (g6_0 c_7).2⟩ ?_
              exact k_6 _ (by rw [if_pos c_7])
          · replace h := h.2 c_2
            refine Wp.path (k := 1) [0] (C := [b_2 ≠ 8 * (M.1 1136 0 x6.toNat)]) (pc' := 120) (ls' := [some (.inr (.inr (10, 0))), some (.inl x1), some (.inl x2), some (.inl x3), some (.inl x4), some (.inl x5), some (.inl x6), some (.inl x7), some (.inl b), some (.inl b_1), o10, o11]) (st' := []) (M' := M) rfl c_2 ?_
            refine Wp.path (k := 3) [] (C := [inR (x6 + 1)]) (pc' := 38) (ls' := [some (.inr (.inr (10, 0))), some (.inl x1), some (.inl x2), some (.inl x3), some (.inl x4), some (.inl x5), some (.inl (x6 + 1)), some (.inl x7), some (.inl b), some (.inl b_1), o10, o11]) (st' := []) (M' := M) rfl h.1 ?_
            replace h := h.2
            exact h _ _ _ _ _
        clear h
        rcases Decidable.em (upW x7 = 0) with c_9 | c_9
        · refine Wp.path (k := 1) [1] (C := [upW x7 = 0]) (pc' := 102) (ls' := [some (.inr (.inr (10, 0))), some (.inl x1), some (.inl x2), some (.inl x3), some (.inl x4), some (.inl x5), some (.inl x6), some (.inl x7), some (.inl b), some (.inl b_1), o10, o11]) (st' := []) (M' := M) rfl c_9 ?_
          refine Wp.path (k := 3) [] (C := [inR (b + x5)]) (pc' := 107) (ls' := [some (.inr (.inr (10, 0))), some (.inl x1), some (.inl x2), some (.inl x3), some (.inl x4), some (.inl x5), some (.inl x6), some (.inl x7), some (.inl b), some (.inl b_1), o10, o11]) (st' := [.inl (b + x5)]) (M' := M) rfl (g8_0 c_9) ?_
          exact k_8 _ (by rw [if_pos c_9])
        · refine Wp.path (k := 1) [0] (C := [upW x7 ≠ 0]) (pc' := 94) (ls' := [some (.inr (.inr (10, 0))), some (.inl x1), some (.inl x2), some (.inl x3), some (.inl x4), some (.inl x5), some (.inl x6), some (.inl x7), some (.inl b), some (.inl b_1), o10, o11]) (st' := []) (M' := M) rfl c_9 ?_
          refine Wp.path (k := 4) [] (C := [inR (b - x5)]) (pc' := 107) (ls' := [some (.inr (.inr (10, 0))), some (.inl x1), some (.inl x2), some (.inl x3), some (.inl x4), some (.inl x5), some (.inl x6), some (.inl x7), some (.inl b), some (.inl b_1), o10, o11]) (st' := [.inl (b - x5)]) (M' := M) rfl (g8_1 c_9) ?_
          exact k_8 _ (by rw [if_neg c_9])
      clear h
      rcases Decidable.em (d_1 = 0) with c_11 | c_11
      · refine Wp.path (k := 1) [0] (C := [d_1 = 0]) (pc' := 78) (ls' := [some (.inr (.inr (10, 0))), some (.inl x1), some (.inl x2), some (.inl x3), some (.inl x4), some (.inl x5), some (.inl x6), some (.inl x7), some (.inl b), o9, o10, o11]) (st' := []) (M' := M) rfl c_11 ?_
        refine Wp.path (k := 2) [] (C := []) (pc' := 84) (ls' := [some (.inr (.inr (10, 0))), some (.inl x1), some (.inl x2), some (.inl x3), some (.inl x4), some (.inl x5), some (.inl x6), some (.inl x7), some (.inl b), o9, o10, o11]) (st' := [.inl x3]) (M' := M) rfl trivial ?_
        exact k_10 _ (by rw [if_neg (not_not_intro c_11)])
      · refine Wp.path (k := 1) [1] (C := [d_1 ≠ 0]) (pc' := 82) (ls' := [some (.inr (.inr (10, 0))), some (.inl x1), some (.inl x2), some (.inl x3), some (.inl x4), some (.inl x5), some (.inl x6), some (.inl x7), some (.inl b), o9, o10, o11]) (st' := []) (M' := M) rfl c_11 ?_
        refine Wp.path (k := 1) [] (C := []) (pc' := 84) (ls' := [some (.inr (.inr (10, 0))), some (.inl x1), some (.inl x2), some (.inl x3), some (.inl x4), some (.inl x5), some (.inl x6), some (.inl x7), some (.inl b), o9, o10, o11]) (st' := [.inl x4]) (M' := M) rfl trivial ?_
        exact k_10 _ (by rw [if_pos c_11])
    clear h
    rcases Decidable.em (d = 0) with c_13 | c_13
    · refine Wp.path (k := 1) [0] (C := [d = 0]) (pc' := 63) (ls' := [some (.inr (.inr (10, 0))), some (.inl x1), some (.inl x2), some (.inl x3), some (.inl x4), some (.inl x5), some (.inl x6), some (.inl x7), o8, o9, o10, o11]) (st' := []) (M' := M) rfl c_13 ?_
      refine Wp.path (k := 2) [] (C := []) (pc' := 69) (ls' := [some (.inr (.inr (10, 0))), some (.inl x1), some (.inl x2), some (.inl x3), some (.inl x4), some (.inl x5), some (.inl x6), some (.inl x7), o8, o9, o10, o11]) (st' := [.inl x4]) (M' := M) rfl trivial ?_
      exact k_12 _ (by rw [if_neg (not_not_intro c_13)])
    · refine Wp.path (k := 1) [1] (C := [d ≠ 0]) (pc' := 68) (ls' := [some (.inr (.inr (10, 0))), some (.inl x1), some (.inl x2), some (.inl x3), some (.inl x4), some (.inl x5), some (.inl x6), some (.inl x7), o8, o9, o10, o11]) (st' := []) (M' := M) rfl c_13 ?_
      refine Wp.path (k := 1) [] (C := []) (pc' := 69) (ls' := [some (.inr (.inr (10, 0))), some (.inl x1), some (.inl x2), some (.inl x3), some (.inl x4), some (.inl x5), some (.inl x6), some (.inl x7), o8, o9, o10, o11]) (st' := [.inl x3]) (M' := M) rfl trivial ?_
      exact k_12 _ (by rw [if_pos c_13])
  · replace h := h.1 c_1
    refine Wp.path (k := 1) [1] (C := [M.1 10 0 34 ≤ x6]) (pc' := 215) (ls' := [some (.inr (.inr (10, 0))), some (.inl x1), some (.inl x2), some (.inl x3), some (.inl x4), some (.inl x5), some (.inl x6), o7, o8, o9, o10, o11]) (st' := []) (M' := M) rfl c_1 ?_
    refine Wp.path (k := 1) [] (C := []) (pc' := 216) (ls' := [some (.inr (.inr (10, 0))), some (.inl x1), some (.inl x2), some (.inl x3), some (.inl x4), some (.inl x5), some (.inl x6), o7, o8, o9, o10, o11]) (st' := [.inl (-1)]) (M' := M) rfl trivial ?_
    exact Wp.ret rfl ⟨_, rfl, h⟩
/-- X10_comes -/
def E_1045 (x1 : Int) (x2 : Int) (M : Mm) (Q : Int → Mm → Prop) : Prop := Ev 1 1045 [.inr (.inr (10, 0)), .inl x1, .inl x2] M (rI Q)
theorem m_1045 {x1 : Int} {x2 : Int} {M : Mm} {Q Q1 : Int → Mm → Prop} (h : E_1045 x1 x2 M Q) (k : (∀ r M1, Q r M1 → Q1 r M1)) : E_1045 x1 x2 M Q1 := Ev.mono h (fun v M1 ⟨r, h1, h2⟩ => ⟨r, h1, k _ _ h2⟩)
theorem s_1045_0 {x1 : Int} {x2 : Int} {M : Mm} {Q : Int → Mm → Prop} (h : ((-2147483648 ≤ 2 * x1 ∧ 2 * x1 ≤ 2147483647) ∧ (-2147483648 ≤ (2 * x1) + 1 ∧ (2 * x1) + 1 ≤ 2147483647)) ∧ (∀ x3 : Int, x3 = (2 * x1) + 1 → (((0 ≤ x2 ∧ x2 < 640)) ∧ ((M.1 10 0 30 ≠ M.1 1135 0 x2.toNat → (Q 0 M)) ∧ (M.1 10 0 30 = M.1 1135 0 x2.toNat → (((0 ≤ x2 ∧ x2 < 640) ∧ (-2147483648 ≤ 4 * (M.1 1136 0 x2.toNat) ∧ 4 * (M.1 1136 0 x2.toNat) ≤ 2147483647)) ∧ ((upW (M.1 1135 0 x2.toNat) = 0 → ((-2147483648 ≤ -x3 ∧ -x3 ≤ 2147483647))) ∧ (∀ b : Int, b = (if upW (M.1 1135 0 x2.toNat) = 0 then (-x3) else x3) → (((-2147483648 ≤ (4 * (M.1 1136 0 x2.toNat)) + b ∧ (4 * (M.1 1136 0 x2.toNat)) + b ≤ 2147483647)) ∧ ((M.1 10 0 31 = (4 * (M.1 1136 0 x2.toNat)) + b → ((-2147483648 ≤ (M.1 10 0 32) - x3 ∧ (M.1 10 0 32) - x3 ≤ 2147483647) ∧ (0 ≤ x2 ∧ x2 < 640) ∧ (-2147483648 ≤ 4 * (M.1 1138 0 x2.toNat) ∧ 4 * (M.1 1138 0 x2.toNat) ≤ 2147483647))) ∧ (M.1 10 0 31 = (4 * (M.1 1136 0 x2.toNat)) + b → (M.1 10 0 32) - x3 < 4 * (M.1 1138 0 x2.toNat) → ((-2147483648 ≤ (M.1 10 0 33) + x3 ∧ (M.1 10 0 33) + x3 ≤ 2147483647) ∧ (0 ≤ x2 ∧ x2 < 640) ∧ (-2147483648 ≤ 4 * (M.1 1137 0 x2.toNat) ∧ 4 * (M.1 1137 0 x2.toNat) ≤ 2147483647))) ∧ (∀ b_1 : Int, b_1 = (if M.1 10 0 31 ≠ (4 * (M.1 1136 0 x2.toNat)) + b then 0 else (if 4 * (M.1 1138 0 x2.toNat) ≤ (M.1 10 0 32) - x3 then 0 else (if (M.1 10 0 33) + x3 ≤ 4 * (M.1 1137 0 x2.toNat) then 0 else 1))) → ((b_1 = 0 ∨ b_1 = 1) ∧ (Q b_1 M))))))))))))) : E_1045 x1 x2 M Q := by
  show Wp 1 1045 0 [some (.inr (.inr (10, 0))), some (.inl x1), some (.inl x2), none] [] M (rI Q)
  refine Wp.path (k := 6) [] (C := [inR (2 * x1), inR ((2 * x1) + 1)]) (pc' := 6) (ls' := [some (.inr (.inr (10, 0))), some (.inl x1), some (.inl x2), some (.inl ((2 * x1) + 1))]) (st' := []) (M' := M) rfl ⟨h.1.1, h.1.2⟩ ?_
  replace h := h.2
  refine Bd (P := fun x3 : Int => Wp 1 1045 6 [some (.inr (.inr (10, 0))), some (.inl x1), some (.inl x2), some (.inl x3)] [] M (rI Q)) ?_
  intro x3 e_x3
  replace h := h x3 e_x3
  refine Wp.path (k := 6) [] (C := [0 ≤ x2 ∧ x2 < 640]) (pc' := 16) (ls' := [some (.inr (.inr (10, 0))), some (.inl x1), some (.inl x2), some (.inl x3)]) (st' := [.inl (M.1 1135 0 x2.toNat), .inl (M.1 10 0 30)]) (M' := M) rfl h.1 ?_
  replace h := h.2
  rcases Decidable.em (M.1 10 0 30 = M.1 1135 0 x2.toNat) with c_1 | c_1
  · replace h := h.2 c_1
    refine Wp.path (k := 1) [0] (C := [M.1 10 0 30 = M.1 1135 0 x2.toNat]) (pc' := 19) (ls' := [some (.inr (.inr (10, 0))), some (.inl x1), some (.inl x2), some (.inl x3)]) (st' := []) (M' := M) rfl c_1 ?_
    refine Wp.path (k := 12) [] (C := [0 ≤ x2 ∧ x2 < 640, inR (4 * (M.1 1136 0 x2.toNat)), 0 ≤ x2 ∧ x2 < 640]) (pc' := 37) (ls' := [some (.inr (.inr (10, 0))), some (.inl x1), some (.inl x2), some (.inl x3)]) (st' := [.inl (M.1 1135 0 x2.toNat), .inl (4 * (M.1 1136 0 x2.toNat)), .inl (M.1 10 0 31)]) (M' := M) rfl ⟨h.1.1, h.1.2, h.1.1⟩ ?_
    replace h := h.2
    refine Wp.call (e1041) rfl rfl (by decide) ?_
    rintro v_ M_ ⟨eM_, ev_⟩
    rw [eM_, ev_]
    clear eM_ ev_ v_ M_
    show Wp 1 1045 40 [some (.inr (.inr (10, 0))), some (.inl x1), some (.inl x2), some (.inl x3)] [.inl (upW (M.1 1135 0 x2.toNat)), .inl (4 * (M.1 1136 0 x2.toNat)), .inl (M.1 10 0 31)] M (rI Q)
    have g6_0 := h.1
    replace h := h.2
    have k_6 : ∀ b : Int, b = (if upW (M.1 1135 0 x2.toNat) = 0 then (-x3) else x3) → Wp 1 1045 49 [some (.inr (.inr (10, 0))), some (.inl x1), some (.inl x2), some (.inl x3)] [.inl b, .inl (4 * (M.1 1136 0 x2.toNat)), .inl (M.1 10 0 31)] M (rI Q) := by
      intro b e_b
      replace h := h b e_b
      refine Wp.path (k := 1) [] (C := [inR ((4 * (M.1 1136 0 x2.toNat)) + b)]) (pc' := 50) (ls' := [some (.inr (.inr (10, 0))), some (.inl x1), some (.inl x2), some (.inl x3)]) (st' := [.inl ((4 * (M.1 1136 0 x2.toNat)) + b), .inl (M.1 10 0 31)]) (M' := M) rfl h.1 ?_
      replace h := h.2
      have g2_0 := h.1
      replace h := h.2
      have g2_1 := h.1
      replace h := h.2
      have k_2 : ∀ b_1 : Int, b_1 = (if M.1 10 0 31 ≠ (4 * (M.1 1136 0 x2.toNat)) + b then 0 else (if 4 * (M.1 1138 0 x2.toNat) ≤ (M.1 10 0 32) - x3 then 0 else (if (M.1 10 0 33) + x3 ≤ 4 * (M.1 1137 0 x2.toNat) then 0 else 1))) → Wp 1 1045 92 [some (.inr (.inr (10, 0))), some (.inl x1), some (.inl x2), some (.inl x3)] [.inl b_1] M (rI Q) := by
        intro b_1 e_b_1
        replace h := h b_1 e_b_1
        exact Wp.ret (by rcases h.1 with e_r | e_r <;> rw [e_r] <;> rfl) ⟨_, rfl, h.2⟩
      clear h
      rcases Decidable.em (M.1 10 0 31 = (4 * (M.1 1136 0 x2.toNat)) + b) with c_3 | c_3
      · refine Wp.path (k := 1) [0] (C := [M.1 10 0 31 = (4 * (M.1 1136 0 x2.toNat)) + b]) (pc' := 53) (ls' := [some (.inr (.inr (10, 0))), some (.inl x1), some (.inl x2), some (.inl x3)]) (st' := []) (M' := M) rfl c_3 ?_
        refine Wp.path (k := 10) [] (C := [inR ((M.1 10 0 32) - x3), 0 ≤ x2 ∧ x2 < 640, inR (4 * (M.1 1138 0 x2.toNat))]) (pc' := 67) (ls' := [some (.inr (.inr (10, 0))), some (.inl x1), some (.inl x2), some (.inl x3)]) (st' := [.inl (4 * (M.1 1138 0 x2.toNat)), .inl ((M.1 10 0 32) - x3)]) (M' := M) rfl ⟨(g2_0 c_3).1, (g2_0 c_3).2.1, (g2_0 c_3).2.2⟩ ?_
        rcases Int.lt_or_le ((M.1 10 0 32) - x3) (4 * (M.1 1138 0 x2.toNat)) with c_4 | c_4
        · refine Wp.path (k := 1) [0] (C := [(M.1 10 0 32) - x3 < 4 * (M.1 1138 0 x2.toNat)]) (pc' := 70) (ls' := [some (.inr (.inr (10, 0))), some (.inl x1), some (.inl x2), some (.inl x3)]) (st' := []) (M' := M) rfl c_4 ?_
          refine Wp.path (k := 10) [] (C := [inR ((M.1 10 0 33) + x3), 0 ≤ x2 ∧ x2 < 640, inR (4 * (M.1 1137 0 x2.toNat))]) (pc' := 84) (ls' := [some (.inr (.inr (10, 0))), some (.inl x1), some (.inl x2), some (.inl x3)]) (st' := [.inl (4 * (M.1 1137 0 x2.toNat)), .inl ((M.1 10 0 33) + x3)]) (M' := M) rfl ⟨(g2_1 c_3 c_4).1, (g2_1 c_3 c_4).2.1, (g2_1 c_3 c_4).2.2⟩ ?_
          rcases Int.lt_or_le (4 * (M.1 1137 0 x2.toNat)) ((M.1 10 0 33) + x3) with c_5 | c_5
          · refine Wp.path (k := 1) [0] (C := [4 * (M.1 1137 0 x2.toNat) < (M.1 10 0 33) + x3]) (pc' := 87) (ls' := [some (.inr (.inr (10, 0))), some (.inl x1), some (.inl x2), some (.inl x3)]) (st' := []) (M' := M) rfl c_5 ?_
            refine Wp.path (k := 2) [] (C := []) (pc' := 92) (ls' := [some (.inr (.inr (10, 0))), some (.inl x1), some (.inl x2), some (.inl x3)]) (st' := [.inl 1]) (M' := M) rfl trivial ?_
            exact k_2 _ (by rw [if_neg (not_not_intro c_3), if_neg (Int.not_le.mpr c_4), if_neg (Int.not_le.mpr c_5)])
          · refine Wp.path (k := 1) [1] (C := [(M.1 10 0 33) + x3 ≤ 4 * (M.1 1137 0 x2.toNat)]) (pc' := 91) (ls' := [some (.inr (.inr (10, 0))), some (.inl x1), some (.inl x2), some (.inl x3)]) (st' := []) (M' := M) rfl c_5 ?_
            refine Wp.path (k := 1) [] (C := []) (pc' := 92) (ls' := [some (.inr (.inr (10, 0))), some (.inl x1), some (.inl x2), some (.inl x3)]) (st' := [.inl 0]) (M' := M) rfl trivial ?_
            exact k_2 _ (by rw [if_neg (not_not_intro c_3), if_neg (Int.not_le.mpr c_4), if_pos c_5])
        · refine Wp.path (k := 1) [1] (C := [4 * (M.1 1138 0 x2.toNat) ≤ (M.1 10 0 32) - x3]) (pc' := 91) (ls' := [some (.inr (.inr (10, 0))), some (.inl x1), some (.inl x2), some (.inl x3)]) (st' := []) (M' := M) rfl c_4 ?_
          refine Wp.path (k := 1) [] (C := []) (pc' := 92) (ls' := [some (.inr (.inr (10, 0))), some (.inl x1), some (.inl x2), some (.inl x3)]) (st' := [.inl 0]) (M' := M) rfl trivial ?_
          exact k_2 _ (by rw [if_neg (not_not_intro c_3), if_pos c_4])
      · refine Wp.path (k := 1) [1] (C := [M.1 10 0 31 ≠ (4 * (M.1 1136 0 x2.toNat)) + b]) (pc' := 91) (ls' := [some (.inr (.inr (10, 0))), some (.inl x1), some (.inl x2), some (.inl x3)]) (st' := []) (M' := M) rfl c_3 ?_
        refine Wp.path (k := 1) [] (C := []) (pc' := 92) (ls' := [some (.inr (.inr (10, 0))), some (.inl x1), some (.inl x2), some (.inl x3)]) (st' := [.inl 0]) (M' := M) rfl trivial ?_
        exact k_2 _ (by rw [if_pos c_3])
    clear h
    rcases Decidable.em (upW (M.1 1135 0 x2.toNat) = 0) with c_7 | c_7
    · refine Wp.path (k := 1) [1] (C := [upW (M.1 1135 0 x2.toNat) = 0]) (pc' := 47) (ls' := [some (.inr (.inr (10, 0))), some (.inl x1), some (.inl x2), some (.inl x3)]) (st' := [.inl (4 * (M.1 1136 0 x2.toNat)), .inl (M.1 10 0 31)]) (M' := M) rfl c_7 ?_
      refine Wp.path (k := 2) [] (C := [inR (-x3)]) (pc' := 49) (ls' := [some (.inr (.inr (10, 0))), some (.inl x1), some (.inl x2), some (.inl x3)]) (st' := [.inl (-x3), .inl (4 * (M.1 1136 0 x2.toNat)), .inl (M.1 10 0 31)]) (M' := M) rfl (g6_0 c_7) ?_
      exact k_6 _ (by rw [if_pos c_7])
    · refine Wp.path (k := 1) [0] (C := [upW (M.1 1135 0 x2.toNat) ≠ 0]) (pc' := 43) (ls' := [some (.inr (.inr (10, 0))), some (.inl x1), some (.inl x2), some (.inl x3)]) (st' := [.inl (4 * (M.1 1136 0 x2.toNat)), .inl (M.1 10 0 31)]) (M' := M) rfl c_7 ?_
      refine Wp.path (k := 2) [] (C := []) (pc' := 49) (ls' := [some (.inr (.inr (10, 0))), some (.inl x1), some (.inl x2), some (.inl x3)]) (st' := [.inl x3, .inl (4 * (M.1 1136 0 x2.toNat)), .inl (M.1 10 0 31)]) (M' := M) rfl trivial ?_
      exact k_6 _ (by rw [if_neg c_7])
  · replace h := h.1 c_1
    refine Wp.path (k := 1) [1] (C := [M.1 10 0 30 ≠ M.1 1135 0 x2.toNat]) (pc' := 91) (ls' := [some (.inr (.inr (10, 0))), some (.inl x1), some (.inl x2), some (.inl x3)]) (st' := []) (M' := M) rfl c_1 ?_
    refine Wp.path (k := 1) [] (C := []) (pc' := 92) (ls' := [some (.inr (.inr (10, 0))), some (.inl x1), some (.inl x2), some (.inl x3)]) (st' := [.inl 0]) (M' := M) rfl trivial ?_
    exact Wp.ret rfl ⟨_, rfl, h⟩
/-- X10_origins -/
def E_1046 (x1 : Int) (x2 : Int) (x3 : Int) (M : Mm) (Q : Mm → Prop) : Prop := Ev 3 1046 [.inr (.inr (10, 0)), .inl x1, .inl x2, .inl x3] M (rV Q)
theorem m_1046 {x1 : Int} {x2 : Int} {x3 : Int} {M : Mm} {Q Q1 : Mm → Prop} (h : E_1046 x1 x2 x3 M Q) (k : (∀ M1, Q M1 → Q1 M1)) : E_1046 x1 x2 x3 M Q1 := Ev.mono h (fun v M1 h => ⟨h.1, k _ h.2⟩)
def L_1046_25 (x1 : Int) (x2 : Int) (x3 : Int) (x4 : Int) (M : Mm) (Q : Mm → Prop) : Prop := Wp 3 1046 25 [some (.inr (.inr (10, 0))), some (.inl x1), some (.inl x2), some (.inl x3), some (.inl x4)] [] M (rV Q)
theorem s_1046_0 {x1 : Int} {x2 : Int} {x3 : Int} {M : Mm} {Q : Mm → Prop} (h : (E_1039 x1 x2 x3 M (fun M1 : Mm => (∀ M1_1 : Mm, M1_1 = setI M1 10 0 41 0 → (∀ M1_2 : Mm, M1_2 = setI M1_1 10 0 42 (-1) → (∀ M1_3 : Mm, M1_3 = setI M1_2 10 0 43 (-1) → (L_1046_25 x1 x2 x3 0 M1_3 Q))))))) : E_1046 x1 x2 x3 M Q := by
  show Wp 3 1046 0 [some (.inr (.inr (10, 0))), some (.inl x1), some (.inl x2), some (.inl x3), none] [] M (rV Q)
  refine Wp.path (k := 4) [] (C := []) (pc' := 4) (ls' := [some (.inr (.inr (10, 0))), some (.inl x1), some (.inl x2), some (.inl x3), none]) (st' := [.inl x3, .inl x2, .inl x1, .inr (.inr (10, 0))]) (M' := M) rfl trivial ?_
  refine Wp.call h rfl rfl (by decide) ?_
  rintro _ M1 ⟨rfl, h⟩
  show Wp 3 1046 7 [some (.inr (.inr (10, 0))), some (.inl x1), some (.inl x2), some (.inl x3), none] [] M1 (rV Q)
  refine Wp.path (k := 3) [] (C := []) (pc' := 12) (ls' := [some (.inr (.inr (10, 0))), some (.inl x1), some (.inl x2), some (.inl x3), none]) (st' := []) (M' := setI M1 10 0 41 0) rfl trivial ?_
  refine Bd (P := fun M1_1 : Mm => Wp 3 1046 12 [some (.inr (.inr (10, 0))), some (.inl x1), some (.inl x2), some (.inl x3), none] [] M1_1 (rV Q)) ?_
  intro M1_1 e_M1_1
  replace h := h M1_1 e_M1_1
  refine Wp.path (k := 3) [] (C := []) (pc' := 17) (ls' := [some (.inr (.inr (10, 0))), some (.inl x1), some (.inl x2), some (.inl x3), none]) (st' := []) (M' := setI M1_1 10 0 42 (-1)) rfl trivial ?_
  refine Bd (P := fun M1_2 : Mm => Wp 3 1046 17 [some (.inr (.inr (10, 0))), some (.inl x1), some (.inl x2), some (.inl x3), none] [] M1_2 (rV Q)) ?_
  intro M1_2 e_M1_2
  replace h := h M1_2 e_M1_2
  refine Wp.path (k := 3) [] (C := []) (pc' := 22) (ls' := [some (.inr (.inr (10, 0))), some (.inl x1), some (.inl x2), some (.inl x3), none]) (st' := []) (M' := setI M1_2 10 0 43 (-1)) rfl trivial ?_
  refine Bd (P := fun M1_3 : Mm => Wp 3 1046 22 [some (.inr (.inr (10, 0))), some (.inl x1), some (.inl x2), some (.inl x3), none] [] M1_3 (rV Q)) ?_
  intro M1_3 e_M1_3
  replace h := h M1_3 e_M1_3
  refine Wp.path (k := 2) [] (C := []) (pc' := 25) (ls' := [some (.inr (.inr (10, 0))), some (.inl x1), some (.inl x2), some (.inl x3), some (.inl 0)]) (st' := []) (M' := M1_3) rfl trivial ?_
  exact h
theorem s_1046_25 {x1 : Int} {x2 : Int} {x3 : Int} {x4 : Int} {M : Mm} {Q : Mm → Prop} (h : ((M.1 10 0 34 ≤ x4 → (Q M)) ∧ (x4 < M.1 10 0 34 → (E_1045 x1 x4 M (fun (r : Int) (M1 : Mm) => ((r ≠ 0 → (((-2147483648 ≤ (M1.1 10 0 41) + 1 ∧ (M1.1 10 0 41) + 1 ≤ 2147483647)) ∧ (∀ M1_1 : Mm, M1_1 = setI M1 10 0 41 ((M1.1 10 0 41) + 1) → (∀ b : Int, b = (if 0 ≤ M1_1.1 10 0 42 then (M1_1.1 10 0 42) else x4) → (∀ M1_2 : Mm, M1_2 = setI M1_1 10 0 42 b → (∀ M1_3 : Mm, M1_3 = setI M1_2 10 0 43 x4 → (((-2147483648 ≤ x4 + 1 ∧ x4 + 1 ≤ 2147483647)) ∧ (L_1046_25 x1 x2 x3 (x4 + 1) M1_3 Q)))))))) ∧ (r = 0 → (((-2147483648 ≤ x4 + 1 ∧ x4 + 1 ≤ 2147483647)) ∧ (L_1046_25 x1 x2 x3 (x4 + 1) M1 Q))))))))) : L_1046_25 x1 x2 x3 x4 M Q := by
  show Wp 3 1046 25 [some (.inr (.inr (10, 0))), some (.inl x1), some (.inl x2), some (.inl x3), some (.inl x4)] [] M (rV Q)
  refine Wp.path (k := 3) [] (C := []) (pc' := 31) (ls' := [some (.inr (.inr (10, 0))), some (.inl x1), some (.inl x2), some (.inl x3), some (.inl x4)]) (st' := [.inl (M.1 10 0 34), .inl x4]) (M' := M) rfl trivial ?_
  rcases Int.lt_or_le (x4) (M.1 10 0 34) with c_1 | c_1
  · replace h := h.2 c_1
    refine Wp.path (k := 1) [0] (C := [x4 < M.1 10 0 34]) (pc' := 34) (ls' := [some (.inr (.inr (10, 0))), some (.inl x1), some (.inl x2), some (.inl x3), some (.inl x4)]) (st' := []) (M' := M) rfl c_1 ?_
    refine Wp.path (k := 3) [] (C := []) (pc' := 38) (ls' := [some (.inr (.inr (10, 0))), some (.inl x1), some (.inl x2), some (.inl x3), some (.inl x4)]) (st' := [.inl x4, .inl x1, .inr (.inr (10, 0))]) (M' := M) rfl trivial ?_
    refine Wp.call h rfl rfl (by decide) ?_
    rintro _ M1 ⟨r, rfl, h⟩
    show Wp 3 1046 41 [some (.inr (.inr (10, 0))), some (.inl x1), some (.inl x2), some (.inl x3), some (.inl x4)] [.inl r] M1 (rV Q)
    rcases Decidable.em (r = 0) with c_2 | c_2
    · replace h := h.2 c_2
      refine Wp.path (k := 1) [0] (C := [r = 0]) (pc' := 44) (ls' := [some (.inr (.inr (10, 0))), some (.inl x1), some (.inl x2), some (.inl x3), some (.inl x4)]) (st' := []) (M' := M1) rfl c_2 ?_
      refine Wp.path (k := 3) [] (C := [inR (x4 + 1)]) (pc' := 25) (ls' := [some (.inr (.inr (10, 0))), some (.inl x1), some (.inl x2), some (.inl x3), some (.inl (x4 + 1))]) (st' := []) (M' := M1) rfl h.1 ?_
      replace h := h.2
      exact h
    · replace h := h.1 c_2
      refine Wp.path (k := 1) [1] (C := [r ≠ 0]) (pc' := 47) (ls' := [some (.inr (.inr (10, 0))), some (.inl x1), some (.inl x2), some (.inl x3), some (.inl x4)]) (st' := []) (M' := M1) rfl c_2 ?_
      refine Wp.path (k := 6) [] (C := [inR ((M1.1 10 0 41) + 1)]) (pc' := 57) (ls' := [some (.inr (.inr (10, 0))), some (.inl x1), some (.inl x2), some (.inl x3), some (.inl x4)]) (st' := []) (M' := setI M1 10 0 41 ((M1.1 10 0 41) + 1)) rfl h.1 ?_
      replace h := h.2
      refine Bd (P := fun M1_1 : Mm => Wp 3 1046 57 [some (.inr (.inr (10, 0))), some (.inl x1), some (.inl x2), some (.inl x3), some (.inl x4)] [] M1_1 (rV Q)) ?_
      intro M1_1 e_M1_1
      replace h := h M1_1 e_M1_1
      refine Wp.path (k := 3) [] (C := []) (pc' := 62) (ls' := [some (.inr (.inr (10, 0))), some (.inl x1), some (.inl x2), some (.inl x3), some (.inl x4)]) (st' := [.inl (M1_1.1 10 0 42), .inr (.inr (10, 0))]) (M' := M1_1) rfl trivial ?_
      have k_3 : ∀ b : Int, b = (if 0 ≤ M1_1.1 10 0 42 then (M1_1.1 10 0 42) else x4) → Wp 3 1046 74 [some (.inr (.inr (10, 0))), some (.inl x1), some (.inl x2), some (.inl x3), some (.inl x4)] [.inl b, .inr (.inr (10, 0))] M1_1 (rV Q) := by
        intro b e_b
        replace h := h b e_b
        refine Wp.path (k := 1) [] (C := []) (pc' := 77) (ls' := [some (.inr (.inr (10, 0))), some (.inl x1), some (.inl x2), some (.inl x3), some (.inl x4)]) (st' := []) (M' := setI M1_1 10 0 42 b) rfl trivial ?_
        refine Bd (P := fun M1_2 : Mm => Wp 3 1046 77 [some (.inr (.inr (10, 0))), some (.inl x1), some (.inl x2), some (.inl x3), some (.inl x4)] [] M1_2 (rV Q)) ?_
        intro M1_2 e_M1_2
        replace h := h M1_2 e_M1_2
        refine Wp.path (k := 3) [] (C := []) (pc' := 83) (ls' := [some (.inr (.inr (10, 0))), some (.inl x1), some (.inl x2), some (.inl x3), some (.inl x4)]) (st' := []) (M' := setI M1_2 10 0 43 x4) rfl trivial ?_
        refine Bd (P := fun M1_3 : Mm => Wp 3 1046 83 [some (.inr (.inr (10, 0))), some (.inl x1), some (.inl x2), some (.inl x3), some (.inl x4)] [] M1_3 (rV Q)) ?_
        intro M1_3 e_M1_3
        replace h := h M1_3 e_M1_3
        refine Wp.path (k := 2) [] (C := [inR (x4 + 1)]) (pc' := 25) (ls' := [some (.inr (.inr (10, 0))), some (.inl x1), some (.inl x2), some (.inl x3), some (.inl (x4 + 1))]) (st' := []) (M' := M1_3) rfl h.1 ?_
        replace h := h.2
        exact h
      clear h
      rcases Int.lt_or_le (M1_1.1 10 0 42) (0) with c_4 | c_4
      · refine Wp.path (k := 1) [0] (C := [M1_1.1 10 0 42 < 0]) (pc' := 65) (ls' := [some (.inr (.inr (10, 0))), some (.inl x1), some (.inl x2), some (.inl x3), some (.inl x4)]) (st' := [.inr (.inr (10, 0))]) (M' := M1_1) rfl c_4 ?_
        refine Wp.path (k := 2) [] (C := []) (pc' := 74) (ls' := [some (.inr (.inr (10, 0))), some (.inl x1), some (.inl x2), some (.inl x3), some (.inl x4)]) (st' := [.inl x4, .inr (.inr (10, 0))]) (M' := M1_1) rfl trivial ?_
        exact k_3 _ (by rw [if_neg (Int.not_le.mpr c_4)])
      · refine Wp.path (k := 1) [1] (C := [0 ≤ M1_1.1 10 0 42]) (pc' := 70) (ls' := [some (.inr (.inr (10, 0))), some (.inl x1), some (.inl x2), some (.inl x3), some (.inl x4)]) (st' := [.inr (.inr (10, 0))]) (M' := M1_1) rfl c_4 ?_
        refine Wp.path (k := 2) [] (C := []) (pc' := 74) (ls' := [some (.inr (.inr (10, 0))), some (.inl x1), some (.inl x2), some (.inl x3), some (.inl x4)]) (st' := [.inl (M1_1.1 10 0 42), .inr (.inr (10, 0))]) (M' := M1_1) rfl trivial ?_
        exact k_3 _ (by rw [if_pos c_4])
  · replace h := h.1 c_1
    refine Wp.path (k := 1) [1] (C := [M.1 10 0 34 ≤ x4]) (pc' := 89) (ls' := [some (.inr (.inr (10, 0))), some (.inl x1), some (.inl x2), some (.inl x3), some (.inl x4)]) (st' := []) (M' := M) rfl c_1 ?_
    exact Wp.ret rfl ⟨rfl, h⟩
/-- X10_extinct -/
def E_1047 (x1 : Int) (M : Mm) (Q : Int → Mm → Prop) : Prop := Ev 3 1047 [.inr (.inr (10, 0)), .inl x1] M (rI Q)
theorem m_1047 {x1 : Int} {M : Mm} {Q Q1 : Int → Mm → Prop} (h : E_1047 x1 M Q) (k : (∀ r M1, Q r M1 → Q1 r M1)) : E_1047 x1 M Q1 := Ev.mono h (fun v M1 ⟨r, h1, h2⟩ => ⟨r, h1, k _ _ h2⟩)
def L_1047_2 (x1 : Int) (x2 : Int) (M : Mm) (Q : Int → Mm → Prop) : Prop := ∀ o3 o4 o5 : Option Vv, Wp 3 1047 2 [some (.inr (.inr (10, 0))), some (.inl x1), some (.inl x2), o3, o4, o5] [] M (rI Q)
def L_1047_15 (x1 : Int) (x2 : Int) (x3 : Int) (x4 : Int) (M : Mm) (Q : Int → Mm → Prop) : Prop := ∀ o5 : Option Vv, Wp 3 1047 15 [some (.inr (.inr (10, 0))), some (.inl x1), some (.inl x2), some (.inl x3), some (.inl x4), o5] [] M (rI Q)
def L_1047_33 (x1 : Int) (x2 : Int) (x3 : Int) (x4 : Int) (x5 : Int) (M : Mm) (Q : Int → Mm → Prop) : Prop := Wp 3 1047 33 [some (.inr (.inr (10, 0))), some (.inl x1), some (.inl x2), some (.inl x3), some (.inl x4), some (.inl x5)] [] M (rI Q)
theorem s_1047_0 {x1 : Int} {M : Mm} {Q : Int → Mm → Prop} (h : (L_1047_2 x1 0 M Q)) : E_1047 x1 M Q := by
  show Wp 3 1047 0 [some (.inr (.inr (10, 0))), some (.inl x1), none, none, none, none] [] M (rI Q)
  refine Wp.path (k := 2) [] (C := []) (pc' := 2) (ls' := [some (.inr (.inr (10, 0))), some (.inl x1), some (.inl 0), none, none, none]) (st' := []) (M' := M) rfl trivial ?_
  exact h _ _ _
theorem s_1047_2 {x1 : Int} {x2 : Int} {M : Mm} {Q : Int → Mm → Prop} (h : ((M.1 10 0 18 ≤ x2 → (Q (M.1 10 0 18) M)) ∧ (x2 < M.1 10 0 18 → (L_1047_15 x1 x2 0 0 M Q)))) : L_1047_2 x1 x2 M Q := by
  intro o3 o4 o5
  show Wp 3 1047 2 [some (.inr (.inr (10, 0))), some (.inl x1), some (.inl x2), o3, o4, o5] [] M (rI Q)
  refine Wp.path (k := 3) [] (C := []) (pc' := 7) (ls' := [some (.inr (.inr (10, 0))), some (.inl x1), some (.inl x2), o3, o4, o5]) (st' := [.inl (M.1 10 0 18), .inl x2]) (M' := M) rfl trivial ?_
  rcases Int.lt_or_le (x2) (M.1 10 0 18) with c_1 | c_1
  · replace h := h.2 c_1
    refine Wp.path (k := 1) [0] (C := [x2 < M.1 10 0 18]) (pc' := 10) (ls' := [some (.inr (.inr (10, 0))), some (.inl x1), some (.inl x2), o3, o4, o5]) (st' := []) (M' := M) rfl c_1 ?_
    refine Wp.path (k := 4) [] (C := []) (pc' := 15) (ls' := [some (.inr (.inr (10, 0))), some (.inl x1), some (.inl x2), some (.inl 0), some (.inl 0), o5]) (st' := []) (M' := M) rfl trivial ?_
    exact h _
  · replace h := h.1 c_1
    refine Wp.path (k := 1) [1] (C := [M.1 10 0 18 ≤ x2]) (pc' := 89) (ls' := [some (.inr (.inr (10, 0))), some (.inl x1), some (.inl x2), o3, o4, o5]) (st' := []) (M' := M) rfl c_1 ?_
    refine Wp.path (k := 2) [] (C := []) (pc' := 93) (ls' := [some (.inr (.inr (10, 0))), some (.inl x1), some (.inl x2), o3, o4, o5]) (st' := [.inl (M.1 10 0 18)]) (M' := M) rfl trivial ?_
    exact Wp.ret rfl ⟨_, rfl, h⟩
theorem s_1047_15 {x1 : Int} {x2 : Int} {x3 : Int} {x4 : Int} {M : Mm} {Q : Int → Mm → Prop} (h : ((0 ≤ x2 ∧ x2 < 12)) ∧ ((M.1 1124 0 x2.toNat ≤ x4 → ((x3 ≠ 0 → (((-2147483648 ≤ x2 + 1 ∧ x2 + 1 ≤ 2147483647)) ∧ (L_1047_2 x1 (x2 + 1) M Q))) ∧ (x3 = 0 → (Q x2 M)))) ∧ (x4 < M.1 1124 0 x2.toNat → ((x3 ≠ 0 → ((x3 ≠ 0 → (((-2147483648 ≤ x2 + 1 ∧ x2 + 1 ≤ 2147483647)) ∧ (L_1047_2 x1 (x2 + 1) M Q))) ∧ (x3 = 0 → (Q x2 M)))) ∧ (x3 = 0 → (L_1047_33 x1 x2 x3 x4 0 M Q)))))) : L_1047_15 x1 x2 x3 x4 M Q := by
  intro o5
  show Wp 3 1047 15 [some (.inr (.inr (10, 0))), some (.inl x1), some (.inl x2), some (.inl x3), some (.inl x4), o5] [] M (rI Q)
  refine Wp.path (k := 5) [] (C := [0 ≤ x2 ∧ x2 < 12]) (pc' := 23) (ls' := [some (.inr (.inr (10, 0))), some (.inl x1), some (.inl x2), some (.inl x3), some (.inl x4), o5]) (st' := [.inl (M.1 1124 0 x2.toNat), .inl x4]) (M' := M) rfl h.1 ?_
  replace h := h.2
  rcases Int.lt_or_le (x4) (M.1 1124 0 x2.toNat) with c_1 | c_1
  · replace h := h.2 c_1
    refine Wp.path (k := 1) [0] (C := [x4 < M.1 1124 0 x2.toNat]) (pc' := 26) (ls' := [some (.inr (.inr (10, 0))), some (.inl x1), some (.inl x2), some (.inl x3), some (.inl x4), o5]) (st' := []) (M' := M) rfl c_1 ?_
    refine Wp.path (k := 1) [] (C := []) (pc' := 27) (ls' := [some (.inr (.inr (10, 0))), some (.inl x1), some (.inl x2), some (.inl x3), some (.inl x4), o5]) (st' := [.inl x3]) (M' := M) rfl trivial ?_
    rcases Decidable.em (x3 = 0) with c_2 | c_2
    · replace h := h.2 c_2
      refine Wp.path (k := 1) [0] (C := [x3 = 0]) (pc' := 30) (ls' := [some (.inr (.inr (10, 0))), some (.inl x1), some (.inl x2), some (.inl x3), some (.inl x4), o5]) (st' := []) (M' := M) rfl c_2 ?_
      refine Wp.path (k := 2) [] (C := []) (pc' := 33) (ls' := [some (.inr (.inr (10, 0))), some (.inl x1), some (.inl x2), some (.inl x3), some (.inl x4), some (.inl 0)]) (st' := []) (M' := M) rfl trivial ?_
      exact h
    · replace h := h.1 c_2
      refine Wp.path (k := 1) [1] (C := [x3 ≠ 0]) (pc' := 77) (ls' := [some (.inr (.inr (10, 0))), some (.inl x1), some (.inl x2), some (.inl x3), some (.inl x4), o5]) (st' := []) (M' := M) rfl c_2 ?_
      refine Wp.path (k := 1) [] (C := []) (pc' := 78) (ls' := [some (.inr (.inr (10, 0))), some (.inl x1), some (.inl x2), some (.inl x3), some (.inl x4), o5]) (st' := [.inl x3]) (M' := M) rfl trivial ?_
      rcases Decidable.em (x3 = 0) with c_3 | c_3
      · replace h := h.2 c_3
        refine Wp.path (k := 1) [0] (C := [x3 = 0]) (pc' := 81) (ls' := [some (.inr (.inr (10, 0))), some (.inl x1), some (.inl x2), some (.inl x3), some (.inl x4), o5]) (st' := []) (M' := M) rfl c_3 ?_
        refine Wp.path (k := 1) [] (C := []) (pc' := 82) (ls' := [some (.inr (.inr (10, 0))), some (.inl x1), some (.inl x2), some (.inl x3), some (.inl x4), o5]) (st' := [.inl x2]) (M' := M) rfl trivial ?_
        exact Wp.ret rfl ⟨_, rfl, h⟩
      · replace h := h.1 c_3
        refine Wp.path (k := 1) [1] (C := [x3 ≠ 0]) (pc' := 83) (ls' := [some (.inr (.inr (10, 0))), some (.inl x1), some (.inl x2), some (.inl x3), some (.inl x4), o5]) (st' := []) (M' := M) rfl c_3 ?_
        refine Wp.path (k := 2) [] (C := [inR (x2 + 1)]) (pc' := 2) (ls' := [some (.inr (.inr (10, 0))), some (.inl x1), some (.inl (x2 + 1)), some (.inl x3), some (.inl x4), o5]) (st' := []) (M' := M) rfl h.1 ?_
        replace h := h.2
        exact h _ _ _
  · replace h := h.1 c_1
    refine Wp.path (k := 1) [1] (C := [M.1 1124 0 x2.toNat ≤ x4]) (pc' := 77) (ls' := [some (.inr (.inr (10, 0))), some (.inl x1), some (.inl x2), some (.inl x3), some (.inl x4), o5]) (st' := []) (M' := M) rfl c_1 ?_
    refine Wp.path (k := 1) [] (C := []) (pc' := 78) (ls' := [some (.inr (.inr (10, 0))), some (.inl x1), some (.inl x2), some (.inl x3), some (.inl x4), o5]) (st' := [.inl x3]) (M' := M) rfl trivial ?_
    rcases Decidable.em (x3 = 0) with c_4 | c_4
    · replace h := h.2 c_4
      refine Wp.path (k := 1) [0] (C := [x3 = 0]) (pc' := 81) (ls' := [some (.inr (.inr (10, 0))), some (.inl x1), some (.inl x2), some (.inl x3), some (.inl x4), o5]) (st' := []) (M' := M) rfl c_4 ?_
      refine Wp.path (k := 1) [] (C := []) (pc' := 82) (ls' := [some (.inr (.inr (10, 0))), some (.inl x1), some (.inl x2), some (.inl x3), some (.inl x4), o5]) (st' := [.inl x2]) (M' := M) rfl trivial ?_
      exact Wp.ret rfl ⟨_, rfl, h⟩
    · replace h := h.1 c_4
      refine Wp.path (k := 1) [1] (C := [x3 ≠ 0]) (pc' := 83) (ls' := [some (.inr (.inr (10, 0))), some (.inl x1), some (.inl x2), some (.inl x3), some (.inl x4), o5]) (st' := []) (M' := M) rfl c_4 ?_
      refine Wp.path (k := 2) [] (C := [inR (x2 + 1)]) (pc' := 2) (ls' := [some (.inr (.inr (10, 0))), some (.inl x1), some (.inl (x2 + 1)), some (.inl x3), some (.inl x4), o5]) (st' := []) (M' := M) rfl h.1 ?_
      replace h := h.2
      exact h _ _ _
theorem s_1047_33 {x1 : Int} {x2 : Int} {x3 : Int} {x4 : Int} {x5 : Int} {M : Mm} {Q : Int → Mm → Prop} (h : ((0 ≤ x2 ∧ x2 < 12 ∧ 0 ≤ x4 ∧ x4 < 160 ∧ inR (szV (M.1 1125 0) x2 x4)) ∧ ((szV (M.1 1125 0) x2 x4 ≤ x5 → (((-2147483648 ≤ x4 + 1 ∧ x4 + 1 ≤ 2147483647)) ∧ (L_1047_15 x1 x2 x3 (x4 + 1) M Q))) ∧ (x5 < szV (M.1 1125 0) x2 x4 → ((x3 ≠ 0 → (((-2147483648 ≤ x4 + 1 ∧ x4 + 1 ≤ 2147483647)) ∧ (L_1047_15 x1 x2 x3 (x4 + 1) M Q))) ∧ (x3 = 0 → (E_1039 x2 x4 x5 M (fun M1 : Mm => (E_1045 x2 x1 M1 (fun (r : Int) (M1_1 : Mm) => ((-2147483648 ≤ x5 + 1 ∧ x5 + 1 ≤ 2147483647)) ∧ (L_1047_33 x1 x2 r x4 (x5 + 1) M1_1 Q))))))))))) : L_1047_33 x1 x2 x3 x4 x5 M Q := by
  show Wp 3 1047 33 [some (.inr (.inr (10, 0))), some (.inl x1), some (.inl x2), some (.inl x3), some (.inl x4), some (.inl x5)] [] M (rI Q)
  refine Wp.path (k := 4) [] (C := []) (pc' := 39) (ls' := [some (.inr (.inr (10, 0))), some (.inl x1), some (.inl x2), some (.inl x3), some (.inl x4), some (.inl x5)]) (st' := [.inl x4, .inl x2, .inr (.inr (10, 0)), .inl x5]) (M' := M) rfl trivial ?_
  refine Wp.call (e1036 h.1.1 h.1.2.1 h.1.2.2.1 h.1.2.2.2.1 h.1.2.2.2.2) rfl rfl (by decide) ?_
  replace h := h.2
  rintro v_ M_ ⟨eM_, ev_⟩
  rw [eM_, ev_]
  clear eM_ ev_ v_ M_
  show Wp 3 1047 42 [some (.inr (.inr (10, 0))), some (.inl x1), some (.inl x2), some (.inl x3), some (.inl x4), some (.inl x5)] [.inl (szV (M.1 1125 0) x2 x4), .inl x5] M (rI Q)
  rcases Int.lt_or_le (x5) (szV (M.1 1125 0) x2 x4) with c_1 | c_1
  · replace h := h.2 c_1
    refine Wp.path (k := 1) [0] (C := [x5 < szV (M.1 1125 0) x2 x4]) (pc' := 45) (ls' := [some (.inr (.inr (10, 0))), some (.inl x1), some (.inl x2), some (.inl x3), some (.inl x4), some (.inl x5)]) (st' := []) (M' := M) rfl c_1 ?_
    refine Wp.path (k := 1) [] (C := []) (pc' := 46) (ls' := [some (.inr (.inr (10, 0))), some (.inl x1), some (.inl x2), some (.inl x3), some (.inl x4), some (.inl x5)]) (st' := [.inl x3]) (M' := M) rfl trivial ?_
    rcases Decidable.em (x3 = 0) with c_2 | c_2
    · replace h := h.2 c_2
      refine Wp.path (k := 1) [0] (C := [x3 = 0]) (pc' := 49) (ls' := [some (.inr (.inr (10, 0))), some (.inl x1), some (.inl x2), some (.inl x3), some (.inl x4), some (.inl x5)]) (st' := []) (M' := M) rfl c_2 ?_
      refine Wp.path (k := 4) [] (C := []) (pc' := 55) (ls' := [some (.inr (.inr (10, 0))), some (.inl x1), some (.inl x2), some (.inl x3), some (.inl x4), some (.inl x5)]) (st' := [.inl x5, .inl x4, .inl x2, .inr (.inr (10, 0))]) (M' := M) rfl trivial ?_
      refine Wp.call h rfl rfl (by decide) ?_
      rintro _ M1 ⟨rfl, h⟩
      show Wp 3 1047 58 [some (.inr (.inr (10, 0))), some (.inl x1), some (.inl x2), some (.inl x3), some (.inl x4), some (.inl x5)] [] M1 (rI Q)
      refine Wp.path (k := 3) [] (C := []) (pc' := 61) (ls' := [some (.inr (.inr (10, 0))), some (.inl x1), some (.inl x2), some (.inl x3), some (.inl x4), some (.inl x5)]) (st' := [.inl x1, .inl x2, .inr (.inr (10, 0))]) (M' := M1) rfl trivial ?_
      refine Wp.call h rfl rfl (by decide) ?_
      rintro _ M1_1 ⟨r, rfl, h⟩
      show Wp 3 1047 64 [some (.inr (.inr (10, 0))), some (.inl x1), some (.inl x2), some (.inl x3), some (.inl x4), some (.inl x5)] [.inl r] M1_1 (rI Q)
      refine Wp.path (k := 3) [] (C := [inR (x5 + 1)]) (pc' := 33) (ls' := [some (.inr (.inr (10, 0))), some (.inl x1), some (.inl x2), some (.inl r), some (.inl x4), some (.inl (x5 + 1))]) (st' := []) (M' := M1_1) rfl h.1 ?_
      replace h := h.2
      exact h
    · replace h := h.1 c_2
      refine Wp.path (k := 1) [1] (C := [x3 ≠ 0]) (pc' := 71) (ls' := [some (.inr (.inr (10, 0))), some (.inl x1), some (.inl x2), some (.inl x3), some (.inl x4), some (.inl x5)]) (st' := []) (M' := M) rfl c_2 ?_
      refine Wp.path (k := 2) [] (C := [inR (x4 + 1)]) (pc' := 15) (ls' := [some (.inr (.inr (10, 0))), some (.inl x1), some (.inl x2), some (.inl x3), some (.inl (x4 + 1)), some (.inl x5)]) (st' := []) (M' := M) rfl h.1 ?_
      replace h := h.2
      exact h _
  · replace h := h.1 c_1
    refine Wp.path (k := 1) [1] (C := [szV (M.1 1125 0) x2 x4 ≤ x5]) (pc' := 71) (ls' := [some (.inr (.inr (10, 0))), some (.inl x1), some (.inl x2), some (.inl x3), some (.inl x4), some (.inl x5)]) (st' := []) (M' := M) rfl c_1 ?_
    refine Wp.path (k := 2) [] (C := [inR (x4 + 1)]) (pc' := 15) (ls' := [some (.inr (.inr (10, 0))), some (.inl x1), some (.inl x2), some (.inl x3), some (.inl (x4 + 1)), some (.inl x5)]) (st' := []) (M' := M) rfl h.1 ?_
    replace h := h.2
    exact h _
/-- X10_childOf -/
def E_1048 (x1 : Int) (x2 : Int) (M : Mm) (Q : Int → Mm → Prop) : Prop := Ev 0 1048 [.inr (.inr (10, 0)), .inl x1, .inl x2] M (rI Q)
theorem m_1048 {x1 : Int} {x2 : Int} {M : Mm} {Q Q1 : Int → Mm → Prop} (h : E_1048 x1 x2 M Q) (k : (∀ r M1, Q r M1 → Q1 r M1)) : E_1048 x1 x2 M Q1 := Ev.mono h (fun v M1 ⟨r, h1, h2⟩ => ⟨r, h1, k _ _ h2⟩)
def L_1048_2 (x1 : Int) (x2 : Int) (x3 : Int) (M : Mm) (Q : Int → Mm → Prop) : Prop := Wp 0 1048 2 [some (.inr (.inr (10, 0))), some (.inl x1), some (.inl x2), some (.inl x3)] [] M (rI Q)
theorem s_1048_0 {x1 : Int} {x2 : Int} {M : Mm} {Q : Int → Mm → Prop} (h : (L_1048_2 x1 x2 0 M Q)) : E_1048 x1 x2 M Q := by
  show Wp 0 1048 0 [some (.inr (.inr (10, 0))), some (.inl x1), some (.inl x2), none] [] M (rI Q)
  refine Wp.path (k := 2) [] (C := []) (pc' := 2) (ls' := [some (.inr (.inr (10, 0))), some (.inl x1), some (.inl x2), some (.inl 0)]) (st' := []) (M' := M) rfl trivial ?_
  exact h
theorem s_1048_2 {x1 : Int} {x2 : Int} {x3 : Int} {M : Mm} {Q : Int → Mm → Prop} (h : ((-2147483648 ≤ x1 + 1 ∧ x1 + 1 ≤ 2147483647) ∧ (-2147483648 ≤ 80 * (x1 + 1) ∧ 80 * (x1 + 1) ≤ 2147483647) ∧ (-2147483648 ≤ (80 * (x1 + 1)) + x3 ∧ (80 * (x1 + 1)) + x3 ≤ 2147483647) ∧ (0 ≤ (80 * (x1 + 1)) + x3 ∧ (80 * (x1 + 1)) + x3 < 960)) ∧ ((M.1 1121 0 (((80 * (x1 + 1)) + x3).toNat) = x2 → (Q x3 M)) ∧ (M.1 1121 0 (((80 * (x1 + 1)) + x3).toNat) ≠ x2 → (((-2147483648 ≤ x3 + 1 ∧ x3 + 1 ≤ 2147483647)) ∧ (L_1048_2 x1 x2 (x3 + 1) M Q))))) : L_1048_2 x1 x2 x3 M Q := by
  show Wp 0 1048 2 [some (.inr (.inr (10, 0))), some (.inl x1), some (.inl x2), some (.inl x3)] [] M (rI Q)
  refine Wp.path (k := 11) [] (C := [inR (x1 + 1), inR (80 * (x1 + 1)), inR ((80 * (x1 + 1)) + x3), 0 ≤ (80 * (x1 + 1)) + x3 ∧ (80 * (x1 + 1)) + x3 < 960]) (pc' := 16) (ls' := [some (.inr (.inr (10, 0))), some (.inl x1), some (.inl x2), some (.inl x3)]) (st' := [.inl x2, .inl (M.1 1121 0 (((80 * (x1 + 1)) + x3).toNat))]) (M' := M) rfl ⟨h.1.1, h.1.2.1, h.1.2.2.1, h.1.2.2.2⟩ ?_
  replace h := h.2
  rcases Decidable.em (M.1 1121 0 (((80 * (x1 + 1)) + x3).toNat) = x2) with c_1 | c_1
  · replace h := h.1 c_1
    refine Wp.path (k := 1) [1] (C := [M.1 1121 0 (((80 * (x1 + 1)) + x3).toNat) = x2]) (pc' := 25) (ls' := [some (.inr (.inr (10, 0))), some (.inl x1), some (.inl x2), some (.inl x3)]) (st' := []) (M' := M) rfl c_1 ?_
    refine Wp.path (k := 1) [] (C := []) (pc' := 26) (ls' := [some (.inr (.inr (10, 0))), some (.inl x1), some (.inl x2), some (.inl x3)]) (st' := [.inl x3]) (M' := M) rfl trivial ?_
    exact Wp.ret rfl ⟨_, rfl, h⟩
  · replace h := h.2 c_1
    refine Wp.path (k := 1) [0] (C := [M.1 1121 0 (((80 * (x1 + 1)) + x3).toNat) ≠ x2]) (pc' := 19) (ls' := [some (.inr (.inr (10, 0))), some (.inl x1), some (.inl x2), some (.inl x3)]) (st' := []) (M' := M) rfl c_1 ?_
    refine Wp.path (k := 2) [] (C := [inR (x3 + 1)]) (pc' := 2) (ls' := [some (.inr (.inr (10, 0))), some (.inl x1), some (.inl x2), some (.inl (x3 + 1))]) (st' := []) (M' := M) rfl h.1 ?_
    replace h := h.2
    exact h
/-- X10_branches -/
def E_1049 (d : Nat) (x1 : Int) (x2 : Int) (x3 : Int) (M : Mm) (Q : Mm → Prop) : Prop := Ev d 1049 [.inr (.inr (10, 0)), .inl x1, .inl x2, .inl x3] M (rV Q)
theorem m_1049 {d : Nat} {x1 : Int} {x2 : Int} {x3 : Int} {M : Mm} {Q Q1 : Mm → Prop} (h : E_1049 d x1 x2 x3 M Q) (k : (∀ M1, Q M1 → Q1 M1)) : E_1049 d x1 x2 x3 M Q1 := Ev.mono h (fun v M1 h => ⟨h.1, k _ h.2⟩)
def L_1049_46 (d : Nat) (x1 : Int) (x2 : Int) (x3 : Int) (x4 : Int) (x5 : Int) (x6 : Int) (M : Mm) (Q : Mm → Prop) : Prop := ∀ o7 o8 : Option Vv, Wp (d + 1) 1049 46 [some (.inr (.inr (10, 0))), some (.inl x1), some (.inl x2), some (.inl x3), some (.inl x4), some (.inl x5), some (.inl x6), o7, o8] [] M (rV Q)
def L_1049_119 (d : Nat) (x1 : Int) (x2 : Int) (x3 : Int) (x4 : Int) (x5 : Int) (x6 : Int) (x7 : Int) (M : Mm) (Q : Mm → Prop) : Prop := ∀ o8 : Option Vv, Wp (d + 1) 1049 119 [some (.inr (.inr (10, 0))), some (.inl x1), some (.inl x2), some (.inl x3), some (.inl x4), some (.inl x5), some (.inl x6), some (.inl x7), o8] [] M (rV Q)
theorem s_1049_0 {d : Nat} {x1 : Int} {x2 : Int} {x3 : Int} {M : Mm} {Q : Mm → Prop} (h : (∀ x4 : Int, x4 = M.1 10 0 44 → (((-2147483648 ≤ (M.1 10 0 44) + 1 ∧ (M.1 10 0 44) + 1 ≤ 2147483647)) ∧ (∀ M1 : Mm, M1 = setI M 10 0 44 ((M.1 10 0 44) + 1) → (((0 ≤ x4 ∧ x4 < 256)) ∧ (∀ M1_1 : Mm, M1_1 = setI M1 1145 0 x4.toNat x1 → (((0 ≤ x4 ∧ x4 < 256)) ∧ (∀ M1_2 : Mm, M1_2 = setI M1_1 1147 0 x4.toNat x2 → (((0 ≤ x4 ∧ x4 < 256)) ∧ (∀ M1_3 : Mm, M1_3 = setI M1_2 1148 0 x4.toNat x3 → (L_1049_46 d x1 x2 x3 x4 x1 x2 M1_3 Q))))))))))) : E_1049 (d + 1) x1 x2 x3 M Q := by
  show Wp (d + 1) 1049 0 [some (.inr (.inr (10, 0))), some (.inl x1), some (.inl x2), some (.inl x3), none, none, none, none, none] [] M (rV Q)
  refine Wp.path (k := 3) [] (C := []) (pc' := 6) (ls' := [some (.inr (.inr (10, 0))), some (.inl x1), some (.inl x2), some (.inl x3), some (.inl (M.1 10 0 44)), none, none, none, none]) (st' := []) (M' := M) rfl trivial ?_
  refine Bd (P := fun x4 : Int => Wp (d + 1) 1049 6 [some (.inr (.inr (10, 0))), some (.inl x1), some (.inl x2), some (.inl x3), some (.inl x4), none, none, none, none] [] M (rV Q)) ?_
  intro x4 e_x4
  replace h := h x4 e_x4
  refine Wp.path (k := 6) [] (C := [inR ((M.1 10 0 44) + 1)]) (pc' := 16) (ls' := [some (.inr (.inr (10, 0))), some (.inl x1), some (.inl x2), some (.inl x3), some (.inl x4), none, none, none, none]) (st' := []) (M' := setI M 10 0 44 ((M.1 10 0 44) + 1)) rfl h.1 ?_
  replace h := h.2
  refine Bd (P := fun M1 : Mm => Wp (d + 1) 1049 16 [some (.inr (.inr (10, 0))), some (.inl x1), some (.inl x2), some (.inl x3), some (.inl x4), none, none, none, none] [] M1 (rV Q)) ?_
  intro M1 e_M1
  replace h := h M1 e_M1
  refine Wp.path (k := 5) [] (C := [0 ≤ x4 ∧ x4 < 256]) (pc' := 24) (ls' := [some (.inr (.inr (10, 0))), some (.inl x1), some (.inl x2), some (.inl x3), some (.inl x4), none, none, none, none]) (st' := []) (M' := setI M1 1145 0 x4.toNat x1) rfl h.1 ?_
  replace h := h.2
  refine Bd (P := fun M1_1 : Mm => Wp (d + 1) 1049 24 [some (.inr (.inr (10, 0))), some (.inl x1), some (.inl x2), some (.inl x3), some (.inl x4), none, none, none, none] [] M1_1 (rV Q)) ?_
  intro M1_1 e_M1_1
  replace h := h M1_1 e_M1_1
  refine Wp.path (k := 5) [] (C := [0 ≤ x4 ∧ x4 < 256]) (pc' := 32) (ls' := [some (.inr (.inr (10, 0))), some (.inl x1), some (.inl x2), some (.inl x3), some (.inl x4), none, none, none, none]) (st' := []) (M' := setI M1_1 1147 0 x4.toNat x2) rfl h.1 ?_
  replace h := h.2
  refine Bd (P := fun M1_2 : Mm => Wp (d + 1) 1049 32 [some (.inr (.inr (10, 0))), some (.inl x1), some (.inl x2), some (.inl x3), some (.inl x4), none, none, none, none] [] M1_2 (rV Q)) ?_
  intro M1_2 e_M1_2
  replace h := h M1_2 e_M1_2
  refine Wp.path (k := 5) [] (C := [0 ≤ x4 ∧ x4 < 256]) (pc' := 40) (ls' := [some (.inr (.inr (10, 0))), some (.inl x1), some (.inl x2), some (.inl x3), some (.inl x4), none, none, none, none]) (st' := []) (M' := setI M1_2 1148 0 x4.toNat x3) rfl h.1 ?_
  replace h := h.2
  refine Bd (P := fun M1_3 : Mm => Wp (d + 1) 1049 40 [some (.inr (.inr (10, 0))), some (.inl x1), some (.inl x2), some (.inl x3), some (.inl x4), none, none, none, none] [] M1_3 (rV Q)) ?_
  intro M1_3 e_M1_3
  replace h := h M1_3 e_M1_3
  refine Wp.path (k := 4) [] (C := []) (pc' := 46) (ls' := [some (.inr (.inr (10, 0))), some (.inl x1), some (.inl x2), some (.inl x3), some (.inl x4), some (.inl x1), some (.inl x2), none, none]) (st' := []) (M' := M1_3) rfl trivial ?_
  exact h _ _
theorem s_1049_46 {d : Nat} {x1 : Int} {x2 : Int} {x3 : Int} {x4 : Int} {x5 : Int} {x6 : Int} {M : Mm} {Q : Mm → Prop} (h : ((-2147483648 ≤ 80 * x5 ∧ 80 * x5 ≤ 2147483647) ∧ (-2147483648 ≤ (80 * x5) + x6 ∧ (80 * x5) + x6 ≤ 2147483647) ∧ (0 ≤ (80 * x5) + x6 ∧ (80 * x5) + x6 < 960)) ∧ ((M.1 1122 0 (((80 * x5) + x6).toNat) ≠ 1 → (((0 ≤ x4 ∧ x4 < 256)) ∧ (∀ M1_1 : Mm, M1_1 = setI M 1146 0 x4.toNat x5 → (((-2147483648 ≤ 80 * x5 ∧ 80 * x5 ≤ 2147483647) ∧ (-2147483648 ≤ (80 * x5) + x6 ∧ (80 * x5) + x6 ≤ 2147483647) ∧ (0 ≤ (80 * x5) + x6 ∧ (80 * x5) + x6 < 960) ∧ (0 ≤ x4 ∧ x4 < 256)) ∧ (∀ M1_2 : Mm, M1_2 = setI M1_1 1149 0 x4.toNat (M1_1.1 1122 0 (((80 * x5) + x6).toNat)) → (((0 ≤ x4 ∧ x4 < 256)) ∧ (∀ M1_3 : Mm, M1_3 = setI M1_2 1150 0 x4.toNat 1 → (L_1049_119 d x1 x2 x3 x4 x5 x6 0 M1_3 Q)))))))) ∧ (M.1 1122 0 (((80 * x5) + x6).toNat) = 1 → (E_1048 x5 x6 M (fun (r : Int) (M1 : Mm) => ((-2147483648 ≤ x5 + 1 ∧ x5 + 1 ≤ 2147483647)) ∧ (L_1049_46 d x1 x2 x3 x4 (x5 + 1) r M1 Q)))))) : L_1049_46 d x1 x2 x3 x4 x5 x6 M Q := by
  intro o7 o8
  show Wp (d + 1) 1049 46 [some (.inr (.inr (10, 0))), some (.inl x1), some (.inl x2), some (.inl x3), some (.inl x4), some (.inl x5), some (.inl x6), o7, o8] [] M (rV Q)
  refine Wp.path (k := 9) [] (C := [inR (80 * x5), inR ((80 * x5) + x6), 0 ≤ (80 * x5) + x6 ∧ (80 * x5) + x6 < 960]) (pc' := 60) (ls' := [some (.inr (.inr (10, 0))), some (.inl x1), some (.inl x2), some (.inl x3), some (.inl x4), some (.inl x5), some (.inl x6), o7, o8]) (st' := [.inl 1, .inl (M.1 1122 0 (((80 * x5) + x6).toNat))]) (M' := M) rfl ⟨h.1.1, h.1.2.1, h.1.2.2⟩ ?_
  replace h := h.2
  rcases Decidable.em (M.1 1122 0 (((80 * x5) + x6).toNat) = 1) with c_1 | c_1
  · replace h := h.2 c_1
    refine Wp.path (k := 1) [0] (C := [M.1 1122 0 (((80 * x5) + x6).toNat) = 1]) (pc' := 63) (ls' := [some (.inr (.inr (10, 0))), some (.inl x1), some (.inl x2), some (.inl x3), some (.inl x4), some (.inl x5), some (.inl x6), o7, o8]) (st' := []) (M' := M) rfl c_1 ?_
    refine Wp.path (k := 3) [] (C := []) (pc' := 68) (ls' := [some (.inr (.inr (10, 0))), some (.inl x1), some (.inl x2), some (.inl x3), some (.inl x4), some (.inl x5), some (.inl x6), o7, o8]) (st' := [.inl x6, .inl x5, .inr (.inr (10, 0))]) (M' := M) rfl trivial ?_
    refine Wp.call h rfl rfl (by omega) ?_
    rintro _ M1 ⟨r, rfl, h⟩
    show Wp (d + 1) 1049 71 [some (.inr (.inr (10, 0))), some (.inl x1), some (.inl x2), some (.inl x3), some (.inl x4), some (.inl x5), some (.inl x6), o7, o8] [.inl r] M1 (rV Q)
    refine Wp.path (k := 3) [] (C := [inR (x5 + 1)]) (pc' := 46) (ls' := [some (.inr (.inr (10, 0))), some (.inl x1), some (.inl x2), some (.inl x3), some (.inl x4), some (.inl (x5 + 1)), some (.inl r), o7, o8]) (st' := []) (M' := M1) rfl h.1 ?_
    replace h := h.2
    exact h _ _
  · replace h := h.1 c_1
    refine Wp.path (k := 1) [1] (C := [M.1 1122 0 (((80 * x5) + x6).toNat) ≠ 1]) (pc' := 79) (ls' := [some (.inr (.inr (10, 0))), some (.inl x1), some (.inl x2), some (.inl x3), some (.inl x4), some (.inl x5), some (.inl x6), o7, o8]) (st' := []) (M' := M) rfl c_1 ?_
    refine Wp.path (k := 5) [] (C := [0 ≤ x4 ∧ x4 < 256]) (pc' := 88) (ls' := [some (.inr (.inr (10, 0))), some (.inl x1), some (.inl x2), some (.inl x3), some (.inl x4), some (.inl x5), some (.inl x6), o7, o8]) (st' := []) (M' := setI M 1146 0 x4.toNat x5) rfl h.1 ?_
    replace h := h.2
    refine Bd (P := fun M1_1 : Mm => Wp (d + 1) 1049 88 [some (.inr (.inr (10, 0))), some (.inl x1), some (.inl x2), some (.inl x3), some (.inl x4), some (.inl x5), some (.inl x6), o7, o8] [] M1_1 (rV Q)) ?_
    intro M1_1 e_M1_1
    replace h := h M1_1 e_M1_1
    refine Wp.path (k := 12) [] (C := [inR (80 * x5), inR ((80 * x5) + x6), 0 ≤ (80 * x5) + x6 ∧ (80 * x5) + x6 < 960, 0 ≤ x4 ∧ x4 < 256]) (pc' := 108) (ls' := [some (.inr (.inr (10, 0))), some (.inl x1), some (.inl x2), some (.inl x3), some (.inl x4), some (.inl x5), some (.inl x6), o7, o8]) (st' := []) (M' := setI M1_1 1149 0 x4.toNat (M1_1.1 1122 0 (((80 * x5) + x6).toNat))) rfl ⟨h.1.1, h.1.2.1, h.1.2.2.1, h.1.2.2.2⟩ ?_
    replace h := h.2
    refine Bd (P := fun M1_2 : Mm => Wp (d + 1) 1049 108 [some (.inr (.inr (10, 0))), some (.inl x1), some (.inl x2), some (.inl x3), some (.inl x4), some (.inl x5), some (.inl x6), o7, o8] [] M1_2 (rV Q)) ?_
    intro M1_2 e_M1_2
    replace h := h M1_2 e_M1_2
    refine Wp.path (k := 5) [] (C := [0 ≤ x4 ∧ x4 < 256]) (pc' := 116) (ls' := [some (.inr (.inr (10, 0))), some (.inl x1), some (.inl x2), some (.inl x3), some (.inl x4), some (.inl x5), some (.inl x6), o7, o8]) (st' := []) (M' := setI M1_2 1150 0 x4.toNat 1) rfl h.1 ?_
    replace h := h.2
    refine Bd (P := fun M1_3 : Mm => Wp (d + 1) 1049 116 [some (.inr (.inr (10, 0))), some (.inl x1), some (.inl x2), some (.inl x3), some (.inl x4), some (.inl x5), some (.inl x6), o7, o8] [] M1_3 (rV Q)) ?_
    intro M1_3 e_M1_3
    replace h := h M1_3 e_M1_3
    refine Wp.path (k := 2) [] (C := []) (pc' := 119) (ls' := [some (.inr (.inr (10, 0))), some (.inl x1), some (.inl x2), some (.inl x3), some (.inl x4), some (.inl x5), some (.inl x6), some (.inl 0), o8]) (st' := []) (M' := M1_3) rfl trivial ?_
    exact h _
theorem s_1049_119 {d : Nat} {x1 : Int} {x2 : Int} {x3 : Int} {x4 : Int} {x5 : Int} {x6 : Int} {x7 : Int} {M : Mm} {Q : Mm → Prop} (h : ((-2147483648 ≤ x5 + 1 ∧ x5 + 1 ≤ 2147483647)) ∧ ((M.1 10 0 18 ≤ x5 + 1 → (Q M)) ∧ (x5 + 1 < M.1 10 0 18 → (((-2147483648 ≤ x5 + 1 ∧ x5 + 1 ≤ 2147483647) ∧ (0 ≤ x5 + 1 ∧ x5 + 1 < 13)) ∧ ((M.1 1120 0 ((x5 + 1).toNat) ≤ x7 → (Q M)) ∧ (x7 < M.1 1120 0 ((x5 + 1).toNat) → (((-2147483648 ≤ x5 + 1 ∧ x5 + 1 ≤ 2147483647) ∧ (-2147483648 ≤ 80 * (x5 + 1) ∧ 80 * (x5 + 1) ≤ 2147483647) ∧ (-2147483648 ≤ (80 * (x5 + 1)) + x7 ∧ (80 * (x5 + 1)) + x7 ≤ 2147483647) ∧ (0 ≤ (80 * (x5 + 1)) + x7 ∧ (80 * (x5 + 1)) + x7 < 960)) ∧ ((M.1 1121 0 (((80 * (x5 + 1)) + x7).toNat) = x6 → (∀ x8 : Int, x8 = M.1 10 0 44 → (((-2147483648 ≤ x5 + 1 ∧ x5 + 1 ≤ 2147483647)) ∧ (E_1049 d (x5 + 1) x7 x4 M (fun M1 : Mm => ((0 ≤ x8 ∧ x8 < 256) ∧ (-2147483648 ≤ (M1.1 1150 0 x8.toNat) + 1 ∧ (M1.1 1150 0 x8.toNat) + 1 ≤ 2147483647) ∧ (0 ≤ x4 ∧ x4 < 256)) ∧ (((M1.1 1150 0 x8.toNat) + 1 ≤ M1.1 1150 0 x4.toNat → ((0 ≤ x4 ∧ x4 < 256))) ∧ (M1.1 1150 0 x4.toNat < (M1.1 1150 0 x8.toNat) + 1 → ((0 ≤ x8 ∧ x8 < 256) ∧ (-2147483648 ≤ (M1.1 1150 0 x8.toNat) + 1 ∧ (M1.1 1150 0 x8.toNat) + 1 ≤ 2147483647))) ∧ (∀ b : Int, b = (if (M1.1 1150 0 x8.toNat) + 1 ≤ M1.1 1150 0 x4.toNat then (M1.1 1150 0 x4.toNat) else ((M1.1 1150 0 x8.toNat) + 1)) → (((0 ≤ x4 ∧ x4 < 256)) ∧ (∀ M1_1 : Mm, M1_1 = setI M1 1150 0 x4.toNat b → (((-2147483648 ≤ x7 + 1 ∧ x7 + 1 ≤ 2147483647)) ∧ (L_1049_119 d x1 x2 x3 x4 x5 x6 (x7 + 1) M1_1 Q))))))))))) ∧ (M.1 1121 0 (((80 * (x5 + 1)) + x7).toNat) ≠ x6 → (((-2147483648 ≤ x7 + 1 ∧ x7 + 1 ≤ 2147483647)) ∧ (L_1049_119 d x1 x2 x3 x4 x5 x6 (x7 + 1) M Q))))))))))) : L_1049_119 d x1 x2 x3 x4 x5 x6 x7 M Q := by
  intro o8
  show Wp (d + 1) 1049 119 [some (.inr (.inr (10, 0))), some (.inl x1), some (.inl x2), some (.inl x3), some (.inl x4), some (.inl x5), some (.inl x6), some (.inl x7), o8] [] M (rV Q)
  refine Wp.path (k := 5) [] (C := [inR (x5 + 1)]) (pc' := 127) (ls' := [some (.inr (.inr (10, 0))), some (.inl x1), some (.inl x2), some (.inl x3), some (.inl x4), some (.inl x5), some (.inl x6), some (.inl x7), o8]) (st' := [.inl (M.1 10 0 18), .inl (x5 + 1)]) (M' := M) rfl h.1 ?_
  replace h := h.2
  rcases Int.lt_or_le (x5 + 1) (M.1 10 0 18) with c_1 | c_1
  · replace h := h.2 c_1
    refine Wp.path (k := 1) [0] (C := [x5 + 1 < M.1 10 0 18]) (pc' := 130) (ls' := [some (.inr (.inr (10, 0))), some (.inl x1), some (.inl x2), some (.inl x3), some (.inl x4), some (.inl x5), some (.inl x6), some (.inl x7), o8]) (st' := []) (M' := M) rfl c_1 ?_
    refine Wp.path (k := 7) [] (C := [inR (x5 + 1), 0 ≤ x5 + 1 ∧ x5 + 1 < 13]) (pc' := 141) (ls' := [some (.inr (.inr (10, 0))), some (.inl x1), some (.inl x2), some (.inl x3), some (.inl x4), some (.inl x5), some (.inl x6), some (.inl x7), o8]) (st' := [.inl (M.1 1120 0 ((x5 + 1).toNat)), .inl x7]) (M' := M) rfl ⟨h.1.1, h.1.2⟩ ?_
    replace h := h.2
    rcases Int.lt_or_le (x7) (M.1 1120 0 ((x5 + 1).toNat)) with c_2 | c_2
    · replace h := h.2 c_2
      refine Wp.path (k := 1) [0] (C := [x7 < M.1 1120 0 ((x5 + 1).toNat)]) (pc' := 144) (ls' := [some (.inr (.inr (10, 0))), some (.inl x1), some (.inl x2), some (.inl x3), some (.inl x4), some (.inl x5), some (.inl x6), some (.inl x7), o8]) (st' := []) (M' := M) rfl c_2 ?_
      refine Wp.path (k := 11) [] (C := [inR (x5 + 1), inR (80 * (x5 + 1)), inR ((80 * (x5 + 1)) + x7), 0 ≤ (80 * (x5 + 1)) + x7 ∧ (80 * (x5 + 1)) + x7 < 960]) (pc' := 161) (ls' := [some (.inr (.inr (10, 0))), some (.inl x1), some (.inl x2), some (.inl x3), some (.inl x4), some (.inl x5), some (.inl x6), some (.inl x7), o8]) (st' := [.inl x6, .inl (M.1 1121 0 (((80 * (x5 + 1)) + x7).toNat))]) (M' := M) rfl ⟨h.1.1, h.1.2.1, h.1.2.2.1, h.1.2.2.2⟩ ?_
      replace h := h.2
      rcases Decidable.em (M.1 1121 0 (((80 * (x5 + 1)) + x7).toNat) = x6) with c_3 | c_3
      · replace h := h.1 c_3
        refine Wp.path (k := 1) [1] (C := [M.1 1121 0 (((80 * (x5 + 1)) + x7).toNat) = x6]) (pc' := 167) (ls' := [some (.inr (.inr (10, 0))), some (.inl x1), some (.inl x2), some (.inl x3), some (.inl x4), some (.inl x5), some (.inl x6), some (.inl x7), o8]) (st' := []) (M' := M) rfl c_3 ?_
        refine Wp.path (k := 3) [] (C := []) (pc' := 173) (ls' := [some (.inr (.inr (10, 0))), some (.inl x1), some (.inl x2), some (.inl x3), some (.inl x4), some (.inl x5), some (.inl x6), some (.inl x7), some (.inl (M.1 10 0 44))]) (st' := []) (M' := M) rfl trivial ?_
        refine Bd (P := fun x8 : Int => Wp (d + 1) 1049 173 [some (.inr (.inr (10, 0))), some (.inl x1), some (.inl x2), some (.inl x3), some (.inl x4), some (.inl x5), some (.inl x6), some (.inl x7), some (.inl x8)] [] M (rV Q)) ?_
        intro x8 e_x8
        replace h := h x8 e_x8
        refine Wp.path (k := 6) [] (C := [inR (x5 + 1)]) (pc' := 182) (ls' := [some (.inr (.inr (10, 0))), some (.inl x1), some (.inl x2), some (.inl x3), some (.inl x4), some (.inl x5), some (.inl x6), some (.inl x7), some (.inl x8)]) (st' := [.inl x4, .inl x7, .inl (x5 + 1), .inr (.inr (10, 0))]) (M' := M) rfl h.1 ?_
        replace h := h.2
        refine Wp.call h rfl rfl (Nat.le_refl _) ?_
        rintro _ M1 ⟨rfl, h⟩
        show Wp (d + 1) 1049 185 [some (.inr (.inr (10, 0))), some (.inl x1), some (.inl x2), some (.inl x3), some (.inl x4), some (.inl x5), some (.inl x6), some (.inl x7), some (.inl x8)] [] M1 (rV Q)
        refine Wp.path (k := 13) [] (C := [0 ≤ x8 ∧ x8 < 256, inR ((M1.1 1150 0 x8.toNat) + 1), 0 ≤ x4 ∧ x4 < 256]) (pc' := 207) (ls' := [some (.inr (.inr (10, 0))), some (.inl x1), some (.inl x2), some (.inl x3), some (.inl x4), some (.inl x5), some (.inl x6), some (.inl x7), some (.inl x8)]) (st' := [.inl (M1.1 1150 0 x4.toNat), .inl ((M1.1 1150 0 x8.toNat) + 1), .inl x4, .inr (.inr (1150, 0))]) (M' := M1) rfl ⟨h.1.1, h.1.2.1, h.1.2.2⟩ ?_
        replace h := h.2
        have g4_0 := h.1
        replace h := h.2
        have g4_1 := h.1
        replace h := h.2
        have k_4 : ∀ b : Int, b = (if (M1.1 1150 0 x8.toNat) + 1 ≤ M1.1 1150 0 x4.toNat then (M1.1 1150 0 x4.toNat) else ((M1.1 1150 0 x8.toNat) + 1)) → Wp (d + 1) 1049 229 [some (.inr (.inr (10, 0))), some (.inl x1), some (.inl x2), some (.inl x3), some (.inl x4), some (.inl x5), some (.inl x6), some (.inl x7), some (.inl x8)] [.inl b, .inl x4, .inr (.inr (1150, 0))] M1 (rV Q) := by
          intro b e_b
          replace h := h b e_b
          refine Wp.path (k := 1) [] (C := [0 ≤ x4 ∧ x4 < 256]) (pc' := 230) (ls' := [some (.inr (.inr (10, 0))), some (.inl x1), some (.inl x2), some (.inl x3), some (.inl x4), some (.inl x5), some (.inl x6), some (.inl x7), some (.inl x8)]) (st' := []) (M' := setI M1 1150 0 x4.toNat b) rfl h.1 ?_
          replace h := h.2
          refine Bd (P := fun M1_1 : Mm => Wp (d + 1) 1049 230 [some (.inr (.inr (10, 0))), some (.inl x1), some (.inl x2), some (.inl x3), some (.inl x4), some (.inl x5), some (.inl x6), some (.inl x7), some (.inl x8)] [] M1_1 (rV Q)) ?_
          intro M1_1 e_M1_1
          replace h := h M1_1 e_M1_1
          refine Wp.path (k := 2) [] (C := [inR (x7 + 1)]) (pc' := 119) (ls' := [some (.inr (.inr (10, 0))), some (.inl x1), some (.inl x2), some (.inl x3), some (.inl x4), some (.inl x5), some (.inl x6), some (.inl (x7 + 1)), some (.inl x8)]) (st' := []) (M' := M1_1) rfl h.1 ?_
          replace h := h.2
          exact h _
        clear h
        rcases Int.lt_or_le (M1.1 1150 0 x4.toNat) ((M1.1 1150 0 x8.toNat) + 1) with c_5 | c_5
        · refine Wp.path (k := 1) [0] (C := [M1.1 1150 0 x4.toNat < (M1.1 1150 0 x8.toNat) + 1]) (pc' := 210) (ls' := [some (.inr (.inr (10, 0))), some (.inl x1), some (.inl x2), some (.inl x3), some (.inl x4), some (.inl x5), some (.inl x6), some (.inl x7), some (.inl x8)]) (st' := [.inl x4, .inr (.inr (1150, 0))]) (M' := M1) rfl c_5 ?_
          refine Wp.path (k := 7) [] (C := [0 ≤ x8 ∧ x8 < 256, inR ((M1.1 1150 0 x8.toNat) + 1)]) (pc' := 229) (ls' := [some (.inr (.inr (10, 0))), some (.inl x1), some (.inl x2), some (.inl x3), some (.inl x4), some (.inl x5), some (.inl x6), some (.inl x7), some (.inl x8)]) (st' := [.inl ((M1.1 1150 0 x8.toNat) + 1), .inl x4, .inr (.inr (1150, 0))]) (M' := M1) rfl ⟨(g4_1 c_5).1, (g4_1 c_5).2⟩ ?_
          exact k_4 _ (by rw [if_neg (Int.not_le.mpr c_5)])
        · refine Wp.path (k := 1) [1] (C := [(M1.1 1150 0 x8.toNat) + 1 ≤ M1.1 1150 0 x4.toNat]) (pc' := 222) (ls' := [some (.inr (.inr (10, 0))), some (.inl x1), some (.inl x2), some (.inl x3), some (.inl x4), some (.inl x5), some (.inl x6), some (.inl x7), some (.inl x8)]) (st' := [.inl x4, .inr (.inr (1150, 0))]) (M' := M1) rfl c_5 ?_
          refine Wp.path (k := 4) [] (C := [0 ≤ x4 ∧ x4 < 256]) (pc' := 229) (ls' := [some (.inr (.inr (10, 0))), some (.inl x1), some (.inl x2), some (.inl x3), some (.inl x4), some (.inl x5), some (.inl x6), some (.inl x7), some (.inl x8)]) (st' := [.inl (M1.1 1150 0 x4.toNat), .inl x4, .inr (.inr (1150, 0))]) (M' := M1) rfl (g4_0 c_5) ?_
          exact k_4 _ (by rw [if_pos c_5])
      · replace h := h.2 c_3
        refine Wp.path (k := 1) [0] (C := [M.1 1121 0 (((80 * (x5 + 1)) + x7).toNat) ≠ x6]) (pc' := 164) (ls' := [some (.inr (.inr (10, 0))), some (.inl x1), some (.inl x2), some (.inl x3), some (.inl x4), some (.inl x5), some (.inl x6), some (.inl x7), o8]) (st' := []) (M' := M) rfl c_3 ?_
        refine Wp.path (k := 3) [] (C := [inR (x7 + 1)]) (pc' := 119) (ls' := [some (.inr (.inr (10, 0))), some (.inl x1), some (.inl x2), some (.inl x3), some (.inl x4), some (.inl x5), some (.inl x6), some (.inl (x7 + 1)), o8]) (st' := []) (M' := M) rfl h.1 ?_
        replace h := h.2
        exact h _
    · replace h := h.1 c_2
      refine Wp.path (k := 1) [1] (C := [M.1 1120 0 ((x5 + 1).toNat) ≤ x7]) (pc' := 236) (ls' := [some (.inr (.inr (10, 0))), some (.inl x1), some (.inl x2), some (.inl x3), some (.inl x4), some (.inl x5), some (.inl x6), some (.inl x7), o8]) (st' := []) (M' := M) rfl c_2 ?_
      exact Wp.ret rfl ⟨rfl, h⟩
  · replace h := h.1 c_1
    refine Wp.path (k := 1) [1] (C := [M.1 10 0 18 ≤ x5 + 1]) (pc' := 236) (ls' := [some (.inr (.inr (10, 0))), some (.inl x1), some (.inl x2), some (.inl x3), some (.inl x4), some (.inl x5), some (.inl x6), some (.inl x7), o8]) (st' := []) (M' := M) rfl c_1 ?_
    exact Wp.ret rfl ⟨rfl, h⟩
/-- X10_works -/
def E_1050 (M : Mm) (Q : Mm → Prop) : Prop := Ev 14 1050 [.inr (.inr (10, 0))] M (rV Q)
theorem m_1050 {M : Mm} {Q Q1 : Mm → Prop} (h : E_1050 M Q) (k : (∀ M1, Q M1 → Q1 M1)) : E_1050 M Q1 := Ev.mono h (fun v M1 h => ⟨h.1, k _ h.2⟩)
def L_1050_20 (x1 : Int) (M : Mm) (Q : Mm → Prop) : Prop := ∀ o2 o3 : Option Vv, Wp 14 1050 20 [some (.inr (.inr (10, 0))), some (.inl x1), o2, o3] [] M (rV Q)
def L_1050_30 (x1 : Int) (x2 : Int) (x3 : Int) (M : Mm) (Q : Mm → Prop) : Prop := Wp 14 1050 30 [some (.inr (.inr (10, 0))), some (.inl x1), some (.inl x2), some (.inl x3)] [] M (rV Q)
def L_1050_89 (x1 : Int) (M : Mm) (Q : Mm → Prop) : Prop := ∀ o2 o3 : Option Vv, Wp 14 1050 89 [some (.inr (.inr (10, 0))), some (.inl x1), o2, o3] [] M (rV Q)
def L_1050_100 (x1 : Int) (M : Mm) (Q : Mm → Prop) : Prop := ∀ o2 o3 : Option Vv, Wp 14 1050 100 [some (.inr (.inr (10, 0))), some (.inl x1), o2, o3] [] M (rV Q)
def L_1050_159 (x1 : Int) (M : Mm) (Q : Mm → Prop) : Prop := ∀ o2 o3 : Option Vv, Wp 14 1050 159 [some (.inr (.inr (10, 0))), some (.inl x1), o2, o3] [] M (rV Q)
def L_1050_199 (x1 : Int) (M : Mm) (Q : Mm → Prop) : Prop := ∀ o2 o3 : Option Vv, Wp 14 1050 199 [some (.inr (.inr (10, 0))), some (.inl x1), o2, o3] [] M (rV Q)
def L_1050_237 (x1 : Int) (M : Mm) (Q : Mm → Prop) : Prop := ∀ o2 o3 : Option Vv, Wp 14 1050 237 [some (.inr (.inr (10, 0))), some (.inl x1), o2, o3] [] M (rV Q)
theorem s_1050_0 {M : Mm} {Q : Mm → Prop} (h : ((M.1 10 0 9 = 0 → (∀ M1 : Mm, M1 = setI M 10 0 9 1 → (E_1028 2 M1 (fun M1_1 : Mm => (L_1050_20 0 M1_1 Q))))) ∧ (M.1 10 0 9 ≠ 0 → (Q M)))) : E_1050 M Q := by
  show Wp 14 1050 0 [some (.inr (.inr (10, 0))), none, none, none] [] M (rV Q)
  refine Wp.path (k := 2) [] (C := []) (pc' := 4) (ls' := [some (.inr (.inr (10, 0))), none, none, none]) (st' := [.inl (M.1 10 0 9)]) (M' := M) rfl trivial ?_
  rcases Decidable.em (M.1 10 0 9 = 0) with c_1 | c_1
  · replace h := h.1 c_1
    refine Wp.path (k := 1) [1] (C := [M.1 10 0 9 = 0]) (pc' := 8) (ls' := [some (.inr (.inr (10, 0))), none, none, none]) (st' := []) (M' := M) rfl c_1 ?_
    refine Wp.path (k := 3) [] (C := [(1 : Int) = 0 ∨ (1 : Int) = 1]) (pc' := 13) (ls' := [some (.inr (.inr (10, 0))), none, none, none]) (st' := []) (M' := setI M 10 0 9 1) rfl (Or.inr rfl) ?_
    refine Bd (P := fun M1 : Mm => Wp 14 1050 13 [some (.inr (.inr (10, 0))), none, none, none] [] M1 (rV Q)) ?_
    intro M1 e_M1
    replace h := h M1 e_M1
    refine Wp.path (k := 2) [] (C := []) (pc' := 15) (ls' := [some (.inr (.inr (10, 0))), none, none, none]) (st' := [.inl 2, .inr (.inr (10, 0))]) (M' := M1) rfl trivial ?_
    refine Wp.call h rfl rfl (by decide) ?_
    rintro _ M1_1 ⟨rfl, h⟩
    show Wp 14 1050 18 [some (.inr (.inr (10, 0))), none, none, none] [] M1_1 (rV Q)
    refine Wp.path (k := 2) [] (C := []) (pc' := 20) (ls' := [some (.inr (.inr (10, 0))), some (.inl 0), none, none]) (st' := []) (M' := M1_1) rfl trivial ?_
    exact h _ _
  · replace h := h.2 c_1
    refine Wp.path (k := 1) [0] (C := [M.1 10 0 9 ≠ 0]) (pc' := 7) (ls' := [some (.inr (.inr (10, 0))), none, none, none]) (st' := []) (M' := M) rfl c_1 ?_
    exact Wp.ret rfl ⟨rfl, h⟩
theorem s_1050_20 {x1 : Int} {M : Mm} {Q : Mm → Prop} (h : ((26 ≤ x1 → (E_1028 4 M (fun M1 : Mm => (∀ M1_1 : Mm, M1_1 = setI M1 10 0 18 0 → (E_1027 48 M1_1 (fun M1_2 : Mm => L_1050_89 x1 M1_2 Q)))))) ∧ (x1 < 26 → (L_1050_30 x1 0 0 M Q)))) : L_1050_20 x1 M Q := by
  intro o2 o3
  show Wp 14 1050 20 [some (.inr (.inr (10, 0))), some (.inl x1), o2, o3] [] M (rV Q)
  refine Wp.path (k := 2) [] (C := []) (pc' := 23) (ls' := [some (.inr (.inr (10, 0))), some (.inl x1), o2, o3]) (st' := [.inl 26, .inl x1]) (M' := M) rfl trivial ?_
  rcases Int.lt_or_le (x1) (26) with c_1 | c_1
  · replace h := h.2 c_1
    refine Wp.path (k := 1) [0] (C := [x1 < 26]) (pc' := 26) (ls' := [some (.inr (.inr (10, 0))), some (.inl x1), o2, o3]) (st' := []) (M' := M) rfl c_1 ?_
    refine Wp.path (k := 4) [] (C := []) (pc' := 30) (ls' := [some (.inr (.inr (10, 0))), some (.inl x1), some (.inl 0), some (.inl 0)]) (st' := []) (M' := M) rfl trivial ?_
    exact h
  · replace h := h.1 c_1
    refine Wp.path (k := 1) [1] (C := [26 ≤ x1]) (pc' := 73) (ls' := [some (.inr (.inr (10, 0))), some (.inl x1), o2, o3]) (st' := []) (M' := M) rfl c_1 ?_
    refine Wp.path (k := 2) [] (C := []) (pc' := 75) (ls' := [some (.inr (.inr (10, 0))), some (.inl x1), o2, o3]) (st' := [.inl 4, .inr (.inr (10, 0))]) (M' := M) rfl trivial ?_
    refine Wp.call h rfl rfl (by decide) ?_
    rintro _ M1 ⟨rfl, h⟩
    show Wp 14 1050 78 [some (.inr (.inr (10, 0))), some (.inl x1), o2, o3] [] M1 (rV Q)
    refine Wp.path (k := 3) [] (C := []) (pc' := 83) (ls' := [some (.inr (.inr (10, 0))), some (.inl x1), o2, o3]) (st' := []) (M' := setI M1 10 0 18 0) rfl trivial ?_
    refine Bd (P := fun M1_1 : Mm => Wp 14 1050 83 [some (.inr (.inr (10, 0))), some (.inl x1), o2, o3] [] M1_1 (rV Q)) ?_
    intro M1_1 e_M1_1
    replace h := h M1_1 e_M1_1
    refine Wp.path (k := 2) [] (C := []) (pc' := 86) (ls' := [some (.inr (.inr (10, 0))), some (.inl x1), o2, o3]) (st' := [.inl 48, .inr (.inr (10, 0))]) (M' := M1_1) rfl trivial ?_
    refine Wp.call h rfl rfl (by decide) ?_
    rintro _ M1_2 ⟨rfl, h⟩
    show Wp 14 1050 89 [some (.inr (.inr (10, 0))), some (.inl x1), o2, o3] [] M1_2 (rV Q)
    exact h _ _
theorem s_1050_30 {x1 : Int} {x2 : Int} {x3 : Int} {M : Mm} {Q : Mm → Prop} (h : ((24 ≤ x3 → (((0 ≤ x1 ∧ x1 < 26)) ∧ (∀ M1_1 : Mm, M1_1 = setI M 1151 0 x1.toNat x2 → (E_1027 24 M1_1 (fun M1_2 : Mm => ((-2147483648 ≤ x1 + 1 ∧ x1 + 1 ≤ 2147483647)) ∧ (L_1050_20 (x1 + 1) M1_2 Q)))))) ∧ (x3 < 24 → (((0 ≤ x3 ∧ x3 < 48)) ∧ (E_1003 (M.2 1117 0 x3.toNat) M (fun (r : Int) (M1 : Mm) => ((-2147483648 ≤ x2 + r ∧ x2 + r ≤ 2147483647)) ∧ (∀ x2_1 : Int, x2_1 = x2 + r → (((-2147483648 ≤ x3 + 1 ∧ x3 + 1 ≤ 2147483647)) ∧ (L_1050_30 x1 x2_1 (x3 + 1) M1 Q))))))))) : L_1050_30 x1 x2 x3 M Q := by
  show Wp 14 1050 30 [some (.inr (.inr (10, 0))), some (.inl x1), some (.inl x2), some (.inl x3)] [] M (rV Q)
  refine Wp.path (k := 2) [] (C := []) (pc' := 33) (ls' := [some (.inr (.inr (10, 0))), some (.inl x1), some (.inl x2), some (.inl x3)]) (st' := [.inl 24, .inl x3]) (M' := M) rfl trivial ?_
  rcases Int.lt_or_le (x3) (24) with c_1 | c_1
  · replace h := h.2 c_1
    refine Wp.path (k := 1) [0] (C := [x3 < 24]) (pc' := 36) (ls' := [some (.inr (.inr (10, 0))), some (.inl x1), some (.inl x2), some (.inl x3)]) (st' := []) (M' := M) rfl c_1 ?_
    refine Wp.path (k := 5) [] (C := [0 ≤ x3 ∧ x3 < 48]) (pc' := 43) (ls' := [some (.inr (.inr (10, 0))), some (.inl x1), some (.inl x2), some (.inl x3)]) (st' := [.inr (.inl (M.2 1117 0 x3.toNat)), .inl x2]) (M' := M) rfl h.1 ?_
    replace h := h.2
    refine Wp.call h rfl rfl (by decide) ?_
    rintro _ M1 ⟨r, rfl, h⟩
    show Wp 14 1050 46 [some (.inr (.inr (10, 0))), some (.inl x1), some (.inl x2), some (.inl x3)] [.inl r, .inl x2] M1 (rV Q)
    refine Wp.path (k := 2) [] (C := [inR (x2 + r)]) (pc' := 48) (ls' := [some (.inr (.inr (10, 0))), some (.inl x1), some (.inl (x2 + r)), some (.inl x3)]) (st' := []) (M' := M1) rfl h.1 ?_
    replace h := h.2
    refine Bd (P := fun x2_1 : Int => Wp 14 1050 48 [some (.inr (.inr (10, 0))), some (.inl x1), some (.inl x2_1), some (.inl x3)] [] M1 (rV Q)) ?_
    intro x2_1 e_x2_1
    replace h := h x2_1 e_x2_1
    refine Wp.path (k := 2) [] (C := [inR (x3 + 1)]) (pc' := 30) (ls' := [some (.inr (.inr (10, 0))), some (.inl x1), some (.inl x2_1), some (.inl (x3 + 1))]) (st' := []) (M' := M1) rfl h.1 ?_
    replace h := h.2
    exact h
  · replace h := h.1 c_1
    refine Wp.path (k := 1) [1] (C := [24 ≤ x3]) (pc' := 54) (ls' := [some (.inr (.inr (10, 0))), some (.inl x1), some (.inl x2), some (.inl x3)]) (st' := []) (M' := M) rfl c_1 ?_
    refine Wp.path (k := 5) [] (C := [0 ≤ x1 ∧ x1 < 26]) (pc' := 61) (ls' := [some (.inr (.inr (10, 0))), some (.inl x1), some (.inl x2), some (.inl x3)]) (st' := []) (M' := setI M 1151 0 x1.toNat x2) rfl h.1 ?_
    replace h := h.2
    refine Bd (P := fun M1_1 : Mm => Wp 14 1050 61 [some (.inr (.inr (10, 0))), some (.inl x1), some (.inl x2), some (.inl x3)] [] M1_1 (rV Q)) ?_
    intro M1_1 e_M1_1
    replace h := h M1_1 e_M1_1
    refine Wp.path (k := 2) [] (C := []) (pc' := 64) (ls' := [some (.inr (.inr (10, 0))), some (.inl x1), some (.inl x2), some (.inl x3)]) (st' := [.inl 24, .inr (.inr (10, 0))]) (M' := M1_1) rfl trivial ?_
    refine Wp.call h rfl rfl (by decide) ?_
    rintro _ M1_2 ⟨rfl, h⟩
    show Wp 14 1050 67 [some (.inr (.inr (10, 0))), some (.inl x1), some (.inl x2), some (.inl x3)] [] M1_2 (rV Q)
    refine Wp.path (k := 2) [] (C := [inR (x1 + 1)]) (pc' := 20) (ls' := [some (.inr (.inr (10, 0))), some (.inl (x1 + 1)), some (.inl x2), some (.inl x3)]) (st' := []) (M' := M1_2) rfl h.1 ?_
    replace h := h.2
    exact h _ _
theorem s_1050_89 {x1 : Int} {M : Mm} {Q : Mm → Prop} (h : (E_1029 48 M (fun (r : Int) (M1 : Mm) => ((r ≠ 0 → (L_1050_159 0 M1 Q)) ∧ (r = 0 → (L_1050_100 0 M1 Q)))))) : L_1050_89 x1 M Q := by
  intro o2 o3
  show Wp 14 1050 89 [some (.inr (.inr (10, 0))), some (.inl x1), o2, o3] [] M (rV Q)
  refine Wp.path (k := 2) [] (C := []) (pc' := 92) (ls' := [some (.inr (.inr (10, 0))), some (.inl x1), o2, o3]) (st' := [.inl 48, .inr (.inr (10, 0))]) (M' := M) rfl trivial ?_
  refine Wp.call h rfl rfl (by decide) ?_
  rintro _ M1 ⟨r, rfl, h⟩
  show Wp 14 1050 95 [some (.inr (.inr (10, 0))), some (.inl x1), o2, o3] [.inl r] M1 (rV Q)
  rcases Decidable.em (r = 0) with c_1 | c_1
  · replace h := h.2 c_1
    refine Wp.path (k := 1) [0] (C := [r = 0]) (pc' := 98) (ls' := [some (.inr (.inr (10, 0))), some (.inl x1), o2, o3]) (st' := []) (M' := M1) rfl c_1 ?_
    refine Wp.path (k := 2) [] (C := []) (pc' := 100) (ls' := [some (.inr (.inr (10, 0))), some (.inl 0), o2, o3]) (st' := []) (M' := M1) rfl trivial ?_
    exact h _ _
  · replace h := h.1 c_1
    refine Wp.path (k := 1) [1] (C := [r ≠ 0]) (pc' := 157) (ls' := [some (.inr (.inr (10, 0))), some (.inl x1), o2, o3]) (st' := []) (M' := M1) rfl c_1 ?_
    refine Wp.path (k := 2) [] (C := []) (pc' := 159) (ls' := [some (.inr (.inr (10, 0))), some (.inl 0), o2, o3]) (st' := []) (M' := M1) rfl trivial ?_
    exact h _ _
theorem s_1050_100 {x1 : Int} {M : Mm} {Q : Mm → Prop} (h : ((48 ≤ x1 → (((-2147483648 ≤ (M.1 10 0 18) + 1 ∧ (M.1 10 0 18) + 1 ≤ 2147483647)) ∧ (∀ M1_1 : Mm, M1_1 = setI M 10 0 18 ((M.1 10 0 18) + 1) → (E_1027 48 M1_1 (fun M1_2 : Mm => (E_1027 48 M1_2 (fun M1_3 : Mm => (L_1050_89 x1 M1_3 Q)))))))) ∧ (x1 < 48 → (((-2147483648 ≤ 48 * (M.1 10 0 18) ∧ 48 * (M.1 10 0 18) ≤ 2147483647) ∧ (-2147483648 ≤ (48 * (M.1 10 0 18)) + x1 ∧ (48 * (M.1 10 0 18)) + x1 ≤ 2147483647) ∧ (0 ≤ x1 ∧ x1 < 48) ∧ (0 ≤ (48 * (M.1 10 0 18)) + x1 ∧ (48 * (M.1 10 0 18)) + x1 < 576)) ∧ (∀ M1 : Mm, M1 = setJ M 1116 0 (((48 * (M.1 10 0 18)) + x1).toNat) (M.2 1117 0 x1.toNat) → (((-2147483648 ≤ x1 + 1 ∧ x1 + 1 ≤ 2147483647)) ∧ (L_1050_100 (x1 + 1) M1 Q))))))) : L_1050_100 x1 M Q := by
  intro o2 o3
  show Wp 14 1050 100 [some (.inr (.inr (10, 0))), some (.inl x1), o2, o3] [] M (rV Q)
  refine Wp.path (k := 2) [] (C := []) (pc' := 103) (ls' := [some (.inr (.inr (10, 0))), some (.inl x1), o2, o3]) (st' := [.inl 48, .inl x1]) (M' := M) rfl trivial ?_
  rcases Int.lt_or_le (x1) (48) with c_1 | c_1
  · replace h := h.2 c_1
    refine Wp.path (k := 1) [0] (C := [x1 < 48]) (pc' := 106) (ls' := [some (.inr (.inr (10, 0))), some (.inl x1), o2, o3]) (st' := []) (M' := M) rfl c_1 ?_
    refine Wp.path (k := 13) [] (C := [inR (48 * (M.1 10 0 18)), inR ((48 * (M.1 10 0 18)) + x1), 0 ≤ x1 ∧ x1 < 48, 0 ≤ (48 * (M.1 10 0 18)) + x1 ∧ (48 * (M.1 10 0 18)) + x1 < 576]) (pc' := 126) (ls' := [some (.inr (.inr (10, 0))), some (.inl x1), o2, o3]) (st' := []) (M' := setJ M 1116 0 (((48 * (M.1 10 0 18)) + x1).toNat) (M.2 1117 0 x1.toNat)) rfl ⟨h.1.1, h.1.2.1, h.1.2.2.1, h.1.2.2.2⟩ ?_
    replace h := h.2
    refine Bd (P := fun M1 : Mm => Wp 14 1050 126 [some (.inr (.inr (10, 0))), some (.inl x1), o2, o3] [] M1 (rV Q)) ?_
    intro M1 e_M1
    replace h := h M1 e_M1
    refine Wp.path (k := 2) [] (C := [inR (x1 + 1)]) (pc' := 100) (ls' := [some (.inr (.inr (10, 0))), some (.inl (x1 + 1)), o2, o3]) (st' := []) (M' := M1) rfl h.1 ?_
    replace h := h.2
    exact h _ _
  · replace h := h.1 c_1
    refine Wp.path (k := 1) [1] (C := [48 ≤ x1]) (pc' := 132) (ls' := [some (.inr (.inr (10, 0))), some (.inl x1), o2, o3]) (st' := []) (M' := M) rfl c_1 ?_
    refine Wp.path (k := 6) [] (C := [inR ((M.1 10 0 18) + 1)]) (pc' := 142) (ls' := [some (.inr (.inr (10, 0))), some (.inl x1), o2, o3]) (st' := []) (M' := setI M 10 0 18 ((M.1 10 0 18) + 1)) rfl h.1 ?_
    replace h := h.2
    refine Bd (P := fun M1_1 : Mm => Wp 14 1050 142 [some (.inr (.inr (10, 0))), some (.inl x1), o2, o3] [] M1_1 (rV Q)) ?_
    intro M1_1 e_M1_1
    replace h := h M1_1 e_M1_1
    refine Wp.path (k := 2) [] (C := []) (pc' := 145) (ls' := [some (.inr (.inr (10, 0))), some (.inl x1), o2, o3]) (st' := [.inl 48, .inr (.inr (10, 0))]) (M' := M1_1) rfl trivial ?_
    refine Wp.call h rfl rfl (by decide) ?_
    rintro _ M1_2 ⟨rfl, h⟩
    show Wp 14 1050 148 [some (.inr (.inr (10, 0))), some (.inl x1), o2, o3] [] M1_2 (rV Q)
    refine Wp.path (k := 2) [] (C := []) (pc' := 151) (ls' := [some (.inr (.inr (10, 0))), some (.inl x1), o2, o3]) (st' := [.inl 48, .inr (.inr (10, 0))]) (M' := M1_2) rfl trivial ?_
    refine Wp.call h rfl rfl (by decide) ?_
    rintro _ M1_3 ⟨rfl, h⟩
    show Wp 14 1050 154 [some (.inr (.inr (10, 0))), some (.inl x1), o2, o3] [] M1_3 (rV Q)
    refine Wp.path (k := 1) [] (C := []) (pc' := 89) (ls' := [some (.inr (.inr (10, 0))), some (.inl x1), o2, o3]) (st' := []) (M' := M1_3) rfl trivial ?_
    exact h _ _
theorem s_1050_159 {x1 : Int} {M : Mm} {Q : Mm → Prop} (h : ((M.1 10 0 18 ≤ x1 → (((0 ≤ M.1 10 0 18 ∧ M.1 10 0 18 < 13)) ∧ (∀ M1_2 : Mm, M1_2 = setI M 1120 0 ((M.1 10 0 18).toNat) 0 → (E_1042 M1_2 (fun M1_3 : Mm => (L_1050_199 0 M1_3 Q)))))) ∧ (x1 < M.1 10 0 18 → (E_1031 x1 M (fun M1 : Mm => (E_1034 x1 M1 (fun M1_1 : Mm => ((-2147483648 ≤ x1 + 1 ∧ x1 + 1 ≤ 2147483647)) ∧ (L_1050_159 (x1 + 1) M1_1 Q)))))))) : L_1050_159 x1 M Q := by
  intro o2 o3
  show Wp 14 1050 159 [some (.inr (.inr (10, 0))), some (.inl x1), o2, o3] [] M (rV Q)
  refine Wp.path (k := 3) [] (C := []) (pc' := 164) (ls' := [some (.inr (.inr (10, 0))), some (.inl x1), o2, o3]) (st' := [.inl (M.1 10 0 18), .inl x1]) (M' := M) rfl trivial ?_
  rcases Int.lt_or_le (x1) (M.1 10 0 18) with c_1 | c_1
  · replace h := h.2 c_1
    refine Wp.path (k := 1) [0] (C := [x1 < M.1 10 0 18]) (pc' := 167) (ls' := [some (.inr (.inr (10, 0))), some (.inl x1), o2, o3]) (st' := []) (M' := M) rfl c_1 ?_
    refine Wp.path (k := 2) [] (C := []) (pc' := 169) (ls' := [some (.inr (.inr (10, 0))), some (.inl x1), o2, o3]) (st' := [.inl x1, .inr (.inr (10, 0))]) (M' := M) rfl trivial ?_
    refine Wp.call h rfl rfl (by decide) ?_
    rintro _ M1 ⟨rfl, h⟩
    show Wp 14 1050 172 [some (.inr (.inr (10, 0))), some (.inl x1), o2, o3] [] M1 (rV Q)
    refine Wp.path (k := 2) [] (C := []) (pc' := 174) (ls' := [some (.inr (.inr (10, 0))), some (.inl x1), o2, o3]) (st' := [.inl x1, .inr (.inr (10, 0))]) (M' := M1) rfl trivial ?_
    refine Wp.call h rfl rfl (by decide) ?_
    rintro _ M1_1 ⟨rfl, h⟩
    show Wp 14 1050 177 [some (.inr (.inr (10, 0))), some (.inl x1), o2, o3] [] M1_1 (rV Q)
    refine Wp.path (k := 2) [] (C := [inR (x1 + 1)]) (pc' := 159) (ls' := [some (.inr (.inr (10, 0))), some (.inl (x1 + 1)), o2, o3]) (st' := []) (M' := M1_1) rfl h.1 ?_
    replace h := h.2
    exact h _ _
  · replace h := h.1 c_1
    refine Wp.path (k := 1) [1] (C := [M.1 10 0 18 ≤ x1]) (pc' := 183) (ls' := [some (.inr (.inr (10, 0))), some (.inl x1), o2, o3]) (st' := []) (M' := M) rfl c_1 ?_
    refine Wp.path (k := 6) [] (C := [0 ≤ M.1 10 0 18 ∧ M.1 10 0 18 < 13]) (pc' := 193) (ls' := [some (.inr (.inr (10, 0))), some (.inl x1), o2, o3]) (st' := []) (M' := setI M 1120 0 ((M.1 10 0 18).toNat) 0) rfl h.1 ?_
    replace h := h.2
    refine Bd (P := fun M1_2 : Mm => Wp 14 1050 193 [some (.inr (.inr (10, 0))), some (.inl x1), o2, o3] [] M1_2 (rV Q)) ?_
    intro M1_2 e_M1_2
    replace h := h M1_2 e_M1_2
    refine Wp.path (k := 1) [] (C := []) (pc' := 194) (ls' := [some (.inr (.inr (10, 0))), some (.inl x1), o2, o3]) (st' := [.inr (.inr (10, 0))]) (M' := M1_2) rfl trivial ?_
    refine Wp.call h rfl rfl (by decide) ?_
    rintro _ M1_3 ⟨rfl, h⟩
    show Wp 14 1050 197 [some (.inr (.inr (10, 0))), some (.inl x1), o2, o3] [] M1_3 (rV Q)
    refine Wp.path (k := 2) [] (C := []) (pc' := 199) (ls' := [some (.inr (.inr (10, 0))), some (.inl 0), o2, o3]) (st' := []) (M' := M1_3) rfl trivial ?_
    exact h _ _
theorem s_1050_199 {x1 : Int} {M : Mm} {Q : Mm → Prop} (h : ((144 ≤ x1 → (∀ M1_2 : Mm, M1_2 = setI M 10 0 44 0 → (L_1050_237 0 M1_2 Q))) ∧ (x1 < 144 → (((-2147483648 ≤ x1 ∧ x1 ≤ 2147483647)) ∧ (∀ d : Int, d = Int.tmod x1 12 → (((-2147483648 ≤ x1 ∧ x1 ≤ 2147483647)) ∧ (∀ d_1 : Int, d_1 = Int.tdiv x1 12 → (E_1044 d d_1 M (fun (r : Int) (M1 : Mm) => ((0 ≤ x1 ∧ x1 < 144)) ∧ (∀ M1_1 : Mm, M1_1 = setI M1 1140 0 x1.toNat r → (((-2147483648 ≤ x1 + 1 ∧ x1 + 1 ≤ 2147483647)) ∧ (L_1050_199 (x1 + 1) M1_1 Q)))))))))))) : L_1050_199 x1 M Q := by
  intro o2 o3
  show Wp 14 1050 199 [some (.inr (.inr (10, 0))), some (.inl x1), o2, o3] [] M (rV Q)
  refine Wp.path (k := 2) [] (C := []) (pc' := 203) (ls' := [some (.inr (.inr (10, 0))), some (.inl x1), o2, o3]) (st' := [.inl 144, .inl x1]) (M' := M) rfl trivial ?_
  rcases Int.lt_or_le (x1) (144) with c_1 | c_1
  · replace h := h.2 c_1
    refine Wp.path (k := 1) [0] (C := [x1 < 144]) (pc' := 206) (ls' := [some (.inr (.inr (10, 0))), some (.inl x1), o2, o3]) (st' := []) (M' := M) rfl c_1 ?_
    refine Wp.path (k := 7) [] (C := [inR x1 ∧ 0 < 12 ∧ inR 12]) (pc' := 216) (ls' := [some (.inr (.inr (10, 0))), some (.inl x1), o2, o3]) (st' := [.inl (Int.tmod x1 12), .inr (.inr (10, 0)), .inl x1, .inr (.inr (1140, 0))]) (M' := M) rfl ⟨h.1, by decide, ⟨by decide, by decide⟩⟩ ?_
    replace h := h.2
    refine Bd (P := fun d : Int => Wp 14 1050 216 [some (.inr (.inr (10, 0))), some (.inl x1), o2, o3] [.inl d, .inr (.inr (10, 0)), .inl x1, .inr (.inr (1140, 0))] M (rV Q)) ?_
    intro d e_d
    replace h := h d e_d
    refine Wp.path (k := 3) [] (C := [inR x1 ∧ 0 < 12 ∧ inR 12]) (pc' := 220) (ls' := [some (.inr (.inr (10, 0))), some (.inl x1), o2, o3]) (st' := [.inl (Int.tdiv x1 12), .inl d, .inr (.inr (10, 0)), .inl x1, .inr (.inr (1140, 0))]) (M' := M) rfl ⟨h.1, by decide, ⟨by decide, by decide⟩⟩ ?_
    replace h := h.2
    refine Bd (P := fun d_1 : Int => Wp 14 1050 220 [some (.inr (.inr (10, 0))), some (.inl x1), o2, o3] [.inl d_1, .inl d, .inr (.inr (10, 0)), .inl x1, .inr (.inr (1140, 0))] M (rV Q)) ?_
    intro d_1 e_d_1
    replace h := h d_1 e_d_1
    refine Wp.call h rfl rfl (by decide) ?_
    rintro _ M1 ⟨r, rfl, h⟩
    show Wp 14 1050 223 [some (.inr (.inr (10, 0))), some (.inl x1), o2, o3] [.inl r, .inl x1, .inr (.inr (1140, 0))] M1 (rV Q)
    refine Wp.path (k := 1) [] (C := [0 ≤ x1 ∧ x1 < 144]) (pc' := 224) (ls' := [some (.inr (.inr (10, 0))), some (.inl x1), o2, o3]) (st' := []) (M' := setI M1 1140 0 x1.toNat r) rfl h.1 ?_
    replace h := h.2
    refine Bd (P := fun M1_1 : Mm => Wp 14 1050 224 [some (.inr (.inr (10, 0))), some (.inl x1), o2, o3] [] M1_1 (rV Q)) ?_
    intro M1_1 e_M1_1
    replace h := h M1_1 e_M1_1
    refine Wp.path (k := 2) [] (C := [inR (x1 + 1)]) (pc' := 199) (ls' := [some (.inr (.inr (10, 0))), some (.inl (x1 + 1)), o2, o3]) (st' := []) (M' := M1_1) rfl h.1 ?_
    replace h := h.2
    exact h _ _
  · replace h := h.1 c_1
    refine Wp.path (k := 1) [1] (C := [144 ≤ x1]) (pc' := 230) (ls' := [some (.inr (.inr (10, 0))), some (.inl x1), o2, o3]) (st' := []) (M' := M) rfl c_1 ?_
    refine Wp.path (k := 3) [] (C := []) (pc' := 235) (ls' := [some (.inr (.inr (10, 0))), some (.inl x1), o2, o3]) (st' := []) (M' := setI M 10 0 44 0) rfl trivial ?_
    refine Bd (P := fun M1_2 : Mm => Wp 14 1050 235 [some (.inr (.inr (10, 0))), some (.inl x1), o2, o3] [] M1_2 (rV Q)) ?_
    intro M1_2 e_M1_2
    replace h := h M1_2 e_M1_2
    refine Wp.path (k := 2) [] (C := []) (pc' := 237) (ls' := [some (.inr (.inr (10, 0))), some (.inl 0), o2, o3]) (st' := []) (M' := M1_2) rfl trivial ?_
    exact h _ _
theorem s_1050_237 {x1 : Int} {M : Mm} {Q : Mm → Prop} (h : ((M.1 10 0 18 ≤ 0 → (Q M)) ∧ (0 < M.1 10 0 18 → ((M.1 1120 0 0 ≤ x1 → (Q M)) ∧ (x1 < M.1 1120 0 0 → (E_1049 13 0 x1 (-1) M (fun M1 : Mm => ((-2147483648 ≤ x1 + 1 ∧ x1 + 1 ≤ 2147483647)) ∧ (L_1050_237 (x1 + 1) M1 Q)))))))) : L_1050_237 x1 M Q := by
  intro o2 o3
  show Wp 14 1050 237 [some (.inr (.inr (10, 0))), some (.inl x1), o2, o3] [] M (rV Q)
  refine Wp.path (k := 2) [] (C := []) (pc' := 241) (ls' := [some (.inr (.inr (10, 0))), some (.inl x1), o2, o3]) (st' := [.inl (M.1 10 0 18)]) (M' := M) rfl trivial ?_
  rcases Int.lt_or_le (0) (M.1 10 0 18) with c_1 | c_1
  · replace h := h.2 c_1
    refine Wp.path (k := 1) [0] (C := [0 < M.1 10 0 18]) (pc' := 244) (ls' := [some (.inr (.inr (10, 0))), some (.inl x1), o2, o3]) (st' := []) (M' := M) rfl c_1 ?_
    refine Wp.path (k := 5) [] (C := [0 ≤ 0 ∧ 0 < 13]) (pc' := 251) (ls' := [some (.inr (.inr (10, 0))), some (.inl x1), o2, o3]) (st' := [.inl (M.1 1120 0 0), .inl x1]) (M' := M) rfl ⟨by decide, by decide⟩ ?_
    rcases Int.lt_or_le (x1) (M.1 1120 0 0) with c_2 | c_2
    · replace h := h.2 c_2
      refine Wp.path (k := 1) [0] (C := [x1 < M.1 1120 0 0]) (pc' := 254) (ls' := [some (.inr (.inr (10, 0))), some (.inl x1), o2, o3]) (st' := []) (M' := M) rfl c_2 ?_
      refine Wp.path (k := 4) [] (C := []) (pc' := 258) (ls' := [some (.inr (.inr (10, 0))), some (.inl x1), o2, o3]) (st' := [.inl (-1), .inl x1, .inl 0, .inr (.inr (10, 0))]) (M' := M) rfl trivial ?_
      refine Wp.call h rfl rfl (by decide) ?_
      rintro _ M1 ⟨rfl, h⟩
      show Wp 14 1050 261 [some (.inr (.inr (10, 0))), some (.inl x1), o2, o3] [] M1 (rV Q)
      refine Wp.path (k := 2) [] (C := [inR (x1 + 1)]) (pc' := 237) (ls' := [some (.inr (.inr (10, 0))), some (.inl (x1 + 1)), o2, o3]) (st' := []) (M' := M1) rfl h.1 ?_
      replace h := h.2
      exact h _ _
    · replace h := h.1 c_2
      refine Wp.path (k := 1) [1] (C := [M.1 1120 0 0 ≤ x1]) (pc' := 267) (ls' := [some (.inr (.inr (10, 0))), some (.inl x1), o2, o3]) (st' := []) (M' := M) rfl c_2 ?_
      exact Wp.ret rfl ⟨rfl, h⟩
  · replace h := h.1 c_1
    refine Wp.path (k := 1) [1] (C := [M.1 10 0 18 ≤ 0]) (pc' := 267) (ls' := [some (.inr (.inr (10, 0))), some (.inl x1), o2, o3]) (st' := []) (M' := M) rfl c_1 ?_
    exact Wp.ret rfl ⟨rfl, h⟩
/-- X10_edges -/
def E_1051 (M : Mm) (Q : Int → Mm → Prop) : Prop := Ev 15 1051 [.inr (.inr (10, 0))] M (rI Q)
theorem m_1051 {M : Mm} {Q Q1 : Int → Mm → Prop} (h : E_1051 M Q) (k : (∀ r M1, Q r M1 → Q1 r M1)) : E_1051 M Q1 := Ev.mono h (fun v M1 ⟨r, h1, h2⟩ => ⟨r, h1, k _ _ h2⟩)
theorem s_1051_0 {M : Mm} {Q : Int → Mm → Prop} (h : (∀ M1 : Mm, M1 = setI M 10 0 0 0 → (E_1050 M1 (fun M1_1 : Mm => (Q (M1_1.1 10 0 34) M1_1))))) : E_1051 M Q := by
  show Wp 15 1051 0 [some (.inr (.inr (10, 0)))] [] M (rI Q)
  refine Wp.path (k := 3) [] (C := []) (pc' := 5) (ls' := [some (.inr (.inr (10, 0)))]) (st' := []) (M' := setI M 10 0 0 0) rfl trivial ?_
  refine Bd (P := fun M1 : Mm => Wp 15 1051 5 [some (.inr (.inr (10, 0)))] [] M1 (rI Q)) ?_
  intro M1 e_M1
  replace h := h M1 e_M1
  refine Wp.path (k := 1) [] (C := []) (pc' := 6) (ls' := [some (.inr (.inr (10, 0)))]) (st' := [.inr (.inr (10, 0))]) (M' := M1) rfl trivial ?_
  refine Wp.call h rfl rfl (by decide) ?_
  rintro _ M1_1 ⟨rfl, h⟩
  show Wp 15 1051 9 [some (.inr (.inr (10, 0)))] [] M1_1 (rI Q)
  refine Wp.path (k := 2) [] (C := []) (pc' := 13) (ls' := [some (.inr (.inr (10, 0)))]) (st' := [.inl (M1_1.1 10 0 34)]) (M' := M1_1) rfl trivial ?_
  exact Wp.ret rfl ⟨_, rfl, h⟩
/-- X10_edge -/
def E_1052 (x1 : Int) (x2 : Int) (M : Mm) (Q : Int → Mm → Prop) : Prop := Ev 15 1052 [.inr (.inr (10, 0)), .inl x1, .inl x2] M (rI Q)
theorem m_1052 {x1 : Int} {x2 : Int} {M : Mm} {Q Q1 : Int → Mm → Prop} (h : E_1052 x1 x2 M Q) (k : (∀ r M1, Q r M1 → Q1 r M1)) : E_1052 x1 x2 M Q1 := Ev.mono h (fun v M1 ⟨r, h1, h2⟩ => ⟨r, h1, k _ _ h2⟩)
def L_1052_128 (x1 : Int) (x2 : Int) (x3 : Int) (x4 : Int) (M : Mm) (Q : Int → Mm → Prop) : Prop := Wp 15 1052 128 [some (.inr (.inr (10, 0))), some (.inl x1), some (.inl x2), some (.inl x3), some (.inl x4)] [] M (rI Q)
theorem s_1052_0 {x1 : Int} {x2 : Int} {M : Mm} {Q : Int → Mm → Prop} (h : (E_1050 M (fun M1 : Mm => ((-2147483648 ≤ (M1.1 10 0 34) - 1 ∧ (M1.1 10 0 34) - 1 ≤ 2147483647)) ∧ ((inV x1 0 ((M1.1 10 0 34) - 1) ≠ 0 → (∀ b : Int, b = (if inV x2 0 6 ≠ 0 then 0 else 2) → (∀ M1_3 : Mm, M1_3 = setI M1 10 0 0 b → ((M1_3.1 10 0 0 = 0 → ((x2 = 0 → (((0 ≤ x1 ∧ x1 < 640)) ∧ (Q (M1_3.1 1135 0 x1.toNat) M1_3))) ∧ (x2 = 1 → (((0 ≤ x1 ∧ x1 < 640)) ∧ (Q (M1_3.1 1136 0 x1.toNat) M1_3))) ∧ (x2 = 2 → (((0 ≤ x1 ∧ x1 < 640)) ∧ (Q (M1_3.1 1137 0 x1.toNat) M1_3))) ∧ (x2 = 3 → (((0 ≤ x1 ∧ x1 < 640)) ∧ (Q (M1_3.1 1138 0 x1.toNat) M1_3))) ∧ (x2 = 4 → (((0 ≤ x1 ∧ x1 < 640)) ∧ (Q (M1_3.1 1139 0 x1.toNat) M1_3))) ∧ (x2 = 5 → (L_1052_128 x1 x2 0 0 M1_3 Q)) ∧ (x2 ≠ 0 ∧ x2 ≠ 1 ∧ x2 ≠ 2 ∧ x2 ≠ 3 ∧ x2 ≠ 4 ∧ x2 ≠ 5 → (E_1047 x1 M1_3 (fun (r_1 : Int) (M1_4 : Mm) => (Q r_1 M1_4)))))) ∧ (M1_3.1 10 0 0 ≠ 0 → (Q 0 M1_3)))))) ∧ (inV x1 0 ((M1.1 10 0 34) - 1) = 0 → (∀ M1_1 : Mm, M1_1 = setI M1 10 0 0 1 → ((M1_1.1 10 0 0 = 0 → ((x2 = 0 → (((0 ≤ x1 ∧ x1 < 640)) ∧ (Q (M1_1.1 1135 0 x1.toNat) M1_1))) ∧ (x2 = 1 → (((0 ≤ x1 ∧ x1 < 640)) ∧ (Q (M1_1.1 1136 0 x1.toNat) M1_1))) ∧ (x2 = 2 → (((0 ≤ x1 ∧ x1 < 640)) ∧ (Q (M1_1.1 1137 0 x1.toNat) M1_1))) ∧ (x2 = 3 → (((0 ≤ x1 ∧ x1 < 640)) ∧ (Q (M1_1.1 1138 0 x1.toNat) M1_1))) ∧ (x2 = 4 → (((0 ≤ x1 ∧ x1 < 640)) ∧ (Q (M1_1.1 1139 0 x1.toNat) M1_1))) ∧ (x2 = 5 → (L_1052_128 x1 x2 0 0 M1_1 Q)) ∧ (x2 ≠ 0 ∧ x2 ≠ 1 ∧ x2 ≠ 2 ∧ x2 ≠ 3 ∧ x2 ≠ 4 ∧ x2 ≠ 5 → (E_1047 x1 M1_1 (fun (r : Int) (M1_2 : Mm) => (Q r M1_2)))))) ∧ (M1_1.1 10 0 0 ≠ 0 → (Q 0 M1_1))))))))) : E_1052 x1 x2 M Q := by
  show Wp 15 1052 0 [some (.inr (.inr (10, 0))), some (.inl x1), some (.inl x2), none, none] [] M (rI Q)
  refine Wp.path (k := 1) [] (C := []) (pc' := 1) (ls' := [some (.inr (.inr (10, 0))), some (.inl x1), some (.inl x2), none, none]) (st' := [.inr (.inr (10, 0))]) (M' := M) rfl trivial ?_
  refine Wp.call h rfl rfl (by decide) ?_
  rintro _ M1 ⟨rfl, h⟩
  show Wp 15 1052 4 [some (.inr (.inr (10, 0))), some (.inl x1), some (.inl x2), none, none] [] M1 (rI Q)
  refine Wp.path (k := 7) [] (C := [inR ((M1.1 10 0 34) - 1)]) (pc' := 13) (ls' := [some (.inr (.inr (10, 0))), some (.inl x1), some (.inl x2), none, none]) (st' := [.inl ((M1.1 10 0 34) - 1), .inl 0, .inl x1, .inr (.inr (10, 0))]) (M' := M1) rfl h.1 ?_
  replace h := h.2
  refine Wp.call (e1002) rfl rfl (by decide) ?_
  rintro v_ M_ ⟨eM_, ev_⟩
  rw [eM_, ev_]
  clear eM_ ev_ v_ M_
  show Wp 15 1052 16 [some (.inr (.inr (10, 0))), some (.inl x1), some (.inl x2), none, none] [.inl (inV x1 0 ((M1.1 10 0 34) - 1)), .inr (.inr (10, 0))] M1 (rI Q)
  rcases Decidable.em (inV x1 0 ((M1.1 10 0 34) - 1) = 0) with c_1 | c_1
  · replace h := h.2 c_1
    refine Wp.path (k := 1) [0] (C := [inV x1 0 ((M1.1 10 0 34) - 1) = 0]) (pc' := 19) (ls' := [some (.inr (.inr (10, 0))), some (.inl x1), some (.inl x2), none, none]) (st' := [.inr (.inr (10, 0))]) (M' := M1) rfl c_1 ?_
    refine Wp.path (k := 3) [] (C := []) (pc' := 41) (ls' := [some (.inr (.inr (10, 0))), some (.inl x1), some (.inl x2), none, none]) (st' := []) (M' := setI M1 10 0 0 1) rfl trivial ?_
    refine Bd (P := fun M1_1 : Mm => Wp 15 1052 41 [some (.inr (.inr (10, 0))), some (.inl x1), some (.inl x2), none, none] [] M1_1 (rI Q)) ?_
    intro M1_1 e_M1_1
    replace h := h M1_1 e_M1_1
    refine Wp.path (k := 2) [] (C := []) (pc' := 45) (ls' := [some (.inr (.inr (10, 0))), some (.inl x1), some (.inl x2), none, none]) (st' := [.inl (M1_1.1 10 0 0)]) (M' := M1_1) rfl trivial ?_
    rcases Decidable.em (M1_1.1 10 0 0 = 0) with c_2 | c_2
    · replace h := h.1 c_2
      refine Wp.path (k := 1) [1] (C := [M1_1.1 10 0 0 = 0]) (pc' := 50) (ls' := [some (.inr (.inr (10, 0))), some (.inl x1), some (.inl x2), none, none]) (st' := []) (M' := M1_1) rfl c_2 ?_
      refine Wp.path (k := 1) [] (C := []) (pc' := 51) (ls' := [some (.inr (.inr (10, 0))), some (.inl x1), some (.inl x2), none, none]) (st' := [.inl x2]) (M' := M1_1) rfl trivial ?_
      rcases Decidable.em (x2 = 0) with c_3 | c_3
      · replace h := h.1 c_3
        refine Wp.path (k := 1) [88] (C := [tswT 51 112 0 5 #[37, 44, 51, 58, 65, 72] x2 = 88]) (pc' := 88) (ls' := [some (.inr (.inr (10, 0))), some (.inl x1), some (.inl x2), none, none]) (st' := []) (M' := M1_1) rfl (by rw [c_3]; rfl) ?_
        refine Wp.path (k := 4) [] (C := [0 ≤ x1 ∧ x1 < 640]) (pc' := 94) (ls' := [some (.inr (.inr (10, 0))), some (.inl x1), some (.inl x2), none, none]) (st' := [.inl (M1_1.1 1135 0 x1.toNat)]) (M' := M1_1) rfl h.1 ?_
        replace h := h.2
        exact Wp.ret rfl ⟨_, rfl, h⟩
      replace h := h.2
      rcases Decidable.em (x2 = 1) with c_4 | c_4
      · replace h := h.1 c_4
        refine Wp.path (k := 1) [95] (C := [tswT 51 112 0 5 #[37, 44, 51, 58, 65, 72] x2 = 95]) (pc' := 95) (ls' := [some (.inr (.inr (10, 0))), some (.inl x1), some (.inl x2), none, none]) (st' := []) (M' := M1_1) rfl (by rw [c_4]; rfl) ?_
        refine Wp.path (k := 4) [] (C := [0 ≤ x1 ∧ x1 < 640]) (pc' := 101) (ls' := [some (.inr (.inr (10, 0))), some (.inl x1), some (.inl x2), none, none]) (st' := [.inl (M1_1.1 1136 0 x1.toNat)]) (M' := M1_1) rfl h.1 ?_
        replace h := h.2
        exact Wp.ret rfl ⟨_, rfl, h⟩
      replace h := h.2
      rcases Decidable.em (x2 = 2) with c_5 | c_5
      · replace h := h.1 c_5
        refine Wp.path (k := 1) [102] (C := [tswT 51 112 0 5 #[37, 44, 51, 58, 65, 72] x2 = 102]) (pc' := 102) (ls' := [some (.inr (.inr (10, 0))), some (.inl x1), some (.inl x2), none, none]) (st' := []) (M' := M1_1) rfl (by rw [c_5]; rfl) ?_
        refine Wp.path (k := 4) [] (C := [0 ≤ x1 ∧ x1 < 640]) (pc' := 108) (ls' := [some (.inr (.inr (10, 0))), some (.inl x1), some (.inl x2), none, none]) (st' := [.inl (M1_1.1 1137 0 x1.toNat)]) (M' := M1_1) rfl h.1 ?_
        replace h := h.2
        exact Wp.ret rfl ⟨_, rfl, h⟩
      replace h := h.2
      rcases Decidable.em (x2 = 3) with c_6 | c_6
      · replace h := h.1 c_6
        refine Wp.path (k := 1) [109] (C := [tswT 51 112 0 5 #[37, 44, 51, 58, 65, 72] x2 = 109]) (pc' := 109) (ls' := [some (.inr (.inr (10, 0))), some (.inl x1), some (.inl x2), none, none]) (st' := []) (M' := M1_1) rfl (by rw [c_6]; rfl) ?_
        refine Wp.path (k := 4) [] (C := [0 ≤ x1 ∧ x1 < 640]) (pc' := 115) (ls' := [some (.inr (.inr (10, 0))), some (.inl x1), some (.inl x2), none, none]) (st' := [.inl (M1_1.1 1138 0 x1.toNat)]) (M' := M1_1) rfl h.1 ?_
        replace h := h.2
        exact Wp.ret rfl ⟨_, rfl, h⟩
      replace h := h.2
      rcases Decidable.em (x2 = 4) with c_7 | c_7
      · replace h := h.1 c_7
        refine Wp.path (k := 1) [116] (C := [tswT 51 112 0 5 #[37, 44, 51, 58, 65, 72] x2 = 116]) (pc' := 116) (ls' := [some (.inr (.inr (10, 0))), some (.inl x1), some (.inl x2), none, none]) (st' := []) (M' := M1_1) rfl (by rw [c_7]; rfl) ?_
        refine Wp.path (k := 4) [] (C := [0 ≤ x1 ∧ x1 < 640]) (pc' := 122) (ls' := [some (.inr (.inr (10, 0))), some (.inl x1), some (.inl x2), none, none]) (st' := [.inl (M1_1.1 1139 0 x1.toNat)]) (M' := M1_1) rfl h.1 ?_
        replace h := h.2
        exact Wp.ret rfl ⟨_, rfl, h⟩
      replace h := h.2
      rcases Decidable.em (x2 = 5) with c_8 | c_8
      · replace h := h.1 c_8
        refine Wp.path (k := 1) [123] (C := [tswT 51 112 0 5 #[37, 44, 51, 58, 65, 72] x2 = 123]) (pc' := 123) (ls' := [some (.inr (.inr (10, 0))), some (.inl x1), some (.inl x2), none, none]) (st' := []) (M' := M1_1) rfl (by rw [c_8]; rfl) ?_
        refine Wp.path (k := 4) [] (C := []) (pc' := 128) (ls' := [some (.inr (.inr (10, 0))), some (.inl x1), some (.inl x2), some (.inl 0), some (.inl 0)]) (st' := []) (M' := M1_1) rfl trivial ?_
        exact h
      replace h := h.2
      replace h := h ⟨c_3, c_4, c_5, c_6, c_7, c_8⟩
      refine Wp.path (k := 1) [163] (C := [tswT 51 112 0 5 #[37, 44, 51, 58, 65, 72] x2 = 163]) (pc' := 163) (ls' := [some (.inr (.inr (10, 0))), some (.inl x1), some (.inl x2), none, none]) (st' := []) (M' := M1_1) rfl ((tsw_d (by omega)).trans rfl) ?_
      refine Wp.path (k := 2) [] (C := []) (pc' := 165) (ls' := [some (.inr (.inr (10, 0))), some (.inl x1), some (.inl x2), none, none]) (st' := [.inl x1, .inr (.inr (10, 0))]) (M' := M1_1) rfl trivial ?_
      refine Wp.call h rfl rfl (by decide) ?_
      rintro _ M1_2 ⟨r, rfl, h⟩
      show Wp 15 1052 168 [some (.inr (.inr (10, 0))), some (.inl x1), some (.inl x2), none, none] [.inl r] M1_2 (rI Q)
      exact Wp.ret rfl ⟨_, rfl, h⟩
    · replace h := h.2 c_2
      refine Wp.path (k := 1) [0] (C := [M1_1.1 10 0 0 ≠ 0]) (pc' := 48) (ls' := [some (.inr (.inr (10, 0))), some (.inl x1), some (.inl x2), none, none]) (st' := []) (M' := M1_1) rfl c_2 ?_
      refine Wp.path (k := 1) [] (C := []) (pc' := 49) (ls' := [some (.inr (.inr (10, 0))), some (.inl x1), some (.inl x2), none, none]) (st' := [.inl 0]) (M' := M1_1) rfl trivial ?_
      exact Wp.ret rfl ⟨_, rfl, h⟩
  · replace h := h.1 c_1
    refine Wp.path (k := 1) [1] (C := [inV x1 0 ((M1.1 10 0 34) - 1) ≠ 0]) (pc' := 23) (ls' := [some (.inr (.inr (10, 0))), some (.inl x1), some (.inl x2), none, none]) (st' := [.inr (.inr (10, 0))]) (M' := M1) rfl c_1 ?_
    refine Wp.path (k := 3) [] (C := []) (pc' := 27) (ls' := [some (.inr (.inr (10, 0))), some (.inl x1), some (.inl x2), none, none]) (st' := [.inl 6, .inl 0, .inl x2, .inr (.inr (10, 0))]) (M' := M1) rfl trivial ?_
    refine Wp.call (e1002) rfl rfl (by decide) ?_
    rintro v_ M_ ⟨eM_, ev_⟩
    rw [eM_, ev_]
    clear eM_ ev_ v_ M_
    show Wp 15 1052 30 [some (.inr (.inr (10, 0))), some (.inl x1), some (.inl x2), none, none] [.inl (inV x2 0 6), .inr (.inr (10, 0))] M1 (rI Q)
    have k_16 : ∀ b : Int, b = (if inV x2 0 6 ≠ 0 then 0 else 2) → Wp 15 1052 38 [some (.inr (.inr (10, 0))), some (.inl x1), some (.inl x2), none, none] [.inl b, .inr (.inr (10, 0))] M1 (rI Q) := by
      intro b e_b
      replace h := h b e_b
      refine Wp.path (k := 1) [] (C := []) (pc' := 41) (ls' := [some (.inr (.inr (10, 0))), some (.inl x1), some (.inl x2), none, none]) (st' := []) (M' := setI M1 10 0 0 b) rfl trivial ?_
      refine Bd (P := fun M1_3 : Mm => Wp 15 1052 41 [some (.inr (.inr (10, 0))), some (.inl x1), some (.inl x2), none, none] [] M1_3 (rI Q)) ?_
      intro M1_3 e_M1_3
      replace h := h M1_3 e_M1_3
      refine Wp.path (k := 2) [] (C := []) (pc' := 45) (ls' := [some (.inr (.inr (10, 0))), some (.inl x1), some (.inl x2), none, none]) (st' := [.inl (M1_3.1 10 0 0)]) (M' := M1_3) rfl trivial ?_
      rcases Decidable.em (M1_3.1 10 0 0 = 0) with c_9 | c_9
      · replace h := h.1 c_9
        refine Wp.path (k := 1) [1] (C := [M1_3.1 10 0 0 = 0]) (pc' := 50) (ls' := [some (.inr (.inr (10, 0))), some (.inl x1), some (.inl x2), none, none]) (st' := []) (M' := M1_3) rfl c_9 ?_
        refine Wp.path (k := 1) [] (C := []) (pc' := 51) (ls' := [some (.inr (.inr (10, 0))), some (.inl x1), some (.inl x2), none, none]) (st' := [.inl x2]) (M' := M1_3) rfl trivial ?_
        rcases Decidable.em (x2 = 0) with c_10 | c_10
        · replace h := h.1 c_10
          refine Wp.path (k := 1) [88] (C := [tswT 51 112 0 5 #[37, 44, 51, 58, 65, 72] x2 = 88]) (pc' := 88) (ls' := [some (.inr (.inr (10, 0))), some (.inl x1), some (.inl x2), none, none]) (st' := []) (M' := M1_3) rfl (by rw [c_10]; rfl) ?_
          refine Wp.path (k := 4) [] (C := [0 ≤ x1 ∧ x1 < 640]) (pc' := 94) (ls' := [some (.inr (.inr (10, 0))), some (.inl x1), some (.inl x2), none, none]) (st' := [.inl (M1_3.1 1135 0 x1.toNat)]) (M' := M1_3) rfl h.1 ?_
          replace h := h.2
          exact Wp.ret rfl ⟨_, rfl, h⟩
        replace h := h.2
        rcases Decidable.em (x2 = 1) with c_11 | c_11
        · replace h := h.1 c_11
          refine Wp.path (k := 1) [95] (C := [tswT 51 112 0 5 #[37, 44, 51, 58, 65, 72] x2 = 95]) (pc' := 95) (ls' := [some (.inr (.inr (10, 0))), some (.inl x1), some (.inl x2), none, none]) (st' := []) (M' := M1_3) rfl (by rw [c_11]; rfl) ?_
          refine Wp.path (k := 4) [] (C := [0 ≤ x1 ∧ x1 < 640]) (pc' := 101) (ls' := [some (.inr (.inr (10, 0))), some (.inl x1), some (.inl x2), none, none]) (st' := [.inl (M1_3.1 1136 0 x1.toNat)]) (M' := M1_3) rfl h.1 ?_
          replace h := h.2
          exact Wp.ret rfl ⟨_, rfl, h⟩
        replace h := h.2
        rcases Decidable.em (x2 = 2) with c_12 | c_12
        · replace h := h.1 c_12
          refine Wp.path (k := 1) [102] (C := [tswT 51 112 0 5 #[37, 44, 51, 58, 65, 72] x2 = 102]) (pc' := 102) (ls' := [some (.inr (.inr (10, 0))), some (.inl x1), some (.inl x2), none, none]) (st' := []) (M' := M1_3) rfl (by rw [c_12]; rfl) ?_
          refine Wp.path (k := 4) [] (C := [0 ≤ x1 ∧ x1 < 640]) (pc' := 108) (ls' := [some (.inr (.inr (10, 0))), some (.inl x1), some (.inl x2), none, none]) (st' := [.inl (M1_3.1 1137 0 x1.toNat)]) (M' := M1_3) rfl h.1 ?_
          replace h := h.2
          exact Wp.ret rfl ⟨_, rfl, h⟩
        replace h := h.2
        rcases Decidable.em (x2 = 3) with c_13 | c_13
        · replace h := h.1 c_13
          refine Wp.path (k := 1) [109] (C := [tswT 51 112 0 5 #[37, 44, 51, 58, 65, 72] x2 = 109]) (pc' := 109) (ls' := [some (.inr (.inr (10, 0))), some (.inl x1), some (.inl x2), none, none]) (st' := []) (M' := M1_3) rfl (by rw [c_13]; rfl) ?_
          refine Wp.path (k := 4) [] (C := [0 ≤ x1 ∧ x1 < 640]) (pc' := 115) (ls' := [some (.inr (.inr (10, 0))), some (.inl x1), some (.inl x2), none, none]) (st' := [.inl (M1_3.1 1138 0 x1.toNat)]) (M' := M1_3) rfl h.1 ?_
          replace h := h.2
          exact Wp.ret rfl ⟨_, rfl, h⟩
        replace h := h.2
        rcases Decidable.em (x2 = 4) with c_14 | c_14
        · replace h := h.1 c_14
          refine Wp.path (k := 1) [116] (C := [tswT 51 112 0 5 #[37, 44, 51, 58, 65, 72] x2 = 116]) (pc' := 116) (ls' := [some (.inr (.inr (10, 0))), some (.inl x1), some (.inl x2), none, none]) (st' := []) (M' := M1_3) rfl (by rw [c_14]; rfl) ?_
          refine Wp.path (k := 4) [] (C := [0 ≤ x1 ∧ x1 < 640]) (pc' := 122) (ls' := [some (.inr (.inr (10, 0))), some (.inl x1), some (.inl x2), none, none]) (st' := [.inl (M1_3.1 1139 0 x1.toNat)]) (M' := M1_3) rfl h.1 ?_
          replace h := h.2
          exact Wp.ret rfl ⟨_, rfl, h⟩
        replace h := h.2
        rcases Decidable.em (x2 = 5) with c_15 | c_15
        · replace h := h.1 c_15
          refine Wp.path (k := 1) [123] (C := [tswT 51 112 0 5 #[37, 44, 51, 58, 65, 72] x2 = 123]) (pc' := 123) (ls' := [some (.inr (.inr (10, 0))), some (.inl x1), some (.inl x2), none, none]) (st' := []) (M' := M1_3) rfl (by rw [c_15]; rfl) ?_
          refine Wp.path (k := 4) [] (C := []) (pc' := 128) (ls' := [some (.inr (.inr (10, 0))), some (.inl x1), some (.inl x2), some (.inl 0), some (.inl 0)]) (st' := []) (M' := M1_3) rfl trivial ?_
          exact h
        replace h := h.2
        replace h := h ⟨c_10, c_11, c_12, c_13, c_14, c_15⟩
        refine Wp.path (k := 1) [163] (C := [tswT 51 112 0 5 #[37, 44, 51, 58, 65, 72] x2 = 163]) (pc' := 163) (ls' := [some (.inr (.inr (10, 0))), some (.inl x1), some (.inl x2), none, none]) (st' := []) (M' := M1_3) rfl ((tsw_d (by omega)).trans rfl) ?_
        refine Wp.path (k := 2) [] (C := []) (pc' := 165) (ls' := [some (.inr (.inr (10, 0))), some (.inl x1), some (.inl x2), none, none]) (st' := [.inl x1, .inr (.inr (10, 0))]) (M' := M1_3) rfl trivial ?_
        refine Wp.call h rfl rfl (by decide) ?_
        rintro _ M1_4 ⟨r_1, rfl, h⟩
        show Wp 15 1052 168 [some (.inr (.inr (10, 0))), some (.inl x1), some (.inl x2), none, none] [.inl r_1] M1_4 (rI Q)
        exact Wp.ret rfl ⟨_, rfl, h⟩
      · replace h := h.2 c_9
        refine Wp.path (k := 1) [0] (C := [M1_3.1 10 0 0 ≠ 0]) (pc' := 48) (ls' := [some (.inr (.inr (10, 0))), some (.inl x1), some (.inl x2), none, none]) (st' := []) (M' := M1_3) rfl c_9 ?_
        refine Wp.path (k := 1) [] (C := []) (pc' := 49) (ls' := [some (.inr (.inr (10, 0))), some (.inl x1), some (.inl x2), none, none]) (st' := [.inl 0]) (M' := M1_3) rfl trivial ?_
        exact Wp.ret rfl ⟨_, rfl, h⟩
    clear h
    rcases Decidable.em (inV x2 0 6 = 0) with c_17 | c_17
    · refine Wp.path (k := 1) [0] (C := [inV x2 0 6 = 0]) (pc' := 33) (ls' := [some (.inr (.inr (10, 0))), some (.inl x1), some (.inl x2), none, none]) (st' := [.inr (.inr (10, 0))]) (M' := M1) rfl c_17 ?_
      refine Wp.path (k := 2) [] (C := []) (pc' := 38) (ls' := [some (.inr (.inr (10, 0))), some (.inl x1), some (.inl x2), none, none]) (st' := [.inl 2, .inr (.inr (10, 0))]) (M' := M1) rfl trivial ?_
      exact k_16 _ (by rw [if_neg (not_not_intro c_17)])
    · refine Wp.path (k := 1) [1] (C := [inV x2 0 6 ≠ 0]) (pc' := 37) (ls' := [some (.inr (.inr (10, 0))), some (.inl x1), some (.inl x2), none, none]) (st' := [.inr (.inr (10, 0))]) (M' := M1) rfl c_17 ?_
      refine Wp.path (k := 1) [] (C := []) (pc' := 38) (ls' := [some (.inr (.inr (10, 0))), some (.inl x1), some (.inl x2), none, none]) (st' := [.inl 0, .inr (.inr (10, 0))]) (M' := M1) rfl trivial ?_
      exact k_16 _ (by rw [if_pos c_17])
theorem s_1052_128 {x1 : Int} {x2 : Int} {x3 : Int} {x4 : Int} {M : Mm} {Q : Int → Mm → Prop} (h : ((144 ≤ x4 → (Q x3 M)) ∧ (x4 < 144 → (((0 ≤ x4 ∧ x4 < 144)) ∧ (∀ b : Int, b = (if M.1 1140 0 x4.toNat ≠ x1 then 0 else 1) → (((-2147483648 ≤ x3 + b ∧ x3 + b ≤ 2147483647)) ∧ (∀ x3_1 : Int, x3_1 = x3 + b → (((-2147483648 ≤ x4 + 1 ∧ x4 + 1 ≤ 2147483647)) ∧ (L_1052_128 x1 x2 x3_1 (x4 + 1) M Q))))))))) : L_1052_128 x1 x2 x3 x4 M Q := by
  show Wp 15 1052 128 [some (.inr (.inr (10, 0))), some (.inl x1), some (.inl x2), some (.inl x3), some (.inl x4)] [] M (rI Q)
  refine Wp.path (k := 2) [] (C := []) (pc' := 133) (ls' := [some (.inr (.inr (10, 0))), some (.inl x1), some (.inl x2), some (.inl x3), some (.inl x4)]) (st' := [.inl 144, .inl x4]) (M' := M) rfl trivial ?_
  rcases Int.lt_or_le (x4) (144) with c_1 | c_1
  · replace h := h.2 c_1
    refine Wp.path (k := 1) [0] (C := [x4 < 144]) (pc' := 136) (ls' := [some (.inr (.inr (10, 0))), some (.inl x1), some (.inl x2), some (.inl x3), some (.inl x4)]) (st' := []) (M' := M) rfl c_1 ?_
    refine Wp.path (k := 6) [] (C := [0 ≤ x4 ∧ x4 < 144]) (pc' := 145) (ls' := [some (.inr (.inr (10, 0))), some (.inl x1), some (.inl x2), some (.inl x3), some (.inl x4)]) (st' := [.inl x1, .inl (M.1 1140 0 x4.toNat), .inl x3]) (M' := M) rfl h.1 ?_
    replace h := h.2
    have k_2 : ∀ b : Int, b = (if M.1 1140 0 x4.toNat ≠ x1 then 0 else 1) → Wp 15 1052 153 [some (.inr (.inr (10, 0))), some (.inl x1), some (.inl x2), some (.inl x3), some (.inl x4)] [.inl b, .inl x3] M (rI Q) := by
      intro b e_b
      replace h := h b e_b
      refine Wp.path (k := 2) [] (C := [inR (x3 + b)]) (pc' := 155) (ls' := [some (.inr (.inr (10, 0))), some (.inl x1), some (.inl x2), some (.inl (x3 + b)), some (.inl x4)]) (st' := []) (M' := M) rfl h.1 ?_
      replace h := h.2
      refine Bd (P := fun x3_1 : Int => Wp 15 1052 155 [some (.inr (.inr (10, 0))), some (.inl x1), some (.inl x2), some (.inl x3_1), some (.inl x4)] [] M (rI Q)) ?_
      intro x3_1 e_x3_1
      replace h := h x3_1 e_x3_1
      refine Wp.path (k := 2) [] (C := [inR (x4 + 1)]) (pc' := 128) (ls' := [some (.inr (.inr (10, 0))), some (.inl x1), some (.inl x2), some (.inl x3_1), some (.inl (x4 + 1))]) (st' := []) (M' := M) rfl h.1 ?_
      replace h := h.2
      exact h
    clear h
    rcases Decidable.em (M.1 1140 0 x4.toNat = x1) with c_3 | c_3
    · refine Wp.path (k := 1) [0] (C := [M.1 1140 0 x4.toNat = x1]) (pc' := 148) (ls' := [some (.inr (.inr (10, 0))), some (.inl x1), some (.inl x2), some (.inl x3), some (.inl x4)]) (st' := [.inl x3]) (M' := M) rfl c_3 ?_
      refine Wp.path (k := 2) [] (C := []) (pc' := 153) (ls' := [some (.inr (.inr (10, 0))), some (.inl x1), some (.inl x2), some (.inl x3), some (.inl x4)]) (st' := [.inl 1, .inl x3]) (M' := M) rfl trivial ?_
      exact k_2 _ (by rw [if_neg (not_not_intro c_3)])
    · refine Wp.path (k := 1) [1] (C := [M.1 1140 0 x4.toNat ≠ x1]) (pc' := 152) (ls' := [some (.inr (.inr (10, 0))), some (.inl x1), some (.inl x2), some (.inl x3), some (.inl x4)]) (st' := [.inl x3]) (M' := M) rfl c_3 ?_
      refine Wp.path (k := 1) [] (C := []) (pc' := 153) (ls' := [some (.inr (.inr (10, 0))), some (.inl x1), some (.inl x2), some (.inl x3), some (.inl x4)]) (st' := [.inl 0, .inl x3]) (M' := M) rfl trivial ?_
      exact k_2 _ (by rw [if_pos c_3])
  · replace h := h.1 c_1
    refine Wp.path (k := 1) [1] (C := [144 ≤ x4]) (pc' := 161) (ls' := [some (.inr (.inr (10, 0))), some (.inl x1), some (.inl x2), some (.inl x3), some (.inl x4)]) (st' := []) (M' := M) rfl c_1 ?_
    refine Wp.path (k := 1) [] (C := []) (pc' := 162) (ls' := [some (.inr (.inr (10, 0))), some (.inl x1), some (.inl x2), some (.inl x3), some (.inl x4)]) (st' := [.inl x3]) (M' := M) rfl trivial ?_
    exact Wp.ret rfl ⟨_, rfl, h⟩
/-- X10_corners -/
def E_1053 (M : Mm) (Q : Int → Mm → Prop) : Prop := Ev 15 1053 [.inr (.inr (10, 0))] M (rI Q)
theorem m_1053 {M : Mm} {Q Q1 : Int → Mm → Prop} (h : E_1053 M Q) (k : (∀ r M1, Q r M1 → Q1 r M1)) : E_1053 M Q1 := Ev.mono h (fun v M1 ⟨r, h1, h2⟩ => ⟨r, h1, k _ _ h2⟩)
def L_1053_11 (x1 : Int) (M : Mm) (Q : Int → Mm → Prop) : Prop := ∀ o2 o3 o4 o5 : Option Vv, Wp 15 1053 11 [some (.inr (.inr (10, 0))), some (.inl x1), o2, o3, o4, o5] [] M (rI Q)
def L_1053_35 (x1 : Int) (x2 : Int) (M : Mm) (Q : Int → Mm → Prop) : Prop := ∀ o3 o4 o5 : Option Vv, Wp 15 1053 35 [some (.inr (.inr (10, 0))), some (.inl x1), some (.inl x2), o3, o4, o5] [] M (rI Q)
theorem s_1053_0 {M : Mm} {Q : Int → Mm → Prop} (h : (∀ M1 : Mm, M1 = setI M 10 0 0 0 → (E_1050 M1 (fun M1_1 : Mm => (L_1053_11 0 M1_1 Q))))) : E_1053 M Q := by
  show Wp 15 1053 0 [some (.inr (.inr (10, 0))), none, none, none, none, none] [] M (rI Q)
  refine Wp.path (k := 3) [] (C := []) (pc' := 5) (ls' := [some (.inr (.inr (10, 0))), none, none, none, none, none]) (st' := []) (M' := setI M 10 0 0 0) rfl trivial ?_
  refine Bd (P := fun M1 : Mm => Wp 15 1053 5 [some (.inr (.inr (10, 0))), none, none, none, none, none] [] M1 (rI Q)) ?_
  intro M1 e_M1
  replace h := h M1 e_M1
  refine Wp.path (k := 1) [] (C := []) (pc' := 6) (ls' := [some (.inr (.inr (10, 0))), none, none, none, none, none]) (st' := [.inr (.inr (10, 0))]) (M' := M1) rfl trivial ?_
  refine Wp.call h rfl rfl (by decide) ?_
  rintro _ M1_1 ⟨rfl, h⟩
  show Wp 15 1053 9 [some (.inr (.inr (10, 0))), none, none, none, none, none] [] M1_1 (rI Q)
  refine Wp.path (k := 2) [] (C := []) (pc' := 11) (ls' := [some (.inr (.inr (10, 0))), some (.inl 0), none, none, none, none]) (st' := []) (M' := M1_1) rfl trivial ?_
  exact h _ _ _ _
theorem s_1053_11 {x1 : Int} {M : Mm} {Q : Int → Mm → Prop} (h : ((2401 ≤ x1 → (L_1053_35 0 0 M Q)) ∧ (x1 < 2401 → (((0 ≤ x1 ∧ x1 < 2401)) ∧ (∀ M1 : Mm, M1 = setI M 1129 0 x1.toNat 0 → (((-2147483648 ≤ x1 + 1 ∧ x1 + 1 ≤ 2147483647)) ∧ (L_1053_11 (x1 + 1) M1 Q))))))) : L_1053_11 x1 M Q := by
  intro o2 o3 o4 o5
  show Wp 15 1053 11 [some (.inr (.inr (10, 0))), some (.inl x1), o2, o3, o4, o5] [] M (rI Q)
  refine Wp.path (k := 2) [] (C := []) (pc' := 15) (ls' := [some (.inr (.inr (10, 0))), some (.inl x1), o2, o3, o4, o5]) (st' := [.inl 2401, .inl x1]) (M' := M) rfl trivial ?_
  rcases Int.lt_or_le (x1) (2401) with c_1 | c_1
  · replace h := h.2 c_1
    refine Wp.path (k := 1) [0] (C := [x1 < 2401]) (pc' := 18) (ls' := [some (.inr (.inr (10, 0))), some (.inl x1), o2, o3, o4, o5]) (st' := []) (M' := M) rfl c_1 ?_
    refine Wp.path (k := 5) [] (C := [((0 : Int) = 0 ∨ (0 : Int) = 1) ∧ 0 ≤ x1 ∧ x1 < 2401]) (pc' := 25) (ls' := [some (.inr (.inr (10, 0))), some (.inl x1), o2, o3, o4, o5]) (st' := []) (M' := setI M 1129 0 x1.toNat 0) rfl ⟨Or.inl rfl, h.1⟩ ?_
    replace h := h.2
    refine Bd (P := fun M1 : Mm => Wp 15 1053 25 [some (.inr (.inr (10, 0))), some (.inl x1), o2, o3, o4, o5] [] M1 (rI Q)) ?_
    intro M1 e_M1
    replace h := h M1 e_M1
    refine Wp.path (k := 2) [] (C := [inR (x1 + 1)]) (pc' := 11) (ls' := [some (.inr (.inr (10, 0))), some (.inl (x1 + 1)), o2, o3, o4, o5]) (st' := []) (M' := M1) rfl h.1 ?_
    replace h := h.2
    exact h _ _ _ _
  · replace h := h.1 c_1
    refine Wp.path (k := 1) [1] (C := [2401 ≤ x1]) (pc' := 31) (ls' := [some (.inr (.inr (10, 0))), some (.inl x1), o2, o3, o4, o5]) (st' := []) (M' := M) rfl c_1 ?_
    refine Wp.path (k := 4) [] (C := []) (pc' := 35) (ls' := [some (.inr (.inr (10, 0))), some (.inl 0), some (.inl 0), o3, o4, o5]) (st' := []) (M' := M) rfl trivial ?_
    exact h _ _ _
theorem s_1053_35 {x1 : Int} {x2 : Int} {M : Mm} {Q : Int → Mm → Prop} (h : ((-2147483648 ≤ 2 * (M.1 10 0 34) ∧ 2 * (M.1 10 0 34) ≤ 2147483647)) ∧ ((2 * (M.1 10 0 34) ≤ x2 → (Q x1 M)) ∧ (x2 < 2 * (M.1 10 0 34) → (((-2147483648 ≤ x2 ∧ x2 ≤ 2147483647)) ∧ (∀ d : Int, d = Int.tdiv x2 2 → (((-2147483648 ≤ x2 ∧ x2 ≤ 2147483647)) ∧ (∀ d_1 : Int, d_1 = Int.tmod x2 2 → ((d_1 ≠ 0 → ((0 ≤ d ∧ d < 640))) ∧ (d_1 = 0 → ((0 ≤ d ∧ d < 640))) ∧ (∀ b : Int, b = (if d_1 ≠ 0 then (M.1 1138 0 d.toNat) else (M.1 1137 0 d.toNat)) → (((0 ≤ d ∧ d < 640) ∧ (-2147483648 ≤ M.1 1135 0 d.toNat ∧ M.1 1135 0 d.toNat ≤ 2147483647)) ∧ (∀ d_2 : Int, d_2 = Int.tmod (M.1 1135 0 d.toNat) 2 → ((d_2 ≠ 0 → ((-2147483648 ≤ 49 * b ∧ 49 * b ≤ 2147483647) ∧ (0 ≤ d ∧ d < 640) ∧ (-2147483648 ≤ (49 * b) + (M.1 1136 0 d.toNat) ∧ (49 * b) + (M.1 1136 0 d.toNat) ≤ 2147483647))) ∧ (d_2 = 0 → ((0 ≤ d ∧ d < 640) ∧ (-2147483648 ≤ 49 * (M.1 1136 0 d.toNat) ∧ 49 * (M.1 1136 0 d.toNat) ≤ 2147483647) ∧ (-2147483648 ≤ (49 * (M.1 1136 0 d.toNat)) + b ∧ (49 * (M.1 1136 0 d.toNat)) + b ≤ 2147483647))) ∧ (∀ b_1 : Int, b_1 = (if d_2 ≠ 0 then ((49 * b) + (M.1 1136 0 d.toNat)) else ((49 * (M.1 1136 0 d.toNat)) + b)) → (((0 ≤ b_1 ∧ b_1 < 2401)) ∧ (∀ b_2 : Int, b_2 = (if M.1 1129 0 b_1.toNat = 0 then 1 else 0) → (((-2147483648 ≤ x1 + b_2 ∧ x1 + b_2 ≤ 2147483647)) ∧ (∀ x1_1 : Int, x1_1 = x1 + b_2 → (((0 ≤ b_1 ∧ b_1 < 2401)) ∧ (∀ M1 : Mm, M1 = setI M 1129 0 b_1.toNat 1 → (((-2147483648 ≤ x2 + 1 ∧ x2 + 1 ≤ 2147483647)) ∧ (L_1053_35 x1_1 (x2 + 1) M1 Q))))))))))))))))))))) : L_1053_35 x1 x2 M Q := by
  intro o3 o4 o5
  show Wp 15 1053 35 [some (.inr (.inr (10, 0))), some (.inl x1), some (.inl x2), o3, o4, o5] [] M (rI Q)
  refine Wp.path (k := 5) [] (C := [inR (2 * (M.1 10 0 34))]) (pc' := 42) (ls' := [some (.inr (.inr (10, 0))), some (.inl x1), some (.inl x2), o3, o4, o5]) (st' := [.inl (2 * (M.1 10 0 34)), .inl x2]) (M' := M) rfl h.1 ?_
  replace h := h.2
  rcases Int.lt_or_le (x2) (2 * (M.1 10 0 34)) with c_1 | c_1
  · replace h := h.2 c_1
    refine Wp.path (k := 1) [0] (C := [x2 < 2 * (M.1 10 0 34)]) (pc' := 45) (ls' := [some (.inr (.inr (10, 0))), some (.inl x1), some (.inl x2), o3, o4, o5]) (st' := []) (M' := M) rfl c_1 ?_
    refine Wp.path (k := 3) [] (C := [inR x2 ∧ 0 < 2 ∧ inR 2]) (pc' := 48) (ls' := [some (.inr (.inr (10, 0))), some (.inl x1), some (.inl x2), o3, o4, o5]) (st' := [.inl (Int.tdiv x2 2)]) (M' := M) rfl ⟨h.1, by decide, ⟨by decide, by decide⟩⟩ ?_
    replace h := h.2
    refine Bd (P := fun d : Int => Wp 15 1053 48 [some (.inr (.inr (10, 0))), some (.inl x1), some (.inl x2), o3, o4, o5] [.inl d] M (rI Q)) ?_
    intro d e_d
    replace h := h d e_d
    refine Wp.path (k := 4) [] (C := [inR x2 ∧ 0 < 2 ∧ inR 2]) (pc' := 52) (ls' := [some (.inr (.inr (10, 0))), some (.inl x1), some (.inl x2), some (.inl d), o4, o5]) (st' := [.inl (Int.tmod x2 2)]) (M' := M) rfl ⟨h.1, by decide, ⟨by decide, by decide⟩⟩ ?_
    replace h := h.2
    refine Bd (P := fun d_1 : Int => Wp 15 1053 52 [some (.inr (.inr (10, 0))), some (.inl x1), some (.inl x2), some (.inl d), o4, o5] [.inl d_1] M (rI Q)) ?_
    intro d_1 e_d_1
    replace h := h d_1 e_d_1
    have g6_0 := h.1
    replace h := h.2
    have g6_1 := h.1
    replace h := h.2
    have k_6 : ∀ b : Int, b = (if d_1 ≠ 0 then (M.1 1138 0 d.toNat) else (M.1 1137 0 d.toNat)) → Wp 15 1053 70 [some (.inr (.inr (10, 0))), some (.inl x1), some (.inl x2), some (.inl d), o4, o5] [.inl b] M (rI Q) := by
      intro b e_b
      replace h := h b e_b
      refine Wp.path (k := 7) [] (C := [0 ≤ d ∧ d < 640, inR (M.1 1135 0 d.toNat) ∧ 0 < 2 ∧ inR 2]) (pc' := 80) (ls' := [some (.inr (.inr (10, 0))), some (.inl x1), some (.inl x2), some (.inl d), some (.inl b), o5]) (st' := [.inl (Int.tmod (M.1 1135 0 d.toNat) 2)]) (M' := M) rfl ⟨h.1.1, ⟨h.1.2, by decide, ⟨by decide, by decide⟩⟩⟩ ?_
      replace h := h.2
      refine Bd (P := fun d_2 : Int => Wp 15 1053 80 [some (.inr (.inr (10, 0))), some (.inl x1), some (.inl x2), some (.inl d), some (.inl b), o5] [.inl d_2] M (rI Q)) ?_
      intro d_2 e_d_2
      replace h := h d_2 e_d_2
      have g4_0 := h.1
      replace h := h.2
      have g4_1 := h.1
      replace h := h.2
      have k_4 : ∀ b_1 : Int, b_1 = (if d_2 ≠ 0 then ((49 * b) + (M.1 1136 0 d.toNat)) else ((49 * (M.1 1136 0 d.toNat)) + b)) → Wp 15 1053 110 [some (.inr (.inr (10, 0))), some (.inl x1), some (.inl x2), some (.inl d), some (.inl b), o5] [.inl b_1] M (rI Q) := by
        intro b_1 e_b_1
        replace h := h b_1 e_b_1
        refine Wp.path (k := 6) [] (C := [0 ≤ b_1 ∧ b_1 < 2401]) (pc' := 120) (ls' := [some (.inr (.inr (10, 0))), some (.inl x1), some (.inl x2), some (.inl d), some (.inl b), some (.inl b_1)]) (st' := [.inl (M.1 1129 0 b_1.toNat), .inl x1]) (M' := M) rfl h.1 ?_
        replace h := h.2
        have k_2 : ∀ b_2 : Int, b_2 = (if M.1 1129 0 b_1.toNat = 0 then 1 else 0) → Wp 15 1053 128 [some (.inr (.inr (10, 0))), some (.inl x1), some (.inl x2), some (.inl d), some (.inl b), some (.inl b_1)] [.inl b_2, .inl x1] M (rI Q) := by
          intro b_2 e_b_2
          replace h := h b_2 e_b_2
          refine Wp.path (k := 2) [] (C := [inR (x1 + b_2)]) (pc' := 130) (ls' := [some (.inr (.inr (10, 0))), some (.inl (x1 + b_2)), some (.inl x2), some (.inl d), some (.inl b), some (.inl b_1)]) (st' := []) (M' := M) rfl h.1 ?_
          replace h := h.2
          refine Bd (P := fun x1_1 : Int => Wp 15 1053 130 [some (.inr (.inr (10, 0))), some (.inl x1_1), some (.inl x2), some (.inl d), some (.inl b), some (.inl b_1)] [] M (rI Q)) ?_
          intro x1_1 e_x1_1
          replace h := h x1_1 e_x1_1
          refine Wp.path (k := 5) [] (C := [((1 : Int) = 0 ∨ (1 : Int) = 1) ∧ 0 ≤ b_1 ∧ b_1 < 2401]) (pc' := 138) (ls' := [some (.inr (.inr (10, 0))), some (.inl x1_1), some (.inl x2), some (.inl d), some (.inl b), some (.inl b_1)]) (st' := []) (M' := setI M 1129 0 b_1.toNat 1) rfl ⟨Or.inr rfl, h.1⟩ ?_
          replace h := h.2
          refine Bd (P := fun M1 : Mm => Wp 15 1053 138 [some (.inr (.inr (10, 0))), some (.inl x1_1), some (.inl x2), some (.inl d), some (.inl b), some (.inl b_1)] [] M1 (rI Q)) ?_
          intro M1 e_M1
          replace h := h M1 e_M1
          refine Wp.path (k := 2) [] (C := [inR (x2 + 1)]) (pc' := 35) (ls' := [some (.inr (.inr (10, 0))), some (.inl x1_1), some (.inl (x2 + 1)), some (.inl d), some (.inl b), some (.inl b_1)]) (st' := []) (M' := M1) rfl h.1 ?_
          replace h := h.2
          exact h _ _ _
        clear h
        rcases Decidable.em (M.1 1129 0 b_1.toNat = 0) with c_3 | c_3
        · refine Wp.path (k := 1) [1] (C := [M.1 1129 0 b_1.toNat = 0]) (pc' := 127) (ls' := [some (.inr (.inr (10, 0))), some (.inl x1), some (.inl x2), some (.inl d), some (.inl b), some (.inl b_1)]) (st' := [.inl x1]) (M' := M) rfl c_3 ?_
          refine Wp.path (k := 1) [] (C := []) (pc' := 128) (ls' := [some (.inr (.inr (10, 0))), some (.inl x1), some (.inl x2), some (.inl d), some (.inl b), some (.inl b_1)]) (st' := [.inl 1, .inl x1]) (M' := M) rfl trivial ?_
          exact k_2 _ (by rw [if_pos c_3])
        · refine Wp.path (k := 1) [0] (C := [M.1 1129 0 b_1.toNat ≠ 0]) (pc' := 123) (ls' := [some (.inr (.inr (10, 0))), some (.inl x1), some (.inl x2), some (.inl d), some (.inl b), some (.inl b_1)]) (st' := [.inl x1]) (M' := M) rfl c_3 ?_
          refine Wp.path (k := 2) [] (C := []) (pc' := 128) (ls' := [some (.inr (.inr (10, 0))), some (.inl x1), some (.inl x2), some (.inl d), some (.inl b), some (.inl b_1)]) (st' := [.inl 0, .inl x1]) (M' := M) rfl trivial ?_
          exact k_2 _ (by rw [if_neg c_3])
      clear h
      rcases Decidable.em (d_2 = 0) with c_5 | c_5
      · refine Wp.path (k := 1) [0] (C := [d_2 = 0]) (pc' := 83) (ls' := [some (.inr (.inr (10, 0))), some (.inl x1), some (.inl x2), some (.inl d), some (.inl b), o5]) (st' := []) (M' := M) rfl c_5 ?_
        refine Wp.path (k := 9) [] (C := [0 ≤ d ∧ d < 640, inR (49 * (M.1 1136 0 d.toNat)), inR ((49 * (M.1 1136 0 d.toNat)) + b)]) (pc' := 110) (ls' := [some (.inr (.inr (10, 0))), some (.inl x1), some (.inl x2), some (.inl d), some (.inl b), o5]) (st' := [.inl ((49 * (M.1 1136 0 d.toNat)) + b)]) (M' := M) rfl ⟨(g4_1 c_5).1, (g4_1 c_5).2.1, (g4_1 c_5).2.2⟩ ?_
        exact k_4 _ (by rw [if_neg (not_not_intro c_5)])
      · refine Wp.path (k := 1) [1] (C := [d_2 ≠ 0]) (pc' := 98) (ls' := [some (.inr (.inr (10, 0))), some (.inl x1), some (.inl x2), some (.inl d), some (.inl b), o5]) (st' := []) (M' := M) rfl c_5 ?_
        refine Wp.path (k := 8) [] (C := [inR (49 * b), 0 ≤ d ∧ d < 640, inR ((49 * b) + (M.1 1136 0 d.toNat))]) (pc' := 110) (ls' := [some (.inr (.inr (10, 0))), some (.inl x1), some (.inl x2), some (.inl d), some (.inl b), o5]) (st' := [.inl ((49 * b) + (M.1 1136 0 d.toNat))]) (M' := M) rfl ⟨(g4_0 c_5).1, (g4_0 c_5).2.1, (g4_0 c_5).2.2⟩ ?_
        exact k_4 _ (by rw [if_pos c_5])
    clear h
    rcases Decidable.em (d_1 = 0) with c_7 | c_7
    · refine Wp.path (k := 1) [0] (C := [d_1 = 0]) (pc' := 55) (ls' := [some (.inr (.inr (10, 0))), some (.inl x1), some (.inl x2), some (.inl d), o4, o5]) (st' := []) (M' := M) rfl c_7 ?_
      refine Wp.path (k := 5) [] (C := [0 ≤ d ∧ d < 640]) (pc' := 70) (ls' := [some (.inr (.inr (10, 0))), some (.inl x1), some (.inl x2), some (.inl d), o4, o5]) (st' := [.inl (M.1 1137 0 d.toNat)]) (M' := M) rfl (g6_1 c_7) ?_
      exact k_6 _ (by rw [if_neg (not_not_intro c_7)])
    · refine Wp.path (k := 1) [1] (C := [d_1 ≠ 0]) (pc' := 64) (ls' := [some (.inr (.inr (10, 0))), some (.inl x1), some (.inl x2), some (.inl d), o4, o5]) (st' := []) (M' := M) rfl c_7 ?_
      refine Wp.path (k := 4) [] (C := [0 ≤ d ∧ d < 640]) (pc' := 70) (ls' := [some (.inr (.inr (10, 0))), some (.inl x1), some (.inl x2), some (.inl d), o4, o5]) (st' := [.inl (M.1 1138 0 d.toNat)]) (M' := M) rfl (g6_0 c_7) ?_
      exact k_6 _ (by rw [if_pos c_7])
  · replace h := h.1 c_1
    refine Wp.path (k := 1) [1] (C := [2 * (M.1 10 0 34) ≤ x2]) (pc' := 144) (ls' := [some (.inr (.inr (10, 0))), some (.inl x1), some (.inl x2), o3, o4, o5]) (st' := []) (M' := M) rfl c_1 ?_
    refine Wp.path (k := 1) [] (C := []) (pc' := 145) (ls' := [some (.inr (.inr (10, 0))), some (.inl x1), some (.inl x2), o3, o4, o5]) (st' := [.inl x1]) (M' := M) rfl trivial ?_
    exact Wp.ret rfl ⟨_, rfl, h⟩
/-- X10_firstOf -/
def E_1055 (x1 : Int) (M : Mm) (Q : Int → Mm → Prop) : Prop := Ev 1 1055 [.inr (.inr (10, 0)), .inl x1] M (rI Q)
theorem m_1055 {x1 : Int} {M : Mm} {Q Q1 : Int → Mm → Prop} (h : E_1055 x1 M Q) (k : (∀ r M1, Q r M1 → Q1 r M1)) : E_1055 x1 M Q1 := Ev.mono h (fun v M1 ⟨r, h1, h2⟩ => ⟨r, h1, k _ _ h2⟩)
def L_1055_9 (x1 : Int) (x2 : Int) (x3 : Int) (M : Mm) (Q : Int → Mm → Prop) : Prop := ∀ o4 o5 : Option Vv, Wp 1 1055 9 [some (.inr (.inr (10, 0))), some (.inl x1), some (.inl x2), some (.inl x3), o4, o5] [] M (rI Q)
def L_1055_23 (x1 : Int) (x2 : Int) (x3 : Int) (x4 : Int) (x5 : Int) (M : Mm) (Q : Int → Mm → Prop) : Prop := Wp 1 1055 23 [some (.inr (.inr (10, 0))), some (.inl x1), some (.inl x2), some (.inl x3), some (.inl x4), some (.inl x5)] [] M (rI Q)
theorem s_1055_0 {x1 : Int} {M : Mm} {Q : Int → Mm → Prop} (h : (∀ M1 : Mm, M1 = setI M 10 0 52 0 → (L_1055_9 x1 (-1) 0 M1 Q))) : E_1055 x1 M Q := by
  show Wp 1 1055 0 [some (.inr (.inr (10, 0))), some (.inl x1), none, none, none, none] [] M (rI Q)
  refine Wp.path (k := 3) [] (C := []) (pc' := 5) (ls' := [some (.inr (.inr (10, 0))), some (.inl x1), none, none, none, none]) (st' := []) (M' := setI M 10 0 52 0) rfl trivial ?_
  refine Bd (P := fun M1 : Mm => Wp 1 1055 5 [some (.inr (.inr (10, 0))), some (.inl x1), none, none, none, none] [] M1 (rI Q)) ?_
  intro M1 e_M1
  replace h := h M1 e_M1
  refine Wp.path (k := 4) [] (C := []) (pc' := 9) (ls' := [some (.inr (.inr (10, 0))), some (.inl x1), some (.inl (-1)), some (.inl 0), none, none]) (st' := []) (M' := M1) rfl trivial ?_
  exact h _ _
theorem s_1055_9 {x1 : Int} {x2 : Int} {x3 : Int} {M : Mm} {Q : Int → Mm → Prop} (h : ((M.1 10 0 34 ≤ x3 → (Q x2 M)) ∧ (x3 < M.1 10 0 34 → (L_1055_23 x1 x2 x3 1 0 M Q)))) : L_1055_9 x1 x2 x3 M Q := by
  intro o4 o5
  show Wp 1 1055 9 [some (.inr (.inr (10, 0))), some (.inl x1), some (.inl x2), some (.inl x3), o4, o5] [] M (rI Q)
  refine Wp.path (k := 3) [] (C := []) (pc' := 14) (ls' := [some (.inr (.inr (10, 0))), some (.inl x1), some (.inl x2), some (.inl x3), o4, o5]) (st' := [.inl (M.1 10 0 34), .inl x3]) (M' := M) rfl trivial ?_
  rcases Int.lt_or_le (x3) (M.1 10 0 34) with c_1 | c_1
  · replace h := h.2 c_1
    refine Wp.path (k := 1) [0] (C := [x3 < M.1 10 0 34]) (pc' := 17) (ls' := [some (.inr (.inr (10, 0))), some (.inl x1), some (.inl x2), some (.inl x3), o4, o5]) (st' := []) (M' := M) rfl c_1 ?_
    refine Wp.path (k := 4) [] (C := []) (pc' := 23) (ls' := [some (.inr (.inr (10, 0))), some (.inl x1), some (.inl x2), some (.inl x3), some (.inl 1), some (.inl 0)]) (st' := []) (M' := M) rfl trivial ?_
    exact h
  · replace h := h.1 c_1
    refine Wp.path (k := 1) [1] (C := [M.1 10 0 34 ≤ x3]) (pc' := 95) (ls' := [some (.inr (.inr (10, 0))), some (.inl x1), some (.inl x2), some (.inl x3), o4, o5]) (st' := []) (M' := M) rfl c_1 ?_
    refine Wp.path (k := 1) [] (C := []) (pc' := 96) (ls' := [some (.inr (.inr (10, 0))), some (.inl x1), some (.inl x2), some (.inl x3), o4, o5]) (st' := [.inl x2]) (M' := M) rfl trivial ?_
    exact Wp.ret rfl ⟨_, rfl, h⟩
theorem s_1055_23 {x1 : Int} {x2 : Int} {x3 : Int} {x4 : Int} {x5 : Int} {M : Mm} {Q : Int → Mm → Prop} (h : ((x3 ≤ x5 → ((x4 ≠ 0 → (∀ b_1 : Int, b_1 = (if M.1 10 0 52 ≠ x1 then x2 else x3) → (((-2147483648 ≤ (M.1 10 0 52) + 1 ∧ (M.1 10 0 52) + 1 ≤ 2147483647)) ∧ (∀ M1 : Mm, M1 = setI M 10 0 52 ((M.1 10 0 52) + 1) → (((-2147483648 ≤ x3 + 1 ∧ x3 + 1 ≤ 2147483647)) ∧ (L_1055_9 x1 b_1 (x3 + 1) M1 Q)))))) ∧ (x4 = 0 → (((-2147483648 ≤ x3 + 1 ∧ x3 + 1 ≤ 2147483647)) ∧ (L_1055_9 x1 x2 (x3 + 1) M Q))))) ∧ (x5 < x3 → ((x4 = 0 → (((-2147483648 ≤ x5 + 1 ∧ x5 + 1 ≤ 2147483647)) ∧ (L_1055_23 x1 x2 x3 0 (x5 + 1) M Q))) ∧ (x4 ≠ 0 → ((0 ≤ x3 ∧ x3 < 640 ∧ 0 ≤ x5 ∧ x5 < 640) ∧ (∀ b : Int, b = (if likeV (M.1 1135 0) (M.1 1136 0) x3.toNat x5.toNat ≠ 0 then 0 else 1) → (((-2147483648 ≤ x5 + 1 ∧ x5 + 1 ≤ 2147483647)) ∧ (L_1055_23 x1 x2 x3 b (x5 + 1) M Q))))))))) : L_1055_23 x1 x2 x3 x4 x5 M Q := by
  show Wp 1 1055 23 [some (.inr (.inr (10, 0))), some (.inl x1), some (.inl x2), some (.inl x3), some (.inl x4), some (.inl x5)] [] M (rI Q)
  refine Wp.path (k := 2) [] (C := []) (pc' := 26) (ls' := [some (.inr (.inr (10, 0))), some (.inl x1), some (.inl x2), some (.inl x3), some (.inl x4), some (.inl x5)]) (st' := [.inl x3, .inl x5]) (M' := M) rfl trivial ?_
  rcases Int.lt_or_le (x5) (x3) with c_1 | c_1
  · replace h := h.2 c_1
    refine Wp.path (k := 1) [0] (C := [x5 < x3]) (pc' := 29) (ls' := [some (.inr (.inr (10, 0))), some (.inl x1), some (.inl x2), some (.inl x3), some (.inl x4), some (.inl x5)]) (st' := []) (M' := M) rfl c_1 ?_
    refine Wp.path (k := 1) [] (C := []) (pc' := 31) (ls' := [some (.inr (.inr (10, 0))), some (.inl x1), some (.inl x2), some (.inl x3), some (.inl x4), some (.inl x5)]) (st' := [.inl x4]) (M' := M) rfl trivial ?_
    rcases Decidable.em (x4 = 0) with c_2 | c_2
    · replace h := h.1 c_2
      refine Wp.path (k := 1) [1] (C := [x4 = 0]) (pc' := 48) (ls' := [some (.inr (.inr (10, 0))), some (.inl x1), some (.inl x2), some (.inl x3), some (.inl x4), some (.inl x5)]) (st' := []) (M' := M) rfl c_2 ?_
      refine Wp.path (k := 4) [] (C := [inR (x5 + 1)]) (pc' := 23) (ls' := [some (.inr (.inr (10, 0))), some (.inl x1), some (.inl x2), some (.inl x3), some (.inl 0), some (.inl (x5 + 1))]) (st' := []) (M' := M) rfl h.1 ?_
      replace h := h.2
      exact h
    · replace h := h.2 c_2
      refine Wp.path (k := 1) [0] (C := [x4 ≠ 0]) (pc' := 34) (ls' := [some (.inr (.inr (10, 0))), some (.inl x1), some (.inl x2), some (.inl x3), some (.inl x4), some (.inl x5)]) (st' := []) (M' := M) rfl c_2 ?_
      refine Wp.path (k := 3) [] (C := []) (pc' := 38) (ls' := [some (.inr (.inr (10, 0))), some (.inl x1), some (.inl x2), some (.inl x3), some (.inl x4), some (.inl x5)]) (st' := [.inl x5, .inl x3, .inr (.inr (10, 0))]) (M' := M) rfl trivial ?_
      refine Wp.call (e1054 h.1.1 h.1.2.1 h.1.2.2.1 h.1.2.2.2) rfl rfl (by decide) ?_
      replace h := h.2
      rintro v_ M_ ⟨eM_, ev_⟩
      rw [eM_, ev_]
      clear eM_ ev_ v_ M_
      show Wp 1 1055 41 [some (.inr (.inr (10, 0))), some (.inl x1), some (.inl x2), some (.inl x3), some (.inl x4), some (.inl x5)] [.inl (likeV (M.1 1135 0) (M.1 1136 0) x3.toNat x5.toNat)] M (rI Q)
      have k_3 : ∀ b : Int, b = (if likeV (M.1 1135 0) (M.1 1136 0) x3.toNat x5.toNat ≠ 0 then 0 else 1) → Wp 1 1055 49 [some (.inr (.inr (10, 0))), some (.inl x1), some (.inl x2), some (.inl x3), some (.inl x4), some (.inl x5)] [.inl b] M (rI Q) := by
        intro b e_b
        replace h := h b e_b
        refine Wp.path (k := 3) [] (C := [inR (x5 + 1)]) (pc' := 23) (ls' := [some (.inr (.inr (10, 0))), some (.inl x1), some (.inl x2), some (.inl x3), some (.inl b), some (.inl (x5 + 1))]) (st' := []) (M' := M) rfl h.1 ?_
        replace h := h.2
        exact h
      clear h
      rcases Decidable.em (likeV (M.1 1135 0) (M.1 1136 0) x3.toNat x5.toNat = 0) with c_4 | c_4
      · refine Wp.path (k := 1) [0] (C := [likeV (M.1 1135 0) (M.1 1136 0) x3.toNat x5.toNat = 0]) (pc' := 44) (ls' := [some (.inr (.inr (10, 0))), some (.inl x1), some (.inl x2), some (.inl x3), some (.inl x4), some (.inl x5)]) (st' := []) (M' := M) rfl c_4 ?_
        refine Wp.path (k := 2) [] (C := []) (pc' := 49) (ls' := [some (.inr (.inr (10, 0))), some (.inl x1), some (.inl x2), some (.inl x3), some (.inl x4), some (.inl x5)]) (st' := [.inl 1]) (M' := M) rfl trivial ?_
        exact k_3 _ (by rw [if_neg (not_not_intro c_4)])
      · refine Wp.path (k := 1) [1] (C := [likeV (M.1 1135 0) (M.1 1136 0) x3.toNat x5.toNat ≠ 0]) (pc' := 48) (ls' := [some (.inr (.inr (10, 0))), some (.inl x1), some (.inl x2), some (.inl x3), some (.inl x4), some (.inl x5)]) (st' := []) (M' := M) rfl c_4 ?_
        refine Wp.path (k := 1) [] (C := []) (pc' := 49) (ls' := [some (.inr (.inr (10, 0))), some (.inl x1), some (.inl x2), some (.inl x3), some (.inl x4), some (.inl x5)]) (st' := [.inl 0]) (M' := M) rfl trivial ?_
        exact k_3 _ (by rw [if_pos c_4])
  · replace h := h.1 c_1
    refine Wp.path (k := 1) [1] (C := [x3 ≤ x5]) (pc' := 57) (ls' := [some (.inr (.inr (10, 0))), some (.inl x1), some (.inl x2), some (.inl x3), some (.inl x4), some (.inl x5)]) (st' := []) (M' := M) rfl c_1 ?_
    refine Wp.path (k := 1) [] (C := []) (pc' := 59) (ls' := [some (.inr (.inr (10, 0))), some (.inl x1), some (.inl x2), some (.inl x3), some (.inl x4), some (.inl x5)]) (st' := [.inl x4]) (M' := M) rfl trivial ?_
    rcases Decidable.em (x4 = 0) with c_5 | c_5
    · replace h := h.2 c_5
      refine Wp.path (k := 1) [0] (C := [x4 = 0]) (pc' := 62) (ls' := [some (.inr (.inr (10, 0))), some (.inl x1), some (.inl x2), some (.inl x3), some (.inl x4), some (.inl x5)]) (st' := []) (M' := M) rfl c_5 ?_
      refine Wp.path (k := 3) [] (C := [inR (x3 + 1)]) (pc' := 9) (ls' := [some (.inr (.inr (10, 0))), some (.inl x1), some (.inl x2), some (.inl (x3 + 1)), some (.inl x4), some (.inl x5)]) (st' := []) (M' := M) rfl h.1 ?_
      replace h := h.2
      exact h _ _
    · replace h := h.1 c_5
      refine Wp.path (k := 1) [1] (C := [x4 ≠ 0]) (pc' := 65) (ls' := [some (.inr (.inr (10, 0))), some (.inl x1), some (.inl x2), some (.inl x3), some (.inl x4), some (.inl x5)]) (st' := []) (M' := M) rfl c_5 ?_
      refine Wp.path (k := 3) [] (C := []) (pc' := 70) (ls' := [some (.inr (.inr (10, 0))), some (.inl x1), some (.inl x2), some (.inl x3), some (.inl x4), some (.inl x5)]) (st' := [.inl x1, .inl (M.1 10 0 52)]) (M' := M) rfl trivial ?_
      have k_6 : ∀ b_1 : Int, b_1 = (if M.1 10 0 52 ≠ x1 then x2 else x3) → Wp 1 1055 78 [some (.inr (.inr (10, 0))), some (.inl x1), some (.inl x2), some (.inl x3), some (.inl x4), some (.inl x5)] [.inl b_1] M (rI Q) := by
        intro b_1 e_b_1
        replace h := h b_1 e_b_1
        refine Wp.path (k := 7) [] (C := [inR ((M.1 10 0 52) + 1)]) (pc' := 89) (ls' := [some (.inr (.inr (10, 0))), some (.inl x1), some (.inl b_1), some (.inl x3), some (.inl x4), some (.inl x5)]) (st' := []) (M' := setI M 10 0 52 ((M.1 10 0 52) + 1)) rfl h.1 ?_
        replace h := h.2
        refine Bd (P := fun M1 : Mm => Wp 1 1055 89 [some (.inr (.inr (10, 0))), some (.inl x1), some (.inl b_1), some (.inl x3), some (.inl x4), some (.inl x5)] [] M1 (rI Q)) ?_
        intro M1 e_M1
        replace h := h M1 e_M1
        refine Wp.path (k := 2) [] (C := [inR (x3 + 1)]) (pc' := 9) (ls' := [some (.inr (.inr (10, 0))), some (.inl x1), some (.inl b_1), some (.inl (x3 + 1)), some (.inl x4), some (.inl x5)]) (st' := []) (M' := M1) rfl h.1 ?_
        replace h := h.2
        exact h _ _
      clear h
      rcases Decidable.em (M.1 10 0 52 = x1) with c_7 | c_7
      · refine Wp.path (k := 1) [0] (C := [M.1 10 0 52 = x1]) (pc' := 73) (ls' := [some (.inr (.inr (10, 0))), some (.inl x1), some (.inl x2), some (.inl x3), some (.inl x4), some (.inl x5)]) (st' := []) (M' := M) rfl c_7 ?_
        refine Wp.path (k := 2) [] (C := []) (pc' := 78) (ls' := [some (.inr (.inr (10, 0))), some (.inl x1), some (.inl x2), some (.inl x3), some (.inl x4), some (.inl x5)]) (st' := [.inl x3]) (M' := M) rfl trivial ?_
        exact k_6 _ (by rw [if_neg (not_not_intro c_7)])
      · refine Wp.path (k := 1) [1] (C := [M.1 10 0 52 ≠ x1]) (pc' := 77) (ls' := [some (.inr (.inr (10, 0))), some (.inl x1), some (.inl x2), some (.inl x3), some (.inl x4), some (.inl x5)]) (st' := []) (M' := M) rfl c_7 ?_
        refine Wp.path (k := 1) [] (C := []) (pc' := 78) (ls' := [some (.inr (.inr (10, 0))), some (.inl x1), some (.inl x2), some (.inl x3), some (.inl x4), some (.inl x5)]) (st' := [.inl x2]) (M' := M) rfl trivial ?_
        exact k_6 _ (by rw [if_pos c_7])
/-- X10_groups -/
def E_1056 (M : Mm) (Q : Int → Mm → Prop) : Prop := Ev 15 1056 [.inr (.inr (10, 0))] M (rI Q)
theorem m_1056 {M : Mm} {Q Q1 : Int → Mm → Prop} (h : E_1056 M Q) (k : (∀ r M1, Q r M1 → Q1 r M1)) : E_1056 M Q1 := Ev.mono h (fun v M1 ⟨r, h1, h2⟩ => ⟨r, h1, k _ _ h2⟩)
theorem s_1056_0 {M : Mm} {Q : Int → Mm → Prop} (h : (∀ M1 : Mm, M1 = setI M 10 0 0 0 → (E_1050 M1 (fun M1_1 : Mm => (E_1055 (-1) M1_1 (fun (r : Int) (M1_2 : Mm) => (Q (M1_2.1 10 0 52) M1_2))))))) : E_1056 M Q := by
  show Wp 15 1056 0 [some (.inr (.inr (10, 0))), none] [] M (rI Q)
  refine Wp.path (k := 3) [] (C := []) (pc' := 5) (ls' := [some (.inr (.inr (10, 0))), none]) (st' := []) (M' := setI M 10 0 0 0) rfl trivial ?_
  refine Bd (P := fun M1 : Mm => Wp 15 1056 5 [some (.inr (.inr (10, 0))), none] [] M1 (rI Q)) ?_
  intro M1 e_M1
  replace h := h M1 e_M1
  refine Wp.path (k := 1) [] (C := []) (pc' := 6) (ls' := [some (.inr (.inr (10, 0))), none]) (st' := [.inr (.inr (10, 0))]) (M' := M1) rfl trivial ?_
  refine Wp.call h rfl rfl (by decide) ?_
  rintro _ M1_1 ⟨rfl, h⟩
  show Wp 15 1056 9 [some (.inr (.inr (10, 0))), none] [] M1_1 (rI Q)
  refine Wp.path (k := 2) [] (C := []) (pc' := 11) (ls' := [some (.inr (.inr (10, 0))), none]) (st' := [.inl (-1), .inr (.inr (10, 0))]) (M' := M1_1) rfl trivial ?_
  refine Wp.call h rfl rfl (by decide) ?_
  rintro _ M1_2 ⟨r, rfl, h⟩
  show Wp 15 1056 14 [some (.inr (.inr (10, 0))), none] [.inl r] M1_2 (rI Q)
  refine Wp.path (k := 3) [] (C := []) (pc' := 19) (ls' := [some (.inr (.inr (10, 0))), some (.inl r)]) (st' := [.inl (M1_2.1 10 0 52)]) (M' := M1_2) rfl trivial ?_
  exact Wp.ret rfl ⟨_, rfl, h⟩
/-- X10_group -/
def E_1057 (x1 : Int) (x2 : Int) (M : Mm) (Q : Int → Mm → Prop) : Prop := Ev 15 1057 [.inr (.inr (10, 0)), .inl x1, .inl x2] M (rI Q)
theorem m_1057 {x1 : Int} {x2 : Int} {M : Mm} {Q Q1 : Int → Mm → Prop} (h : E_1057 x1 x2 M Q) (k : (∀ r M1, Q r M1 → Q1 r M1)) : E_1057 x1 x2 M Q1 := Ev.mono h (fun v M1 ⟨r, h1, h2⟩ => ⟨r, h1, k _ _ h2⟩)
def L_1057_84 (x1 : Int) (x2 : Int) (x3 : Int) (x4 : Int) (x5 : Int) (M : Mm) (Q : Int → Mm → Prop) : Prop := Wp 15 1057 84 [some (.inr (.inr (10, 0))), some (.inl x1), some (.inl x2), some (.inl x3), some (.inl x4), some (.inl x5)] [] M (rI Q)
theorem s_1057_0 {x1 : Int} {x2 : Int} {M : Mm} {Q : Int → Mm → Prop} (h : (E_1050 M (fun M1 : Mm => ((0 ≤ x1 → (E_1055 x1 M1 (fun (r : Int) (M1_2 : Mm) => ((0 ≤ r → (∀ b_2 : Int, b_2 = (if inV x2 0 3 ≠ 0 then 0 else 2) → (∀ M1_4 : Mm, M1_4 = setI M1_2 10 0 0 b_2 → ((M1_4.1 10 0 0 = 0 → ((2 ≤ x2 → (L_1057_84 x1 x2 r 0 0 M1_4 Q)) ∧ (x2 < 2 → ((x2 ≠ 0 → ((0 ≤ r ∧ r < 640))) ∧ (x2 = 0 → ((0 ≤ r ∧ r < 640))) ∧ (∀ b_3 : Int, b_3 = (if x2 ≠ 0 then (M1_4.1 1136 0 r.toNat) else (M1_4.1 1135 0 r.toNat)) → (Q b_3 M1_4)))))) ∧ (M1_4.1 10 0 0 ≠ 0 → (Q 0 M1_4)))))) ∧ (r < 0 → (∀ M1_3 : Mm, M1_3 = setI M1_2 10 0 0 1 → ((M1_3.1 10 0 0 = 0 → ((2 ≤ x2 → (L_1057_84 x1 x2 r 0 0 M1_3 Q)) ∧ (x2 < 2 → ((x2 ≠ 0 → ((0 ≤ r ∧ r < 640))) ∧ (x2 = 0 → ((0 ≤ r ∧ r < 640))) ∧ (∀ b_1 : Int, b_1 = (if x2 ≠ 0 then (M1_3.1 1136 0 r.toNat) else (M1_3.1 1135 0 r.toNat)) → (Q b_1 M1_3)))))) ∧ (M1_3.1 10 0 0 ≠ 0 → (Q 0 M1_3))))))))) ∧ (x1 < 0 → (∀ M1_1 : Mm, M1_1 = setI M1 10 0 0 1 → ((M1_1.1 10 0 0 = 0 → ((2 ≤ x2 → (L_1057_84 x1 x2 (-1) 0 0 M1_1 Q)) ∧ (x2 < 2 → ((x2 ≠ 0 → ((0 ≤ (-1) ∧ (-1) < 640))) ∧ (x2 = 0 → ((0 ≤ (-1) ∧ (-1) < 640))) ∧ (∀ b : Int, b = (if x2 ≠ 0 then (M1_1.1 1136 0 ((-1).toNat)) else (M1_1.1 1135 0 ((-1).toNat))) → (Q b M1_1)))))) ∧ (M1_1.1 10 0 0 ≠ 0 → (Q 0 M1_1))))))))) : E_1057 x1 x2 M Q := by
  show Wp 15 1057 0 [some (.inr (.inr (10, 0))), some (.inl x1), some (.inl x2), none, none, none] [] M (rI Q)
  refine Wp.path (k := 1) [] (C := []) (pc' := 1) (ls' := [some (.inr (.inr (10, 0))), some (.inl x1), some (.inl x2), none, none, none]) (st' := [.inr (.inr (10, 0))]) (M' := M) rfl trivial ?_
  refine Wp.call h rfl rfl (by decide) ?_
  rintro _ M1 ⟨rfl, h⟩
  show Wp 15 1057 4 [some (.inr (.inr (10, 0))), some (.inl x1), some (.inl x2), none, none, none] [] M1 (rI Q)
  refine Wp.path (k := 1) [] (C := []) (pc' := 5) (ls' := [some (.inr (.inr (10, 0))), some (.inl x1), some (.inl x2), none, none, none]) (st' := [.inl x1]) (M' := M1) rfl trivial ?_
  rcases Int.lt_or_le (x1) (0) with c_1 | c_1
  · replace h := h.2 c_1
    refine Wp.path (k := 1) [0] (C := [x1 < 0]) (pc' := 8) (ls' := [some (.inr (.inr (10, 0))), some (.inl x1), some (.inl x2), none, none, none]) (st' := []) (M' := M1) rfl c_1 ?_
    refine Wp.path (k := 5) [] (C := []) (pc' := 20) (ls' := [some (.inr (.inr (10, 0))), some (.inl x1), some (.inl x2), some (.inl (-1)), none, none]) (st' := [.inl (-1), .inr (.inr (10, 0))]) (M' := M1) rfl trivial ?_
    refine Wp.path (k := 1) [0] (C := [((-1) : Int) < (0 : Int)]) (pc' := 23) (ls' := [some (.inr (.inr (10, 0))), some (.inl x1), some (.inl x2), some (.inl (-1)), none, none]) (st' := [.inr (.inr (10, 0))]) (M' := M1) rfl (show ((-1) : Int) < (0 : Int) by decide) ?_
    refine Wp.path (k := 3) [] (C := []) (pc' := 44) (ls' := [some (.inr (.inr (10, 0))), some (.inl x1), some (.inl x2), some (.inl (-1)), none, none]) (st' := []) (M' := setI M1 10 0 0 1) rfl trivial ?_
    refine Bd (P := fun M1_1 : Mm => Wp 15 1057 44 [some (.inr (.inr (10, 0))), some (.inl x1), some (.inl x2), some (.inl (-1)), none, none] [] M1_1 (rI Q)) ?_
    intro M1_1 e_M1_1
    replace h := h M1_1 e_M1_1
    refine Wp.path (k := 2) [] (C := []) (pc' := 48) (ls' := [some (.inr (.inr (10, 0))), some (.inl x1), some (.inl x2), some (.inl (-1)), none, none]) (st' := [.inl (M1_1.1 10 0 0)]) (M' := M1_1) rfl trivial ?_
    rcases Decidable.em (M1_1.1 10 0 0 = 0) with c_2 | c_2
    · replace h := h.1 c_2
      refine Wp.path (k := 1) [1] (C := [M1_1.1 10 0 0 = 0]) (pc' := 53) (ls' := [some (.inr (.inr (10, 0))), some (.inl x1), some (.inl x2), some (.inl (-1)), none, none]) (st' := []) (M' := M1_1) rfl c_2 ?_
      refine Wp.path (k := 2) [] (C := []) (pc' := 55) (ls' := [some (.inr (.inr (10, 0))), some (.inl x1), some (.inl x2), some (.inl (-1)), none, none]) (st' := [.inl 2, .inl x2]) (M' := M1_1) rfl trivial ?_
      rcases Int.lt_or_le (x2) (2) with c_3 | c_3
      · replace h := h.2 c_3
        refine Wp.path (k := 1) [0] (C := [x2 < 2]) (pc' := 58) (ls' := [some (.inr (.inr (10, 0))), some (.inl x1), some (.inl x2), some (.inl (-1)), none, none]) (st' := []) (M' := M1_1) rfl c_3 ?_
        refine Wp.path (k := 1) [] (C := []) (pc' := 59) (ls' := [some (.inr (.inr (10, 0))), some (.inl x1), some (.inl x2), some (.inl (-1)), none, none]) (st' := [.inl x2]) (M' := M1_1) rfl trivial ?_
        have g4_0 := h.1
        replace h := h.2
        have g4_1 := h.1
        replace h := h.2
        have k_4 : ∀ b : Int, b = (if x2 ≠ 0 then (M1_1.1 1136 0 ((-1).toNat)) else (M1_1.1 1135 0 ((-1).toNat))) → Wp 15 1057 77 [some (.inr (.inr (10, 0))), some (.inl x1), some (.inl x2), some (.inl (-1)), none, none] [.inl b] M1_1 (rI Q) := by
          intro b e_b
          replace h := h b e_b
          exact Wp.ret rfl ⟨_, rfl, h⟩
        clear h
        rcases Decidable.em (x2 = 0) with c_5 | c_5
        · refine Wp.path (k := 1) [0] (C := [x2 = 0]) (pc' := 62) (ls' := [some (.inr (.inr (10, 0))), some (.inl x1), some (.inl x2), some (.inl (-1)), none, none]) (st' := []) (M' := M1_1) rfl c_5 ?_
          refine Wp.path (k := 5) [] (C := [0 ≤ (-1) ∧ (-1) < 640]) (pc' := 77) (ls' := [some (.inr (.inr (10, 0))), some (.inl x1), some (.inl x2), some (.inl (-1)), none, none]) (st' := [.inl (M1_1.1 1135 0 ((-1).toNat))]) (M' := M1_1) rfl (g4_1 c_5) ?_
          exact k_4 _ (by rw [if_neg (not_not_intro c_5)])
        · refine Wp.path (k := 1) [1] (C := [x2 ≠ 0]) (pc' := 71) (ls' := [some (.inr (.inr (10, 0))), some (.inl x1), some (.inl x2), some (.inl (-1)), none, none]) (st' := []) (M' := M1_1) rfl c_5 ?_
          refine Wp.path (k := 4) [] (C := [0 ≤ (-1) ∧ (-1) < 640]) (pc' := 77) (ls' := [some (.inr (.inr (10, 0))), some (.inl x1), some (.inl x2), some (.inl (-1)), none, none]) (st' := [.inl (M1_1.1 1136 0 ((-1).toNat))]) (M' := M1_1) rfl (g4_0 c_5) ?_
          exact k_4 _ (by rw [if_pos c_5])
      · replace h := h.1 c_3
        refine Wp.path (k := 1) [1] (C := [2 ≤ x2]) (pc' := 78) (ls' := [some (.inr (.inr (10, 0))), some (.inl x1), some (.inl x2), some (.inl (-1)), none, none]) (st' := []) (M' := M1_1) rfl c_3 ?_
        refine Wp.path (k := 4) [] (C := []) (pc' := 84) (ls' := [some (.inr (.inr (10, 0))), some (.inl x1), some (.inl x2), some (.inl (-1)), some (.inl 0), some (.inl 0)]) (st' := []) (M' := M1_1) rfl trivial ?_
        exact h
    · replace h := h.2 c_2
      refine Wp.path (k := 1) [0] (C := [M1_1.1 10 0 0 ≠ 0]) (pc' := 51) (ls' := [some (.inr (.inr (10, 0))), some (.inl x1), some (.inl x2), some (.inl (-1)), none, none]) (st' := []) (M' := M1_1) rfl c_2 ?_
      refine Wp.path (k := 1) [] (C := []) (pc' := 52) (ls' := [some (.inr (.inr (10, 0))), some (.inl x1), some (.inl x2), some (.inl (-1)), none, none]) (st' := [.inl 0]) (M' := M1_1) rfl trivial ?_
      exact Wp.ret rfl ⟨_, rfl, h⟩
  · replace h := h.1 c_1
    refine Wp.path (k := 1) [1] (C := [0 ≤ x1]) (pc' := 12) (ls' := [some (.inr (.inr (10, 0))), some (.inl x1), some (.inl x2), none, none, none]) (st' := []) (M' := M1) rfl c_1 ?_
    refine Wp.path (k := 2) [] (C := []) (pc' := 14) (ls' := [some (.inr (.inr (10, 0))), some (.inl x1), some (.inl x2), none, none, none]) (st' := [.inl x1, .inr (.inr (10, 0))]) (M' := M1) rfl trivial ?_
    refine Wp.call h rfl rfl (by decide) ?_
    rintro _ M1_2 ⟨r, rfl, h⟩
    show Wp 15 1057 17 [some (.inr (.inr (10, 0))), some (.inl x1), some (.inl x2), none, none, none] [.inl r] M1_2 (rI Q)
    refine Wp.path (k := 3) [] (C := []) (pc' := 20) (ls' := [some (.inr (.inr (10, 0))), some (.inl x1), some (.inl x2), some (.inl r), none, none]) (st' := [.inl r, .inr (.inr (10, 0))]) (M' := M1_2) rfl trivial ?_
    rcases Int.lt_or_le (r) (0) with c_6 | c_6
    · replace h := h.2 c_6
      refine Wp.path (k := 1) [0] (C := [r < 0]) (pc' := 23) (ls' := [some (.inr (.inr (10, 0))), some (.inl x1), some (.inl x2), some (.inl r), none, none]) (st' := [.inr (.inr (10, 0))]) (M' := M1_2) rfl c_6 ?_
      refine Wp.path (k := 3) [] (C := []) (pc' := 44) (ls' := [some (.inr (.inr (10, 0))), some (.inl x1), some (.inl x2), some (.inl r), none, none]) (st' := []) (M' := setI M1_2 10 0 0 1) rfl trivial ?_
      refine Bd (P := fun M1_3 : Mm => Wp 15 1057 44 [some (.inr (.inr (10, 0))), some (.inl x1), some (.inl x2), some (.inl r), none, none] [] M1_3 (rI Q)) ?_
      intro M1_3 e_M1_3
      replace h := h M1_3 e_M1_3
      refine Wp.path (k := 2) [] (C := []) (pc' := 48) (ls' := [some (.inr (.inr (10, 0))), some (.inl x1), some (.inl x2), some (.inl r), none, none]) (st' := [.inl (M1_3.1 10 0 0)]) (M' := M1_3) rfl trivial ?_
      rcases Decidable.em (M1_3.1 10 0 0 = 0) with c_7 | c_7
      · replace h := h.1 c_7
        refine Wp.path (k := 1) [1] (C := [M1_3.1 10 0 0 = 0]) (pc' := 53) (ls' := [some (.inr (.inr (10, 0))), some (.inl x1), some (.inl x2), some (.inl r), none, none]) (st' := []) (M' := M1_3) rfl c_7 ?_
        refine Wp.path (k := 2) [] (C := []) (pc' := 55) (ls' := [some (.inr (.inr (10, 0))), some (.inl x1), some (.inl x2), some (.inl r), none, none]) (st' := [.inl 2, .inl x2]) (M' := M1_3) rfl trivial ?_
        rcases Int.lt_or_le (x2) (2) with c_8 | c_8
        · replace h := h.2 c_8
          refine Wp.path (k := 1) [0] (C := [x2 < 2]) (pc' := 58) (ls' := [some (.inr (.inr (10, 0))), some (.inl x1), some (.inl x2), some (.inl r), none, none]) (st' := []) (M' := M1_3) rfl c_8 ?_
          refine Wp.path (k := 1) [] (C := []) (pc' := 59) (ls' := [some (.inr (.inr (10, 0))), some (.inl x1), some (.inl x2), some (.inl r), none, none]) (st' := [.inl x2]) (M' := M1_3) rfl trivial ?_
          have g9_0 := h.1
          replace h := h.2
          have g9_1 := h.1
          replace h := h.2
          have k_9 : ∀ b_1 : Int, b_1 = (if x2 ≠ 0 then (M1_3.1 1136 0 r.toNat) else (M1_3.1 1135 0 r.toNat)) → Wp 15 1057 77 [some (.inr (.inr (10, 0))), some (.inl x1), some (.inl x2), some (.inl r), none, none] [.inl b_1] M1_3 (rI Q) := by
            intro b_1 e_b_1
            replace h := h b_1 e_b_1
            exact Wp.ret rfl ⟨_, rfl, h⟩
          clear h
          rcases Decidable.em (x2 = 0) with c_10 | c_10
          · refine Wp.path (k := 1) [0] (C := [x2 = 0]) (pc' := 62) (ls' := [some (.inr (.inr (10, 0))), some (.inl x1), some (.inl x2), some (.inl r), none, none]) (st' := []) (M' := M1_3) rfl c_10 ?_
            refine Wp.path (k := 5) [] (C := [0 ≤ r ∧ r < 640]) (pc' := 77) (ls' := [some (.inr (.inr (10, 0))), some (.inl x1), some (.inl x2), some (.inl r), none, none]) (st' := [.inl (M1_3.1 1135 0 r.toNat)]) (M' := M1_3) rfl (g9_1 c_10) ?_
            exact k_9 _ (by rw [if_neg (not_not_intro c_10)])
          · refine Wp.path (k := 1) [1] (C := [x2 ≠ 0]) (pc' := 71) (ls' := [some (.inr (.inr (10, 0))), some (.inl x1), some (.inl x2), some (.inl r), none, none]) (st' := []) (M' := M1_3) rfl c_10 ?_
            refine Wp.path (k := 4) [] (C := [0 ≤ r ∧ r < 640]) (pc' := 77) (ls' := [some (.inr (.inr (10, 0))), some (.inl x1), some (.inl x2), some (.inl r), none, none]) (st' := [.inl (M1_3.1 1136 0 r.toNat)]) (M' := M1_3) rfl (g9_0 c_10) ?_
            exact k_9 _ (by rw [if_pos c_10])
        · replace h := h.1 c_8
          refine Wp.path (k := 1) [1] (C := [2 ≤ x2]) (pc' := 78) (ls' := [some (.inr (.inr (10, 0))), some (.inl x1), some (.inl x2), some (.inl r), none, none]) (st' := []) (M' := M1_3) rfl c_8 ?_
          refine Wp.path (k := 4) [] (C := []) (pc' := 84) (ls' := [some (.inr (.inr (10, 0))), some (.inl x1), some (.inl x2), some (.inl r), some (.inl 0), some (.inl 0)]) (st' := []) (M' := M1_3) rfl trivial ?_
          exact h
      · replace h := h.2 c_7
        refine Wp.path (k := 1) [0] (C := [M1_3.1 10 0 0 ≠ 0]) (pc' := 51) (ls' := [some (.inr (.inr (10, 0))), some (.inl x1), some (.inl x2), some (.inl r), none, none]) (st' := []) (M' := M1_3) rfl c_7 ?_
        refine Wp.path (k := 1) [] (C := []) (pc' := 52) (ls' := [some (.inr (.inr (10, 0))), some (.inl x1), some (.inl x2), some (.inl r), none, none]) (st' := [.inl 0]) (M' := M1_3) rfl trivial ?_
        exact Wp.ret rfl ⟨_, rfl, h⟩
    · replace h := h.1 c_6
      refine Wp.path (k := 1) [1] (C := [0 ≤ r]) (pc' := 27) (ls' := [some (.inr (.inr (10, 0))), some (.inl x1), some (.inl x2), some (.inl r), none, none]) (st' := [.inr (.inr (10, 0))]) (M' := M1_2) rfl c_6 ?_
      refine Wp.path (k := 3) [] (C := []) (pc' := 30) (ls' := [some (.inr (.inr (10, 0))), some (.inl x1), some (.inl x2), some (.inl r), none, none]) (st' := [.inl 3, .inl 0, .inl x2, .inr (.inr (10, 0))]) (M' := M1_2) rfl trivial ?_
      refine Wp.call (e1002) rfl rfl (by decide) ?_
      rintro v_ M_ ⟨eM_, ev_⟩
      rw [eM_, ev_]
      clear eM_ ev_ v_ M_
      show Wp 15 1057 33 [some (.inr (.inr (10, 0))), some (.inl x1), some (.inl x2), some (.inl r), none, none] [.inl (inV x2 0 3), .inr (.inr (10, 0))] M1_2 (rI Q)
      have k_15 : ∀ b_2 : Int, b_2 = (if inV x2 0 3 ≠ 0 then 0 else 2) → Wp 15 1057 41 [some (.inr (.inr (10, 0))), some (.inl x1), some (.inl x2), some (.inl r), none, none] [.inl b_2, .inr (.inr (10, 0))] M1_2 (rI Q) := by
        intro b_2 e_b_2
        replace h := h b_2 e_b_2
        refine Wp.path (k := 1) [] (C := []) (pc' := 44) (ls' := [some (.inr (.inr (10, 0))), some (.inl x1), some (.inl x2), some (.inl r), none, none]) (st' := []) (M' := setI M1_2 10 0 0 b_2) rfl trivial ?_
        refine Bd (P := fun M1_4 : Mm => Wp 15 1057 44 [some (.inr (.inr (10, 0))), some (.inl x1), some (.inl x2), some (.inl r), none, none] [] M1_4 (rI Q)) ?_
        intro M1_4 e_M1_4
        replace h := h M1_4 e_M1_4
        refine Wp.path (k := 2) [] (C := []) (pc' := 48) (ls' := [some (.inr (.inr (10, 0))), some (.inl x1), some (.inl x2), some (.inl r), none, none]) (st' := [.inl (M1_4.1 10 0 0)]) (M' := M1_4) rfl trivial ?_
        rcases Decidable.em (M1_4.1 10 0 0 = 0) with c_11 | c_11
        · replace h := h.1 c_11
          refine Wp.path (k := 1) [1] (C := [M1_4.1 10 0 0 = 0]) (pc' := 53) (ls' := [some (.inr (.inr (10, 0))), some (.inl x1), some (.inl x2), some (.inl r), none, none]) (st' := []) (M' := M1_4) rfl c_11 ?_
          refine Wp.path (k := 2) [] (C := []) (pc' := 55) (ls' := [some (.inr (.inr (10, 0))), some (.inl x1), some (.inl x2), some (.inl r), none, none]) (st' := [.inl 2, .inl x2]) (M' := M1_4) rfl trivial ?_
          rcases Int.lt_or_le (x2) (2) with c_12 | c_12
          · replace h := h.2 c_12
            refine Wp.path (k := 1) [0] (C := [x2 < 2]) (pc' := 58) (ls' := [some (.inr (.inr (10, 0))), some (.inl x1), some (.inl x2), some (.inl r), none, none]) (st' := []) (M' := M1_4) rfl c_12 ?_
            refine Wp.path (k := 1) [] (C := []) (pc' := 59) (ls' := [some (.inr (.inr (10, 0))), some (.inl x1), some (.inl x2), some (.inl r), none, none]) (st' := [.inl x2]) (M' := M1_4) rfl trivial ?_
            have g13_0 := h.1
            replace h := h.2
            have g13_1 := h.1
            replace h := h.2
            have k_13 : ∀ b_3 : Int, b_3 = (if x2 ≠ 0 then (M1_4.1 1136 0 r.toNat) else (M1_4.1 1135 0 r.toNat)) → Wp 15 1057 77 [some (.inr (.inr (10, 0))), some (.inl x1), some (.inl x2), some (.inl r), none, none] [.inl b_3] M1_4 (rI Q) := by
              intro b_3 e_b_3
              replace h := h b_3 e_b_3
              exact Wp.ret rfl ⟨_, rfl, h⟩
            clear h
            rcases Decidable.em (x2 = 0) with c_14 | c_14
            · refine Wp.path (k := 1) [0] (C := [x2 = 0]) (pc' := 62) (ls' := [some (.inr (.inr (10, 0))), some (.inl x1), some (.inl x2), some (.inl r), none, none]) (st' := []) (M' := M1_4) rfl c_14 ?_
              refine Wp.path (k := 5) [] (C := [0 ≤ r ∧ r < 640]) (pc' := 77) (ls' := [some (.inr (.inr (10, 0))), some (.inl x1), some (.inl x2), some (.inl r), none, none]) (st' := [.inl (M1_4.1 1135 0 r.toNat)]) (M' := M1_4) rfl (g13_1 c_14) ?_
              exact k_13 _ (by rw [if_neg (not_not_intro c_14)])
            · refine Wp.path (k := 1) [1] (C := [x2 ≠ 0]) (pc' := 71) (ls' := [some (.inr (.inr (10, 0))), some (.inl x1), some (.inl x2), some (.inl r), none, none]) (st' := []) (M' := M1_4) rfl c_14 ?_
              refine Wp.path (k := 4) [] (C := [0 ≤ r ∧ r < 640]) (pc' := 77) (ls' := [some (.inr (.inr (10, 0))), some (.inl x1), some (.inl x2), some (.inl r), none, none]) (st' := [.inl (M1_4.1 1136 0 r.toNat)]) (M' := M1_4) rfl (g13_0 c_14) ?_
              exact k_13 _ (by rw [if_pos c_14])
          · replace h := h.1 c_12
            refine Wp.path (k := 1) [1] (C := [2 ≤ x2]) (pc' := 78) (ls' := [some (.inr (.inr (10, 0))), some (.inl x1), some (.inl x2), some (.inl r), none, none]) (st' := []) (M' := M1_4) rfl c_12 ?_
            refine Wp.path (k := 4) [] (C := []) (pc' := 84) (ls' := [some (.inr (.inr (10, 0))), some (.inl x1), some (.inl x2), some (.inl r), some (.inl 0), some (.inl 0)]) (st' := []) (M' := M1_4) rfl trivial ?_
            exact h
        · replace h := h.2 c_11
          refine Wp.path (k := 1) [0] (C := [M1_4.1 10 0 0 ≠ 0]) (pc' := 51) (ls' := [some (.inr (.inr (10, 0))), some (.inl x1), some (.inl x2), some (.inl r), none, none]) (st' := []) (M' := M1_4) rfl c_11 ?_
          refine Wp.path (k := 1) [] (C := []) (pc' := 52) (ls' := [some (.inr (.inr (10, 0))), some (.inl x1), some (.inl x2), some (.inl r), none, none]) (st' := [.inl 0]) (M' := M1_4) rfl trivial ?_
          exact Wp.ret rfl ⟨_, rfl, h⟩
      clear h
      rcases Decidable.em (inV x2 0 3 = 0) with c_16 | c_16
      · refine Wp.path (k := 1) [0] (C := [inV x2 0 3 = 0]) (pc' := 36) (ls' := [some (.inr (.inr (10, 0))), some (.inl x1), some (.inl x2), some (.inl r), none, none]) (st' := [.inr (.inr (10, 0))]) (M' := M1_2) rfl c_16 ?_
        refine Wp.path (k := 2) [] (C := []) (pc' := 41) (ls' := [some (.inr (.inr (10, 0))), some (.inl x1), some (.inl x2), some (.inl r), none, none]) (st' := [.inl 2, .inr (.inr (10, 0))]) (M' := M1_2) rfl trivial ?_
        exact k_15 _ (by rw [if_neg (not_not_intro c_16)])
      · refine Wp.path (k := 1) [1] (C := [inV x2 0 3 ≠ 0]) (pc' := 40) (ls' := [some (.inr (.inr (10, 0))), some (.inl x1), some (.inl x2), some (.inl r), none, none]) (st' := [.inr (.inr (10, 0))]) (M' := M1_2) rfl c_16 ?_
        refine Wp.path (k := 1) [] (C := []) (pc' := 41) (ls' := [some (.inr (.inr (10, 0))), some (.inl x1), some (.inl x2), some (.inl r), none, none]) (st' := [.inl 0, .inr (.inr (10, 0))]) (M' := M1_2) rfl trivial ?_
        exact k_15 _ (by rw [if_pos c_16])
theorem s_1057_84 {x1 : Int} {x2 : Int} {x3 : Int} {x4 : Int} {x5 : Int} {M : Mm} {Q : Int → Mm → Prop} (h : ((M.1 10 0 34 ≤ x5 → (Q x4 M)) ∧ (x5 < M.1 10 0 34 → ((0 ≤ x3 ∧ x3 < 640 ∧ 0 ≤ x5 ∧ x5 < 640) ∧ ((likeV (M.1 1135 0) (M.1 1136 0) x3.toNat x5.toNat ≠ 0 → x2 ≠ 2 → ((0 ≤ x5 ∧ x5 < 640) ∧ (-2147483648 ≤ (M.1 1138 0 x5.toNat) - (M.1 1137 0 x5.toNat) ∧ (M.1 1138 0 x5.toNat) - (M.1 1137 0 x5.toNat) ≤ 2147483647))) ∧ (∀ b : Int, b = (if likeV (M.1 1135 0) (M.1 1136 0) x3.toNat x5.toNat ≠ 0 then (if x2 ≠ 2 then ((M.1 1138 0 x5.toNat) - (M.1 1137 0 x5.toNat)) else 1) else 0) → (((-2147483648 ≤ x4 + b ∧ x4 + b ≤ 2147483647)) ∧ (∀ x4_1 : Int, x4_1 = x4 + b → (((-2147483648 ≤ x5 + 1 ∧ x5 + 1 ≤ 2147483647)) ∧ (L_1057_84 x1 x2 x3 x4_1 (x5 + 1) M Q)))))))))) : L_1057_84 x1 x2 x3 x4 x5 M Q := by
  show Wp 15 1057 84 [some (.inr (.inr (10, 0))), some (.inl x1), some (.inl x2), some (.inl x3), some (.inl x4), some (.inl x5)] [] M (rI Q)
  refine Wp.path (k := 3) [] (C := []) (pc' := 90) (ls' := [some (.inr (.inr (10, 0))), some (.inl x1), some (.inl x2), some (.inl x3), some (.inl x4), some (.inl x5)]) (st' := [.inl (M.1 10 0 34), .inl x5]) (M' := M) rfl trivial ?_
  rcases Int.lt_or_le (x5) (M.1 10 0 34) with c_1 | c_1
  · replace h := h.2 c_1
    refine Wp.path (k := 1) [0] (C := [x5 < M.1 10 0 34]) (pc' := 93) (ls' := [some (.inr (.inr (10, 0))), some (.inl x1), some (.inl x2), some (.inl x3), some (.inl x4), some (.inl x5)]) (st' := []) (M' := M) rfl c_1 ?_
    refine Wp.path (k := 4) [] (C := []) (pc' := 99) (ls' := [some (.inr (.inr (10, 0))), some (.inl x1), some (.inl x2), some (.inl x3), some (.inl x4), some (.inl x5)]) (st' := [.inl x5, .inl x3, .inr (.inr (10, 0)), .inl x4]) (M' := M) rfl trivial ?_
    refine Wp.call (e1054 h.1.1 h.1.2.1 h.1.2.2.1 h.1.2.2.2) rfl rfl (by decide) ?_
    replace h := h.2
    rintro v_ M_ ⟨eM_, ev_⟩
    rw [eM_, ev_]
    clear eM_ ev_ v_ M_
    show Wp 15 1057 102 [some (.inr (.inr (10, 0))), some (.inl x1), some (.inl x2), some (.inl x3), some (.inl x4), some (.inl x5)] [.inl (likeV (M.1 1135 0) (M.1 1136 0) x3.toNat x5.toNat), .inl x4] M (rI Q)
    have g2_0 := h.1
    replace h := h.2
    have k_2 : ∀ b : Int, b = (if likeV (M.1 1135 0) (M.1 1136 0) x3.toNat x5.toNat ≠ 0 then (if x2 ≠ 2 then ((M.1 1138 0 x5.toNat) - (M.1 1137 0 x5.toNat)) else 1) else 0) → Wp 15 1057 133 [some (.inr (.inr (10, 0))), some (.inl x1), some (.inl x2), some (.inl x3), some (.inl x4), some (.inl x5)] [.inl b, .inl x4] M (rI Q) := by
      intro b e_b
      replace h := h b e_b
      refine Wp.path (k := 2) [] (C := [inR (x4 + b)]) (pc' := 136) (ls' := [some (.inr (.inr (10, 0))), some (.inl x1), some (.inl x2), some (.inl x3), some (.inl (x4 + b)), some (.inl x5)]) (st' := []) (M' := M) rfl h.1 ?_
      replace h := h.2
      refine Bd (P := fun x4_1 : Int => Wp 15 1057 136 [some (.inr (.inr (10, 0))), some (.inl x1), some (.inl x2), some (.inl x3), some (.inl x4_1), some (.inl x5)] [] M (rI Q)) ?_
      intro x4_1 e_x4_1
      replace h := h x4_1 e_x4_1
      refine Wp.path (k := 2) [] (C := [inR (x5 + 1)]) (pc' := 84) (ls' := [some (.inr (.inr (10, 0))), some (.inl x1), some (.inl x2), some (.inl x3), some (.inl x4_1), some (.inl (x5 + 1))]) (st' := []) (M' := M) rfl h.1 ?_
      replace h := h.2
      exact h
    clear h
    rcases Decidable.em (likeV (M.1 1135 0) (M.1 1136 0) x3.toNat x5.toNat = 0) with c_3 | c_3
    · refine Wp.path (k := 1) [0] (C := [likeV (M.1 1135 0) (M.1 1136 0) x3.toNat x5.toNat = 0]) (pc' := 105) (ls' := [some (.inr (.inr (10, 0))), some (.inl x1), some (.inl x2), some (.inl x3), some (.inl x4), some (.inl x5)]) (st' := [.inl x4]) (M' := M) rfl c_3 ?_
      refine Wp.path (k := 2) [] (C := []) (pc' := 133) (ls' := [some (.inr (.inr (10, 0))), some (.inl x1), some (.inl x2), some (.inl x3), some (.inl x4), some (.inl x5)]) (st' := [.inl 0, .inl x4]) (M' := M) rfl trivial ?_
      exact k_2 _ (by rw [if_neg (not_not_intro c_3)])
    · refine Wp.path (k := 1) [1] (C := [likeV (M.1 1135 0) (M.1 1136 0) x3.toNat x5.toNat ≠ 0]) (pc' := 109) (ls' := [some (.inr (.inr (10, 0))), some (.inl x1), some (.inl x2), some (.inl x3), some (.inl x4), some (.inl x5)]) (st' := [.inl x4]) (M' := M) rfl c_3 ?_
      refine Wp.path (k := 2) [] (C := []) (pc' := 111) (ls' := [some (.inr (.inr (10, 0))), some (.inl x1), some (.inl x2), some (.inl x3), some (.inl x4), some (.inl x5)]) (st' := [.inl 2, .inl x2, .inl x4]) (M' := M) rfl trivial ?_
      rcases Decidable.em (x2 = 2) with c_4 | c_4
      · refine Wp.path (k := 1) [0] (C := [x2 = 2]) (pc' := 114) (ls' := [some (.inr (.inr (10, 0))), some (.inl x1), some (.inl x2), some (.inl x3), some (.inl x4), some (.inl x5)]) (st' := [.inl x4]) (M' := M) rfl c_4 ?_
        refine Wp.path (k := 2) [] (C := []) (pc' := 133) (ls' := [some (.inr (.inr (10, 0))), some (.inl x1), some (.inl x2), some (.inl x3), some (.inl x4), some (.inl x5)]) (st' := [.inl 1, .inl x4]) (M' := M) rfl trivial ?_
        exact k_2 _ (by rw [if_pos c_3, if_neg (not_not_intro c_4)])
      · refine Wp.path (k := 1) [1] (C := [x2 ≠ 2]) (pc' := 118) (ls' := [some (.inr (.inr (10, 0))), some (.inl x1), some (.inl x2), some (.inl x3), some (.inl x4), some (.inl x5)]) (st' := [.inl x4]) (M' := M) rfl c_4 ?_
        refine Wp.path (k := 9) [] (C := [0 ≤ x5 ∧ x5 < 640, 0 ≤ x5 ∧ x5 < 640, inR ((M.1 1138 0 x5.toNat) - (M.1 1137 0 x5.toNat))]) (pc' := 133) (ls' := [some (.inr (.inr (10, 0))), some (.inl x1), some (.inl x2), some (.inl x3), some (.inl x4), some (.inl x5)]) (st' := [.inl ((M.1 1138 0 x5.toNat) - (M.1 1137 0 x5.toNat)), .inl x4]) (M' := M) rfl ⟨(g2_0 c_3 c_4).1, (g2_0 c_3 c_4).1, (g2_0 c_3 c_4).2⟩ ?_
        exact k_2 _ (by rw [if_pos c_3, if_pos c_4])
  · replace h := h.1 c_1
    refine Wp.path (k := 1) [1] (C := [M.1 10 0 34 ≤ x5]) (pc' := 142) (ls' := [some (.inr (.inr (10, 0))), some (.inl x1), some (.inl x2), some (.inl x3), some (.inl x4), some (.inl x5)]) (st' := []) (M' := M) rfl c_1 ?_
    refine Wp.path (k := 1) [] (C := []) (pc' := 144) (ls' := [some (.inr (.inr (10, 0))), some (.inl x1), some (.inl x2), some (.inl x3), some (.inl x4), some (.inl x5)]) (st' := [.inl x4]) (M' := M) rfl trivial ?_
    exact Wp.ret rfl ⟨_, rfl, h⟩
/-- X10_isSame -/
def E_1060 (x1 : Int) (M : Mm) (Q : Int → Mm → Prop) : Prop := Ev 2 1060 [.inr (.inr (10, 0)), .inl x1] M (rI Q)
theorem m_1060 {x1 : Int} {M : Mm} {Q Q1 : Int → Mm → Prop} (h : E_1060 x1 M Q) (k : (∀ r M1, Q r M1 → Q1 r M1)) : E_1060 x1 M Q1 := Ev.mono h (fun v M1 ⟨r, h1, h2⟩ => ⟨r, h1, k _ _ h2⟩)
def L_1060_17 (x1 : Int) (x2 : Int) (x3 : Int) (x4 : Int) (x5 : Int) (x6 : Int) (M : Mm) (Q : Int → Mm → Prop) : Prop := ∀ o7 o8 : Option Vv, Wp 2 1060 17 [some (.inr (.inr (10, 0))), some (.inl x1), some (.inl x2), some (.inl x3), some (.inl x4), some (.inl x5), some (.inl x6), o7, o8] [] M (rI Q)
def L_1060_148 (x1 : Int) (x2 : Int) (x3 : Int) (x4 : Int) (x5 : Int) (x6 : Int) (M : Mm) (Q : Int → Mm → Prop) : Prop := ∀ o7 o8 : Option Vv, Wp 2 1060 148 [some (.inr (.inr (10, 0))), some (.inl x1), some (.inl x2), some (.inl x3), some (.inl x4), some (.inl x5), some (.inl x6), o7, o8] [] M (rI Q)
theorem s_1060_0 {x1 : Int} {M : Mm} {Q : Int → Mm → Prop} (h : (L_1060_17 x1 99 99 99 99 0 M Q)) : E_1060 x1 M Q := by
  show Wp 2 1060 0 [some (.inr (.inr (10, 0))), some (.inl x1), none, none, none, none, none, none, none] [] M (rI Q)
  refine Wp.path (k := 10) [] (C := []) (pc' := 17) (ls' := [some (.inr (.inr (10, 0))), some (.inl x1), some (.inl 99), some (.inl 99), some (.inl 99), some (.inl 99), some (.inl 0), none, none]) (st' := []) (M' := M) rfl trivial ?_
  exact h _ _
theorem s_1060_17 {x1 : Int} {x2 : Int} {x3 : Int} {x4 : Int} {x5 : Int} {x6 : Int} {M : Mm} {Q : Int → Mm → Prop} (h : ((144 ≤ x6 → (L_1060_148 x1 x2 x3 x4 x5 0 M Q)) ∧ (x6 < 144 → (((-2147483648 ≤ x6 ∧ x6 ≤ 2147483647)) ∧ (∀ d : Int, d = Int.tmod x6 12 → (((-2147483648 ≤ x6 ∧ x6 ≤ 2147483647)) ∧ (∀ d_1 : Int, d_1 = Int.tdiv x6 12 → ((hasW (M.1 1101 0) d d_1 ≠ 0 → (∀ b : Int, b = (if x2 ≤ d then x2 else d) → (∀ b_1 : Int, b_1 = (if x3 ≤ d_1 then x3 else d_1) → ((-1000 ≤ d ∧ d ≤ 1000 ∧ -1000 ≤ d_1 ∧ d_1 ≤ 1000) ∧ ((x4 ≤ txV x1 d d_1 → ((-1000 ≤ d ∧ d ≤ 1000 ∧ -1000 ≤ d_1 ∧ d_1 ≤ 1000) ∧ ((x5 ≤ tyV x1 d d_1 → (((-2147483648 ≤ x6 + 1 ∧ x6 + 1 ≤ 2147483647)) ∧ (L_1060_17 x1 b b_1 x4 x5 (x6 + 1) M Q))) ∧ (tyV x1 d d_1 < x5 → ((-1000 ≤ d ∧ d ≤ 1000 ∧ -1000 ≤ d_1 ∧ d_1 ≤ 1000) ∧ (∀ x5_2 : Int, x5_2 = tyV x1 d d_1 → (((-2147483648 ≤ x6 + 1 ∧ x6 + 1 ≤ 2147483647)) ∧ (L_1060_17 x1 b b_1 x4 x5_2 (x6 + 1) M Q)))))))) ∧ (txV x1 d d_1 < x4 → ((-1000 ≤ d ∧ d ≤ 1000 ∧ -1000 ≤ d_1 ∧ d_1 ≤ 1000) ∧ (∀ x4_1 : Int, x4_1 = txV x1 d d_1 → ((-1000 ≤ d ∧ d ≤ 1000 ∧ -1000 ≤ d_1 ∧ d_1 ≤ 1000) ∧ ((x5 ≤ tyV x1 d d_1 → (((-2147483648 ≤ x6 + 1 ∧ x6 + 1 ≤ 2147483647)) ∧ (L_1060_17 x1 b b_1 x4_1 x5 (x6 + 1) M Q))) ∧ (tyV x1 d d_1 < x5 → ((-1000 ≤ d ∧ d ≤ 1000 ∧ -1000 ≤ d_1 ∧ d_1 ≤ 1000) ∧ (∀ x5_1 : Int, x5_1 = tyV x1 d d_1 → (((-2147483648 ≤ x6 + 1 ∧ x6 + 1 ≤ 2147483647)) ∧ (L_1060_17 x1 b b_1 x4_1 x5_1 (x6 + 1) M Q))))))))))))))) ∧ (hasW (M.1 1101 0) d d_1 = 0 → (((-2147483648 ≤ x6 + 1 ∧ x6 + 1 ≤ 2147483647)) ∧ (L_1060_17 x1 x2 x3 x4 x5 (x6 + 1) M Q))))))))))) : L_1060_17 x1 x2 x3 x4 x5 x6 M Q := by
  intro o7 o8
  show Wp 2 1060 17 [some (.inr (.inr (10, 0))), some (.inl x1), some (.inl x2), some (.inl x3), some (.inl x4), some (.inl x5), some (.inl x6), o7, o8] [] M (rI Q)
  refine Wp.path (k := 2) [] (C := []) (pc' := 22) (ls' := [some (.inr (.inr (10, 0))), some (.inl x1), some (.inl x2), some (.inl x3), some (.inl x4), some (.inl x5), some (.inl x6), o7, o8]) (st' := [.inl 144, .inl x6]) (M' := M) rfl trivial ?_
  rcases Int.lt_or_le (x6) (144) with c_1 | c_1
  · replace h := h.2 c_1
    refine Wp.path (k := 1) [0] (C := [x6 < 144]) (pc' := 25) (ls' := [some (.inr (.inr (10, 0))), some (.inl x1), some (.inl x2), some (.inl x3), some (.inl x4), some (.inl x5), some (.inl x6), o7, o8]) (st' := []) (M' := M) rfl c_1 ?_
    refine Wp.path (k := 3) [] (C := [inR x6 ∧ 0 < 12 ∧ inR 12]) (pc' := 30) (ls' := [some (.inr (.inr (10, 0))), some (.inl x1), some (.inl x2), some (.inl x3), some (.inl x4), some (.inl x5), some (.inl x6), o7, o8]) (st' := [.inl (Int.tmod x6 12)]) (M' := M) rfl ⟨h.1, by decide, ⟨by decide, by decide⟩⟩ ?_
    replace h := h.2
    refine Bd (P := fun d : Int => Wp 2 1060 30 [some (.inr (.inr (10, 0))), some (.inl x1), some (.inl x2), some (.inl x3), some (.inl x4), some (.inl x5), some (.inl x6), o7, o8] [.inl d] M (rI Q)) ?_
    intro d e_d
    replace h := h d e_d
    refine Wp.path (k := 4) [] (C := [inR x6 ∧ 0 < 12 ∧ inR 12]) (pc' := 37) (ls' := [some (.inr (.inr (10, 0))), some (.inl x1), some (.inl x2), some (.inl x3), some (.inl x4), some (.inl x5), some (.inl x6), some (.inl d), o8]) (st' := [.inl (Int.tdiv x6 12)]) (M' := M) rfl ⟨h.1, by decide, ⟨by decide, by decide⟩⟩ ?_
    replace h := h.2
    refine Bd (P := fun d_1 : Int => Wp 2 1060 37 [some (.inr (.inr (10, 0))), some (.inl x1), some (.inl x2), some (.inl x3), some (.inl x4), some (.inl x5), some (.inl x6), some (.inl d), o8] [.inl d_1] M (rI Q)) ?_
    intro d_1 e_d_1
    replace h := h d_1 e_d_1
    refine Wp.path (k := 4) [] (C := []) (pc' := 44) (ls' := [some (.inr (.inr (10, 0))), some (.inl x1), some (.inl x2), some (.inl x3), some (.inl x4), some (.inl x5), some (.inl x6), some (.inl d), some (.inl d_1)]) (st' := [.inl d_1, .inl d, .inr (.inr (10, 0))]) (M' := M) rfl trivial ?_
    refine Wp.call (e1004) rfl rfl (by decide) ?_
    rintro v_ M_ ⟨eM_, ev_⟩
    rw [eM_, ev_]
    clear eM_ ev_ v_ M_
    show Wp 2 1060 47 [some (.inr (.inr (10, 0))), some (.inl x1), some (.inl x2), some (.inl x3), some (.inl x4), some (.inl x5), some (.inl x6), some (.inl d), some (.inl d_1)] [.inl (hasW (M.1 1101 0) d d_1)] M (rI Q)
    rcases Decidable.em (hasW (M.1 1101 0) d d_1 = 0) with c_2 | c_2
    · replace h := h.2 c_2
      refine Wp.path (k := 1) [0] (C := [hasW (M.1 1101 0) d d_1 = 0]) (pc' := 50) (ls' := [some (.inr (.inr (10, 0))), some (.inl x1), some (.inl x2), some (.inl x3), some (.inl x4), some (.inl x5), some (.inl x6), some (.inl d), some (.inl d_1)]) (st' := []) (M' := M) rfl c_2 ?_
      refine Wp.path (k := 3) [] (C := [inR (x6 + 1)]) (pc' := 17) (ls' := [some (.inr (.inr (10, 0))), some (.inl x1), some (.inl x2), some (.inl x3), some (.inl x4), some (.inl x5), some (.inl (x6 + 1)), some (.inl d), some (.inl d_1)]) (st' := []) (M' := M) rfl h.1 ?_
      replace h := h.2
      exact h _ _
    · replace h := h.1 c_2
      refine Wp.path (k := 1) [1] (C := [hasW (M.1 1101 0) d d_1 ≠ 0]) (pc' := 53) (ls' := [some (.inr (.inr (10, 0))), some (.inl x1), some (.inl x2), some (.inl x3), some (.inl x4), some (.inl x5), some (.inl x6), some (.inl d), some (.inl d_1)]) (st' := []) (M' := M) rfl c_2 ?_
      refine Wp.path (k := 2) [] (C := []) (pc' := 56) (ls' := [some (.inr (.inr (10, 0))), some (.inl x1), some (.inl x2), some (.inl x3), some (.inl x4), some (.inl x5), some (.inl x6), some (.inl d), some (.inl d_1)]) (st' := [.inl x2, .inl d]) (M' := M) rfl trivial ?_
      have k_8 : ∀ b : Int, b = (if x2 ≤ d then x2 else d) → Wp 2 1060 65 [some (.inr (.inr (10, 0))), some (.inl x1), some (.inl x2), some (.inl x3), some (.inl x4), some (.inl x5), some (.inl x6), some (.inl d), some (.inl d_1)] [.inl b] M (rI Q) := by
        intro b e_b
        replace h := h b e_b
        refine Wp.path (k := 3) [] (C := []) (pc' := 69) (ls' := [some (.inr (.inr (10, 0))), some (.inl x1), some (.inl b), some (.inl x3), some (.inl x4), some (.inl x5), some (.inl x6), some (.inl d), some (.inl d_1)]) (st' := [.inl x3, .inl d_1]) (M' := M) rfl trivial ?_
        have k_6 : ∀ b_1 : Int, b_1 = (if x3 ≤ d_1 then x3 else d_1) → Wp 2 1060 78 [some (.inr (.inr (10, 0))), some (.inl x1), some (.inl b), some (.inl x3), some (.inl x4), some (.inl x5), some (.inl x6), some (.inl d), some (.inl d_1)] [.inl b_1] M (rI Q) := by
          intro b_1 e_b_1
          replace h := h b_1 e_b_1
          refine Wp.path (k := 5) [] (C := []) (pc' := 85) (ls' := [some (.inr (.inr (10, 0))), some (.inl x1), some (.inl b), some (.inl b_1), some (.inl x4), some (.inl x5), some (.inl x6), some (.inl d), some (.inl d_1)]) (st' := [.inl d_1, .inl d, .inl x1, .inr (.inr (10, 0))]) (M' := M) rfl trivial ?_
          refine Wp.call (e1058 h.1.1 h.1.2.1 h.1.2.2.1 h.1.2.2.2) rfl rfl (by decide) ?_
          replace h := h.2
          rintro v_ M_ ⟨eM_, ev_⟩
          rw [eM_, ev_]
          clear eM_ ev_ v_ M_
          show Wp 2 1060 88 [some (.inr (.inr (10, 0))), some (.inl x1), some (.inl b), some (.inl b_1), some (.inl x4), some (.inl x5), some (.inl x6), some (.inl d), some (.inl d_1)] [.inl (txV x1 d d_1)] M (rI Q)
          refine Wp.path (k := 1) [] (C := []) (pc' := 90) (ls' := [some (.inr (.inr (10, 0))), some (.inl x1), some (.inl b), some (.inl b_1), some (.inl x4), some (.inl x5), some (.inl x6), some (.inl d), some (.inl d_1)]) (st' := [.inl x4, .inl (txV x1 d d_1)]) (M' := M) rfl trivial ?_
          rcases Int.lt_or_le (txV x1 d d_1) (x4) with c_3 | c_3
          · replace h := h.2 c_3
            refine Wp.path (k := 1) [0] (C := [txV x1 d d_1 < x4]) (pc' := 93) (ls' := [some (.inr (.inr (10, 0))), some (.inl x1), some (.inl b), some (.inl b_1), some (.inl x4), some (.inl x5), some (.inl x6), some (.inl d), some (.inl d_1)]) (st' := []) (M' := M) rfl c_3 ?_
            refine Wp.path (k := 4) [] (C := []) (pc' := 99) (ls' := [some (.inr (.inr (10, 0))), some (.inl x1), some (.inl b), some (.inl b_1), some (.inl x4), some (.inl x5), some (.inl x6), some (.inl d), some (.inl d_1)]) (st' := [.inl d_1, .inl d, .inl x1, .inr (.inr (10, 0))]) (M' := M) rfl trivial ?_
            refine Wp.call (e1058 h.1.1 h.1.2.1 h.1.2.2.1 h.1.2.2.2) rfl rfl (by decide) ?_
            replace h := h.2
            rintro v_ M_ ⟨eM_, ev_⟩
            rw [eM_, ev_]
            clear eM_ ev_ v_ M_
            show Wp 2 1060 102 [some (.inr (.inr (10, 0))), some (.inl x1), some (.inl b), some (.inl b_1), some (.inl x4), some (.inl x5), some (.inl x6), some (.inl d), some (.inl d_1)] [.inl (txV x1 d d_1)] M (rI Q)
            refine Wp.path (k := 2) [] (C := []) (pc' := 109) (ls' := [some (.inr (.inr (10, 0))), some (.inl x1), some (.inl b), some (.inl b_1), some (.inl (txV x1 d d_1)), some (.inl x5), some (.inl x6), some (.inl d), some (.inl d_1)]) (st' := []) (M' := M) rfl trivial ?_
            refine Bd (P := fun x4_1 : Int => Wp 2 1060 109 [some (.inr (.inr (10, 0))), some (.inl x1), some (.inl b), some (.inl b_1), some (.inl x4_1), some (.inl x5), some (.inl x6), some (.inl d), some (.inl d_1)] [] M (rI Q)) ?_
            intro x4_1 e_x4_1
            replace h := h x4_1 e_x4_1
            refine Wp.path (k := 4) [] (C := []) (pc' := 115) (ls' := [some (.inr (.inr (10, 0))), some (.inl x1), some (.inl b), some (.inl b_1), some (.inl x4_1), some (.inl x5), some (.inl x6), some (.inl d), some (.inl d_1)]) (st' := [.inl d_1, .inl d, .inl x1, .inr (.inr (10, 0))]) (M' := M) rfl trivial ?_
            refine Wp.call (e1059 h.1.1 h.1.2.1 h.1.2.2.1 h.1.2.2.2) rfl rfl (by decide) ?_
            replace h := h.2
            rintro v_ M_ ⟨eM_, ev_⟩
            rw [eM_, ev_]
            clear eM_ ev_ v_ M_
            show Wp 2 1060 118 [some (.inr (.inr (10, 0))), some (.inl x1), some (.inl b), some (.inl b_1), some (.inl x4_1), some (.inl x5), some (.inl x6), some (.inl d), some (.inl d_1)] [.inl (tyV x1 d d_1)] M (rI Q)
            refine Wp.path (k := 1) [] (C := []) (pc' := 120) (ls' := [some (.inr (.inr (10, 0))), some (.inl x1), some (.inl b), some (.inl b_1), some (.inl x4_1), some (.inl x5), some (.inl x6), some (.inl d), some (.inl d_1)]) (st' := [.inl x5, .inl (tyV x1 d d_1)]) (M' := M) rfl trivial ?_
            rcases Int.lt_or_le (tyV x1 d d_1) (x5) with c_4 | c_4
            · replace h := h.2 c_4
              refine Wp.path (k := 1) [0] (C := [tyV x1 d d_1 < x5]) (pc' := 123) (ls' := [some (.inr (.inr (10, 0))), some (.inl x1), some (.inl b), some (.inl b_1), some (.inl x4_1), some (.inl x5), some (.inl x6), some (.inl d), some (.inl d_1)]) (st' := []) (M' := M) rfl c_4 ?_
              refine Wp.path (k := 4) [] (C := []) (pc' := 129) (ls' := [some (.inr (.inr (10, 0))), some (.inl x1), some (.inl b), some (.inl b_1), some (.inl x4_1), some (.inl x5), some (.inl x6), some (.inl d), some (.inl d_1)]) (st' := [.inl d_1, .inl d, .inl x1, .inr (.inr (10, 0))]) (M' := M) rfl trivial ?_
              refine Wp.call (e1059 h.1.1 h.1.2.1 h.1.2.2.1 h.1.2.2.2) rfl rfl (by decide) ?_
              replace h := h.2
              rintro v_ M_ ⟨eM_, ev_⟩
              rw [eM_, ev_]
              clear eM_ ev_ v_ M_
              show Wp 2 1060 132 [some (.inr (.inr (10, 0))), some (.inl x1), some (.inl b), some (.inl b_1), some (.inl x4_1), some (.inl x5), some (.inl x6), some (.inl d), some (.inl d_1)] [.inl (tyV x1 d d_1)] M (rI Q)
              refine Wp.path (k := 2) [] (C := []) (pc' := 139) (ls' := [some (.inr (.inr (10, 0))), some (.inl x1), some (.inl b), some (.inl b_1), some (.inl x4_1), some (.inl (tyV x1 d d_1)), some (.inl x6), some (.inl d), some (.inl d_1)]) (st' := []) (M' := M) rfl trivial ?_
              refine Bd (P := fun x5_1 : Int => Wp 2 1060 139 [some (.inr (.inr (10, 0))), some (.inl x1), some (.inl b), some (.inl b_1), some (.inl x4_1), some (.inl x5_1), some (.inl x6), some (.inl d), some (.inl d_1)] [] M (rI Q)) ?_
              intro x5_1 e_x5_1
              replace h := h x5_1 e_x5_1
              refine Wp.path (k := 2) [] (C := [inR (x6 + 1)]) (pc' := 17) (ls' := [some (.inr (.inr (10, 0))), some (.inl x1), some (.inl b), some (.inl b_1), some (.inl x4_1), some (.inl x5_1), some (.inl (x6 + 1)), some (.inl d), some (.inl d_1)]) (st' := []) (M' := M) rfl h.1 ?_
              replace h := h.2
              exact h _ _
            · replace h := h.1 c_4
              refine Wp.path (k := 1) [1] (C := [x5 ≤ tyV x1 d d_1]) (pc' := 135) (ls' := [some (.inr (.inr (10, 0))), some (.inl x1), some (.inl b), some (.inl b_1), some (.inl x4_1), some (.inl x5), some (.inl x6), some (.inl d), some (.inl d_1)]) (st' := []) (M' := M) rfl c_4 ?_
              refine Wp.path (k := 4) [] (C := [inR (x6 + 1)]) (pc' := 17) (ls' := [some (.inr (.inr (10, 0))), some (.inl x1), some (.inl b), some (.inl b_1), some (.inl x4_1), some (.inl x5), some (.inl (x6 + 1)), some (.inl d), some (.inl d_1)]) (st' := []) (M' := M) rfl h.1 ?_
              replace h := h.2
              exact h _ _
          · replace h := h.1 c_3
            refine Wp.path (k := 1) [1] (C := [x4 ≤ txV x1 d d_1]) (pc' := 105) (ls' := [some (.inr (.inr (10, 0))), some (.inl x1), some (.inl b), some (.inl b_1), some (.inl x4), some (.inl x5), some (.inl x6), some (.inl d), some (.inl d_1)]) (st' := []) (M' := M) rfl c_3 ?_
            refine Wp.path (k := 6) [] (C := []) (pc' := 115) (ls' := [some (.inr (.inr (10, 0))), some (.inl x1), some (.inl b), some (.inl b_1), some (.inl x4), some (.inl x5), some (.inl x6), some (.inl d), some (.inl d_1)]) (st' := [.inl d_1, .inl d, .inl x1, .inr (.inr (10, 0))]) (M' := M) rfl trivial ?_
            refine Wp.call (e1059 h.1.1 h.1.2.1 h.1.2.2.1 h.1.2.2.2) rfl rfl (by decide) ?_
            replace h := h.2
            rintro v_ M_ ⟨eM_, ev_⟩
            rw [eM_, ev_]
            clear eM_ ev_ v_ M_
            show Wp 2 1060 118 [some (.inr (.inr (10, 0))), some (.inl x1), some (.inl b), some (.inl b_1), some (.inl x4), some (.inl x5), some (.inl x6), some (.inl d), some (.inl d_1)] [.inl (tyV x1 d d_1)] M (rI Q)
            refine Wp.path (k := 1) [] (C := []) (pc' := 120) (ls' := [some (.inr (.inr (10, 0))), some (.inl x1), some (.inl b), some (.inl b_1), some (.inl x4), some (.inl x5), some (.inl x6), some (.inl d), some (.inl d_1)]) (st' := [.inl x5, .inl (tyV x1 d d_1)]) (M' := M) rfl trivial ?_
            rcases Int.lt_or_le (tyV x1 d d_1) (x5) with c_5 | c_5
            · replace h := h.2 c_5
              refine Wp.path (k := 1) [0] (C := [tyV x1 d d_1 < x5]) (pc' := 123) (ls' := [some (.inr (.inr (10, 0))), some (.inl x1), some (.inl b), some (.inl b_1), some (.inl x4), some (.inl x5), some (.inl x6), some (.inl d), some (.inl d_1)]) (st' := []) (M' := M) rfl c_5 ?_
              refine Wp.path (k := 4) [] (C := []) (pc' := 129) (ls' := [some (.inr (.inr (10, 0))), some (.inl x1), some (.inl b), some (.inl b_1), some (.inl x4), some (.inl x5), some (.inl x6), some (.inl d), some (.inl d_1)]) (st' := [.inl d_1, .inl d, .inl x1, .inr (.inr (10, 0))]) (M' := M) rfl trivial ?_
              refine Wp.call (e1059 h.1.1 h.1.2.1 h.1.2.2.1 h.1.2.2.2) rfl rfl (by decide) ?_
              replace h := h.2
              rintro v_ M_ ⟨eM_, ev_⟩
              rw [eM_, ev_]
              clear eM_ ev_ v_ M_
              show Wp 2 1060 132 [some (.inr (.inr (10, 0))), some (.inl x1), some (.inl b), some (.inl b_1), some (.inl x4), some (.inl x5), some (.inl x6), some (.inl d), some (.inl d_1)] [.inl (tyV x1 d d_1)] M (rI Q)
              refine Wp.path (k := 2) [] (C := []) (pc' := 139) (ls' := [some (.inr (.inr (10, 0))), some (.inl x1), some (.inl b), some (.inl b_1), some (.inl x4), some (.inl (tyV x1 d d_1)), some (.inl x6), some (.inl d), some (.inl d_1)]) (st' := []) (M' := M) rfl trivial ?_
              refine Bd (P := fun x5_2 : Int => Wp 2 1060 139 [some (.inr (.inr (10, 0))), some (.inl x1), some (.inl b), some (.inl b_1), some (.inl x4), some (.inl x5_2), some (.inl x6), some (.inl d), some (.inl d_1)] [] M (rI Q)) ?_
              intro x5_2 e_x5_2
              replace h := h x5_2 e_x5_2
              refine Wp.path (k := 2) [] (C := [inR (x6 + 1)]) (pc' := 17) (ls' := [some (.inr (.inr (10, 0))), some (.inl x1), some (.inl b), some (.inl b_1), some (.inl x4), some (.inl x5_2), some (.inl (x6 + 1)), some (.inl d), some (.inl d_1)]) (st' := []) (M' := M) rfl h.1 ?_
              replace h := h.2
              exact h _ _
            · replace h := h.1 c_5
              refine Wp.path (k := 1) [1] (C := [x5 ≤ tyV x1 d d_1]) (pc' := 135) (ls' := [some (.inr (.inr (10, 0))), some (.inl x1), some (.inl b), some (.inl b_1), some (.inl x4), some (.inl x5), some (.inl x6), some (.inl d), some (.inl d_1)]) (st' := []) (M' := M) rfl c_5 ?_
              refine Wp.path (k := 4) [] (C := [inR (x6 + 1)]) (pc' := 17) (ls' := [some (.inr (.inr (10, 0))), some (.inl x1), some (.inl b), some (.inl b_1), some (.inl x4), some (.inl x5), some (.inl (x6 + 1)), some (.inl d), some (.inl d_1)]) (st' := []) (M' := M) rfl h.1 ?_
              replace h := h.2
              exact h _ _
        clear h
        rcases Int.lt_or_le (d_1) (x3) with c_7 | c_7
        · refine Wp.path (k := 1) [0] (C := [d_1 < x3]) (pc' := 72) (ls' := [some (.inr (.inr (10, 0))), some (.inl x1), some (.inl b), some (.inl x3), some (.inl x4), some (.inl x5), some (.inl x6), some (.inl d), some (.inl d_1)]) (st' := []) (M' := M) rfl c_7 ?_
          refine Wp.path (k := 2) [] (C := []) (pc' := 78) (ls' := [some (.inr (.inr (10, 0))), some (.inl x1), some (.inl b), some (.inl x3), some (.inl x4), some (.inl x5), some (.inl x6), some (.inl d), some (.inl d_1)]) (st' := [.inl d_1]) (M' := M) rfl trivial ?_
          exact k_6 _ (by rw [if_neg (Int.not_le.mpr c_7)])
        · refine Wp.path (k := 1) [1] (C := [x3 ≤ d_1]) (pc' := 77) (ls' := [some (.inr (.inr (10, 0))), some (.inl x1), some (.inl b), some (.inl x3), some (.inl x4), some (.inl x5), some (.inl x6), some (.inl d), some (.inl d_1)]) (st' := []) (M' := M) rfl c_7 ?_
          refine Wp.path (k := 1) [] (C := []) (pc' := 78) (ls' := [some (.inr (.inr (10, 0))), some (.inl x1), some (.inl b), some (.inl x3), some (.inl x4), some (.inl x5), some (.inl x6), some (.inl d), some (.inl d_1)]) (st' := [.inl x3]) (M' := M) rfl trivial ?_
          exact k_6 _ (by rw [if_pos c_7])
      clear h
      rcases Int.lt_or_le (d) (x2) with c_9 | c_9
      · refine Wp.path (k := 1) [0] (C := [d < x2]) (pc' := 59) (ls' := [some (.inr (.inr (10, 0))), some (.inl x1), some (.inl x2), some (.inl x3), some (.inl x4), some (.inl x5), some (.inl x6), some (.inl d), some (.inl d_1)]) (st' := []) (M' := M) rfl c_9 ?_
        refine Wp.path (k := 2) [] (C := []) (pc' := 65) (ls' := [some (.inr (.inr (10, 0))), some (.inl x1), some (.inl x2), some (.inl x3), some (.inl x4), some (.inl x5), some (.inl x6), some (.inl d), some (.inl d_1)]) (st' := [.inl d]) (M' := M) rfl trivial ?_
        exact k_8 _ (by rw [if_neg (Int.not_le.mpr c_9)])
      · refine Wp.path (k := 1) [1] (C := [x2 ≤ d]) (pc' := 64) (ls' := [some (.inr (.inr (10, 0))), some (.inl x1), some (.inl x2), some (.inl x3), some (.inl x4), some (.inl x5), some (.inl x6), some (.inl d), some (.inl d_1)]) (st' := []) (M' := M) rfl c_9 ?_
        refine Wp.path (k := 1) [] (C := []) (pc' := 65) (ls' := [some (.inr (.inr (10, 0))), some (.inl x1), some (.inl x2), some (.inl x3), some (.inl x4), some (.inl x5), some (.inl x6), some (.inl d), some (.inl d_1)]) (st' := [.inl x2]) (M' := M) rfl trivial ?_
        exact k_8 _ (by rw [if_pos c_9])
  · replace h := h.1 c_1
    refine Wp.path (k := 1) [1] (C := [144 ≤ x6]) (pc' := 145) (ls' := [some (.inr (.inr (10, 0))), some (.inl x1), some (.inl x2), some (.inl x3), some (.inl x4), some (.inl x5), some (.inl x6), o7, o8]) (st' := []) (M' := M) rfl c_1 ?_
    refine Wp.path (k := 2) [] (C := []) (pc' := 148) (ls' := [some (.inr (.inr (10, 0))), some (.inl x1), some (.inl x2), some (.inl x3), some (.inl x4), some (.inl x5), some (.inl 0), o7, o8]) (st' := []) (M' := M) rfl trivial ?_
    exact h _ _
theorem s_1060_148 {x1 : Int} {x2 : Int} {x3 : Int} {x4 : Int} {x5 : Int} {x6 : Int} {M : Mm} {Q : Int → Mm → Prop} (h : ((144 ≤ x6 → (Q 1 M)) ∧ (x6 < 144 → (((-2147483648 ≤ x6 ∧ x6 ≤ 2147483647)) ∧ (∀ d : Int, d = Int.tmod x6 12 → (((-2147483648 ≤ x6 ∧ x6 ≤ 2147483647)) ∧ (∀ d_1 : Int, d_1 = Int.tdiv x6 12 → ((hasW (M.1 1101 0) d d_1 = 0 → (((-2147483648 ≤ x6 + 1 ∧ x6 + 1 ≤ 2147483647)) ∧ (L_1060_148 x1 x2 x3 x4 x5 (x6 + 1) M Q))) ∧ (hasW (M.1 1101 0) d d_1 ≠ 0 → ((-1000 ≤ d ∧ d ≤ 1000 ∧ -1000 ≤ d_1 ∧ d_1 ≤ 1000) ∧ (((-2147483648 ≤ (txV x1 d d_1) - x4 ∧ (txV x1 d d_1) - x4 ≤ 2147483647) ∧ (-2147483648 ≤ ((txV x1 d d_1) - x4) + x2 ∧ ((txV x1 d d_1) - x4) + x2 ≤ 2147483647)) ∧ ((-1000 ≤ d ∧ d ≤ 1000 ∧ -1000 ≤ d_1 ∧ d_1 ≤ 1000) ∧ (((-2147483648 ≤ (tyV x1 d d_1) - x5 ∧ (tyV x1 d d_1) - x5 ≤ 2147483647) ∧ (-2147483648 ≤ ((tyV x1 d d_1) - x5) + x3 ∧ ((tyV x1 d d_1) - x5) + x3 ≤ 2147483647)) ∧ ((hasW (M.1 1101 0) (((txV x1 d d_1) - x4) + x2) (((tyV x1 d d_1) - x5) + x3) ≠ 0 → (((-2147483648 ≤ x6 + 1 ∧ x6 + 1 ≤ 2147483647)) ∧ (L_1060_148 x1 x2 x3 x4 x5 (x6 + 1) M Q))) ∧ (hasW (M.1 1101 0) (((txV x1 d d_1) - x4) + x2) (((tyV x1 d d_1) - x5) + x3) = 0 → (Q 0 M)))))))))))))))) : L_1060_148 x1 x2 x3 x4 x5 x6 M Q := by
  intro o7 o8
  show Wp 2 1060 148 [some (.inr (.inr (10, 0))), some (.inl x1), some (.inl x2), some (.inl x3), some (.inl x4), some (.inl x5), some (.inl x6), o7, o8] [] M (rI Q)
  refine Wp.path (k := 2) [] (C := []) (pc' := 153) (ls' := [some (.inr (.inr (10, 0))), some (.inl x1), some (.inl x2), some (.inl x3), some (.inl x4), some (.inl x5), some (.inl x6), o7, o8]) (st' := [.inl 144, .inl x6]) (M' := M) rfl trivial ?_
  rcases Int.lt_or_le (x6) (144) with c_1 | c_1
  · replace h := h.2 c_1
    refine Wp.path (k := 1) [0] (C := [x6 < 144]) (pc' := 156) (ls' := [some (.inr (.inr (10, 0))), some (.inl x1), some (.inl x2), some (.inl x3), some (.inl x4), some (.inl x5), some (.inl x6), o7, o8]) (st' := []) (M' := M) rfl c_1 ?_
    refine Wp.path (k := 3) [] (C := [inR x6 ∧ 0 < 12 ∧ inR 12]) (pc' := 161) (ls' := [some (.inr (.inr (10, 0))), some (.inl x1), some (.inl x2), some (.inl x3), some (.inl x4), some (.inl x5), some (.inl x6), o7, o8]) (st' := [.inl (Int.tmod x6 12)]) (M' := M) rfl ⟨h.1, by decide, ⟨by decide, by decide⟩⟩ ?_
    replace h := h.2
    refine Bd (P := fun d : Int => Wp 2 1060 161 [some (.inr (.inr (10, 0))), some (.inl x1), some (.inl x2), some (.inl x3), some (.inl x4), some (.inl x5), some (.inl x6), o7, o8] [.inl d] M (rI Q)) ?_
    intro d e_d
    replace h := h d e_d
    refine Wp.path (k := 4) [] (C := [inR x6 ∧ 0 < 12 ∧ inR 12]) (pc' := 168) (ls' := [some (.inr (.inr (10, 0))), some (.inl x1), some (.inl x2), some (.inl x3), some (.inl x4), some (.inl x5), some (.inl x6), some (.inl d), o8]) (st' := [.inl (Int.tdiv x6 12)]) (M' := M) rfl ⟨h.1, by decide, ⟨by decide, by decide⟩⟩ ?_
    replace h := h.2
    refine Bd (P := fun d_1 : Int => Wp 2 1060 168 [some (.inr (.inr (10, 0))), some (.inl x1), some (.inl x2), some (.inl x3), some (.inl x4), some (.inl x5), some (.inl x6), some (.inl d), o8] [.inl d_1] M (rI Q)) ?_
    intro d_1 e_d_1
    replace h := h d_1 e_d_1
    refine Wp.path (k := 4) [] (C := []) (pc' := 175) (ls' := [some (.inr (.inr (10, 0))), some (.inl x1), some (.inl x2), some (.inl x3), some (.inl x4), some (.inl x5), some (.inl x6), some (.inl d), some (.inl d_1)]) (st' := [.inl d_1, .inl d, .inr (.inr (10, 0))]) (M' := M) rfl trivial ?_
    refine Wp.call (e1004) rfl rfl (by decide) ?_
    rintro v_ M_ ⟨eM_, ev_⟩
    rw [eM_, ev_]
    clear eM_ ev_ v_ M_
    show Wp 2 1060 178 [some (.inr (.inr (10, 0))), some (.inl x1), some (.inl x2), some (.inl x3), some (.inl x4), some (.inl x5), some (.inl x6), some (.inl d), some (.inl d_1)] [.inl (hasW (M.1 1101 0) d d_1)] M (rI Q)
    rcases Decidable.em (hasW (M.1 1101 0) d d_1 = 0) with c_2 | c_2
    · replace h := h.1 c_2
      refine Wp.path (k := 1) [1] (C := [hasW (M.1 1101 0) d d_1 = 0]) (pc' := 218) (ls' := [some (.inr (.inr (10, 0))), some (.inl x1), some (.inl x2), some (.inl x3), some (.inl x4), some (.inl x5), some (.inl x6), some (.inl d), some (.inl d_1)]) (st' := []) (M' := M) rfl c_2 ?_
      refine Wp.path (k := 2) [] (C := [inR (x6 + 1)]) (pc' := 148) (ls' := [some (.inr (.inr (10, 0))), some (.inl x1), some (.inl x2), some (.inl x3), some (.inl x4), some (.inl x5), some (.inl (x6 + 1)), some (.inl d), some (.inl d_1)]) (st' := []) (M' := M) rfl h.1 ?_
      replace h := h.2
      exact h _ _
    · replace h := h.2 c_2
      refine Wp.path (k := 1) [0] (C := [hasW (M.1 1101 0) d d_1 ≠ 0]) (pc' := 181) (ls' := [some (.inr (.inr (10, 0))), some (.inl x1), some (.inl x2), some (.inl x3), some (.inl x4), some (.inl x5), some (.inl x6), some (.inl d), some (.inl d_1)]) (st' := []) (M' := M) rfl c_2 ?_
      refine Wp.path (k := 5) [] (C := []) (pc' := 188) (ls' := [some (.inr (.inr (10, 0))), some (.inl x1), some (.inl x2), some (.inl x3), some (.inl x4), some (.inl x5), some (.inl x6), some (.inl d), some (.inl d_1)]) (st' := [.inl d_1, .inl d, .inl x1, .inr (.inr (10, 0)), .inr (.inr (10, 0))]) (M' := M) rfl trivial ?_
      refine Wp.call (e1058 h.1.1 h.1.2.1 h.1.2.2.1 h.1.2.2.2) rfl rfl (by decide) ?_
      replace h := h.2
      rintro v_ M_ ⟨eM_, ev_⟩
      rw [eM_, ev_]
      clear eM_ ev_ v_ M_
      show Wp 2 1060 191 [some (.inr (.inr (10, 0))), some (.inl x1), some (.inl x2), some (.inl x3), some (.inl x4), some (.inl x5), some (.inl x6), some (.inl d), some (.inl d_1)] [.inl (txV x1 d d_1), .inr (.inr (10, 0))] M (rI Q)
      refine Wp.path (k := 8) [] (C := [inR ((txV x1 d d_1) - x4), inR (((txV x1 d d_1) - x4) + x2)]) (pc' := 202) (ls' := [some (.inr (.inr (10, 0))), some (.inl x1), some (.inl x2), some (.inl x3), some (.inl x4), some (.inl x5), some (.inl x6), some (.inl d), some (.inl d_1)]) (st' := [.inl d_1, .inl d, .inl x1, .inr (.inr (10, 0)), .inl (((txV x1 d d_1) - x4) + x2), .inr (.inr (10, 0))]) (M' := M) rfl ⟨h.1.1, h.1.2⟩ ?_
      replace h := h.2
      refine Wp.call (e1059 h.1.1 h.1.2.1 h.1.2.2.1 h.1.2.2.2) rfl rfl (by decide) ?_
      replace h := h.2
      rintro v_ M_ ⟨eM_, ev_⟩
      rw [eM_, ev_]
      clear eM_ ev_ v_ M_
      show Wp 2 1060 205 [some (.inr (.inr (10, 0))), some (.inl x1), some (.inl x2), some (.inl x3), some (.inl x4), some (.inl x5), some (.inl x6), some (.inl d), some (.inl d_1)] [.inl (tyV x1 d d_1), .inl (((txV x1 d d_1) - x4) + x2), .inr (.inr (10, 0))] M (rI Q)
      refine Wp.path (k := 4) [] (C := [inR ((tyV x1 d d_1) - x5), inR (((tyV x1 d d_1) - x5) + x3)]) (pc' := 210) (ls' := [some (.inr (.inr (10, 0))), some (.inl x1), some (.inl x2), some (.inl x3), some (.inl x4), some (.inl x5), some (.inl x6), some (.inl d), some (.inl d_1)]) (st' := [.inl (((tyV x1 d d_1) - x5) + x3), .inl (((txV x1 d d_1) - x4) + x2), .inr (.inr (10, 0))]) (M' := M) rfl ⟨h.1.1, h.1.2⟩ ?_
      replace h := h.2
      refine Wp.call (e1004) rfl rfl (by decide) ?_
      rintro v_ M_ ⟨eM_, ev_⟩
      rw [eM_, ev_]
      clear eM_ ev_ v_ M_
      show Wp 2 1060 213 [some (.inr (.inr (10, 0))), some (.inl x1), some (.inl x2), some (.inl x3), some (.inl x4), some (.inl x5), some (.inl x6), some (.inl d), some (.inl d_1)] [.inl (hasW (M.1 1101 0) (((txV x1 d d_1) - x4) + x2) (((tyV x1 d d_1) - x5) + x3))] M (rI Q)
      rcases Decidable.em (hasW (M.1 1101 0) (((txV x1 d d_1) - x4) + x2) (((tyV x1 d d_1) - x5) + x3) = 0) with c_3 | c_3
      · replace h := h.2 c_3
        refine Wp.path (k := 1) [0] (C := [hasW (M.1 1101 0) (((txV x1 d d_1) - x4) + x2) (((tyV x1 d d_1) - x5) + x3) = 0]) (pc' := 216) (ls' := [some (.inr (.inr (10, 0))), some (.inl x1), some (.inl x2), some (.inl x3), some (.inl x4), some (.inl x5), some (.inl x6), some (.inl d), some (.inl d_1)]) (st' := []) (M' := M) rfl c_3 ?_
        refine Wp.path (k := 1) [] (C := []) (pc' := 217) (ls' := [some (.inr (.inr (10, 0))), some (.inl x1), some (.inl x2), some (.inl x3), some (.inl x4), some (.inl x5), some (.inl x6), some (.inl d), some (.inl d_1)]) (st' := [.inl 0]) (M' := M) rfl trivial ?_
        exact Wp.ret rfl ⟨_, rfl, h⟩
      · replace h := h.1 c_3
        refine Wp.path (k := 1) [1] (C := [hasW (M.1 1101 0) (((txV x1 d d_1) - x4) + x2) (((tyV x1 d d_1) - x5) + x3) ≠ 0]) (pc' := 218) (ls' := [some (.inr (.inr (10, 0))), some (.inl x1), some (.inl x2), some (.inl x3), some (.inl x4), some (.inl x5), some (.inl x6), some (.inl d), some (.inl d_1)]) (st' := []) (M' := M) rfl c_3 ?_
        refine Wp.path (k := 2) [] (C := [inR (x6 + 1)]) (pc' := 148) (ls' := [some (.inr (.inr (10, 0))), some (.inl x1), some (.inl x2), some (.inl x3), some (.inl x4), some (.inl x5), some (.inl (x6 + 1)), some (.inl d), some (.inl d_1)]) (st' := []) (M' := M) rfl h.1 ?_
        replace h := h.2
        exact h _ _
  · replace h := h.1 c_1
    refine Wp.path (k := 1) [1] (C := [144 ≤ x6]) (pc' := 224) (ls' := [some (.inr (.inr (10, 0))), some (.inl x1), some (.inl x2), some (.inl x3), some (.inl x4), some (.inl x5), some (.inl x6), o7, o8]) (st' := []) (M' := M) rfl c_1 ?_
    refine Wp.path (k := 1) [] (C := []) (pc' := 225) (ls' := [some (.inr (.inr (10, 0))), some (.inl x1), some (.inl x2), some (.inl x3), some (.inl x4), some (.inl x5), some (.inl x6), o7, o8]) (st' := [.inl 1]) (M' := M) rfl trivial ?_
    exact Wp.ret rfl ⟨_, rfl, h⟩
/-- X10_symmetries -/
def E_1061 (M : Mm) (Q : Int → Mm → Prop) : Prop := Ev 3 1061 [.inr (.inr (10, 0))] M (rI Q)
theorem m_1061 {M : Mm} {Q Q1 : Int → Mm → Prop} (h : E_1061 M Q) (k : (∀ r M1, Q r M1 → Q1 r M1)) : E_1061 M Q1 := Ev.mono h (fun v M1 ⟨r, h1, h2⟩ => ⟨r, h1, k _ _ h2⟩)
def L_1061_9 (x1 : Int) (x2 : Int) (M : Mm) (Q : Int → Mm → Prop) : Prop := Wp 3 1061 9 [some (.inr (.inr (10, 0))), some (.inl x1), some (.inl x2)] [] M (rI Q)
theorem s_1061_0 {M : Mm} {Q : Int → Mm → Prop} (h : (∀ M1 : Mm, M1 = setI M 10 0 0 0 → (L_1061_9 0 0 M1 Q))) : E_1061 M Q := by
  show Wp 3 1061 0 [some (.inr (.inr (10, 0))), none, none] [] M (rI Q)
  refine Wp.path (k := 3) [] (C := []) (pc' := 5) (ls' := [some (.inr (.inr (10, 0))), none, none]) (st' := []) (M' := setI M 10 0 0 0) rfl trivial ?_
  refine Bd (P := fun M1 : Mm => Wp 3 1061 5 [some (.inr (.inr (10, 0))), none, none] [] M1 (rI Q)) ?_
  intro M1 e_M1
  replace h := h M1 e_M1
  refine Wp.path (k := 4) [] (C := []) (pc' := 9) (ls' := [some (.inr (.inr (10, 0))), some (.inl 0), some (.inl 0)]) (st' := []) (M' := M1) rfl trivial ?_
  exact h
theorem s_1061_9 {x1 : Int} {x2 : Int} {M : Mm} {Q : Int → Mm → Prop} (h : ((8 ≤ x2 → (Q x1 M)) ∧ (x2 < 8 → (E_1060 x2 M (fun (r : Int) (M1 : Mm) => (∀ b : Int, b = (if r = 0 then 0 else 1) → (((-2147483648 ≤ x1 + b ∧ x1 + b ≤ 2147483647)) ∧ (∀ x1_1 : Int, x1_1 = x1 + b → (((-2147483648 ≤ x2 + 1 ∧ x2 + 1 ≤ 2147483647)) ∧ (L_1061_9 x1_1 (x2 + 1) M1 Q)))))))))) : L_1061_9 x1 x2 M Q := by
  show Wp 3 1061 9 [some (.inr (.inr (10, 0))), some (.inl x1), some (.inl x2)] [] M (rI Q)
  refine Wp.path (k := 2) [] (C := []) (pc' := 12) (ls' := [some (.inr (.inr (10, 0))), some (.inl x1), some (.inl x2)]) (st' := [.inl 8, .inl x2]) (M' := M) rfl trivial ?_
  rcases Int.lt_or_le (x2) (8) with c_1 | c_1
  · replace h := h.2 c_1
    refine Wp.path (k := 1) [0] (C := [x2 < 8]) (pc' := 15) (ls' := [some (.inr (.inr (10, 0))), some (.inl x1), some (.inl x2)]) (st' := []) (M' := M) rfl c_1 ?_
    refine Wp.path (k := 3) [] (C := []) (pc' := 18) (ls' := [some (.inr (.inr (10, 0))), some (.inl x1), some (.inl x2)]) (st' := [.inl x2, .inr (.inr (10, 0)), .inl x1]) (M' := M) rfl trivial ?_
    refine Wp.call h rfl rfl (by decide) ?_
    rintro _ M1 ⟨r, rfl, h⟩
    show Wp 3 1061 21 [some (.inr (.inr (10, 0))), some (.inl x1), some (.inl x2)] [.inl r, .inl x1] M1 (rI Q)
    have k_2 : ∀ b : Int, b = (if r = 0 then 0 else 1) → Wp 3 1061 29 [some (.inr (.inr (10, 0))), some (.inl x1), some (.inl x2)] [.inl b, .inl x1] M1 (rI Q) := by
      intro b e_b
      replace h := h b e_b
      refine Wp.path (k := 2) [] (C := [inR (x1 + b)]) (pc' := 31) (ls' := [some (.inr (.inr (10, 0))), some (.inl (x1 + b)), some (.inl x2)]) (st' := []) (M' := M1) rfl h.1 ?_
      replace h := h.2
      refine Bd (P := fun x1_1 : Int => Wp 3 1061 31 [some (.inr (.inr (10, 0))), some (.inl x1_1), some (.inl x2)] [] M1 (rI Q)) ?_
      intro x1_1 e_x1_1
      replace h := h x1_1 e_x1_1
      refine Wp.path (k := 2) [] (C := [inR (x2 + 1)]) (pc' := 9) (ls' := [some (.inr (.inr (10, 0))), some (.inl x1_1), some (.inl (x2 + 1))]) (st' := []) (M' := M1) rfl h.1 ?_
      replace h := h.2
      exact h
    clear h
    rcases Decidable.em (r = 0) with c_3 | c_3
    · refine Wp.path (k := 1) [1] (C := [r = 0]) (pc' := 28) (ls' := [some (.inr (.inr (10, 0))), some (.inl x1), some (.inl x2)]) (st' := [.inl x1]) (M' := M1) rfl c_3 ?_
      refine Wp.path (k := 1) [] (C := []) (pc' := 29) (ls' := [some (.inr (.inr (10, 0))), some (.inl x1), some (.inl x2)]) (st' := [.inl 0, .inl x1]) (M' := M1) rfl trivial ?_
      exact k_2 _ (by rw [if_pos c_3])
    · refine Wp.path (k := 1) [0] (C := [r ≠ 0]) (pc' := 24) (ls' := [some (.inr (.inr (10, 0))), some (.inl x1), some (.inl x2)]) (st' := [.inl x1]) (M' := M1) rfl c_3 ?_
      refine Wp.path (k := 2) [] (C := []) (pc' := 29) (ls' := [some (.inr (.inr (10, 0))), some (.inl x1), some (.inl x2)]) (st' := [.inl 1, .inl x1]) (M' := M1) rfl trivial ?_
      exact k_2 _ (by rw [if_neg c_3])
  · replace h := h.1 c_1
    refine Wp.path (k := 1) [1] (C := [8 ≤ x2]) (pc' := 37) (ls' := [some (.inr (.inr (10, 0))), some (.inl x1), some (.inl x2)]) (st' := []) (M' := M) rfl c_1 ?_
    refine Wp.path (k := 1) [] (C := []) (pc' := 38) (ls' := [some (.inr (.inr (10, 0))), some (.inl x1), some (.inl x2)]) (st' := [.inl x1]) (M' := M) rfl trivial ?_
    exact Wp.ret rfl ⟨_, rfl, h⟩
/-- X10_height -/
def E_1062 (x1 : Int) (x2 : Int) (M : Mm) (Q : Int → Mm → Prop) : Prop := Ev 3 1062 [.inr (.inr (10, 0)), .inl x1, .inl x2] M (rI Q)
theorem m_1062 {x1 : Int} {x2 : Int} {M : Mm} {Q Q1 : Int → Mm → Prop} (h : E_1062 x1 x2 M Q) (k : (∀ r M1, Q r M1 → Q1 r M1)) : E_1062 x1 x2 M Q1 := Ev.mono h (fun v M1 ⟨r, h1, h2⟩ => ⟨r, h1, k _ _ h2⟩)
theorem s_1062_0 {x1 : Int} {x2 : Int} {M : Mm} {Q : Int → Mm → Prop} (h : ((inV x1 0 96 = 0 → (∀ M1 : Mm, M1 = setI M 10 0 0 1 → ((M1.1 10 0 0 ≠ 0 → (Q 0 M1)) ∧ (M1.1 10 0 0 = 0 → (E_1043 x1 x2 M1 (fun (r : Int) (M1_1 : Mm) => (Q r M1_1))))))) ∧ (inV x1 0 96 ≠ 0 → (∀ b : Int, b = (if inV x2 0 96 = 0 then 1 else 0) → (∀ M1_2 : Mm, M1_2 = setI M 10 0 0 b → ((M1_2.1 10 0 0 ≠ 0 → (Q 0 M1_2)) ∧ (M1_2.1 10 0 0 = 0 → (E_1043 x1 x2 M1_2 (fun (r_1 : Int) (M1_3 : Mm) => (Q r_1 M1_3)))))))))) : E_1062 x1 x2 M Q := by
  show Wp 3 1062 0 [some (.inr (.inr (10, 0))), some (.inl x1), some (.inl x2)] [] M (rI Q)
  refine Wp.path (k := 4) [] (C := []) (pc' := 5) (ls' := [some (.inr (.inr (10, 0))), some (.inl x1), some (.inl x2)]) (st' := [.inl 96, .inl 0, .inl x1, .inr (.inr (10, 0))]) (M' := M) rfl trivial ?_
  refine Wp.call (e1002) rfl rfl (by decide) ?_
  rintro v_ M_ ⟨eM_, ev_⟩
  rw [eM_, ev_]
  clear eM_ ev_ v_ M_
  show Wp 3 1062 8 [some (.inr (.inr (10, 0))), some (.inl x1), some (.inl x2)] [.inl (inV x1 0 96), .inr (.inr (10, 0))] M (rI Q)
  rcases Decidable.em (inV x1 0 96 = 0) with c_1 | c_1
  · replace h := h.1 c_1
    refine Wp.path (k := 1) [1] (C := [inV x1 0 96 = 0]) (pc' := 25) (ls' := [some (.inr (.inr (10, 0))), some (.inl x1), some (.inl x2)]) (st' := [.inr (.inr (10, 0))]) (M' := M) rfl c_1 ?_
    refine Wp.path (k := 2) [] (C := []) (pc' := 29) (ls' := [some (.inr (.inr (10, 0))), some (.inl x1), some (.inl x2)]) (st' := []) (M' := setI M 10 0 0 1) rfl trivial ?_
    refine Bd (P := fun M1 : Mm => Wp 3 1062 29 [some (.inr (.inr (10, 0))), some (.inl x1), some (.inl x2)] [] M1 (rI Q)) ?_
    intro M1 e_M1
    replace h := h M1 e_M1
    refine Wp.path (k := 2) [] (C := []) (pc' := 33) (ls' := [some (.inr (.inr (10, 0))), some (.inl x1), some (.inl x2)]) (st' := [.inl (M1.1 10 0 0)]) (M' := M1) rfl trivial ?_
    rcases Decidable.em (M1.1 10 0 0 = 0) with c_2 | c_2
    · replace h := h.2 c_2
      refine Wp.path (k := 1) [0] (C := [M1.1 10 0 0 = 0]) (pc' := 36) (ls' := [some (.inr (.inr (10, 0))), some (.inl x1), some (.inl x2)]) (st' := []) (M' := M1) rfl c_2 ?_
      refine Wp.path (k := 3) [] (C := []) (pc' := 39) (ls' := [some (.inr (.inr (10, 0))), some (.inl x1), some (.inl x2)]) (st' := [.inl x2, .inl x1, .inr (.inr (10, 0))]) (M' := M1) rfl trivial ?_
      refine Wp.call h rfl rfl (by decide) ?_
      rintro _ M1_1 ⟨r, rfl, h⟩
      show Wp 3 1062 42 [some (.inr (.inr (10, 0))), some (.inl x1), some (.inl x2)] [.inl r] M1_1 (rI Q)
      refine Wp.path (k := 1) [] (C := []) (pc' := 46) (ls' := [some (.inr (.inr (10, 0))), some (.inl x1), some (.inl x2)]) (st' := [.inl r]) (M' := M1_1) rfl trivial ?_
      exact Wp.ret rfl ⟨_, rfl, h⟩
    · replace h := h.1 c_2
      refine Wp.path (k := 1) [1] (C := [M1.1 10 0 0 ≠ 0]) (pc' := 45) (ls' := [some (.inr (.inr (10, 0))), some (.inl x1), some (.inl x2)]) (st' := []) (M' := M1) rfl c_2 ?_
      refine Wp.path (k := 1) [] (C := []) (pc' := 46) (ls' := [some (.inr (.inr (10, 0))), some (.inl x1), some (.inl x2)]) (st' := [.inl 0]) (M' := M1) rfl trivial ?_
      exact Wp.ret rfl ⟨_, rfl, h⟩
  · replace h := h.2 c_1
    refine Wp.path (k := 1) [0] (C := [inV x1 0 96 ≠ 0]) (pc' := 11) (ls' := [some (.inr (.inr (10, 0))), some (.inl x1), some (.inl x2)]) (st' := [.inr (.inr (10, 0))]) (M' := M) rfl c_1 ?_
    refine Wp.path (k := 3) [] (C := []) (pc' := 15) (ls' := [some (.inr (.inr (10, 0))), some (.inl x1), some (.inl x2)]) (st' := [.inl 96, .inl 0, .inl x2, .inr (.inr (10, 0))]) (M' := M) rfl trivial ?_
    refine Wp.call (e1002) rfl rfl (by decide) ?_
    rintro v_ M_ ⟨eM_, ev_⟩
    rw [eM_, ev_]
    clear eM_ ev_ v_ M_
    show Wp 3 1062 18 [some (.inr (.inr (10, 0))), some (.inl x1), some (.inl x2)] [.inl (inV x2 0 96), .inr (.inr (10, 0))] M (rI Q)
    have k_4 : ∀ b : Int, b = (if inV x2 0 96 = 0 then 1 else 0) → Wp 3 1062 26 [some (.inr (.inr (10, 0))), some (.inl x1), some (.inl x2)] [.inl b, .inr (.inr (10, 0))] M (rI Q) := by
      intro b e_b
      replace h := h b e_b
      refine Wp.path (k := 1) [] (C := []) (pc' := 29) (ls' := [some (.inr (.inr (10, 0))), some (.inl x1), some (.inl x2)]) (st' := []) (M' := setI M 10 0 0 b) rfl trivial ?_
      refine Bd (P := fun M1_2 : Mm => Wp 3 1062 29 [some (.inr (.inr (10, 0))), some (.inl x1), some (.inl x2)] [] M1_2 (rI Q)) ?_
      intro M1_2 e_M1_2
      replace h := h M1_2 e_M1_2
      refine Wp.path (k := 2) [] (C := []) (pc' := 33) (ls' := [some (.inr (.inr (10, 0))), some (.inl x1), some (.inl x2)]) (st' := [.inl (M1_2.1 10 0 0)]) (M' := M1_2) rfl trivial ?_
      rcases Decidable.em (M1_2.1 10 0 0 = 0) with c_3 | c_3
      · replace h := h.2 c_3
        refine Wp.path (k := 1) [0] (C := [M1_2.1 10 0 0 = 0]) (pc' := 36) (ls' := [some (.inr (.inr (10, 0))), some (.inl x1), some (.inl x2)]) (st' := []) (M' := M1_2) rfl c_3 ?_
        refine Wp.path (k := 3) [] (C := []) (pc' := 39) (ls' := [some (.inr (.inr (10, 0))), some (.inl x1), some (.inl x2)]) (st' := [.inl x2, .inl x1, .inr (.inr (10, 0))]) (M' := M1_2) rfl trivial ?_
        refine Wp.call h rfl rfl (by decide) ?_
        rintro _ M1_3 ⟨r_1, rfl, h⟩
        show Wp 3 1062 42 [some (.inr (.inr (10, 0))), some (.inl x1), some (.inl x2)] [.inl r_1] M1_3 (rI Q)
        refine Wp.path (k := 1) [] (C := []) (pc' := 46) (ls' := [some (.inr (.inr (10, 0))), some (.inl x1), some (.inl x2)]) (st' := [.inl r_1]) (M' := M1_3) rfl trivial ?_
        exact Wp.ret rfl ⟨_, rfl, h⟩
      · replace h := h.1 c_3
        refine Wp.path (k := 1) [1] (C := [M1_2.1 10 0 0 ≠ 0]) (pc' := 45) (ls' := [some (.inr (.inr (10, 0))), some (.inl x1), some (.inl x2)]) (st' := []) (M' := M1_2) rfl c_3 ?_
        refine Wp.path (k := 1) [] (C := []) (pc' := 46) (ls' := [some (.inr (.inr (10, 0))), some (.inl x1), some (.inl x2)]) (st' := [.inl 0]) (M' := M1_2) rfl trivial ?_
        exact Wp.ret rfl ⟨_, rfl, h⟩
    clear h
    rcases Decidable.em (inV x2 0 96 = 0) with c_5 | c_5
    · refine Wp.path (k := 1) [1] (C := [inV x2 0 96 = 0]) (pc' := 25) (ls' := [some (.inr (.inr (10, 0))), some (.inl x1), some (.inl x2)]) (st' := [.inr (.inr (10, 0))]) (M' := M) rfl c_5 ?_
      refine Wp.path (k := 1) [] (C := []) (pc' := 26) (ls' := [some (.inr (.inr (10, 0))), some (.inl x1), some (.inl x2)]) (st' := [.inl 1, .inr (.inr (10, 0))]) (M' := M) rfl trivial ?_
      exact k_4 _ (by rw [if_pos c_5])
    · refine Wp.path (k := 1) [0] (C := [inV x2 0 96 ≠ 0]) (pc' := 21) (ls' := [some (.inr (.inr (10, 0))), some (.inl x1), some (.inl x2)]) (st' := [.inr (.inr (10, 0))]) (M' := M) rfl c_5 ?_
      refine Wp.path (k := 2) [] (C := []) (pc' := 26) (ls' := [some (.inr (.inr (10, 0))), some (.inl x1), some (.inl x2)]) (st' := [.inl 0, .inr (.inr (10, 0))]) (M' := M) rfl trivial ?_
      exact k_4 _ (by rw [if_neg c_5])
/-- X10_face -/
def E_1063 (x1 : Int) (x2 : Int) (M : Mm) (Q : Int → Mm → Prop) : Prop := Ev 15 1063 [.inr (.inr (10, 0)), .inl x1, .inl x2] M (rI Q)
theorem m_1063 {x1 : Int} {x2 : Int} {M : Mm} {Q Q1 : Int → Mm → Prop} (h : E_1063 x1 x2 M Q) (k : (∀ r M1, Q r M1 → Q1 r M1)) : E_1063 x1 x2 M Q1 := Ev.mono h (fun v M1 ⟨r, h1, h2⟩ => ⟨r, h1, k _ _ h2⟩)
theorem s_1063_0 {x1 : Int} {x2 : Int} {M : Mm} {Q : Int → Mm → Prop} (h : (E_1050 M (fun M1 : Mm => ((inV x1 0 11 = 0 → (∀ M1_1 : Mm, M1_1 = setI M1 10 0 0 1 → ((M1_1.1 10 0 0 = 0 → ((-2147483648 ≤ 12 * x2 ∧ 12 * x2 ≤ 2147483647) ∧ (-2147483648 ≤ (12 * x2) + x1 ∧ (12 * x2) + x1 ≤ 2147483647) ∧ (0 ≤ (12 * x2) + x1 ∧ (12 * x2) + x1 < 144))) ∧ (∀ b : Int, b = (if M1_1.1 10 0 0 ≠ 0 then 0 else (M1_1.1 1140 0 (((12 * x2) + x1).toNat))) → (Q b M1_1))))) ∧ (inV x1 0 11 ≠ 0 → (∀ b_1 : Int, b_1 = (if inV x2 0 11 = 0 then 1 else 0) → (∀ M1_2 : Mm, M1_2 = setI M1 10 0 0 b_1 → ((M1_2.1 10 0 0 = 0 → ((-2147483648 ≤ 12 * x2 ∧ 12 * x2 ≤ 2147483647) ∧ (-2147483648 ≤ (12 * x2) + x1 ∧ (12 * x2) + x1 ≤ 2147483647) ∧ (0 ≤ (12 * x2) + x1 ∧ (12 * x2) + x1 < 144))) ∧ (∀ b_2 : Int, b_2 = (if M1_2.1 10 0 0 ≠ 0 then 0 else (M1_2.1 1140 0 (((12 * x2) + x1).toNat))) → (Q b_2 M1_2)))))))))) : E_1063 x1 x2 M Q := by
  show Wp 15 1063 0 [some (.inr (.inr (10, 0))), some (.inl x1), some (.inl x2)] [] M (rI Q)
  refine Wp.path (k := 1) [] (C := []) (pc' := 1) (ls' := [some (.inr (.inr (10, 0))), some (.inl x1), some (.inl x2)]) (st' := [.inr (.inr (10, 0))]) (M' := M) rfl trivial ?_
  refine Wp.call h rfl rfl (by decide) ?_
  rintro _ M1 ⟨rfl, h⟩
  show Wp 15 1063 4 [some (.inr (.inr (10, 0))), some (.inl x1), some (.inl x2)] [] M1 (rI Q)
  refine Wp.path (k := 4) [] (C := []) (pc' := 9) (ls' := [some (.inr (.inr (10, 0))), some (.inl x1), some (.inl x2)]) (st' := [.inl 11, .inl 0, .inl x1, .inr (.inr (10, 0))]) (M' := M1) rfl trivial ?_
  refine Wp.call (e1002) rfl rfl (by decide) ?_
  rintro v_ M_ ⟨eM_, ev_⟩
  rw [eM_, ev_]
  clear eM_ ev_ v_ M_
  show Wp 15 1063 12 [some (.inr (.inr (10, 0))), some (.inl x1), some (.inl x2)] [.inl (inV x1 0 11), .inr (.inr (10, 0))] M1 (rI Q)
  rcases Decidable.em (inV x1 0 11 = 0) with c_1 | c_1
  · replace h := h.1 c_1
    refine Wp.path (k := 1) [1] (C := [inV x1 0 11 = 0]) (pc' := 29) (ls' := [some (.inr (.inr (10, 0))), some (.inl x1), some (.inl x2)]) (st' := [.inr (.inr (10, 0))]) (M' := M1) rfl c_1 ?_
    refine Wp.path (k := 2) [] (C := []) (pc' := 33) (ls' := [some (.inr (.inr (10, 0))), some (.inl x1), some (.inl x2)]) (st' := []) (M' := setI M1 10 0 0 1) rfl trivial ?_
    refine Bd (P := fun M1_1 : Mm => Wp 15 1063 33 [some (.inr (.inr (10, 0))), some (.inl x1), some (.inl x2)] [] M1_1 (rI Q)) ?_
    intro M1_1 e_M1_1
    replace h := h M1_1 e_M1_1
    refine Wp.path (k := 2) [] (C := []) (pc' := 37) (ls' := [some (.inr (.inr (10, 0))), some (.inl x1), some (.inl x2)]) (st' := [.inl (M1_1.1 10 0 0)]) (M' := M1_1) rfl trivial ?_
    have g2_0 := h.1
    replace h := h.2
    have k_2 : ∀ b : Int, b = (if M1_1.1 10 0 0 ≠ 0 then 0 else (M1_1.1 1140 0 (((12 * x2) + x1).toNat))) → Wp 15 1063 55 [some (.inr (.inr (10, 0))), some (.inl x1), some (.inl x2)] [.inl b] M1_1 (rI Q) := by
      intro b e_b
      replace h := h b e_b
      exact Wp.ret rfl ⟨_, rfl, h⟩
    clear h
    rcases Decidable.em (M1_1.1 10 0 0 = 0) with c_3 | c_3
    · refine Wp.path (k := 1) [0] (C := [M1_1.1 10 0 0 = 0]) (pc' := 40) (ls' := [some (.inr (.inr (10, 0))), some (.inl x1), some (.inl x2)]) (st' := []) (M' := M1_1) rfl c_3 ?_
      refine Wp.path (k := 9) [] (C := [inR (12 * x2), inR ((12 * x2) + x1), 0 ≤ (12 * x2) + x1 ∧ (12 * x2) + x1 < 144]) (pc' := 55) (ls' := [some (.inr (.inr (10, 0))), some (.inl x1), some (.inl x2)]) (st' := [.inl (M1_1.1 1140 0 (((12 * x2) + x1).toNat))]) (M' := M1_1) rfl ⟨(g2_0 c_3).1, (g2_0 c_3).2.1, (g2_0 c_3).2.2⟩ ?_
      exact k_2 _ (by rw [if_neg (not_not_intro c_3)])
    · refine Wp.path (k := 1) [1] (C := [M1_1.1 10 0 0 ≠ 0]) (pc' := 54) (ls' := [some (.inr (.inr (10, 0))), some (.inl x1), some (.inl x2)]) (st' := []) (M' := M1_1) rfl c_3 ?_
      refine Wp.path (k := 1) [] (C := []) (pc' := 55) (ls' := [some (.inr (.inr (10, 0))), some (.inl x1), some (.inl x2)]) (st' := [.inl 0]) (M' := M1_1) rfl trivial ?_
      exact k_2 _ (by rw [if_pos c_3])
  · replace h := h.2 c_1
    refine Wp.path (k := 1) [0] (C := [inV x1 0 11 ≠ 0]) (pc' := 15) (ls' := [some (.inr (.inr (10, 0))), some (.inl x1), some (.inl x2)]) (st' := [.inr (.inr (10, 0))]) (M' := M1) rfl c_1 ?_
    refine Wp.path (k := 3) [] (C := []) (pc' := 19) (ls' := [some (.inr (.inr (10, 0))), some (.inl x1), some (.inl x2)]) (st' := [.inl 11, .inl 0, .inl x2, .inr (.inr (10, 0))]) (M' := M1) rfl trivial ?_
    refine Wp.call (e1002) rfl rfl (by decide) ?_
    rintro v_ M_ ⟨eM_, ev_⟩
    rw [eM_, ev_]
    clear eM_ ev_ v_ M_
    show Wp 15 1063 22 [some (.inr (.inr (10, 0))), some (.inl x1), some (.inl x2)] [.inl (inV x2 0 11), .inr (.inr (10, 0))] M1 (rI Q)
    have k_6 : ∀ b_1 : Int, b_1 = (if inV x2 0 11 = 0 then 1 else 0) → Wp 15 1063 30 [some (.inr (.inr (10, 0))), some (.inl x1), some (.inl x2)] [.inl b_1, .inr (.inr (10, 0))] M1 (rI Q) := by
      intro b_1 e_b_1
      replace h := h b_1 e_b_1
      refine Wp.path (k := 1) [] (C := []) (pc' := 33) (ls' := [some (.inr (.inr (10, 0))), some (.inl x1), some (.inl x2)]) (st' := []) (M' := setI M1 10 0 0 b_1) rfl trivial ?_
      refine Bd (P := fun M1_2 : Mm => Wp 15 1063 33 [some (.inr (.inr (10, 0))), some (.inl x1), some (.inl x2)] [] M1_2 (rI Q)) ?_
      intro M1_2 e_M1_2
      replace h := h M1_2 e_M1_2
      refine Wp.path (k := 2) [] (C := []) (pc' := 37) (ls' := [some (.inr (.inr (10, 0))), some (.inl x1), some (.inl x2)]) (st' := [.inl (M1_2.1 10 0 0)]) (M' := M1_2) rfl trivial ?_
      have g4_0 := h.1
      replace h := h.2
      have k_4 : ∀ b_2 : Int, b_2 = (if M1_2.1 10 0 0 ≠ 0 then 0 else (M1_2.1 1140 0 (((12 * x2) + x1).toNat))) → Wp 15 1063 55 [some (.inr (.inr (10, 0))), some (.inl x1), some (.inl x2)] [.inl b_2] M1_2 (rI Q) := by
        intro b_2 e_b_2
        replace h := h b_2 e_b_2
        exact Wp.ret rfl ⟨_, rfl, h⟩
      clear h
      rcases Decidable.em (M1_2.1 10 0 0 = 0) with c_5 | c_5
      · refine Wp.path (k := 1) [0] (C := [M1_2.1 10 0 0 = 0]) (pc' := 40) (ls' := [some (.inr (.inr (10, 0))), some (.inl x1), some (.inl x2)]) (st' := []) (M' := M1_2) rfl c_5 ?_
        refine Wp.path (k := 9) [] (C := [inR (12 * x2), inR ((12 * x2) + x1), 0 ≤ (12 * x2) + x1 ∧ (12 * x2) + x1 < 144]) (pc' := 55) (ls' := [some (.inr (.inr (10, 0))), some (.inl x1), some (.inl x2)]) (st' := [.inl (M1_2.1 1140 0 (((12 * x2) + x1).toNat))]) (M' := M1_2) rfl ⟨(g4_0 c_5).1, (g4_0 c_5).2.1, (g4_0 c_5).2.2⟩ ?_
        exact k_4 _ (by rw [if_neg (not_not_intro c_5)])
      · refine Wp.path (k := 1) [1] (C := [M1_2.1 10 0 0 ≠ 0]) (pc' := 54) (ls' := [some (.inr (.inr (10, 0))), some (.inl x1), some (.inl x2)]) (st' := []) (M' := M1_2) rfl c_5 ?_
        refine Wp.path (k := 1) [] (C := []) (pc' := 55) (ls' := [some (.inr (.inr (10, 0))), some (.inl x1), some (.inl x2)]) (st' := [.inl 0]) (M' := M1_2) rfl trivial ?_
        exact k_4 _ (by rw [if_pos c_5])
    clear h
    rcases Decidable.em (inV x2 0 11 = 0) with c_7 | c_7
    · refine Wp.path (k := 1) [1] (C := [inV x2 0 11 = 0]) (pc' := 29) (ls' := [some (.inr (.inr (10, 0))), some (.inl x1), some (.inl x2)]) (st' := [.inr (.inr (10, 0))]) (M' := M1) rfl c_7 ?_
      refine Wp.path (k := 1) [] (C := []) (pc' := 30) (ls' := [some (.inr (.inr (10, 0))), some (.inl x1), some (.inl x2)]) (st' := [.inl 1, .inr (.inr (10, 0))]) (M' := M1) rfl trivial ?_
      exact k_6 _ (by rw [if_pos c_7])
    · refine Wp.path (k := 1) [0] (C := [inV x2 0 11 ≠ 0]) (pc' := 25) (ls' := [some (.inr (.inr (10, 0))), some (.inl x1), some (.inl x2)]) (st' := [.inr (.inr (10, 0))]) (M' := M1) rfl c_7 ?_
      refine Wp.path (k := 2) [] (C := []) (pc' := 30) (ls' := [some (.inr (.inr (10, 0))), some (.inl x1), some (.inl x2)]) (st' := [.inl 0, .inr (.inr (10, 0))]) (M' := M1) rfl trivial ?_
      exact k_6 _ (by rw [if_neg c_7])
/-- X10_area -/
def E_1064 (x1 : Int) (M : Mm) (Q : Int → Mm → Prop) : Prop := Ev 15 1064 [.inr (.inr (10, 0)), .inl x1] M (rI Q)
theorem m_1064 {x1 : Int} {M : Mm} {Q Q1 : Int → Mm → Prop} (h : E_1064 x1 M Q) (k : (∀ r M1, Q r M1 → Q1 r M1)) : E_1064 x1 M Q1 := Ev.mono h (fun v M1 ⟨r, h1, h2⟩ => ⟨r, h1, k _ _ h2⟩)
theorem s_1064_0 {x1 : Int} {M : Mm} {Q : Int → Mm → Prop} (h : (E_1050 M (fun M1 : Mm => (∀ b : Int, b = (if inV x1 0 24 = 0 then 1 else 0) → (∀ M1_1 : Mm, M1_1 = setI M1 10 0 0 b → ((M1_1.1 10 0 0 = 0 → ((0 ≤ x1 ∧ x1 < 26))) ∧ (∀ b_1 : Int, b_1 = (if M1_1.1 10 0 0 ≠ 0 then 0 else (M1_1.1 1151 0 x1.toNat)) → (Q b_1 M1_1)))))))) : E_1064 x1 M Q := by
  show Wp 15 1064 0 [some (.inr (.inr (10, 0))), some (.inl x1)] [] M (rI Q)
  refine Wp.path (k := 1) [] (C := []) (pc' := 1) (ls' := [some (.inr (.inr (10, 0))), some (.inl x1)]) (st' := [.inr (.inr (10, 0))]) (M' := M) rfl trivial ?_
  refine Wp.call h rfl rfl (by decide) ?_
  rintro _ M1 ⟨rfl, h⟩
  show Wp 15 1064 4 [some (.inr (.inr (10, 0))), some (.inl x1)] [] M1 (rI Q)
  refine Wp.path (k := 4) [] (C := []) (pc' := 9) (ls' := [some (.inr (.inr (10, 0))), some (.inl x1)]) (st' := [.inl 24, .inl 0, .inl x1, .inr (.inr (10, 0))]) (M' := M1) rfl trivial ?_
  refine Wp.call (e1002) rfl rfl (by decide) ?_
  rintro v_ M_ ⟨eM_, ev_⟩
  rw [eM_, ev_]
  clear eM_ ev_ v_ M_
  show Wp 15 1064 12 [some (.inr (.inr (10, 0))), some (.inl x1)] [.inl (inV x1 0 24), .inr (.inr (10, 0))] M1 (rI Q)
  have k_3 : ∀ b : Int, b = (if inV x1 0 24 = 0 then 1 else 0) → Wp 15 1064 20 [some (.inr (.inr (10, 0))), some (.inl x1)] [.inl b, .inr (.inr (10, 0))] M1 (rI Q) := by
    intro b e_b
    replace h := h b e_b
    refine Wp.path (k := 1) [] (C := []) (pc' := 23) (ls' := [some (.inr (.inr (10, 0))), some (.inl x1)]) (st' := []) (M' := setI M1 10 0 0 b) rfl trivial ?_
    refine Bd (P := fun M1_1 : Mm => Wp 15 1064 23 [some (.inr (.inr (10, 0))), some (.inl x1)] [] M1_1 (rI Q)) ?_
    intro M1_1 e_M1_1
    replace h := h M1_1 e_M1_1
    refine Wp.path (k := 2) [] (C := []) (pc' := 27) (ls' := [some (.inr (.inr (10, 0))), some (.inl x1)]) (st' := [.inl (M1_1.1 10 0 0)]) (M' := M1_1) rfl trivial ?_
    have g1_0 := h.1
    replace h := h.2
    have k_1 : ∀ b_1 : Int, b_1 = (if M1_1.1 10 0 0 ≠ 0 then 0 else (M1_1.1 1151 0 x1.toNat)) → Wp 15 1064 40 [some (.inr (.inr (10, 0))), some (.inl x1)] [.inl b_1] M1_1 (rI Q) := by
      intro b_1 e_b_1
      replace h := h b_1 e_b_1
      exact Wp.ret rfl ⟨_, rfl, h⟩
    clear h
    rcases Decidable.em (M1_1.1 10 0 0 = 0) with c_2 | c_2
    · refine Wp.path (k := 1) [0] (C := [M1_1.1 10 0 0 = 0]) (pc' := 30) (ls' := [some (.inr (.inr (10, 0))), some (.inl x1)]) (st' := []) (M' := M1_1) rfl c_2 ?_
      refine Wp.path (k := 5) [] (C := [0 ≤ x1 ∧ x1 < 26]) (pc' := 40) (ls' := [some (.inr (.inr (10, 0))), some (.inl x1)]) (st' := [.inl (M1_1.1 1151 0 x1.toNat)]) (M' := M1_1) rfl (g1_0 c_2) ?_
      exact k_1 _ (by rw [if_neg (not_not_intro c_2)])
    · refine Wp.path (k := 1) [1] (C := [M1_1.1 10 0 0 ≠ 0]) (pc' := 39) (ls' := [some (.inr (.inr (10, 0))), some (.inl x1)]) (st' := []) (M' := M1_1) rfl c_2 ?_
      refine Wp.path (k := 1) [] (C := []) (pc' := 40) (ls' := [some (.inr (.inr (10, 0))), some (.inl x1)]) (st' := [.inl 0]) (M' := M1_1) rfl trivial ?_
      exact k_1 _ (by rw [if_pos c_2])
  clear h
  rcases Decidable.em (inV x1 0 24 = 0) with c_4 | c_4
  · refine Wp.path (k := 1) [1] (C := [inV x1 0 24 = 0]) (pc' := 19) (ls' := [some (.inr (.inr (10, 0))), some (.inl x1)]) (st' := [.inr (.inr (10, 0))]) (M' := M1) rfl c_4 ?_
    refine Wp.path (k := 1) [] (C := []) (pc' := 20) (ls' := [some (.inr (.inr (10, 0))), some (.inl x1)]) (st' := [.inl 1, .inr (.inr (10, 0))]) (M' := M1) rfl trivial ?_
    exact k_3 _ (by rw [if_pos c_4])
  · refine Wp.path (k := 1) [0] (C := [inV x1 0 24 ≠ 0]) (pc' := 15) (ls' := [some (.inr (.inr (10, 0))), some (.inl x1)]) (st' := [.inr (.inr (10, 0))]) (M' := M1) rfl c_4 ?_
    refine Wp.path (k := 2) [] (C := []) (pc' := 20) (ls' := [some (.inr (.inr (10, 0))), some (.inl x1)]) (st' := [.inl 0, .inr (.inr (10, 0))]) (M' := M1) rfl trivial ?_
    exact k_3 _ (by rw [if_neg c_4])
/-- X10_fineMany -/
def E_1065 (x1 : Int) (M : Mm) (Q : Int → Mm → Prop) : Prop := Ev 1 1065 [.inr (.inr (10, 0)), .inl x1] M (rI Q)
theorem m_1065 {x1 : Int} {M : Mm} {Q Q1 : Int → Mm → Prop} (h : E_1065 x1 M Q) (k : (∀ r M1, Q r M1 → Q1 r M1)) : E_1065 x1 M Q1 := Ev.mono h (fun v M1 ⟨r, h1, h2⟩ => ⟨r, h1, k _ _ h2⟩)
def L_1065_4 (x1 : Int) (x2 : Int) (x3 : Int) (M : Mm) (Q : Int → Mm → Prop) : Prop := Wp 1 1065 4 [some (.inr (.inr (10, 0))), some (.inl x1), some (.inl x2), some (.inl x3)] [] M (rI Q)
theorem s_1065_0 {x1 : Int} {M : Mm} {Q : Int → Mm → Prop} (h : (L_1065_4 x1 0 0 M Q)) : E_1065 x1 M Q := by
  show Wp 1 1065 0 [some (.inr (.inr (10, 0))), some (.inl x1), none, none] [] M (rI Q)
  refine Wp.path (k := 4) [] (C := []) (pc' := 4) (ls' := [some (.inr (.inr (10, 0))), some (.inl x1), some (.inl 0), some (.inl 0)]) (st' := []) (M' := M) rfl trivial ?_
  exact h
theorem s_1065_4 {x1 : Int} {x2 : Int} {x3 : Int} {M : Mm} {Q : Int → Mm → Prop} (h : ((48 ≤ x3 → (Q x2 M)) ∧ (x3 < 48 → (((-2147483648 ≤ 48 * x1 ∧ 48 * x1 ≤ 2147483647) ∧ (-2147483648 ≤ (48 * x1) + x3 ∧ (48 * x1) + x3 ≤ 2147483647) ∧ (0 ≤ (48 * x1) + x3 ∧ (48 * x1) + x3 < 576)) ∧ (E_1003 (M.2 1116 0 (((48 * x1) + x3).toNat)) M (fun (r : Int) (M1 : Mm) => ((-2147483648 ≤ x2 + r ∧ x2 + r ≤ 2147483647)) ∧ (∀ x2_1 : Int, x2_1 = x2 + r → (((-2147483648 ≤ x3 + 1 ∧ x3 + 1 ≤ 2147483647)) ∧ (L_1065_4 x1 x2_1 (x3 + 1) M1 Q))))))))) : L_1065_4 x1 x2 x3 M Q := by
  show Wp 1 1065 4 [some (.inr (.inr (10, 0))), some (.inl x1), some (.inl x2), some (.inl x3)] [] M (rI Q)
  refine Wp.path (k := 2) [] (C := []) (pc' := 7) (ls' := [some (.inr (.inr (10, 0))), some (.inl x1), some (.inl x2), some (.inl x3)]) (st' := [.inl 48, .inl x3]) (M' := M) rfl trivial ?_
  rcases Int.lt_or_le (x3) (48) with c_1 | c_1
  · replace h := h.2 c_1
    refine Wp.path (k := 1) [0] (C := [x3 < 48]) (pc' := 10) (ls' := [some (.inr (.inr (10, 0))), some (.inl x1), some (.inl x2), some (.inl x3)]) (st' := []) (M' := M) rfl c_1 ?_
    refine Wp.path (k := 9) [] (C := [inR (48 * x1), inR ((48 * x1) + x3), 0 ≤ (48 * x1) + x3 ∧ (48 * x1) + x3 < 576]) (pc' := 22) (ls' := [some (.inr (.inr (10, 0))), some (.inl x1), some (.inl x2), some (.inl x3)]) (st' := [.inr (.inl (M.2 1116 0 (((48 * x1) + x3).toNat))), .inl x2]) (M' := M) rfl ⟨h.1.1, h.1.2.1, h.1.2.2⟩ ?_
    replace h := h.2
    refine Wp.call h rfl rfl (by decide) ?_
    rintro _ M1 ⟨r, rfl, h⟩
    show Wp 1 1065 25 [some (.inr (.inr (10, 0))), some (.inl x1), some (.inl x2), some (.inl x3)] [.inl r, .inl x2] M1 (rI Q)
    refine Wp.path (k := 2) [] (C := [inR (x2 + r)]) (pc' := 27) (ls' := [some (.inr (.inr (10, 0))), some (.inl x1), some (.inl (x2 + r)), some (.inl x3)]) (st' := []) (M' := M1) rfl h.1 ?_
    replace h := h.2
    refine Bd (P := fun x2_1 : Int => Wp 1 1065 27 [some (.inr (.inr (10, 0))), some (.inl x1), some (.inl x2_1), some (.inl x3)] [] M1 (rI Q)) ?_
    intro x2_1 e_x2_1
    replace h := h x2_1 e_x2_1
    refine Wp.path (k := 2) [] (C := [inR (x3 + 1)]) (pc' := 4) (ls' := [some (.inr (.inr (10, 0))), some (.inl x1), some (.inl x2_1), some (.inl (x3 + 1))]) (st' := []) (M' := M1) rfl h.1 ?_
    replace h := h.2
    exact h
  · replace h := h.1 c_1
    refine Wp.path (k := 1) [1] (C := [48 ≤ x3]) (pc' := 33) (ls' := [some (.inr (.inr (10, 0))), some (.inl x1), some (.inl x2), some (.inl x3)]) (st' := []) (M' := M) rfl c_1 ?_
    refine Wp.path (k := 1) [] (C := []) (pc' := 34) (ls' := [some (.inr (.inr (10, 0))), some (.inl x1), some (.inl x2), some (.inl x3)]) (st' := [.inl x2]) (M' := M) rfl trivial ?_
    exact Wp.ret rfl ⟨_, rfl, h⟩
/-- X10_volume -/
def E_1066 (M : Mm) (Q : Int → Mm → Prop) : Prop := Ev 15 1066 [.inr (.inr (10, 0))] M (rI Q)
theorem m_1066 {M : Mm} {Q Q1 : Int → Mm → Prop} (h : E_1066 M Q) (k : (∀ r M1, Q r M1 → Q1 r M1)) : E_1066 M Q1 := Ev.mono h (fun v M1 ⟨r, h1, h2⟩ => ⟨r, h1, k _ _ h2⟩)
def L_1066_13 (x1 : Int) (x2 : Int) (M : Mm) (Q : Int → Mm → Prop) : Prop := Wp 15 1066 13 [some (.inr (.inr (10, 0))), some (.inl x1), some (.inl x2)] [] M (rI Q)
def L_1066_45 (x1 : Int) (x2 : Int) (M : Mm) (Q : Int → Mm → Prop) : Prop := Wp 15 1066 45 [some (.inr (.inr (10, 0))), some (.inl x1), some (.inl x2)] [] M (rI Q)
theorem s_1066_0 {M : Mm} {Q : Int → Mm → Prop} (h : (∀ M1 : Mm, M1 = setI M 10 0 0 0 → (E_1050 M1 (fun M1_1 : Mm => (L_1066_13 0 0 M1_1 Q))))) : E_1066 M Q := by
  show Wp 15 1066 0 [some (.inr (.inr (10, 0))), none, none] [] M (rI Q)
  refine Wp.path (k := 3) [] (C := []) (pc' := 5) (ls' := [some (.inr (.inr (10, 0))), none, none]) (st' := []) (M' := setI M 10 0 0 0) rfl trivial ?_
  refine Bd (P := fun M1 : Mm => Wp 15 1066 5 [some (.inr (.inr (10, 0))), none, none] [] M1 (rI Q)) ?_
  intro M1 e_M1
  replace h := h M1 e_M1
  refine Wp.path (k := 1) [] (C := []) (pc' := 6) (ls' := [some (.inr (.inr (10, 0))), none, none]) (st' := [.inr (.inr (10, 0))]) (M' := M1) rfl trivial ?_
  refine Wp.call h rfl rfl (by decide) ?_
  rintro _ M1_1 ⟨rfl, h⟩
  show Wp 15 1066 9 [some (.inr (.inr (10, 0))), none, none] [] M1_1 (rI Q)
  refine Wp.path (k := 4) [] (C := []) (pc' := 13) (ls' := [some (.inr (.inr (10, 0))), some (.inl 0), some (.inl 0)]) (st' := []) (M' := M1_1) rfl trivial ?_
  exact h
theorem s_1066_13 {x1 : Int} {x2 : Int} {M : Mm} {Q : Int → Mm → Prop} (h : ((25 ≤ x2 → (L_1066_45 x1 0 M Q)) ∧ (x2 < 25 → (((0 ≤ x2 ∧ x2 < 26) ∧ (-2147483648 ≤ x2 + 1 ∧ x2 + 1 ≤ 2147483647) ∧ (0 ≤ x2 + 1 ∧ x2 + 1 < 26) ∧ (-2147483648 ≤ (M.1 1151 0 x2.toNat) + (M.1 1151 0 ((x2 + 1).toNat)) ∧ (M.1 1151 0 x2.toNat) + (M.1 1151 0 ((x2 + 1).toNat)) ≤ 2147483647) ∧ (-2147483648 ≤ x1 + ((M.1 1151 0 x2.toNat) + (M.1 1151 0 ((x2 + 1).toNat))) ∧ x1 + ((M.1 1151 0 x2.toNat) + (M.1 1151 0 ((x2 + 1).toNat))) ≤ 2147483647)) ∧ (∀ x1_1 : Int, x1_1 = x1 + ((M.1 1151 0 x2.toNat) + (M.1 1151 0 ((x2 + 1).toNat))) → (((-2147483648 ≤ x2 + 1 ∧ x2 + 1 ≤ 2147483647)) ∧ (L_1066_13 x1_1 (x2 + 1) M Q))))))) : L_1066_13 x1 x2 M Q := by
  show Wp 15 1066 13 [some (.inr (.inr (10, 0))), some (.inl x1), some (.inl x2)] [] M (rI Q)
  refine Wp.path (k := 2) [] (C := []) (pc' := 16) (ls' := [some (.inr (.inr (10, 0))), some (.inl x1), some (.inl x2)]) (st' := [.inl 25, .inl x2]) (M' := M) rfl trivial ?_
  rcases Int.lt_or_le (x2) (25) with c_1 | c_1
  · replace h := h.2 c_1
    refine Wp.path (k := 1) [0] (C := [x2 < 25]) (pc' := 19) (ls' := [some (.inr (.inr (10, 0))), some (.inl x1), some (.inl x2)]) (st' := []) (M' := M) rfl c_1 ?_
    refine Wp.path (k := 14) [] (C := [0 ≤ x2 ∧ x2 < 26, inR (x2 + 1), 0 ≤ x2 + 1 ∧ x2 + 1 < 26, inR ((M.1 1151 0 x2.toNat) + (M.1 1151 0 ((x2 + 1).toNat))), inR (x1 + ((M.1 1151 0 x2.toNat) + (M.1 1151 0 ((x2 + 1).toNat))))]) (pc' := 37) (ls' := [some (.inr (.inr (10, 0))), some (.inl (x1 + ((M.1 1151 0 x2.toNat) + (M.1 1151 0 ((x2 + 1).toNat))))), some (.inl x2)]) (st' := []) (M' := M) rfl ⟨h.1.1, h.1.2.1, h.1.2.2.1, h.1.2.2.2.1, h.1.2.2.2.2⟩ ?_
    replace h := h.2
    refine Bd (P := fun x1_1 : Int => Wp 15 1066 37 [some (.inr (.inr (10, 0))), some (.inl x1_1), some (.inl x2)] [] M (rI Q)) ?_
    intro x1_1 e_x1_1
    replace h := h x1_1 e_x1_1
    refine Wp.path (k := 2) [] (C := [inR (x2 + 1)]) (pc' := 13) (ls' := [some (.inr (.inr (10, 0))), some (.inl x1_1), some (.inl (x2 + 1))]) (st' := []) (M' := M) rfl h.1 ?_
    replace h := h.2
    exact h
  · replace h := h.1 c_1
    refine Wp.path (k := 1) [1] (C := [25 ≤ x2]) (pc' := 43) (ls' := [some (.inr (.inr (10, 0))), some (.inl x1), some (.inl x2)]) (st' := []) (M' := M) rfl c_1 ?_
    refine Wp.path (k := 2) [] (C := []) (pc' := 45) (ls' := [some (.inr (.inr (10, 0))), some (.inl x1), some (.inl 0)]) (st' := []) (M' := M) rfl trivial ?_
    exact h
theorem s_1066_45 {x1 : Int} {x2 : Int} {M : Mm} {Q : Int → Mm → Prop} (h : ((M.1 10 0 18 ≤ x2 → (Q x1 M)) ∧ (x2 < M.1 10 0 18 → (E_1065 x2 M (fun (r : Int) (M1 : Mm) => ((-2147483648 ≤ x1 + r ∧ x1 + r ≤ 2147483647)) ∧ (∀ x1_1 : Int, x1_1 = x1 + r → (((-2147483648 ≤ x2 + 1 ∧ x2 + 1 ≤ 2147483647)) ∧ (L_1066_45 x1_1 (x2 + 1) M1 Q)))))))) : L_1066_45 x1 x2 M Q := by
  show Wp 15 1066 45 [some (.inr (.inr (10, 0))), some (.inl x1), some (.inl x2)] [] M (rI Q)
  refine Wp.path (k := 3) [] (C := []) (pc' := 50) (ls' := [some (.inr (.inr (10, 0))), some (.inl x1), some (.inl x2)]) (st' := [.inl (M.1 10 0 18), .inl x2]) (M' := M) rfl trivial ?_
  rcases Int.lt_or_le (x2) (M.1 10 0 18) with c_1 | c_1
  · replace h := h.2 c_1
    refine Wp.path (k := 1) [0] (C := [x2 < M.1 10 0 18]) (pc' := 53) (ls' := [some (.inr (.inr (10, 0))), some (.inl x1), some (.inl x2)]) (st' := []) (M' := M) rfl c_1 ?_
    refine Wp.path (k := 3) [] (C := []) (pc' := 56) (ls' := [some (.inr (.inr (10, 0))), some (.inl x1), some (.inl x2)]) (st' := [.inl x2, .inr (.inr (10, 0)), .inl x1]) (M' := M) rfl trivial ?_
    refine Wp.call h rfl rfl (by decide) ?_
    rintro _ M1 ⟨r, rfl, h⟩
    show Wp 15 1066 59 [some (.inr (.inr (10, 0))), some (.inl x1), some (.inl x2)] [.inl r, .inl x1] M1 (rI Q)
    refine Wp.path (k := 2) [] (C := [inR (x1 + r)]) (pc' := 61) (ls' := [some (.inr (.inr (10, 0))), some (.inl (x1 + r)), some (.inl x2)]) (st' := []) (M' := M1) rfl h.1 ?_
    replace h := h.2
    refine Bd (P := fun x1_1 : Int => Wp 15 1066 61 [some (.inr (.inr (10, 0))), some (.inl x1_1), some (.inl x2)] [] M1 (rI Q)) ?_
    intro x1_1 e_x1_1
    replace h := h x1_1 e_x1_1
    refine Wp.path (k := 2) [] (C := [inR (x2 + 1)]) (pc' := 45) (ls' := [some (.inr (.inr (10, 0))), some (.inl x1_1), some (.inl (x2 + 1))]) (st' := []) (M' := M1) rfl h.1 ?_
    replace h := h.2
    exact h
  · replace h := h.1 c_1
    refine Wp.path (k := 1) [1] (C := [M.1 10 0 18 ≤ x2]) (pc' := 67) (ls' := [some (.inr (.inr (10, 0))), some (.inl x1), some (.inl x2)]) (st' := []) (M' := M) rfl c_1 ?_
    refine Wp.path (k := 1) [] (C := []) (pc' := 68) (ls' := [some (.inr (.inr (10, 0))), some (.inl x1), some (.inl x2)]) (st' := [.inl x1]) (M' := M) rfl trivial ?_
    exact Wp.ret rfl ⟨_, rfl, h⟩
/-- X10_phases -/
def E_1067 (M : Mm) (Q : Int → Mm → Prop) : Prop := Ev 15 1067 [.inr (.inr (10, 0))] M (rI Q)
theorem m_1067 {M : Mm} {Q Q1 : Int → Mm → Prop} (h : E_1067 M Q) (k : (∀ r M1, Q r M1 → Q1 r M1)) : E_1067 M Q1 := Ev.mono h (fun v M1 ⟨r, h1, h2⟩ => ⟨r, h1, k _ _ h2⟩)
theorem s_1067_0 {M : Mm} {Q : Int → Mm → Prop} (h : (∀ M1 : Mm, M1 = setI M 10 0 0 0 → (E_1050 M1 (fun M1_1 : Mm => (Q (M1_1.1 10 0 18) M1_1))))) : E_1067 M Q := by
  show Wp 15 1067 0 [some (.inr (.inr (10, 0)))] [] M (rI Q)
  refine Wp.path (k := 3) [] (C := []) (pc' := 5) (ls' := [some (.inr (.inr (10, 0)))]) (st' := []) (M' := setI M 10 0 0 0) rfl trivial ?_
  refine Bd (P := fun M1 : Mm => Wp 15 1067 5 [some (.inr (.inr (10, 0)))] [] M1 (rI Q)) ?_
  intro M1 e_M1
  replace h := h M1 e_M1
  refine Wp.path (k := 1) [] (C := []) (pc' := 6) (ls' := [some (.inr (.inr (10, 0)))]) (st' := [.inr (.inr (10, 0))]) (M' := M1) rfl trivial ?_
  refine Wp.call h rfl rfl (by decide) ?_
  rintro _ M1_1 ⟨rfl, h⟩
  show Wp 15 1067 9 [some (.inr (.inr (10, 0)))] [] M1_1 (rI Q)
  refine Wp.path (k := 2) [] (C := []) (pc' := 13) (ls' := [some (.inr (.inr (10, 0)))]) (st' := [.inl (M1_1.1 10 0 18)]) (M' := M1_1) rfl trivial ?_
  exact Wp.ret rfl ⟨_, rfl, h⟩
/-- X10_summed -/
def E_1069 (x1 : Int) (x2 : Int) (M : Mm) (Q : Int → Mm → Prop) : Prop := Ev 4 1069 [.inr (.inr (10, 0)), .inl x1, .inl x2] M (rI Q)
theorem m_1069 {x1 : Int} {x2 : Int} {M : Mm} {Q Q1 : Int → Mm → Prop} (h : E_1069 x1 x2 M Q) (k : (∀ r M1, Q r M1 → Q1 r M1)) : E_1069 x1 x2 M Q1 := Ev.mono h (fun v M1 ⟨r, h1, h2⟩ => ⟨r, h1, k _ _ h2⟩)
def L_1069_5 (x1 : Int) (x2 : Int) (x3 : Int) (x4 : Int) (M : Mm) (Q : Int → Mm → Prop) : Prop := ∀ o5 o6 o7 : Option Vv, Wp 4 1069 5 [some (.inr (.inr (10, 0))), some (.inl x1), some (.inl x2), some (.inl x3), some (.inl x4), o5, o6, o7] [] M (rI Q)
def L_1069_47 (x1 : Int) (x2 : Int) (x3 : Int) (x4 : Int) (x5 : Int) (x6 : Int) (M : Mm) (Q : Int → Mm → Prop) : Prop := ∀ o7 : Option Vv, Wp 4 1069 47 [some (.inr (.inr (10, 0))), some (.inl x1), some (.inl x2), some (.inl x3), some (.inl x4), some (.inl x5), some (.inl x6), o7] [] M (rI Q)
theorem s_1069_0 {x1 : Int} {x2 : Int} {M : Mm} {Q : Int → Mm → Prop} (h : (L_1069_5 x1 x2 0 0 M Q)) : E_1069 x1 x2 M Q := by
  show Wp 4 1069 0 [some (.inr (.inr (10, 0))), some (.inl x1), some (.inl x2), none, none, none, none, none] [] M (rI Q)
  refine Wp.path (k := 4) [] (C := []) (pc' := 5) (ls' := [some (.inr (.inr (10, 0))), some (.inl x1), some (.inl x2), some (.inl 0), some (.inl 0), none, none, none]) (st' := []) (M' := M) rfl trivial ?_
  exact h _ _ _
theorem s_1069_5 {x1 : Int} {x2 : Int} {x3 : Int} {x4 : Int} {M : Mm} {Q : Int → Mm → Prop} (h : ((0 ≤ x1 ∧ x1 < 12)) ∧ ((M.1 1124 0 x1.toNat ≤ x4 → (Q x3 M)) ∧ (x4 < M.1 1124 0 x1.toNat → ((x2 ≠ 6 → ((0 ≤ x1 ∧ x1 < 12 ∧ 0 ≤ x4 ∧ x4 < 160 ∧ inR (szV (M.1 1125 0) x1 x4)) ∧ (∀ x5 : Int, x5 = szV (M.1 1125 0) x1 x4 → (L_1069_47 x1 x2 x3 x4 x5 0 M Q)))) ∧ (x2 = 6 → (E_1040 x1 x4 M (fun (r : Int) (M1 : Mm) => ((-2147483648 ≤ x3 + r ∧ x3 + r ≤ 2147483647)) ∧ (∀ x3_1 : Int, x3_1 = x3 + r → (((-2147483648 ≤ x4 + 1 ∧ x4 + 1 ≤ 2147483647)) ∧ (L_1069_5 x1 x2 x3_1 (x4 + 1) M1 Q)))))))))) : L_1069_5 x1 x2 x3 x4 M Q := by
  intro o5 o6 o7
  show Wp 4 1069 5 [some (.inr (.inr (10, 0))), some (.inl x1), some (.inl x2), some (.inl x3), some (.inl x4), o5, o6, o7] [] M (rI Q)
  refine Wp.path (k := 5) [] (C := [0 ≤ x1 ∧ x1 < 12]) (pc' := 13) (ls' := [some (.inr (.inr (10, 0))), some (.inl x1), some (.inl x2), some (.inl x3), some (.inl x4), o5, o6, o7]) (st' := [.inl (M.1 1124 0 x1.toNat), .inl x4]) (M' := M) rfl h.1 ?_
  replace h := h.2
  rcases Int.lt_or_le (x4) (M.1 1124 0 x1.toNat) with c_1 | c_1
  · replace h := h.2 c_1
    refine Wp.path (k := 1) [0] (C := [x4 < M.1 1124 0 x1.toNat]) (pc' := 16) (ls' := [some (.inr (.inr (10, 0))), some (.inl x1), some (.inl x2), some (.inl x3), some (.inl x4), o5, o6, o7]) (st' := []) (M' := M) rfl c_1 ?_
    refine Wp.path (k := 2) [] (C := []) (pc' := 19) (ls' := [some (.inr (.inr (10, 0))), some (.inl x1), some (.inl x2), some (.inl x3), some (.inl x4), o5, o6, o7]) (st' := [.inl 6, .inl x2]) (M' := M) rfl trivial ?_
    rcases Decidable.em (x2 = 6) with c_2 | c_2
    · replace h := h.2 c_2
      refine Wp.path (k := 1) [0] (C := [x2 = 6]) (pc' := 22) (ls' := [some (.inr (.inr (10, 0))), some (.inl x1), some (.inl x2), some (.inl x3), some (.inl x4), o5, o6, o7]) (st' := []) (M' := M) rfl c_2 ?_
      refine Wp.path (k := 4) [] (C := []) (pc' := 27) (ls' := [some (.inr (.inr (10, 0))), some (.inl x1), some (.inl x2), some (.inl x3), some (.inl x4), o5, o6, o7]) (st' := [.inl x4, .inl x1, .inr (.inr (10, 0)), .inl x3]) (M' := M) rfl trivial ?_
      refine Wp.call h rfl rfl (by decide) ?_
      rintro _ M1 ⟨r, rfl, h⟩
      show Wp 4 1069 30 [some (.inr (.inr (10, 0))), some (.inl x1), some (.inl x2), some (.inl x3), some (.inl x4), o5, o6, o7] [.inl r, .inl x3] M1 (rI Q)
      refine Wp.path (k := 2) [] (C := [inR (x3 + r)]) (pc' := 32) (ls' := [some (.inr (.inr (10, 0))), some (.inl x1), some (.inl x2), some (.inl (x3 + r)), some (.inl x4), o5, o6, o7]) (st' := []) (M' := M1) rfl h.1 ?_
      replace h := h.2
      refine Bd (P := fun x3_1 : Int => Wp 4 1069 32 [some (.inr (.inr (10, 0))), some (.inl x1), some (.inl x2), some (.inl x3_1), some (.inl x4), o5, o6, o7] [] M1 (rI Q)) ?_
      intro x3_1 e_x3_1
      replace h := h x3_1 e_x3_1
      refine Wp.path (k := 3) [] (C := [inR (x4 + 1)]) (pc' := 5) (ls' := [some (.inr (.inr (10, 0))), some (.inl x1), some (.inl x2), some (.inl x3_1), some (.inl (x4 + 1)), o5, o6, o7]) (st' := []) (M' := M1) rfl h.1 ?_
      replace h := h.2
      exact h _ _ _
    · replace h := h.1 c_2
      refine Wp.path (k := 1) [1] (C := [x2 ≠ 6]) (pc' := 35) (ls' := [some (.inr (.inr (10, 0))), some (.inl x1), some (.inl x2), some (.inl x3), some (.inl x4), o5, o6, o7]) (st' := []) (M' := M) rfl c_2 ?_
      refine Wp.path (k := 3) [] (C := []) (pc' := 39) (ls' := [some (.inr (.inr (10, 0))), some (.inl x1), some (.inl x2), some (.inl x3), some (.inl x4), o5, o6, o7]) (st' := [.inl x4, .inl x1, .inr (.inr (10, 0))]) (M' := M) rfl trivial ?_
      refine Wp.call (e1036 h.1.1 h.1.2.1 h.1.2.2.1 h.1.2.2.2.1 h.1.2.2.2.2) rfl rfl (by decide) ?_
      replace h := h.2
      rintro v_ M_ ⟨eM_, ev_⟩
      rw [eM_, ev_]
      clear eM_ ev_ v_ M_
      show Wp 4 1069 42 [some (.inr (.inr (10, 0))), some (.inl x1), some (.inl x2), some (.inl x3), some (.inl x4), o5, o6, o7] [.inl (szV (M.1 1125 0) x1 x4)] M (rI Q)
      refine Wp.path (k := 1) [] (C := []) (pc' := 44) (ls' := [some (.inr (.inr (10, 0))), some (.inl x1), some (.inl x2), some (.inl x3), some (.inl x4), some (.inl (szV (M.1 1125 0) x1 x4)), o6, o7]) (st' := []) (M' := M) rfl trivial ?_
      refine Bd (P := fun x5 : Int => Wp 4 1069 44 [some (.inr (.inr (10, 0))), some (.inl x1), some (.inl x2), some (.inl x3), some (.inl x4), some (.inl x5), o6, o7] [] M (rI Q)) ?_
      intro x5 e_x5
      replace h := h x5 e_x5
      refine Wp.path (k := 2) [] (C := []) (pc' := 47) (ls' := [some (.inr (.inr (10, 0))), some (.inl x1), some (.inl x2), some (.inl x3), some (.inl x4), some (.inl x5), some (.inl 0), o7]) (st' := []) (M' := M) rfl trivial ?_
      exact h _
  · replace h := h.1 c_1
    refine Wp.path (k := 1) [1] (C := [M.1 1124 0 x1.toNat ≤ x4]) (pc' := 153) (ls' := [some (.inr (.inr (10, 0))), some (.inl x1), some (.inl x2), some (.inl x3), some (.inl x4), o5, o6, o7]) (st' := []) (M' := M) rfl c_1 ?_
    refine Wp.path (k := 1) [] (C := []) (pc' := 154) (ls' := [some (.inr (.inr (10, 0))), some (.inl x1), some (.inl x2), some (.inl x3), some (.inl x4), o5, o6, o7]) (st' := [.inl x3]) (M' := M) rfl trivial ?_
    exact Wp.ret rfl ⟨_, rfl, h⟩
theorem s_1069_47 {x1 : Int} {x2 : Int} {x3 : Int} {x4 : Int} {x5 : Int} {x6 : Int} {M : Mm} {Q : Int → Mm → Prop} (h : ((x5 ≤ x6 → (((-2147483648 ≤ x4 + 1 ∧ x4 + 1 ≤ 2147483647)) ∧ (L_1069_5 x1 x2 x3 (x4 + 1) M Q))) ∧ (x6 < x5 → ((x2 ≠ 7 → (((-2147483648 ≤ x6 + x5 ∧ x6 + x5 ≤ 2147483647) ∧ (-2147483648 ≤ (x6 + x5) - 1 ∧ (x6 + x5) - 1 ≤ 2147483647) ∧ ((-2147483648 ≤ (x6 + x5) - 1 ∧ (x6 + x5) - 1 ≤ 2147483647) ∧ 0 < x5 ∧ (-2147483648 ≤ x5 ∧ x5 ≤ 2147483647))) ∧ (∀ d : Int, d = Int.tmod ((x6 + x5) - 1) x5 → (E_1039 x1 x4 d M (fun M1_1 : Mm => (∀ x7 : Int, x7 = M1_1.1 10 0 30 → (E_1039 x1 x4 x6 M1_1 (fun M1_2 : Mm => ((-2147483648 ≤ x7 + 1 ∧ x7 + 1 ≤ 2147483647)) ∧ (∀ d_1 : Int, d_1 = Int.tmod (x7 + 1) 4 → (∀ b_1 : Int, b_1 = (if M1_2.1 10 0 30 ≠ d_1 then 0 else 1) → (((-2147483648 ≤ x3 + b_1 ∧ x3 + b_1 ≤ 2147483647)) ∧ (∀ x3_2 : Int, x3_2 = x3 + b_1 → (((-2147483648 ≤ x6 + 1 ∧ x6 + 1 ≤ 2147483647)) ∧ (L_1069_47 x1 x2 x3_2 x4 x5 (x6 + 1) M1_2 Q)))))))))))))) ∧ (x2 = 7 → (E_1046 x1 x4 x6 M (fun M1 : Mm => (∀ b : Int, b = (if M1.1 10 0 41 ≤ 1 then 0 else 1) → (((-2147483648 ≤ x3 + b ∧ x3 + b ≤ 2147483647)) ∧ (∀ x3_1 : Int, x3_1 = x3 + b → (((-2147483648 ≤ x6 + 1 ∧ x6 + 1 ≤ 2147483647)) ∧ (L_1069_47 x1 x2 x3_1 x4 x5 (x6 + 1) M1 Q)))))))))))) : L_1069_47 x1 x2 x3 x4 x5 x6 M Q := by
  intro o7
  show Wp 4 1069 47 [some (.inr (.inr (10, 0))), some (.inl x1), some (.inl x2), some (.inl x3), some (.inl x4), some (.inl x5), some (.inl x6), o7] [] M (rI Q)
  refine Wp.path (k := 2) [] (C := []) (pc' := 51) (ls' := [some (.inr (.inr (10, 0))), some (.inl x1), some (.inl x2), some (.inl x3), some (.inl x4), some (.inl x5), some (.inl x6), o7]) (st' := [.inl x5, .inl x6]) (M' := M) rfl trivial ?_
  rcases Int.lt_or_le (x6) (x5) with c_1 | c_1
  · replace h := h.2 c_1
    refine Wp.path (k := 1) [0] (C := [x6 < x5]) (pc' := 54) (ls' := [some (.inr (.inr (10, 0))), some (.inl x1), some (.inl x2), some (.inl x3), some (.inl x4), some (.inl x5), some (.inl x6), o7]) (st' := []) (M' := M) rfl c_1 ?_
    refine Wp.path (k := 2) [] (C := []) (pc' := 57) (ls' := [some (.inr (.inr (10, 0))), some (.inl x1), some (.inl x2), some (.inl x3), some (.inl x4), some (.inl x5), some (.inl x6), o7]) (st' := [.inl 7, .inl x2]) (M' := M) rfl trivial ?_
    rcases Decidable.em (x2 = 7) with c_2 | c_2
    · replace h := h.2 c_2
      refine Wp.path (k := 1) [0] (C := [x2 = 7]) (pc' := 60) (ls' := [some (.inr (.inr (10, 0))), some (.inl x1), some (.inl x2), some (.inl x3), some (.inl x4), some (.inl x5), some (.inl x6), o7]) (st' := []) (M' := M) rfl c_2 ?_
      refine Wp.path (k := 4) [] (C := []) (pc' := 66) (ls' := [some (.inr (.inr (10, 0))), some (.inl x1), some (.inl x2), some (.inl x3), some (.inl x4), some (.inl x5), some (.inl x6), o7]) (st' := [.inl x6, .inl x4, .inl x1, .inr (.inr (10, 0))]) (M' := M) rfl trivial ?_
      refine Wp.call h rfl rfl (by decide) ?_
      rintro _ M1 ⟨rfl, h⟩
      show Wp 4 1069 69 [some (.inr (.inr (10, 0))), some (.inl x1), some (.inl x2), some (.inl x3), some (.inl x4), some (.inl x5), some (.inl x6), o7] [] M1 (rI Q)
      refine Wp.path (k := 4) [] (C := []) (pc' := 75) (ls' := [some (.inr (.inr (10, 0))), some (.inl x1), some (.inl x2), some (.inl x3), some (.inl x4), some (.inl x5), some (.inl x6), o7]) (st' := [.inl 1, .inl (M1.1 10 0 41), .inl x3]) (M' := M1) rfl trivial ?_
      have k_3 : ∀ b : Int, b = (if M1.1 10 0 41 ≤ 1 then 0 else 1) → Wp 4 1069 83 [some (.inr (.inr (10, 0))), some (.inl x1), some (.inl x2), some (.inl x3), some (.inl x4), some (.inl x5), some (.inl x6), o7] [.inl b, .inl x3] M1 (rI Q) := by
        intro b e_b
        replace h := h b e_b
        refine Wp.path (k := 2) [] (C := [inR (x3 + b)]) (pc' := 85) (ls' := [some (.inr (.inr (10, 0))), some (.inl x1), some (.inl x2), some (.inl (x3 + b)), some (.inl x4), some (.inl x5), some (.inl x6), o7]) (st' := []) (M' := M1) rfl h.1 ?_
        replace h := h.2
        refine Bd (P := fun x3_1 : Int => Wp 4 1069 85 [some (.inr (.inr (10, 0))), some (.inl x1), some (.inl x2), some (.inl x3_1), some (.inl x4), some (.inl x5), some (.inl x6), o7] [] M1 (rI Q)) ?_
        intro x3_1 e_x3_1
        replace h := h x3_1 e_x3_1
        refine Wp.path (k := 3) [] (C := [inR (x6 + 1)]) (pc' := 47) (ls' := [some (.inr (.inr (10, 0))), some (.inl x1), some (.inl x2), some (.inl x3_1), some (.inl x4), some (.inl x5), some (.inl (x6 + 1)), o7]) (st' := []) (M' := M1) rfl h.1 ?_
        replace h := h.2
        exact h _
      clear h
      rcases Int.lt_or_le (1) (M1.1 10 0 41) with c_4 | c_4
      · refine Wp.path (k := 1) [0] (C := [1 < M1.1 10 0 41]) (pc' := 78) (ls' := [some (.inr (.inr (10, 0))), some (.inl x1), some (.inl x2), some (.inl x3), some (.inl x4), some (.inl x5), some (.inl x6), o7]) (st' := [.inl x3]) (M' := M1) rfl c_4 ?_
        refine Wp.path (k := 2) [] (C := []) (pc' := 83) (ls' := [some (.inr (.inr (10, 0))), some (.inl x1), some (.inl x2), some (.inl x3), some (.inl x4), some (.inl x5), some (.inl x6), o7]) (st' := [.inl 1, .inl x3]) (M' := M1) rfl trivial ?_
        exact k_3 _ (by rw [if_neg (Int.not_le.mpr c_4)])
      · refine Wp.path (k := 1) [1] (C := [M1.1 10 0 41 ≤ 1]) (pc' := 82) (ls' := [some (.inr (.inr (10, 0))), some (.inl x1), some (.inl x2), some (.inl x3), some (.inl x4), some (.inl x5), some (.inl x6), o7]) (st' := [.inl x3]) (M' := M1) rfl c_4 ?_
        refine Wp.path (k := 1) [] (C := []) (pc' := 83) (ls' := [some (.inr (.inr (10, 0))), some (.inl x1), some (.inl x2), some (.inl x3), some (.inl x4), some (.inl x5), some (.inl x6), o7]) (st' := [.inl 0, .inl x3]) (M' := M1) rfl trivial ?_
        exact k_3 _ (by rw [if_pos c_4])
    · replace h := h.1 c_2
      refine Wp.path (k := 1) [1] (C := [x2 ≠ 7]) (pc' := 88) (ls' := [some (.inr (.inr (10, 0))), some (.inl x1), some (.inl x2), some (.inl x3), some (.inl x4), some (.inl x5), some (.inl x6), o7]) (st' := []) (M' := M) rfl c_2 ?_
      refine Wp.path (k := 10) [] (C := [inR (x6 + x5), inR ((x6 + x5) - 1), inR ((x6 + x5) - 1) ∧ 0 < x5 ∧ inR x5]) (pc' := 102) (ls' := [some (.inr (.inr (10, 0))), some (.inl x1), some (.inl x2), some (.inl x3), some (.inl x4), some (.inl x5), some (.inl x6), o7]) (st' := [.inl (Int.tmod ((x6 + x5) - 1) x5), .inl x4, .inl x1, .inr (.inr (10, 0))]) (M' := M) rfl ⟨h.1.1, h.1.2.1, h.1.2.2⟩ ?_
      replace h := h.2
      refine Bd (P := fun d : Int => Wp 4 1069 102 [some (.inr (.inr (10, 0))), some (.inl x1), some (.inl x2), some (.inl x3), some (.inl x4), some (.inl x5), some (.inl x6), o7] [.inl d, .inl x4, .inl x1, .inr (.inr (10, 0))] M (rI Q)) ?_
      intro d e_d
      replace h := h d e_d
      refine Wp.call h rfl rfl (by decide) ?_
      rintro _ M1_1 ⟨rfl, h⟩
      show Wp 4 1069 105 [some (.inr (.inr (10, 0))), some (.inl x1), some (.inl x2), some (.inl x3), some (.inl x4), some (.inl x5), some (.inl x6), o7] [] M1_1 (rI Q)
      refine Wp.path (k := 3) [] (C := []) (pc' := 111) (ls' := [some (.inr (.inr (10, 0))), some (.inl x1), some (.inl x2), some (.inl x3), some (.inl x4), some (.inl x5), some (.inl x6), some (.inl (M1_1.1 10 0 30))]) (st' := []) (M' := M1_1) rfl trivial ?_
      refine Bd (P := fun x7 : Int => Wp 4 1069 111 [some (.inr (.inr (10, 0))), some (.inl x1), some (.inl x2), some (.inl x3), some (.inl x4), some (.inl x5), some (.inl x6), some (.inl x7)] [] M1_1 (rI Q)) ?_
      intro x7 e_x7
      replace h := h x7 e_x7
      refine Wp.path (k := 4) [] (C := []) (pc' := 117) (ls' := [some (.inr (.inr (10, 0))), some (.inl x1), some (.inl x2), some (.inl x3), some (.inl x4), some (.inl x5), some (.inl x6), some (.inl x7)]) (st' := [.inl x6, .inl x4, .inl x1, .inr (.inr (10, 0))]) (M' := M1_1) rfl trivial ?_
      refine Wp.call h rfl rfl (by decide) ?_
      rintro _ M1_2 ⟨rfl, h⟩
      show Wp 4 1069 120 [some (.inr (.inr (10, 0))), some (.inl x1), some (.inl x2), some (.inl x3), some (.inl x4), some (.inl x5), some (.inl x6), some (.inl x7)] [] M1_2 (rI Q)
      refine Wp.path (k := 8) [] (C := [inR (x7 + 1), inR (x7 + 1) ∧ 0 < 4 ∧ inR 4]) (pc' := 131) (ls' := [some (.inr (.inr (10, 0))), some (.inl x1), some (.inl x2), some (.inl x3), some (.inl x4), some (.inl x5), some (.inl x6), some (.inl x7)]) (st' := [.inl (Int.tmod (x7 + 1) 4), .inl (M1_2.1 10 0 30), .inl x3]) (M' := M1_2) rfl ⟨h.1, ⟨h.1, by decide, ⟨by decide, by decide⟩⟩⟩ ?_
      replace h := h.2
      refine Bd (P := fun d_1 : Int => Wp 4 1069 131 [some (.inr (.inr (10, 0))), some (.inl x1), some (.inl x2), some (.inl x3), some (.inl x4), some (.inl x5), some (.inl x6), some (.inl x7)] [.inl d_1, .inl (M1_2.1 10 0 30), .inl x3] M1_2 (rI Q)) ?_
      intro d_1 e_d_1
      replace h := h d_1 e_d_1
      have k_5 : ∀ b_1 : Int, b_1 = (if M1_2.1 10 0 30 ≠ d_1 then 0 else 1) → Wp 4 1069 139 [some (.inr (.inr (10, 0))), some (.inl x1), some (.inl x2), some (.inl x3), some (.inl x4), some (.inl x5), some (.inl x6), some (.inl x7)] [.inl b_1, .inl x3] M1_2 (rI Q) := by
        intro b_1 e_b_1
        replace h := h b_1 e_b_1
        refine Wp.path (k := 2) [] (C := [inR (x3 + b_1)]) (pc' := 141) (ls' := [some (.inr (.inr (10, 0))), some (.inl x1), some (.inl x2), some (.inl (x3 + b_1)), some (.inl x4), some (.inl x5), some (.inl x6), some (.inl x7)]) (st' := []) (M' := M1_2) rfl h.1 ?_
        replace h := h.2
        refine Bd (P := fun x3_2 : Int => Wp 4 1069 141 [some (.inr (.inr (10, 0))), some (.inl x1), some (.inl x2), some (.inl x3_2), some (.inl x4), some (.inl x5), some (.inl x6), some (.inl x7)] [] M1_2 (rI Q)) ?_
        intro x3_2 e_x3_2
        replace h := h x3_2 e_x3_2
        refine Wp.path (k := 2) [] (C := [inR (x6 + 1)]) (pc' := 47) (ls' := [some (.inr (.inr (10, 0))), some (.inl x1), some (.inl x2), some (.inl x3_2), some (.inl x4), some (.inl x5), some (.inl (x6 + 1)), some (.inl x7)]) (st' := []) (M' := M1_2) rfl h.1 ?_
        replace h := h.2
        exact h _
      clear h
      rcases Decidable.em (M1_2.1 10 0 30 = d_1) with c_6 | c_6
      · refine Wp.path (k := 1) [0] (C := [M1_2.1 10 0 30 = d_1]) (pc' := 134) (ls' := [some (.inr (.inr (10, 0))), some (.inl x1), some (.inl x2), some (.inl x3), some (.inl x4), some (.inl x5), some (.inl x6), some (.inl x7)]) (st' := [.inl x3]) (M' := M1_2) rfl c_6 ?_
        refine Wp.path (k := 2) [] (C := []) (pc' := 139) (ls' := [some (.inr (.inr (10, 0))), some (.inl x1), some (.inl x2), some (.inl x3), some (.inl x4), some (.inl x5), some (.inl x6), some (.inl x7)]) (st' := [.inl 1, .inl x3]) (M' := M1_2) rfl trivial ?_
        exact k_5 _ (by rw [if_neg (not_not_intro c_6)])
      · refine Wp.path (k := 1) [1] (C := [M1_2.1 10 0 30 ≠ d_1]) (pc' := 138) (ls' := [some (.inr (.inr (10, 0))), some (.inl x1), some (.inl x2), some (.inl x3), some (.inl x4), some (.inl x5), some (.inl x6), some (.inl x7)]) (st' := [.inl x3]) (M' := M1_2) rfl c_6 ?_
        refine Wp.path (k := 1) [] (C := []) (pc' := 139) (ls' := [some (.inr (.inr (10, 0))), some (.inl x1), some (.inl x2), some (.inl x3), some (.inl x4), some (.inl x5), some (.inl x6), some (.inl x7)]) (st' := [.inl 0, .inl x3]) (M' := M1_2) rfl trivial ?_
        exact k_5 _ (by rw [if_pos c_6])
  · replace h := h.1 c_1
    refine Wp.path (k := 1) [1] (C := [x5 ≤ x6]) (pc' := 147) (ls' := [some (.inr (.inr (10, 0))), some (.inl x1), some (.inl x2), some (.inl x3), some (.inl x4), some (.inl x5), some (.inl x6), o7]) (st' := []) (M' := M) rfl c_1 ?_
    refine Wp.path (k := 2) [] (C := [inR (x4 + 1)]) (pc' := 5) (ls' := [some (.inr (.inr (10, 0))), some (.inl x1), some (.inl x2), some (.inl x3), some (.inl (x4 + 1)), some (.inl x5), some (.inl x6), o7]) (st' := []) (M' := M) rfl h.1 ?_
    replace h := h.2
    exact h _ _ _
/-- X10_phase -/
def E_1068 (x1 : Int) (x2 : Int) (M : Mm) (Q : Int → Mm → Prop) : Prop := Ev 15 1068 [.inr (.inr (10, 0)), .inl x1, .inl x2] M (rI Q)
theorem m_1068 {x1 : Int} {x2 : Int} {M : Mm} {Q Q1 : Int → Mm → Prop} (h : E_1068 x1 x2 M Q) (k : (∀ r M1, Q r M1 → Q1 r M1)) : E_1068 x1 x2 M Q1 := Ev.mono h (fun v M1 ⟨r, h1, h2⟩ => ⟨r, h1, k _ _ h2⟩)
theorem s_1068_0 {x1 : Int} {x2 : Int} {M : Mm} {Q : Int → Mm → Prop} (h : (E_1050 M (fun M1 : Mm => ((-2147483648 ≤ (M1.1 10 0 18) - 1 ∧ (M1.1 10 0 18) - 1 ≤ 2147483647)) ∧ ((inV x1 0 ((M1.1 10 0 18) - 1) ≠ 0 → (∀ b : Int, b = (if inV x2 0 7 ≠ 0 then 0 else 2) → (∀ M1_6 : Mm, M1_6 = setI M1 10 0 0 b → ((M1_6.1 10 0 0 = 0 → ((x2 = 0 → (E_1065 x1 M1_6 (fun (r_4 : Int) (M1_7 : Mm) => (Q r_4 M1_7)))) ∧ (x2 = 1 → (((0 ≤ x1 ∧ x1 < 13)) ∧ (Q (M1_6.1 1120 0 x1.toNat) M1_6))) ∧ (x2 = 2 → (((0 ≤ x1 ∧ x1 < 12)) ∧ (Q (M1_6.1 1124 0 x1.toNat) M1_6))) ∧ (x2 = 3 → (E_1038 x1 M1_6 (fun (r_5 : Int) (M1_8 : Mm) => (Q r_5 M1_8)))) ∧ (x2 = 4 → (E_1037 x1 M1_6 (fun (r_6 : Int) (M1_9 : Mm) => (Q r_6 M1_9)))) ∧ (x2 ≠ 0 ∧ x2 ≠ 1 ∧ x2 ≠ 2 ∧ x2 ≠ 3 ∧ x2 ≠ 4 → (E_1069 x1 x2 M1_6 (fun (r_7 : Int) (M1_10 : Mm) => (Q r_7 M1_10)))))) ∧ (M1_6.1 10 0 0 ≠ 0 → (Q 0 M1_6)))))) ∧ (inV x1 0 ((M1.1 10 0 18) - 1) = 0 → (∀ M1_1 : Mm, M1_1 = setI M1 10 0 0 1 → ((M1_1.1 10 0 0 = 0 → ((x2 = 0 → (E_1065 x1 M1_1 (fun (r : Int) (M1_2 : Mm) => (Q r M1_2)))) ∧ (x2 = 1 → (((0 ≤ x1 ∧ x1 < 13)) ∧ (Q (M1_1.1 1120 0 x1.toNat) M1_1))) ∧ (x2 = 2 → (((0 ≤ x1 ∧ x1 < 12)) ∧ (Q (M1_1.1 1124 0 x1.toNat) M1_1))) ∧ (x2 = 3 → (E_1038 x1 M1_1 (fun (r_1 : Int) (M1_3 : Mm) => (Q r_1 M1_3)))) ∧ (x2 = 4 → (E_1037 x1 M1_1 (fun (r_2 : Int) (M1_4 : Mm) => (Q r_2 M1_4)))) ∧ (x2 ≠ 0 ∧ x2 ≠ 1 ∧ x2 ≠ 2 ∧ x2 ≠ 3 ∧ x2 ≠ 4 → (E_1069 x1 x2 M1_1 (fun (r_3 : Int) (M1_5 : Mm) => (Q r_3 M1_5)))))) ∧ (M1_1.1 10 0 0 ≠ 0 → (Q 0 M1_1))))))))) : E_1068 x1 x2 M Q := by
  show Wp 15 1068 0 [some (.inr (.inr (10, 0))), some (.inl x1), some (.inl x2)] [] M (rI Q)
  refine Wp.path (k := 1) [] (C := []) (pc' := 1) (ls' := [some (.inr (.inr (10, 0))), some (.inl x1), some (.inl x2)]) (st' := [.inr (.inr (10, 0))]) (M' := M) rfl trivial ?_
  refine Wp.call h rfl rfl (by decide) ?_
  rintro _ M1 ⟨rfl, h⟩
  show Wp 15 1068 4 [some (.inr (.inr (10, 0))), some (.inl x1), some (.inl x2)] [] M1 (rI Q)
  refine Wp.path (k := 7) [] (C := [inR ((M1.1 10 0 18) - 1)]) (pc' := 13) (ls' := [some (.inr (.inr (10, 0))), some (.inl x1), some (.inl x2)]) (st' := [.inl ((M1.1 10 0 18) - 1), .inl 0, .inl x1, .inr (.inr (10, 0))]) (M' := M1) rfl h.1 ?_
  replace h := h.2
  refine Wp.call (e1002) rfl rfl (by decide) ?_
  rintro v_ M_ ⟨eM_, ev_⟩
  rw [eM_, ev_]
  clear eM_ ev_ v_ M_
  show Wp 15 1068 16 [some (.inr (.inr (10, 0))), some (.inl x1), some (.inl x2)] [.inl (inV x1 0 ((M1.1 10 0 18) - 1)), .inr (.inr (10, 0))] M1 (rI Q)
  rcases Decidable.em (inV x1 0 ((M1.1 10 0 18) - 1) = 0) with c_1 | c_1
  · replace h := h.2 c_1
    refine Wp.path (k := 1) [0] (C := [inV x1 0 ((M1.1 10 0 18) - 1) = 0]) (pc' := 19) (ls' := [some (.inr (.inr (10, 0))), some (.inl x1), some (.inl x2)]) (st' := [.inr (.inr (10, 0))]) (M' := M1) rfl c_1 ?_
    refine Wp.path (k := 3) [] (C := []) (pc' := 41) (ls' := [some (.inr (.inr (10, 0))), some (.inl x1), some (.inl x2)]) (st' := []) (M' := setI M1 10 0 0 1) rfl trivial ?_
    refine Bd (P := fun M1_1 : Mm => Wp 15 1068 41 [some (.inr (.inr (10, 0))), some (.inl x1), some (.inl x2)] [] M1_1 (rI Q)) ?_
    intro M1_1 e_M1_1
    replace h := h M1_1 e_M1_1
    refine Wp.path (k := 2) [] (C := []) (pc' := 45) (ls' := [some (.inr (.inr (10, 0))), some (.inl x1), some (.inl x2)]) (st' := [.inl (M1_1.1 10 0 0)]) (M' := M1_1) rfl trivial ?_
    rcases Decidable.em (M1_1.1 10 0 0 = 0) with c_2 | c_2
    · replace h := h.1 c_2
      refine Wp.path (k := 1) [1] (C := [M1_1.1 10 0 0 = 0]) (pc' := 50) (ls' := [some (.inr (.inr (10, 0))), some (.inl x1), some (.inl x2)]) (st' := []) (M' := M1_1) rfl c_2 ?_
      refine Wp.path (k := 1) [] (C := []) (pc' := 51) (ls' := [some (.inr (.inr (10, 0))), some (.inl x1), some (.inl x2)]) (st' := [.inl x2]) (M' := M1_1) rfl trivial ?_
      rcases Decidable.em (x2 = 0) with c_3 | c_3
      · replace h := h.1 c_3
        refine Wp.path (k := 1) [84] (C := [tswT 51 65 0 4 #[33, 39, 46, 53, 59] x2 = 84]) (pc' := 84) (ls' := [some (.inr (.inr (10, 0))), some (.inl x1), some (.inl x2)]) (st' := []) (M' := M1_1) rfl (by rw [c_3]; rfl) ?_
        refine Wp.path (k := 2) [] (C := []) (pc' := 86) (ls' := [some (.inr (.inr (10, 0))), some (.inl x1), some (.inl x2)]) (st' := [.inl x1, .inr (.inr (10, 0))]) (M' := M1_1) rfl trivial ?_
        refine Wp.call h rfl rfl (by decide) ?_
        rintro _ M1_2 ⟨r, rfl, h⟩
        show Wp 15 1068 89 [some (.inr (.inr (10, 0))), some (.inl x1), some (.inl x2)] [.inl r] M1_2 (rI Q)
        exact Wp.ret rfl ⟨_, rfl, h⟩
      replace h := h.2
      rcases Decidable.em (x2 = 1) with c_4 | c_4
      · replace h := h.1 c_4
        refine Wp.path (k := 1) [90] (C := [tswT 51 65 0 4 #[33, 39, 46, 53, 59] x2 = 90]) (pc' := 90) (ls' := [some (.inr (.inr (10, 0))), some (.inl x1), some (.inl x2)]) (st' := []) (M' := M1_1) rfl (by rw [c_4]; rfl) ?_
        refine Wp.path (k := 4) [] (C := [0 ≤ x1 ∧ x1 < 13]) (pc' := 96) (ls' := [some (.inr (.inr (10, 0))), some (.inl x1), some (.inl x2)]) (st' := [.inl (M1_1.1 1120 0 x1.toNat)]) (M' := M1_1) rfl h.1 ?_
        replace h := h.2
        exact Wp.ret rfl ⟨_, rfl, h⟩
      replace h := h.2
      rcases Decidable.em (x2 = 2) with c_5 | c_5
      · replace h := h.1 c_5
        refine Wp.path (k := 1) [97] (C := [tswT 51 65 0 4 #[33, 39, 46, 53, 59] x2 = 97]) (pc' := 97) (ls' := [some (.inr (.inr (10, 0))), some (.inl x1), some (.inl x2)]) (st' := []) (M' := M1_1) rfl (by rw [c_5]; rfl) ?_
        refine Wp.path (k := 4) [] (C := [0 ≤ x1 ∧ x1 < 12]) (pc' := 103) (ls' := [some (.inr (.inr (10, 0))), some (.inl x1), some (.inl x2)]) (st' := [.inl (M1_1.1 1124 0 x1.toNat)]) (M' := M1_1) rfl h.1 ?_
        replace h := h.2
        exact Wp.ret rfl ⟨_, rfl, h⟩
      replace h := h.2
      rcases Decidable.em (x2 = 3) with c_6 | c_6
      · replace h := h.1 c_6
        refine Wp.path (k := 1) [104] (C := [tswT 51 65 0 4 #[33, 39, 46, 53, 59] x2 = 104]) (pc' := 104) (ls' := [some (.inr (.inr (10, 0))), some (.inl x1), some (.inl x2)]) (st' := []) (M' := M1_1) rfl (by rw [c_6]; rfl) ?_
        refine Wp.path (k := 2) [] (C := []) (pc' := 106) (ls' := [some (.inr (.inr (10, 0))), some (.inl x1), some (.inl x2)]) (st' := [.inl x1, .inr (.inr (10, 0))]) (M' := M1_1) rfl trivial ?_
        refine Wp.call h rfl rfl (by decide) ?_
        rintro _ M1_3 ⟨r_1, rfl, h⟩
        show Wp 15 1068 109 [some (.inr (.inr (10, 0))), some (.inl x1), some (.inl x2)] [.inl r_1] M1_3 (rI Q)
        exact Wp.ret rfl ⟨_, rfl, h⟩
      replace h := h.2
      rcases Decidable.em (x2 = 4) with c_7 | c_7
      · replace h := h.1 c_7
        refine Wp.path (k := 1) [110] (C := [tswT 51 65 0 4 #[33, 39, 46, 53, 59] x2 = 110]) (pc' := 110) (ls' := [some (.inr (.inr (10, 0))), some (.inl x1), some (.inl x2)]) (st' := []) (M' := M1_1) rfl (by rw [c_7]; rfl) ?_
        refine Wp.path (k := 2) [] (C := []) (pc' := 112) (ls' := [some (.inr (.inr (10, 0))), some (.inl x1), some (.inl x2)]) (st' := [.inl x1, .inr (.inr (10, 0))]) (M' := M1_1) rfl trivial ?_
        refine Wp.call h rfl rfl (by decide) ?_
        rintro _ M1_4 ⟨r_2, rfl, h⟩
        show Wp 15 1068 115 [some (.inr (.inr (10, 0))), some (.inl x1), some (.inl x2)] [.inl r_2] M1_4 (rI Q)
        exact Wp.ret rfl ⟨_, rfl, h⟩
      replace h := h.2
      replace h := h ⟨c_3, c_4, c_5, c_6, c_7⟩
      refine Wp.path (k := 1) [116] (C := [tswT 51 65 0 4 #[33, 39, 46, 53, 59] x2 = 116]) (pc' := 116) (ls' := [some (.inr (.inr (10, 0))), some (.inl x1), some (.inl x2)]) (st' := []) (M' := M1_1) rfl ((tsw_d (by omega)).trans rfl) ?_
      refine Wp.path (k := 3) [] (C := []) (pc' := 119) (ls' := [some (.inr (.inr (10, 0))), some (.inl x1), some (.inl x2)]) (st' := [.inl x2, .inl x1, .inr (.inr (10, 0))]) (M' := M1_1) rfl trivial ?_
      refine Wp.call h rfl rfl (by decide) ?_
      rintro _ M1_5 ⟨r_3, rfl, h⟩
      show Wp 15 1068 122 [some (.inr (.inr (10, 0))), some (.inl x1), some (.inl x2)] [.inl r_3] M1_5 (rI Q)
      exact Wp.ret rfl ⟨_, rfl, h⟩
    · replace h := h.2 c_2
      refine Wp.path (k := 1) [0] (C := [M1_1.1 10 0 0 ≠ 0]) (pc' := 48) (ls' := [some (.inr (.inr (10, 0))), some (.inl x1), some (.inl x2)]) (st' := []) (M' := M1_1) rfl c_2 ?_
      refine Wp.path (k := 1) [] (C := []) (pc' := 49) (ls' := [some (.inr (.inr (10, 0))), some (.inl x1), some (.inl x2)]) (st' := [.inl 0]) (M' := M1_1) rfl trivial ?_
      exact Wp.ret rfl ⟨_, rfl, h⟩
  · replace h := h.1 c_1
    refine Wp.path (k := 1) [1] (C := [inV x1 0 ((M1.1 10 0 18) - 1) ≠ 0]) (pc' := 23) (ls' := [some (.inr (.inr (10, 0))), some (.inl x1), some (.inl x2)]) (st' := [.inr (.inr (10, 0))]) (M' := M1) rfl c_1 ?_
    refine Wp.path (k := 3) [] (C := []) (pc' := 27) (ls' := [some (.inr (.inr (10, 0))), some (.inl x1), some (.inl x2)]) (st' := [.inl 7, .inl 0, .inl x2, .inr (.inr (10, 0))]) (M' := M1) rfl trivial ?_
    refine Wp.call (e1002) rfl rfl (by decide) ?_
    rintro v_ M_ ⟨eM_, ev_⟩
    rw [eM_, ev_]
    clear eM_ ev_ v_ M_
    show Wp 15 1068 30 [some (.inr (.inr (10, 0))), some (.inl x1), some (.inl x2)] [.inl (inV x2 0 7), .inr (.inr (10, 0))] M1 (rI Q)
    have k_14 : ∀ b : Int, b = (if inV x2 0 7 ≠ 0 then 0 else 2) → Wp 15 1068 38 [some (.inr (.inr (10, 0))), some (.inl x1), some (.inl x2)] [.inl b, .inr (.inr (10, 0))] M1 (rI Q) := by
      intro b e_b
      replace h := h b e_b
      refine Wp.path (k := 1) [] (C := []) (pc' := 41) (ls' := [some (.inr (.inr (10, 0))), some (.inl x1), some (.inl x2)]) (st' := []) (M' := setI M1 10 0 0 b) rfl trivial ?_
      refine Bd (P := fun M1_6 : Mm => Wp 15 1068 41 [some (.inr (.inr (10, 0))), some (.inl x1), some (.inl x2)] [] M1_6 (rI Q)) ?_
      intro M1_6 e_M1_6
      replace h := h M1_6 e_M1_6
      refine Wp.path (k := 2) [] (C := []) (pc' := 45) (ls' := [some (.inr (.inr (10, 0))), some (.inl x1), some (.inl x2)]) (st' := [.inl (M1_6.1 10 0 0)]) (M' := M1_6) rfl trivial ?_
      rcases Decidable.em (M1_6.1 10 0 0 = 0) with c_8 | c_8
      · replace h := h.1 c_8
        refine Wp.path (k := 1) [1] (C := [M1_6.1 10 0 0 = 0]) (pc' := 50) (ls' := [some (.inr (.inr (10, 0))), some (.inl x1), some (.inl x2)]) (st' := []) (M' := M1_6) rfl c_8 ?_
        refine Wp.path (k := 1) [] (C := []) (pc' := 51) (ls' := [some (.inr (.inr (10, 0))), some (.inl x1), some (.inl x2)]) (st' := [.inl x2]) (M' := M1_6) rfl trivial ?_
        rcases Decidable.em (x2 = 0) with c_9 | c_9
        · replace h := h.1 c_9
          refine Wp.path (k := 1) [84] (C := [tswT 51 65 0 4 #[33, 39, 46, 53, 59] x2 = 84]) (pc' := 84) (ls' := [some (.inr (.inr (10, 0))), some (.inl x1), some (.inl x2)]) (st' := []) (M' := M1_6) rfl (by rw [c_9]; rfl) ?_
          refine Wp.path (k := 2) [] (C := []) (pc' := 86) (ls' := [some (.inr (.inr (10, 0))), some (.inl x1), some (.inl x2)]) (st' := [.inl x1, .inr (.inr (10, 0))]) (M' := M1_6) rfl trivial ?_
          refine Wp.call h rfl rfl (by decide) ?_
          rintro _ M1_7 ⟨r_4, rfl, h⟩
          show Wp 15 1068 89 [some (.inr (.inr (10, 0))), some (.inl x1), some (.inl x2)] [.inl r_4] M1_7 (rI Q)
          exact Wp.ret rfl ⟨_, rfl, h⟩
        replace h := h.2
        rcases Decidable.em (x2 = 1) with c_10 | c_10
        · replace h := h.1 c_10
          refine Wp.path (k := 1) [90] (C := [tswT 51 65 0 4 #[33, 39, 46, 53, 59] x2 = 90]) (pc' := 90) (ls' := [some (.inr (.inr (10, 0))), some (.inl x1), some (.inl x2)]) (st' := []) (M' := M1_6) rfl (by rw [c_10]; rfl) ?_
          refine Wp.path (k := 4) [] (C := [0 ≤ x1 ∧ x1 < 13]) (pc' := 96) (ls' := [some (.inr (.inr (10, 0))), some (.inl x1), some (.inl x2)]) (st' := [.inl (M1_6.1 1120 0 x1.toNat)]) (M' := M1_6) rfl h.1 ?_
          replace h := h.2
          exact Wp.ret rfl ⟨_, rfl, h⟩
        replace h := h.2
        rcases Decidable.em (x2 = 2) with c_11 | c_11
        · replace h := h.1 c_11
          refine Wp.path (k := 1) [97] (C := [tswT 51 65 0 4 #[33, 39, 46, 53, 59] x2 = 97]) (pc' := 97) (ls' := [some (.inr (.inr (10, 0))), some (.inl x1), some (.inl x2)]) (st' := []) (M' := M1_6) rfl (by rw [c_11]; rfl) ?_
          refine Wp.path (k := 4) [] (C := [0 ≤ x1 ∧ x1 < 12]) (pc' := 103) (ls' := [some (.inr (.inr (10, 0))), some (.inl x1), some (.inl x2)]) (st' := [.inl (M1_6.1 1124 0 x1.toNat)]) (M' := M1_6) rfl h.1 ?_
          replace h := h.2
          exact Wp.ret rfl ⟨_, rfl, h⟩
        replace h := h.2
        rcases Decidable.em (x2 = 3) with c_12 | c_12
        · replace h := h.1 c_12
          refine Wp.path (k := 1) [104] (C := [tswT 51 65 0 4 #[33, 39, 46, 53, 59] x2 = 104]) (pc' := 104) (ls' := [some (.inr (.inr (10, 0))), some (.inl x1), some (.inl x2)]) (st' := []) (M' := M1_6) rfl (by rw [c_12]; rfl) ?_
          refine Wp.path (k := 2) [] (C := []) (pc' := 106) (ls' := [some (.inr (.inr (10, 0))), some (.inl x1), some (.inl x2)]) (st' := [.inl x1, .inr (.inr (10, 0))]) (M' := M1_6) rfl trivial ?_
          refine Wp.call h rfl rfl (by decide) ?_
          rintro _ M1_8 ⟨r_5, rfl, h⟩
          show Wp 15 1068 109 [some (.inr (.inr (10, 0))), some (.inl x1), some (.inl x2)] [.inl r_5] M1_8 (rI Q)
          exact Wp.ret rfl ⟨_, rfl, h⟩
        replace h := h.2
        rcases Decidable.em (x2 = 4) with c_13 | c_13
        · replace h := h.1 c_13
          refine Wp.path (k := 1) [110] (C := [tswT 51 65 0 4 #[33, 39, 46, 53, 59] x2 = 110]) (pc' := 110) (ls' := [some (.inr (.inr (10, 0))), some (.inl x1), some (.inl x2)]) (st' := []) (M' := M1_6) rfl (by rw [c_13]; rfl) ?_
          refine Wp.path (k := 2) [] (C := []) (pc' := 112) (ls' := [some (.inr (.inr (10, 0))), some (.inl x1), some (.inl x2)]) (st' := [.inl x1, .inr (.inr (10, 0))]) (M' := M1_6) rfl trivial ?_
          refine Wp.call h rfl rfl (by decide) ?_
          rintro _ M1_9 ⟨r_6, rfl, h⟩
          show Wp 15 1068 115 [some (.inr (.inr (10, 0))), some (.inl x1), some (.inl x2)] [.inl r_6] M1_9 (rI Q)
          exact Wp.ret rfl ⟨_, rfl, h⟩
        replace h := h.2
        replace h := h ⟨c_9, c_10, c_11, c_12, c_13⟩
        refine Wp.path (k := 1) [116] (C := [tswT 51 65 0 4 #[33, 39, 46, 53, 59] x2 = 116]) (pc' := 116) (ls' := [some (.inr (.inr (10, 0))), some (.inl x1), some (.inl x2)]) (st' := []) (M' := M1_6) rfl ((tsw_d (by omega)).trans rfl) ?_
        refine Wp.path (k := 3) [] (C := []) (pc' := 119) (ls' := [some (.inr (.inr (10, 0))), some (.inl x1), some (.inl x2)]) (st' := [.inl x2, .inl x1, .inr (.inr (10, 0))]) (M' := M1_6) rfl trivial ?_
        refine Wp.call h rfl rfl (by decide) ?_
        rintro _ M1_10 ⟨r_7, rfl, h⟩
        show Wp 15 1068 122 [some (.inr (.inr (10, 0))), some (.inl x1), some (.inl x2)] [.inl r_7] M1_10 (rI Q)
        exact Wp.ret rfl ⟨_, rfl, h⟩
      · replace h := h.2 c_8
        refine Wp.path (k := 1) [0] (C := [M1_6.1 10 0 0 ≠ 0]) (pc' := 48) (ls' := [some (.inr (.inr (10, 0))), some (.inl x1), some (.inl x2)]) (st' := []) (M' := M1_6) rfl c_8 ?_
        refine Wp.path (k := 1) [] (C := []) (pc' := 49) (ls' := [some (.inr (.inr (10, 0))), some (.inl x1), some (.inl x2)]) (st' := [.inl 0]) (M' := M1_6) rfl trivial ?_
        exact Wp.ret rfl ⟨_, rfl, h⟩
    clear h
    rcases Decidable.em (inV x2 0 7 = 0) with c_15 | c_15
    · refine Wp.path (k := 1) [0] (C := [inV x2 0 7 = 0]) (pc' := 33) (ls' := [some (.inr (.inr (10, 0))), some (.inl x1), some (.inl x2)]) (st' := [.inr (.inr (10, 0))]) (M' := M1) rfl c_15 ?_
      refine Wp.path (k := 2) [] (C := []) (pc' := 38) (ls' := [some (.inr (.inr (10, 0))), some (.inl x1), some (.inl x2)]) (st' := [.inl 2, .inr (.inr (10, 0))]) (M' := M1) rfl trivial ?_
      exact k_14 _ (by rw [if_neg (not_not_intro c_15)])
    · refine Wp.path (k := 1) [1] (C := [inV x2 0 7 ≠ 0]) (pc' := 37) (ls' := [some (.inr (.inr (10, 0))), some (.inl x1), some (.inl x2)]) (st' := [.inr (.inr (10, 0))]) (M' := M1) rfl c_15 ?_
      refine Wp.path (k := 1) [] (C := []) (pc' := 38) (ls' := [some (.inr (.inr (10, 0))), some (.inl x1), some (.inl x2)]) (st' := [.inl 0, .inr (.inr (10, 0))]) (M' := M1) rfl trivial ?_
      exact k_14 _ (by rw [if_pos c_15])
/-- X10_isCurve -/
def E_1070 (x1 : Int) (x2 : Int) (M : Mm) (Q : Int → Mm → Prop) : Prop := Ev 1 1070 [.inr (.inr (10, 0)), .inl x1, .inl x2] M (rI Q)
theorem m_1070 {x1 : Int} {x2 : Int} {M : Mm} {Q Q1 : Int → Mm → Prop} (h : E_1070 x1 x2 M Q) (k : (∀ r M1, Q r M1 → Q1 r M1)) : E_1070 x1 x2 M Q1 := Ev.mono h (fun v M1 ⟨r, h1, h2⟩ => ⟨r, h1, k _ _ h2⟩)
theorem s_1070_0 {x1 : Int} {x2 : Int} {M : Mm} {Q : Int → Mm → Prop} (h : ((-2147483648 ≤ (M.1 10 0 18) - 1 ∧ (M.1 10 0 18) - 1 ≤ 2147483647)) ∧ ((inV x1 0 ((M.1 10 0 18) - 1) = 0 → (Q 0 M)) ∧ (inV x1 0 ((M.1 10 0 18) - 1) ≠ 0 → (((0 ≤ x1 ∧ x1 < 12) ∧ (-2147483648 ≤ (M.1 1124 0 x1.toNat) - 1 ∧ (M.1 1124 0 x1.toNat) - 1 ≤ 2147483647)) ∧ (∀ b : Int, b = (if inV x2 0 ((M.1 1124 0 x1.toNat) - 1) = 0 then 0 else 1) → ((b = 0 ∨ b = 1) ∧ (Q b M))))))) : E_1070 x1 x2 M Q := by
  show Wp 1 1070 0 [some (.inr (.inr (10, 0))), some (.inl x1), some (.inl x2)] [] M (rI Q)
  refine Wp.path (k := 6) [] (C := [inR ((M.1 10 0 18) - 1)]) (pc' := 8) (ls' := [some (.inr (.inr (10, 0))), some (.inl x1), some (.inl x2)]) (st' := [.inl ((M.1 10 0 18) - 1), .inl 0, .inl x1]) (M' := M) rfl h.1 ?_
  replace h := h.2
  refine Wp.call (e1002) rfl rfl (by decide) ?_
  rintro v_ M_ ⟨eM_, ev_⟩
  rw [eM_, ev_]
  clear eM_ ev_ v_ M_
  show Wp 1 1070 11 [some (.inr (.inr (10, 0))), some (.inl x1), some (.inl x2)] [.inl (inV x1 0 ((M.1 10 0 18) - 1))] M (rI Q)
  rcases Decidable.em (inV x1 0 ((M.1 10 0 18) - 1) = 0) with c_1 | c_1
  · replace h := h.1 c_1
    refine Wp.path (k := 1) [1] (C := [inV x1 0 ((M.1 10 0 18) - 1) = 0]) (pc' := 34) (ls' := [some (.inr (.inr (10, 0))), some (.inl x1), some (.inl x2)]) (st' := []) (M' := M) rfl c_1 ?_
    refine Wp.path (k := 1) [] (C := []) (pc' := 35) (ls' := [some (.inr (.inr (10, 0))), some (.inl x1), some (.inl x2)]) (st' := [.inl 0]) (M' := M) rfl trivial ?_
    exact Wp.ret rfl ⟨_, rfl, h⟩
  · replace h := h.2 c_1
    refine Wp.path (k := 1) [0] (C := [inV x1 0 ((M.1 10 0 18) - 1) ≠ 0]) (pc' := 14) (ls' := [some (.inr (.inr (10, 0))), some (.inl x1), some (.inl x2)]) (st' := []) (M' := M) rfl c_1 ?_
    refine Wp.path (k := 8) [] (C := [0 ≤ x1 ∧ x1 < 12, inR ((M.1 1124 0 x1.toNat) - 1)]) (pc' := 24) (ls' := [some (.inr (.inr (10, 0))), some (.inl x1), some (.inl x2)]) (st' := [.inl ((M.1 1124 0 x1.toNat) - 1), .inl 0, .inl x2]) (M' := M) rfl ⟨h.1.1, h.1.2⟩ ?_
    replace h := h.2
    refine Wp.call (e1002) rfl rfl (by decide) ?_
    rintro v_ M_ ⟨eM_, ev_⟩
    rw [eM_, ev_]
    clear eM_ ev_ v_ M_
    show Wp 1 1070 27 [some (.inr (.inr (10, 0))), some (.inl x1), some (.inl x2)] [.inl (inV x2 0 ((M.1 1124 0 x1.toNat) - 1))] M (rI Q)
    have k_2 : ∀ b : Int, b = (if inV x2 0 ((M.1 1124 0 x1.toNat) - 1) = 0 then 0 else 1) → Wp 1 1070 35 [some (.inr (.inr (10, 0))), some (.inl x1), some (.inl x2)] [.inl b] M (rI Q) := by
      intro b e_b
      replace h := h b e_b
      exact Wp.ret (by rcases h.1 with e_r | e_r <;> rw [e_r] <;> rfl) ⟨_, rfl, h.2⟩
    clear h
    rcases Decidable.em (inV x2 0 ((M.1 1124 0 x1.toNat) - 1) = 0) with c_3 | c_3
    · refine Wp.path (k := 1) [1] (C := [inV x2 0 ((M.1 1124 0 x1.toNat) - 1) = 0]) (pc' := 34) (ls' := [some (.inr (.inr (10, 0))), some (.inl x1), some (.inl x2)]) (st' := []) (M' := M) rfl c_3 ?_
      refine Wp.path (k := 1) [] (C := []) (pc' := 35) (ls' := [some (.inr (.inr (10, 0))), some (.inl x1), some (.inl x2)]) (st' := [.inl 0]) (M' := M) rfl trivial ?_
      exact k_2 _ (by rw [if_pos c_3])
    · refine Wp.path (k := 1) [0] (C := [inV x2 0 ((M.1 1124 0 x1.toNat) - 1) ≠ 0]) (pc' := 30) (ls' := [some (.inr (.inr (10, 0))), some (.inl x1), some (.inl x2)]) (st' := []) (M' := M) rfl c_3 ?_
      refine Wp.path (k := 2) [] (C := []) (pc' := 35) (ls' := [some (.inr (.inr (10, 0))), some (.inl x1), some (.inl x2)]) (st' := [.inl 1]) (M' := M) rfl trivial ?_
      exact k_2 _ (by rw [if_neg c_3])
/-- X10_contour -/
def E_1071 (x1 : Int) (x2 : Int) (x3 : Int) (M : Mm) (Q : Int → Mm → Prop) : Prop := Ev 15 1071 [.inr (.inr (10, 0)), .inl x1, .inl x2, .inl x3] M (rI Q)
theorem m_1071 {x1 : Int} {x2 : Int} {x3 : Int} {M : Mm} {Q Q1 : Int → Mm → Prop} (h : E_1071 x1 x2 x3 M Q) (k : (∀ r M1, Q r M1 → Q1 r M1)) : E_1071 x1 x2 x3 M Q1 := Ev.mono h (fun v M1 ⟨r, h1, h2⟩ => ⟨r, h1, k _ _ h2⟩)
theorem s_1071_0 {x1 : Int} {x2 : Int} {x3 : Int} {M : Mm} {Q : Int → Mm → Prop} (h : (E_1050 M (fun M1 : Mm => (E_1070 x1 x2 M1 (fun (r : Int) (M1_1 : Mm) => ((r ≠ 0 → (∀ b : Int, b = (if inV x3 0 3 ≠ 0 then 0 else 2) → (∀ M1_4 : Mm, M1_4 = setI M1_1 10 0 0 b → ((M1_4.1 10 0 0 = 0 → ((x3 ≠ 0 → (((-2147483648 ≤ 160 * x1 ∧ 160 * x1 ≤ 2147483647) ∧ (-2147483648 ≤ (160 * x1) + x2 ∧ (160 * x1) + x2 ≤ 2147483647) ∧ (0 ≤ (160 * x1) + x2 ∧ (160 * x1) + x2 < 1920)) ∧ (∀ x4_1 : Int, x4_1 = M1_4.1 1126 0 (((160 * x1) + x2).toNat) → ((x3 ≠ 1 → ((x3 ≠ 3 → (((-2147483648 ≤ 640 * x1 ∧ 640 * x1 ≤ 2147483647)) ∧ ((0 ≤ x1 ∧ x1 < 12 ∧ 0 ≤ x2 ∧ x2 ≤ 160) ∧ (((-2147483648 ≤ (640 * x1) + (stV (M1_4.1 1125 0) x1 x2) ∧ (640 * x1) + (stV (M1_4.1 1125 0) x1 x2) ≤ 2147483647)) ∧ (∀ x5_1 : Int, x5_1 = (640 * x1) + (stV (M1_4.1 1125 0) x1 x2) → (((-2147483648 ≤ 2304 * x1 ∧ 2304 * x1 ≤ 2147483647) ∧ (0 ≤ x5_1 ∧ x5_1 < 7680) ∧ (-2147483648 ≤ 48 * (M1_4.1 1128 0 x5_1.toNat) ∧ 48 * (M1_4.1 1128 0 x5_1.toNat) ≤ 2147483647) ∧ (-2147483648 ≤ (2304 * x1) + (48 * (M1_4.1 1128 0 x5_1.toNat)) ∧ (2304 * x1) + (48 * (M1_4.1 1128 0 x5_1.toNat)) ≤ 2147483647) ∧ (-2147483648 ≤ ((2304 * x1) + (48 * (M1_4.1 1128 0 x5_1.toNat))) + (M1_4.1 1127 0 x5_1.toNat) ∧ ((2304 * x1) + (48 * (M1_4.1 1128 0 x5_1.toNat))) + (M1_4.1 1127 0 x5_1.toNat) ≤ 2147483647) ∧ (-2147483648 ≤ (((2304 * x1) + (48 * (M1_4.1 1128 0 x5_1.toNat))) + (M1_4.1 1127 0 x5_1.toNat)) - x4_1 ∧ (((2304 * x1) + (48 * (M1_4.1 1128 0 x5_1.toNat))) + (M1_4.1 1127 0 x5_1.toNat)) - x4_1 ≤ 2147483647) ∧ (0 ≤ (((2304 * x1) + (48 * (M1_4.1 1128 0 x5_1.toNat))) + (M1_4.1 1127 0 x5_1.toNat)) - x4_1 ∧ (((2304 * x1) + (48 * (M1_4.1 1128 0 x5_1.toNat))) + (M1_4.1 1127 0 x5_1.toNat)) - x4_1 < 27648)) ∧ (Q (M1_4.1 1119 0 (((((2304 * x1) + (48 * (M1_4.1 1128 0 x5_1.toNat))) + (M1_4.1 1127 0 x5_1.toNat)) - x4_1).toNat)) M1_4))))))) ∧ (x3 = 3 → (E_1040 x1 x2 M1_4 (fun (r_2 : Int) (M1_5 : Mm) => (Q r_2 M1_5)))))) ∧ (x3 = 1 → (Q x4_1 M1_4)))))) ∧ (x3 = 0 → ((0 ≤ x1 ∧ x1 < 12 ∧ 0 ≤ x2 ∧ x2 < 160 ∧ inR (szV (M1_4.1 1125 0) x1 x2)) ∧ (Q (szV (M1_4.1 1125 0) x1 x2) M1_4))))) ∧ (M1_4.1 10 0 0 ≠ 0 → (Q 0 M1_4)))))) ∧ (r = 0 → (∀ M1_2 : Mm, M1_2 = setI M1_1 10 0 0 1 → ((M1_2.1 10 0 0 = 0 → ((x3 ≠ 0 → (((-2147483648 ≤ 160 * x1 ∧ 160 * x1 ≤ 2147483647) ∧ (-2147483648 ≤ (160 * x1) + x2 ∧ (160 * x1) + x2 ≤ 2147483647) ∧ (0 ≤ (160 * x1) + x2 ∧ (160 * x1) + x2 < 1920)) ∧ (∀ x4 : Int, x4 = M1_2.1 1126 0 (((160 * x1) + x2).toNat) → ((x3 ≠ 1 → ((x3 ≠ 3 → (((-2147483648 ≤ 640 * x1 ∧ 640 * x1 ≤ 2147483647)) ∧ ((0 ≤ x1 ∧ x1 < 12 ∧ 0 ≤ x2 ∧ x2 ≤ 160) ∧ (((-2147483648 ≤ (640 * x1) + (stV (M1_2.1 1125 0) x1 x2) ∧ (640 * x1) + (stV (M1_2.1 1125 0) x1 x2) ≤ 2147483647)) ∧ (∀ x5 : Int, x5 = (640 * x1) + (stV (M1_2.1 1125 0) x1 x2) → (((-2147483648 ≤ 2304 * x1 ∧ 2304 * x1 ≤ 2147483647) ∧ (0 ≤ x5 ∧ x5 < 7680) ∧ (-2147483648 ≤ 48 * (M1_2.1 1128 0 x5.toNat) ∧ 48 * (M1_2.1 1128 0 x5.toNat) ≤ 2147483647) ∧ (-2147483648 ≤ (2304 * x1) + (48 * (M1_2.1 1128 0 x5.toNat)) ∧ (2304 * x1) + (48 * (M1_2.1 1128 0 x5.toNat)) ≤ 2147483647) ∧ (-2147483648 ≤ ((2304 * x1) + (48 * (M1_2.1 1128 0 x5.toNat))) + (M1_2.1 1127 0 x5.toNat) ∧ ((2304 * x1) + (48 * (M1_2.1 1128 0 x5.toNat))) + (M1_2.1 1127 0 x5.toNat) ≤ 2147483647) ∧ (-2147483648 ≤ (((2304 * x1) + (48 * (M1_2.1 1128 0 x5.toNat))) + (M1_2.1 1127 0 x5.toNat)) - x4 ∧ (((2304 * x1) + (48 * (M1_2.1 1128 0 x5.toNat))) + (M1_2.1 1127 0 x5.toNat)) - x4 ≤ 2147483647) ∧ (0 ≤ (((2304 * x1) + (48 * (M1_2.1 1128 0 x5.toNat))) + (M1_2.1 1127 0 x5.toNat)) - x4 ∧ (((2304 * x1) + (48 * (M1_2.1 1128 0 x5.toNat))) + (M1_2.1 1127 0 x5.toNat)) - x4 < 27648)) ∧ (Q (M1_2.1 1119 0 (((((2304 * x1) + (48 * (M1_2.1 1128 0 x5.toNat))) + (M1_2.1 1127 0 x5.toNat)) - x4).toNat)) M1_2))))))) ∧ (x3 = 3 → (E_1040 x1 x2 M1_2 (fun (r_1 : Int) (M1_3 : Mm) => (Q r_1 M1_3)))))) ∧ (x3 = 1 → (Q x4 M1_2)))))) ∧ (x3 = 0 → ((0 ≤ x1 ∧ x1 < 12 ∧ 0 ≤ x2 ∧ x2 < 160 ∧ inR (szV (M1_2.1 1125 0) x1 x2)) ∧ (Q (szV (M1_2.1 1125 0) x1 x2) M1_2))))) ∧ (M1_2.1 10 0 0 ≠ 0 → (Q 0 M1_2))))))))))) : E_1071 x1 x2 x3 M Q := by
  show Wp 15 1071 0 [some (.inr (.inr (10, 0))), some (.inl x1), some (.inl x2), some (.inl x3), none, none] [] M (rI Q)
  refine Wp.path (k := 1) [] (C := []) (pc' := 1) (ls' := [some (.inr (.inr (10, 0))), some (.inl x1), some (.inl x2), some (.inl x3), none, none]) (st' := [.inr (.inr (10, 0))]) (M' := M) rfl trivial ?_
  refine Wp.call h rfl rfl (by decide) ?_
  rintro _ M1 ⟨rfl, h⟩
  show Wp 15 1071 4 [some (.inr (.inr (10, 0))), some (.inl x1), some (.inl x2), some (.inl x3), none, none] [] M1 (rI Q)
  refine Wp.path (k := 4) [] (C := []) (pc' := 8) (ls' := [some (.inr (.inr (10, 0))), some (.inl x1), some (.inl x2), some (.inl x3), none, none]) (st' := [.inl x2, .inl x1, .inr (.inr (10, 0)), .inr (.inr (10, 0))]) (M' := M1) rfl trivial ?_
  refine Wp.call h rfl rfl (by decide) ?_
  rintro _ M1_1 ⟨r, rfl, h⟩
  show Wp 15 1071 11 [some (.inr (.inr (10, 0))), some (.inl x1), some (.inl x2), some (.inl x3), none, none] [.inl r, .inr (.inr (10, 0))] M1_1 (rI Q)
  rcases Decidable.em (r = 0) with c_1 | c_1
  · replace h := h.2 c_1
    refine Wp.path (k := 1) [0] (C := [r = 0]) (pc' := 14) (ls' := [some (.inr (.inr (10, 0))), some (.inl x1), some (.inl x2), some (.inl x3), none, none]) (st' := [.inr (.inr (10, 0))]) (M' := M1_1) rfl c_1 ?_
    refine Wp.path (k := 3) [] (C := []) (pc' := 35) (ls' := [some (.inr (.inr (10, 0))), some (.inl x1), some (.inl x2), some (.inl x3), none, none]) (st' := []) (M' := setI M1_1 10 0 0 1) rfl trivial ?_
    refine Bd (P := fun M1_2 : Mm => Wp 15 1071 35 [some (.inr (.inr (10, 0))), some (.inl x1), some (.inl x2), some (.inl x3), none, none] [] M1_2 (rI Q)) ?_
    intro M1_2 e_M1_2
    replace h := h M1_2 e_M1_2
    refine Wp.path (k := 2) [] (C := []) (pc' := 39) (ls' := [some (.inr (.inr (10, 0))), some (.inl x1), some (.inl x2), some (.inl x3), none, none]) (st' := [.inl (M1_2.1 10 0 0)]) (M' := M1_2) rfl trivial ?_
    rcases Decidable.em (M1_2.1 10 0 0 = 0) with c_2 | c_2
    · replace h := h.1 c_2
      refine Wp.path (k := 1) [1] (C := [M1_2.1 10 0 0 = 0]) (pc' := 44) (ls' := [some (.inr (.inr (10, 0))), some (.inl x1), some (.inl x2), some (.inl x3), none, none]) (st' := []) (M' := M1_2) rfl c_2 ?_
      refine Wp.path (k := 1) [] (C := []) (pc' := 45) (ls' := [some (.inr (.inr (10, 0))), some (.inl x1), some (.inl x2), some (.inl x3), none, none]) (st' := [.inl x3]) (M' := M1_2) rfl trivial ?_
      rcases Decidable.em (x3 = 0) with c_3 | c_3
      · replace h := h.2 c_3
        refine Wp.path (k := 1) [0] (C := [x3 = 0]) (pc' := 48) (ls' := [some (.inr (.inr (10, 0))), some (.inl x1), some (.inl x2), some (.inl x3), none, none]) (st' := []) (M' := M1_2) rfl c_3 ?_
        refine Wp.path (k := 3) [] (C := []) (pc' := 51) (ls' := [some (.inr (.inr (10, 0))), some (.inl x1), some (.inl x2), some (.inl x3), none, none]) (st' := [.inl x2, .inl x1, .inr (.inr (10, 0))]) (M' := M1_2) rfl trivial ?_
        refine Wp.call (e1036 h.1.1 h.1.2.1 h.1.2.2.1 h.1.2.2.2.1 h.1.2.2.2.2) rfl rfl (by decide) ?_
        replace h := h.2
        rintro v_ M_ ⟨eM_, ev_⟩
        rw [eM_, ev_]
        clear eM_ ev_ v_ M_
        show Wp 15 1071 54 [some (.inr (.inr (10, 0))), some (.inl x1), some (.inl x2), some (.inl x3), none, none] [.inl (szV (M1_2.1 1125 0) x1 x2)] M1_2 (rI Q)
        exact Wp.ret rfl ⟨_, rfl, h⟩
      · replace h := h.1 c_3
        refine Wp.path (k := 1) [1] (C := [x3 ≠ 0]) (pc' := 55) (ls' := [some (.inr (.inr (10, 0))), some (.inl x1), some (.inl x2), some (.inl x3), none, none]) (st' := []) (M' := M1_2) rfl c_3 ?_
        refine Wp.path (k := 9) [] (C := [inR (160 * x1), inR ((160 * x1) + x2), 0 ≤ (160 * x1) + x2 ∧ (160 * x1) + x2 < 1920]) (pc' := 69) (ls' := [some (.inr (.inr (10, 0))), some (.inl x1), some (.inl x2), some (.inl x3), some (.inl (M1_2.1 1126 0 (((160 * x1) + x2).toNat))), none]) (st' := []) (M' := M1_2) rfl ⟨h.1.1, h.1.2.1, h.1.2.2⟩ ?_
        replace h := h.2
        refine Bd (P := fun x4 : Int => Wp 15 1071 69 [some (.inr (.inr (10, 0))), some (.inl x1), some (.inl x2), some (.inl x3), some (.inl x4), none] [] M1_2 (rI Q)) ?_
        intro x4 e_x4
        replace h := h x4 e_x4
        refine Wp.path (k := 2) [] (C := []) (pc' := 71) (ls' := [some (.inr (.inr (10, 0))), some (.inl x1), some (.inl x2), some (.inl x3), some (.inl x4), none]) (st' := [.inl 1, .inl x3]) (M' := M1_2) rfl trivial ?_
        rcases Decidable.em (x3 = 1) with c_4 | c_4
        · replace h := h.2 c_4
          refine Wp.path (k := 1) [0] (C := [x3 = 1]) (pc' := 74) (ls' := [some (.inr (.inr (10, 0))), some (.inl x1), some (.inl x2), some (.inl x3), some (.inl x4), none]) (st' := []) (M' := M1_2) rfl c_4 ?_
          refine Wp.path (k := 1) [] (C := []) (pc' := 76) (ls' := [some (.inr (.inr (10, 0))), some (.inl x1), some (.inl x2), some (.inl x3), some (.inl x4), none]) (st' := [.inl x4]) (M' := M1_2) rfl trivial ?_
          exact Wp.ret rfl ⟨_, rfl, h⟩
        · replace h := h.1 c_4
          refine Wp.path (k := 1) [1] (C := [x3 ≠ 1]) (pc' := 77) (ls' := [some (.inr (.inr (10, 0))), some (.inl x1), some (.inl x2), some (.inl x3), some (.inl x4), none]) (st' := []) (M' := M1_2) rfl c_4 ?_
          refine Wp.path (k := 2) [] (C := []) (pc' := 79) (ls' := [some (.inr (.inr (10, 0))), some (.inl x1), some (.inl x2), some (.inl x3), some (.inl x4), none]) (st' := [.inl 3, .inl x3]) (M' := M1_2) rfl trivial ?_
          rcases Decidable.em (x3 = 3) with c_5 | c_5
          · replace h := h.2 c_5
            refine Wp.path (k := 1) [0] (C := [x3 = 3]) (pc' := 82) (ls' := [some (.inr (.inr (10, 0))), some (.inl x1), some (.inl x2), some (.inl x3), some (.inl x4), none]) (st' := []) (M' := M1_2) rfl c_5 ?_
            refine Wp.path (k := 3) [] (C := []) (pc' := 85) (ls' := [some (.inr (.inr (10, 0))), some (.inl x1), some (.inl x2), some (.inl x3), some (.inl x4), none]) (st' := [.inl x2, .inl x1, .inr (.inr (10, 0))]) (M' := M1_2) rfl trivial ?_
            refine Wp.call h rfl rfl (by decide) ?_
            rintro _ M1_3 ⟨r_1, rfl, h⟩
            show Wp 15 1071 88 [some (.inr (.inr (10, 0))), some (.inl x1), some (.inl x2), some (.inl x3), some (.inl x4), none] [.inl r_1] M1_3 (rI Q)
            exact Wp.ret rfl ⟨_, rfl, h⟩
          · replace h := h.1 c_5
            refine Wp.path (k := 1) [1] (C := [x3 ≠ 3]) (pc' := 89) (ls' := [some (.inr (.inr (10, 0))), some (.inl x1), some (.inl x2), some (.inl x3), some (.inl x4), none]) (st' := []) (M' := M1_2) rfl c_5 ?_
            refine Wp.path (k := 6) [] (C := [inR (640 * x1)]) (pc' := 97) (ls' := [some (.inr (.inr (10, 0))), some (.inl x1), some (.inl x2), some (.inl x3), some (.inl x4), none]) (st' := [.inl x2, .inl x1, .inr (.inr (10, 0)), .inl (640 * x1)]) (M' := M1_2) rfl h.1 ?_
            replace h := h.2
            refine Wp.call (e1035 h.1.1 h.1.2.1 h.1.2.2.1 h.1.2.2.2) rfl rfl (by decide) ?_
            replace h := h.2
            rintro v_ M_ ⟨eM_, ev_⟩
            rw [eM_, ev_]
            clear eM_ ev_ v_ M_
            show Wp 15 1071 100 [some (.inr (.inr (10, 0))), some (.inl x1), some (.inl x2), some (.inl x3), some (.inl x4), none] [.inl (stV (M1_2.1 1125 0) x1 x2), .inl (640 * x1)] M1_2 (rI Q)
            refine Wp.path (k := 2) [] (C := [inR ((640 * x1) + (stV (M1_2.1 1125 0) x1 x2))]) (pc' := 103) (ls' := [some (.inr (.inr (10, 0))), some (.inl x1), some (.inl x2), some (.inl x3), some (.inl x4), some (.inl ((640 * x1) + (stV (M1_2.1 1125 0) x1 x2)))]) (st' := []) (M' := M1_2) rfl h.1 ?_
            replace h := h.2
            refine Bd (P := fun x5 : Int => Wp 15 1071 103 [some (.inr (.inr (10, 0))), some (.inl x1), some (.inl x2), some (.inl x3), some (.inl x4), some (.inl x5)] [] M1_2 (rI Q)) ?_
            intro x5 e_x5
            replace h := h x5 e_x5
            refine Wp.path (k := 20) [] (C := [inR (2304 * x1), 0 ≤ x5 ∧ x5 < 7680, inR (48 * (M1_2.1 1128 0 x5.toNat)), inR ((2304 * x1) + (48 * (M1_2.1 1128 0 x5.toNat))), 0 ≤ x5 ∧ x5 < 7680, inR (((2304 * x1) + (48 * (M1_2.1 1128 0 x5.toNat))) + (M1_2.1 1127 0 x5.toNat)), inR ((((2304 * x1) + (48 * (M1_2.1 1128 0 x5.toNat))) + (M1_2.1 1127 0 x5.toNat)) - x4), 0 ≤ (((2304 * x1) + (48 * (M1_2.1 1128 0 x5.toNat))) + (M1_2.1 1127 0 x5.toNat)) - x4 ∧ (((2304 * x1) + (48 * (M1_2.1 1128 0 x5.toNat))) + (M1_2.1 1127 0 x5.toNat)) - x4 < 27648]) (pc' := 135) (ls' := [some (.inr (.inr (10, 0))), some (.inl x1), some (.inl x2), some (.inl x3), some (.inl x4), some (.inl x5)]) (st' := [.inl (M1_2.1 1119 0 (((((2304 * x1) + (48 * (M1_2.1 1128 0 x5.toNat))) + (M1_2.1 1127 0 x5.toNat)) - x4).toNat))]) (M' := M1_2) rfl ⟨h.1.1, h.1.2.1, h.1.2.2.1, h.1.2.2.2.1, h.1.2.1, h.1.2.2.2.2.1, h.1.2.2.2.2.2.1, h.1.2.2.2.2.2.2⟩ ?_
            replace h := h.2
            exact Wp.ret rfl ⟨_, rfl, h⟩
    · replace h := h.2 c_2
      refine Wp.path (k := 1) [0] (C := [M1_2.1 10 0 0 ≠ 0]) (pc' := 42) (ls' := [some (.inr (.inr (10, 0))), some (.inl x1), some (.inl x2), some (.inl x3), none, none]) (st' := []) (M' := M1_2) rfl c_2 ?_
      refine Wp.path (k := 1) [] (C := []) (pc' := 43) (ls' := [some (.inr (.inr (10, 0))), some (.inl x1), some (.inl x2), some (.inl x3), none, none]) (st' := [.inl 0]) (M' := M1_2) rfl trivial ?_
      exact Wp.ret rfl ⟨_, rfl, h⟩
  · replace h := h.1 c_1
    refine Wp.path (k := 1) [1] (C := [r ≠ 0]) (pc' := 18) (ls' := [some (.inr (.inr (10, 0))), some (.inl x1), some (.inl x2), some (.inl x3), none, none]) (st' := [.inr (.inr (10, 0))]) (M' := M1_1) rfl c_1 ?_
    refine Wp.path (k := 3) [] (C := []) (pc' := 21) (ls' := [some (.inr (.inr (10, 0))), some (.inl x1), some (.inl x2), some (.inl x3), none, none]) (st' := [.inl 3, .inl 0, .inl x3, .inr (.inr (10, 0))]) (M' := M1_1) rfl trivial ?_
    refine Wp.call (e1002) rfl rfl (by decide) ?_
    rintro v_ M_ ⟨eM_, ev_⟩
    rw [eM_, ev_]
    clear eM_ ev_ v_ M_
    show Wp 15 1071 24 [some (.inr (.inr (10, 0))), some (.inl x1), some (.inl x2), some (.inl x3), none, none] [.inl (inV x3 0 3), .inr (.inr (10, 0))] M1_1 (rI Q)
    have k_10 : ∀ b : Int, b = (if inV x3 0 3 ≠ 0 then 0 else 2) → Wp 15 1071 32 [some (.inr (.inr (10, 0))), some (.inl x1), some (.inl x2), some (.inl x3), none, none] [.inl b, .inr (.inr (10, 0))] M1_1 (rI Q) := by
      intro b e_b
      replace h := h b e_b
      refine Wp.path (k := 1) [] (C := []) (pc' := 35) (ls' := [some (.inr (.inr (10, 0))), some (.inl x1), some (.inl x2), some (.inl x3), none, none]) (st' := []) (M' := setI M1_1 10 0 0 b) rfl trivial ?_
      refine Bd (P := fun M1_4 : Mm => Wp 15 1071 35 [some (.inr (.inr (10, 0))), some (.inl x1), some (.inl x2), some (.inl x3), none, none] [] M1_4 (rI Q)) ?_
      intro M1_4 e_M1_4
      replace h := h M1_4 e_M1_4
      refine Wp.path (k := 2) [] (C := []) (pc' := 39) (ls' := [some (.inr (.inr (10, 0))), some (.inl x1), some (.inl x2), some (.inl x3), none, none]) (st' := [.inl (M1_4.1 10 0 0)]) (M' := M1_4) rfl trivial ?_
      rcases Decidable.em (M1_4.1 10 0 0 = 0) with c_6 | c_6
      · replace h := h.1 c_6
        refine Wp.path (k := 1) [1] (C := [M1_4.1 10 0 0 = 0]) (pc' := 44) (ls' := [some (.inr (.inr (10, 0))), some (.inl x1), some (.inl x2), some (.inl x3), none, none]) (st' := []) (M' := M1_4) rfl c_6 ?_
        refine Wp.path (k := 1) [] (C := []) (pc' := 45) (ls' := [some (.inr (.inr (10, 0))), some (.inl x1), some (.inl x2), some (.inl x3), none, none]) (st' := [.inl x3]) (M' := M1_4) rfl trivial ?_
        rcases Decidable.em (x3 = 0) with c_7 | c_7
        · replace h := h.2 c_7
          refine Wp.path (k := 1) [0] (C := [x3 = 0]) (pc' := 48) (ls' := [some (.inr (.inr (10, 0))), some (.inl x1), some (.inl x2), some (.inl x3), none, none]) (st' := []) (M' := M1_4) rfl c_7 ?_
          refine Wp.path (k := 3) [] (C := []) (pc' := 51) (ls' := [some (.inr (.inr (10, 0))), some (.inl x1), some (.inl x2), some (.inl x3), none, none]) (st' := [.inl x2, .inl x1, .inr (.inr (10, 0))]) (M' := M1_4) rfl trivial ?_
          refine Wp.call (e1036 h.1.1 h.1.2.1 h.1.2.2.1 h.1.2.2.2.1 h.1.2.2.2.2) rfl rfl (by decide) ?_
          replace h := h.2
          rintro v_ M_ ⟨eM_, ev_⟩
          rw [eM_, ev_]
          clear eM_ ev_ v_ M_
          show Wp 15 1071 54 [some (.inr (.inr (10, 0))), some (.inl x1), some (.inl x2), some (.inl x3), none, none] [.inl (szV (M1_4.1 1125 0) x1 x2)] M1_4 (rI Q)
          exact Wp.ret rfl ⟨_, rfl, h⟩
        · replace h := h.1 c_7
          refine Wp.path (k := 1) [1] (C := [x3 ≠ 0]) (pc' := 55) (ls' := [some (.inr (.inr (10, 0))), some (.inl x1), some (.inl x2), some (.inl x3), none, none]) (st' := []) (M' := M1_4) rfl c_7 ?_
          refine Wp.path (k := 9) [] (C := [inR (160 * x1), inR ((160 * x1) + x2), 0 ≤ (160 * x1) + x2 ∧ (160 * x1) + x2 < 1920]) (pc' := 69) (ls' := [some (.inr (.inr (10, 0))), some (.inl x1), some (.inl x2), some (.inl x3), some (.inl (M1_4.1 1126 0 (((160 * x1) + x2).toNat))), none]) (st' := []) (M' := M1_4) rfl ⟨h.1.1, h.1.2.1, h.1.2.2⟩ ?_
          replace h := h.2
          refine Bd (P := fun x4_1 : Int => Wp 15 1071 69 [some (.inr (.inr (10, 0))), some (.inl x1), some (.inl x2), some (.inl x3), some (.inl x4_1), none] [] M1_4 (rI Q)) ?_
          intro x4_1 e_x4_1
          replace h := h x4_1 e_x4_1
          refine Wp.path (k := 2) [] (C := []) (pc' := 71) (ls' := [some (.inr (.inr (10, 0))), some (.inl x1), some (.inl x2), some (.inl x3), some (.inl x4_1), none]) (st' := [.inl 1, .inl x3]) (M' := M1_4) rfl trivial ?_
          rcases Decidable.em (x3 = 1) with c_8 | c_8
          · replace h := h.2 c_8
            refine Wp.path (k := 1) [0] (C := [x3 = 1]) (pc' := 74) (ls' := [some (.inr (.inr (10, 0))), some (.inl x1), some (.inl x2), some (.inl x3), some (.inl x4_1), none]) (st' := []) (M' := M1_4) rfl c_8 ?_
            refine Wp.path (k := 1) [] (C := []) (pc' := 76) (ls' := [some (.inr (.inr (10, 0))), some (.inl x1), some (.inl x2), some (.inl x3), some (.inl x4_1), none]) (st' := [.inl x4_1]) (M' := M1_4) rfl trivial ?_
            exact Wp.ret rfl ⟨_, rfl, h⟩
          · replace h := h.1 c_8
            refine Wp.path (k := 1) [1] (C := [x3 ≠ 1]) (pc' := 77) (ls' := [some (.inr (.inr (10, 0))), some (.inl x1), some (.inl x2), some (.inl x3), some (.inl x4_1), none]) (st' := []) (M' := M1_4) rfl c_8 ?_
            refine Wp.path (k := 2) [] (C := []) (pc' := 79) (ls' := [some (.inr (.inr (10, 0))), some (.inl x1), some (.inl x2), some (.inl x3), some (.inl x4_1), none]) (st' := [.inl 3, .inl x3]) (M' := M1_4) rfl trivial ?_
            rcases Decidable.em (x3 = 3) with c_9 | c_9
            · replace h := h.2 c_9
              refine Wp.path (k := 1) [0] (C := [x3 = 3]) (pc' := 82) (ls' := [some (.inr (.inr (10, 0))), some (.inl x1), some (.inl x2), some (.inl x3), some (.inl x4_1), none]) (st' := []) (M' := M1_4) rfl c_9 ?_
              refine Wp.path (k := 3) [] (C := []) (pc' := 85) (ls' := [some (.inr (.inr (10, 0))), some (.inl x1), some (.inl x2), some (.inl x3), some (.inl x4_1), none]) (st' := [.inl x2, .inl x1, .inr (.inr (10, 0))]) (M' := M1_4) rfl trivial ?_
              refine Wp.call h rfl rfl (by decide) ?_
              rintro _ M1_5 ⟨r_2, rfl, h⟩
              show Wp 15 1071 88 [some (.inr (.inr (10, 0))), some (.inl x1), some (.inl x2), some (.inl x3), some (.inl x4_1), none] [.inl r_2] M1_5 (rI Q)
              exact Wp.ret rfl ⟨_, rfl, h⟩
            · replace h := h.1 c_9
              refine Wp.path (k := 1) [1] (C := [x3 ≠ 3]) (pc' := 89) (ls' := [some (.inr (.inr (10, 0))), some (.inl x1), some (.inl x2), some (.inl x3), some (.inl x4_1), none]) (st' := []) (M' := M1_4) rfl c_9 ?_
              refine Wp.path (k := 6) [] (C := [inR (640 * x1)]) (pc' := 97) (ls' := [some (.inr (.inr (10, 0))), some (.inl x1), some (.inl x2), some (.inl x3), some (.inl x4_1), none]) (st' := [.inl x2, .inl x1, .inr (.inr (10, 0)), .inl (640 * x1)]) (M' := M1_4) rfl h.1 ?_
              replace h := h.2
              refine Wp.call (e1035 h.1.1 h.1.2.1 h.1.2.2.1 h.1.2.2.2) rfl rfl (by decide) ?_
              replace h := h.2
              rintro v_ M_ ⟨eM_, ev_⟩
              rw [eM_, ev_]
              clear eM_ ev_ v_ M_
              show Wp 15 1071 100 [some (.inr (.inr (10, 0))), some (.inl x1), some (.inl x2), some (.inl x3), some (.inl x4_1), none] [.inl (stV (M1_4.1 1125 0) x1 x2), .inl (640 * x1)] M1_4 (rI Q)
              refine Wp.path (k := 2) [] (C := [inR ((640 * x1) + (stV (M1_4.1 1125 0) x1 x2))]) (pc' := 103) (ls' := [some (.inr (.inr (10, 0))), some (.inl x1), some (.inl x2), some (.inl x3), some (.inl x4_1), some (.inl ((640 * x1) + (stV (M1_4.1 1125 0) x1 x2)))]) (st' := []) (M' := M1_4) rfl h.1 ?_
              replace h := h.2
              refine Bd (P := fun x5_1 : Int => Wp 15 1071 103 [some (.inr (.inr (10, 0))), some (.inl x1), some (.inl x2), some (.inl x3), some (.inl x4_1), some (.inl x5_1)] [] M1_4 (rI Q)) ?_
              intro x5_1 e_x5_1
              replace h := h x5_1 e_x5_1
              refine Wp.path (k := 20) [] (C := [inR (2304 * x1), 0 ≤ x5_1 ∧ x5_1 < 7680, inR (48 * (M1_4.1 1128 0 x5_1.toNat)), inR ((2304 * x1) + (48 * (M1_4.1 1128 0 x5_1.toNat))), 0 ≤ x5_1 ∧ x5_1 < 7680, inR (((2304 * x1) + (48 * (M1_4.1 1128 0 x5_1.toNat))) + (M1_4.1 1127 0 x5_1.toNat)), inR ((((2304 * x1) + (48 * (M1_4.1 1128 0 x5_1.toNat))) + (M1_4.1 1127 0 x5_1.toNat)) - x4_1), 0 ≤ (((2304 * x1) + (48 * (M1_4.1 1128 0 x5_1.toNat))) + (M1_4.1 1127 0 x5_1.toNat)) - x4_1 ∧ (((2304 * x1) + (48 * (M1_4.1 1128 0 x5_1.toNat))) + (M1_4.1 1127 0 x5_1.toNat)) - x4_1 < 27648]) (pc' := 135) (ls' := [some (.inr (.inr (10, 0))), some (.inl x1), some (.inl x2), some (.inl x3), some (.inl x4_1), some (.inl x5_1)]) (st' := [.inl (M1_4.1 1119 0 (((((2304 * x1) + (48 * (M1_4.1 1128 0 x5_1.toNat))) + (M1_4.1 1127 0 x5_1.toNat)) - x4_1).toNat))]) (M' := M1_4) rfl ⟨h.1.1, h.1.2.1, h.1.2.2.1, h.1.2.2.2.1, h.1.2.1, h.1.2.2.2.2.1, h.1.2.2.2.2.2.1, h.1.2.2.2.2.2.2⟩ ?_
              replace h := h.2
              exact Wp.ret rfl ⟨_, rfl, h⟩
      · replace h := h.2 c_6
        refine Wp.path (k := 1) [0] (C := [M1_4.1 10 0 0 ≠ 0]) (pc' := 42) (ls' := [some (.inr (.inr (10, 0))), some (.inl x1), some (.inl x2), some (.inl x3), none, none]) (st' := []) (M' := M1_4) rfl c_6 ?_
        refine Wp.path (k := 1) [] (C := []) (pc' := 43) (ls' := [some (.inr (.inr (10, 0))), some (.inl x1), some (.inl x2), some (.inl x3), none, none]) (st' := [.inl 0]) (M' := M1_4) rfl trivial ?_
        exact Wp.ret rfl ⟨_, rfl, h⟩
    clear h
    rcases Decidable.em (inV x3 0 3 = 0) with c_11 | c_11
    · refine Wp.path (k := 1) [0] (C := [inV x3 0 3 = 0]) (pc' := 27) (ls' := [some (.inr (.inr (10, 0))), some (.inl x1), some (.inl x2), some (.inl x3), none, none]) (st' := [.inr (.inr (10, 0))]) (M' := M1_1) rfl c_11 ?_
      refine Wp.path (k := 2) [] (C := []) (pc' := 32) (ls' := [some (.inr (.inr (10, 0))), some (.inl x1), some (.inl x2), some (.inl x3), none, none]) (st' := [.inl 2, .inr (.inr (10, 0))]) (M' := M1_1) rfl trivial ?_
      exact k_10 _ (by rw [if_neg (not_not_intro c_11)])
    · refine Wp.path (k := 1) [1] (C := [inV x3 0 3 ≠ 0]) (pc' := 31) (ls' := [some (.inr (.inr (10, 0))), some (.inl x1), some (.inl x2), some (.inl x3), none, none]) (st' := [.inr (.inr (10, 0))]) (M' := M1_1) rfl c_11 ?_
      refine Wp.path (k := 1) [] (C := []) (pc' := 32) (ls' := [some (.inr (.inr (10, 0))), some (.inl x1), some (.inl x2), some (.inl x3), none, none]) (st' := [.inl 0, .inr (.inr (10, 0))]) (M' := M1_1) rfl trivial ?_
      exact k_10 _ (by rw [if_pos c_11])
/-- X10_vertex -/
def E_1072 (x1 : Int) (x2 : Int) (x3 : Int) (x4 : Int) (M : Mm) (Q : Int → Mm → Prop) : Prop := Ev 15 1072 [.inr (.inr (10, 0)), .inl x1, .inl x2, .inl x3, .inl x4] M (rI Q)
theorem m_1072 {x1 : Int} {x2 : Int} {x3 : Int} {x4 : Int} {M : Mm} {Q Q1 : Int → Mm → Prop} (h : E_1072 x1 x2 x3 x4 M Q) (k : (∀ r M1, Q r M1 → Q1 r M1)) : E_1072 x1 x2 x3 x4 M Q1 := Ev.mono h (fun v M1 ⟨r, h1, h2⟩ => ⟨r, h1, k _ _ h2⟩)
theorem s_1072_0 {x1 : Int} {x2 : Int} {x3 : Int} {x4 : Int} {M : Mm} {Q : Int → Mm → Prop} (h : (E_1050 M (fun M1 : Mm => (E_1070 x1 x2 M1 (fun (r : Int) (M1_1 : Mm) => ((r = 0 → (∀ M1_2 : Mm, M1_2 = setI M1_1 10 0 0 1 → ((M1_2.1 10 0 0 = 0 → (((-2147483648 ≤ 640 * x1 ∧ 640 * x1 ≤ 2147483647)) ∧ ((0 ≤ x1 ∧ x1 < 12 ∧ 0 ≤ x2 ∧ x2 ≤ 160) ∧ (((-2147483648 ≤ (640 * x1) + (stV (M1_2.1 1125 0) x1 x2) ∧ (640 * x1) + (stV (M1_2.1 1125 0) x1 x2) ≤ 2147483647) ∧ (-2147483648 ≤ ((640 * x1) + (stV (M1_2.1 1125 0) x1 x2)) + x3 ∧ ((640 * x1) + (stV (M1_2.1 1125 0) x1 x2)) + x3 ≤ 2147483647)) ∧ (∀ x5 : Int, x5 = ((640 * x1) + (stV (M1_2.1 1125 0) x1 x2)) + x3 → ((x4 ≠ 0 → ((0 ≤ x5 ∧ x5 < 7680))) ∧ (x4 = 0 → ((0 ≤ x5 ∧ x5 < 7680))) ∧ (∀ b : Int, b = (if x4 ≠ 0 then (M1_2.1 1128 0 x5.toNat) else (M1_2.1 1127 0 x5.toNat)) → (Q b M1_2)))))))) ∧ (M1_2.1 10 0 0 ≠ 0 → (Q 0 M1_2))))) ∧ (r ≠ 0 → ((0 ≤ x1 ∧ x1 < 12 ∧ 0 ≤ x2 ∧ x2 < 160 ∧ inR (szV (M1_1.1 1125 0) x1 x2)) ∧ (((-2147483648 ≤ (szV (M1_1.1 1125 0) x1 x2) - 1 ∧ (szV (M1_1.1 1125 0) x1 x2) - 1 ≤ 2147483647)) ∧ ((inV x3 0 ((szV (M1_1.1 1125 0) x1 x2) - 1) ≠ 0 → (∀ b_2 : Int, b_2 = (if inV x4 0 1 ≠ 0 then 0 else 2) → (∀ M1_4 : Mm, M1_4 = setI M1_1 10 0 0 b_2 → ((M1_4.1 10 0 0 = 0 → (((-2147483648 ≤ 640 * x1 ∧ 640 * x1 ≤ 2147483647)) ∧ ((0 ≤ x1 ∧ x1 < 12 ∧ 0 ≤ x2 ∧ x2 ≤ 160) ∧ (((-2147483648 ≤ (640 * x1) + (stV (M1_4.1 1125 0) x1 x2) ∧ (640 * x1) + (stV (M1_4.1 1125 0) x1 x2) ≤ 2147483647) ∧ (-2147483648 ≤ ((640 * x1) + (stV (M1_4.1 1125 0) x1 x2)) + x3 ∧ ((640 * x1) + (stV (M1_4.1 1125 0) x1 x2)) + x3 ≤ 2147483647)) ∧ (∀ x5_2 : Int, x5_2 = ((640 * x1) + (stV (M1_4.1 1125 0) x1 x2)) + x3 → ((x4 ≠ 0 → ((0 ≤ x5_2 ∧ x5_2 < 7680))) ∧ (x4 = 0 → ((0 ≤ x5_2 ∧ x5_2 < 7680))) ∧ (∀ b_3 : Int, b_3 = (if x4 ≠ 0 then (M1_4.1 1128 0 x5_2.toNat) else (M1_4.1 1127 0 x5_2.toNat)) → (Q b_3 M1_4)))))))) ∧ (M1_4.1 10 0 0 ≠ 0 → (Q 0 M1_4)))))) ∧ (inV x3 0 ((szV (M1_1.1 1125 0) x1 x2) - 1) = 0 → (∀ M1_3 : Mm, M1_3 = setI M1_1 10 0 0 1 → ((M1_3.1 10 0 0 = 0 → (((-2147483648 ≤ 640 * x1 ∧ 640 * x1 ≤ 2147483647)) ∧ ((0 ≤ x1 ∧ x1 < 12 ∧ 0 ≤ x2 ∧ x2 ≤ 160) ∧ (((-2147483648 ≤ (640 * x1) + (stV (M1_3.1 1125 0) x1 x2) ∧ (640 * x1) + (stV (M1_3.1 1125 0) x1 x2) ≤ 2147483647) ∧ (-2147483648 ≤ ((640 * x1) + (stV (M1_3.1 1125 0) x1 x2)) + x3 ∧ ((640 * x1) + (stV (M1_3.1 1125 0) x1 x2)) + x3 ≤ 2147483647)) ∧ (∀ x5_1 : Int, x5_1 = ((640 * x1) + (stV (M1_3.1 1125 0) x1 x2)) + x3 → ((x4 ≠ 0 → ((0 ≤ x5_1 ∧ x5_1 < 7680))) ∧ (x4 = 0 → ((0 ≤ x5_1 ∧ x5_1 < 7680))) ∧ (∀ b_1 : Int, b_1 = (if x4 ≠ 0 then (M1_3.1 1128 0 x5_1.toNat) else (M1_3.1 1127 0 x5_1.toNat)) → (Q b_1 M1_3)))))))) ∧ (M1_3.1 10 0 0 ≠ 0 → (Q 0 M1_3))))))))))))))) : E_1072 x1 x2 x3 x4 M Q := by
  show Wp 15 1072 0 [some (.inr (.inr (10, 0))), some (.inl x1), some (.inl x2), some (.inl x3), some (.inl x4), none] [] M (rI Q)
  refine Wp.path (k := 1) [] (C := []) (pc' := 1) (ls' := [some (.inr (.inr (10, 0))), some (.inl x1), some (.inl x2), some (.inl x3), some (.inl x4), none]) (st' := [.inr (.inr (10, 0))]) (M' := M) rfl trivial ?_
  refine Wp.call h rfl rfl (by decide) ?_
  rintro _ M1 ⟨rfl, h⟩
  show Wp 15 1072 4 [some (.inr (.inr (10, 0))), some (.inl x1), some (.inl x2), some (.inl x3), some (.inl x4), none] [] M1 (rI Q)
  refine Wp.path (k := 4) [] (C := []) (pc' := 8) (ls' := [some (.inr (.inr (10, 0))), some (.inl x1), some (.inl x2), some (.inl x3), some (.inl x4), none]) (st' := [.inl x2, .inl x1, .inr (.inr (10, 0)), .inr (.inr (10, 0))]) (M' := M1) rfl trivial ?_
  refine Wp.call h rfl rfl (by decide) ?_
  rintro _ M1_1 ⟨r, rfl, h⟩
  show Wp 15 1072 11 [some (.inr (.inr (10, 0))), some (.inl x1), some (.inl x2), some (.inl x3), some (.inl x4), none] [.inl r, .inr (.inr (10, 0))] M1_1 (rI Q)
  rcases Decidable.em (r = 0) with c_1 | c_1
  · replace h := h.1 c_1
    refine Wp.path (k := 1) [1] (C := [r = 0]) (pc' := 30) (ls' := [some (.inr (.inr (10, 0))), some (.inl x1), some (.inl x2), some (.inl x3), some (.inl x4), none]) (st' := [.inr (.inr (10, 0))]) (M' := M1_1) rfl c_1 ?_
    refine Wp.path (k := 3) [] (C := []) (pc' := 52) (ls' := [some (.inr (.inr (10, 0))), some (.inl x1), some (.inl x2), some (.inl x3), some (.inl x4), none]) (st' := []) (M' := setI M1_1 10 0 0 1) rfl trivial ?_
    refine Bd (P := fun M1_2 : Mm => Wp 15 1072 52 [some (.inr (.inr (10, 0))), some (.inl x1), some (.inl x2), some (.inl x3), some (.inl x4), none] [] M1_2 (rI Q)) ?_
    intro M1_2 e_M1_2
    replace h := h M1_2 e_M1_2
    refine Wp.path (k := 2) [] (C := []) (pc' := 56) (ls' := [some (.inr (.inr (10, 0))), some (.inl x1), some (.inl x2), some (.inl x3), some (.inl x4), none]) (st' := [.inl (M1_2.1 10 0 0)]) (M' := M1_2) rfl trivial ?_
    rcases Decidable.em (M1_2.1 10 0 0 = 0) with c_2 | c_2
    · replace h := h.1 c_2
      refine Wp.path (k := 1) [1] (C := [M1_2.1 10 0 0 = 0]) (pc' := 61) (ls' := [some (.inr (.inr (10, 0))), some (.inl x1), some (.inl x2), some (.inl x3), some (.inl x4), none]) (st' := []) (M' := M1_2) rfl c_2 ?_
      refine Wp.path (k := 6) [] (C := [inR (640 * x1)]) (pc' := 69) (ls' := [some (.inr (.inr (10, 0))), some (.inl x1), some (.inl x2), some (.inl x3), some (.inl x4), none]) (st' := [.inl x2, .inl x1, .inr (.inr (10, 0)), .inl (640 * x1)]) (M' := M1_2) rfl h.1 ?_
      replace h := h.2
      refine Wp.call (e1035 h.1.1 h.1.2.1 h.1.2.2.1 h.1.2.2.2) rfl rfl (by decide) ?_
      replace h := h.2
      rintro v_ M_ ⟨eM_, ev_⟩
      rw [eM_, ev_]
      clear eM_ ev_ v_ M_
      show Wp 15 1072 72 [some (.inr (.inr (10, 0))), some (.inl x1), some (.inl x2), some (.inl x3), some (.inl x4), none] [.inl (stV (M1_2.1 1125 0) x1 x2), .inl (640 * x1)] M1_2 (rI Q)
      refine Wp.path (k := 4) [] (C := [inR ((640 * x1) + (stV (M1_2.1 1125 0) x1 x2)), inR (((640 * x1) + (stV (M1_2.1 1125 0) x1 x2)) + x3)]) (pc' := 77) (ls' := [some (.inr (.inr (10, 0))), some (.inl x1), some (.inl x2), some (.inl x3), some (.inl x4), some (.inl (((640 * x1) + (stV (M1_2.1 1125 0) x1 x2)) + x3))]) (st' := []) (M' := M1_2) rfl ⟨h.1.1, h.1.2⟩ ?_
      replace h := h.2
      refine Bd (P := fun x5 : Int => Wp 15 1072 77 [some (.inr (.inr (10, 0))), some (.inl x1), some (.inl x2), some (.inl x3), some (.inl x4), some (.inl x5)] [] M1_2 (rI Q)) ?_
      intro x5 e_x5
      replace h := h x5 e_x5
      refine Wp.path (k := 1) [] (C := []) (pc' := 79) (ls' := [some (.inr (.inr (10, 0))), some (.inl x1), some (.inl x2), some (.inl x3), some (.inl x4), some (.inl x5)]) (st' := [.inl x4]) (M' := M1_2) rfl trivial ?_
      have g3_0 := h.1
      replace h := h.2
      have g3_1 := h.1
      replace h := h.2
      have k_3 : ∀ b : Int, b = (if x4 ≠ 0 then (M1_2.1 1128 0 x5.toNat) else (M1_2.1 1127 0 x5.toNat)) → Wp 15 1072 99 [some (.inr (.inr (10, 0))), some (.inl x1), some (.inl x2), some (.inl x3), some (.inl x4), some (.inl x5)] [.inl b] M1_2 (rI Q) := by
        intro b e_b
        replace h := h b e_b
        exact Wp.ret rfl ⟨_, rfl, h⟩
      clear h
      rcases Decidable.em (x4 = 0) with c_4 | c_4
      · refine Wp.path (k := 1) [0] (C := [x4 = 0]) (pc' := 82) (ls' := [some (.inr (.inr (10, 0))), some (.inl x1), some (.inl x2), some (.inl x3), some (.inl x4), some (.inl x5)]) (st' := []) (M' := M1_2) rfl c_4 ?_
        refine Wp.path (k := 5) [] (C := [0 ≤ x5 ∧ x5 < 7680]) (pc' := 99) (ls' := [some (.inr (.inr (10, 0))), some (.inl x1), some (.inl x2), some (.inl x3), some (.inl x4), some (.inl x5)]) (st' := [.inl (M1_2.1 1127 0 x5.toNat)]) (M' := M1_2) rfl (g3_1 c_4) ?_
        exact k_3 _ (by rw [if_neg (not_not_intro c_4)])
      · refine Wp.path (k := 1) [1] (C := [x4 ≠ 0]) (pc' := 92) (ls' := [some (.inr (.inr (10, 0))), some (.inl x1), some (.inl x2), some (.inl x3), some (.inl x4), some (.inl x5)]) (st' := []) (M' := M1_2) rfl c_4 ?_
        refine Wp.path (k := 4) [] (C := [0 ≤ x5 ∧ x5 < 7680]) (pc' := 99) (ls' := [some (.inr (.inr (10, 0))), some (.inl x1), some (.inl x2), some (.inl x3), some (.inl x4), some (.inl x5)]) (st' := [.inl (M1_2.1 1128 0 x5.toNat)]) (M' := M1_2) rfl (g3_0 c_4) ?_
        exact k_3 _ (by rw [if_pos c_4])
    · replace h := h.2 c_2
      refine Wp.path (k := 1) [0] (C := [M1_2.1 10 0 0 ≠ 0]) (pc' := 59) (ls' := [some (.inr (.inr (10, 0))), some (.inl x1), some (.inl x2), some (.inl x3), some (.inl x4), none]) (st' := []) (M' := M1_2) rfl c_2 ?_
      refine Wp.path (k := 1) [] (C := []) (pc' := 60) (ls' := [some (.inr (.inr (10, 0))), some (.inl x1), some (.inl x2), some (.inl x3), some (.inl x4), none]) (st' := [.inl 0]) (M' := M1_2) rfl trivial ?_
      exact Wp.ret rfl ⟨_, rfl, h⟩
  · replace h := h.2 c_1
    refine Wp.path (k := 1) [0] (C := [r ≠ 0]) (pc' := 14) (ls' := [some (.inr (.inr (10, 0))), some (.inl x1), some (.inl x2), some (.inl x3), some (.inl x4), none]) (st' := [.inr (.inr (10, 0))]) (M' := M1_1) rfl c_1 ?_
    refine Wp.path (k := 5) [] (C := []) (pc' := 19) (ls' := [some (.inr (.inr (10, 0))), some (.inl x1), some (.inl x2), some (.inl x3), some (.inl x4), none]) (st' := [.inl x2, .inl x1, .inr (.inr (10, 0)), .inl 0, .inl x3, .inr (.inr (10, 0))]) (M' := M1_1) rfl trivial ?_
    refine Wp.call (e1036 h.1.1 h.1.2.1 h.1.2.2.1 h.1.2.2.2.1 h.1.2.2.2.2) rfl rfl (by decide) ?_
    replace h := h.2
    rintro v_ M_ ⟨eM_, ev_⟩
    rw [eM_, ev_]
    clear eM_ ev_ v_ M_
    show Wp 15 1072 22 [some (.inr (.inr (10, 0))), some (.inl x1), some (.inl x2), some (.inl x3), some (.inl x4), none] [.inl (szV (M1_1.1 1125 0) x1 x2), .inl 0, .inl x3, .inr (.inr (10, 0))] M1_1 (rI Q)
    refine Wp.path (k := 2) [] (C := [inR ((szV (M1_1.1 1125 0) x1 x2) - 1)]) (pc' := 24) (ls' := [some (.inr (.inr (10, 0))), some (.inl x1), some (.inl x2), some (.inl x3), some (.inl x4), none]) (st' := [.inl ((szV (M1_1.1 1125 0) x1 x2) - 1), .inl 0, .inl x3, .inr (.inr (10, 0))]) (M' := M1_1) rfl h.1 ?_
    replace h := h.2
    refine Wp.call (e1002) rfl rfl (by decide) ?_
    rintro v_ M_ ⟨eM_, ev_⟩
    rw [eM_, ev_]
    clear eM_ ev_ v_ M_
    show Wp 15 1072 27 [some (.inr (.inr (10, 0))), some (.inl x1), some (.inl x2), some (.inl x3), some (.inl x4), none] [.inl (inV x3 0 ((szV (M1_1.1 1125 0) x1 x2) - 1)), .inr (.inr (10, 0))] M1_1 (rI Q)
    rcases Decidable.em (inV x3 0 ((szV (M1_1.1 1125 0) x1 x2) - 1) = 0) with c_5 | c_5
    · replace h := h.2 c_5
      refine Wp.path (k := 1) [0] (C := [inV x3 0 ((szV (M1_1.1 1125 0) x1 x2) - 1) = 0]) (pc' := 30) (ls' := [some (.inr (.inr (10, 0))), some (.inl x1), some (.inl x2), some (.inl x3), some (.inl x4), none]) (st' := [.inr (.inr (10, 0))]) (M' := M1_1) rfl c_5 ?_
      refine Wp.path (k := 3) [] (C := []) (pc' := 52) (ls' := [some (.inr (.inr (10, 0))), some (.inl x1), some (.inl x2), some (.inl x3), some (.inl x4), none]) (st' := []) (M' := setI M1_1 10 0 0 1) rfl trivial ?_
      refine Bd (P := fun M1_3 : Mm => Wp 15 1072 52 [some (.inr (.inr (10, 0))), some (.inl x1), some (.inl x2), some (.inl x3), some (.inl x4), none] [] M1_3 (rI Q)) ?_
      intro M1_3 e_M1_3
      replace h := h M1_3 e_M1_3
      refine Wp.path (k := 2) [] (C := []) (pc' := 56) (ls' := [some (.inr (.inr (10, 0))), some (.inl x1), some (.inl x2), some (.inl x3), some (.inl x4), none]) (st' := [.inl (M1_3.1 10 0 0)]) (M' := M1_3) rfl trivial ?_
      rcases Decidable.em (M1_3.1 10 0 0 = 0) with c_6 | c_6
      · replace h := h.1 c_6
        refine Wp.path (k := 1) [1] (C := [M1_3.1 10 0 0 = 0]) (pc' := 61) (ls' := [some (.inr (.inr (10, 0))), some (.inl x1), some (.inl x2), some (.inl x3), some (.inl x4), none]) (st' := []) (M' := M1_3) rfl c_6 ?_
        refine Wp.path (k := 6) [] (C := [inR (640 * x1)]) (pc' := 69) (ls' := [some (.inr (.inr (10, 0))), some (.inl x1), some (.inl x2), some (.inl x3), some (.inl x4), none]) (st' := [.inl x2, .inl x1, .inr (.inr (10, 0)), .inl (640 * x1)]) (M' := M1_3) rfl h.1 ?_
        replace h := h.2
        refine Wp.call (e1035 h.1.1 h.1.2.1 h.1.2.2.1 h.1.2.2.2) rfl rfl (by decide) ?_
        replace h := h.2
        rintro v_ M_ ⟨eM_, ev_⟩
        rw [eM_, ev_]
        clear eM_ ev_ v_ M_
        show Wp 15 1072 72 [some (.inr (.inr (10, 0))), some (.inl x1), some (.inl x2), some (.inl x3), some (.inl x4), none] [.inl (stV (M1_3.1 1125 0) x1 x2), .inl (640 * x1)] M1_3 (rI Q)
        refine Wp.path (k := 4) [] (C := [inR ((640 * x1) + (stV (M1_3.1 1125 0) x1 x2)), inR (((640 * x1) + (stV (M1_3.1 1125 0) x1 x2)) + x3)]) (pc' := 77) (ls' := [some (.inr (.inr (10, 0))), some (.inl x1), some (.inl x2), some (.inl x3), some (.inl x4), some (.inl (((640 * x1) + (stV (M1_3.1 1125 0) x1 x2)) + x3))]) (st' := []) (M' := M1_3) rfl ⟨h.1.1, h.1.2⟩ ?_
        replace h := h.2
        refine Bd (P := fun x5_1 : Int => Wp 15 1072 77 [some (.inr (.inr (10, 0))), some (.inl x1), some (.inl x2), some (.inl x3), some (.inl x4), some (.inl x5_1)] [] M1_3 (rI Q)) ?_
        intro x5_1 e_x5_1
        replace h := h x5_1 e_x5_1
        refine Wp.path (k := 1) [] (C := []) (pc' := 79) (ls' := [some (.inr (.inr (10, 0))), some (.inl x1), some (.inl x2), some (.inl x3), some (.inl x4), some (.inl x5_1)]) (st' := [.inl x4]) (M' := M1_3) rfl trivial ?_
        have g7_0 := h.1
        replace h := h.2
        have g7_1 := h.1
        replace h := h.2
        have k_7 : ∀ b_1 : Int, b_1 = (if x4 ≠ 0 then (M1_3.1 1128 0 x5_1.toNat) else (M1_3.1 1127 0 x5_1.toNat)) → Wp 15 1072 99 [some (.inr (.inr (10, 0))), some (.inl x1), some (.inl x2), some (.inl x3), some (.inl x4), some (.inl x5_1)] [.inl b_1] M1_3 (rI Q) := by
          intro b_1 e_b_1
          replace h := h b_1 e_b_1
          exact Wp.ret rfl ⟨_, rfl, h⟩
        clear h
        rcases Decidable.em (x4 = 0) with c_8 | c_8
        · refine Wp.path (k := 1) [0] (C := [x4 = 0]) (pc' := 82) (ls' := [some (.inr (.inr (10, 0))), some (.inl x1), some (.inl x2), some (.inl x3), some (.inl x4), some (.inl x5_1)]) (st' := []) (M' := M1_3) rfl c_8 ?_
          refine Wp.path (k := 5) [] (C := [0 ≤ x5_1 ∧ x5_1 < 7680]) (pc' := 99) (ls' := [some (.inr (.inr (10, 0))), some (.inl x1), some (.inl x2), some (.inl x3), some (.inl x4), some (.inl x5_1)]) (st' := [.inl (M1_3.1 1127 0 x5_1.toNat)]) (M' := M1_3) rfl (g7_1 c_8) ?_
          exact k_7 _ (by rw [if_neg (not_not_intro c_8)])
        · refine Wp.path (k := 1) [1] (C := [x4 ≠ 0]) (pc' := 92) (ls' := [some (.inr (.inr (10, 0))), some (.inl x1), some (.inl x2), some (.inl x3), some (.inl x4), some (.inl x5_1)]) (st' := []) (M' := M1_3) rfl c_8 ?_
          refine Wp.path (k := 4) [] (C := [0 ≤ x5_1 ∧ x5_1 < 7680]) (pc' := 99) (ls' := [some (.inr (.inr (10, 0))), some (.inl x1), some (.inl x2), some (.inl x3), some (.inl x4), some (.inl x5_1)]) (st' := [.inl (M1_3.1 1128 0 x5_1.toNat)]) (M' := M1_3) rfl (g7_0 c_8) ?_
          exact k_7 _ (by rw [if_pos c_8])
      · replace h := h.2 c_6
        refine Wp.path (k := 1) [0] (C := [M1_3.1 10 0 0 ≠ 0]) (pc' := 59) (ls' := [some (.inr (.inr (10, 0))), some (.inl x1), some (.inl x2), some (.inl x3), some (.inl x4), none]) (st' := []) (M' := M1_3) rfl c_6 ?_
        refine Wp.path (k := 1) [] (C := []) (pc' := 60) (ls' := [some (.inr (.inr (10, 0))), some (.inl x1), some (.inl x2), some (.inl x3), some (.inl x4), none]) (st' := [.inl 0]) (M' := M1_3) rfl trivial ?_
        exact Wp.ret rfl ⟨_, rfl, h⟩
    · replace h := h.1 c_5
      refine Wp.path (k := 1) [1] (C := [inV x3 0 ((szV (M1_1.1 1125 0) x1 x2) - 1) ≠ 0]) (pc' := 34) (ls' := [some (.inr (.inr (10, 0))), some (.inl x1), some (.inl x2), some (.inl x3), some (.inl x4), none]) (st' := [.inr (.inr (10, 0))]) (M' := M1_1) rfl c_5 ?_
      refine Wp.path (k := 3) [] (C := []) (pc' := 38) (ls' := [some (.inr (.inr (10, 0))), some (.inl x1), some (.inl x2), some (.inl x3), some (.inl x4), none]) (st' := [.inl 1, .inl 0, .inl x4, .inr (.inr (10, 0))]) (M' := M1_1) rfl trivial ?_
      refine Wp.call (e1002) rfl rfl (by decide) ?_
      rintro v_ M_ ⟨eM_, ev_⟩
      rw [eM_, ev_]
      clear eM_ ev_ v_ M_
      show Wp 15 1072 41 [some (.inr (.inr (10, 0))), some (.inl x1), some (.inl x2), some (.inl x3), some (.inl x4), none] [.inl (inV x4 0 1), .inr (.inr (10, 0))] M1_1 (rI Q)
      have k_12 : ∀ b_2 : Int, b_2 = (if inV x4 0 1 ≠ 0 then 0 else 2) → Wp 15 1072 49 [some (.inr (.inr (10, 0))), some (.inl x1), some (.inl x2), some (.inl x3), some (.inl x4), none] [.inl b_2, .inr (.inr (10, 0))] M1_1 (rI Q) := by
        intro b_2 e_b_2
        replace h := h b_2 e_b_2
        refine Wp.path (k := 1) [] (C := []) (pc' := 52) (ls' := [some (.inr (.inr (10, 0))), some (.inl x1), some (.inl x2), some (.inl x3), some (.inl x4), none]) (st' := []) (M' := setI M1_1 10 0 0 b_2) rfl trivial ?_
        refine Bd (P := fun M1_4 : Mm => Wp 15 1072 52 [some (.inr (.inr (10, 0))), some (.inl x1), some (.inl x2), some (.inl x3), some (.inl x4), none] [] M1_4 (rI Q)) ?_
        intro M1_4 e_M1_4
        replace h := h M1_4 e_M1_4
        refine Wp.path (k := 2) [] (C := []) (pc' := 56) (ls' := [some (.inr (.inr (10, 0))), some (.inl x1), some (.inl x2), some (.inl x3), some (.inl x4), none]) (st' := [.inl (M1_4.1 10 0 0)]) (M' := M1_4) rfl trivial ?_
        rcases Decidable.em (M1_4.1 10 0 0 = 0) with c_9 | c_9
        · replace h := h.1 c_9
          refine Wp.path (k := 1) [1] (C := [M1_4.1 10 0 0 = 0]) (pc' := 61) (ls' := [some (.inr (.inr (10, 0))), some (.inl x1), some (.inl x2), some (.inl x3), some (.inl x4), none]) (st' := []) (M' := M1_4) rfl c_9 ?_
          refine Wp.path (k := 6) [] (C := [inR (640 * x1)]) (pc' := 69) (ls' := [some (.inr (.inr (10, 0))), some (.inl x1), some (.inl x2), some (.inl x3), some (.inl x4), none]) (st' := [.inl x2, .inl x1, .inr (.inr (10, 0)), .inl (640 * x1)]) (M' := M1_4) rfl h.1 ?_
          replace h := h.2
          refine Wp.call (e1035 h.1.1 h.1.2.1 h.1.2.2.1 h.1.2.2.2) rfl rfl (by decide) ?_
          replace h := h.2
          rintro v_ M_ ⟨eM_, ev_⟩
          rw [eM_, ev_]
          clear eM_ ev_ v_ M_
          show Wp 15 1072 72 [some (.inr (.inr (10, 0))), some (.inl x1), some (.inl x2), some (.inl x3), some (.inl x4), none] [.inl (stV (M1_4.1 1125 0) x1 x2), .inl (640 * x1)] M1_4 (rI Q)
          refine Wp.path (k := 4) [] (C := [inR ((640 * x1) + (stV (M1_4.1 1125 0) x1 x2)), inR (((640 * x1) + (stV (M1_4.1 1125 0) x1 x2)) + x3)]) (pc' := 77) (ls' := [some (.inr (.inr (10, 0))), some (.inl x1), some (.inl x2), some (.inl x3), some (.inl x4), some (.inl (((640 * x1) + (stV (M1_4.1 1125 0) x1 x2)) + x3))]) (st' := []) (M' := M1_4) rfl ⟨h.1.1, h.1.2⟩ ?_
          replace h := h.2
          refine Bd (P := fun x5_2 : Int => Wp 15 1072 77 [some (.inr (.inr (10, 0))), some (.inl x1), some (.inl x2), some (.inl x3), some (.inl x4), some (.inl x5_2)] [] M1_4 (rI Q)) ?_
          intro x5_2 e_x5_2
          replace h := h x5_2 e_x5_2
          refine Wp.path (k := 1) [] (C := []) (pc' := 79) (ls' := [some (.inr (.inr (10, 0))), some (.inl x1), some (.inl x2), some (.inl x3), some (.inl x4), some (.inl x5_2)]) (st' := [.inl x4]) (M' := M1_4) rfl trivial ?_
          have g10_0 := h.1
          replace h := h.2
          have g10_1 := h.1
          replace h := h.2
          have k_10 : ∀ b_3 : Int, b_3 = (if x4 ≠ 0 then (M1_4.1 1128 0 x5_2.toNat) else (M1_4.1 1127 0 x5_2.toNat)) → Wp 15 1072 99 [some (.inr (.inr (10, 0))), some (.inl x1), some (.inl x2), some (.inl x3), some (.inl x4), some (.inl x5_2)] [.inl b_3] M1_4 (rI Q) := by
            intro b_3 e_b_3
            replace h := h b_3 e_b_3
            exact Wp.ret rfl ⟨_, rfl, h⟩
          clear h
          rcases Decidable.em (x4 = 0) with c_11 | c_11
          · refine Wp.path (k := 1) [0] (C := [x4 = 0]) (pc' := 82) (ls' := [some (.inr (.inr (10, 0))), some (.inl x1), some (.inl x2), some (.inl x3), some (.inl x4), some (.inl x5_2)]) (st' := []) (M' := M1_4) rfl c_11 ?_
            refine Wp.path (k := 5) [] (C := [0 ≤ x5_2 ∧ x5_2 < 7680]) (pc' := 99) (ls' := [some (.inr (.inr (10, 0))), some (.inl x1), some (.inl x2), some (.inl x3), some (.inl x4), some (.inl x5_2)]) (st' := [.inl (M1_4.1 1127 0 x5_2.toNat)]) (M' := M1_4) rfl (g10_1 c_11) ?_
            exact k_10 _ (by rw [if_neg (not_not_intro c_11)])
          · refine Wp.path (k := 1) [1] (C := [x4 ≠ 0]) (pc' := 92) (ls' := [some (.inr (.inr (10, 0))), some (.inl x1), some (.inl x2), some (.inl x3), some (.inl x4), some (.inl x5_2)]) (st' := []) (M' := M1_4) rfl c_11 ?_
            refine Wp.path (k := 4) [] (C := [0 ≤ x5_2 ∧ x5_2 < 7680]) (pc' := 99) (ls' := [some (.inr (.inr (10, 0))), some (.inl x1), some (.inl x2), some (.inl x3), some (.inl x4), some (.inl x5_2)]) (st' := [.inl (M1_4.1 1128 0 x5_2.toNat)]) (M' := M1_4) rfl (g10_0 c_11) ?_
            exact k_10 _ (by rw [if_pos c_11])
        · replace h := h.2 c_9
          refine Wp.path (k := 1) [0] (C := [M1_4.1 10 0 0 ≠ 0]) (pc' := 59) (ls' := [some (.inr (.inr (10, 0))), some (.inl x1), some (.inl x2), some (.inl x3), some (.inl x4), none]) (st' := []) (M' := M1_4) rfl c_9 ?_
          refine Wp.path (k := 1) [] (C := []) (pc' := 60) (ls' := [some (.inr (.inr (10, 0))), some (.inl x1), some (.inl x2), some (.inl x3), some (.inl x4), none]) (st' := [.inl 0]) (M' := M1_4) rfl trivial ?_
          exact Wp.ret rfl ⟨_, rfl, h⟩
      clear h
      rcases Decidable.em (inV x4 0 1 = 0) with c_13 | c_13
      · refine Wp.path (k := 1) [0] (C := [inV x4 0 1 = 0]) (pc' := 44) (ls' := [some (.inr (.inr (10, 0))), some (.inl x1), some (.inl x2), some (.inl x3), some (.inl x4), none]) (st' := [.inr (.inr (10, 0))]) (M' := M1_1) rfl c_13 ?_
        refine Wp.path (k := 2) [] (C := []) (pc' := 49) (ls' := [some (.inr (.inr (10, 0))), some (.inl x1), some (.inl x2), some (.inl x3), some (.inl x4), none]) (st' := [.inl 2, .inr (.inr (10, 0))]) (M' := M1_1) rfl trivial ?_
        exact k_12 _ (by rw [if_neg (not_not_intro c_13)])
      · refine Wp.path (k := 1) [1] (C := [inV x4 0 1 ≠ 0]) (pc' := 48) (ls' := [some (.inr (.inr (10, 0))), some (.inl x1), some (.inl x2), some (.inl x3), some (.inl x4), none]) (st' := [.inr (.inr (10, 0))]) (M' := M1_1) rfl c_13 ?_
        refine Wp.path (k := 1) [] (C := []) (pc' := 49) (ls' := [some (.inr (.inr (10, 0))), some (.inl x1), some (.inl x2), some (.inl x3), some (.inl x4), none]) (st' := [.inl 0, .inr (.inr (10, 0))]) (M' := M1_1) rfl trivial ?_
        exact k_12 _ (by rw [if_pos c_13])
/-- X10_origin -/
def E_1073 (x1 : Int) (x2 : Int) (x3 : Int) (x4 : Int) (M : Mm) (Q : Int → Mm → Prop) : Prop := Ev 15 1073 [.inr (.inr (10, 0)), .inl x1, .inl x2, .inl x3, .inl x4] M (rI Q)
theorem m_1073 {x1 : Int} {x2 : Int} {x3 : Int} {x4 : Int} {M : Mm} {Q Q1 : Int → Mm → Prop} (h : E_1073 x1 x2 x3 x4 M Q) (k : (∀ r M1, Q r M1 → Q1 r M1)) : E_1073 x1 x2 x3 x4 M Q1 := Ev.mono h (fun v M1 ⟨r, h1, h2⟩ => ⟨r, h1, k _ _ h2⟩)
theorem s_1073_0 {x1 : Int} {x2 : Int} {x3 : Int} {x4 : Int} {M : Mm} {Q : Int → Mm → Prop} (h : (E_1050 M (fun M1 : Mm => (E_1070 x1 x2 M1 (fun (r : Int) (M1_1 : Mm) => ((r = 0 → (∀ M1_2 : Mm, M1_2 = setI M1_1 10 0 0 1 → ((M1_2.1 10 0 0 = 0 → (E_1046 x1 x2 x3 M1_2 (fun M1_3 : Mm => (∀ b : Int, b = (if x4 ≠ 0 then (if x4 ≠ 1 then (M1_3.1 10 0 43) else (M1_3.1 10 0 42)) else (M1_3.1 10 0 41)) → (Q b M1_3))))) ∧ (M1_2.1 10 0 0 ≠ 0 → (Q 0 M1_2))))) ∧ (r ≠ 0 → ((0 ≤ x1 ∧ x1 < 12 ∧ 0 ≤ x2 ∧ x2 < 160 ∧ inR (szV (M1_1.1 1125 0) x1 x2)) ∧ (((-2147483648 ≤ (szV (M1_1.1 1125 0) x1 x2) - 1 ∧ (szV (M1_1.1 1125 0) x1 x2) - 1 ≤ 2147483647)) ∧ ((inV x3 0 ((szV (M1_1.1 1125 0) x1 x2) - 1) ≠ 0 → (∀ b_2 : Int, b_2 = (if inV x4 0 2 ≠ 0 then 0 else 2) → (∀ M1_6 : Mm, M1_6 = setI M1_1 10 0 0 b_2 → ((M1_6.1 10 0 0 = 0 → (E_1046 x1 x2 x3 M1_6 (fun M1_7 : Mm => (∀ b_3 : Int, b_3 = (if x4 ≠ 0 then (if x4 ≠ 1 then (M1_7.1 10 0 43) else (M1_7.1 10 0 42)) else (M1_7.1 10 0 41)) → (Q b_3 M1_7))))) ∧ (M1_6.1 10 0 0 ≠ 0 → (Q 0 M1_6)))))) ∧ (inV x3 0 ((szV (M1_1.1 1125 0) x1 x2) - 1) = 0 → (∀ M1_4 : Mm, M1_4 = setI M1_1 10 0 0 1 → ((M1_4.1 10 0 0 = 0 → (E_1046 x1 x2 x3 M1_4 (fun M1_5 : Mm => (∀ b_1 : Int, b_1 = (if x4 ≠ 0 then (if x4 ≠ 1 then (M1_5.1 10 0 43) else (M1_5.1 10 0 42)) else (M1_5.1 10 0 41)) → (Q b_1 M1_5))))) ∧ (M1_4.1 10 0 0 ≠ 0 → (Q 0 M1_4))))))))))))))) : E_1073 x1 x2 x3 x4 M Q := by
  show Wp 15 1073 0 [some (.inr (.inr (10, 0))), some (.inl x1), some (.inl x2), some (.inl x3), some (.inl x4)] [] M (rI Q)
  refine Wp.path (k := 1) [] (C := []) (pc' := 1) (ls' := [some (.inr (.inr (10, 0))), some (.inl x1), some (.inl x2), some (.inl x3), some (.inl x4)]) (st' := [.inr (.inr (10, 0))]) (M' := M) rfl trivial ?_
  refine Wp.call h rfl rfl (by decide) ?_
  rintro _ M1 ⟨rfl, h⟩
  show Wp 15 1073 4 [some (.inr (.inr (10, 0))), some (.inl x1), some (.inl x2), some (.inl x3), some (.inl x4)] [] M1 (rI Q)
  refine Wp.path (k := 4) [] (C := []) (pc' := 8) (ls' := [some (.inr (.inr (10, 0))), some (.inl x1), some (.inl x2), some (.inl x3), some (.inl x4)]) (st' := [.inl x2, .inl x1, .inr (.inr (10, 0)), .inr (.inr (10, 0))]) (M' := M1) rfl trivial ?_
  refine Wp.call h rfl rfl (by decide) ?_
  rintro _ M1_1 ⟨r, rfl, h⟩
  show Wp 15 1073 11 [some (.inr (.inr (10, 0))), some (.inl x1), some (.inl x2), some (.inl x3), some (.inl x4)] [.inl r, .inr (.inr (10, 0))] M1_1 (rI Q)
  rcases Decidable.em (r = 0) with c_1 | c_1
  · replace h := h.1 c_1
    refine Wp.path (k := 1) [1] (C := [r = 0]) (pc' := 30) (ls' := [some (.inr (.inr (10, 0))), some (.inl x1), some (.inl x2), some (.inl x3), some (.inl x4)]) (st' := [.inr (.inr (10, 0))]) (M' := M1_1) rfl c_1 ?_
    refine Wp.path (k := 3) [] (C := []) (pc' := 52) (ls' := [some (.inr (.inr (10, 0))), some (.inl x1), some (.inl x2), some (.inl x3), some (.inl x4)]) (st' := []) (M' := setI M1_1 10 0 0 1) rfl trivial ?_
    refine Bd (P := fun M1_2 : Mm => Wp 15 1073 52 [some (.inr (.inr (10, 0))), some (.inl x1), some (.inl x2), some (.inl x3), some (.inl x4)] [] M1_2 (rI Q)) ?_
    intro M1_2 e_M1_2
    replace h := h M1_2 e_M1_2
    refine Wp.path (k := 2) [] (C := []) (pc' := 56) (ls' := [some (.inr (.inr (10, 0))), some (.inl x1), some (.inl x2), some (.inl x3), some (.inl x4)]) (st' := [.inl (M1_2.1 10 0 0)]) (M' := M1_2) rfl trivial ?_
    rcases Decidable.em (M1_2.1 10 0 0 = 0) with c_2 | c_2
    · replace h := h.1 c_2
      refine Wp.path (k := 1) [1] (C := [M1_2.1 10 0 0 = 0]) (pc' := 61) (ls' := [some (.inr (.inr (10, 0))), some (.inl x1), some (.inl x2), some (.inl x3), some (.inl x4)]) (st' := []) (M' := M1_2) rfl c_2 ?_
      refine Wp.path (k := 4) [] (C := []) (pc' := 65) (ls' := [some (.inr (.inr (10, 0))), some (.inl x1), some (.inl x2), some (.inl x3), some (.inl x4)]) (st' := [.inl x3, .inl x2, .inl x1, .inr (.inr (10, 0))]) (M' := M1_2) rfl trivial ?_
      refine Wp.call h rfl rfl (by decide) ?_
      rintro _ M1_3 ⟨rfl, h⟩
      show Wp 15 1073 68 [some (.inr (.inr (10, 0))), some (.inl x1), some (.inl x2), some (.inl x3), some (.inl x4)] [] M1_3 (rI Q)
      refine Wp.path (k := 1) [] (C := []) (pc' := 70) (ls' := [some (.inr (.inr (10, 0))), some (.inl x1), some (.inl x2), some (.inl x3), some (.inl x4)]) (st' := [.inl x4]) (M' := M1_3) rfl trivial ?_
      have k_3 : ∀ b : Int, b = (if x4 ≠ 0 then (if x4 ≠ 1 then (M1_3.1 10 0 43) else (M1_3.1 10 0 42)) else (M1_3.1 10 0 41)) → Wp 15 1073 97 [some (.inr (.inr (10, 0))), some (.inl x1), some (.inl x2), some (.inl x3), some (.inl x4)] [.inl b] M1_3 (rI Q) := by
        intro b e_b
        replace h := h b e_b
        exact Wp.ret rfl ⟨_, rfl, h⟩
      clear h
      rcases Decidable.em (x4 = 0) with c_4 | c_4
      · refine Wp.path (k := 1) [0] (C := [x4 = 0]) (pc' := 73) (ls' := [some (.inr (.inr (10, 0))), some (.inl x1), some (.inl x2), some (.inl x3), some (.inl x4)]) (st' := []) (M' := M1_3) rfl c_4 ?_
        refine Wp.path (k := 3) [] (C := []) (pc' := 97) (ls' := [some (.inr (.inr (10, 0))), some (.inl x1), some (.inl x2), some (.inl x3), some (.inl x4)]) (st' := [.inl (M1_3.1 10 0 41)]) (M' := M1_3) rfl trivial ?_
        exact k_3 _ (by rw [if_neg (not_not_intro c_4)])
      · refine Wp.path (k := 1) [1] (C := [x4 ≠ 0]) (pc' := 80) (ls' := [some (.inr (.inr (10, 0))), some (.inl x1), some (.inl x2), some (.inl x3), some (.inl x4)]) (st' := []) (M' := M1_3) rfl c_4 ?_
        refine Wp.path (k := 2) [] (C := []) (pc' := 83) (ls' := [some (.inr (.inr (10, 0))), some (.inl x1), some (.inl x2), some (.inl x3), some (.inl x4)]) (st' := [.inl 1, .inl x4]) (M' := M1_3) rfl trivial ?_
        rcases Decidable.em (x4 = 1) with c_5 | c_5
        · refine Wp.path (k := 1) [0] (C := [x4 = 1]) (pc' := 86) (ls' := [some (.inr (.inr (10, 0))), some (.inl x1), some (.inl x2), some (.inl x3), some (.inl x4)]) (st' := []) (M' := M1_3) rfl c_5 ?_
          refine Wp.path (k := 3) [] (C := []) (pc' := 97) (ls' := [some (.inr (.inr (10, 0))), some (.inl x1), some (.inl x2), some (.inl x3), some (.inl x4)]) (st' := [.inl (M1_3.1 10 0 42)]) (M' := M1_3) rfl trivial ?_
          exact k_3 _ (by rw [if_pos c_4, if_neg (not_not_intro c_5)])
        · refine Wp.path (k := 1) [1] (C := [x4 ≠ 1]) (pc' := 93) (ls' := [some (.inr (.inr (10, 0))), some (.inl x1), some (.inl x2), some (.inl x3), some (.inl x4)]) (st' := []) (M' := M1_3) rfl c_5 ?_
          refine Wp.path (k := 2) [] (C := []) (pc' := 97) (ls' := [some (.inr (.inr (10, 0))), some (.inl x1), some (.inl x2), some (.inl x3), some (.inl x4)]) (st' := [.inl (M1_3.1 10 0 43)]) (M' := M1_3) rfl trivial ?_
          exact k_3 _ (by rw [if_pos c_4, if_pos c_5])
    · replace h := h.2 c_2
      refine Wp.path (k := 1) [0] (C := [M1_2.1 10 0 0 ≠ 0]) (pc' := 59) (ls' := [some (.inr (.inr (10, 0))), some (.inl x1), some (.inl x2), some (.inl x3), some (.inl x4)]) (st' := []) (M' := M1_2) rfl c_2 ?_
      refine Wp.path (k := 1) [] (C := []) (pc' := 60) (ls' := [some (.inr (.inr (10, 0))), some (.inl x1), some (.inl x2), some (.inl x3), some (.inl x4)]) (st' := [.inl 0]) (M' := M1_2) rfl trivial ?_
      exact Wp.ret rfl ⟨_, rfl, h⟩
  · replace h := h.2 c_1
    refine Wp.path (k := 1) [0] (C := [r ≠ 0]) (pc' := 14) (ls' := [some (.inr (.inr (10, 0))), some (.inl x1), some (.inl x2), some (.inl x3), some (.inl x4)]) (st' := [.inr (.inr (10, 0))]) (M' := M1_1) rfl c_1 ?_
    refine Wp.path (k := 5) [] (C := []) (pc' := 19) (ls' := [some (.inr (.inr (10, 0))), some (.inl x1), some (.inl x2), some (.inl x3), some (.inl x4)]) (st' := [.inl x2, .inl x1, .inr (.inr (10, 0)), .inl 0, .inl x3, .inr (.inr (10, 0))]) (M' := M1_1) rfl trivial ?_
    refine Wp.call (e1036 h.1.1 h.1.2.1 h.1.2.2.1 h.1.2.2.2.1 h.1.2.2.2.2) rfl rfl (by decide) ?_
    replace h := h.2
    rintro v_ M_ ⟨eM_, ev_⟩
    rw [eM_, ev_]
    clear eM_ ev_ v_ M_
    show Wp 15 1073 22 [some (.inr (.inr (10, 0))), some (.inl x1), some (.inl x2), some (.inl x3), some (.inl x4)] [.inl (szV (M1_1.1 1125 0) x1 x2), .inl 0, .inl x3, .inr (.inr (10, 0))] M1_1 (rI Q)
    refine Wp.path (k := 2) [] (C := [inR ((szV (M1_1.1 1125 0) x1 x2) - 1)]) (pc' := 24) (ls' := [some (.inr (.inr (10, 0))), some (.inl x1), some (.inl x2), some (.inl x3), some (.inl x4)]) (st' := [.inl ((szV (M1_1.1 1125 0) x1 x2) - 1), .inl 0, .inl x3, .inr (.inr (10, 0))]) (M' := M1_1) rfl h.1 ?_
    replace h := h.2
    refine Wp.call (e1002) rfl rfl (by decide) ?_
    rintro v_ M_ ⟨eM_, ev_⟩
    rw [eM_, ev_]
    clear eM_ ev_ v_ M_
    show Wp 15 1073 27 [some (.inr (.inr (10, 0))), some (.inl x1), some (.inl x2), some (.inl x3), some (.inl x4)] [.inl (inV x3 0 ((szV (M1_1.1 1125 0) x1 x2) - 1)), .inr (.inr (10, 0))] M1_1 (rI Q)
    rcases Decidable.em (inV x3 0 ((szV (M1_1.1 1125 0) x1 x2) - 1) = 0) with c_6 | c_6
    · replace h := h.2 c_6
      refine Wp.path (k := 1) [0] (C := [inV x3 0 ((szV (M1_1.1 1125 0) x1 x2) - 1) = 0]) (pc' := 30) (ls' := [some (.inr (.inr (10, 0))), some (.inl x1), some (.inl x2), some (.inl x3), some (.inl x4)]) (st' := [.inr (.inr (10, 0))]) (M' := M1_1) rfl c_6 ?_
      refine Wp.path (k := 3) [] (C := []) (pc' := 52) (ls' := [some (.inr (.inr (10, 0))), some (.inl x1), some (.inl x2), some (.inl x3), some (.inl x4)]) (st' := []) (M' := setI M1_1 10 0 0 1) rfl trivial ?_
      refine Bd (P := fun M1_4 : Mm => Wp 15 1073 52 [some (.inr (.inr (10, 0))), some (.inl x1), some (.inl x2), some (.inl x3), some (.inl x4)] [] M1_4 (rI Q)) ?_
      intro M1_4 e_M1_4
      replace h := h M1_4 e_M1_4
      refine Wp.path (k := 2) [] (C := []) (pc' := 56) (ls' := [some (.inr (.inr (10, 0))), some (.inl x1), some (.inl x2), some (.inl x3), some (.inl x4)]) (st' := [.inl (M1_4.1 10 0 0)]) (M' := M1_4) rfl trivial ?_
      rcases Decidable.em (M1_4.1 10 0 0 = 0) with c_7 | c_7
      · replace h := h.1 c_7
        refine Wp.path (k := 1) [1] (C := [M1_4.1 10 0 0 = 0]) (pc' := 61) (ls' := [some (.inr (.inr (10, 0))), some (.inl x1), some (.inl x2), some (.inl x3), some (.inl x4)]) (st' := []) (M' := M1_4) rfl c_7 ?_
        refine Wp.path (k := 4) [] (C := []) (pc' := 65) (ls' := [some (.inr (.inr (10, 0))), some (.inl x1), some (.inl x2), some (.inl x3), some (.inl x4)]) (st' := [.inl x3, .inl x2, .inl x1, .inr (.inr (10, 0))]) (M' := M1_4) rfl trivial ?_
        refine Wp.call h rfl rfl (by decide) ?_
        rintro _ M1_5 ⟨rfl, h⟩
        show Wp 15 1073 68 [some (.inr (.inr (10, 0))), some (.inl x1), some (.inl x2), some (.inl x3), some (.inl x4)] [] M1_5 (rI Q)
        refine Wp.path (k := 1) [] (C := []) (pc' := 70) (ls' := [some (.inr (.inr (10, 0))), some (.inl x1), some (.inl x2), some (.inl x3), some (.inl x4)]) (st' := [.inl x4]) (M' := M1_5) rfl trivial ?_
        have k_8 : ∀ b_1 : Int, b_1 = (if x4 ≠ 0 then (if x4 ≠ 1 then (M1_5.1 10 0 43) else (M1_5.1 10 0 42)) else (M1_5.1 10 0 41)) → Wp 15 1073 97 [some (.inr (.inr (10, 0))), some (.inl x1), some (.inl x2), some (.inl x3), some (.inl x4)] [.inl b_1] M1_5 (rI Q) := by
          intro b_1 e_b_1
          replace h := h b_1 e_b_1
          exact Wp.ret rfl ⟨_, rfl, h⟩
        clear h
        rcases Decidable.em (x4 = 0) with c_9 | c_9
        · refine Wp.path (k := 1) [0] (C := [x4 = 0]) (pc' := 73) (ls' := [some (.inr (.inr (10, 0))), some (.inl x1), some (.inl x2), some (.inl x3), some (.inl x4)]) (st' := []) (M' := M1_5) rfl c_9 ?_
          refine Wp.path (k := 3) [] (C := []) (pc' := 97) (ls' := [some (.inr (.inr (10, 0))), some (.inl x1), some (.inl x2), some (.inl x3), some (.inl x4)]) (st' := [.inl (M1_5.1 10 0 41)]) (M' := M1_5) rfl trivial ?_
          exact k_8 _ (by rw [if_neg (not_not_intro c_9)])
        · refine Wp.path (k := 1) [1] (C := [x4 ≠ 0]) (pc' := 80) (ls' := [some (.inr (.inr (10, 0))), some (.inl x1), some (.inl x2), some (.inl x3), some (.inl x4)]) (st' := []) (M' := M1_5) rfl c_9 ?_
          refine Wp.path (k := 2) [] (C := []) (pc' := 83) (ls' := [some (.inr (.inr (10, 0))), some (.inl x1), some (.inl x2), some (.inl x3), some (.inl x4)]) (st' := [.inl 1, .inl x4]) (M' := M1_5) rfl trivial ?_
          rcases Decidable.em (x4 = 1) with c_10 | c_10
          · refine Wp.path (k := 1) [0] (C := [x4 = 1]) (pc' := 86) (ls' := [some (.inr (.inr (10, 0))), some (.inl x1), some (.inl x2), some (.inl x3), some (.inl x4)]) (st' := []) (M' := M1_5) rfl c_10 ?_
            refine Wp.path (k := 3) [] (C := []) (pc' := 97) (ls' := [some (.inr (.inr (10, 0))), some (.inl x1), some (.inl x2), some (.inl x3), some (.inl x4)]) (st' := [.inl (M1_5.1 10 0 42)]) (M' := M1_5) rfl trivial ?_
            exact k_8 _ (by rw [if_pos c_9, if_neg (not_not_intro c_10)])
          · refine Wp.path (k := 1) [1] (C := [x4 ≠ 1]) (pc' := 93) (ls' := [some (.inr (.inr (10, 0))), some (.inl x1), some (.inl x2), some (.inl x3), some (.inl x4)]) (st' := []) (M' := M1_5) rfl c_10 ?_
            refine Wp.path (k := 2) [] (C := []) (pc' := 97) (ls' := [some (.inr (.inr (10, 0))), some (.inl x1), some (.inl x2), some (.inl x3), some (.inl x4)]) (st' := [.inl (M1_5.1 10 0 43)]) (M' := M1_5) rfl trivial ?_
            exact k_8 _ (by rw [if_pos c_9, if_pos c_10])
      · replace h := h.2 c_7
        refine Wp.path (k := 1) [0] (C := [M1_4.1 10 0 0 ≠ 0]) (pc' := 59) (ls' := [some (.inr (.inr (10, 0))), some (.inl x1), some (.inl x2), some (.inl x3), some (.inl x4)]) (st' := []) (M' := M1_4) rfl c_7 ?_
        refine Wp.path (k := 1) [] (C := []) (pc' := 60) (ls' := [some (.inr (.inr (10, 0))), some (.inl x1), some (.inl x2), some (.inl x3), some (.inl x4)]) (st' := [.inl 0]) (M' := M1_4) rfl trivial ?_
        exact Wp.ret rfl ⟨_, rfl, h⟩
    · replace h := h.1 c_6
      refine Wp.path (k := 1) [1] (C := [inV x3 0 ((szV (M1_1.1 1125 0) x1 x2) - 1) ≠ 0]) (pc' := 34) (ls' := [some (.inr (.inr (10, 0))), some (.inl x1), some (.inl x2), some (.inl x3), some (.inl x4)]) (st' := [.inr (.inr (10, 0))]) (M' := M1_1) rfl c_6 ?_
      refine Wp.path (k := 3) [] (C := []) (pc' := 38) (ls' := [some (.inr (.inr (10, 0))), some (.inl x1), some (.inl x2), some (.inl x3), some (.inl x4)]) (st' := [.inl 2, .inl 0, .inl x4, .inr (.inr (10, 0))]) (M' := M1_1) rfl trivial ?_
      refine Wp.call (e1002) rfl rfl (by decide) ?_
      rintro v_ M_ ⟨eM_, ev_⟩
      rw [eM_, ev_]
      clear eM_ ev_ v_ M_
      show Wp 15 1073 41 [some (.inr (.inr (10, 0))), some (.inl x1), some (.inl x2), some (.inl x3), some (.inl x4)] [.inl (inV x4 0 2), .inr (.inr (10, 0))] M1_1 (rI Q)
      have k_15 : ∀ b_2 : Int, b_2 = (if inV x4 0 2 ≠ 0 then 0 else 2) → Wp 15 1073 49 [some (.inr (.inr (10, 0))), some (.inl x1), some (.inl x2), some (.inl x3), some (.inl x4)] [.inl b_2, .inr (.inr (10, 0))] M1_1 (rI Q) := by
        intro b_2 e_b_2
        replace h := h b_2 e_b_2
        refine Wp.path (k := 1) [] (C := []) (pc' := 52) (ls' := [some (.inr (.inr (10, 0))), some (.inl x1), some (.inl x2), some (.inl x3), some (.inl x4)]) (st' := []) (M' := setI M1_1 10 0 0 b_2) rfl trivial ?_
        refine Bd (P := fun M1_6 : Mm => Wp 15 1073 52 [some (.inr (.inr (10, 0))), some (.inl x1), some (.inl x2), some (.inl x3), some (.inl x4)] [] M1_6 (rI Q)) ?_
        intro M1_6 e_M1_6
        replace h := h M1_6 e_M1_6
        refine Wp.path (k := 2) [] (C := []) (pc' := 56) (ls' := [some (.inr (.inr (10, 0))), some (.inl x1), some (.inl x2), some (.inl x3), some (.inl x4)]) (st' := [.inl (M1_6.1 10 0 0)]) (M' := M1_6) rfl trivial ?_
        rcases Decidable.em (M1_6.1 10 0 0 = 0) with c_11 | c_11
        · replace h := h.1 c_11
          refine Wp.path (k := 1) [1] (C := [M1_6.1 10 0 0 = 0]) (pc' := 61) (ls' := [some (.inr (.inr (10, 0))), some (.inl x1), some (.inl x2), some (.inl x3), some (.inl x4)]) (st' := []) (M' := M1_6) rfl c_11 ?_
          refine Wp.path (k := 4) [] (C := []) (pc' := 65) (ls' := [some (.inr (.inr (10, 0))), some (.inl x1), some (.inl x2), some (.inl x3), some (.inl x4)]) (st' := [.inl x3, .inl x2, .inl x1, .inr (.inr (10, 0))]) (M' := M1_6) rfl trivial ?_
          refine Wp.call h rfl rfl (by decide) ?_
          rintro _ M1_7 ⟨rfl, h⟩
          show Wp 15 1073 68 [some (.inr (.inr (10, 0))), some (.inl x1), some (.inl x2), some (.inl x3), some (.inl x4)] [] M1_7 (rI Q)
          refine Wp.path (k := 1) [] (C := []) (pc' := 70) (ls' := [some (.inr (.inr (10, 0))), some (.inl x1), some (.inl x2), some (.inl x3), some (.inl x4)]) (st' := [.inl x4]) (M' := M1_7) rfl trivial ?_
          have k_12 : ∀ b_3 : Int, b_3 = (if x4 ≠ 0 then (if x4 ≠ 1 then (M1_7.1 10 0 43) else (M1_7.1 10 0 42)) else (M1_7.1 10 0 41)) → Wp 15 1073 97 [some (.inr (.inr (10, 0))), some (.inl x1), some (.inl x2), some (.inl x3), some (.inl x4)] [.inl b_3] M1_7 (rI Q) := by
            intro b_3 e_b_3
            replace h := h b_3 e_b_3
            exact Wp.ret rfl ⟨_, rfl, h⟩
          clear h
          rcases Decidable.em (x4 = 0) with c_13 | c_13
          · refine Wp.path (k := 1) [0] (C := [x4 = 0]) (pc' := 73) (ls' := [some (.inr (.inr (10, 0))), some (.inl x1), some (.inl x2), some (.inl x3), some (.inl x4)]) (st' := []) (M' := M1_7) rfl c_13 ?_
            refine Wp.path (k := 3) [] (C := []) (pc' := 97) (ls' := [some (.inr (.inr (10, 0))), some (.inl x1), some (.inl x2), some (.inl x3), some (.inl x4)]) (st' := [.inl (M1_7.1 10 0 41)]) (M' := M1_7) rfl trivial ?_
            exact k_12 _ (by rw [if_neg (not_not_intro c_13)])
          · refine Wp.path (k := 1) [1] (C := [x4 ≠ 0]) (pc' := 80) (ls' := [some (.inr (.inr (10, 0))), some (.inl x1), some (.inl x2), some (.inl x3), some (.inl x4)]) (st' := []) (M' := M1_7) rfl c_13 ?_
            refine Wp.path (k := 2) [] (C := []) (pc' := 83) (ls' := [some (.inr (.inr (10, 0))), some (.inl x1), some (.inl x2), some (.inl x3), some (.inl x4)]) (st' := [.inl 1, .inl x4]) (M' := M1_7) rfl trivial ?_
            rcases Decidable.em (x4 = 1) with c_14 | c_14
            · refine Wp.path (k := 1) [0] (C := [x4 = 1]) (pc' := 86) (ls' := [some (.inr (.inr (10, 0))), some (.inl x1), some (.inl x2), some (.inl x3), some (.inl x4)]) (st' := []) (M' := M1_7) rfl c_14 ?_
              refine Wp.path (k := 3) [] (C := []) (pc' := 97) (ls' := [some (.inr (.inr (10, 0))), some (.inl x1), some (.inl x2), some (.inl x3), some (.inl x4)]) (st' := [.inl (M1_7.1 10 0 42)]) (M' := M1_7) rfl trivial ?_
              exact k_12 _ (by rw [if_pos c_13, if_neg (not_not_intro c_14)])
            · refine Wp.path (k := 1) [1] (C := [x4 ≠ 1]) (pc' := 93) (ls' := [some (.inr (.inr (10, 0))), some (.inl x1), some (.inl x2), some (.inl x3), some (.inl x4)]) (st' := []) (M' := M1_7) rfl c_14 ?_
              refine Wp.path (k := 2) [] (C := []) (pc' := 97) (ls' := [some (.inr (.inr (10, 0))), some (.inl x1), some (.inl x2), some (.inl x3), some (.inl x4)]) (st' := [.inl (M1_7.1 10 0 43)]) (M' := M1_7) rfl trivial ?_
              exact k_12 _ (by rw [if_pos c_13, if_pos c_14])
        · replace h := h.2 c_11
          refine Wp.path (k := 1) [0] (C := [M1_6.1 10 0 0 ≠ 0]) (pc' := 59) (ls' := [some (.inr (.inr (10, 0))), some (.inl x1), some (.inl x2), some (.inl x3), some (.inl x4)]) (st' := []) (M' := M1_6) rfl c_11 ?_
          refine Wp.path (k := 1) [] (C := []) (pc' := 60) (ls' := [some (.inr (.inr (10, 0))), some (.inl x1), some (.inl x2), some (.inl x3), some (.inl x4)]) (st' := [.inl 0]) (M' := M1_6) rfl trivial ?_
          exact Wp.ret rfl ⟨_, rfl, h⟩
      clear h
      rcases Decidable.em (inV x4 0 2 = 0) with c_16 | c_16
      · refine Wp.path (k := 1) [0] (C := [inV x4 0 2 = 0]) (pc' := 44) (ls' := [some (.inr (.inr (10, 0))), some (.inl x1), some (.inl x2), some (.inl x3), some (.inl x4)]) (st' := [.inr (.inr (10, 0))]) (M' := M1_1) rfl c_16 ?_
        refine Wp.path (k := 2) [] (C := []) (pc' := 49) (ls' := [some (.inr (.inr (10, 0))), some (.inl x1), some (.inl x2), some (.inl x3), some (.inl x4)]) (st' := [.inl 2, .inr (.inr (10, 0))]) (M' := M1_1) rfl trivial ?_
        exact k_15 _ (by rw [if_neg (not_not_intro c_16)])
      · refine Wp.path (k := 1) [1] (C := [inV x4 0 2 ≠ 0]) (pc' := 48) (ls' := [some (.inr (.inr (10, 0))), some (.inl x1), some (.inl x2), some (.inl x3), some (.inl x4)]) (st' := [.inr (.inr (10, 0))]) (M' := M1_1) rfl c_16 ?_
        refine Wp.path (k := 1) [] (C := []) (pc' := 49) (ls' := [some (.inr (.inr (10, 0))), some (.inl x1), some (.inl x2), some (.inl x3), some (.inl x4)]) (st' := [.inl 0, .inr (.inr (10, 0))]) (M' := M1_1) rfl trivial ?_
        exact k_15 _ (by rw [if_pos c_16])
/-- X10_component -/
def E_1075 (x1 : Int) (x2 : Int) (x3 : Int) (M : Mm) (Q : Int → Mm → Prop) : Prop := Ev 15 1075 [.inr (.inr (10, 0)), .inl x1, .inl x2, .inl x3] M (rI Q)
theorem m_1075 {x1 : Int} {x2 : Int} {x3 : Int} {M : Mm} {Q Q1 : Int → Mm → Prop} (h : E_1075 x1 x2 x3 M Q) (k : (∀ r M1, Q r M1 → Q1 r M1)) : E_1075 x1 x2 x3 M Q1 := Ev.mono h (fun v M1 ⟨r, h1, h2⟩ => ⟨r, h1, k _ _ h2⟩)
theorem s_1075_0 {x1 : Int} {x2 : Int} {x3 : Int} {M : Mm} {Q : Int → Mm → Prop} (h : (E_1050 M (fun M1 : Mm => ((-2147483648 ≤ (M1.1 10 0 18) - 1 ∧ (M1.1 10 0 18) - 1 ≤ 2147483647)) ∧ ((inV x1 0 ((M1.1 10 0 18) - 1) = 0 → (∀ M1_1 : Mm, M1_1 = setI M1 10 0 0 1 → ((M1_1.1 10 0 0 ≠ 0 → (Q 0 M1_1)) ∧ (M1_1.1 10 0 0 = 0 → ((0 ≤ x1 ∧ x1 < 12 ∧ 0 ≤ x2 ∧ x2 ≤ 11 ∧ 0 ≤ x3 ∧ x3 ≤ 11) ∧ (Q (M1_1.1 1119 0 (2304 * x1 + 48 * (4 * x3 + 1) + 4 * x2).toNat) M1_1)))))) ∧ (inV x1 0 ((M1.1 10 0 18) - 1) ≠ 0 → ((inV x2 0 11 = 0 → (∀ M1_2 : Mm, M1_2 = setI M1 10 0 0 1 → ((M1_2.1 10 0 0 ≠ 0 → (Q 0 M1_2)) ∧ (M1_2.1 10 0 0 = 0 → ((0 ≤ x1 ∧ x1 < 12 ∧ 0 ≤ x2 ∧ x2 ≤ 11 ∧ 0 ≤ x3 ∧ x3 ≤ 11) ∧ (Q (M1_2.1 1119 0 (2304 * x1 + 48 * (4 * x3 + 1) + 4 * x2).toNat) M1_2)))))) ∧ (inV x2 0 11 ≠ 0 → (∀ b : Int, b = (if inV x3 0 11 = 0 then 1 else 0) → (∀ M1_3 : Mm, M1_3 = setI M1 10 0 0 b → ((M1_3.1 10 0 0 ≠ 0 → (Q 0 M1_3)) ∧ (M1_3.1 10 0 0 = 0 → ((0 ≤ x1 ∧ x1 < 12 ∧ 0 ≤ x2 ∧ x2 ≤ 11 ∧ 0 ≤ x3 ∧ x3 ≤ 11) ∧ (Q (M1_3.1 1119 0 (2304 * x1 + 48 * (4 * x3 + 1) + 4 * x2).toNat) M1_3))))))))))))) : E_1075 x1 x2 x3 M Q := by
  show Wp 15 1075 0 [some (.inr (.inr (10, 0))), some (.inl x1), some (.inl x2), some (.inl x3)] [] M (rI Q)
  refine Wp.path (k := 1) [] (C := []) (pc' := 1) (ls' := [some (.inr (.inr (10, 0))), some (.inl x1), some (.inl x2), some (.inl x3)]) (st' := [.inr (.inr (10, 0))]) (M' := M) rfl trivial ?_
  refine Wp.call h rfl rfl (by decide) ?_
  rintro _ M1 ⟨rfl, h⟩
  show Wp 15 1075 4 [some (.inr (.inr (10, 0))), some (.inl x1), some (.inl x2), some (.inl x3)] [] M1 (rI Q)
  refine Wp.path (k := 7) [] (C := [inR ((M1.1 10 0 18) - 1)]) (pc' := 13) (ls' := [some (.inr (.inr (10, 0))), some (.inl x1), some (.inl x2), some (.inl x3)]) (st' := [.inl ((M1.1 10 0 18) - 1), .inl 0, .inl x1, .inr (.inr (10, 0))]) (M' := M1) rfl h.1 ?_
  replace h := h.2
  refine Wp.call (e1002) rfl rfl (by decide) ?_
  rintro v_ M_ ⟨eM_, ev_⟩
  rw [eM_, ev_]
  clear eM_ ev_ v_ M_
  show Wp 15 1075 16 [some (.inr (.inr (10, 0))), some (.inl x1), some (.inl x2), some (.inl x3)] [.inl (inV x1 0 ((M1.1 10 0 18) - 1)), .inr (.inr (10, 0))] M1 (rI Q)
  rcases Decidable.em (inV x1 0 ((M1.1 10 0 18) - 1) = 0) with c_1 | c_1
  · replace h := h.1 c_1
    refine Wp.path (k := 1) [1] (C := [inV x1 0 ((M1.1 10 0 18) - 1) = 0]) (pc' := 43) (ls' := [some (.inr (.inr (10, 0))), some (.inl x1), some (.inl x2), some (.inl x3)]) (st' := [.inr (.inr (10, 0))]) (M' := M1) rfl c_1 ?_
    refine Wp.path (k := 2) [] (C := []) (pc' := 47) (ls' := [some (.inr (.inr (10, 0))), some (.inl x1), some (.inl x2), some (.inl x3)]) (st' := []) (M' := setI M1 10 0 0 1) rfl trivial ?_
    refine Bd (P := fun M1_1 : Mm => Wp 15 1075 47 [some (.inr (.inr (10, 0))), some (.inl x1), some (.inl x2), some (.inl x3)] [] M1_1 (rI Q)) ?_
    intro M1_1 e_M1_1
    replace h := h M1_1 e_M1_1
    refine Wp.path (k := 2) [] (C := []) (pc' := 51) (ls' := [some (.inr (.inr (10, 0))), some (.inl x1), some (.inl x2), some (.inl x3)]) (st' := [.inl (M1_1.1 10 0 0)]) (M' := M1_1) rfl trivial ?_
    rcases Decidable.em (M1_1.1 10 0 0 = 0) with c_2 | c_2
    · replace h := h.2 c_2
      refine Wp.path (k := 1) [0] (C := [M1_1.1 10 0 0 = 0]) (pc' := 54) (ls' := [some (.inr (.inr (10, 0))), some (.inl x1), some (.inl x2), some (.inl x3)]) (st' := []) (M' := M1_1) rfl c_2 ?_
      refine Wp.path (k := 4) [] (C := []) (pc' := 58) (ls' := [some (.inr (.inr (10, 0))), some (.inl x1), some (.inl x2), some (.inl x3)]) (st' := [.inl x3, .inl x2, .inl x1, .inr (.inr (10, 0))]) (M' := M1_1) rfl trivial ?_
      refine Wp.call (e1074 h.1.1 h.1.2.1 h.1.2.2.1 h.1.2.2.2.1 h.1.2.2.2.2.1 h.1.2.2.2.2.2) rfl rfl (by decide) ?_
      replace h := h.2
      rintro v_ M_ ⟨eM_, ev_⟩
      rw [eM_, ev_]
      clear eM_ ev_ v_ M_
      show Wp 15 1075 61 [some (.inr (.inr (10, 0))), some (.inl x1), some (.inl x2), some (.inl x3)] [.inl (M1_1.1 1119 0 (2304 * x1 + 48 * (4 * x3 + 1) + 4 * x2).toNat)] M1_1 (rI Q)
      refine Wp.path (k := 1) [] (C := []) (pc' := 65) (ls' := [some (.inr (.inr (10, 0))), some (.inl x1), some (.inl x2), some (.inl x3)]) (st' := [.inl (M1_1.1 1119 0 (2304 * x1 + 48 * (4 * x3 + 1) + 4 * x2).toNat)]) (M' := M1_1) rfl trivial ?_
      exact Wp.ret rfl ⟨_, rfl, h⟩
    · replace h := h.1 c_2
      refine Wp.path (k := 1) [1] (C := [M1_1.1 10 0 0 ≠ 0]) (pc' := 64) (ls' := [some (.inr (.inr (10, 0))), some (.inl x1), some (.inl x2), some (.inl x3)]) (st' := []) (M' := M1_1) rfl c_2 ?_
      refine Wp.path (k := 1) [] (C := []) (pc' := 65) (ls' := [some (.inr (.inr (10, 0))), some (.inl x1), some (.inl x2), some (.inl x3)]) (st' := [.inl 0]) (M' := M1_1) rfl trivial ?_
      exact Wp.ret rfl ⟨_, rfl, h⟩
  · replace h := h.2 c_1
    refine Wp.path (k := 1) [0] (C := [inV x1 0 ((M1.1 10 0 18) - 1) ≠ 0]) (pc' := 19) (ls' := [some (.inr (.inr (10, 0))), some (.inl x1), some (.inl x2), some (.inl x3)]) (st' := [.inr (.inr (10, 0))]) (M' := M1) rfl c_1 ?_
    refine Wp.path (k := 3) [] (C := []) (pc' := 23) (ls' := [some (.inr (.inr (10, 0))), some (.inl x1), some (.inl x2), some (.inl x3)]) (st' := [.inl 11, .inl 0, .inl x2, .inr (.inr (10, 0))]) (M' := M1) rfl trivial ?_
    refine Wp.call (e1002) rfl rfl (by decide) ?_
    rintro v_ M_ ⟨eM_, ev_⟩
    rw [eM_, ev_]
    clear eM_ ev_ v_ M_
    show Wp 15 1075 26 [some (.inr (.inr (10, 0))), some (.inl x1), some (.inl x2), some (.inl x3)] [.inl (inV x2 0 11), .inr (.inr (10, 0))] M1 (rI Q)
    rcases Decidable.em (inV x2 0 11 = 0) with c_3 | c_3
    · replace h := h.1 c_3
      refine Wp.path (k := 1) [1] (C := [inV x2 0 11 = 0]) (pc' := 43) (ls' := [some (.inr (.inr (10, 0))), some (.inl x1), some (.inl x2), some (.inl x3)]) (st' := [.inr (.inr (10, 0))]) (M' := M1) rfl c_3 ?_
      refine Wp.path (k := 2) [] (C := []) (pc' := 47) (ls' := [some (.inr (.inr (10, 0))), some (.inl x1), some (.inl x2), some (.inl x3)]) (st' := []) (M' := setI M1 10 0 0 1) rfl trivial ?_
      refine Bd (P := fun M1_2 : Mm => Wp 15 1075 47 [some (.inr (.inr (10, 0))), some (.inl x1), some (.inl x2), some (.inl x3)] [] M1_2 (rI Q)) ?_
      intro M1_2 e_M1_2
      replace h := h M1_2 e_M1_2
      refine Wp.path (k := 2) [] (C := []) (pc' := 51) (ls' := [some (.inr (.inr (10, 0))), some (.inl x1), some (.inl x2), some (.inl x3)]) (st' := [.inl (M1_2.1 10 0 0)]) (M' := M1_2) rfl trivial ?_
      rcases Decidable.em (M1_2.1 10 0 0 = 0) with c_4 | c_4
      · replace h := h.2 c_4
        refine Wp.path (k := 1) [0] (C := [M1_2.1 10 0 0 = 0]) (pc' := 54) (ls' := [some (.inr (.inr (10, 0))), some (.inl x1), some (.inl x2), some (.inl x3)]) (st' := []) (M' := M1_2) rfl c_4 ?_
        refine Wp.path (k := 4) [] (C := []) (pc' := 58) (ls' := [some (.inr (.inr (10, 0))), some (.inl x1), some (.inl x2), some (.inl x3)]) (st' := [.inl x3, .inl x2, .inl x1, .inr (.inr (10, 0))]) (M' := M1_2) rfl trivial ?_
        refine Wp.call (e1074 h.1.1 h.1.2.1 h.1.2.2.1 h.1.2.2.2.1 h.1.2.2.2.2.1 h.1.2.2.2.2.2) rfl rfl (by decide) ?_
        replace h := h.2
        rintro v_ M_ ⟨eM_, ev_⟩
        rw [eM_, ev_]
        clear eM_ ev_ v_ M_
        show Wp 15 1075 61 [some (.inr (.inr (10, 0))), some (.inl x1), some (.inl x2), some (.inl x3)] [.inl (M1_2.1 1119 0 (2304 * x1 + 48 * (4 * x3 + 1) + 4 * x2).toNat)] M1_2 (rI Q)
        refine Wp.path (k := 1) [] (C := []) (pc' := 65) (ls' := [some (.inr (.inr (10, 0))), some (.inl x1), some (.inl x2), some (.inl x3)]) (st' := [.inl (M1_2.1 1119 0 (2304 * x1 + 48 * (4 * x3 + 1) + 4 * x2).toNat)]) (M' := M1_2) rfl trivial ?_
        exact Wp.ret rfl ⟨_, rfl, h⟩
      · replace h := h.1 c_4
        refine Wp.path (k := 1) [1] (C := [M1_2.1 10 0 0 ≠ 0]) (pc' := 64) (ls' := [some (.inr (.inr (10, 0))), some (.inl x1), some (.inl x2), some (.inl x3)]) (st' := []) (M' := M1_2) rfl c_4 ?_
        refine Wp.path (k := 1) [] (C := []) (pc' := 65) (ls' := [some (.inr (.inr (10, 0))), some (.inl x1), some (.inl x2), some (.inl x3)]) (st' := [.inl 0]) (M' := M1_2) rfl trivial ?_
        exact Wp.ret rfl ⟨_, rfl, h⟩
    · replace h := h.2 c_3
      refine Wp.path (k := 1) [0] (C := [inV x2 0 11 ≠ 0]) (pc' := 29) (ls' := [some (.inr (.inr (10, 0))), some (.inl x1), some (.inl x2), some (.inl x3)]) (st' := [.inr (.inr (10, 0))]) (M' := M1) rfl c_3 ?_
      refine Wp.path (k := 3) [] (C := []) (pc' := 33) (ls' := [some (.inr (.inr (10, 0))), some (.inl x1), some (.inl x2), some (.inl x3)]) (st' := [.inl 11, .inl 0, .inl x3, .inr (.inr (10, 0))]) (M' := M1) rfl trivial ?_
      refine Wp.call (e1002) rfl rfl (by decide) ?_
      rintro v_ M_ ⟨eM_, ev_⟩
      rw [eM_, ev_]
      clear eM_ ev_ v_ M_
      show Wp 15 1075 36 [some (.inr (.inr (10, 0))), some (.inl x1), some (.inl x2), some (.inl x3)] [.inl (inV x3 0 11), .inr (.inr (10, 0))] M1 (rI Q)
      have k_6 : ∀ b : Int, b = (if inV x3 0 11 = 0 then 1 else 0) → Wp 15 1075 44 [some (.inr (.inr (10, 0))), some (.inl x1), some (.inl x2), some (.inl x3)] [.inl b, .inr (.inr (10, 0))] M1 (rI Q) := by
        intro b e_b
        replace h := h b e_b
        refine Wp.path (k := 1) [] (C := []) (pc' := 47) (ls' := [some (.inr (.inr (10, 0))), some (.inl x1), some (.inl x2), some (.inl x3)]) (st' := []) (M' := setI M1 10 0 0 b) rfl trivial ?_
        refine Bd (P := fun M1_3 : Mm => Wp 15 1075 47 [some (.inr (.inr (10, 0))), some (.inl x1), some (.inl x2), some (.inl x3)] [] M1_3 (rI Q)) ?_
        intro M1_3 e_M1_3
        replace h := h M1_3 e_M1_3
        refine Wp.path (k := 2) [] (C := []) (pc' := 51) (ls' := [some (.inr (.inr (10, 0))), some (.inl x1), some (.inl x2), some (.inl x3)]) (st' := [.inl (M1_3.1 10 0 0)]) (M' := M1_3) rfl trivial ?_
        rcases Decidable.em (M1_3.1 10 0 0 = 0) with c_5 | c_5
        · replace h := h.2 c_5
          refine Wp.path (k := 1) [0] (C := [M1_3.1 10 0 0 = 0]) (pc' := 54) (ls' := [some (.inr (.inr (10, 0))), some (.inl x1), some (.inl x2), some (.inl x3)]) (st' := []) (M' := M1_3) rfl c_5 ?_
          refine Wp.path (k := 4) [] (C := []) (pc' := 58) (ls' := [some (.inr (.inr (10, 0))), some (.inl x1), some (.inl x2), some (.inl x3)]) (st' := [.inl x3, .inl x2, .inl x1, .inr (.inr (10, 0))]) (M' := M1_3) rfl trivial ?_
          refine Wp.call (e1074 h.1.1 h.1.2.1 h.1.2.2.1 h.1.2.2.2.1 h.1.2.2.2.2.1 h.1.2.2.2.2.2) rfl rfl (by decide) ?_
          replace h := h.2
          rintro v_ M_ ⟨eM_, ev_⟩
          rw [eM_, ev_]
          clear eM_ ev_ v_ M_
          show Wp 15 1075 61 [some (.inr (.inr (10, 0))), some (.inl x1), some (.inl x2), some (.inl x3)] [.inl (M1_3.1 1119 0 (2304 * x1 + 48 * (4 * x3 + 1) + 4 * x2).toNat)] M1_3 (rI Q)
          refine Wp.path (k := 1) [] (C := []) (pc' := 65) (ls' := [some (.inr (.inr (10, 0))), some (.inl x1), some (.inl x2), some (.inl x3)]) (st' := [.inl (M1_3.1 1119 0 (2304 * x1 + 48 * (4 * x3 + 1) + 4 * x2).toNat)]) (M' := M1_3) rfl trivial ?_
          exact Wp.ret rfl ⟨_, rfl, h⟩
        · replace h := h.1 c_5
          refine Wp.path (k := 1) [1] (C := [M1_3.1 10 0 0 ≠ 0]) (pc' := 64) (ls' := [some (.inr (.inr (10, 0))), some (.inl x1), some (.inl x2), some (.inl x3)]) (st' := []) (M' := M1_3) rfl c_5 ?_
          refine Wp.path (k := 1) [] (C := []) (pc' := 65) (ls' := [some (.inr (.inr (10, 0))), some (.inl x1), some (.inl x2), some (.inl x3)]) (st' := [.inl 0]) (M' := M1_3) rfl trivial ?_
          exact Wp.ret rfl ⟨_, rfl, h⟩
      clear h
      rcases Decidable.em (inV x3 0 11 = 0) with c_7 | c_7
      · refine Wp.path (k := 1) [1] (C := [inV x3 0 11 = 0]) (pc' := 43) (ls' := [some (.inr (.inr (10, 0))), some (.inl x1), some (.inl x2), some (.inl x3)]) (st' := [.inr (.inr (10, 0))]) (M' := M1) rfl c_7 ?_
        refine Wp.path (k := 1) [] (C := []) (pc' := 44) (ls' := [some (.inr (.inr (10, 0))), some (.inl x1), some (.inl x2), some (.inl x3)]) (st' := [.inl 1, .inr (.inr (10, 0))]) (M' := M1) rfl trivial ?_
        exact k_6 _ (by rw [if_pos c_7])
      · refine Wp.path (k := 1) [0] (C := [inV x3 0 11 ≠ 0]) (pc' := 39) (ls' := [some (.inr (.inr (10, 0))), some (.inl x1), some (.inl x2), some (.inl x3)]) (st' := [.inr (.inr (10, 0))]) (M' := M1) rfl c_7 ?_
        refine Wp.path (k := 2) [] (C := []) (pc' := 44) (ls' := [some (.inr (.inr (10, 0))), some (.inl x1), some (.inl x2), some (.inl x3)]) (st' := [.inl 0, .inr (.inr (10, 0))]) (M' := M1) rfl trivial ?_
        exact k_6 _ (by rw [if_neg c_7])
/-- X10_isEvent -/
def E_1076 (x1 : Int) (M : Mm) (Q : Int → Mm → Prop) : Prop := Ev 2 1076 [.inr (.inr (10, 0)), .inl x1] M (rI Q)
theorem m_1076 {x1 : Int} {M : Mm} {Q Q1 : Int → Mm → Prop} (h : E_1076 x1 M Q) (k : (∀ r M1, Q r M1 → Q1 r M1)) : E_1076 x1 M Q1 := Ev.mono h (fun v M1 ⟨r, h1, h2⟩ => ⟨r, h1, k _ _ h2⟩)
theorem s_1076_0 {x1 : Int} {M : Mm} {Q : Int → Mm → Prop} (h : ((-2147483648 ≤ x1 - 1 ∧ x1 - 1 ≤ 2147483647)) ∧ (E_1037 (x1 - 1) M (fun (r : Int) (M1 : Mm) => (E_1037 x1 M1 (fun (r_1 : Int) (M1_1 : Mm) => ((r ≠ r_1 → (Q 1 M1_1)) ∧ (r = r_1 → (((-2147483648 ≤ x1 - 1 ∧ x1 - 1 ≤ 2147483647) ∧ (0 ≤ x1 - 1 ∧ x1 - 1 < 13) ∧ (0 ≤ x1 ∧ x1 < 13)) ∧ ((M1_1.1 1120 0 ((x1 - 1).toNat) ≠ M1_1.1 1120 0 x1.toNat → (Q 1 M1_1)) ∧ (M1_1.1 1120 0 ((x1 - 1).toNat) = M1_1.1 1120 0 x1.toNat → (((-2147483648 ≤ x1 - 1 ∧ x1 - 1 ≤ 2147483647)) ∧ (E_1038 (x1 - 1) M1_1 (fun (r_2 : Int) (M1_2 : Mm) => (E_1038 x1 M1_2 (fun (r_3 : Int) (M1_3 : Mm) => (∀ b : Int, b = (if r_2 = r_3 then 0 else 1) → ((b = 0 ∨ b = 1) ∧ (Q b M1_3)))))))))))))))))) : E_1076 x1 M Q := by
  show Wp 2 1076 0 [some (.inr (.inr (10, 0))), some (.inl x1)] [] M (rI Q)
  refine Wp.path (k := 4) [] (C := [inR (x1 - 1)]) (pc' := 4) (ls' := [some (.inr (.inr (10, 0))), some (.inl x1)]) (st' := [.inl (x1 - 1), .inr (.inr (10, 0))]) (M' := M) rfl h.1 ?_
  replace h := h.2
  refine Wp.call h rfl rfl (by decide) ?_
  rintro _ M1 ⟨r, rfl, h⟩
  show Wp 2 1076 7 [some (.inr (.inr (10, 0))), some (.inl x1)] [.inl r] M1 (rI Q)
  refine Wp.path (k := 2) [] (C := []) (pc' := 9) (ls' := [some (.inr (.inr (10, 0))), some (.inl x1)]) (st' := [.inl x1, .inr (.inr (10, 0)), .inl r]) (M' := M1) rfl trivial ?_
  refine Wp.call h rfl rfl (by decide) ?_
  rintro _ M1_1 ⟨r_1, rfl, h⟩
  show Wp 2 1076 12 [some (.inr (.inr (10, 0))), some (.inl x1)] [.inl r_1, .inl r] M1_1 (rI Q)
  rcases Decidable.em (r = r_1) with c_1 | c_1
  · replace h := h.2 c_1
    refine Wp.path (k := 1) [0] (C := [r = r_1]) (pc' := 15) (ls' := [some (.inr (.inr (10, 0))), some (.inl x1)]) (st' := []) (M' := M1_1) rfl c_1 ?_
    refine Wp.path (k := 10) [] (C := [inR (x1 - 1), 0 ≤ x1 - 1 ∧ x1 - 1 < 13, 0 ≤ x1 ∧ x1 < 13]) (pc' := 29) (ls' := [some (.inr (.inr (10, 0))), some (.inl x1)]) (st' := [.inl (M1_1.1 1120 0 x1.toNat), .inl (M1_1.1 1120 0 ((x1 - 1).toNat))]) (M' := M1_1) rfl ⟨h.1.1, h.1.2.1, h.1.2.2⟩ ?_
    replace h := h.2
    rcases Decidable.em (M1_1.1 1120 0 ((x1 - 1).toNat) = M1_1.1 1120 0 x1.toNat) with c_2 | c_2
    · replace h := h.2 c_2
      refine Wp.path (k := 1) [0] (C := [M1_1.1 1120 0 ((x1 - 1).toNat) = M1_1.1 1120 0 x1.toNat]) (pc' := 32) (ls' := [some (.inr (.inr (10, 0))), some (.inl x1)]) (st' := []) (M' := M1_1) rfl c_2 ?_
      refine Wp.path (k := 4) [] (C := [inR (x1 - 1)]) (pc' := 36) (ls' := [some (.inr (.inr (10, 0))), some (.inl x1)]) (st' := [.inl (x1 - 1), .inr (.inr (10, 0))]) (M' := M1_1) rfl h.1 ?_
      replace h := h.2
      refine Wp.call h rfl rfl (by decide) ?_
      rintro _ M1_2 ⟨r_2, rfl, h⟩
      show Wp 2 1076 39 [some (.inr (.inr (10, 0))), some (.inl x1)] [.inl r_2] M1_2 (rI Q)
      refine Wp.path (k := 2) [] (C := []) (pc' := 41) (ls' := [some (.inr (.inr (10, 0))), some (.inl x1)]) (st' := [.inl x1, .inr (.inr (10, 0)), .inl r_2]) (M' := M1_2) rfl trivial ?_
      refine Wp.call h rfl rfl (by decide) ?_
      rintro _ M1_3 ⟨r_3, rfl, h⟩
      show Wp 2 1076 44 [some (.inr (.inr (10, 0))), some (.inl x1)] [.inl r_3, .inl r_2] M1_3 (rI Q)
      have k_3 : ∀ b : Int, b = (if r_2 = r_3 then 0 else 1) → Wp 2 1076 52 [some (.inr (.inr (10, 0))), some (.inl x1)] [.inl b] M1_3 (rI Q) := by
        intro b e_b
        replace h := h b e_b
        exact Wp.ret (by rcases h.1 with e_r | e_r <;> rw [e_r] <;> rfl) ⟨_, rfl, h.2⟩
      clear h
      rcases Decidable.em (r_2 = r_3) with c_4 | c_4
      · refine Wp.path (k := 1) [1] (C := [r_2 = r_3]) (pc' := 51) (ls' := [some (.inr (.inr (10, 0))), some (.inl x1)]) (st' := []) (M' := M1_3) rfl c_4 ?_
        refine Wp.path (k := 1) [] (C := []) (pc' := 52) (ls' := [some (.inr (.inr (10, 0))), some (.inl x1)]) (st' := [.inl 0]) (M' := M1_3) rfl trivial ?_
        exact k_3 _ (by rw [if_pos c_4])
      · refine Wp.path (k := 1) [0] (C := [r_2 ≠ r_3]) (pc' := 47) (ls' := [some (.inr (.inr (10, 0))), some (.inl x1)]) (st' := []) (M' := M1_3) rfl c_4 ?_
        refine Wp.path (k := 2) [] (C := []) (pc' := 52) (ls' := [some (.inr (.inr (10, 0))), some (.inl x1)]) (st' := [.inl 1]) (M' := M1_3) rfl trivial ?_
        exact k_3 _ (by rw [if_neg c_4])
    · replace h := h.1 c_2
      refine Wp.path (k := 1) [1] (C := [M1_1.1 1120 0 ((x1 - 1).toNat) ≠ M1_1.1 1120 0 x1.toNat]) (pc' := 47) (ls' := [some (.inr (.inr (10, 0))), some (.inl x1)]) (st' := []) (M' := M1_1) rfl c_2 ?_
      refine Wp.path (k := 2) [] (C := []) (pc' := 52) (ls' := [some (.inr (.inr (10, 0))), some (.inl x1)]) (st' := [.inl 1]) (M' := M1_1) rfl trivial ?_
      exact Wp.ret rfl ⟨_, rfl, h⟩
  · replace h := h.1 c_1
    refine Wp.path (k := 1) [1] (C := [r ≠ r_1]) (pc' := 47) (ls' := [some (.inr (.inr (10, 0))), some (.inl x1)]) (st' := []) (M' := M1_1) rfl c_1 ?_
    refine Wp.path (k := 2) [] (C := []) (pc' := 52) (ls' := [some (.inr (.inr (10, 0))), some (.inl x1)]) (st' := [.inl 1]) (M' := M1_1) rfl trivial ?_
    exact Wp.ret rfl ⟨_, rfl, h⟩
/-- X10_eventMany -/
def E_1077 (x1 : Int) (M : Mm) (Q : Int → Mm → Prop) : Prop := Ev 3 1077 [.inr (.inr (10, 0)), .inl x1] M (rI Q)
theorem m_1077 {x1 : Int} {M : Mm} {Q Q1 : Int → Mm → Prop} (h : E_1077 x1 M Q) (k : (∀ r M1, Q r M1 → Q1 r M1)) : E_1077 x1 M Q1 := Ev.mono h (fun v M1 ⟨r, h1, h2⟩ => ⟨r, h1, k _ _ h2⟩)
def L_1077_4 (x1 : Int) (x2 : Int) (x3 : Int) (M : Mm) (Q : Int → Mm → Prop) : Prop := Wp 3 1077 4 [some (.inr (.inr (10, 0))), some (.inl x1), some (.inl x2), some (.inl x3)] [] M (rI Q)
theorem s_1077_0 {x1 : Int} {M : Mm} {Q : Int → Mm → Prop} (h : (L_1077_4 x1 0 1 M Q)) : E_1077 x1 M Q := by
  show Wp 3 1077 0 [some (.inr (.inr (10, 0))), some (.inl x1), none, none] [] M (rI Q)
  refine Wp.path (k := 4) [] (C := []) (pc' := 4) (ls' := [some (.inr (.inr (10, 0))), some (.inl x1), some (.inl 0), some (.inl 1)]) (st' := []) (M' := M) rfl trivial ?_
  exact h
theorem s_1077_4 {x1 : Int} {x2 : Int} {x3 : Int} {M : Mm} {Q : Int → Mm → Prop} (h : ((x1 < x3 → (Q x2 M)) ∧ (x3 ≤ x1 → (E_1076 x3 M (fun (r : Int) (M1 : Mm) => (∀ b : Int, b = (if r = 0 then 0 else 1) → (((-2147483648 ≤ x2 + b ∧ x2 + b ≤ 2147483647)) ∧ (∀ x2_1 : Int, x2_1 = x2 + b → (((-2147483648 ≤ x3 + 1 ∧ x3 + 1 ≤ 2147483647)) ∧ (L_1077_4 x1 x2_1 (x3 + 1) M1 Q)))))))))) : L_1077_4 x1 x2 x3 M Q := by
  show Wp 3 1077 4 [some (.inr (.inr (10, 0))), some (.inl x1), some (.inl x2), some (.inl x3)] [] M (rI Q)
  refine Wp.path (k := 2) [] (C := []) (pc' := 6) (ls' := [some (.inr (.inr (10, 0))), some (.inl x1), some (.inl x2), some (.inl x3)]) (st' := [.inl x1, .inl x3]) (M' := M) rfl trivial ?_
  rcases Int.lt_or_le (x1) (x3) with c_1 | c_1
  · replace h := h.1 c_1
    refine Wp.path (k := 1) [1] (C := [x1 < x3]) (pc' := 31) (ls' := [some (.inr (.inr (10, 0))), some (.inl x1), some (.inl x2), some (.inl x3)]) (st' := []) (M' := M) rfl c_1 ?_
    refine Wp.path (k := 1) [] (C := []) (pc' := 32) (ls' := [some (.inr (.inr (10, 0))), some (.inl x1), some (.inl x2), some (.inl x3)]) (st' := [.inl x2]) (M' := M) rfl trivial ?_
    exact Wp.ret rfl ⟨_, rfl, h⟩
  · replace h := h.2 c_1
    refine Wp.path (k := 1) [0] (C := [x3 ≤ x1]) (pc' := 9) (ls' := [some (.inr (.inr (10, 0))), some (.inl x1), some (.inl x2), some (.inl x3)]) (st' := []) (M' := M) rfl c_1 ?_
    refine Wp.path (k := 3) [] (C := []) (pc' := 12) (ls' := [some (.inr (.inr (10, 0))), some (.inl x1), some (.inl x2), some (.inl x3)]) (st' := [.inl x3, .inr (.inr (10, 0)), .inl x2]) (M' := M) rfl trivial ?_
    refine Wp.call h rfl rfl (by decide) ?_
    rintro _ M1 ⟨r, rfl, h⟩
    show Wp 3 1077 15 [some (.inr (.inr (10, 0))), some (.inl x1), some (.inl x2), some (.inl x3)] [.inl r, .inl x2] M1 (rI Q)
    have k_2 : ∀ b : Int, b = (if r = 0 then 0 else 1) → Wp 3 1077 23 [some (.inr (.inr (10, 0))), some (.inl x1), some (.inl x2), some (.inl x3)] [.inl b, .inl x2] M1 (rI Q) := by
      intro b e_b
      replace h := h b e_b
      refine Wp.path (k := 2) [] (C := [inR (x2 + b)]) (pc' := 25) (ls' := [some (.inr (.inr (10, 0))), some (.inl x1), some (.inl (x2 + b)), some (.inl x3)]) (st' := []) (M' := M1) rfl h.1 ?_
      replace h := h.2
      refine Bd (P := fun x2_1 : Int => Wp 3 1077 25 [some (.inr (.inr (10, 0))), some (.inl x1), some (.inl x2_1), some (.inl x3)] [] M1 (rI Q)) ?_
      intro x2_1 e_x2_1
      replace h := h x2_1 e_x2_1
      refine Wp.path (k := 2) [] (C := [inR (x3 + 1)]) (pc' := 4) (ls' := [some (.inr (.inr (10, 0))), some (.inl x1), some (.inl x2_1), some (.inl (x3 + 1))]) (st' := []) (M' := M1) rfl h.1 ?_
      replace h := h.2
      exact h
    clear h
    rcases Decidable.em (r = 0) with c_3 | c_3
    · refine Wp.path (k := 1) [1] (C := [r = 0]) (pc' := 22) (ls' := [some (.inr (.inr (10, 0))), some (.inl x1), some (.inl x2), some (.inl x3)]) (st' := [.inl x2]) (M' := M1) rfl c_3 ?_
      refine Wp.path (k := 1) [] (C := []) (pc' := 23) (ls' := [some (.inr (.inr (10, 0))), some (.inl x1), some (.inl x2), some (.inl x3)]) (st' := [.inl 0, .inl x2]) (M' := M1) rfl trivial ?_
      exact k_2 _ (by rw [if_pos c_3])
    · refine Wp.path (k := 1) [0] (C := [r ≠ 0]) (pc' := 18) (ls' := [some (.inr (.inr (10, 0))), some (.inl x1), some (.inl x2), some (.inl x3)]) (st' := [.inl x2]) (M' := M1) rfl c_3 ?_
      refine Wp.path (k := 2) [] (C := []) (pc' := 23) (ls' := [some (.inr (.inr (10, 0))), some (.inl x1), some (.inl x2), some (.inl x3)]) (st' := [.inl 1, .inl x2]) (M' := M1) rfl trivial ?_
      exact k_2 _ (by rw [if_neg c_3])
/-- X10_events -/
def E_1078 (M : Mm) (Q : Int → Mm → Prop) : Prop := Ev 15 1078 [.inr (.inr (10, 0))] M (rI Q)
theorem m_1078 {M : Mm} {Q Q1 : Int → Mm → Prop} (h : E_1078 M Q) (k : (∀ r M1, Q r M1 → Q1 r M1)) : E_1078 M Q1 := Ev.mono h (fun v M1 ⟨r, h1, h2⟩ => ⟨r, h1, k _ _ h2⟩)
theorem s_1078_0 {M : Mm} {Q : Int → Mm → Prop} (h : (∀ M1 : Mm, M1 = setI M 10 0 0 0 → (E_1050 M1 (fun M1_1 : Mm => (E_1077 (M1_1.1 10 0 18) M1_1 (fun (r : Int) (M1_2 : Mm) => (Q r M1_2))))))) : E_1078 M Q := by
  show Wp 15 1078 0 [some (.inr (.inr (10, 0)))] [] M (rI Q)
  refine Wp.path (k := 3) [] (C := []) (pc' := 5) (ls' := [some (.inr (.inr (10, 0)))]) (st' := []) (M' := setI M 10 0 0 0) rfl trivial ?_
  refine Bd (P := fun M1 : Mm => Wp 15 1078 5 [some (.inr (.inr (10, 0)))] [] M1 (rI Q)) ?_
  intro M1 e_M1
  replace h := h M1 e_M1
  refine Wp.path (k := 1) [] (C := []) (pc' := 6) (ls' := [some (.inr (.inr (10, 0)))]) (st' := [.inr (.inr (10, 0))]) (M' := M1) rfl trivial ?_
  refine Wp.call h rfl rfl (by decide) ?_
  rintro _ M1_1 ⟨rfl, h⟩
  show Wp 15 1078 9 [some (.inr (.inr (10, 0)))] [] M1_1 (rI Q)
  refine Wp.path (k := 3) [] (C := []) (pc' := 14) (ls' := [some (.inr (.inr (10, 0)))]) (st' := [.inl (M1_1.1 10 0 18), .inr (.inr (10, 0))]) (M' := M1_1) rfl trivial ?_
  refine Wp.call h rfl rfl (by decide) ?_
  rintro _ M1_2 ⟨r, rfl, h⟩
  show Wp 15 1078 17 [some (.inr (.inr (10, 0)))] [.inl r] M1_2 (rI Q)
  exact Wp.ret rfl ⟨_, rfl, h⟩
/-- X10_endings -/
def E_1079 (x1 : Int) (x2 : Int) (M : Mm) (Q : Int → Mm → Prop) : Prop := Ev 0 1079 [.inr (.inr (10, 0)), .inl x1, .inl x2] M (rI Q)
theorem m_1079 {x1 : Int} {x2 : Int} {M : Mm} {Q Q1 : Int → Mm → Prop} (h : E_1079 x1 x2 M Q) (k : (∀ r M1, Q r M1 → Q1 r M1)) : E_1079 x1 x2 M Q1 := Ev.mono h (fun v M1 ⟨r, h1, h2⟩ => ⟨r, h1, k _ _ h2⟩)
def L_1079_5 (x1 : Int) (x2 : Int) (x3 : Int) (x4 : Int) (M : Mm) (Q : Int → Mm → Prop) : Prop := ∀ o5 : Option Vv, Wp 0 1079 5 [some (.inr (.inr (10, 0))), some (.inl x1), some (.inl x2), some (.inl x3), some (.inl x4), o5] [] M (rI Q)
theorem s_1079_0 {x1 : Int} {x2 : Int} {M : Mm} {Q : Int → Mm → Prop} (h : (L_1079_5 x1 x2 0 0 M Q)) : E_1079 x1 x2 M Q := by
  show Wp 0 1079 0 [some (.inr (.inr (10, 0))), some (.inl x1), some (.inl x2), none, none, none] [] M (rI Q)
  refine Wp.path (k := 4) [] (C := []) (pc' := 5) (ls' := [some (.inr (.inr (10, 0))), some (.inl x1), some (.inl x2), some (.inl 0), some (.inl 0), none]) (st' := []) (M' := M) rfl trivial ?_
  exact h _
theorem s_1079_5 {x1 : Int} {x2 : Int} {x3 : Int} {x4 : Int} {M : Mm} {Q : Int → Mm → Prop} (h : ((0 ≤ x1 ∧ x1 < 13)) ∧ ((M.1 1120 0 x1.toNat ≤ x4 → (Q x3 M)) ∧ (x4 < M.1 1120 0 x1.toNat → (((-2147483648 ≤ 80 * x1 ∧ 80 * x1 ≤ 2147483647) ∧ (-2147483648 ≤ (80 * x1) + x4 ∧ (80 * x1) + x4 ≤ 2147483647) ∧ (0 ≤ (80 * x1) + x4 ∧ (80 * x1) + x4 < 960)) ∧ (∀ x5 : Int, x5 = M.1 1122 0 (((80 * x1) + x4).toNat) → (∀ b : Int, b = (if x2 = 0 then (if x5 ≠ 0 then 0 else 1) else (if x5 ≤ 1 then 0 else 1)) → (((-2147483648 ≤ x3 + b ∧ x3 + b ≤ 2147483647)) ∧ (∀ x3_1 : Int, x3_1 = x3 + b → (((-2147483648 ≤ x4 + 1 ∧ x4 + 1 ≤ 2147483647)) ∧ (L_1079_5 x1 x2 x3_1 (x4 + 1) M Q)))))))))) : L_1079_5 x1 x2 x3 x4 M Q := by
  intro o5
  show Wp 0 1079 5 [some (.inr (.inr (10, 0))), some (.inl x1), some (.inl x2), some (.inl x3), some (.inl x4), o5] [] M (rI Q)
  refine Wp.path (k := 5) [] (C := [0 ≤ x1 ∧ x1 < 13]) (pc' := 13) (ls' := [some (.inr (.inr (10, 0))), some (.inl x1), some (.inl x2), some (.inl x3), some (.inl x4), o5]) (st' := [.inl (M.1 1120 0 x1.toNat), .inl x4]) (M' := M) rfl h.1 ?_
  replace h := h.2
  rcases Int.lt_or_le (x4) (M.1 1120 0 x1.toNat) with c_1 | c_1
  · replace h := h.2 c_1
    refine Wp.path (k := 1) [0] (C := [x4 < M.1 1120 0 x1.toNat]) (pc' := 16) (ls' := [some (.inr (.inr (10, 0))), some (.inl x1), some (.inl x2), some (.inl x3), some (.inl x4), o5]) (st' := []) (M' := M) rfl c_1 ?_
    refine Wp.path (k := 9) [] (C := [inR (80 * x1), inR ((80 * x1) + x4), 0 ≤ (80 * x1) + x4 ∧ (80 * x1) + x4 < 960]) (pc' := 30) (ls' := [some (.inr (.inr (10, 0))), some (.inl x1), some (.inl x2), some (.inl x3), some (.inl x4), some (.inl (M.1 1122 0 (((80 * x1) + x4).toNat)))]) (st' := []) (M' := M) rfl ⟨h.1.1, h.1.2.1, h.1.2.2⟩ ?_
    replace h := h.2
    refine Bd (P := fun x5 : Int => Wp 0 1079 30 [some (.inr (.inr (10, 0))), some (.inl x1), some (.inl x2), some (.inl x3), some (.inl x4), some (.inl x5)] [] M (rI Q)) ?_
    intro x5 e_x5
    replace h := h x5 e_x5
    refine Wp.path (k := 2) [] (C := []) (pc' := 32) (ls' := [some (.inr (.inr (10, 0))), some (.inl x1), some (.inl x2), some (.inl x3), some (.inl x4), some (.inl x5)]) (st' := [.inl x2, .inl x3]) (M' := M) rfl trivial ?_
    have k_2 : ∀ b : Int, b = (if x2 = 0 then (if x5 ≠ 0 then 0 else 1) else (if x5 ≤ 1 then 0 else 1)) → Wp 0 1079 59 [some (.inr (.inr (10, 0))), some (.inl x1), some (.inl x2), some (.inl x3), some (.inl x4), some (.inl x5)] [.inl b, .inl x3] M (rI Q) := by
      intro b e_b
      replace h := h b e_b
      refine Wp.path (k := 2) [] (C := [inR (x3 + b)]) (pc' := 61) (ls' := [some (.inr (.inr (10, 0))), some (.inl x1), some (.inl x2), some (.inl (x3 + b)), some (.inl x4), some (.inl x5)]) (st' := []) (M' := M) rfl h.1 ?_
      replace h := h.2
      refine Bd (P := fun x3_1 : Int => Wp 0 1079 61 [some (.inr (.inr (10, 0))), some (.inl x1), some (.inl x2), some (.inl x3_1), some (.inl x4), some (.inl x5)] [] M (rI Q)) ?_
      intro x3_1 e_x3_1
      replace h := h x3_1 e_x3_1
      refine Wp.path (k := 2) [] (C := [inR (x4 + 1)]) (pc' := 5) (ls' := [some (.inr (.inr (10, 0))), some (.inl x1), some (.inl x2), some (.inl x3_1), some (.inl (x4 + 1)), some (.inl x5)]) (st' := []) (M' := M) rfl h.1 ?_
      replace h := h.2
      exact h _
    clear h
    rcases Decidable.em (x2 = 0) with c_3 | c_3
    · refine Wp.path (k := 1) [1] (C := [x2 = 0]) (pc' := 49) (ls' := [some (.inr (.inr (10, 0))), some (.inl x1), some (.inl x2), some (.inl x3), some (.inl x4), some (.inl x5)]) (st' := [.inl x3]) (M' := M) rfl c_3 ?_
      refine Wp.path (k := 1) [] (C := []) (pc' := 51) (ls' := [some (.inr (.inr (10, 0))), some (.inl x1), some (.inl x2), some (.inl x3), some (.inl x4), some (.inl x5)]) (st' := [.inl x5, .inl x3]) (M' := M) rfl trivial ?_
      rcases Decidable.em (x5 = 0) with c_4 | c_4
      · refine Wp.path (k := 1) [0] (C := [x5 = 0]) (pc' := 54) (ls' := [some (.inr (.inr (10, 0))), some (.inl x1), some (.inl x2), some (.inl x3), some (.inl x4), some (.inl x5)]) (st' := [.inl x3]) (M' := M) rfl c_4 ?_
        refine Wp.path (k := 2) [] (C := []) (pc' := 59) (ls' := [some (.inr (.inr (10, 0))), some (.inl x1), some (.inl x2), some (.inl x3), some (.inl x4), some (.inl x5)]) (st' := [.inl 1, .inl x3]) (M' := M) rfl trivial ?_
        exact k_2 _ (by rw [if_pos c_3, if_neg (not_not_intro c_4)])
      · refine Wp.path (k := 1) [1] (C := [x5 ≠ 0]) (pc' := 58) (ls' := [some (.inr (.inr (10, 0))), some (.inl x1), some (.inl x2), some (.inl x3), some (.inl x4), some (.inl x5)]) (st' := [.inl x3]) (M' := M) rfl c_4 ?_
        refine Wp.path (k := 1) [] (C := []) (pc' := 59) (ls' := [some (.inr (.inr (10, 0))), some (.inl x1), some (.inl x2), some (.inl x3), some (.inl x4), some (.inl x5)]) (st' := [.inl 0, .inl x3]) (M' := M) rfl trivial ?_
        exact k_2 _ (by rw [if_pos c_3, if_pos c_4])
    · refine Wp.path (k := 1) [0] (C := [x2 ≠ 0]) (pc' := 35) (ls' := [some (.inr (.inr (10, 0))), some (.inl x1), some (.inl x2), some (.inl x3), some (.inl x4), some (.inl x5)]) (st' := [.inl x3]) (M' := M) rfl c_3 ?_
      refine Wp.path (k := 2) [] (C := []) (pc' := 38) (ls' := [some (.inr (.inr (10, 0))), some (.inl x1), some (.inl x2), some (.inl x3), some (.inl x4), some (.inl x5)]) (st' := [.inl 1, .inl x5, .inl x3]) (M' := M) rfl trivial ?_
      rcases Int.lt_or_le (1) (x5) with c_5 | c_5
      · refine Wp.path (k := 1) [0] (C := [1 < x5]) (pc' := 41) (ls' := [some (.inr (.inr (10, 0))), some (.inl x1), some (.inl x2), some (.inl x3), some (.inl x4), some (.inl x5)]) (st' := [.inl x3]) (M' := M) rfl c_5 ?_
        refine Wp.path (k := 2) [] (C := []) (pc' := 59) (ls' := [some (.inr (.inr (10, 0))), some (.inl x1), some (.inl x2), some (.inl x3), some (.inl x4), some (.inl x5)]) (st' := [.inl 1, .inl x3]) (M' := M) rfl trivial ?_
        exact k_2 _ (by rw [if_neg c_3, if_neg (Int.not_le.mpr c_5)])
      · refine Wp.path (k := 1) [1] (C := [x5 ≤ 1]) (pc' := 45) (ls' := [some (.inr (.inr (10, 0))), some (.inl x1), some (.inl x2), some (.inl x3), some (.inl x4), some (.inl x5)]) (st' := [.inl x3]) (M' := M) rfl c_5 ?_
        refine Wp.path (k := 2) [] (C := []) (pc' := 59) (ls' := [some (.inr (.inr (10, 0))), some (.inl x1), some (.inl x2), some (.inl x3), some (.inl x4), some (.inl x5)]) (st' := [.inl 0, .inl x3]) (M' := M) rfl trivial ?_
        exact k_2 _ (by rw [if_neg c_3, if_pos c_5])
  · replace h := h.1 c_1
    refine Wp.path (k := 1) [1] (C := [M.1 1120 0 x1.toNat ≤ x4]) (pc' := 67) (ls' := [some (.inr (.inr (10, 0))), some (.inl x1), some (.inl x2), some (.inl x3), some (.inl x4), o5]) (st' := []) (M' := M) rfl c_1 ?_
    refine Wp.path (k := 1) [] (C := []) (pc' := 68) (ls' := [some (.inr (.inr (10, 0))), some (.inl x1), some (.inl x2), some (.inl x3), some (.inl x4), o5]) (st' := [.inl x3]) (M' := M) rfl trivial ?_
    exact Wp.ret rfl ⟨_, rfl, h⟩
/-- X10_event -/
def E_1080 (x1 : Int) (x2 : Int) (M : Mm) (Q : Int → Mm → Prop) : Prop := Ev 15 1080 [.inr (.inr (10, 0)), .inl x1, .inl x2] M (rI Q)
theorem m_1080 {x1 : Int} {x2 : Int} {M : Mm} {Q Q1 : Int → Mm → Prop} (h : E_1080 x1 x2 M Q) (k : (∀ r M1, Q r M1 → Q1 r M1)) : E_1080 x1 x2 M Q1 := Ev.mono h (fun v M1 ⟨r, h1, h2⟩ => ⟨r, h1, k _ _ h2⟩)
def L_1080_56 (x1 : Int) (x2 : Int) (x3 : Int) (M : Mm) (Q : Int → Mm → Prop) : Prop := Wp 15 1080 56 [some (.inr (.inr (10, 0))), some (.inl x1), some (.inl x2), some (.inl x3)] [] M (rI Q)
theorem s_1080_0 {x1 : Int} {x2 : Int} {M : Mm} {Q : Int → Mm → Prop} (h : (E_1050 M (fun M1 : Mm => (E_1077 (M1.1 10 0 18) M1 (fun (r : Int) (M1_1 : Mm) => ((-2147483648 ≤ r - 1 ∧ r - 1 ≤ 2147483647)) ∧ ((inV x1 0 (r - 1) ≠ 0 → (∀ b : Int, b = (if inV x2 0 6 ≠ 0 then 0 else 2) → (∀ M1_3 : Mm, M1_3 = setI M1_1 10 0 0 b → ((M1_3.1 10 0 0 = 0 → (L_1080_56 x1 x2 1 M1_3 Q)) ∧ (M1_3.1 10 0 0 ≠ 0 → (Q 0 M1_3)))))) ∧ (inV x1 0 (r - 1) = 0 → (∀ M1_2 : Mm, M1_2 = setI M1_1 10 0 0 1 → ((M1_2.1 10 0 0 = 0 → (L_1080_56 x1 x2 1 M1_2 Q)) ∧ (M1_2.1 10 0 0 ≠ 0 → (Q 0 M1_2))))))))))) : E_1080 x1 x2 M Q := by
  show Wp 15 1080 0 [some (.inr (.inr (10, 0))), some (.inl x1), some (.inl x2), none] [] M (rI Q)
  refine Wp.path (k := 1) [] (C := []) (pc' := 1) (ls' := [some (.inr (.inr (10, 0))), some (.inl x1), some (.inl x2), none]) (st' := [.inr (.inr (10, 0))]) (M' := M) rfl trivial ?_
  refine Wp.call h rfl rfl (by decide) ?_
  rintro _ M1 ⟨rfl, h⟩
  show Wp 15 1080 4 [some (.inr (.inr (10, 0))), some (.inl x1), some (.inl x2), none] [] M1 (rI Q)
  refine Wp.path (k := 6) [] (C := []) (pc' := 12) (ls' := [some (.inr (.inr (10, 0))), some (.inl x1), some (.inl x2), none]) (st' := [.inl (M1.1 10 0 18), .inr (.inr (10, 0)), .inl 0, .inl x1, .inr (.inr (10, 0))]) (M' := M1) rfl trivial ?_
  refine Wp.call h rfl rfl (by decide) ?_
  rintro _ M1_1 ⟨r, rfl, h⟩
  show Wp 15 1080 15 [some (.inr (.inr (10, 0))), some (.inl x1), some (.inl x2), none] [.inl r, .inl 0, .inl x1, .inr (.inr (10, 0))] M1_1 (rI Q)
  refine Wp.path (k := 2) [] (C := [inR (r - 1)]) (pc' := 17) (ls' := [some (.inr (.inr (10, 0))), some (.inl x1), some (.inl x2), none]) (st' := [.inl (r - 1), .inl 0, .inl x1, .inr (.inr (10, 0))]) (M' := M1_1) rfl h.1 ?_
  replace h := h.2
  refine Wp.call (e1002) rfl rfl (by decide) ?_
  rintro v_ M_ ⟨eM_, ev_⟩
  rw [eM_, ev_]
  clear eM_ ev_ v_ M_
  show Wp 15 1080 20 [some (.inr (.inr (10, 0))), some (.inl x1), some (.inl x2), none] [.inl (inV x1 0 (r - 1)), .inr (.inr (10, 0))] M1_1 (rI Q)
  rcases Decidable.em (inV x1 0 (r - 1) = 0) with c_1 | c_1
  · replace h := h.2 c_1
    refine Wp.path (k := 1) [0] (C := [inV x1 0 (r - 1) = 0]) (pc' := 23) (ls' := [some (.inr (.inr (10, 0))), some (.inl x1), some (.inl x2), none]) (st' := [.inr (.inr (10, 0))]) (M' := M1_1) rfl c_1 ?_
    refine Wp.path (k := 3) [] (C := []) (pc' := 45) (ls' := [some (.inr (.inr (10, 0))), some (.inl x1), some (.inl x2), none]) (st' := []) (M' := setI M1_1 10 0 0 1) rfl trivial ?_
    refine Bd (P := fun M1_2 : Mm => Wp 15 1080 45 [some (.inr (.inr (10, 0))), some (.inl x1), some (.inl x2), none] [] M1_2 (rI Q)) ?_
    intro M1_2 e_M1_2
    replace h := h M1_2 e_M1_2
    refine Wp.path (k := 2) [] (C := []) (pc' := 49) (ls' := [some (.inr (.inr (10, 0))), some (.inl x1), some (.inl x2), none]) (st' := [.inl (M1_2.1 10 0 0)]) (M' := M1_2) rfl trivial ?_
    rcases Decidable.em (M1_2.1 10 0 0 = 0) with c_2 | c_2
    · replace h := h.1 c_2
      refine Wp.path (k := 1) [1] (C := [M1_2.1 10 0 0 = 0]) (pc' := 54) (ls' := [some (.inr (.inr (10, 0))), some (.inl x1), some (.inl x2), none]) (st' := []) (M' := M1_2) rfl c_2 ?_
      refine Wp.path (k := 2) [] (C := []) (pc' := 56) (ls' := [some (.inr (.inr (10, 0))), some (.inl x1), some (.inl x2), some (.inl 1)]) (st' := []) (M' := M1_2) rfl trivial ?_
      exact h
    · replace h := h.2 c_2
      refine Wp.path (k := 1) [0] (C := [M1_2.1 10 0 0 ≠ 0]) (pc' := 52) (ls' := [some (.inr (.inr (10, 0))), some (.inl x1), some (.inl x2), none]) (st' := []) (M' := M1_2) rfl c_2 ?_
      refine Wp.path (k := 1) [] (C := []) (pc' := 53) (ls' := [some (.inr (.inr (10, 0))), some (.inl x1), some (.inl x2), none]) (st' := [.inl 0]) (M' := M1_2) rfl trivial ?_
      exact Wp.ret rfl ⟨_, rfl, h⟩
  · replace h := h.1 c_1
    refine Wp.path (k := 1) [1] (C := [inV x1 0 (r - 1) ≠ 0]) (pc' := 27) (ls' := [some (.inr (.inr (10, 0))), some (.inl x1), some (.inl x2), none]) (st' := [.inr (.inr (10, 0))]) (M' := M1_1) rfl c_1 ?_
    refine Wp.path (k := 3) [] (C := []) (pc' := 31) (ls' := [some (.inr (.inr (10, 0))), some (.inl x1), some (.inl x2), none]) (st' := [.inl 6, .inl 0, .inl x2, .inr (.inr (10, 0))]) (M' := M1_1) rfl trivial ?_
    refine Wp.call (e1002) rfl rfl (by decide) ?_
    rintro v_ M_ ⟨eM_, ev_⟩
    rw [eM_, ev_]
    clear eM_ ev_ v_ M_
    show Wp 15 1080 34 [some (.inr (.inr (10, 0))), some (.inl x1), some (.inl x2), none] [.inl (inV x2 0 6), .inr (.inr (10, 0))] M1_1 (rI Q)
    have k_4 : ∀ b : Int, b = (if inV x2 0 6 ≠ 0 then 0 else 2) → Wp 15 1080 42 [some (.inr (.inr (10, 0))), some (.inl x1), some (.inl x2), none] [.inl b, .inr (.inr (10, 0))] M1_1 (rI Q) := by
      intro b e_b
      replace h := h b e_b
      refine Wp.path (k := 1) [] (C := []) (pc' := 45) (ls' := [some (.inr (.inr (10, 0))), some (.inl x1), some (.inl x2), none]) (st' := []) (M' := setI M1_1 10 0 0 b) rfl trivial ?_
      refine Bd (P := fun M1_3 : Mm => Wp 15 1080 45 [some (.inr (.inr (10, 0))), some (.inl x1), some (.inl x2), none] [] M1_3 (rI Q)) ?_
      intro M1_3 e_M1_3
      replace h := h M1_3 e_M1_3
      refine Wp.path (k := 2) [] (C := []) (pc' := 49) (ls' := [some (.inr (.inr (10, 0))), some (.inl x1), some (.inl x2), none]) (st' := [.inl (M1_3.1 10 0 0)]) (M' := M1_3) rfl trivial ?_
      rcases Decidable.em (M1_3.1 10 0 0 = 0) with c_3 | c_3
      · replace h := h.1 c_3
        refine Wp.path (k := 1) [1] (C := [M1_3.1 10 0 0 = 0]) (pc' := 54) (ls' := [some (.inr (.inr (10, 0))), some (.inl x1), some (.inl x2), none]) (st' := []) (M' := M1_3) rfl c_3 ?_
        refine Wp.path (k := 2) [] (C := []) (pc' := 56) (ls' := [some (.inr (.inr (10, 0))), some (.inl x1), some (.inl x2), some (.inl 1)]) (st' := []) (M' := M1_3) rfl trivial ?_
        exact h
      · replace h := h.2 c_3
        refine Wp.path (k := 1) [0] (C := [M1_3.1 10 0 0 ≠ 0]) (pc' := 52) (ls' := [some (.inr (.inr (10, 0))), some (.inl x1), some (.inl x2), none]) (st' := []) (M' := M1_3) rfl c_3 ?_
        refine Wp.path (k := 1) [] (C := []) (pc' := 53) (ls' := [some (.inr (.inr (10, 0))), some (.inl x1), some (.inl x2), none]) (st' := [.inl 0]) (M' := M1_3) rfl trivial ?_
        exact Wp.ret rfl ⟨_, rfl, h⟩
    clear h
    rcases Decidable.em (inV x2 0 6 = 0) with c_5 | c_5
    · refine Wp.path (k := 1) [0] (C := [inV x2 0 6 = 0]) (pc' := 37) (ls' := [some (.inr (.inr (10, 0))), some (.inl x1), some (.inl x2), none]) (st' := [.inr (.inr (10, 0))]) (M' := M1_1) rfl c_5 ?_
      refine Wp.path (k := 2) [] (C := []) (pc' := 42) (ls' := [some (.inr (.inr (10, 0))), some (.inl x1), some (.inl x2), none]) (st' := [.inl 2, .inr (.inr (10, 0))]) (M' := M1_1) rfl trivial ?_
      exact k_4 _ (by rw [if_neg (not_not_intro c_5)])
    · refine Wp.path (k := 1) [1] (C := [inV x2 0 6 ≠ 0]) (pc' := 41) (ls' := [some (.inr (.inr (10, 0))), some (.inl x1), some (.inl x2), none]) (st' := [.inr (.inr (10, 0))]) (M' := M1_1) rfl c_5 ?_
      refine Wp.path (k := 1) [] (C := []) (pc' := 42) (ls' := [some (.inr (.inr (10, 0))), some (.inl x1), some (.inl x2), none]) (st' := [.inl 0, .inr (.inr (10, 0))]) (M' := M1_1) rfl trivial ?_
      exact k_4 _ (by rw [if_pos c_5])
theorem s_1080_56 {x1 : Int} {x2 : Int} {x3 : Int} {M : Mm} {Q : Int → Mm → Prop} (h : (E_1077 x3 M (fun (r : Int) (M1 : Mm) => ((x1 < r → ((x2 = 0 → (Q x3 M1)) ∧ (x2 = 1 → (((-2147483648 ≤ x3 - 1 ∧ x3 - 1 ≤ 2147483647)) ∧ (E_1037 (x3 - 1) M1 (fun (r_1 : Int) (M1_1 : Mm) => (Q r_1 M1_1))))) ∧ (x2 = 2 → (E_1037 x3 M1 (fun (r_2 : Int) (M1_2 : Mm) => (Q r_2 M1_2)))) ∧ (x2 = 3 → (((-2147483648 ≤ x3 - 1 ∧ x3 - 1 ≤ 2147483647) ∧ (0 ≤ x3 - 1 ∧ x3 - 1 < 13)) ∧ (Q (M1.1 1120 0 ((x3 - 1).toNat)) M1))) ∧ (x2 = 4 → (((0 ≤ x3 ∧ x3 < 13)) ∧ (Q (M1.1 1120 0 x3.toNat) M1))) ∧ (x2 = 5 → (((-2147483648 ≤ x3 - 1 ∧ x3 - 1 ≤ 2147483647)) ∧ (E_1079 (x3 - 1) 0 M1 (fun (r_3 : Int) (M1_3 : Mm) => (Q r_3 M1_3))))) ∧ (x2 ≠ 0 ∧ x2 ≠ 1 ∧ x2 ≠ 2 ∧ x2 ≠ 3 ∧ x2 ≠ 4 ∧ x2 ≠ 5 → (((-2147483648 ≤ x3 - 1 ∧ x3 - 1 ≤ 2147483647)) ∧ (E_1079 (x3 - 1) 1 M1 (fun (r_4 : Int) (M1_4 : Mm) => (Q r_4 M1_4))))))) ∧ (r ≤ x1 → (((-2147483648 ≤ x3 + 1 ∧ x3 + 1 ≤ 2147483647)) ∧ (L_1080_56 x1 x2 (x3 + 1) M1 Q))))))) : L_1080_56 x1 x2 x3 M Q := by
  show Wp 15 1080 56 [some (.inr (.inr (10, 0))), some (.inl x1), some (.inl x2), some (.inl x3)] [] M (rI Q)
  refine Wp.path (k := 2) [] (C := []) (pc' := 58) (ls' := [some (.inr (.inr (10, 0))), some (.inl x1), some (.inl x2), some (.inl x3)]) (st' := [.inl x3, .inr (.inr (10, 0))]) (M' := M) rfl trivial ?_
  refine Wp.call h rfl rfl (by decide) ?_
  rintro _ M1 ⟨r, rfl, h⟩
  show Wp 15 1080 61 [some (.inr (.inr (10, 0))), some (.inl x1), some (.inl x2), some (.inl x3)] [.inl r] M1 (rI Q)
  refine Wp.path (k := 1) [] (C := []) (pc' := 62) (ls' := [some (.inr (.inr (10, 0))), some (.inl x1), some (.inl x2), some (.inl x3)]) (st' := [.inl x1, .inl r]) (M' := M1) rfl trivial ?_
  rcases Int.lt_or_le (x1) (r) with c_1 | c_1
  · replace h := h.1 c_1
    refine Wp.path (k := 1) [1] (C := [x1 < r]) (pc' := 71) (ls' := [some (.inr (.inr (10, 0))), some (.inl x1), some (.inl x2), some (.inl x3)]) (st' := []) (M' := M1) rfl c_1 ?_
    refine Wp.path (k := 1) [] (C := []) (pc' := 72) (ls' := [some (.inr (.inr (10, 0))), some (.inl x1), some (.inl x2), some (.inl x3)]) (st' := [.inl x2]) (M' := M1) rfl trivial ?_
    rcases Decidable.em (x2 = 0) with c_2 | c_2
    · replace h := h.1 c_2
      refine Wp.path (k := 1) [112] (C := [tswT 72 81 0 5 #[40, 42, 50, 56, 65, 72] x2 = 112]) (pc' := 112) (ls' := [some (.inr (.inr (10, 0))), some (.inl x1), some (.inl x2), some (.inl x3)]) (st' := []) (M' := M1) rfl (by rw [c_2]; rfl) ?_
      refine Wp.path (k := 1) [] (C := []) (pc' := 113) (ls' := [some (.inr (.inr (10, 0))), some (.inl x1), some (.inl x2), some (.inl x3)]) (st' := [.inl x3]) (M' := M1) rfl trivial ?_
      exact Wp.ret rfl ⟨_, rfl, h⟩
    replace h := h.2
    rcases Decidable.em (x2 = 1) with c_3 | c_3
    · replace h := h.1 c_3
      refine Wp.path (k := 1) [114] (C := [tswT 72 81 0 5 #[40, 42, 50, 56, 65, 72] x2 = 114]) (pc' := 114) (ls' := [some (.inr (.inr (10, 0))), some (.inl x1), some (.inl x2), some (.inl x3)]) (st' := []) (M' := M1) rfl (by rw [c_3]; rfl) ?_
      refine Wp.path (k := 4) [] (C := [inR (x3 - 1)]) (pc' := 118) (ls' := [some (.inr (.inr (10, 0))), some (.inl x1), some (.inl x2), some (.inl x3)]) (st' := [.inl (x3 - 1), .inr (.inr (10, 0))]) (M' := M1) rfl h.1 ?_
      replace h := h.2
      refine Wp.call h rfl rfl (by decide) ?_
      rintro _ M1_1 ⟨r_1, rfl, h⟩
      show Wp 15 1080 121 [some (.inr (.inr (10, 0))), some (.inl x1), some (.inl x2), some (.inl x3)] [.inl r_1] M1_1 (rI Q)
      exact Wp.ret rfl ⟨_, rfl, h⟩
    replace h := h.2
    rcases Decidable.em (x2 = 2) with c_4 | c_4
    · replace h := h.1 c_4
      refine Wp.path (k := 1) [122] (C := [tswT 72 81 0 5 #[40, 42, 50, 56, 65, 72] x2 = 122]) (pc' := 122) (ls' := [some (.inr (.inr (10, 0))), some (.inl x1), some (.inl x2), some (.inl x3)]) (st' := []) (M' := M1) rfl (by rw [c_4]; rfl) ?_
      refine Wp.path (k := 2) [] (C := []) (pc' := 124) (ls' := [some (.inr (.inr (10, 0))), some (.inl x1), some (.inl x2), some (.inl x3)]) (st' := [.inl x3, .inr (.inr (10, 0))]) (M' := M1) rfl trivial ?_
      refine Wp.call h rfl rfl (by decide) ?_
      rintro _ M1_2 ⟨r_2, rfl, h⟩
      show Wp 15 1080 127 [some (.inr (.inr (10, 0))), some (.inl x1), some (.inl x2), some (.inl x3)] [.inl r_2] M1_2 (rI Q)
      exact Wp.ret rfl ⟨_, rfl, h⟩
    replace h := h.2
    rcases Decidable.em (x2 = 3) with c_5 | c_5
    · replace h := h.1 c_5
      refine Wp.path (k := 1) [128] (C := [tswT 72 81 0 5 #[40, 42, 50, 56, 65, 72] x2 = 128]) (pc' := 128) (ls' := [some (.inr (.inr (10, 0))), some (.inl x1), some (.inl x2), some (.inl x3)]) (st' := []) (M' := M1) rfl (by rw [c_5]; rfl) ?_
      refine Wp.path (k := 6) [] (C := [inR (x3 - 1), 0 ≤ x3 - 1 ∧ x3 - 1 < 13]) (pc' := 136) (ls' := [some (.inr (.inr (10, 0))), some (.inl x1), some (.inl x2), some (.inl x3)]) (st' := [.inl (M1.1 1120 0 ((x3 - 1).toNat))]) (M' := M1) rfl ⟨h.1.1, h.1.2⟩ ?_
      replace h := h.2
      exact Wp.ret rfl ⟨_, rfl, h⟩
    replace h := h.2
    rcases Decidable.em (x2 = 4) with c_6 | c_6
    · replace h := h.1 c_6
      refine Wp.path (k := 1) [137] (C := [tswT 72 81 0 5 #[40, 42, 50, 56, 65, 72] x2 = 137]) (pc' := 137) (ls' := [some (.inr (.inr (10, 0))), some (.inl x1), some (.inl x2), some (.inl x3)]) (st' := []) (M' := M1) rfl (by rw [c_6]; rfl) ?_
      refine Wp.path (k := 4) [] (C := [0 ≤ x3 ∧ x3 < 13]) (pc' := 143) (ls' := [some (.inr (.inr (10, 0))), some (.inl x1), some (.inl x2), some (.inl x3)]) (st' := [.inl (M1.1 1120 0 x3.toNat)]) (M' := M1) rfl h.1 ?_
      replace h := h.2
      exact Wp.ret rfl ⟨_, rfl, h⟩
    replace h := h.2
    rcases Decidable.em (x2 = 5) with c_7 | c_7
    · replace h := h.1 c_7
      refine Wp.path (k := 1) [144] (C := [tswT 72 81 0 5 #[40, 42, 50, 56, 65, 72] x2 = 144]) (pc' := 144) (ls' := [some (.inr (.inr (10, 0))), some (.inl x1), some (.inl x2), some (.inl x3)]) (st' := []) (M' := M1) rfl (by rw [c_7]; rfl) ?_
      refine Wp.path (k := 5) [] (C := [inR (x3 - 1)]) (pc' := 149) (ls' := [some (.inr (.inr (10, 0))), some (.inl x1), some (.inl x2), some (.inl x3)]) (st' := [.inl 0, .inl (x3 - 1), .inr (.inr (10, 0))]) (M' := M1) rfl h.1 ?_
      replace h := h.2
      refine Wp.call h rfl rfl (by decide) ?_
      rintro _ M1_3 ⟨r_3, rfl, h⟩
      show Wp 15 1080 152 [some (.inr (.inr (10, 0))), some (.inl x1), some (.inl x2), some (.inl x3)] [.inl r_3] M1_3 (rI Q)
      exact Wp.ret rfl ⟨_, rfl, h⟩
    replace h := h.2
    replace h := h ⟨c_2, c_3, c_4, c_5, c_6, c_7⟩
    refine Wp.path (k := 1) [153] (C := [tswT 72 81 0 5 #[40, 42, 50, 56, 65, 72] x2 = 153]) (pc' := 153) (ls' := [some (.inr (.inr (10, 0))), some (.inl x1), some (.inl x2), some (.inl x3)]) (st' := []) (M' := M1) rfl ((tsw_d (by omega)).trans rfl) ?_
    refine Wp.path (k := 5) [] (C := [inR (x3 - 1)]) (pc' := 158) (ls' := [some (.inr (.inr (10, 0))), some (.inl x1), some (.inl x2), some (.inl x3)]) (st' := [.inl 1, .inl (x3 - 1), .inr (.inr (10, 0))]) (M' := M1) rfl h.1 ?_
    replace h := h.2
    refine Wp.call h rfl rfl (by decide) ?_
    rintro _ M1_4 ⟨r_4, rfl, h⟩
    show Wp 15 1080 161 [some (.inr (.inr (10, 0))), some (.inl x1), some (.inl x2), some (.inl x3)] [.inl r_4] M1_4 (rI Q)
    exact Wp.ret rfl ⟨_, rfl, h⟩
  · replace h := h.2 c_1
    refine Wp.path (k := 1) [0] (C := [r ≤ x1]) (pc' := 65) (ls' := [some (.inr (.inr (10, 0))), some (.inl x1), some (.inl x2), some (.inl x3)]) (st' := []) (M' := M1) rfl c_1 ?_
    refine Wp.path (k := 2) [] (C := [inR (x3 + 1)]) (pc' := 56) (ls' := [some (.inr (.inr (10, 0))), some (.inl x1), some (.inl x2), some (.inl (x3 + 1))]) (st' := []) (M' := M1) rfl h.1 ?_
    replace h := h.2
    exact h
/-- X10_branches_ -/
def E_1081 (M : Mm) (Q : Int → Mm → Prop) : Prop := Ev 15 1081 [.inr (.inr (10, 0))] M (rI Q)
theorem m_1081 {M : Mm} {Q Q1 : Int → Mm → Prop} (h : E_1081 M Q) (k : (∀ r M1, Q r M1 → Q1 r M1)) : E_1081 M Q1 := Ev.mono h (fun v M1 ⟨r, h1, h2⟩ => ⟨r, h1, k _ _ h2⟩)
theorem s_1081_0 {M : Mm} {Q : Int → Mm → Prop} (h : (∀ M1 : Mm, M1 = setI M 10 0 0 0 → (E_1050 M1 (fun M1_1 : Mm => (Q (M1_1.1 10 0 44) M1_1))))) : E_1081 M Q := by
  show Wp 15 1081 0 [some (.inr (.inr (10, 0)))] [] M (rI Q)
  refine Wp.path (k := 3) [] (C := []) (pc' := 5) (ls' := [some (.inr (.inr (10, 0)))]) (st' := []) (M' := setI M 10 0 0 0) rfl trivial ?_
  refine Bd (P := fun M1 : Mm => Wp 15 1081 5 [some (.inr (.inr (10, 0)))] [] M1 (rI Q)) ?_
  intro M1 e_M1
  replace h := h M1 e_M1
  refine Wp.path (k := 1) [] (C := []) (pc' := 6) (ls' := [some (.inr (.inr (10, 0)))]) (st' := [.inr (.inr (10, 0))]) (M' := M1) rfl trivial ?_
  refine Wp.call h rfl rfl (by decide) ?_
  rintro _ M1_1 ⟨rfl, h⟩
  show Wp 15 1081 9 [some (.inr (.inr (10, 0)))] [] M1_1 (rI Q)
  refine Wp.path (k := 2) [] (C := []) (pc' := 13) (ls' := [some (.inr (.inr (10, 0)))]) (st' := [.inl (M1_1.1 10 0 44)]) (M' := M1_1) rfl trivial ?_
  exact Wp.ret rfl ⟨_, rfl, h⟩
/-- X10_branch -/
def E_1082 (x1 : Int) (x2 : Int) (M : Mm) (Q : Int → Mm → Prop) : Prop := Ev 15 1082 [.inr (.inr (10, 0)), .inl x1, .inl x2] M (rI Q)
theorem m_1082 {x1 : Int} {x2 : Int} {M : Mm} {Q Q1 : Int → Mm → Prop} (h : E_1082 x1 x2 M Q) (k : (∀ r M1, Q r M1 → Q1 r M1)) : E_1082 x1 x2 M Q1 := Ev.mono h (fun v M1 ⟨r, h1, h2⟩ => ⟨r, h1, k _ _ h2⟩)
theorem s_1082_0 {x1 : Int} {x2 : Int} {M : Mm} {Q : Int → Mm → Prop} (h : (E_1050 M (fun M1 : Mm => ((-2147483648 ≤ (M1.1 10 0 44) - 1 ∧ (M1.1 10 0 44) - 1 ≤ 2147483647)) ∧ ((inV x1 0 ((M1.1 10 0 44) - 1) ≠ 0 → (∀ b : Int, b = (if inV x2 0 5 ≠ 0 then 0 else 2) → (∀ M1_2 : Mm, M1_2 = setI M1 10 0 0 b → ((M1_2.1 10 0 0 = 0 → ((x2 = 0 → (((0 ≤ x1 ∧ x1 < 256)) ∧ (Q (M1_2.1 1145 0 x1.toNat) M1_2))) ∧ (x2 = 1 → (((0 ≤ x1 ∧ x1 < 256)) ∧ (Q (M1_2.1 1146 0 x1.toNat) M1_2))) ∧ (x2 = 2 → (((0 ≤ x1 ∧ x1 < 256)) ∧ (Q (M1_2.1 1147 0 x1.toNat) M1_2))) ∧ (x2 = 3 → (((0 ≤ x1 ∧ x1 < 256)) ∧ (Q (M1_2.1 1148 0 x1.toNat) M1_2))) ∧ (x2 = 4 → (((0 ≤ x1 ∧ x1 < 256)) ∧ (Q (M1_2.1 1149 0 x1.toNat) M1_2))) ∧ (x2 ≠ 0 ∧ x2 ≠ 1 ∧ x2 ≠ 2 ∧ x2 ≠ 3 ∧ x2 ≠ 4 → (((0 ≤ x1 ∧ x1 < 256)) ∧ (Q (M1_2.1 1150 0 x1.toNat) M1_2))))) ∧ (M1_2.1 10 0 0 ≠ 0 → (Q 0 M1_2)))))) ∧ (inV x1 0 ((M1.1 10 0 44) - 1) = 0 → (∀ M1_1 : Mm, M1_1 = setI M1 10 0 0 1 → ((M1_1.1 10 0 0 = 0 → ((x2 = 0 → (((0 ≤ x1 ∧ x1 < 256)) ∧ (Q (M1_1.1 1145 0 x1.toNat) M1_1))) ∧ (x2 = 1 → (((0 ≤ x1 ∧ x1 < 256)) ∧ (Q (M1_1.1 1146 0 x1.toNat) M1_1))) ∧ (x2 = 2 → (((0 ≤ x1 ∧ x1 < 256)) ∧ (Q (M1_1.1 1147 0 x1.toNat) M1_1))) ∧ (x2 = 3 → (((0 ≤ x1 ∧ x1 < 256)) ∧ (Q (M1_1.1 1148 0 x1.toNat) M1_1))) ∧ (x2 = 4 → (((0 ≤ x1 ∧ x1 < 256)) ∧ (Q (M1_1.1 1149 0 x1.toNat) M1_1))) ∧ (x2 ≠ 0 ∧ x2 ≠ 1 ∧ x2 ≠ 2 ∧ x2 ≠ 3 ∧ x2 ≠ 4 → (((0 ≤ x1 ∧ x1 < 256)) ∧ (Q (M1_1.1 1150 0 x1.toNat) M1_1))))) ∧ (M1_1.1 10 0 0 ≠ 0 → (Q 0 M1_1))))))))) : E_1082 x1 x2 M Q := by
  show Wp 15 1082 0 [some (.inr (.inr (10, 0))), some (.inl x1), some (.inl x2)] [] M (rI Q)
  refine Wp.path (k := 1) [] (C := []) (pc' := 1) (ls' := [some (.inr (.inr (10, 0))), some (.inl x1), some (.inl x2)]) (st' := [.inr (.inr (10, 0))]) (M' := M) rfl trivial ?_
  refine Wp.call h rfl rfl (by decide) ?_
  rintro _ M1 ⟨rfl, h⟩
  show Wp 15 1082 4 [some (.inr (.inr (10, 0))), some (.inl x1), some (.inl x2)] [] M1 (rI Q)
  refine Wp.path (k := 7) [] (C := [inR ((M1.1 10 0 44) - 1)]) (pc' := 13) (ls' := [some (.inr (.inr (10, 0))), some (.inl x1), some (.inl x2)]) (st' := [.inl ((M1.1 10 0 44) - 1), .inl 0, .inl x1, .inr (.inr (10, 0))]) (M' := M1) rfl h.1 ?_
  replace h := h.2
  refine Wp.call (e1002) rfl rfl (by decide) ?_
  rintro v_ M_ ⟨eM_, ev_⟩
  rw [eM_, ev_]
  clear eM_ ev_ v_ M_
  show Wp 15 1082 16 [some (.inr (.inr (10, 0))), some (.inl x1), some (.inl x2)] [.inl (inV x1 0 ((M1.1 10 0 44) - 1)), .inr (.inr (10, 0))] M1 (rI Q)
  rcases Decidable.em (inV x1 0 ((M1.1 10 0 44) - 1) = 0) with c_1 | c_1
  · replace h := h.2 c_1
    refine Wp.path (k := 1) [0] (C := [inV x1 0 ((M1.1 10 0 44) - 1) = 0]) (pc' := 19) (ls' := [some (.inr (.inr (10, 0))), some (.inl x1), some (.inl x2)]) (st' := [.inr (.inr (10, 0))]) (M' := M1) rfl c_1 ?_
    refine Wp.path (k := 3) [] (C := []) (pc' := 40) (ls' := [some (.inr (.inr (10, 0))), some (.inl x1), some (.inl x2)]) (st' := []) (M' := setI M1 10 0 0 1) rfl trivial ?_
    refine Bd (P := fun M1_1 : Mm => Wp 15 1082 40 [some (.inr (.inr (10, 0))), some (.inl x1), some (.inl x2)] [] M1_1 (rI Q)) ?_
    intro M1_1 e_M1_1
    replace h := h M1_1 e_M1_1
    refine Wp.path (k := 2) [] (C := []) (pc' := 44) (ls' := [some (.inr (.inr (10, 0))), some (.inl x1), some (.inl x2)]) (st' := [.inl (M1_1.1 10 0 0)]) (M' := M1_1) rfl trivial ?_
    rcases Decidable.em (M1_1.1 10 0 0 = 0) with c_2 | c_2
    · replace h := h.1 c_2
      refine Wp.path (k := 1) [1] (C := [M1_1.1 10 0 0 = 0]) (pc' := 49) (ls' := [some (.inr (.inr (10, 0))), some (.inl x1), some (.inl x2)]) (st' := []) (M' := M1_1) rfl c_2 ?_
      refine Wp.path (k := 1) [] (C := []) (pc' := 50) (ls' := [some (.inr (.inr (10, 0))), some (.inl x1), some (.inl x2)]) (st' := [.inl x2]) (M' := M1_1) rfl trivial ?_
      rcases Decidable.em (x2 = 0) with c_3 | c_3
      · replace h := h.1 c_3
        refine Wp.path (k := 1) [84] (C := [tswT 50 69 0 4 #[34, 41, 48, 55, 62] x2 = 84]) (pc' := 84) (ls' := [some (.inr (.inr (10, 0))), some (.inl x1), some (.inl x2)]) (st' := []) (M' := M1_1) rfl (by rw [c_3]; rfl) ?_
        refine Wp.path (k := 4) [] (C := [0 ≤ x1 ∧ x1 < 256]) (pc' := 90) (ls' := [some (.inr (.inr (10, 0))), some (.inl x1), some (.inl x2)]) (st' := [.inl (M1_1.1 1145 0 x1.toNat)]) (M' := M1_1) rfl h.1 ?_
        replace h := h.2
        exact Wp.ret rfl ⟨_, rfl, h⟩
      replace h := h.2
      rcases Decidable.em (x2 = 1) with c_4 | c_4
      · replace h := h.1 c_4
        refine Wp.path (k := 1) [91] (C := [tswT 50 69 0 4 #[34, 41, 48, 55, 62] x2 = 91]) (pc' := 91) (ls' := [some (.inr (.inr (10, 0))), some (.inl x1), some (.inl x2)]) (st' := []) (M' := M1_1) rfl (by rw [c_4]; rfl) ?_
        refine Wp.path (k := 4) [] (C := [0 ≤ x1 ∧ x1 < 256]) (pc' := 97) (ls' := [some (.inr (.inr (10, 0))), some (.inl x1), some (.inl x2)]) (st' := [.inl (M1_1.1 1146 0 x1.toNat)]) (M' := M1_1) rfl h.1 ?_
        replace h := h.2
        exact Wp.ret rfl ⟨_, rfl, h⟩
      replace h := h.2
      rcases Decidable.em (x2 = 2) with c_5 | c_5
      · replace h := h.1 c_5
        refine Wp.path (k := 1) [98] (C := [tswT 50 69 0 4 #[34, 41, 48, 55, 62] x2 = 98]) (pc' := 98) (ls' := [some (.inr (.inr (10, 0))), some (.inl x1), some (.inl x2)]) (st' := []) (M' := M1_1) rfl (by rw [c_5]; rfl) ?_
        refine Wp.path (k := 4) [] (C := [0 ≤ x1 ∧ x1 < 256]) (pc' := 104) (ls' := [some (.inr (.inr (10, 0))), some (.inl x1), some (.inl x2)]) (st' := [.inl (M1_1.1 1147 0 x1.toNat)]) (M' := M1_1) rfl h.1 ?_
        replace h := h.2
        exact Wp.ret rfl ⟨_, rfl, h⟩
      replace h := h.2
      rcases Decidable.em (x2 = 3) with c_6 | c_6
      · replace h := h.1 c_6
        refine Wp.path (k := 1) [105] (C := [tswT 50 69 0 4 #[34, 41, 48, 55, 62] x2 = 105]) (pc' := 105) (ls' := [some (.inr (.inr (10, 0))), some (.inl x1), some (.inl x2)]) (st' := []) (M' := M1_1) rfl (by rw [c_6]; rfl) ?_
        refine Wp.path (k := 4) [] (C := [0 ≤ x1 ∧ x1 < 256]) (pc' := 111) (ls' := [some (.inr (.inr (10, 0))), some (.inl x1), some (.inl x2)]) (st' := [.inl (M1_1.1 1148 0 x1.toNat)]) (M' := M1_1) rfl h.1 ?_
        replace h := h.2
        exact Wp.ret rfl ⟨_, rfl, h⟩
      replace h := h.2
      rcases Decidable.em (x2 = 4) with c_7 | c_7
      · replace h := h.1 c_7
        refine Wp.path (k := 1) [112] (C := [tswT 50 69 0 4 #[34, 41, 48, 55, 62] x2 = 112]) (pc' := 112) (ls' := [some (.inr (.inr (10, 0))), some (.inl x1), some (.inl x2)]) (st' := []) (M' := M1_1) rfl (by rw [c_7]; rfl) ?_
        refine Wp.path (k := 4) [] (C := [0 ≤ x1 ∧ x1 < 256]) (pc' := 118) (ls' := [some (.inr (.inr (10, 0))), some (.inl x1), some (.inl x2)]) (st' := [.inl (M1_1.1 1149 0 x1.toNat)]) (M' := M1_1) rfl h.1 ?_
        replace h := h.2
        exact Wp.ret rfl ⟨_, rfl, h⟩
      replace h := h.2
      replace h := h ⟨c_3, c_4, c_5, c_6, c_7⟩
      refine Wp.path (k := 1) [119] (C := [tswT 50 69 0 4 #[34, 41, 48, 55, 62] x2 = 119]) (pc' := 119) (ls' := [some (.inr (.inr (10, 0))), some (.inl x1), some (.inl x2)]) (st' := []) (M' := M1_1) rfl ((tsw_d (by omega)).trans rfl) ?_
      refine Wp.path (k := 4) [] (C := [0 ≤ x1 ∧ x1 < 256]) (pc' := 125) (ls' := [some (.inr (.inr (10, 0))), some (.inl x1), some (.inl x2)]) (st' := [.inl (M1_1.1 1150 0 x1.toNat)]) (M' := M1_1) rfl h.1 ?_
      replace h := h.2
      exact Wp.ret rfl ⟨_, rfl, h⟩
    · replace h := h.2 c_2
      refine Wp.path (k := 1) [0] (C := [M1_1.1 10 0 0 ≠ 0]) (pc' := 47) (ls' := [some (.inr (.inr (10, 0))), some (.inl x1), some (.inl x2)]) (st' := []) (M' := M1_1) rfl c_2 ?_
      refine Wp.path (k := 1) [] (C := []) (pc' := 48) (ls' := [some (.inr (.inr (10, 0))), some (.inl x1), some (.inl x2)]) (st' := [.inl 0]) (M' := M1_1) rfl trivial ?_
      exact Wp.ret rfl ⟨_, rfl, h⟩
  · replace h := h.1 c_1
    refine Wp.path (k := 1) [1] (C := [inV x1 0 ((M1.1 10 0 44) - 1) ≠ 0]) (pc' := 23) (ls' := [some (.inr (.inr (10, 0))), some (.inl x1), some (.inl x2)]) (st' := [.inr (.inr (10, 0))]) (M' := M1) rfl c_1 ?_
    refine Wp.path (k := 3) [] (C := []) (pc' := 26) (ls' := [some (.inr (.inr (10, 0))), some (.inl x1), some (.inl x2)]) (st' := [.inl 5, .inl 0, .inl x2, .inr (.inr (10, 0))]) (M' := M1) rfl trivial ?_
    refine Wp.call (e1002) rfl rfl (by decide) ?_
    rintro v_ M_ ⟨eM_, ev_⟩
    rw [eM_, ev_]
    clear eM_ ev_ v_ M_
    show Wp 15 1082 29 [some (.inr (.inr (10, 0))), some (.inl x1), some (.inl x2)] [.inl (inV x2 0 5), .inr (.inr (10, 0))] M1 (rI Q)
    have k_14 : ∀ b : Int, b = (if inV x2 0 5 ≠ 0 then 0 else 2) → Wp 15 1082 37 [some (.inr (.inr (10, 0))), some (.inl x1), some (.inl x2)] [.inl b, .inr (.inr (10, 0))] M1 (rI Q) := by
      intro b e_b
      replace h := h b e_b
      refine Wp.path (k := 1) [] (C := []) (pc' := 40) (ls' := [some (.inr (.inr (10, 0))), some (.inl x1), some (.inl x2)]) (st' := []) (M' := setI M1 10 0 0 b) rfl trivial ?_
      refine Bd (P := fun M1_2 : Mm => Wp 15 1082 40 [some (.inr (.inr (10, 0))), some (.inl x1), some (.inl x2)] [] M1_2 (rI Q)) ?_
      intro M1_2 e_M1_2
      replace h := h M1_2 e_M1_2
      refine Wp.path (k := 2) [] (C := []) (pc' := 44) (ls' := [some (.inr (.inr (10, 0))), some (.inl x1), some (.inl x2)]) (st' := [.inl (M1_2.1 10 0 0)]) (M' := M1_2) rfl trivial ?_
      rcases Decidable.em (M1_2.1 10 0 0 = 0) with c_8 | c_8
      · replace h := h.1 c_8
        refine Wp.path (k := 1) [1] (C := [M1_2.1 10 0 0 = 0]) (pc' := 49) (ls' := [some (.inr (.inr (10, 0))), some (.inl x1), some (.inl x2)]) (st' := []) (M' := M1_2) rfl c_8 ?_
        refine Wp.path (k := 1) [] (C := []) (pc' := 50) (ls' := [some (.inr (.inr (10, 0))), some (.inl x1), some (.inl x2)]) (st' := [.inl x2]) (M' := M1_2) rfl trivial ?_
        rcases Decidable.em (x2 = 0) with c_9 | c_9
        · replace h := h.1 c_9
          refine Wp.path (k := 1) [84] (C := [tswT 50 69 0 4 #[34, 41, 48, 55, 62] x2 = 84]) (pc' := 84) (ls' := [some (.inr (.inr (10, 0))), some (.inl x1), some (.inl x2)]) (st' := []) (M' := M1_2) rfl (by rw [c_9]; rfl) ?_
          refine Wp.path (k := 4) [] (C := [0 ≤ x1 ∧ x1 < 256]) (pc' := 90) (ls' := [some (.inr (.inr (10, 0))), some (.inl x1), some (.inl x2)]) (st' := [.inl (M1_2.1 1145 0 x1.toNat)]) (M' := M1_2) rfl h.1 ?_
          replace h := h.2
          exact Wp.ret rfl ⟨_, rfl, h⟩
        replace h := h.2
        rcases Decidable.em (x2 = 1) with c_10 | c_10
        · replace h := h.1 c_10
          refine Wp.path (k := 1) [91] (C := [tswT 50 69 0 4 #[34, 41, 48, 55, 62] x2 = 91]) (pc' := 91) (ls' := [some (.inr (.inr (10, 0))), some (.inl x1), some (.inl x2)]) (st' := []) (M' := M1_2) rfl (by rw [c_10]; rfl) ?_
          refine Wp.path (k := 4) [] (C := [0 ≤ x1 ∧ x1 < 256]) (pc' := 97) (ls' := [some (.inr (.inr (10, 0))), some (.inl x1), some (.inl x2)]) (st' := [.inl (M1_2.1 1146 0 x1.toNat)]) (M' := M1_2) rfl h.1 ?_
          replace h := h.2
          exact Wp.ret rfl ⟨_, rfl, h⟩
        replace h := h.2
        rcases Decidable.em (x2 = 2) with c_11 | c_11
        · replace h := h.1 c_11
          refine Wp.path (k := 1) [98] (C := [tswT 50 69 0 4 #[34, 41, 48, 55, 62] x2 = 98]) (pc' := 98) (ls' := [some (.inr (.inr (10, 0))), some (.inl x1), some (.inl x2)]) (st' := []) (M' := M1_2) rfl (by rw [c_11]; rfl) ?_
          refine Wp.path (k := 4) [] (C := [0 ≤ x1 ∧ x1 < 256]) (pc' := 104) (ls' := [some (.inr (.inr (10, 0))), some (.inl x1), some (.inl x2)]) (st' := [.inl (M1_2.1 1147 0 x1.toNat)]) (M' := M1_2) rfl h.1 ?_
          replace h := h.2
          exact Wp.ret rfl ⟨_, rfl, h⟩
        replace h := h.2
        rcases Decidable.em (x2 = 3) with c_12 | c_12
        · replace h := h.1 c_12
          refine Wp.path (k := 1) [105] (C := [tswT 50 69 0 4 #[34, 41, 48, 55, 62] x2 = 105]) (pc' := 105) (ls' := [some (.inr (.inr (10, 0))), some (.inl x1), some (.inl x2)]) (st' := []) (M' := M1_2) rfl (by rw [c_12]; rfl) ?_
          refine Wp.path (k := 4) [] (C := [0 ≤ x1 ∧ x1 < 256]) (pc' := 111) (ls' := [some (.inr (.inr (10, 0))), some (.inl x1), some (.inl x2)]) (st' := [.inl (M1_2.1 1148 0 x1.toNat)]) (M' := M1_2) rfl h.1 ?_
          replace h := h.2
          exact Wp.ret rfl ⟨_, rfl, h⟩
        replace h := h.2
        rcases Decidable.em (x2 = 4) with c_13 | c_13
        · replace h := h.1 c_13
          refine Wp.path (k := 1) [112] (C := [tswT 50 69 0 4 #[34, 41, 48, 55, 62] x2 = 112]) (pc' := 112) (ls' := [some (.inr (.inr (10, 0))), some (.inl x1), some (.inl x2)]) (st' := []) (M' := M1_2) rfl (by rw [c_13]; rfl) ?_
          refine Wp.path (k := 4) [] (C := [0 ≤ x1 ∧ x1 < 256]) (pc' := 118) (ls' := [some (.inr (.inr (10, 0))), some (.inl x1), some (.inl x2)]) (st' := [.inl (M1_2.1 1149 0 x1.toNat)]) (M' := M1_2) rfl h.1 ?_
          replace h := h.2
          exact Wp.ret rfl ⟨_, rfl, h⟩
        replace h := h.2
        replace h := h ⟨c_9, c_10, c_11, c_12, c_13⟩
        refine Wp.path (k := 1) [119] (C := [tswT 50 69 0 4 #[34, 41, 48, 55, 62] x2 = 119]) (pc' := 119) (ls' := [some (.inr (.inr (10, 0))), some (.inl x1), some (.inl x2)]) (st' := []) (M' := M1_2) rfl ((tsw_d (by omega)).trans rfl) ?_
        refine Wp.path (k := 4) [] (C := [0 ≤ x1 ∧ x1 < 256]) (pc' := 125) (ls' := [some (.inr (.inr (10, 0))), some (.inl x1), some (.inl x2)]) (st' := [.inl (M1_2.1 1150 0 x1.toNat)]) (M' := M1_2) rfl h.1 ?_
        replace h := h.2
        exact Wp.ret rfl ⟨_, rfl, h⟩
      · replace h := h.2 c_8
        refine Wp.path (k := 1) [0] (C := [M1_2.1 10 0 0 ≠ 0]) (pc' := 47) (ls' := [some (.inr (.inr (10, 0))), some (.inl x1), some (.inl x2)]) (st' := []) (M' := M1_2) rfl c_8 ?_
        refine Wp.path (k := 1) [] (C := []) (pc' := 48) (ls' := [some (.inr (.inr (10, 0))), some (.inl x1), some (.inl x2)]) (st' := [.inl 0]) (M' := M1_2) rfl trivial ?_
        exact Wp.ret rfl ⟨_, rfl, h⟩
    clear h
    rcases Decidable.em (inV x2 0 5 = 0) with c_15 | c_15
    · refine Wp.path (k := 1) [0] (C := [inV x2 0 5 = 0]) (pc' := 32) (ls' := [some (.inr (.inr (10, 0))), some (.inl x1), some (.inl x2)]) (st' := [.inr (.inr (10, 0))]) (M' := M1) rfl c_15 ?_
      refine Wp.path (k := 2) [] (C := []) (pc' := 37) (ls' := [some (.inr (.inr (10, 0))), some (.inl x1), some (.inl x2)]) (st' := [.inl 2, .inr (.inr (10, 0))]) (M' := M1) rfl trivial ?_
      exact k_14 _ (by rw [if_neg (not_not_intro c_15)])
    · refine Wp.path (k := 1) [1] (C := [inV x2 0 5 ≠ 0]) (pc' := 36) (ls' := [some (.inr (.inr (10, 0))), some (.inl x1), some (.inl x2)]) (st' := [.inr (.inr (10, 0))]) (M' := M1) rfl c_15 ?_
      refine Wp.path (k := 1) [] (C := []) (pc' := 37) (ls' := [some (.inr (.inr (10, 0))), some (.inl x1), some (.inl x2)]) (st' := [.inl 0, .inr (.inr (10, 0))]) (M' := M1) rfl trivial ?_
      exact k_14 _ (by rw [if_pos c_15])
/-- X10_clearance -/
def E_1084 (x1 : Int) (x2 : Int) (x3 : Int) (x4 : Int) (M : Mm) (Q : Int → Mm → Prop) : Prop := Ev 15 1084 [.inr (.inr (10, 0)), .inl x1, .inl x2, .inl x3, .inl x4] M (rI Q)
theorem m_1084 {x1 : Int} {x2 : Int} {x3 : Int} {x4 : Int} {M : Mm} {Q Q1 : Int → Mm → Prop} (h : E_1084 x1 x2 x3 x4 M Q) (k : (∀ r M1, Q r M1 → Q1 r M1)) : E_1084 x1 x2 x3 x4 M Q1 := Ev.mono h (fun v M1 ⟨r, h1, h2⟩ => ⟨r, h1, k _ _ h2⟩)
def L_1084_39 (x1 : Int) (x2 : Int) (x3 : Int) (x4 : Int) (x5 : Int) (x6 : Int) (M : Mm) (Q : Int → Mm → Prop) : Prop := ∀ o7 : Option Vv, Wp 15 1084 39 [some (.inr (.inr (10, 0))), some (.inl x1), some (.inl x2), some (.inl x3), some (.inl x4), some (.inl x5), some (.inl x6), o7] [] M (rI Q)
theorem s_1084_0 {x1 : Int} {x2 : Int} {x3 : Int} {x4 : Int} {M : Mm} {Q : Int → Mm → Prop} (h : (E_1050 M (fun M1 : Mm => (∀ b : Int, b = (if arcV x1 x2 x3 x4 = 0 then 1 else 0) → (∀ M1_1 : Mm, M1_1 = setI M1 10 0 0 b → ((M1_1.1 10 0 0 = 0 → (L_1084_39 x1 x2 x3 x4 (-1) 0 M1_1 Q)) ∧ (M1_1.1 10 0 0 ≠ 0 → (Q 0 M1_1)))))))) : E_1084 x1 x2 x3 x4 M Q := by
  show Wp 15 1084 0 [some (.inr (.inr (10, 0))), some (.inl x1), some (.inl x2), some (.inl x3), some (.inl x4), none, none, none] [] M (rI Q)
  refine Wp.path (k := 1) [] (C := []) (pc' := 1) (ls' := [some (.inr (.inr (10, 0))), some (.inl x1), some (.inl x2), some (.inl x3), some (.inl x4), none, none, none]) (st' := [.inr (.inr (10, 0))]) (M' := M) rfl trivial ?_
  refine Wp.call h rfl rfl (by decide) ?_
  rintro _ M1 ⟨rfl, h⟩
  show Wp 15 1084 4 [some (.inr (.inr (10, 0))), some (.inl x1), some (.inl x2), some (.inl x3), some (.inl x4), none, none, none] [] M1 (rI Q)
  refine Wp.path (k := 5) [] (C := []) (pc' := 10) (ls' := [some (.inr (.inr (10, 0))), some (.inl x1), some (.inl x2), some (.inl x3), some (.inl x4), none, none, none]) (st' := [.inl x4, .inl x3, .inl x2, .inl x1, .inr (.inr (10, 0))]) (M' := M1) rfl trivial ?_
  refine Wp.call (e1083) rfl rfl (by decide) ?_
  rintro v_ M_ ⟨eM_, ev_⟩
  rw [eM_, ev_]
  clear eM_ ev_ v_ M_
  show Wp 15 1084 13 [some (.inr (.inr (10, 0))), some (.inl x1), some (.inl x2), some (.inl x3), some (.inl x4), none, none, none] [.inl (arcV x1 x2 x3 x4), .inr (.inr (10, 0))] M1 (rI Q)
  have k_2 : ∀ b : Int, b = (if arcV x1 x2 x3 x4 = 0 then 1 else 0) → Wp 15 1084 21 [some (.inr (.inr (10, 0))), some (.inl x1), some (.inl x2), some (.inl x3), some (.inl x4), none, none, none] [.inl b, .inr (.inr (10, 0))] M1 (rI Q) := by
    intro b e_b
    replace h := h b e_b
    refine Wp.path (k := 1) [] (C := []) (pc' := 24) (ls' := [some (.inr (.inr (10, 0))), some (.inl x1), some (.inl x2), some (.inl x3), some (.inl x4), none, none, none]) (st' := []) (M' := setI M1 10 0 0 b) rfl trivial ?_
    refine Bd (P := fun M1_1 : Mm => Wp 15 1084 24 [some (.inr (.inr (10, 0))), some (.inl x1), some (.inl x2), some (.inl x3), some (.inl x4), none, none, none] [] M1_1 (rI Q)) ?_
    intro M1_1 e_M1_1
    replace h := h M1_1 e_M1_1
    refine Wp.path (k := 2) [] (C := []) (pc' := 28) (ls' := [some (.inr (.inr (10, 0))), some (.inl x1), some (.inl x2), some (.inl x3), some (.inl x4), none, none, none]) (st' := [.inl (M1_1.1 10 0 0)]) (M' := M1_1) rfl trivial ?_
    rcases Decidable.em (M1_1.1 10 0 0 = 0) with c_1 | c_1
    · replace h := h.1 c_1
      refine Wp.path (k := 1) [1] (C := [M1_1.1 10 0 0 = 0]) (pc' := 33) (ls' := [some (.inr (.inr (10, 0))), some (.inl x1), some (.inl x2), some (.inl x3), some (.inl x4), none, none, none]) (st' := []) (M' := M1_1) rfl c_1 ?_
      refine Wp.path (k := 4) [] (C := []) (pc' := 39) (ls' := [some (.inr (.inr (10, 0))), some (.inl x1), some (.inl x2), some (.inl x3), some (.inl x4), some (.inl (-1)), some (.inl 0), none]) (st' := []) (M' := M1_1) rfl trivial ?_
      exact h _
    · replace h := h.2 c_1
      refine Wp.path (k := 1) [0] (C := [M1_1.1 10 0 0 ≠ 0]) (pc' := 31) (ls' := [some (.inr (.inr (10, 0))), some (.inl x1), some (.inl x2), some (.inl x3), some (.inl x4), none, none, none]) (st' := []) (M' := M1_1) rfl c_1 ?_
      refine Wp.path (k := 1) [] (C := []) (pc' := 32) (ls' := [some (.inr (.inr (10, 0))), some (.inl x1), some (.inl x2), some (.inl x3), some (.inl x4), none, none, none]) (st' := [.inl 0]) (M' := M1_1) rfl trivial ?_
      exact Wp.ret rfl ⟨_, rfl, h⟩
  clear h
  rcases Decidable.em (arcV x1 x2 x3 x4 = 0) with c_3 | c_3
  · refine Wp.path (k := 1) [1] (C := [arcV x1 x2 x3 x4 = 0]) (pc' := 20) (ls' := [some (.inr (.inr (10, 0))), some (.inl x1), some (.inl x2), some (.inl x3), some (.inl x4), none, none, none]) (st' := [.inr (.inr (10, 0))]) (M' := M1) rfl c_3 ?_
    refine Wp.path (k := 1) [] (C := []) (pc' := 21) (ls' := [some (.inr (.inr (10, 0))), some (.inl x1), some (.inl x2), some (.inl x3), some (.inl x4), none, none, none]) (st' := [.inl 1, .inr (.inr (10, 0))]) (M' := M1) rfl trivial ?_
    exact k_2 _ (by rw [if_pos c_3])
  · refine Wp.path (k := 1) [0] (C := [arcV x1 x2 x3 x4 ≠ 0]) (pc' := 16) (ls' := [some (.inr (.inr (10, 0))), some (.inl x1), some (.inl x2), some (.inl x3), some (.inl x4), none, none, none]) (st' := [.inr (.inr (10, 0))]) (M' := M1) rfl c_3 ?_
    refine Wp.path (k := 2) [] (C := []) (pc' := 21) (ls' := [some (.inr (.inr (10, 0))), some (.inl x1), some (.inl x2), some (.inl x3), some (.inl x4), none, none, none]) (st' := [.inl 0, .inr (.inr (10, 0))]) (M' := M1) rfl trivial ?_
    exact k_2 _ (by rw [if_neg c_3])
theorem s_1084_39 {x1 : Int} {x2 : Int} {x3 : Int} {x4 : Int} {x5 : Int} {x6 : Int} {M : Mm} {Q : Int → Mm → Prop} (h : ((M.1 10 0 18 ≤ x6 → (Q x5 M)) ∧ (x6 < M.1 10 0 18 → ((0 ≤ x6 ∧ x6 < 12 ∧ 0 ≤ x1 ∧ x1 ≤ 11 ∧ 0 ≤ x2 ∧ x2 ≤ 11) ∧ (∀ x7 : Int, x7 = M.1 1119 0 (2304 * x6 + 48 * (4 * x2 + 1) + 4 * x1).toNat → ((x7 < 0 → (((-2147483648 ≤ x6 + 1 ∧ x6 + 1 ≤ 2147483647)) ∧ (L_1084_39 x1 x2 x3 x4 x5 (x6 + 1) M Q))) ∧ (0 ≤ x7 → ((0 ≤ x6 ∧ x6 < 12 ∧ 0 ≤ x3 ∧ x3 ≤ 11 ∧ 0 ≤ x4 ∧ x4 ≤ 11) ∧ (∀ b : Int, b = (if x7 ≠ M.1 1119 0 (2304 * x6 + 48 * (4 * x4 + 1) + 4 * x3).toNat then x5 else x6) → (((-2147483648 ≤ x6 + 1 ∧ x6 + 1 ≤ 2147483647)) ∧ (L_1084_39 x1 x2 x3 x4 b (x6 + 1) M Q))))))))))) : L_1084_39 x1 x2 x3 x4 x5 x6 M Q := by
  intro o7
  show Wp 15 1084 39 [some (.inr (.inr (10, 0))), some (.inl x1), some (.inl x2), some (.inl x3), some (.inl x4), some (.inl x5), some (.inl x6), o7] [] M (rI Q)
  refine Wp.path (k := 3) [] (C := []) (pc' := 45) (ls' := [some (.inr (.inr (10, 0))), some (.inl x1), some (.inl x2), some (.inl x3), some (.inl x4), some (.inl x5), some (.inl x6), o7]) (st' := [.inl (M.1 10 0 18), .inl x6]) (M' := M) rfl trivial ?_
  rcases Int.lt_or_le (x6) (M.1 10 0 18) with c_1 | c_1
  · replace h := h.2 c_1
    refine Wp.path (k := 1) [0] (C := [x6 < M.1 10 0 18]) (pc' := 48) (ls' := [some (.inr (.inr (10, 0))), some (.inl x1), some (.inl x2), some (.inl x3), some (.inl x4), some (.inl x5), some (.inl x6), o7]) (st' := []) (M' := M) rfl c_1 ?_
    refine Wp.path (k := 4) [] (C := []) (pc' := 53) (ls' := [some (.inr (.inr (10, 0))), some (.inl x1), some (.inl x2), some (.inl x3), some (.inl x4), some (.inl x5), some (.inl x6), o7]) (st' := [.inl x2, .inl x1, .inl x6, .inr (.inr (10, 0))]) (M' := M) rfl trivial ?_
    refine Wp.call (e1074 h.1.1 h.1.2.1 h.1.2.2.1 h.1.2.2.2.1 h.1.2.2.2.2.1 h.1.2.2.2.2.2) rfl rfl (by decide) ?_
    replace h := h.2
    rintro v_ M_ ⟨eM_, ev_⟩
    rw [eM_, ev_]
    clear eM_ ev_ v_ M_
    show Wp 15 1084 56 [some (.inr (.inr (10, 0))), some (.inl x1), some (.inl x2), some (.inl x3), some (.inl x4), some (.inl x5), some (.inl x6), o7] [.inl (M.1 1119 0 (2304 * x6 + 48 * (4 * x2 + 1) + 4 * x1).toNat)] M (rI Q)
    refine Wp.path (k := 1) [] (C := []) (pc' := 58) (ls' := [some (.inr (.inr (10, 0))), some (.inl x1), some (.inl x2), some (.inl x3), some (.inl x4), some (.inl x5), some (.inl x6), some (.inl (M.1 1119 0 (2304 * x6 + 48 * (4 * x2 + 1) + 4 * x1).toNat))]) (st' := []) (M' := M) rfl trivial ?_
    refine Bd (P := fun x7 : Int => Wp 15 1084 58 [some (.inr (.inr (10, 0))), some (.inl x1), some (.inl x2), some (.inl x3), some (.inl x4), some (.inl x5), some (.inl x6), some (.inl x7)] [] M (rI Q)) ?_
    intro x7 e_x7
    replace h := h x7 e_x7
    refine Wp.path (k := 1) [] (C := []) (pc' := 60) (ls' := [some (.inr (.inr (10, 0))), some (.inl x1), some (.inl x2), some (.inl x3), some (.inl x4), some (.inl x5), some (.inl x6), some (.inl x7)]) (st' := [.inl x7]) (M' := M) rfl trivial ?_
    rcases Int.lt_or_le (x7) (0) with c_2 | c_2
    · replace h := h.1 c_2
      refine Wp.path (k := 1) [1] (C := [x7 < 0]) (pc' := 82) (ls' := [some (.inr (.inr (10, 0))), some (.inl x1), some (.inl x2), some (.inl x3), some (.inl x4), some (.inl x5), some (.inl x6), some (.inl x7)]) (st' := []) (M' := M) rfl c_2 ?_
      refine Wp.path (k := 4) [] (C := [inR (x6 + 1)]) (pc' := 39) (ls' := [some (.inr (.inr (10, 0))), some (.inl x1), some (.inl x2), some (.inl x3), some (.inl x4), some (.inl x5), some (.inl (x6 + 1)), some (.inl x7)]) (st' := []) (M' := M) rfl h.1 ?_
      replace h := h.2
      exact h _
    · replace h := h.2 c_2
      refine Wp.path (k := 1) [0] (C := [0 ≤ x7]) (pc' := 63) (ls' := [some (.inr (.inr (10, 0))), some (.inl x1), some (.inl x2), some (.inl x3), some (.inl x4), some (.inl x5), some (.inl x6), some (.inl x7)]) (st' := []) (M' := M) rfl c_2 ?_
      refine Wp.path (k := 5) [] (C := []) (pc' := 71) (ls' := [some (.inr (.inr (10, 0))), some (.inl x1), some (.inl x2), some (.inl x3), some (.inl x4), some (.inl x5), some (.inl x6), some (.inl x7)]) (st' := [.inl x4, .inl x3, .inl x6, .inr (.inr (10, 0)), .inl x7]) (M' := M) rfl trivial ?_
      refine Wp.call (e1074 h.1.1 h.1.2.1 h.1.2.2.1 h.1.2.2.2.1 h.1.2.2.2.2.1 h.1.2.2.2.2.2) rfl rfl (by decide) ?_
      replace h := h.2
      rintro v_ M_ ⟨eM_, ev_⟩
      rw [eM_, ev_]
      clear eM_ ev_ v_ M_
      show Wp 15 1084 74 [some (.inr (.inr (10, 0))), some (.inl x1), some (.inl x2), some (.inl x3), some (.inl x4), some (.inl x5), some (.inl x6), some (.inl x7)] [.inl (M.1 1119 0 (2304 * x6 + 48 * (4 * x4 + 1) + 4 * x3).toNat), .inl x7] M (rI Q)
      have k_3 : ∀ b : Int, b = (if x7 ≠ M.1 1119 0 (2304 * x6 + 48 * (4 * x4 + 1) + 4 * x3).toNat then x5 else x6) → Wp 15 1084 84 [some (.inr (.inr (10, 0))), some (.inl x1), some (.inl x2), some (.inl x3), some (.inl x4), some (.inl x5), some (.inl x6), some (.inl x7)] [.inl b] M (rI Q) := by
        intro b e_b
        replace h := h b e_b
        refine Wp.path (k := 3) [] (C := [inR (x6 + 1)]) (pc' := 39) (ls' := [some (.inr (.inr (10, 0))), some (.inl x1), some (.inl x2), some (.inl x3), some (.inl x4), some (.inl b), some (.inl (x6 + 1)), some (.inl x7)]) (st' := []) (M' := M) rfl h.1 ?_
        replace h := h.2
        exact h _
      clear h
      rcases Decidable.em (x7 = M.1 1119 0 (2304 * x6 + 48 * (4 * x4 + 1) + 4 * x3).toNat) with c_4 | c_4
      · refine Wp.path (k := 1) [0] (C := [x7 = M.1 1119 0 (2304 * x6 + 48 * (4 * x4 + 1) + 4 * x3).toNat]) (pc' := 77) (ls' := [some (.inr (.inr (10, 0))), some (.inl x1), some (.inl x2), some (.inl x3), some (.inl x4), some (.inl x5), some (.inl x6), some (.inl x7)]) (st' := []) (M' := M) rfl c_4 ?_
        refine Wp.path (k := 2) [] (C := []) (pc' := 84) (ls' := [some (.inr (.inr (10, 0))), some (.inl x1), some (.inl x2), some (.inl x3), some (.inl x4), some (.inl x5), some (.inl x6), some (.inl x7)]) (st' := [.inl x6]) (M' := M) rfl trivial ?_
        exact k_3 _ (by rw [if_neg (not_not_intro c_4)])
      · refine Wp.path (k := 1) [1] (C := [x7 ≠ M.1 1119 0 (2304 * x6 + 48 * (4 * x4 + 1) + 4 * x3).toNat]) (pc' := 82) (ls' := [some (.inr (.inr (10, 0))), some (.inl x1), some (.inl x2), some (.inl x3), some (.inl x4), some (.inl x5), some (.inl x6), some (.inl x7)]) (st' := []) (M' := M) rfl c_4 ?_
        refine Wp.path (k := 1) [] (C := []) (pc' := 84) (ls' := [some (.inr (.inr (10, 0))), some (.inl x1), some (.inl x2), some (.inl x3), some (.inl x4), some (.inl x5), some (.inl x6), some (.inl x7)]) (st' := [.inl x5]) (M' := M) rfl trivial ?_
        exact k_3 _ (by rw [if_pos c_4])
  · replace h := h.1 c_1
    refine Wp.path (k := 1) [1] (C := [M.1 10 0 18 ≤ x6]) (pc' := 92) (ls' := [some (.inr (.inr (10, 0))), some (.inl x1), some (.inl x2), some (.inl x3), some (.inl x4), some (.inl x5), some (.inl x6), o7]) (st' := []) (M' := M) rfl c_1 ?_
    refine Wp.path (k := 1) [] (C := []) (pc' := 94) (ls' := [some (.inr (.inr (10, 0))), some (.inl x1), some (.inl x2), some (.inl x3), some (.inl x4), some (.inl x5), some (.inl x6), o7]) (st' := [.inl x5]) (M' := M) rfl trivial ?_
    exact Wp.ret rfl ⟨_, rfl, h⟩
/-- X10_path -/
def E_1085 (x1 : Int) (x2 : Int) (x3 : Int) (x4 : Int) (x5 : Int) (M : Mm) (Q : Int → Mm → Prop) : Prop := Ev 15 1085 [.inr (.inr (10, 0)), .inl x1, .inl x2, .inl x3, .inl x4, .inl x5] M (rI Q)
theorem m_1085 {x1 : Int} {x2 : Int} {x3 : Int} {x4 : Int} {x5 : Int} {M : Mm} {Q Q1 : Int → Mm → Prop} (h : E_1085 x1 x2 x3 x4 x5 M Q) (k : (∀ r M1, Q r M1 → Q1 r M1)) : E_1085 x1 x2 x3 x4 x5 M Q1 := Ev.mono h (fun v M1 ⟨r, h1, h2⟩ => ⟨r, h1, k _ _ h2⟩)
def L_1085_69 (x1 : Int) (x2 : Int) (x3 : Int) (x4 : Int) (x5 : Int) (x6 : Int) (M : Mm) (Q : Int → Mm → Prop) : Prop := ∀ o7 o8 o9 o10 o11 : Option Vv, Wp 15 1085 69 [some (.inr (.inr (10, 0))), some (.inl x1), some (.inl x2), some (.inl x3), some (.inl x4), some (.inl x5), some (.inl x6), o7, o8, o9, o10, o11] [] M (rI Q)
def L_1085_127 (x1 : Int) (x2 : Int) (x3 : Int) (x4 : Int) (x5 : Int) (x6 : Int) (x7 : Int) (M : Mm) (Q : Int → Mm → Prop) : Prop := ∀ o8 o9 o10 o11 : Option Vv, Wp 15 1085 127 [some (.inr (.inr (10, 0))), some (.inl x1), some (.inl x2), some (.inl x3), some (.inl x4), some (.inl x5), some (.inl x6), some (.inl x7), o8, o9, o10, o11] [] M (rI Q)
def L_1085_149 (x1 : Int) (x2 : Int) (x3 : Int) (x4 : Int) (x5 : Int) (x6 : Int) (x7 : Int) (x8 : Int) (x9 : Int) (M : Mm) (Q : Int → Mm → Prop) : Prop := ∀ o10 o11 : Option Vv, Wp 15 1085 149 [some (.inr (.inr (10, 0))), some (.inl x1), some (.inl x2), some (.inl x3), some (.inl x4), some (.inl x5), some (.inl x6), some (.inl x7), some (.inl x8), some (.inl x9), o10, o11] [] M (rI Q)
theorem s_1085_0 {x1 : Int} {x2 : Int} {x3 : Int} {x4 : Int} {x5 : Int} {M : Mm} {Q : Int → Mm → Prop} (h : (E_1050 M (fun M1 : Mm => ((-2147483648 ≤ (M1.1 10 0 18) - 1 ∧ (M1.1 10 0 18) - 1 ≤ 2147483647)) ∧ ((inV x1 0 ((M1.1 10 0 18) - 1) = 0 → (∀ M1_1 : Mm, M1_1 = setI M1 10 0 0 1 → ((M1_1.1 10 0 0 = 0 → (((-2147483648 ≤ 4 * x2 ∧ 4 * x2 ≤ 2147483647) ∧ (-2147483648 ≤ 4 * x3 ∧ 4 * x3 ≤ 2147483647) ∧ (-2147483648 ≤ (4 * x3) + 1 ∧ (4 * x3) + 1 ≤ 2147483647)) ∧ ((0 ≤ x1 ∧ x1 < 12) ∧ ((isV (M1_1.2 1116 0) x1 (4 * x2) ((4 * x3) + 1) ≠ 0 → (L_1085_69 x1 x2 x3 x4 x5 0 M1_1 Q)) ∧ (isV (M1_1.2 1116 0) x1 (4 * x2) ((4 * x3) + 1) = 0 → (Q (-1) M1_1)))))) ∧ (M1_1.1 10 0 0 ≠ 0 → (Q 0 M1_1))))) ∧ (inV x1 0 ((M1.1 10 0 18) - 1) ≠ 0 → (∀ b : Int, b = (if arcV x2 x3 x4 x5 = 0 then 1 else 0) → (∀ M1_2 : Mm, M1_2 = setI M1 10 0 0 b → ((M1_2.1 10 0 0 = 0 → (((-2147483648 ≤ 4 * x2 ∧ 4 * x2 ≤ 2147483647) ∧ (-2147483648 ≤ 4 * x3 ∧ 4 * x3 ≤ 2147483647) ∧ (-2147483648 ≤ (4 * x3) + 1 ∧ (4 * x3) + 1 ≤ 2147483647)) ∧ ((0 ≤ x1 ∧ x1 < 12) ∧ ((isV (M1_2.2 1116 0) x1 (4 * x2) ((4 * x3) + 1) ≠ 0 → (L_1085_69 x1 x2 x3 x4 x5 0 M1_2 Q)) ∧ (isV (M1_2.2 1116 0) x1 (4 * x2) ((4 * x3) + 1) = 0 → (Q (-1) M1_2)))))) ∧ (M1_2.1 10 0 0 ≠ 0 → (Q 0 M1_2)))))))))) : E_1085 x1 x2 x3 x4 x5 M Q := by
  show Wp 15 1085 0 [some (.inr (.inr (10, 0))), some (.inl x1), some (.inl x2), some (.inl x3), some (.inl x4), some (.inl x5), none, none, none, none, none, none] [] M (rI Q)
  refine Wp.path (k := 1) [] (C := []) (pc' := 1) (ls' := [some (.inr (.inr (10, 0))), some (.inl x1), some (.inl x2), some (.inl x3), some (.inl x4), some (.inl x5), none, none, none, none, none, none]) (st' := [.inr (.inr (10, 0))]) (M' := M) rfl trivial ?_
  refine Wp.call h rfl rfl (by decide) ?_
  rintro _ M1 ⟨rfl, h⟩
  show Wp 15 1085 4 [some (.inr (.inr (10, 0))), some (.inl x1), some (.inl x2), some (.inl x3), some (.inl x4), some (.inl x5), none, none, none, none, none, none] [] M1 (rI Q)
  refine Wp.path (k := 7) [] (C := [inR ((M1.1 10 0 18) - 1)]) (pc' := 13) (ls' := [some (.inr (.inr (10, 0))), some (.inl x1), some (.inl x2), some (.inl x3), some (.inl x4), some (.inl x5), none, none, none, none, none, none]) (st' := [.inl ((M1.1 10 0 18) - 1), .inl 0, .inl x1, .inr (.inr (10, 0))]) (M' := M1) rfl h.1 ?_
  replace h := h.2
  refine Wp.call (e1002) rfl rfl (by decide) ?_
  rintro v_ M_ ⟨eM_, ev_⟩
  rw [eM_, ev_]
  clear eM_ ev_ v_ M_
  show Wp 15 1085 16 [some (.inr (.inr (10, 0))), some (.inl x1), some (.inl x2), some (.inl x3), some (.inl x4), some (.inl x5), none, none, none, none, none, none] [.inl (inV x1 0 ((M1.1 10 0 18) - 1)), .inr (.inr (10, 0))] M1 (rI Q)
  rcases Decidable.em (inV x1 0 ((M1.1 10 0 18) - 1) = 0) with c_1 | c_1
  · replace h := h.1 c_1
    refine Wp.path (k := 1) [1] (C := [inV x1 0 ((M1.1 10 0 18) - 1) = 0]) (pc' := 35) (ls' := [some (.inr (.inr (10, 0))), some (.inl x1), some (.inl x2), some (.inl x3), some (.inl x4), some (.inl x5), none, none, none, none, none, none]) (st' := [.inr (.inr (10, 0))]) (M' := M1) rfl c_1 ?_
    refine Wp.path (k := 2) [] (C := []) (pc' := 39) (ls' := [some (.inr (.inr (10, 0))), some (.inl x1), some (.inl x2), some (.inl x3), some (.inl x4), some (.inl x5), none, none, none, none, none, none]) (st' := []) (M' := setI M1 10 0 0 1) rfl trivial ?_
    refine Bd (P := fun M1_1 : Mm => Wp 15 1085 39 [some (.inr (.inr (10, 0))), some (.inl x1), some (.inl x2), some (.inl x3), some (.inl x4), some (.inl x5), none, none, none, none, none, none] [] M1_1 (rI Q)) ?_
    intro M1_1 e_M1_1
    replace h := h M1_1 e_M1_1
    refine Wp.path (k := 2) [] (C := []) (pc' := 43) (ls' := [some (.inr (.inr (10, 0))), some (.inl x1), some (.inl x2), some (.inl x3), some (.inl x4), some (.inl x5), none, none, none, none, none, none]) (st' := [.inl (M1_1.1 10 0 0)]) (M' := M1_1) rfl trivial ?_
    rcases Decidable.em (M1_1.1 10 0 0 = 0) with c_2 | c_2
    · replace h := h.1 c_2
      refine Wp.path (k := 1) [1] (C := [M1_1.1 10 0 0 = 0]) (pc' := 48) (ls' := [some (.inr (.inr (10, 0))), some (.inl x1), some (.inl x2), some (.inl x3), some (.inl x4), some (.inl x5), none, none, none, none, none, none]) (st' := []) (M' := M1_1) rfl c_2 ?_
      refine Wp.path (k := 10) [] (C := [inR (4 * x2), inR (4 * x3), inR ((4 * x3) + 1)]) (pc' := 58) (ls' := [some (.inr (.inr (10, 0))), some (.inl x1), some (.inl x2), some (.inl x3), some (.inl x4), some (.inl x5), none, none, none, none, none, none]) (st' := [.inl ((4 * x3) + 1), .inl (4 * x2), .inl x1, .inr (.inr (10, 0))]) (M' := M1_1) rfl ⟨h.1.1, h.1.2.1, h.1.2.2⟩ ?_
      replace h := h.2
      refine Wp.call (e1026 h.1.1 h.1.2) rfl rfl (by decide) ?_
      replace h := h.2
      rintro v_ M_ ⟨eM_, ev_⟩
      rw [eM_, ev_]
      clear eM_ ev_ v_ M_
      show Wp 15 1085 61 [some (.inr (.inr (10, 0))), some (.inl x1), some (.inl x2), some (.inl x3), some (.inl x4), some (.inl x5), none, none, none, none, none, none] [.inl (isV (M1_1.2 1116 0) x1 (4 * x2) ((4 * x3) + 1))] M1_1 (rI Q)
      rcases Decidable.em (isV (M1_1.2 1116 0) x1 (4 * x2) ((4 * x3) + 1) = 0) with c_3 | c_3
      · replace h := h.2 c_3
        refine Wp.path (k := 1) [0] (C := [isV (M1_1.2 1116 0) x1 (4 * x2) ((4 * x3) + 1) = 0]) (pc' := 64) (ls' := [some (.inr (.inr (10, 0))), some (.inl x1), some (.inl x2), some (.inl x3), some (.inl x4), some (.inl x5), none, none, none, none, none, none]) (st' := []) (M' := M1_1) rfl c_3 ?_
        refine Wp.path (k := 1) [] (C := []) (pc' := 65) (ls' := [some (.inr (.inr (10, 0))), some (.inl x1), some (.inl x2), some (.inl x3), some (.inl x4), some (.inl x5), none, none, none, none, none, none]) (st' := [.inl (-1)]) (M' := M1_1) rfl trivial ?_
        exact Wp.ret rfl ⟨_, rfl, h⟩
      · replace h := h.1 c_3
        refine Wp.path (k := 1) [1] (C := [isV (M1_1.2 1116 0) x1 (4 * x2) ((4 * x3) + 1) ≠ 0]) (pc' := 66) (ls' := [some (.inr (.inr (10, 0))), some (.inl x1), some (.inl x2), some (.inl x3), some (.inl x4), some (.inl x5), none, none, none, none, none, none]) (st' := []) (M' := M1_1) rfl c_3 ?_
        refine Wp.path (k := 2) [] (C := []) (pc' := 69) (ls' := [some (.inr (.inr (10, 0))), some (.inl x1), some (.inl x2), some (.inl x3), some (.inl x4), some (.inl x5), some (.inl 0), none, none, none, none, none]) (st' := []) (M' := M1_1) rfl trivial ?_
        exact h _ _ _ _ _
    · replace h := h.2 c_2
      refine Wp.path (k := 1) [0] (C := [M1_1.1 10 0 0 ≠ 0]) (pc' := 46) (ls' := [some (.inr (.inr (10, 0))), some (.inl x1), some (.inl x2), some (.inl x3), some (.inl x4), some (.inl x5), none, none, none, none, none, none]) (st' := []) (M' := M1_1) rfl c_2 ?_
      refine Wp.path (k := 1) [] (C := []) (pc' := 47) (ls' := [some (.inr (.inr (10, 0))), some (.inl x1), some (.inl x2), some (.inl x3), some (.inl x4), some (.inl x5), none, none, none, none, none, none]) (st' := [.inl 0]) (M' := M1_1) rfl trivial ?_
      exact Wp.ret rfl ⟨_, rfl, h⟩
  · replace h := h.2 c_1
    refine Wp.path (k := 1) [0] (C := [inV x1 0 ((M1.1 10 0 18) - 1) ≠ 0]) (pc' := 19) (ls' := [some (.inr (.inr (10, 0))), some (.inl x1), some (.inl x2), some (.inl x3), some (.inl x4), some (.inl x5), none, none, none, none, none, none]) (st' := [.inr (.inr (10, 0))]) (M' := M1) rfl c_1 ?_
    refine Wp.path (k := 4) [] (C := []) (pc' := 25) (ls' := [some (.inr (.inr (10, 0))), some (.inl x1), some (.inl x2), some (.inl x3), some (.inl x4), some (.inl x5), none, none, none, none, none, none]) (st' := [.inl x5, .inl x4, .inl x3, .inl x2, .inr (.inr (10, 0))]) (M' := M1) rfl trivial ?_
    refine Wp.call (e1083) rfl rfl (by decide) ?_
    rintro v_ M_ ⟨eM_, ev_⟩
    rw [eM_, ev_]
    clear eM_ ev_ v_ M_
    show Wp 15 1085 28 [some (.inr (.inr (10, 0))), some (.inl x1), some (.inl x2), some (.inl x3), some (.inl x4), some (.inl x5), none, none, none, none, none, none] [.inl (arcV x2 x3 x4 x5), .inr (.inr (10, 0))] M1 (rI Q)
    have k_6 : ∀ b : Int, b = (if arcV x2 x3 x4 x5 = 0 then 1 else 0) → Wp 15 1085 36 [some (.inr (.inr (10, 0))), some (.inl x1), some (.inl x2), some (.inl x3), some (.inl x4), some (.inl x5), none, none, none, none, none, none] [.inl b, .inr (.inr (10, 0))] M1 (rI Q) := by
      intro b e_b
      replace h := h b e_b
      refine Wp.path (k := 1) [] (C := []) (pc' := 39) (ls' := [some (.inr (.inr (10, 0))), some (.inl x1), some (.inl x2), some (.inl x3), some (.inl x4), some (.inl x5), none, none, none, none, none, none]) (st' := []) (M' := setI M1 10 0 0 b) rfl trivial ?_
      refine Bd (P := fun M1_2 : Mm => Wp 15 1085 39 [some (.inr (.inr (10, 0))), some (.inl x1), some (.inl x2), some (.inl x3), some (.inl x4), some (.inl x5), none, none, none, none, none, none] [] M1_2 (rI Q)) ?_
      intro M1_2 e_M1_2
      replace h := h M1_2 e_M1_2
      refine Wp.path (k := 2) [] (C := []) (pc' := 43) (ls' := [some (.inr (.inr (10, 0))), some (.inl x1), some (.inl x2), some (.inl x3), some (.inl x4), some (.inl x5), none, none, none, none, none, none]) (st' := [.inl (M1_2.1 10 0 0)]) (M' := M1_2) rfl trivial ?_
      rcases Decidable.em (M1_2.1 10 0 0 = 0) with c_4 | c_4
      · replace h := h.1 c_4
        refine Wp.path (k := 1) [1] (C := [M1_2.1 10 0 0 = 0]) (pc' := 48) (ls' := [some (.inr (.inr (10, 0))), some (.inl x1), some (.inl x2), some (.inl x3), some (.inl x4), some (.inl x5), none, none, none, none, none, none]) (st' := []) (M' := M1_2) rfl c_4 ?_
        refine Wp.path (k := 10) [] (C := [inR (4 * x2), inR (4 * x3), inR ((4 * x3) + 1)]) (pc' := 58) (ls' := [some (.inr (.inr (10, 0))), some (.inl x1), some (.inl x2), some (.inl x3), some (.inl x4), some (.inl x5), none, none, none, none, none, none]) (st' := [.inl ((4 * x3) + 1), .inl (4 * x2), .inl x1, .inr (.inr (10, 0))]) (M' := M1_2) rfl ⟨h.1.1, h.1.2.1, h.1.2.2⟩ ?_
        replace h := h.2
        refine Wp.call (e1026 h.1.1 h.1.2) rfl rfl (by decide) ?_
        replace h := h.2
        rintro v_ M_ ⟨eM_, ev_⟩
        rw [eM_, ev_]
        clear eM_ ev_ v_ M_
        show Wp 15 1085 61 [some (.inr (.inr (10, 0))), some (.inl x1), some (.inl x2), some (.inl x3), some (.inl x4), some (.inl x5), none, none, none, none, none, none] [.inl (isV (M1_2.2 1116 0) x1 (4 * x2) ((4 * x3) + 1))] M1_2 (rI Q)
        rcases Decidable.em (isV (M1_2.2 1116 0) x1 (4 * x2) ((4 * x3) + 1) = 0) with c_5 | c_5
        · replace h := h.2 c_5
          refine Wp.path (k := 1) [0] (C := [isV (M1_2.2 1116 0) x1 (4 * x2) ((4 * x3) + 1) = 0]) (pc' := 64) (ls' := [some (.inr (.inr (10, 0))), some (.inl x1), some (.inl x2), some (.inl x3), some (.inl x4), some (.inl x5), none, none, none, none, none, none]) (st' := []) (M' := M1_2) rfl c_5 ?_
          refine Wp.path (k := 1) [] (C := []) (pc' := 65) (ls' := [some (.inr (.inr (10, 0))), some (.inl x1), some (.inl x2), some (.inl x3), some (.inl x4), some (.inl x5), none, none, none, none, none, none]) (st' := [.inl (-1)]) (M' := M1_2) rfl trivial ?_
          exact Wp.ret rfl ⟨_, rfl, h⟩
        · replace h := h.1 c_5
          refine Wp.path (k := 1) [1] (C := [isV (M1_2.2 1116 0) x1 (4 * x2) ((4 * x3) + 1) ≠ 0]) (pc' := 66) (ls' := [some (.inr (.inr (10, 0))), some (.inl x1), some (.inl x2), some (.inl x3), some (.inl x4), some (.inl x5), none, none, none, none, none, none]) (st' := []) (M' := M1_2) rfl c_5 ?_
          refine Wp.path (k := 2) [] (C := []) (pc' := 69) (ls' := [some (.inr (.inr (10, 0))), some (.inl x1), some (.inl x2), some (.inl x3), some (.inl x4), some (.inl x5), some (.inl 0), none, none, none, none, none]) (st' := []) (M' := M1_2) rfl trivial ?_
          exact h _ _ _ _ _
      · replace h := h.2 c_4
        refine Wp.path (k := 1) [0] (C := [M1_2.1 10 0 0 ≠ 0]) (pc' := 46) (ls' := [some (.inr (.inr (10, 0))), some (.inl x1), some (.inl x2), some (.inl x3), some (.inl x4), some (.inl x5), none, none, none, none, none, none]) (st' := []) (M' := M1_2) rfl c_4 ?_
        refine Wp.path (k := 1) [] (C := []) (pc' := 47) (ls' := [some (.inr (.inr (10, 0))), some (.inl x1), some (.inl x2), some (.inl x3), some (.inl x4), some (.inl x5), none, none, none, none, none, none]) (st' := [.inl 0]) (M' := M1_2) rfl trivial ?_
        exact Wp.ret rfl ⟨_, rfl, h⟩
    clear h
    rcases Decidable.em (arcV x2 x3 x4 x5 = 0) with c_7 | c_7
    · refine Wp.path (k := 1) [1] (C := [arcV x2 x3 x4 x5 = 0]) (pc' := 35) (ls' := [some (.inr (.inr (10, 0))), some (.inl x1), some (.inl x2), some (.inl x3), some (.inl x4), some (.inl x5), none, none, none, none, none, none]) (st' := [.inr (.inr (10, 0))]) (M' := M1) rfl c_7 ?_
      refine Wp.path (k := 1) [] (C := []) (pc' := 36) (ls' := [some (.inr (.inr (10, 0))), some (.inl x1), some (.inl x2), some (.inl x3), some (.inl x4), some (.inl x5), none, none, none, none, none, none]) (st' := [.inl 1, .inr (.inr (10, 0))]) (M' := M1) rfl trivial ?_
      exact k_6 _ (by rw [if_pos c_7])
    · refine Wp.path (k := 1) [0] (C := [arcV x2 x3 x4 x5 ≠ 0]) (pc' := 31) (ls' := [some (.inr (.inr (10, 0))), some (.inl x1), some (.inl x2), some (.inl x3), some (.inl x4), some (.inl x5), none, none, none, none, none, none]) (st' := [.inr (.inr (10, 0))]) (M' := M1) rfl c_7 ?_
      refine Wp.path (k := 2) [] (C := []) (pc' := 36) (ls' := [some (.inr (.inr (10, 0))), some (.inl x1), some (.inl x2), some (.inl x3), some (.inl x4), some (.inl x5), none, none, none, none, none, none]) (st' := [.inl 0, .inr (.inr (10, 0))]) (M' := M1) rfl trivial ?_
      exact k_6 _ (by rw [if_neg c_7])
theorem s_1085_69 {x1 : Int} {x2 : Int} {x3 : Int} {x4 : Int} {x5 : Int} {x6 : Int} {M : Mm} {Q : Int → Mm → Prop} (h : ((2304 ≤ x6 → (((-2147483648 ≤ 4 * x3 ∧ 4 * x3 ≤ 2147483647) ∧ (-2147483648 ≤ (4 * x3) + 1 ∧ (4 * x3) + 1 ≤ 2147483647) ∧ (-2147483648 ≤ 48 * ((4 * x3) + 1) ∧ 48 * ((4 * x3) + 1) ≤ 2147483647) ∧ (-2147483648 ≤ 4 * x2 ∧ 4 * x2 ≤ 2147483647) ∧ (-2147483648 ≤ (48 * ((4 * x3) + 1)) + (4 * x2) ∧ (48 * ((4 * x3) + 1)) + (4 * x2) ≤ 2147483647)) ∧ (∀ M1_1 : Mm, M1_1 = setI M 1123 0 0 ((48 * ((4 * x3) + 1)) + (4 * x2)) → (((0 ≤ M1_1.1 1123 0 0 ∧ M1_1.1 1123 0 0 < 2304)) ∧ (∀ M1_2 : Mm, M1_2 = setI M1_1 1153 0 ((M1_1.1 1123 0 0).toNat) 0 → (L_1085_127 x1 x2 x3 x4 x5 0 1 M1_2 Q)))))) ∧ (x6 < 2304 → (((0 ≤ x6 ∧ x6 < 2304)) ∧ (∀ M1 : Mm, M1 = setI M 1153 0 x6.toNat (-1) → (((-2147483648 ≤ x6 + 1 ∧ x6 + 1 ≤ 2147483647)) ∧ (L_1085_69 x1 x2 x3 x4 x5 (x6 + 1) M1 Q))))))) : L_1085_69 x1 x2 x3 x4 x5 x6 M Q := by
  intro o7 o8 o9 o10 o11
  show Wp 15 1085 69 [some (.inr (.inr (10, 0))), some (.inl x1), some (.inl x2), some (.inl x3), some (.inl x4), some (.inl x5), some (.inl x6), o7, o8, o9, o10, o11] [] M (rI Q)
  refine Wp.path (k := 2) [] (C := []) (pc' := 74) (ls' := [some (.inr (.inr (10, 0))), some (.inl x1), some (.inl x2), some (.inl x3), some (.inl x4), some (.inl x5), some (.inl x6), o7, o8, o9, o10, o11]) (st' := [.inl 2304, .inl x6]) (M' := M) rfl trivial ?_
  rcases Int.lt_or_le (x6) (2304) with c_1 | c_1
  · replace h := h.2 c_1
    refine Wp.path (k := 1) [0] (C := [x6 < 2304]) (pc' := 77) (ls' := [some (.inr (.inr (10, 0))), some (.inl x1), some (.inl x2), some (.inl x3), some (.inl x4), some (.inl x5), some (.inl x6), o7, o8, o9, o10, o11]) (st' := []) (M' := M) rfl c_1 ?_
    refine Wp.path (k := 5) [] (C := [0 ≤ x6 ∧ x6 < 2304]) (pc' := 85) (ls' := [some (.inr (.inr (10, 0))), some (.inl x1), some (.inl x2), some (.inl x3), some (.inl x4), some (.inl x5), some (.inl x6), o7, o8, o9, o10, o11]) (st' := []) (M' := setI M 1153 0 x6.toNat (-1)) rfl h.1 ?_
    replace h := h.2
    refine Bd (P := fun M1 : Mm => Wp 15 1085 85 [some (.inr (.inr (10, 0))), some (.inl x1), some (.inl x2), some (.inl x3), some (.inl x4), some (.inl x5), some (.inl x6), o7, o8, o9, o10, o11] [] M1 (rI Q)) ?_
    intro M1 e_M1
    replace h := h M1 e_M1
    refine Wp.path (k := 2) [] (C := [inR (x6 + 1)]) (pc' := 69) (ls' := [some (.inr (.inr (10, 0))), some (.inl x1), some (.inl x2), some (.inl x3), some (.inl x4), some (.inl x5), some (.inl (x6 + 1)), o7, o8, o9, o10, o11]) (st' := []) (M' := M1) rfl h.1 ?_
    replace h := h.2
    exact h _ _ _ _ _
  · replace h := h.1 c_1
    refine Wp.path (k := 1) [1] (C := [2304 ≤ x6]) (pc' := 91) (ls' := [some (.inr (.inr (10, 0))), some (.inl x1), some (.inl x2), some (.inl x3), some (.inl x4), some (.inl x5), some (.inl x6), o7, o8, o9, o10, o11]) (st' := []) (M' := M) rfl c_1 ?_
    refine Wp.path (k := 19) [] (C := [inR (4 * x3), inR ((4 * x3) + 1), inR (48 * ((4 * x3) + 1)), inR (4 * x2), inR ((48 * ((4 * x3) + 1)) + (4 * x2)), 0 ≤ 0 ∧ 0 < 2304]) (pc' := 115) (ls' := [some (.inr (.inr (10, 0))), some (.inl x1), some (.inl x2), some (.inl x3), some (.inl x4), some (.inl x5), some (.inl 0), some (.inl 1), o8, o9, o10, o11]) (st' := []) (M' := setI M 1123 0 0 ((48 * ((4 * x3) + 1)) + (4 * x2))) rfl ⟨h.1.1, h.1.2.1, h.1.2.2.1, h.1.2.2.2.1, h.1.2.2.2.2, ⟨by decide, by decide⟩⟩ ?_
    replace h := h.2
    refine Bd (P := fun M1_1 : Mm => Wp 15 1085 115 [some (.inr (.inr (10, 0))), some (.inl x1), some (.inl x2), some (.inl x3), some (.inl x4), some (.inl x5), some (.inl 0), some (.inl 1), o8, o9, o10, o11] [] M1_1 (rI Q)) ?_
    intro M1_1 e_M1_1
    replace h := h M1_1 e_M1_1
    refine Wp.path (k := 8) [] (C := [0 ≤ 0 ∧ 0 < 2304, 0 ≤ M1_1.1 1123 0 0 ∧ M1_1.1 1123 0 0 < 2304]) (pc' := 127) (ls' := [some (.inr (.inr (10, 0))), some (.inl x1), some (.inl x2), some (.inl x3), some (.inl x4), some (.inl x5), some (.inl 0), some (.inl 1), o8, o9, o10, o11]) (st' := []) (M' := setI M1_1 1153 0 ((M1_1.1 1123 0 0).toNat) 0) rfl ⟨⟨by decide, by decide⟩, h.1⟩ ?_
    replace h := h.2
    refine Bd (P := fun M1_2 : Mm => Wp 15 1085 127 [some (.inr (.inr (10, 0))), some (.inl x1), some (.inl x2), some (.inl x3), some (.inl x4), some (.inl x5), some (.inl 0), some (.inl 1), o8, o9, o10, o11] [] M1_2 (rI Q)) ?_
    intro M1_2 e_M1_2
    replace h := h M1_2 e_M1_2
    exact h _ _ _ _
theorem s_1085_127 {x1 : Int} {x2 : Int} {x3 : Int} {x4 : Int} {x5 : Int} {x6 : Int} {x7 : Int} {M : Mm} {Q : Int → Mm → Prop} (h : ((x7 ≤ x6 → (((-2147483648 ≤ 4 * x5 ∧ 4 * x5 ≤ 2147483647) ∧ (-2147483648 ≤ (4 * x5) + 1 ∧ (4 * x5) + 1 ≤ 2147483647) ∧ (-2147483648 ≤ 48 * ((4 * x5) + 1) ∧ 48 * ((4 * x5) + 1) ≤ 2147483647) ∧ (-2147483648 ≤ 4 * x4 ∧ 4 * x4 ≤ 2147483647) ∧ (-2147483648 ≤ (48 * ((4 * x5) + 1)) + (4 * x4) ∧ (48 * ((4 * x5) + 1)) + (4 * x4) ≤ 2147483647) ∧ (0 ≤ (48 * ((4 * x5) + 1)) + (4 * x4) ∧ (48 * ((4 * x5) + 1)) + (4 * x4) < 2304)) ∧ (Q (M.1 1153 0 (((48 * ((4 * x5) + 1)) + (4 * x4)).toNat)) M))) ∧ (x6 < x7 → (((0 ≤ x6 ∧ x6 < 2304)) ∧ (∀ x8 : Int, x8 = M.1 1123 0 x6.toNat → (((-2147483648 ≤ x6 + 1 ∧ x6 + 1 ≤ 2147483647)) ∧ (L_1085_149 x1 x2 x3 x4 x5 (x6 + 1) x7 x8 0 M Q))))))) : L_1085_127 x1 x2 x3 x4 x5 x6 x7 M Q := by
  intro o8 o9 o10 o11
  show Wp 15 1085 127 [some (.inr (.inr (10, 0))), some (.inl x1), some (.inl x2), some (.inl x3), some (.inl x4), some (.inl x5), some (.inl x6), some (.inl x7), o8, o9, o10, o11] [] M (rI Q)
  refine Wp.path (k := 2) [] (C := []) (pc' := 131) (ls' := [some (.inr (.inr (10, 0))), some (.inl x1), some (.inl x2), some (.inl x3), some (.inl x4), some (.inl x5), some (.inl x6), some (.inl x7), o8, o9, o10, o11]) (st' := [.inl x7, .inl x6]) (M' := M) rfl trivial ?_
  rcases Int.lt_or_le (x6) (x7) with c_1 | c_1
  · replace h := h.2 c_1
    refine Wp.path (k := 1) [0] (C := [x6 < x7]) (pc' := 134) (ls' := [some (.inr (.inr (10, 0))), some (.inl x1), some (.inl x2), some (.inl x3), some (.inl x4), some (.inl x5), some (.inl x6), some (.inl x7), o8, o9, o10, o11]) (st' := []) (M' := M) rfl c_1 ?_
    refine Wp.path (k := 5) [] (C := [0 ≤ x6 ∧ x6 < 2304]) (pc' := 143) (ls' := [some (.inr (.inr (10, 0))), some (.inl x1), some (.inl x2), some (.inl x3), some (.inl x4), some (.inl x5), some (.inl x6), some (.inl x7), some (.inl (M.1 1123 0 x6.toNat)), o9, o10, o11]) (st' := []) (M' := M) rfl h.1 ?_
    replace h := h.2
    refine Bd (P := fun x8 : Int => Wp 15 1085 143 [some (.inr (.inr (10, 0))), some (.inl x1), some (.inl x2), some (.inl x3), some (.inl x4), some (.inl x5), some (.inl x6), some (.inl x7), some (.inl x8), o9, o10, o11] [] M (rI Q)) ?_
    intro x8 e_x8
    replace h := h x8 e_x8
    refine Wp.path (k := 3) [] (C := [inR (x6 + 1)]) (pc' := 149) (ls' := [some (.inr (.inr (10, 0))), some (.inl x1), some (.inl x2), some (.inl x3), some (.inl x4), some (.inl x5), some (.inl (x6 + 1)), some (.inl x7), some (.inl x8), some (.inl 0), o10, o11]) (st' := []) (M' := M) rfl h.1 ?_
    replace h := h.2
    exact h _ _
  · replace h := h.1 c_1
    refine Wp.path (k := 1) [1] (C := [x7 ≤ x6]) (pc' := 292) (ls' := [some (.inr (.inr (10, 0))), some (.inl x1), some (.inl x2), some (.inl x3), some (.inl x4), some (.inl x5), some (.inl x6), some (.inl x7), o8, o9, o10, o11]) (st' := []) (M' := M) rfl c_1 ?_
    refine Wp.path (k := 14) [] (C := [inR (4 * x5), inR ((4 * x5) + 1), inR (48 * ((4 * x5) + 1)), inR (4 * x4), inR ((48 * ((4 * x5) + 1)) + (4 * x4)), 0 ≤ (48 * ((4 * x5) + 1)) + (4 * x4) ∧ (48 * ((4 * x5) + 1)) + (4 * x4) < 2304]) (pc' := 311) (ls' := [some (.inr (.inr (10, 0))), some (.inl x1), some (.inl x2), some (.inl x3), some (.inl x4), some (.inl x5), some (.inl x6), some (.inl x7), o8, o9, o10, o11]) (st' := [.inl (M.1 1153 0 (((48 * ((4 * x5) + 1)) + (4 * x4)).toNat))]) (M' := M) rfl ⟨h.1.1, h.1.2.1, h.1.2.2.1, h.1.2.2.2.1, h.1.2.2.2.2.1, h.1.2.2.2.2.2⟩ ?_
    replace h := h.2
    exact Wp.ret rfl ⟨_, rfl, h⟩
theorem s_1085_149 {x1 : Int} {x2 : Int} {x3 : Int} {x4 : Int} {x5 : Int} {x6 : Int} {x7 : Int} {x8 : Int} {x9 : Int} {M : Mm} {Q : Int → Mm → Prop} (h : ((4 ≤ x9 → (L_1085_127 x1 x2 x3 x4 x5 x6 x7 M Q)) ∧ (x9 < 4 → (((-2147483648 ≤ x8 ∧ x8 ≤ 2147483647)) ∧ (∀ d : Int, d = Int.tmod x8 48 → (∀ b : Int, b = (if x9 ≠ 0 then (if x9 ≠ 2 then 0 else (-1)) else 1) → (((-2147483648 ≤ d + b ∧ d + b ≤ 2147483647)) ∧ (∀ x10 : Int, x10 = d + b → (((-2147483648 ≤ x8 ∧ x8 ≤ 2147483647)) ∧ (∀ d_1 : Int, d_1 = Int.tdiv x8 48 → (∀ b_1 : Int, b_1 = (if x9 ≠ 1 then (if x9 ≠ 3 then 0 else (-1)) else 1) → (((-2147483648 ≤ d_1 + b_1 ∧ d_1 + b_1 ≤ 2147483647)) ∧ (∀ x11 : Int, x11 = d_1 + b_1 → ((0 ≤ x1 ∧ x1 < 12) ∧ ((isV (M.2 1116 0) x1 x10 x11 = 0 → (((-2147483648 ≤ x9 + 1 ∧ x9 + 1 ≤ 2147483647)) ∧ (L_1085_149 x1 x2 x3 x4 x5 x6 x7 x8 (x9 + 1) M Q))) ∧ (isV (M.2 1116 0) x1 x10 x11 ≠ 0 → (((-2147483648 ≤ 48 * x11 ∧ 48 * x11 ≤ 2147483647) ∧ (-2147483648 ≤ (48 * x11) + x10 ∧ (48 * x11) + x10 ≤ 2147483647) ∧ (0 ≤ (48 * x11) + x10 ∧ (48 * x11) + x10 < 2304)) ∧ ((M.1 1153 0 (((48 * x11) + x10).toNat) < 0 → (((-2147483648 ≤ 48 * x11 ∧ 48 * x11 ≤ 2147483647) ∧ (-2147483648 ≤ (48 * x11) + x10 ∧ (48 * x11) + x10 ≤ 2147483647) ∧ (0 ≤ x8 ∧ x8 < 2304) ∧ (-2147483648 ≤ (M.1 1153 0 x8.toNat) + 1 ∧ (M.1 1153 0 x8.toNat) + 1 ≤ 2147483647) ∧ (0 ≤ (48 * x11) + x10 ∧ (48 * x11) + x10 < 2304)) ∧ (∀ M1 : Mm, M1 = setI M 1153 0 (((48 * x11) + x10).toNat) ((M.1 1153 0 x8.toNat) + 1) → (((-2147483648 ≤ 48 * x11 ∧ 48 * x11 ≤ 2147483647) ∧ (-2147483648 ≤ (48 * x11) + x10 ∧ (48 * x11) + x10 ≤ 2147483647) ∧ (0 ≤ x7 ∧ x7 < 2304)) ∧ (∀ M1_1 : Mm, M1_1 = setI M1 1123 0 x7.toNat ((48 * x11) + x10) → (((-2147483648 ≤ x7 + 1 ∧ x7 + 1 ≤ 2147483647) ∧ (-2147483648 ≤ x9 + 1 ∧ x9 + 1 ≤ 2147483647)) ∧ (L_1085_149 x1 x2 x3 x4 x5 x6 (x7 + 1) x8 (x9 + 1) M1_1 Q))))))) ∧ (0 ≤ M.1 1153 0 (((48 * x11) + x10).toNat) → (((-2147483648 ≤ x9 + 1 ∧ x9 + 1 ≤ 2147483647)) ∧ (L_1085_149 x1 x2 x3 x4 x5 x6 x7 x8 (x9 + 1) M Q))))))))))))))))))))) : L_1085_149 x1 x2 x3 x4 x5 x6 x7 x8 x9 M Q := by
  intro o10 o11
  show Wp 15 1085 149 [some (.inr (.inr (10, 0))), some (.inl x1), some (.inl x2), some (.inl x3), some (.inl x4), some (.inl x5), some (.inl x6), some (.inl x7), some (.inl x8), some (.inl x9), o10, o11] [] M (rI Q)
  refine Wp.path (k := 2) [] (C := []) (pc' := 152) (ls' := [some (.inr (.inr (10, 0))), some (.inl x1), some (.inl x2), some (.inl x3), some (.inl x4), some (.inl x5), some (.inl x6), some (.inl x7), some (.inl x8), some (.inl x9), o10, o11]) (st' := [.inl 4, .inl x9]) (M' := M) rfl trivial ?_
  rcases Int.lt_or_le (x9) (4) with c_1 | c_1
  · replace h := h.2 c_1
    refine Wp.path (k := 1) [0] (C := [x9 < 4]) (pc' := 155) (ls' := [some (.inr (.inr (10, 0))), some (.inl x1), some (.inl x2), some (.inl x3), some (.inl x4), some (.inl x5), some (.inl x6), some (.inl x7), some (.inl x8), some (.inl x9), o10, o11]) (st' := []) (M' := M) rfl c_1 ?_
    refine Wp.path (k := 3) [] (C := [inR x8 ∧ 0 < 48 ∧ inR 48]) (pc' := 160) (ls' := [some (.inr (.inr (10, 0))), some (.inl x1), some (.inl x2), some (.inl x3), some (.inl x4), some (.inl x5), some (.inl x6), some (.inl x7), some (.inl x8), some (.inl x9), o10, o11]) (st' := [.inl (Int.tmod x8 48)]) (M' := M) rfl ⟨h.1, by decide, ⟨by decide, by decide⟩⟩ ?_
    replace h := h.2
    refine Bd (P := fun d : Int => Wp 15 1085 160 [some (.inr (.inr (10, 0))), some (.inl x1), some (.inl x2), some (.inl x3), some (.inl x4), some (.inl x5), some (.inl x6), some (.inl x7), some (.inl x8), some (.inl x9), o10, o11] [.inl d] M (rI Q)) ?_
    intro d e_d
    replace h := h d e_d
    refine Wp.path (k := 1) [] (C := []) (pc' := 162) (ls' := [some (.inr (.inr (10, 0))), some (.inl x1), some (.inl x2), some (.inl x3), some (.inl x4), some (.inl x5), some (.inl x6), some (.inl x7), some (.inl x8), some (.inl x9), o10, o11]) (st' := [.inl x9, .inl d]) (M' := M) rfl trivial ?_
    have k_7 : ∀ b : Int, b = (if x9 ≠ 0 then (if x9 ≠ 2 then 0 else (-1)) else 1) → Wp 15 1085 180 [some (.inr (.inr (10, 0))), some (.inl x1), some (.inl x2), some (.inl x3), some (.inl x4), some (.inl x5), some (.inl x6), some (.inl x7), some (.inl x8), some (.inl x9), o10, o11] [.inl b, .inl d] M (rI Q) := by
      intro b e_b
      replace h := h b e_b
      refine Wp.path (k := 2) [] (C := [inR (d + b)]) (pc' := 183) (ls' := [some (.inr (.inr (10, 0))), some (.inl x1), some (.inl x2), some (.inl x3), some (.inl x4), some (.inl x5), some (.inl x6), some (.inl x7), some (.inl x8), some (.inl x9), some (.inl (d + b)), o11]) (st' := []) (M' := M) rfl h.1 ?_
      replace h := h.2
      refine Bd (P := fun x10 : Int => Wp 15 1085 183 [some (.inr (.inr (10, 0))), some (.inl x1), some (.inl x2), some (.inl x3), some (.inl x4), some (.inl x5), some (.inl x6), some (.inl x7), some (.inl x8), some (.inl x9), some (.inl x10), o11] [] M (rI Q)) ?_
      intro x10 e_x10
      replace h := h x10 e_x10
      refine Wp.path (k := 3) [] (C := [inR x8 ∧ 0 < 48 ∧ inR 48]) (pc' := 188) (ls' := [some (.inr (.inr (10, 0))), some (.inl x1), some (.inl x2), some (.inl x3), some (.inl x4), some (.inl x5), some (.inl x6), some (.inl x7), some (.inl x8), some (.inl x9), some (.inl x10), o11]) (st' := [.inl (Int.tdiv x8 48)]) (M' := M) rfl ⟨h.1, by decide, ⟨by decide, by decide⟩⟩ ?_
      replace h := h.2
      refine Bd (P := fun d_1 : Int => Wp 15 1085 188 [some (.inr (.inr (10, 0))), some (.inl x1), some (.inl x2), some (.inl x3), some (.inl x4), some (.inl x5), some (.inl x6), some (.inl x7), some (.inl x8), some (.inl x9), some (.inl x10), o11] [.inl d_1] M (rI Q)) ?_
      intro d_1 e_d_1
      replace h := h d_1 e_d_1
      refine Wp.path (k := 2) [] (C := []) (pc' := 191) (ls' := [some (.inr (.inr (10, 0))), some (.inl x1), some (.inl x2), some (.inl x3), some (.inl x4), some (.inl x5), some (.inl x6), some (.inl x7), some (.inl x8), some (.inl x9), some (.inl x10), o11]) (st' := [.inl 1, .inl x9, .inl d_1]) (M' := M) rfl trivial ?_
      have k_4 : ∀ b_1 : Int, b_1 = (if x9 ≠ 1 then (if x9 ≠ 3 then 0 else (-1)) else 1) → Wp 15 1085 209 [some (.inr (.inr (10, 0))), some (.inl x1), some (.inl x2), some (.inl x3), some (.inl x4), some (.inl x5), some (.inl x6), some (.inl x7), some (.inl x8), some (.inl x9), some (.inl x10), o11] [.inl b_1, .inl d_1] M (rI Q) := by
        intro b_1 e_b_1
        replace h := h b_1 e_b_1
        refine Wp.path (k := 2) [] (C := [inR (d_1 + b_1)]) (pc' := 212) (ls' := [some (.inr (.inr (10, 0))), some (.inl x1), some (.inl x2), some (.inl x3), some (.inl x4), some (.inl x5), some (.inl x6), some (.inl x7), some (.inl x8), some (.inl x9), some (.inl x10), some (.inl (d_1 + b_1))]) (st' := []) (M' := M) rfl h.1 ?_
        replace h := h.2
        refine Bd (P := fun x11 : Int => Wp 15 1085 212 [some (.inr (.inr (10, 0))), some (.inl x1), some (.inl x2), some (.inl x3), some (.inl x4), some (.inl x5), some (.inl x6), some (.inl x7), some (.inl x8), some (.inl x9), some (.inl x10), some (.inl x11)] [] M (rI Q)) ?_
        intro x11 e_x11
        replace h := h x11 e_x11
        refine Wp.path (k := 4) [] (C := []) (pc' := 218) (ls' := [some (.inr (.inr (10, 0))), some (.inl x1), some (.inl x2), some (.inl x3), some (.inl x4), some (.inl x5), some (.inl x6), some (.inl x7), some (.inl x8), some (.inl x9), some (.inl x10), some (.inl x11)]) (st' := [.inl x11, .inl x10, .inl x1, .inr (.inr (10, 0))]) (M' := M) rfl trivial ?_
        refine Wp.call (e1026 h.1.1 h.1.2) rfl rfl (by decide) ?_
        replace h := h.2
        rintro v_ M_ ⟨eM_, ev_⟩
        rw [eM_, ev_]
        clear eM_ ev_ v_ M_
        show Wp 15 1085 221 [some (.inr (.inr (10, 0))), some (.inl x1), some (.inl x2), some (.inl x3), some (.inl x4), some (.inl x5), some (.inl x6), some (.inl x7), some (.inl x8), some (.inl x9), some (.inl x10), some (.inl x11)] [.inl (isV (M.2 1116 0) x1 x10 x11)] M (rI Q)
        rcases Decidable.em (isV (M.2 1116 0) x1 x10 x11 = 0) with c_2 | c_2
        · replace h := h.1 c_2
          refine Wp.path (k := 1) [1] (C := [isV (M.2 1116 0) x1 x10 x11 = 0]) (pc' := 283) (ls' := [some (.inr (.inr (10, 0))), some (.inl x1), some (.inl x2), some (.inl x3), some (.inl x4), some (.inl x5), some (.inl x6), some (.inl x7), some (.inl x8), some (.inl x9), some (.inl x10), some (.inl x11)]) (st' := []) (M' := M) rfl c_2 ?_
          refine Wp.path (k := 2) [] (C := [inR (x9 + 1)]) (pc' := 149) (ls' := [some (.inr (.inr (10, 0))), some (.inl x1), some (.inl x2), some (.inl x3), some (.inl x4), some (.inl x5), some (.inl x6), some (.inl x7), some (.inl x8), some (.inl (x9 + 1)), some (.inl x10), some (.inl x11)]) (st' := []) (M' := M) rfl h.1 ?_
          replace h := h.2
          exact h _ _
        · replace h := h.2 c_2
          refine Wp.path (k := 1) [0] (C := [isV (M.2 1116 0) x1 x10 x11 ≠ 0]) (pc' := 224) (ls' := [some (.inr (.inr (10, 0))), some (.inl x1), some (.inl x2), some (.inl x3), some (.inl x4), some (.inl x5), some (.inl x6), some (.inl x7), some (.inl x8), some (.inl x9), some (.inl x10), some (.inl x11)]) (st' := []) (M' := M) rfl c_2 ?_
          refine Wp.path (k := 8) [] (C := [inR (48 * x11), inR ((48 * x11) + x10), 0 ≤ (48 * x11) + x10 ∧ (48 * x11) + x10 < 2304]) (pc' := 237) (ls' := [some (.inr (.inr (10, 0))), some (.inl x1), some (.inl x2), some (.inl x3), some (.inl x4), some (.inl x5), some (.inl x6), some (.inl x7), some (.inl x8), some (.inl x9), some (.inl x10), some (.inl x11)]) (st' := [.inl (M.1 1153 0 (((48 * x11) + x10).toNat))]) (M' := M) rfl ⟨h.1.1, h.1.2.1, h.1.2.2⟩ ?_
          replace h := h.2
          rcases Int.lt_or_le (M.1 1153 0 (((48 * x11) + x10).toNat)) (0) with c_3 | c_3
          · replace h := h.1 c_3
            refine Wp.path (k := 1) [1] (C := [M.1 1153 0 (((48 * x11) + x10).toNat) < 0]) (pc' := 243) (ls' := [some (.inr (.inr (10, 0))), some (.inl x1), some (.inl x2), some (.inl x3), some (.inl x4), some (.inl x5), some (.inl x6), some (.inl x7), some (.inl x8), some (.inl x9), some (.inl x10), some (.inl x11)]) (st' := []) (M' := M) rfl c_3 ?_
            refine Wp.path (k := 14) [] (C := [inR (48 * x11), inR ((48 * x11) + x10), 0 ≤ x8 ∧ x8 < 2304, inR ((M.1 1153 0 x8.toNat) + 1), 0 ≤ (48 * x11) + x10 ∧ (48 * x11) + x10 < 2304]) (pc' := 265) (ls' := [some (.inr (.inr (10, 0))), some (.inl x1), some (.inl x2), some (.inl x3), some (.inl x4), some (.inl x5), some (.inl x6), some (.inl x7), some (.inl x8), some (.inl x9), some (.inl x10), some (.inl x11)]) (st' := []) (M' := setI M 1153 0 (((48 * x11) + x10).toNat) ((M.1 1153 0 x8.toNat) + 1)) rfl ⟨h.1.1, h.1.2.1, h.1.2.2.1, h.1.2.2.2.1, h.1.2.2.2.2⟩ ?_
            replace h := h.2
            refine Bd (P := fun M1 : Mm => Wp 15 1085 265 [some (.inr (.inr (10, 0))), some (.inl x1), some (.inl x2), some (.inl x3), some (.inl x4), some (.inl x5), some (.inl x6), some (.inl x7), some (.inl x8), some (.inl x9), some (.inl x10), some (.inl x11)] [] M1 (rI Q)) ?_
            intro M1 e_M1
            replace h := h M1 e_M1
            refine Wp.path (k := 9) [] (C := [inR (48 * x11), inR ((48 * x11) + x10), 0 ≤ x7 ∧ x7 < 2304]) (pc' := 280) (ls' := [some (.inr (.inr (10, 0))), some (.inl x1), some (.inl x2), some (.inl x3), some (.inl x4), some (.inl x5), some (.inl x6), some (.inl x7), some (.inl x8), some (.inl x9), some (.inl x10), some (.inl x11)]) (st' := []) (M' := setI M1 1123 0 x7.toNat ((48 * x11) + x10)) rfl ⟨h.1.1, h.1.2.1, h.1.2.2⟩ ?_
            replace h := h.2
            refine Bd (P := fun M1_1 : Mm => Wp 15 1085 280 [some (.inr (.inr (10, 0))), some (.inl x1), some (.inl x2), some (.inl x3), some (.inl x4), some (.inl x5), some (.inl x6), some (.inl x7), some (.inl x8), some (.inl x9), some (.inl x10), some (.inl x11)] [] M1_1 (rI Q)) ?_
            intro M1_1 e_M1_1
            replace h := h M1_1 e_M1_1
            refine Wp.path (k := 3) [] (C := [inR (x7 + 1), inR (x9 + 1)]) (pc' := 149) (ls' := [some (.inr (.inr (10, 0))), some (.inl x1), some (.inl x2), some (.inl x3), some (.inl x4), some (.inl x5), some (.inl x6), some (.inl (x7 + 1)), some (.inl x8), some (.inl (x9 + 1)), some (.inl x10), some (.inl x11)]) (st' := []) (M' := M1_1) rfl ⟨h.1.1, h.1.2⟩ ?_
            replace h := h.2
            exact h _ _
          · replace h := h.2 c_3
            refine Wp.path (k := 1) [0] (C := [0 ≤ M.1 1153 0 (((48 * x11) + x10).toNat)]) (pc' := 240) (ls' := [some (.inr (.inr (10, 0))), some (.inl x1), some (.inl x2), some (.inl x3), some (.inl x4), some (.inl x5), some (.inl x6), some (.inl x7), some (.inl x8), some (.inl x9), some (.inl x10), some (.inl x11)]) (st' := []) (M' := M) rfl c_3 ?_
            refine Wp.path (k := 3) [] (C := [inR (x9 + 1)]) (pc' := 149) (ls' := [some (.inr (.inr (10, 0))), some (.inl x1), some (.inl x2), some (.inl x3), some (.inl x4), some (.inl x5), some (.inl x6), some (.inl x7), some (.inl x8), some (.inl (x9 + 1)), some (.inl x10), some (.inl x11)]) (st' := []) (M' := M) rfl h.1 ?_
            replace h := h.2
            exact h _ _
      clear h
      rcases Decidable.em (x9 = 1) with c_5 | c_5
      · refine Wp.path (k := 1) [0] (C := [x9 = 1]) (pc' := 194) (ls' := [some (.inr (.inr (10, 0))), some (.inl x1), some (.inl x2), some (.inl x3), some (.inl x4), some (.inl x5), some (.inl x6), some (.inl x7), some (.inl x8), some (.inl x9), some (.inl x10), o11]) (st' := [.inl d_1]) (M' := M) rfl c_5 ?_
        refine Wp.path (k := 2) [] (C := []) (pc' := 209) (ls' := [some (.inr (.inr (10, 0))), some (.inl x1), some (.inl x2), some (.inl x3), some (.inl x4), some (.inl x5), some (.inl x6), some (.inl x7), some (.inl x8), some (.inl x9), some (.inl x10), o11]) (st' := [.inl 1, .inl d_1]) (M' := M) rfl trivial ?_
        exact k_4 _ (by rw [if_neg (not_not_intro c_5)])
      · refine Wp.path (k := 1) [1] (C := [x9 ≠ 1]) (pc' := 198) (ls' := [some (.inr (.inr (10, 0))), some (.inl x1), some (.inl x2), some (.inl x3), some (.inl x4), some (.inl x5), some (.inl x6), some (.inl x7), some (.inl x8), some (.inl x9), some (.inl x10), o11]) (st' := [.inl d_1]) (M' := M) rfl c_5 ?_
        refine Wp.path (k := 2) [] (C := []) (pc' := 201) (ls' := [some (.inr (.inr (10, 0))), some (.inl x1), some (.inl x2), some (.inl x3), some (.inl x4), some (.inl x5), some (.inl x6), some (.inl x7), some (.inl x8), some (.inl x9), some (.inl x10), o11]) (st' := [.inl 3, .inl x9, .inl d_1]) (M' := M) rfl trivial ?_
        rcases Decidable.em (x9 = 3) with c_6 | c_6
        · refine Wp.path (k := 1) [0] (C := [x9 = 3]) (pc' := 204) (ls' := [some (.inr (.inr (10, 0))), some (.inl x1), some (.inl x2), some (.inl x3), some (.inl x4), some (.inl x5), some (.inl x6), some (.inl x7), some (.inl x8), some (.inl x9), some (.inl x10), o11]) (st' := [.inl d_1]) (M' := M) rfl c_6 ?_
          refine Wp.path (k := 2) [] (C := []) (pc' := 209) (ls' := [some (.inr (.inr (10, 0))), some (.inl x1), some (.inl x2), some (.inl x3), some (.inl x4), some (.inl x5), some (.inl x6), some (.inl x7), some (.inl x8), some (.inl x9), some (.inl x10), o11]) (st' := [.inl (-1), .inl d_1]) (M' := M) rfl trivial ?_
          exact k_4 _ (by rw [if_pos c_5, if_neg (not_not_intro c_6)])
        · refine Wp.path (k := 1) [1] (C := [x9 ≠ 3]) (pc' := 208) (ls' := [some (.inr (.inr (10, 0))), some (.inl x1), some (.inl x2), some (.inl x3), some (.inl x4), some (.inl x5), some (.inl x6), some (.inl x7), some (.inl x8), some (.inl x9), some (.inl x10), o11]) (st' := [.inl d_1]) (M' := M) rfl c_6 ?_
          refine Wp.path (k := 1) [] (C := []) (pc' := 209) (ls' := [some (.inr (.inr (10, 0))), some (.inl x1), some (.inl x2), some (.inl x3), some (.inl x4), some (.inl x5), some (.inl x6), some (.inl x7), some (.inl x8), some (.inl x9), some (.inl x10), o11]) (st' := [.inl 0, .inl d_1]) (M' := M) rfl trivial ?_
          exact k_4 _ (by rw [if_pos c_5, if_pos c_6])
    clear h
    rcases Decidable.em (x9 = 0) with c_8 | c_8
    · refine Wp.path (k := 1) [0] (C := [x9 = 0]) (pc' := 165) (ls' := [some (.inr (.inr (10, 0))), some (.inl x1), some (.inl x2), some (.inl x3), some (.inl x4), some (.inl x5), some (.inl x6), some (.inl x7), some (.inl x8), some (.inl x9), o10, o11]) (st' := [.inl d]) (M' := M) rfl c_8 ?_
      refine Wp.path (k := 2) [] (C := []) (pc' := 180) (ls' := [some (.inr (.inr (10, 0))), some (.inl x1), some (.inl x2), some (.inl x3), some (.inl x4), some (.inl x5), some (.inl x6), some (.inl x7), some (.inl x8), some (.inl x9), o10, o11]) (st' := [.inl 1, .inl d]) (M' := M) rfl trivial ?_
      exact k_7 _ (by rw [if_neg (not_not_intro c_8)])
    · refine Wp.path (k := 1) [1] (C := [x9 ≠ 0]) (pc' := 169) (ls' := [some (.inr (.inr (10, 0))), some (.inl x1), some (.inl x2), some (.inl x3), some (.inl x4), some (.inl x5), some (.inl x6), some (.inl x7), some (.inl x8), some (.inl x9), o10, o11]) (st' := [.inl d]) (M' := M) rfl c_8 ?_
      refine Wp.path (k := 2) [] (C := []) (pc' := 172) (ls' := [some (.inr (.inr (10, 0))), some (.inl x1), some (.inl x2), some (.inl x3), some (.inl x4), some (.inl x5), some (.inl x6), some (.inl x7), some (.inl x8), some (.inl x9), o10, o11]) (st' := [.inl 2, .inl x9, .inl d]) (M' := M) rfl trivial ?_
      rcases Decidable.em (x9 = 2) with c_9 | c_9
      · refine Wp.path (k := 1) [0] (C := [x9 = 2]) (pc' := 175) (ls' := [some (.inr (.inr (10, 0))), some (.inl x1), some (.inl x2), some (.inl x3), some (.inl x4), some (.inl x5), some (.inl x6), some (.inl x7), some (.inl x8), some (.inl x9), o10, o11]) (st' := [.inl d]) (M' := M) rfl c_9 ?_
        refine Wp.path (k := 2) [] (C := []) (pc' := 180) (ls' := [some (.inr (.inr (10, 0))), some (.inl x1), some (.inl x2), some (.inl x3), some (.inl x4), some (.inl x5), some (.inl x6), some (.inl x7), some (.inl x8), some (.inl x9), o10, o11]) (st' := [.inl (-1), .inl d]) (M' := M) rfl trivial ?_
        exact k_7 _ (by rw [if_pos c_8, if_neg (not_not_intro c_9)])
      · refine Wp.path (k := 1) [1] (C := [x9 ≠ 2]) (pc' := 179) (ls' := [some (.inr (.inr (10, 0))), some (.inl x1), some (.inl x2), some (.inl x3), some (.inl x4), some (.inl x5), some (.inl x6), some (.inl x7), some (.inl x8), some (.inl x9), o10, o11]) (st' := [.inl d]) (M' := M) rfl c_9 ?_
        refine Wp.path (k := 1) [] (C := []) (pc' := 180) (ls' := [some (.inr (.inr (10, 0))), some (.inl x1), some (.inl x2), some (.inl x3), some (.inl x4), some (.inl x5), some (.inl x6), some (.inl x7), some (.inl x8), some (.inl x9), o10, o11]) (st' := [.inl 0, .inl d]) (M' := M) rfl trivial ?_
        exact k_7 _ (by rw [if_pos c_8, if_pos c_9])
  · replace h := h.1 c_1
    refine Wp.path (k := 1) [1] (C := [4 ≤ x9]) (pc' := 289) (ls' := [some (.inr (.inr (10, 0))), some (.inl x1), some (.inl x2), some (.inl x3), some (.inl x4), some (.inl x5), some (.inl x6), some (.inl x7), some (.inl x8), some (.inl x9), o10, o11]) (st' := []) (M' := M) rfl c_1 ?_
    refine Wp.path (k := 1) [] (C := []) (pc' := 127) (ls' := [some (.inr (.inr (10, 0))), some (.inl x1), some (.inl x2), some (.inl x3), some (.inl x4), some (.inl x5), some (.inl x6), some (.inl x7), some (.inl x8), some (.inl x9), o10, o11]) (st' := []) (M' := M) rfl trivial ?_
    exact h _ _ _ _
/-- X10_count -/
def E_1086 (x1 : Int) (M : Mm) (Q : Int → Mm → Prop) : Prop := Ev 2 1086 [.inr (.inr (10, 0)), .inl x1] M (rI Q)
theorem m_1086 {x1 : Int} {M : Mm} {Q Q1 : Int → Mm → Prop} (h : E_1086 x1 M Q) (k : (∀ r M1, Q r M1 → Q1 r M1)) : E_1086 x1 M Q1 := Ev.mono h (fun v M1 ⟨r, h1, h2⟩ => ⟨r, h1, k _ _ h2⟩)
theorem s_1086_0 {x1 : Int} {M : Mm} {Q : Int → Mm → Prop} (h : (∀ b : Int, b = (if inV x1 0 3 = 0 then 1 else 0) → (∀ M1 : Mm, M1 = setI M 10 0 0 b → ((x1 = 0 → (E_1005 M1 (fun (r : Int) (M1_1 : Mm) => (Q r M1_1)))) ∧ (x1 = 1 → (Q (M1.1 10 0 6) M1)) ∧ (x1 = 2 → (Q (M1.1 10 0 7) M1)) ∧ (x1 = 3 → (Q (M1.1 10 0 11) M1)) ∧ (x1 ≠ 0 ∧ x1 ≠ 1 ∧ x1 ≠ 2 ∧ x1 ≠ 3 → (Q 0 M1)))))) : E_1086 x1 M Q := by
  show Wp 2 1086 0 [some (.inr (.inr (10, 0))), some (.inl x1)] [] M (rI Q)
  refine Wp.path (k := 4) [] (C := []) (pc' := 4) (ls' := [some (.inr (.inr (10, 0))), some (.inl x1)]) (st' := [.inl 3, .inl 0, .inl x1, .inr (.inr (10, 0))]) (M' := M) rfl trivial ?_
  refine Wp.call (e1002) rfl rfl (by decide) ?_
  rintro v_ M_ ⟨eM_, ev_⟩
  rw [eM_, ev_]
  clear eM_ ev_ v_ M_
  show Wp 2 1086 7 [some (.inr (.inr (10, 0))), some (.inl x1)] [.inl (inV x1 0 3), .inr (.inr (10, 0))] M (rI Q)
  have k_5 : ∀ b : Int, b = (if inV x1 0 3 = 0 then 1 else 0) → Wp 2 1086 15 [some (.inr (.inr (10, 0))), some (.inl x1)] [.inl b, .inr (.inr (10, 0))] M (rI Q) := by
    intro b e_b
    replace h := h b e_b
    refine Wp.path (k := 1) [] (C := []) (pc' := 18) (ls' := [some (.inr (.inr (10, 0))), some (.inl x1)]) (st' := []) (M' := setI M 10 0 0 b) rfl trivial ?_
    refine Bd (P := fun M1 : Mm => Wp 2 1086 18 [some (.inr (.inr (10, 0))), some (.inl x1)] [] M1 (rI Q)) ?_
    intro M1 e_M1
    replace h := h M1 e_M1
    refine Wp.path (k := 1) [] (C := []) (pc' := 19) (ls' := [some (.inr (.inr (10, 0))), some (.inl x1)]) (st' := [.inl x1]) (M' := M1) rfl trivial ?_
    rcases Decidable.em (x1 = 0) with c_1 | c_1
    · replace h := h.1 c_1
      refine Wp.path (k := 1) [48] (C := [tswT 19 49 0 3 #[29, 34, 39, 44] x1 = 48]) (pc' := 48) (ls' := [some (.inr (.inr (10, 0))), some (.inl x1)]) (st' := []) (M' := M1) rfl (by rw [c_1]; rfl) ?_
      refine Wp.path (k := 1) [] (C := []) (pc' := 49) (ls' := [some (.inr (.inr (10, 0))), some (.inl x1)]) (st' := [.inr (.inr (10, 0))]) (M' := M1) rfl trivial ?_
      refine Wp.call h rfl rfl (by decide) ?_
      rintro _ M1_1 ⟨r, rfl, h⟩
      show Wp 2 1086 52 [some (.inr (.inr (10, 0))), some (.inl x1)] [.inl r] M1_1 (rI Q)
      exact Wp.ret rfl ⟨_, rfl, h⟩
    replace h := h.2
    rcases Decidable.em (x1 = 1) with c_2 | c_2
    · replace h := h.1 c_2
      refine Wp.path (k := 1) [53] (C := [tswT 19 49 0 3 #[29, 34, 39, 44] x1 = 53]) (pc' := 53) (ls' := [some (.inr (.inr (10, 0))), some (.inl x1)]) (st' := []) (M' := M1) rfl (by rw [c_2]; rfl) ?_
      refine Wp.path (k := 2) [] (C := []) (pc' := 57) (ls' := [some (.inr (.inr (10, 0))), some (.inl x1)]) (st' := [.inl (M1.1 10 0 6)]) (M' := M1) rfl trivial ?_
      exact Wp.ret rfl ⟨_, rfl, h⟩
    replace h := h.2
    rcases Decidable.em (x1 = 2) with c_3 | c_3
    · replace h := h.1 c_3
      refine Wp.path (k := 1) [58] (C := [tswT 19 49 0 3 #[29, 34, 39, 44] x1 = 58]) (pc' := 58) (ls' := [some (.inr (.inr (10, 0))), some (.inl x1)]) (st' := []) (M' := M1) rfl (by rw [c_3]; rfl) ?_
      refine Wp.path (k := 2) [] (C := []) (pc' := 62) (ls' := [some (.inr (.inr (10, 0))), some (.inl x1)]) (st' := [.inl (M1.1 10 0 7)]) (M' := M1) rfl trivial ?_
      exact Wp.ret rfl ⟨_, rfl, h⟩
    replace h := h.2
    rcases Decidable.em (x1 = 3) with c_4 | c_4
    · replace h := h.1 c_4
      refine Wp.path (k := 1) [63] (C := [tswT 19 49 0 3 #[29, 34, 39, 44] x1 = 63]) (pc' := 63) (ls' := [some (.inr (.inr (10, 0))), some (.inl x1)]) (st' := []) (M' := M1) rfl (by rw [c_4]; rfl) ?_
      refine Wp.path (k := 2) [] (C := []) (pc' := 67) (ls' := [some (.inr (.inr (10, 0))), some (.inl x1)]) (st' := [.inl (M1.1 10 0 11)]) (M' := M1) rfl trivial ?_
      exact Wp.ret rfl ⟨_, rfl, h⟩
    replace h := h.2
    replace h := h ⟨c_1, c_2, c_3, c_4⟩
    refine Wp.path (k := 1) [68] (C := [tswT 19 49 0 3 #[29, 34, 39, 44] x1 = 68]) (pc' := 68) (ls' := [some (.inr (.inr (10, 0))), some (.inl x1)]) (st' := []) (M' := M1) rfl ((tsw_d (by omega)).trans rfl) ?_
    refine Wp.path (k := 1) [] (C := []) (pc' := 69) (ls' := [some (.inr (.inr (10, 0))), some (.inl x1)]) (st' := [.inl 0]) (M' := M1) rfl trivial ?_
    exact Wp.ret rfl ⟨_, rfl, h⟩
  clear h
  rcases Decidable.em (inV x1 0 3 = 0) with c_6 | c_6
  · refine Wp.path (k := 1) [1] (C := [inV x1 0 3 = 0]) (pc' := 14) (ls' := [some (.inr (.inr (10, 0))), some (.inl x1)]) (st' := [.inr (.inr (10, 0))]) (M' := M) rfl c_6 ?_
    refine Wp.path (k := 1) [] (C := []) (pc' := 15) (ls' := [some (.inr (.inr (10, 0))), some (.inl x1)]) (st' := [.inl 1, .inr (.inr (10, 0))]) (M' := M) rfl trivial ?_
    exact k_5 _ (by rw [if_pos c_6])
  · refine Wp.path (k := 1) [0] (C := [inV x1 0 3 ≠ 0]) (pc' := 10) (ls' := [some (.inr (.inr (10, 0))), some (.inl x1)]) (st' := [.inr (.inr (10, 0))]) (M' := M) rfl c_6 ?_
    refine Wp.path (k := 2) [] (C := []) (pc' := 15) (ls' := [some (.inr (.inr (10, 0))), some (.inl x1)]) (st' := [.inl 0, .inr (.inr (10, 0))]) (M' := M) rfl trivial ?_
    exact k_5 _ (by rw [if_neg c_6])
